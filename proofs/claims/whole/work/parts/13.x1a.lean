theorem dX1_in_0 : decode cX1_in 0 = .ok (.iload_n 0, 1) := by decide +kernel
theorem dX1_in_1 : decode cX1_in 1 = .ok (.iload_n 1, 1) := by decide +kernel
theorem dX1_in_2 : decode cX1_in 2 = .ok (.if_icmp .lt 12, 3) := by decide +kernel
theorem dX1_in_5 : decode cX1_in 5 = .ok (.iload_n 0, 1) := by decide +kernel
theorem dX1_in_6 : decode cX1_in 6 = .ok (.iload_n 2, 1) := by decide +kernel
theorem dX1_in_7 : decode cX1_in 7 = .ok (.if_icmp .gt 7, 3) := by decide +kernel
theorem dX1_in_10 : decode cX1_in 10 = .ok (.iconst 1, 1) := by decide +kernel
theorem dX1_in_11 : decode cX1_in 11 = .ok (.goto 4, 3) := by decide +kernel
theorem dX1_in_14 : decode cX1_in 14 = .ok (.iconst 0, 1) := by decide +kernel
theorem dX1_in_15 : decode cX1_in 15 = .ok (.ireturn, 1) := by decide +kernel
abbrev rm_X1_in : Room := { frames := 0, cells := 0, slots := 0, locals := 0 }
set_option maxHeartbeats 4000000 in
set_option maxRecDepth 100000 in
theorem c_X1_in (N : Nat) (l : Launch) (dC : Nat → ClassId) (dI : Nat → Nat → Nat) (cy : ClassId) (sz : Nat) (a0 a1 a2 : Int32) (res : Int32) (hf : f_X1_in N a0 a1 a2 = some res) : Met l yX1_in wsX1_in rm_X1_in (va_Pc [.int a0, .int a1, .int a2] (fun U => U.heap.size = sz ∧ va_P (dC, dI) vwCl ([] : va_W) U.heap ∧ va_K (dC, dI) vwCl [(cy, .int)] U ∧ va_D (fun _ => True) ([] : va_W))) (z_qI dC dI cy res ([] : va_W) (va_A ([] : va_W) sz)) 0 0 (va_A ([] : va_W) sz) := by
  refine Met.ofW (cc := cX1_in) (maxL := 3) (ret := (some .boolean)) (by decide) rfl ?_
  intro p e s m args below meth c s₁ B hml hv
  obtain ⟨rfl, hsz, hP, hK, hD0⟩ := hv
  have hx := B.exec
  have hb := B.bytes
  have hr := B.returns
  have hts := atoms_spec (ws := wsX1_in) B.pre
  have hown : s.vm.findClass RX1 = some m.cls := findClass_of_methodNamed B.named
  have hlocks := B.notSynchronized
  subst hsz
  have hD := hD0.self (sz := s.heap.size)
  generalize hAe : va_A ([] : va_W) s.heap.size = A at hD ⊢
  have hA : ∀ q : Nat, s.heap.size ≤ q → A q := fun q h => by rw [← hAe]; exact Or.inr h
  have hS : va_S A s.heap s.heap [] := va_S.rf
  have hP : va_P (dC, dI) vwCl ([] : va_W) s.heap := hP
  have hl := lv_entry ([.int a0, .int a1, .int a2]) (n := 3) (Nat.le_of_ble_eq_true rfl)
  rw [lg_entry_eq]
  generalize (lg_sl ([.int a0, .int a1, .int a2]) ++ List.replicate (3 - (lg_sl ([.int a0, .int a1, .int a2])).length) Slot.unset).toArray = ls at hl ⊢
  have hl : lv_has ls 3 [(0, .int a0), (1, .int a1), (2, .int a2)] := hl
  unfold f_X1_in at hf
  refine lv_iload_n hx hb dX1_in_0 rfl (lv_at hl 0 rfl) ?_
  refine lv_iload_n hx hb dX1_in_1 rfl (lv_at hl 1 rfl) ?_
  refine lv_icmp_lt (tgt := 14) hx hb dX1_in_2 (by decide) (fun c_2 => ?_) (fun c_2 => ?_)
  · replace hf := (if_pos c_2).symm.trans hf
    refine lv_iconst (v := (0 : Int32)) hx hb dX1_in_14 (by decide) ?_
    have hres := Option.some.inj hf
    subst hres
    have hP9 := hP.sub (ws' := ([] : va_W)) [] rfl
    have hD9 := hD.sub (ws' := ([] : va_W)) [] (by decide) rfl
    have hK9 := hK.sub (tys' := [(cy, .int)]) [0] rfl
    exact W.zret (v := (0 : Int32)) hx hb hr rfl (fun t ht hW => ⟨⟨(0 : Int32), (), rfl, rfl, by rw [ht]; exact hP9, va_K.moved hW.alike hK9, hD9⟩, hS.F ht⟩) hS.2.2 dX1_in_15
  · replace hf := (if_neg c_2).symm.trans hf
    refine lv_iload_n hx hb dX1_in_5 rfl (lv_at hl 0 rfl) ?_
    refine lv_iload_n hx hb dX1_in_6 rfl (lv_at hl 2 rfl) ?_
    refine lv_icmp_gt (tgt := 14) hx hb dX1_in_7 (by decide) (fun c_7 => ?_) (fun c_7 => ?_)
    · replace hf := (if_pos c_7).symm.trans hf
      refine lv_iconst (v := (0 : Int32)) hx hb dX1_in_14 (by decide) ?_
      have hres := Option.some.inj hf
      subst hres
      have hP9 := hP.sub (ws' := ([] : va_W)) [] rfl
      have hD9 := hD.sub (ws' := ([] : va_W)) [] (by decide) rfl
      have hK9 := hK.sub (tys' := [(cy, .int)]) [0] rfl
      exact W.zret (v := (0 : Int32)) hx hb hr rfl (fun t ht hW => ⟨⟨(0 : Int32), (), rfl, rfl, by rw [ht]; exact hP9, va_K.moved hW.alike hK9, hD9⟩, hS.F ht⟩) hS.2.2 dX1_in_15
    · replace hf := (if_neg c_7).symm.trans hf
      refine lv_iconst (v := (1 : Int32)) hx hb dX1_in_10 (by decide) ?_
      refine lv_goto (tgt := 15) hx hb dX1_in_11 (by decide) ?_
      have hres := Option.some.inj hf
      subst hres
      have hP9 := hP.sub (ws' := ([] : va_W)) [] rfl
      have hD9 := hD.sub (ws' := ([] : va_W)) [] (by decide) rfl
      have hK9 := hK.sub (tys' := [(cy, .int)]) [0] rfl
      exact W.zret (v := (1 : Int32)) hx hb hr rfl (fun t ht hW => ⟨⟨(1 : Int32), (), rfl, rfl, by rw [ht]; exact hP9, va_K.moved hW.alike hK9, hD9⟩, hS.F ht⟩) hS.2.2 dX1_in_15

set_option maxRecDepth 20000 in
theorem ggX1_isOne_X1_in : GoodIn wsX1_isOne wsX1_in := goodIn_r _ [5] (by decide +kernel) (by decide +kernel)
set_option maxRecDepth 20000 in
theorem gX1_isOne_X1_in : GoodIn wsX1_isOne (va_wsS RX1 35 yX1_in wsX1_in) := goodIn_app (goodIn_of _ (by decide +kernel)) ggX1_isOne_X1_in
theorem dX1_isOne_0 : decode cX1_isOne 0 = .ok (.iload_n 1, 1) := by decide +kernel
theorem dX1_isOne_1 : decode cX1_isOne 1 = .ok (.iconst 0, 1) := by decide +kernel
theorem dX1_isOne_2 : decode cX1_isOne 2 = .ok (.aload_n 0, 1) := by decide +kernel
theorem dX1_isOne_3 : decode cX1_isOne 3 = .ok (.getfield 7, 3) := by decide +kernel
theorem dX1_isOne_6 : decode cX1_isOne 6 = .ok (.iconst 1, 1) := by decide +kernel
theorem dX1_isOne_7 : decode cX1_isOne 7 = .ok (.isub, 1) := by decide +kernel
theorem dX1_isOne_8 : decode cX1_isOne 8 = .ok (.invokestatic 35, 3) := by decide +kernel
theorem dX1_isOne_11 : decode cX1_isOne 11 = .ok (.ireturn, 1) := by decide +kernel
abbrev rm_X1_isOne : Room := { frames := 1, cells := 0, slots := 0, locals := 22 }
set_option maxHeartbeats 4000000 in
set_option maxRecDepth 100000 in
theorem c_X1_isOne (N : Nat) (l : Launch) (dC : Nat → ClassId) (dI : Nat → Nat → Nat) (cy : ClassId) (h q2 q3 q6 q7 q10 : Nat) (sz : Nat) (c0 : Int32) (c1 : Int32) (c2 : Nat → Int32) (c3 : Nat → Int32) (c4 : Int32) (c5 : Int32) (c6 : Nat → Int32) (c7 : Nat → Int32) (c8 : Int32) (c9 : Int32) (c10 : Nat → Int32) (a1 : Int32) (res : Int32) (hf : f_X1_isOne N a1 c0 = some res) : Met l yX1_isOne wsX1_isOne rm_X1_isOne (va_Pc [.ref h, .int a1] (fun U => U.heap.size = sz ∧ va_P (dC, dI) vwCl (wX1 cy h q2 q3 q6 q7 q10 c0 c1 c2 c3 c4 c5 c6 c7 c8 c9 c10) U.heap ∧ va_K (dC, dI) vwCl [(cy, .int)] U ∧ va_D (fun _ => True) (wX1 cy h q2 q3 q6 q7 q10 c0 c1 c2 c3 c4 c5 c6 c7 c8 c9 c10))) (z_qI dC dI cy res (wX1 cy h q2 q3 q6 q7 q10 c0 c1 c2 c3 c4 c5 c6 c7 c8 c9 c10) (va_A (wX1 cy h q2 q3 q6 q7 q10 c0 c1 c2 c3 c4 c5 c6 c7 c8 c9 c10) sz)) 0 0 (va_A (wX1 cy h q2 q3 q6 q7 q10 c0 c1 c2 c3 c4 c5 c6 c7 c8 c9 c10) sz) := by
  refine Met.ofW (cc := cX1_isOne) (maxL := 2) (ret := (some .boolean)) (by decide) rfl ?_
  intro p e s m args below meth c s₁ B hml hv
  obtain ⟨rfl, hsz, hP, hK, hD0⟩ := hv
  have hx := B.exec
  have hb := B.bytes
  have hr := B.returns
  have hts := atoms_spec (ws := wsX1_isOne) B.pre
  have hown : s.vm.findClass RX1 = some m.cls := findClass_of_methodNamed B.named
  have hlocks := B.notSynchronized
  subst hsz
  have hD := hD0.self (sz := s.heap.size)
  generalize hAe : va_A (wX1 cy h q2 q3 q6 q7 q10 c0 c1 c2 c3 c4 c5 c6 c7 c8 c9 c10) s.heap.size = A at hD ⊢
  have hA : ∀ q : Nat, s.heap.size ≤ q → A q := fun q h => by rw [← hAe]; exact Or.inr h
  have hS : va_S A s.heap s.heap [] := va_S.rf
  have hP : va_P (dC, dI) vwCl (wX1 cy h q2 q3 q6 q7 q10 c0 c1 c2 c3 c4 c5 c6 c7 c8 c9 c10) s.heap := hP
  have hl := lv_entry ([.ref h, .int a1]) (n := 2) (Nat.le_of_ble_eq_true rfl)
  rw [lg_entry_eq]
  generalize (lg_sl ([.ref h, .int a1]) ++ List.replicate (2 - (lg_sl ([.ref h, .int a1])).length) Slot.unset).toArray = ls at hl ⊢
  have hl : lv_has ls 2 [(0, .ref h), (1, .int a1)] := hl
  unfold f_X1_isOne at hf
  refine lv_iload_n hx hb dX1_isOne_0 rfl (lv_at hl 1 rfl) ?_
  refine lv_iconst (v := (0 : Int32)) hx hb dX1_isOne_1 (by decide) ?_
  refine lv_aload_n hx hb dX1_isOne_2 rfl (lv_at hl 0 rfl) ?_
  refine va_get (D := (dC, dI)) (ci := 1) (v := .int c0) (C := RX1) (T := TX1) (N := 11) hx hb hts (by decide +kernel) hown hK hP 0 rfl rfl 0 (by decide) (hts (.fieldLink RX1 7 "GiftLotsModel" "ones" "I") (by decide +kernel)) (fun _ h9 => h9) rfl dX1_isOne_3 ?_
  refine lv_iconst (v := (1 : Int32)) hx hb dX1_isOne_6 (by decide) ?_
  refine lv_isub hx hb dX1_isOne_7 ?_
  obtain ⟨u8, hu8, hf⟩ := z_ob_some hf
  have hPc := hP.sub (ws' := ([] : va_W)) [] rfl
  have hDc := hD.sub (ws' := ([] : va_W)) [] (by decide) rfl
  have hKc := hK.sub (tys' := [(cy, .int)]) [0] rfl
  have hFc := va_free (wc := ([] : va_W)) hD hS hA [] rfl
  refine va_calli (va_runS (As := [.int a1, .int (0 : Int32), .int (c0 - (1 : Int32))]) (rest := []) ⟨hx, hb, hml, hown, hts⟩ (c_X1_in N l dC dI cy s.heap.size a1 (0 : Int32) (c0 - (1 : Int32)) u8 hu8) (va_cwS 3 hts gX1_isOne_X1_in rfl rfl rfl (by decide +kernel) ⟨Nat.le_of_ble_eq_true rfl, Nat.le_of_ble_eq_true rfl⟩) ⟨fun a U g mk q => by obtain ⟨q0, q1, qP, qK, qD⟩ := q; exact ⟨q0, q1, qP, va_K.moved (u := U) (U := U.calling g mk a) (Vm.Alike.refl U.vm) qK, qD⟩, fun U hU hW => ⟨rfl, by rw [hU], by rw [hU]; exact hPc, va_K.moved hW.alike hKc, hDc.weaken (fun _ _ _ _ => trivial)⟩⟩ rfl rfl hl.1 rfl (lv_room (Nat.le_of_ble_eq_true rfl)) dX1_isOne_8 ⟨Nat.zero_le _, Nat.zero_le _⟩) hS (fun q _ h => hFc q h) hFc (fun r_8 uu_ t H1 locs ht hvm hw hB hz1 hk1 hS => ?_)
  replace hw := hw.symm
  subst hw
  obtain ⟨hP1, -, hD1⟩ := hB
  rw [ht] at hP1
  obtain ⟨hP, hD⟩ := va_join (wr := (wX1 cy h q2 q3 q6 q7 q10 c0 c1 c2 c3 c4 c5 c6 c7 c8 c9 c10)) (w1 := ([] : va_W)) hP hD [] [0, 1, 2, 3, 4, 5] rfl rfl (by decide) (by decide) hk1 hFc hP1 hD1
  clear hk1 hz1 hP1 hD1 ht hPc hDc hFc
  generalize H1 = H at hP hS ⊢
  have hP : va_P (dC, dI) vwCl (wX1 cy h q2 q3 q6 q7 q10 c0 c1 c2 c3 c4 c5 c6 c7 c8 c9 c10) H := hP
  have hD : va_D A (wX1 cy h q2 q3 q6 q7 q10 c0 c1 c2 c3 c4 c5 c6 c7 c8 c9 c10) := hD
  obtain ⟨hb11, hf⟩ := z_gb_some hf
  have hres := Option.some.inj hf
  subst hres
  have hP9 := hP.sub (ws' := (wX1 cy h q2 q3 q6 q7 q10 c0 c1 c2 c3 c4 c5 c6 c7 c8 c9 c10)) [0, 1, 2, 3, 4, 5] rfl
  have hD9 := hD.sub (ws' := (wX1 cy h q2 q3 q6 q7 q10 c0 c1 c2 c3 c4 c5 c6 c7 c8 c9 c10)) [0, 1, 2, 3, 4, 5] (by decide) rfl
  have hK9 := hK.sub (tys' := [(cy, .int)]) [0] rfl
  exact W.zret (v := u8) hx hb hr (z_gb_nar hb11) (fun t ht hW => ⟨⟨u8, (), rfl, rfl, by rw [ht]; exact hP9, va_K.moved hW.alike hK9, hD9⟩, hS.F ht⟩) hS.2.2 dX1_isOne_11

theorem dX1_begin_0 : decode cX1_begin 0 = .ok (.aload_n 0, 1) := by decide +kernel
theorem dX1_begin_1 : decode cX1_begin 1 = .ok (.iconst 2, 1) := by decide +kernel
theorem dX1_begin_2 : decode cX1_begin 2 = .ok (.putfield 13, 3) := by decide +kernel
theorem dX1_begin_5 : decode cX1_begin 5 = .ok (.iconst 0, 1) := by decide +kernel
theorem dX1_begin_6 : decode cX1_begin 6 = .ok (.istore_n 1, 1) := by decide +kernel
theorem dX1_begin_7 : decode cX1_begin 7 = .ok (.iload_n 1, 1) := by decide +kernel
theorem dX1_begin_8 : decode cX1_begin 8 = .ok (.bipush 8, 2) := by decide +kernel
theorem dX1_begin_10 : decode cX1_begin 10 = .ok (.if_icmp .ge 37, 3) := by decide +kernel
theorem dX1_begin_13 : decode cX1_begin 13 = .ok (.aload_n 0, 1) := by decide +kernel
theorem dX1_begin_14 : decode cX1_begin 14 = .ok (.getfield 16, 3) := by decide +kernel
theorem dX1_begin_17 : decode cX1_begin 17 = .ok (.iload_n 1, 1) := by decide +kernel
theorem dX1_begin_18 : decode cX1_begin 18 = .ok (.iconst 1, 1) := by decide +kernel
theorem dX1_begin_19 : decode cX1_begin 19 = .ok (.aload_n 0, 1) := by decide +kernel
theorem dX1_begin_20 : decode cX1_begin 20 = .ok (.getfield 7, 3) := by decide +kernel
theorem dX1_begin_23 : decode cX1_begin 23 = .ok (.ishl, 1) := by decide +kernel
theorem dX1_begin_24 : decode cX1_begin 24 = .ok (.iconst 1, 1) := by decide +kernel
theorem dX1_begin_25 : decode cX1_begin 25 = .ok (.isub, 1) := by decide +kernel
theorem dX1_begin_26 : decode cX1_begin 26 = .ok (.iconst 1, 1) := by decide +kernel
theorem dX1_begin_27 : decode cX1_begin 27 = .ok (.iload_n 1, 1) := by decide +kernel
theorem dX1_begin_28 : decode cX1_begin 28 = .ok (.ishl, 1) := by decide +kernel
theorem dX1_begin_29 : decode cX1_begin 29 = .ok (.iconst (-1), 1) := by decide +kernel
theorem dX1_begin_30 : decode cX1_begin 30 = .ok (.ixor, 1) := by decide +kernel
theorem dX1_begin_31 : decode cX1_begin 31 = .ok (.iand, 1) := by decide +kernel
theorem dX1_begin_32 : decode cX1_begin 32 = .ok (.iastore, 1) := by decide +kernel
theorem dX1_begin_33 : decode cX1_begin 33 = .ok (.aload_n 0, 1) := by decide +kernel
theorem dX1_begin_34 : decode cX1_begin 34 = .ok (.getfield 20, 3) := by decide +kernel
theorem dX1_begin_37 : decode cX1_begin 37 = .ok (.iload_n 1, 1) := by decide +kernel
theorem dX1_begin_38 : decode cX1_begin 38 = .ok (.bipush (-6), 2) := by decide +kernel
theorem dX1_begin_40 : decode cX1_begin 40 = .ok (.iastore, 1) := by decide +kernel
theorem dX1_begin_41 : decode cX1_begin 41 = .ok (.iinc 1 1, 3) := by decide +kernel
theorem dX1_begin_44 : decode cX1_begin 44 = .ok (.goto (-37), 3) := by decide +kernel
theorem dX1_begin_47 : decode cX1_begin 47 = .ok (.return_, 1) := by decide +kernel
abbrev rm_X1_begin : Room := { frames := 0, cells := 0, slots := 0, locals := 0 }
set_option maxHeartbeats 4000000 in
set_option maxRecDepth 100000 in
theorem c_X1_begin (N : Nat) (l : Launch) (dC : Nat → ClassId) (dI : Nat → Nat → Nat) (cy : ClassId) (h q2 q3 q6 q7 q10 : Nat) (sz : Nat) (c0 : Int32) (c1 : Int32) (c2 : Nat → Int32) (c3 : Nat → Int32) (c4 : Int32) (c5 : Int32) (c6 : Nat → Int32) (c7 : Nat → Int32) (c8 : Int32) (c9 : Int32) (c10 : Nat → Int32) (res : Int32 × (Nat → Int32) × (Nat → Int32)) (hf : f_X1_begin N c0 c1 c2 c3 = some res) : Met l yX1_begin wsX1_begin rm_X1_begin (va_Pc [.ref h] (fun U => U.heap.size = sz ∧ va_P (dC, dI) vwCl (wX1 cy h q2 q3 q6 q7 q10 c0 c1 c2 c3 c4 c5 c6 c7 c8 c9 c10) U.heap ∧ va_K (dC, dI) vwCl [(cy, .int)] U ∧ va_D (fun _ => True) (wX1 cy h q2 q3 q6 q7 q10 c0 c1 c2 c3 c4 c5 c6 c7 c8 c9 c10))) (z_qV dC dI cy (wX1 cy h q2 q3 q6 q7 q10 c0 res.1 res.2.1 res.2.2 c4 c5 c6 c7 c8 c9 c10) (va_A (wX1 cy h q2 q3 q6 q7 q10 c0 c1 c2 c3 c4 c5 c6 c7 c8 c9 c10) sz)) 0 0 (va_A (wX1 cy h q2 q3 q6 q7 q10 c0 c1 c2 c3 c4 c5 c6 c7 c8 c9 c10) sz) := by
  refine Met.ofW (cc := cX1_begin) (maxL := 2) (ret := none) (by decide) rfl ?_
  intro p e s m args below meth c s₁ B hml hv
  obtain ⟨rfl, hsz, hP, hK, hD0⟩ := hv
  have hx := B.exec
  have hb := B.bytes
  have hr := B.returns
  have hts := atoms_spec (ws := wsX1_begin) B.pre
  have hown : s.vm.findClass RX1 = some m.cls := findClass_of_methodNamed B.named
  have hlocks := B.notSynchronized
  subst hsz
  have hD := hD0.self (sz := s.heap.size)
  generalize hAe : va_A (wX1 cy h q2 q3 q6 q7 q10 c0 c1 c2 c3 c4 c5 c6 c7 c8 c9 c10) s.heap.size = A at hD ⊢
  have hA : ∀ q : Nat, s.heap.size ≤ q → A q := fun q h => by rw [← hAe]; exact Or.inr h
  have hS : va_S A s.heap s.heap [] := va_S.rf
  have hP : va_P (dC, dI) vwCl (wX1 cy h q2 q3 q6 q7 q10 c0 c1 c2 c3 c4 c5 c6 c7 c8 c9 c10) s.heap := hP
  have hl := lv_entry ([.ref h]) (n := 2) (Nat.le_of_ble_eq_true rfl)
  rw [lg_entry_eq]
  generalize (lg_sl ([.ref h]) ++ List.replicate (2 - (lg_sl ([.ref h])).length) Slot.unset).toArray = ls at hl ⊢
  have hl : lv_has ls 2 [(0, .ref h)] := hl
  have B7 : ∀ n : Nat, ∀ (x1 : Int32) (c1 : Int32) (c2 : Nat → Int32) (c3 : Nat → Int32) (H : Heap) (locs : List Loc) (ls : Array Slot), f_X1_begin_b7 N c0 n x1 c1 c2 c3 = some res → va_P (dC, dI) vwCl (wX1 cy h q2 q3 q6 q7 q10 c0 c1 c2 c3 c4 c5 c6 c7 c8 c9 c10) H → va_D A (wX1 cy h q2 q3 q6 q7 q10 c0 c1 c2 c3 c4 c5 c6 c7 c8 c9 c10) → va_S A s.heap H locs → lv_has ls 2 [(0, .ref h), (1, .int x1)] → W p l e rm_X1_begin s m ([.ref h] : List Value).toArray below meth c H locs 0 0 (MQ below (z_qV dC dI cy (wX1 cy h q2 q3 q6 q7 q10 c0 res.1 res.2.1 res.2.2 c4 c5 c6 c7 c8 c9 c10) A) ([.ref h] : List Value).toArray s 0 0 A) (F0 m 7 ls []) := by
    clear hf hl hP hD hS
    intro n
    induction n with
    | zero =>
      intro x1 c1 c2 c3 H locs ls hf hP hD hS hl
      rw [f_X1_begin_b7] at hf
      cases hf
    | succ n ih =>
      intro x1 c1 c2 c3 H locs ls hf hP hD hS hl
      rw [f_X1_begin_b7] at hf
      refine lv_iload_n hx hb dX1_begin_7 rfl (lv_at hl 1 rfl) ?_
      refine lv_bipush (v := (8 : Int32)) hx hb dX1_begin_8 (by decide) ?_
      refine lv_icmp_ge (tgt := 47) hx hb dX1_begin_10 (by decide) (fun c_10 => ?_) (fun c_10 => ?_)
      · replace hf := (if_pos c_10).symm.trans hf
        have hres := Option.some.inj hf
        subst hres
        have hP9 := hP.sub (ws' := (wX1 cy h q2 q3 q6 q7 q10 c0 c1 c2 c3 c4 c5 c6 c7 c8 c9 c10)) [0, 1, 2, 3, 4, 5] rfl
        have hD9 := hD.sub (ws' := (wX1 cy h q2 q3 q6 q7 q10 c0 c1 c2 c3 c4 c5 c6 c7 c8 c9 c10)) [0, 1, 2, 3, 4, 5] (by decide) rfl
        have hK9 := hK.sub (tys' := [(cy, .int)]) [0] rfl
        exact W.vret hx hb hr (fun t ht hW => ⟨⟨(), rfl, trivial, by rw [ht]; exact hP9, va_K.moved hW.alike hK9, hD9⟩, hS.F ht⟩) hS.2.2 dX1_begin_47
      · replace hf := (if_neg c_10).symm.trans hf
        refine lv_aload_n hx hb dX1_begin_13 rfl (lv_at hl 0 rfl) ?_
        refine va_get (D := (dC, dI)) (ci := 1) (v := .ref q2) (C := RX1) (T := TX1) (N := 11) hx hb hts (by decide +kernel) hown hK hP 0 rfl rfl 2 (by decide) (hts (.fieldLink RX1 16 "GiftLotsModel" "may" "[I") (by decide +kernel)) (fun _ h9 => h9) rfl dX1_begin_14 ?_
        refine lv_iload_n hx hb dX1_begin_17 rfl (lv_at hl 1 rfl) ?_
        refine lv_iconst (v := (1 : Int32)) hx hb dX1_begin_18 (by decide) ?_
        refine lv_aload_n hx hb dX1_begin_19 rfl (lv_at hl 0 rfl) ?_
        refine va_get (D := (dC, dI)) (ci := 1) (v := .int c0) (C := RX1) (T := TX1) (N := 11) hx hb hts (by decide +kernel) hown hK hP 0 rfl rfl 0 (by decide) (hts (.fieldLink RX1 7 "GiftLotsModel" "ones" "I") (by decide +kernel)) (fun _ h9 => h9) rfl dX1_begin_20 ?_
        refine lv_ishl hx hb dX1_begin_23 ?_
        refine lv_iconst (v := (1 : Int32)) hx hb dX1_begin_24 (by decide) ?_
        refine lv_isub hx hb dX1_begin_25 ?_
        refine lv_iconst (v := (1 : Int32)) hx hb dX1_begin_26 (by decide) ?_
        refine lv_iload_n hx hb dX1_begin_27 rfl (lv_at hl 1 rfl) ?_
        refine lv_ishl hx hb dX1_begin_28 ?_
        refine lv_iconst (v := (-1 : Int32)) hx hb dX1_begin_29 (by decide) ?_
        refine lv_ixor hx hb dX1_begin_30 ?_
        refine lv_iand hx hb dX1_begin_31 ?_
        obtain ⟨hi32, hf⟩ := z_gx_some hf
        refine va_iast hx hb hK hP hD hS 1 0 rfl rfl hi32 dX1_begin_32 (fun H locs hP hD hS => ?_)
        have hP : va_P (dC, dI) vwCl (wX1 cy h q2 q3 q6 q7 q10 c0 c1 (upd c2 (x1).toNatClampNeg ((((1 : Int32) <<< (c0 &&& 31)) - (1 : Int32)) &&& (((1 : Int32) <<< (x1 &&& 31)) ^^^ (-1 : Int32)))) c3 c4 c5 c6 c7 c8 c9 c10) H := hP
        have hD : va_D A (wX1 cy h q2 q3 q6 q7 q10 c0 c1 (upd c2 (x1).toNatClampNeg ((((1 : Int32) <<< (c0 &&& 31)) - (1 : Int32)) &&& (((1 : Int32) <<< (x1 &&& 31)) ^^^ (-1 : Int32)))) c3 c4 c5 c6 c7 c8 c9 c10) := hD
        refine lv_aload_n hx hb dX1_begin_33 rfl (lv_at hl 0 rfl) ?_
        refine va_get (D := (dC, dI)) (ci := 1) (v := .ref q3) (C := RX1) (T := TX1) (N := 11) hx hb hts (by decide +kernel) hown hK hP 0 rfl rfl 3 (by decide) (hts (.fieldLink RX1 20 "GiftLotsModel" "hand" "[I") (by decide +kernel)) (fun _ h9 => h9) rfl dX1_begin_34 ?_
        refine lv_iload_n hx hb dX1_begin_37 rfl (lv_at hl 1 rfl) ?_
        refine lv_bipush (v := (-6 : Int32)) hx hb dX1_begin_38 (by decide) ?_
        obtain ⟨hi40, hf⟩ := z_gx_some hf
        refine va_iast hx hb hK hP hD hS 2 0 rfl rfl hi40 dX1_begin_40 (fun H locs hP hD hS => ?_)
        have hP : va_P (dC, dI) vwCl (wX1 cy h q2 q3 q6 q7 q10 c0 c1 (upd c2 (x1).toNatClampNeg ((((1 : Int32) <<< (c0 &&& 31)) - (1 : Int32)) &&& (((1 : Int32) <<< (x1 &&& 31)) ^^^ (-1 : Int32)))) (upd c3 (x1).toNatClampNeg (-6 : Int32)) c4 c5 c6 c7 c8 c9 c10) H := hP
        have hD : va_D A (wX1 cy h q2 q3 q6 q7 q10 c0 c1 (upd c2 (x1).toNatClampNeg ((((1 : Int32) <<< (c0 &&& 31)) - (1 : Int32)) &&& (((1 : Int32) <<< (x1 &&& 31)) ^^^ (-1 : Int32)))) (upd c3 (x1).toNatClampNeg (-6 : Int32)) c4 c5 c6 c7 c8 c9 c10) := hD
        refine lv_iinc (v := x1 + (1 : Int32)) (lv' := [(1, .int (x1 + (1 : Int32))), (0, .ref h)]) hx hb dX1_begin_41 hl (k := 1) rfl rfl (by decide) rfl (fun ls hl => ?_)
        refine lv_goto (tgt := 7) hx hb dX1_begin_44 (by decide) ?_
        exact ih (x1 + (1 : Int32)) c1 (upd c2 (x1).toNatClampNeg ((((1 : Int32) <<< (c0 &&& 31)) - (1 : Int32)) &&& (((1 : Int32) <<< (x1 &&& 31)) ^^^ (-1 : Int32)))) (upd c3 (x1).toNatClampNeg (-6 : Int32)) _ _ _ hf hP hD hS (lv_sub hl [1, 0] rfl)
  unfold f_X1_begin at hf
  refine lv_aload_n hx hb dX1_begin_0 rfl (lv_at hl 0 rfl) ?_
  refine lv_iconst (v := (2 : Int32)) hx hb dX1_begin_1 (by decide) ?_
  refine va_put (D := (dC, dI)) (ci := 1) (v := .int (2 : Int32)) (ty := .int) (C := RX1) (T := TX1) (N := 11) hx hb hts (by decide +kernel) tyX1 tyX1_ok nmX1 hown hK hP hD hS 0 rfl rfl 1 (by decide) (hts (.fieldLink RX1 13 "GiftLotsModel" "least" "I") (by decide +kernel)) (fun _ h9 => h9) rfl (by decide +kernel) rfl rfl (Nat.le_of_ble_eq_true rfl) dX1_begin_2 (fun H locs hP hD hS => ?_)
  have hP : va_P (dC, dI) vwCl (wX1 cy h q2 q3 q6 q7 q10 c0 (2 : Int32) c2 c3 c4 c5 c6 c7 c8 c9 c10) H := hP
  have hD : va_D A (wX1 cy h q2 q3 q6 q7 q10 c0 (2 : Int32) c2 c3 c4 c5 c6 c7 c8 c9 c10) := hD
  refine lv_iconst (v := (0 : Int32)) hx hb dX1_begin_5 (by decide) ?_
  refine lv_istore_n (lv' := [(1, .int (0 : Int32)), (0, .ref h)]) hx hb dX1_begin_6 rfl hl (by decide) rfl (fun ls hl => ?_)
  exact B7 N (0 : Int32) (2 : Int32) c2 c3 _ _ _ hf hP hD hS (lv_sub hl [1, 0] rfl)

set_option maxRecDepth 20000 in
theorem ggX1_ones_X1_in : GoodIn wsX1_ones wsX1_in := goodIn_r _ [5] (by decide +kernel) (by decide +kernel)
set_option maxRecDepth 20000 in
theorem gX1_ones_X1_in : GoodIn wsX1_ones (va_wsS RX1 35 yX1_in wsX1_in) := goodIn_app (goodIn_of _ (by decide +kernel)) ggX1_ones_X1_in
set_option maxRecDepth 20000 in
theorem ggX1_ones_X1_begin : GoodIn wsX1_ones wsX1_begin := goodIn_r _ [9, 10, 11, 1, 12, 13, 14, 15, 16, 17, 18, 19, 20, 21, 22, 23] (by decide +kernel) (by decide +kernel)
set_option maxRecDepth 20000 in
theorem gX1_ones_X1_begin : GoodIn wsX1_ones (wsV RX1 32 RX1 yX1_begin wsX1_begin) := goodIn_app (goodIn_of _ (by decide +kernel)) ggX1_ones_X1_begin
theorem dX1_ones_0 : decode cX1_ones 0 = .ok (.iload_n 1, 1) := by decide +kernel
theorem dX1_ones_1 : decode cX1_ones 1 = .ok (.iconst 2, 1) := by decide +kernel
theorem dX1_ones_2 : decode cX1_ones 2 = .ok (.bipush 8, 2) := by decide +kernel
theorem dX1_ones_4 : decode cX1_ones 4 = .ok (.invokestatic 35, 3) := by decide +kernel
theorem dX1_ones_7 : decode cX1_ones 7 = .ok (.ifCond .ne 6, 3) := by decide +kernel
theorem dX1_ones_10 : decode cX1_ones 10 = .ok (.bipush (-2), 2) := by decide +kernel
theorem dX1_ones_12 : decode cX1_ones 12 = .ok (.ireturn, 1) := by decide +kernel
theorem dX1_ones_13 : decode cX1_ones 13 = .ok (.aload_n 0, 1) := by decide +kernel
theorem dX1_ones_14 : decode cX1_ones 14 = .ok (.getfield 7, 3) := by decide +kernel
theorem dX1_ones_17 : decode cX1_ones 17 = .ok (.istore_n 2, 1) := by decide +kernel
theorem dX1_ones_18 : decode cX1_ones 18 = .ok (.aload_n 0, 1) := by decide +kernel
theorem dX1_ones_19 : decode cX1_ones 19 = .ok (.iload_n 1, 1) := by decide +kernel
theorem dX1_ones_20 : decode cX1_ones 20 = .ok (.putfield 7, 3) := by decide +kernel
theorem dX1_ones_23 : decode cX1_ones 23 = .ok (.aload_n 0, 1) := by decide +kernel
theorem dX1_ones_24 : decode cX1_ones 24 = .ok (.invokevirtual 32, 3) := by decide +kernel
theorem dX1_ones_27 : decode cX1_ones 27 = .ok (.iload_n 2, 1) := by decide +kernel
theorem dX1_ones_28 : decode cX1_ones 28 = .ok (.ireturn, 1) := by decide +kernel
abbrev rm_X1_ones : Room := { frames := 1, cells := 0, slots := 0, locals := 22 }
set_option maxHeartbeats 4000000 in
set_option maxRecDepth 100000 in
theorem c_X1_ones (N : Nat) (l : Launch) (dC : Nat → ClassId) (dI : Nat → Nat → Nat) (cy : ClassId) (h q2 q3 q6 q7 q10 : Nat) (sz : Nat) (c0 : Int32) (c1 : Int32) (c2 : Nat → Int32) (c3 : Nat → Int32) (c4 : Int32) (c5 : Int32) (c6 : Nat → Int32) (c7 : Nat → Int32) (c8 : Int32) (c9 : Int32) (c10 : Nat → Int32) (a1 : Int32) (res : Int32 × Int32 × Int32 × (Nat → Int32) × (Nat → Int32)) (hf : f_X1_ones N a1 c0 c1 c2 c3 = some res) : Met l yX1_ones wsX1_ones rm_X1_ones (va_Pc [.ref h, .int a1] (fun U => U.heap.size = sz ∧ va_P (dC, dI) vwCl (wX1 cy h q2 q3 q6 q7 q10 c0 c1 c2 c3 c4 c5 c6 c7 c8 c9 c10) U.heap ∧ va_K (dC, dI) vwCl [(cy, .int)] U ∧ va_D (fun _ => True) (wX1 cy h q2 q3 q6 q7 q10 c0 c1 c2 c3 c4 c5 c6 c7 c8 c9 c10))) (z_qI dC dI cy res.1 (wX1 cy h q2 q3 q6 q7 q10 res.2.1 res.2.2.1 res.2.2.2.1 res.2.2.2.2 c4 c5 c6 c7 c8 c9 c10) (va_A (wX1 cy h q2 q3 q6 q7 q10 c0 c1 c2 c3 c4 c5 c6 c7 c8 c9 c10) sz)) 0 0 (va_A (wX1 cy h q2 q3 q6 q7 q10 c0 c1 c2 c3 c4 c5 c6 c7 c8 c9 c10) sz) := by
  refine Met.ofW (cc := cX1_ones) (maxL := 3) (ret := (some .int)) (by decide) rfl ?_
  intro p e s m args below meth c s₁ B hml hv
  obtain ⟨rfl, hsz, hP, hK, hD0⟩ := hv
  have hx := B.exec
  have hb := B.bytes
  have hr := B.returns
  have hts := atoms_spec (ws := wsX1_ones) B.pre
  have hown : s.vm.findClass RX1 = some m.cls := findClass_of_methodNamed B.named
  have hlocks := B.notSynchronized
  subst hsz
  have hD := hD0.self (sz := s.heap.size)
  generalize hAe : va_A (wX1 cy h q2 q3 q6 q7 q10 c0 c1 c2 c3 c4 c5 c6 c7 c8 c9 c10) s.heap.size = A at hD ⊢
  have hA : ∀ q : Nat, s.heap.size ≤ q → A q := fun q h => by rw [← hAe]; exact Or.inr h
  have hS : va_S A s.heap s.heap [] := va_S.rf
  have hP : va_P (dC, dI) vwCl (wX1 cy h q2 q3 q6 q7 q10 c0 c1 c2 c3 c4 c5 c6 c7 c8 c9 c10) s.heap := hP
  have hl := lv_entry ([.ref h, .int a1]) (n := 3) (Nat.le_of_ble_eq_true rfl)
  rw [lg_entry_eq]
  generalize (lg_sl ([.ref h, .int a1]) ++ List.replicate (3 - (lg_sl ([.ref h, .int a1])).length) Slot.unset).toArray = ls at hl ⊢
  have hl : lv_has ls 3 [(0, .ref h), (1, .int a1)] := hl
  unfold f_X1_ones at hf
  refine lv_iload_n hx hb dX1_ones_0 rfl (lv_at hl 1 rfl) ?_
  refine lv_iconst (v := (2 : Int32)) hx hb dX1_ones_1 (by decide) ?_
  refine lv_bipush (v := (8 : Int32)) hx hb dX1_ones_2 (by decide) ?_
  obtain ⟨u4, hu4, hf⟩ := z_ob_some hf
  have hPc := hP.sub (ws' := ([] : va_W)) [] rfl
  have hDc := hD.sub (ws' := ([] : va_W)) [] (by decide) rfl
  have hKc := hK.sub (tys' := [(cy, .int)]) [0] rfl
  have hFc := va_free (wc := ([] : va_W)) hD hS hA [] rfl
  refine va_calli (va_runS (As := [.int a1, .int (2 : Int32), .int (8 : Int32)]) (rest := []) ⟨hx, hb, hml, hown, hts⟩ (c_X1_in N l dC dI cy s.heap.size a1 (2 : Int32) (8 : Int32) u4 hu4) (va_cwS 3 hts gX1_ones_X1_in rfl rfl rfl (by decide +kernel) ⟨Nat.le_of_ble_eq_true rfl, Nat.le_of_ble_eq_true rfl⟩) ⟨fun a U g mk q => by obtain ⟨q0, q1, qP, qK, qD⟩ := q; exact ⟨q0, q1, qP, va_K.moved (u := U) (U := U.calling g mk a) (Vm.Alike.refl U.vm) qK, qD⟩, fun U hU hW => ⟨rfl, by rw [hU], by rw [hU]; exact hPc, va_K.moved hW.alike hKc, hDc.weaken (fun _ _ _ _ => trivial)⟩⟩ rfl rfl hl.1 rfl (lv_room (Nat.le_of_ble_eq_true rfl)) dX1_ones_4 ⟨Nat.zero_le _, Nat.zero_le _⟩) hS (fun q _ h => hFc q h) hFc (fun r_4 uu_ t H1 locs ht hvm hw hB hz1 hk1 hS => ?_)
  replace hw := hw.symm
  subst hw
  obtain ⟨hP1, -, hD1⟩ := hB
  rw [ht] at hP1
  obtain ⟨hP, hD⟩ := va_join (wr := (wX1 cy h q2 q3 q6 q7 q10 c0 c1 c2 c3 c4 c5 c6 c7 c8 c9 c10)) (w1 := ([] : va_W)) hP hD [] [0, 1, 2, 3, 4, 5] rfl rfl (by decide) (by decide) hk1 hFc hP1 hD1
  clear hk1 hz1 hP1 hD1 ht hPc hDc hFc
  generalize H1 = H at hP hS ⊢
  have hP : va_P (dC, dI) vwCl (wX1 cy h q2 q3 q6 q7 q10 c0 c1 c2 c3 c4 c5 c6 c7 c8 c9 c10) H := hP
  have hD : va_D A (wX1 cy h q2 q3 q6 q7 q10 c0 c1 c2 c3 c4 c5 c6 c7 c8 c9 c10) := hD
  refine lv_if_ne (tgt := 13) hx hb dX1_ones_7 (by decide) (fun c_7 => ?_) (fun c_7 => ?_)
  · replace hf := (if_neg c_7).symm.trans hf
    refine lv_aload_n hx hb dX1_ones_13 rfl (lv_at hl 0 rfl) ?_
    refine va_get (D := (dC, dI)) (ci := 1) (v := .int c0) (C := RX1) (T := TX1) (N := 11) hx hb hts (by decide +kernel) hown hK hP 0 rfl rfl 0 (by decide) (hts (.fieldLink RX1 7 "GiftLotsModel" "ones" "I") (by decide +kernel)) (fun _ h9 => h9) rfl dX1_ones_14 ?_
    refine lv_istore_n (lv' := [(2, .int c0), (0, .ref h), (1, .int a1)]) hx hb dX1_ones_17 rfl hl (by decide) rfl (fun ls hl => ?_)
    refine lv_aload_n hx hb dX1_ones_18 rfl (lv_at hl 1 rfl) ?_
    refine lv_iload_n hx hb dX1_ones_19 rfl (lv_at hl 2 rfl) ?_
    refine va_put (D := (dC, dI)) (ci := 1) (v := .int a1) (ty := .int) (C := RX1) (T := TX1) (N := 11) hx hb hts (by decide +kernel) tyX1 tyX1_ok nmX1 hown hK hP hD hS 0 rfl rfl 0 (by decide) (hts (.fieldLink RX1 7 "GiftLotsModel" "ones" "I") (by decide +kernel)) (fun _ h9 => h9) rfl (by decide +kernel) rfl rfl (Nat.le_of_ble_eq_true rfl) dX1_ones_20 (fun H locs hP hD hS => ?_)
    have hP : va_P (dC, dI) vwCl (wX1 cy h q2 q3 q6 q7 q10 a1 c1 c2 c3 c4 c5 c6 c7 c8 c9 c10) H := hP
    have hD : va_D A (wX1 cy h q2 q3 q6 q7 q10 a1 c1 c2 c3 c4 c5 c6 c7 c8 c9 c10) := hD
    refine lv_aload_n hx hb dX1_ones_23 rfl (lv_at hl 1 rfl) ?_
    obtain ⟨u24, hu24, hf⟩ := z_ob_some hf
    have hPc := hP.sub (ws' := (wX1 cy h q2 q3 q6 q7 q10 a1 c1 c2 c3 c4 c5 c6 c7 c8 c9 c10)) [0, 1, 2, 3, 4, 5] rfl
    have hDc := hD.sub (ws' := (wX1 cy h q2 q3 q6 q7 q10 a1 c1 c2 c3 c4 c5 c6 c7 c8 c9 c10)) [0, 1, 2, 3, 4, 5] (by decide) rfl
    have hKc := hK.sub (tys' := [(cy, .int)]) [0] rfl
    have hFc := va_free (wc := (wX1 cy h q2 q3 q6 q7 q10 a1 c1 c2 c3 c4 c5 c6 c7 c8 c9 c10)) hD hS hA [0, 1, 2, 3, 4, 5] rfl
    refine va_callv (va_runV (As := []) (rest := []) ⟨hx, hb, hml, hown, hts⟩ (c_X1_begin N l dC dI cy h q2 q3 q6 q7 q10 H.size a1 c1 c2 c3 c4 c5 c6 c7 c8 c9 c10 u24 hu24) (cwV 0 hts gX1_ones_X1_begin rfl rfl rfl (by decide +kernel) ⟨Nat.le_of_ble_eq_true rfl, Nat.le_of_ble_eq_true rfl⟩) ⟨fun a U g mk q => by obtain ⟨q0, q1, qP, qK, qD⟩ := q; exact ⟨q0, q1, qP, va_K.moved (u := U) (U := U.calling g mk a) (Vm.Alike.refl U.vm) qK, qD⟩, va_recv hKc hPc (ci := 1) (q0 := 0) rfl rfl, fun U hU hW => ⟨rfl, by rw [hU], by rw [hU]; exact hPc, va_K.moved hW.alike hKc, hDc.weaken (fun _ _ _ _ => trivial)⟩⟩ rfl rfl hl.1 rfl (lv_room (Nat.le_of_ble_eq_true rfl)) dX1_ones_24 ⟨Nat.zero_le _, Nat.zero_le _⟩) hS (fun q _ h => hFc q h) hFc (fun uu_ t H1 locs ht hvm hw hB hz1 hk1 hS => ?_)
    obtain ⟨hP1, -, hD1⟩ := hB
    rw [ht] at hP1
    obtain ⟨hP, hD⟩ := va_join (wr := []) (w1 := (wX1 cy h q2 q3 q6 q7 q10 a1 u24.1 u24.2.1 u24.2.2 c4 c5 c6 c7 c8 c9 c10)) hP hD [0, 1, 2, 3, 4, 5] [] rfl rfl (by decide) (by decide) hk1 hFc hP1 hD1
    clear hk1 hz1 hP1 hD1 ht hPc hDc hFc
    generalize H1 = H at hP hS ⊢
    have hP : va_P (dC, dI) vwCl (wX1 cy h q2 q3 q6 q7 q10 a1 u24.1 u24.2.1 u24.2.2 c4 c5 c6 c7 c8 c9 c10) H := hP
    have hD : va_D A (wX1 cy h q2 q3 q6 q7 q10 a1 u24.1 u24.2.1 u24.2.2 c4 c5 c6 c7 c8 c9 c10) := hD
    refine lv_iload_n hx hb dX1_ones_27 rfl (lv_at hl 0 rfl) ?_
    have hres := Option.some.inj hf
    subst hres
    have hP9 := hP.sub (ws' := (wX1 cy h q2 q3 q6 q7 q10 a1 u24.1 u24.2.1 u24.2.2 c4 c5 c6 c7 c8 c9 c10)) [0, 1, 2, 3, 4, 5] rfl
    have hD9 := hD.sub (ws' := (wX1 cy h q2 q3 q6 q7 q10 a1 u24.1 u24.2.1 u24.2.2 c4 c5 c6 c7 c8 c9 c10)) [0, 1, 2, 3, 4, 5] (by decide) rfl
    have hK9 := hK.sub (tys' := [(cy, .int)]) [0] rfl
    exact W.iret (v := c0) hx hb hr (fun t ht hW => ⟨⟨c0, (), rfl, rfl, by rw [ht]; exact hP9, va_K.moved hW.alike hK9, hD9⟩, hS.F ht⟩) hS.2.2 dX1_ones_28
  · replace hf := (if_pos c_7).symm.trans hf
    refine lv_bipush (v := (-2 : Int32)) hx hb dX1_ones_10 (by decide) ?_
    have hres := Option.some.inj hf
    subst hres
    have hP9 := hP.sub (ws' := (wX1 cy h q2 q3 q6 q7 q10 c0 c1 c2 c3 c4 c5 c6 c7 c8 c9 c10)) [0, 1, 2, 3, 4, 5] rfl
    have hD9 := hD.sub (ws' := (wX1 cy h q2 q3 q6 q7 q10 c0 c1 c2 c3 c4 c5 c6 c7 c8 c9 c10)) [0, 1, 2, 3, 4, 5] (by decide) rfl
    have hK9 := hK.sub (tys' := [(cy, .int)]) [0] rfl
    exact W.iret (v := (-2 : Int32)) hx hb hr (fun t ht hW => ⟨⟨(-2 : Int32), (), rfl, rfl, by rw [ht]; exact hP9, va_K.moved hW.alike hK9, hD9⟩, hS.F ht⟩) hS.2.2 dX1_ones_12

set_option maxRecDepth 20000 in
theorem ggX1_may_X1_isOne : GoodIn wsX1_may wsX1_isOne := goodIn_r _ [6, 7, 8, 9, 5, 10, 11, 12, 13, 14, 15, 16, 17, 18, 19, 20, 21] (by decide +kernel) (by decide +kernel)
set_option maxRecDepth 20000 in
theorem gX1_may_X1_isOne : GoodIn wsX1_may (wsV RX1 39 RX1 yX1_isOne wsX1_isOne) := goodIn_app (goodIn_of _ (by decide +kernel)) ggX1_may_X1_isOne
theorem dX1_may_0 : decode cX1_may 0 = .ok (.aload_n 0, 1) := by decide +kernel
theorem dX1_may_1 : decode cX1_may 1 = .ok (.iload_n 1, 1) := by decide +kernel
theorem dX1_may_2 : decode cX1_may 2 = .ok (.invokevirtual 39, 3) := by decide +kernel
theorem dX1_may_5 : decode cX1_may 5 = .ok (.ifCond .eq 11, 3) := by decide +kernel
theorem dX1_may_8 : decode cX1_may 8 = .ok (.aload_n 0, 1) := by decide +kernel
theorem dX1_may_9 : decode cX1_may 9 = .ok (.iload_n 2, 1) := by decide +kernel
theorem dX1_may_10 : decode cX1_may 10 = .ok (.invokevirtual 39, 3) := by decide +kernel
theorem dX1_may_13 : decode cX1_may 13 = .ok (.ifCond .ne 5, 3) := by decide +kernel
theorem dX1_may_16 : decode cX1_may 16 = .ok (.iconst (-1), 1) := by decide +kernel
theorem dX1_may_17 : decode cX1_may 17 = .ok (.ireturn, 1) := by decide +kernel
theorem dX1_may_18 : decode cX1_may 18 = .ok (.iload_n 1, 1) := by decide +kernel
theorem dX1_may_19 : decode cX1_may 19 = .ok (.iload_n 2, 1) := by decide +kernel
theorem dX1_may_20 : decode cX1_may 20 = .ok (.if_icmp .ne 6, 3) := by decide +kernel
theorem dX1_may_23 : decode cX1_may 23 = .ok (.bipush (-5), 2) := by decide +kernel
theorem dX1_may_25 : decode cX1_may 25 = .ok (.ireturn, 1) := by decide +kernel
theorem dX1_may_26 : decode cX1_may 26 = .ok (.aload_n 0, 1) := by decide +kernel
theorem dX1_may_27 : decode cX1_may 27 = .ok (.getfield 16, 3) := by decide +kernel
theorem dX1_may_30 : decode cX1_may 30 = .ok (.iload_n 1, 1) := by decide +kernel
theorem dX1_may_31 : decode cX1_may 31 = .ok (.iaload, 1) := by decide +kernel
theorem dX1_may_32 : decode cX1_may 32 = .ok (.iload_n 2, 1) := by decide +kernel
theorem dX1_may_33 : decode cX1_may 33 = .ok (.ishr, 1) := by decide +kernel
theorem dX1_may_34 : decode cX1_may 34 = .ok (.iconst 1, 1) := by decide +kernel
theorem dX1_may_35 : decode cX1_may 35 = .ok (.iand, 1) := by decide +kernel
theorem dX1_may_36 : decode cX1_may 36 = .ok (.istore 4, 2) := by decide +kernel
theorem dX1_may_38 : decode cX1_may 38 = .ok (.aload_n 0, 1) := by decide +kernel
theorem dX1_may_39 : decode cX1_may 39 = .ok (.getfield 16, 3) := by decide +kernel
theorem dX1_may_42 : decode cX1_may 42 = .ok (.iload_n 1, 1) := by decide +kernel
theorem dX1_may_43 : decode cX1_may 43 = .ok (.iload_n 3, 1) := by decide +kernel
theorem dX1_may_44 : decode cX1_may 44 = .ok (.ifCond .eq 16, 3) := by decide +kernel
theorem dX1_may_47 : decode cX1_may 47 = .ok (.aload_n 0, 1) := by decide +kernel
theorem dX1_may_48 : decode cX1_may 48 = .ok (.getfield 16, 3) := by decide +kernel
theorem dX1_may_51 : decode cX1_may 51 = .ok (.iload_n 1, 1) := by decide +kernel
theorem dX1_may_52 : decode cX1_may 52 = .ok (.iaload, 1) := by decide +kernel
theorem dX1_may_53 : decode cX1_may 53 = .ok (.iconst 1, 1) := by decide +kernel
theorem dX1_may_54 : decode cX1_may 54 = .ok (.iload_n 2, 1) := by decide +kernel
theorem dX1_may_55 : decode cX1_may 55 = .ok (.ishl, 1) := by decide +kernel
theorem dX1_may_56 : decode cX1_may 56 = .ok (.ior, 1) := by decide +kernel
theorem dX1_may_57 : decode cX1_may 57 = .ok (.goto 15, 3) := by decide +kernel
theorem dX1_may_60 : decode cX1_may 60 = .ok (.aload_n 0, 1) := by decide +kernel
theorem dX1_may_61 : decode cX1_may 61 = .ok (.getfield 16, 3) := by decide +kernel
theorem dX1_may_64 : decode cX1_may 64 = .ok (.iload_n 1, 1) := by decide +kernel
theorem dX1_may_65 : decode cX1_may 65 = .ok (.iaload, 1) := by decide +kernel
theorem dX1_may_66 : decode cX1_may 66 = .ok (.iconst 1, 1) := by decide +kernel
theorem dX1_may_67 : decode cX1_may 67 = .ok (.iload_n 2, 1) := by decide +kernel
theorem dX1_may_68 : decode cX1_may 68 = .ok (.ishl, 1) := by decide +kernel
theorem dX1_may_69 : decode cX1_may 69 = .ok (.iconst (-1), 1) := by decide +kernel
theorem dX1_may_70 : decode cX1_may 70 = .ok (.ixor, 1) := by decide +kernel
theorem dX1_may_71 : decode cX1_may 71 = .ok (.iand, 1) := by decide +kernel
theorem dX1_may_72 : decode cX1_may 72 = .ok (.iastore, 1) := by decide +kernel
theorem dX1_may_73 : decode cX1_may 73 = .ok (.iload 4, 2) := by decide +kernel
theorem dX1_may_75 : decode cX1_may 75 = .ok (.ireturn, 1) := by decide +kernel
abbrev rm_X1_may : Room := { frames := 2, cells := 0, slots := 0, locals := 43 }
set_option maxHeartbeats 4000000 in
set_option maxRecDepth 100000 in
theorem c_X1_may (N : Nat) (l : Launch) (dC : Nat → ClassId) (dI : Nat → Nat → Nat) (cy : ClassId) (h q2 q3 q6 q7 q10 : Nat) (sz : Nat) (c0 : Int32) (c1 : Int32) (c2 : Nat → Int32) (c3 : Nat → Int32) (c4 : Int32) (c5 : Int32) (c6 : Nat → Int32) (c7 : Nat → Int32) (c8 : Int32) (c9 : Int32) (c10 : Nat → Int32) (a1 a2 a3 : Int32) (res : Int32 × (Nat → Int32)) (hf : f_X1_may N a1 a2 a3 c0 c2 = some res) : Met l yX1_may wsX1_may rm_X1_may (va_Pc [.ref h, .int a1, .int a2, .int a3] (fun U => U.heap.size = sz ∧ va_P (dC, dI) vwCl (wX1 cy h q2 q3 q6 q7 q10 c0 c1 c2 c3 c4 c5 c6 c7 c8 c9 c10) U.heap ∧ va_K (dC, dI) vwCl [(cy, .int)] U ∧ va_D (fun _ => True) (wX1 cy h q2 q3 q6 q7 q10 c0 c1 c2 c3 c4 c5 c6 c7 c8 c9 c10))) (z_qI dC dI cy res.1 (wX1 cy h q2 q3 q6 q7 q10 c0 c1 res.2 c3 c4 c5 c6 c7 c8 c9 c10) (va_A (wX1 cy h q2 q3 q6 q7 q10 c0 c1 c2 c3 c4 c5 c6 c7 c8 c9 c10) sz)) 0 0 (va_A (wX1 cy h q2 q3 q6 q7 q10 c0 c1 c2 c3 c4 c5 c6 c7 c8 c9 c10) sz) := by
  refine Met.ofW (cc := cX1_may) (maxL := 5) (ret := (some .int)) (by decide) rfl ?_
  intro p e s m args below meth c s₁ B hml hv
  obtain ⟨rfl, hsz, hP, hK, hD0⟩ := hv
  have hx := B.exec
  have hb := B.bytes
  have hr := B.returns
  have hts := atoms_spec (ws := wsX1_may) B.pre
  have hown : s.vm.findClass RX1 = some m.cls := findClass_of_methodNamed B.named
  have hlocks := B.notSynchronized
  subst hsz
  have hD := hD0.self (sz := s.heap.size)
  generalize hAe : va_A (wX1 cy h q2 q3 q6 q7 q10 c0 c1 c2 c3 c4 c5 c6 c7 c8 c9 c10) s.heap.size = A at hD ⊢
  have hA : ∀ q : Nat, s.heap.size ≤ q → A q := fun q h => by rw [← hAe]; exact Or.inr h
  have hS : va_S A s.heap s.heap [] := va_S.rf
  have hP : va_P (dC, dI) vwCl (wX1 cy h q2 q3 q6 q7 q10 c0 c1 c2 c3 c4 c5 c6 c7 c8 c9 c10) s.heap := hP
  have hl := lv_entry ([.ref h, .int a1, .int a2, .int a3]) (n := 5) (Nat.le_of_ble_eq_true rfl)
  rw [lg_entry_eq]
  generalize (lg_sl ([.ref h, .int a1, .int a2, .int a3]) ++ List.replicate (5 - (lg_sl ([.ref h, .int a1, .int a2, .int a3])).length) Slot.unset).toArray = ls at hl ⊢
  have hl : lv_has ls 5 [(0, .ref h), (1, .int a1), (2, .int a2), (3, .int a3)] := hl
  have B72 : ∀ (x4 t1 t2 : Int32) (c2 : Nat → Int32) (H : Heap) (locs : List Loc) (ls : Array Slot), f_X1_may_b72 N c0 x4 t1 t2 c2 = some res → va_P (dC, dI) vwCl (wX1 cy h q2 q3 q6 q7 q10 c0 c1 c2 c3 c4 c5 c6 c7 c8 c9 c10) H → va_D A (wX1 cy h q2 q3 q6 q7 q10 c0 c1 c2 c3 c4 c5 c6 c7 c8 c9 c10) → va_S A s.heap H locs → lv_has ls 5 [(0, .ref h), (4, .int x4)] → W p l e rm_X1_may s m ([.ref h, .int a1, .int a2, .int a3] : List Value).toArray below meth c H locs 0 0 (MQ below (z_qI dC dI cy res.1 (wX1 cy h q2 q3 q6 q7 q10 c0 c1 res.2 c3 c4 c5 c6 c7 c8 c9 c10) A) ([.ref h, .int a1, .int a2, .int a3] : List Value).toArray s 0 0 A) (F0 m 72 ls [.int t2, .int t1, .ref q2]) := by
    clear hf hl hP hD hS
    intro x4 t1 t2 c2 H locs ls hf hP hD hS hl
    unfold f_X1_may_b72 at hf
    obtain ⟨hi72, hf⟩ := z_gx_some hf
    refine va_iast hx hb hK hP hD hS 1 0 rfl rfl hi72 dX1_may_72 (fun H locs hP hD hS => ?_)
    have hP : va_P (dC, dI) vwCl (wX1 cy h q2 q3 q6 q7 q10 c0 c1 (upd c2 (t1).toNatClampNeg t2) c3 c4 c5 c6 c7 c8 c9 c10) H := hP
    have hD : va_D A (wX1 cy h q2 q3 q6 q7 q10 c0 c1 (upd c2 (t1).toNatClampNeg t2) c3 c4 c5 c6 c7 c8 c9 c10) := hD
    refine lv_iload hx hb dX1_may_73 (lv_at hl 1 rfl) ?_
    have hres := Option.some.inj hf
    subst hres
    have hP9 := hP.sub (ws' := (wX1 cy h q2 q3 q6 q7 q10 c0 c1 (upd c2 (t1).toNatClampNeg t2) c3 c4 c5 c6 c7 c8 c9 c10)) [0, 1, 2, 3, 4, 5] rfl
    have hD9 := hD.sub (ws' := (wX1 cy h q2 q3 q6 q7 q10 c0 c1 (upd c2 (t1).toNatClampNeg t2) c3 c4 c5 c6 c7 c8 c9 c10)) [0, 1, 2, 3, 4, 5] (by decide) rfl
    have hK9 := hK.sub (tys' := [(cy, .int)]) [0] rfl
    exact W.iret (v := x4) hx hb hr (fun t ht hW => ⟨⟨x4, (), rfl, rfl, by rw [ht]; exact hP9, va_K.moved hW.alike hK9, hD9⟩, hS.F ht⟩) hS.2.2 dX1_may_75
  unfold f_X1_may at hf
  refine lv_aload_n hx hb dX1_may_0 rfl (lv_at hl 0 rfl) ?_
  refine lv_iload_n hx hb dX1_may_1 rfl (lv_at hl 1 rfl) ?_
  obtain ⟨u2, hu2, hf⟩ := z_ob_some hf
  have hPc := hP.sub (ws' := (wX1 cy h q2 q3 q6 q7 q10 c0 c1 c2 c3 c4 c5 c6 c7 c8 c9 c10)) [0, 1, 2, 3, 4, 5] rfl
  have hDc := hD.sub (ws' := (wX1 cy h q2 q3 q6 q7 q10 c0 c1 c2 c3 c4 c5 c6 c7 c8 c9 c10)) [0, 1, 2, 3, 4, 5] (by decide) rfl
  have hKc := hK.sub (tys' := [(cy, .int)]) [0] rfl
  have hFc := va_free (wc := (wX1 cy h q2 q3 q6 q7 q10 c0 c1 c2 c3 c4 c5 c6 c7 c8 c9 c10)) hD hS hA [0, 1, 2, 3, 4, 5] rfl
  refine va_calli (va_runV (As := [.int a1]) (rest := []) ⟨hx, hb, hml, hown, hts⟩ (c_X1_isOne N l dC dI cy h q2 q3 q6 q7 q10 s.heap.size c0 c1 c2 c3 c4 c5 c6 c7 c8 c9 c10 a1 u2 hu2) (cwV 1 hts gX1_may_X1_isOne rfl rfl rfl (by decide +kernel) ⟨Nat.le_of_ble_eq_true rfl, Nat.le_of_ble_eq_true rfl⟩) ⟨fun a U g mk q => by obtain ⟨q0, q1, qP, qK, qD⟩ := q; exact ⟨q0, q1, qP, va_K.moved (u := U) (U := U.calling g mk a) (Vm.Alike.refl U.vm) qK, qD⟩, va_recv hKc hPc (ci := 1) (q0 := 0) rfl rfl, fun U hU hW => ⟨rfl, by rw [hU], by rw [hU]; exact hPc, va_K.moved hW.alike hKc, hDc.weaken (fun _ _ _ _ => trivial)⟩⟩ rfl rfl hl.1 rfl (lv_room (Nat.le_of_ble_eq_true rfl)) dX1_may_2 ⟨Nat.zero_le _, Nat.zero_le _⟩) hS (fun q _ h => hFc q h) hFc (fun r_2 uu_ t H1 locs ht hvm hw hB hz1 hk1 hS => ?_)
  replace hw := hw.symm
  subst hw
  obtain ⟨hP1, -, hD1⟩ := hB
  rw [ht] at hP1
  obtain ⟨hP, hD⟩ := va_join (wr := []) (w1 := (wX1 cy h q2 q3 q6 q7 q10 c0 c1 c2 c3 c4 c5 c6 c7 c8 c9 c10)) hP hD [0, 1, 2, 3, 4, 5] [] rfl rfl (by decide) (by decide) hk1 hFc hP1 hD1
  clear hk1 hz1 hP1 hD1 ht hPc hDc hFc
  generalize H1 = H at hP hS ⊢
  have hP : va_P (dC, dI) vwCl (wX1 cy h q2 q3 q6 q7 q10 c0 c1 c2 c3 c4 c5 c6 c7 c8 c9 c10) H := hP
  have hD : va_D A (wX1 cy h q2 q3 q6 q7 q10 c0 c1 c2 c3 c4 c5 c6 c7 c8 c9 c10) := hD
  refine lv_if_eq (tgt := 16) hx hb dX1_may_5 (by decide) (fun c_5 => ?_) (fun c_5 => ?_)
  · replace hf := (if_pos c_5).symm.trans hf
    refine lv_iconst (v := (-1 : Int32)) hx hb dX1_may_16 (by decide) ?_
    have hres := Option.some.inj hf
    subst hres
    have hP9 := hP.sub (ws' := (wX1 cy h q2 q3 q6 q7 q10 c0 c1 c2 c3 c4 c5 c6 c7 c8 c9 c10)) [0, 1, 2, 3, 4, 5] rfl
    have hD9 := hD.sub (ws' := (wX1 cy h q2 q3 q6 q7 q10 c0 c1 c2 c3 c4 c5 c6 c7 c8 c9 c10)) [0, 1, 2, 3, 4, 5] (by decide) rfl
    have hK9 := hK.sub (tys' := [(cy, .int)]) [0] rfl
    exact W.iret (v := (-1 : Int32)) hx hb hr (fun t ht hW => ⟨⟨(-1 : Int32), (), rfl, rfl, by rw [ht]; exact hP9, va_K.moved hW.alike hK9, hD9⟩, hS.F ht⟩) hS.2.2 dX1_may_17
  · replace hf := (if_neg c_5).symm.trans hf
    refine lv_aload_n hx hb dX1_may_8 rfl (lv_at hl 0 rfl) ?_
    refine lv_iload_n hx hb dX1_may_9 rfl (lv_at hl 2 rfl) ?_
    obtain ⟨u10, hu10, hf⟩ := z_ob_some hf
    have hPc := hP.sub (ws' := (wX1 cy h q2 q3 q6 q7 q10 c0 c1 c2 c3 c4 c5 c6 c7 c8 c9 c10)) [0, 1, 2, 3, 4, 5] rfl
    have hDc := hD.sub (ws' := (wX1 cy h q2 q3 q6 q7 q10 c0 c1 c2 c3 c4 c5 c6 c7 c8 c9 c10)) [0, 1, 2, 3, 4, 5] (by decide) rfl
    have hKc := hK.sub (tys' := [(cy, .int)]) [0] rfl
    have hFc := va_free (wc := (wX1 cy h q2 q3 q6 q7 q10 c0 c1 c2 c3 c4 c5 c6 c7 c8 c9 c10)) hD hS hA [0, 1, 2, 3, 4, 5] rfl
    refine va_calli (va_runV (As := [.int a2]) (rest := []) ⟨hx, hb, hml, hown, hts⟩ (c_X1_isOne N l dC dI cy h q2 q3 q6 q7 q10 H.size c0 c1 c2 c3 c4 c5 c6 c7 c8 c9 c10 a2 u10 hu10) (cwV 1 hts gX1_may_X1_isOne rfl rfl rfl (by decide +kernel) ⟨Nat.le_of_ble_eq_true rfl, Nat.le_of_ble_eq_true rfl⟩) ⟨fun a U g mk q => by obtain ⟨q0, q1, qP, qK, qD⟩ := q; exact ⟨q0, q1, qP, va_K.moved (u := U) (U := U.calling g mk a) (Vm.Alike.refl U.vm) qK, qD⟩, va_recv hKc hPc (ci := 1) (q0 := 0) rfl rfl, fun U hU hW => ⟨rfl, by rw [hU], by rw [hU]; exact hPc, va_K.moved hW.alike hKc, hDc.weaken (fun _ _ _ _ => trivial)⟩⟩ rfl rfl hl.1 rfl (lv_room (Nat.le_of_ble_eq_true rfl)) dX1_may_10 ⟨Nat.zero_le _, Nat.zero_le _⟩) hS (fun q _ h => hFc q h) hFc (fun r_10 uu_ t H1 locs ht hvm hw hB hz1 hk1 hS => ?_)
    replace hw := hw.symm
    subst hw
    obtain ⟨hP1, -, hD1⟩ := hB
    rw [ht] at hP1
    obtain ⟨hP, hD⟩ := va_join (wr := []) (w1 := (wX1 cy h q2 q3 q6 q7 q10 c0 c1 c2 c3 c4 c5 c6 c7 c8 c9 c10)) hP hD [0, 1, 2, 3, 4, 5] [] rfl rfl (by decide) (by decide) hk1 hFc hP1 hD1
    clear hk1 hz1 hP1 hD1 ht hPc hDc hFc
    generalize H1 = H at hP hS ⊢
    have hP : va_P (dC, dI) vwCl (wX1 cy h q2 q3 q6 q7 q10 c0 c1 c2 c3 c4 c5 c6 c7 c8 c9 c10) H := hP
    have hD : va_D A (wX1 cy h q2 q3 q6 q7 q10 c0 c1 c2 c3 c4 c5 c6 c7 c8 c9 c10) := hD
    refine lv_if_ne (tgt := 18) hx hb dX1_may_13 (by decide) (fun c_13 => ?_) (fun c_13 => ?_)
    · replace hf := (if_neg c_13).symm.trans hf
      refine lv_iload_n hx hb dX1_may_18 rfl (lv_at hl 1 rfl) ?_
      refine lv_iload_n hx hb dX1_may_19 rfl (lv_at hl 2 rfl) ?_
      refine lv_icmp_ne (tgt := 26) hx hb dX1_may_20 (by decide) (fun c_20 => ?_) (fun c_20 => ?_)
      · replace hf := (if_neg c_20).symm.trans hf
        refine lv_aload_n hx hb dX1_may_26 rfl (lv_at hl 0 rfl) ?_
        refine va_get (D := (dC, dI)) (ci := 1) (v := .ref q2) (C := RX1) (T := TX1) (N := 11) hx hb hts (by decide +kernel) hown hK hP 0 rfl rfl 2 (by decide) (hts (.fieldLink RX1 16 "GiftLotsModel" "may" "[I") (by decide +kernel)) (fun _ h9 => h9) rfl dX1_may_27 ?_
        refine lv_iload_n hx hb dX1_may_30 rfl (lv_at hl 1 rfl) ?_
        obtain ⟨hi31, hf⟩ := z_gx_some hf
        refine va_iald hx hb hK hP 1 0 rfl rfl hi31 dX1_may_31 ?_
        refine lv_iload_n hx hb dX1_may_32 rfl (lv_at hl 2 rfl) ?_
        refine lv_ishr hx hb dX1_may_33 ?_
        refine lv_iconst (v := (1 : Int32)) hx hb dX1_may_34 (by decide) ?_
        refine lv_iand hx hb dX1_may_35 ?_
        refine lv_istore (lv' := [(4, .int (((c2 (a1).toNatClampNeg) >>> (a2 &&& 31)) &&& (1 : Int32))), (0, .ref h), (1, .int a1), (2, .int a2), (3, .int a3)]) hx hb dX1_may_36 hl (by decide) rfl (fun ls hl => ?_)
        refine lv_aload_n hx hb dX1_may_38 rfl (lv_at hl 1 rfl) ?_
        refine va_get (D := (dC, dI)) (ci := 1) (v := .ref q2) (C := RX1) (T := TX1) (N := 11) hx hb hts (by decide +kernel) hown hK hP 0 rfl rfl 2 (by decide) (hts (.fieldLink RX1 16 "GiftLotsModel" "may" "[I") (by decide +kernel)) (fun _ h9 => h9) rfl dX1_may_39 ?_
        refine lv_iload_n hx hb dX1_may_42 rfl (lv_at hl 2 rfl) ?_
        refine lv_iload_n hx hb dX1_may_43 rfl (lv_at hl 4 rfl) ?_
        refine lv_if_eq (tgt := 60) hx hb dX1_may_44 (by decide) (fun c_44 => ?_) (fun c_44 => ?_)
        · replace hf := (if_pos c_44).symm.trans hf
          refine lv_aload_n hx hb dX1_may_60 rfl (lv_at hl 1 rfl) ?_
          refine va_get (D := (dC, dI)) (ci := 1) (v := .ref q2) (C := RX1) (T := TX1) (N := 11) hx hb hts (by decide +kernel) hown hK hP 0 rfl rfl 2 (by decide) (hts (.fieldLink RX1 16 "GiftLotsModel" "may" "[I") (by decide +kernel)) (fun _ h9 => h9) rfl dX1_may_61 ?_
          refine lv_iload_n hx hb dX1_may_64 rfl (lv_at hl 2 rfl) ?_
          obtain ⟨hi65, hf⟩ := z_gx_some hf
          refine va_iald hx hb hK hP 1 0 rfl rfl hi65 dX1_may_65 ?_
          refine lv_iconst (v := (1 : Int32)) hx hb dX1_may_66 (by decide) ?_
          refine lv_iload_n hx hb dX1_may_67 rfl (lv_at hl 3 rfl) ?_
          refine lv_ishl hx hb dX1_may_68 ?_
          refine lv_iconst (v := (-1 : Int32)) hx hb dX1_may_69 (by decide) ?_
          refine lv_ixor hx hb dX1_may_70 ?_
          refine lv_iand hx hb dX1_may_71 ?_
          exact B72 (((c2 (a1).toNatClampNeg) >>> (a2 &&& 31)) &&& (1 : Int32)) a1 ((c2 (a1).toNatClampNeg) &&& (((1 : Int32) <<< (a2 &&& 31)) ^^^ (-1 : Int32))) c2 _ _ _ hf hP hD hS (lv_sub hl [1, 0] rfl)
        · replace hf := (if_neg c_44).symm.trans hf
          refine lv_aload_n hx hb dX1_may_47 rfl (lv_at hl 1 rfl) ?_
          refine va_get (D := (dC, dI)) (ci := 1) (v := .ref q2) (C := RX1) (T := TX1) (N := 11) hx hb hts (by decide +kernel) hown hK hP 0 rfl rfl 2 (by decide) (hts (.fieldLink RX1 16 "GiftLotsModel" "may" "[I") (by decide +kernel)) (fun _ h9 => h9) rfl dX1_may_48 ?_
          refine lv_iload_n hx hb dX1_may_51 rfl (lv_at hl 2 rfl) ?_
          obtain ⟨hi52, hf⟩ := z_gx_some hf
          refine va_iald hx hb hK hP 1 0 rfl rfl hi52 dX1_may_52 ?_
          refine lv_iconst (v := (1 : Int32)) hx hb dX1_may_53 (by decide) ?_
          refine lv_iload_n hx hb dX1_may_54 rfl (lv_at hl 3 rfl) ?_
          refine lv_ishl hx hb dX1_may_55 ?_
          refine lv_ior hx hb dX1_may_56 ?_
          refine lv_goto (tgt := 72) hx hb dX1_may_57 (by decide) ?_
          exact B72 (((c2 (a1).toNatClampNeg) >>> (a2 &&& 31)) &&& (1 : Int32)) a1 ((c2 (a1).toNatClampNeg) ||| ((1 : Int32) <<< (a2 &&& 31))) c2 _ _ _ hf hP hD hS (lv_sub hl [1, 0] rfl)
      · replace hf := (if_pos c_20).symm.trans hf
        refine lv_bipush (v := (-5 : Int32)) hx hb dX1_may_23 (by decide) ?_
        have hres := Option.some.inj hf
        subst hres
        have hP9 := hP.sub (ws' := (wX1 cy h q2 q3 q6 q7 q10 c0 c1 c2 c3 c4 c5 c6 c7 c8 c9 c10)) [0, 1, 2, 3, 4, 5] rfl
        have hD9 := hD.sub (ws' := (wX1 cy h q2 q3 q6 q7 q10 c0 c1 c2 c3 c4 c5 c6 c7 c8 c9 c10)) [0, 1, 2, 3, 4, 5] (by decide) rfl
        have hK9 := hK.sub (tys' := [(cy, .int)]) [0] rfl
        exact W.iret (v := (-5 : Int32)) hx hb hr (fun t ht hW => ⟨⟨(-5 : Int32), (), rfl, rfl, by rw [ht]; exact hP9, va_K.moved hW.alike hK9, hD9⟩, hS.F ht⟩) hS.2.2 dX1_may_25
    · replace hf := (if_pos c_13).symm.trans hf
      refine lv_iconst (v := (-1 : Int32)) hx hb dX1_may_16 (by decide) ?_
      have hres := Option.some.inj hf
      subst hres
      have hP9 := hP.sub (ws' := (wX1 cy h q2 q3 q6 q7 q10 c0 c1 c2 c3 c4 c5 c6 c7 c8 c9 c10)) [0, 1, 2, 3, 4, 5] rfl
      have hD9 := hD.sub (ws' := (wX1 cy h q2 q3 q6 q7 q10 c0 c1 c2 c3 c4 c5 c6 c7 c8 c9 c10)) [0, 1, 2, 3, 4, 5] (by decide) rfl
      have hK9 := hK.sub (tys' := [(cy, .int)]) [0] rfl
      exact W.iret (v := (-1 : Int32)) hx hb hr (fun t ht hW => ⟨⟨(-1 : Int32), (), rfl, rfl, by rw [ht]; exact hP9, va_K.moved hW.alike hK9, hD9⟩, hS.F ht⟩) hS.2.2 dX1_may_17

set_option maxRecDepth 20000 in
theorem ggX1_couple_X1_isOne : GoodIn wsX1_couple wsX1_isOne := goodIn_r _ [5, 6, 7, 8, 4, 9, 15, 16, 17, 18, 19, 20, 21, 22, 23, 24, 25] (by decide +kernel) (by decide +kernel)
set_option maxRecDepth 20000 in
theorem gX1_couple_X1_isOne : GoodIn wsX1_couple (wsV RX1 39 RX1 yX1_isOne wsX1_isOne) := goodIn_app (goodIn_of _ (by decide +kernel)) ggX1_couple_X1_isOne
set_option maxRecDepth 20000 in
theorem ggX1_couple_X1_may : GoodIn wsX1_couple wsX1_may := goodIn_r _ [13, 14, 1, 2, 3, 4, 5, 6, 7, 8, 9, 15, 16, 17, 18, 19, 20, 21, 22, 23, 24, 25] (by decide +kernel) (by decide +kernel)
set_option maxRecDepth 20000 in
theorem gX1_couple_X1_may : GoodIn wsX1_couple (wsV RX1 43 RX1 yX1_may wsX1_may) := goodIn_app (goodIn_of _ (by decide +kernel)) ggX1_couple_X1_may
theorem dX1_couple_0 : decode cX1_couple 0 = .ok (.aload_n 0, 1) := by decide +kernel
theorem dX1_couple_1 : decode cX1_couple 1 = .ok (.iload_n 1, 1) := by decide +kernel
theorem dX1_couple_2 : decode cX1_couple 2 = .ok (.invokevirtual 39, 3) := by decide +kernel
theorem dX1_couple_5 : decode cX1_couple 5 = .ok (.ifCond .eq 11, 3) := by decide +kernel
theorem dX1_couple_8 : decode cX1_couple 8 = .ok (.aload_n 0, 1) := by decide +kernel
theorem dX1_couple_9 : decode cX1_couple 9 = .ok (.iload_n 2, 1) := by decide +kernel
theorem dX1_couple_10 : decode cX1_couple 10 = .ok (.invokevirtual 39, 3) := by decide +kernel
theorem dX1_couple_13 : decode cX1_couple 13 = .ok (.ifCond .ne 5, 3) := by decide +kernel
theorem dX1_couple_16 : decode cX1_couple 16 = .ok (.iconst (-1), 1) := by decide +kernel
theorem dX1_couple_17 : decode cX1_couple 17 = .ok (.ireturn, 1) := by decide +kernel
theorem dX1_couple_18 : decode cX1_couple 18 = .ok (.iload_n 1, 1) := by decide +kernel
theorem dX1_couple_19 : decode cX1_couple 19 = .ok (.iload_n 2, 1) := by decide +kernel
theorem dX1_couple_20 : decode cX1_couple 20 = .ok (.if_icmp .ne 6, 3) := by decide +kernel
theorem dX1_couple_23 : decode cX1_couple 23 = .ok (.bipush (-5), 2) := by decide +kernel
theorem dX1_couple_25 : decode cX1_couple 25 = .ok (.ireturn, 1) := by decide +kernel
theorem dX1_couple_26 : decode cX1_couple 26 = .ok (.aload_n 0, 1) := by decide +kernel
theorem dX1_couple_27 : decode cX1_couple 27 = .ok (.iload_n 1, 1) := by decide +kernel
theorem dX1_couple_28 : decode cX1_couple 28 = .ok (.iload_n 2, 1) := by decide +kernel
theorem dX1_couple_29 : decode cX1_couple 29 = .ok (.iconst 0, 1) := by decide +kernel
theorem dX1_couple_30 : decode cX1_couple 30 = .ok (.invokevirtual 43, 3) := by decide +kernel
theorem dX1_couple_33 : decode cX1_couple 33 = .ok (.aload_n 0, 1) := by decide +kernel
theorem dX1_couple_34 : decode cX1_couple 34 = .ok (.iload_n 2, 1) := by decide +kernel
theorem dX1_couple_35 : decode cX1_couple 35 = .ok (.iload_n 1, 1) := by decide +kernel
theorem dX1_couple_36 : decode cX1_couple 36 = .ok (.iconst 0, 1) := by decide +kernel
theorem dX1_couple_37 : decode cX1_couple 37 = .ok (.invokevirtual 43, 3) := by decide +kernel
theorem dX1_couple_40 : decode cX1_couple 40 = .ok (.iadd, 1) := by decide +kernel
theorem dX1_couple_41 : decode cX1_couple 41 = .ok (.ireturn, 1) := by decide +kernel
abbrev rm_X1_couple : Room := { frames := 3, cells := 0, slots := 0, locals := 67 }
set_option maxHeartbeats 4000000 in
set_option maxRecDepth 100000 in
theorem c_X1_couple (N : Nat) (l : Launch) (dC : Nat → ClassId) (dI : Nat → Nat → Nat) (cy : ClassId) (h q2 q3 q6 q7 q10 : Nat) (sz : Nat) (c0 : Int32) (c1 : Int32) (c2 : Nat → Int32) (c3 : Nat → Int32) (c4 : Int32) (c5 : Int32) (c6 : Nat → Int32) (c7 : Nat → Int32) (c8 : Int32) (c9 : Int32) (c10 : Nat → Int32) (a1 a2 : Int32) (res : Int32 × (Nat → Int32)) (hf : f_X1_couple N a1 a2 c0 c2 = some res) : Met l yX1_couple wsX1_couple rm_X1_couple (va_Pc [.ref h, .int a1, .int a2] (fun U => U.heap.size = sz ∧ va_P (dC, dI) vwCl (wX1 cy h q2 q3 q6 q7 q10 c0 c1 c2 c3 c4 c5 c6 c7 c8 c9 c10) U.heap ∧ va_K (dC, dI) vwCl [(cy, .int)] U ∧ va_D (fun _ => True) (wX1 cy h q2 q3 q6 q7 q10 c0 c1 c2 c3 c4 c5 c6 c7 c8 c9 c10))) (z_qI dC dI cy res.1 (wX1 cy h q2 q3 q6 q7 q10 c0 c1 res.2 c3 c4 c5 c6 c7 c8 c9 c10) (va_A (wX1 cy h q2 q3 q6 q7 q10 c0 c1 c2 c3 c4 c5 c6 c7 c8 c9 c10) sz)) 0 0 (va_A (wX1 cy h q2 q3 q6 q7 q10 c0 c1 c2 c3 c4 c5 c6 c7 c8 c9 c10) sz) := by
  refine Met.ofW (cc := cX1_couple) (maxL := 3) (ret := (some .int)) (by decide) rfl ?_
  intro p e s m args below meth c s₁ B hml hv
  obtain ⟨rfl, hsz, hP, hK, hD0⟩ := hv
  have hx := B.exec
  have hb := B.bytes
  have hr := B.returns
  have hts := atoms_spec (ws := wsX1_couple) B.pre
  have hown : s.vm.findClass RX1 = some m.cls := findClass_of_methodNamed B.named
  have hlocks := B.notSynchronized
  subst hsz
  have hD := hD0.self (sz := s.heap.size)
  generalize hAe : va_A (wX1 cy h q2 q3 q6 q7 q10 c0 c1 c2 c3 c4 c5 c6 c7 c8 c9 c10) s.heap.size = A at hD ⊢
  have hA : ∀ q : Nat, s.heap.size ≤ q → A q := fun q h => by rw [← hAe]; exact Or.inr h
  have hS : va_S A s.heap s.heap [] := va_S.rf
  have hP : va_P (dC, dI) vwCl (wX1 cy h q2 q3 q6 q7 q10 c0 c1 c2 c3 c4 c5 c6 c7 c8 c9 c10) s.heap := hP
  have hl := lv_entry ([.ref h, .int a1, .int a2]) (n := 3) (Nat.le_of_ble_eq_true rfl)
  rw [lg_entry_eq]
  generalize (lg_sl ([.ref h, .int a1, .int a2]) ++ List.replicate (3 - (lg_sl ([.ref h, .int a1, .int a2])).length) Slot.unset).toArray = ls at hl ⊢
  have hl : lv_has ls 3 [(0, .ref h), (1, .int a1), (2, .int a2)] := hl
  unfold f_X1_couple at hf
  refine lv_aload_n hx hb dX1_couple_0 rfl (lv_at hl 0 rfl) ?_
  refine lv_iload_n hx hb dX1_couple_1 rfl (lv_at hl 1 rfl) ?_
  obtain ⟨u2, hu2, hf⟩ := z_ob_some hf
  have hPc := hP.sub (ws' := (wX1 cy h q2 q3 q6 q7 q10 c0 c1 c2 c3 c4 c5 c6 c7 c8 c9 c10)) [0, 1, 2, 3, 4, 5] rfl
  have hDc := hD.sub (ws' := (wX1 cy h q2 q3 q6 q7 q10 c0 c1 c2 c3 c4 c5 c6 c7 c8 c9 c10)) [0, 1, 2, 3, 4, 5] (by decide) rfl
  have hKc := hK.sub (tys' := [(cy, .int)]) [0] rfl
  have hFc := va_free (wc := (wX1 cy h q2 q3 q6 q7 q10 c0 c1 c2 c3 c4 c5 c6 c7 c8 c9 c10)) hD hS hA [0, 1, 2, 3, 4, 5] rfl
  refine va_calli (va_runV (As := [.int a1]) (rest := []) ⟨hx, hb, hml, hown, hts⟩ (c_X1_isOne N l dC dI cy h q2 q3 q6 q7 q10 s.heap.size c0 c1 c2 c3 c4 c5 c6 c7 c8 c9 c10 a1 u2 hu2) (cwV 1 hts gX1_couple_X1_isOne rfl rfl rfl (by decide +kernel) ⟨Nat.le_of_ble_eq_true rfl, Nat.le_of_ble_eq_true rfl⟩) ⟨fun a U g mk q => by obtain ⟨q0, q1, qP, qK, qD⟩ := q; exact ⟨q0, q1, qP, va_K.moved (u := U) (U := U.calling g mk a) (Vm.Alike.refl U.vm) qK, qD⟩, va_recv hKc hPc (ci := 1) (q0 := 0) rfl rfl, fun U hU hW => ⟨rfl, by rw [hU], by rw [hU]; exact hPc, va_K.moved hW.alike hKc, hDc.weaken (fun _ _ _ _ => trivial)⟩⟩ rfl rfl hl.1 rfl (lv_room (Nat.le_of_ble_eq_true rfl)) dX1_couple_2 ⟨Nat.zero_le _, Nat.zero_le _⟩) hS (fun q _ h => hFc q h) hFc (fun r_2 uu_ t H1 locs ht hvm hw hB hz1 hk1 hS => ?_)
  replace hw := hw.symm
  subst hw
  obtain ⟨hP1, -, hD1⟩ := hB
  rw [ht] at hP1
  obtain ⟨hP, hD⟩ := va_join (wr := []) (w1 := (wX1 cy h q2 q3 q6 q7 q10 c0 c1 c2 c3 c4 c5 c6 c7 c8 c9 c10)) hP hD [0, 1, 2, 3, 4, 5] [] rfl rfl (by decide) (by decide) hk1 hFc hP1 hD1
  clear hk1 hz1 hP1 hD1 ht hPc hDc hFc
  generalize H1 = H at hP hS ⊢
  have hP : va_P (dC, dI) vwCl (wX1 cy h q2 q3 q6 q7 q10 c0 c1 c2 c3 c4 c5 c6 c7 c8 c9 c10) H := hP
  have hD : va_D A (wX1 cy h q2 q3 q6 q7 q10 c0 c1 c2 c3 c4 c5 c6 c7 c8 c9 c10) := hD
  refine lv_if_eq (tgt := 16) hx hb dX1_couple_5 (by decide) (fun c_5 => ?_) (fun c_5 => ?_)
  · replace hf := (if_pos c_5).symm.trans hf
    refine lv_iconst (v := (-1 : Int32)) hx hb dX1_couple_16 (by decide) ?_
    have hres := Option.some.inj hf
    subst hres
    have hP9 := hP.sub (ws' := (wX1 cy h q2 q3 q6 q7 q10 c0 c1 c2 c3 c4 c5 c6 c7 c8 c9 c10)) [0, 1, 2, 3, 4, 5] rfl
    have hD9 := hD.sub (ws' := (wX1 cy h q2 q3 q6 q7 q10 c0 c1 c2 c3 c4 c5 c6 c7 c8 c9 c10)) [0, 1, 2, 3, 4, 5] (by decide) rfl
    have hK9 := hK.sub (tys' := [(cy, .int)]) [0] rfl
    exact W.iret (v := (-1 : Int32)) hx hb hr (fun t ht hW => ⟨⟨(-1 : Int32), (), rfl, rfl, by rw [ht]; exact hP9, va_K.moved hW.alike hK9, hD9⟩, hS.F ht⟩) hS.2.2 dX1_couple_17
  · replace hf := (if_neg c_5).symm.trans hf
    refine lv_aload_n hx hb dX1_couple_8 rfl (lv_at hl 0 rfl) ?_
    refine lv_iload_n hx hb dX1_couple_9 rfl (lv_at hl 2 rfl) ?_
    obtain ⟨u10, hu10, hf⟩ := z_ob_some hf
    have hPc := hP.sub (ws' := (wX1 cy h q2 q3 q6 q7 q10 c0 c1 c2 c3 c4 c5 c6 c7 c8 c9 c10)) [0, 1, 2, 3, 4, 5] rfl
    have hDc := hD.sub (ws' := (wX1 cy h q2 q3 q6 q7 q10 c0 c1 c2 c3 c4 c5 c6 c7 c8 c9 c10)) [0, 1, 2, 3, 4, 5] (by decide) rfl
    have hKc := hK.sub (tys' := [(cy, .int)]) [0] rfl
    have hFc := va_free (wc := (wX1 cy h q2 q3 q6 q7 q10 c0 c1 c2 c3 c4 c5 c6 c7 c8 c9 c10)) hD hS hA [0, 1, 2, 3, 4, 5] rfl
    refine va_calli (va_runV (As := [.int a2]) (rest := []) ⟨hx, hb, hml, hown, hts⟩ (c_X1_isOne N l dC dI cy h q2 q3 q6 q7 q10 H.size c0 c1 c2 c3 c4 c5 c6 c7 c8 c9 c10 a2 u10 hu10) (cwV 1 hts gX1_couple_X1_isOne rfl rfl rfl (by decide +kernel) ⟨Nat.le_of_ble_eq_true rfl, Nat.le_of_ble_eq_true rfl⟩) ⟨fun a U g mk q => by obtain ⟨q0, q1, qP, qK, qD⟩ := q; exact ⟨q0, q1, qP, va_K.moved (u := U) (U := U.calling g mk a) (Vm.Alike.refl U.vm) qK, qD⟩, va_recv hKc hPc (ci := 1) (q0 := 0) rfl rfl, fun U hU hW => ⟨rfl, by rw [hU], by rw [hU]; exact hPc, va_K.moved hW.alike hKc, hDc.weaken (fun _ _ _ _ => trivial)⟩⟩ rfl rfl hl.1 rfl (lv_room (Nat.le_of_ble_eq_true rfl)) dX1_couple_10 ⟨Nat.zero_le _, Nat.zero_le _⟩) hS (fun q _ h => hFc q h) hFc (fun r_10 uu_ t H1 locs ht hvm hw hB hz1 hk1 hS => ?_)
    replace hw := hw.symm
    subst hw
    obtain ⟨hP1, -, hD1⟩ := hB
    rw [ht] at hP1
    obtain ⟨hP, hD⟩ := va_join (wr := []) (w1 := (wX1 cy h q2 q3 q6 q7 q10 c0 c1 c2 c3 c4 c5 c6 c7 c8 c9 c10)) hP hD [0, 1, 2, 3, 4, 5] [] rfl rfl (by decide) (by decide) hk1 hFc hP1 hD1
    clear hk1 hz1 hP1 hD1 ht hPc hDc hFc
    generalize H1 = H at hP hS ⊢
    have hP : va_P (dC, dI) vwCl (wX1 cy h q2 q3 q6 q7 q10 c0 c1 c2 c3 c4 c5 c6 c7 c8 c9 c10) H := hP
    have hD : va_D A (wX1 cy h q2 q3 q6 q7 q10 c0 c1 c2 c3 c4 c5 c6 c7 c8 c9 c10) := hD
    refine lv_if_ne (tgt := 18) hx hb dX1_couple_13 (by decide) (fun c_13 => ?_) (fun c_13 => ?_)
    · replace hf := (if_neg c_13).symm.trans hf
      refine lv_iload_n hx hb dX1_couple_18 rfl (lv_at hl 1 rfl) ?_
      refine lv_iload_n hx hb dX1_couple_19 rfl (lv_at hl 2 rfl) ?_
      refine lv_icmp_ne (tgt := 26) hx hb dX1_couple_20 (by decide) (fun c_20 => ?_) (fun c_20 => ?_)
      · replace hf := (if_neg c_20).symm.trans hf
        refine lv_aload_n hx hb dX1_couple_26 rfl (lv_at hl 0 rfl) ?_
        refine lv_iload_n hx hb dX1_couple_27 rfl (lv_at hl 1 rfl) ?_
        refine lv_iload_n hx hb dX1_couple_28 rfl (lv_at hl 2 rfl) ?_
        refine lv_iconst (v := (0 : Int32)) hx hb dX1_couple_29 (by decide) ?_
        obtain ⟨u30, hu30, hf⟩ := z_ob_some hf
        have hPc := hP.sub (ws' := (wX1 cy h q2 q3 q6 q7 q10 c0 c1 c2 c3 c4 c5 c6 c7 c8 c9 c10)) [0, 1, 2, 3, 4, 5] rfl
        have hDc := hD.sub (ws' := (wX1 cy h q2 q3 q6 q7 q10 c0 c1 c2 c3 c4 c5 c6 c7 c8 c9 c10)) [0, 1, 2, 3, 4, 5] (by decide) rfl
        have hKc := hK.sub (tys' := [(cy, .int)]) [0] rfl
        have hFc := va_free (wc := (wX1 cy h q2 q3 q6 q7 q10 c0 c1 c2 c3 c4 c5 c6 c7 c8 c9 c10)) hD hS hA [0, 1, 2, 3, 4, 5] rfl
        refine va_calli (va_runV (As := [.int a1, .int a2, .int (0 : Int32)]) (rest := []) ⟨hx, hb, hml, hown, hts⟩ (c_X1_may N l dC dI cy h q2 q3 q6 q7 q10 H.size c0 c1 c2 c3 c4 c5 c6 c7 c8 c9 c10 a1 a2 (0 : Int32) u30 hu30) (cwV 3 hts gX1_couple_X1_may rfl rfl rfl (by decide +kernel) ⟨Nat.le_of_ble_eq_true rfl, Nat.le_of_ble_eq_true rfl⟩) ⟨fun a U g mk q => by obtain ⟨q0, q1, qP, qK, qD⟩ := q; exact ⟨q0, q1, qP, va_K.moved (u := U) (U := U.calling g mk a) (Vm.Alike.refl U.vm) qK, qD⟩, va_recv hKc hPc (ci := 1) (q0 := 0) rfl rfl, fun U hU hW => ⟨rfl, by rw [hU], by rw [hU]; exact hPc, va_K.moved hW.alike hKc, hDc.weaken (fun _ _ _ _ => trivial)⟩⟩ rfl rfl hl.1 rfl (lv_room (Nat.le_of_ble_eq_true rfl)) dX1_couple_30 ⟨Nat.zero_le _, Nat.zero_le _⟩) hS (fun q _ h => hFc q h) hFc (fun r_30 uu_ t H1 locs ht hvm hw hB hz1 hk1 hS => ?_)
        replace hw := hw.symm
        subst hw
        obtain ⟨hP1, -, hD1⟩ := hB
        rw [ht] at hP1
        obtain ⟨hP, hD⟩ := va_join (wr := []) (w1 := (wX1 cy h q2 q3 q6 q7 q10 c0 c1 u30.2 c3 c4 c5 c6 c7 c8 c9 c10)) hP hD [0, 1, 2, 3, 4, 5] [] rfl rfl (by decide) (by decide) hk1 hFc hP1 hD1
        clear hk1 hz1 hP1 hD1 ht hPc hDc hFc
        generalize H1 = H at hP hS ⊢
        have hP : va_P (dC, dI) vwCl (wX1 cy h q2 q3 q6 q7 q10 c0 c1 u30.2 c3 c4 c5 c6 c7 c8 c9 c10) H := hP
        have hD : va_D A (wX1 cy h q2 q3 q6 q7 q10 c0 c1 u30.2 c3 c4 c5 c6 c7 c8 c9 c10) := hD
        refine lv_aload_n hx hb dX1_couple_33 rfl (lv_at hl 0 rfl) ?_
        refine lv_iload_n hx hb dX1_couple_34 rfl (lv_at hl 2 rfl) ?_
        refine lv_iload_n hx hb dX1_couple_35 rfl (lv_at hl 1 rfl) ?_
        refine lv_iconst (v := (0 : Int32)) hx hb dX1_couple_36 (by decide) ?_
        obtain ⟨u37, hu37, hf⟩ := z_ob_some hf
        have hPc := hP.sub (ws' := (wX1 cy h q2 q3 q6 q7 q10 c0 c1 u30.2 c3 c4 c5 c6 c7 c8 c9 c10)) [0, 1, 2, 3, 4, 5] rfl
        have hDc := hD.sub (ws' := (wX1 cy h q2 q3 q6 q7 q10 c0 c1 u30.2 c3 c4 c5 c6 c7 c8 c9 c10)) [0, 1, 2, 3, 4, 5] (by decide) rfl
        have hKc := hK.sub (tys' := [(cy, .int)]) [0] rfl
        have hFc := va_free (wc := (wX1 cy h q2 q3 q6 q7 q10 c0 c1 u30.2 c3 c4 c5 c6 c7 c8 c9 c10)) hD hS hA [0, 1, 2, 3, 4, 5] rfl
        refine va_calli (va_runV (As := [.int a2, .int a1, .int (0 : Int32)]) (rest := [.int u30.1]) ⟨hx, hb, hml, hown, hts⟩ (c_X1_may N l dC dI cy h q2 q3 q6 q7 q10 H.size c0 c1 u30.2 c3 c4 c5 c6 c7 c8 c9 c10 a2 a1 (0 : Int32) u37 hu37) (cwV 3 hts gX1_couple_X1_may rfl rfl rfl (by decide +kernel) ⟨Nat.le_of_ble_eq_true rfl, Nat.le_of_ble_eq_true rfl⟩) ⟨fun a U g mk q => by obtain ⟨q0, q1, qP, qK, qD⟩ := q; exact ⟨q0, q1, qP, va_K.moved (u := U) (U := U.calling g mk a) (Vm.Alike.refl U.vm) qK, qD⟩, va_recv hKc hPc (ci := 1) (q0 := 0) rfl rfl, fun U hU hW => ⟨rfl, by rw [hU], by rw [hU]; exact hPc, va_K.moved hW.alike hKc, hDc.weaken (fun _ _ _ _ => trivial)⟩⟩ rfl rfl hl.1 rfl (lv_room (Nat.le_of_ble_eq_true rfl)) dX1_couple_37 ⟨Nat.zero_le _, Nat.zero_le _⟩) hS (fun q _ h => hFc q h) hFc (fun r_37 uu_ t H1 locs ht hvm hw hB hz1 hk1 hS => ?_)
        replace hw := hw.symm
        subst hw
        obtain ⟨hP1, -, hD1⟩ := hB
        rw [ht] at hP1
        obtain ⟨hP, hD⟩ := va_join (wr := []) (w1 := (wX1 cy h q2 q3 q6 q7 q10 c0 c1 u37.2 c3 c4 c5 c6 c7 c8 c9 c10)) hP hD [0, 1, 2, 3, 4, 5] [] rfl rfl (by decide) (by decide) hk1 hFc hP1 hD1
        clear hk1 hz1 hP1 hD1 ht hPc hDc hFc
        generalize H1 = H at hP hS ⊢
        have hP : va_P (dC, dI) vwCl (wX1 cy h q2 q3 q6 q7 q10 c0 c1 u37.2 c3 c4 c5 c6 c7 c8 c9 c10) H := hP
        have hD : va_D A (wX1 cy h q2 q3 q6 q7 q10 c0 c1 u37.2 c3 c4 c5 c6 c7 c8 c9 c10) := hD
        refine lv_iadd hx hb dX1_couple_40 ?_
        have hres := Option.some.inj hf
        subst hres
        have hP9 := hP.sub (ws' := (wX1 cy h q2 q3 q6 q7 q10 c0 c1 u37.2 c3 c4 c5 c6 c7 c8 c9 c10)) [0, 1, 2, 3, 4, 5] rfl
        have hD9 := hD.sub (ws' := (wX1 cy h q2 q3 q6 q7 q10 c0 c1 u37.2 c3 c4 c5 c6 c7 c8 c9 c10)) [0, 1, 2, 3, 4, 5] (by decide) rfl
        have hK9 := hK.sub (tys' := [(cy, .int)]) [0] rfl
        exact W.iret (v := u30.1 + u37.1) hx hb hr (fun t ht hW => ⟨⟨u30.1 + u37.1, (), rfl, rfl, by rw [ht]; exact hP9, va_K.moved hW.alike hK9, hD9⟩, hS.F ht⟩) hS.2.2 dX1_couple_41
      · replace hf := (if_pos c_20).symm.trans hf
        refine lv_bipush (v := (-5 : Int32)) hx hb dX1_couple_23 (by decide) ?_
        have hres := Option.some.inj hf
        subst hres
        have hP9 := hP.sub (ws' := (wX1 cy h q2 q3 q6 q7 q10 c0 c1 c2 c3 c4 c5 c6 c7 c8 c9 c10)) [0, 1, 2, 3, 4, 5] rfl
        have hD9 := hD.sub (ws' := (wX1 cy h q2 q3 q6 q7 q10 c0 c1 c2 c3 c4 c5 c6 c7 c8 c9 c10)) [0, 1, 2, 3, 4, 5] (by decide) rfl
        have hK9 := hK.sub (tys' := [(cy, .int)]) [0] rfl
        exact W.iret (v := (-5 : Int32)) hx hb hr (fun t ht hW => ⟨⟨(-5 : Int32), (), rfl, rfl, by rw [ht]; exact hP9, va_K.moved hW.alike hK9, hD9⟩, hS.F ht⟩) hS.2.2 dX1_couple_25
    · replace hf := (if_pos c_13).symm.trans hf
      refine lv_iconst (v := (-1 : Int32)) hx hb dX1_couple_16 (by decide) ?_
      have hres := Option.some.inj hf
      subst hres
      have hP9 := hP.sub (ws' := (wX1 cy h q2 q3 q6 q7 q10 c0 c1 c2 c3 c4 c5 c6 c7 c8 c9 c10)) [0, 1, 2, 3, 4, 5] rfl
      have hD9 := hD.sub (ws' := (wX1 cy h q2 q3 q6 q7 q10 c0 c1 c2 c3 c4 c5 c6 c7 c8 c9 c10)) [0, 1, 2, 3, 4, 5] (by decide) rfl
      have hK9 := hK.sub (tys' := [(cy, .int)]) [0] rfl
      exact W.iret (v := (-1 : Int32)) hx hb hr (fun t ht hW => ⟨⟨(-1 : Int32), (), rfl, rfl, by rw [ht]; exact hP9, va_K.moved hW.alike hK9, hD9⟩, hS.F ht⟩) hS.2.2 dX1_couple_17

set_option maxRecDepth 20000 in
theorem ggX1_bar_X1_may : GoodIn wsX1_bar wsX1_may := goodIn_r _ [7, 8, 9, 10, 11, 6, 12, 1, 13, 14, 15, 16, 17, 18, 19, 20, 21, 22, 23, 24, 25, 26] (by decide +kernel) (by decide +kernel)
set_option maxRecDepth 20000 in
theorem gX1_bar_X1_may : GoodIn wsX1_bar (wsV RX1 43 RX1 yX1_may wsX1_may) := goodIn_app (goodIn_of _ (by decide +kernel)) ggX1_bar_X1_may
theorem dX1_bar_0 : decode cX1_bar 0 = .ok (.iconst 0, 1) := by decide +kernel
theorem dX1_bar_1 : decode cX1_bar 1 = .ok (.istore_n 1, 1) := by decide +kernel
theorem dX1_bar_2 : decode cX1_bar 2 = .ok (.iconst 0, 1) := by decide +kernel
theorem dX1_bar_3 : decode cX1_bar 3 = .ok (.istore_n 2, 1) := by decide +kernel
theorem dX1_bar_4 : decode cX1_bar 4 = .ok (.iload_n 2, 1) := by decide +kernel
theorem dX1_bar_5 : decode cX1_bar 5 = .ok (.aload_n 0, 1) := by decide +kernel
theorem dX1_bar_6 : decode cX1_bar 6 = .ok (.getfield 7, 3) := by decide +kernel
theorem dX1_bar_9 : decode cX1_bar 9 = .ok (.if_icmp .ge 37, 3) := by decide +kernel
theorem dX1_bar_12 : decode cX1_bar 12 = .ok (.iload_n 1, 1) := by decide +kernel
theorem dX1_bar_13 : decode cX1_bar 13 = .ok (.aload_n 0, 1) := by decide +kernel
theorem dX1_bar_14 : decode cX1_bar 14 = .ok (.getfield 20, 3) := by decide +kernel
theorem dX1_bar_17 : decode cX1_bar 17 = .ok (.iload_n 2, 1) := by decide +kernel
theorem dX1_bar_18 : decode cX1_bar 18 = .ok (.iaload, 1) := by decide +kernel
theorem dX1_bar_19 : decode cX1_bar 19 = .ok (.ifCond .lt 18, 3) := by decide +kernel
theorem dX1_bar_22 : decode cX1_bar 22 = .ok (.aload_n 0, 1) := by decide +kernel
theorem dX1_bar_23 : decode cX1_bar 23 = .ok (.iload_n 2, 1) := by decide +kernel
theorem dX1_bar_24 : decode cX1_bar 24 = .ok (.aload_n 0, 1) := by decide +kernel
theorem dX1_bar_25 : decode cX1_bar 25 = .ok (.getfield 20, 3) := by decide +kernel
theorem dX1_bar_28 : decode cX1_bar 28 = .ok (.iload_n 2, 1) := by decide +kernel
theorem dX1_bar_29 : decode cX1_bar 29 = .ok (.iaload, 1) := by decide +kernel
theorem dX1_bar_30 : decode cX1_bar 30 = .ok (.iconst 0, 1) := by decide +kernel
theorem dX1_bar_31 : decode cX1_bar 31 = .ok (.invokevirtual 43, 3) := by decide +kernel
theorem dX1_bar_34 : decode cX1_bar 34 = .ok (.goto 4, 3) := by decide +kernel
theorem dX1_bar_37 : decode cX1_bar 37 = .ok (.iconst 0, 1) := by decide +kernel
theorem dX1_bar_38 : decode cX1_bar 38 = .ok (.iadd, 1) := by decide +kernel
theorem dX1_bar_39 : decode cX1_bar 39 = .ok (.istore_n 1, 1) := by decide +kernel
theorem dX1_bar_40 : decode cX1_bar 40 = .ok (.iinc 2 1, 3) := by decide +kernel
theorem dX1_bar_43 : decode cX1_bar 43 = .ok (.goto (-39), 3) := by decide +kernel
theorem dX1_bar_46 : decode cX1_bar 46 = .ok (.iload_n 1, 1) := by decide +kernel
theorem dX1_bar_47 : decode cX1_bar 47 = .ok (.ireturn, 1) := by decide +kernel
abbrev rm_X1_bar : Room := { frames := 3, cells := 0, slots := 0, locals := 67 }
set_option maxHeartbeats 4000000 in
set_option maxRecDepth 100000 in
theorem c_X1_bar (N : Nat) (l : Launch) (dC : Nat → ClassId) (dI : Nat → Nat → Nat) (cy : ClassId) (h q2 q3 q6 q7 q10 : Nat) (sz : Nat) (c0 : Int32) (c1 : Int32) (c2 : Nat → Int32) (c3 : Nat → Int32) (c4 : Int32) (c5 : Int32) (c6 : Nat → Int32) (c7 : Nat → Int32) (c8 : Int32) (c9 : Int32) (c10 : Nat → Int32) (res : Int32 × (Nat → Int32)) (hf : f_X1_bar N c0 c2 c3 = some res) : Met l yX1_bar wsX1_bar rm_X1_bar (va_Pc [.ref h] (fun U => U.heap.size = sz ∧ va_P (dC, dI) vwCl (wX1 cy h q2 q3 q6 q7 q10 c0 c1 c2 c3 c4 c5 c6 c7 c8 c9 c10) U.heap ∧ va_K (dC, dI) vwCl [(cy, .int)] U ∧ va_D (fun _ => True) (wX1 cy h q2 q3 q6 q7 q10 c0 c1 c2 c3 c4 c5 c6 c7 c8 c9 c10))) (z_qI dC dI cy res.1 (wX1 cy h q2 q3 q6 q7 q10 c0 c1 res.2 c3 c4 c5 c6 c7 c8 c9 c10) (va_A (wX1 cy h q2 q3 q6 q7 q10 c0 c1 c2 c3 c4 c5 c6 c7 c8 c9 c10) sz)) 0 0 (va_A (wX1 cy h q2 q3 q6 q7 q10 c0 c1 c2 c3 c4 c5 c6 c7 c8 c9 c10) sz) := by
  refine Met.ofW (cc := cX1_bar) (maxL := 3) (ret := (some .int)) (by decide) rfl ?_
  intro p e s m args below meth c s₁ B hml hv
  obtain ⟨rfl, hsz, hP, hK, hD0⟩ := hv
  have hx := B.exec
  have hb := B.bytes
  have hr := B.returns
  have hts := atoms_spec (ws := wsX1_bar) B.pre
  have hown : s.vm.findClass RX1 = some m.cls := findClass_of_methodNamed B.named
  have hlocks := B.notSynchronized
  subst hsz
  have hD := hD0.self (sz := s.heap.size)
  generalize hAe : va_A (wX1 cy h q2 q3 q6 q7 q10 c0 c1 c2 c3 c4 c5 c6 c7 c8 c9 c10) s.heap.size = A at hD ⊢
  have hA : ∀ q : Nat, s.heap.size ≤ q → A q := fun q h => by rw [← hAe]; exact Or.inr h
  have hS : va_S A s.heap s.heap [] := va_S.rf
  have hP : va_P (dC, dI) vwCl (wX1 cy h q2 q3 q6 q7 q10 c0 c1 c2 c3 c4 c5 c6 c7 c8 c9 c10) s.heap := hP
  have hl := lv_entry ([.ref h]) (n := 3) (Nat.le_of_ble_eq_true rfl)
  rw [lg_entry_eq]
  generalize (lg_sl ([.ref h]) ++ List.replicate (3 - (lg_sl ([.ref h])).length) Slot.unset).toArray = ls at hl ⊢
  have hl : lv_has ls 3 [(0, .ref h)] := hl
  have B38 : ∀ (r4 : Int32 → Int32 → (Nat → Int32) → Option (Int32 × (Nat → Int32))), (∀ (x1 x2 : Int32) (c2 : Nat → Int32) (H : Heap) (locs : List Loc) (ls : Array Slot), r4 x1 x2 c2 = some res → va_P (dC, dI) vwCl (wX1 cy h q2 q3 q6 q7 q10 c0 c1 c2 c3 c4 c5 c6 c7 c8 c9 c10) H → va_D A (wX1 cy h q2 q3 q6 q7 q10 c0 c1 c2 c3 c4 c5 c6 c7 c8 c9 c10) → va_S A s.heap H locs → lv_has ls 3 [(0, .ref h), (1, .int x1), (2, .int x2)] → W p l e rm_X1_bar s m ([.ref h] : List Value).toArray below meth c H locs 0 0 (MQ below (z_qI dC dI cy res.1 (wX1 cy h q2 q3 q6 q7 q10 c0 c1 res.2 c3 c4 c5 c6 c7 c8 c9 c10) A) ([.ref h] : List Value).toArray s 0 0 A) (F0 m 4 ls [])) → ∀ (x2 t0 t1 : Int32) (c2 : Nat → Int32) (H : Heap) (locs : List Loc) (ls : Array Slot), f_X1_bar_b38 N c0 c3 r4 x2 t0 t1 c2 = some res → va_P (dC, dI) vwCl (wX1 cy h q2 q3 q6 q7 q10 c0 c1 c2 c3 c4 c5 c6 c7 c8 c9 c10) H → va_D A (wX1 cy h q2 q3 q6 q7 q10 c0 c1 c2 c3 c4 c5 c6 c7 c8 c9 c10) → va_S A s.heap H locs → lv_has ls 3 [(0, .ref h), (2, .int x2)] → W p l e rm_X1_bar s m ([.ref h] : List Value).toArray below meth c H locs 0 0 (MQ below (z_qI dC dI cy res.1 (wX1 cy h q2 q3 q6 q7 q10 c0 c1 res.2 c3 c4 c5 c6 c7 c8 c9 c10) A) ([.ref h] : List Value).toArray s 0 0 A) (F0 m 38 ls [.int t1, .int t0]) := by
    clear hf hl hP hD hS
    intro r4 hr4
    intro x2 t0 t1 c2 H locs ls hf hP hD hS hl
    unfold f_X1_bar_b38 at hf
    refine lv_iadd hx hb dX1_bar_38 ?_
    refine lv_istore_n (lv' := [(1, .int (t0 + t1)), (0, .ref h), (2, .int x2)]) hx hb dX1_bar_39 rfl hl (by decide) rfl (fun ls hl => ?_)
    refine lv_iinc (v := x2 + (1 : Int32)) (lv' := [(2, .int (x2 + (1 : Int32))), (1, .int (t0 + t1)), (0, .ref h)]) hx hb dX1_bar_40 hl (k := 2) rfl rfl (by decide) rfl (fun ls hl => ?_)
    refine lv_goto (tgt := 4) hx hb dX1_bar_43 (by decide) ?_
    exact hr4 (t0 + t1) (x2 + (1 : Int32)) c2 _ _ _ hf hP hD hS (lv_sub hl [2, 1, 0] rfl)
  have B4 : ∀ n : Nat, ∀ (x1 x2 : Int32) (c2 : Nat → Int32) (H : Heap) (locs : List Loc) (ls : Array Slot), f_X1_bar_b4 N c0 c3 n x1 x2 c2 = some res → va_P (dC, dI) vwCl (wX1 cy h q2 q3 q6 q7 q10 c0 c1 c2 c3 c4 c5 c6 c7 c8 c9 c10) H → va_D A (wX1 cy h q2 q3 q6 q7 q10 c0 c1 c2 c3 c4 c5 c6 c7 c8 c9 c10) → va_S A s.heap H locs → lv_has ls 3 [(0, .ref h), (1, .int x1), (2, .int x2)] → W p l e rm_X1_bar s m ([.ref h] : List Value).toArray below meth c H locs 0 0 (MQ below (z_qI dC dI cy res.1 (wX1 cy h q2 q3 q6 q7 q10 c0 c1 res.2 c3 c4 c5 c6 c7 c8 c9 c10) A) ([.ref h] : List Value).toArray s 0 0 A) (F0 m 4 ls []) := by
    clear hf hl hP hD hS
    intro n
    induction n with
    | zero =>
      intro x1 x2 c2 H locs ls hf hP hD hS hl
      rw [f_X1_bar_b4] at hf
      cases hf
    | succ n ih =>
      intro x1 x2 c2 H locs ls hf hP hD hS hl
      rw [f_X1_bar_b4] at hf
      refine lv_iload_n hx hb dX1_bar_4 rfl (lv_at hl 2 rfl) ?_
      refine lv_aload_n hx hb dX1_bar_5 rfl (lv_at hl 0 rfl) ?_
      refine va_get (D := (dC, dI)) (ci := 1) (v := .int c0) (C := RX1) (T := TX1) (N := 11) hx hb hts (by decide +kernel) hown hK hP 0 rfl rfl 0 (by decide) (hts (.fieldLink RX1 7 "GiftLotsModel" "ones" "I") (by decide +kernel)) (fun _ h9 => h9) rfl dX1_bar_6 ?_
      refine lv_icmp_ge (tgt := 46) hx hb dX1_bar_9 (by decide) (fun c_9 => ?_) (fun c_9 => ?_)
      · replace hf := (if_pos c_9).symm.trans hf
        refine lv_iload_n hx hb dX1_bar_46 rfl (lv_at hl 1 rfl) ?_
        have hres := Option.some.inj hf
        subst hres
        have hP9 := hP.sub (ws' := (wX1 cy h q2 q3 q6 q7 q10 c0 c1 c2 c3 c4 c5 c6 c7 c8 c9 c10)) [0, 1, 2, 3, 4, 5] rfl
        have hD9 := hD.sub (ws' := (wX1 cy h q2 q3 q6 q7 q10 c0 c1 c2 c3 c4 c5 c6 c7 c8 c9 c10)) [0, 1, 2, 3, 4, 5] (by decide) rfl
        have hK9 := hK.sub (tys' := [(cy, .int)]) [0] rfl
        exact W.iret (v := x1) hx hb hr (fun t ht hW => ⟨⟨x1, (), rfl, rfl, by rw [ht]; exact hP9, va_K.moved hW.alike hK9, hD9⟩, hS.F ht⟩) hS.2.2 dX1_bar_47
      · replace hf := (if_neg c_9).symm.trans hf
        refine lv_iload_n hx hb dX1_bar_12 rfl (lv_at hl 1 rfl) ?_
        refine lv_aload_n hx hb dX1_bar_13 rfl (lv_at hl 0 rfl) ?_
        refine va_get (D := (dC, dI)) (ci := 1) (v := .ref q3) (C := RX1) (T := TX1) (N := 11) hx hb hts (by decide +kernel) hown hK hP 0 rfl rfl 3 (by decide) (hts (.fieldLink RX1 20 "GiftLotsModel" "hand" "[I") (by decide +kernel)) (fun _ h9 => h9) rfl dX1_bar_14 ?_
        refine lv_iload_n hx hb dX1_bar_17 rfl (lv_at hl 2 rfl) ?_
        obtain ⟨hi18, hf⟩ := z_gx_some hf
        refine va_iald hx hb hK hP 2 0 rfl rfl hi18 dX1_bar_18 ?_
        refine lv_if_lt (tgt := 37) hx hb dX1_bar_19 (by decide) (fun c_19 => ?_) (fun c_19 => ?_)
        · replace hf := (if_pos c_19).symm.trans hf
          refine lv_iconst (v := (0 : Int32)) hx hb dX1_bar_37 (by decide) ?_
          exact B38 (f_X1_bar_b4 N c0 c3 n) ih x2 x1 (0 : Int32) c2 _ _ _ hf hP hD hS (lv_sub hl [0, 2] rfl)
        · replace hf := (if_neg c_19).symm.trans hf
          refine lv_aload_n hx hb dX1_bar_22 rfl (lv_at hl 0 rfl) ?_
          refine lv_iload_n hx hb dX1_bar_23 rfl (lv_at hl 2 rfl) ?_
          refine lv_aload_n hx hb dX1_bar_24 rfl (lv_at hl 0 rfl) ?_
          refine va_get (D := (dC, dI)) (ci := 1) (v := .ref q3) (C := RX1) (T := TX1) (N := 11) hx hb hts (by decide +kernel) hown hK hP 0 rfl rfl 3 (by decide) (hts (.fieldLink RX1 20 "GiftLotsModel" "hand" "[I") (by decide +kernel)) (fun _ h9 => h9) rfl dX1_bar_25 ?_
          refine lv_iload_n hx hb dX1_bar_28 rfl (lv_at hl 2 rfl) ?_
          obtain ⟨hi29, hf⟩ := z_gx_some hf
          refine va_iald hx hb hK hP 2 0 rfl rfl hi29 dX1_bar_29 ?_
          refine lv_iconst (v := (0 : Int32)) hx hb dX1_bar_30 (by decide) ?_
          obtain ⟨u31, hu31, hf⟩ := z_ob_some hf
          have hPc := hP.sub (ws' := (wX1 cy h q2 q3 q6 q7 q10 c0 c1 c2 c3 c4 c5 c6 c7 c8 c9 c10)) [0, 1, 2, 3, 4, 5] rfl
          have hDc := hD.sub (ws' := (wX1 cy h q2 q3 q6 q7 q10 c0 c1 c2 c3 c4 c5 c6 c7 c8 c9 c10)) [0, 1, 2, 3, 4, 5] (by decide) rfl
          have hKc := hK.sub (tys' := [(cy, .int)]) [0] rfl
          have hFc := va_free (wc := (wX1 cy h q2 q3 q6 q7 q10 c0 c1 c2 c3 c4 c5 c6 c7 c8 c9 c10)) hD hS hA [0, 1, 2, 3, 4, 5] rfl
          refine va_calli (va_runV (As := [.int x2, .int (c3 (x2).toNatClampNeg), .int (0 : Int32)]) (rest := [.int x1]) ⟨hx, hb, hml, hown, hts⟩ (c_X1_may N l dC dI cy h q2 q3 q6 q7 q10 H.size c0 c1 c2 c3 c4 c5 c6 c7 c8 c9 c10 x2 (c3 (x2).toNatClampNeg) (0 : Int32) u31 hu31) (cwV 3 hts gX1_bar_X1_may rfl rfl rfl (by decide +kernel) ⟨Nat.le_of_ble_eq_true rfl, Nat.le_of_ble_eq_true rfl⟩) ⟨fun a U g mk q => by obtain ⟨q0, q1, qP, qK, qD⟩ := q; exact ⟨q0, q1, qP, va_K.moved (u := U) (U := U.calling g mk a) (Vm.Alike.refl U.vm) qK, qD⟩, va_recv hKc hPc (ci := 1) (q0 := 0) rfl rfl, fun U hU hW => ⟨rfl, by rw [hU], by rw [hU]; exact hPc, va_K.moved hW.alike hKc, hDc.weaken (fun _ _ _ _ => trivial)⟩⟩ rfl rfl hl.1 rfl (lv_room (Nat.le_of_ble_eq_true rfl)) dX1_bar_31 ⟨Nat.zero_le _, Nat.zero_le _⟩) hS (fun q _ h => hFc q h) hFc (fun r_31 uu_ t H1 locs ht hvm hw hB hz1 hk1 hS => ?_)
          replace hw := hw.symm
          subst hw
          obtain ⟨hP1, -, hD1⟩ := hB
          rw [ht] at hP1
          obtain ⟨hP, hD⟩ := va_join (wr := []) (w1 := (wX1 cy h q2 q3 q6 q7 q10 c0 c1 u31.2 c3 c4 c5 c6 c7 c8 c9 c10)) hP hD [0, 1, 2, 3, 4, 5] [] rfl rfl (by decide) (by decide) hk1 hFc hP1 hD1
          clear hk1 hz1 hP1 hD1 ht hPc hDc hFc
          generalize H1 = H at hP hS ⊢
          have hP : va_P (dC, dI) vwCl (wX1 cy h q2 q3 q6 q7 q10 c0 c1 u31.2 c3 c4 c5 c6 c7 c8 c9 c10) H := hP
          have hD : va_D A (wX1 cy h q2 q3 q6 q7 q10 c0 c1 u31.2 c3 c4 c5 c6 c7 c8 c9 c10) := hD
          refine lv_goto (tgt := 38) hx hb dX1_bar_34 (by decide) ?_
          exact B38 (f_X1_bar_b4 N c0 c3 n) ih x2 x1 u31.1 u31.2 _ _ _ hf hP hD hS (lv_sub hl [0, 2] rfl)
  unfold f_X1_bar at hf
  refine lv_iconst (v := (0 : Int32)) hx hb dX1_bar_0 (by decide) ?_
  refine lv_istore_n (lv' := [(1, .int (0 : Int32)), (0, .ref h)]) hx hb dX1_bar_1 rfl hl (by decide) rfl (fun ls hl => ?_)
  refine lv_iconst (v := (0 : Int32)) hx hb dX1_bar_2 (by decide) ?_
  refine lv_istore_n (lv' := [(2, .int (0 : Int32)), (1, .int (0 : Int32)), (0, .ref h)]) hx hb dX1_bar_3 rfl hl (by decide) rfl (fun ls hl => ?_)
  exact B4 N (0 : Int32) (0 : Int32) c2 _ _ _ hf hP hD hS (lv_sub hl [2, 1, 0] rfl)

set_option maxRecDepth 20000 in
theorem ggX1_least_X1_in : GoodIn wsX1_least wsX1_in := goodIn_r _ [5] (by decide +kernel) (by decide +kernel)
set_option maxRecDepth 20000 in
theorem gX1_least_X1_in : GoodIn wsX1_least (va_wsS RX1 35 yX1_in wsX1_in) := goodIn_app (goodIn_of _ (by decide +kernel)) ggX1_least_X1_in
theorem dX1_least_0 : decode cX1_least 0 = .ok (.iload_n 1, 1) := by decide +kernel
theorem dX1_least_1 : decode cX1_least 1 = .ok (.iconst 2, 1) := by decide +kernel
theorem dX1_least_2 : decode cX1_least 2 = .ok (.bipush 8, 2) := by decide +kernel
theorem dX1_least_4 : decode cX1_least 4 = .ok (.invokestatic 35, 3) := by decide +kernel
theorem dX1_least_7 : decode cX1_least 7 = .ok (.ifCond .ne 6, 3) := by decide +kernel
theorem dX1_least_10 : decode cX1_least 10 = .ok (.bipush (-2), 2) := by decide +kernel
theorem dX1_least_12 : decode cX1_least 12 = .ok (.ireturn, 1) := by decide +kernel
theorem dX1_least_13 : decode cX1_least 13 = .ok (.aload_n 0, 1) := by decide +kernel
theorem dX1_least_14 : decode cX1_least 14 = .ok (.getfield 13, 3) := by decide +kernel
theorem dX1_least_17 : decode cX1_least 17 = .ok (.istore_n 2, 1) := by decide +kernel
theorem dX1_least_18 : decode cX1_least 18 = .ok (.aload_n 0, 1) := by decide +kernel
theorem dX1_least_19 : decode cX1_least 19 = .ok (.iload_n 1, 1) := by decide +kernel
theorem dX1_least_20 : decode cX1_least 20 = .ok (.putfield 13, 3) := by decide +kernel
theorem dX1_least_23 : decode cX1_least 23 = .ok (.iload_n 2, 1) := by decide +kernel
theorem dX1_least_24 : decode cX1_least 24 = .ok (.ireturn, 1) := by decide +kernel
abbrev rm_X1_least : Room := { frames := 1, cells := 0, slots := 0, locals := 22 }
set_option maxHeartbeats 4000000 in
set_option maxRecDepth 100000 in
theorem c_X1_least (N : Nat) (l : Launch) (dC : Nat → ClassId) (dI : Nat → Nat → Nat) (cy : ClassId) (h q2 q3 q6 q7 q10 : Nat) (sz : Nat) (c0 : Int32) (c1 : Int32) (c2 : Nat → Int32) (c3 : Nat → Int32) (c4 : Int32) (c5 : Int32) (c6 : Nat → Int32) (c7 : Nat → Int32) (c8 : Int32) (c9 : Int32) (c10 : Nat → Int32) (a1 : Int32) (res : Int32 × Int32) (hf : f_X1_least N a1 c1 = some res) : Met l yX1_least wsX1_least rm_X1_least (va_Pc [.ref h, .int a1] (fun U => U.heap.size = sz ∧ va_P (dC, dI) vwCl (wX1 cy h q2 q3 q6 q7 q10 c0 c1 c2 c3 c4 c5 c6 c7 c8 c9 c10) U.heap ∧ va_K (dC, dI) vwCl [(cy, .int)] U ∧ va_D (fun _ => True) (wX1 cy h q2 q3 q6 q7 q10 c0 c1 c2 c3 c4 c5 c6 c7 c8 c9 c10))) (z_qI dC dI cy res.1 (wX1 cy h q2 q3 q6 q7 q10 c0 res.2 c2 c3 c4 c5 c6 c7 c8 c9 c10) (va_A (wX1 cy h q2 q3 q6 q7 q10 c0 c1 c2 c3 c4 c5 c6 c7 c8 c9 c10) sz)) 0 0 (va_A (wX1 cy h q2 q3 q6 q7 q10 c0 c1 c2 c3 c4 c5 c6 c7 c8 c9 c10) sz) := by
  refine Met.ofW (cc := cX1_least) (maxL := 3) (ret := (some .int)) (by decide) rfl ?_
  intro p e s m args below meth c s₁ B hml hv
  obtain ⟨rfl, hsz, hP, hK, hD0⟩ := hv
  have hx := B.exec
  have hb := B.bytes
  have hr := B.returns
  have hts := atoms_spec (ws := wsX1_least) B.pre
  have hown : s.vm.findClass RX1 = some m.cls := findClass_of_methodNamed B.named
  have hlocks := B.notSynchronized
  subst hsz
  have hD := hD0.self (sz := s.heap.size)
  generalize hAe : va_A (wX1 cy h q2 q3 q6 q7 q10 c0 c1 c2 c3 c4 c5 c6 c7 c8 c9 c10) s.heap.size = A at hD ⊢
  have hA : ∀ q : Nat, s.heap.size ≤ q → A q := fun q h => by rw [← hAe]; exact Or.inr h
  have hS : va_S A s.heap s.heap [] := va_S.rf
  have hP : va_P (dC, dI) vwCl (wX1 cy h q2 q3 q6 q7 q10 c0 c1 c2 c3 c4 c5 c6 c7 c8 c9 c10) s.heap := hP
  have hl := lv_entry ([.ref h, .int a1]) (n := 3) (Nat.le_of_ble_eq_true rfl)
  rw [lg_entry_eq]
  generalize (lg_sl ([.ref h, .int a1]) ++ List.replicate (3 - (lg_sl ([.ref h, .int a1])).length) Slot.unset).toArray = ls at hl ⊢
  have hl : lv_has ls 3 [(0, .ref h), (1, .int a1)] := hl
  unfold f_X1_least at hf
  refine lv_iload_n hx hb dX1_least_0 rfl (lv_at hl 1 rfl) ?_
  refine lv_iconst (v := (2 : Int32)) hx hb dX1_least_1 (by decide) ?_
  refine lv_bipush (v := (8 : Int32)) hx hb dX1_least_2 (by decide) ?_
  obtain ⟨u4, hu4, hf⟩ := z_ob_some hf
  have hPc := hP.sub (ws' := ([] : va_W)) [] rfl
  have hDc := hD.sub (ws' := ([] : va_W)) [] (by decide) rfl
  have hKc := hK.sub (tys' := [(cy, .int)]) [0] rfl
  have hFc := va_free (wc := ([] : va_W)) hD hS hA [] rfl
  refine va_calli (va_runS (As := [.int a1, .int (2 : Int32), .int (8 : Int32)]) (rest := []) ⟨hx, hb, hml, hown, hts⟩ (c_X1_in N l dC dI cy s.heap.size a1 (2 : Int32) (8 : Int32) u4 hu4) (va_cwS 3 hts gX1_least_X1_in rfl rfl rfl (by decide +kernel) ⟨Nat.le_of_ble_eq_true rfl, Nat.le_of_ble_eq_true rfl⟩) ⟨fun a U g mk q => by obtain ⟨q0, q1, qP, qK, qD⟩ := q; exact ⟨q0, q1, qP, va_K.moved (u := U) (U := U.calling g mk a) (Vm.Alike.refl U.vm) qK, qD⟩, fun U hU hW => ⟨rfl, by rw [hU], by rw [hU]; exact hPc, va_K.moved hW.alike hKc, hDc.weaken (fun _ _ _ _ => trivial)⟩⟩ rfl rfl hl.1 rfl (lv_room (Nat.le_of_ble_eq_true rfl)) dX1_least_4 ⟨Nat.zero_le _, Nat.zero_le _⟩) hS (fun q _ h => hFc q h) hFc (fun r_4 uu_ t H1 locs ht hvm hw hB hz1 hk1 hS => ?_)
  replace hw := hw.symm
  subst hw
  obtain ⟨hP1, -, hD1⟩ := hB
  rw [ht] at hP1
  obtain ⟨hP, hD⟩ := va_join (wr := (wX1 cy h q2 q3 q6 q7 q10 c0 c1 c2 c3 c4 c5 c6 c7 c8 c9 c10)) (w1 := ([] : va_W)) hP hD [] [0, 1, 2, 3, 4, 5] rfl rfl (by decide) (by decide) hk1 hFc hP1 hD1
  clear hk1 hz1 hP1 hD1 ht hPc hDc hFc
  generalize H1 = H at hP hS ⊢
  have hP : va_P (dC, dI) vwCl (wX1 cy h q2 q3 q6 q7 q10 c0 c1 c2 c3 c4 c5 c6 c7 c8 c9 c10) H := hP
  have hD : va_D A (wX1 cy h q2 q3 q6 q7 q10 c0 c1 c2 c3 c4 c5 c6 c7 c8 c9 c10) := hD
  refine lv_if_ne (tgt := 13) hx hb dX1_least_7 (by decide) (fun c_7 => ?_) (fun c_7 => ?_)
  · replace hf := (if_neg c_7).symm.trans hf
    refine lv_aload_n hx hb dX1_least_13 rfl (lv_at hl 0 rfl) ?_
    refine va_get (D := (dC, dI)) (ci := 1) (v := .int c1) (C := RX1) (T := TX1) (N := 11) hx hb hts (by decide +kernel) hown hK hP 0 rfl rfl 1 (by decide) (hts (.fieldLink RX1 13 "GiftLotsModel" "least" "I") (by decide +kernel)) (fun _ h9 => h9) rfl dX1_least_14 ?_
    refine lv_istore_n (lv' := [(2, .int c1), (0, .ref h), (1, .int a1)]) hx hb dX1_least_17 rfl hl (by decide) rfl (fun ls hl => ?_)
    refine lv_aload_n hx hb dX1_least_18 rfl (lv_at hl 1 rfl) ?_
    refine lv_iload_n hx hb dX1_least_19 rfl (lv_at hl 2 rfl) ?_
    refine va_put (D := (dC, dI)) (ci := 1) (v := .int a1) (ty := .int) (C := RX1) (T := TX1) (N := 11) hx hb hts (by decide +kernel) tyX1 tyX1_ok nmX1 hown hK hP hD hS 0 rfl rfl 1 (by decide) (hts (.fieldLink RX1 13 "GiftLotsModel" "least" "I") (by decide +kernel)) (fun _ h9 => h9) rfl (by decide +kernel) rfl rfl (Nat.le_of_ble_eq_true rfl) dX1_least_20 (fun H locs hP hD hS => ?_)
    have hP : va_P (dC, dI) vwCl (wX1 cy h q2 q3 q6 q7 q10 c0 a1 c2 c3 c4 c5 c6 c7 c8 c9 c10) H := hP
    have hD : va_D A (wX1 cy h q2 q3 q6 q7 q10 c0 a1 c2 c3 c4 c5 c6 c7 c8 c9 c10) := hD
    refine lv_iload_n hx hb dX1_least_23 rfl (lv_at hl 0 rfl) ?_
    have hres := Option.some.inj hf
    subst hres
    have hP9 := hP.sub (ws' := (wX1 cy h q2 q3 q6 q7 q10 c0 a1 c2 c3 c4 c5 c6 c7 c8 c9 c10)) [0, 1, 2, 3, 4, 5] rfl
    have hD9 := hD.sub (ws' := (wX1 cy h q2 q3 q6 q7 q10 c0 a1 c2 c3 c4 c5 c6 c7 c8 c9 c10)) [0, 1, 2, 3, 4, 5] (by decide) rfl
    have hK9 := hK.sub (tys' := [(cy, .int)]) [0] rfl
    exact W.iret (v := c1) hx hb hr (fun t ht hW => ⟨⟨c1, (), rfl, rfl, by rw [ht]; exact hP9, va_K.moved hW.alike hK9, hD9⟩, hS.F ht⟩) hS.2.2 dX1_least_24
  · replace hf := (if_pos c_7).symm.trans hf
    refine lv_bipush (v := (-2 : Int32)) hx hb dX1_least_10 (by decide) ?_
    have hres := Option.some.inj hf
    subst hres
    have hP9 := hP.sub (ws' := (wX1 cy h q2 q3 q6 q7 q10 c0 c1 c2 c3 c4 c5 c6 c7 c8 c9 c10)) [0, 1, 2, 3, 4, 5] rfl
    have hD9 := hD.sub (ws' := (wX1 cy h q2 q3 q6 q7 q10 c0 c1 c2 c3 c4 c5 c6 c7 c8 c9 c10)) [0, 1, 2, 3, 4, 5] (by decide) rfl
    have hK9 := hK.sub (tys' := [(cy, .int)]) [0] rfl
    exact W.iret (v := (-2 : Int32)) hx hb hr (fun t ht hW => ⟨⟨(-2 : Int32), (), rfl, rfl, by rw [ht]; exact hP9, va_K.moved hW.alike hK9, hD9⟩, hS.F ht⟩) hS.2.2 dX1_least_12

theorem dX1_start_0 : decode cX1_start 0 = .ok (.aload_n 0, 1) := by decide +kernel
theorem dX1_start_1 : decode cX1_start 1 = .ok (.iload_n 1, 1) := by decide +kernel
theorem dX1_start_2 : decode cX1_start 2 = .ok (.putfield 46, 3) := by decide +kernel
theorem dX1_start_5 : decode cX1_start 5 = .ok (.aload_n 0, 1) := by decide +kernel
theorem dX1_start_6 : decode cX1_start 6 = .ok (.iload_n 2, 1) := by decide +kernel
theorem dX1_start_7 : decode cX1_start 7 = .ok (.putfield 49, 3) := by decide +kernel
theorem dX1_start_10 : decode cX1_start 10 = .ok (.iconst 0, 1) := by decide +kernel
theorem dX1_start_11 : decode cX1_start 11 = .ok (.istore_n 3, 1) := by decide +kernel
theorem dX1_start_12 : decode cX1_start 12 = .ok (.iload_n 3, 1) := by decide +kernel
theorem dX1_start_13 : decode cX1_start 13 = .ok (.bipush 8, 2) := by decide +kernel
theorem dX1_start_15 : decode cX1_start 15 = .ok (.if_icmp .ge 17, 3) := by decide +kernel
theorem dX1_start_18 : decode cX1_start 18 = .ok (.aload_n 0, 1) := by decide +kernel
theorem dX1_start_19 : decode cX1_start 19 = .ok (.getfield 23, 3) := by decide +kernel
theorem dX1_start_22 : decode cX1_start 22 = .ok (.iload_n 3, 1) := by decide +kernel
theorem dX1_start_23 : decode cX1_start 23 = .ok (.bipush (-6), 2) := by decide +kernel
theorem dX1_start_25 : decode cX1_start 25 = .ok (.iastore, 1) := by decide +kernel
theorem dX1_start_26 : decode cX1_start 26 = .ok (.iinc 3 1, 3) := by decide +kernel
theorem dX1_start_29 : decode cX1_start 29 = .ok (.goto (-17), 3) := by decide +kernel
theorem dX1_start_32 : decode cX1_start 32 = .ok (.return_, 1) := by decide +kernel
abbrev rm_X1_start : Room := { frames := 0, cells := 0, slots := 0, locals := 0 }
set_option maxHeartbeats 4000000 in
set_option maxRecDepth 100000 in
theorem c_X1_start (N : Nat) (l : Launch) (dC : Nat → ClassId) (dI : Nat → Nat → Nat) (cy : ClassId) (h q2 q3 q6 q7 q10 : Nat) (sz : Nat) (c0 : Int32) (c1 : Int32) (c2 : Nat → Int32) (c3 : Nat → Int32) (c4 : Int32) (c5 : Int32) (c6 : Nat → Int32) (c7 : Nat → Int32) (c8 : Int32) (c9 : Int32) (c10 : Nat → Int32) (a1 a2 : Int32) (res : Int32 × Int32 × (Nat → Int32)) (hf : f_X1_start N a1 a2 c4 c5 c6 = some res) : Met l yX1_start wsX1_start rm_X1_start (va_Pc [.ref h, .int a1, .int a2] (fun U => U.heap.size = sz ∧ va_P (dC, dI) vwCl (wX1 cy h q2 q3 q6 q7 q10 c0 c1 c2 c3 c4 c5 c6 c7 c8 c9 c10) U.heap ∧ va_K (dC, dI) vwCl [(cy, .int)] U ∧ va_D (fun _ => True) (wX1 cy h q2 q3 q6 q7 q10 c0 c1 c2 c3 c4 c5 c6 c7 c8 c9 c10))) (z_qV dC dI cy (wX1 cy h q2 q3 q6 q7 q10 c0 c1 c2 c3 res.1 res.2.1 res.2.2 c7 c8 c9 c10) (va_A (wX1 cy h q2 q3 q6 q7 q10 c0 c1 c2 c3 c4 c5 c6 c7 c8 c9 c10) sz)) 0 0 (va_A (wX1 cy h q2 q3 q6 q7 q10 c0 c1 c2 c3 c4 c5 c6 c7 c8 c9 c10) sz) := by
  refine Met.ofW (cc := cX1_start) (maxL := 4) (ret := none) (by decide) rfl ?_
  intro p e s m args below meth c s₁ B hml hv
  obtain ⟨rfl, hsz, hP, hK, hD0⟩ := hv
  have hx := B.exec
  have hb := B.bytes
  have hr := B.returns
  have hts := atoms_spec (ws := wsX1_start) B.pre
  have hown : s.vm.findClass RX1 = some m.cls := findClass_of_methodNamed B.named
  have hlocks := B.notSynchronized
  subst hsz
  have hD := hD0.self (sz := s.heap.size)
  generalize hAe : va_A (wX1 cy h q2 q3 q6 q7 q10 c0 c1 c2 c3 c4 c5 c6 c7 c8 c9 c10) s.heap.size = A at hD ⊢
  have hA : ∀ q : Nat, s.heap.size ≤ q → A q := fun q h => by rw [← hAe]; exact Or.inr h
  have hS : va_S A s.heap s.heap [] := va_S.rf
  have hP : va_P (dC, dI) vwCl (wX1 cy h q2 q3 q6 q7 q10 c0 c1 c2 c3 c4 c5 c6 c7 c8 c9 c10) s.heap := hP
  have hl := lv_entry ([.ref h, .int a1, .int a2]) (n := 4) (Nat.le_of_ble_eq_true rfl)
  rw [lg_entry_eq]
  generalize (lg_sl ([.ref h, .int a1, .int a2]) ++ List.replicate (4 - (lg_sl ([.ref h, .int a1, .int a2])).length) Slot.unset).toArray = ls at hl ⊢
  have hl : lv_has ls 4 [(0, .ref h), (1, .int a1), (2, .int a2)] := hl
  have B12 : ∀ n : Nat, ∀ (x3 : Int32) (c4 : Int32) (c5 : Int32) (c6 : Nat → Int32) (H : Heap) (locs : List Loc) (ls : Array Slot), f_X1_start_b12 N n x3 c4 c5 c6 = some res → va_P (dC, dI) vwCl (wX1 cy h q2 q3 q6 q7 q10 c0 c1 c2 c3 c4 c5 c6 c7 c8 c9 c10) H → va_D A (wX1 cy h q2 q3 q6 q7 q10 c0 c1 c2 c3 c4 c5 c6 c7 c8 c9 c10) → va_S A s.heap H locs → lv_has ls 4 [(0, .ref h), (3, .int x3)] → W p l e rm_X1_start s m ([.ref h, .int a1, .int a2] : List Value).toArray below meth c H locs 0 0 (MQ below (z_qV dC dI cy (wX1 cy h q2 q3 q6 q7 q10 c0 c1 c2 c3 res.1 res.2.1 res.2.2 c7 c8 c9 c10) A) ([.ref h, .int a1, .int a2] : List Value).toArray s 0 0 A) (F0 m 12 ls []) := by
    clear hf hl hP hD hS
    intro n
    induction n with
    | zero =>
      intro x3 c4 c5 c6 H locs ls hf hP hD hS hl
      rw [f_X1_start_b12] at hf
      cases hf
    | succ n ih =>
      intro x3 c4 c5 c6 H locs ls hf hP hD hS hl
      rw [f_X1_start_b12] at hf
      refine lv_iload_n hx hb dX1_start_12 rfl (lv_at hl 1 rfl) ?_
      refine lv_bipush (v := (8 : Int32)) hx hb dX1_start_13 (by decide) ?_
      refine lv_icmp_ge (tgt := 32) hx hb dX1_start_15 (by decide) (fun c_15 => ?_) (fun c_15 => ?_)
      · replace hf := (if_pos c_15).symm.trans hf
        have hres := Option.some.inj hf
        subst hres
        have hP9 := hP.sub (ws' := (wX1 cy h q2 q3 q6 q7 q10 c0 c1 c2 c3 c4 c5 c6 c7 c8 c9 c10)) [0, 1, 2, 3, 4, 5] rfl
        have hD9 := hD.sub (ws' := (wX1 cy h q2 q3 q6 q7 q10 c0 c1 c2 c3 c4 c5 c6 c7 c8 c9 c10)) [0, 1, 2, 3, 4, 5] (by decide) rfl
        have hK9 := hK.sub (tys' := [(cy, .int)]) [0] rfl
        exact W.vret hx hb hr (fun t ht hW => ⟨⟨(), rfl, trivial, by rw [ht]; exact hP9, va_K.moved hW.alike hK9, hD9⟩, hS.F ht⟩) hS.2.2 dX1_start_32
      · replace hf := (if_neg c_15).symm.trans hf
        refine lv_aload_n hx hb dX1_start_18 rfl (lv_at hl 0 rfl) ?_
        refine va_get (D := (dC, dI)) (ci := 1) (v := .ref q6) (C := RX1) (T := TX1) (N := 11) hx hb hts (by decide +kernel) hown hK hP 0 rfl rfl 6 (by decide) (hts (.fieldLink RX1 23 "GiftLotsModel" "gives" "[I") (by decide +kernel)) (fun _ h9 => h9) rfl dX1_start_19 ?_
        refine lv_iload_n hx hb dX1_start_22 rfl (lv_at hl 1 rfl) ?_
        refine lv_bipush (v := (-6 : Int32)) hx hb dX1_start_23 (by decide) ?_
        obtain ⟨hi25, hf⟩ := z_gx_some hf
        refine va_iast hx hb hK hP hD hS 3 0 rfl rfl hi25 dX1_start_25 (fun H locs hP hD hS => ?_)
        have hP : va_P (dC, dI) vwCl (wX1 cy h q2 q3 q6 q7 q10 c0 c1 c2 c3 c4 c5 (upd c6 (x3).toNatClampNeg (-6 : Int32)) c7 c8 c9 c10) H := hP
        have hD : va_D A (wX1 cy h q2 q3 q6 q7 q10 c0 c1 c2 c3 c4 c5 (upd c6 (x3).toNatClampNeg (-6 : Int32)) c7 c8 c9 c10) := hD
        refine lv_iinc (v := x3 + (1 : Int32)) (lv' := [(3, .int (x3 + (1 : Int32))), (0, .ref h)]) hx hb dX1_start_26 hl (k := 1) rfl rfl (by decide) rfl (fun ls hl => ?_)
        refine lv_goto (tgt := 12) hx hb dX1_start_29 (by decide) ?_
        exact ih (x3 + (1 : Int32)) c4 c5 (upd c6 (x3).toNatClampNeg (-6 : Int32)) _ _ _ hf hP hD hS (lv_sub hl [1, 0] rfl)
  unfold f_X1_start at hf
  refine lv_aload_n hx hb dX1_start_0 rfl (lv_at hl 0 rfl) ?_
  refine lv_iload_n hx hb dX1_start_1 rfl (lv_at hl 1 rfl) ?_
  refine va_put (D := (dC, dI)) (ci := 1) (v := .int a1) (ty := .int) (C := RX1) (T := TX1) (N := 11) hx hb hts (by decide +kernel) tyX1 tyX1_ok nmX1 hown hK hP hD hS 0 rfl rfl 4 (by decide) (hts (.fieldLink RX1 46 "GiftLotsModel" "who" "I") (by decide +kernel)) (fun _ h9 => h9) rfl (by decide +kernel) rfl rfl (Nat.le_of_ble_eq_true rfl) dX1_start_2 (fun H locs hP hD hS => ?_)
  have hP : va_P (dC, dI) vwCl (wX1 cy h q2 q3 q6 q7 q10 c0 c1 c2 c3 a1 c5 c6 c7 c8 c9 c10) H := hP
  have hD : va_D A (wX1 cy h q2 q3 q6 q7 q10 c0 c1 c2 c3 a1 c5 c6 c7 c8 c9 c10) := hD
  refine lv_aload_n hx hb dX1_start_5 rfl (lv_at hl 0 rfl) ?_
  refine lv_iload_n hx hb dX1_start_6 rfl (lv_at hl 2 rfl) ?_
  obtain ⟨hb7, hf⟩ := z_gb_some hf
  refine va_put (D := (dC, dI)) (ci := 1) (v := .int a2) (ty := .boolean) (C := RX1) (T := TX1) (N := 11) hx hb hts (by decide +kernel) tyX1 tyX1_ok nmX1 hown hK hP hD hS 0 rfl rfl 5 (by decide) (hts (.fieldLink RX1 49 "GiftLotsModel" "anyRounds" "Z") (by decide +kernel)) (fun _ h9 => h9) rfl (by decide +kernel) (z_gb_nar hb7) (z_gb_fit hb7) (Nat.le_of_ble_eq_true rfl) dX1_start_7 (fun H locs hP hD hS => ?_)
  have hP : va_P (dC, dI) vwCl (wX1 cy h q2 q3 q6 q7 q10 c0 c1 c2 c3 a1 a2 c6 c7 c8 c9 c10) H := hP
  have hD : va_D A (wX1 cy h q2 q3 q6 q7 q10 c0 c1 c2 c3 a1 a2 c6 c7 c8 c9 c10) := hD
  refine lv_iconst (v := (0 : Int32)) hx hb dX1_start_10 (by decide) ?_
  refine lv_istore_n (lv' := [(3, .int (0 : Int32)), (0, .ref h), (1, .int a1), (2, .int a2)]) hx hb dX1_start_11 rfl hl (by decide) rfl (fun ls hl => ?_)
  exact B12 N (0 : Int32) a1 a2 c6 _ _ _ hf hP hD hS (lv_sub hl [1, 0] rfl)

set_option maxRecDepth 20000 in
theorem ggX1_after_X1_in : GoodIn wsX1_after wsX1_in := goodIn_r _ [6] (by decide +kernel) (by decide +kernel)
set_option maxRecDepth 20000 in
theorem gX1_after_X1_in : GoodIn wsX1_after (va_wsS RX1 35 yX1_in wsX1_in) := goodIn_app (goodIn_of _ (by decide +kernel)) ggX1_after_X1_in
theorem dX1_after_0 : decode cX1_after 0 = .ok (.iload_n 1, 1) := by decide +kernel
theorem dX1_after_1 : decode cX1_after 1 = .ok (.iload_n 2, 1) := by decide +kernel
theorem dX1_after_2 : decode cX1_after 2 = .ok (.iadd, 1) := by decide +kernel
theorem dX1_after_3 : decode cX1_after 3 = .ok (.istore_n 3, 1) := by decide +kernel
theorem dX1_after_4 : decode cX1_after 4 = .ok (.iload_n 3, 1) := by decide +kernel
theorem dX1_after_5 : decode cX1_after 5 = .ok (.iconst 0, 1) := by decide +kernel
theorem dX1_after_6 : decode cX1_after 6 = .ok (.aload_n 0, 1) := by decide +kernel
theorem dX1_after_7 : decode cX1_after 7 = .ok (.getfield 7, 3) := by decide +kernel
theorem dX1_after_10 : decode cX1_after 10 = .ok (.iconst 1, 1) := by decide +kernel
theorem dX1_after_11 : decode cX1_after 11 = .ok (.isub, 1) := by decide +kernel
theorem dX1_after_12 : decode cX1_after 12 = .ok (.invokestatic 35, 3) := by decide +kernel
theorem dX1_after_15 : decode cX1_after 15 = .ok (.ifCond .eq 21, 3) := by decide +kernel
theorem dX1_after_18 : decode cX1_after 18 = .ok (.aload_n 0, 1) := by decide +kernel
theorem dX1_after_19 : decode cX1_after 19 = .ok (.getfield 46, 3) := by decide +kernel
theorem dX1_after_22 : decode cX1_after 22 = .ok (.iload_n 3, 1) := by decide +kernel
theorem dX1_after_23 : decode cX1_after 23 = .ok (.ishr, 1) := by decide +kernel
theorem dX1_after_24 : decode cX1_after 24 = .ok (.iconst 1, 1) := by decide +kernel
theorem dX1_after_25 : decode cX1_after 25 = .ok (.iand, 1) := by decide +kernel
theorem dX1_after_26 : decode cX1_after 26 = .ok (.ifCond .ne 10, 3) := by decide +kernel
theorem dX1_after_29 : decode cX1_after 29 = .ok (.iload_n 3, 1) := by decide +kernel
theorem dX1_after_30 : decode cX1_after 30 = .ok (.iload_n 2, 1) := by decide +kernel
theorem dX1_after_31 : decode cX1_after 31 = .ok (.iadd, 1) := by decide +kernel
theorem dX1_after_32 : decode cX1_after 32 = .ok (.istore_n 3, 1) := by decide +kernel
theorem dX1_after_33 : decode cX1_after 33 = .ok (.goto (-29), 3) := by decide +kernel
theorem dX1_after_36 : decode cX1_after 36 = .ok (.iload_n 3, 1) := by decide +kernel
theorem dX1_after_37 : decode cX1_after 37 = .ok (.ireturn, 1) := by decide +kernel
abbrev rm_X1_after : Room := { frames := 1, cells := 0, slots := 0, locals := 22 }
set_option maxHeartbeats 4000000 in
set_option maxRecDepth 100000 in
theorem c_X1_after (N : Nat) (l : Launch) (dC : Nat → ClassId) (dI : Nat → Nat → Nat) (cy : ClassId) (h q2 q3 q6 q7 q10 : Nat) (sz : Nat) (c0 : Int32) (c1 : Int32) (c2 : Nat → Int32) (c3 : Nat → Int32) (c4 : Int32) (c5 : Int32) (c6 : Nat → Int32) (c7 : Nat → Int32) (c8 : Int32) (c9 : Int32) (c10 : Nat → Int32) (a1 a2 : Int32) (res : Int32) (hf : f_X1_after N a1 a2 c0 c4 = some res) : Met l yX1_after wsX1_after rm_X1_after (va_Pc [.ref h, .int a1, .int a2] (fun U => U.heap.size = sz ∧ va_P (dC, dI) vwCl (wX1 cy h q2 q3 q6 q7 q10 c0 c1 c2 c3 c4 c5 c6 c7 c8 c9 c10) U.heap ∧ va_K (dC, dI) vwCl [(cy, .int)] U ∧ va_D (fun _ => True) (wX1 cy h q2 q3 q6 q7 q10 c0 c1 c2 c3 c4 c5 c6 c7 c8 c9 c10))) (z_qI dC dI cy res (wX1 cy h q2 q3 q6 q7 q10 c0 c1 c2 c3 c4 c5 c6 c7 c8 c9 c10) (va_A (wX1 cy h q2 q3 q6 q7 q10 c0 c1 c2 c3 c4 c5 c6 c7 c8 c9 c10) sz)) 0 0 (va_A (wX1 cy h q2 q3 q6 q7 q10 c0 c1 c2 c3 c4 c5 c6 c7 c8 c9 c10) sz) := by
  refine Met.ofW (cc := cX1_after) (maxL := 4) (ret := (some .int)) (by decide) rfl ?_
  intro p e s m args below meth c s₁ B hml hv
  obtain ⟨rfl, hsz, hP, hK, hD0⟩ := hv
  have hx := B.exec
  have hb := B.bytes
  have hr := B.returns
  have hts := atoms_spec (ws := wsX1_after) B.pre
  have hown : s.vm.findClass RX1 = some m.cls := findClass_of_methodNamed B.named
  have hlocks := B.notSynchronized
  subst hsz
  have hD := hD0.self (sz := s.heap.size)
  generalize hAe : va_A (wX1 cy h q2 q3 q6 q7 q10 c0 c1 c2 c3 c4 c5 c6 c7 c8 c9 c10) s.heap.size = A at hD ⊢
  have hA : ∀ q : Nat, s.heap.size ≤ q → A q := fun q h => by rw [← hAe]; exact Or.inr h
  have hS : va_S A s.heap s.heap [] := va_S.rf
  have hP : va_P (dC, dI) vwCl (wX1 cy h q2 q3 q6 q7 q10 c0 c1 c2 c3 c4 c5 c6 c7 c8 c9 c10) s.heap := hP
  have hl := lv_entry ([.ref h, .int a1, .int a2]) (n := 4) (Nat.le_of_ble_eq_true rfl)
  rw [lg_entry_eq]
  generalize (lg_sl ([.ref h, .int a1, .int a2]) ++ List.replicate (4 - (lg_sl ([.ref h, .int a1, .int a2])).length) Slot.unset).toArray = ls at hl ⊢
  have hl : lv_has ls 4 [(0, .ref h), (1, .int a1), (2, .int a2)] := hl
  have B36 : ∀ (x3 : Int32) (H : Heap) (locs : List Loc) (ls : Array Slot), f_X1_after_b36 N c0 c4 x3 = some res → va_P (dC, dI) vwCl (wX1 cy h q2 q3 q6 q7 q10 c0 c1 c2 c3 c4 c5 c6 c7 c8 c9 c10) H → va_D A (wX1 cy h q2 q3 q6 q7 q10 c0 c1 c2 c3 c4 c5 c6 c7 c8 c9 c10) → va_S A s.heap H locs → lv_has ls 4 [(0, .ref h), (3, .int x3)] → W p l e rm_X1_after s m ([.ref h, .int a1, .int a2] : List Value).toArray below meth c H locs 0 0 (MQ below (z_qI dC dI cy res (wX1 cy h q2 q3 q6 q7 q10 c0 c1 c2 c3 c4 c5 c6 c7 c8 c9 c10) A) ([.ref h, .int a1, .int a2] : List Value).toArray s 0 0 A) (F0 m 36 ls []) := by
    clear hf hl hP hD hS
    intro x3 H locs ls hf hP hD hS hl
    unfold f_X1_after_b36 at hf
    refine lv_iload_n hx hb dX1_after_36 rfl (lv_at hl 1 rfl) ?_
    have hres := Option.some.inj hf
    subst hres
    have hP9 := hP.sub (ws' := (wX1 cy h q2 q3 q6 q7 q10 c0 c1 c2 c3 c4 c5 c6 c7 c8 c9 c10)) [0, 1, 2, 3, 4, 5] rfl
    have hD9 := hD.sub (ws' := (wX1 cy h q2 q3 q6 q7 q10 c0 c1 c2 c3 c4 c5 c6 c7 c8 c9 c10)) [0, 1, 2, 3, 4, 5] (by decide) rfl
    have hK9 := hK.sub (tys' := [(cy, .int)]) [0] rfl
    exact W.iret (v := x3) hx hb hr (fun t ht hW => ⟨⟨x3, (), rfl, rfl, by rw [ht]; exact hP9, va_K.moved hW.alike hK9, hD9⟩, hS.F ht⟩) hS.2.2 dX1_after_37
  have B4 : ∀ n : Nat, ∀ (x2 x3 : Int32) (H : Heap) (locs : List Loc) (ls : Array Slot), f_X1_after_b4 N c0 c4 n x2 x3 = some res → va_P (dC, dI) vwCl (wX1 cy h q2 q3 q6 q7 q10 c0 c1 c2 c3 c4 c5 c6 c7 c8 c9 c10) H → va_D A (wX1 cy h q2 q3 q6 q7 q10 c0 c1 c2 c3 c4 c5 c6 c7 c8 c9 c10) → va_S A s.heap H locs → lv_has ls 4 [(0, .ref h), (2, .int x2), (3, .int x3)] → W p l e rm_X1_after s m ([.ref h, .int a1, .int a2] : List Value).toArray below meth c H locs 0 0 (MQ below (z_qI dC dI cy res (wX1 cy h q2 q3 q6 q7 q10 c0 c1 c2 c3 c4 c5 c6 c7 c8 c9 c10) A) ([.ref h, .int a1, .int a2] : List Value).toArray s 0 0 A) (F0 m 4 ls []) := by
    clear hf hl hP hD hS
    intro n
    induction n with
    | zero =>
      intro x2 x3 H locs ls hf hP hD hS hl
      rw [f_X1_after_b4] at hf
      cases hf
    | succ n ih =>
      intro x2 x3 H locs ls hf hP hD hS hl
      rw [f_X1_after_b4] at hf
      refine lv_iload_n hx hb dX1_after_4 rfl (lv_at hl 2 rfl) ?_
      refine lv_iconst (v := (0 : Int32)) hx hb dX1_after_5 (by decide) ?_
      refine lv_aload_n hx hb dX1_after_6 rfl (lv_at hl 0 rfl) ?_
      refine va_get (D := (dC, dI)) (ci := 1) (v := .int c0) (C := RX1) (T := TX1) (N := 11) hx hb hts (by decide +kernel) hown hK hP 0 rfl rfl 0 (by decide) (hts (.fieldLink RX1 7 "GiftLotsModel" "ones" "I") (by decide +kernel)) (fun _ h9 => h9) rfl dX1_after_7 ?_
      refine lv_iconst (v := (1 : Int32)) hx hb dX1_after_10 (by decide) ?_
      refine lv_isub hx hb dX1_after_11 ?_
      obtain ⟨u12, hu12, hf⟩ := z_ob_some hf
      have hPc := hP.sub (ws' := ([] : va_W)) [] rfl
      have hDc := hD.sub (ws' := ([] : va_W)) [] (by decide) rfl
      have hKc := hK.sub (tys' := [(cy, .int)]) [0] rfl
      have hFc := va_free (wc := ([] : va_W)) hD hS hA [] rfl
      refine va_calli (va_runS (As := [.int x3, .int (0 : Int32), .int (c0 - (1 : Int32))]) (rest := []) ⟨hx, hb, hml, hown, hts⟩ (c_X1_in N l dC dI cy H.size x3 (0 : Int32) (c0 - (1 : Int32)) u12 hu12) (va_cwS 3 hts gX1_after_X1_in rfl rfl rfl (by decide +kernel) ⟨Nat.le_of_ble_eq_true rfl, Nat.le_of_ble_eq_true rfl⟩) ⟨fun a U g mk q => by obtain ⟨q0, q1, qP, qK, qD⟩ := q; exact ⟨q0, q1, qP, va_K.moved (u := U) (U := U.calling g mk a) (Vm.Alike.refl U.vm) qK, qD⟩, fun U hU hW => ⟨rfl, by rw [hU], by rw [hU]; exact hPc, va_K.moved hW.alike hKc, hDc.weaken (fun _ _ _ _ => trivial)⟩⟩ rfl rfl hl.1 rfl (lv_room (Nat.le_of_ble_eq_true rfl)) dX1_after_12 ⟨Nat.zero_le _, Nat.zero_le _⟩) hS (fun q _ h => hFc q h) hFc (fun r_12 uu_ t H1 locs ht hvm hw hB hz1 hk1 hS => ?_)
      replace hw := hw.symm
      subst hw
      obtain ⟨hP1, -, hD1⟩ := hB
      rw [ht] at hP1
      obtain ⟨hP, hD⟩ := va_join (wr := (wX1 cy h q2 q3 q6 q7 q10 c0 c1 c2 c3 c4 c5 c6 c7 c8 c9 c10)) (w1 := ([] : va_W)) hP hD [] [0, 1, 2, 3, 4, 5] rfl rfl (by decide) (by decide) hk1 hFc hP1 hD1
      clear hk1 hz1 hP1 hD1 ht hPc hDc hFc
      generalize H1 = H at hP hS ⊢
      have hP : va_P (dC, dI) vwCl (wX1 cy h q2 q3 q6 q7 q10 c0 c1 c2 c3 c4 c5 c6 c7 c8 c9 c10) H := hP
      have hD : va_D A (wX1 cy h q2 q3 q6 q7 q10 c0 c1 c2 c3 c4 c5 c6 c7 c8 c9 c10) := hD
      refine lv_if_eq (tgt := 36) hx hb dX1_after_15 (by decide) (fun c_15 => ?_) (fun c_15 => ?_)
      · replace hf := (if_pos c_15).symm.trans hf
        exact B36 x3 _ _ _ hf hP hD hS (lv_sub hl [0, 2] rfl)
      · replace hf := (if_neg c_15).symm.trans hf
        refine lv_aload_n hx hb dX1_after_18 rfl (lv_at hl 0 rfl) ?_
        refine va_get (D := (dC, dI)) (ci := 1) (v := .int c4) (C := RX1) (T := TX1) (N := 11) hx hb hts (by decide +kernel) hown hK hP 0 rfl rfl 4 (by decide) (hts (.fieldLink RX1 46 "GiftLotsModel" "who" "I") (by decide +kernel)) (fun _ h9 => h9) rfl dX1_after_19 ?_
        refine lv_iload_n hx hb dX1_after_22 rfl (lv_at hl 2 rfl) ?_
        refine lv_ishr hx hb dX1_after_23 ?_
        refine lv_iconst (v := (1 : Int32)) hx hb dX1_after_24 (by decide) ?_
        refine lv_iand hx hb dX1_after_25 ?_
        refine lv_if_ne (tgt := 36) hx hb dX1_after_26 (by decide) (fun c_26 => ?_) (fun c_26 => ?_)
        · replace hf := (if_neg c_26).symm.trans hf
          exact B36 x3 _ _ _ hf hP hD hS (lv_sub hl [0, 2] rfl)
        · replace hf := (if_pos c_26).symm.trans hf
          refine lv_iload_n hx hb dX1_after_29 rfl (lv_at hl 2 rfl) ?_
          refine lv_iload_n hx hb dX1_after_30 rfl (lv_at hl 1 rfl) ?_
          refine lv_iadd hx hb dX1_after_31 ?_
          refine lv_istore_n (lv' := [(3, .int (x3 + x2)), (0, .ref h), (2, .int x2)]) hx hb dX1_after_32 rfl hl (by decide) rfl (fun ls hl => ?_)
          refine lv_goto (tgt := 4) hx hb dX1_after_33 (by decide) ?_
          exact ih x2 (x3 + x2) _ _ _ hf hP hD hS (lv_sub hl [1, 2, 0] rfl)
  unfold f_X1_after at hf
  refine lv_iload_n hx hb dX1_after_0 rfl (lv_at hl 1 rfl) ?_
  refine lv_iload_n hx hb dX1_after_1 rfl (lv_at hl 2 rfl) ?_
  refine lv_iadd hx hb dX1_after_2 ?_
  refine lv_istore_n (lv' := [(3, .int (a1 + a2)), (0, .ref h), (1, .int a1), (2, .int a2)]) hx hb dX1_after_3 rfl hl (by decide) rfl (fun ls hl => ?_)
  exact B4 N a2 (a1 + a2) _ _ _ hf hP hD hS (lv_sub hl [1, 3, 0] rfl)

theorem dX1_gotten_0 : decode cX1_gotten 0 = .ok (.iconst 0, 1) := by decide +kernel
theorem dX1_gotten_1 : decode cX1_gotten 1 = .ok (.istore_n 1, 1) := by decide +kernel
theorem dX1_gotten_2 : decode cX1_gotten 2 = .ok (.iconst 0, 1) := by decide +kernel
theorem dX1_gotten_3 : decode cX1_gotten 3 = .ok (.istore_n 2, 1) := by decide +kernel
theorem dX1_gotten_4 : decode cX1_gotten 4 = .ok (.iload_n 2, 1) := by decide +kernel
theorem dX1_gotten_5 : decode cX1_gotten 5 = .ok (.aload_n 0, 1) := by decide +kernel
theorem dX1_gotten_6 : decode cX1_gotten 6 = .ok (.getfield 7, 3) := by decide +kernel
theorem dX1_gotten_9 : decode cX1_gotten 9 = .ok (.if_icmp .ge 33, 3) := by decide +kernel
theorem dX1_gotten_12 : decode cX1_gotten 12 = .ok (.iload_n 1, 1) := by decide +kernel
theorem dX1_gotten_13 : decode cX1_gotten 13 = .ok (.aload_n 0, 1) := by decide +kernel
theorem dX1_gotten_14 : decode cX1_gotten 14 = .ok (.getfield 23, 3) := by decide +kernel
theorem dX1_gotten_17 : decode cX1_gotten 17 = .ok (.iload_n 2, 1) := by decide +kernel
theorem dX1_gotten_18 : decode cX1_gotten 18 = .ok (.iaload, 1) := by decide +kernel
theorem dX1_gotten_19 : decode cX1_gotten 19 = .ok (.ifCond .lt 14, 3) := by decide +kernel
theorem dX1_gotten_22 : decode cX1_gotten 22 = .ok (.iconst 1, 1) := by decide +kernel
theorem dX1_gotten_23 : decode cX1_gotten 23 = .ok (.aload_n 0, 1) := by decide +kernel
theorem dX1_gotten_24 : decode cX1_gotten 24 = .ok (.getfield 23, 3) := by decide +kernel
theorem dX1_gotten_27 : decode cX1_gotten 27 = .ok (.iload_n 2, 1) := by decide +kernel
theorem dX1_gotten_28 : decode cX1_gotten 28 = .ok (.iaload, 1) := by decide +kernel
theorem dX1_gotten_29 : decode cX1_gotten 29 = .ok (.ishl, 1) := by decide +kernel
theorem dX1_gotten_30 : decode cX1_gotten 30 = .ok (.goto 4, 3) := by decide +kernel
theorem dX1_gotten_33 : decode cX1_gotten 33 = .ok (.iconst 0, 1) := by decide +kernel
theorem dX1_gotten_34 : decode cX1_gotten 34 = .ok (.ior, 1) := by decide +kernel
theorem dX1_gotten_35 : decode cX1_gotten 35 = .ok (.istore_n 1, 1) := by decide +kernel
theorem dX1_gotten_36 : decode cX1_gotten 36 = .ok (.iinc 2 1, 3) := by decide +kernel
theorem dX1_gotten_39 : decode cX1_gotten 39 = .ok (.goto (-35), 3) := by decide +kernel
theorem dX1_gotten_42 : decode cX1_gotten 42 = .ok (.iload_n 1, 1) := by decide +kernel
theorem dX1_gotten_43 : decode cX1_gotten 43 = .ok (.ireturn, 1) := by decide +kernel
abbrev rm_X1_gotten : Room := { frames := 0, cells := 0, slots := 0, locals := 0 }
set_option maxHeartbeats 4000000 in
set_option maxRecDepth 100000 in
theorem c_X1_gotten (N : Nat) (l : Launch) (dC : Nat → ClassId) (dI : Nat → Nat → Nat) (cy : ClassId) (h q2 q3 q6 q7 q10 : Nat) (sz : Nat) (c0 : Int32) (c1 : Int32) (c2 : Nat → Int32) (c3 : Nat → Int32) (c4 : Int32) (c5 : Int32) (c6 : Nat → Int32) (c7 : Nat → Int32) (c8 : Int32) (c9 : Int32) (c10 : Nat → Int32) (res : Int32) (hf : f_X1_gotten N c0 c6 = some res) : Met l yX1_gotten wsX1_gotten rm_X1_gotten (va_Pc [.ref h] (fun U => U.heap.size = sz ∧ va_P (dC, dI) vwCl (wX1 cy h q2 q3 q6 q7 q10 c0 c1 c2 c3 c4 c5 c6 c7 c8 c9 c10) U.heap ∧ va_K (dC, dI) vwCl [(cy, .int)] U ∧ va_D (fun _ => True) (wX1 cy h q2 q3 q6 q7 q10 c0 c1 c2 c3 c4 c5 c6 c7 c8 c9 c10))) (z_qI dC dI cy res (wX1 cy h q2 q3 q6 q7 q10 c0 c1 c2 c3 c4 c5 c6 c7 c8 c9 c10) (va_A (wX1 cy h q2 q3 q6 q7 q10 c0 c1 c2 c3 c4 c5 c6 c7 c8 c9 c10) sz)) 0 0 (va_A (wX1 cy h q2 q3 q6 q7 q10 c0 c1 c2 c3 c4 c5 c6 c7 c8 c9 c10) sz) := by
  refine Met.ofW (cc := cX1_gotten) (maxL := 3) (ret := (some .int)) (by decide) rfl ?_
  intro p e s m args below meth c s₁ B hml hv
  obtain ⟨rfl, hsz, hP, hK, hD0⟩ := hv
  have hx := B.exec
  have hb := B.bytes
  have hr := B.returns
  have hts := atoms_spec (ws := wsX1_gotten) B.pre
  have hown : s.vm.findClass RX1 = some m.cls := findClass_of_methodNamed B.named
  have hlocks := B.notSynchronized
  subst hsz
  have hD := hD0.self (sz := s.heap.size)
  generalize hAe : va_A (wX1 cy h q2 q3 q6 q7 q10 c0 c1 c2 c3 c4 c5 c6 c7 c8 c9 c10) s.heap.size = A at hD ⊢
  have hA : ∀ q : Nat, s.heap.size ≤ q → A q := fun q h => by rw [← hAe]; exact Or.inr h
  have hS : va_S A s.heap s.heap [] := va_S.rf
  have hP : va_P (dC, dI) vwCl (wX1 cy h q2 q3 q6 q7 q10 c0 c1 c2 c3 c4 c5 c6 c7 c8 c9 c10) s.heap := hP
  have hl := lv_entry ([.ref h]) (n := 3) (Nat.le_of_ble_eq_true rfl)
  rw [lg_entry_eq]
  generalize (lg_sl ([.ref h]) ++ List.replicate (3 - (lg_sl ([.ref h])).length) Slot.unset).toArray = ls at hl ⊢
  have hl : lv_has ls 3 [(0, .ref h)] := hl
  have B34 : ∀ (r4 : Int32 → Int32 → Option (Int32)), (∀ (x1 x2 : Int32) (H : Heap) (locs : List Loc) (ls : Array Slot), r4 x1 x2 = some res → va_P (dC, dI) vwCl (wX1 cy h q2 q3 q6 q7 q10 c0 c1 c2 c3 c4 c5 c6 c7 c8 c9 c10) H → va_D A (wX1 cy h q2 q3 q6 q7 q10 c0 c1 c2 c3 c4 c5 c6 c7 c8 c9 c10) → va_S A s.heap H locs → lv_has ls 3 [(0, .ref h), (1, .int x1), (2, .int x2)] → W p l e rm_X1_gotten s m ([.ref h] : List Value).toArray below meth c H locs 0 0 (MQ below (z_qI dC dI cy res (wX1 cy h q2 q3 q6 q7 q10 c0 c1 c2 c3 c4 c5 c6 c7 c8 c9 c10) A) ([.ref h] : List Value).toArray s 0 0 A) (F0 m 4 ls [])) → ∀ (x2 t0 t1 : Int32) (H : Heap) (locs : List Loc) (ls : Array Slot), f_X1_gotten_b34 N c0 c6 r4 x2 t0 t1 = some res → va_P (dC, dI) vwCl (wX1 cy h q2 q3 q6 q7 q10 c0 c1 c2 c3 c4 c5 c6 c7 c8 c9 c10) H → va_D A (wX1 cy h q2 q3 q6 q7 q10 c0 c1 c2 c3 c4 c5 c6 c7 c8 c9 c10) → va_S A s.heap H locs → lv_has ls 3 [(0, .ref h), (2, .int x2)] → W p l e rm_X1_gotten s m ([.ref h] : List Value).toArray below meth c H locs 0 0 (MQ below (z_qI dC dI cy res (wX1 cy h q2 q3 q6 q7 q10 c0 c1 c2 c3 c4 c5 c6 c7 c8 c9 c10) A) ([.ref h] : List Value).toArray s 0 0 A) (F0 m 34 ls [.int t1, .int t0]) := by
    clear hf hl hP hD hS
    intro r4 hr4
    intro x2 t0 t1 H locs ls hf hP hD hS hl
    unfold f_X1_gotten_b34 at hf
    refine lv_ior hx hb dX1_gotten_34 ?_
    refine lv_istore_n (lv' := [(1, .int (t0 ||| t1)), (0, .ref h), (2, .int x2)]) hx hb dX1_gotten_35 rfl hl (by decide) rfl (fun ls hl => ?_)
    refine lv_iinc (v := x2 + (1 : Int32)) (lv' := [(2, .int (x2 + (1 : Int32))), (1, .int (t0 ||| t1)), (0, .ref h)]) hx hb dX1_gotten_36 hl (k := 2) rfl rfl (by decide) rfl (fun ls hl => ?_)
    refine lv_goto (tgt := 4) hx hb dX1_gotten_39 (by decide) ?_
    exact hr4 (t0 ||| t1) (x2 + (1 : Int32)) _ _ _ hf hP hD hS (lv_sub hl [2, 1, 0] rfl)
  have B4 : ∀ n : Nat, ∀ (x1 x2 : Int32) (H : Heap) (locs : List Loc) (ls : Array Slot), f_X1_gotten_b4 N c0 c6 n x1 x2 = some res → va_P (dC, dI) vwCl (wX1 cy h q2 q3 q6 q7 q10 c0 c1 c2 c3 c4 c5 c6 c7 c8 c9 c10) H → va_D A (wX1 cy h q2 q3 q6 q7 q10 c0 c1 c2 c3 c4 c5 c6 c7 c8 c9 c10) → va_S A s.heap H locs → lv_has ls 3 [(0, .ref h), (1, .int x1), (2, .int x2)] → W p l e rm_X1_gotten s m ([.ref h] : List Value).toArray below meth c H locs 0 0 (MQ below (z_qI dC dI cy res (wX1 cy h q2 q3 q6 q7 q10 c0 c1 c2 c3 c4 c5 c6 c7 c8 c9 c10) A) ([.ref h] : List Value).toArray s 0 0 A) (F0 m 4 ls []) := by
    clear hf hl hP hD hS
    intro n
    induction n with
    | zero =>
      intro x1 x2 H locs ls hf hP hD hS hl
      rw [f_X1_gotten_b4] at hf
      cases hf
    | succ n ih =>
      intro x1 x2 H locs ls hf hP hD hS hl
      rw [f_X1_gotten_b4] at hf
      refine lv_iload_n hx hb dX1_gotten_4 rfl (lv_at hl 2 rfl) ?_
      refine lv_aload_n hx hb dX1_gotten_5 rfl (lv_at hl 0 rfl) ?_
      refine va_get (D := (dC, dI)) (ci := 1) (v := .int c0) (C := RX1) (T := TX1) (N := 11) hx hb hts (by decide +kernel) hown hK hP 0 rfl rfl 0 (by decide) (hts (.fieldLink RX1 7 "GiftLotsModel" "ones" "I") (by decide +kernel)) (fun _ h9 => h9) rfl dX1_gotten_6 ?_
      refine lv_icmp_ge (tgt := 42) hx hb dX1_gotten_9 (by decide) (fun c_9 => ?_) (fun c_9 => ?_)
      · replace hf := (if_pos c_9).symm.trans hf
        refine lv_iload_n hx hb dX1_gotten_42 rfl (lv_at hl 1 rfl) ?_
        have hres := Option.some.inj hf
        subst hres
        have hP9 := hP.sub (ws' := (wX1 cy h q2 q3 q6 q7 q10 c0 c1 c2 c3 c4 c5 c6 c7 c8 c9 c10)) [0, 1, 2, 3, 4, 5] rfl
        have hD9 := hD.sub (ws' := (wX1 cy h q2 q3 q6 q7 q10 c0 c1 c2 c3 c4 c5 c6 c7 c8 c9 c10)) [0, 1, 2, 3, 4, 5] (by decide) rfl
        have hK9 := hK.sub (tys' := [(cy, .int)]) [0] rfl
        exact W.iret (v := x1) hx hb hr (fun t ht hW => ⟨⟨x1, (), rfl, rfl, by rw [ht]; exact hP9, va_K.moved hW.alike hK9, hD9⟩, hS.F ht⟩) hS.2.2 dX1_gotten_43
      · replace hf := (if_neg c_9).symm.trans hf
        refine lv_iload_n hx hb dX1_gotten_12 rfl (lv_at hl 1 rfl) ?_
        refine lv_aload_n hx hb dX1_gotten_13 rfl (lv_at hl 0 rfl) ?_
        refine va_get (D := (dC, dI)) (ci := 1) (v := .ref q6) (C := RX1) (T := TX1) (N := 11) hx hb hts (by decide +kernel) hown hK hP 0 rfl rfl 6 (by decide) (hts (.fieldLink RX1 23 "GiftLotsModel" "gives" "[I") (by decide +kernel)) (fun _ h9 => h9) rfl dX1_gotten_14 ?_
        refine lv_iload_n hx hb dX1_gotten_17 rfl (lv_at hl 2 rfl) ?_
        obtain ⟨hi18, hf⟩ := z_gx_some hf
        refine va_iald hx hb hK hP 3 0 rfl rfl hi18 dX1_gotten_18 ?_
        refine lv_if_lt (tgt := 33) hx hb dX1_gotten_19 (by decide) (fun c_19 => ?_) (fun c_19 => ?_)
        · replace hf := (if_pos c_19).symm.trans hf
          refine lv_iconst (v := (0 : Int32)) hx hb dX1_gotten_33 (by decide) ?_
          exact B34 (f_X1_gotten_b4 N c0 c6 n) ih x2 x1 (0 : Int32) _ _ _ hf hP hD hS (lv_sub hl [0, 2] rfl)
        · replace hf := (if_neg c_19).symm.trans hf
          refine lv_iconst (v := (1 : Int32)) hx hb dX1_gotten_22 (by decide) ?_
          refine lv_aload_n hx hb dX1_gotten_23 rfl (lv_at hl 0 rfl) ?_
          refine va_get (D := (dC, dI)) (ci := 1) (v := .ref q6) (C := RX1) (T := TX1) (N := 11) hx hb hts (by decide +kernel) hown hK hP 0 rfl rfl 6 (by decide) (hts (.fieldLink RX1 23 "GiftLotsModel" "gives" "[I") (by decide +kernel)) (fun _ h9 => h9) rfl dX1_gotten_24 ?_
          refine lv_iload_n hx hb dX1_gotten_27 rfl (lv_at hl 2 rfl) ?_
          obtain ⟨hi28, hf⟩ := z_gx_some hf
          refine va_iald hx hb hK hP 3 0 rfl rfl hi28 dX1_gotten_28 ?_
          refine lv_ishl hx hb dX1_gotten_29 ?_
          refine lv_goto (tgt := 34) hx hb dX1_gotten_30 (by decide) ?_
          exact B34 (f_X1_gotten_b4 N c0 c6 n) ih x2 x1 ((1 : Int32) <<< ((c6 (x2).toNatClampNeg) &&& 31)) _ _ _ hf hP hD hS (lv_sub hl [0, 2] rfl)
  unfold f_X1_gotten at hf
  refine lv_iconst (v := (0 : Int32)) hx hb dX1_gotten_0 (by decide) ?_
  refine lv_istore_n (lv' := [(1, .int (0 : Int32)), (0, .ref h)]) hx hb dX1_gotten_1 rfl hl (by decide) rfl (fun ls hl => ?_)
  refine lv_iconst (v := (0 : Int32)) hx hb dX1_gotten_2 (by decide) ?_
  refine lv_istore_n (lv' := [(2, .int (0 : Int32)), (1, .int (0 : Int32)), (0, .ref h)]) hx hb dX1_gotten_3 rfl hl (by decide) rfl (fun ls hl => ?_)
  exact B4 N (0 : Int32) (0 : Int32) _ _ _ hf hP hD hS (lv_sub hl [2, 1, 0] rfl)

theorem dX1_roundOf_0 : decode cX1_roundOf 0 = .ok (.iconst 1, 1) := by decide +kernel
theorem dX1_roundOf_1 : decode cX1_roundOf 1 = .ok (.istore_n 2, 1) := by decide +kernel
theorem dX1_roundOf_2 : decode cX1_roundOf 2 = .ok (.aload_n 0, 1) := by decide +kernel
theorem dX1_roundOf_3 : decode cX1_roundOf 3 = .ok (.getfield 23, 3) := by decide +kernel
theorem dX1_roundOf_6 : decode cX1_roundOf 6 = .ok (.iload_n 1, 1) := by decide +kernel
theorem dX1_roundOf_7 : decode cX1_roundOf 7 = .ok (.iaload, 1) := by decide +kernel
theorem dX1_roundOf_8 : decode cX1_roundOf 8 = .ok (.istore_n 3, 1) := by decide +kernel
theorem dX1_roundOf_9 : decode cX1_roundOf 9 = .ok (.iload_n 3, 1) := by decide +kernel
theorem dX1_roundOf_10 : decode cX1_roundOf 10 = .ok (.iload_n 1, 1) := by decide +kernel
theorem dX1_roundOf_11 : decode cX1_roundOf 11 = .ok (.if_icmp .eq 16, 3) := by decide +kernel
theorem dX1_roundOf_14 : decode cX1_roundOf 14 = .ok (.iinc 2 1, 3) := by decide +kernel
theorem dX1_roundOf_17 : decode cX1_roundOf 17 = .ok (.aload_n 0, 1) := by decide +kernel
theorem dX1_roundOf_18 : decode cX1_roundOf 18 = .ok (.getfield 23, 3) := by decide +kernel
theorem dX1_roundOf_21 : decode cX1_roundOf 21 = .ok (.iload_n 3, 1) := by decide +kernel
theorem dX1_roundOf_22 : decode cX1_roundOf 22 = .ok (.iaload, 1) := by decide +kernel
theorem dX1_roundOf_23 : decode cX1_roundOf 23 = .ok (.istore_n 3, 1) := by decide +kernel
theorem dX1_roundOf_24 : decode cX1_roundOf 24 = .ok (.goto (-15), 3) := by decide +kernel
theorem dX1_roundOf_27 : decode cX1_roundOf 27 = .ok (.iload_n 2, 1) := by decide +kernel
theorem dX1_roundOf_28 : decode cX1_roundOf 28 = .ok (.ireturn, 1) := by decide +kernel
abbrev rm_X1_roundOf : Room := { frames := 0, cells := 0, slots := 0, locals := 0 }
set_option maxHeartbeats 4000000 in
set_option maxRecDepth 100000 in
theorem c_X1_roundOf (N : Nat) (l : Launch) (dC : Nat → ClassId) (dI : Nat → Nat → Nat) (cy : ClassId) (h q2 q3 q6 q7 q10 : Nat) (sz : Nat) (c0 : Int32) (c1 : Int32) (c2 : Nat → Int32) (c3 : Nat → Int32) (c4 : Int32) (c5 : Int32) (c6 : Nat → Int32) (c7 : Nat → Int32) (c8 : Int32) (c9 : Int32) (c10 : Nat → Int32) (a1 : Int32) (res : Int32) (hf : f_X1_roundOf N a1 c6 = some res) : Met l yX1_roundOf wsX1_roundOf rm_X1_roundOf (va_Pc [.ref h, .int a1] (fun U => U.heap.size = sz ∧ va_P (dC, dI) vwCl (wX1 cy h q2 q3 q6 q7 q10 c0 c1 c2 c3 c4 c5 c6 c7 c8 c9 c10) U.heap ∧ va_K (dC, dI) vwCl [(cy, .int)] U ∧ va_D (fun _ => True) (wX1 cy h q2 q3 q6 q7 q10 c0 c1 c2 c3 c4 c5 c6 c7 c8 c9 c10))) (z_qI dC dI cy res (wX1 cy h q2 q3 q6 q7 q10 c0 c1 c2 c3 c4 c5 c6 c7 c8 c9 c10) (va_A (wX1 cy h q2 q3 q6 q7 q10 c0 c1 c2 c3 c4 c5 c6 c7 c8 c9 c10) sz)) 0 0 (va_A (wX1 cy h q2 q3 q6 q7 q10 c0 c1 c2 c3 c4 c5 c6 c7 c8 c9 c10) sz) := by
  refine Met.ofW (cc := cX1_roundOf) (maxL := 4) (ret := (some .int)) (by decide) rfl ?_
  intro p e s m args below meth c s₁ B hml hv
  obtain ⟨rfl, hsz, hP, hK, hD0⟩ := hv
  have hx := B.exec
  have hb := B.bytes
  have hr := B.returns
  have hts := atoms_spec (ws := wsX1_roundOf) B.pre
  have hown : s.vm.findClass RX1 = some m.cls := findClass_of_methodNamed B.named
  have hlocks := B.notSynchronized
  subst hsz
  have hD := hD0.self (sz := s.heap.size)
  generalize hAe : va_A (wX1 cy h q2 q3 q6 q7 q10 c0 c1 c2 c3 c4 c5 c6 c7 c8 c9 c10) s.heap.size = A at hD ⊢
  have hA : ∀ q : Nat, s.heap.size ≤ q → A q := fun q h => by rw [← hAe]; exact Or.inr h
  have hS : va_S A s.heap s.heap [] := va_S.rf
  have hP : va_P (dC, dI) vwCl (wX1 cy h q2 q3 q6 q7 q10 c0 c1 c2 c3 c4 c5 c6 c7 c8 c9 c10) s.heap := hP
  have hl := lv_entry ([.ref h, .int a1]) (n := 4) (Nat.le_of_ble_eq_true rfl)
  rw [lg_entry_eq]
  generalize (lg_sl ([.ref h, .int a1]) ++ List.replicate (4 - (lg_sl ([.ref h, .int a1])).length) Slot.unset).toArray = ls at hl ⊢
  have hl : lv_has ls 4 [(0, .ref h), (1, .int a1)] := hl
  have B9 : ∀ n : Nat, ∀ (x1 x2 x3 : Int32) (H : Heap) (locs : List Loc) (ls : Array Slot), f_X1_roundOf_b9 N c6 n x1 x2 x3 = some res → va_P (dC, dI) vwCl (wX1 cy h q2 q3 q6 q7 q10 c0 c1 c2 c3 c4 c5 c6 c7 c8 c9 c10) H → va_D A (wX1 cy h q2 q3 q6 q7 q10 c0 c1 c2 c3 c4 c5 c6 c7 c8 c9 c10) → va_S A s.heap H locs → lv_has ls 4 [(0, .ref h), (1, .int x1), (2, .int x2), (3, .int x3)] → W p l e rm_X1_roundOf s m ([.ref h, .int a1] : List Value).toArray below meth c H locs 0 0 (MQ below (z_qI dC dI cy res (wX1 cy h q2 q3 q6 q7 q10 c0 c1 c2 c3 c4 c5 c6 c7 c8 c9 c10) A) ([.ref h, .int a1] : List Value).toArray s 0 0 A) (F0 m 9 ls []) := by
    clear hf hl hP hD hS
    intro n
    induction n with
    | zero =>
      intro x1 x2 x3 H locs ls hf hP hD hS hl
      rw [f_X1_roundOf_b9] at hf
      cases hf
    | succ n ih =>
      intro x1 x2 x3 H locs ls hf hP hD hS hl
      rw [f_X1_roundOf_b9] at hf
      refine lv_iload_n hx hb dX1_roundOf_9 rfl (lv_at hl 3 rfl) ?_
      refine lv_iload_n hx hb dX1_roundOf_10 rfl (lv_at hl 1 rfl) ?_
      refine lv_icmp_eq (tgt := 27) hx hb dX1_roundOf_11 (by decide) (fun c_11 => ?_) (fun c_11 => ?_)
      · replace hf := (if_pos c_11).symm.trans hf
        refine lv_iload_n hx hb dX1_roundOf_27 rfl (lv_at hl 2 rfl) ?_
        have hres := Option.some.inj hf
        subst hres
        have hP9 := hP.sub (ws' := (wX1 cy h q2 q3 q6 q7 q10 c0 c1 c2 c3 c4 c5 c6 c7 c8 c9 c10)) [0, 1, 2, 3, 4, 5] rfl
        have hD9 := hD.sub (ws' := (wX1 cy h q2 q3 q6 q7 q10 c0 c1 c2 c3 c4 c5 c6 c7 c8 c9 c10)) [0, 1, 2, 3, 4, 5] (by decide) rfl
        have hK9 := hK.sub (tys' := [(cy, .int)]) [0] rfl
        exact W.iret (v := x2) hx hb hr (fun t ht hW => ⟨⟨x2, (), rfl, rfl, by rw [ht]; exact hP9, va_K.moved hW.alike hK9, hD9⟩, hS.F ht⟩) hS.2.2 dX1_roundOf_28
      · replace hf := (if_neg c_11).symm.trans hf
        refine lv_iinc (v := x2 + (1 : Int32)) (lv' := [(2, .int (x2 + (1 : Int32))), (0, .ref h), (1, .int x1), (3, .int x3)]) hx hb dX1_roundOf_14 hl (k := 2) rfl rfl (by decide) rfl (fun ls hl => ?_)
        refine lv_aload_n hx hb dX1_roundOf_17 rfl (lv_at hl 1 rfl) ?_
        refine va_get (D := (dC, dI)) (ci := 1) (v := .ref q6) (C := RX1) (T := TX1) (N := 11) hx hb hts (by decide +kernel) hown hK hP 0 rfl rfl 6 (by decide) (hts (.fieldLink RX1 23 "GiftLotsModel" "gives" "[I") (by decide +kernel)) (fun _ h9 => h9) rfl dX1_roundOf_18 ?_
        refine lv_iload_n hx hb dX1_roundOf_21 rfl (lv_at hl 3 rfl) ?_
        obtain ⟨hi22, hf⟩ := z_gx_some hf
        refine va_iald hx hb hK hP 3 0 rfl rfl hi22 dX1_roundOf_22 ?_
        refine lv_istore_n (lv' := [(3, .int (c6 (x3).toNatClampNeg)), (2, .int (x2 + (1 : Int32))), (0, .ref h), (1, .int x1)]) hx hb dX1_roundOf_23 rfl hl (by decide) rfl (fun ls hl => ?_)
        refine lv_goto (tgt := 9) hx hb dX1_roundOf_24 (by decide) ?_
        exact ih x1 (x2 + (1 : Int32)) (c6 (x3).toNatClampNeg) _ _ _ hf hP hD hS (lv_sub hl [2, 3, 1, 0] rfl)
  unfold f_X1_roundOf at hf
  refine lv_iconst (v := (1 : Int32)) hx hb dX1_roundOf_0 (by decide) ?_
  refine lv_istore_n (lv' := [(2, .int (1 : Int32)), (0, .ref h), (1, .int a1)]) hx hb dX1_roundOf_1 rfl hl (by decide) rfl (fun ls hl => ?_)
  refine lv_aload_n hx hb dX1_roundOf_2 rfl (lv_at hl 1 rfl) ?_
  refine va_get (D := (dC, dI)) (ci := 1) (v := .ref q6) (C := RX1) (T := TX1) (N := 11) hx hb hts (by decide +kernel) hown hK hP 0 rfl rfl 6 (by decide) (hts (.fieldLink RX1 23 "GiftLotsModel" "gives" "[I") (by decide +kernel)) (fun _ h9 => h9) rfl dX1_roundOf_3 ?_
  refine lv_iload_n hx hb dX1_roundOf_6 rfl (lv_at hl 2 rfl) ?_
  obtain ⟨hi7, hf⟩ := z_gx_some hf
  refine va_iald hx hb hK hP 3 0 rfl rfl hi7 dX1_roundOf_7 ?_
  refine lv_istore_n (lv' := [(3, .int (c6 (a1).toNatClampNeg)), (2, .int (1 : Int32)), (0, .ref h), (1, .int a1)]) hx hb dX1_roundOf_8 rfl hl (by decide) rfl (fun ls hl => ?_)
  exact B9 N a1 (1 : Int32) (c6 (a1).toNatClampNeg) _ _ _ hf hP hD hS (lv_sub hl [2, 3, 1, 0] rfl)

set_option maxRecDepth 20000 in
theorem ggX1_areLong_X1_roundOf : GoodIn wsX1_areLong wsX1_roundOf := goodIn_r _ [8, 9, 10, 11, 12, 13, 14, 15, 16, 17, 18, 19, 20] (by decide +kernel) (by decide +kernel)
set_option maxRecDepth 20000 in
theorem gX1_areLong_X1_roundOf : GoodIn wsX1_areLong (wsV RX1 53 RX1 yX1_roundOf wsX1_roundOf) := goodIn_app (goodIn_of _ (by decide +kernel)) ggX1_areLong_X1_roundOf
theorem dX1_areLong_0 : decode cX1_areLong 0 = .ok (.iconst 1, 1) := by decide +kernel
theorem dX1_areLong_1 : decode cX1_areLong 1 = .ok (.istore_n 1, 1) := by decide +kernel
theorem dX1_areLong_2 : decode cX1_areLong 2 = .ok (.iconst 0, 1) := by decide +kernel
theorem dX1_areLong_3 : decode cX1_areLong 3 = .ok (.istore_n 2, 1) := by decide +kernel
theorem dX1_areLong_4 : decode cX1_areLong 4 = .ok (.iload_n 2, 1) := by decide +kernel
theorem dX1_areLong_5 : decode cX1_areLong 5 = .ok (.aload_n 0, 1) := by decide +kernel
theorem dX1_areLong_6 : decode cX1_areLong 6 = .ok (.getfield 7, 3) := by decide +kernel
theorem dX1_areLong_9 : decode cX1_areLong 9 = .ok (.if_icmp .ge 42, 3) := by decide +kernel
theorem dX1_areLong_12 : decode cX1_areLong 12 = .ok (.iload_n 1, 1) := by decide +kernel
theorem dX1_areLong_13 : decode cX1_areLong 13 = .ok (.ifCond .eq 30, 3) := by decide +kernel
theorem dX1_areLong_16 : decode cX1_areLong 16 = .ok (.aload_n 0, 1) := by decide +kernel
theorem dX1_areLong_17 : decode cX1_areLong 17 = .ok (.getfield 46, 3) := by decide +kernel
theorem dX1_areLong_20 : decode cX1_areLong 20 = .ok (.iload_n 2, 1) := by decide +kernel
theorem dX1_areLong_21 : decode cX1_areLong 21 = .ok (.ishr, 1) := by decide +kernel
theorem dX1_areLong_22 : decode cX1_areLong 22 = .ok (.iconst 1, 1) := by decide +kernel
theorem dX1_areLong_23 : decode cX1_areLong 23 = .ok (.iand, 1) := by decide +kernel
theorem dX1_areLong_24 : decode cX1_areLong 24 = .ok (.ifCond .eq 15, 3) := by decide +kernel
theorem dX1_areLong_27 : decode cX1_areLong 27 = .ok (.aload_n 0, 1) := by decide +kernel
theorem dX1_areLong_28 : decode cX1_areLong 28 = .ok (.iload_n 2, 1) := by decide +kernel
theorem dX1_areLong_29 : decode cX1_areLong 29 = .ok (.invokevirtual 53, 3) := by decide +kernel
theorem dX1_areLong_32 : decode cX1_areLong 32 = .ok (.aload_n 0, 1) := by decide +kernel
theorem dX1_areLong_33 : decode cX1_areLong 33 = .ok (.getfield 13, 3) := by decide +kernel
theorem dX1_areLong_36 : decode cX1_areLong 36 = .ok (.if_icmp .lt 7, 3) := by decide +kernel
theorem dX1_areLong_39 : decode cX1_areLong 39 = .ok (.iconst 1, 1) := by decide +kernel
theorem dX1_areLong_40 : decode cX1_areLong 40 = .ok (.goto 4, 3) := by decide +kernel
theorem dX1_areLong_43 : decode cX1_areLong 43 = .ok (.iconst 0, 1) := by decide +kernel
theorem dX1_areLong_44 : decode cX1_areLong 44 = .ok (.istore_n 1, 1) := by decide +kernel
theorem dX1_areLong_45 : decode cX1_areLong 45 = .ok (.iinc 2 1, 3) := by decide +kernel
theorem dX1_areLong_48 : decode cX1_areLong 48 = .ok (.goto (-44), 3) := by decide +kernel
theorem dX1_areLong_51 : decode cX1_areLong 51 = .ok (.iload_n 1, 1) := by decide +kernel
theorem dX1_areLong_52 : decode cX1_areLong 52 = .ok (.ireturn, 1) := by decide +kernel
abbrev rm_X1_areLong : Room := { frames := 1, cells := 0, slots := 0, locals := 23 }
set_option maxHeartbeats 4000000 in
set_option maxRecDepth 100000 in
theorem c_X1_areLong (N : Nat) (l : Launch) (dC : Nat → ClassId) (dI : Nat → Nat → Nat) (cy : ClassId) (h q2 q3 q6 q7 q10 : Nat) (sz : Nat) (c0 : Int32) (c1 : Int32) (c2 : Nat → Int32) (c3 : Nat → Int32) (c4 : Int32) (c5 : Int32) (c6 : Nat → Int32) (c7 : Nat → Int32) (c8 : Int32) (c9 : Int32) (c10 : Nat → Int32) (res : Int32) (hf : f_X1_areLong N c0 c1 c4 c6 = some res) : Met l yX1_areLong wsX1_areLong rm_X1_areLong (va_Pc [.ref h] (fun U => U.heap.size = sz ∧ va_P (dC, dI) vwCl (wX1 cy h q2 q3 q6 q7 q10 c0 c1 c2 c3 c4 c5 c6 c7 c8 c9 c10) U.heap ∧ va_K (dC, dI) vwCl [(cy, .int)] U ∧ va_D (fun _ => True) (wX1 cy h q2 q3 q6 q7 q10 c0 c1 c2 c3 c4 c5 c6 c7 c8 c9 c10))) (z_qI dC dI cy res (wX1 cy h q2 q3 q6 q7 q10 c0 c1 c2 c3 c4 c5 c6 c7 c8 c9 c10) (va_A (wX1 cy h q2 q3 q6 q7 q10 c0 c1 c2 c3 c4 c5 c6 c7 c8 c9 c10) sz)) 0 0 (va_A (wX1 cy h q2 q3 q6 q7 q10 c0 c1 c2 c3 c4 c5 c6 c7 c8 c9 c10) sz) := by
  refine Met.ofW (cc := cX1_areLong) (maxL := 3) (ret := (some .boolean)) (by decide) rfl ?_
  intro p e s m args below meth c s₁ B hml hv
  obtain ⟨rfl, hsz, hP, hK, hD0⟩ := hv
  have hx := B.exec
  have hb := B.bytes
  have hr := B.returns
  have hts := atoms_spec (ws := wsX1_areLong) B.pre
  have hown : s.vm.findClass RX1 = some m.cls := findClass_of_methodNamed B.named
  have hlocks := B.notSynchronized
  subst hsz
  have hD := hD0.self (sz := s.heap.size)
  generalize hAe : va_A (wX1 cy h q2 q3 q6 q7 q10 c0 c1 c2 c3 c4 c5 c6 c7 c8 c9 c10) s.heap.size = A at hD ⊢
  have hA : ∀ q : Nat, s.heap.size ≤ q → A q := fun q h => by rw [← hAe]; exact Or.inr h
  have hS : va_S A s.heap s.heap [] := va_S.rf
  have hP : va_P (dC, dI) vwCl (wX1 cy h q2 q3 q6 q7 q10 c0 c1 c2 c3 c4 c5 c6 c7 c8 c9 c10) s.heap := hP
  have hl := lv_entry ([.ref h]) (n := 3) (Nat.le_of_ble_eq_true rfl)
  rw [lg_entry_eq]
  generalize (lg_sl ([.ref h]) ++ List.replicate (3 - (lg_sl ([.ref h])).length) Slot.unset).toArray = ls at hl ⊢
  have hl : lv_has ls 3 [(0, .ref h)] := hl
  have B44 : ∀ (r4 : Int32 → Int32 → Option (Int32)), (∀ (x1 x2 : Int32) (H : Heap) (locs : List Loc) (ls : Array Slot), r4 x1 x2 = some res → va_P (dC, dI) vwCl (wX1 cy h q2 q3 q6 q7 q10 c0 c1 c2 c3 c4 c5 c6 c7 c8 c9 c10) H → va_D A (wX1 cy h q2 q3 q6 q7 q10 c0 c1 c2 c3 c4 c5 c6 c7 c8 c9 c10) → va_S A s.heap H locs → lv_has ls 3 [(0, .ref h), (1, .int x1), (2, .int x2)] → W p l e rm_X1_areLong s m ([.ref h] : List Value).toArray below meth c H locs 0 0 (MQ below (z_qI dC dI cy res (wX1 cy h q2 q3 q6 q7 q10 c0 c1 c2 c3 c4 c5 c6 c7 c8 c9 c10) A) ([.ref h] : List Value).toArray s 0 0 A) (F0 m 4 ls [])) → ∀ (x2 t0 : Int32) (H : Heap) (locs : List Loc) (ls : Array Slot), f_X1_areLong_b44 N c0 c1 c4 c6 r4 x2 t0 = some res → va_P (dC, dI) vwCl (wX1 cy h q2 q3 q6 q7 q10 c0 c1 c2 c3 c4 c5 c6 c7 c8 c9 c10) H → va_D A (wX1 cy h q2 q3 q6 q7 q10 c0 c1 c2 c3 c4 c5 c6 c7 c8 c9 c10) → va_S A s.heap H locs → lv_has ls 3 [(0, .ref h), (2, .int x2)] → W p l e rm_X1_areLong s m ([.ref h] : List Value).toArray below meth c H locs 0 0 (MQ below (z_qI dC dI cy res (wX1 cy h q2 q3 q6 q7 q10 c0 c1 c2 c3 c4 c5 c6 c7 c8 c9 c10) A) ([.ref h] : List Value).toArray s 0 0 A) (F0 m 44 ls [.int t0]) := by
    clear hf hl hP hD hS
    intro r4 hr4
    intro x2 t0 H locs ls hf hP hD hS hl
    unfold f_X1_areLong_b44 at hf
    refine lv_istore_n (lv' := [(1, .int t0), (0, .ref h), (2, .int x2)]) hx hb dX1_areLong_44 rfl hl (by decide) rfl (fun ls hl => ?_)
    refine lv_iinc (v := x2 + (1 : Int32)) (lv' := [(2, .int (x2 + (1 : Int32))), (1, .int t0), (0, .ref h)]) hx hb dX1_areLong_45 hl (k := 2) rfl rfl (by decide) rfl (fun ls hl => ?_)
    refine lv_goto (tgt := 4) hx hb dX1_areLong_48 (by decide) ?_
    exact hr4 t0 (x2 + (1 : Int32)) _ _ _ hf hP hD hS (lv_sub hl [2, 1, 0] rfl)
  have B43 : ∀ (r4 : Int32 → Int32 → Option (Int32)), (∀ (x1 x2 : Int32) (H : Heap) (locs : List Loc) (ls : Array Slot), r4 x1 x2 = some res → va_P (dC, dI) vwCl (wX1 cy h q2 q3 q6 q7 q10 c0 c1 c2 c3 c4 c5 c6 c7 c8 c9 c10) H → va_D A (wX1 cy h q2 q3 q6 q7 q10 c0 c1 c2 c3 c4 c5 c6 c7 c8 c9 c10) → va_S A s.heap H locs → lv_has ls 3 [(0, .ref h), (1, .int x1), (2, .int x2)] → W p l e rm_X1_areLong s m ([.ref h] : List Value).toArray below meth c H locs 0 0 (MQ below (z_qI dC dI cy res (wX1 cy h q2 q3 q6 q7 q10 c0 c1 c2 c3 c4 c5 c6 c7 c8 c9 c10) A) ([.ref h] : List Value).toArray s 0 0 A) (F0 m 4 ls [])) → ∀ (x2 : Int32) (H : Heap) (locs : List Loc) (ls : Array Slot), f_X1_areLong_b43 N c0 c1 c4 c6 r4 x2 = some res → va_P (dC, dI) vwCl (wX1 cy h q2 q3 q6 q7 q10 c0 c1 c2 c3 c4 c5 c6 c7 c8 c9 c10) H → va_D A (wX1 cy h q2 q3 q6 q7 q10 c0 c1 c2 c3 c4 c5 c6 c7 c8 c9 c10) → va_S A s.heap H locs → lv_has ls 3 [(0, .ref h), (2, .int x2)] → W p l e rm_X1_areLong s m ([.ref h] : List Value).toArray below meth c H locs 0 0 (MQ below (z_qI dC dI cy res (wX1 cy h q2 q3 q6 q7 q10 c0 c1 c2 c3 c4 c5 c6 c7 c8 c9 c10) A) ([.ref h] : List Value).toArray s 0 0 A) (F0 m 43 ls []) := by
    clear hf hl hP hD hS
    intro r4 hr4
    intro x2 H locs ls hf hP hD hS hl
    unfold f_X1_areLong_b43 at hf
    refine lv_iconst (v := (0 : Int32)) hx hb dX1_areLong_43 (by decide) ?_
    exact B44 r4 hr4 x2 (0 : Int32) _ _ _ hf hP hD hS (lv_sub hl [0, 1] rfl)
  have B39 : ∀ (r4 : Int32 → Int32 → Option (Int32)), (∀ (x1 x2 : Int32) (H : Heap) (locs : List Loc) (ls : Array Slot), r4 x1 x2 = some res → va_P (dC, dI) vwCl (wX1 cy h q2 q3 q6 q7 q10 c0 c1 c2 c3 c4 c5 c6 c7 c8 c9 c10) H → va_D A (wX1 cy h q2 q3 q6 q7 q10 c0 c1 c2 c3 c4 c5 c6 c7 c8 c9 c10) → va_S A s.heap H locs → lv_has ls 3 [(0, .ref h), (1, .int x1), (2, .int x2)] → W p l e rm_X1_areLong s m ([.ref h] : List Value).toArray below meth c H locs 0 0 (MQ below (z_qI dC dI cy res (wX1 cy h q2 q3 q6 q7 q10 c0 c1 c2 c3 c4 c5 c6 c7 c8 c9 c10) A) ([.ref h] : List Value).toArray s 0 0 A) (F0 m 4 ls [])) → ∀ (x2 : Int32) (H : Heap) (locs : List Loc) (ls : Array Slot), f_X1_areLong_b39 N c0 c1 c4 c6 r4 x2 = some res → va_P (dC, dI) vwCl (wX1 cy h q2 q3 q6 q7 q10 c0 c1 c2 c3 c4 c5 c6 c7 c8 c9 c10) H → va_D A (wX1 cy h q2 q3 q6 q7 q10 c0 c1 c2 c3 c4 c5 c6 c7 c8 c9 c10) → va_S A s.heap H locs → lv_has ls 3 [(0, .ref h), (2, .int x2)] → W p l e rm_X1_areLong s m ([.ref h] : List Value).toArray below meth c H locs 0 0 (MQ below (z_qI dC dI cy res (wX1 cy h q2 q3 q6 q7 q10 c0 c1 c2 c3 c4 c5 c6 c7 c8 c9 c10) A) ([.ref h] : List Value).toArray s 0 0 A) (F0 m 39 ls []) := by
    clear hf hl hP hD hS
    intro r4 hr4
    intro x2 H locs ls hf hP hD hS hl
    unfold f_X1_areLong_b39 at hf
    refine lv_iconst (v := (1 : Int32)) hx hb dX1_areLong_39 (by decide) ?_
    refine lv_goto (tgt := 44) hx hb dX1_areLong_40 (by decide) ?_
    exact B44 r4 hr4 x2 (1 : Int32) _ _ _ hf hP hD hS (lv_sub hl [0, 1] rfl)
  have B4 : ∀ n : Nat, ∀ (x1 x2 : Int32) (H : Heap) (locs : List Loc) (ls : Array Slot), f_X1_areLong_b4 N c0 c1 c4 c6 n x1 x2 = some res → va_P (dC, dI) vwCl (wX1 cy h q2 q3 q6 q7 q10 c0 c1 c2 c3 c4 c5 c6 c7 c8 c9 c10) H → va_D A (wX1 cy h q2 q3 q6 q7 q10 c0 c1 c2 c3 c4 c5 c6 c7 c8 c9 c10) → va_S A s.heap H locs → lv_has ls 3 [(0, .ref h), (1, .int x1), (2, .int x2)] → W p l e rm_X1_areLong s m ([.ref h] : List Value).toArray below meth c H locs 0 0 (MQ below (z_qI dC dI cy res (wX1 cy h q2 q3 q6 q7 q10 c0 c1 c2 c3 c4 c5 c6 c7 c8 c9 c10) A) ([.ref h] : List Value).toArray s 0 0 A) (F0 m 4 ls []) := by
    clear hf hl hP hD hS
    intro n
    induction n with
    | zero =>
      intro x1 x2 H locs ls hf hP hD hS hl
      rw [f_X1_areLong_b4] at hf
      cases hf
    | succ n ih =>
      intro x1 x2 H locs ls hf hP hD hS hl
      rw [f_X1_areLong_b4] at hf
      refine lv_iload_n hx hb dX1_areLong_4 rfl (lv_at hl 2 rfl) ?_
      refine lv_aload_n hx hb dX1_areLong_5 rfl (lv_at hl 0 rfl) ?_
      refine va_get (D := (dC, dI)) (ci := 1) (v := .int c0) (C := RX1) (T := TX1) (N := 11) hx hb hts (by decide +kernel) hown hK hP 0 rfl rfl 0 (by decide) (hts (.fieldLink RX1 7 "GiftLotsModel" "ones" "I") (by decide +kernel)) (fun _ h9 => h9) rfl dX1_areLong_6 ?_
      refine lv_icmp_ge (tgt := 51) hx hb dX1_areLong_9 (by decide) (fun c_9 => ?_) (fun c_9 => ?_)
      · replace hf := (if_pos c_9).symm.trans hf
        refine lv_iload_n hx hb dX1_areLong_51 rfl (lv_at hl 1 rfl) ?_
        obtain ⟨hb52, hf⟩ := z_gb_some hf
        have hres := Option.some.inj hf
        subst hres
        have hP9 := hP.sub (ws' := (wX1 cy h q2 q3 q6 q7 q10 c0 c1 c2 c3 c4 c5 c6 c7 c8 c9 c10)) [0, 1, 2, 3, 4, 5] rfl
        have hD9 := hD.sub (ws' := (wX1 cy h q2 q3 q6 q7 q10 c0 c1 c2 c3 c4 c5 c6 c7 c8 c9 c10)) [0, 1, 2, 3, 4, 5] (by decide) rfl
        have hK9 := hK.sub (tys' := [(cy, .int)]) [0] rfl
        exact W.zret (v := x1) hx hb hr (z_gb_nar hb52) (fun t ht hW => ⟨⟨x1, (), rfl, rfl, by rw [ht]; exact hP9, va_K.moved hW.alike hK9, hD9⟩, hS.F ht⟩) hS.2.2 dX1_areLong_52
      · replace hf := (if_neg c_9).symm.trans hf
        refine lv_iload_n hx hb dX1_areLong_12 rfl (lv_at hl 1 rfl) ?_
        refine lv_if_eq (tgt := 43) hx hb dX1_areLong_13 (by decide) (fun c_13 => ?_) (fun c_13 => ?_)
        · replace hf := (if_pos c_13).symm.trans hf
          exact B43 (f_X1_areLong_b4 N c0 c1 c4 c6 n) ih x2 _ _ _ hf hP hD hS (lv_sub hl [0, 2] rfl)
        · replace hf := (if_neg c_13).symm.trans hf
          refine lv_aload_n hx hb dX1_areLong_16 rfl (lv_at hl 0 rfl) ?_
          refine va_get (D := (dC, dI)) (ci := 1) (v := .int c4) (C := RX1) (T := TX1) (N := 11) hx hb hts (by decide +kernel) hown hK hP 0 rfl rfl 4 (by decide) (hts (.fieldLink RX1 46 "GiftLotsModel" "who" "I") (by decide +kernel)) (fun _ h9 => h9) rfl dX1_areLong_17 ?_
          refine lv_iload_n hx hb dX1_areLong_20 rfl (lv_at hl 2 rfl) ?_
          refine lv_ishr hx hb dX1_areLong_21 ?_
          refine lv_iconst (v := (1 : Int32)) hx hb dX1_areLong_22 (by decide) ?_
          refine lv_iand hx hb dX1_areLong_23 ?_
          refine lv_if_eq (tgt := 39) hx hb dX1_areLong_24 (by decide) (fun c_24 => ?_) (fun c_24 => ?_)
          · replace hf := (if_pos c_24).symm.trans hf
            exact B39 (f_X1_areLong_b4 N c0 c1 c4 c6 n) ih x2 _ _ _ hf hP hD hS (lv_sub hl [0, 2] rfl)
          · replace hf := (if_neg c_24).symm.trans hf
            refine lv_aload_n hx hb dX1_areLong_27 rfl (lv_at hl 0 rfl) ?_
            refine lv_iload_n hx hb dX1_areLong_28 rfl (lv_at hl 2 rfl) ?_
            obtain ⟨u29, hu29, hf⟩ := z_ob_some hf
            have hPc := hP.sub (ws' := (wX1 cy h q2 q3 q6 q7 q10 c0 c1 c2 c3 c4 c5 c6 c7 c8 c9 c10)) [0, 1, 2, 3, 4, 5] rfl
            have hDc := hD.sub (ws' := (wX1 cy h q2 q3 q6 q7 q10 c0 c1 c2 c3 c4 c5 c6 c7 c8 c9 c10)) [0, 1, 2, 3, 4, 5] (by decide) rfl
            have hKc := hK.sub (tys' := [(cy, .int)]) [0] rfl
            have hFc := va_free (wc := (wX1 cy h q2 q3 q6 q7 q10 c0 c1 c2 c3 c4 c5 c6 c7 c8 c9 c10)) hD hS hA [0, 1, 2, 3, 4, 5] rfl
            refine va_calli (va_runV (As := [.int x2]) (rest := []) ⟨hx, hb, hml, hown, hts⟩ (c_X1_roundOf N l dC dI cy h q2 q3 q6 q7 q10 H.size c0 c1 c2 c3 c4 c5 c6 c7 c8 c9 c10 x2 u29 hu29) (cwV 1 hts gX1_areLong_X1_roundOf rfl rfl rfl (by decide +kernel) ⟨Nat.le_of_ble_eq_true rfl, Nat.le_of_ble_eq_true rfl⟩) ⟨fun a U g mk q => by obtain ⟨q0, q1, qP, qK, qD⟩ := q; exact ⟨q0, q1, qP, va_K.moved (u := U) (U := U.calling g mk a) (Vm.Alike.refl U.vm) qK, qD⟩, va_recv hKc hPc (ci := 1) (q0 := 0) rfl rfl, fun U hU hW => ⟨rfl, by rw [hU], by rw [hU]; exact hPc, va_K.moved hW.alike hKc, hDc.weaken (fun _ _ _ _ => trivial)⟩⟩ rfl rfl hl.1 rfl (lv_room (Nat.le_of_ble_eq_true rfl)) dX1_areLong_29 ⟨Nat.zero_le _, Nat.zero_le _⟩) hS (fun q _ h => hFc q h) hFc (fun r_29 uu_ t H1 locs ht hvm hw hB hz1 hk1 hS => ?_)
            replace hw := hw.symm
            subst hw
            obtain ⟨hP1, -, hD1⟩ := hB
            rw [ht] at hP1
            obtain ⟨hP, hD⟩ := va_join (wr := []) (w1 := (wX1 cy h q2 q3 q6 q7 q10 c0 c1 c2 c3 c4 c5 c6 c7 c8 c9 c10)) hP hD [0, 1, 2, 3, 4, 5] [] rfl rfl (by decide) (by decide) hk1 hFc hP1 hD1
            clear hk1 hz1 hP1 hD1 ht hPc hDc hFc
            generalize H1 = H at hP hS ⊢
            have hP : va_P (dC, dI) vwCl (wX1 cy h q2 q3 q6 q7 q10 c0 c1 c2 c3 c4 c5 c6 c7 c8 c9 c10) H := hP
            have hD : va_D A (wX1 cy h q2 q3 q6 q7 q10 c0 c1 c2 c3 c4 c5 c6 c7 c8 c9 c10) := hD
            refine lv_aload_n hx hb dX1_areLong_32 rfl (lv_at hl 0 rfl) ?_
            refine va_get (D := (dC, dI)) (ci := 1) (v := .int c1) (C := RX1) (T := TX1) (N := 11) hx hb hts (by decide +kernel) hown hK hP 0 rfl rfl 1 (by decide) (hts (.fieldLink RX1 13 "GiftLotsModel" "least" "I") (by decide +kernel)) (fun _ h9 => h9) rfl dX1_areLong_33 ?_
            refine lv_icmp_lt (tgt := 43) hx hb dX1_areLong_36 (by decide) (fun c_36 => ?_) (fun c_36 => ?_)
            · replace hf := (if_pos c_36).symm.trans hf
              exact B43 (f_X1_areLong_b4 N c0 c1 c4 c6 n) ih x2 _ _ _ hf hP hD hS (lv_sub hl [0, 2] rfl)
            · replace hf := (if_neg c_36).symm.trans hf
              exact B39 (f_X1_areLong_b4 N c0 c1 c4 c6 n) ih x2 _ _ _ hf hP hD hS (lv_sub hl [0, 2] rfl)
  unfold f_X1_areLong at hf
  refine lv_iconst (v := (1 : Int32)) hx hb dX1_areLong_0 (by decide) ?_
  refine lv_istore_n (lv' := [(1, .int (1 : Int32)), (0, .ref h)]) hx hb dX1_areLong_1 rfl hl (by decide) rfl (fun ls hl => ?_)
  refine lv_iconst (v := (0 : Int32)) hx hb dX1_areLong_2 (by decide) ?_
  refine lv_istore_n (lv' := [(2, .int (0 : Int32)), (1, .int (1 : Int32)), (0, .ref h)]) hx hb dX1_areLong_3 rfl hl (by decide) rfl (fun ls hl => ?_)
  exact B4 N (1 : Int32) (0 : Int32) _ _ _ hf hP hD hS (lv_sub hl [2, 1, 0] rfl)

set_option maxRecDepth 20000 in
theorem ggX1_next_X1_after : GoodIn wsX1_next wsX1_after := goodIn_r _ [10, 1, 4, 11, 12, 9, 13, 27, 28, 29, 30, 31, 32, 33, 34, 35, 36, 37] (by decide +kernel) (by decide +kernel)
set_option maxRecDepth 20000 in
theorem gX1_next_X1_after : GoodIn wsX1_next (wsV RX1 57 RX1 yX1_after wsX1_after) := goodIn_app (goodIn_of _ (by decide +kernel)) ggX1_next_X1_after
set_option maxRecDepth 20000 in
theorem ggX1_next_X1_in : GoodIn wsX1_next wsX1_in := goodIn_r _ [13] (by decide +kernel) (by decide +kernel)
set_option maxRecDepth 20000 in
theorem gX1_next_X1_in : GoodIn wsX1_next (va_wsS RX1 35 yX1_in wsX1_in) := goodIn_app (goodIn_of _ (by decide +kernel)) ggX1_next_X1_in
set_option maxRecDepth 20000 in
theorem ggX1_next_X1_gotten : GoodIn wsX1_next wsX1_gotten := goodIn_r _ [17, 1, 2, 27, 28, 29, 30, 31, 32, 33, 34, 35, 36, 37] (by decide +kernel) (by decide +kernel)
set_option maxRecDepth 20000 in
theorem gX1_next_X1_gotten : GoodIn wsX1_next (wsV RX1 61 RX1 yX1_gotten wsX1_gotten) := goodIn_app (goodIn_of _ (by decide +kernel)) ggX1_next_X1_gotten
set_option maxRecDepth 20000 in
theorem ggX1_next_X1_areLong : GoodIn wsX1_next wsX1_areLong := goodIn_r _ [21, 1, 4, 22, 23, 24, 25, 9, 26, 2, 27, 28, 29, 30, 31, 32, 33, 34, 35, 36, 37] (by decide +kernel) (by decide +kernel)
set_option maxRecDepth 20000 in
theorem gX1_next_X1_areLong : GoodIn wsX1_next (wsV RX1 65 RX1 yX1_areLong wsX1_areLong) := goodIn_app (goodIn_of _ (by decide +kernel)) ggX1_next_X1_areLong
theorem dX1_next_0 : decode cX1_next 0 = .ok (.iconst 1, 1) := by decide +kernel
theorem dX1_next_1 : decode cX1_next 1 = .ok (.istore_n 1, 1) := by decide +kernel
theorem dX1_next_2 : decode cX1_next 2 = .ok (.iconst 0, 1) := by decide +kernel
theorem dX1_next_3 : decode cX1_next 3 = .ok (.istore_n 2, 1) := by decide +kernel
theorem dX1_next_4 : decode cX1_next 4 = .ok (.iload_n 2, 1) := by decide +kernel
theorem dX1_next_5 : decode cX1_next 5 = .ok (.aload_n 0, 1) := by decide +kernel
theorem dX1_next_6 : decode cX1_next 6 = .ok (.getfield 7, 3) := by decide +kernel
theorem dX1_next_9 : decode cX1_next 9 = .ok (.if_icmp .ge 30, 3) := by decide +kernel
theorem dX1_next_12 : decode cX1_next 12 = .ok (.iload_n 1, 1) := by decide +kernel
theorem dX1_next_13 : decode cX1_next 13 = .ok (.ifCond .eq 18, 3) := by decide +kernel
theorem dX1_next_16 : decode cX1_next 16 = .ok (.aload_n 0, 1) := by decide +kernel
theorem dX1_next_17 : decode cX1_next 17 = .ok (.getfield 23, 3) := by decide +kernel
theorem dX1_next_20 : decode cX1_next 20 = .ok (.iload_n 2, 1) := by decide +kernel
theorem dX1_next_21 : decode cX1_next 21 = .ok (.iaload, 1) := by decide +kernel
theorem dX1_next_22 : decode cX1_next 22 = .ok (.bipush (-6), 2) := by decide +kernel
theorem dX1_next_24 : decode cX1_next 24 = .ok (.if_icmp .ne 7, 3) := by decide +kernel
theorem dX1_next_27 : decode cX1_next 27 = .ok (.iconst 1, 1) := by decide +kernel
theorem dX1_next_28 : decode cX1_next 28 = .ok (.goto 4, 3) := by decide +kernel
theorem dX1_next_31 : decode cX1_next 31 = .ok (.iconst 0, 1) := by decide +kernel
theorem dX1_next_32 : decode cX1_next 32 = .ok (.istore_n 1, 1) := by decide +kernel
theorem dX1_next_33 : decode cX1_next 33 = .ok (.iinc 2 1, 3) := by decide +kernel
theorem dX1_next_36 : decode cX1_next 36 = .ok (.goto (-32), 3) := by decide +kernel
theorem dX1_next_39 : decode cX1_next 39 = .ok (.iload_n 1, 1) := by decide +kernel
theorem dX1_next_40 : decode cX1_next 40 = .ok (.ifCond .eq 12, 3) := by decide +kernel
theorem dX1_next_43 : decode cX1_next 43 = .ok (.aload_n 0, 1) := by decide +kernel
theorem dX1_next_44 : decode cX1_next 44 = .ok (.iconst (-1), 1) := by decide +kernel
theorem dX1_next_45 : decode cX1_next 45 = .ok (.iconst 1, 1) := by decide +kernel
theorem dX1_next_46 : decode cX1_next 46 = .ok (.invokevirtual 57, 3) := by decide +kernel
theorem dX1_next_49 : decode cX1_next 49 = .ok (.goto 12, 3) := by decide +kernel
theorem dX1_next_52 : decode cX1_next 52 = .ok (.aload_n 0, 1) := by decide +kernel
theorem dX1_next_53 : decode cX1_next 53 = .ok (.aload_n 0, 1) := by decide +kernel
theorem dX1_next_54 : decode cX1_next 54 = .ok (.getfield 7, 3) := by decide +kernel
theorem dX1_next_57 : decode cX1_next 57 = .ok (.iconst (-1), 1) := by decide +kernel
theorem dX1_next_58 : decode cX1_next 58 = .ok (.invokevirtual 57, 3) := by decide +kernel
theorem dX1_next_61 : decode cX1_next 61 = .ok (.istore_n 2, 1) := by decide +kernel
theorem dX1_next_62 : decode cX1_next 62 = .ok (.iload_n 2, 1) := by decide +kernel
theorem dX1_next_63 : decode cX1_next 63 = .ok (.iconst 0, 1) := by decide +kernel
theorem dX1_next_64 : decode cX1_next 64 = .ok (.aload_n 0, 1) := by decide +kernel
theorem dX1_next_65 : decode cX1_next 65 = .ok (.getfield 7, 3) := by decide +kernel
theorem dX1_next_68 : decode cX1_next 68 = .ok (.iconst 1, 1) := by decide +kernel
theorem dX1_next_69 : decode cX1_next 69 = .ok (.isub, 1) := by decide +kernel
theorem dX1_next_70 : decode cX1_next 70 = .ok (.invokestatic 35, 3) := by decide +kernel
theorem dX1_next_73 : decode cX1_next 73 = .ok (.ifCond .eq 140, 3) := by decide +kernel
theorem dX1_next_76 : decode cX1_next 76 = .ok (.aload_n 0, 1) := by decide +kernel
theorem dX1_next_77 : decode cX1_next 77 = .ok (.getfield 23, 3) := by decide +kernel
theorem dX1_next_80 : decode cX1_next 80 = .ok (.iload_n 2, 1) := by decide +kernel
theorem dX1_next_81 : decode cX1_next 81 = .ok (.iaload, 1) := by decide +kernel
theorem dX1_next_82 : decode cX1_next 82 = .ok (.ifCond .ge 7, 3) := by decide +kernel
theorem dX1_next_85 : decode cX1_next 85 = .ok (.iconst 0, 1) := by decide +kernel
theorem dX1_next_86 : decode cX1_next 86 = .ok (.goto 11, 3) := by decide +kernel
theorem dX1_next_89 : decode cX1_next 89 = .ok (.aload_n 0, 1) := by decide +kernel
theorem dX1_next_90 : decode cX1_next 90 = .ok (.getfield 23, 3) := by decide +kernel
theorem dX1_next_93 : decode cX1_next 93 = .ok (.iload_n 2, 1) := by decide +kernel
theorem dX1_next_94 : decode cX1_next 94 = .ok (.iaload, 1) := by decide +kernel
theorem dX1_next_95 : decode cX1_next 95 = .ok (.iconst 1, 1) := by decide +kernel
theorem dX1_next_96 : decode cX1_next 96 = .ok (.iadd, 1) := by decide +kernel
theorem dX1_next_97 : decode cX1_next 97 = .ok (.istore_n 3, 1) := by decide +kernel
theorem dX1_next_98 : decode cX1_next 98 = .ok (.aload_n 0, 1) := by decide +kernel
theorem dX1_next_99 : decode cX1_next 99 = .ok (.getfield 23, 3) := by decide +kernel
theorem dX1_next_102 : decode cX1_next 102 = .ok (.iload_n 2, 1) := by decide +kernel
theorem dX1_next_103 : decode cX1_next 103 = .ok (.bipush (-6), 2) := by decide +kernel
theorem dX1_next_105 : decode cX1_next 105 = .ok (.iastore, 1) := by decide +kernel
theorem dX1_next_106 : decode cX1_next 106 = .ok (.aload_n 0, 1) := by decide +kernel
theorem dX1_next_107 : decode cX1_next 107 = .ok (.getfield 16, 3) := by decide +kernel
theorem dX1_next_110 : decode cX1_next 110 = .ok (.iload_n 2, 1) := by decide +kernel
theorem dX1_next_111 : decode cX1_next 111 = .ok (.iaload, 1) := by decide +kernel
theorem dX1_next_112 : decode cX1_next 112 = .ok (.aload_n 0, 1) := by decide +kernel
theorem dX1_next_113 : decode cX1_next 113 = .ok (.getfield 46, 3) := by decide +kernel
theorem dX1_next_116 : decode cX1_next 116 = .ok (.iand, 1) := by decide +kernel
theorem dX1_next_117 : decode cX1_next 117 = .ok (.aload_n 0, 1) := by decide +kernel
theorem dX1_next_118 : decode cX1_next 118 = .ok (.invokevirtual 61, 3) := by decide +kernel
theorem dX1_next_121 : decode cX1_next 121 = .ok (.iconst (-1), 1) := by decide +kernel
theorem dX1_next_122 : decode cX1_next 122 = .ok (.ixor, 1) := by decide +kernel
theorem dX1_next_123 : decode cX1_next 123 = .ok (.iand, 1) := by decide +kernel
theorem dX1_next_124 : decode cX1_next 124 = .ok (.istore 4, 2) := by decide +kernel
theorem dX1_next_126 : decode cX1_next 126 = .ok (.iload_n 3, 1) := by decide +kernel
theorem dX1_next_127 : decode cX1_next 127 = .ok (.aload_n 0, 1) := by decide +kernel
theorem dX1_next_128 : decode cX1_next 128 = .ok (.getfield 7, 3) := by decide +kernel
theorem dX1_next_131 : decode cX1_next 131 = .ok (.if_icmp .ge 18, 3) := by decide +kernel
theorem dX1_next_134 : decode cX1_next 134 = .ok (.iload 4, 2) := by decide +kernel
theorem dX1_next_136 : decode cX1_next 136 = .ok (.iload_n 3, 1) := by decide +kernel
theorem dX1_next_137 : decode cX1_next 137 = .ok (.ishr, 1) := by decide +kernel
theorem dX1_next_138 : decode cX1_next 138 = .ok (.iconst 1, 1) := by decide +kernel
theorem dX1_next_139 : decode cX1_next 139 = .ok (.iand, 1) := by decide +kernel
theorem dX1_next_140 : decode cX1_next 140 = .ok (.ifCond .ne 9, 3) := by decide +kernel
theorem dX1_next_143 : decode cX1_next 143 = .ok (.iinc 3 1, 3) := by decide +kernel
theorem dX1_next_146 : decode cX1_next 146 = .ok (.goto (-20), 3) := by decide +kernel
theorem dX1_next_149 : decode cX1_next 149 = .ok (.iload_n 3, 1) := by decide +kernel
theorem dX1_next_150 : decode cX1_next 150 = .ok (.aload_n 0, 1) := by decide +kernel
theorem dX1_next_151 : decode cX1_next 151 = .ok (.getfield 7, 3) := by decide +kernel
theorem dX1_next_154 : decode cX1_next 154 = .ok (.if_icmp .ne 13, 3) := by decide +kernel
theorem dX1_next_157 : decode cX1_next 157 = .ok (.aload_n 0, 1) := by decide +kernel
theorem dX1_next_158 : decode cX1_next 158 = .ok (.iload_n 2, 1) := by decide +kernel
theorem dX1_next_159 : decode cX1_next 159 = .ok (.iconst (-1), 1) := by decide +kernel
theorem dX1_next_160 : decode cX1_next 160 = .ok (.invokevirtual 57, 3) := by decide +kernel
theorem dX1_next_163 : decode cX1_next 163 = .ok (.istore_n 2, 1) := by decide +kernel
theorem dX1_next_164 : decode cX1_next 164 = .ok (.goto 46, 3) := by decide +kernel
theorem dX1_next_167 : decode cX1_next 167 = .ok (.aload_n 0, 1) := by decide +kernel
theorem dX1_next_168 : decode cX1_next 168 = .ok (.getfield 23, 3) := by decide +kernel
theorem dX1_next_171 : decode cX1_next 171 = .ok (.iload_n 2, 1) := by decide +kernel
theorem dX1_next_172 : decode cX1_next 172 = .ok (.iload_n 3, 1) := by decide +kernel
theorem dX1_next_173 : decode cX1_next 173 = .ok (.iastore, 1) := by decide +kernel
theorem dX1_next_174 : decode cX1_next 174 = .ok (.aload_n 0, 1) := by decide +kernel
theorem dX1_next_175 : decode cX1_next 175 = .ok (.iload_n 2, 1) := by decide +kernel
theorem dX1_next_176 : decode cX1_next 176 = .ok (.iconst 1, 1) := by decide +kernel
theorem dX1_next_177 : decode cX1_next 177 = .ok (.invokevirtual 57, 3) := by decide +kernel
theorem dX1_next_180 : decode cX1_next 180 = .ok (.istore 5, 2) := by decide +kernel
theorem dX1_next_182 : decode cX1_next 182 = .ok (.iload 5, 2) := by decide +kernel
theorem dX1_next_184 : decode cX1_next 184 = .ok (.aload_n 0, 1) := by decide +kernel
theorem dX1_next_185 : decode cX1_next 185 = .ok (.getfield 7, 3) := by decide +kernel
theorem dX1_next_188 : decode cX1_next 188 = .ok (.if_icmp .ne 19, 3) := by decide +kernel
theorem dX1_next_191 : decode cX1_next 191 = .ok (.aload_n 0, 1) := by decide +kernel
theorem dX1_next_192 : decode cX1_next 192 = .ok (.getfield 49, 3) := by decide +kernel
theorem dX1_next_195 : decode cX1_next 195 = .ok (.ifCond .ne 10, 3) := by decide +kernel
theorem dX1_next_198 : decode cX1_next 198 = .ok (.aload_n 0, 1) := by decide +kernel
theorem dX1_next_199 : decode cX1_next 199 = .ok (.invokevirtual 65, 3) := by decide +kernel
theorem dX1_next_202 : decode cX1_next 202 = .ok (.ifCond .eq 8, 3) := by decide +kernel
theorem dX1_next_205 : decode cX1_next 205 = .ok (.iconst 1, 1) := by decide +kernel
theorem dX1_next_206 : decode cX1_next 206 = .ok (.ireturn, 1) := by decide +kernel
theorem dX1_next_207 : decode cX1_next 207 = .ok (.iload 5, 2) := by decide +kernel
theorem dX1_next_209 : decode cX1_next 209 = .ok (.istore_n 2, 1) := by decide +kernel
theorem dX1_next_210 : decode cX1_next 210 = .ok (.goto (-148), 3) := by decide +kernel
theorem dX1_next_213 : decode cX1_next 213 = .ok (.iconst 0, 1) := by decide +kernel
theorem dX1_next_214 : decode cX1_next 214 = .ok (.ireturn, 1) := by decide +kernel
abbrev rm_X1_next : Room := { frames := 2, cells := 0, slots := 0, locals := 45 }
set_option maxHeartbeats 4000000 in
set_option maxRecDepth 100000 in
theorem c_X1_next (N : Nat) (l : Launch) (dC : Nat → ClassId) (dI : Nat → Nat → Nat) (cy : ClassId) (h q2 q3 q6 q7 q10 : Nat) (sz : Nat) (c0 : Int32) (c1 : Int32) (c2 : Nat → Int32) (c3 : Nat → Int32) (c4 : Int32) (c5 : Int32) (c6 : Nat → Int32) (c7 : Nat → Int32) (c8 : Int32) (c9 : Int32) (c10 : Nat → Int32) (res : Int32 × (Nat → Int32)) (hf : f_X1_next N c0 c1 c2 c4 c5 c6 = some res) : Met l yX1_next wsX1_next rm_X1_next (va_Pc [.ref h] (fun U => U.heap.size = sz ∧ va_P (dC, dI) vwCl (wX1 cy h q2 q3 q6 q7 q10 c0 c1 c2 c3 c4 c5 c6 c7 c8 c9 c10) U.heap ∧ va_K (dC, dI) vwCl [(cy, .int)] U ∧ va_D (fun _ => True) (wX1 cy h q2 q3 q6 q7 q10 c0 c1 c2 c3 c4 c5 c6 c7 c8 c9 c10))) (z_qI dC dI cy res.1 (wX1 cy h q2 q3 q6 q7 q10 c0 c1 c2 c3 c4 c5 res.2 c7 c8 c9 c10) (va_A (wX1 cy h q2 q3 q6 q7 q10 c0 c1 c2 c3 c4 c5 c6 c7 c8 c9 c10) sz)) 0 0 (va_A (wX1 cy h q2 q3 q6 q7 q10 c0 c1 c2 c3 c4 c5 c6 c7 c8 c9 c10) sz) := by
  refine Met.ofW (cc := cX1_next) (maxL := 6) (ret := (some .boolean)) (by decide) rfl ?_
  intro p e s m args below meth c s₁ B hml hv
  obtain ⟨rfl, hsz, hP, hK, hD0⟩ := hv
  have hx := B.exec
  have hb := B.bytes
  have hr := B.returns
  have hts := atoms_spec (ws := wsX1_next) B.pre
  have hown : s.vm.findClass RX1 = some m.cls := findClass_of_methodNamed B.named
  have hlocks := B.notSynchronized
  subst hsz
  have hD := hD0.self (sz := s.heap.size)
  generalize hAe : va_A (wX1 cy h q2 q3 q6 q7 q10 c0 c1 c2 c3 c4 c5 c6 c7 c8 c9 c10) s.heap.size = A at hD ⊢
  have hA : ∀ q : Nat, s.heap.size ≤ q → A q := fun q h => by rw [← hAe]; exact Or.inr h
  have hS : va_S A s.heap s.heap [] := va_S.rf
  have hP : va_P (dC, dI) vwCl (wX1 cy h q2 q3 q6 q7 q10 c0 c1 c2 c3 c4 c5 c6 c7 c8 c9 c10) s.heap := hP
  have hl := lv_entry ([.ref h]) (n := 6) (Nat.le_of_ble_eq_true rfl)
  rw [lg_entry_eq]
  generalize (lg_sl ([.ref h]) ++ List.replicate (6 - (lg_sl ([.ref h])).length) Slot.unset).toArray = ls at hl ⊢
  have hl : lv_has ls 6 [(0, .ref h)] := hl
  have B210 : ∀ (r62 : Int32 → (Nat → Int32) → Option (Int32 × (Nat → Int32))), (∀ (x2 : Int32) (c6 : Nat → Int32) (H : Heap) (locs : List Loc) (ls : Array Slot), r62 x2 c6 = some res → va_P (dC, dI) vwCl (wX1 cy h q2 q3 q6 q7 q10 c0 c1 c2 c3 c4 c5 c6 c7 c8 c9 c10) H → va_D A (wX1 cy h q2 q3 q6 q7 q10 c0 c1 c2 c3 c4 c5 c6 c7 c8 c9 c10) → va_S A s.heap H locs → lv_has ls 6 [(0, .ref h), (2, .int x2)] → W p l e rm_X1_next s m ([.ref h] : List Value).toArray below meth c H locs 0 0 (MQ below (z_qI dC dI cy res.1 (wX1 cy h q2 q3 q6 q7 q10 c0 c1 c2 c3 c4 c5 res.2 c7 c8 c9 c10) A) ([.ref h] : List Value).toArray s 0 0 A) (F0 m 62 ls [])) → ∀ (x2 : Int32) (c6 : Nat → Int32) (H : Heap) (locs : List Loc) (ls : Array Slot), f_X1_next_b210 N c0 c1 c2 c4 c5 r62 x2 c6 = some res → va_P (dC, dI) vwCl (wX1 cy h q2 q3 q6 q7 q10 c0 c1 c2 c3 c4 c5 c6 c7 c8 c9 c10) H → va_D A (wX1 cy h q2 q3 q6 q7 q10 c0 c1 c2 c3 c4 c5 c6 c7 c8 c9 c10) → va_S A s.heap H locs → lv_has ls 6 [(0, .ref h), (2, .int x2)] → W p l e rm_X1_next s m ([.ref h] : List Value).toArray below meth c H locs 0 0 (MQ below (z_qI dC dI cy res.1 (wX1 cy h q2 q3 q6 q7 q10 c0 c1 c2 c3 c4 c5 res.2 c7 c8 c9 c10) A) ([.ref h] : List Value).toArray s 0 0 A) (F0 m 210 ls []) := by
    clear hf hl hP hD hS
    intro r62 hr62
    intro x2 c6 H locs ls hf hP hD hS hl
    unfold f_X1_next_b210 at hf
    refine lv_goto (tgt := 62) hx hb dX1_next_210 (by decide) ?_
    exact hr62 x2 c6 _ _ _ hf hP hD hS (lv_sub hl [0, 1] rfl)
  have B149 : ∀ (r62 : Int32 → (Nat → Int32) → Option (Int32 × (Nat → Int32))), (∀ (x2 : Int32) (c6 : Nat → Int32) (H : Heap) (locs : List Loc) (ls : Array Slot), r62 x2 c6 = some res → va_P (dC, dI) vwCl (wX1 cy h q2 q3 q6 q7 q10 c0 c1 c2 c3 c4 c5 c6 c7 c8 c9 c10) H → va_D A (wX1 cy h q2 q3 q6 q7 q10 c0 c1 c2 c3 c4 c5 c6 c7 c8 c9 c10) → va_S A s.heap H locs → lv_has ls 6 [(0, .ref h), (2, .int x2)] → W p l e rm_X1_next s m ([.ref h] : List Value).toArray below meth c H locs 0 0 (MQ below (z_qI dC dI cy res.1 (wX1 cy h q2 q3 q6 q7 q10 c0 c1 c2 c3 c4 c5 res.2 c7 c8 c9 c10) A) ([.ref h] : List Value).toArray s 0 0 A) (F0 m 62 ls [])) → ∀ (x2 x3 : Int32) (c6 : Nat → Int32) (H : Heap) (locs : List Loc) (ls : Array Slot), f_X1_next_b149 N c0 c1 c2 c4 c5 r62 x2 x3 c6 = some res → va_P (dC, dI) vwCl (wX1 cy h q2 q3 q6 q7 q10 c0 c1 c2 c3 c4 c5 c6 c7 c8 c9 c10) H → va_D A (wX1 cy h q2 q3 q6 q7 q10 c0 c1 c2 c3 c4 c5 c6 c7 c8 c9 c10) → va_S A s.heap H locs → lv_has ls 6 [(0, .ref h), (2, .int x2), (3, .int x3)] → W p l e rm_X1_next s m ([.ref h] : List Value).toArray below meth c H locs 0 0 (MQ below (z_qI dC dI cy res.1 (wX1 cy h q2 q3 q6 q7 q10 c0 c1 c2 c3 c4 c5 res.2 c7 c8 c9 c10) A) ([.ref h] : List Value).toArray s 0 0 A) (F0 m 149 ls []) := by
    clear hf hl hP hD hS
    intro r62 hr62
    intro x2 x3 c6 H locs ls hf hP hD hS hl
    unfold f_X1_next_b149 at hf
    refine lv_iload_n hx hb dX1_next_149 rfl (lv_at hl 2 rfl) ?_
    refine lv_aload_n hx hb dX1_next_150 rfl (lv_at hl 0 rfl) ?_
    refine va_get (D := (dC, dI)) (ci := 1) (v := .int c0) (C := RX1) (T := TX1) (N := 11) hx hb hts (by decide +kernel) hown hK hP 0 rfl rfl 0 (by decide) (hts (.fieldLink RX1 7 "GiftLotsModel" "ones" "I") (by decide +kernel)) (fun _ h9 => h9) rfl dX1_next_151 ?_
    refine lv_icmp_ne (tgt := 167) hx hb dX1_next_154 (by decide) (fun c_154 => ?_) (fun c_154 => ?_)
    · replace hf := (if_neg c_154).symm.trans hf
      refine lv_aload_n hx hb dX1_next_167 rfl (lv_at hl 0 rfl) ?_
      refine va_get (D := (dC, dI)) (ci := 1) (v := .ref q6) (C := RX1) (T := TX1) (N := 11) hx hb hts (by decide +kernel) hown hK hP 0 rfl rfl 6 (by decide) (hts (.fieldLink RX1 23 "GiftLotsModel" "gives" "[I") (by decide +kernel)) (fun _ h9 => h9) rfl dX1_next_168 ?_
      refine lv_iload_n hx hb dX1_next_171 rfl (lv_at hl 1 rfl) ?_
      refine lv_iload_n hx hb dX1_next_172 rfl (lv_at hl 2 rfl) ?_
      obtain ⟨hi173, hf⟩ := z_gx_some hf
      refine va_iast hx hb hK hP hD hS 3 0 rfl rfl hi173 dX1_next_173 (fun H locs hP hD hS => ?_)
      have hP : va_P (dC, dI) vwCl (wX1 cy h q2 q3 q6 q7 q10 c0 c1 c2 c3 c4 c5 (upd c6 (x2).toNatClampNeg x3) c7 c8 c9 c10) H := hP
      have hD : va_D A (wX1 cy h q2 q3 q6 q7 q10 c0 c1 c2 c3 c4 c5 (upd c6 (x2).toNatClampNeg x3) c7 c8 c9 c10) := hD
      refine lv_aload_n hx hb dX1_next_174 rfl (lv_at hl 0 rfl) ?_
      refine lv_iload_n hx hb dX1_next_175 rfl (lv_at hl 1 rfl) ?_
      refine lv_iconst (v := (1 : Int32)) hx hb dX1_next_176 (by decide) ?_
      obtain ⟨u177, hu177, hf⟩ := z_ob_some hf
      have hPc := hP.sub (ws' := (wX1 cy h q2 q3 q6 q7 q10 c0 c1 c2 c3 c4 c5 (upd c6 (x2).toNatClampNeg x3) c7 c8 c9 c10)) [0, 1, 2, 3, 4, 5] rfl
      have hDc := hD.sub (ws' := (wX1 cy h q2 q3 q6 q7 q10 c0 c1 c2 c3 c4 c5 (upd c6 (x2).toNatClampNeg x3) c7 c8 c9 c10)) [0, 1, 2, 3, 4, 5] (by decide) rfl
      have hKc := hK.sub (tys' := [(cy, .int)]) [0] rfl
      have hFc := va_free (wc := (wX1 cy h q2 q3 q6 q7 q10 c0 c1 c2 c3 c4 c5 (upd c6 (x2).toNatClampNeg x3) c7 c8 c9 c10)) hD hS hA [0, 1, 2, 3, 4, 5] rfl
      refine va_calli (va_runV (As := [.int x2, .int (1 : Int32)]) (rest := []) ⟨hx, hb, hml, hown, hts⟩ (c_X1_after N l dC dI cy h q2 q3 q6 q7 q10 H.size c0 c1 c2 c3 c4 c5 (upd c6 (x2).toNatClampNeg x3) c7 c8 c9 c10 x2 (1 : Int32) u177 hu177) (cwV 2 hts gX1_next_X1_after rfl rfl rfl (by decide +kernel) ⟨Nat.le_of_ble_eq_true rfl, Nat.le_of_ble_eq_true rfl⟩) ⟨fun a U g mk q => by obtain ⟨q0, q1, qP, qK, qD⟩ := q; exact ⟨q0, q1, qP, va_K.moved (u := U) (U := U.calling g mk a) (Vm.Alike.refl U.vm) qK, qD⟩, va_recv hKc hPc (ci := 1) (q0 := 0) rfl rfl, fun U hU hW => ⟨rfl, by rw [hU], by rw [hU]; exact hPc, va_K.moved hW.alike hKc, hDc.weaken (fun _ _ _ _ => trivial)⟩⟩ rfl rfl hl.1 rfl (lv_room (Nat.le_of_ble_eq_true rfl)) dX1_next_177 ⟨Nat.zero_le _, Nat.zero_le _⟩) hS (fun q _ h => hFc q h) hFc (fun r_177 uu_ t H1 locs ht hvm hw hB hz1 hk1 hS => ?_)
      replace hw := hw.symm
      subst hw
      obtain ⟨hP1, -, hD1⟩ := hB
      rw [ht] at hP1
      obtain ⟨hP, hD⟩ := va_join (wr := []) (w1 := (wX1 cy h q2 q3 q6 q7 q10 c0 c1 c2 c3 c4 c5 (upd c6 (x2).toNatClampNeg x3) c7 c8 c9 c10)) hP hD [0, 1, 2, 3, 4, 5] [] rfl rfl (by decide) (by decide) hk1 hFc hP1 hD1
      clear hk1 hz1 hP1 hD1 ht hPc hDc hFc
      generalize H1 = H at hP hS ⊢
      have hP : va_P (dC, dI) vwCl (wX1 cy h q2 q3 q6 q7 q10 c0 c1 c2 c3 c4 c5 (upd c6 (x2).toNatClampNeg x3) c7 c8 c9 c10) H := hP
      have hD : va_D A (wX1 cy h q2 q3 q6 q7 q10 c0 c1 c2 c3 c4 c5 (upd c6 (x2).toNatClampNeg x3) c7 c8 c9 c10) := hD
      refine lv_istore (lv' := [(5, .int u177), (0, .ref h), (2, .int x2), (3, .int x3)]) hx hb dX1_next_180 hl (by decide) rfl (fun ls hl => ?_)
      refine lv_iload hx hb dX1_next_182 (lv_at hl 0 rfl) ?_
      refine lv_aload_n hx hb dX1_next_184 rfl (lv_at hl 1 rfl) ?_
      refine va_get (D := (dC, dI)) (ci := 1) (v := .int c0) (C := RX1) (T := TX1) (N := 11) hx hb hts (by decide +kernel) hown hK hP 0 rfl rfl 0 (by decide) (hts (.fieldLink RX1 7 "GiftLotsModel" "ones" "I") (by decide +kernel)) (fun _ h9 => h9) rfl dX1_next_185 ?_
      refine lv_icmp_ne (tgt := 207) hx hb dX1_next_188 (by decide) (fun c_188 => ?_) (fun c_188 => ?_)
      · replace hf := (if_neg c_188).symm.trans hf
        refine lv_iload hx hb dX1_next_207 (lv_at hl 0 rfl) ?_
        refine lv_istore_n (lv' := [(2, .int u177), (5, .int u177), (0, .ref h), (3, .int x3)]) hx hb dX1_next_209 rfl hl (by decide) rfl (fun ls hl => ?_)
        exact B210 r62 hr62 u177 (upd c6 (x2).toNatClampNeg x3) _ _ _ hf hP hD hS (lv_sub hl [2, 0] rfl)
      · replace hf := (if_pos c_188).symm.trans hf
        refine lv_aload_n hx hb dX1_next_191 rfl (lv_at hl 1 rfl) ?_
        refine va_get (D := (dC, dI)) (ci := 1) (v := .int c5) (C := RX1) (T := TX1) (N := 11) hx hb hts (by decide +kernel) hown hK hP 0 rfl rfl 5 (by decide) (hts (.fieldLink RX1 49 "GiftLotsModel" "anyRounds" "Z") (by decide +kernel)) (fun _ h9 => h9) rfl dX1_next_192 ?_
        refine lv_if_ne (tgt := 205) hx hb dX1_next_195 (by decide) (fun c_195 => ?_) (fun c_195 => ?_)
        · replace hf := (if_neg c_195).symm.trans hf
          refine lv_iconst (v := (1 : Int32)) hx hb dX1_next_205 (by decide) ?_
          have hres := Option.some.inj hf
          subst hres
          have hP9 := hP.sub (ws' := (wX1 cy h q2 q3 q6 q7 q10 c0 c1 c2 c3 c4 c5 (upd c6 (x2).toNatClampNeg x3) c7 c8 c9 c10)) [0, 1, 2, 3, 4, 5] rfl
          have hD9 := hD.sub (ws' := (wX1 cy h q2 q3 q6 q7 q10 c0 c1 c2 c3 c4 c5 (upd c6 (x2).toNatClampNeg x3) c7 c8 c9 c10)) [0, 1, 2, 3, 4, 5] (by decide) rfl
          have hK9 := hK.sub (tys' := [(cy, .int)]) [0] rfl
          exact W.zret (v := (1 : Int32)) hx hb hr rfl (fun t ht hW => ⟨⟨(1 : Int32), (), rfl, rfl, by rw [ht]; exact hP9, va_K.moved hW.alike hK9, hD9⟩, hS.F ht⟩) hS.2.2 dX1_next_206
        · replace hf := (if_pos c_195).symm.trans hf
          refine lv_aload_n hx hb dX1_next_198 rfl (lv_at hl 1 rfl) ?_
          obtain ⟨u199, hu199, hf⟩ := z_ob_some hf
          have hPc := hP.sub (ws' := (wX1 cy h q2 q3 q6 q7 q10 c0 c1 c2 c3 c4 c5 (upd c6 (x2).toNatClampNeg x3) c7 c8 c9 c10)) [0, 1, 2, 3, 4, 5] rfl
          have hDc := hD.sub (ws' := (wX1 cy h q2 q3 q6 q7 q10 c0 c1 c2 c3 c4 c5 (upd c6 (x2).toNatClampNeg x3) c7 c8 c9 c10)) [0, 1, 2, 3, 4, 5] (by decide) rfl
          have hKc := hK.sub (tys' := [(cy, .int)]) [0] rfl
          have hFc := va_free (wc := (wX1 cy h q2 q3 q6 q7 q10 c0 c1 c2 c3 c4 c5 (upd c6 (x2).toNatClampNeg x3) c7 c8 c9 c10)) hD hS hA [0, 1, 2, 3, 4, 5] rfl
          refine va_calli (va_runV (As := []) (rest := []) ⟨hx, hb, hml, hown, hts⟩ (c_X1_areLong N l dC dI cy h q2 q3 q6 q7 q10 H.size c0 c1 c2 c3 c4 c5 (upd c6 (x2).toNatClampNeg x3) c7 c8 c9 c10 u199 hu199) (cwV 0 hts gX1_next_X1_areLong rfl rfl rfl (by decide +kernel) ⟨Nat.le_of_ble_eq_true rfl, Nat.le_of_ble_eq_true rfl⟩) ⟨fun a U g mk q => by obtain ⟨q0, q1, qP, qK, qD⟩ := q; exact ⟨q0, q1, qP, va_K.moved (u := U) (U := U.calling g mk a) (Vm.Alike.refl U.vm) qK, qD⟩, va_recv hKc hPc (ci := 1) (q0 := 0) rfl rfl, fun U hU hW => ⟨rfl, by rw [hU], by rw [hU]; exact hPc, va_K.moved hW.alike hKc, hDc.weaken (fun _ _ _ _ => trivial)⟩⟩ rfl rfl hl.1 rfl (lv_room (Nat.le_of_ble_eq_true rfl)) dX1_next_199 ⟨Nat.zero_le _, Nat.zero_le _⟩) hS (fun q _ h => hFc q h) hFc (fun r_199 uu_ t H1 locs ht hvm hw hB hz1 hk1 hS => ?_)
          replace hw := hw.symm
          subst hw
          obtain ⟨hP1, -, hD1⟩ := hB
          rw [ht] at hP1
          obtain ⟨hP, hD⟩ := va_join (wr := []) (w1 := (wX1 cy h q2 q3 q6 q7 q10 c0 c1 c2 c3 c4 c5 (upd c6 (x2).toNatClampNeg x3) c7 c8 c9 c10)) hP hD [0, 1, 2, 3, 4, 5] [] rfl rfl (by decide) (by decide) hk1 hFc hP1 hD1
          clear hk1 hz1 hP1 hD1 ht hPc hDc hFc
          generalize H1 = H at hP hS ⊢
          have hP : va_P (dC, dI) vwCl (wX1 cy h q2 q3 q6 q7 q10 c0 c1 c2 c3 c4 c5 (upd c6 (x2).toNatClampNeg x3) c7 c8 c9 c10) H := hP
          have hD : va_D A (wX1 cy h q2 q3 q6 q7 q10 c0 c1 c2 c3 c4 c5 (upd c6 (x2).toNatClampNeg x3) c7 c8 c9 c10) := hD
          refine lv_if_eq (tgt := 210) hx hb dX1_next_202 (by decide) (fun c_202 => ?_) (fun c_202 => ?_)
          · replace hf := (if_pos c_202).symm.trans hf
            exact B210 r62 hr62 x2 (upd c6 (x2).toNatClampNeg x3) _ _ _ hf hP hD hS (lv_sub hl [1, 2] rfl)
          · replace hf := (if_neg c_202).symm.trans hf
            refine lv_iconst (v := (1 : Int32)) hx hb dX1_next_205 (by decide) ?_
            have hres := Option.some.inj hf
            subst hres
            have hP9 := hP.sub (ws' := (wX1 cy h q2 q3 q6 q7 q10 c0 c1 c2 c3 c4 c5 (upd c6 (x2).toNatClampNeg x3) c7 c8 c9 c10)) [0, 1, 2, 3, 4, 5] rfl
            have hD9 := hD.sub (ws' := (wX1 cy h q2 q3 q6 q7 q10 c0 c1 c2 c3 c4 c5 (upd c6 (x2).toNatClampNeg x3) c7 c8 c9 c10)) [0, 1, 2, 3, 4, 5] (by decide) rfl
            have hK9 := hK.sub (tys' := [(cy, .int)]) [0] rfl
            exact W.zret (v := (1 : Int32)) hx hb hr rfl (fun t ht hW => ⟨⟨(1 : Int32), (), rfl, rfl, by rw [ht]; exact hP9, va_K.moved hW.alike hK9, hD9⟩, hS.F ht⟩) hS.2.2 dX1_next_206
    · replace hf := (if_pos c_154).symm.trans hf
      refine lv_aload_n hx hb dX1_next_157 rfl (lv_at hl 0 rfl) ?_
      refine lv_iload_n hx hb dX1_next_158 rfl (lv_at hl 1 rfl) ?_
      refine lv_iconst (v := (-1 : Int32)) hx hb dX1_next_159 (by decide) ?_
      obtain ⟨u160, hu160, hf⟩ := z_ob_some hf
      have hPc := hP.sub (ws' := (wX1 cy h q2 q3 q6 q7 q10 c0 c1 c2 c3 c4 c5 c6 c7 c8 c9 c10)) [0, 1, 2, 3, 4, 5] rfl
      have hDc := hD.sub (ws' := (wX1 cy h q2 q3 q6 q7 q10 c0 c1 c2 c3 c4 c5 c6 c7 c8 c9 c10)) [0, 1, 2, 3, 4, 5] (by decide) rfl
      have hKc := hK.sub (tys' := [(cy, .int)]) [0] rfl
      have hFc := va_free (wc := (wX1 cy h q2 q3 q6 q7 q10 c0 c1 c2 c3 c4 c5 c6 c7 c8 c9 c10)) hD hS hA [0, 1, 2, 3, 4, 5] rfl
      refine va_calli (va_runV (As := [.int x2, .int (-1 : Int32)]) (rest := []) ⟨hx, hb, hml, hown, hts⟩ (c_X1_after N l dC dI cy h q2 q3 q6 q7 q10 H.size c0 c1 c2 c3 c4 c5 c6 c7 c8 c9 c10 x2 (-1 : Int32) u160 hu160) (cwV 2 hts gX1_next_X1_after rfl rfl rfl (by decide +kernel) ⟨Nat.le_of_ble_eq_true rfl, Nat.le_of_ble_eq_true rfl⟩) ⟨fun a U g mk q => by obtain ⟨q0, q1, qP, qK, qD⟩ := q; exact ⟨q0, q1, qP, va_K.moved (u := U) (U := U.calling g mk a) (Vm.Alike.refl U.vm) qK, qD⟩, va_recv hKc hPc (ci := 1) (q0 := 0) rfl rfl, fun U hU hW => ⟨rfl, by rw [hU], by rw [hU]; exact hPc, va_K.moved hW.alike hKc, hDc.weaken (fun _ _ _ _ => trivial)⟩⟩ rfl rfl hl.1 rfl (lv_room (Nat.le_of_ble_eq_true rfl)) dX1_next_160 ⟨Nat.zero_le _, Nat.zero_le _⟩) hS (fun q _ h => hFc q h) hFc (fun r_160 uu_ t H1 locs ht hvm hw hB hz1 hk1 hS => ?_)
      replace hw := hw.symm
      subst hw
      obtain ⟨hP1, -, hD1⟩ := hB
      rw [ht] at hP1
      obtain ⟨hP, hD⟩ := va_join (wr := []) (w1 := (wX1 cy h q2 q3 q6 q7 q10 c0 c1 c2 c3 c4 c5 c6 c7 c8 c9 c10)) hP hD [0, 1, 2, 3, 4, 5] [] rfl rfl (by decide) (by decide) hk1 hFc hP1 hD1
      clear hk1 hz1 hP1 hD1 ht hPc hDc hFc
      generalize H1 = H at hP hS ⊢
      have hP : va_P (dC, dI) vwCl (wX1 cy h q2 q3 q6 q7 q10 c0 c1 c2 c3 c4 c5 c6 c7 c8 c9 c10) H := hP
      have hD : va_D A (wX1 cy h q2 q3 q6 q7 q10 c0 c1 c2 c3 c4 c5 c6 c7 c8 c9 c10) := hD
      refine lv_istore_n (lv' := [(2, .int u160), (0, .ref h), (3, .int x3)]) hx hb dX1_next_163 rfl hl (by decide) rfl (fun ls hl => ?_)
      refine lv_goto (tgt := 210) hx hb dX1_next_164 (by decide) ?_
      exact B210 r62 hr62 u160 c6 _ _ _ hf hP hD hS (lv_sub hl [1, 0] rfl)
  have B126 : ∀ (r62 : Int32 → (Nat → Int32) → Option (Int32 × (Nat → Int32))), (∀ (x2 : Int32) (c6 : Nat → Int32) (H : Heap) (locs : List Loc) (ls : Array Slot), r62 x2 c6 = some res → va_P (dC, dI) vwCl (wX1 cy h q2 q3 q6 q7 q10 c0 c1 c2 c3 c4 c5 c6 c7 c8 c9 c10) H → va_D A (wX1 cy h q2 q3 q6 q7 q10 c0 c1 c2 c3 c4 c5 c6 c7 c8 c9 c10) → va_S A s.heap H locs → lv_has ls 6 [(0, .ref h), (2, .int x2)] → W p l e rm_X1_next s m ([.ref h] : List Value).toArray below meth c H locs 0 0 (MQ below (z_qI dC dI cy res.1 (wX1 cy h q2 q3 q6 q7 q10 c0 c1 c2 c3 c4 c5 res.2 c7 c8 c9 c10) A) ([.ref h] : List Value).toArray s 0 0 A) (F0 m 62 ls [])) → ∀ n : Nat, ∀ (x2 x3 x4 : Int32) (c6 : Nat → Int32) (H : Heap) (locs : List Loc) (ls : Array Slot), f_X1_next_b126 N c0 c1 c2 c4 c5 r62 n x2 x3 x4 c6 = some res → va_P (dC, dI) vwCl (wX1 cy h q2 q3 q6 q7 q10 c0 c1 c2 c3 c4 c5 c6 c7 c8 c9 c10) H → va_D A (wX1 cy h q2 q3 q6 q7 q10 c0 c1 c2 c3 c4 c5 c6 c7 c8 c9 c10) → va_S A s.heap H locs → lv_has ls 6 [(0, .ref h), (2, .int x2), (3, .int x3), (4, .int x4)] → W p l e rm_X1_next s m ([.ref h] : List Value).toArray below meth c H locs 0 0 (MQ below (z_qI dC dI cy res.1 (wX1 cy h q2 q3 q6 q7 q10 c0 c1 c2 c3 c4 c5 res.2 c7 c8 c9 c10) A) ([.ref h] : List Value).toArray s 0 0 A) (F0 m 126 ls []) := by
    clear hf hl hP hD hS
    intro r62 hr62
    intro n
    induction n with
    | zero =>
      intro x2 x3 x4 c6 H locs ls hf hP hD hS hl
      rw [f_X1_next_b126] at hf
      cases hf
    | succ n ih =>
      intro x2 x3 x4 c6 H locs ls hf hP hD hS hl
      rw [f_X1_next_b126] at hf
      refine lv_iload_n hx hb dX1_next_126 rfl (lv_at hl 2 rfl) ?_
      refine lv_aload_n hx hb dX1_next_127 rfl (lv_at hl 0 rfl) ?_
      refine va_get (D := (dC, dI)) (ci := 1) (v := .int c0) (C := RX1) (T := TX1) (N := 11) hx hb hts (by decide +kernel) hown hK hP 0 rfl rfl 0 (by decide) (hts (.fieldLink RX1 7 "GiftLotsModel" "ones" "I") (by decide +kernel)) (fun _ h9 => h9) rfl dX1_next_128 ?_
      refine lv_icmp_ge (tgt := 149) hx hb dX1_next_131 (by decide) (fun c_131 => ?_) (fun c_131 => ?_)
      · replace hf := (if_pos c_131).symm.trans hf
        exact B149 r62 hr62 x2 x3 c6 _ _ _ hf hP hD hS (lv_sub hl [0, 1, 2] rfl)
      · replace hf := (if_neg c_131).symm.trans hf
        refine lv_iload hx hb dX1_next_134 (lv_at hl 3 rfl) ?_
        refine lv_iload_n hx hb dX1_next_136 rfl (lv_at hl 2 rfl) ?_
        refine lv_ishr hx hb dX1_next_137 ?_
        refine lv_iconst (v := (1 : Int32)) hx hb dX1_next_138 (by decide) ?_
        refine lv_iand hx hb dX1_next_139 ?_
        refine lv_if_ne (tgt := 149) hx hb dX1_next_140 (by decide) (fun c_140 => ?_) (fun c_140 => ?_)
        · replace hf := (if_neg c_140).symm.trans hf
          exact B149 r62 hr62 x2 x3 c6 _ _ _ hf hP hD hS (lv_sub hl [0, 1, 2] rfl)
        · replace hf := (if_pos c_140).symm.trans hf
          refine lv_iinc (v := x3 + (1 : Int32)) (lv' := [(3, .int (x3 + (1 : Int32))), (0, .ref h), (2, .int x2), (4, .int x4)]) hx hb dX1_next_143 hl (k := 2) rfl rfl (by decide) rfl (fun ls hl => ?_)
          refine lv_goto (tgt := 126) hx hb dX1_next_146 (by decide) ?_
          exact ih x2 (x3 + (1 : Int32)) x4 c6 _ _ _ hf hP hD hS (lv_sub hl [1, 2, 0, 3] rfl)
  have B97 : ∀ (r62 : Int32 → (Nat → Int32) → Option (Int32 × (Nat → Int32))), (∀ (x2 : Int32) (c6 : Nat → Int32) (H : Heap) (locs : List Loc) (ls : Array Slot), r62 x2 c6 = some res → va_P (dC, dI) vwCl (wX1 cy h q2 q3 q6 q7 q10 c0 c1 c2 c3 c4 c5 c6 c7 c8 c9 c10) H → va_D A (wX1 cy h q2 q3 q6 q7 q10 c0 c1 c2 c3 c4 c5 c6 c7 c8 c9 c10) → va_S A s.heap H locs → lv_has ls 6 [(0, .ref h), (2, .int x2)] → W p l e rm_X1_next s m ([.ref h] : List Value).toArray below meth c H locs 0 0 (MQ below (z_qI dC dI cy res.1 (wX1 cy h q2 q3 q6 q7 q10 c0 c1 c2 c3 c4 c5 res.2 c7 c8 c9 c10) A) ([.ref h] : List Value).toArray s 0 0 A) (F0 m 62 ls [])) → ∀ (x2 t0 : Int32) (c6 : Nat → Int32) (H : Heap) (locs : List Loc) (ls : Array Slot), f_X1_next_b97 N c0 c1 c2 c4 c5 r62 x2 t0 c6 = some res → va_P (dC, dI) vwCl (wX1 cy h q2 q3 q6 q7 q10 c0 c1 c2 c3 c4 c5 c6 c7 c8 c9 c10) H → va_D A (wX1 cy h q2 q3 q6 q7 q10 c0 c1 c2 c3 c4 c5 c6 c7 c8 c9 c10) → va_S A s.heap H locs → lv_has ls 6 [(0, .ref h), (2, .int x2)] → W p l e rm_X1_next s m ([.ref h] : List Value).toArray below meth c H locs 0 0 (MQ below (z_qI dC dI cy res.1 (wX1 cy h q2 q3 q6 q7 q10 c0 c1 c2 c3 c4 c5 res.2 c7 c8 c9 c10) A) ([.ref h] : List Value).toArray s 0 0 A) (F0 m 97 ls [.int t0]) := by
    clear hf hl hP hD hS
    intro r62 hr62
    intro x2 t0 c6 H locs ls hf hP hD hS hl
    unfold f_X1_next_b97 at hf
    refine lv_istore_n (lv' := [(3, .int t0), (0, .ref h), (2, .int x2)]) hx hb dX1_next_97 rfl hl (by decide) rfl (fun ls hl => ?_)
    refine lv_aload_n hx hb dX1_next_98 rfl (lv_at hl 1 rfl) ?_
    refine va_get (D := (dC, dI)) (ci := 1) (v := .ref q6) (C := RX1) (T := TX1) (N := 11) hx hb hts (by decide +kernel) hown hK hP 0 rfl rfl 6 (by decide) (hts (.fieldLink RX1 23 "GiftLotsModel" "gives" "[I") (by decide +kernel)) (fun _ h9 => h9) rfl dX1_next_99 ?_
    refine lv_iload_n hx hb dX1_next_102 rfl (lv_at hl 2 rfl) ?_
    refine lv_bipush (v := (-6 : Int32)) hx hb dX1_next_103 (by decide) ?_
    obtain ⟨hi105, hf⟩ := z_gx_some hf
    refine va_iast hx hb hK hP hD hS 3 0 rfl rfl hi105 dX1_next_105 (fun H locs hP hD hS => ?_)
    have hP : va_P (dC, dI) vwCl (wX1 cy h q2 q3 q6 q7 q10 c0 c1 c2 c3 c4 c5 (upd c6 (x2).toNatClampNeg (-6 : Int32)) c7 c8 c9 c10) H := hP
    have hD : va_D A (wX1 cy h q2 q3 q6 q7 q10 c0 c1 c2 c3 c4 c5 (upd c6 (x2).toNatClampNeg (-6 : Int32)) c7 c8 c9 c10) := hD
    refine lv_aload_n hx hb dX1_next_106 rfl (lv_at hl 1 rfl) ?_
    refine va_get (D := (dC, dI)) (ci := 1) (v := .ref q2) (C := RX1) (T := TX1) (N := 11) hx hb hts (by decide +kernel) hown hK hP 0 rfl rfl 2 (by decide) (hts (.fieldLink RX1 16 "GiftLotsModel" "may" "[I") (by decide +kernel)) (fun _ h9 => h9) rfl dX1_next_107 ?_
    refine lv_iload_n hx hb dX1_next_110 rfl (lv_at hl 2 rfl) ?_
    obtain ⟨hi111, hf⟩ := z_gx_some hf
    refine va_iald hx hb hK hP 1 0 rfl rfl hi111 dX1_next_111 ?_
    refine lv_aload_n hx hb dX1_next_112 rfl (lv_at hl 1 rfl) ?_
    refine va_get (D := (dC, dI)) (ci := 1) (v := .int c4) (C := RX1) (T := TX1) (N := 11) hx hb hts (by decide +kernel) hown hK hP 0 rfl rfl 4 (by decide) (hts (.fieldLink RX1 46 "GiftLotsModel" "who" "I") (by decide +kernel)) (fun _ h9 => h9) rfl dX1_next_113 ?_
    refine lv_iand hx hb dX1_next_116 ?_
    refine lv_aload_n hx hb dX1_next_117 rfl (lv_at hl 1 rfl) ?_
    obtain ⟨u118, hu118, hf⟩ := z_ob_some hf
    have hPc := hP.sub (ws' := (wX1 cy h q2 q3 q6 q7 q10 c0 c1 c2 c3 c4 c5 (upd c6 (x2).toNatClampNeg (-6 : Int32)) c7 c8 c9 c10)) [0, 1, 2, 3, 4, 5] rfl
    have hDc := hD.sub (ws' := (wX1 cy h q2 q3 q6 q7 q10 c0 c1 c2 c3 c4 c5 (upd c6 (x2).toNatClampNeg (-6 : Int32)) c7 c8 c9 c10)) [0, 1, 2, 3, 4, 5] (by decide) rfl
    have hKc := hK.sub (tys' := [(cy, .int)]) [0] rfl
    have hFc := va_free (wc := (wX1 cy h q2 q3 q6 q7 q10 c0 c1 c2 c3 c4 c5 (upd c6 (x2).toNatClampNeg (-6 : Int32)) c7 c8 c9 c10)) hD hS hA [0, 1, 2, 3, 4, 5] rfl
    refine va_calli (va_runV (As := []) (rest := [.int ((c2 (x2).toNatClampNeg) &&& c4)]) ⟨hx, hb, hml, hown, hts⟩ (c_X1_gotten N l dC dI cy h q2 q3 q6 q7 q10 H.size c0 c1 c2 c3 c4 c5 (upd c6 (x2).toNatClampNeg (-6 : Int32)) c7 c8 c9 c10 u118 hu118) (cwV 0 hts gX1_next_X1_gotten rfl rfl rfl (by decide +kernel) ⟨Nat.le_of_ble_eq_true rfl, Nat.le_of_ble_eq_true rfl⟩) ⟨fun a U g mk q => by obtain ⟨q0, q1, qP, qK, qD⟩ := q; exact ⟨q0, q1, qP, va_K.moved (u := U) (U := U.calling g mk a) (Vm.Alike.refl U.vm) qK, qD⟩, va_recv hKc hPc (ci := 1) (q0 := 0) rfl rfl, fun U hU hW => ⟨rfl, by rw [hU], by rw [hU]; exact hPc, va_K.moved hW.alike hKc, hDc.weaken (fun _ _ _ _ => trivial)⟩⟩ rfl rfl hl.1 rfl (lv_room (Nat.le_of_ble_eq_true rfl)) dX1_next_118 ⟨Nat.zero_le _, Nat.zero_le _⟩) hS (fun q _ h => hFc q h) hFc (fun r_118 uu_ t H1 locs ht hvm hw hB hz1 hk1 hS => ?_)
    replace hw := hw.symm
    subst hw
    obtain ⟨hP1, -, hD1⟩ := hB
    rw [ht] at hP1
    obtain ⟨hP, hD⟩ := va_join (wr := []) (w1 := (wX1 cy h q2 q3 q6 q7 q10 c0 c1 c2 c3 c4 c5 (upd c6 (x2).toNatClampNeg (-6 : Int32)) c7 c8 c9 c10)) hP hD [0, 1, 2, 3, 4, 5] [] rfl rfl (by decide) (by decide) hk1 hFc hP1 hD1
    clear hk1 hz1 hP1 hD1 ht hPc hDc hFc
    generalize H1 = H at hP hS ⊢
    have hP : va_P (dC, dI) vwCl (wX1 cy h q2 q3 q6 q7 q10 c0 c1 c2 c3 c4 c5 (upd c6 (x2).toNatClampNeg (-6 : Int32)) c7 c8 c9 c10) H := hP
    have hD : va_D A (wX1 cy h q2 q3 q6 q7 q10 c0 c1 c2 c3 c4 c5 (upd c6 (x2).toNatClampNeg (-6 : Int32)) c7 c8 c9 c10) := hD
    refine lv_iconst (v := (-1 : Int32)) hx hb dX1_next_121 (by decide) ?_
    refine lv_ixor hx hb dX1_next_122 ?_
    refine lv_iand hx hb dX1_next_123 ?_
    refine lv_istore (lv' := [(4, .int (((c2 (x2).toNatClampNeg) &&& c4) &&& (u118 ^^^ (-1 : Int32)))), (3, .int t0), (0, .ref h), (2, .int x2)]) hx hb dX1_next_124 hl (by decide) rfl (fun ls hl => ?_)
    exact B126 r62 hr62 N x2 t0 (((c2 (x2).toNatClampNeg) &&& c4) &&& (u118 ^^^ (-1 : Int32))) (upd c6 (x2).toNatClampNeg (-6 : Int32)) _ _ _ hf hP hD hS (lv_sub hl [2, 3, 1, 0] rfl)
  have B62 : ∀ n : Nat, ∀ (x2 : Int32) (c6 : Nat → Int32) (H : Heap) (locs : List Loc) (ls : Array Slot), f_X1_next_b62 N c0 c1 c2 c4 c5 n x2 c6 = some res → va_P (dC, dI) vwCl (wX1 cy h q2 q3 q6 q7 q10 c0 c1 c2 c3 c4 c5 c6 c7 c8 c9 c10) H → va_D A (wX1 cy h q2 q3 q6 q7 q10 c0 c1 c2 c3 c4 c5 c6 c7 c8 c9 c10) → va_S A s.heap H locs → lv_has ls 6 [(0, .ref h), (2, .int x2)] → W p l e rm_X1_next s m ([.ref h] : List Value).toArray below meth c H locs 0 0 (MQ below (z_qI dC dI cy res.1 (wX1 cy h q2 q3 q6 q7 q10 c0 c1 c2 c3 c4 c5 res.2 c7 c8 c9 c10) A) ([.ref h] : List Value).toArray s 0 0 A) (F0 m 62 ls []) := by
    clear hf hl hP hD hS
    intro n
    induction n with
    | zero =>
      intro x2 c6 H locs ls hf hP hD hS hl
      rw [f_X1_next_b62] at hf
      cases hf
    | succ n ih =>
      intro x2 c6 H locs ls hf hP hD hS hl
      rw [f_X1_next_b62] at hf
      refine lv_iload_n hx hb dX1_next_62 rfl (lv_at hl 1 rfl) ?_
      refine lv_iconst (v := (0 : Int32)) hx hb dX1_next_63 (by decide) ?_
      refine lv_aload_n hx hb dX1_next_64 rfl (lv_at hl 0 rfl) ?_
      refine va_get (D := (dC, dI)) (ci := 1) (v := .int c0) (C := RX1) (T := TX1) (N := 11) hx hb hts (by decide +kernel) hown hK hP 0 rfl rfl 0 (by decide) (hts (.fieldLink RX1 7 "GiftLotsModel" "ones" "I") (by decide +kernel)) (fun _ h9 => h9) rfl dX1_next_65 ?_
      refine lv_iconst (v := (1 : Int32)) hx hb dX1_next_68 (by decide) ?_
      refine lv_isub hx hb dX1_next_69 ?_
      obtain ⟨u70, hu70, hf⟩ := z_ob_some hf
      have hPc := hP.sub (ws' := ([] : va_W)) [] rfl
      have hDc := hD.sub (ws' := ([] : va_W)) [] (by decide) rfl
      have hKc := hK.sub (tys' := [(cy, .int)]) [0] rfl
      have hFc := va_free (wc := ([] : va_W)) hD hS hA [] rfl
      refine va_calli (va_runS (As := [.int x2, .int (0 : Int32), .int (c0 - (1 : Int32))]) (rest := []) ⟨hx, hb, hml, hown, hts⟩ (c_X1_in N l dC dI cy H.size x2 (0 : Int32) (c0 - (1 : Int32)) u70 hu70) (va_cwS 3 hts gX1_next_X1_in rfl rfl rfl (by decide +kernel) ⟨Nat.le_of_ble_eq_true rfl, Nat.le_of_ble_eq_true rfl⟩) ⟨fun a U g mk q => by obtain ⟨q0, q1, qP, qK, qD⟩ := q; exact ⟨q0, q1, qP, va_K.moved (u := U) (U := U.calling g mk a) (Vm.Alike.refl U.vm) qK, qD⟩, fun U hU hW => ⟨rfl, by rw [hU], by rw [hU]; exact hPc, va_K.moved hW.alike hKc, hDc.weaken (fun _ _ _ _ => trivial)⟩⟩ rfl rfl hl.1 rfl (lv_room (Nat.le_of_ble_eq_true rfl)) dX1_next_70 ⟨Nat.zero_le _, Nat.zero_le _⟩) hS (fun q _ h => hFc q h) hFc (fun r_70 uu_ t H1 locs ht hvm hw hB hz1 hk1 hS => ?_)
      replace hw := hw.symm
      subst hw
      obtain ⟨hP1, -, hD1⟩ := hB
      rw [ht] at hP1
      obtain ⟨hP, hD⟩ := va_join (wr := (wX1 cy h q2 q3 q6 q7 q10 c0 c1 c2 c3 c4 c5 c6 c7 c8 c9 c10)) (w1 := ([] : va_W)) hP hD [] [0, 1, 2, 3, 4, 5] rfl rfl (by decide) (by decide) hk1 hFc hP1 hD1
      clear hk1 hz1 hP1 hD1 ht hPc hDc hFc
      generalize H1 = H at hP hS ⊢
      have hP : va_P (dC, dI) vwCl (wX1 cy h q2 q3 q6 q7 q10 c0 c1 c2 c3 c4 c5 c6 c7 c8 c9 c10) H := hP
      have hD : va_D A (wX1 cy h q2 q3 q6 q7 q10 c0 c1 c2 c3 c4 c5 c6 c7 c8 c9 c10) := hD
      refine lv_if_eq (tgt := 213) hx hb dX1_next_73 (by decide) (fun c_73 => ?_) (fun c_73 => ?_)
      · replace hf := (if_pos c_73).symm.trans hf
        refine lv_iconst (v := (0 : Int32)) hx hb dX1_next_213 (by decide) ?_
        have hres := Option.some.inj hf
        subst hres
        have hP9 := hP.sub (ws' := (wX1 cy h q2 q3 q6 q7 q10 c0 c1 c2 c3 c4 c5 c6 c7 c8 c9 c10)) [0, 1, 2, 3, 4, 5] rfl
        have hD9 := hD.sub (ws' := (wX1 cy h q2 q3 q6 q7 q10 c0 c1 c2 c3 c4 c5 c6 c7 c8 c9 c10)) [0, 1, 2, 3, 4, 5] (by decide) rfl
        have hK9 := hK.sub (tys' := [(cy, .int)]) [0] rfl
        exact W.zret (v := (0 : Int32)) hx hb hr rfl (fun t ht hW => ⟨⟨(0 : Int32), (), rfl, rfl, by rw [ht]; exact hP9, va_K.moved hW.alike hK9, hD9⟩, hS.F ht⟩) hS.2.2 dX1_next_214
      · replace hf := (if_neg c_73).symm.trans hf
        refine lv_aload_n hx hb dX1_next_76 rfl (lv_at hl 0 rfl) ?_
        refine va_get (D := (dC, dI)) (ci := 1) (v := .ref q6) (C := RX1) (T := TX1) (N := 11) hx hb hts (by decide +kernel) hown hK hP 0 rfl rfl 6 (by decide) (hts (.fieldLink RX1 23 "GiftLotsModel" "gives" "[I") (by decide +kernel)) (fun _ h9 => h9) rfl dX1_next_77 ?_
        refine lv_iload_n hx hb dX1_next_80 rfl (lv_at hl 1 rfl) ?_
        obtain ⟨hi81, hf⟩ := z_gx_some hf
        refine va_iald hx hb hK hP 3 0 rfl rfl hi81 dX1_next_81 ?_
        refine lv_if_ge (tgt := 89) hx hb dX1_next_82 (by decide) (fun c_82 => ?_) (fun c_82 => ?_)
        · replace hf := (if_pos c_82).symm.trans hf
          refine lv_aload_n hx hb dX1_next_89 rfl (lv_at hl 0 rfl) ?_
          refine va_get (D := (dC, dI)) (ci := 1) (v := .ref q6) (C := RX1) (T := TX1) (N := 11) hx hb hts (by decide +kernel) hown hK hP 0 rfl rfl 6 (by decide) (hts (.fieldLink RX1 23 "GiftLotsModel" "gives" "[I") (by decide +kernel)) (fun _ h9 => h9) rfl dX1_next_90 ?_
          refine lv_iload_n hx hb dX1_next_93 rfl (lv_at hl 1 rfl) ?_
          obtain ⟨hi94, hf⟩ := z_gx_some hf
          refine va_iald hx hb hK hP 3 0 rfl rfl hi94 dX1_next_94 ?_
          refine lv_iconst (v := (1 : Int32)) hx hb dX1_next_95 (by decide) ?_
          refine lv_iadd hx hb dX1_next_96 ?_
          exact B97 (f_X1_next_b62 N c0 c1 c2 c4 c5 n) ih x2 ((c6 (x2).toNatClampNeg) + (1 : Int32)) c6 _ _ _ hf hP hD hS (lv_sub hl [0, 1] rfl)
        · replace hf := (if_neg c_82).symm.trans hf
          refine lv_iconst (v := (0 : Int32)) hx hb dX1_next_85 (by decide) ?_
          refine lv_goto (tgt := 97) hx hb dX1_next_86 (by decide) ?_
          exact B97 (f_X1_next_b62 N c0 c1 c2 c4 c5 n) ih x2 (0 : Int32) c6 _ _ _ hf hP hD hS (lv_sub hl [0, 1] rfl)
  have B61 : ∀ (t0 : Int32) (c6 : Nat → Int32) (H : Heap) (locs : List Loc) (ls : Array Slot), f_X1_next_b61 N c0 c1 c2 c4 c5 t0 c6 = some res → va_P (dC, dI) vwCl (wX1 cy h q2 q3 q6 q7 q10 c0 c1 c2 c3 c4 c5 c6 c7 c8 c9 c10) H → va_D A (wX1 cy h q2 q3 q6 q7 q10 c0 c1 c2 c3 c4 c5 c6 c7 c8 c9 c10) → va_S A s.heap H locs → lv_has ls 6 [(0, .ref h)] → W p l e rm_X1_next s m ([.ref h] : List Value).toArray below meth c H locs 0 0 (MQ below (z_qI dC dI cy res.1 (wX1 cy h q2 q3 q6 q7 q10 c0 c1 c2 c3 c4 c5 res.2 c7 c8 c9 c10) A) ([.ref h] : List Value).toArray s 0 0 A) (F0 m 61 ls [.int t0]) := by
    clear hf hl hP hD hS
    intro t0 c6 H locs ls hf hP hD hS hl
    unfold f_X1_next_b61 at hf
    refine lv_istore_n (lv' := [(2, .int t0), (0, .ref h)]) hx hb dX1_next_61 rfl hl (by decide) rfl (fun ls hl => ?_)
    exact B62 N t0 c6 _ _ _ hf hP hD hS (lv_sub hl [1, 0] rfl)
  have B32 : ∀ (r4 : Int32 → Int32 → (Nat → Int32) → Option (Int32 × (Nat → Int32))), (∀ (x1 x2 : Int32) (c6 : Nat → Int32) (H : Heap) (locs : List Loc) (ls : Array Slot), r4 x1 x2 c6 = some res → va_P (dC, dI) vwCl (wX1 cy h q2 q3 q6 q7 q10 c0 c1 c2 c3 c4 c5 c6 c7 c8 c9 c10) H → va_D A (wX1 cy h q2 q3 q6 q7 q10 c0 c1 c2 c3 c4 c5 c6 c7 c8 c9 c10) → va_S A s.heap H locs → lv_has ls 6 [(0, .ref h), (1, .int x1), (2, .int x2)] → W p l e rm_X1_next s m ([.ref h] : List Value).toArray below meth c H locs 0 0 (MQ below (z_qI dC dI cy res.1 (wX1 cy h q2 q3 q6 q7 q10 c0 c1 c2 c3 c4 c5 res.2 c7 c8 c9 c10) A) ([.ref h] : List Value).toArray s 0 0 A) (F0 m 4 ls [])) → ∀ (x2 t0 : Int32) (c6 : Nat → Int32) (H : Heap) (locs : List Loc) (ls : Array Slot), f_X1_next_b32 N c0 c1 c2 c4 c5 r4 x2 t0 c6 = some res → va_P (dC, dI) vwCl (wX1 cy h q2 q3 q6 q7 q10 c0 c1 c2 c3 c4 c5 c6 c7 c8 c9 c10) H → va_D A (wX1 cy h q2 q3 q6 q7 q10 c0 c1 c2 c3 c4 c5 c6 c7 c8 c9 c10) → va_S A s.heap H locs → lv_has ls 6 [(0, .ref h), (2, .int x2)] → W p l e rm_X1_next s m ([.ref h] : List Value).toArray below meth c H locs 0 0 (MQ below (z_qI dC dI cy res.1 (wX1 cy h q2 q3 q6 q7 q10 c0 c1 c2 c3 c4 c5 res.2 c7 c8 c9 c10) A) ([.ref h] : List Value).toArray s 0 0 A) (F0 m 32 ls [.int t0]) := by
    clear hf hl hP hD hS
    intro r4 hr4
    intro x2 t0 c6 H locs ls hf hP hD hS hl
    unfold f_X1_next_b32 at hf
    refine lv_istore_n (lv' := [(1, .int t0), (0, .ref h), (2, .int x2)]) hx hb dX1_next_32 rfl hl (by decide) rfl (fun ls hl => ?_)
    refine lv_iinc (v := x2 + (1 : Int32)) (lv' := [(2, .int (x2 + (1 : Int32))), (1, .int t0), (0, .ref h)]) hx hb dX1_next_33 hl (k := 2) rfl rfl (by decide) rfl (fun ls hl => ?_)
    refine lv_goto (tgt := 4) hx hb dX1_next_36 (by decide) ?_
    exact hr4 t0 (x2 + (1 : Int32)) c6 _ _ _ hf hP hD hS (lv_sub hl [2, 1, 0] rfl)
  have B31 : ∀ (r4 : Int32 → Int32 → (Nat → Int32) → Option (Int32 × (Nat → Int32))), (∀ (x1 x2 : Int32) (c6 : Nat → Int32) (H : Heap) (locs : List Loc) (ls : Array Slot), r4 x1 x2 c6 = some res → va_P (dC, dI) vwCl (wX1 cy h q2 q3 q6 q7 q10 c0 c1 c2 c3 c4 c5 c6 c7 c8 c9 c10) H → va_D A (wX1 cy h q2 q3 q6 q7 q10 c0 c1 c2 c3 c4 c5 c6 c7 c8 c9 c10) → va_S A s.heap H locs → lv_has ls 6 [(0, .ref h), (1, .int x1), (2, .int x2)] → W p l e rm_X1_next s m ([.ref h] : List Value).toArray below meth c H locs 0 0 (MQ below (z_qI dC dI cy res.1 (wX1 cy h q2 q3 q6 q7 q10 c0 c1 c2 c3 c4 c5 res.2 c7 c8 c9 c10) A) ([.ref h] : List Value).toArray s 0 0 A) (F0 m 4 ls [])) → ∀ (x2 : Int32) (c6 : Nat → Int32) (H : Heap) (locs : List Loc) (ls : Array Slot), f_X1_next_b31 N c0 c1 c2 c4 c5 r4 x2 c6 = some res → va_P (dC, dI) vwCl (wX1 cy h q2 q3 q6 q7 q10 c0 c1 c2 c3 c4 c5 c6 c7 c8 c9 c10) H → va_D A (wX1 cy h q2 q3 q6 q7 q10 c0 c1 c2 c3 c4 c5 c6 c7 c8 c9 c10) → va_S A s.heap H locs → lv_has ls 6 [(0, .ref h), (2, .int x2)] → W p l e rm_X1_next s m ([.ref h] : List Value).toArray below meth c H locs 0 0 (MQ below (z_qI dC dI cy res.1 (wX1 cy h q2 q3 q6 q7 q10 c0 c1 c2 c3 c4 c5 res.2 c7 c8 c9 c10) A) ([.ref h] : List Value).toArray s 0 0 A) (F0 m 31 ls []) := by
    clear hf hl hP hD hS
    intro r4 hr4
    intro x2 c6 H locs ls hf hP hD hS hl
    unfold f_X1_next_b31 at hf
    refine lv_iconst (v := (0 : Int32)) hx hb dX1_next_31 (by decide) ?_
    exact B32 r4 hr4 x2 (0 : Int32) c6 _ _ _ hf hP hD hS (lv_sub hl [0, 1] rfl)
  have B4 : ∀ n : Nat, ∀ (x1 x2 : Int32) (c6 : Nat → Int32) (H : Heap) (locs : List Loc) (ls : Array Slot), f_X1_next_b4 N c0 c1 c2 c4 c5 n x1 x2 c6 = some res → va_P (dC, dI) vwCl (wX1 cy h q2 q3 q6 q7 q10 c0 c1 c2 c3 c4 c5 c6 c7 c8 c9 c10) H → va_D A (wX1 cy h q2 q3 q6 q7 q10 c0 c1 c2 c3 c4 c5 c6 c7 c8 c9 c10) → va_S A s.heap H locs → lv_has ls 6 [(0, .ref h), (1, .int x1), (2, .int x2)] → W p l e rm_X1_next s m ([.ref h] : List Value).toArray below meth c H locs 0 0 (MQ below (z_qI dC dI cy res.1 (wX1 cy h q2 q3 q6 q7 q10 c0 c1 c2 c3 c4 c5 res.2 c7 c8 c9 c10) A) ([.ref h] : List Value).toArray s 0 0 A) (F0 m 4 ls []) := by
    clear hf hl hP hD hS
    intro n
    induction n with
    | zero =>
      intro x1 x2 c6 H locs ls hf hP hD hS hl
      rw [f_X1_next_b4] at hf
      cases hf
    | succ n ih =>
      intro x1 x2 c6 H locs ls hf hP hD hS hl
      rw [f_X1_next_b4] at hf
      refine lv_iload_n hx hb dX1_next_4 rfl (lv_at hl 2 rfl) ?_
      refine lv_aload_n hx hb dX1_next_5 rfl (lv_at hl 0 rfl) ?_
      refine va_get (D := (dC, dI)) (ci := 1) (v := .int c0) (C := RX1) (T := TX1) (N := 11) hx hb hts (by decide +kernel) hown hK hP 0 rfl rfl 0 (by decide) (hts (.fieldLink RX1 7 "GiftLotsModel" "ones" "I") (by decide +kernel)) (fun _ h9 => h9) rfl dX1_next_6 ?_
      refine lv_icmp_ge (tgt := 39) hx hb dX1_next_9 (by decide) (fun c_9 => ?_) (fun c_9 => ?_)
      · replace hf := (if_pos c_9).symm.trans hf
        refine lv_iload_n hx hb dX1_next_39 rfl (lv_at hl 1 rfl) ?_
        refine lv_if_eq (tgt := 52) hx hb dX1_next_40 (by decide) (fun c_40 => ?_) (fun c_40 => ?_)
        · replace hf := (if_pos c_40).symm.trans hf
          refine lv_aload_n hx hb dX1_next_52 rfl (lv_at hl 0 rfl) ?_
          refine lv_aload_n hx hb dX1_next_53 rfl (lv_at hl 0 rfl) ?_
          refine va_get (D := (dC, dI)) (ci := 1) (v := .int c0) (C := RX1) (T := TX1) (N := 11) hx hb hts (by decide +kernel) hown hK hP 0 rfl rfl 0 (by decide) (hts (.fieldLink RX1 7 "GiftLotsModel" "ones" "I") (by decide +kernel)) (fun _ h9 => h9) rfl dX1_next_54 ?_
          refine lv_iconst (v := (-1 : Int32)) hx hb dX1_next_57 (by decide) ?_
          obtain ⟨u58, hu58, hf⟩ := z_ob_some hf
          have hPc := hP.sub (ws' := (wX1 cy h q2 q3 q6 q7 q10 c0 c1 c2 c3 c4 c5 c6 c7 c8 c9 c10)) [0, 1, 2, 3, 4, 5] rfl
          have hDc := hD.sub (ws' := (wX1 cy h q2 q3 q6 q7 q10 c0 c1 c2 c3 c4 c5 c6 c7 c8 c9 c10)) [0, 1, 2, 3, 4, 5] (by decide) rfl
          have hKc := hK.sub (tys' := [(cy, .int)]) [0] rfl
          have hFc := va_free (wc := (wX1 cy h q2 q3 q6 q7 q10 c0 c1 c2 c3 c4 c5 c6 c7 c8 c9 c10)) hD hS hA [0, 1, 2, 3, 4, 5] rfl
          refine va_calli (va_runV (As := [.int c0, .int (-1 : Int32)]) (rest := []) ⟨hx, hb, hml, hown, hts⟩ (c_X1_after N l dC dI cy h q2 q3 q6 q7 q10 H.size c0 c1 c2 c3 c4 c5 c6 c7 c8 c9 c10 c0 (-1 : Int32) u58 hu58) (cwV 2 hts gX1_next_X1_after rfl rfl rfl (by decide +kernel) ⟨Nat.le_of_ble_eq_true rfl, Nat.le_of_ble_eq_true rfl⟩) ⟨fun a U g mk q => by obtain ⟨q0, q1, qP, qK, qD⟩ := q; exact ⟨q0, q1, qP, va_K.moved (u := U) (U := U.calling g mk a) (Vm.Alike.refl U.vm) qK, qD⟩, va_recv hKc hPc (ci := 1) (q0 := 0) rfl rfl, fun U hU hW => ⟨rfl, by rw [hU], by rw [hU]; exact hPc, va_K.moved hW.alike hKc, hDc.weaken (fun _ _ _ _ => trivial)⟩⟩ rfl rfl hl.1 rfl (lv_room (Nat.le_of_ble_eq_true rfl)) dX1_next_58 ⟨Nat.zero_le _, Nat.zero_le _⟩) hS (fun q _ h => hFc q h) hFc (fun r_58 uu_ t H1 locs ht hvm hw hB hz1 hk1 hS => ?_)
          replace hw := hw.symm
          subst hw
          obtain ⟨hP1, -, hD1⟩ := hB
          rw [ht] at hP1
          obtain ⟨hP, hD⟩ := va_join (wr := []) (w1 := (wX1 cy h q2 q3 q6 q7 q10 c0 c1 c2 c3 c4 c5 c6 c7 c8 c9 c10)) hP hD [0, 1, 2, 3, 4, 5] [] rfl rfl (by decide) (by decide) hk1 hFc hP1 hD1
          clear hk1 hz1 hP1 hD1 ht hPc hDc hFc
          generalize H1 = H at hP hS ⊢
          have hP : va_P (dC, dI) vwCl (wX1 cy h q2 q3 q6 q7 q10 c0 c1 c2 c3 c4 c5 c6 c7 c8 c9 c10) H := hP
          have hD : va_D A (wX1 cy h q2 q3 q6 q7 q10 c0 c1 c2 c3 c4 c5 c6 c7 c8 c9 c10) := hD
          exact B61 u58 c6 _ _ _ hf hP hD hS (lv_sub hl [0] rfl)
        · replace hf := (if_neg c_40).symm.trans hf
          refine lv_aload_n hx hb dX1_next_43 rfl (lv_at hl 0 rfl) ?_
          refine lv_iconst (v := (-1 : Int32)) hx hb dX1_next_44 (by decide) ?_
          refine lv_iconst (v := (1 : Int32)) hx hb dX1_next_45 (by decide) ?_
          obtain ⟨u46, hu46, hf⟩ := z_ob_some hf
          have hPc := hP.sub (ws' := (wX1 cy h q2 q3 q6 q7 q10 c0 c1 c2 c3 c4 c5 c6 c7 c8 c9 c10)) [0, 1, 2, 3, 4, 5] rfl
          have hDc := hD.sub (ws' := (wX1 cy h q2 q3 q6 q7 q10 c0 c1 c2 c3 c4 c5 c6 c7 c8 c9 c10)) [0, 1, 2, 3, 4, 5] (by decide) rfl
          have hKc := hK.sub (tys' := [(cy, .int)]) [0] rfl
          have hFc := va_free (wc := (wX1 cy h q2 q3 q6 q7 q10 c0 c1 c2 c3 c4 c5 c6 c7 c8 c9 c10)) hD hS hA [0, 1, 2, 3, 4, 5] rfl
          refine va_calli (va_runV (As := [.int (-1 : Int32), .int (1 : Int32)]) (rest := []) ⟨hx, hb, hml, hown, hts⟩ (c_X1_after N l dC dI cy h q2 q3 q6 q7 q10 H.size c0 c1 c2 c3 c4 c5 c6 c7 c8 c9 c10 (-1 : Int32) (1 : Int32) u46 hu46) (cwV 2 hts gX1_next_X1_after rfl rfl rfl (by decide +kernel) ⟨Nat.le_of_ble_eq_true rfl, Nat.le_of_ble_eq_true rfl⟩) ⟨fun a U g mk q => by obtain ⟨q0, q1, qP, qK, qD⟩ := q; exact ⟨q0, q1, qP, va_K.moved (u := U) (U := U.calling g mk a) (Vm.Alike.refl U.vm) qK, qD⟩, va_recv hKc hPc (ci := 1) (q0 := 0) rfl rfl, fun U hU hW => ⟨rfl, by rw [hU], by rw [hU]; exact hPc, va_K.moved hW.alike hKc, hDc.weaken (fun _ _ _ _ => trivial)⟩⟩ rfl rfl hl.1 rfl (lv_room (Nat.le_of_ble_eq_true rfl)) dX1_next_46 ⟨Nat.zero_le _, Nat.zero_le _⟩) hS (fun q _ h => hFc q h) hFc (fun r_46 uu_ t H1 locs ht hvm hw hB hz1 hk1 hS => ?_)
          replace hw := hw.symm
          subst hw
          obtain ⟨hP1, -, hD1⟩ := hB
          rw [ht] at hP1
          obtain ⟨hP, hD⟩ := va_join (wr := []) (w1 := (wX1 cy h q2 q3 q6 q7 q10 c0 c1 c2 c3 c4 c5 c6 c7 c8 c9 c10)) hP hD [0, 1, 2, 3, 4, 5] [] rfl rfl (by decide) (by decide) hk1 hFc hP1 hD1
          clear hk1 hz1 hP1 hD1 ht hPc hDc hFc
          generalize H1 = H at hP hS ⊢
          have hP : va_P (dC, dI) vwCl (wX1 cy h q2 q3 q6 q7 q10 c0 c1 c2 c3 c4 c5 c6 c7 c8 c9 c10) H := hP
          have hD : va_D A (wX1 cy h q2 q3 q6 q7 q10 c0 c1 c2 c3 c4 c5 c6 c7 c8 c9 c10) := hD
          refine lv_goto (tgt := 61) hx hb dX1_next_49 (by decide) ?_
          exact B61 u46 c6 _ _ _ hf hP hD hS (lv_sub hl [0] rfl)
      · replace hf := (if_neg c_9).symm.trans hf
        refine lv_iload_n hx hb dX1_next_12 rfl (lv_at hl 1 rfl) ?_
        refine lv_if_eq (tgt := 31) hx hb dX1_next_13 (by decide) (fun c_13 => ?_) (fun c_13 => ?_)
        · replace hf := (if_pos c_13).symm.trans hf
          exact B31 (f_X1_next_b4 N c0 c1 c2 c4 c5 n) ih x2 c6 _ _ _ hf hP hD hS (lv_sub hl [0, 2] rfl)
        · replace hf := (if_neg c_13).symm.trans hf
          refine lv_aload_n hx hb dX1_next_16 rfl (lv_at hl 0 rfl) ?_
          refine va_get (D := (dC, dI)) (ci := 1) (v := .ref q6) (C := RX1) (T := TX1) (N := 11) hx hb hts (by decide +kernel) hown hK hP 0 rfl rfl 6 (by decide) (hts (.fieldLink RX1 23 "GiftLotsModel" "gives" "[I") (by decide +kernel)) (fun _ h9 => h9) rfl dX1_next_17 ?_
          refine lv_iload_n hx hb dX1_next_20 rfl (lv_at hl 2 rfl) ?_
          obtain ⟨hi21, hf⟩ := z_gx_some hf
          refine va_iald hx hb hK hP 3 0 rfl rfl hi21 dX1_next_21 ?_
          refine lv_bipush (v := (-6 : Int32)) hx hb dX1_next_22 (by decide) ?_
          refine lv_icmp_ne (tgt := 31) hx hb dX1_next_24 (by decide) (fun c_24 => ?_) (fun c_24 => ?_)
          · replace hf := (if_neg c_24).symm.trans hf
            exact B31 (f_X1_next_b4 N c0 c1 c2 c4 c5 n) ih x2 c6 _ _ _ hf hP hD hS (lv_sub hl [0, 2] rfl)
          · replace hf := (if_pos c_24).symm.trans hf
            refine lv_iconst (v := (1 : Int32)) hx hb dX1_next_27 (by decide) ?_
            refine lv_goto (tgt := 32) hx hb dX1_next_28 (by decide) ?_
            exact B32 (f_X1_next_b4 N c0 c1 c2 c4 c5 n) ih x2 (1 : Int32) c6 _ _ _ hf hP hD hS (lv_sub hl [0, 2] rfl)
  unfold f_X1_next at hf
  refine lv_iconst (v := (1 : Int32)) hx hb dX1_next_0 (by decide) ?_
  refine lv_istore_n (lv' := [(1, .int (1 : Int32)), (0, .ref h)]) hx hb dX1_next_1 rfl hl (by decide) rfl (fun ls hl => ?_)
  refine lv_iconst (v := (0 : Int32)) hx hb dX1_next_2 (by decide) ?_
  refine lv_istore_n (lv' := [(2, .int (0 : Int32)), (1, .int (1 : Int32)), (0, .ref h)]) hx hb dX1_next_3 rfl hl (by decide) rfl (fun ls hl => ?_)
  exact B4 N (1 : Int32) (0 : Int32) c6 _ _ _ hf hP hD hS (lv_sub hl [2, 1, 0] rfl)

theorem dX1_all_0 : decode cX1_all 0 = .ok (.iconst 1, 1) := by decide +kernel
theorem dX1_all_1 : decode cX1_all 1 = .ok (.aload_n 0, 1) := by decide +kernel
theorem dX1_all_2 : decode cX1_all 2 = .ok (.getfield 7, 3) := by decide +kernel
theorem dX1_all_5 : decode cX1_all 5 = .ok (.ishl, 1) := by decide +kernel
theorem dX1_all_6 : decode cX1_all 6 = .ok (.iconst 1, 1) := by decide +kernel
theorem dX1_all_7 : decode cX1_all 7 = .ok (.isub, 1) := by decide +kernel
theorem dX1_all_8 : decode cX1_all 8 = .ok (.ireturn, 1) := by decide +kernel
abbrev rm_X1_all : Room := { frames := 0, cells := 0, slots := 0, locals := 0 }
set_option maxHeartbeats 4000000 in
set_option maxRecDepth 100000 in
theorem c_X1_all (N : Nat) (l : Launch) (dC : Nat → ClassId) (dI : Nat → Nat → Nat) (cy : ClassId) (h q2 q3 q6 q7 q10 : Nat) (sz : Nat) (c0 : Int32) (c1 : Int32) (c2 : Nat → Int32) (c3 : Nat → Int32) (c4 : Int32) (c5 : Int32) (c6 : Nat → Int32) (c7 : Nat → Int32) (c8 : Int32) (c9 : Int32) (c10 : Nat → Int32) (res : Int32) (hf : f_X1_all N c0 = some res) : Met l yX1_all wsX1_all rm_X1_all (va_Pc [.ref h] (fun U => U.heap.size = sz ∧ va_P (dC, dI) vwCl (wX1 cy h q2 q3 q6 q7 q10 c0 c1 c2 c3 c4 c5 c6 c7 c8 c9 c10) U.heap ∧ va_K (dC, dI) vwCl [(cy, .int)] U ∧ va_D (fun _ => True) (wX1 cy h q2 q3 q6 q7 q10 c0 c1 c2 c3 c4 c5 c6 c7 c8 c9 c10))) (z_qI dC dI cy res (wX1 cy h q2 q3 q6 q7 q10 c0 c1 c2 c3 c4 c5 c6 c7 c8 c9 c10) (va_A (wX1 cy h q2 q3 q6 q7 q10 c0 c1 c2 c3 c4 c5 c6 c7 c8 c9 c10) sz)) 0 0 (va_A (wX1 cy h q2 q3 q6 q7 q10 c0 c1 c2 c3 c4 c5 c6 c7 c8 c9 c10) sz) := by
  refine Met.ofW (cc := cX1_all) (maxL := 1) (ret := (some .int)) (by decide) rfl ?_
  intro p e s m args below meth c s₁ B hml hv
  obtain ⟨rfl, hsz, hP, hK, hD0⟩ := hv
  have hx := B.exec
  have hb := B.bytes
  have hr := B.returns
  have hts := atoms_spec (ws := wsX1_all) B.pre
  have hown : s.vm.findClass RX1 = some m.cls := findClass_of_methodNamed B.named
  have hlocks := B.notSynchronized
  subst hsz
  have hD := hD0.self (sz := s.heap.size)
  generalize hAe : va_A (wX1 cy h q2 q3 q6 q7 q10 c0 c1 c2 c3 c4 c5 c6 c7 c8 c9 c10) s.heap.size = A at hD ⊢
  have hA : ∀ q : Nat, s.heap.size ≤ q → A q := fun q h => by rw [← hAe]; exact Or.inr h
  have hS : va_S A s.heap s.heap [] := va_S.rf
  have hP : va_P (dC, dI) vwCl (wX1 cy h q2 q3 q6 q7 q10 c0 c1 c2 c3 c4 c5 c6 c7 c8 c9 c10) s.heap := hP
  have hl := lv_entry ([.ref h]) (n := 1) (Nat.le_of_ble_eq_true rfl)
  rw [lg_entry_eq]
  generalize (lg_sl ([.ref h]) ++ List.replicate (1 - (lg_sl ([.ref h])).length) Slot.unset).toArray = ls at hl ⊢
  have hl : lv_has ls 1 [(0, .ref h)] := hl
  unfold f_X1_all at hf
  refine lv_iconst (v := (1 : Int32)) hx hb dX1_all_0 (by decide) ?_
  refine lv_aload_n hx hb dX1_all_1 rfl (lv_at hl 0 rfl) ?_
  refine va_get (D := (dC, dI)) (ci := 1) (v := .int c0) (C := RX1) (T := TX1) (N := 11) hx hb hts (by decide +kernel) hown hK hP 0 rfl rfl 0 (by decide) (hts (.fieldLink RX1 7 "GiftLotsModel" "ones" "I") (by decide +kernel)) (fun _ h9 => h9) rfl dX1_all_2 ?_
  refine lv_ishl hx hb dX1_all_5 ?_
  refine lv_iconst (v := (1 : Int32)) hx hb dX1_all_6 (by decide) ?_
  refine lv_isub hx hb dX1_all_7 ?_
  have hres := Option.some.inj hf
  subst hres
  have hP9 := hP.sub (ws' := (wX1 cy h q2 q3 q6 q7 q10 c0 c1 c2 c3 c4 c5 c6 c7 c8 c9 c10)) [0, 1, 2, 3, 4, 5] rfl
  have hD9 := hD.sub (ws' := (wX1 cy h q2 q3 q6 q7 q10 c0 c1 c2 c3 c4 c5 c6 c7 c8 c9 c10)) [0, 1, 2, 3, 4, 5] (by decide) rfl
  have hK9 := hK.sub (tys' := [(cy, .int)]) [0] rfl
  exact W.iret (v := ((1 : Int32) <<< (c0 &&& 31)) - (1 : Int32)) hx hb hr (fun t ht hW => ⟨⟨((1 : Int32) <<< (c0 &&& 31)) - (1 : Int32), (), rfl, rfl, by rw [ht]; exact hP9, va_K.moved hW.alike hK9, hD9⟩, hS.F ht⟩) hS.2.2 dX1_all_8

set_option maxRecDepth 20000 in
theorem ggX1_ways_X1_all : GoodIn wsX1_ways wsX1_all := goodIn_r _ [5, 6, 39, 40, 41, 42, 43, 44, 45, 46, 47, 48, 49] (by decide +kernel) (by decide +kernel)
set_option maxRecDepth 20000 in
theorem gX1_ways_X1_all : GoodIn wsX1_ways (wsV RX1 69 RX1 yX1_all wsX1_all) := goodIn_app (goodIn_of _ (by decide +kernel)) ggX1_ways_X1_all
set_option maxRecDepth 20000 in
theorem ggX1_ways_X1_start : GoodIn wsX1_ways wsX1_start := goodIn_r _ [10, 11, 12, 13, 39, 40, 41, 42, 43, 44, 45, 46, 47, 48, 49] (by decide +kernel) (by decide +kernel)
set_option maxRecDepth 20000 in
theorem gX1_ways_X1_start : GoodIn wsX1_ways (wsV RX1 72 RX1 yX1_start wsX1_start) := goodIn_app (goodIn_of _ (by decide +kernel)) ggX1_ways_X1_start
set_option maxRecDepth 20000 in
theorem ggX1_ways_X1_next : GoodIn wsX1_ways wsX1_next := goodIn_r _ [17, 6, 13, 18, 11, 12, 19, 20, 21, 4, 22, 23, 24, 25, 26, 27, 28, 29, 30, 31, 32, 33, 34, 35, 36, 37, 38, 39, 40, 41, 42, 43, 44, 45, 46, 47, 48, 49] (by decide +kernel) (by decide +kernel)
set_option maxRecDepth 20000 in
theorem gX1_ways_X1_next : GoodIn wsX1_ways (wsV RX1 76 RX1 yX1_next wsX1_next) := goodIn_app (goodIn_of _ (by decide +kernel)) ggX1_ways_X1_next
theorem dX1_ways_0 : decode cX1_ways 0 = .ok (.aload_n 0, 1) := by decide +kernel
theorem dX1_ways_1 : decode cX1_ways 1 = .ok (.aload_n 0, 1) := by decide +kernel
theorem dX1_ways_2 : decode cX1_ways 2 = .ok (.invokevirtual 69, 3) := by decide +kernel
theorem dX1_ways_5 : decode cX1_ways 5 = .ok (.iconst 0, 1) := by decide +kernel
theorem dX1_ways_6 : decode cX1_ways 6 = .ok (.invokevirtual 72, 3) := by decide +kernel
theorem dX1_ways_9 : decode cX1_ways 9 = .ok (.iconst 0, 1) := by decide +kernel
theorem dX1_ways_10 : decode cX1_ways 10 = .ok (.istore_n 1, 1) := by decide +kernel
theorem dX1_ways_11 : decode cX1_ways 11 = .ok (.aload_n 0, 1) := by decide +kernel
theorem dX1_ways_12 : decode cX1_ways 12 = .ok (.invokevirtual 76, 3) := by decide +kernel
theorem dX1_ways_15 : decode cX1_ways 15 = .ok (.ifCond .eq 9, 3) := by decide +kernel
theorem dX1_ways_18 : decode cX1_ways 18 = .ok (.iinc 1 1, 3) := by decide +kernel
theorem dX1_ways_21 : decode cX1_ways 21 = .ok (.goto (-10), 3) := by decide +kernel
theorem dX1_ways_24 : decode cX1_ways 24 = .ok (.iload_n 1, 1) := by decide +kernel
theorem dX1_ways_25 : decode cX1_ways 25 = .ok (.ireturn, 1) := by decide +kernel
abbrev rm_X1_ways : Room := { frames := 3, cells := 0, slots := 0, locals := 70 }
set_option maxHeartbeats 4000000 in
set_option maxRecDepth 100000 in
theorem c_X1_ways (N : Nat) (l : Launch) (dC : Nat → ClassId) (dI : Nat → Nat → Nat) (cy : ClassId) (h q2 q3 q6 q7 q10 : Nat) (sz : Nat) (c0 : Int32) (c1 : Int32) (c2 : Nat → Int32) (c3 : Nat → Int32) (c4 : Int32) (c5 : Int32) (c6 : Nat → Int32) (c7 : Nat → Int32) (c8 : Int32) (c9 : Int32) (c10 : Nat → Int32) (res : Int32 × Int32 × Int32 × (Nat → Int32)) (hf : f_X1_ways N c0 c1 c2 c4 c5 c6 = some res) : Met l yX1_ways wsX1_ways rm_X1_ways (va_Pc [.ref h] (fun U => U.heap.size = sz ∧ va_P (dC, dI) vwCl (wX1 cy h q2 q3 q6 q7 q10 c0 c1 c2 c3 c4 c5 c6 c7 c8 c9 c10) U.heap ∧ va_K (dC, dI) vwCl [(cy, .int)] U ∧ va_D (fun _ => True) (wX1 cy h q2 q3 q6 q7 q10 c0 c1 c2 c3 c4 c5 c6 c7 c8 c9 c10))) (z_qI dC dI cy res.1 (wX1 cy h q2 q3 q6 q7 q10 c0 c1 c2 c3 res.2.1 res.2.2.1 res.2.2.2 c7 c8 c9 c10) (va_A (wX1 cy h q2 q3 q6 q7 q10 c0 c1 c2 c3 c4 c5 c6 c7 c8 c9 c10) sz)) 0 0 (va_A (wX1 cy h q2 q3 q6 q7 q10 c0 c1 c2 c3 c4 c5 c6 c7 c8 c9 c10) sz) := by
  refine Met.ofW (cc := cX1_ways) (maxL := 2) (ret := (some .int)) (by decide) rfl ?_
  intro p e s m args below meth c s₁ B hml hv
  obtain ⟨rfl, hsz, hP, hK, hD0⟩ := hv
  have hx := B.exec
  have hb := B.bytes
  have hr := B.returns
  have hts := atoms_spec (ws := wsX1_ways) B.pre
  have hown : s.vm.findClass RX1 = some m.cls := findClass_of_methodNamed B.named
  have hlocks := B.notSynchronized
  subst hsz
  have hD := hD0.self (sz := s.heap.size)
  generalize hAe : va_A (wX1 cy h q2 q3 q6 q7 q10 c0 c1 c2 c3 c4 c5 c6 c7 c8 c9 c10) s.heap.size = A at hD ⊢
  have hA : ∀ q : Nat, s.heap.size ≤ q → A q := fun q h => by rw [← hAe]; exact Or.inr h
  have hS : va_S A s.heap s.heap [] := va_S.rf
  have hP : va_P (dC, dI) vwCl (wX1 cy h q2 q3 q6 q7 q10 c0 c1 c2 c3 c4 c5 c6 c7 c8 c9 c10) s.heap := hP
  have hl := lv_entry ([.ref h]) (n := 2) (Nat.le_of_ble_eq_true rfl)
  rw [lg_entry_eq]
  generalize (lg_sl ([.ref h]) ++ List.replicate (2 - (lg_sl ([.ref h])).length) Slot.unset).toArray = ls at hl ⊢
  have hl : lv_has ls 2 [(0, .ref h)] := hl
  have B11 : ∀ n : Nat, ∀ (x1 : Int32) (c4 : Int32) (c5 : Int32) (c6 : Nat → Int32) (H : Heap) (locs : List Loc) (ls : Array Slot), f_X1_ways_b11 N c0 c1 c2 n x1 c4 c5 c6 = some res → va_P (dC, dI) vwCl (wX1 cy h q2 q3 q6 q7 q10 c0 c1 c2 c3 c4 c5 c6 c7 c8 c9 c10) H → va_D A (wX1 cy h q2 q3 q6 q7 q10 c0 c1 c2 c3 c4 c5 c6 c7 c8 c9 c10) → va_S A s.heap H locs → lv_has ls 2 [(0, .ref h), (1, .int x1)] → W p l e rm_X1_ways s m ([.ref h] : List Value).toArray below meth c H locs 0 0 (MQ below (z_qI dC dI cy res.1 (wX1 cy h q2 q3 q6 q7 q10 c0 c1 c2 c3 res.2.1 res.2.2.1 res.2.2.2 c7 c8 c9 c10) A) ([.ref h] : List Value).toArray s 0 0 A) (F0 m 11 ls []) := by
    clear hf hl hP hD hS
    intro n
    induction n with
    | zero =>
      intro x1 c4 c5 c6 H locs ls hf hP hD hS hl
      rw [f_X1_ways_b11] at hf
      cases hf
    | succ n ih =>
      intro x1 c4 c5 c6 H locs ls hf hP hD hS hl
      rw [f_X1_ways_b11] at hf
      refine lv_aload_n hx hb dX1_ways_11 rfl (lv_at hl 0 rfl) ?_
      obtain ⟨u12, hu12, hf⟩ := z_ob_some hf
      have hPc := hP.sub (ws' := (wX1 cy h q2 q3 q6 q7 q10 c0 c1 c2 c3 c4 c5 c6 c7 c8 c9 c10)) [0, 1, 2, 3, 4, 5] rfl
      have hDc := hD.sub (ws' := (wX1 cy h q2 q3 q6 q7 q10 c0 c1 c2 c3 c4 c5 c6 c7 c8 c9 c10)) [0, 1, 2, 3, 4, 5] (by decide) rfl
      have hKc := hK.sub (tys' := [(cy, .int)]) [0] rfl
      have hFc := va_free (wc := (wX1 cy h q2 q3 q6 q7 q10 c0 c1 c2 c3 c4 c5 c6 c7 c8 c9 c10)) hD hS hA [0, 1, 2, 3, 4, 5] rfl
      refine va_calli (va_runV (As := []) (rest := []) ⟨hx, hb, hml, hown, hts⟩ (c_X1_next N l dC dI cy h q2 q3 q6 q7 q10 H.size c0 c1 c2 c3 c4 c5 c6 c7 c8 c9 c10 u12 hu12) (cwV 0 hts gX1_ways_X1_next rfl rfl rfl (by decide +kernel) ⟨Nat.le_of_ble_eq_true rfl, Nat.le_of_ble_eq_true rfl⟩) ⟨fun a U g mk q => by obtain ⟨q0, q1, qP, qK, qD⟩ := q; exact ⟨q0, q1, qP, va_K.moved (u := U) (U := U.calling g mk a) (Vm.Alike.refl U.vm) qK, qD⟩, va_recv hKc hPc (ci := 1) (q0 := 0) rfl rfl, fun U hU hW => ⟨rfl, by rw [hU], by rw [hU]; exact hPc, va_K.moved hW.alike hKc, hDc.weaken (fun _ _ _ _ => trivial)⟩⟩ rfl rfl hl.1 rfl (lv_room (Nat.le_of_ble_eq_true rfl)) dX1_ways_12 ⟨Nat.zero_le _, Nat.zero_le _⟩) hS (fun q _ h => hFc q h) hFc (fun r_12 uu_ t H1 locs ht hvm hw hB hz1 hk1 hS => ?_)
      replace hw := hw.symm
      subst hw
      obtain ⟨hP1, -, hD1⟩ := hB
      rw [ht] at hP1
      obtain ⟨hP, hD⟩ := va_join (wr := []) (w1 := (wX1 cy h q2 q3 q6 q7 q10 c0 c1 c2 c3 c4 c5 u12.2 c7 c8 c9 c10)) hP hD [0, 1, 2, 3, 4, 5] [] rfl rfl (by decide) (by decide) hk1 hFc hP1 hD1
      clear hk1 hz1 hP1 hD1 ht hPc hDc hFc
      generalize H1 = H at hP hS ⊢
      have hP : va_P (dC, dI) vwCl (wX1 cy h q2 q3 q6 q7 q10 c0 c1 c2 c3 c4 c5 u12.2 c7 c8 c9 c10) H := hP
      have hD : va_D A (wX1 cy h q2 q3 q6 q7 q10 c0 c1 c2 c3 c4 c5 u12.2 c7 c8 c9 c10) := hD
      refine lv_if_eq (tgt := 24) hx hb dX1_ways_15 (by decide) (fun c_15 => ?_) (fun c_15 => ?_)
      · replace hf := (if_pos c_15).symm.trans hf
        refine lv_iload_n hx hb dX1_ways_24 rfl (lv_at hl 1 rfl) ?_
        have hres := Option.some.inj hf
        subst hres
        have hP9 := hP.sub (ws' := (wX1 cy h q2 q3 q6 q7 q10 c0 c1 c2 c3 c4 c5 u12.2 c7 c8 c9 c10)) [0, 1, 2, 3, 4, 5] rfl
        have hD9 := hD.sub (ws' := (wX1 cy h q2 q3 q6 q7 q10 c0 c1 c2 c3 c4 c5 u12.2 c7 c8 c9 c10)) [0, 1, 2, 3, 4, 5] (by decide) rfl
        have hK9 := hK.sub (tys' := [(cy, .int)]) [0] rfl
        exact W.iret (v := x1) hx hb hr (fun t ht hW => ⟨⟨x1, (), rfl, rfl, by rw [ht]; exact hP9, va_K.moved hW.alike hK9, hD9⟩, hS.F ht⟩) hS.2.2 dX1_ways_25
      · replace hf := (if_neg c_15).symm.trans hf
        refine lv_iinc (v := x1 + (1 : Int32)) (lv' := [(1, .int (x1 + (1 : Int32))), (0, .ref h)]) hx hb dX1_ways_18 hl (k := 1) rfl rfl (by decide) rfl (fun ls hl => ?_)
        refine lv_goto (tgt := 11) hx hb dX1_ways_21 (by decide) ?_
        exact ih (x1 + (1 : Int32)) c4 c5 u12.2 _ _ _ hf hP hD hS (lv_sub hl [1, 0] rfl)
  unfold f_X1_ways at hf
  refine lv_aload_n hx hb dX1_ways_0 rfl (lv_at hl 0 rfl) ?_
  refine lv_aload_n hx hb dX1_ways_1 rfl (lv_at hl 0 rfl) ?_
  obtain ⟨u2, hu2, hf⟩ := z_ob_some hf
  have hPc := hP.sub (ws' := (wX1 cy h q2 q3 q6 q7 q10 c0 c1 c2 c3 c4 c5 c6 c7 c8 c9 c10)) [0, 1, 2, 3, 4, 5] rfl
  have hDc := hD.sub (ws' := (wX1 cy h q2 q3 q6 q7 q10 c0 c1 c2 c3 c4 c5 c6 c7 c8 c9 c10)) [0, 1, 2, 3, 4, 5] (by decide) rfl
  have hKc := hK.sub (tys' := [(cy, .int)]) [0] rfl
  have hFc := va_free (wc := (wX1 cy h q2 q3 q6 q7 q10 c0 c1 c2 c3 c4 c5 c6 c7 c8 c9 c10)) hD hS hA [0, 1, 2, 3, 4, 5] rfl
  refine va_calli (va_runV (As := []) (rest := [.ref h]) ⟨hx, hb, hml, hown, hts⟩ (c_X1_all N l dC dI cy h q2 q3 q6 q7 q10 s.heap.size c0 c1 c2 c3 c4 c5 c6 c7 c8 c9 c10 u2 hu2) (cwV 0 hts gX1_ways_X1_all rfl rfl rfl (by decide +kernel) ⟨Nat.le_of_ble_eq_true rfl, Nat.le_of_ble_eq_true rfl⟩) ⟨fun a U g mk q => by obtain ⟨q0, q1, qP, qK, qD⟩ := q; exact ⟨q0, q1, qP, va_K.moved (u := U) (U := U.calling g mk a) (Vm.Alike.refl U.vm) qK, qD⟩, va_recv hKc hPc (ci := 1) (q0 := 0) rfl rfl, fun U hU hW => ⟨rfl, by rw [hU], by rw [hU]; exact hPc, va_K.moved hW.alike hKc, hDc.weaken (fun _ _ _ _ => trivial)⟩⟩ rfl rfl hl.1 rfl (lv_room (Nat.le_of_ble_eq_true rfl)) dX1_ways_2 ⟨Nat.zero_le _, Nat.zero_le _⟩) hS (fun q _ h => hFc q h) hFc (fun r_2 uu_ t H1 locs ht hvm hw hB hz1 hk1 hS => ?_)
  replace hw := hw.symm
  subst hw
  obtain ⟨hP1, -, hD1⟩ := hB
  rw [ht] at hP1
  obtain ⟨hP, hD⟩ := va_join (wr := []) (w1 := (wX1 cy h q2 q3 q6 q7 q10 c0 c1 c2 c3 c4 c5 c6 c7 c8 c9 c10)) hP hD [0, 1, 2, 3, 4, 5] [] rfl rfl (by decide) (by decide) hk1 hFc hP1 hD1
  clear hk1 hz1 hP1 hD1 ht hPc hDc hFc
  generalize H1 = H at hP hS ⊢
  have hP : va_P (dC, dI) vwCl (wX1 cy h q2 q3 q6 q7 q10 c0 c1 c2 c3 c4 c5 c6 c7 c8 c9 c10) H := hP
  have hD : va_D A (wX1 cy h q2 q3 q6 q7 q10 c0 c1 c2 c3 c4 c5 c6 c7 c8 c9 c10) := hD
  refine lv_iconst (v := (0 : Int32)) hx hb dX1_ways_5 (by decide) ?_
  obtain ⟨u6, hu6, hf⟩ := z_ob_some hf
  have hPc := hP.sub (ws' := (wX1 cy h q2 q3 q6 q7 q10 c0 c1 c2 c3 c4 c5 c6 c7 c8 c9 c10)) [0, 1, 2, 3, 4, 5] rfl
  have hDc := hD.sub (ws' := (wX1 cy h q2 q3 q6 q7 q10 c0 c1 c2 c3 c4 c5 c6 c7 c8 c9 c10)) [0, 1, 2, 3, 4, 5] (by decide) rfl
  have hKc := hK.sub (tys' := [(cy, .int)]) [0] rfl
  have hFc := va_free (wc := (wX1 cy h q2 q3 q6 q7 q10 c0 c1 c2 c3 c4 c5 c6 c7 c8 c9 c10)) hD hS hA [0, 1, 2, 3, 4, 5] rfl
  refine va_callv (va_runV (As := [.int u2, .int (0 : Int32)]) (rest := []) ⟨hx, hb, hml, hown, hts⟩ (c_X1_start N l dC dI cy h q2 q3 q6 q7 q10 H.size c0 c1 c2 c3 c4 c5 c6 c7 c8 c9 c10 u2 (0 : Int32) u6 hu6) (cwV 2 hts gX1_ways_X1_start rfl rfl rfl (by decide +kernel) ⟨Nat.le_of_ble_eq_true rfl, Nat.le_of_ble_eq_true rfl⟩) ⟨fun a U g mk q => by obtain ⟨q0, q1, qP, qK, qD⟩ := q; exact ⟨q0, q1, qP, va_K.moved (u := U) (U := U.calling g mk a) (Vm.Alike.refl U.vm) qK, qD⟩, va_recv hKc hPc (ci := 1) (q0 := 0) rfl rfl, fun U hU hW => ⟨rfl, by rw [hU], by rw [hU]; exact hPc, va_K.moved hW.alike hKc, hDc.weaken (fun _ _ _ _ => trivial)⟩⟩ rfl rfl hl.1 rfl (lv_room (Nat.le_of_ble_eq_true rfl)) dX1_ways_6 ⟨Nat.zero_le _, Nat.zero_le _⟩) hS (fun q _ h => hFc q h) hFc (fun uu_ t H1 locs ht hvm hw hB hz1 hk1 hS => ?_)
  obtain ⟨hP1, -, hD1⟩ := hB
  rw [ht] at hP1
  obtain ⟨hP, hD⟩ := va_join (wr := []) (w1 := (wX1 cy h q2 q3 q6 q7 q10 c0 c1 c2 c3 u6.1 u6.2.1 u6.2.2 c7 c8 c9 c10)) hP hD [0, 1, 2, 3, 4, 5] [] rfl rfl (by decide) (by decide) hk1 hFc hP1 hD1
  clear hk1 hz1 hP1 hD1 ht hPc hDc hFc
  generalize H1 = H at hP hS ⊢
  have hP : va_P (dC, dI) vwCl (wX1 cy h q2 q3 q6 q7 q10 c0 c1 c2 c3 u6.1 u6.2.1 u6.2.2 c7 c8 c9 c10) H := hP
  have hD : va_D A (wX1 cy h q2 q3 q6 q7 q10 c0 c1 c2 c3 u6.1 u6.2.1 u6.2.2 c7 c8 c9 c10) := hD
  refine lv_iconst (v := (0 : Int32)) hx hb dX1_ways_9 (by decide) ?_
  refine lv_istore_n (lv' := [(1, .int (0 : Int32)), (0, .ref h)]) hx hb dX1_ways_10 rfl hl (by decide) rfl (fun ls hl => ?_)
  exact B11 N (0 : Int32) u6.1 u6.2.1 u6.2.2 _ _ _ hf hP hD hS (lv_sub hl [1, 0] rfl)

set_option maxRecDepth 20000 in
theorem ggX1_free_X1_all : GoodIn wsX1_free wsX1_all := goodIn_r _ [5, 6, 39, 40, 41, 42, 43, 44, 45, 46, 47, 48, 49] (by decide +kernel) (by decide +kernel)
set_option maxRecDepth 20000 in
theorem gX1_free_X1_all : GoodIn wsX1_free (wsV RX1 69 RX1 yX1_all wsX1_all) := goodIn_app (goodIn_of _ (by decide +kernel)) ggX1_free_X1_all
set_option maxRecDepth 20000 in
theorem ggX1_free_X1_start : GoodIn wsX1_free wsX1_start := goodIn_r _ [10, 11, 12, 13, 39, 40, 41, 42, 43, 44, 45, 46, 47, 48, 49] (by decide +kernel) (by decide +kernel)
set_option maxRecDepth 20000 in
theorem gX1_free_X1_start : GoodIn wsX1_free (wsV RX1 72 RX1 yX1_start wsX1_start) := goodIn_app (goodIn_of _ (by decide +kernel)) ggX1_free_X1_start
set_option maxRecDepth 20000 in
theorem ggX1_free_X1_next : GoodIn wsX1_free wsX1_next := goodIn_r _ [17, 6, 13, 18, 11, 12, 19, 20, 21, 4, 22, 23, 24, 25, 26, 27, 28, 29, 30, 31, 32, 33, 34, 35, 36, 37, 38, 39, 40, 41, 42, 43, 44, 45, 46, 47, 48, 49] (by decide +kernel) (by decide +kernel)
set_option maxRecDepth 20000 in
theorem gX1_free_X1_next : GoodIn wsX1_free (wsV RX1 76 RX1 yX1_next wsX1_next) := goodIn_app (goodIn_of _ (by decide +kernel)) ggX1_free_X1_next
theorem dX1_free_0 : decode cX1_free 0 = .ok (.aload_n 0, 1) := by decide +kernel
theorem dX1_free_1 : decode cX1_free 1 = .ok (.aload_n 0, 1) := by decide +kernel
theorem dX1_free_2 : decode cX1_free 2 = .ok (.invokevirtual 69, 3) := by decide +kernel
theorem dX1_free_5 : decode cX1_free 5 = .ok (.iconst 1, 1) := by decide +kernel
theorem dX1_free_6 : decode cX1_free 6 = .ok (.invokevirtual 72, 3) := by decide +kernel
theorem dX1_free_9 : decode cX1_free 9 = .ok (.iconst 0, 1) := by decide +kernel
theorem dX1_free_10 : decode cX1_free 10 = .ok (.istore_n 1, 1) := by decide +kernel
theorem dX1_free_11 : decode cX1_free 11 = .ok (.aload_n 0, 1) := by decide +kernel
theorem dX1_free_12 : decode cX1_free 12 = .ok (.invokevirtual 76, 3) := by decide +kernel
theorem dX1_free_15 : decode cX1_free 15 = .ok (.ifCond .eq 9, 3) := by decide +kernel
theorem dX1_free_18 : decode cX1_free 18 = .ok (.iinc 1 1, 3) := by decide +kernel
theorem dX1_free_21 : decode cX1_free 21 = .ok (.goto (-10), 3) := by decide +kernel
theorem dX1_free_24 : decode cX1_free 24 = .ok (.iload_n 1, 1) := by decide +kernel
theorem dX1_free_25 : decode cX1_free 25 = .ok (.ireturn, 1) := by decide +kernel
abbrev rm_X1_free : Room := { frames := 3, cells := 0, slots := 0, locals := 70 }
set_option maxHeartbeats 4000000 in
set_option maxRecDepth 100000 in
theorem c_X1_free (N : Nat) (l : Launch) (dC : Nat → ClassId) (dI : Nat → Nat → Nat) (cy : ClassId) (h q2 q3 q6 q7 q10 : Nat) (sz : Nat) (c0 : Int32) (c1 : Int32) (c2 : Nat → Int32) (c3 : Nat → Int32) (c4 : Int32) (c5 : Int32) (c6 : Nat → Int32) (c7 : Nat → Int32) (c8 : Int32) (c9 : Int32) (c10 : Nat → Int32) (res : Int32 × Int32 × Int32 × (Nat → Int32)) (hf : f_X1_free N c0 c1 c2 c4 c5 c6 = some res) : Met l yX1_free wsX1_free rm_X1_free (va_Pc [.ref h] (fun U => U.heap.size = sz ∧ va_P (dC, dI) vwCl (wX1 cy h q2 q3 q6 q7 q10 c0 c1 c2 c3 c4 c5 c6 c7 c8 c9 c10) U.heap ∧ va_K (dC, dI) vwCl [(cy, .int)] U ∧ va_D (fun _ => True) (wX1 cy h q2 q3 q6 q7 q10 c0 c1 c2 c3 c4 c5 c6 c7 c8 c9 c10))) (z_qI dC dI cy res.1 (wX1 cy h q2 q3 q6 q7 q10 c0 c1 c2 c3 res.2.1 res.2.2.1 res.2.2.2 c7 c8 c9 c10) (va_A (wX1 cy h q2 q3 q6 q7 q10 c0 c1 c2 c3 c4 c5 c6 c7 c8 c9 c10) sz)) 0 0 (va_A (wX1 cy h q2 q3 q6 q7 q10 c0 c1 c2 c3 c4 c5 c6 c7 c8 c9 c10) sz) := by
  refine Met.ofW (cc := cX1_free) (maxL := 2) (ret := (some .int)) (by decide) rfl ?_
  intro p e s m args below meth c s₁ B hml hv
  obtain ⟨rfl, hsz, hP, hK, hD0⟩ := hv
  have hx := B.exec
  have hb := B.bytes
  have hr := B.returns
  have hts := atoms_spec (ws := wsX1_free) B.pre
  have hown : s.vm.findClass RX1 = some m.cls := findClass_of_methodNamed B.named
  have hlocks := B.notSynchronized
  subst hsz
  have hD := hD0.self (sz := s.heap.size)
  generalize hAe : va_A (wX1 cy h q2 q3 q6 q7 q10 c0 c1 c2 c3 c4 c5 c6 c7 c8 c9 c10) s.heap.size = A at hD ⊢
  have hA : ∀ q : Nat, s.heap.size ≤ q → A q := fun q h => by rw [← hAe]; exact Or.inr h
  have hS : va_S A s.heap s.heap [] := va_S.rf
  have hP : va_P (dC, dI) vwCl (wX1 cy h q2 q3 q6 q7 q10 c0 c1 c2 c3 c4 c5 c6 c7 c8 c9 c10) s.heap := hP
  have hl := lv_entry ([.ref h]) (n := 2) (Nat.le_of_ble_eq_true rfl)
  rw [lg_entry_eq]
  generalize (lg_sl ([.ref h]) ++ List.replicate (2 - (lg_sl ([.ref h])).length) Slot.unset).toArray = ls at hl ⊢
  have hl : lv_has ls 2 [(0, .ref h)] := hl
  have B11 : ∀ n : Nat, ∀ (x1 : Int32) (c4 : Int32) (c5 : Int32) (c6 : Nat → Int32) (H : Heap) (locs : List Loc) (ls : Array Slot), f_X1_free_b11 N c0 c1 c2 n x1 c4 c5 c6 = some res → va_P (dC, dI) vwCl (wX1 cy h q2 q3 q6 q7 q10 c0 c1 c2 c3 c4 c5 c6 c7 c8 c9 c10) H → va_D A (wX1 cy h q2 q3 q6 q7 q10 c0 c1 c2 c3 c4 c5 c6 c7 c8 c9 c10) → va_S A s.heap H locs → lv_has ls 2 [(0, .ref h), (1, .int x1)] → W p l e rm_X1_free s m ([.ref h] : List Value).toArray below meth c H locs 0 0 (MQ below (z_qI dC dI cy res.1 (wX1 cy h q2 q3 q6 q7 q10 c0 c1 c2 c3 res.2.1 res.2.2.1 res.2.2.2 c7 c8 c9 c10) A) ([.ref h] : List Value).toArray s 0 0 A) (F0 m 11 ls []) := by
    clear hf hl hP hD hS
    intro n
    induction n with
    | zero =>
      intro x1 c4 c5 c6 H locs ls hf hP hD hS hl
      rw [f_X1_free_b11] at hf
      cases hf
    | succ n ih =>
      intro x1 c4 c5 c6 H locs ls hf hP hD hS hl
      rw [f_X1_free_b11] at hf
      refine lv_aload_n hx hb dX1_free_11 rfl (lv_at hl 0 rfl) ?_
      obtain ⟨u12, hu12, hf⟩ := z_ob_some hf
      have hPc := hP.sub (ws' := (wX1 cy h q2 q3 q6 q7 q10 c0 c1 c2 c3 c4 c5 c6 c7 c8 c9 c10)) [0, 1, 2, 3, 4, 5] rfl
      have hDc := hD.sub (ws' := (wX1 cy h q2 q3 q6 q7 q10 c0 c1 c2 c3 c4 c5 c6 c7 c8 c9 c10)) [0, 1, 2, 3, 4, 5] (by decide) rfl
      have hKc := hK.sub (tys' := [(cy, .int)]) [0] rfl
      have hFc := va_free (wc := (wX1 cy h q2 q3 q6 q7 q10 c0 c1 c2 c3 c4 c5 c6 c7 c8 c9 c10)) hD hS hA [0, 1, 2, 3, 4, 5] rfl
      refine va_calli (va_runV (As := []) (rest := []) ⟨hx, hb, hml, hown, hts⟩ (c_X1_next N l dC dI cy h q2 q3 q6 q7 q10 H.size c0 c1 c2 c3 c4 c5 c6 c7 c8 c9 c10 u12 hu12) (cwV 0 hts gX1_free_X1_next rfl rfl rfl (by decide +kernel) ⟨Nat.le_of_ble_eq_true rfl, Nat.le_of_ble_eq_true rfl⟩) ⟨fun a U g mk q => by obtain ⟨q0, q1, qP, qK, qD⟩ := q; exact ⟨q0, q1, qP, va_K.moved (u := U) (U := U.calling g mk a) (Vm.Alike.refl U.vm) qK, qD⟩, va_recv hKc hPc (ci := 1) (q0 := 0) rfl rfl, fun U hU hW => ⟨rfl, by rw [hU], by rw [hU]; exact hPc, va_K.moved hW.alike hKc, hDc.weaken (fun _ _ _ _ => trivial)⟩⟩ rfl rfl hl.1 rfl (lv_room (Nat.le_of_ble_eq_true rfl)) dX1_free_12 ⟨Nat.zero_le _, Nat.zero_le _⟩) hS (fun q _ h => hFc q h) hFc (fun r_12 uu_ t H1 locs ht hvm hw hB hz1 hk1 hS => ?_)
      replace hw := hw.symm
      subst hw
      obtain ⟨hP1, -, hD1⟩ := hB
      rw [ht] at hP1
      obtain ⟨hP, hD⟩ := va_join (wr := []) (w1 := (wX1 cy h q2 q3 q6 q7 q10 c0 c1 c2 c3 c4 c5 u12.2 c7 c8 c9 c10)) hP hD [0, 1, 2, 3, 4, 5] [] rfl rfl (by decide) (by decide) hk1 hFc hP1 hD1
      clear hk1 hz1 hP1 hD1 ht hPc hDc hFc
      generalize H1 = H at hP hS ⊢
      have hP : va_P (dC, dI) vwCl (wX1 cy h q2 q3 q6 q7 q10 c0 c1 c2 c3 c4 c5 u12.2 c7 c8 c9 c10) H := hP
      have hD : va_D A (wX1 cy h q2 q3 q6 q7 q10 c0 c1 c2 c3 c4 c5 u12.2 c7 c8 c9 c10) := hD
      refine lv_if_eq (tgt := 24) hx hb dX1_free_15 (by decide) (fun c_15 => ?_) (fun c_15 => ?_)
      · replace hf := (if_pos c_15).symm.trans hf
        refine lv_iload_n hx hb dX1_free_24 rfl (lv_at hl 1 rfl) ?_
        have hres := Option.some.inj hf
        subst hres
        have hP9 := hP.sub (ws' := (wX1 cy h q2 q3 q6 q7 q10 c0 c1 c2 c3 c4 c5 u12.2 c7 c8 c9 c10)) [0, 1, 2, 3, 4, 5] rfl
        have hD9 := hD.sub (ws' := (wX1 cy h q2 q3 q6 q7 q10 c0 c1 c2 c3 c4 c5 u12.2 c7 c8 c9 c10)) [0, 1, 2, 3, 4, 5] (by decide) rfl
        have hK9 := hK.sub (tys' := [(cy, .int)]) [0] rfl
        exact W.iret (v := x1) hx hb hr (fun t ht hW => ⟨⟨x1, (), rfl, rfl, by rw [ht]; exact hP9, va_K.moved hW.alike hK9, hD9⟩, hS.F ht⟩) hS.2.2 dX1_free_25
      · replace hf := (if_neg c_15).symm.trans hf
        refine lv_iinc (v := x1 + (1 : Int32)) (lv' := [(1, .int (x1 + (1 : Int32))), (0, .ref h)]) hx hb dX1_free_18 hl (k := 1) rfl rfl (by decide) rfl (fun ls hl => ?_)
        refine lv_goto (tgt := 11) hx hb dX1_free_21 (by decide) ?_
        exact ih (x1 + (1 : Int32)) c4 c5 u12.2 _ _ _ hf hP hD hS (lv_sub hl [1, 0] rfl)
  unfold f_X1_free at hf
  refine lv_aload_n hx hb dX1_free_0 rfl (lv_at hl 0 rfl) ?_
  refine lv_aload_n hx hb dX1_free_1 rfl (lv_at hl 0 rfl) ?_
  obtain ⟨u2, hu2, hf⟩ := z_ob_some hf
  have hPc := hP.sub (ws' := (wX1 cy h q2 q3 q6 q7 q10 c0 c1 c2 c3 c4 c5 c6 c7 c8 c9 c10)) [0, 1, 2, 3, 4, 5] rfl
  have hDc := hD.sub (ws' := (wX1 cy h q2 q3 q6 q7 q10 c0 c1 c2 c3 c4 c5 c6 c7 c8 c9 c10)) [0, 1, 2, 3, 4, 5] (by decide) rfl
  have hKc := hK.sub (tys' := [(cy, .int)]) [0] rfl
  have hFc := va_free (wc := (wX1 cy h q2 q3 q6 q7 q10 c0 c1 c2 c3 c4 c5 c6 c7 c8 c9 c10)) hD hS hA [0, 1, 2, 3, 4, 5] rfl
  refine va_calli (va_runV (As := []) (rest := [.ref h]) ⟨hx, hb, hml, hown, hts⟩ (c_X1_all N l dC dI cy h q2 q3 q6 q7 q10 s.heap.size c0 c1 c2 c3 c4 c5 c6 c7 c8 c9 c10 u2 hu2) (cwV 0 hts gX1_free_X1_all rfl rfl rfl (by decide +kernel) ⟨Nat.le_of_ble_eq_true rfl, Nat.le_of_ble_eq_true rfl⟩) ⟨fun a U g mk q => by obtain ⟨q0, q1, qP, qK, qD⟩ := q; exact ⟨q0, q1, qP, va_K.moved (u := U) (U := U.calling g mk a) (Vm.Alike.refl U.vm) qK, qD⟩, va_recv hKc hPc (ci := 1) (q0 := 0) rfl rfl, fun U hU hW => ⟨rfl, by rw [hU], by rw [hU]; exact hPc, va_K.moved hW.alike hKc, hDc.weaken (fun _ _ _ _ => trivial)⟩⟩ rfl rfl hl.1 rfl (lv_room (Nat.le_of_ble_eq_true rfl)) dX1_free_2 ⟨Nat.zero_le _, Nat.zero_le _⟩) hS (fun q _ h => hFc q h) hFc (fun r_2 uu_ t H1 locs ht hvm hw hB hz1 hk1 hS => ?_)
  replace hw := hw.symm
  subst hw
  obtain ⟨hP1, -, hD1⟩ := hB
  rw [ht] at hP1
  obtain ⟨hP, hD⟩ := va_join (wr := []) (w1 := (wX1 cy h q2 q3 q6 q7 q10 c0 c1 c2 c3 c4 c5 c6 c7 c8 c9 c10)) hP hD [0, 1, 2, 3, 4, 5] [] rfl rfl (by decide) (by decide) hk1 hFc hP1 hD1
  clear hk1 hz1 hP1 hD1 ht hPc hDc hFc
  generalize H1 = H at hP hS ⊢
  have hP : va_P (dC, dI) vwCl (wX1 cy h q2 q3 q6 q7 q10 c0 c1 c2 c3 c4 c5 c6 c7 c8 c9 c10) H := hP
  have hD : va_D A (wX1 cy h q2 q3 q6 q7 q10 c0 c1 c2 c3 c4 c5 c6 c7 c8 c9 c10) := hD
  refine lv_iconst (v := (1 : Int32)) hx hb dX1_free_5 (by decide) ?_
  obtain ⟨u6, hu6, hf⟩ := z_ob_some hf
  have hPc := hP.sub (ws' := (wX1 cy h q2 q3 q6 q7 q10 c0 c1 c2 c3 c4 c5 c6 c7 c8 c9 c10)) [0, 1, 2, 3, 4, 5] rfl
  have hDc := hD.sub (ws' := (wX1 cy h q2 q3 q6 q7 q10 c0 c1 c2 c3 c4 c5 c6 c7 c8 c9 c10)) [0, 1, 2, 3, 4, 5] (by decide) rfl
  have hKc := hK.sub (tys' := [(cy, .int)]) [0] rfl
  have hFc := va_free (wc := (wX1 cy h q2 q3 q6 q7 q10 c0 c1 c2 c3 c4 c5 c6 c7 c8 c9 c10)) hD hS hA [0, 1, 2, 3, 4, 5] rfl
  refine va_callv (va_runV (As := [.int u2, .int (1 : Int32)]) (rest := []) ⟨hx, hb, hml, hown, hts⟩ (c_X1_start N l dC dI cy h q2 q3 q6 q7 q10 H.size c0 c1 c2 c3 c4 c5 c6 c7 c8 c9 c10 u2 (1 : Int32) u6 hu6) (cwV 2 hts gX1_free_X1_start rfl rfl rfl (by decide +kernel) ⟨Nat.le_of_ble_eq_true rfl, Nat.le_of_ble_eq_true rfl⟩) ⟨fun a U g mk q => by obtain ⟨q0, q1, qP, qK, qD⟩ := q; exact ⟨q0, q1, qP, va_K.moved (u := U) (U := U.calling g mk a) (Vm.Alike.refl U.vm) qK, qD⟩, va_recv hKc hPc (ci := 1) (q0 := 0) rfl rfl, fun U hU hW => ⟨rfl, by rw [hU], by rw [hU]; exact hPc, va_K.moved hW.alike hKc, hDc.weaken (fun _ _ _ _ => trivial)⟩⟩ rfl rfl hl.1 rfl (lv_room (Nat.le_of_ble_eq_true rfl)) dX1_free_6 ⟨Nat.zero_le _, Nat.zero_le _⟩) hS (fun q _ h => hFc q h) hFc (fun uu_ t H1 locs ht hvm hw hB hz1 hk1 hS => ?_)
  obtain ⟨hP1, -, hD1⟩ := hB
  rw [ht] at hP1
  obtain ⟨hP, hD⟩ := va_join (wr := []) (w1 := (wX1 cy h q2 q3 q6 q7 q10 c0 c1 c2 c3 u6.1 u6.2.1 u6.2.2 c7 c8 c9 c10)) hP hD [0, 1, 2, 3, 4, 5] [] rfl rfl (by decide) (by decide) hk1 hFc hP1 hD1
  clear hk1 hz1 hP1 hD1 ht hPc hDc hFc
  generalize H1 = H at hP hS ⊢
  have hP : va_P (dC, dI) vwCl (wX1 cy h q2 q3 q6 q7 q10 c0 c1 c2 c3 u6.1 u6.2.1 u6.2.2 c7 c8 c9 c10) H := hP
  have hD : va_D A (wX1 cy h q2 q3 q6 q7 q10 c0 c1 c2 c3 u6.1 u6.2.1 u6.2.2 c7 c8 c9 c10) := hD
  refine lv_iconst (v := (0 : Int32)) hx hb dX1_free_9 (by decide) ?_
  refine lv_istore_n (lv' := [(1, .int (0 : Int32)), (0, .ref h)]) hx hb dX1_free_10 rfl hl (by decide) rfl (fun ls hl => ?_)
  exact B11 N (0 : Int32) u6.1 u6.2.1 u6.2.2 _ _ _ hf hP hD hS (lv_sub hl [1, 0] rfl)

set_option maxRecDepth 20000 in
theorem ggX1_goTo_X1_all : GoodIn wsX1_goTo wsX1_all := goodIn_r _ [5, 6, 39, 40, 41, 42, 43, 44, 45, 46, 47, 48, 49] (by decide +kernel) (by decide +kernel)
set_option maxRecDepth 20000 in
theorem gX1_goTo_X1_all : GoodIn wsX1_goTo (wsV RX1 69 RX1 yX1_all wsX1_all) := goodIn_app (goodIn_of _ (by decide +kernel)) ggX1_goTo_X1_all
set_option maxRecDepth 20000 in
theorem ggX1_goTo_X1_start : GoodIn wsX1_goTo wsX1_start := goodIn_r _ [10, 11, 12, 13, 39, 40, 41, 42, 43, 44, 45, 46, 47, 48, 49] (by decide +kernel) (by decide +kernel)
set_option maxRecDepth 20000 in
theorem gX1_goTo_X1_start : GoodIn wsX1_goTo (wsV RX1 72 RX1 yX1_start wsX1_start) := goodIn_app (goodIn_of _ (by decide +kernel)) ggX1_goTo_X1_start
set_option maxRecDepth 20000 in
theorem ggX1_goTo_X1_next : GoodIn wsX1_goTo wsX1_next := goodIn_r _ [17, 6, 13, 18, 11, 12, 19, 20, 21, 4, 22, 23, 24, 25, 26, 27, 28, 29, 30, 31, 32, 33, 34, 35, 36, 37, 38, 39, 40, 41, 42, 43, 44, 45, 46, 47, 48, 49] (by decide +kernel) (by decide +kernel)
set_option maxRecDepth 20000 in
theorem gX1_goTo_X1_next : GoodIn wsX1_goTo (wsV RX1 76 RX1 yX1_next wsX1_next) := goodIn_app (goodIn_of _ (by decide +kernel)) ggX1_goTo_X1_next
theorem dX1_goTo_0 : decode cX1_goTo 0 = .ok (.aload_n 0, 1) := by decide +kernel
theorem dX1_goTo_1 : decode cX1_goTo 1 = .ok (.aload_n 0, 1) := by decide +kernel
theorem dX1_goTo_2 : decode cX1_goTo 2 = .ok (.invokevirtual 69, 3) := by decide +kernel
theorem dX1_goTo_5 : decode cX1_goTo 5 = .ok (.iconst 0, 1) := by decide +kernel
theorem dX1_goTo_6 : decode cX1_goTo 6 = .ok (.invokevirtual 72, 3) := by decide +kernel
theorem dX1_goTo_9 : decode cX1_goTo 9 = .ok (.iconst (-1), 1) := by decide +kernel
theorem dX1_goTo_10 : decode cX1_goTo 10 = .ok (.istore_n 2, 1) := by decide +kernel
theorem dX1_goTo_11 : decode cX1_goTo 11 = .ok (.iload_n 2, 1) := by decide +kernel
theorem dX1_goTo_12 : decode cX1_goTo 12 = .ok (.iload_n 1, 1) := by decide +kernel
theorem dX1_goTo_13 : decode cX1_goTo 13 = .ok (.if_icmp .ge 16, 3) := by decide +kernel
theorem dX1_goTo_16 : decode cX1_goTo 16 = .ok (.aload_n 0, 1) := by decide +kernel
theorem dX1_goTo_17 : decode cX1_goTo 17 = .ok (.invokevirtual 76, 3) := by decide +kernel
theorem dX1_goTo_20 : decode cX1_goTo 20 = .ok (.ifCond .eq 9, 3) := by decide +kernel
theorem dX1_goTo_23 : decode cX1_goTo 23 = .ok (.iinc 2 1, 3) := by decide +kernel
theorem dX1_goTo_26 : decode cX1_goTo 26 = .ok (.goto (-15), 3) := by decide +kernel
theorem dX1_goTo_29 : decode cX1_goTo 29 = .ok (.iload_n 1, 1) := by decide +kernel
theorem dX1_goTo_30 : decode cX1_goTo 30 = .ok (.ifCond .lt 12, 3) := by decide +kernel
theorem dX1_goTo_33 : decode cX1_goTo 33 = .ok (.iload_n 2, 1) := by decide +kernel
theorem dX1_goTo_34 : decode cX1_goTo 34 = .ok (.iload_n 1, 1) := by decide +kernel
theorem dX1_goTo_35 : decode cX1_goTo 35 = .ok (.if_icmp .ne 7, 3) := by decide +kernel
theorem dX1_goTo_38 : decode cX1_goTo 38 = .ok (.iconst 1, 1) := by decide +kernel
theorem dX1_goTo_39 : decode cX1_goTo 39 = .ok (.goto 4, 3) := by decide +kernel
theorem dX1_goTo_42 : decode cX1_goTo 42 = .ok (.iconst 0, 1) := by decide +kernel
theorem dX1_goTo_43 : decode cX1_goTo 43 = .ok (.ireturn, 1) := by decide +kernel
abbrev rm_X1_goTo : Room := { frames := 3, cells := 0, slots := 0, locals := 70 }
set_option maxHeartbeats 4000000 in
set_option maxRecDepth 100000 in
theorem c_X1_goTo (N : Nat) (l : Launch) (dC : Nat → ClassId) (dI : Nat → Nat → Nat) (cy : ClassId) (h q2 q3 q6 q7 q10 : Nat) (sz : Nat) (c0 : Int32) (c1 : Int32) (c2 : Nat → Int32) (c3 : Nat → Int32) (c4 : Int32) (c5 : Int32) (c6 : Nat → Int32) (c7 : Nat → Int32) (c8 : Int32) (c9 : Int32) (c10 : Nat → Int32) (a1 : Int32) (res : Int32 × Int32 × Int32 × (Nat → Int32)) (hf : f_X1_goTo N a1 c0 c1 c2 c4 c5 c6 = some res) : Met l yX1_goTo wsX1_goTo rm_X1_goTo (va_Pc [.ref h, .int a1] (fun U => U.heap.size = sz ∧ va_P (dC, dI) vwCl (wX1 cy h q2 q3 q6 q7 q10 c0 c1 c2 c3 c4 c5 c6 c7 c8 c9 c10) U.heap ∧ va_K (dC, dI) vwCl [(cy, .int)] U ∧ va_D (fun _ => True) (wX1 cy h q2 q3 q6 q7 q10 c0 c1 c2 c3 c4 c5 c6 c7 c8 c9 c10))) (z_qI dC dI cy res.1 (wX1 cy h q2 q3 q6 q7 q10 c0 c1 c2 c3 res.2.1 res.2.2.1 res.2.2.2 c7 c8 c9 c10) (va_A (wX1 cy h q2 q3 q6 q7 q10 c0 c1 c2 c3 c4 c5 c6 c7 c8 c9 c10) sz)) 0 0 (va_A (wX1 cy h q2 q3 q6 q7 q10 c0 c1 c2 c3 c4 c5 c6 c7 c8 c9 c10) sz) := by
  refine Met.ofW (cc := cX1_goTo) (maxL := 3) (ret := (some .boolean)) (by decide) rfl ?_
  intro p e s m args below meth c s₁ B hml hv
  obtain ⟨rfl, hsz, hP, hK, hD0⟩ := hv
  have hx := B.exec
  have hb := B.bytes
  have hr := B.returns
  have hts := atoms_spec (ws := wsX1_goTo) B.pre
  have hown : s.vm.findClass RX1 = some m.cls := findClass_of_methodNamed B.named
  have hlocks := B.notSynchronized
  subst hsz
  have hD := hD0.self (sz := s.heap.size)
  generalize hAe : va_A (wX1 cy h q2 q3 q6 q7 q10 c0 c1 c2 c3 c4 c5 c6 c7 c8 c9 c10) s.heap.size = A at hD ⊢
  have hA : ∀ q : Nat, s.heap.size ≤ q → A q := fun q h => by rw [← hAe]; exact Or.inr h
  have hS : va_S A s.heap s.heap [] := va_S.rf
  have hP : va_P (dC, dI) vwCl (wX1 cy h q2 q3 q6 q7 q10 c0 c1 c2 c3 c4 c5 c6 c7 c8 c9 c10) s.heap := hP
  have hl := lv_entry ([.ref h, .int a1]) (n := 3) (Nat.le_of_ble_eq_true rfl)
  rw [lg_entry_eq]
  generalize (lg_sl ([.ref h, .int a1]) ++ List.replicate (3 - (lg_sl ([.ref h, .int a1])).length) Slot.unset).toArray = ls at hl ⊢
  have hl : lv_has ls 3 [(0, .ref h), (1, .int a1)] := hl
  have B29 : ∀ (x1 x2 : Int32) (c4 : Int32) (c5 : Int32) (c6 : Nat → Int32) (H : Heap) (locs : List Loc) (ls : Array Slot), f_X1_goTo_b29 N c0 c1 c2 x1 x2 c4 c5 c6 = some res → va_P (dC, dI) vwCl (wX1 cy h q2 q3 q6 q7 q10 c0 c1 c2 c3 c4 c5 c6 c7 c8 c9 c10) H → va_D A (wX1 cy h q2 q3 q6 q7 q10 c0 c1 c2 c3 c4 c5 c6 c7 c8 c9 c10) → va_S A s.heap H locs → lv_has ls 3 [(0, .ref h), (1, .int x1), (2, .int x2)] → W p l e rm_X1_goTo s m ([.ref h, .int a1] : List Value).toArray below meth c H locs 0 0 (MQ below (z_qI dC dI cy res.1 (wX1 cy h q2 q3 q6 q7 q10 c0 c1 c2 c3 res.2.1 res.2.2.1 res.2.2.2 c7 c8 c9 c10) A) ([.ref h, .int a1] : List Value).toArray s 0 0 A) (F0 m 29 ls []) := by
    clear hf hl hP hD hS
    intro x1 x2 c4 c5 c6 H locs ls hf hP hD hS hl
    unfold f_X1_goTo_b29 at hf
    refine lv_iload_n hx hb dX1_goTo_29 rfl (lv_at hl 1 rfl) ?_
    refine lv_if_lt (tgt := 42) hx hb dX1_goTo_30 (by decide) (fun c_30 => ?_) (fun c_30 => ?_)
    · replace hf := (if_pos c_30).symm.trans hf
      refine lv_iconst (v := (0 : Int32)) hx hb dX1_goTo_42 (by decide) ?_
      have hres := Option.some.inj hf
      subst hres
      have hP9 := hP.sub (ws' := (wX1 cy h q2 q3 q6 q7 q10 c0 c1 c2 c3 c4 c5 c6 c7 c8 c9 c10)) [0, 1, 2, 3, 4, 5] rfl
      have hD9 := hD.sub (ws' := (wX1 cy h q2 q3 q6 q7 q10 c0 c1 c2 c3 c4 c5 c6 c7 c8 c9 c10)) [0, 1, 2, 3, 4, 5] (by decide) rfl
      have hK9 := hK.sub (tys' := [(cy, .int)]) [0] rfl
      exact W.zret (v := (0 : Int32)) hx hb hr rfl (fun t ht hW => ⟨⟨(0 : Int32), (), rfl, rfl, by rw [ht]; exact hP9, va_K.moved hW.alike hK9, hD9⟩, hS.F ht⟩) hS.2.2 dX1_goTo_43
    · replace hf := (if_neg c_30).symm.trans hf
      refine lv_iload_n hx hb dX1_goTo_33 rfl (lv_at hl 2 rfl) ?_
      refine lv_iload_n hx hb dX1_goTo_34 rfl (lv_at hl 1 rfl) ?_
      refine lv_icmp_ne (tgt := 42) hx hb dX1_goTo_35 (by decide) (fun c_35 => ?_) (fun c_35 => ?_)
      · replace hf := (if_neg c_35).symm.trans hf
        refine lv_iconst (v := (0 : Int32)) hx hb dX1_goTo_42 (by decide) ?_
        have hres := Option.some.inj hf
        subst hres
        have hP9 := hP.sub (ws' := (wX1 cy h q2 q3 q6 q7 q10 c0 c1 c2 c3 c4 c5 c6 c7 c8 c9 c10)) [0, 1, 2, 3, 4, 5] rfl
        have hD9 := hD.sub (ws' := (wX1 cy h q2 q3 q6 q7 q10 c0 c1 c2 c3 c4 c5 c6 c7 c8 c9 c10)) [0, 1, 2, 3, 4, 5] (by decide) rfl
        have hK9 := hK.sub (tys' := [(cy, .int)]) [0] rfl
        exact W.zret (v := (0 : Int32)) hx hb hr rfl (fun t ht hW => ⟨⟨(0 : Int32), (), rfl, rfl, by rw [ht]; exact hP9, va_K.moved hW.alike hK9, hD9⟩, hS.F ht⟩) hS.2.2 dX1_goTo_43
      · replace hf := (if_pos c_35).symm.trans hf
        refine lv_iconst (v := (1 : Int32)) hx hb dX1_goTo_38 (by decide) ?_
        refine lv_goto (tgt := 43) hx hb dX1_goTo_39 (by decide) ?_
        have hres := Option.some.inj hf
        subst hres
        have hP9 := hP.sub (ws' := (wX1 cy h q2 q3 q6 q7 q10 c0 c1 c2 c3 c4 c5 c6 c7 c8 c9 c10)) [0, 1, 2, 3, 4, 5] rfl
        have hD9 := hD.sub (ws' := (wX1 cy h q2 q3 q6 q7 q10 c0 c1 c2 c3 c4 c5 c6 c7 c8 c9 c10)) [0, 1, 2, 3, 4, 5] (by decide) rfl
        have hK9 := hK.sub (tys' := [(cy, .int)]) [0] rfl
        exact W.zret (v := (1 : Int32)) hx hb hr rfl (fun t ht hW => ⟨⟨(1 : Int32), (), rfl, rfl, by rw [ht]; exact hP9, va_K.moved hW.alike hK9, hD9⟩, hS.F ht⟩) hS.2.2 dX1_goTo_43
  have B11 : ∀ n : Nat, ∀ (x1 x2 : Int32) (c4 : Int32) (c5 : Int32) (c6 : Nat → Int32) (H : Heap) (locs : List Loc) (ls : Array Slot), f_X1_goTo_b11 N c0 c1 c2 n x1 x2 c4 c5 c6 = some res → va_P (dC, dI) vwCl (wX1 cy h q2 q3 q6 q7 q10 c0 c1 c2 c3 c4 c5 c6 c7 c8 c9 c10) H → va_D A (wX1 cy h q2 q3 q6 q7 q10 c0 c1 c2 c3 c4 c5 c6 c7 c8 c9 c10) → va_S A s.heap H locs → lv_has ls 3 [(0, .ref h), (1, .int x1), (2, .int x2)] → W p l e rm_X1_goTo s m ([.ref h, .int a1] : List Value).toArray below meth c H locs 0 0 (MQ below (z_qI dC dI cy res.1 (wX1 cy h q2 q3 q6 q7 q10 c0 c1 c2 c3 res.2.1 res.2.2.1 res.2.2.2 c7 c8 c9 c10) A) ([.ref h, .int a1] : List Value).toArray s 0 0 A) (F0 m 11 ls []) := by
    clear hf hl hP hD hS
    intro n
    induction n with
    | zero =>
      intro x1 x2 c4 c5 c6 H locs ls hf hP hD hS hl
      rw [f_X1_goTo_b11] at hf
      cases hf
    | succ n ih =>
      intro x1 x2 c4 c5 c6 H locs ls hf hP hD hS hl
      rw [f_X1_goTo_b11] at hf
      refine lv_iload_n hx hb dX1_goTo_11 rfl (lv_at hl 2 rfl) ?_
      refine lv_iload_n hx hb dX1_goTo_12 rfl (lv_at hl 1 rfl) ?_
      refine lv_icmp_ge (tgt := 29) hx hb dX1_goTo_13 (by decide) (fun c_13 => ?_) (fun c_13 => ?_)
      · replace hf := (if_pos c_13).symm.trans hf
        exact B29 x1 x2 c4 c5 c6 _ _ _ hf hP hD hS (lv_sub hl [0, 1, 2] rfl)
      · replace hf := (if_neg c_13).symm.trans hf
        refine lv_aload_n hx hb dX1_goTo_16 rfl (lv_at hl 0 rfl) ?_
        obtain ⟨u17, hu17, hf⟩ := z_ob_some hf
        have hPc := hP.sub (ws' := (wX1 cy h q2 q3 q6 q7 q10 c0 c1 c2 c3 c4 c5 c6 c7 c8 c9 c10)) [0, 1, 2, 3, 4, 5] rfl
        have hDc := hD.sub (ws' := (wX1 cy h q2 q3 q6 q7 q10 c0 c1 c2 c3 c4 c5 c6 c7 c8 c9 c10)) [0, 1, 2, 3, 4, 5] (by decide) rfl
        have hKc := hK.sub (tys' := [(cy, .int)]) [0] rfl
        have hFc := va_free (wc := (wX1 cy h q2 q3 q6 q7 q10 c0 c1 c2 c3 c4 c5 c6 c7 c8 c9 c10)) hD hS hA [0, 1, 2, 3, 4, 5] rfl
        refine va_calli (va_runV (As := []) (rest := []) ⟨hx, hb, hml, hown, hts⟩ (c_X1_next N l dC dI cy h q2 q3 q6 q7 q10 H.size c0 c1 c2 c3 c4 c5 c6 c7 c8 c9 c10 u17 hu17) (cwV 0 hts gX1_goTo_X1_next rfl rfl rfl (by decide +kernel) ⟨Nat.le_of_ble_eq_true rfl, Nat.le_of_ble_eq_true rfl⟩) ⟨fun a U g mk q => by obtain ⟨q0, q1, qP, qK, qD⟩ := q; exact ⟨q0, q1, qP, va_K.moved (u := U) (U := U.calling g mk a) (Vm.Alike.refl U.vm) qK, qD⟩, va_recv hKc hPc (ci := 1) (q0 := 0) rfl rfl, fun U hU hW => ⟨rfl, by rw [hU], by rw [hU]; exact hPc, va_K.moved hW.alike hKc, hDc.weaken (fun _ _ _ _ => trivial)⟩⟩ rfl rfl hl.1 rfl (lv_room (Nat.le_of_ble_eq_true rfl)) dX1_goTo_17 ⟨Nat.zero_le _, Nat.zero_le _⟩) hS (fun q _ h => hFc q h) hFc (fun r_17 uu_ t H1 locs ht hvm hw hB hz1 hk1 hS => ?_)
        replace hw := hw.symm
        subst hw
        obtain ⟨hP1, -, hD1⟩ := hB
        rw [ht] at hP1
        obtain ⟨hP, hD⟩ := va_join (wr := []) (w1 := (wX1 cy h q2 q3 q6 q7 q10 c0 c1 c2 c3 c4 c5 u17.2 c7 c8 c9 c10)) hP hD [0, 1, 2, 3, 4, 5] [] rfl rfl (by decide) (by decide) hk1 hFc hP1 hD1
        clear hk1 hz1 hP1 hD1 ht hPc hDc hFc
        generalize H1 = H at hP hS ⊢
        have hP : va_P (dC, dI) vwCl (wX1 cy h q2 q3 q6 q7 q10 c0 c1 c2 c3 c4 c5 u17.2 c7 c8 c9 c10) H := hP
        have hD : va_D A (wX1 cy h q2 q3 q6 q7 q10 c0 c1 c2 c3 c4 c5 u17.2 c7 c8 c9 c10) := hD
        refine lv_if_eq (tgt := 29) hx hb dX1_goTo_20 (by decide) (fun c_20 => ?_) (fun c_20 => ?_)
        · replace hf := (if_pos c_20).symm.trans hf
          exact B29 x1 x2 c4 c5 u17.2 _ _ _ hf hP hD hS (lv_sub hl [0, 1, 2] rfl)
        · replace hf := (if_neg c_20).symm.trans hf
          refine lv_iinc (v := x2 + (1 : Int32)) (lv' := [(2, .int (x2 + (1 : Int32))), (0, .ref h), (1, .int x1)]) hx hb dX1_goTo_23 hl (k := 2) rfl rfl (by decide) rfl (fun ls hl => ?_)
          refine lv_goto (tgt := 11) hx hb dX1_goTo_26 (by decide) ?_
          exact ih x1 (x2 + (1 : Int32)) c4 c5 u17.2 _ _ _ hf hP hD hS (lv_sub hl [1, 2, 0] rfl)
  unfold f_X1_goTo at hf
  refine lv_aload_n hx hb dX1_goTo_0 rfl (lv_at hl 0 rfl) ?_
  refine lv_aload_n hx hb dX1_goTo_1 rfl (lv_at hl 0 rfl) ?_
  obtain ⟨u2, hu2, hf⟩ := z_ob_some hf
  have hPc := hP.sub (ws' := (wX1 cy h q2 q3 q6 q7 q10 c0 c1 c2 c3 c4 c5 c6 c7 c8 c9 c10)) [0, 1, 2, 3, 4, 5] rfl
  have hDc := hD.sub (ws' := (wX1 cy h q2 q3 q6 q7 q10 c0 c1 c2 c3 c4 c5 c6 c7 c8 c9 c10)) [0, 1, 2, 3, 4, 5] (by decide) rfl
  have hKc := hK.sub (tys' := [(cy, .int)]) [0] rfl
  have hFc := va_free (wc := (wX1 cy h q2 q3 q6 q7 q10 c0 c1 c2 c3 c4 c5 c6 c7 c8 c9 c10)) hD hS hA [0, 1, 2, 3, 4, 5] rfl
  refine va_calli (va_runV (As := []) (rest := [.ref h]) ⟨hx, hb, hml, hown, hts⟩ (c_X1_all N l dC dI cy h q2 q3 q6 q7 q10 s.heap.size c0 c1 c2 c3 c4 c5 c6 c7 c8 c9 c10 u2 hu2) (cwV 0 hts gX1_goTo_X1_all rfl rfl rfl (by decide +kernel) ⟨Nat.le_of_ble_eq_true rfl, Nat.le_of_ble_eq_true rfl⟩) ⟨fun a U g mk q => by obtain ⟨q0, q1, qP, qK, qD⟩ := q; exact ⟨q0, q1, qP, va_K.moved (u := U) (U := U.calling g mk a) (Vm.Alike.refl U.vm) qK, qD⟩, va_recv hKc hPc (ci := 1) (q0 := 0) rfl rfl, fun U hU hW => ⟨rfl, by rw [hU], by rw [hU]; exact hPc, va_K.moved hW.alike hKc, hDc.weaken (fun _ _ _ _ => trivial)⟩⟩ rfl rfl hl.1 rfl (lv_room (Nat.le_of_ble_eq_true rfl)) dX1_goTo_2 ⟨Nat.zero_le _, Nat.zero_le _⟩) hS (fun q _ h => hFc q h) hFc (fun r_2 uu_ t H1 locs ht hvm hw hB hz1 hk1 hS => ?_)
  replace hw := hw.symm
  subst hw
  obtain ⟨hP1, -, hD1⟩ := hB
  rw [ht] at hP1
  obtain ⟨hP, hD⟩ := va_join (wr := []) (w1 := (wX1 cy h q2 q3 q6 q7 q10 c0 c1 c2 c3 c4 c5 c6 c7 c8 c9 c10)) hP hD [0, 1, 2, 3, 4, 5] [] rfl rfl (by decide) (by decide) hk1 hFc hP1 hD1
  clear hk1 hz1 hP1 hD1 ht hPc hDc hFc
  generalize H1 = H at hP hS ⊢
  have hP : va_P (dC, dI) vwCl (wX1 cy h q2 q3 q6 q7 q10 c0 c1 c2 c3 c4 c5 c6 c7 c8 c9 c10) H := hP
  have hD : va_D A (wX1 cy h q2 q3 q6 q7 q10 c0 c1 c2 c3 c4 c5 c6 c7 c8 c9 c10) := hD
  refine lv_iconst (v := (0 : Int32)) hx hb dX1_goTo_5 (by decide) ?_
  obtain ⟨u6, hu6, hf⟩ := z_ob_some hf
  have hPc := hP.sub (ws' := (wX1 cy h q2 q3 q6 q7 q10 c0 c1 c2 c3 c4 c5 c6 c7 c8 c9 c10)) [0, 1, 2, 3, 4, 5] rfl
  have hDc := hD.sub (ws' := (wX1 cy h q2 q3 q6 q7 q10 c0 c1 c2 c3 c4 c5 c6 c7 c8 c9 c10)) [0, 1, 2, 3, 4, 5] (by decide) rfl
  have hKc := hK.sub (tys' := [(cy, .int)]) [0] rfl
  have hFc := va_free (wc := (wX1 cy h q2 q3 q6 q7 q10 c0 c1 c2 c3 c4 c5 c6 c7 c8 c9 c10)) hD hS hA [0, 1, 2, 3, 4, 5] rfl
  refine va_callv (va_runV (As := [.int u2, .int (0 : Int32)]) (rest := []) ⟨hx, hb, hml, hown, hts⟩ (c_X1_start N l dC dI cy h q2 q3 q6 q7 q10 H.size c0 c1 c2 c3 c4 c5 c6 c7 c8 c9 c10 u2 (0 : Int32) u6 hu6) (cwV 2 hts gX1_goTo_X1_start rfl rfl rfl (by decide +kernel) ⟨Nat.le_of_ble_eq_true rfl, Nat.le_of_ble_eq_true rfl⟩) ⟨fun a U g mk q => by obtain ⟨q0, q1, qP, qK, qD⟩ := q; exact ⟨q0, q1, qP, va_K.moved (u := U) (U := U.calling g mk a) (Vm.Alike.refl U.vm) qK, qD⟩, va_recv hKc hPc (ci := 1) (q0 := 0) rfl rfl, fun U hU hW => ⟨rfl, by rw [hU], by rw [hU]; exact hPc, va_K.moved hW.alike hKc, hDc.weaken (fun _ _ _ _ => trivial)⟩⟩ rfl rfl hl.1 rfl (lv_room (Nat.le_of_ble_eq_true rfl)) dX1_goTo_6 ⟨Nat.zero_le _, Nat.zero_le _⟩) hS (fun q _ h => hFc q h) hFc (fun uu_ t H1 locs ht hvm hw hB hz1 hk1 hS => ?_)
  obtain ⟨hP1, -, hD1⟩ := hB
  rw [ht] at hP1
  obtain ⟨hP, hD⟩ := va_join (wr := []) (w1 := (wX1 cy h q2 q3 q6 q7 q10 c0 c1 c2 c3 u6.1 u6.2.1 u6.2.2 c7 c8 c9 c10)) hP hD [0, 1, 2, 3, 4, 5] [] rfl rfl (by decide) (by decide) hk1 hFc hP1 hD1
  clear hk1 hz1 hP1 hD1 ht hPc hDc hFc
  generalize H1 = H at hP hS ⊢
  have hP : va_P (dC, dI) vwCl (wX1 cy h q2 q3 q6 q7 q10 c0 c1 c2 c3 u6.1 u6.2.1 u6.2.2 c7 c8 c9 c10) H := hP
  have hD : va_D A (wX1 cy h q2 q3 q6 q7 q10 c0 c1 c2 c3 u6.1 u6.2.1 u6.2.2 c7 c8 c9 c10) := hD
  refine lv_iconst (v := (-1 : Int32)) hx hb dX1_goTo_9 (by decide) ?_
  refine lv_istore_n (lv' := [(2, .int (-1 : Int32)), (0, .ref h), (1, .int a1)]) hx hb dX1_goTo_10 rfl hl (by decide) rfl (fun ls hl => ?_)
  exact B11 N a1 (-1 : Int32) u6.1 u6.2.1 u6.2.2 _ _ _ hf hP hD hS (lv_sub hl [1, 2, 0] rfl)

set_option maxRecDepth 20000 in
theorem ggX1_way_X1_isOne : GoodIn wsX1_way wsX1_isOne := goodIn_r _ [6, 7, 8, 9, 5, 10, 47, 48, 49, 50, 51, 52, 53, 54, 55, 56, 57] (by decide +kernel) (by decide +kernel)
set_option maxRecDepth 20000 in
theorem gX1_way_X1_isOne : GoodIn wsX1_way (wsV RX1 39 RX1 yX1_isOne wsX1_isOne) := goodIn_app (goodIn_of _ (by decide +kernel)) ggX1_way_X1_isOne
set_option maxRecDepth 20000 in
theorem ggX1_way_X1_goTo : GoodIn wsX1_way wsX1_goTo := goodIn_r _ [14, 15, 16, 17, 5, 18, 7, 19, 20, 21, 22, 23, 24, 1, 25, 26, 27, 28, 29, 30, 31, 32, 33, 8, 9, 10, 34, 35, 36, 37, 38, 39, 40, 41, 42, 43, 44, 45, 46, 47, 48, 49, 50, 51, 52, 53, 54, 55, 56, 57] (by decide +kernel) (by decide +kernel)
set_option maxRecDepth 20000 in
theorem gX1_way_X1_goTo : GoodIn wsX1_way (wsV RX1 79 RX1 yX1_goTo wsX1_goTo) := goodIn_app (goodIn_of _ (by decide +kernel)) ggX1_way_X1_goTo
theorem dX1_way_0 : decode cX1_way 0 = .ok (.aload_n 0, 1) := by decide +kernel
theorem dX1_way_1 : decode cX1_way 1 = .ok (.iload_n 2, 1) := by decide +kernel
theorem dX1_way_2 : decode cX1_way 2 = .ok (.invokevirtual 39, 3) := by decide +kernel
theorem dX1_way_5 : decode cX1_way 5 = .ok (.ifCond .ne 5, 3) := by decide +kernel
theorem dX1_way_8 : decode cX1_way 8 = .ok (.iconst (-1), 1) := by decide +kernel
theorem dX1_way_9 : decode cX1_way 9 = .ok (.ireturn, 1) := by decide +kernel
theorem dX1_way_10 : decode cX1_way 10 = .ok (.aload_n 0, 1) := by decide +kernel
theorem dX1_way_11 : decode cX1_way 11 = .ok (.iload_n 1, 1) := by decide +kernel
theorem dX1_way_12 : decode cX1_way 12 = .ok (.invokevirtual 79, 3) := by decide +kernel
theorem dX1_way_15 : decode cX1_way 15 = .ok (.ifCond .eq 12, 3) := by decide +kernel
theorem dX1_way_18 : decode cX1_way 18 = .ok (.aload_n 0, 1) := by decide +kernel
theorem dX1_way_19 : decode cX1_way 19 = .ok (.getfield 23, 3) := by decide +kernel
theorem dX1_way_22 : decode cX1_way 22 = .ok (.iload_n 2, 1) := by decide +kernel
theorem dX1_way_23 : decode cX1_way 23 = .ok (.iaload, 1) := by decide +kernel
theorem dX1_way_24 : decode cX1_way 24 = .ok (.goto 5, 3) := by decide +kernel
theorem dX1_way_27 : decode cX1_way 27 = .ok (.bipush (-5), 2) := by decide +kernel
theorem dX1_way_29 : decode cX1_way 29 = .ok (.ireturn, 1) := by decide +kernel
abbrev rm_X1_way : Room := { frames := 4, cells := 0, slots := 0, locals := 92 }
set_option maxHeartbeats 4000000 in
set_option maxRecDepth 100000 in
theorem c_X1_way (N : Nat) (l : Launch) (dC : Nat → ClassId) (dI : Nat → Nat → Nat) (cy : ClassId) (h q2 q3 q6 q7 q10 : Nat) (sz : Nat) (c0 : Int32) (c1 : Int32) (c2 : Nat → Int32) (c3 : Nat → Int32) (c4 : Int32) (c5 : Int32) (c6 : Nat → Int32) (c7 : Nat → Int32) (c8 : Int32) (c9 : Int32) (c10 : Nat → Int32) (a1 a2 : Int32) (res : Int32 × Int32 × Int32 × (Nat → Int32)) (hf : f_X1_way N a1 a2 c0 c1 c2 c4 c5 c6 = some res) : Met l yX1_way wsX1_way rm_X1_way (va_Pc [.ref h, .int a1, .int a2] (fun U => U.heap.size = sz ∧ va_P (dC, dI) vwCl (wX1 cy h q2 q3 q6 q7 q10 c0 c1 c2 c3 c4 c5 c6 c7 c8 c9 c10) U.heap ∧ va_K (dC, dI) vwCl [(cy, .int)] U ∧ va_D (fun _ => True) (wX1 cy h q2 q3 q6 q7 q10 c0 c1 c2 c3 c4 c5 c6 c7 c8 c9 c10))) (z_qI dC dI cy res.1 (wX1 cy h q2 q3 q6 q7 q10 c0 c1 c2 c3 res.2.1 res.2.2.1 res.2.2.2 c7 c8 c9 c10) (va_A (wX1 cy h q2 q3 q6 q7 q10 c0 c1 c2 c3 c4 c5 c6 c7 c8 c9 c10) sz)) 0 0 (va_A (wX1 cy h q2 q3 q6 q7 q10 c0 c1 c2 c3 c4 c5 c6 c7 c8 c9 c10) sz) := by
  refine Met.ofW (cc := cX1_way) (maxL := 3) (ret := (some .int)) (by decide) rfl ?_
  intro p e s m args below meth c s₁ B hml hv
  obtain ⟨rfl, hsz, hP, hK, hD0⟩ := hv
  have hx := B.exec
  have hb := B.bytes
  have hr := B.returns
  have hts := atoms_spec (ws := wsX1_way) B.pre
  have hown : s.vm.findClass RX1 = some m.cls := findClass_of_methodNamed B.named
  have hlocks := B.notSynchronized
  subst hsz
  have hD := hD0.self (sz := s.heap.size)
  generalize hAe : va_A (wX1 cy h q2 q3 q6 q7 q10 c0 c1 c2 c3 c4 c5 c6 c7 c8 c9 c10) s.heap.size = A at hD ⊢
  have hA : ∀ q : Nat, s.heap.size ≤ q → A q := fun q h => by rw [← hAe]; exact Or.inr h
  have hS : va_S A s.heap s.heap [] := va_S.rf
  have hP : va_P (dC, dI) vwCl (wX1 cy h q2 q3 q6 q7 q10 c0 c1 c2 c3 c4 c5 c6 c7 c8 c9 c10) s.heap := hP
  have hl := lv_entry ([.ref h, .int a1, .int a2]) (n := 3) (Nat.le_of_ble_eq_true rfl)
  rw [lg_entry_eq]
  generalize (lg_sl ([.ref h, .int a1, .int a2]) ++ List.replicate (3 - (lg_sl ([.ref h, .int a1, .int a2])).length) Slot.unset).toArray = ls at hl ⊢
  have hl : lv_has ls 3 [(0, .ref h), (1, .int a1), (2, .int a2)] := hl
  unfold f_X1_way at hf
  refine lv_aload_n hx hb dX1_way_0 rfl (lv_at hl 0 rfl) ?_
  refine lv_iload_n hx hb dX1_way_1 rfl (lv_at hl 2 rfl) ?_
  obtain ⟨u2, hu2, hf⟩ := z_ob_some hf
  have hPc := hP.sub (ws' := (wX1 cy h q2 q3 q6 q7 q10 c0 c1 c2 c3 c4 c5 c6 c7 c8 c9 c10)) [0, 1, 2, 3, 4, 5] rfl
  have hDc := hD.sub (ws' := (wX1 cy h q2 q3 q6 q7 q10 c0 c1 c2 c3 c4 c5 c6 c7 c8 c9 c10)) [0, 1, 2, 3, 4, 5] (by decide) rfl
  have hKc := hK.sub (tys' := [(cy, .int)]) [0] rfl
  have hFc := va_free (wc := (wX1 cy h q2 q3 q6 q7 q10 c0 c1 c2 c3 c4 c5 c6 c7 c8 c9 c10)) hD hS hA [0, 1, 2, 3, 4, 5] rfl
  refine va_calli (va_runV (As := [.int a2]) (rest := []) ⟨hx, hb, hml, hown, hts⟩ (c_X1_isOne N l dC dI cy h q2 q3 q6 q7 q10 s.heap.size c0 c1 c2 c3 c4 c5 c6 c7 c8 c9 c10 a2 u2 hu2) (cwV 1 hts gX1_way_X1_isOne rfl rfl rfl (by decide +kernel) ⟨Nat.le_of_ble_eq_true rfl, Nat.le_of_ble_eq_true rfl⟩) ⟨fun a U g mk q => by obtain ⟨q0, q1, qP, qK, qD⟩ := q; exact ⟨q0, q1, qP, va_K.moved (u := U) (U := U.calling g mk a) (Vm.Alike.refl U.vm) qK, qD⟩, va_recv hKc hPc (ci := 1) (q0 := 0) rfl rfl, fun U hU hW => ⟨rfl, by rw [hU], by rw [hU]; exact hPc, va_K.moved hW.alike hKc, hDc.weaken (fun _ _ _ _ => trivial)⟩⟩ rfl rfl hl.1 rfl (lv_room (Nat.le_of_ble_eq_true rfl)) dX1_way_2 ⟨Nat.zero_le _, Nat.zero_le _⟩) hS (fun q _ h => hFc q h) hFc (fun r_2 uu_ t H1 locs ht hvm hw hB hz1 hk1 hS => ?_)
  replace hw := hw.symm
  subst hw
  obtain ⟨hP1, -, hD1⟩ := hB
  rw [ht] at hP1
  obtain ⟨hP, hD⟩ := va_join (wr := []) (w1 := (wX1 cy h q2 q3 q6 q7 q10 c0 c1 c2 c3 c4 c5 c6 c7 c8 c9 c10)) hP hD [0, 1, 2, 3, 4, 5] [] rfl rfl (by decide) (by decide) hk1 hFc hP1 hD1
  clear hk1 hz1 hP1 hD1 ht hPc hDc hFc
  generalize H1 = H at hP hS ⊢
  have hP : va_P (dC, dI) vwCl (wX1 cy h q2 q3 q6 q7 q10 c0 c1 c2 c3 c4 c5 c6 c7 c8 c9 c10) H := hP
  have hD : va_D A (wX1 cy h q2 q3 q6 q7 q10 c0 c1 c2 c3 c4 c5 c6 c7 c8 c9 c10) := hD
  refine lv_if_ne (tgt := 10) hx hb dX1_way_5 (by decide) (fun c_5 => ?_) (fun c_5 => ?_)
  · replace hf := (if_neg c_5).symm.trans hf
    refine lv_aload_n hx hb dX1_way_10 rfl (lv_at hl 0 rfl) ?_
    refine lv_iload_n hx hb dX1_way_11 rfl (lv_at hl 1 rfl) ?_
    obtain ⟨u12, hu12, hf⟩ := z_ob_some hf
    have hPc := hP.sub (ws' := (wX1 cy h q2 q3 q6 q7 q10 c0 c1 c2 c3 c4 c5 c6 c7 c8 c9 c10)) [0, 1, 2, 3, 4, 5] rfl
    have hDc := hD.sub (ws' := (wX1 cy h q2 q3 q6 q7 q10 c0 c1 c2 c3 c4 c5 c6 c7 c8 c9 c10)) [0, 1, 2, 3, 4, 5] (by decide) rfl
    have hKc := hK.sub (tys' := [(cy, .int)]) [0] rfl
    have hFc := va_free (wc := (wX1 cy h q2 q3 q6 q7 q10 c0 c1 c2 c3 c4 c5 c6 c7 c8 c9 c10)) hD hS hA [0, 1, 2, 3, 4, 5] rfl
    refine va_calli (va_runV (As := [.int a1]) (rest := []) ⟨hx, hb, hml, hown, hts⟩ (c_X1_goTo N l dC dI cy h q2 q3 q6 q7 q10 H.size c0 c1 c2 c3 c4 c5 c6 c7 c8 c9 c10 a1 u12 hu12) (cwV 1 hts gX1_way_X1_goTo rfl rfl rfl (by decide +kernel) ⟨Nat.le_of_ble_eq_true rfl, Nat.le_of_ble_eq_true rfl⟩) ⟨fun a U g mk q => by obtain ⟨q0, q1, qP, qK, qD⟩ := q; exact ⟨q0, q1, qP, va_K.moved (u := U) (U := U.calling g mk a) (Vm.Alike.refl U.vm) qK, qD⟩, va_recv hKc hPc (ci := 1) (q0 := 0) rfl rfl, fun U hU hW => ⟨rfl, by rw [hU], by rw [hU]; exact hPc, va_K.moved hW.alike hKc, hDc.weaken (fun _ _ _ _ => trivial)⟩⟩ rfl rfl hl.1 rfl (lv_room (Nat.le_of_ble_eq_true rfl)) dX1_way_12 ⟨Nat.zero_le _, Nat.zero_le _⟩) hS (fun q _ h => hFc q h) hFc (fun r_12 uu_ t H1 locs ht hvm hw hB hz1 hk1 hS => ?_)
    replace hw := hw.symm
    subst hw
    obtain ⟨hP1, -, hD1⟩ := hB
    rw [ht] at hP1
    obtain ⟨hP, hD⟩ := va_join (wr := []) (w1 := (wX1 cy h q2 q3 q6 q7 q10 c0 c1 c2 c3 u12.2.1 u12.2.2.1 u12.2.2.2 c7 c8 c9 c10)) hP hD [0, 1, 2, 3, 4, 5] [] rfl rfl (by decide) (by decide) hk1 hFc hP1 hD1
    clear hk1 hz1 hP1 hD1 ht hPc hDc hFc
    generalize H1 = H at hP hS ⊢
    have hP : va_P (dC, dI) vwCl (wX1 cy h q2 q3 q6 q7 q10 c0 c1 c2 c3 u12.2.1 u12.2.2.1 u12.2.2.2 c7 c8 c9 c10) H := hP
    have hD : va_D A (wX1 cy h q2 q3 q6 q7 q10 c0 c1 c2 c3 u12.2.1 u12.2.2.1 u12.2.2.2 c7 c8 c9 c10) := hD
    refine lv_if_eq (tgt := 27) hx hb dX1_way_15 (by decide) (fun c_15 => ?_) (fun c_15 => ?_)
    · replace hf := (if_pos c_15).symm.trans hf
      refine lv_bipush (v := (-5 : Int32)) hx hb dX1_way_27 (by decide) ?_
      have hres := Option.some.inj hf
      subst hres
      have hP9 := hP.sub (ws' := (wX1 cy h q2 q3 q6 q7 q10 c0 c1 c2 c3 u12.2.1 u12.2.2.1 u12.2.2.2 c7 c8 c9 c10)) [0, 1, 2, 3, 4, 5] rfl
      have hD9 := hD.sub (ws' := (wX1 cy h q2 q3 q6 q7 q10 c0 c1 c2 c3 u12.2.1 u12.2.2.1 u12.2.2.2 c7 c8 c9 c10)) [0, 1, 2, 3, 4, 5] (by decide) rfl
      have hK9 := hK.sub (tys' := [(cy, .int)]) [0] rfl
      exact W.iret (v := (-5 : Int32)) hx hb hr (fun t ht hW => ⟨⟨(-5 : Int32), (), rfl, rfl, by rw [ht]; exact hP9, va_K.moved hW.alike hK9, hD9⟩, hS.F ht⟩) hS.2.2 dX1_way_29
    · replace hf := (if_neg c_15).symm.trans hf
      refine lv_aload_n hx hb dX1_way_18 rfl (lv_at hl 0 rfl) ?_
      refine va_get (D := (dC, dI)) (ci := 1) (v := .ref q6) (C := RX1) (T := TX1) (N := 11) hx hb hts (by decide +kernel) hown hK hP 0 rfl rfl 6 (by decide) (hts (.fieldLink RX1 23 "GiftLotsModel" "gives" "[I") (by decide +kernel)) (fun _ h9 => h9) rfl dX1_way_19 ?_
      refine lv_iload_n hx hb dX1_way_22 rfl (lv_at hl 2 rfl) ?_
      obtain ⟨hi23, hf⟩ := z_gx_some hf
      refine va_iald hx hb hK hP 3 0 rfl rfl hi23 dX1_way_23 ?_
      refine lv_goto (tgt := 29) hx hb dX1_way_24 (by decide) ?_
      have hres := Option.some.inj hf
      subst hres
      have hP9 := hP.sub (ws' := (wX1 cy h q2 q3 q6 q7 q10 c0 c1 c2 c3 u12.2.1 u12.2.2.1 u12.2.2.2 c7 c8 c9 c10)) [0, 1, 2, 3, 4, 5] rfl
      have hD9 := hD.sub (ws' := (wX1 cy h q2 q3 q6 q7 q10 c0 c1 c2 c3 u12.2.1 u12.2.2.1 u12.2.2.2 c7 c8 c9 c10)) [0, 1, 2, 3, 4, 5] (by decide) rfl
      have hK9 := hK.sub (tys' := [(cy, .int)]) [0] rfl
      exact W.iret (v := u12.2.2.2 (a2).toNatClampNeg) hx hb hr (fun t ht hW => ⟨⟨u12.2.2.2 (a2).toNatClampNeg, (), rfl, rfl, by rw [ht]; exact hP9, va_K.moved hW.alike hK9, hD9⟩, hS.F ht⟩) hS.2.2 dX1_way_29
  · replace hf := (if_pos c_5).symm.trans hf
    refine lv_iconst (v := (-1 : Int32)) hx hb dX1_way_8 (by decide) ?_
    have hres := Option.some.inj hf
    subst hres
    have hP9 := hP.sub (ws' := (wX1 cy h q2 q3 q6 q7 q10 c0 c1 c2 c3 c4 c5 c6 c7 c8 c9 c10)) [0, 1, 2, 3, 4, 5] rfl
    have hD9 := hD.sub (ws' := (wX1 cy h q2 q3 q6 q7 q10 c0 c1 c2 c3 c4 c5 c6 c7 c8 c9 c10)) [0, 1, 2, 3, 4, 5] (by decide) rfl
    have hK9 := hK.sub (tys' := [(cy, .int)]) [0] rfl
    exact W.iret (v := (-1 : Int32)) hx hb hr (fun t ht hW => ⟨⟨(-1 : Int32), (), rfl, rfl, by rw [ht]; exact hP9, va_K.moved hW.alike hK9, hD9⟩, hS.F ht⟩) hS.2.2 dX1_way_9

theorem dX1_roundsNow_0 : decode cX1_roundsNow 0 = .ok (.iconst 0, 1) := by decide +kernel
theorem dX1_roundsNow_1 : decode cX1_roundsNow 1 = .ok (.istore_n 1, 1) := by decide +kernel
theorem dX1_roundsNow_2 : decode cX1_roundsNow 2 = .ok (.iconst 0, 1) := by decide +kernel
theorem dX1_roundsNow_3 : decode cX1_roundsNow 3 = .ok (.istore_n 2, 1) := by decide +kernel
theorem dX1_roundsNow_4 : decode cX1_roundsNow 4 = .ok (.iconst 0, 1) := by decide +kernel
theorem dX1_roundsNow_5 : decode cX1_roundsNow 5 = .ok (.istore_n 3, 1) := by decide +kernel
theorem dX1_roundsNow_6 : decode cX1_roundsNow 6 = .ok (.iload_n 3, 1) := by decide +kernel
theorem dX1_roundsNow_7 : decode cX1_roundsNow 7 = .ok (.aload_n 0, 1) := by decide +kernel
theorem dX1_roundsNow_8 : decode cX1_roundsNow 8 = .ok (.getfield 7, 3) := by decide +kernel
theorem dX1_roundsNow_11 : decode cX1_roundsNow 11 = .ok (.if_icmp .ge 56, 3) := by decide +kernel
theorem dX1_roundsNow_14 : decode cX1_roundsNow 14 = .ok (.iload_n 1, 1) := by decide +kernel
theorem dX1_roundsNow_15 : decode cX1_roundsNow 15 = .ok (.iload_n 2, 1) := by decide +kernel
theorem dX1_roundsNow_16 : decode cX1_roundsNow 16 = .ok (.iload_n 3, 1) := by decide +kernel
theorem dX1_roundsNow_17 : decode cX1_roundsNow 17 = .ok (.ishr, 1) := by decide +kernel
theorem dX1_roundsNow_18 : decode cX1_roundsNow 18 = .ok (.iconst 1, 1) := by decide +kernel
theorem dX1_roundsNow_19 : decode cX1_roundsNow 19 = .ok (.iand, 1) := by decide +kernel
theorem dX1_roundsNow_20 : decode cX1_roundsNow 20 = .ok (.ifCond .ne 7, 3) := by decide +kernel
theorem dX1_roundsNow_23 : decode cX1_roundsNow 23 = .ok (.iconst 1, 1) := by decide +kernel
theorem dX1_roundsNow_24 : decode cX1_roundsNow 24 = .ok (.goto 4, 3) := by decide +kernel
theorem dX1_roundsNow_27 : decode cX1_roundsNow 27 = .ok (.iconst 0, 1) := by decide +kernel
theorem dX1_roundsNow_28 : decode cX1_roundsNow 28 = .ok (.iadd, 1) := by decide +kernel
theorem dX1_roundsNow_29 : decode cX1_roundsNow 29 = .ok (.istore_n 1, 1) := by decide +kernel
theorem dX1_roundsNow_30 : decode cX1_roundsNow 30 = .ok (.iload_n 3, 1) := by decide +kernel
theorem dX1_roundsNow_31 : decode cX1_roundsNow 31 = .ok (.istore 4, 2) := by decide +kernel
theorem dX1_roundsNow_33 : decode cX1_roundsNow 33 = .ok (.iload_n 2, 1) := by decide +kernel
theorem dX1_roundsNow_34 : decode cX1_roundsNow 34 = .ok (.iload 4, 2) := by decide +kernel
theorem dX1_roundsNow_36 : decode cX1_roundsNow 36 = .ok (.ishr, 1) := by decide +kernel
theorem dX1_roundsNow_37 : decode cX1_roundsNow 37 = .ok (.iconst 1, 1) := by decide +kernel
theorem dX1_roundsNow_38 : decode cX1_roundsNow 38 = .ok (.iand, 1) := by decide +kernel
theorem dX1_roundsNow_39 : decode cX1_roundsNow 39 = .ok (.ifCond .ne 22, 3) := by decide +kernel
theorem dX1_roundsNow_42 : decode cX1_roundsNow 42 = .ok (.iload_n 2, 1) := by decide +kernel
theorem dX1_roundsNow_43 : decode cX1_roundsNow 43 = .ok (.iconst 1, 1) := by decide +kernel
theorem dX1_roundsNow_44 : decode cX1_roundsNow 44 = .ok (.iload 4, 2) := by decide +kernel
theorem dX1_roundsNow_46 : decode cX1_roundsNow 46 = .ok (.ishl, 1) := by decide +kernel
theorem dX1_roundsNow_47 : decode cX1_roundsNow 47 = .ok (.ior, 1) := by decide +kernel
theorem dX1_roundsNow_48 : decode cX1_roundsNow 48 = .ok (.istore_n 2, 1) := by decide +kernel
theorem dX1_roundsNow_49 : decode cX1_roundsNow 49 = .ok (.aload_n 0, 1) := by decide +kernel
theorem dX1_roundsNow_50 : decode cX1_roundsNow 50 = .ok (.getfield 23, 3) := by decide +kernel
theorem dX1_roundsNow_53 : decode cX1_roundsNow 53 = .ok (.iload 4, 2) := by decide +kernel
theorem dX1_roundsNow_55 : decode cX1_roundsNow 55 = .ok (.iaload, 1) := by decide +kernel
theorem dX1_roundsNow_56 : decode cX1_roundsNow 56 = .ok (.istore 4, 2) := by decide +kernel
theorem dX1_roundsNow_58 : decode cX1_roundsNow 58 = .ok (.goto (-25), 3) := by decide +kernel
theorem dX1_roundsNow_61 : decode cX1_roundsNow 61 = .ok (.iinc 3 1, 3) := by decide +kernel
theorem dX1_roundsNow_64 : decode cX1_roundsNow 64 = .ok (.goto (-58), 3) := by decide +kernel
theorem dX1_roundsNow_67 : decode cX1_roundsNow 67 = .ok (.iload_n 1, 1) := by decide +kernel
theorem dX1_roundsNow_68 : decode cX1_roundsNow 68 = .ok (.ireturn, 1) := by decide +kernel
abbrev rm_X1_roundsNow : Room := { frames := 0, cells := 0, slots := 0, locals := 0 }
set_option maxHeartbeats 4000000 in
set_option maxRecDepth 100000 in
theorem c_X1_roundsNow (N : Nat) (l : Launch) (dC : Nat → ClassId) (dI : Nat → Nat → Nat) (cy : ClassId) (h q2 q3 q6 q7 q10 : Nat) (sz : Nat) (c0 : Int32) (c1 : Int32) (c2 : Nat → Int32) (c3 : Nat → Int32) (c4 : Int32) (c5 : Int32) (c6 : Nat → Int32) (c7 : Nat → Int32) (c8 : Int32) (c9 : Int32) (c10 : Nat → Int32) (res : Int32) (hf : f_X1_roundsNow N c0 c6 = some res) : Met l yX1_roundsNow wsX1_roundsNow rm_X1_roundsNow (va_Pc [.ref h] (fun U => U.heap.size = sz ∧ va_P (dC, dI) vwCl (wX1 cy h q2 q3 q6 q7 q10 c0 c1 c2 c3 c4 c5 c6 c7 c8 c9 c10) U.heap ∧ va_K (dC, dI) vwCl [(cy, .int)] U ∧ va_D (fun _ => True) (wX1 cy h q2 q3 q6 q7 q10 c0 c1 c2 c3 c4 c5 c6 c7 c8 c9 c10))) (z_qI dC dI cy res (wX1 cy h q2 q3 q6 q7 q10 c0 c1 c2 c3 c4 c5 c6 c7 c8 c9 c10) (va_A (wX1 cy h q2 q3 q6 q7 q10 c0 c1 c2 c3 c4 c5 c6 c7 c8 c9 c10) sz)) 0 0 (va_A (wX1 cy h q2 q3 q6 q7 q10 c0 c1 c2 c3 c4 c5 c6 c7 c8 c9 c10) sz) := by
  refine Met.ofW (cc := cX1_roundsNow) (maxL := 5) (ret := (some .int)) (by decide) rfl ?_
  intro p e s m args below meth c s₁ B hml hv
  obtain ⟨rfl, hsz, hP, hK, hD0⟩ := hv
  have hx := B.exec
  have hb := B.bytes
  have hr := B.returns
  have hts := atoms_spec (ws := wsX1_roundsNow) B.pre
  have hown : s.vm.findClass RX1 = some m.cls := findClass_of_methodNamed B.named
  have hlocks := B.notSynchronized
  subst hsz
  have hD := hD0.self (sz := s.heap.size)
  generalize hAe : va_A (wX1 cy h q2 q3 q6 q7 q10 c0 c1 c2 c3 c4 c5 c6 c7 c8 c9 c10) s.heap.size = A at hD ⊢
  have hA : ∀ q : Nat, s.heap.size ≤ q → A q := fun q h => by rw [← hAe]; exact Or.inr h
  have hS : va_S A s.heap s.heap [] := va_S.rf
  have hP : va_P (dC, dI) vwCl (wX1 cy h q2 q3 q6 q7 q10 c0 c1 c2 c3 c4 c5 c6 c7 c8 c9 c10) s.heap := hP
  have hl := lv_entry ([.ref h]) (n := 5) (Nat.le_of_ble_eq_true rfl)
  rw [lg_entry_eq]
  generalize (lg_sl ([.ref h]) ++ List.replicate (5 - (lg_sl ([.ref h])).length) Slot.unset).toArray = ls at hl ⊢
  have hl : lv_has ls 5 [(0, .ref h)] := hl
  have B33 : ∀ (r6 : Int32 → Int32 → Int32 → Option (Int32)), (∀ (x1 x2 x3 : Int32) (H : Heap) (locs : List Loc) (ls : Array Slot), r6 x1 x2 x3 = some res → va_P (dC, dI) vwCl (wX1 cy h q2 q3 q6 q7 q10 c0 c1 c2 c3 c4 c5 c6 c7 c8 c9 c10) H → va_D A (wX1 cy h q2 q3 q6 q7 q10 c0 c1 c2 c3 c4 c5 c6 c7 c8 c9 c10) → va_S A s.heap H locs → lv_has ls 5 [(0, .ref h), (1, .int x1), (2, .int x2), (3, .int x3)] → W p l e rm_X1_roundsNow s m ([.ref h] : List Value).toArray below meth c H locs 0 0 (MQ below (z_qI dC dI cy res (wX1 cy h q2 q3 q6 q7 q10 c0 c1 c2 c3 c4 c5 c6 c7 c8 c9 c10) A) ([.ref h] : List Value).toArray s 0 0 A) (F0 m 6 ls [])) → ∀ n : Nat, ∀ (x1 x2 x3 x4 : Int32) (H : Heap) (locs : List Loc) (ls : Array Slot), f_X1_roundsNow_b33 N c0 c6 r6 n x1 x2 x3 x4 = some res → va_P (dC, dI) vwCl (wX1 cy h q2 q3 q6 q7 q10 c0 c1 c2 c3 c4 c5 c6 c7 c8 c9 c10) H → va_D A (wX1 cy h q2 q3 q6 q7 q10 c0 c1 c2 c3 c4 c5 c6 c7 c8 c9 c10) → va_S A s.heap H locs → lv_has ls 5 [(0, .ref h), (1, .int x1), (2, .int x2), (3, .int x3), (4, .int x4)] → W p l e rm_X1_roundsNow s m ([.ref h] : List Value).toArray below meth c H locs 0 0 (MQ below (z_qI dC dI cy res (wX1 cy h q2 q3 q6 q7 q10 c0 c1 c2 c3 c4 c5 c6 c7 c8 c9 c10) A) ([.ref h] : List Value).toArray s 0 0 A) (F0 m 33 ls []) := by
    clear hf hl hP hD hS
    intro r6 hr6
    intro n
    induction n with
    | zero =>
      intro x1 x2 x3 x4 H locs ls hf hP hD hS hl
      rw [f_X1_roundsNow_b33] at hf
      cases hf
    | succ n ih =>
      intro x1 x2 x3 x4 H locs ls hf hP hD hS hl
      rw [f_X1_roundsNow_b33] at hf
      refine lv_iload_n hx hb dX1_roundsNow_33 rfl (lv_at hl 2 rfl) ?_
      refine lv_iload hx hb dX1_roundsNow_34 (lv_at hl 4 rfl) ?_
      refine lv_ishr hx hb dX1_roundsNow_36 ?_
      refine lv_iconst (v := (1 : Int32)) hx hb dX1_roundsNow_37 (by decide) ?_
      refine lv_iand hx hb dX1_roundsNow_38 ?_
      refine lv_if_ne (tgt := 61) hx hb dX1_roundsNow_39 (by decide) (fun c_39 => ?_) (fun c_39 => ?_)
      · replace hf := (if_neg c_39).symm.trans hf
        refine lv_iinc (v := x3 + (1 : Int32)) (lv' := [(3, .int (x3 + (1 : Int32))), (0, .ref h), (1, .int x1), (2, .int x2), (4, .int x4)]) hx hb dX1_roundsNow_61 hl (k := 3) rfl rfl (by decide) rfl (fun ls hl => ?_)
        refine lv_goto (tgt := 6) hx hb dX1_roundsNow_64 (by decide) ?_
        exact hr6 x1 x2 (x3 + (1 : Int32)) _ _ _ hf hP hD hS (lv_sub hl [1, 2, 3, 0] rfl)
      · replace hf := (if_pos c_39).symm.trans hf
        refine lv_iload_n hx hb dX1_roundsNow_42 rfl (lv_at hl 2 rfl) ?_
        refine lv_iconst (v := (1 : Int32)) hx hb dX1_roundsNow_43 (by decide) ?_
        refine lv_iload hx hb dX1_roundsNow_44 (lv_at hl 4 rfl) ?_
        refine lv_ishl hx hb dX1_roundsNow_46 ?_
        refine lv_ior hx hb dX1_roundsNow_47 ?_
        refine lv_istore_n (lv' := [(2, .int (x2 ||| ((1 : Int32) <<< (x4 &&& 31)))), (0, .ref h), (1, .int x1), (3, .int x3), (4, .int x4)]) hx hb dX1_roundsNow_48 rfl hl (by decide) rfl (fun ls hl => ?_)
        refine lv_aload_n hx hb dX1_roundsNow_49 rfl (lv_at hl 1 rfl) ?_
        refine va_get (D := (dC, dI)) (ci := 1) (v := .ref q6) (C := RX1) (T := TX1) (N := 11) hx hb hts (by decide +kernel) hown hK hP 0 rfl rfl 6 (by decide) (hts (.fieldLink RX1 23 "GiftLotsModel" "gives" "[I") (by decide +kernel)) (fun _ h9 => h9) rfl dX1_roundsNow_50 ?_
        refine lv_iload hx hb dX1_roundsNow_53 (lv_at hl 4 rfl) ?_
        obtain ⟨hi55, hf⟩ := z_gx_some hf
        refine va_iald hx hb hK hP 3 0 rfl rfl hi55 dX1_roundsNow_55 ?_
        refine lv_istore (lv' := [(4, .int (c6 (x4).toNatClampNeg)), (2, .int (x2 ||| ((1 : Int32) <<< (x4 &&& 31)))), (0, .ref h), (1, .int x1), (3, .int x3)]) hx hb dX1_roundsNow_56 hl (by decide) rfl (fun ls hl => ?_)
        refine lv_goto (tgt := 33) hx hb dX1_roundsNow_58 (by decide) ?_
        exact ih x1 (x2 ||| ((1 : Int32) <<< (x4 &&& 31))) x3 (c6 (x4).toNatClampNeg) _ _ _ hf hP hD hS (lv_sub hl [2, 3, 1, 4, 0] rfl)
  have B28 : ∀ (r6 : Int32 → Int32 → Int32 → Option (Int32)), (∀ (x1 x2 x3 : Int32) (H : Heap) (locs : List Loc) (ls : Array Slot), r6 x1 x2 x3 = some res → va_P (dC, dI) vwCl (wX1 cy h q2 q3 q6 q7 q10 c0 c1 c2 c3 c4 c5 c6 c7 c8 c9 c10) H → va_D A (wX1 cy h q2 q3 q6 q7 q10 c0 c1 c2 c3 c4 c5 c6 c7 c8 c9 c10) → va_S A s.heap H locs → lv_has ls 5 [(0, .ref h), (1, .int x1), (2, .int x2), (3, .int x3)] → W p l e rm_X1_roundsNow s m ([.ref h] : List Value).toArray below meth c H locs 0 0 (MQ below (z_qI dC dI cy res (wX1 cy h q2 q3 q6 q7 q10 c0 c1 c2 c3 c4 c5 c6 c7 c8 c9 c10) A) ([.ref h] : List Value).toArray s 0 0 A) (F0 m 6 ls [])) → ∀ (x2 x3 t0 t1 : Int32) (H : Heap) (locs : List Loc) (ls : Array Slot), f_X1_roundsNow_b28 N c0 c6 r6 x2 x3 t0 t1 = some res → va_P (dC, dI) vwCl (wX1 cy h q2 q3 q6 q7 q10 c0 c1 c2 c3 c4 c5 c6 c7 c8 c9 c10) H → va_D A (wX1 cy h q2 q3 q6 q7 q10 c0 c1 c2 c3 c4 c5 c6 c7 c8 c9 c10) → va_S A s.heap H locs → lv_has ls 5 [(0, .ref h), (2, .int x2), (3, .int x3)] → W p l e rm_X1_roundsNow s m ([.ref h] : List Value).toArray below meth c H locs 0 0 (MQ below (z_qI dC dI cy res (wX1 cy h q2 q3 q6 q7 q10 c0 c1 c2 c3 c4 c5 c6 c7 c8 c9 c10) A) ([.ref h] : List Value).toArray s 0 0 A) (F0 m 28 ls [.int t1, .int t0]) := by
    clear hf hl hP hD hS
    intro r6 hr6
    intro x2 x3 t0 t1 H locs ls hf hP hD hS hl
    unfold f_X1_roundsNow_b28 at hf
    refine lv_iadd hx hb dX1_roundsNow_28 ?_
    refine lv_istore_n (lv' := [(1, .int (t0 + t1)), (0, .ref h), (2, .int x2), (3, .int x3)]) hx hb dX1_roundsNow_29 rfl hl (by decide) rfl (fun ls hl => ?_)
    refine lv_iload_n hx hb dX1_roundsNow_30 rfl (lv_at hl 3 rfl) ?_
    refine lv_istore (lv' := [(4, .int x3), (1, .int (t0 + t1)), (0, .ref h), (2, .int x2), (3, .int x3)]) hx hb dX1_roundsNow_31 hl (by decide) rfl (fun ls hl => ?_)
    exact B33 r6 hr6 N (t0 + t1) x2 x3 x3 _ _ _ hf hP hD hS (lv_sub hl [2, 1, 3, 4, 0] rfl)
  have B6 : ∀ n : Nat, ∀ (x1 x2 x3 : Int32) (H : Heap) (locs : List Loc) (ls : Array Slot), f_X1_roundsNow_b6 N c0 c6 n x1 x2 x3 = some res → va_P (dC, dI) vwCl (wX1 cy h q2 q3 q6 q7 q10 c0 c1 c2 c3 c4 c5 c6 c7 c8 c9 c10) H → va_D A (wX1 cy h q2 q3 q6 q7 q10 c0 c1 c2 c3 c4 c5 c6 c7 c8 c9 c10) → va_S A s.heap H locs → lv_has ls 5 [(0, .ref h), (1, .int x1), (2, .int x2), (3, .int x3)] → W p l e rm_X1_roundsNow s m ([.ref h] : List Value).toArray below meth c H locs 0 0 (MQ below (z_qI dC dI cy res (wX1 cy h q2 q3 q6 q7 q10 c0 c1 c2 c3 c4 c5 c6 c7 c8 c9 c10) A) ([.ref h] : List Value).toArray s 0 0 A) (F0 m 6 ls []) := by
    clear hf hl hP hD hS
    intro n
    induction n with
    | zero =>
      intro x1 x2 x3 H locs ls hf hP hD hS hl
      rw [f_X1_roundsNow_b6] at hf
      cases hf
    | succ n ih =>
      intro x1 x2 x3 H locs ls hf hP hD hS hl
      rw [f_X1_roundsNow_b6] at hf
      refine lv_iload_n hx hb dX1_roundsNow_6 rfl (lv_at hl 3 rfl) ?_
      refine lv_aload_n hx hb dX1_roundsNow_7 rfl (lv_at hl 0 rfl) ?_
      refine va_get (D := (dC, dI)) (ci := 1) (v := .int c0) (C := RX1) (T := TX1) (N := 11) hx hb hts (by decide +kernel) hown hK hP 0 rfl rfl 0 (by decide) (hts (.fieldLink RX1 7 "GiftLotsModel" "ones" "I") (by decide +kernel)) (fun _ h9 => h9) rfl dX1_roundsNow_8 ?_
      refine lv_icmp_ge (tgt := 67) hx hb dX1_roundsNow_11 (by decide) (fun c_11 => ?_) (fun c_11 => ?_)
      · replace hf := (if_pos c_11).symm.trans hf
        refine lv_iload_n hx hb dX1_roundsNow_67 rfl (lv_at hl 1 rfl) ?_
        have hres := Option.some.inj hf
        subst hres
        have hP9 := hP.sub (ws' := (wX1 cy h q2 q3 q6 q7 q10 c0 c1 c2 c3 c4 c5 c6 c7 c8 c9 c10)) [0, 1, 2, 3, 4, 5] rfl
        have hD9 := hD.sub (ws' := (wX1 cy h q2 q3 q6 q7 q10 c0 c1 c2 c3 c4 c5 c6 c7 c8 c9 c10)) [0, 1, 2, 3, 4, 5] (by decide) rfl
        have hK9 := hK.sub (tys' := [(cy, .int)]) [0] rfl
        exact W.iret (v := x1) hx hb hr (fun t ht hW => ⟨⟨x1, (), rfl, rfl, by rw [ht]; exact hP9, va_K.moved hW.alike hK9, hD9⟩, hS.F ht⟩) hS.2.2 dX1_roundsNow_68
      · replace hf := (if_neg c_11).symm.trans hf
        refine lv_iload_n hx hb dX1_roundsNow_14 rfl (lv_at hl 1 rfl) ?_
        refine lv_iload_n hx hb dX1_roundsNow_15 rfl (lv_at hl 2 rfl) ?_
        refine lv_iload_n hx hb dX1_roundsNow_16 rfl (lv_at hl 3 rfl) ?_
        refine lv_ishr hx hb dX1_roundsNow_17 ?_
        refine lv_iconst (v := (1 : Int32)) hx hb dX1_roundsNow_18 (by decide) ?_
        refine lv_iand hx hb dX1_roundsNow_19 ?_
        refine lv_if_ne (tgt := 27) hx hb dX1_roundsNow_20 (by decide) (fun c_20 => ?_) (fun c_20 => ?_)
        · replace hf := (if_neg c_20).symm.trans hf
          refine lv_iconst (v := (0 : Int32)) hx hb dX1_roundsNow_27 (by decide) ?_
          exact B28 (f_X1_roundsNow_b6 N c0 c6 n) ih x2 x3 x1 (0 : Int32) _ _ _ hf hP hD hS (lv_sub hl [0, 2, 3] rfl)
        · replace hf := (if_pos c_20).symm.trans hf
          refine lv_iconst (v := (1 : Int32)) hx hb dX1_roundsNow_23 (by decide) ?_
          refine lv_goto (tgt := 28) hx hb dX1_roundsNow_24 (by decide) ?_
          exact B28 (f_X1_roundsNow_b6 N c0 c6 n) ih x2 x3 x1 (1 : Int32) _ _ _ hf hP hD hS (lv_sub hl [0, 2, 3] rfl)
  unfold f_X1_roundsNow at hf
  refine lv_iconst (v := (0 : Int32)) hx hb dX1_roundsNow_0 (by decide) ?_
  refine lv_istore_n (lv' := [(1, .int (0 : Int32)), (0, .ref h)]) hx hb dX1_roundsNow_1 rfl hl (by decide) rfl (fun ls hl => ?_)
  refine lv_iconst (v := (0 : Int32)) hx hb dX1_roundsNow_2 (by decide) ?_
  refine lv_istore_n (lv' := [(2, .int (0 : Int32)), (1, .int (0 : Int32)), (0, .ref h)]) hx hb dX1_roundsNow_3 rfl hl (by decide) rfl (fun ls hl => ?_)
  refine lv_iconst (v := (0 : Int32)) hx hb dX1_roundsNow_4 (by decide) ?_
  refine lv_istore_n (lv' := [(3, .int (0 : Int32)), (2, .int (0 : Int32)), (1, .int (0 : Int32)), (0, .ref h)]) hx hb dX1_roundsNow_5 rfl hl (by decide) rfl (fun ls hl => ?_)
  exact B6 N (0 : Int32) (0 : Int32) (0 : Int32) _ _ _ hf hP hD hS (lv_sub hl [3, 2, 1, 0] rfl)

