theorem dX0_everyone_0 : decode cX0_everyone 0 = .ok (.iconst 1, 1) := by decide +kernel
theorem dX0_everyone_1 : decode cX0_everyone 1 = .ok (.aload_n 0, 1) := by decide +kernel
theorem dX0_everyone_2 : decode cX0_everyone 2 = .ok (.getfield 38, 3) := by decide +kernel
theorem dX0_everyone_5 : decode cX0_everyone 5 = .ok (.ishl, 1) := by decide +kernel
theorem dX0_everyone_6 : decode cX0_everyone 6 = .ok (.iconst 1, 1) := by decide +kernel
theorem dX0_everyone_7 : decode cX0_everyone 7 = .ok (.isub, 1) := by decide +kernel
theorem dX0_everyone_8 : decode cX0_everyone 8 = .ok (.ireturn, 1) := by decide +kernel
abbrev rm_X0_everyone : Room := { frames := 0, cells := 0, slots := 0, locals := 0 }
set_option maxHeartbeats 4000000 in
set_option maxRecDepth 100000 in
theorem c_X0_everyone (N : Nat) (l : Launch) (dC : Nat → ClassId) (dI : Nat → Nat → Nat) (cy : ClassId) (h q2 q3 q4 q5 q6 q7 q8 q9 : Nat) (sz : Nat) (c0 : Int32) (c1 : Int32) (c2 : Nat → Int32) (c3 : Nat → Int32) (c4 : Nat → Int32) (c5 : Nat → Int32) (c6 : Nat → Int32) (c7 : Nat → Int32) (c8 : Nat → Int32) (c9 : Nat → Int32) (c10 : Int32) (c11 : Int32) (res : Int32) (hf : f_X0_everyone N c0 = some res) : Met l yX0_everyone wsX0_everyone rm_X0_everyone (va_Pc [.ref h] (fun U => U.heap.size = sz ∧ va_P (dC, dI) vwCl (wX0 cy h q2 q3 q4 q5 q6 q7 q8 q9 c0 c1 c2 c3 c4 c5 c6 c7 c8 c9 c10 c11) U.heap ∧ va_K (dC, dI) vwCl [(cy, .int)] U ∧ va_D (fun _ => True) (wX0 cy h q2 q3 q4 q5 q6 q7 q8 q9 c0 c1 c2 c3 c4 c5 c6 c7 c8 c9 c10 c11))) (z_qI dC dI cy res (wX0 cy h q2 q3 q4 q5 q6 q7 q8 q9 c0 c1 c2 c3 c4 c5 c6 c7 c8 c9 c10 c11) (va_A (wX0 cy h q2 q3 q4 q5 q6 q7 q8 q9 c0 c1 c2 c3 c4 c5 c6 c7 c8 c9 c10 c11) sz)) 0 0 (va_A (wX0 cy h q2 q3 q4 q5 q6 q7 q8 q9 c0 c1 c2 c3 c4 c5 c6 c7 c8 c9 c10 c11) sz) := by
  refine Met.ofW (cc := cX0_everyone) (maxL := 1) (ret := (some .int)) (by decide) rfl ?_
  intro p e s m args below meth c s₁ B hml hv
  obtain ⟨rfl, hsz, hP, hK, hD0⟩ := hv
  have hx := B.exec
  have hb := B.bytes
  have hr := B.returns
  have hts := atoms_spec (ws := wsX0_everyone) B.pre
  have hown : s.vm.findClass RX0 = some m.cls := findClass_of_methodNamed B.named
  have hlocks := B.notSynchronized
  subst hsz
  have hD := hD0.self (sz := s.heap.size)
  generalize hAe : va_A (wX0 cy h q2 q3 q4 q5 q6 q7 q8 q9 c0 c1 c2 c3 c4 c5 c6 c7 c8 c9 c10 c11) s.heap.size = A at hD ⊢
  have hA : ∀ q : Nat, s.heap.size ≤ q → A q := fun q h => by rw [← hAe]; exact Or.inr h
  have hS : va_S A s.heap s.heap [] := va_S.rf
  have hP : va_P (dC, dI) vwCl (wX0 cy h q2 q3 q4 q5 q6 q7 q8 q9 c0 c1 c2 c3 c4 c5 c6 c7 c8 c9 c10 c11) s.heap := hP
  have hl := lv_entry ([.ref h]) (n := 1) (Nat.le_of_ble_eq_true rfl)
  rw [lg_entry_eq]
  generalize (lg_sl ([.ref h]) ++ List.replicate (1 - (lg_sl ([.ref h])).length) Slot.unset).toArray = ls at hl ⊢
  have hl : lv_has ls 1 [(0, .ref h)] := hl
  unfold f_X0_everyone at hf
  refine lv_iconst (v := (1 : Int32)) hx hb dX0_everyone_0 (by decide) ?_
  refine lv_aload_n hx hb dX0_everyone_1 rfl (lv_at hl 0 rfl) ?_
  refine va_get (D := (dC, dI)) (ci := 0) (v := .int c0) (C := RX0) (T := TX0) (N := 12) hx hb hts (by decide +kernel) hown hK hP 0 rfl rfl 0 (by decide) (hts (.fieldLink RX0 38 "GiftLots" "count" "I") (by decide +kernel)) (fun _ h9 => h9) rfl dX0_everyone_2 ?_
  refine lv_ishl hx hb dX0_everyone_5 ?_
  refine lv_iconst (v := (1 : Int32)) hx hb dX0_everyone_6 (by decide) ?_
  refine lv_isub hx hb dX0_everyone_7 ?_
  have hres := Option.some.inj hf
  subst hres
  have hP9 := hP.sub (ws' := (wX0 cy h q2 q3 q4 q5 q6 q7 q8 q9 c0 c1 c2 c3 c4 c5 c6 c7 c8 c9 c10 c11)) [0, 1, 2, 3, 4, 5, 6, 7, 8] rfl
  have hD9 := hD.sub (ws' := (wX0 cy h q2 q3 q4 q5 q6 q7 q8 q9 c0 c1 c2 c3 c4 c5 c6 c7 c8 c9 c10 c11)) [0, 1, 2, 3, 4, 5, 6, 7, 8] (by decide) rfl
  have hK9 := hK.sub (tys' := [(cy, .int)]) [0] rfl
  exact W.iret (v := ((1 : Int32) <<< (c0 &&& 31)) - (1 : Int32)) hx hb hr (fun t ht hW => ⟨⟨((1 : Int32) <<< (c0 &&& 31)) - (1 : Int32), (), rfl, rfl, by rw [ht]; exact hP9, va_K.moved hW.alike hK9, hD9⟩, hS.F ht⟩) hS.2.2 dX0_everyone_8

theorem dX0_bit_0 : decode cX0_bit 0 = .ok (.iload_n 0, 1) := by decide +kernel
theorem dX0_bit_1 : decode cX0_bit 1 = .ok (.ifCond .lt 15, 3) := by decide +kernel
theorem dX0_bit_4 : decode cX0_bit 4 = .ok (.iload_n 0, 1) := by decide +kernel
theorem dX0_bit_5 : decode cX0_bit 5 = .ok (.bipush 8, 2) := by decide +kernel
theorem dX0_bit_7 : decode cX0_bit 7 = .ok (.if_icmp .ge 9, 3) := by decide +kernel
theorem dX0_bit_10 : decode cX0_bit 10 = .ok (.iconst 1, 1) := by decide +kernel
theorem dX0_bit_11 : decode cX0_bit 11 = .ok (.iload_n 0, 1) := by decide +kernel
theorem dX0_bit_12 : decode cX0_bit 12 = .ok (.ishl, 1) := by decide +kernel
theorem dX0_bit_13 : decode cX0_bit 13 = .ok (.goto 4, 3) := by decide +kernel
theorem dX0_bit_16 : decode cX0_bit 16 = .ok (.iconst 0, 1) := by decide +kernel
theorem dX0_bit_17 : decode cX0_bit 17 = .ok (.ireturn, 1) := by decide +kernel
abbrev rm_X0_bit : Room := { frames := 0, cells := 0, slots := 0, locals := 0 }
set_option maxHeartbeats 4000000 in
set_option maxRecDepth 100000 in
theorem c_X0_bit (N : Nat) (l : Launch) (dC : Nat → ClassId) (dI : Nat → Nat → Nat) (cy : ClassId) (sz : Nat) (a0 : Int32) (res : Int32) (hf : f_X0_bit N a0 = some res) : Met l yX0_bit wsX0_bit rm_X0_bit (va_Pc [.int a0] (fun U => U.heap.size = sz ∧ va_P (dC, dI) vwCl ([] : va_W) U.heap ∧ va_K (dC, dI) vwCl [(cy, .int)] U ∧ va_D (fun _ => True) ([] : va_W))) (z_qI dC dI cy res ([] : va_W) (va_A ([] : va_W) sz)) 0 0 (va_A ([] : va_W) sz) := by
  refine Met.ofW (cc := cX0_bit) (maxL := 1) (ret := (some .int)) (by decide) rfl ?_
  intro p e s m args below meth c s₁ B hml hv
  obtain ⟨rfl, hsz, hP, hK, hD0⟩ := hv
  have hx := B.exec
  have hb := B.bytes
  have hr := B.returns
  have hts := atoms_spec (ws := wsX0_bit) B.pre
  have hown : s.vm.findClass RX0 = some m.cls := findClass_of_methodNamed B.named
  have hlocks := B.notSynchronized
  subst hsz
  have hD := hD0.self (sz := s.heap.size)
  generalize hAe : va_A ([] : va_W) s.heap.size = A at hD ⊢
  have hA : ∀ q : Nat, s.heap.size ≤ q → A q := fun q h => by rw [← hAe]; exact Or.inr h
  have hS : va_S A s.heap s.heap [] := va_S.rf
  have hP : va_P (dC, dI) vwCl ([] : va_W) s.heap := hP
  have hl := lv_entry ([.int a0]) (n := 1) (Nat.le_of_ble_eq_true rfl)
  rw [lg_entry_eq]
  generalize (lg_sl ([.int a0]) ++ List.replicate (1 - (lg_sl ([.int a0])).length) Slot.unset).toArray = ls at hl ⊢
  have hl : lv_has ls 1 [(0, .int a0)] := hl
  unfold f_X0_bit at hf
  refine lv_iload_n hx hb dX0_bit_0 rfl (lv_at hl 0 rfl) ?_
  refine lv_if_lt (tgt := 16) hx hb dX0_bit_1 (by decide) (fun c_1 => ?_) (fun c_1 => ?_)
  · replace hf := (if_pos c_1).symm.trans hf
    refine lv_iconst (v := (0 : Int32)) hx hb dX0_bit_16 (by decide) ?_
    have hres := Option.some.inj hf
    subst hres
    have hP9 := hP.sub (ws' := ([] : va_W)) [] rfl
    have hD9 := hD.sub (ws' := ([] : va_W)) [] (by decide) rfl
    have hK9 := hK.sub (tys' := [(cy, .int)]) [0] rfl
    exact W.iret (v := (0 : Int32)) hx hb hr (fun t ht hW => ⟨⟨(0 : Int32), (), rfl, rfl, by rw [ht]; exact hP9, va_K.moved hW.alike hK9, hD9⟩, hS.F ht⟩) hS.2.2 dX0_bit_17
  · replace hf := (if_neg c_1).symm.trans hf
    refine lv_iload_n hx hb dX0_bit_4 rfl (lv_at hl 0 rfl) ?_
    refine lv_bipush (v := (8 : Int32)) hx hb dX0_bit_5 (by decide) ?_
    refine lv_icmp_ge (tgt := 16) hx hb dX0_bit_7 (by decide) (fun c_7 => ?_) (fun c_7 => ?_)
    · replace hf := (if_pos c_7).symm.trans hf
      refine lv_iconst (v := (0 : Int32)) hx hb dX0_bit_16 (by decide) ?_
      have hres := Option.some.inj hf
      subst hres
      have hP9 := hP.sub (ws' := ([] : va_W)) [] rfl
      have hD9 := hD.sub (ws' := ([] : va_W)) [] (by decide) rfl
      have hK9 := hK.sub (tys' := [(cy, .int)]) [0] rfl
      exact W.iret (v := (0 : Int32)) hx hb hr (fun t ht hW => ⟨⟨(0 : Int32), (), rfl, rfl, by rw [ht]; exact hP9, va_K.moved hW.alike hK9, hD9⟩, hS.F ht⟩) hS.2.2 dX0_bit_17
    · replace hf := (if_neg c_7).symm.trans hf
      refine lv_iconst (v := (1 : Int32)) hx hb dX0_bit_10 (by decide) ?_
      refine lv_iload_n hx hb dX0_bit_11 rfl (lv_at hl 0 rfl) ?_
      refine lv_ishl hx hb dX0_bit_12 ?_
      refine lv_goto (tgt := 17) hx hb dX0_bit_13 (by decide) ?_
      have hres := Option.some.inj hf
      subst hres
      have hP9 := hP.sub (ws' := ([] : va_W)) [] rfl
      have hD9 := hD.sub (ws' := ([] : va_W)) [] (by decide) rfl
      have hK9 := hK.sub (tys' := [(cy, .int)]) [0] rfl
      exact W.iret (v := (1 : Int32) <<< (a0 &&& 31)) hx hb hr (fun t ht hW => ⟨⟨(1 : Int32) <<< (a0 &&& 31), (), rfl, rfl, by rw [ht]; exact hP9, va_K.moved hW.alike hK9, hD9⟩, hS.F ht⟩) hS.2.2 dX0_bit_17

set_option maxRecDepth 20000 in
theorem ggX0_begin_X0_everyone : GoodIn wsX0_begin wsX0_everyone := goodIn_r _ [9, 1, 13, 14, 15, 16, 17, 18, 19, 20, 21, 22, 23, 24] (by decide +kernel) (by decide +kernel)
set_option maxRecDepth 20000 in
theorem gX0_begin_X0_everyone : GoodIn wsX0_begin (wsV RX0 85 RX0 yX0_everyone wsX0_everyone) := goodIn_app (goodIn_of _ (by decide +kernel)) ggX0_begin_X0_everyone
set_option maxRecDepth 20000 in
theorem ggX0_begin_X0_bit : GoodIn wsX0_begin wsX0_bit := goodIn_r _ [12] (by decide +kernel) (by decide +kernel)
set_option maxRecDepth 20000 in
theorem gX0_begin_X0_bit : GoodIn wsX0_begin (va_wsS RX0 50 yX0_bit wsX0_bit) := goodIn_app (goodIn_of _ (by decide +kernel)) ggX0_begin_X0_bit
theorem dX0_begin_0 : decode cX0_begin 0 = .ok (.aload_n 0, 1) := by decide +kernel
theorem dX0_begin_1 : decode cX0_begin 1 = .ok (.iload_n 1, 1) := by decide +kernel
theorem dX0_begin_2 : decode cX0_begin 2 = .ok (.putfield 38, 3) := by decide +kernel
theorem dX0_begin_5 : decode cX0_begin 5 = .ok (.aload_n 0, 1) := by decide +kernel
theorem dX0_begin_6 : decode cX0_begin 6 = .ok (.iconst 2, 1) := by decide +kernel
theorem dX0_begin_7 : decode cX0_begin 7 = .ok (.putfield 57, 3) := by decide +kernel
theorem dX0_begin_10 : decode cX0_begin 10 = .ok (.iconst 0, 1) := by decide +kernel
theorem dX0_begin_11 : decode cX0_begin 11 = .ok (.istore_n 2, 1) := by decide +kernel
theorem dX0_begin_12 : decode cX0_begin 12 = .ok (.iload_n 2, 1) := by decide +kernel
theorem dX0_begin_13 : decode cX0_begin 13 = .ok (.bipush 8, 2) := by decide +kernel
theorem dX0_begin_15 : decode cX0_begin 15 = .ok (.if_icmp .ge 43, 3) := by decide +kernel
theorem dX0_begin_18 : decode cX0_begin 18 = .ok (.aload_n 0, 1) := by decide +kernel
theorem dX0_begin_19 : decode cX0_begin 19 = .ok (.getfield 9, 3) := by decide +kernel
theorem dX0_begin_22 : decode cX0_begin 22 = .ok (.iload_n 2, 1) := by decide +kernel
theorem dX0_begin_23 : decode cX0_begin 23 = .ok (.iload_n 2, 1) := by decide +kernel
theorem dX0_begin_24 : decode cX0_begin 24 = .ok (.iload_n 1, 1) := by decide +kernel
theorem dX0_begin_25 : decode cX0_begin 25 = .ok (.if_icmp .ge 17, 3) := by decide +kernel
theorem dX0_begin_28 : decode cX0_begin 28 = .ok (.aload_n 0, 1) := by decide +kernel
theorem dX0_begin_29 : decode cX0_begin 29 = .ok (.invokevirtual 85, 3) := by decide +kernel
theorem dX0_begin_32 : decode cX0_begin 32 = .ok (.iload_n 2, 1) := by decide +kernel
theorem dX0_begin_33 : decode cX0_begin 33 = .ok (.invokestatic 50, 3) := by decide +kernel
theorem dX0_begin_36 : decode cX0_begin 36 = .ok (.iconst (-1), 1) := by decide +kernel
theorem dX0_begin_37 : decode cX0_begin 37 = .ok (.ixor, 1) := by decide +kernel
theorem dX0_begin_38 : decode cX0_begin 38 = .ok (.iand, 1) := by decide +kernel
theorem dX0_begin_39 : decode cX0_begin 39 = .ok (.goto 4, 3) := by decide +kernel
theorem dX0_begin_42 : decode cX0_begin 42 = .ok (.iconst 0, 1) := by decide +kernel
theorem dX0_begin_43 : decode cX0_begin 43 = .ok (.iastore, 1) := by decide +kernel
theorem dX0_begin_44 : decode cX0_begin 44 = .ok (.aload_n 0, 1) := by decide +kernel
theorem dX0_begin_45 : decode cX0_begin 45 = .ok (.getfield 13, 3) := by decide +kernel
theorem dX0_begin_48 : decode cX0_begin 48 = .ok (.iload_n 2, 1) := by decide +kernel
theorem dX0_begin_49 : decode cX0_begin 49 = .ok (.bipush (-6), 2) := by decide +kernel
theorem dX0_begin_51 : decode cX0_begin 51 = .ok (.iastore, 1) := by decide +kernel
theorem dX0_begin_52 : decode cX0_begin 52 = .ok (.iinc 2 1, 3) := by decide +kernel
theorem dX0_begin_55 : decode cX0_begin 55 = .ok (.goto (-43), 3) := by decide +kernel
theorem dX0_begin_58 : decode cX0_begin 58 = .ok (.return_, 1) := by decide +kernel
abbrev rm_X0_begin : Room := { frames := 1, cells := 0, slots := 0, locals := 20 }
set_option maxHeartbeats 4000000 in
set_option maxRecDepth 100000 in
theorem c_X0_begin (N : Nat) (l : Launch) (dC : Nat → ClassId) (dI : Nat → Nat → Nat) (cy : ClassId) (h q2 q3 q4 q5 q6 q7 q8 q9 : Nat) (sz : Nat) (c0 : Int32) (c1 : Int32) (c2 : Nat → Int32) (c3 : Nat → Int32) (c4 : Nat → Int32) (c5 : Nat → Int32) (c6 : Nat → Int32) (c7 : Nat → Int32) (c8 : Nat → Int32) (c9 : Nat → Int32) (c10 : Int32) (c11 : Int32) (a1 : Int32) (res : Int32 × Int32 × (Nat → Int32) × (Nat → Int32)) (hf : f_X0_begin N a1 c0 c1 c2 c3 = some res) : Met l yX0_begin wsX0_begin rm_X0_begin (va_Pc [.ref h, .int a1] (fun U => U.heap.size = sz ∧ va_P (dC, dI) vwCl (wX0 cy h q2 q3 q4 q5 q6 q7 q8 q9 c0 c1 c2 c3 c4 c5 c6 c7 c8 c9 c10 c11) U.heap ∧ va_K (dC, dI) vwCl [(cy, .int)] U ∧ va_D (fun _ => True) (wX0 cy h q2 q3 q4 q5 q6 q7 q8 q9 c0 c1 c2 c3 c4 c5 c6 c7 c8 c9 c10 c11))) (z_qV dC dI cy (wX0 cy h q2 q3 q4 q5 q6 q7 q8 q9 res.1 res.2.1 res.2.2.1 res.2.2.2 c4 c5 c6 c7 c8 c9 c10 c11) (va_A (wX0 cy h q2 q3 q4 q5 q6 q7 q8 q9 c0 c1 c2 c3 c4 c5 c6 c7 c8 c9 c10 c11) sz)) 0 0 (va_A (wX0 cy h q2 q3 q4 q5 q6 q7 q8 q9 c0 c1 c2 c3 c4 c5 c6 c7 c8 c9 c10 c11) sz) := by
  refine Met.ofW (cc := cX0_begin) (maxL := 3) (ret := none) (by decide) rfl ?_
  intro p e s m args below meth c s₁ B hml hv
  obtain ⟨rfl, hsz, hP, hK, hD0⟩ := hv
  have hx := B.exec
  have hb := B.bytes
  have hr := B.returns
  have hts := atoms_spec (ws := wsX0_begin) B.pre
  have hown : s.vm.findClass RX0 = some m.cls := findClass_of_methodNamed B.named
  have hlocks := B.notSynchronized
  subst hsz
  have hD := hD0.self (sz := s.heap.size)
  generalize hAe : va_A (wX0 cy h q2 q3 q4 q5 q6 q7 q8 q9 c0 c1 c2 c3 c4 c5 c6 c7 c8 c9 c10 c11) s.heap.size = A at hD ⊢
  have hA : ∀ q : Nat, s.heap.size ≤ q → A q := fun q h => by rw [← hAe]; exact Or.inr h
  have hS : va_S A s.heap s.heap [] := va_S.rf
  have hP : va_P (dC, dI) vwCl (wX0 cy h q2 q3 q4 q5 q6 q7 q8 q9 c0 c1 c2 c3 c4 c5 c6 c7 c8 c9 c10 c11) s.heap := hP
  have hl := lv_entry ([.ref h, .int a1]) (n := 3) (Nat.le_of_ble_eq_true rfl)
  rw [lg_entry_eq]
  generalize (lg_sl ([.ref h, .int a1]) ++ List.replicate (3 - (lg_sl ([.ref h, .int a1])).length) Slot.unset).toArray = ls at hl ⊢
  have hl : lv_has ls 3 [(0, .ref h), (1, .int a1)] := hl
  have B43 : ∀ (r12 : Int32 → Int32 → Int32 → Int32 → (Nat → Int32) → (Nat → Int32) → Option (Int32 × Int32 × (Nat → Int32) × (Nat → Int32))), (∀ (x1 x2 : Int32) (c0 : Int32) (c1 : Int32) (c2 : Nat → Int32) (c3 : Nat → Int32) (H : Heap) (locs : List Loc) (ls : Array Slot), r12 x1 x2 c0 c1 c2 c3 = some res → va_P (dC, dI) vwCl (wX0 cy h q2 q3 q4 q5 q6 q7 q8 q9 c0 c1 c2 c3 c4 c5 c6 c7 c8 c9 c10 c11) H → va_D A (wX0 cy h q2 q3 q4 q5 q6 q7 q8 q9 c0 c1 c2 c3 c4 c5 c6 c7 c8 c9 c10 c11) → va_S A s.heap H locs → lv_has ls 3 [(0, .ref h), (1, .int x1), (2, .int x2)] → W p l e rm_X0_begin s m ([.ref h, .int a1] : List Value).toArray below meth c H locs 0 0 (MQ below (z_qV dC dI cy (wX0 cy h q2 q3 q4 q5 q6 q7 q8 q9 res.1 res.2.1 res.2.2.1 res.2.2.2 c4 c5 c6 c7 c8 c9 c10 c11) A) ([.ref h, .int a1] : List Value).toArray s 0 0 A) (F0 m 12 ls [])) → ∀ (x1 x2 t1 t2 : Int32) (c0 : Int32) (c1 : Int32) (c2 : Nat → Int32) (c3 : Nat → Int32) (H : Heap) (locs : List Loc) (ls : Array Slot), f_X0_begin_b43 N r12 x1 x2 t1 t2 c0 c1 c2 c3 = some res → va_P (dC, dI) vwCl (wX0 cy h q2 q3 q4 q5 q6 q7 q8 q9 c0 c1 c2 c3 c4 c5 c6 c7 c8 c9 c10 c11) H → va_D A (wX0 cy h q2 q3 q4 q5 q6 q7 q8 q9 c0 c1 c2 c3 c4 c5 c6 c7 c8 c9 c10 c11) → va_S A s.heap H locs → lv_has ls 3 [(0, .ref h), (1, .int x1), (2, .int x2)] → W p l e rm_X0_begin s m ([.ref h, .int a1] : List Value).toArray below meth c H locs 0 0 (MQ below (z_qV dC dI cy (wX0 cy h q2 q3 q4 q5 q6 q7 q8 q9 res.1 res.2.1 res.2.2.1 res.2.2.2 c4 c5 c6 c7 c8 c9 c10 c11) A) ([.ref h, .int a1] : List Value).toArray s 0 0 A) (F0 m 43 ls [.int t2, .int t1, .ref q2]) := by
    clear hf hl hP hD hS
    intro r12 hr12
    intro x1 x2 t1 t2 c0 c1 c2 c3 H locs ls hf hP hD hS hl
    unfold f_X0_begin_b43 at hf
    obtain ⟨hi43, hf⟩ := z_gx_some hf
    refine va_iast hx hb hK hP hD hS 1 0 rfl rfl hi43 dX0_begin_43 (fun H locs hP hD hS => ?_)
    have hP : va_P (dC, dI) vwCl (wX0 cy h q2 q3 q4 q5 q6 q7 q8 q9 c0 c1 (upd c2 (t1).toNatClampNeg t2) c3 c4 c5 c6 c7 c8 c9 c10 c11) H := hP
    have hD : va_D A (wX0 cy h q2 q3 q4 q5 q6 q7 q8 q9 c0 c1 (upd c2 (t1).toNatClampNeg t2) c3 c4 c5 c6 c7 c8 c9 c10 c11) := hD
    refine lv_aload_n hx hb dX0_begin_44 rfl (lv_at hl 0 rfl) ?_
    refine va_get (D := (dC, dI)) (ci := 0) (v := .ref q3) (C := RX0) (T := TX0) (N := 12) hx hb hts (by decide +kernel) hown hK hP 0 rfl rfl 3 (by decide) (hts (.fieldLink RX0 13 "GiftLots" "hand" "[I") (by decide +kernel)) (fun _ h9 => h9) rfl dX0_begin_45 ?_
    refine lv_iload_n hx hb dX0_begin_48 rfl (lv_at hl 2 rfl) ?_
    refine lv_bipush (v := (-6 : Int32)) hx hb dX0_begin_49 (by decide) ?_
    obtain ⟨hi51, hf⟩ := z_gx_some hf
    refine va_iast hx hb hK hP hD hS 2 0 rfl rfl hi51 dX0_begin_51 (fun H locs hP hD hS => ?_)
    have hP : va_P (dC, dI) vwCl (wX0 cy h q2 q3 q4 q5 q6 q7 q8 q9 c0 c1 (upd c2 (t1).toNatClampNeg t2) (upd c3 (x2).toNatClampNeg (-6 : Int32)) c4 c5 c6 c7 c8 c9 c10 c11) H := hP
    have hD : va_D A (wX0 cy h q2 q3 q4 q5 q6 q7 q8 q9 c0 c1 (upd c2 (t1).toNatClampNeg t2) (upd c3 (x2).toNatClampNeg (-6 : Int32)) c4 c5 c6 c7 c8 c9 c10 c11) := hD
    refine lv_iinc (v := x2 + (1 : Int32)) (lv' := [(2, .int (x2 + (1 : Int32))), (0, .ref h), (1, .int x1)]) hx hb dX0_begin_52 hl (k := 2) rfl rfl (by decide) rfl (fun ls hl => ?_)
    refine lv_goto (tgt := 12) hx hb dX0_begin_55 (by decide) ?_
    exact hr12 x1 (x2 + (1 : Int32)) c0 c1 (upd c2 (t1).toNatClampNeg t2) (upd c3 (x2).toNatClampNeg (-6 : Int32)) _ _ _ hf hP hD hS (lv_sub hl [1, 2, 0] rfl)
  have B12 : ∀ n : Nat, ∀ (x1 x2 : Int32) (c0 : Int32) (c1 : Int32) (c2 : Nat → Int32) (c3 : Nat → Int32) (H : Heap) (locs : List Loc) (ls : Array Slot), f_X0_begin_b12 N n x1 x2 c0 c1 c2 c3 = some res → va_P (dC, dI) vwCl (wX0 cy h q2 q3 q4 q5 q6 q7 q8 q9 c0 c1 c2 c3 c4 c5 c6 c7 c8 c9 c10 c11) H → va_D A (wX0 cy h q2 q3 q4 q5 q6 q7 q8 q9 c0 c1 c2 c3 c4 c5 c6 c7 c8 c9 c10 c11) → va_S A s.heap H locs → lv_has ls 3 [(0, .ref h), (1, .int x1), (2, .int x2)] → W p l e rm_X0_begin s m ([.ref h, .int a1] : List Value).toArray below meth c H locs 0 0 (MQ below (z_qV dC dI cy (wX0 cy h q2 q3 q4 q5 q6 q7 q8 q9 res.1 res.2.1 res.2.2.1 res.2.2.2 c4 c5 c6 c7 c8 c9 c10 c11) A) ([.ref h, .int a1] : List Value).toArray s 0 0 A) (F0 m 12 ls []) := by
    clear hf hl hP hD hS
    intro n
    induction n with
    | zero =>
      intro x1 x2 c0 c1 c2 c3 H locs ls hf hP hD hS hl
      rw [f_X0_begin_b12] at hf
      cases hf
    | succ n ih =>
      intro x1 x2 c0 c1 c2 c3 H locs ls hf hP hD hS hl
      rw [f_X0_begin_b12] at hf
      refine lv_iload_n hx hb dX0_begin_12 rfl (lv_at hl 2 rfl) ?_
      refine lv_bipush (v := (8 : Int32)) hx hb dX0_begin_13 (by decide) ?_
      refine lv_icmp_ge (tgt := 58) hx hb dX0_begin_15 (by decide) (fun c_15 => ?_) (fun c_15 => ?_)
      · replace hf := (if_pos c_15).symm.trans hf
        have hres := Option.some.inj hf
        subst hres
        have hP9 := hP.sub (ws' := (wX0 cy h q2 q3 q4 q5 q6 q7 q8 q9 c0 c1 c2 c3 c4 c5 c6 c7 c8 c9 c10 c11)) [0, 1, 2, 3, 4, 5, 6, 7, 8] rfl
        have hD9 := hD.sub (ws' := (wX0 cy h q2 q3 q4 q5 q6 q7 q8 q9 c0 c1 c2 c3 c4 c5 c6 c7 c8 c9 c10 c11)) [0, 1, 2, 3, 4, 5, 6, 7, 8] (by decide) rfl
        have hK9 := hK.sub (tys' := [(cy, .int)]) [0] rfl
        exact W.vret hx hb hr (fun t ht hW => ⟨⟨(), rfl, trivial, by rw [ht]; exact hP9, va_K.moved hW.alike hK9, hD9⟩, hS.F ht⟩) hS.2.2 dX0_begin_58
      · replace hf := (if_neg c_15).symm.trans hf
        refine lv_aload_n hx hb dX0_begin_18 rfl (lv_at hl 0 rfl) ?_
        refine va_get (D := (dC, dI)) (ci := 0) (v := .ref q2) (C := RX0) (T := TX0) (N := 12) hx hb hts (by decide +kernel) hown hK hP 0 rfl rfl 2 (by decide) (hts (.fieldLink RX0 9 "GiftLots" "board" "[I") (by decide +kernel)) (fun _ h9 => h9) rfl dX0_begin_19 ?_
        refine lv_iload_n hx hb dX0_begin_22 rfl (lv_at hl 2 rfl) ?_
        refine lv_iload_n hx hb dX0_begin_23 rfl (lv_at hl 2 rfl) ?_
        refine lv_iload_n hx hb dX0_begin_24 rfl (lv_at hl 1 rfl) ?_
        refine lv_icmp_ge (tgt := 42) hx hb dX0_begin_25 (by decide) (fun c_25 => ?_) (fun c_25 => ?_)
        · replace hf := (if_pos c_25).symm.trans hf
          refine lv_iconst (v := (0 : Int32)) hx hb dX0_begin_42 (by decide) ?_
          exact B43 (f_X0_begin_b12 N n) ih x1 x2 x2 (0 : Int32) c0 c1 c2 c3 _ _ _ hf hP hD hS (lv_sub hl [0, 1, 2] rfl)
        · replace hf := (if_neg c_25).symm.trans hf
          refine lv_aload_n hx hb dX0_begin_28 rfl (lv_at hl 0 rfl) ?_
          obtain ⟨u29, hu29, hf⟩ := z_ob_some hf
          have hPc := hP.sub (ws' := (wX0 cy h q2 q3 q4 q5 q6 q7 q8 q9 c0 c1 c2 c3 c4 c5 c6 c7 c8 c9 c10 c11)) [0, 1, 2, 3, 4, 5, 6, 7, 8] rfl
          have hDc := hD.sub (ws' := (wX0 cy h q2 q3 q4 q5 q6 q7 q8 q9 c0 c1 c2 c3 c4 c5 c6 c7 c8 c9 c10 c11)) [0, 1, 2, 3, 4, 5, 6, 7, 8] (by decide) rfl
          have hKc := hK.sub (tys' := [(cy, .int)]) [0] rfl
          have hFc := va_free (wc := (wX0 cy h q2 q3 q4 q5 q6 q7 q8 q9 c0 c1 c2 c3 c4 c5 c6 c7 c8 c9 c10 c11)) hD hS hA [0, 1, 2, 3, 4, 5, 6, 7, 8] rfl
          refine va_calli (va_runV (As := []) (rest := [.int x2, .ref q2]) ⟨hx, hb, hml, hown, hts⟩ (c_X0_everyone N l dC dI cy h q2 q3 q4 q5 q6 q7 q8 q9 H.size c0 c1 c2 c3 c4 c5 c6 c7 c8 c9 c10 c11 u29 hu29) (cwV 0 hts gX0_begin_X0_everyone rfl rfl rfl (by decide +kernel) ⟨Nat.le_of_ble_eq_true rfl, Nat.le_of_ble_eq_true rfl⟩) ⟨fun a U g mk q => by obtain ⟨q0, q1, qP, qK, qD⟩ := q; exact ⟨q0, q1, qP, va_K.moved (u := U) (U := U.calling g mk a) (Vm.Alike.refl U.vm) qK, qD⟩, va_recv hKc hPc (ci := 0) (q0 := 0) rfl rfl, fun U hU hW => ⟨rfl, by rw [hU], by rw [hU]; exact hPc, va_K.moved hW.alike hKc, hDc.weaken (fun _ _ _ _ => trivial)⟩⟩ rfl rfl hl.1 rfl (lv_room (Nat.le_of_ble_eq_true rfl)) dX0_begin_29 ⟨Nat.zero_le _, Nat.zero_le _⟩) hS (fun q _ h => hFc q h) hFc (fun r_29 uu_ t H1 locs ht hvm hw hB hz1 hk1 hS => ?_)
          replace hw := hw.symm
          subst hw
          obtain ⟨hP1, -, hD1⟩ := hB
          rw [ht] at hP1
          obtain ⟨hP, hD⟩ := va_join (wr := []) (w1 := (wX0 cy h q2 q3 q4 q5 q6 q7 q8 q9 c0 c1 c2 c3 c4 c5 c6 c7 c8 c9 c10 c11)) hP hD [0, 1, 2, 3, 4, 5, 6, 7, 8] [] rfl rfl (by decide) (by decide) hk1 hFc hP1 hD1
          clear hk1 hz1 hP1 hD1 ht hPc hDc hFc
          generalize H1 = H at hP hS ⊢
          have hP : va_P (dC, dI) vwCl (wX0 cy h q2 q3 q4 q5 q6 q7 q8 q9 c0 c1 c2 c3 c4 c5 c6 c7 c8 c9 c10 c11) H := hP
          have hD : va_D A (wX0 cy h q2 q3 q4 q5 q6 q7 q8 q9 c0 c1 c2 c3 c4 c5 c6 c7 c8 c9 c10 c11) := hD
          refine lv_iload_n hx hb dX0_begin_32 rfl (lv_at hl 2 rfl) ?_
          obtain ⟨u33, hu33, hf⟩ := z_ob_some hf
          have hPc := hP.sub (ws' := ([] : va_W)) [] rfl
          have hDc := hD.sub (ws' := ([] : va_W)) [] (by decide) rfl
          have hKc := hK.sub (tys' := [(cy, .int)]) [0] rfl
          have hFc := va_free (wc := ([] : va_W)) hD hS hA [] rfl
          refine va_calli (va_runS (As := [.int x2]) (rest := [.int u29, .int x2, .ref q2]) ⟨hx, hb, hml, hown, hts⟩ (c_X0_bit N l dC dI cy H.size x2 u33 hu33) (va_cwS 1 hts gX0_begin_X0_bit rfl rfl rfl (by decide +kernel) ⟨Nat.le_of_ble_eq_true rfl, Nat.le_of_ble_eq_true rfl⟩) ⟨fun a U g mk q => by obtain ⟨q0, q1, qP, qK, qD⟩ := q; exact ⟨q0, q1, qP, va_K.moved (u := U) (U := U.calling g mk a) (Vm.Alike.refl U.vm) qK, qD⟩, fun U hU hW => ⟨rfl, by rw [hU], by rw [hU]; exact hPc, va_K.moved hW.alike hKc, hDc.weaken (fun _ _ _ _ => trivial)⟩⟩ rfl rfl hl.1 rfl (lv_room (Nat.le_of_ble_eq_true rfl)) dX0_begin_33 ⟨Nat.zero_le _, Nat.zero_le _⟩) hS (fun q _ h => hFc q h) hFc (fun r_33 uu_ t H1 locs ht hvm hw hB hz1 hk1 hS => ?_)
          replace hw := hw.symm
          subst hw
          obtain ⟨hP1, -, hD1⟩ := hB
          rw [ht] at hP1
          obtain ⟨hP, hD⟩ := va_join (wr := (wX0 cy h q2 q3 q4 q5 q6 q7 q8 q9 c0 c1 c2 c3 c4 c5 c6 c7 c8 c9 c10 c11)) (w1 := ([] : va_W)) hP hD [] [0, 1, 2, 3, 4, 5, 6, 7, 8] rfl rfl (by decide) (by decide) hk1 hFc hP1 hD1
          clear hk1 hz1 hP1 hD1 ht hPc hDc hFc
          generalize H1 = H at hP hS ⊢
          have hP : va_P (dC, dI) vwCl (wX0 cy h q2 q3 q4 q5 q6 q7 q8 q9 c0 c1 c2 c3 c4 c5 c6 c7 c8 c9 c10 c11) H := hP
          have hD : va_D A (wX0 cy h q2 q3 q4 q5 q6 q7 q8 q9 c0 c1 c2 c3 c4 c5 c6 c7 c8 c9 c10 c11) := hD
          refine lv_iconst (v := (-1 : Int32)) hx hb dX0_begin_36 (by decide) ?_
          refine lv_ixor hx hb dX0_begin_37 ?_
          refine lv_iand hx hb dX0_begin_38 ?_
          refine lv_goto (tgt := 43) hx hb dX0_begin_39 (by decide) ?_
          exact B43 (f_X0_begin_b12 N n) ih x1 x2 x2 (u29 &&& (u33 ^^^ (-1 : Int32))) c0 c1 c2 c3 _ _ _ hf hP hD hS (lv_sub hl [0, 1, 2] rfl)
  unfold f_X0_begin at hf
  refine lv_aload_n hx hb dX0_begin_0 rfl (lv_at hl 0 rfl) ?_
  refine lv_iload_n hx hb dX0_begin_1 rfl (lv_at hl 1 rfl) ?_
  refine va_put (D := (dC, dI)) (ci := 0) (v := .int a1) (ty := .int) (C := RX0) (T := TX0) (N := 12) hx hb hts (by decide +kernel) tyX0 tyX0_ok nmX0 hown hK hP hD hS 0 rfl rfl 0 (by decide) (hts (.fieldLink RX0 38 "GiftLots" "count" "I") (by decide +kernel)) (fun _ h9 => h9) rfl (by decide +kernel) rfl rfl (Nat.le_of_ble_eq_true rfl) dX0_begin_2 (fun H locs hP hD hS => ?_)
  have hP : va_P (dC, dI) vwCl (wX0 cy h q2 q3 q4 q5 q6 q7 q8 q9 a1 c1 c2 c3 c4 c5 c6 c7 c8 c9 c10 c11) H := hP
  have hD : va_D A (wX0 cy h q2 q3 q4 q5 q6 q7 q8 q9 a1 c1 c2 c3 c4 c5 c6 c7 c8 c9 c10 c11) := hD
  refine lv_aload_n hx hb dX0_begin_5 rfl (lv_at hl 0 rfl) ?_
  refine lv_iconst (v := (2 : Int32)) hx hb dX0_begin_6 (by decide) ?_
  refine va_put (D := (dC, dI)) (ci := 0) (v := .int (2 : Int32)) (ty := .int) (C := RX0) (T := TX0) (N := 12) hx hb hts (by decide +kernel) tyX0 tyX0_ok nmX0 hown hK hP hD hS 0 rfl rfl 1 (by decide) (hts (.fieldLink RX0 57 "GiftLots" "shortest" "I") (by decide +kernel)) (fun _ h9 => h9) rfl (by decide +kernel) rfl rfl (Nat.le_of_ble_eq_true rfl) dX0_begin_7 (fun H locs hP hD hS => ?_)
  have hP : va_P (dC, dI) vwCl (wX0 cy h q2 q3 q4 q5 q6 q7 q8 q9 a1 (2 : Int32) c2 c3 c4 c5 c6 c7 c8 c9 c10 c11) H := hP
  have hD : va_D A (wX0 cy h q2 q3 q4 q5 q6 q7 q8 q9 a1 (2 : Int32) c2 c3 c4 c5 c6 c7 c8 c9 c10 c11) := hD
  refine lv_iconst (v := (0 : Int32)) hx hb dX0_begin_10 (by decide) ?_
  refine lv_istore_n (lv' := [(2, .int (0 : Int32)), (0, .ref h), (1, .int a1)]) hx hb dX0_begin_11 rfl hl (by decide) rfl (fun ls hl => ?_)
  exact B12 N a1 (0 : Int32) a1 (2 : Int32) c2 c3 _ _ _ hf hP hD hS (lv_sub hl [1, 2, 0] rfl)

set_option maxRecDepth 20000 in
theorem ggX0_ones_X0_begin : GoodIn wsX0_ones wsX0_begin := goodIn_r _ [6, 1, 7, 8, 9, 10, 11, 12, 5, 13, 14, 15, 16, 17, 18, 19, 20, 21, 22, 23, 24, 25, 26, 27, 28] (by decide +kernel) (by decide +kernel)
set_option maxRecDepth 20000 in
theorem gX0_ones_X0_begin : GoodIn wsX0_ones (wsV RX0 34 RX0 yX0_begin wsX0_begin) := goodIn_app (goodIn_of _ (by decide +kernel)) ggX0_ones_X0_begin
theorem dX0_ones_0 : decode cX0_ones 0 = .ok (.iload_n 1, 1) := by decide +kernel
theorem dX0_ones_1 : decode cX0_ones 1 = .ok (.iconst 2, 1) := by decide +kernel
theorem dX0_ones_2 : decode cX0_ones 2 = .ok (.if_icmp .lt 9, 3) := by decide +kernel
theorem dX0_ones_5 : decode cX0_ones 5 = .ok (.iload_n 1, 1) := by decide +kernel
theorem dX0_ones_6 : decode cX0_ones 6 = .ok (.bipush 8, 2) := by decide +kernel
theorem dX0_ones_8 : decode cX0_ones 8 = .ok (.if_icmp .le 6, 3) := by decide +kernel
theorem dX0_ones_11 : decode cX0_ones 11 = .ok (.bipush (-2), 2) := by decide +kernel
theorem dX0_ones_13 : decode cX0_ones 13 = .ok (.ireturn, 1) := by decide +kernel
theorem dX0_ones_14 : decode cX0_ones 14 = .ok (.aload_n 0, 1) := by decide +kernel
theorem dX0_ones_15 : decode cX0_ones 15 = .ok (.getfield 38, 3) := by decide +kernel
theorem dX0_ones_18 : decode cX0_ones 18 = .ok (.istore_n 2, 1) := by decide +kernel
theorem dX0_ones_19 : decode cX0_ones 19 = .ok (.aload_n 0, 1) := by decide +kernel
theorem dX0_ones_20 : decode cX0_ones 20 = .ok (.iload_n 1, 1) := by decide +kernel
theorem dX0_ones_21 : decode cX0_ones 21 = .ok (.invokevirtual 34, 3) := by decide +kernel
theorem dX0_ones_24 : decode cX0_ones 24 = .ok (.iload_n 2, 1) := by decide +kernel
theorem dX0_ones_25 : decode cX0_ones 25 = .ok (.ireturn, 1) := by decide +kernel
abbrev rm_X0_ones : Room := { frames := 2, cells := 0, slots := 0, locals := 42 }
set_option maxHeartbeats 4000000 in
set_option maxRecDepth 100000 in
theorem c_X0_ones (N : Nat) (l : Launch) (dC : Nat → ClassId) (dI : Nat → Nat → Nat) (cy : ClassId) (h q2 q3 q4 q5 q6 q7 q8 q9 : Nat) (sz : Nat) (c0 : Int32) (c1 : Int32) (c2 : Nat → Int32) (c3 : Nat → Int32) (c4 : Nat → Int32) (c5 : Nat → Int32) (c6 : Nat → Int32) (c7 : Nat → Int32) (c8 : Nat → Int32) (c9 : Nat → Int32) (c10 : Int32) (c11 : Int32) (a1 : Int32) (res : Int32 × Int32 × Int32 × (Nat → Int32) × (Nat → Int32)) (hf : f_X0_ones N a1 c0 c1 c2 c3 = some res) : Met l yX0_ones wsX0_ones rm_X0_ones (va_Pc [.ref h, .int a1] (fun U => U.heap.size = sz ∧ va_P (dC, dI) vwCl (wX0 cy h q2 q3 q4 q5 q6 q7 q8 q9 c0 c1 c2 c3 c4 c5 c6 c7 c8 c9 c10 c11) U.heap ∧ va_K (dC, dI) vwCl [(cy, .int)] U ∧ va_D (fun _ => True) (wX0 cy h q2 q3 q4 q5 q6 q7 q8 q9 c0 c1 c2 c3 c4 c5 c6 c7 c8 c9 c10 c11))) (z_qI dC dI cy res.1 (wX0 cy h q2 q3 q4 q5 q6 q7 q8 q9 res.2.1 res.2.2.1 res.2.2.2.1 res.2.2.2.2 c4 c5 c6 c7 c8 c9 c10 c11) (va_A (wX0 cy h q2 q3 q4 q5 q6 q7 q8 q9 c0 c1 c2 c3 c4 c5 c6 c7 c8 c9 c10 c11) sz)) 0 0 (va_A (wX0 cy h q2 q3 q4 q5 q6 q7 q8 q9 c0 c1 c2 c3 c4 c5 c6 c7 c8 c9 c10 c11) sz) := by
  refine Met.ofW (cc := cX0_ones) (maxL := 3) (ret := (some .int)) (by decide) rfl ?_
  intro p e s m args below meth c s₁ B hml hv
  obtain ⟨rfl, hsz, hP, hK, hD0⟩ := hv
  have hx := B.exec
  have hb := B.bytes
  have hr := B.returns
  have hts := atoms_spec (ws := wsX0_ones) B.pre
  have hown : s.vm.findClass RX0 = some m.cls := findClass_of_methodNamed B.named
  have hlocks := B.notSynchronized
  subst hsz
  have hD := hD0.self (sz := s.heap.size)
  generalize hAe : va_A (wX0 cy h q2 q3 q4 q5 q6 q7 q8 q9 c0 c1 c2 c3 c4 c5 c6 c7 c8 c9 c10 c11) s.heap.size = A at hD ⊢
  have hA : ∀ q : Nat, s.heap.size ≤ q → A q := fun q h => by rw [← hAe]; exact Or.inr h
  have hS : va_S A s.heap s.heap [] := va_S.rf
  have hP : va_P (dC, dI) vwCl (wX0 cy h q2 q3 q4 q5 q6 q7 q8 q9 c0 c1 c2 c3 c4 c5 c6 c7 c8 c9 c10 c11) s.heap := hP
  have hl := lv_entry ([.ref h, .int a1]) (n := 3) (Nat.le_of_ble_eq_true rfl)
  rw [lg_entry_eq]
  generalize (lg_sl ([.ref h, .int a1]) ++ List.replicate (3 - (lg_sl ([.ref h, .int a1])).length) Slot.unset).toArray = ls at hl ⊢
  have hl : lv_has ls 3 [(0, .ref h), (1, .int a1)] := hl
  unfold f_X0_ones at hf
  refine lv_iload_n hx hb dX0_ones_0 rfl (lv_at hl 1 rfl) ?_
  refine lv_iconst (v := (2 : Int32)) hx hb dX0_ones_1 (by decide) ?_
  refine lv_icmp_lt (tgt := 11) hx hb dX0_ones_2 (by decide) (fun c_2 => ?_) (fun c_2 => ?_)
  · replace hf := (if_pos c_2).symm.trans hf
    refine lv_bipush (v := (-2 : Int32)) hx hb dX0_ones_11 (by decide) ?_
    have hres := Option.some.inj hf
    subst hres
    have hP9 := hP.sub (ws' := (wX0 cy h q2 q3 q4 q5 q6 q7 q8 q9 c0 c1 c2 c3 c4 c5 c6 c7 c8 c9 c10 c11)) [0, 1, 2, 3, 4, 5, 6, 7, 8] rfl
    have hD9 := hD.sub (ws' := (wX0 cy h q2 q3 q4 q5 q6 q7 q8 q9 c0 c1 c2 c3 c4 c5 c6 c7 c8 c9 c10 c11)) [0, 1, 2, 3, 4, 5, 6, 7, 8] (by decide) rfl
    have hK9 := hK.sub (tys' := [(cy, .int)]) [0] rfl
    exact W.iret (v := (-2 : Int32)) hx hb hr (fun t ht hW => ⟨⟨(-2 : Int32), (), rfl, rfl, by rw [ht]; exact hP9, va_K.moved hW.alike hK9, hD9⟩, hS.F ht⟩) hS.2.2 dX0_ones_13
  · replace hf := (if_neg c_2).symm.trans hf
    refine lv_iload_n hx hb dX0_ones_5 rfl (lv_at hl 1 rfl) ?_
    refine lv_bipush (v := (8 : Int32)) hx hb dX0_ones_6 (by decide) ?_
    refine lv_icmp_le (tgt := 14) hx hb dX0_ones_8 (by decide) (fun c_8 => ?_) (fun c_8 => ?_)
    · replace hf := (if_pos c_8).symm.trans hf
      refine lv_aload_n hx hb dX0_ones_14 rfl (lv_at hl 0 rfl) ?_
      refine va_get (D := (dC, dI)) (ci := 0) (v := .int c0) (C := RX0) (T := TX0) (N := 12) hx hb hts (by decide +kernel) hown hK hP 0 rfl rfl 0 (by decide) (hts (.fieldLink RX0 38 "GiftLots" "count" "I") (by decide +kernel)) (fun _ h9 => h9) rfl dX0_ones_15 ?_
      refine lv_istore_n (lv' := [(2, .int c0), (0, .ref h), (1, .int a1)]) hx hb dX0_ones_18 rfl hl (by decide) rfl (fun ls hl => ?_)
      refine lv_aload_n hx hb dX0_ones_19 rfl (lv_at hl 1 rfl) ?_
      refine lv_iload_n hx hb dX0_ones_20 rfl (lv_at hl 2 rfl) ?_
      obtain ⟨u21, hu21, hf⟩ := z_ob_some hf
      have hPc := hP.sub (ws' := (wX0 cy h q2 q3 q4 q5 q6 q7 q8 q9 c0 c1 c2 c3 c4 c5 c6 c7 c8 c9 c10 c11)) [0, 1, 2, 3, 4, 5, 6, 7, 8] rfl
      have hDc := hD.sub (ws' := (wX0 cy h q2 q3 q4 q5 q6 q7 q8 q9 c0 c1 c2 c3 c4 c5 c6 c7 c8 c9 c10 c11)) [0, 1, 2, 3, 4, 5, 6, 7, 8] (by decide) rfl
      have hKc := hK.sub (tys' := [(cy, .int)]) [0] rfl
      have hFc := va_free (wc := (wX0 cy h q2 q3 q4 q5 q6 q7 q8 q9 c0 c1 c2 c3 c4 c5 c6 c7 c8 c9 c10 c11)) hD hS hA [0, 1, 2, 3, 4, 5, 6, 7, 8] rfl
      refine va_callv (va_runV (As := [.int a1]) (rest := []) ⟨hx, hb, hml, hown, hts⟩ (c_X0_begin N l dC dI cy h q2 q3 q4 q5 q6 q7 q8 q9 s.heap.size c0 c1 c2 c3 c4 c5 c6 c7 c8 c9 c10 c11 a1 u21 hu21) (cwV 1 hts gX0_ones_X0_begin rfl rfl rfl (by decide +kernel) ⟨Nat.le_of_ble_eq_true rfl, Nat.le_of_ble_eq_true rfl⟩) ⟨fun a U g mk q => by obtain ⟨q0, q1, qP, qK, qD⟩ := q; exact ⟨q0, q1, qP, va_K.moved (u := U) (U := U.calling g mk a) (Vm.Alike.refl U.vm) qK, qD⟩, va_recv hKc hPc (ci := 0) (q0 := 0) rfl rfl, fun U hU hW => ⟨rfl, by rw [hU], by rw [hU]; exact hPc, va_K.moved hW.alike hKc, hDc.weaken (fun _ _ _ _ => trivial)⟩⟩ rfl rfl hl.1 rfl (lv_room (Nat.le_of_ble_eq_true rfl)) dX0_ones_21 ⟨Nat.zero_le _, Nat.zero_le _⟩) hS (fun q _ h => hFc q h) hFc (fun uu_ t H1 locs ht hvm hw hB hz1 hk1 hS => ?_)
      obtain ⟨hP1, -, hD1⟩ := hB
      rw [ht] at hP1
      obtain ⟨hP, hD⟩ := va_join (wr := []) (w1 := (wX0 cy h q2 q3 q4 q5 q6 q7 q8 q9 u21.1 u21.2.1 u21.2.2.1 u21.2.2.2 c4 c5 c6 c7 c8 c9 c10 c11)) hP hD [0, 1, 2, 3, 4, 5, 6, 7, 8] [] rfl rfl (by decide) (by decide) hk1 hFc hP1 hD1
      clear hk1 hz1 hP1 hD1 ht hPc hDc hFc
      generalize H1 = H at hP hS ⊢
      have hP : va_P (dC, dI) vwCl (wX0 cy h q2 q3 q4 q5 q6 q7 q8 q9 u21.1 u21.2.1 u21.2.2.1 u21.2.2.2 c4 c5 c6 c7 c8 c9 c10 c11) H := hP
      have hD : va_D A (wX0 cy h q2 q3 q4 q5 q6 q7 q8 q9 u21.1 u21.2.1 u21.2.2.1 u21.2.2.2 c4 c5 c6 c7 c8 c9 c10 c11) := hD
      refine lv_iload_n hx hb dX0_ones_24 rfl (lv_at hl 0 rfl) ?_
      have hres := Option.some.inj hf
      subst hres
      have hP9 := hP.sub (ws' := (wX0 cy h q2 q3 q4 q5 q6 q7 q8 q9 u21.1 u21.2.1 u21.2.2.1 u21.2.2.2 c4 c5 c6 c7 c8 c9 c10 c11)) [0, 1, 2, 3, 4, 5, 6, 7, 8] rfl
      have hD9 := hD.sub (ws' := (wX0 cy h q2 q3 q4 q5 q6 q7 q8 q9 u21.1 u21.2.1 u21.2.2.1 u21.2.2.2 c4 c5 c6 c7 c8 c9 c10 c11)) [0, 1, 2, 3, 4, 5, 6, 7, 8] (by decide) rfl
      have hK9 := hK.sub (tys' := [(cy, .int)]) [0] rfl
      exact W.iret (v := c0) hx hb hr (fun t ht hW => ⟨⟨c0, (), rfl, rfl, by rw [ht]; exact hP9, va_K.moved hW.alike hK9, hD9⟩, hS.F ht⟩) hS.2.2 dX0_ones_25
    · replace hf := (if_neg c_8).symm.trans hf
      refine lv_bipush (v := (-2 : Int32)) hx hb dX0_ones_11 (by decide) ?_
      have hres := Option.some.inj hf
      subst hres
      have hP9 := hP.sub (ws' := (wX0 cy h q2 q3 q4 q5 q6 q7 q8 q9 c0 c1 c2 c3 c4 c5 c6 c7 c8 c9 c10 c11)) [0, 1, 2, 3, 4, 5, 6, 7, 8] rfl
      have hD9 := hD.sub (ws' := (wX0 cy h q2 q3 q4 q5 q6 q7 q8 q9 c0 c1 c2 c3 c4 c5 c6 c7 c8 c9 c10 c11)) [0, 1, 2, 3, 4, 5, 6, 7, 8] (by decide) rfl
      have hK9 := hK.sub (tys' := [(cy, .int)]) [0] rfl
      exact W.iret (v := (-2 : Int32)) hx hb hr (fun t ht hW => ⟨⟨(-2 : Int32), (), rfl, rfl, by rw [ht]; exact hP9, va_K.moved hW.alike hK9, hD9⟩, hS.F ht⟩) hS.2.2 dX0_ones_13

theorem dX0_isOne_0 : decode cX0_isOne 0 = .ok (.iload_n 1, 1) := by decide +kernel
theorem dX0_isOne_1 : decode cX0_isOne 1 = .ok (.ifCond .lt 15, 3) := by decide +kernel
theorem dX0_isOne_4 : decode cX0_isOne 4 = .ok (.iload_n 1, 1) := by decide +kernel
theorem dX0_isOne_5 : decode cX0_isOne 5 = .ok (.aload_n 0, 1) := by decide +kernel
theorem dX0_isOne_6 : decode cX0_isOne 6 = .ok (.getfield 38, 3) := by decide +kernel
theorem dX0_isOne_9 : decode cX0_isOne 9 = .ok (.if_icmp .ge 7, 3) := by decide +kernel
theorem dX0_isOne_12 : decode cX0_isOne 12 = .ok (.iconst 1, 1) := by decide +kernel
theorem dX0_isOne_13 : decode cX0_isOne 13 = .ok (.goto 4, 3) := by decide +kernel
theorem dX0_isOne_16 : decode cX0_isOne 16 = .ok (.iconst 0, 1) := by decide +kernel
theorem dX0_isOne_17 : decode cX0_isOne 17 = .ok (.ireturn, 1) := by decide +kernel
abbrev rm_X0_isOne : Room := { frames := 0, cells := 0, slots := 0, locals := 0 }
set_option maxHeartbeats 4000000 in
set_option maxRecDepth 100000 in
theorem c_X0_isOne (N : Nat) (l : Launch) (dC : Nat → ClassId) (dI : Nat → Nat → Nat) (cy : ClassId) (h q2 q3 q4 q5 q6 q7 q8 q9 : Nat) (sz : Nat) (c0 : Int32) (c1 : Int32) (c2 : Nat → Int32) (c3 : Nat → Int32) (c4 : Nat → Int32) (c5 : Nat → Int32) (c6 : Nat → Int32) (c7 : Nat → Int32) (c8 : Nat → Int32) (c9 : Nat → Int32) (c10 : Int32) (c11 : Int32) (a1 : Int32) (res : Int32) (hf : f_X0_isOne N a1 c0 = some res) : Met l yX0_isOne wsX0_isOne rm_X0_isOne (va_Pc [.ref h, .int a1] (fun U => U.heap.size = sz ∧ va_P (dC, dI) vwCl (wX0 cy h q2 q3 q4 q5 q6 q7 q8 q9 c0 c1 c2 c3 c4 c5 c6 c7 c8 c9 c10 c11) U.heap ∧ va_K (dC, dI) vwCl [(cy, .int)] U ∧ va_D (fun _ => True) (wX0 cy h q2 q3 q4 q5 q6 q7 q8 q9 c0 c1 c2 c3 c4 c5 c6 c7 c8 c9 c10 c11))) (z_qI dC dI cy res (wX0 cy h q2 q3 q4 q5 q6 q7 q8 q9 c0 c1 c2 c3 c4 c5 c6 c7 c8 c9 c10 c11) (va_A (wX0 cy h q2 q3 q4 q5 q6 q7 q8 q9 c0 c1 c2 c3 c4 c5 c6 c7 c8 c9 c10 c11) sz)) 0 0 (va_A (wX0 cy h q2 q3 q4 q5 q6 q7 q8 q9 c0 c1 c2 c3 c4 c5 c6 c7 c8 c9 c10 c11) sz) := by
  refine Met.ofW (cc := cX0_isOne) (maxL := 2) (ret := (some .boolean)) (by decide) rfl ?_
  intro p e s m args below meth c s₁ B hml hv
  obtain ⟨rfl, hsz, hP, hK, hD0⟩ := hv
  have hx := B.exec
  have hb := B.bytes
  have hr := B.returns
  have hts := atoms_spec (ws := wsX0_isOne) B.pre
  have hown : s.vm.findClass RX0 = some m.cls := findClass_of_methodNamed B.named
  have hlocks := B.notSynchronized
  subst hsz
  have hD := hD0.self (sz := s.heap.size)
  generalize hAe : va_A (wX0 cy h q2 q3 q4 q5 q6 q7 q8 q9 c0 c1 c2 c3 c4 c5 c6 c7 c8 c9 c10 c11) s.heap.size = A at hD ⊢
  have hA : ∀ q : Nat, s.heap.size ≤ q → A q := fun q h => by rw [← hAe]; exact Or.inr h
  have hS : va_S A s.heap s.heap [] := va_S.rf
  have hP : va_P (dC, dI) vwCl (wX0 cy h q2 q3 q4 q5 q6 q7 q8 q9 c0 c1 c2 c3 c4 c5 c6 c7 c8 c9 c10 c11) s.heap := hP
  have hl := lv_entry ([.ref h, .int a1]) (n := 2) (Nat.le_of_ble_eq_true rfl)
  rw [lg_entry_eq]
  generalize (lg_sl ([.ref h, .int a1]) ++ List.replicate (2 - (lg_sl ([.ref h, .int a1])).length) Slot.unset).toArray = ls at hl ⊢
  have hl : lv_has ls 2 [(0, .ref h), (1, .int a1)] := hl
  unfold f_X0_isOne at hf
  refine lv_iload_n hx hb dX0_isOne_0 rfl (lv_at hl 1 rfl) ?_
  refine lv_if_lt (tgt := 16) hx hb dX0_isOne_1 (by decide) (fun c_1 => ?_) (fun c_1 => ?_)
  · replace hf := (if_pos c_1).symm.trans hf
    refine lv_iconst (v := (0 : Int32)) hx hb dX0_isOne_16 (by decide) ?_
    have hres := Option.some.inj hf
    subst hres
    have hP9 := hP.sub (ws' := (wX0 cy h q2 q3 q4 q5 q6 q7 q8 q9 c0 c1 c2 c3 c4 c5 c6 c7 c8 c9 c10 c11)) [0, 1, 2, 3, 4, 5, 6, 7, 8] rfl
    have hD9 := hD.sub (ws' := (wX0 cy h q2 q3 q4 q5 q6 q7 q8 q9 c0 c1 c2 c3 c4 c5 c6 c7 c8 c9 c10 c11)) [0, 1, 2, 3, 4, 5, 6, 7, 8] (by decide) rfl
    have hK9 := hK.sub (tys' := [(cy, .int)]) [0] rfl
    exact W.zret (v := (0 : Int32)) hx hb hr rfl (fun t ht hW => ⟨⟨(0 : Int32), (), rfl, rfl, by rw [ht]; exact hP9, va_K.moved hW.alike hK9, hD9⟩, hS.F ht⟩) hS.2.2 dX0_isOne_17
  · replace hf := (if_neg c_1).symm.trans hf
    refine lv_iload_n hx hb dX0_isOne_4 rfl (lv_at hl 1 rfl) ?_
    refine lv_aload_n hx hb dX0_isOne_5 rfl (lv_at hl 0 rfl) ?_
    refine va_get (D := (dC, dI)) (ci := 0) (v := .int c0) (C := RX0) (T := TX0) (N := 12) hx hb hts (by decide +kernel) hown hK hP 0 rfl rfl 0 (by decide) (hts (.fieldLink RX0 38 "GiftLots" "count" "I") (by decide +kernel)) (fun _ h9 => h9) rfl dX0_isOne_6 ?_
    refine lv_icmp_ge (tgt := 16) hx hb dX0_isOne_9 (by decide) (fun c_9 => ?_) (fun c_9 => ?_)
    · replace hf := (if_pos c_9).symm.trans hf
      refine lv_iconst (v := (0 : Int32)) hx hb dX0_isOne_16 (by decide) ?_
      have hres := Option.some.inj hf
      subst hres
      have hP9 := hP.sub (ws' := (wX0 cy h q2 q3 q4 q5 q6 q7 q8 q9 c0 c1 c2 c3 c4 c5 c6 c7 c8 c9 c10 c11)) [0, 1, 2, 3, 4, 5, 6, 7, 8] rfl
      have hD9 := hD.sub (ws' := (wX0 cy h q2 q3 q4 q5 q6 q7 q8 q9 c0 c1 c2 c3 c4 c5 c6 c7 c8 c9 c10 c11)) [0, 1, 2, 3, 4, 5, 6, 7, 8] (by decide) rfl
      have hK9 := hK.sub (tys' := [(cy, .int)]) [0] rfl
      exact W.zret (v := (0 : Int32)) hx hb hr rfl (fun t ht hW => ⟨⟨(0 : Int32), (), rfl, rfl, by rw [ht]; exact hP9, va_K.moved hW.alike hK9, hD9⟩, hS.F ht⟩) hS.2.2 dX0_isOne_17
    · replace hf := (if_neg c_9).symm.trans hf
      refine lv_iconst (v := (1 : Int32)) hx hb dX0_isOne_12 (by decide) ?_
      refine lv_goto (tgt := 17) hx hb dX0_isOne_13 (by decide) ?_
      have hres := Option.some.inj hf
      subst hres
      have hP9 := hP.sub (ws' := (wX0 cy h q2 q3 q4 q5 q6 q7 q8 q9 c0 c1 c2 c3 c4 c5 c6 c7 c8 c9 c10 c11)) [0, 1, 2, 3, 4, 5, 6, 7, 8] rfl
      have hD9 := hD.sub (ws' := (wX0 cy h q2 q3 q4 q5 q6 q7 q8 q9 c0 c1 c2 c3 c4 c5 c6 c7 c8 c9 c10 c11)) [0, 1, 2, 3, 4, 5, 6, 7, 8] (by decide) rfl
      have hK9 := hK.sub (tys' := [(cy, .int)]) [0] rfl
      exact W.zret (v := (1 : Int32)) hx hb hr rfl (fun t ht hW => ⟨⟨(1 : Int32), (), rfl, rfl, by rw [ht]; exact hP9, va_K.moved hW.alike hK9, hD9⟩, hS.F ht⟩) hS.2.2 dX0_isOne_17

set_option maxRecDepth 20000 in
theorem ggX0_refusePair_X0_isOne : GoodIn wsX0_refusePair wsX0_isOne := goodIn_r _ [5, 6, 7, 8, 9, 10, 11, 12, 13, 14, 15, 16, 17, 18] (by decide +kernel) (by decide +kernel)
set_option maxRecDepth 20000 in
theorem gX0_refusePair_X0_isOne : GoodIn wsX0_refusePair (wsV RX0 66 RX0 yX0_isOne wsX0_isOne) := goodIn_app (goodIn_of _ (by decide +kernel)) ggX0_refusePair_X0_isOne
theorem dX0_refusePair_0 : decode cX0_refusePair 0 = .ok (.aload_n 0, 1) := by decide +kernel
theorem dX0_refusePair_1 : decode cX0_refusePair 1 = .ok (.iload_n 1, 1) := by decide +kernel
theorem dX0_refusePair_2 : decode cX0_refusePair 2 = .ok (.invokevirtual 66, 3) := by decide +kernel
theorem dX0_refusePair_5 : decode cX0_refusePair 5 = .ok (.ifCond .eq 11, 3) := by decide +kernel
theorem dX0_refusePair_8 : decode cX0_refusePair 8 = .ok (.aload_n 0, 1) := by decide +kernel
theorem dX0_refusePair_9 : decode cX0_refusePair 9 = .ok (.iload_n 2, 1) := by decide +kernel
theorem dX0_refusePair_10 : decode cX0_refusePair 10 = .ok (.invokevirtual 66, 3) := by decide +kernel
theorem dX0_refusePair_13 : decode cX0_refusePair 13 = .ok (.ifCond .ne 5, 3) := by decide +kernel
theorem dX0_refusePair_16 : decode cX0_refusePair 16 = .ok (.iconst (-1), 1) := by decide +kernel
theorem dX0_refusePair_17 : decode cX0_refusePair 17 = .ok (.ireturn, 1) := by decide +kernel
theorem dX0_refusePair_18 : decode cX0_refusePair 18 = .ok (.iload_n 1, 1) := by decide +kernel
theorem dX0_refusePair_19 : decode cX0_refusePair 19 = .ok (.iload_n 2, 1) := by decide +kernel
theorem dX0_refusePair_20 : decode cX0_refusePair 20 = .ok (.if_icmp .ne 8, 3) := by decide +kernel
theorem dX0_refusePair_23 : decode cX0_refusePair 23 = .ok (.bipush (-5), 2) := by decide +kernel
theorem dX0_refusePair_25 : decode cX0_refusePair 25 = .ok (.goto 4, 3) := by decide +kernel
theorem dX0_refusePair_28 : decode cX0_refusePair 28 = .ok (.iconst 0, 1) := by decide +kernel
theorem dX0_refusePair_29 : decode cX0_refusePair 29 = .ok (.ireturn, 1) := by decide +kernel
abbrev rm_X0_refusePair : Room := { frames := 1, cells := 0, slots := 0, locals := 21 }
set_option maxHeartbeats 4000000 in
set_option maxRecDepth 100000 in
theorem c_X0_refusePair (N : Nat) (l : Launch) (dC : Nat → ClassId) (dI : Nat → Nat → Nat) (cy : ClassId) (h q2 q3 q4 q5 q6 q7 q8 q9 : Nat) (sz : Nat) (c0 : Int32) (c1 : Int32) (c2 : Nat → Int32) (c3 : Nat → Int32) (c4 : Nat → Int32) (c5 : Nat → Int32) (c6 : Nat → Int32) (c7 : Nat → Int32) (c8 : Nat → Int32) (c9 : Nat → Int32) (c10 : Int32) (c11 : Int32) (a1 a2 : Int32) (res : Int32) (hf : f_X0_refusePair N a1 a2 c0 = some res) : Met l yX0_refusePair wsX0_refusePair rm_X0_refusePair (va_Pc [.ref h, .int a1, .int a2] (fun U => U.heap.size = sz ∧ va_P (dC, dI) vwCl (wX0 cy h q2 q3 q4 q5 q6 q7 q8 q9 c0 c1 c2 c3 c4 c5 c6 c7 c8 c9 c10 c11) U.heap ∧ va_K (dC, dI) vwCl [(cy, .int)] U ∧ va_D (fun _ => True) (wX0 cy h q2 q3 q4 q5 q6 q7 q8 q9 c0 c1 c2 c3 c4 c5 c6 c7 c8 c9 c10 c11))) (z_qI dC dI cy res (wX0 cy h q2 q3 q4 q5 q6 q7 q8 q9 c0 c1 c2 c3 c4 c5 c6 c7 c8 c9 c10 c11) (va_A (wX0 cy h q2 q3 q4 q5 q6 q7 q8 q9 c0 c1 c2 c3 c4 c5 c6 c7 c8 c9 c10 c11) sz)) 0 0 (va_A (wX0 cy h q2 q3 q4 q5 q6 q7 q8 q9 c0 c1 c2 c3 c4 c5 c6 c7 c8 c9 c10 c11) sz) := by
  refine Met.ofW (cc := cX0_refusePair) (maxL := 3) (ret := (some .int)) (by decide) rfl ?_
  intro p e s m args below meth c s₁ B hml hv
  obtain ⟨rfl, hsz, hP, hK, hD0⟩ := hv
  have hx := B.exec
  have hb := B.bytes
  have hr := B.returns
  have hts := atoms_spec (ws := wsX0_refusePair) B.pre
  have hown : s.vm.findClass RX0 = some m.cls := findClass_of_methodNamed B.named
  have hlocks := B.notSynchronized
  subst hsz
  have hD := hD0.self (sz := s.heap.size)
  generalize hAe : va_A (wX0 cy h q2 q3 q4 q5 q6 q7 q8 q9 c0 c1 c2 c3 c4 c5 c6 c7 c8 c9 c10 c11) s.heap.size = A at hD ⊢
  have hA : ∀ q : Nat, s.heap.size ≤ q → A q := fun q h => by rw [← hAe]; exact Or.inr h
  have hS : va_S A s.heap s.heap [] := va_S.rf
  have hP : va_P (dC, dI) vwCl (wX0 cy h q2 q3 q4 q5 q6 q7 q8 q9 c0 c1 c2 c3 c4 c5 c6 c7 c8 c9 c10 c11) s.heap := hP
  have hl := lv_entry ([.ref h, .int a1, .int a2]) (n := 3) (Nat.le_of_ble_eq_true rfl)
  rw [lg_entry_eq]
  generalize (lg_sl ([.ref h, .int a1, .int a2]) ++ List.replicate (3 - (lg_sl ([.ref h, .int a1, .int a2])).length) Slot.unset).toArray = ls at hl ⊢
  have hl : lv_has ls 3 [(0, .ref h), (1, .int a1), (2, .int a2)] := hl
  unfold f_X0_refusePair at hf
  refine lv_aload_n hx hb dX0_refusePair_0 rfl (lv_at hl 0 rfl) ?_
  refine lv_iload_n hx hb dX0_refusePair_1 rfl (lv_at hl 1 rfl) ?_
  obtain ⟨u2, hu2, hf⟩ := z_ob_some hf
  have hPc := hP.sub (ws' := (wX0 cy h q2 q3 q4 q5 q6 q7 q8 q9 c0 c1 c2 c3 c4 c5 c6 c7 c8 c9 c10 c11)) [0, 1, 2, 3, 4, 5, 6, 7, 8] rfl
  have hDc := hD.sub (ws' := (wX0 cy h q2 q3 q4 q5 q6 q7 q8 q9 c0 c1 c2 c3 c4 c5 c6 c7 c8 c9 c10 c11)) [0, 1, 2, 3, 4, 5, 6, 7, 8] (by decide) rfl
  have hKc := hK.sub (tys' := [(cy, .int)]) [0] rfl
  have hFc := va_free (wc := (wX0 cy h q2 q3 q4 q5 q6 q7 q8 q9 c0 c1 c2 c3 c4 c5 c6 c7 c8 c9 c10 c11)) hD hS hA [0, 1, 2, 3, 4, 5, 6, 7, 8] rfl
  refine va_calli (va_runV (As := [.int a1]) (rest := []) ⟨hx, hb, hml, hown, hts⟩ (c_X0_isOne N l dC dI cy h q2 q3 q4 q5 q6 q7 q8 q9 s.heap.size c0 c1 c2 c3 c4 c5 c6 c7 c8 c9 c10 c11 a1 u2 hu2) (cwV 1 hts gX0_refusePair_X0_isOne rfl rfl rfl (by decide +kernel) ⟨Nat.le_of_ble_eq_true rfl, Nat.le_of_ble_eq_true rfl⟩) ⟨fun a U g mk q => by obtain ⟨q0, q1, qP, qK, qD⟩ := q; exact ⟨q0, q1, qP, va_K.moved (u := U) (U := U.calling g mk a) (Vm.Alike.refl U.vm) qK, qD⟩, va_recv hKc hPc (ci := 0) (q0 := 0) rfl rfl, fun U hU hW => ⟨rfl, by rw [hU], by rw [hU]; exact hPc, va_K.moved hW.alike hKc, hDc.weaken (fun _ _ _ _ => trivial)⟩⟩ rfl rfl hl.1 rfl (lv_room (Nat.le_of_ble_eq_true rfl)) dX0_refusePair_2 ⟨Nat.zero_le _, Nat.zero_le _⟩) hS (fun q _ h => hFc q h) hFc (fun r_2 uu_ t H1 locs ht hvm hw hB hz1 hk1 hS => ?_)
  replace hw := hw.symm
  subst hw
  obtain ⟨hP1, -, hD1⟩ := hB
  rw [ht] at hP1
  obtain ⟨hP, hD⟩ := va_join (wr := []) (w1 := (wX0 cy h q2 q3 q4 q5 q6 q7 q8 q9 c0 c1 c2 c3 c4 c5 c6 c7 c8 c9 c10 c11)) hP hD [0, 1, 2, 3, 4, 5, 6, 7, 8] [] rfl rfl (by decide) (by decide) hk1 hFc hP1 hD1
  clear hk1 hz1 hP1 hD1 ht hPc hDc hFc
  generalize H1 = H at hP hS ⊢
  have hP : va_P (dC, dI) vwCl (wX0 cy h q2 q3 q4 q5 q6 q7 q8 q9 c0 c1 c2 c3 c4 c5 c6 c7 c8 c9 c10 c11) H := hP
  have hD : va_D A (wX0 cy h q2 q3 q4 q5 q6 q7 q8 q9 c0 c1 c2 c3 c4 c5 c6 c7 c8 c9 c10 c11) := hD
  refine lv_if_eq (tgt := 16) hx hb dX0_refusePair_5 (by decide) (fun c_5 => ?_) (fun c_5 => ?_)
  · replace hf := (if_pos c_5).symm.trans hf
    refine lv_iconst (v := (-1 : Int32)) hx hb dX0_refusePair_16 (by decide) ?_
    have hres := Option.some.inj hf
    subst hres
    have hP9 := hP.sub (ws' := (wX0 cy h q2 q3 q4 q5 q6 q7 q8 q9 c0 c1 c2 c3 c4 c5 c6 c7 c8 c9 c10 c11)) [0, 1, 2, 3, 4, 5, 6, 7, 8] rfl
    have hD9 := hD.sub (ws' := (wX0 cy h q2 q3 q4 q5 q6 q7 q8 q9 c0 c1 c2 c3 c4 c5 c6 c7 c8 c9 c10 c11)) [0, 1, 2, 3, 4, 5, 6, 7, 8] (by decide) rfl
    have hK9 := hK.sub (tys' := [(cy, .int)]) [0] rfl
    exact W.iret (v := (-1 : Int32)) hx hb hr (fun t ht hW => ⟨⟨(-1 : Int32), (), rfl, rfl, by rw [ht]; exact hP9, va_K.moved hW.alike hK9, hD9⟩, hS.F ht⟩) hS.2.2 dX0_refusePair_17
  · replace hf := (if_neg c_5).symm.trans hf
    refine lv_aload_n hx hb dX0_refusePair_8 rfl (lv_at hl 0 rfl) ?_
    refine lv_iload_n hx hb dX0_refusePair_9 rfl (lv_at hl 2 rfl) ?_
    obtain ⟨u10, hu10, hf⟩ := z_ob_some hf
    have hPc := hP.sub (ws' := (wX0 cy h q2 q3 q4 q5 q6 q7 q8 q9 c0 c1 c2 c3 c4 c5 c6 c7 c8 c9 c10 c11)) [0, 1, 2, 3, 4, 5, 6, 7, 8] rfl
    have hDc := hD.sub (ws' := (wX0 cy h q2 q3 q4 q5 q6 q7 q8 q9 c0 c1 c2 c3 c4 c5 c6 c7 c8 c9 c10 c11)) [0, 1, 2, 3, 4, 5, 6, 7, 8] (by decide) rfl
    have hKc := hK.sub (tys' := [(cy, .int)]) [0] rfl
    have hFc := va_free (wc := (wX0 cy h q2 q3 q4 q5 q6 q7 q8 q9 c0 c1 c2 c3 c4 c5 c6 c7 c8 c9 c10 c11)) hD hS hA [0, 1, 2, 3, 4, 5, 6, 7, 8] rfl
    refine va_calli (va_runV (As := [.int a2]) (rest := []) ⟨hx, hb, hml, hown, hts⟩ (c_X0_isOne N l dC dI cy h q2 q3 q4 q5 q6 q7 q8 q9 H.size c0 c1 c2 c3 c4 c5 c6 c7 c8 c9 c10 c11 a2 u10 hu10) (cwV 1 hts gX0_refusePair_X0_isOne rfl rfl rfl (by decide +kernel) ⟨Nat.le_of_ble_eq_true rfl, Nat.le_of_ble_eq_true rfl⟩) ⟨fun a U g mk q => by obtain ⟨q0, q1, qP, qK, qD⟩ := q; exact ⟨q0, q1, qP, va_K.moved (u := U) (U := U.calling g mk a) (Vm.Alike.refl U.vm) qK, qD⟩, va_recv hKc hPc (ci := 0) (q0 := 0) rfl rfl, fun U hU hW => ⟨rfl, by rw [hU], by rw [hU]; exact hPc, va_K.moved hW.alike hKc, hDc.weaken (fun _ _ _ _ => trivial)⟩⟩ rfl rfl hl.1 rfl (lv_room (Nat.le_of_ble_eq_true rfl)) dX0_refusePair_10 ⟨Nat.zero_le _, Nat.zero_le _⟩) hS (fun q _ h => hFc q h) hFc (fun r_10 uu_ t H1 locs ht hvm hw hB hz1 hk1 hS => ?_)
    replace hw := hw.symm
    subst hw
    obtain ⟨hP1, -, hD1⟩ := hB
    rw [ht] at hP1
    obtain ⟨hP, hD⟩ := va_join (wr := []) (w1 := (wX0 cy h q2 q3 q4 q5 q6 q7 q8 q9 c0 c1 c2 c3 c4 c5 c6 c7 c8 c9 c10 c11)) hP hD [0, 1, 2, 3, 4, 5, 6, 7, 8] [] rfl rfl (by decide) (by decide) hk1 hFc hP1 hD1
    clear hk1 hz1 hP1 hD1 ht hPc hDc hFc
    generalize H1 = H at hP hS ⊢
    have hP : va_P (dC, dI) vwCl (wX0 cy h q2 q3 q4 q5 q6 q7 q8 q9 c0 c1 c2 c3 c4 c5 c6 c7 c8 c9 c10 c11) H := hP
    have hD : va_D A (wX0 cy h q2 q3 q4 q5 q6 q7 q8 q9 c0 c1 c2 c3 c4 c5 c6 c7 c8 c9 c10 c11) := hD
    refine lv_if_ne (tgt := 18) hx hb dX0_refusePair_13 (by decide) (fun c_13 => ?_) (fun c_13 => ?_)
    · replace hf := (if_neg c_13).symm.trans hf
      refine lv_iload_n hx hb dX0_refusePair_18 rfl (lv_at hl 1 rfl) ?_
      refine lv_iload_n hx hb dX0_refusePair_19 rfl (lv_at hl 2 rfl) ?_
      refine lv_icmp_ne (tgt := 28) hx hb dX0_refusePair_20 (by decide) (fun c_20 => ?_) (fun c_20 => ?_)
      · replace hf := (if_neg c_20).symm.trans hf
        refine lv_iconst (v := (0 : Int32)) hx hb dX0_refusePair_28 (by decide) ?_
        have hres := Option.some.inj hf
        subst hres
        have hP9 := hP.sub (ws' := (wX0 cy h q2 q3 q4 q5 q6 q7 q8 q9 c0 c1 c2 c3 c4 c5 c6 c7 c8 c9 c10 c11)) [0, 1, 2, 3, 4, 5, 6, 7, 8] rfl
        have hD9 := hD.sub (ws' := (wX0 cy h q2 q3 q4 q5 q6 q7 q8 q9 c0 c1 c2 c3 c4 c5 c6 c7 c8 c9 c10 c11)) [0, 1, 2, 3, 4, 5, 6, 7, 8] (by decide) rfl
        have hK9 := hK.sub (tys' := [(cy, .int)]) [0] rfl
        exact W.iret (v := (0 : Int32)) hx hb hr (fun t ht hW => ⟨⟨(0 : Int32), (), rfl, rfl, by rw [ht]; exact hP9, va_K.moved hW.alike hK9, hD9⟩, hS.F ht⟩) hS.2.2 dX0_refusePair_29
      · replace hf := (if_pos c_20).symm.trans hf
        refine lv_bipush (v := (-5 : Int32)) hx hb dX0_refusePair_23 (by decide) ?_
        refine lv_goto (tgt := 29) hx hb dX0_refusePair_25 (by decide) ?_
        have hres := Option.some.inj hf
        subst hres
        have hP9 := hP.sub (ws' := (wX0 cy h q2 q3 q4 q5 q6 q7 q8 q9 c0 c1 c2 c3 c4 c5 c6 c7 c8 c9 c10 c11)) [0, 1, 2, 3, 4, 5, 6, 7, 8] rfl
        have hD9 := hD.sub (ws' := (wX0 cy h q2 q3 q4 q5 q6 q7 q8 q9 c0 c1 c2 c3 c4 c5 c6 c7 c8 c9 c10 c11)) [0, 1, 2, 3, 4, 5, 6, 7, 8] (by decide) rfl
        have hK9 := hK.sub (tys' := [(cy, .int)]) [0] rfl
        exact W.iret (v := (-5 : Int32)) hx hb hr (fun t ht hW => ⟨⟨(-5 : Int32), (), rfl, rfl, by rw [ht]; exact hP9, va_K.moved hW.alike hK9, hD9⟩, hS.F ht⟩) hS.2.2 dX0_refusePair_29
    · replace hf := (if_pos c_13).symm.trans hf
      refine lv_iconst (v := (-1 : Int32)) hx hb dX0_refusePair_16 (by decide) ?_
      have hres := Option.some.inj hf
      subst hres
      have hP9 := hP.sub (ws' := (wX0 cy h q2 q3 q4 q5 q6 q7 q8 q9 c0 c1 c2 c3 c4 c5 c6 c7 c8 c9 c10 c11)) [0, 1, 2, 3, 4, 5, 6, 7, 8] rfl
      have hD9 := hD.sub (ws' := (wX0 cy h q2 q3 q4 q5 q6 q7 q8 q9 c0 c1 c2 c3 c4 c5 c6 c7 c8 c9 c10 c11)) [0, 1, 2, 3, 4, 5, 6, 7, 8] (by decide) rfl
      have hK9 := hK.sub (tys' := [(cy, .int)]) [0] rfl
      exact W.iret (v := (-1 : Int32)) hx hb hr (fun t ht hW => ⟨⟨(-1 : Int32), (), rfl, rfl, by rw [ht]; exact hP9, va_K.moved hW.alike hK9, hD9⟩, hS.F ht⟩) hS.2.2 dX0_refusePair_17

set_option maxRecDepth 20000 in
theorem ggX0_mayGive_X0_isOne : GoodIn wsX0_mayGive wsX0_isOne := goodIn_r _ [6, 7, 11, 12, 13, 14, 15, 16, 17, 18, 19, 20, 21, 22] (by decide +kernel) (by decide +kernel)
set_option maxRecDepth 20000 in
theorem gX0_mayGive_X0_isOne : GoodIn wsX0_mayGive (wsV RX0 66 RX0 yX0_isOne wsX0_isOne) := goodIn_app (goodIn_of _ (by decide +kernel)) ggX0_mayGive_X0_isOne
set_option maxRecDepth 20000 in
theorem ggX0_mayGive_X0_bit : GoodIn wsX0_mayGive wsX0_bit := goodIn_r _ [10] (by decide +kernel) (by decide +kernel)
set_option maxRecDepth 20000 in
theorem gX0_mayGive_X0_bit : GoodIn wsX0_mayGive (va_wsS RX0 50 yX0_bit wsX0_bit) := goodIn_app (goodIn_of _ (by decide +kernel)) ggX0_mayGive_X0_bit
theorem dX0_mayGive_0 : decode cX0_mayGive 0 = .ok (.aload_n 0, 1) := by decide +kernel
theorem dX0_mayGive_1 : decode cX0_mayGive 1 = .ok (.iload_n 1, 1) := by decide +kernel
theorem dX0_mayGive_2 : decode cX0_mayGive 2 = .ok (.invokevirtual 66, 3) := by decide +kernel
theorem dX0_mayGive_5 : decode cX0_mayGive 5 = .ok (.ifCond .eq 21, 3) := by decide +kernel
theorem dX0_mayGive_8 : decode cX0_mayGive 8 = .ok (.aload_n 0, 1) := by decide +kernel
theorem dX0_mayGive_9 : decode cX0_mayGive 9 = .ok (.getfield 9, 3) := by decide +kernel
theorem dX0_mayGive_12 : decode cX0_mayGive 12 = .ok (.iload_n 1, 1) := by decide +kernel
theorem dX0_mayGive_13 : decode cX0_mayGive 13 = .ok (.iaload, 1) := by decide +kernel
theorem dX0_mayGive_14 : decode cX0_mayGive 14 = .ok (.iload_n 2, 1) := by decide +kernel
theorem dX0_mayGive_15 : decode cX0_mayGive 15 = .ok (.invokestatic 50, 3) := by decide +kernel
theorem dX0_mayGive_18 : decode cX0_mayGive 18 = .ok (.iand, 1) := by decide +kernel
theorem dX0_mayGive_19 : decode cX0_mayGive 19 = .ok (.ifCond .eq 7, 3) := by decide +kernel
theorem dX0_mayGive_22 : decode cX0_mayGive 22 = .ok (.iconst 1, 1) := by decide +kernel
theorem dX0_mayGive_23 : decode cX0_mayGive 23 = .ok (.goto 4, 3) := by decide +kernel
theorem dX0_mayGive_26 : decode cX0_mayGive 26 = .ok (.iconst 0, 1) := by decide +kernel
theorem dX0_mayGive_27 : decode cX0_mayGive 27 = .ok (.ireturn, 1) := by decide +kernel
abbrev rm_X0_mayGive : Room := { frames := 1, cells := 0, slots := 0, locals := 21 }
set_option maxHeartbeats 4000000 in
set_option maxRecDepth 100000 in
theorem c_X0_mayGive (N : Nat) (l : Launch) (dC : Nat → ClassId) (dI : Nat → Nat → Nat) (cy : ClassId) (h q2 q3 q4 q5 q6 q7 q8 q9 : Nat) (sz : Nat) (c0 : Int32) (c1 : Int32) (c2 : Nat → Int32) (c3 : Nat → Int32) (c4 : Nat → Int32) (c5 : Nat → Int32) (c6 : Nat → Int32) (c7 : Nat → Int32) (c8 : Nat → Int32) (c9 : Nat → Int32) (c10 : Int32) (c11 : Int32) (a1 a2 : Int32) (res : Int32) (hf : f_X0_mayGive N a1 a2 c0 c2 = some res) : Met l yX0_mayGive wsX0_mayGive rm_X0_mayGive (va_Pc [.ref h, .int a1, .int a2] (fun U => U.heap.size = sz ∧ va_P (dC, dI) vwCl (wX0 cy h q2 q3 q4 q5 q6 q7 q8 q9 c0 c1 c2 c3 c4 c5 c6 c7 c8 c9 c10 c11) U.heap ∧ va_K (dC, dI) vwCl [(cy, .int)] U ∧ va_D (fun _ => True) (wX0 cy h q2 q3 q4 q5 q6 q7 q8 q9 c0 c1 c2 c3 c4 c5 c6 c7 c8 c9 c10 c11))) (z_qI dC dI cy res (wX0 cy h q2 q3 q4 q5 q6 q7 q8 q9 c0 c1 c2 c3 c4 c5 c6 c7 c8 c9 c10 c11) (va_A (wX0 cy h q2 q3 q4 q5 q6 q7 q8 q9 c0 c1 c2 c3 c4 c5 c6 c7 c8 c9 c10 c11) sz)) 0 0 (va_A (wX0 cy h q2 q3 q4 q5 q6 q7 q8 q9 c0 c1 c2 c3 c4 c5 c6 c7 c8 c9 c10 c11) sz) := by
  refine Met.ofW (cc := cX0_mayGive) (maxL := 3) (ret := (some .boolean)) (by decide) rfl ?_
  intro p e s m args below meth c s₁ B hml hv
  obtain ⟨rfl, hsz, hP, hK, hD0⟩ := hv
  have hx := B.exec
  have hb := B.bytes
  have hr := B.returns
  have hts := atoms_spec (ws := wsX0_mayGive) B.pre
  have hown : s.vm.findClass RX0 = some m.cls := findClass_of_methodNamed B.named
  have hlocks := B.notSynchronized
  subst hsz
  have hD := hD0.self (sz := s.heap.size)
  generalize hAe : va_A (wX0 cy h q2 q3 q4 q5 q6 q7 q8 q9 c0 c1 c2 c3 c4 c5 c6 c7 c8 c9 c10 c11) s.heap.size = A at hD ⊢
  have hA : ∀ q : Nat, s.heap.size ≤ q → A q := fun q h => by rw [← hAe]; exact Or.inr h
  have hS : va_S A s.heap s.heap [] := va_S.rf
  have hP : va_P (dC, dI) vwCl (wX0 cy h q2 q3 q4 q5 q6 q7 q8 q9 c0 c1 c2 c3 c4 c5 c6 c7 c8 c9 c10 c11) s.heap := hP
  have hl := lv_entry ([.ref h, .int a1, .int a2]) (n := 3) (Nat.le_of_ble_eq_true rfl)
  rw [lg_entry_eq]
  generalize (lg_sl ([.ref h, .int a1, .int a2]) ++ List.replicate (3 - (lg_sl ([.ref h, .int a1, .int a2])).length) Slot.unset).toArray = ls at hl ⊢
  have hl : lv_has ls 3 [(0, .ref h), (1, .int a1), (2, .int a2)] := hl
  unfold f_X0_mayGive at hf
  refine lv_aload_n hx hb dX0_mayGive_0 rfl (lv_at hl 0 rfl) ?_
  refine lv_iload_n hx hb dX0_mayGive_1 rfl (lv_at hl 1 rfl) ?_
  obtain ⟨u2, hu2, hf⟩ := z_ob_some hf
  have hPc := hP.sub (ws' := (wX0 cy h q2 q3 q4 q5 q6 q7 q8 q9 c0 c1 c2 c3 c4 c5 c6 c7 c8 c9 c10 c11)) [0, 1, 2, 3, 4, 5, 6, 7, 8] rfl
  have hDc := hD.sub (ws' := (wX0 cy h q2 q3 q4 q5 q6 q7 q8 q9 c0 c1 c2 c3 c4 c5 c6 c7 c8 c9 c10 c11)) [0, 1, 2, 3, 4, 5, 6, 7, 8] (by decide) rfl
  have hKc := hK.sub (tys' := [(cy, .int)]) [0] rfl
  have hFc := va_free (wc := (wX0 cy h q2 q3 q4 q5 q6 q7 q8 q9 c0 c1 c2 c3 c4 c5 c6 c7 c8 c9 c10 c11)) hD hS hA [0, 1, 2, 3, 4, 5, 6, 7, 8] rfl
  refine va_calli (va_runV (As := [.int a1]) (rest := []) ⟨hx, hb, hml, hown, hts⟩ (c_X0_isOne N l dC dI cy h q2 q3 q4 q5 q6 q7 q8 q9 s.heap.size c0 c1 c2 c3 c4 c5 c6 c7 c8 c9 c10 c11 a1 u2 hu2) (cwV 1 hts gX0_mayGive_X0_isOne rfl rfl rfl (by decide +kernel) ⟨Nat.le_of_ble_eq_true rfl, Nat.le_of_ble_eq_true rfl⟩) ⟨fun a U g mk q => by obtain ⟨q0, q1, qP, qK, qD⟩ := q; exact ⟨q0, q1, qP, va_K.moved (u := U) (U := U.calling g mk a) (Vm.Alike.refl U.vm) qK, qD⟩, va_recv hKc hPc (ci := 0) (q0 := 0) rfl rfl, fun U hU hW => ⟨rfl, by rw [hU], by rw [hU]; exact hPc, va_K.moved hW.alike hKc, hDc.weaken (fun _ _ _ _ => trivial)⟩⟩ rfl rfl hl.1 rfl (lv_room (Nat.le_of_ble_eq_true rfl)) dX0_mayGive_2 ⟨Nat.zero_le _, Nat.zero_le _⟩) hS (fun q _ h => hFc q h) hFc (fun r_2 uu_ t H1 locs ht hvm hw hB hz1 hk1 hS => ?_)
  replace hw := hw.symm
  subst hw
  obtain ⟨hP1, -, hD1⟩ := hB
  rw [ht] at hP1
  obtain ⟨hP, hD⟩ := va_join (wr := []) (w1 := (wX0 cy h q2 q3 q4 q5 q6 q7 q8 q9 c0 c1 c2 c3 c4 c5 c6 c7 c8 c9 c10 c11)) hP hD [0, 1, 2, 3, 4, 5, 6, 7, 8] [] rfl rfl (by decide) (by decide) hk1 hFc hP1 hD1
  clear hk1 hz1 hP1 hD1 ht hPc hDc hFc
  generalize H1 = H at hP hS ⊢
  have hP : va_P (dC, dI) vwCl (wX0 cy h q2 q3 q4 q5 q6 q7 q8 q9 c0 c1 c2 c3 c4 c5 c6 c7 c8 c9 c10 c11) H := hP
  have hD : va_D A (wX0 cy h q2 q3 q4 q5 q6 q7 q8 q9 c0 c1 c2 c3 c4 c5 c6 c7 c8 c9 c10 c11) := hD
  refine lv_if_eq (tgt := 26) hx hb dX0_mayGive_5 (by decide) (fun c_5 => ?_) (fun c_5 => ?_)
  · replace hf := (if_pos c_5).symm.trans hf
    refine lv_iconst (v := (0 : Int32)) hx hb dX0_mayGive_26 (by decide) ?_
    have hres := Option.some.inj hf
    subst hres
    have hP9 := hP.sub (ws' := (wX0 cy h q2 q3 q4 q5 q6 q7 q8 q9 c0 c1 c2 c3 c4 c5 c6 c7 c8 c9 c10 c11)) [0, 1, 2, 3, 4, 5, 6, 7, 8] rfl
    have hD9 := hD.sub (ws' := (wX0 cy h q2 q3 q4 q5 q6 q7 q8 q9 c0 c1 c2 c3 c4 c5 c6 c7 c8 c9 c10 c11)) [0, 1, 2, 3, 4, 5, 6, 7, 8] (by decide) rfl
    have hK9 := hK.sub (tys' := [(cy, .int)]) [0] rfl
    exact W.zret (v := (0 : Int32)) hx hb hr rfl (fun t ht hW => ⟨⟨(0 : Int32), (), rfl, rfl, by rw [ht]; exact hP9, va_K.moved hW.alike hK9, hD9⟩, hS.F ht⟩) hS.2.2 dX0_mayGive_27
  · replace hf := (if_neg c_5).symm.trans hf
    refine lv_aload_n hx hb dX0_mayGive_8 rfl (lv_at hl 0 rfl) ?_
    refine va_get (D := (dC, dI)) (ci := 0) (v := .ref q2) (C := RX0) (T := TX0) (N := 12) hx hb hts (by decide +kernel) hown hK hP 0 rfl rfl 2 (by decide) (hts (.fieldLink RX0 9 "GiftLots" "board" "[I") (by decide +kernel)) (fun _ h9 => h9) rfl dX0_mayGive_9 ?_
    refine lv_iload_n hx hb dX0_mayGive_12 rfl (lv_at hl 1 rfl) ?_
    obtain ⟨hi13, hf⟩ := z_gx_some hf
    refine va_iald hx hb hK hP 1 0 rfl rfl hi13 dX0_mayGive_13 ?_
    refine lv_iload_n hx hb dX0_mayGive_14 rfl (lv_at hl 2 rfl) ?_
    obtain ⟨u15, hu15, hf⟩ := z_ob_some hf
    have hPc := hP.sub (ws' := ([] : va_W)) [] rfl
    have hDc := hD.sub (ws' := ([] : va_W)) [] (by decide) rfl
    have hKc := hK.sub (tys' := [(cy, .int)]) [0] rfl
    have hFc := va_free (wc := ([] : va_W)) hD hS hA [] rfl
    refine va_calli (va_runS (As := [.int a2]) (rest := [.int (c2 (a1).toNatClampNeg)]) ⟨hx, hb, hml, hown, hts⟩ (c_X0_bit N l dC dI cy H.size a2 u15 hu15) (va_cwS 1 hts gX0_mayGive_X0_bit rfl rfl rfl (by decide +kernel) ⟨Nat.le_of_ble_eq_true rfl, Nat.le_of_ble_eq_true rfl⟩) ⟨fun a U g mk q => by obtain ⟨q0, q1, qP, qK, qD⟩ := q; exact ⟨q0, q1, qP, va_K.moved (u := U) (U := U.calling g mk a) (Vm.Alike.refl U.vm) qK, qD⟩, fun U hU hW => ⟨rfl, by rw [hU], by rw [hU]; exact hPc, va_K.moved hW.alike hKc, hDc.weaken (fun _ _ _ _ => trivial)⟩⟩ rfl rfl hl.1 rfl (lv_room (Nat.le_of_ble_eq_true rfl)) dX0_mayGive_15 ⟨Nat.zero_le _, Nat.zero_le _⟩) hS (fun q _ h => hFc q h) hFc (fun r_15 uu_ t H1 locs ht hvm hw hB hz1 hk1 hS => ?_)
    replace hw := hw.symm
    subst hw
    obtain ⟨hP1, -, hD1⟩ := hB
    rw [ht] at hP1
    obtain ⟨hP, hD⟩ := va_join (wr := (wX0 cy h q2 q3 q4 q5 q6 q7 q8 q9 c0 c1 c2 c3 c4 c5 c6 c7 c8 c9 c10 c11)) (w1 := ([] : va_W)) hP hD [] [0, 1, 2, 3, 4, 5, 6, 7, 8] rfl rfl (by decide) (by decide) hk1 hFc hP1 hD1
    clear hk1 hz1 hP1 hD1 ht hPc hDc hFc
    generalize H1 = H at hP hS ⊢
    have hP : va_P (dC, dI) vwCl (wX0 cy h q2 q3 q4 q5 q6 q7 q8 q9 c0 c1 c2 c3 c4 c5 c6 c7 c8 c9 c10 c11) H := hP
    have hD : va_D A (wX0 cy h q2 q3 q4 q5 q6 q7 q8 q9 c0 c1 c2 c3 c4 c5 c6 c7 c8 c9 c10 c11) := hD
    refine lv_iand hx hb dX0_mayGive_18 ?_
    refine lv_if_eq (tgt := 26) hx hb dX0_mayGive_19 (by decide) (fun c_19 => ?_) (fun c_19 => ?_)
    · replace hf := (if_pos c_19).symm.trans hf
      refine lv_iconst (v := (0 : Int32)) hx hb dX0_mayGive_26 (by decide) ?_
      have hres := Option.some.inj hf
      subst hres
      have hP9 := hP.sub (ws' := (wX0 cy h q2 q3 q4 q5 q6 q7 q8 q9 c0 c1 c2 c3 c4 c5 c6 c7 c8 c9 c10 c11)) [0, 1, 2, 3, 4, 5, 6, 7, 8] rfl
      have hD9 := hD.sub (ws' := (wX0 cy h q2 q3 q4 q5 q6 q7 q8 q9 c0 c1 c2 c3 c4 c5 c6 c7 c8 c9 c10 c11)) [0, 1, 2, 3, 4, 5, 6, 7, 8] (by decide) rfl
      have hK9 := hK.sub (tys' := [(cy, .int)]) [0] rfl
      exact W.zret (v := (0 : Int32)) hx hb hr rfl (fun t ht hW => ⟨⟨(0 : Int32), (), rfl, rfl, by rw [ht]; exact hP9, va_K.moved hW.alike hK9, hD9⟩, hS.F ht⟩) hS.2.2 dX0_mayGive_27
    · replace hf := (if_neg c_19).symm.trans hf
      refine lv_iconst (v := (1 : Int32)) hx hb dX0_mayGive_22 (by decide) ?_
      refine lv_goto (tgt := 27) hx hb dX0_mayGive_23 (by decide) ?_
      have hres := Option.some.inj hf
      subst hres
      have hP9 := hP.sub (ws' := (wX0 cy h q2 q3 q4 q5 q6 q7 q8 q9 c0 c1 c2 c3 c4 c5 c6 c7 c8 c9 c10 c11)) [0, 1, 2, 3, 4, 5, 6, 7, 8] rfl
      have hD9 := hD.sub (ws' := (wX0 cy h q2 q3 q4 q5 q6 q7 q8 q9 c0 c1 c2 c3 c4 c5 c6 c7 c8 c9 c10 c11)) [0, 1, 2, 3, 4, 5, 6, 7, 8] (by decide) rfl
      have hK9 := hK.sub (tys' := [(cy, .int)]) [0] rfl
      exact W.zret (v := (1 : Int32)) hx hb hr rfl (fun t ht hW => ⟨⟨(1 : Int32), (), rfl, rfl, by rw [ht]; exact hP9, va_K.moved hW.alike hK9, hD9⟩, hS.F ht⟩) hS.2.2 dX0_mayGive_27

set_option maxRecDepth 20000 in
theorem ggX0_barPair_X0_mayGive : GoodIn wsX0_barPair wsX0_mayGive := goodIn_r _ [6, 1, 7, 8, 9, 5, 10, 11, 12, 13, 14, 15, 16, 17, 18, 19, 20, 21, 22, 23, 24, 25, 26] (by decide +kernel) (by decide +kernel)
set_option maxRecDepth 20000 in
theorem gX0_barPair_X0_mayGive : GoodIn wsX0_barPair (wsV RX0 46 RX0 yX0_mayGive wsX0_mayGive) := goodIn_app (goodIn_of _ (by decide +kernel)) ggX0_barPair_X0_mayGive
set_option maxRecDepth 20000 in
theorem ggX0_barPair_X0_bit : GoodIn wsX0_barPair wsX0_bit := goodIn_r _ [14] (by decide +kernel) (by decide +kernel)
set_option maxRecDepth 20000 in
theorem gX0_barPair_X0_bit : GoodIn wsX0_barPair (va_wsS RX0 50 yX0_bit wsX0_bit) := goodIn_app (goodIn_of _ (by decide +kernel)) ggX0_barPair_X0_bit
theorem dX0_barPair_0 : decode cX0_barPair 0 = .ok (.aload_n 0, 1) := by decide +kernel
theorem dX0_barPair_1 : decode cX0_barPair 1 = .ok (.iload_n 1, 1) := by decide +kernel
theorem dX0_barPair_2 : decode cX0_barPair 2 = .ok (.iload_n 2, 1) := by decide +kernel
theorem dX0_barPair_3 : decode cX0_barPair 3 = .ok (.invokevirtual 46, 3) := by decide +kernel
theorem dX0_barPair_6 : decode cX0_barPair 6 = .ok (.ifCond .ne 5, 3) := by decide +kernel
theorem dX0_barPair_9 : decode cX0_barPair 9 = .ok (.iconst 0, 1) := by decide +kernel
theorem dX0_barPair_10 : decode cX0_barPair 10 = .ok (.ireturn, 1) := by decide +kernel
theorem dX0_barPair_11 : decode cX0_barPair 11 = .ok (.aload_n 0, 1) := by decide +kernel
theorem dX0_barPair_12 : decode cX0_barPair 12 = .ok (.getfield 9, 3) := by decide +kernel
theorem dX0_barPair_15 : decode cX0_barPair 15 = .ok (.iload_n 1, 1) := by decide +kernel
theorem dX0_barPair_16 : decode cX0_barPair 16 = .ok (.dup2, 1) := by decide +kernel
theorem dX0_barPair_17 : decode cX0_barPair 17 = .ok (.iaload, 1) := by decide +kernel
theorem dX0_barPair_18 : decode cX0_barPair 18 = .ok (.iload_n 2, 1) := by decide +kernel
theorem dX0_barPair_19 : decode cX0_barPair 19 = .ok (.invokestatic 50, 3) := by decide +kernel
theorem dX0_barPair_22 : decode cX0_barPair 22 = .ok (.iconst (-1), 1) := by decide +kernel
theorem dX0_barPair_23 : decode cX0_barPair 23 = .ok (.ixor, 1) := by decide +kernel
theorem dX0_barPair_24 : decode cX0_barPair 24 = .ok (.iand, 1) := by decide +kernel
theorem dX0_barPair_25 : decode cX0_barPair 25 = .ok (.iastore, 1) := by decide +kernel
theorem dX0_barPair_26 : decode cX0_barPair 26 = .ok (.iconst 1, 1) := by decide +kernel
theorem dX0_barPair_27 : decode cX0_barPair 27 = .ok (.ireturn, 1) := by decide +kernel
abbrev rm_X0_barPair : Room := { frames := 2, cells := 0, slots := 0, locals := 43 }
set_option maxHeartbeats 4000000 in
set_option maxRecDepth 100000 in
theorem c_X0_barPair (N : Nat) (l : Launch) (dC : Nat → ClassId) (dI : Nat → Nat → Nat) (cy : ClassId) (h q2 q3 q4 q5 q6 q7 q8 q9 : Nat) (sz : Nat) (c0 : Int32) (c1 : Int32) (c2 : Nat → Int32) (c3 : Nat → Int32) (c4 : Nat → Int32) (c5 : Nat → Int32) (c6 : Nat → Int32) (c7 : Nat → Int32) (c8 : Nat → Int32) (c9 : Nat → Int32) (c10 : Int32) (c11 : Int32) (a1 a2 : Int32) (res : Int32 × (Nat → Int32)) (hf : f_X0_barPair N a1 a2 c0 c2 = some res) : Met l yX0_barPair wsX0_barPair rm_X0_barPair (va_Pc [.ref h, .int a1, .int a2] (fun U => U.heap.size = sz ∧ va_P (dC, dI) vwCl (wX0 cy h q2 q3 q4 q5 q6 q7 q8 q9 c0 c1 c2 c3 c4 c5 c6 c7 c8 c9 c10 c11) U.heap ∧ va_K (dC, dI) vwCl [(cy, .int)] U ∧ va_D (fun _ => True) (wX0 cy h q2 q3 q4 q5 q6 q7 q8 q9 c0 c1 c2 c3 c4 c5 c6 c7 c8 c9 c10 c11))) (z_qI dC dI cy res.1 (wX0 cy h q2 q3 q4 q5 q6 q7 q8 q9 c0 c1 res.2 c3 c4 c5 c6 c7 c8 c9 c10 c11) (va_A (wX0 cy h q2 q3 q4 q5 q6 q7 q8 q9 c0 c1 c2 c3 c4 c5 c6 c7 c8 c9 c10 c11) sz)) 0 0 (va_A (wX0 cy h q2 q3 q4 q5 q6 q7 q8 q9 c0 c1 c2 c3 c4 c5 c6 c7 c8 c9 c10 c11) sz) := by
  refine Met.ofW (cc := cX0_barPair) (maxL := 3) (ret := (some .int)) (by decide) rfl ?_
  intro p e s m args below meth c s₁ B hml hv
  obtain ⟨rfl, hsz, hP, hK, hD0⟩ := hv
  have hx := B.exec
  have hb := B.bytes
  have hr := B.returns
  have hts := atoms_spec (ws := wsX0_barPair) B.pre
  have hown : s.vm.findClass RX0 = some m.cls := findClass_of_methodNamed B.named
  have hlocks := B.notSynchronized
  subst hsz
  have hD := hD0.self (sz := s.heap.size)
  generalize hAe : va_A (wX0 cy h q2 q3 q4 q5 q6 q7 q8 q9 c0 c1 c2 c3 c4 c5 c6 c7 c8 c9 c10 c11) s.heap.size = A at hD ⊢
  have hA : ∀ q : Nat, s.heap.size ≤ q → A q := fun q h => by rw [← hAe]; exact Or.inr h
  have hS : va_S A s.heap s.heap [] := va_S.rf
  have hP : va_P (dC, dI) vwCl (wX0 cy h q2 q3 q4 q5 q6 q7 q8 q9 c0 c1 c2 c3 c4 c5 c6 c7 c8 c9 c10 c11) s.heap := hP
  have hl := lv_entry ([.ref h, .int a1, .int a2]) (n := 3) (Nat.le_of_ble_eq_true rfl)
  rw [lg_entry_eq]
  generalize (lg_sl ([.ref h, .int a1, .int a2]) ++ List.replicate (3 - (lg_sl ([.ref h, .int a1, .int a2])).length) Slot.unset).toArray = ls at hl ⊢
  have hl : lv_has ls 3 [(0, .ref h), (1, .int a1), (2, .int a2)] := hl
  unfold f_X0_barPair at hf
  refine lv_aload_n hx hb dX0_barPair_0 rfl (lv_at hl 0 rfl) ?_
  refine lv_iload_n hx hb dX0_barPair_1 rfl (lv_at hl 1 rfl) ?_
  refine lv_iload_n hx hb dX0_barPair_2 rfl (lv_at hl 2 rfl) ?_
  obtain ⟨u3, hu3, hf⟩ := z_ob_some hf
  have hPc := hP.sub (ws' := (wX0 cy h q2 q3 q4 q5 q6 q7 q8 q9 c0 c1 c2 c3 c4 c5 c6 c7 c8 c9 c10 c11)) [0, 1, 2, 3, 4, 5, 6, 7, 8] rfl
  have hDc := hD.sub (ws' := (wX0 cy h q2 q3 q4 q5 q6 q7 q8 q9 c0 c1 c2 c3 c4 c5 c6 c7 c8 c9 c10 c11)) [0, 1, 2, 3, 4, 5, 6, 7, 8] (by decide) rfl
  have hKc := hK.sub (tys' := [(cy, .int)]) [0] rfl
  have hFc := va_free (wc := (wX0 cy h q2 q3 q4 q5 q6 q7 q8 q9 c0 c1 c2 c3 c4 c5 c6 c7 c8 c9 c10 c11)) hD hS hA [0, 1, 2, 3, 4, 5, 6, 7, 8] rfl
  refine va_calli (va_runV (As := [.int a1, .int a2]) (rest := []) ⟨hx, hb, hml, hown, hts⟩ (c_X0_mayGive N l dC dI cy h q2 q3 q4 q5 q6 q7 q8 q9 s.heap.size c0 c1 c2 c3 c4 c5 c6 c7 c8 c9 c10 c11 a1 a2 u3 hu3) (cwV 2 hts gX0_barPair_X0_mayGive rfl rfl rfl (by decide +kernel) ⟨Nat.le_of_ble_eq_true rfl, Nat.le_of_ble_eq_true rfl⟩) ⟨fun a U g mk q => by obtain ⟨q0, q1, qP, qK, qD⟩ := q; exact ⟨q0, q1, qP, va_K.moved (u := U) (U := U.calling g mk a) (Vm.Alike.refl U.vm) qK, qD⟩, va_recv hKc hPc (ci := 0) (q0 := 0) rfl rfl, fun U hU hW => ⟨rfl, by rw [hU], by rw [hU]; exact hPc, va_K.moved hW.alike hKc, hDc.weaken (fun _ _ _ _ => trivial)⟩⟩ rfl rfl hl.1 rfl (lv_room (Nat.le_of_ble_eq_true rfl)) dX0_barPair_3 ⟨Nat.zero_le _, Nat.zero_le _⟩) hS (fun q _ h => hFc q h) hFc (fun r_3 uu_ t H1 locs ht hvm hw hB hz1 hk1 hS => ?_)
  replace hw := hw.symm
  subst hw
  obtain ⟨hP1, -, hD1⟩ := hB
  rw [ht] at hP1
  obtain ⟨hP, hD⟩ := va_join (wr := []) (w1 := (wX0 cy h q2 q3 q4 q5 q6 q7 q8 q9 c0 c1 c2 c3 c4 c5 c6 c7 c8 c9 c10 c11)) hP hD [0, 1, 2, 3, 4, 5, 6, 7, 8] [] rfl rfl (by decide) (by decide) hk1 hFc hP1 hD1
  clear hk1 hz1 hP1 hD1 ht hPc hDc hFc
  generalize H1 = H at hP hS ⊢
  have hP : va_P (dC, dI) vwCl (wX0 cy h q2 q3 q4 q5 q6 q7 q8 q9 c0 c1 c2 c3 c4 c5 c6 c7 c8 c9 c10 c11) H := hP
  have hD : va_D A (wX0 cy h q2 q3 q4 q5 q6 q7 q8 q9 c0 c1 c2 c3 c4 c5 c6 c7 c8 c9 c10 c11) := hD
  refine lv_if_ne (tgt := 11) hx hb dX0_barPair_6 (by decide) (fun c_6 => ?_) (fun c_6 => ?_)
  · replace hf := (if_neg c_6).symm.trans hf
    refine lv_aload_n hx hb dX0_barPair_11 rfl (lv_at hl 0 rfl) ?_
    refine va_get (D := (dC, dI)) (ci := 0) (v := .ref q2) (C := RX0) (T := TX0) (N := 12) hx hb hts (by decide +kernel) hown hK hP 0 rfl rfl 2 (by decide) (hts (.fieldLink RX0 9 "GiftLots" "board" "[I") (by decide +kernel)) (fun _ h9 => h9) rfl dX0_barPair_12 ?_
    refine lv_iload_n hx hb dX0_barPair_15 rfl (lv_at hl 1 rfl) ?_
    refine lv_dup2_11 hx hb dX0_barPair_16 rfl rfl ?_
    obtain ⟨hi17, hf⟩ := z_gx_some hf
    refine va_iald hx hb hK hP 1 0 rfl rfl hi17 dX0_barPair_17 ?_
    refine lv_iload_n hx hb dX0_barPair_18 rfl (lv_at hl 2 rfl) ?_
    obtain ⟨u19, hu19, hf⟩ := z_ob_some hf
    have hPc := hP.sub (ws' := ([] : va_W)) [] rfl
    have hDc := hD.sub (ws' := ([] : va_W)) [] (by decide) rfl
    have hKc := hK.sub (tys' := [(cy, .int)]) [0] rfl
    have hFc := va_free (wc := ([] : va_W)) hD hS hA [] rfl
    refine va_calli (va_runS (As := [.int a2]) (rest := [.int (c2 (a1).toNatClampNeg), .int a1, .ref q2]) ⟨hx, hb, hml, hown, hts⟩ (c_X0_bit N l dC dI cy H.size a2 u19 hu19) (va_cwS 1 hts gX0_barPair_X0_bit rfl rfl rfl (by decide +kernel) ⟨Nat.le_of_ble_eq_true rfl, Nat.le_of_ble_eq_true rfl⟩) ⟨fun a U g mk q => by obtain ⟨q0, q1, qP, qK, qD⟩ := q; exact ⟨q0, q1, qP, va_K.moved (u := U) (U := U.calling g mk a) (Vm.Alike.refl U.vm) qK, qD⟩, fun U hU hW => ⟨rfl, by rw [hU], by rw [hU]; exact hPc, va_K.moved hW.alike hKc, hDc.weaken (fun _ _ _ _ => trivial)⟩⟩ rfl rfl hl.1 rfl (lv_room (Nat.le_of_ble_eq_true rfl)) dX0_barPair_19 ⟨Nat.zero_le _, Nat.zero_le _⟩) hS (fun q _ h => hFc q h) hFc (fun r_19 uu_ t H1 locs ht hvm hw hB hz1 hk1 hS => ?_)
    replace hw := hw.symm
    subst hw
    obtain ⟨hP1, -, hD1⟩ := hB
    rw [ht] at hP1
    obtain ⟨hP, hD⟩ := va_join (wr := (wX0 cy h q2 q3 q4 q5 q6 q7 q8 q9 c0 c1 c2 c3 c4 c5 c6 c7 c8 c9 c10 c11)) (w1 := ([] : va_W)) hP hD [] [0, 1, 2, 3, 4, 5, 6, 7, 8] rfl rfl (by decide) (by decide) hk1 hFc hP1 hD1
    clear hk1 hz1 hP1 hD1 ht hPc hDc hFc
    generalize H1 = H at hP hS ⊢
    have hP : va_P (dC, dI) vwCl (wX0 cy h q2 q3 q4 q5 q6 q7 q8 q9 c0 c1 c2 c3 c4 c5 c6 c7 c8 c9 c10 c11) H := hP
    have hD : va_D A (wX0 cy h q2 q3 q4 q5 q6 q7 q8 q9 c0 c1 c2 c3 c4 c5 c6 c7 c8 c9 c10 c11) := hD
    refine lv_iconst (v := (-1 : Int32)) hx hb dX0_barPair_22 (by decide) ?_
    refine lv_ixor hx hb dX0_barPair_23 ?_
    refine lv_iand hx hb dX0_barPair_24 ?_
    obtain ⟨hi25, hf⟩ := z_gx_some hf
    refine va_iast hx hb hK hP hD hS 1 0 rfl rfl hi25 dX0_barPair_25 (fun H locs hP hD hS => ?_)
    have hP : va_P (dC, dI) vwCl (wX0 cy h q2 q3 q4 q5 q6 q7 q8 q9 c0 c1 (upd c2 (a1).toNatClampNeg ((c2 (a1).toNatClampNeg) &&& (u19 ^^^ (-1 : Int32)))) c3 c4 c5 c6 c7 c8 c9 c10 c11) H := hP
    have hD : va_D A (wX0 cy h q2 q3 q4 q5 q6 q7 q8 q9 c0 c1 (upd c2 (a1).toNatClampNeg ((c2 (a1).toNatClampNeg) &&& (u19 ^^^ (-1 : Int32)))) c3 c4 c5 c6 c7 c8 c9 c10 c11) := hD
    refine lv_iconst (v := (1 : Int32)) hx hb dX0_barPair_26 (by decide) ?_
    have hres := Option.some.inj hf
    subst hres
    have hP9 := hP.sub (ws' := (wX0 cy h q2 q3 q4 q5 q6 q7 q8 q9 c0 c1 (upd c2 (a1).toNatClampNeg ((c2 (a1).toNatClampNeg) &&& (u19 ^^^ (-1 : Int32)))) c3 c4 c5 c6 c7 c8 c9 c10 c11)) [0, 1, 2, 3, 4, 5, 6, 7, 8] rfl
    have hD9 := hD.sub (ws' := (wX0 cy h q2 q3 q4 q5 q6 q7 q8 q9 c0 c1 (upd c2 (a1).toNatClampNeg ((c2 (a1).toNatClampNeg) &&& (u19 ^^^ (-1 : Int32)))) c3 c4 c5 c6 c7 c8 c9 c10 c11)) [0, 1, 2, 3, 4, 5, 6, 7, 8] (by decide) rfl
    have hK9 := hK.sub (tys' := [(cy, .int)]) [0] rfl
    exact W.iret (v := (1 : Int32)) hx hb hr (fun t ht hW => ⟨⟨(1 : Int32), (), rfl, rfl, by rw [ht]; exact hP9, va_K.moved hW.alike hK9, hD9⟩, hS.F ht⟩) hS.2.2 dX0_barPair_27
  · replace hf := (if_pos c_6).symm.trans hf
    refine lv_iconst (v := (0 : Int32)) hx hb dX0_barPair_9 (by decide) ?_
    have hres := Option.some.inj hf
    subst hres
    have hP9 := hP.sub (ws' := (wX0 cy h q2 q3 q4 q5 q6 q7 q8 q9 c0 c1 c2 c3 c4 c5 c6 c7 c8 c9 c10 c11)) [0, 1, 2, 3, 4, 5, 6, 7, 8] rfl
    have hD9 := hD.sub (ws' := (wX0 cy h q2 q3 q4 q5 q6 q7 q8 q9 c0 c1 c2 c3 c4 c5 c6 c7 c8 c9 c10 c11)) [0, 1, 2, 3, 4, 5, 6, 7, 8] (by decide) rfl
    have hK9 := hK.sub (tys' := [(cy, .int)]) [0] rfl
    exact W.iret (v := (0 : Int32)) hx hb hr (fun t ht hW => ⟨⟨(0 : Int32), (), rfl, rfl, by rw [ht]; exact hP9, va_K.moved hW.alike hK9, hD9⟩, hS.F ht⟩) hS.2.2 dX0_barPair_10

set_option maxRecDepth 20000 in
theorem ggX0_may_X0_refusePair : GoodIn wsX0_may wsX0_refusePair := goodIn_r _ [6, 7, 8, 9, 5, 10, 11, 23, 24, 25, 26, 27, 28, 29, 30, 31, 32, 33, 34] (by decide +kernel) (by decide +kernel)
set_option maxRecDepth 20000 in
theorem gX0_may_X0_refusePair : GoodIn wsX0_may (wsV RX0 42 RX0 yX0_refusePair wsX0_refusePair) := goodIn_app (goodIn_of _ (by decide +kernel)) ggX0_may_X0_refusePair
set_option maxRecDepth 20000 in
theorem ggX0_may_X0_mayGive : GoodIn wsX0_may wsX0_mayGive := goodIn_r _ [15, 1, 7, 8, 9, 5, 10, 11, 16, 17, 18, 23, 24, 25, 26, 27, 28, 29, 30, 31, 32, 33, 34] (by decide +kernel) (by decide +kernel)
set_option maxRecDepth 20000 in
theorem gX0_may_X0_mayGive : GoodIn wsX0_may (wsV RX0 46 RX0 yX0_mayGive wsX0_mayGive) := goodIn_app (goodIn_of _ (by decide +kernel)) ggX0_may_X0_mayGive
set_option maxRecDepth 20000 in
theorem ggX0_may_X0_bit : GoodIn wsX0_may wsX0_bit := goodIn_r _ [18] (by decide +kernel) (by decide +kernel)
set_option maxRecDepth 20000 in
theorem gX0_may_X0_bit : GoodIn wsX0_may (va_wsS RX0 50 yX0_bit wsX0_bit) := goodIn_app (goodIn_of _ (by decide +kernel)) ggX0_may_X0_bit
set_option maxRecDepth 20000 in
theorem ggX0_may_X0_barPair : GoodIn wsX0_may wsX0_barPair := goodIn_r _ [22, 1, 12, 13, 14, 5, 15, 7, 8, 9, 10, 11, 16, 17, 18, 23, 24, 25, 26, 27, 28, 29, 30, 31, 32, 33, 34] (by decide +kernel) (by decide +kernel)
set_option maxRecDepth 20000 in
theorem gX0_may_X0_barPair : GoodIn wsX0_may (wsV RX0 54 RX0 yX0_barPair wsX0_barPair) := goodIn_app (goodIn_of _ (by decide +kernel)) ggX0_may_X0_barPair
theorem dX0_may_0 : decode cX0_may 0 = .ok (.aload_n 0, 1) := by decide +kernel
theorem dX0_may_1 : decode cX0_may 1 = .ok (.iload_n 1, 1) := by decide +kernel
theorem dX0_may_2 : decode cX0_may 2 = .ok (.iload_n 2, 1) := by decide +kernel
theorem dX0_may_3 : decode cX0_may 3 = .ok (.invokevirtual 42, 3) := by decide +kernel
theorem dX0_may_6 : decode cX0_may 6 = .ok (.istore 4, 2) := by decide +kernel
theorem dX0_may_8 : decode cX0_may 8 = .ok (.iload 4, 2) := by decide +kernel
theorem dX0_may_10 : decode cX0_may 10 = .ok (.ifCond .eq 6, 3) := by decide +kernel
theorem dX0_may_13 : decode cX0_may 13 = .ok (.iload 4, 2) := by decide +kernel
theorem dX0_may_15 : decode cX0_may 15 = .ok (.ireturn, 1) := by decide +kernel
theorem dX0_may_16 : decode cX0_may 16 = .ok (.aload_n 0, 1) := by decide +kernel
theorem dX0_may_17 : decode cX0_may 17 = .ok (.iload_n 1, 1) := by decide +kernel
theorem dX0_may_18 : decode cX0_may 18 = .ok (.iload_n 2, 1) := by decide +kernel
theorem dX0_may_19 : decode cX0_may 19 = .ok (.invokevirtual 46, 3) := by decide +kernel
theorem dX0_may_22 : decode cX0_may 22 = .ok (.ifCond .eq 7, 3) := by decide +kernel
theorem dX0_may_25 : decode cX0_may 25 = .ok (.iconst 1, 1) := by decide +kernel
theorem dX0_may_26 : decode cX0_may 26 = .ok (.goto 4, 3) := by decide +kernel
theorem dX0_may_29 : decode cX0_may 29 = .ok (.iconst 0, 1) := by decide +kernel
theorem dX0_may_30 : decode cX0_may 30 = .ok (.istore 5, 2) := by decide +kernel
theorem dX0_may_32 : decode cX0_may 32 = .ok (.iload_n 3, 1) := by decide +kernel
theorem dX0_may_33 : decode cX0_may 33 = .ok (.ifCond .eq 19, 3) := by decide +kernel
theorem dX0_may_36 : decode cX0_may 36 = .ok (.aload_n 0, 1) := by decide +kernel
theorem dX0_may_37 : decode cX0_may 37 = .ok (.getfield 9, 3) := by decide +kernel
theorem dX0_may_40 : decode cX0_may 40 = .ok (.iload_n 1, 1) := by decide +kernel
theorem dX0_may_41 : decode cX0_may 41 = .ok (.dup2, 1) := by decide +kernel
theorem dX0_may_42 : decode cX0_may 42 = .ok (.iaload, 1) := by decide +kernel
theorem dX0_may_43 : decode cX0_may 43 = .ok (.iload_n 2, 1) := by decide +kernel
theorem dX0_may_44 : decode cX0_may 44 = .ok (.invokestatic 50, 3) := by decide +kernel
theorem dX0_may_47 : decode cX0_may 47 = .ok (.ior, 1) := by decide +kernel
theorem dX0_may_48 : decode cX0_may 48 = .ok (.iastore, 1) := by decide +kernel
theorem dX0_may_49 : decode cX0_may 49 = .ok (.goto 10, 3) := by decide +kernel
theorem dX0_may_52 : decode cX0_may 52 = .ok (.aload_n 0, 1) := by decide +kernel
theorem dX0_may_53 : decode cX0_may 53 = .ok (.iload_n 1, 1) := by decide +kernel
theorem dX0_may_54 : decode cX0_may 54 = .ok (.iload_n 2, 1) := by decide +kernel
theorem dX0_may_55 : decode cX0_may 55 = .ok (.invokevirtual 54, 3) := by decide +kernel
theorem dX0_may_58 : decode cX0_may 58 = .ok (.pop, 1) := by decide +kernel
theorem dX0_may_59 : decode cX0_may 59 = .ok (.iload 5, 2) := by decide +kernel
theorem dX0_may_61 : decode cX0_may 61 = .ok (.ireturn, 1) := by decide +kernel
abbrev rm_X0_may : Room := { frames := 3, cells := 0, slots := 0, locals := 65 }
set_option maxHeartbeats 4000000 in
set_option maxRecDepth 100000 in
theorem c_X0_may (N : Nat) (l : Launch) (dC : Nat → ClassId) (dI : Nat → Nat → Nat) (cy : ClassId) (h q2 q3 q4 q5 q6 q7 q8 q9 : Nat) (sz : Nat) (c0 : Int32) (c1 : Int32) (c2 : Nat → Int32) (c3 : Nat → Int32) (c4 : Nat → Int32) (c5 : Nat → Int32) (c6 : Nat → Int32) (c7 : Nat → Int32) (c8 : Nat → Int32) (c9 : Nat → Int32) (c10 : Int32) (c11 : Int32) (a1 a2 a3 : Int32) (res : Int32 × (Nat → Int32)) (hf : f_X0_may N a1 a2 a3 c0 c2 = some res) : Met l yX0_may wsX0_may rm_X0_may (va_Pc [.ref h, .int a1, .int a2, .int a3] (fun U => U.heap.size = sz ∧ va_P (dC, dI) vwCl (wX0 cy h q2 q3 q4 q5 q6 q7 q8 q9 c0 c1 c2 c3 c4 c5 c6 c7 c8 c9 c10 c11) U.heap ∧ va_K (dC, dI) vwCl [(cy, .int)] U ∧ va_D (fun _ => True) (wX0 cy h q2 q3 q4 q5 q6 q7 q8 q9 c0 c1 c2 c3 c4 c5 c6 c7 c8 c9 c10 c11))) (z_qI dC dI cy res.1 (wX0 cy h q2 q3 q4 q5 q6 q7 q8 q9 c0 c1 res.2 c3 c4 c5 c6 c7 c8 c9 c10 c11) (va_A (wX0 cy h q2 q3 q4 q5 q6 q7 q8 q9 c0 c1 c2 c3 c4 c5 c6 c7 c8 c9 c10 c11) sz)) 0 0 (va_A (wX0 cy h q2 q3 q4 q5 q6 q7 q8 q9 c0 c1 c2 c3 c4 c5 c6 c7 c8 c9 c10 c11) sz) := by
  refine Met.ofW (cc := cX0_may) (maxL := 6) (ret := (some .int)) (by decide) rfl ?_
  intro p e s m args below meth c s₁ B hml hv
  obtain ⟨rfl, hsz, hP, hK, hD0⟩ := hv
  have hx := B.exec
  have hb := B.bytes
  have hr := B.returns
  have hts := atoms_spec (ws := wsX0_may) B.pre
  have hown : s.vm.findClass RX0 = some m.cls := findClass_of_methodNamed B.named
  have hlocks := B.notSynchronized
  subst hsz
  have hD := hD0.self (sz := s.heap.size)
  generalize hAe : va_A (wX0 cy h q2 q3 q4 q5 q6 q7 q8 q9 c0 c1 c2 c3 c4 c5 c6 c7 c8 c9 c10 c11) s.heap.size = A at hD ⊢
  have hA : ∀ q : Nat, s.heap.size ≤ q → A q := fun q h => by rw [← hAe]; exact Or.inr h
  have hS : va_S A s.heap s.heap [] := va_S.rf
  have hP : va_P (dC, dI) vwCl (wX0 cy h q2 q3 q4 q5 q6 q7 q8 q9 c0 c1 c2 c3 c4 c5 c6 c7 c8 c9 c10 c11) s.heap := hP
  have hl := lv_entry ([.ref h, .int a1, .int a2, .int a3]) (n := 6) (Nat.le_of_ble_eq_true rfl)
  rw [lg_entry_eq]
  generalize (lg_sl ([.ref h, .int a1, .int a2, .int a3]) ++ List.replicate (6 - (lg_sl ([.ref h, .int a1, .int a2, .int a3])).length) Slot.unset).toArray = ls at hl ⊢
  have hl : lv_has ls 6 [(0, .ref h), (1, .int a1), (2, .int a2), (3, .int a3)] := hl
  have B59 : ∀ (x5 : Int32) (c2 : Nat → Int32) (H : Heap) (locs : List Loc) (ls : Array Slot), f_X0_may_b59 N c0 x5 c2 = some res → va_P (dC, dI) vwCl (wX0 cy h q2 q3 q4 q5 q6 q7 q8 q9 c0 c1 c2 c3 c4 c5 c6 c7 c8 c9 c10 c11) H → va_D A (wX0 cy h q2 q3 q4 q5 q6 q7 q8 q9 c0 c1 c2 c3 c4 c5 c6 c7 c8 c9 c10 c11) → va_S A s.heap H locs → lv_has ls 6 [(0, .ref h), (5, .int x5)] → W p l e rm_X0_may s m ([.ref h, .int a1, .int a2, .int a3] : List Value).toArray below meth c H locs 0 0 (MQ below (z_qI dC dI cy res.1 (wX0 cy h q2 q3 q4 q5 q6 q7 q8 q9 c0 c1 res.2 c3 c4 c5 c6 c7 c8 c9 c10 c11) A) ([.ref h, .int a1, .int a2, .int a3] : List Value).toArray s 0 0 A) (F0 m 59 ls []) := by
    clear hf hl hP hD hS
    intro x5 c2 H locs ls hf hP hD hS hl
    unfold f_X0_may_b59 at hf
    refine lv_iload hx hb dX0_may_59 (lv_at hl 1 rfl) ?_
    have hres := Option.some.inj hf
    subst hres
    have hP9 := hP.sub (ws' := (wX0 cy h q2 q3 q4 q5 q6 q7 q8 q9 c0 c1 c2 c3 c4 c5 c6 c7 c8 c9 c10 c11)) [0, 1, 2, 3, 4, 5, 6, 7, 8] rfl
    have hD9 := hD.sub (ws' := (wX0 cy h q2 q3 q4 q5 q6 q7 q8 q9 c0 c1 c2 c3 c4 c5 c6 c7 c8 c9 c10 c11)) [0, 1, 2, 3, 4, 5, 6, 7, 8] (by decide) rfl
    have hK9 := hK.sub (tys' := [(cy, .int)]) [0] rfl
    exact W.iret (v := x5) hx hb hr (fun t ht hW => ⟨⟨x5, (), rfl, rfl, by rw [ht]; exact hP9, va_K.moved hW.alike hK9, hD9⟩, hS.F ht⟩) hS.2.2 dX0_may_61
  have B30 : ∀ (x1 x2 x3 t0 : Int32) (c2 : Nat → Int32) (H : Heap) (locs : List Loc) (ls : Array Slot), f_X0_may_b30 N c0 x1 x2 x3 t0 c2 = some res → va_P (dC, dI) vwCl (wX0 cy h q2 q3 q4 q5 q6 q7 q8 q9 c0 c1 c2 c3 c4 c5 c6 c7 c8 c9 c10 c11) H → va_D A (wX0 cy h q2 q3 q4 q5 q6 q7 q8 q9 c0 c1 c2 c3 c4 c5 c6 c7 c8 c9 c10 c11) → va_S A s.heap H locs → lv_has ls 6 [(0, .ref h), (1, .int x1), (2, .int x2), (3, .int x3)] → W p l e rm_X0_may s m ([.ref h, .int a1, .int a2, .int a3] : List Value).toArray below meth c H locs 0 0 (MQ below (z_qI dC dI cy res.1 (wX0 cy h q2 q3 q4 q5 q6 q7 q8 q9 c0 c1 res.2 c3 c4 c5 c6 c7 c8 c9 c10 c11) A) ([.ref h, .int a1, .int a2, .int a3] : List Value).toArray s 0 0 A) (F0 m 30 ls [.int t0]) := by
    clear hf hl hP hD hS
    intro x1 x2 x3 t0 c2 H locs ls hf hP hD hS hl
    unfold f_X0_may_b30 at hf
    refine lv_istore (lv' := [(5, .int t0), (0, .ref h), (1, .int x1), (2, .int x2), (3, .int x3)]) hx hb dX0_may_30 hl (by decide) rfl (fun ls hl => ?_)
    refine lv_iload_n hx hb dX0_may_32 rfl (lv_at hl 4 rfl) ?_
    refine lv_if_eq (tgt := 52) hx hb dX0_may_33 (by decide) (fun c_33 => ?_) (fun c_33 => ?_)
    · replace hf := (if_pos c_33).symm.trans hf
      refine lv_aload_n hx hb dX0_may_52 rfl (lv_at hl 1 rfl) ?_
      refine lv_iload_n hx hb dX0_may_53 rfl (lv_at hl 2 rfl) ?_
      refine lv_iload_n hx hb dX0_may_54 rfl (lv_at hl 3 rfl) ?_
      obtain ⟨u55, hu55, hf⟩ := z_ob_some hf
      have hPc := hP.sub (ws' := (wX0 cy h q2 q3 q4 q5 q6 q7 q8 q9 c0 c1 c2 c3 c4 c5 c6 c7 c8 c9 c10 c11)) [0, 1, 2, 3, 4, 5, 6, 7, 8] rfl
      have hDc := hD.sub (ws' := (wX0 cy h q2 q3 q4 q5 q6 q7 q8 q9 c0 c1 c2 c3 c4 c5 c6 c7 c8 c9 c10 c11)) [0, 1, 2, 3, 4, 5, 6, 7, 8] (by decide) rfl
      have hKc := hK.sub (tys' := [(cy, .int)]) [0] rfl
      have hFc := va_free (wc := (wX0 cy h q2 q3 q4 q5 q6 q7 q8 q9 c0 c1 c2 c3 c4 c5 c6 c7 c8 c9 c10 c11)) hD hS hA [0, 1, 2, 3, 4, 5, 6, 7, 8] rfl
      refine va_calli (va_runV (As := [.int x1, .int x2]) (rest := []) ⟨hx, hb, hml, hown, hts⟩ (c_X0_barPair N l dC dI cy h q2 q3 q4 q5 q6 q7 q8 q9 H.size c0 c1 c2 c3 c4 c5 c6 c7 c8 c9 c10 c11 x1 x2 u55 hu55) (cwV 2 hts gX0_may_X0_barPair rfl rfl rfl (by decide +kernel) ⟨Nat.le_of_ble_eq_true rfl, Nat.le_of_ble_eq_true rfl⟩) ⟨fun a U g mk q => by obtain ⟨q0, q1, qP, qK, qD⟩ := q; exact ⟨q0, q1, qP, va_K.moved (u := U) (U := U.calling g mk a) (Vm.Alike.refl U.vm) qK, qD⟩, va_recv hKc hPc (ci := 0) (q0 := 0) rfl rfl, fun U hU hW => ⟨rfl, by rw [hU], by rw [hU]; exact hPc, va_K.moved hW.alike hKc, hDc.weaken (fun _ _ _ _ => trivial)⟩⟩ rfl rfl hl.1 rfl (lv_room (Nat.le_of_ble_eq_true rfl)) dX0_may_55 ⟨Nat.zero_le _, Nat.zero_le _⟩) hS (fun q _ h => hFc q h) hFc (fun r_55 uu_ t H1 locs ht hvm hw hB hz1 hk1 hS => ?_)
      replace hw := hw.symm
      subst hw
      obtain ⟨hP1, -, hD1⟩ := hB
      rw [ht] at hP1
      obtain ⟨hP, hD⟩ := va_join (wr := []) (w1 := (wX0 cy h q2 q3 q4 q5 q6 q7 q8 q9 c0 c1 u55.2 c3 c4 c5 c6 c7 c8 c9 c10 c11)) hP hD [0, 1, 2, 3, 4, 5, 6, 7, 8] [] rfl rfl (by decide) (by decide) hk1 hFc hP1 hD1
      clear hk1 hz1 hP1 hD1 ht hPc hDc hFc
      generalize H1 = H at hP hS ⊢
      have hP : va_P (dC, dI) vwCl (wX0 cy h q2 q3 q4 q5 q6 q7 q8 q9 c0 c1 u55.2 c3 c4 c5 c6 c7 c8 c9 c10 c11) H := hP
      have hD : va_D A (wX0 cy h q2 q3 q4 q5 q6 q7 q8 q9 c0 c1 u55.2 c3 c4 c5 c6 c7 c8 c9 c10 c11) := hD
      refine lv_pop hx hb dX0_may_58 rfl ?_
      exact B59 t0 u55.2 _ _ _ hf hP hD hS (lv_sub hl [1, 0] rfl)
    · replace hf := (if_neg c_33).symm.trans hf
      refine lv_aload_n hx hb dX0_may_36 rfl (lv_at hl 1 rfl) ?_
      refine va_get (D := (dC, dI)) (ci := 0) (v := .ref q2) (C := RX0) (T := TX0) (N := 12) hx hb hts (by decide +kernel) hown hK hP 0 rfl rfl 2 (by decide) (hts (.fieldLink RX0 9 "GiftLots" "board" "[I") (by decide +kernel)) (fun _ h9 => h9) rfl dX0_may_37 ?_
      refine lv_iload_n hx hb dX0_may_40 rfl (lv_at hl 2 rfl) ?_
      refine lv_dup2_11 hx hb dX0_may_41 rfl rfl ?_
      obtain ⟨hi42, hf⟩ := z_gx_some hf
      refine va_iald hx hb hK hP 1 0 rfl rfl hi42 dX0_may_42 ?_
      refine lv_iload_n hx hb dX0_may_43 rfl (lv_at hl 3 rfl) ?_
      obtain ⟨u44, hu44, hf⟩ := z_ob_some hf
      have hPc := hP.sub (ws' := ([] : va_W)) [] rfl
      have hDc := hD.sub (ws' := ([] : va_W)) [] (by decide) rfl
      have hKc := hK.sub (tys' := [(cy, .int)]) [0] rfl
      have hFc := va_free (wc := ([] : va_W)) hD hS hA [] rfl
      refine va_calli (va_runS (As := [.int x2]) (rest := [.int (c2 (x1).toNatClampNeg), .int x1, .ref q2]) ⟨hx, hb, hml, hown, hts⟩ (c_X0_bit N l dC dI cy H.size x2 u44 hu44) (va_cwS 1 hts gX0_may_X0_bit rfl rfl rfl (by decide +kernel) ⟨Nat.le_of_ble_eq_true rfl, Nat.le_of_ble_eq_true rfl⟩) ⟨fun a U g mk q => by obtain ⟨q0, q1, qP, qK, qD⟩ := q; exact ⟨q0, q1, qP, va_K.moved (u := U) (U := U.calling g mk a) (Vm.Alike.refl U.vm) qK, qD⟩, fun U hU hW => ⟨rfl, by rw [hU], by rw [hU]; exact hPc, va_K.moved hW.alike hKc, hDc.weaken (fun _ _ _ _ => trivial)⟩⟩ rfl rfl hl.1 rfl (lv_room (Nat.le_of_ble_eq_true rfl)) dX0_may_44 ⟨Nat.zero_le _, Nat.zero_le _⟩) hS (fun q _ h => hFc q h) hFc (fun r_44 uu_ t H1 locs ht hvm hw hB hz1 hk1 hS => ?_)
      replace hw := hw.symm
      subst hw
      obtain ⟨hP1, -, hD1⟩ := hB
      rw [ht] at hP1
      obtain ⟨hP, hD⟩ := va_join (wr := (wX0 cy h q2 q3 q4 q5 q6 q7 q8 q9 c0 c1 c2 c3 c4 c5 c6 c7 c8 c9 c10 c11)) (w1 := ([] : va_W)) hP hD [] [0, 1, 2, 3, 4, 5, 6, 7, 8] rfl rfl (by decide) (by decide) hk1 hFc hP1 hD1
      clear hk1 hz1 hP1 hD1 ht hPc hDc hFc
      generalize H1 = H at hP hS ⊢
      have hP : va_P (dC, dI) vwCl (wX0 cy h q2 q3 q4 q5 q6 q7 q8 q9 c0 c1 c2 c3 c4 c5 c6 c7 c8 c9 c10 c11) H := hP
      have hD : va_D A (wX0 cy h q2 q3 q4 q5 q6 q7 q8 q9 c0 c1 c2 c3 c4 c5 c6 c7 c8 c9 c10 c11) := hD
      refine lv_ior hx hb dX0_may_47 ?_
      obtain ⟨hi48, hf⟩ := z_gx_some hf
      refine va_iast hx hb hK hP hD hS 1 0 rfl rfl hi48 dX0_may_48 (fun H locs hP hD hS => ?_)
      have hP : va_P (dC, dI) vwCl (wX0 cy h q2 q3 q4 q5 q6 q7 q8 q9 c0 c1 (upd c2 (x1).toNatClampNeg ((c2 (x1).toNatClampNeg) ||| u44)) c3 c4 c5 c6 c7 c8 c9 c10 c11) H := hP
      have hD : va_D A (wX0 cy h q2 q3 q4 q5 q6 q7 q8 q9 c0 c1 (upd c2 (x1).toNatClampNeg ((c2 (x1).toNatClampNeg) ||| u44)) c3 c4 c5 c6 c7 c8 c9 c10 c11) := hD
      refine lv_goto (tgt := 59) hx hb dX0_may_49 (by decide) ?_
      exact B59 t0 (upd c2 (x1).toNatClampNeg ((c2 (x1).toNatClampNeg) ||| u44)) _ _ _ hf hP hD hS (lv_sub hl [1, 0] rfl)
  unfold f_X0_may at hf
  refine lv_aload_n hx hb dX0_may_0 rfl (lv_at hl 0 rfl) ?_
  refine lv_iload_n hx hb dX0_may_1 rfl (lv_at hl 1 rfl) ?_
  refine lv_iload_n hx hb dX0_may_2 rfl (lv_at hl 2 rfl) ?_
  obtain ⟨u3, hu3, hf⟩ := z_ob_some hf
  have hPc := hP.sub (ws' := (wX0 cy h q2 q3 q4 q5 q6 q7 q8 q9 c0 c1 c2 c3 c4 c5 c6 c7 c8 c9 c10 c11)) [0, 1, 2, 3, 4, 5, 6, 7, 8] rfl
  have hDc := hD.sub (ws' := (wX0 cy h q2 q3 q4 q5 q6 q7 q8 q9 c0 c1 c2 c3 c4 c5 c6 c7 c8 c9 c10 c11)) [0, 1, 2, 3, 4, 5, 6, 7, 8] (by decide) rfl
  have hKc := hK.sub (tys' := [(cy, .int)]) [0] rfl
  have hFc := va_free (wc := (wX0 cy h q2 q3 q4 q5 q6 q7 q8 q9 c0 c1 c2 c3 c4 c5 c6 c7 c8 c9 c10 c11)) hD hS hA [0, 1, 2, 3, 4, 5, 6, 7, 8] rfl
  refine va_calli (va_runV (As := [.int a1, .int a2]) (rest := []) ⟨hx, hb, hml, hown, hts⟩ (c_X0_refusePair N l dC dI cy h q2 q3 q4 q5 q6 q7 q8 q9 s.heap.size c0 c1 c2 c3 c4 c5 c6 c7 c8 c9 c10 c11 a1 a2 u3 hu3) (cwV 2 hts gX0_may_X0_refusePair rfl rfl rfl (by decide +kernel) ⟨Nat.le_of_ble_eq_true rfl, Nat.le_of_ble_eq_true rfl⟩) ⟨fun a U g mk q => by obtain ⟨q0, q1, qP, qK, qD⟩ := q; exact ⟨q0, q1, qP, va_K.moved (u := U) (U := U.calling g mk a) (Vm.Alike.refl U.vm) qK, qD⟩, va_recv hKc hPc (ci := 0) (q0 := 0) rfl rfl, fun U hU hW => ⟨rfl, by rw [hU], by rw [hU]; exact hPc, va_K.moved hW.alike hKc, hDc.weaken (fun _ _ _ _ => trivial)⟩⟩ rfl rfl hl.1 rfl (lv_room (Nat.le_of_ble_eq_true rfl)) dX0_may_3 ⟨Nat.zero_le _, Nat.zero_le _⟩) hS (fun q _ h => hFc q h) hFc (fun r_3 uu_ t H1 locs ht hvm hw hB hz1 hk1 hS => ?_)
  replace hw := hw.symm
  subst hw
  obtain ⟨hP1, -, hD1⟩ := hB
  rw [ht] at hP1
  obtain ⟨hP, hD⟩ := va_join (wr := []) (w1 := (wX0 cy h q2 q3 q4 q5 q6 q7 q8 q9 c0 c1 c2 c3 c4 c5 c6 c7 c8 c9 c10 c11)) hP hD [0, 1, 2, 3, 4, 5, 6, 7, 8] [] rfl rfl (by decide) (by decide) hk1 hFc hP1 hD1
  clear hk1 hz1 hP1 hD1 ht hPc hDc hFc
  generalize H1 = H at hP hS ⊢
  have hP : va_P (dC, dI) vwCl (wX0 cy h q2 q3 q4 q5 q6 q7 q8 q9 c0 c1 c2 c3 c4 c5 c6 c7 c8 c9 c10 c11) H := hP
  have hD : va_D A (wX0 cy h q2 q3 q4 q5 q6 q7 q8 q9 c0 c1 c2 c3 c4 c5 c6 c7 c8 c9 c10 c11) := hD
  refine lv_istore (lv' := [(4, .int u3), (0, .ref h), (1, .int a1), (2, .int a2), (3, .int a3)]) hx hb dX0_may_6 hl (by decide) rfl (fun ls hl => ?_)
  refine lv_iload hx hb dX0_may_8 (lv_at hl 0 rfl) ?_
  refine lv_if_eq (tgt := 16) hx hb dX0_may_10 (by decide) (fun c_10 => ?_) (fun c_10 => ?_)
  · replace hf := (if_pos c_10).symm.trans hf
    refine lv_aload_n hx hb dX0_may_16 rfl (lv_at hl 1 rfl) ?_
    refine lv_iload_n hx hb dX0_may_17 rfl (lv_at hl 2 rfl) ?_
    refine lv_iload_n hx hb dX0_may_18 rfl (lv_at hl 3 rfl) ?_
    obtain ⟨u19, hu19, hf⟩ := z_ob_some hf
    have hPc := hP.sub (ws' := (wX0 cy h q2 q3 q4 q5 q6 q7 q8 q9 c0 c1 c2 c3 c4 c5 c6 c7 c8 c9 c10 c11)) [0, 1, 2, 3, 4, 5, 6, 7, 8] rfl
    have hDc := hD.sub (ws' := (wX0 cy h q2 q3 q4 q5 q6 q7 q8 q9 c0 c1 c2 c3 c4 c5 c6 c7 c8 c9 c10 c11)) [0, 1, 2, 3, 4, 5, 6, 7, 8] (by decide) rfl
    have hKc := hK.sub (tys' := [(cy, .int)]) [0] rfl
    have hFc := va_free (wc := (wX0 cy h q2 q3 q4 q5 q6 q7 q8 q9 c0 c1 c2 c3 c4 c5 c6 c7 c8 c9 c10 c11)) hD hS hA [0, 1, 2, 3, 4, 5, 6, 7, 8] rfl
    refine va_calli (va_runV (As := [.int a1, .int a2]) (rest := []) ⟨hx, hb, hml, hown, hts⟩ (c_X0_mayGive N l dC dI cy h q2 q3 q4 q5 q6 q7 q8 q9 H.size c0 c1 c2 c3 c4 c5 c6 c7 c8 c9 c10 c11 a1 a2 u19 hu19) (cwV 2 hts gX0_may_X0_mayGive rfl rfl rfl (by decide +kernel) ⟨Nat.le_of_ble_eq_true rfl, Nat.le_of_ble_eq_true rfl⟩) ⟨fun a U g mk q => by obtain ⟨q0, q1, qP, qK, qD⟩ := q; exact ⟨q0, q1, qP, va_K.moved (u := U) (U := U.calling g mk a) (Vm.Alike.refl U.vm) qK, qD⟩, va_recv hKc hPc (ci := 0) (q0 := 0) rfl rfl, fun U hU hW => ⟨rfl, by rw [hU], by rw [hU]; exact hPc, va_K.moved hW.alike hKc, hDc.weaken (fun _ _ _ _ => trivial)⟩⟩ rfl rfl hl.1 rfl (lv_room (Nat.le_of_ble_eq_true rfl)) dX0_may_19 ⟨Nat.zero_le _, Nat.zero_le _⟩) hS (fun q _ h => hFc q h) hFc (fun r_19 uu_ t H1 locs ht hvm hw hB hz1 hk1 hS => ?_)
    replace hw := hw.symm
    subst hw
    obtain ⟨hP1, -, hD1⟩ := hB
    rw [ht] at hP1
    obtain ⟨hP, hD⟩ := va_join (wr := []) (w1 := (wX0 cy h q2 q3 q4 q5 q6 q7 q8 q9 c0 c1 c2 c3 c4 c5 c6 c7 c8 c9 c10 c11)) hP hD [0, 1, 2, 3, 4, 5, 6, 7, 8] [] rfl rfl (by decide) (by decide) hk1 hFc hP1 hD1
    clear hk1 hz1 hP1 hD1 ht hPc hDc hFc
    generalize H1 = H at hP hS ⊢
    have hP : va_P (dC, dI) vwCl (wX0 cy h q2 q3 q4 q5 q6 q7 q8 q9 c0 c1 c2 c3 c4 c5 c6 c7 c8 c9 c10 c11) H := hP
    have hD : va_D A (wX0 cy h q2 q3 q4 q5 q6 q7 q8 q9 c0 c1 c2 c3 c4 c5 c6 c7 c8 c9 c10 c11) := hD
    refine lv_if_eq (tgt := 29) hx hb dX0_may_22 (by decide) (fun c_22 => ?_) (fun c_22 => ?_)
    · replace hf := (if_pos c_22).symm.trans hf
      refine lv_iconst (v := (0 : Int32)) hx hb dX0_may_29 (by decide) ?_
      exact B30 a1 a2 a3 (0 : Int32) c2 _ _ _ hf hP hD hS (lv_sub hl [1, 2, 3, 4] rfl)
    · replace hf := (if_neg c_22).symm.trans hf
      refine lv_iconst (v := (1 : Int32)) hx hb dX0_may_25 (by decide) ?_
      refine lv_goto (tgt := 30) hx hb dX0_may_26 (by decide) ?_
      exact B30 a1 a2 a3 (1 : Int32) c2 _ _ _ hf hP hD hS (lv_sub hl [1, 2, 3, 4] rfl)
  · replace hf := (if_neg c_10).symm.trans hf
    refine lv_iload hx hb dX0_may_13 (lv_at hl 0 rfl) ?_
    have hres := Option.some.inj hf
    subst hres
    have hP9 := hP.sub (ws' := (wX0 cy h q2 q3 q4 q5 q6 q7 q8 q9 c0 c1 c2 c3 c4 c5 c6 c7 c8 c9 c10 c11)) [0, 1, 2, 3, 4, 5, 6, 7, 8] rfl
    have hD9 := hD.sub (ws' := (wX0 cy h q2 q3 q4 q5 q6 q7 q8 q9 c0 c1 c2 c3 c4 c5 c6 c7 c8 c9 c10 c11)) [0, 1, 2, 3, 4, 5, 6, 7, 8] (by decide) rfl
    have hK9 := hK.sub (tys' := [(cy, .int)]) [0] rfl
    exact W.iret (v := u3) hx hb hr (fun t ht hW => ⟨⟨u3, (), rfl, rfl, by rw [ht]; exact hP9, va_K.moved hW.alike hK9, hD9⟩, hS.F ht⟩) hS.2.2 dX0_may_15

set_option maxRecDepth 20000 in
theorem ggX0_couple_X0_refusePair : GoodIn wsX0_couple wsX0_refusePair := goodIn_r _ [5, 6, 7, 8, 4, 9, 10, 23, 24, 25, 26, 27, 28, 29, 30, 31, 32, 33, 34] (by decide +kernel) (by decide +kernel)
set_option maxRecDepth 20000 in
theorem gX0_couple_X0_refusePair : GoodIn wsX0_couple (wsV RX0 42 RX0 yX0_refusePair wsX0_refusePair) := goodIn_app (goodIn_of _ (by decide +kernel)) ggX0_couple_X0_refusePair
set_option maxRecDepth 20000 in
theorem ggX0_couple_X0_barPair : GoodIn wsX0_couple wsX0_barPair := goodIn_r _ [14, 15, 16, 17, 18, 4, 19, 6, 7, 8, 9, 10, 20, 21, 22, 23, 24, 25, 26, 27, 28, 29, 30, 31, 32, 33, 34] (by decide +kernel) (by decide +kernel)
set_option maxRecDepth 20000 in
theorem gX0_couple_X0_barPair : GoodIn wsX0_couple (wsV RX0 54 RX0 yX0_barPair wsX0_barPair) := goodIn_app (goodIn_of _ (by decide +kernel)) ggX0_couple_X0_barPair
theorem dX0_couple_0 : decode cX0_couple 0 = .ok (.aload_n 0, 1) := by decide +kernel
theorem dX0_couple_1 : decode cX0_couple 1 = .ok (.iload_n 1, 1) := by decide +kernel
theorem dX0_couple_2 : decode cX0_couple 2 = .ok (.iload_n 2, 1) := by decide +kernel
theorem dX0_couple_3 : decode cX0_couple 3 = .ok (.invokevirtual 42, 3) := by decide +kernel
theorem dX0_couple_6 : decode cX0_couple 6 = .ok (.istore_n 3, 1) := by decide +kernel
theorem dX0_couple_7 : decode cX0_couple 7 = .ok (.iload_n 3, 1) := by decide +kernel
theorem dX0_couple_8 : decode cX0_couple 8 = .ok (.ifCond .eq 5, 3) := by decide +kernel
theorem dX0_couple_11 : decode cX0_couple 11 = .ok (.iload_n 3, 1) := by decide +kernel
theorem dX0_couple_12 : decode cX0_couple 12 = .ok (.ireturn, 1) := by decide +kernel
theorem dX0_couple_13 : decode cX0_couple 13 = .ok (.aload_n 0, 1) := by decide +kernel
theorem dX0_couple_14 : decode cX0_couple 14 = .ok (.iload_n 1, 1) := by decide +kernel
theorem dX0_couple_15 : decode cX0_couple 15 = .ok (.iload_n 2, 1) := by decide +kernel
theorem dX0_couple_16 : decode cX0_couple 16 = .ok (.invokevirtual 54, 3) := by decide +kernel
theorem dX0_couple_19 : decode cX0_couple 19 = .ok (.aload_n 0, 1) := by decide +kernel
theorem dX0_couple_20 : decode cX0_couple 20 = .ok (.iload_n 2, 1) := by decide +kernel
theorem dX0_couple_21 : decode cX0_couple 21 = .ok (.iload_n 1, 1) := by decide +kernel
theorem dX0_couple_22 : decode cX0_couple 22 = .ok (.invokevirtual 54, 3) := by decide +kernel
theorem dX0_couple_25 : decode cX0_couple 25 = .ok (.iadd, 1) := by decide +kernel
theorem dX0_couple_26 : decode cX0_couple 26 = .ok (.ireturn, 1) := by decide +kernel
abbrev rm_X0_couple : Room := { frames := 3, cells := 0, slots := 0, locals := 65 }
set_option maxHeartbeats 4000000 in
set_option maxRecDepth 100000 in
theorem c_X0_couple (N : Nat) (l : Launch) (dC : Nat → ClassId) (dI : Nat → Nat → Nat) (cy : ClassId) (h q2 q3 q4 q5 q6 q7 q8 q9 : Nat) (sz : Nat) (c0 : Int32) (c1 : Int32) (c2 : Nat → Int32) (c3 : Nat → Int32) (c4 : Nat → Int32) (c5 : Nat → Int32) (c6 : Nat → Int32) (c7 : Nat → Int32) (c8 : Nat → Int32) (c9 : Nat → Int32) (c10 : Int32) (c11 : Int32) (a1 a2 : Int32) (res : Int32 × (Nat → Int32)) (hf : f_X0_couple N a1 a2 c0 c2 = some res) : Met l yX0_couple wsX0_couple rm_X0_couple (va_Pc [.ref h, .int a1, .int a2] (fun U => U.heap.size = sz ∧ va_P (dC, dI) vwCl (wX0 cy h q2 q3 q4 q5 q6 q7 q8 q9 c0 c1 c2 c3 c4 c5 c6 c7 c8 c9 c10 c11) U.heap ∧ va_K (dC, dI) vwCl [(cy, .int)] U ∧ va_D (fun _ => True) (wX0 cy h q2 q3 q4 q5 q6 q7 q8 q9 c0 c1 c2 c3 c4 c5 c6 c7 c8 c9 c10 c11))) (z_qI dC dI cy res.1 (wX0 cy h q2 q3 q4 q5 q6 q7 q8 q9 c0 c1 res.2 c3 c4 c5 c6 c7 c8 c9 c10 c11) (va_A (wX0 cy h q2 q3 q4 q5 q6 q7 q8 q9 c0 c1 c2 c3 c4 c5 c6 c7 c8 c9 c10 c11) sz)) 0 0 (va_A (wX0 cy h q2 q3 q4 q5 q6 q7 q8 q9 c0 c1 c2 c3 c4 c5 c6 c7 c8 c9 c10 c11) sz) := by
  refine Met.ofW (cc := cX0_couple) (maxL := 4) (ret := (some .int)) (by decide) rfl ?_
  intro p e s m args below meth c s₁ B hml hv
  obtain ⟨rfl, hsz, hP, hK, hD0⟩ := hv
  have hx := B.exec
  have hb := B.bytes
  have hr := B.returns
  have hts := atoms_spec (ws := wsX0_couple) B.pre
  have hown : s.vm.findClass RX0 = some m.cls := findClass_of_methodNamed B.named
  have hlocks := B.notSynchronized
  subst hsz
  have hD := hD0.self (sz := s.heap.size)
  generalize hAe : va_A (wX0 cy h q2 q3 q4 q5 q6 q7 q8 q9 c0 c1 c2 c3 c4 c5 c6 c7 c8 c9 c10 c11) s.heap.size = A at hD ⊢
  have hA : ∀ q : Nat, s.heap.size ≤ q → A q := fun q h => by rw [← hAe]; exact Or.inr h
  have hS : va_S A s.heap s.heap [] := va_S.rf
  have hP : va_P (dC, dI) vwCl (wX0 cy h q2 q3 q4 q5 q6 q7 q8 q9 c0 c1 c2 c3 c4 c5 c6 c7 c8 c9 c10 c11) s.heap := hP
  have hl := lv_entry ([.ref h, .int a1, .int a2]) (n := 4) (Nat.le_of_ble_eq_true rfl)
  rw [lg_entry_eq]
  generalize (lg_sl ([.ref h, .int a1, .int a2]) ++ List.replicate (4 - (lg_sl ([.ref h, .int a1, .int a2])).length) Slot.unset).toArray = ls at hl ⊢
  have hl : lv_has ls 4 [(0, .ref h), (1, .int a1), (2, .int a2)] := hl
  unfold f_X0_couple at hf
  refine lv_aload_n hx hb dX0_couple_0 rfl (lv_at hl 0 rfl) ?_
  refine lv_iload_n hx hb dX0_couple_1 rfl (lv_at hl 1 rfl) ?_
  refine lv_iload_n hx hb dX0_couple_2 rfl (lv_at hl 2 rfl) ?_
  obtain ⟨u3, hu3, hf⟩ := z_ob_some hf
  have hPc := hP.sub (ws' := (wX0 cy h q2 q3 q4 q5 q6 q7 q8 q9 c0 c1 c2 c3 c4 c5 c6 c7 c8 c9 c10 c11)) [0, 1, 2, 3, 4, 5, 6, 7, 8] rfl
  have hDc := hD.sub (ws' := (wX0 cy h q2 q3 q4 q5 q6 q7 q8 q9 c0 c1 c2 c3 c4 c5 c6 c7 c8 c9 c10 c11)) [0, 1, 2, 3, 4, 5, 6, 7, 8] (by decide) rfl
  have hKc := hK.sub (tys' := [(cy, .int)]) [0] rfl
  have hFc := va_free (wc := (wX0 cy h q2 q3 q4 q5 q6 q7 q8 q9 c0 c1 c2 c3 c4 c5 c6 c7 c8 c9 c10 c11)) hD hS hA [0, 1, 2, 3, 4, 5, 6, 7, 8] rfl
  refine va_calli (va_runV (As := [.int a1, .int a2]) (rest := []) ⟨hx, hb, hml, hown, hts⟩ (c_X0_refusePair N l dC dI cy h q2 q3 q4 q5 q6 q7 q8 q9 s.heap.size c0 c1 c2 c3 c4 c5 c6 c7 c8 c9 c10 c11 a1 a2 u3 hu3) (cwV 2 hts gX0_couple_X0_refusePair rfl rfl rfl (by decide +kernel) ⟨Nat.le_of_ble_eq_true rfl, Nat.le_of_ble_eq_true rfl⟩) ⟨fun a U g mk q => by obtain ⟨q0, q1, qP, qK, qD⟩ := q; exact ⟨q0, q1, qP, va_K.moved (u := U) (U := U.calling g mk a) (Vm.Alike.refl U.vm) qK, qD⟩, va_recv hKc hPc (ci := 0) (q0 := 0) rfl rfl, fun U hU hW => ⟨rfl, by rw [hU], by rw [hU]; exact hPc, va_K.moved hW.alike hKc, hDc.weaken (fun _ _ _ _ => trivial)⟩⟩ rfl rfl hl.1 rfl (lv_room (Nat.le_of_ble_eq_true rfl)) dX0_couple_3 ⟨Nat.zero_le _, Nat.zero_le _⟩) hS (fun q _ h => hFc q h) hFc (fun r_3 uu_ t H1 locs ht hvm hw hB hz1 hk1 hS => ?_)
  replace hw := hw.symm
  subst hw
  obtain ⟨hP1, -, hD1⟩ := hB
  rw [ht] at hP1
  obtain ⟨hP, hD⟩ := va_join (wr := []) (w1 := (wX0 cy h q2 q3 q4 q5 q6 q7 q8 q9 c0 c1 c2 c3 c4 c5 c6 c7 c8 c9 c10 c11)) hP hD [0, 1, 2, 3, 4, 5, 6, 7, 8] [] rfl rfl (by decide) (by decide) hk1 hFc hP1 hD1
  clear hk1 hz1 hP1 hD1 ht hPc hDc hFc
  generalize H1 = H at hP hS ⊢
  have hP : va_P (dC, dI) vwCl (wX0 cy h q2 q3 q4 q5 q6 q7 q8 q9 c0 c1 c2 c3 c4 c5 c6 c7 c8 c9 c10 c11) H := hP
  have hD : va_D A (wX0 cy h q2 q3 q4 q5 q6 q7 q8 q9 c0 c1 c2 c3 c4 c5 c6 c7 c8 c9 c10 c11) := hD
  refine lv_istore_n (lv' := [(3, .int u3), (0, .ref h), (1, .int a1), (2, .int a2)]) hx hb dX0_couple_6 rfl hl (by decide) rfl (fun ls hl => ?_)
  refine lv_iload_n hx hb dX0_couple_7 rfl (lv_at hl 0 rfl) ?_
  refine lv_if_eq (tgt := 13) hx hb dX0_couple_8 (by decide) (fun c_8 => ?_) (fun c_8 => ?_)
  · replace hf := (if_pos c_8).symm.trans hf
    refine lv_aload_n hx hb dX0_couple_13 rfl (lv_at hl 1 rfl) ?_
    refine lv_iload_n hx hb dX0_couple_14 rfl (lv_at hl 2 rfl) ?_
    refine lv_iload_n hx hb dX0_couple_15 rfl (lv_at hl 3 rfl) ?_
    obtain ⟨u16, hu16, hf⟩ := z_ob_some hf
    have hPc := hP.sub (ws' := (wX0 cy h q2 q3 q4 q5 q6 q7 q8 q9 c0 c1 c2 c3 c4 c5 c6 c7 c8 c9 c10 c11)) [0, 1, 2, 3, 4, 5, 6, 7, 8] rfl
    have hDc := hD.sub (ws' := (wX0 cy h q2 q3 q4 q5 q6 q7 q8 q9 c0 c1 c2 c3 c4 c5 c6 c7 c8 c9 c10 c11)) [0, 1, 2, 3, 4, 5, 6, 7, 8] (by decide) rfl
    have hKc := hK.sub (tys' := [(cy, .int)]) [0] rfl
    have hFc := va_free (wc := (wX0 cy h q2 q3 q4 q5 q6 q7 q8 q9 c0 c1 c2 c3 c4 c5 c6 c7 c8 c9 c10 c11)) hD hS hA [0, 1, 2, 3, 4, 5, 6, 7, 8] rfl
    refine va_calli (va_runV (As := [.int a1, .int a2]) (rest := []) ⟨hx, hb, hml, hown, hts⟩ (c_X0_barPair N l dC dI cy h q2 q3 q4 q5 q6 q7 q8 q9 H.size c0 c1 c2 c3 c4 c5 c6 c7 c8 c9 c10 c11 a1 a2 u16 hu16) (cwV 2 hts gX0_couple_X0_barPair rfl rfl rfl (by decide +kernel) ⟨Nat.le_of_ble_eq_true rfl, Nat.le_of_ble_eq_true rfl⟩) ⟨fun a U g mk q => by obtain ⟨q0, q1, qP, qK, qD⟩ := q; exact ⟨q0, q1, qP, va_K.moved (u := U) (U := U.calling g mk a) (Vm.Alike.refl U.vm) qK, qD⟩, va_recv hKc hPc (ci := 0) (q0 := 0) rfl rfl, fun U hU hW => ⟨rfl, by rw [hU], by rw [hU]; exact hPc, va_K.moved hW.alike hKc, hDc.weaken (fun _ _ _ _ => trivial)⟩⟩ rfl rfl hl.1 rfl (lv_room (Nat.le_of_ble_eq_true rfl)) dX0_couple_16 ⟨Nat.zero_le _, Nat.zero_le _⟩) hS (fun q _ h => hFc q h) hFc (fun r_16 uu_ t H1 locs ht hvm hw hB hz1 hk1 hS => ?_)
    replace hw := hw.symm
    subst hw
    obtain ⟨hP1, -, hD1⟩ := hB
    rw [ht] at hP1
    obtain ⟨hP, hD⟩ := va_join (wr := []) (w1 := (wX0 cy h q2 q3 q4 q5 q6 q7 q8 q9 c0 c1 u16.2 c3 c4 c5 c6 c7 c8 c9 c10 c11)) hP hD [0, 1, 2, 3, 4, 5, 6, 7, 8] [] rfl rfl (by decide) (by decide) hk1 hFc hP1 hD1
    clear hk1 hz1 hP1 hD1 ht hPc hDc hFc
    generalize H1 = H at hP hS ⊢
    have hP : va_P (dC, dI) vwCl (wX0 cy h q2 q3 q4 q5 q6 q7 q8 q9 c0 c1 u16.2 c3 c4 c5 c6 c7 c8 c9 c10 c11) H := hP
    have hD : va_D A (wX0 cy h q2 q3 q4 q5 q6 q7 q8 q9 c0 c1 u16.2 c3 c4 c5 c6 c7 c8 c9 c10 c11) := hD
    refine lv_aload_n hx hb dX0_couple_19 rfl (lv_at hl 1 rfl) ?_
    refine lv_iload_n hx hb dX0_couple_20 rfl (lv_at hl 3 rfl) ?_
    refine lv_iload_n hx hb dX0_couple_21 rfl (lv_at hl 2 rfl) ?_
    obtain ⟨u22, hu22, hf⟩ := z_ob_some hf
    have hPc := hP.sub (ws' := (wX0 cy h q2 q3 q4 q5 q6 q7 q8 q9 c0 c1 u16.2 c3 c4 c5 c6 c7 c8 c9 c10 c11)) [0, 1, 2, 3, 4, 5, 6, 7, 8] rfl
    have hDc := hD.sub (ws' := (wX0 cy h q2 q3 q4 q5 q6 q7 q8 q9 c0 c1 u16.2 c3 c4 c5 c6 c7 c8 c9 c10 c11)) [0, 1, 2, 3, 4, 5, 6, 7, 8] (by decide) rfl
    have hKc := hK.sub (tys' := [(cy, .int)]) [0] rfl
    have hFc := va_free (wc := (wX0 cy h q2 q3 q4 q5 q6 q7 q8 q9 c0 c1 u16.2 c3 c4 c5 c6 c7 c8 c9 c10 c11)) hD hS hA [0, 1, 2, 3, 4, 5, 6, 7, 8] rfl
    refine va_calli (va_runV (As := [.int a2, .int a1]) (rest := [.int u16.1]) ⟨hx, hb, hml, hown, hts⟩ (c_X0_barPair N l dC dI cy h q2 q3 q4 q5 q6 q7 q8 q9 H.size c0 c1 u16.2 c3 c4 c5 c6 c7 c8 c9 c10 c11 a2 a1 u22 hu22) (cwV 2 hts gX0_couple_X0_barPair rfl rfl rfl (by decide +kernel) ⟨Nat.le_of_ble_eq_true rfl, Nat.le_of_ble_eq_true rfl⟩) ⟨fun a U g mk q => by obtain ⟨q0, q1, qP, qK, qD⟩ := q; exact ⟨q0, q1, qP, va_K.moved (u := U) (U := U.calling g mk a) (Vm.Alike.refl U.vm) qK, qD⟩, va_recv hKc hPc (ci := 0) (q0 := 0) rfl rfl, fun U hU hW => ⟨rfl, by rw [hU], by rw [hU]; exact hPc, va_K.moved hW.alike hKc, hDc.weaken (fun _ _ _ _ => trivial)⟩⟩ rfl rfl hl.1 rfl (lv_room (Nat.le_of_ble_eq_true rfl)) dX0_couple_22 ⟨Nat.zero_le _, Nat.zero_le _⟩) hS (fun q _ h => hFc q h) hFc (fun r_22 uu_ t H1 locs ht hvm hw hB hz1 hk1 hS => ?_)
    replace hw := hw.symm
    subst hw
    obtain ⟨hP1, -, hD1⟩ := hB
    rw [ht] at hP1
    obtain ⟨hP, hD⟩ := va_join (wr := []) (w1 := (wX0 cy h q2 q3 q4 q5 q6 q7 q8 q9 c0 c1 u22.2 c3 c4 c5 c6 c7 c8 c9 c10 c11)) hP hD [0, 1, 2, 3, 4, 5, 6, 7, 8] [] rfl rfl (by decide) (by decide) hk1 hFc hP1 hD1
    clear hk1 hz1 hP1 hD1 ht hPc hDc hFc
    generalize H1 = H at hP hS ⊢
    have hP : va_P (dC, dI) vwCl (wX0 cy h q2 q3 q4 q5 q6 q7 q8 q9 c0 c1 u22.2 c3 c4 c5 c6 c7 c8 c9 c10 c11) H := hP
    have hD : va_D A (wX0 cy h q2 q3 q4 q5 q6 q7 q8 q9 c0 c1 u22.2 c3 c4 c5 c6 c7 c8 c9 c10 c11) := hD
    refine lv_iadd hx hb dX0_couple_25 ?_
    have hres := Option.some.inj hf
    subst hres
    have hP9 := hP.sub (ws' := (wX0 cy h q2 q3 q4 q5 q6 q7 q8 q9 c0 c1 u22.2 c3 c4 c5 c6 c7 c8 c9 c10 c11)) [0, 1, 2, 3, 4, 5, 6, 7, 8] rfl
    have hD9 := hD.sub (ws' := (wX0 cy h q2 q3 q4 q5 q6 q7 q8 q9 c0 c1 u22.2 c3 c4 c5 c6 c7 c8 c9 c10 c11)) [0, 1, 2, 3, 4, 5, 6, 7, 8] (by decide) rfl
    have hK9 := hK.sub (tys' := [(cy, .int)]) [0] rfl
    exact W.iret (v := u16.1 + u22.1) hx hb hr (fun t ht hW => ⟨⟨u16.1 + u22.1, (), rfl, rfl, by rw [ht]; exact hP9, va_K.moved hW.alike hK9, hD9⟩, hS.F ht⟩) hS.2.2 dX0_couple_26
  · replace hf := (if_neg c_8).symm.trans hf
    refine lv_iload_n hx hb dX0_couple_11 rfl (lv_at hl 0 rfl) ?_
    have hres := Option.some.inj hf
    subst hres
    have hP9 := hP.sub (ws' := (wX0 cy h q2 q3 q4 q5 q6 q7 q8 q9 c0 c1 c2 c3 c4 c5 c6 c7 c8 c9 c10 c11)) [0, 1, 2, 3, 4, 5, 6, 7, 8] rfl
    have hD9 := hD.sub (ws' := (wX0 cy h q2 q3 q4 q5 q6 q7 q8 q9 c0 c1 c2 c3 c4 c5 c6 c7 c8 c9 c10 c11)) [0, 1, 2, 3, 4, 5, 6, 7, 8] (by decide) rfl
    have hK9 := hK.sub (tys' := [(cy, .int)]) [0] rfl
    exact W.iret (v := u3) hx hb hr (fun t ht hW => ⟨⟨u3, (), rfl, rfl, by rw [ht]; exact hP9, va_K.moved hW.alike hK9, hD9⟩, hS.F ht⟩) hS.2.2 dX0_couple_12

set_option maxRecDepth 20000 in
theorem ggX0_bar_X0_barPair : GoodIn wsX0_bar wsX0_barPair := goodIn_r _ [7, 8, 9, 10, 11, 6, 12, 13, 14, 15, 16, 1, 17, 18, 19, 20, 21, 22, 23, 24, 25, 26, 27, 28, 29, 30, 31] (by decide +kernel) (by decide +kernel)
set_option maxRecDepth 20000 in
theorem gX0_bar_X0_barPair : GoodIn wsX0_bar (wsV RX0 54 RX0 yX0_barPair wsX0_barPair) := goodIn_app (goodIn_of _ (by decide +kernel)) ggX0_bar_X0_barPair
theorem dX0_bar_0 : decode cX0_bar 0 = .ok (.iconst 0, 1) := by decide +kernel
theorem dX0_bar_1 : decode cX0_bar 1 = .ok (.istore_n 1, 1) := by decide +kernel
theorem dX0_bar_2 : decode cX0_bar 2 = .ok (.iconst 0, 1) := by decide +kernel
theorem dX0_bar_3 : decode cX0_bar 3 = .ok (.istore_n 2, 1) := by decide +kernel
theorem dX0_bar_4 : decode cX0_bar 4 = .ok (.iload_n 2, 1) := by decide +kernel
theorem dX0_bar_5 : decode cX0_bar 5 = .ok (.aload_n 0, 1) := by decide +kernel
theorem dX0_bar_6 : decode cX0_bar 6 = .ok (.getfield 38, 3) := by decide +kernel
theorem dX0_bar_9 : decode cX0_bar 9 = .ok (.if_icmp .ge 23, 3) := by decide +kernel
theorem dX0_bar_12 : decode cX0_bar 12 = .ok (.iload_n 1, 1) := by decide +kernel
theorem dX0_bar_13 : decode cX0_bar 13 = .ok (.aload_n 0, 1) := by decide +kernel
theorem dX0_bar_14 : decode cX0_bar 14 = .ok (.iload_n 2, 1) := by decide +kernel
theorem dX0_bar_15 : decode cX0_bar 15 = .ok (.aload_n 0, 1) := by decide +kernel
theorem dX0_bar_16 : decode cX0_bar 16 = .ok (.getfield 13, 3) := by decide +kernel
theorem dX0_bar_19 : decode cX0_bar 19 = .ok (.iload_n 2, 1) := by decide +kernel
theorem dX0_bar_20 : decode cX0_bar 20 = .ok (.iaload, 1) := by decide +kernel
theorem dX0_bar_21 : decode cX0_bar 21 = .ok (.invokevirtual 54, 3) := by decide +kernel
theorem dX0_bar_24 : decode cX0_bar 24 = .ok (.iadd, 1) := by decide +kernel
theorem dX0_bar_25 : decode cX0_bar 25 = .ok (.istore_n 1, 1) := by decide +kernel
theorem dX0_bar_26 : decode cX0_bar 26 = .ok (.iinc 2 1, 3) := by decide +kernel
theorem dX0_bar_29 : decode cX0_bar 29 = .ok (.goto (-25), 3) := by decide +kernel
theorem dX0_bar_32 : decode cX0_bar 32 = .ok (.iload_n 1, 1) := by decide +kernel
theorem dX0_bar_33 : decode cX0_bar 33 = .ok (.ireturn, 1) := by decide +kernel
abbrev rm_X0_bar : Room := { frames := 3, cells := 0, slots := 0, locals := 65 }
set_option maxHeartbeats 4000000 in
set_option maxRecDepth 100000 in
theorem c_X0_bar (N : Nat) (l : Launch) (dC : Nat → ClassId) (dI : Nat → Nat → Nat) (cy : ClassId) (h q2 q3 q4 q5 q6 q7 q8 q9 : Nat) (sz : Nat) (c0 : Int32) (c1 : Int32) (c2 : Nat → Int32) (c3 : Nat → Int32) (c4 : Nat → Int32) (c5 : Nat → Int32) (c6 : Nat → Int32) (c7 : Nat → Int32) (c8 : Nat → Int32) (c9 : Nat → Int32) (c10 : Int32) (c11 : Int32) (res : Int32 × (Nat → Int32)) (hf : f_X0_bar N c0 c2 c3 = some res) : Met l yX0_bar wsX0_bar rm_X0_bar (va_Pc [.ref h] (fun U => U.heap.size = sz ∧ va_P (dC, dI) vwCl (wX0 cy h q2 q3 q4 q5 q6 q7 q8 q9 c0 c1 c2 c3 c4 c5 c6 c7 c8 c9 c10 c11) U.heap ∧ va_K (dC, dI) vwCl [(cy, .int)] U ∧ va_D (fun _ => True) (wX0 cy h q2 q3 q4 q5 q6 q7 q8 q9 c0 c1 c2 c3 c4 c5 c6 c7 c8 c9 c10 c11))) (z_qI dC dI cy res.1 (wX0 cy h q2 q3 q4 q5 q6 q7 q8 q9 c0 c1 res.2 c3 c4 c5 c6 c7 c8 c9 c10 c11) (va_A (wX0 cy h q2 q3 q4 q5 q6 q7 q8 q9 c0 c1 c2 c3 c4 c5 c6 c7 c8 c9 c10 c11) sz)) 0 0 (va_A (wX0 cy h q2 q3 q4 q5 q6 q7 q8 q9 c0 c1 c2 c3 c4 c5 c6 c7 c8 c9 c10 c11) sz) := by
  refine Met.ofW (cc := cX0_bar) (maxL := 3) (ret := (some .int)) (by decide) rfl ?_
  intro p e s m args below meth c s₁ B hml hv
  obtain ⟨rfl, hsz, hP, hK, hD0⟩ := hv
  have hx := B.exec
  have hb := B.bytes
  have hr := B.returns
  have hts := atoms_spec (ws := wsX0_bar) B.pre
  have hown : s.vm.findClass RX0 = some m.cls := findClass_of_methodNamed B.named
  have hlocks := B.notSynchronized
  subst hsz
  have hD := hD0.self (sz := s.heap.size)
  generalize hAe : va_A (wX0 cy h q2 q3 q4 q5 q6 q7 q8 q9 c0 c1 c2 c3 c4 c5 c6 c7 c8 c9 c10 c11) s.heap.size = A at hD ⊢
  have hA : ∀ q : Nat, s.heap.size ≤ q → A q := fun q h => by rw [← hAe]; exact Or.inr h
  have hS : va_S A s.heap s.heap [] := va_S.rf
  have hP : va_P (dC, dI) vwCl (wX0 cy h q2 q3 q4 q5 q6 q7 q8 q9 c0 c1 c2 c3 c4 c5 c6 c7 c8 c9 c10 c11) s.heap := hP
  have hl := lv_entry ([.ref h]) (n := 3) (Nat.le_of_ble_eq_true rfl)
  rw [lg_entry_eq]
  generalize (lg_sl ([.ref h]) ++ List.replicate (3 - (lg_sl ([.ref h])).length) Slot.unset).toArray = ls at hl ⊢
  have hl : lv_has ls 3 [(0, .ref h)] := hl
  have B4 : ∀ n : Nat, ∀ (x1 x2 : Int32) (c2 : Nat → Int32) (H : Heap) (locs : List Loc) (ls : Array Slot), f_X0_bar_b4 N c0 c3 n x1 x2 c2 = some res → va_P (dC, dI) vwCl (wX0 cy h q2 q3 q4 q5 q6 q7 q8 q9 c0 c1 c2 c3 c4 c5 c6 c7 c8 c9 c10 c11) H → va_D A (wX0 cy h q2 q3 q4 q5 q6 q7 q8 q9 c0 c1 c2 c3 c4 c5 c6 c7 c8 c9 c10 c11) → va_S A s.heap H locs → lv_has ls 3 [(0, .ref h), (1, .int x1), (2, .int x2)] → W p l e rm_X0_bar s m ([.ref h] : List Value).toArray below meth c H locs 0 0 (MQ below (z_qI dC dI cy res.1 (wX0 cy h q2 q3 q4 q5 q6 q7 q8 q9 c0 c1 res.2 c3 c4 c5 c6 c7 c8 c9 c10 c11) A) ([.ref h] : List Value).toArray s 0 0 A) (F0 m 4 ls []) := by
    clear hf hl hP hD hS
    intro n
    induction n with
    | zero =>
      intro x1 x2 c2 H locs ls hf hP hD hS hl
      rw [f_X0_bar_b4] at hf
      cases hf
    | succ n ih =>
      intro x1 x2 c2 H locs ls hf hP hD hS hl
      rw [f_X0_bar_b4] at hf
      refine lv_iload_n hx hb dX0_bar_4 rfl (lv_at hl 2 rfl) ?_
      refine lv_aload_n hx hb dX0_bar_5 rfl (lv_at hl 0 rfl) ?_
      refine va_get (D := (dC, dI)) (ci := 0) (v := .int c0) (C := RX0) (T := TX0) (N := 12) hx hb hts (by decide +kernel) hown hK hP 0 rfl rfl 0 (by decide) (hts (.fieldLink RX0 38 "GiftLots" "count" "I") (by decide +kernel)) (fun _ h9 => h9) rfl dX0_bar_6 ?_
      refine lv_icmp_ge (tgt := 32) hx hb dX0_bar_9 (by decide) (fun c_9 => ?_) (fun c_9 => ?_)
      · replace hf := (if_pos c_9).symm.trans hf
        refine lv_iload_n hx hb dX0_bar_32 rfl (lv_at hl 1 rfl) ?_
        have hres := Option.some.inj hf
        subst hres
        have hP9 := hP.sub (ws' := (wX0 cy h q2 q3 q4 q5 q6 q7 q8 q9 c0 c1 c2 c3 c4 c5 c6 c7 c8 c9 c10 c11)) [0, 1, 2, 3, 4, 5, 6, 7, 8] rfl
        have hD9 := hD.sub (ws' := (wX0 cy h q2 q3 q4 q5 q6 q7 q8 q9 c0 c1 c2 c3 c4 c5 c6 c7 c8 c9 c10 c11)) [0, 1, 2, 3, 4, 5, 6, 7, 8] (by decide) rfl
        have hK9 := hK.sub (tys' := [(cy, .int)]) [0] rfl
        exact W.iret (v := x1) hx hb hr (fun t ht hW => ⟨⟨x1, (), rfl, rfl, by rw [ht]; exact hP9, va_K.moved hW.alike hK9, hD9⟩, hS.F ht⟩) hS.2.2 dX0_bar_33
      · replace hf := (if_neg c_9).symm.trans hf
        refine lv_iload_n hx hb dX0_bar_12 rfl (lv_at hl 1 rfl) ?_
        refine lv_aload_n hx hb dX0_bar_13 rfl (lv_at hl 0 rfl) ?_
        refine lv_iload_n hx hb dX0_bar_14 rfl (lv_at hl 2 rfl) ?_
        refine lv_aload_n hx hb dX0_bar_15 rfl (lv_at hl 0 rfl) ?_
        refine va_get (D := (dC, dI)) (ci := 0) (v := .ref q3) (C := RX0) (T := TX0) (N := 12) hx hb hts (by decide +kernel) hown hK hP 0 rfl rfl 3 (by decide) (hts (.fieldLink RX0 13 "GiftLots" "hand" "[I") (by decide +kernel)) (fun _ h9 => h9) rfl dX0_bar_16 ?_
        refine lv_iload_n hx hb dX0_bar_19 rfl (lv_at hl 2 rfl) ?_
        obtain ⟨hi20, hf⟩ := z_gx_some hf
        refine va_iald hx hb hK hP 2 0 rfl rfl hi20 dX0_bar_20 ?_
        obtain ⟨u21, hu21, hf⟩ := z_ob_some hf
        have hPc := hP.sub (ws' := (wX0 cy h q2 q3 q4 q5 q6 q7 q8 q9 c0 c1 c2 c3 c4 c5 c6 c7 c8 c9 c10 c11)) [0, 1, 2, 3, 4, 5, 6, 7, 8] rfl
        have hDc := hD.sub (ws' := (wX0 cy h q2 q3 q4 q5 q6 q7 q8 q9 c0 c1 c2 c3 c4 c5 c6 c7 c8 c9 c10 c11)) [0, 1, 2, 3, 4, 5, 6, 7, 8] (by decide) rfl
        have hKc := hK.sub (tys' := [(cy, .int)]) [0] rfl
        have hFc := va_free (wc := (wX0 cy h q2 q3 q4 q5 q6 q7 q8 q9 c0 c1 c2 c3 c4 c5 c6 c7 c8 c9 c10 c11)) hD hS hA [0, 1, 2, 3, 4, 5, 6, 7, 8] rfl
        refine va_calli (va_runV (As := [.int x2, .int (c3 (x2).toNatClampNeg)]) (rest := [.int x1]) ⟨hx, hb, hml, hown, hts⟩ (c_X0_barPair N l dC dI cy h q2 q3 q4 q5 q6 q7 q8 q9 H.size c0 c1 c2 c3 c4 c5 c6 c7 c8 c9 c10 c11 x2 (c3 (x2).toNatClampNeg) u21 hu21) (cwV 2 hts gX0_bar_X0_barPair rfl rfl rfl (by decide +kernel) ⟨Nat.le_of_ble_eq_true rfl, Nat.le_of_ble_eq_true rfl⟩) ⟨fun a U g mk q => by obtain ⟨q0, q1, qP, qK, qD⟩ := q; exact ⟨q0, q1, qP, va_K.moved (u := U) (U := U.calling g mk a) (Vm.Alike.refl U.vm) qK, qD⟩, va_recv hKc hPc (ci := 0) (q0 := 0) rfl rfl, fun U hU hW => ⟨rfl, by rw [hU], by rw [hU]; exact hPc, va_K.moved hW.alike hKc, hDc.weaken (fun _ _ _ _ => trivial)⟩⟩ rfl rfl hl.1 rfl (lv_room (Nat.le_of_ble_eq_true rfl)) dX0_bar_21 ⟨Nat.zero_le _, Nat.zero_le _⟩) hS (fun q _ h => hFc q h) hFc (fun r_21 uu_ t H1 locs ht hvm hw hB hz1 hk1 hS => ?_)
        replace hw := hw.symm
        subst hw
        obtain ⟨hP1, -, hD1⟩ := hB
        rw [ht] at hP1
        obtain ⟨hP, hD⟩ := va_join (wr := []) (w1 := (wX0 cy h q2 q3 q4 q5 q6 q7 q8 q9 c0 c1 u21.2 c3 c4 c5 c6 c7 c8 c9 c10 c11)) hP hD [0, 1, 2, 3, 4, 5, 6, 7, 8] [] rfl rfl (by decide) (by decide) hk1 hFc hP1 hD1
        clear hk1 hz1 hP1 hD1 ht hPc hDc hFc
        generalize H1 = H at hP hS ⊢
        have hP : va_P (dC, dI) vwCl (wX0 cy h q2 q3 q4 q5 q6 q7 q8 q9 c0 c1 u21.2 c3 c4 c5 c6 c7 c8 c9 c10 c11) H := hP
        have hD : va_D A (wX0 cy h q2 q3 q4 q5 q6 q7 q8 q9 c0 c1 u21.2 c3 c4 c5 c6 c7 c8 c9 c10 c11) := hD
        refine lv_iadd hx hb dX0_bar_24 ?_
        refine lv_istore_n (lv' := [(1, .int (x1 + u21.1)), (0, .ref h), (2, .int x2)]) hx hb dX0_bar_25 rfl hl (by decide) rfl (fun ls hl => ?_)
        refine lv_iinc (v := x2 + (1 : Int32)) (lv' := [(2, .int (x2 + (1 : Int32))), (1, .int (x1 + u21.1)), (0, .ref h)]) hx hb dX0_bar_26 hl (k := 2) rfl rfl (by decide) rfl (fun ls hl => ?_)
        refine lv_goto (tgt := 4) hx hb dX0_bar_29 (by decide) ?_
        exact ih (x1 + u21.1) (x2 + (1 : Int32)) u21.2 _ _ _ hf hP hD hS (lv_sub hl [2, 1, 0] rfl)
  unfold f_X0_bar at hf
  refine lv_iconst (v := (0 : Int32)) hx hb dX0_bar_0 (by decide) ?_
  refine lv_istore_n (lv' := [(1, .int (0 : Int32)), (0, .ref h)]) hx hb dX0_bar_1 rfl hl (by decide) rfl (fun ls hl => ?_)
  refine lv_iconst (v := (0 : Int32)) hx hb dX0_bar_2 (by decide) ?_
  refine lv_istore_n (lv' := [(2, .int (0 : Int32)), (1, .int (0 : Int32)), (0, .ref h)]) hx hb dX0_bar_3 rfl hl (by decide) rfl (fun ls hl => ?_)
  exact B4 N (0 : Int32) (0 : Int32) c2 _ _ _ hf hP hD hS (lv_sub hl [2, 1, 0] rfl)

theorem dX0_least_0 : decode cX0_least 0 = .ok (.iload_n 1, 1) := by decide +kernel
theorem dX0_least_1 : decode cX0_least 1 = .ok (.iconst 2, 1) := by decide +kernel
theorem dX0_least_2 : decode cX0_least 2 = .ok (.if_icmp .lt 9, 3) := by decide +kernel
theorem dX0_least_5 : decode cX0_least 5 = .ok (.iload_n 1, 1) := by decide +kernel
theorem dX0_least_6 : decode cX0_least 6 = .ok (.bipush 8, 2) := by decide +kernel
theorem dX0_least_8 : decode cX0_least 8 = .ok (.if_icmp .le 6, 3) := by decide +kernel
theorem dX0_least_11 : decode cX0_least 11 = .ok (.bipush (-2), 2) := by decide +kernel
theorem dX0_least_13 : decode cX0_least 13 = .ok (.ireturn, 1) := by decide +kernel
theorem dX0_least_14 : decode cX0_least 14 = .ok (.aload_n 0, 1) := by decide +kernel
theorem dX0_least_15 : decode cX0_least 15 = .ok (.getfield 57, 3) := by decide +kernel
theorem dX0_least_18 : decode cX0_least 18 = .ok (.istore_n 2, 1) := by decide +kernel
theorem dX0_least_19 : decode cX0_least 19 = .ok (.aload_n 0, 1) := by decide +kernel
theorem dX0_least_20 : decode cX0_least 20 = .ok (.iload_n 1, 1) := by decide +kernel
theorem dX0_least_21 : decode cX0_least 21 = .ok (.putfield 57, 3) := by decide +kernel
theorem dX0_least_24 : decode cX0_least 24 = .ok (.iload_n 2, 1) := by decide +kernel
theorem dX0_least_25 : decode cX0_least 25 = .ok (.ireturn, 1) := by decide +kernel
abbrev rm_X0_least : Room := { frames := 0, cells := 0, slots := 0, locals := 0 }
set_option maxHeartbeats 4000000 in
set_option maxRecDepth 100000 in
theorem c_X0_least (N : Nat) (l : Launch) (dC : Nat → ClassId) (dI : Nat → Nat → Nat) (cy : ClassId) (h q2 q3 q4 q5 q6 q7 q8 q9 : Nat) (sz : Nat) (c0 : Int32) (c1 : Int32) (c2 : Nat → Int32) (c3 : Nat → Int32) (c4 : Nat → Int32) (c5 : Nat → Int32) (c6 : Nat → Int32) (c7 : Nat → Int32) (c8 : Nat → Int32) (c9 : Nat → Int32) (c10 : Int32) (c11 : Int32) (a1 : Int32) (res : Int32 × Int32) (hf : f_X0_least N a1 c1 = some res) : Met l yX0_least wsX0_least rm_X0_least (va_Pc [.ref h, .int a1] (fun U => U.heap.size = sz ∧ va_P (dC, dI) vwCl (wX0 cy h q2 q3 q4 q5 q6 q7 q8 q9 c0 c1 c2 c3 c4 c5 c6 c7 c8 c9 c10 c11) U.heap ∧ va_K (dC, dI) vwCl [(cy, .int)] U ∧ va_D (fun _ => True) (wX0 cy h q2 q3 q4 q5 q6 q7 q8 q9 c0 c1 c2 c3 c4 c5 c6 c7 c8 c9 c10 c11))) (z_qI dC dI cy res.1 (wX0 cy h q2 q3 q4 q5 q6 q7 q8 q9 c0 res.2 c2 c3 c4 c5 c6 c7 c8 c9 c10 c11) (va_A (wX0 cy h q2 q3 q4 q5 q6 q7 q8 q9 c0 c1 c2 c3 c4 c5 c6 c7 c8 c9 c10 c11) sz)) 0 0 (va_A (wX0 cy h q2 q3 q4 q5 q6 q7 q8 q9 c0 c1 c2 c3 c4 c5 c6 c7 c8 c9 c10 c11) sz) := by
  refine Met.ofW (cc := cX0_least) (maxL := 3) (ret := (some .int)) (by decide) rfl ?_
  intro p e s m args below meth c s₁ B hml hv
  obtain ⟨rfl, hsz, hP, hK, hD0⟩ := hv
  have hx := B.exec
  have hb := B.bytes
  have hr := B.returns
  have hts := atoms_spec (ws := wsX0_least) B.pre
  have hown : s.vm.findClass RX0 = some m.cls := findClass_of_methodNamed B.named
  have hlocks := B.notSynchronized
  subst hsz
  have hD := hD0.self (sz := s.heap.size)
  generalize hAe : va_A (wX0 cy h q2 q3 q4 q5 q6 q7 q8 q9 c0 c1 c2 c3 c4 c5 c6 c7 c8 c9 c10 c11) s.heap.size = A at hD ⊢
  have hA : ∀ q : Nat, s.heap.size ≤ q → A q := fun q h => by rw [← hAe]; exact Or.inr h
  have hS : va_S A s.heap s.heap [] := va_S.rf
  have hP : va_P (dC, dI) vwCl (wX0 cy h q2 q3 q4 q5 q6 q7 q8 q9 c0 c1 c2 c3 c4 c5 c6 c7 c8 c9 c10 c11) s.heap := hP
  have hl := lv_entry ([.ref h, .int a1]) (n := 3) (Nat.le_of_ble_eq_true rfl)
  rw [lg_entry_eq]
  generalize (lg_sl ([.ref h, .int a1]) ++ List.replicate (3 - (lg_sl ([.ref h, .int a1])).length) Slot.unset).toArray = ls at hl ⊢
  have hl : lv_has ls 3 [(0, .ref h), (1, .int a1)] := hl
  unfold f_X0_least at hf
  refine lv_iload_n hx hb dX0_least_0 rfl (lv_at hl 1 rfl) ?_
  refine lv_iconst (v := (2 : Int32)) hx hb dX0_least_1 (by decide) ?_
  refine lv_icmp_lt (tgt := 11) hx hb dX0_least_2 (by decide) (fun c_2 => ?_) (fun c_2 => ?_)
  · replace hf := (if_pos c_2).symm.trans hf
    refine lv_bipush (v := (-2 : Int32)) hx hb dX0_least_11 (by decide) ?_
    have hres := Option.some.inj hf
    subst hres
    have hP9 := hP.sub (ws' := (wX0 cy h q2 q3 q4 q5 q6 q7 q8 q9 c0 c1 c2 c3 c4 c5 c6 c7 c8 c9 c10 c11)) [0, 1, 2, 3, 4, 5, 6, 7, 8] rfl
    have hD9 := hD.sub (ws' := (wX0 cy h q2 q3 q4 q5 q6 q7 q8 q9 c0 c1 c2 c3 c4 c5 c6 c7 c8 c9 c10 c11)) [0, 1, 2, 3, 4, 5, 6, 7, 8] (by decide) rfl
    have hK9 := hK.sub (tys' := [(cy, .int)]) [0] rfl
    exact W.iret (v := (-2 : Int32)) hx hb hr (fun t ht hW => ⟨⟨(-2 : Int32), (), rfl, rfl, by rw [ht]; exact hP9, va_K.moved hW.alike hK9, hD9⟩, hS.F ht⟩) hS.2.2 dX0_least_13
  · replace hf := (if_neg c_2).symm.trans hf
    refine lv_iload_n hx hb dX0_least_5 rfl (lv_at hl 1 rfl) ?_
    refine lv_bipush (v := (8 : Int32)) hx hb dX0_least_6 (by decide) ?_
    refine lv_icmp_le (tgt := 14) hx hb dX0_least_8 (by decide) (fun c_8 => ?_) (fun c_8 => ?_)
    · replace hf := (if_pos c_8).symm.trans hf
      refine lv_aload_n hx hb dX0_least_14 rfl (lv_at hl 0 rfl) ?_
      refine va_get (D := (dC, dI)) (ci := 0) (v := .int c1) (C := RX0) (T := TX0) (N := 12) hx hb hts (by decide +kernel) hown hK hP 0 rfl rfl 1 (by decide) (hts (.fieldLink RX0 57 "GiftLots" "shortest" "I") (by decide +kernel)) (fun _ h9 => h9) rfl dX0_least_15 ?_
      refine lv_istore_n (lv' := [(2, .int c1), (0, .ref h), (1, .int a1)]) hx hb dX0_least_18 rfl hl (by decide) rfl (fun ls hl => ?_)
      refine lv_aload_n hx hb dX0_least_19 rfl (lv_at hl 1 rfl) ?_
      refine lv_iload_n hx hb dX0_least_20 rfl (lv_at hl 2 rfl) ?_
      refine va_put (D := (dC, dI)) (ci := 0) (v := .int a1) (ty := .int) (C := RX0) (T := TX0) (N := 12) hx hb hts (by decide +kernel) tyX0 tyX0_ok nmX0 hown hK hP hD hS 0 rfl rfl 1 (by decide) (hts (.fieldLink RX0 57 "GiftLots" "shortest" "I") (by decide +kernel)) (fun _ h9 => h9) rfl (by decide +kernel) rfl rfl (Nat.le_of_ble_eq_true rfl) dX0_least_21 (fun H locs hP hD hS => ?_)
      have hP : va_P (dC, dI) vwCl (wX0 cy h q2 q3 q4 q5 q6 q7 q8 q9 c0 a1 c2 c3 c4 c5 c6 c7 c8 c9 c10 c11) H := hP
      have hD : va_D A (wX0 cy h q2 q3 q4 q5 q6 q7 q8 q9 c0 a1 c2 c3 c4 c5 c6 c7 c8 c9 c10 c11) := hD
      refine lv_iload_n hx hb dX0_least_24 rfl (lv_at hl 0 rfl) ?_
      have hres := Option.some.inj hf
      subst hres
      have hP9 := hP.sub (ws' := (wX0 cy h q2 q3 q4 q5 q6 q7 q8 q9 c0 a1 c2 c3 c4 c5 c6 c7 c8 c9 c10 c11)) [0, 1, 2, 3, 4, 5, 6, 7, 8] rfl
      have hD9 := hD.sub (ws' := (wX0 cy h q2 q3 q4 q5 q6 q7 q8 q9 c0 a1 c2 c3 c4 c5 c6 c7 c8 c9 c10 c11)) [0, 1, 2, 3, 4, 5, 6, 7, 8] (by decide) rfl
      have hK9 := hK.sub (tys' := [(cy, .int)]) [0] rfl
      exact W.iret (v := c1) hx hb hr (fun t ht hW => ⟨⟨c1, (), rfl, rfl, by rw [ht]; exact hP9, va_K.moved hW.alike hK9, hD9⟩, hS.F ht⟩) hS.2.2 dX0_least_25
    · replace hf := (if_neg c_8).symm.trans hf
      refine lv_bipush (v := (-2 : Int32)) hx hb dX0_least_11 (by decide) ?_
      have hres := Option.some.inj hf
      subst hres
      have hP9 := hP.sub (ws' := (wX0 cy h q2 q3 q4 q5 q6 q7 q8 q9 c0 c1 c2 c3 c4 c5 c6 c7 c8 c9 c10 c11)) [0, 1, 2, 3, 4, 5, 6, 7, 8] rfl
      have hD9 := hD.sub (ws' := (wX0 cy h q2 q3 q4 q5 q6 q7 q8 q9 c0 c1 c2 c3 c4 c5 c6 c7 c8 c9 c10 c11)) [0, 1, 2, 3, 4, 5, 6, 7, 8] (by decide) rfl
      have hK9 := hK.sub (tys' := [(cy, .int)]) [0] rfl
      exact W.iret (v := (-2 : Int32)) hx hb hr (fun t ht hW => ⟨⟨(-2 : Int32), (), rfl, rfl, by rw [ht]; exact hP9, va_K.moved hW.alike hK9, hD9⟩, hS.F ht⟩) hS.2.2 dX0_least_13

theorem dX0_openRows_0 : decode cX0_openRows 0 = .ok (.aload_n 0, 1) := by decide +kernel
theorem dX0_openRows_1 : decode cX0_openRows 1 = .ok (.getfield 9, 3) := by decide +kernel
theorem dX0_openRows_4 : decode cX0_openRows 4 = .ok (.iconst 0, 1) := by decide +kernel
theorem dX0_openRows_5 : decode cX0_openRows 5 = .ok (.aload_n 0, 1) := by decide +kernel
theorem dX0_openRows_6 : decode cX0_openRows 6 = .ok (.getfield 16, 3) := by decide +kernel
theorem dX0_openRows_9 : decode cX0_openRows 9 = .ok (.iconst 0, 1) := by decide +kernel
theorem dX0_openRows_10 : decode cX0_openRows 10 = .ok (.bipush 8, 2) := by decide +kernel
theorem dX0_openRows_12 : decode cX0_openRows 12 = .ok (.invokestatic 103, 3) := by decide +kernel
theorem dX0_openRows_15 : decode cX0_openRows 15 = .ok (.return_, 1) := by decide +kernel
abbrev rm_X0_openRows : Room := { frames := 1, cells := 0, slots := 0, locals := 59 }
set_option maxHeartbeats 4000000 in
set_option maxRecDepth 100000 in
theorem c_X0_openRows (N : Nat) (l : Launch) (dC : Nat → ClassId) (dI : Nat → Nat → Nat) (cy : ClassId) (h q2 q3 q4 q5 q6 q7 q8 q9 : Nat) (sz : Nat) (c0 : Int32) (c1 : Int32) (c2 : Nat → Int32) (c3 : Nat → Int32) (c4 : Nat → Int32) (c5 : Nat → Int32) (c6 : Nat → Int32) (c7 : Nat → Int32) (c8 : Nat → Int32) (c9 : Nat → Int32) (c10 : Int32) (c11 : Int32) (res : (Nat → Int32)) (hf : f_X0_openRows N c2 c4 = some res) : Met l yX0_openRows wsX0_openRows rm_X0_openRows (va_Pc [.ref h] (fun U => U.heap.size = sz ∧ va_P (dC, dI) vwCl (wX0 cy h q2 q3 q4 q5 q6 q7 q8 q9 c0 c1 c2 c3 c4 c5 c6 c7 c8 c9 c10 c11) U.heap ∧ va_K (dC, dI) vwCl [(cy, .int)] U ∧ va_D (fun _ => True) (wX0 cy h q2 q3 q4 q5 q6 q7 q8 q9 c0 c1 c2 c3 c4 c5 c6 c7 c8 c9 c10 c11))) (z_qV dC dI cy (wX0 cy h q2 q3 q4 q5 q6 q7 q8 q9 c0 c1 c2 c3 res c5 c6 c7 c8 c9 c10 c11) (va_A (wX0 cy h q2 q3 q4 q5 q6 q7 q8 q9 c0 c1 c2 c3 c4 c5 c6 c7 c8 c9 c10 c11) sz)) 0 0 (va_A (wX0 cy h q2 q3 q4 q5 q6 q7 q8 q9 c0 c1 c2 c3 c4 c5 c6 c7 c8 c9 c10 c11) sz) := by
  refine Met.ofW (cc := cX0_openRows) (maxL := 1) (ret := none) (by decide) rfl ?_
  intro p e s m args below meth c s₁ B hml hv
  obtain ⟨rfl, hsz, hP, hK, hD0⟩ := hv
  have hx := B.exec
  have hb := B.bytes
  have hr := B.returns
  have hts := atoms_spec (ws := wsX0_openRows) B.pre
  have hown : s.vm.findClass RX0 = some m.cls := findClass_of_methodNamed B.named
  have hlocks := B.notSynchronized
  subst hsz
  have hD := hD0.self (sz := s.heap.size)
  generalize hAe : va_A (wX0 cy h q2 q3 q4 q5 q6 q7 q8 q9 c0 c1 c2 c3 c4 c5 c6 c7 c8 c9 c10 c11) s.heap.size = A at hD ⊢
  have hA : ∀ q : Nat, s.heap.size ≤ q → A q := fun q h => by rw [← hAe]; exact Or.inr h
  have hS : va_S A s.heap s.heap [] := va_S.rf
  have hP : va_P (dC, dI) vwCl (wX0 cy h q2 q3 q4 q5 q6 q7 q8 q9 c0 c1 c2 c3 c4 c5 c6 c7 c8 c9 c10 c11) s.heap := hP
  have hl := lv_entry ([.ref h]) (n := 1) (Nat.le_of_ble_eq_true rfl)
  rw [lg_entry_eq]
  generalize (lg_sl ([.ref h]) ++ List.replicate (1 - (lg_sl ([.ref h])).length) Slot.unset).toArray = ls at hl ⊢
  have hl : lv_has ls 1 [(0, .ref h)] := hl
  unfold f_X0_openRows at hf
  refine lv_aload_n hx hb dX0_openRows_0 rfl (lv_at hl 0 rfl) ?_
  refine va_get (D := (dC, dI)) (ci := 0) (v := .ref q2) (C := RX0) (T := TX0) (N := 12) hx hb hts (by decide +kernel) hown hK hP 0 rfl rfl 2 (by decide) (hts (.fieldLink RX0 9 "GiftLots" "board" "[I") (by decide +kernel)) (fun _ h9 => h9) rfl dX0_openRows_1 ?_
  refine lv_iconst (v := (0 : Int32)) hx hb dX0_openRows_4 (by decide) ?_
  refine lv_aload_n hx hb dX0_openRows_5 rfl (lv_at hl 0 rfl) ?_
  refine va_get (D := (dC, dI)) (ci := 0) (v := .ref q4) (C := RX0) (T := TX0) (N := 12) hx hb hts (by decide +kernel) hown hK hP 0 rfl rfl 4 (by decide) (hts (.fieldLink RX0 16 "GiftLots" "rows" "[I") (by decide +kernel)) (fun _ h9 => h9) rfl dX0_openRows_6 ?_
  refine lv_iconst (v := (0 : Int32)) hx hb dX0_openRows_9 (by decide) ?_
  refine lv_bipush (v := (8 : Int32)) hx hb dX0_openRows_10 (by decide) ?_
  obtain ⟨hi12, hj12, hf⟩ := z_gc_some hf
  refine va_copyi hx hb (hml.trans hl.1.symm) hown (hts (.methodLink RX0 103 arraycopyName) (by decide +kernel)) (hts (.native arraycopyName) (by decide +kernel)) (hts (.static arraycopyName) (by decide +kernel)) (hts (.initialized "java/lang/System") (by decide +kernel)) hK hP hD hS 1 3 0 0 rfl rfl rfl rfl rfl (by decide) (by decide) hi12 (z_gc_le hj12) (z_gc_le hj12) (fun _ _ => rfl) (Nat.le_of_ble_eq_true rfl) (by decide) dX0_openRows_12 (fun H locs hP hD hS => ?_)
  have hP : va_P (dC, dI) vwCl (wX0 cy h q2 q3 q4 q5 q6 q7 q8 q9 c0 c1 c2 c3 (va_cpy c2 c4 0 0 ((8 : Int32)).toNatClampNeg) c5 c6 c7 c8 c9 c10 c11) H := hP
  have hD : va_D A (wX0 cy h q2 q3 q4 q5 q6 q7 q8 q9 c0 c1 c2 c3 (va_cpy c2 c4 0 0 ((8 : Int32)).toNatClampNeg) c5 c6 c7 c8 c9 c10 c11) := hD
  have hres := Option.some.inj hf
  subst hres
  have hP9 := hP.sub (ws' := (wX0 cy h q2 q3 q4 q5 q6 q7 q8 q9 c0 c1 c2 c3 (va_cpy c2 c4 0 0 ((8 : Int32)).toNatClampNeg) c5 c6 c7 c8 c9 c10 c11)) [0, 1, 2, 3, 4, 5, 6, 7, 8] rfl
  have hD9 := hD.sub (ws' := (wX0 cy h q2 q3 q4 q5 q6 q7 q8 q9 c0 c1 c2 c3 (va_cpy c2 c4 0 0 ((8 : Int32)).toNatClampNeg) c5 c6 c7 c8 c9 c10 c11)) [0, 1, 2, 3, 4, 5, 6, 7, 8] (by decide) rfl
  have hK9 := hK.sub (tys' := [(cy, .int)]) [0] rfl
  exact W.vret hx hb hr (fun t ht hW => ⟨⟨(), rfl, trivial, by rw [ht]; exact hP9, va_K.moved hW.alike hK9, hD9⟩, hS.F ht⟩) hS.2.2 dX0_openRows_15

theorem dX0_chainAt_0 : decode cX0_chainAt 0 = .ok (.iload_n 0, 1) := by decide +kernel
theorem dX0_chainAt_1 : decode cX0_chainAt 1 = .ok (.bipush 8, 2) := by decide +kernel
theorem dX0_chainAt_3 : decode cX0_chainAt 3 = .ok (.imul, 1) := by decide +kernel
theorem dX0_chainAt_4 : decode cX0_chainAt 4 = .ok (.iload_n 1, 1) := by decide +kernel
theorem dX0_chainAt_5 : decode cX0_chainAt 5 = .ok (.iadd, 1) := by decide +kernel
theorem dX0_chainAt_6 : decode cX0_chainAt 6 = .ok (.ireturn, 1) := by decide +kernel
abbrev rm_X0_chainAt : Room := { frames := 0, cells := 0, slots := 0, locals := 0 }
set_option maxHeartbeats 4000000 in
set_option maxRecDepth 100000 in
theorem c_X0_chainAt (N : Nat) (l : Launch) (dC : Nat → ClassId) (dI : Nat → Nat → Nat) (cy : ClassId) (sz : Nat) (a0 a1 : Int32) (res : Int32) (hf : f_X0_chainAt N a0 a1 = some res) : Met l yX0_chainAt wsX0_chainAt rm_X0_chainAt (va_Pc [.int a0, .int a1] (fun U => U.heap.size = sz ∧ va_P (dC, dI) vwCl ([] : va_W) U.heap ∧ va_K (dC, dI) vwCl [(cy, .int)] U ∧ va_D (fun _ => True) ([] : va_W))) (z_qI dC dI cy res ([] : va_W) (va_A ([] : va_W) sz)) 0 0 (va_A ([] : va_W) sz) := by
  refine Met.ofW (cc := cX0_chainAt) (maxL := 2) (ret := (some .int)) (by decide) rfl ?_
  intro p e s m args below meth c s₁ B hml hv
  obtain ⟨rfl, hsz, hP, hK, hD0⟩ := hv
  have hx := B.exec
  have hb := B.bytes
  have hr := B.returns
  have hts := atoms_spec (ws := wsX0_chainAt) B.pre
  have hown : s.vm.findClass RX0 = some m.cls := findClass_of_methodNamed B.named
  have hlocks := B.notSynchronized
  subst hsz
  have hD := hD0.self (sz := s.heap.size)
  generalize hAe : va_A ([] : va_W) s.heap.size = A at hD ⊢
  have hA : ∀ q : Nat, s.heap.size ≤ q → A q := fun q h => by rw [← hAe]; exact Or.inr h
  have hS : va_S A s.heap s.heap [] := va_S.rf
  have hP : va_P (dC, dI) vwCl ([] : va_W) s.heap := hP
  have hl := lv_entry ([.int a0, .int a1]) (n := 2) (Nat.le_of_ble_eq_true rfl)
  rw [lg_entry_eq]
  generalize (lg_sl ([.int a0, .int a1]) ++ List.replicate (2 - (lg_sl ([.int a0, .int a1])).length) Slot.unset).toArray = ls at hl ⊢
  have hl : lv_has ls 2 [(0, .int a0), (1, .int a1)] := hl
  unfold f_X0_chainAt at hf
  refine lv_iload_n hx hb dX0_chainAt_0 rfl (lv_at hl 0 rfl) ?_
  refine lv_bipush (v := (8 : Int32)) hx hb dX0_chainAt_1 (by decide) ?_
  refine lv_imul hx hb dX0_chainAt_3 ?_
  refine lv_iload_n hx hb dX0_chainAt_4 rfl (lv_at hl 1 rfl) ?_
  refine lv_iadd hx hb dX0_chainAt_5 ?_
  have hres := Option.some.inj hf
  subst hres
  have hP9 := hP.sub (ws' := ([] : va_W)) [] rfl
  have hD9 := hD.sub (ws' := ([] : va_W)) [] (by decide) rfl
  have hK9 := hK.sub (tys' := [(cy, .int)]) [0] rfl
  exact W.iret (v := (a0 * (8 : Int32)) + a1) hx hb hr (fun t ht hW => ⟨⟨(a0 * (8 : Int32)) + a1, (), rfl, rfl, by rw [ht]; exact hP9, va_K.moved hW.alike hK9, hD9⟩, hS.F ht⟩) hS.2.2 dX0_chainAt_6

set_option maxRecDepth 20000 in
theorem ggX0_lengthenChains_X0_everyone : GoodIn wsX0_lengthenChains wsX0_everyone := goodIn_r _ [8, 1, 15, 16, 17, 18, 19, 20, 21, 22, 23, 24, 25, 26] (by decide +kernel) (by decide +kernel)
set_option maxRecDepth 20000 in
theorem gX0_lengthenChains_X0_everyone : GoodIn wsX0_lengthenChains (wsV RX0 85 RX0 yX0_everyone wsX0_everyone) := goodIn_app (goodIn_of _ (by decide +kernel)) ggX0_lengthenChains_X0_everyone
set_option maxRecDepth 20000 in
theorem ggX0_lengthenChains_X0_chainAt : GoodIn wsX0_lengthenChains wsX0_chainAt := goodIn_r _ [11] (by decide +kernel) (by decide +kernel)
set_option maxRecDepth 20000 in
theorem gX0_lengthenChains_X0_chainAt : GoodIn wsX0_lengthenChains (va_wsS RX0 149 yX0_chainAt wsX0_chainAt) := goodIn_app (goodIn_of _ (by decide +kernel)) ggX0_lengthenChains_X0_chainAt
set_option maxRecDepth 20000 in
theorem ggX0_lengthenChains_X0_bit : GoodIn wsX0_lengthenChains wsX0_bit := goodIn_r _ [14] (by decide +kernel) (by decide +kernel)
set_option maxRecDepth 20000 in
theorem gX0_lengthenChains_X0_bit : GoodIn wsX0_lengthenChains (va_wsS RX0 50 yX0_bit wsX0_bit) := goodIn_app (goodIn_of _ (by decide +kernel)) ggX0_lengthenChains_X0_bit
theorem dX0_lengthenChains_0 : decode cX0_lengthenChains 0 = .ok (.iload_n 1, 1) := by decide +kernel
theorem dX0_lengthenChains_1 : decode cX0_lengthenChains 1 = .ok (.iload_n 1, 1) := by decide +kernel
theorem dX0_lengthenChains_2 : decode cX0_lengthenChains 2 = .ok (.ineg, 1) := by decide +kernel
theorem dX0_lengthenChains_3 : decode cX0_lengthenChains 3 = .ok (.iand, 1) := by decide +kernel
theorem dX0_lengthenChains_4 : decode cX0_lengthenChains 4 = .ok (.istore_n 2, 1) := by decide +kernel
theorem dX0_lengthenChains_5 : decode cX0_lengthenChains 5 = .ok (.aload_n 0, 1) := by decide +kernel
theorem dX0_lengthenChains_6 : decode cX0_lengthenChains 6 = .ok (.invokevirtual 85, 3) := by decide +kernel
theorem dX0_lengthenChains_9 : decode cX0_lengthenChains 9 = .ok (.iload_n 1, 1) := by decide +kernel
theorem dX0_lengthenChains_10 : decode cX0_lengthenChains 10 = .ok (.iconst (-1), 1) := by decide +kernel
theorem dX0_lengthenChains_11 : decode cX0_lengthenChains 11 = .ok (.ixor, 1) := by decide +kernel
theorem dX0_lengthenChains_12 : decode cX0_lengthenChains 12 = .ok (.iand, 1) := by decide +kernel
theorem dX0_lengthenChains_13 : decode cX0_lengthenChains 13 = .ok (.iload_n 2, 1) := by decide +kernel
theorem dX0_lengthenChains_14 : decode cX0_lengthenChains 14 = .ok (.ineg, 1) := by decide +kernel
theorem dX0_lengthenChains_15 : decode cX0_lengthenChains 15 = .ok (.iand, 1) := by decide +kernel
theorem dX0_lengthenChains_16 : decode cX0_lengthenChains 16 = .ok (.istore_n 3, 1) := by decide +kernel
theorem dX0_lengthenChains_17 : decode cX0_lengthenChains 17 = .ok (.iconst 0, 1) := by decide +kernel
theorem dX0_lengthenChains_18 : decode cX0_lengthenChains 18 = .ok (.istore 4, 2) := by decide +kernel
theorem dX0_lengthenChains_20 : decode cX0_lengthenChains 20 = .ok (.iconst 0, 1) := by decide +kernel
theorem dX0_lengthenChains_21 : decode cX0_lengthenChains 21 = .ok (.istore 5, 2) := by decide +kernel
theorem dX0_lengthenChains_23 : decode cX0_lengthenChains 23 = .ok (.iload 5, 2) := by decide +kernel
theorem dX0_lengthenChains_25 : decode cX0_lengthenChains 25 = .ok (.aload_n 0, 1) := by decide +kernel
theorem dX0_lengthenChains_26 : decode cX0_lengthenChains 26 = .ok (.getfield 38, 3) := by decide +kernel
theorem dX0_lengthenChains_29 : decode cX0_lengthenChains 29 = .ok (.if_icmp .ge 121, 3) := by decide +kernel
theorem dX0_lengthenChains_32 : decode cX0_lengthenChains 32 = .ok (.aload_n 0, 1) := by decide +kernel
theorem dX0_lengthenChains_33 : decode cX0_lengthenChains 33 = .ok (.getfield 19, 3) := by decide +kernel
theorem dX0_lengthenChains_36 : decode cX0_lengthenChains 36 = .ok (.iload_n 1, 1) := by decide +kernel
theorem dX0_lengthenChains_37 : decode cX0_lengthenChains 37 = .ok (.iload 5, 2) := by decide +kernel
theorem dX0_lengthenChains_39 : decode cX0_lengthenChains 39 = .ok (.invokestatic 149, 3) := by decide +kernel
theorem dX0_lengthenChains_42 : decode cX0_lengthenChains 42 = .ok (.iaload, 1) := by decide +kernel
theorem dX0_lengthenChains_43 : decode cX0_lengthenChains 43 = .ok (.istore 6, 2) := by decide +kernel
theorem dX0_lengthenChains_45 : decode cX0_lengthenChains 45 = .ok (.iload 6, 2) := by decide +kernel
theorem dX0_lengthenChains_47 : decode cX0_lengthenChains 47 = .ok (.ifCond .ne 7, 3) := by decide +kernel
theorem dX0_lengthenChains_50 : decode cX0_lengthenChains 50 = .ok (.iconst 0, 1) := by decide +kernel
theorem dX0_lengthenChains_51 : decode cX0_lengthenChains 51 = .ok (.goto 12, 3) := by decide +kernel
theorem dX0_lengthenChains_54 : decode cX0_lengthenChains 54 = .ok (.aload_n 0, 1) := by decide +kernel
theorem dX0_lengthenChains_55 : decode cX0_lengthenChains 55 = .ok (.getfield 16, 3) := by decide +kernel
theorem dX0_lengthenChains_58 : decode cX0_lengthenChains 58 = .ok (.iload 5, 2) := by decide +kernel
theorem dX0_lengthenChains_60 : decode cX0_lengthenChains 60 = .ok (.iaload, 1) := by decide +kernel
theorem dX0_lengthenChains_61 : decode cX0_lengthenChains 61 = .ok (.iload_n 3, 1) := by decide +kernel
theorem dX0_lengthenChains_62 : decode cX0_lengthenChains 62 = .ok (.iand, 1) := by decide +kernel
theorem dX0_lengthenChains_63 : decode cX0_lengthenChains 63 = .ok (.istore 7, 2) := by decide +kernel
theorem dX0_lengthenChains_65 : decode cX0_lengthenChains 65 = .ok (.iconst 0, 1) := by decide +kernel
theorem dX0_lengthenChains_66 : decode cX0_lengthenChains 66 = .ok (.istore 8, 2) := by decide +kernel
theorem dX0_lengthenChains_68 : decode cX0_lengthenChains 68 = .ok (.iload 8, 2) := by decide +kernel
theorem dX0_lengthenChains_70 : decode cX0_lengthenChains 70 = .ok (.aload_n 0, 1) := by decide +kernel
theorem dX0_lengthenChains_71 : decode cX0_lengthenChains 71 = .ok (.getfield 38, 3) := by decide +kernel
theorem dX0_lengthenChains_74 : decode cX0_lengthenChains 74 = .ok (.if_icmp .ge 47, 3) := by decide +kernel
theorem dX0_lengthenChains_77 : decode cX0_lengthenChains 77 = .ok (.iload 7, 2) := by decide +kernel
theorem dX0_lengthenChains_79 : decode cX0_lengthenChains 79 = .ok (.ifCond .eq 42, 3) := by decide +kernel
theorem dX0_lengthenChains_82 : decode cX0_lengthenChains 82 = .ok (.iload 7, 2) := by decide +kernel
theorem dX0_lengthenChains_84 : decode cX0_lengthenChains 84 = .ok (.iload 8, 2) := by decide +kernel
theorem dX0_lengthenChains_86 : decode cX0_lengthenChains 86 = .ok (.invokestatic 50, 3) := by decide +kernel
theorem dX0_lengthenChains_89 : decode cX0_lengthenChains 89 = .ok (.iand, 1) := by decide +kernel
theorem dX0_lengthenChains_90 : decode cX0_lengthenChains 90 = .ok (.ifCond .eq 25, 3) := by decide +kernel
theorem dX0_lengthenChains_93 : decode cX0_lengthenChains 93 = .ok (.aload_n 0, 1) := by decide +kernel
theorem dX0_lengthenChains_94 : decode cX0_lengthenChains 94 = .ok (.getfield 19, 3) := by decide +kernel
theorem dX0_lengthenChains_97 : decode cX0_lengthenChains 97 = .ok (.iload_n 1, 1) := by decide +kernel
theorem dX0_lengthenChains_98 : decode cX0_lengthenChains 98 = .ok (.iload 8, 2) := by decide +kernel
theorem dX0_lengthenChains_100 : decode cX0_lengthenChains 100 = .ok (.invokestatic 50, 3) := by decide +kernel
theorem dX0_lengthenChains_103 : decode cX0_lengthenChains 103 = .ok (.ior, 1) := by decide +kernel
theorem dX0_lengthenChains_104 : decode cX0_lengthenChains 104 = .ok (.iload 8, 2) := by decide +kernel
theorem dX0_lengthenChains_106 : decode cX0_lengthenChains 106 = .ok (.invokestatic 149, 3) := by decide +kernel
theorem dX0_lengthenChains_109 : decode cX0_lengthenChains 109 = .ok (.dup2, 1) := by decide +kernel
theorem dX0_lengthenChains_110 : decode cX0_lengthenChains 110 = .ok (.iaload, 1) := by decide +kernel
theorem dX0_lengthenChains_111 : decode cX0_lengthenChains 111 = .ok (.iload 6, 2) := by decide +kernel
theorem dX0_lengthenChains_113 : decode cX0_lengthenChains 113 = .ok (.iadd, 1) := by decide +kernel
theorem dX0_lengthenChains_114 : decode cX0_lengthenChains 114 = .ok (.iastore, 1) := by decide +kernel
theorem dX0_lengthenChains_115 : decode cX0_lengthenChains 115 = .ok (.iinc 8 1, 3) := by decide +kernel
theorem dX0_lengthenChains_118 : decode cX0_lengthenChains 118 = .ok (.goto (-50), 3) := by decide +kernel
theorem dX0_lengthenChains_121 : decode cX0_lengthenChains 121 = .ok (.iload 4, 2) := by decide +kernel
theorem dX0_lengthenChains_123 : decode cX0_lengthenChains 123 = .ok (.aload_n 0, 1) := by decide +kernel
theorem dX0_lengthenChains_124 : decode cX0_lengthenChains 124 = .ok (.getfield 16, 3) := by decide +kernel
theorem dX0_lengthenChains_127 : decode cX0_lengthenChains 127 = .ok (.iload 5, 2) := by decide +kernel
theorem dX0_lengthenChains_129 : decode cX0_lengthenChains 129 = .ok (.iaload, 1) := by decide +kernel
theorem dX0_lengthenChains_130 : decode cX0_lengthenChains 130 = .ok (.iload_n 2, 1) := by decide +kernel
theorem dX0_lengthenChains_131 : decode cX0_lengthenChains 131 = .ok (.iand, 1) := by decide +kernel
theorem dX0_lengthenChains_132 : decode cX0_lengthenChains 132 = .ok (.ifCond .ne 7, 3) := by decide +kernel
theorem dX0_lengthenChains_135 : decode cX0_lengthenChains 135 = .ok (.iconst 0, 1) := by decide +kernel
theorem dX0_lengthenChains_136 : decode cX0_lengthenChains 136 = .ok (.goto 5, 3) := by decide +kernel
theorem dX0_lengthenChains_139 : decode cX0_lengthenChains 139 = .ok (.iload 6, 2) := by decide +kernel
theorem dX0_lengthenChains_141 : decode cX0_lengthenChains 141 = .ok (.iadd, 1) := by decide +kernel
theorem dX0_lengthenChains_142 : decode cX0_lengthenChains 142 = .ok (.istore 4, 2) := by decide +kernel
theorem dX0_lengthenChains_144 : decode cX0_lengthenChains 144 = .ok (.iinc 5 1, 3) := by decide +kernel
theorem dX0_lengthenChains_147 : decode cX0_lengthenChains 147 = .ok (.goto (-124), 3) := by decide +kernel
theorem dX0_lengthenChains_150 : decode cX0_lengthenChains 150 = .ok (.iload 4, 2) := by decide +kernel
theorem dX0_lengthenChains_152 : decode cX0_lengthenChains 152 = .ok (.ireturn, 1) := by decide +kernel
abbrev rm_X0_lengthenChains : Room := { frames := 1, cells := 0, slots := 0, locals := 21 }
set_option maxHeartbeats 4000000 in
set_option maxRecDepth 100000 in
theorem c_X0_lengthenChains (N : Nat) (l : Launch) (dC : Nat → ClassId) (dI : Nat → Nat → Nat) (cy : ClassId) (h q2 q3 q4 q5 q6 q7 q8 q9 : Nat) (sz : Nat) (c0 : Int32) (c1 : Int32) (c2 : Nat → Int32) (c3 : Nat → Int32) (c4 : Nat → Int32) (c5 : Nat → Int32) (c6 : Nat → Int32) (c7 : Nat → Int32) (c8 : Nat → Int32) (c9 : Nat → Int32) (c10 : Int32) (c11 : Int32) (a1 : Int32) (res : Int32 × (Nat → Int32)) (hf : f_X0_lengthenChains N a1 c0 c4 c5 = some res) : Met l yX0_lengthenChains wsX0_lengthenChains rm_X0_lengthenChains (va_Pc [.ref h, .int a1] (fun U => U.heap.size = sz ∧ va_P (dC, dI) vwCl (wX0 cy h q2 q3 q4 q5 q6 q7 q8 q9 c0 c1 c2 c3 c4 c5 c6 c7 c8 c9 c10 c11) U.heap ∧ va_K (dC, dI) vwCl [(cy, .int)] U ∧ va_D (fun _ => True) (wX0 cy h q2 q3 q4 q5 q6 q7 q8 q9 c0 c1 c2 c3 c4 c5 c6 c7 c8 c9 c10 c11))) (z_qI dC dI cy res.1 (wX0 cy h q2 q3 q4 q5 q6 q7 q8 q9 c0 c1 c2 c3 c4 res.2 c6 c7 c8 c9 c10 c11) (va_A (wX0 cy h q2 q3 q4 q5 q6 q7 q8 q9 c0 c1 c2 c3 c4 c5 c6 c7 c8 c9 c10 c11) sz)) 0 0 (va_A (wX0 cy h q2 q3 q4 q5 q6 q7 q8 q9 c0 c1 c2 c3 c4 c5 c6 c7 c8 c9 c10 c11) sz) := by
  refine Met.ofW (cc := cX0_lengthenChains) (maxL := 9) (ret := (some .int)) (by decide) rfl ?_
  intro p e s m args below meth c s₁ B hml hv
  obtain ⟨rfl, hsz, hP, hK, hD0⟩ := hv
  have hx := B.exec
  have hb := B.bytes
  have hr := B.returns
  have hts := atoms_spec (ws := wsX0_lengthenChains) B.pre
  have hown : s.vm.findClass RX0 = some m.cls := findClass_of_methodNamed B.named
  have hlocks := B.notSynchronized
  subst hsz
  have hD := hD0.self (sz := s.heap.size)
  generalize hAe : va_A (wX0 cy h q2 q3 q4 q5 q6 q7 q8 q9 c0 c1 c2 c3 c4 c5 c6 c7 c8 c9 c10 c11) s.heap.size = A at hD ⊢
  have hA : ∀ q : Nat, s.heap.size ≤ q → A q := fun q h => by rw [← hAe]; exact Or.inr h
  have hS : va_S A s.heap s.heap [] := va_S.rf
  have hP : va_P (dC, dI) vwCl (wX0 cy h q2 q3 q4 q5 q6 q7 q8 q9 c0 c1 c2 c3 c4 c5 c6 c7 c8 c9 c10 c11) s.heap := hP
  have hl := lv_entry ([.ref h, .int a1]) (n := 9) (Nat.le_of_ble_eq_true rfl)
  rw [lg_entry_eq]
  generalize (lg_sl ([.ref h, .int a1]) ++ List.replicate (9 - (lg_sl ([.ref h, .int a1])).length) Slot.unset).toArray = ls at hl ⊢
  have hl : lv_has ls 9 [(0, .ref h), (1, .int a1)] := hl
  have B141 : ∀ (r23 : Int32 → Int32 → Int32 → Int32 → Int32 → (Nat → Int32) → Option (Int32 × (Nat → Int32))), (∀ (x1 x2 x3 x4 x5 : Int32) (c5 : Nat → Int32) (H : Heap) (locs : List Loc) (ls : Array Slot), r23 x1 x2 x3 x4 x5 c5 = some res → va_P (dC, dI) vwCl (wX0 cy h q2 q3 q4 q5 q6 q7 q8 q9 c0 c1 c2 c3 c4 c5 c6 c7 c8 c9 c10 c11) H → va_D A (wX0 cy h q2 q3 q4 q5 q6 q7 q8 q9 c0 c1 c2 c3 c4 c5 c6 c7 c8 c9 c10 c11) → va_S A s.heap H locs → lv_has ls 9 [(0, .ref h), (1, .int x1), (2, .int x2), (3, .int x3), (4, .int x4), (5, .int x5)] → W p l e rm_X0_lengthenChains s m ([.ref h, .int a1] : List Value).toArray below meth c H locs 0 0 (MQ below (z_qI dC dI cy res.1 (wX0 cy h q2 q3 q4 q5 q6 q7 q8 q9 c0 c1 c2 c3 c4 res.2 c6 c7 c8 c9 c10 c11) A) ([.ref h, .int a1] : List Value).toArray s 0 0 A) (F0 m 23 ls [])) → ∀ (x1 x2 x3 x5 t0 t1 : Int32) (c5 : Nat → Int32) (H : Heap) (locs : List Loc) (ls : Array Slot), f_X0_lengthenChains_b141 N c0 c4 r23 x1 x2 x3 x5 t0 t1 c5 = some res → va_P (dC, dI) vwCl (wX0 cy h q2 q3 q4 q5 q6 q7 q8 q9 c0 c1 c2 c3 c4 c5 c6 c7 c8 c9 c10 c11) H → va_D A (wX0 cy h q2 q3 q4 q5 q6 q7 q8 q9 c0 c1 c2 c3 c4 c5 c6 c7 c8 c9 c10 c11) → va_S A s.heap H locs → lv_has ls 9 [(0, .ref h), (1, .int x1), (2, .int x2), (3, .int x3), (5, .int x5)] → W p l e rm_X0_lengthenChains s m ([.ref h, .int a1] : List Value).toArray below meth c H locs 0 0 (MQ below (z_qI dC dI cy res.1 (wX0 cy h q2 q3 q4 q5 q6 q7 q8 q9 c0 c1 c2 c3 c4 res.2 c6 c7 c8 c9 c10 c11) A) ([.ref h, .int a1] : List Value).toArray s 0 0 A) (F0 m 141 ls [.int t1, .int t0]) := by
    clear hf hl hP hD hS
    intro r23 hr23
    intro x1 x2 x3 x5 t0 t1 c5 H locs ls hf hP hD hS hl
    unfold f_X0_lengthenChains_b141 at hf
    refine lv_iadd hx hb dX0_lengthenChains_141 ?_
    refine lv_istore (lv' := [(4, .int (t0 + t1)), (0, .ref h), (1, .int x1), (2, .int x2), (3, .int x3), (5, .int x5)]) hx hb dX0_lengthenChains_142 hl (by decide) rfl (fun ls hl => ?_)
    refine lv_iinc (v := x5 + (1 : Int32)) (lv' := [(5, .int (x5 + (1 : Int32))), (4, .int (t0 + t1)), (0, .ref h), (1, .int x1), (2, .int x2), (3, .int x3)]) hx hb dX0_lengthenChains_144 hl (k := 5) rfl rfl (by decide) rfl (fun ls hl => ?_)
    refine lv_goto (tgt := 23) hx hb dX0_lengthenChains_147 (by decide) ?_
    exact hr23 x1 x2 x3 (t0 + t1) (x5 + (1 : Int32)) c5 _ _ _ hf hP hD hS (lv_sub hl [2, 3, 4, 5, 1, 0] rfl)
  have B121 : ∀ (r23 : Int32 → Int32 → Int32 → Int32 → Int32 → (Nat → Int32) → Option (Int32 × (Nat → Int32))), (∀ (x1 x2 x3 x4 x5 : Int32) (c5 : Nat → Int32) (H : Heap) (locs : List Loc) (ls : Array Slot), r23 x1 x2 x3 x4 x5 c5 = some res → va_P (dC, dI) vwCl (wX0 cy h q2 q3 q4 q5 q6 q7 q8 q9 c0 c1 c2 c3 c4 c5 c6 c7 c8 c9 c10 c11) H → va_D A (wX0 cy h q2 q3 q4 q5 q6 q7 q8 q9 c0 c1 c2 c3 c4 c5 c6 c7 c8 c9 c10 c11) → va_S A s.heap H locs → lv_has ls 9 [(0, .ref h), (1, .int x1), (2, .int x2), (3, .int x3), (4, .int x4), (5, .int x5)] → W p l e rm_X0_lengthenChains s m ([.ref h, .int a1] : List Value).toArray below meth c H locs 0 0 (MQ below (z_qI dC dI cy res.1 (wX0 cy h q2 q3 q4 q5 q6 q7 q8 q9 c0 c1 c2 c3 c4 res.2 c6 c7 c8 c9 c10 c11) A) ([.ref h, .int a1] : List Value).toArray s 0 0 A) (F0 m 23 ls [])) → ∀ (x1 x2 x3 x4 x5 x6 : Int32) (c5 : Nat → Int32) (H : Heap) (locs : List Loc) (ls : Array Slot), f_X0_lengthenChains_b121 N c0 c4 r23 x1 x2 x3 x4 x5 x6 c5 = some res → va_P (dC, dI) vwCl (wX0 cy h q2 q3 q4 q5 q6 q7 q8 q9 c0 c1 c2 c3 c4 c5 c6 c7 c8 c9 c10 c11) H → va_D A (wX0 cy h q2 q3 q4 q5 q6 q7 q8 q9 c0 c1 c2 c3 c4 c5 c6 c7 c8 c9 c10 c11) → va_S A s.heap H locs → lv_has ls 9 [(0, .ref h), (1, .int x1), (2, .int x2), (3, .int x3), (4, .int x4), (5, .int x5), (6, .int x6)] → W p l e rm_X0_lengthenChains s m ([.ref h, .int a1] : List Value).toArray below meth c H locs 0 0 (MQ below (z_qI dC dI cy res.1 (wX0 cy h q2 q3 q4 q5 q6 q7 q8 q9 c0 c1 c2 c3 c4 res.2 c6 c7 c8 c9 c10 c11) A) ([.ref h, .int a1] : List Value).toArray s 0 0 A) (F0 m 121 ls []) := by
    clear hf hl hP hD hS
    intro r23 hr23
    intro x1 x2 x3 x4 x5 x6 c5 H locs ls hf hP hD hS hl
    unfold f_X0_lengthenChains_b121 at hf
    refine lv_iload hx hb dX0_lengthenChains_121 (lv_at hl 4 rfl) ?_
    refine lv_aload_n hx hb dX0_lengthenChains_123 rfl (lv_at hl 0 rfl) ?_
    refine va_get (D := (dC, dI)) (ci := 0) (v := .ref q4) (C := RX0) (T := TX0) (N := 12) hx hb hts (by decide +kernel) hown hK hP 0 rfl rfl 4 (by decide) (hts (.fieldLink RX0 16 "GiftLots" "rows" "[I") (by decide +kernel)) (fun _ h9 => h9) rfl dX0_lengthenChains_124 ?_
    refine lv_iload hx hb dX0_lengthenChains_127 (lv_at hl 5 rfl) ?_
    obtain ⟨hi129, hf⟩ := z_gx_some hf
    refine va_iald hx hb hK hP 3 0 rfl rfl hi129 dX0_lengthenChains_129 ?_
    refine lv_iload_n hx hb dX0_lengthenChains_130 rfl (lv_at hl 2 rfl) ?_
    refine lv_iand hx hb dX0_lengthenChains_131 ?_
    refine lv_if_ne (tgt := 139) hx hb dX0_lengthenChains_132 (by decide) (fun c_132 => ?_) (fun c_132 => ?_)
    · replace hf := (if_neg c_132).symm.trans hf
      refine lv_iload hx hb dX0_lengthenChains_139 (lv_at hl 6 rfl) ?_
      exact B141 r23 hr23 x1 x2 x3 x5 x4 x6 c5 _ _ _ hf hP hD hS (lv_sub hl [0, 1, 2, 3, 5] rfl)
    · replace hf := (if_pos c_132).symm.trans hf
      refine lv_iconst (v := (0 : Int32)) hx hb dX0_lengthenChains_135 (by decide) ?_
      refine lv_goto (tgt := 141) hx hb dX0_lengthenChains_136 (by decide) ?_
      exact B141 r23 hr23 x1 x2 x3 x5 x4 (0 : Int32) c5 _ _ _ hf hP hD hS (lv_sub hl [0, 1, 2, 3, 5] rfl)
  have B115 : ∀ (r23 : Int32 → Int32 → Int32 → Int32 → Int32 → (Nat → Int32) → Option (Int32 × (Nat → Int32))), (∀ (x1 x2 x3 x4 x5 : Int32) (c5 : Nat → Int32) (H : Heap) (locs : List Loc) (ls : Array Slot), r23 x1 x2 x3 x4 x5 c5 = some res → va_P (dC, dI) vwCl (wX0 cy h q2 q3 q4 q5 q6 q7 q8 q9 c0 c1 c2 c3 c4 c5 c6 c7 c8 c9 c10 c11) H → va_D A (wX0 cy h q2 q3 q4 q5 q6 q7 q8 q9 c0 c1 c2 c3 c4 c5 c6 c7 c8 c9 c10 c11) → va_S A s.heap H locs → lv_has ls 9 [(0, .ref h), (1, .int x1), (2, .int x2), (3, .int x3), (4, .int x4), (5, .int x5)] → W p l e rm_X0_lengthenChains s m ([.ref h, .int a1] : List Value).toArray below meth c H locs 0 0 (MQ below (z_qI dC dI cy res.1 (wX0 cy h q2 q3 q4 q5 q6 q7 q8 q9 c0 c1 c2 c3 c4 res.2 c6 c7 c8 c9 c10 c11) A) ([.ref h, .int a1] : List Value).toArray s 0 0 A) (F0 m 23 ls [])) → ∀ (r68 : Int32 → Int32 → Int32 → Int32 → Int32 → Int32 → Int32 → Int32 → (Nat → Int32) → Option (Int32 × (Nat → Int32))), (∀ (x1 x2 x3 x4 x5 x6 x7 x8 : Int32) (c5 : Nat → Int32) (H : Heap) (locs : List Loc) (ls : Array Slot), r68 x1 x2 x3 x4 x5 x6 x7 x8 c5 = some res → va_P (dC, dI) vwCl (wX0 cy h q2 q3 q4 q5 q6 q7 q8 q9 c0 c1 c2 c3 c4 c5 c6 c7 c8 c9 c10 c11) H → va_D A (wX0 cy h q2 q3 q4 q5 q6 q7 q8 q9 c0 c1 c2 c3 c4 c5 c6 c7 c8 c9 c10 c11) → va_S A s.heap H locs → lv_has ls 9 [(0, .ref h), (1, .int x1), (2, .int x2), (3, .int x3), (4, .int x4), (5, .int x5), (6, .int x6), (7, .int x7), (8, .int x8)] → W p l e rm_X0_lengthenChains s m ([.ref h, .int a1] : List Value).toArray below meth c H locs 0 0 (MQ below (z_qI dC dI cy res.1 (wX0 cy h q2 q3 q4 q5 q6 q7 q8 q9 c0 c1 c2 c3 c4 res.2 c6 c7 c8 c9 c10 c11) A) ([.ref h, .int a1] : List Value).toArray s 0 0 A) (F0 m 68 ls [])) → ∀ (x1 x2 x3 x4 x5 x6 x7 x8 : Int32) (c5 : Nat → Int32) (H : Heap) (locs : List Loc) (ls : Array Slot), f_X0_lengthenChains_b115 N c0 c4 r23 r68 x1 x2 x3 x4 x5 x6 x7 x8 c5 = some res → va_P (dC, dI) vwCl (wX0 cy h q2 q3 q4 q5 q6 q7 q8 q9 c0 c1 c2 c3 c4 c5 c6 c7 c8 c9 c10 c11) H → va_D A (wX0 cy h q2 q3 q4 q5 q6 q7 q8 q9 c0 c1 c2 c3 c4 c5 c6 c7 c8 c9 c10 c11) → va_S A s.heap H locs → lv_has ls 9 [(0, .ref h), (1, .int x1), (2, .int x2), (3, .int x3), (4, .int x4), (5, .int x5), (6, .int x6), (7, .int x7), (8, .int x8)] → W p l e rm_X0_lengthenChains s m ([.ref h, .int a1] : List Value).toArray below meth c H locs 0 0 (MQ below (z_qI dC dI cy res.1 (wX0 cy h q2 q3 q4 q5 q6 q7 q8 q9 c0 c1 c2 c3 c4 res.2 c6 c7 c8 c9 c10 c11) A) ([.ref h, .int a1] : List Value).toArray s 0 0 A) (F0 m 115 ls []) := by
    clear hf hl hP hD hS
    intro r23 hr23 r68 hr68
    intro x1 x2 x3 x4 x5 x6 x7 x8 c5 H locs ls hf hP hD hS hl
    unfold f_X0_lengthenChains_b115 at hf
    refine lv_iinc (v := x8 + (1 : Int32)) (lv' := [(8, .int (x8 + (1 : Int32))), (0, .ref h), (1, .int x1), (2, .int x2), (3, .int x3), (4, .int x4), (5, .int x5), (6, .int x6), (7, .int x7)]) hx hb dX0_lengthenChains_115 hl (k := 8) rfl rfl (by decide) rfl (fun ls hl => ?_)
    refine lv_goto (tgt := 68) hx hb dX0_lengthenChains_118 (by decide) ?_
    exact hr68 x1 x2 x3 x4 x5 x6 x7 (x8 + (1 : Int32)) c5 _ _ _ hf hP hD hS (lv_sub hl [1, 2, 3, 4, 5, 6, 7, 8, 0] rfl)
  have B68 : ∀ (r23 : Int32 → Int32 → Int32 → Int32 → Int32 → (Nat → Int32) → Option (Int32 × (Nat → Int32))), (∀ (x1 x2 x3 x4 x5 : Int32) (c5 : Nat → Int32) (H : Heap) (locs : List Loc) (ls : Array Slot), r23 x1 x2 x3 x4 x5 c5 = some res → va_P (dC, dI) vwCl (wX0 cy h q2 q3 q4 q5 q6 q7 q8 q9 c0 c1 c2 c3 c4 c5 c6 c7 c8 c9 c10 c11) H → va_D A (wX0 cy h q2 q3 q4 q5 q6 q7 q8 q9 c0 c1 c2 c3 c4 c5 c6 c7 c8 c9 c10 c11) → va_S A s.heap H locs → lv_has ls 9 [(0, .ref h), (1, .int x1), (2, .int x2), (3, .int x3), (4, .int x4), (5, .int x5)] → W p l e rm_X0_lengthenChains s m ([.ref h, .int a1] : List Value).toArray below meth c H locs 0 0 (MQ below (z_qI dC dI cy res.1 (wX0 cy h q2 q3 q4 q5 q6 q7 q8 q9 c0 c1 c2 c3 c4 res.2 c6 c7 c8 c9 c10 c11) A) ([.ref h, .int a1] : List Value).toArray s 0 0 A) (F0 m 23 ls [])) → ∀ n : Nat, ∀ (x1 x2 x3 x4 x5 x6 x7 x8 : Int32) (c5 : Nat → Int32) (H : Heap) (locs : List Loc) (ls : Array Slot), f_X0_lengthenChains_b68 N c0 c4 r23 n x1 x2 x3 x4 x5 x6 x7 x8 c5 = some res → va_P (dC, dI) vwCl (wX0 cy h q2 q3 q4 q5 q6 q7 q8 q9 c0 c1 c2 c3 c4 c5 c6 c7 c8 c9 c10 c11) H → va_D A (wX0 cy h q2 q3 q4 q5 q6 q7 q8 q9 c0 c1 c2 c3 c4 c5 c6 c7 c8 c9 c10 c11) → va_S A s.heap H locs → lv_has ls 9 [(0, .ref h), (1, .int x1), (2, .int x2), (3, .int x3), (4, .int x4), (5, .int x5), (6, .int x6), (7, .int x7), (8, .int x8)] → W p l e rm_X0_lengthenChains s m ([.ref h, .int a1] : List Value).toArray below meth c H locs 0 0 (MQ below (z_qI dC dI cy res.1 (wX0 cy h q2 q3 q4 q5 q6 q7 q8 q9 c0 c1 c2 c3 c4 res.2 c6 c7 c8 c9 c10 c11) A) ([.ref h, .int a1] : List Value).toArray s 0 0 A) (F0 m 68 ls []) := by
    clear hf hl hP hD hS
    intro r23 hr23
    intro n
    induction n with
    | zero =>
      intro x1 x2 x3 x4 x5 x6 x7 x8 c5 H locs ls hf hP hD hS hl
      rw [f_X0_lengthenChains_b68] at hf
      cases hf
    | succ n ih =>
      intro x1 x2 x3 x4 x5 x6 x7 x8 c5 H locs ls hf hP hD hS hl
      rw [f_X0_lengthenChains_b68] at hf
      refine lv_iload hx hb dX0_lengthenChains_68 (lv_at hl 8 rfl) ?_
      refine lv_aload_n hx hb dX0_lengthenChains_70 rfl (lv_at hl 0 rfl) ?_
      refine va_get (D := (dC, dI)) (ci := 0) (v := .int c0) (C := RX0) (T := TX0) (N := 12) hx hb hts (by decide +kernel) hown hK hP 0 rfl rfl 0 (by decide) (hts (.fieldLink RX0 38 "GiftLots" "count" "I") (by decide +kernel)) (fun _ h9 => h9) rfl dX0_lengthenChains_71 ?_
      refine lv_icmp_ge (tgt := 121) hx hb dX0_lengthenChains_74 (by decide) (fun c_74 => ?_) (fun c_74 => ?_)
      · replace hf := (if_pos c_74).symm.trans hf
        exact B121 r23 hr23 x1 x2 x3 x4 x5 x6 c5 _ _ _ hf hP hD hS (lv_sub hl [0, 1, 2, 3, 4, 5, 6] rfl)
      · replace hf := (if_neg c_74).symm.trans hf
        refine lv_iload hx hb dX0_lengthenChains_77 (lv_at hl 7 rfl) ?_
        refine lv_if_eq (tgt := 121) hx hb dX0_lengthenChains_79 (by decide) (fun c_79 => ?_) (fun c_79 => ?_)
        · replace hf := (if_pos c_79).symm.trans hf
          exact B121 r23 hr23 x1 x2 x3 x4 x5 x6 c5 _ _ _ hf hP hD hS (lv_sub hl [0, 1, 2, 3, 4, 5, 6] rfl)
        · replace hf := (if_neg c_79).symm.trans hf
          refine lv_iload hx hb dX0_lengthenChains_82 (lv_at hl 7 rfl) ?_
          refine lv_iload hx hb dX0_lengthenChains_84 (lv_at hl 8 rfl) ?_
          obtain ⟨u86, hu86, hf⟩ := z_ob_some hf
          have hPc := hP.sub (ws' := ([] : va_W)) [] rfl
          have hDc := hD.sub (ws' := ([] : va_W)) [] (by decide) rfl
          have hKc := hK.sub (tys' := [(cy, .int)]) [0] rfl
          have hFc := va_free (wc := ([] : va_W)) hD hS hA [] rfl
          refine va_calli (va_runS (As := [.int x8]) (rest := [.int x7]) ⟨hx, hb, hml, hown, hts⟩ (c_X0_bit N l dC dI cy H.size x8 u86 hu86) (va_cwS 1 hts gX0_lengthenChains_X0_bit rfl rfl rfl (by decide +kernel) ⟨Nat.le_of_ble_eq_true rfl, Nat.le_of_ble_eq_true rfl⟩) ⟨fun a U g mk q => by obtain ⟨q0, q1, qP, qK, qD⟩ := q; exact ⟨q0, q1, qP, va_K.moved (u := U) (U := U.calling g mk a) (Vm.Alike.refl U.vm) qK, qD⟩, fun U hU hW => ⟨rfl, by rw [hU], by rw [hU]; exact hPc, va_K.moved hW.alike hKc, hDc.weaken (fun _ _ _ _ => trivial)⟩⟩ rfl rfl hl.1 rfl (lv_room (Nat.le_of_ble_eq_true rfl)) dX0_lengthenChains_86 ⟨Nat.zero_le _, Nat.zero_le _⟩) hS (fun q _ h => hFc q h) hFc (fun r_86 uu_ t H1 locs ht hvm hw hB hz1 hk1 hS => ?_)
          replace hw := hw.symm
          subst hw
          obtain ⟨hP1, -, hD1⟩ := hB
          rw [ht] at hP1
          obtain ⟨hP, hD⟩ := va_join (wr := (wX0 cy h q2 q3 q4 q5 q6 q7 q8 q9 c0 c1 c2 c3 c4 c5 c6 c7 c8 c9 c10 c11)) (w1 := ([] : va_W)) hP hD [] [0, 1, 2, 3, 4, 5, 6, 7, 8] rfl rfl (by decide) (by decide) hk1 hFc hP1 hD1
          clear hk1 hz1 hP1 hD1 ht hPc hDc hFc
          generalize H1 = H at hP hS ⊢
          have hP : va_P (dC, dI) vwCl (wX0 cy h q2 q3 q4 q5 q6 q7 q8 q9 c0 c1 c2 c3 c4 c5 c6 c7 c8 c9 c10 c11) H := hP
          have hD : va_D A (wX0 cy h q2 q3 q4 q5 q6 q7 q8 q9 c0 c1 c2 c3 c4 c5 c6 c7 c8 c9 c10 c11) := hD
          refine lv_iand hx hb dX0_lengthenChains_89 ?_
          refine lv_if_eq (tgt := 115) hx hb dX0_lengthenChains_90 (by decide) (fun c_90 => ?_) (fun c_90 => ?_)
          · replace hf := (if_pos c_90).symm.trans hf
            exact B115 r23 hr23 (f_X0_lengthenChains_b68 N c0 c4 r23 n) ih x1 x2 x3 x4 x5 x6 x7 x8 c5 _ _ _ hf hP hD hS (lv_sub hl [0, 1, 2, 3, 4, 5, 6, 7, 8] rfl)
          · replace hf := (if_neg c_90).symm.trans hf
            refine lv_aload_n hx hb dX0_lengthenChains_93 rfl (lv_at hl 0 rfl) ?_
            refine va_get (D := (dC, dI)) (ci := 0) (v := .ref q5) (C := RX0) (T := TX0) (N := 12) hx hb hts (by decide +kernel) hown hK hP 0 rfl rfl 5 (by decide) (hts (.fieldLink RX0 19 "GiftLots" "chains" "[I") (by decide +kernel)) (fun _ h9 => h9) rfl dX0_lengthenChains_94 ?_
            refine lv_iload_n hx hb dX0_lengthenChains_97 rfl (lv_at hl 1 rfl) ?_
            refine lv_iload hx hb dX0_lengthenChains_98 (lv_at hl 8 rfl) ?_
            obtain ⟨u100, hu100, hf⟩ := z_ob_some hf
            have hPc := hP.sub (ws' := ([] : va_W)) [] rfl
            have hDc := hD.sub (ws' := ([] : va_W)) [] (by decide) rfl
            have hKc := hK.sub (tys' := [(cy, .int)]) [0] rfl
            have hFc := va_free (wc := ([] : va_W)) hD hS hA [] rfl
            refine va_calli (va_runS (As := [.int x8]) (rest := [.int x1, .ref q5]) ⟨hx, hb, hml, hown, hts⟩ (c_X0_bit N l dC dI cy H.size x8 u100 hu100) (va_cwS 1 hts gX0_lengthenChains_X0_bit rfl rfl rfl (by decide +kernel) ⟨Nat.le_of_ble_eq_true rfl, Nat.le_of_ble_eq_true rfl⟩) ⟨fun a U g mk q => by obtain ⟨q0, q1, qP, qK, qD⟩ := q; exact ⟨q0, q1, qP, va_K.moved (u := U) (U := U.calling g mk a) (Vm.Alike.refl U.vm) qK, qD⟩, fun U hU hW => ⟨rfl, by rw [hU], by rw [hU]; exact hPc, va_K.moved hW.alike hKc, hDc.weaken (fun _ _ _ _ => trivial)⟩⟩ rfl rfl hl.1 rfl (lv_room (Nat.le_of_ble_eq_true rfl)) dX0_lengthenChains_100 ⟨Nat.zero_le _, Nat.zero_le _⟩) hS (fun q _ h => hFc q h) hFc (fun r_100 uu_ t H1 locs ht hvm hw hB hz1 hk1 hS => ?_)
            replace hw := hw.symm
            subst hw
            obtain ⟨hP1, -, hD1⟩ := hB
            rw [ht] at hP1
            obtain ⟨hP, hD⟩ := va_join (wr := (wX0 cy h q2 q3 q4 q5 q6 q7 q8 q9 c0 c1 c2 c3 c4 c5 c6 c7 c8 c9 c10 c11)) (w1 := ([] : va_W)) hP hD [] [0, 1, 2, 3, 4, 5, 6, 7, 8] rfl rfl (by decide) (by decide) hk1 hFc hP1 hD1
            clear hk1 hz1 hP1 hD1 ht hPc hDc hFc
            generalize H1 = H at hP hS ⊢
            have hP : va_P (dC, dI) vwCl (wX0 cy h q2 q3 q4 q5 q6 q7 q8 q9 c0 c1 c2 c3 c4 c5 c6 c7 c8 c9 c10 c11) H := hP
            have hD : va_D A (wX0 cy h q2 q3 q4 q5 q6 q7 q8 q9 c0 c1 c2 c3 c4 c5 c6 c7 c8 c9 c10 c11) := hD
            refine lv_ior hx hb dX0_lengthenChains_103 ?_
            refine lv_iload hx hb dX0_lengthenChains_104 (lv_at hl 8 rfl) ?_
            obtain ⟨u106, hu106, hf⟩ := z_ob_some hf
            have hPc := hP.sub (ws' := ([] : va_W)) [] rfl
            have hDc := hD.sub (ws' := ([] : va_W)) [] (by decide) rfl
            have hKc := hK.sub (tys' := [(cy, .int)]) [0] rfl
            have hFc := va_free (wc := ([] : va_W)) hD hS hA [] rfl
            refine va_calli (va_runS (As := [.int (x1 ||| u100), .int x8]) (rest := [.ref q5]) ⟨hx, hb, hml, hown, hts⟩ (c_X0_chainAt N l dC dI cy H.size (x1 ||| u100) x8 u106 hu106) (va_cwS 2 hts gX0_lengthenChains_X0_chainAt rfl rfl rfl (by decide +kernel) ⟨Nat.le_of_ble_eq_true rfl, Nat.le_of_ble_eq_true rfl⟩) ⟨fun a U g mk q => by obtain ⟨q0, q1, qP, qK, qD⟩ := q; exact ⟨q0, q1, qP, va_K.moved (u := U) (U := U.calling g mk a) (Vm.Alike.refl U.vm) qK, qD⟩, fun U hU hW => ⟨rfl, by rw [hU], by rw [hU]; exact hPc, va_K.moved hW.alike hKc, hDc.weaken (fun _ _ _ _ => trivial)⟩⟩ rfl rfl hl.1 rfl (lv_room (Nat.le_of_ble_eq_true rfl)) dX0_lengthenChains_106 ⟨Nat.zero_le _, Nat.zero_le _⟩) hS (fun q _ h => hFc q h) hFc (fun r_106 uu_ t H1 locs ht hvm hw hB hz1 hk1 hS => ?_)
            replace hw := hw.symm
            subst hw
            obtain ⟨hP1, -, hD1⟩ := hB
            rw [ht] at hP1
            obtain ⟨hP, hD⟩ := va_join (wr := (wX0 cy h q2 q3 q4 q5 q6 q7 q8 q9 c0 c1 c2 c3 c4 c5 c6 c7 c8 c9 c10 c11)) (w1 := ([] : va_W)) hP hD [] [0, 1, 2, 3, 4, 5, 6, 7, 8] rfl rfl (by decide) (by decide) hk1 hFc hP1 hD1
            clear hk1 hz1 hP1 hD1 ht hPc hDc hFc
            generalize H1 = H at hP hS ⊢
            have hP : va_P (dC, dI) vwCl (wX0 cy h q2 q3 q4 q5 q6 q7 q8 q9 c0 c1 c2 c3 c4 c5 c6 c7 c8 c9 c10 c11) H := hP
            have hD : va_D A (wX0 cy h q2 q3 q4 q5 q6 q7 q8 q9 c0 c1 c2 c3 c4 c5 c6 c7 c8 c9 c10 c11) := hD
            refine lv_dup2_11 hx hb dX0_lengthenChains_109 rfl rfl ?_
            obtain ⟨hi110, hf⟩ := z_gx_some hf
            refine va_iald hx hb hK hP 4 0 rfl rfl hi110 dX0_lengthenChains_110 ?_
            refine lv_iload hx hb dX0_lengthenChains_111 (lv_at hl 6 rfl) ?_
            refine lv_iadd hx hb dX0_lengthenChains_113 ?_
            obtain ⟨hi114, hf⟩ := z_gx_some hf
            refine va_iast hx hb hK hP hD hS 4 0 rfl rfl hi114 dX0_lengthenChains_114 (fun H locs hP hD hS => ?_)
            have hP : va_P (dC, dI) vwCl (wX0 cy h q2 q3 q4 q5 q6 q7 q8 q9 c0 c1 c2 c3 c4 (upd c5 (u106).toNatClampNeg ((c5 (u106).toNatClampNeg) + x6)) c6 c7 c8 c9 c10 c11) H := hP
            have hD : va_D A (wX0 cy h q2 q3 q4 q5 q6 q7 q8 q9 c0 c1 c2 c3 c4 (upd c5 (u106).toNatClampNeg ((c5 (u106).toNatClampNeg) + x6)) c6 c7 c8 c9 c10 c11) := hD
            exact B115 r23 hr23 (f_X0_lengthenChains_b68 N c0 c4 r23 n) ih x1 x2 x3 x4 x5 x6 x7 x8 (upd c5 (u106).toNatClampNeg ((c5 (u106).toNatClampNeg) + x6)) _ _ _ hf hP hD hS (lv_sub hl [0, 1, 2, 3, 4, 5, 6, 7, 8] rfl)
  have B63 : ∀ (r23 : Int32 → Int32 → Int32 → Int32 → Int32 → (Nat → Int32) → Option (Int32 × (Nat → Int32))), (∀ (x1 x2 x3 x4 x5 : Int32) (c5 : Nat → Int32) (H : Heap) (locs : List Loc) (ls : Array Slot), r23 x1 x2 x3 x4 x5 c5 = some res → va_P (dC, dI) vwCl (wX0 cy h q2 q3 q4 q5 q6 q7 q8 q9 c0 c1 c2 c3 c4 c5 c6 c7 c8 c9 c10 c11) H → va_D A (wX0 cy h q2 q3 q4 q5 q6 q7 q8 q9 c0 c1 c2 c3 c4 c5 c6 c7 c8 c9 c10 c11) → va_S A s.heap H locs → lv_has ls 9 [(0, .ref h), (1, .int x1), (2, .int x2), (3, .int x3), (4, .int x4), (5, .int x5)] → W p l e rm_X0_lengthenChains s m ([.ref h, .int a1] : List Value).toArray below meth c H locs 0 0 (MQ below (z_qI dC dI cy res.1 (wX0 cy h q2 q3 q4 q5 q6 q7 q8 q9 c0 c1 c2 c3 c4 res.2 c6 c7 c8 c9 c10 c11) A) ([.ref h, .int a1] : List Value).toArray s 0 0 A) (F0 m 23 ls [])) → ∀ (x1 x2 x3 x4 x5 x6 t0 : Int32) (c5 : Nat → Int32) (H : Heap) (locs : List Loc) (ls : Array Slot), f_X0_lengthenChains_b63 N c0 c4 r23 x1 x2 x3 x4 x5 x6 t0 c5 = some res → va_P (dC, dI) vwCl (wX0 cy h q2 q3 q4 q5 q6 q7 q8 q9 c0 c1 c2 c3 c4 c5 c6 c7 c8 c9 c10 c11) H → va_D A (wX0 cy h q2 q3 q4 q5 q6 q7 q8 q9 c0 c1 c2 c3 c4 c5 c6 c7 c8 c9 c10 c11) → va_S A s.heap H locs → lv_has ls 9 [(0, .ref h), (1, .int x1), (2, .int x2), (3, .int x3), (4, .int x4), (5, .int x5), (6, .int x6)] → W p l e rm_X0_lengthenChains s m ([.ref h, .int a1] : List Value).toArray below meth c H locs 0 0 (MQ below (z_qI dC dI cy res.1 (wX0 cy h q2 q3 q4 q5 q6 q7 q8 q9 c0 c1 c2 c3 c4 res.2 c6 c7 c8 c9 c10 c11) A) ([.ref h, .int a1] : List Value).toArray s 0 0 A) (F0 m 63 ls [.int t0]) := by
    clear hf hl hP hD hS
    intro r23 hr23
    intro x1 x2 x3 x4 x5 x6 t0 c5 H locs ls hf hP hD hS hl
    unfold f_X0_lengthenChains_b63 at hf
    refine lv_istore (lv' := [(7, .int t0), (0, .ref h), (1, .int x1), (2, .int x2), (3, .int x3), (4, .int x4), (5, .int x5), (6, .int x6)]) hx hb dX0_lengthenChains_63 hl (by decide) rfl (fun ls hl => ?_)
    refine lv_iconst (v := (0 : Int32)) hx hb dX0_lengthenChains_65 (by decide) ?_
    refine lv_istore (lv' := [(8, .int (0 : Int32)), (7, .int t0), (0, .ref h), (1, .int x1), (2, .int x2), (3, .int x3), (4, .int x4), (5, .int x5), (6, .int x6)]) hx hb dX0_lengthenChains_66 hl (by decide) rfl (fun ls hl => ?_)
    exact B68 r23 hr23 N x1 x2 x3 x4 x5 x6 t0 (0 : Int32) c5 _ _ _ hf hP hD hS (lv_sub hl [2, 3, 4, 5, 6, 7, 8, 1, 0] rfl)
  have B23 : ∀ n : Nat, ∀ (x1 x2 x3 x4 x5 : Int32) (c5 : Nat → Int32) (H : Heap) (locs : List Loc) (ls : Array Slot), f_X0_lengthenChains_b23 N c0 c4 n x1 x2 x3 x4 x5 c5 = some res → va_P (dC, dI) vwCl (wX0 cy h q2 q3 q4 q5 q6 q7 q8 q9 c0 c1 c2 c3 c4 c5 c6 c7 c8 c9 c10 c11) H → va_D A (wX0 cy h q2 q3 q4 q5 q6 q7 q8 q9 c0 c1 c2 c3 c4 c5 c6 c7 c8 c9 c10 c11) → va_S A s.heap H locs → lv_has ls 9 [(0, .ref h), (1, .int x1), (2, .int x2), (3, .int x3), (4, .int x4), (5, .int x5)] → W p l e rm_X0_lengthenChains s m ([.ref h, .int a1] : List Value).toArray below meth c H locs 0 0 (MQ below (z_qI dC dI cy res.1 (wX0 cy h q2 q3 q4 q5 q6 q7 q8 q9 c0 c1 c2 c3 c4 res.2 c6 c7 c8 c9 c10 c11) A) ([.ref h, .int a1] : List Value).toArray s 0 0 A) (F0 m 23 ls []) := by
    clear hf hl hP hD hS
    intro n
    induction n with
    | zero =>
      intro x1 x2 x3 x4 x5 c5 H locs ls hf hP hD hS hl
      rw [f_X0_lengthenChains_b23] at hf
      cases hf
    | succ n ih =>
      intro x1 x2 x3 x4 x5 c5 H locs ls hf hP hD hS hl
      rw [f_X0_lengthenChains_b23] at hf
      refine lv_iload hx hb dX0_lengthenChains_23 (lv_at hl 5 rfl) ?_
      refine lv_aload_n hx hb dX0_lengthenChains_25 rfl (lv_at hl 0 rfl) ?_
      refine va_get (D := (dC, dI)) (ci := 0) (v := .int c0) (C := RX0) (T := TX0) (N := 12) hx hb hts (by decide +kernel) hown hK hP 0 rfl rfl 0 (by decide) (hts (.fieldLink RX0 38 "GiftLots" "count" "I") (by decide +kernel)) (fun _ h9 => h9) rfl dX0_lengthenChains_26 ?_
      refine lv_icmp_ge (tgt := 150) hx hb dX0_lengthenChains_29 (by decide) (fun c_29 => ?_) (fun c_29 => ?_)
      · replace hf := (if_pos c_29).symm.trans hf
        refine lv_iload hx hb dX0_lengthenChains_150 (lv_at hl 4 rfl) ?_
        have hres := Option.some.inj hf
        subst hres
        have hP9 := hP.sub (ws' := (wX0 cy h q2 q3 q4 q5 q6 q7 q8 q9 c0 c1 c2 c3 c4 c5 c6 c7 c8 c9 c10 c11)) [0, 1, 2, 3, 4, 5, 6, 7, 8] rfl
        have hD9 := hD.sub (ws' := (wX0 cy h q2 q3 q4 q5 q6 q7 q8 q9 c0 c1 c2 c3 c4 c5 c6 c7 c8 c9 c10 c11)) [0, 1, 2, 3, 4, 5, 6, 7, 8] (by decide) rfl
        have hK9 := hK.sub (tys' := [(cy, .int)]) [0] rfl
        exact W.iret (v := x4) hx hb hr (fun t ht hW => ⟨⟨x4, (), rfl, rfl, by rw [ht]; exact hP9, va_K.moved hW.alike hK9, hD9⟩, hS.F ht⟩) hS.2.2 dX0_lengthenChains_152
      · replace hf := (if_neg c_29).symm.trans hf
        refine lv_aload_n hx hb dX0_lengthenChains_32 rfl (lv_at hl 0 rfl) ?_
        refine va_get (D := (dC, dI)) (ci := 0) (v := .ref q5) (C := RX0) (T := TX0) (N := 12) hx hb hts (by decide +kernel) hown hK hP 0 rfl rfl 5 (by decide) (hts (.fieldLink RX0 19 "GiftLots" "chains" "[I") (by decide +kernel)) (fun _ h9 => h9) rfl dX0_lengthenChains_33 ?_
        refine lv_iload_n hx hb dX0_lengthenChains_36 rfl (lv_at hl 1 rfl) ?_
        refine lv_iload hx hb dX0_lengthenChains_37 (lv_at hl 5 rfl) ?_
        obtain ⟨u39, hu39, hf⟩ := z_ob_some hf
        have hPc := hP.sub (ws' := ([] : va_W)) [] rfl
        have hDc := hD.sub (ws' := ([] : va_W)) [] (by decide) rfl
        have hKc := hK.sub (tys' := [(cy, .int)]) [0] rfl
        have hFc := va_free (wc := ([] : va_W)) hD hS hA [] rfl
        refine va_calli (va_runS (As := [.int x1, .int x5]) (rest := [.ref q5]) ⟨hx, hb, hml, hown, hts⟩ (c_X0_chainAt N l dC dI cy H.size x1 x5 u39 hu39) (va_cwS 2 hts gX0_lengthenChains_X0_chainAt rfl rfl rfl (by decide +kernel) ⟨Nat.le_of_ble_eq_true rfl, Nat.le_of_ble_eq_true rfl⟩) ⟨fun a U g mk q => by obtain ⟨q0, q1, qP, qK, qD⟩ := q; exact ⟨q0, q1, qP, va_K.moved (u := U) (U := U.calling g mk a) (Vm.Alike.refl U.vm) qK, qD⟩, fun U hU hW => ⟨rfl, by rw [hU], by rw [hU]; exact hPc, va_K.moved hW.alike hKc, hDc.weaken (fun _ _ _ _ => trivial)⟩⟩ rfl rfl hl.1 rfl (lv_room (Nat.le_of_ble_eq_true rfl)) dX0_lengthenChains_39 ⟨Nat.zero_le _, Nat.zero_le _⟩) hS (fun q _ h => hFc q h) hFc (fun r_39 uu_ t H1 locs ht hvm hw hB hz1 hk1 hS => ?_)
        replace hw := hw.symm
        subst hw
        obtain ⟨hP1, -, hD1⟩ := hB
        rw [ht] at hP1
        obtain ⟨hP, hD⟩ := va_join (wr := (wX0 cy h q2 q3 q4 q5 q6 q7 q8 q9 c0 c1 c2 c3 c4 c5 c6 c7 c8 c9 c10 c11)) (w1 := ([] : va_W)) hP hD [] [0, 1, 2, 3, 4, 5, 6, 7, 8] rfl rfl (by decide) (by decide) hk1 hFc hP1 hD1
        clear hk1 hz1 hP1 hD1 ht hPc hDc hFc
        generalize H1 = H at hP hS ⊢
        have hP : va_P (dC, dI) vwCl (wX0 cy h q2 q3 q4 q5 q6 q7 q8 q9 c0 c1 c2 c3 c4 c5 c6 c7 c8 c9 c10 c11) H := hP
        have hD : va_D A (wX0 cy h q2 q3 q4 q5 q6 q7 q8 q9 c0 c1 c2 c3 c4 c5 c6 c7 c8 c9 c10 c11) := hD
        obtain ⟨hi42, hf⟩ := z_gx_some hf
        refine va_iald hx hb hK hP 4 0 rfl rfl hi42 dX0_lengthenChains_42 ?_
        refine lv_istore (lv' := [(6, .int (c5 (u39).toNatClampNeg)), (0, .ref h), (1, .int x1), (2, .int x2), (3, .int x3), (4, .int x4), (5, .int x5)]) hx hb dX0_lengthenChains_43 hl (by decide) rfl (fun ls hl => ?_)
        refine lv_iload hx hb dX0_lengthenChains_45 (lv_at hl 0 rfl) ?_
        refine lv_if_ne (tgt := 54) hx hb dX0_lengthenChains_47 (by decide) (fun c_47 => ?_) (fun c_47 => ?_)
        · replace hf := (if_neg c_47).symm.trans hf
          refine lv_aload_n hx hb dX0_lengthenChains_54 rfl (lv_at hl 1 rfl) ?_
          refine va_get (D := (dC, dI)) (ci := 0) (v := .ref q4) (C := RX0) (T := TX0) (N := 12) hx hb hts (by decide +kernel) hown hK hP 0 rfl rfl 4 (by decide) (hts (.fieldLink RX0 16 "GiftLots" "rows" "[I") (by decide +kernel)) (fun _ h9 => h9) rfl dX0_lengthenChains_55 ?_
          refine lv_iload hx hb dX0_lengthenChains_58 (lv_at hl 6 rfl) ?_
          obtain ⟨hi60, hf⟩ := z_gx_some hf
          refine va_iald hx hb hK hP 3 0 rfl rfl hi60 dX0_lengthenChains_60 ?_
          refine lv_iload_n hx hb dX0_lengthenChains_61 rfl (lv_at hl 4 rfl) ?_
          refine lv_iand hx hb dX0_lengthenChains_62 ?_
          exact B63 (f_X0_lengthenChains_b23 N c0 c4 n) ih x1 x2 x3 x4 x5 (c5 (u39).toNatClampNeg) ((c4 (x5).toNatClampNeg) &&& x3) c5 _ _ _ hf hP hD hS (lv_sub hl [1, 2, 3, 4, 5, 6, 0] rfl)
        · replace hf := (if_pos c_47).symm.trans hf
          refine lv_iconst (v := (0 : Int32)) hx hb dX0_lengthenChains_50 (by decide) ?_
          refine lv_goto (tgt := 63) hx hb dX0_lengthenChains_51 (by decide) ?_
          exact B63 (f_X0_lengthenChains_b23 N c0 c4 n) ih x1 x2 x3 x4 x5 (c5 (u39).toNatClampNeg) (0 : Int32) c5 _ _ _ hf hP hD hS (lv_sub hl [1, 2, 3, 4, 5, 6, 0] rfl)
  unfold f_X0_lengthenChains at hf
  refine lv_iload_n hx hb dX0_lengthenChains_0 rfl (lv_at hl 1 rfl) ?_
  refine lv_iload_n hx hb dX0_lengthenChains_1 rfl (lv_at hl 1 rfl) ?_
  refine lv_ineg hx hb dX0_lengthenChains_2 ?_
  refine lv_iand hx hb dX0_lengthenChains_3 ?_
  refine lv_istore_n (lv' := [(2, .int (a1 &&& (-a1))), (0, .ref h), (1, .int a1)]) hx hb dX0_lengthenChains_4 rfl hl (by decide) rfl (fun ls hl => ?_)
  refine lv_aload_n hx hb dX0_lengthenChains_5 rfl (lv_at hl 1 rfl) ?_
  obtain ⟨u6, hu6, hf⟩ := z_ob_some hf
  have hPc := hP.sub (ws' := (wX0 cy h q2 q3 q4 q5 q6 q7 q8 q9 c0 c1 c2 c3 c4 c5 c6 c7 c8 c9 c10 c11)) [0, 1, 2, 3, 4, 5, 6, 7, 8] rfl
  have hDc := hD.sub (ws' := (wX0 cy h q2 q3 q4 q5 q6 q7 q8 q9 c0 c1 c2 c3 c4 c5 c6 c7 c8 c9 c10 c11)) [0, 1, 2, 3, 4, 5, 6, 7, 8] (by decide) rfl
  have hKc := hK.sub (tys' := [(cy, .int)]) [0] rfl
  have hFc := va_free (wc := (wX0 cy h q2 q3 q4 q5 q6 q7 q8 q9 c0 c1 c2 c3 c4 c5 c6 c7 c8 c9 c10 c11)) hD hS hA [0, 1, 2, 3, 4, 5, 6, 7, 8] rfl
  refine va_calli (va_runV (As := []) (rest := []) ⟨hx, hb, hml, hown, hts⟩ (c_X0_everyone N l dC dI cy h q2 q3 q4 q5 q6 q7 q8 q9 s.heap.size c0 c1 c2 c3 c4 c5 c6 c7 c8 c9 c10 c11 u6 hu6) (cwV 0 hts gX0_lengthenChains_X0_everyone rfl rfl rfl (by decide +kernel) ⟨Nat.le_of_ble_eq_true rfl, Nat.le_of_ble_eq_true rfl⟩) ⟨fun a U g mk q => by obtain ⟨q0, q1, qP, qK, qD⟩ := q; exact ⟨q0, q1, qP, va_K.moved (u := U) (U := U.calling g mk a) (Vm.Alike.refl U.vm) qK, qD⟩, va_recv hKc hPc (ci := 0) (q0 := 0) rfl rfl, fun U hU hW => ⟨rfl, by rw [hU], by rw [hU]; exact hPc, va_K.moved hW.alike hKc, hDc.weaken (fun _ _ _ _ => trivial)⟩⟩ rfl rfl hl.1 rfl (lv_room (Nat.le_of_ble_eq_true rfl)) dX0_lengthenChains_6 ⟨Nat.zero_le _, Nat.zero_le _⟩) hS (fun q _ h => hFc q h) hFc (fun r_6 uu_ t H1 locs ht hvm hw hB hz1 hk1 hS => ?_)
  replace hw := hw.symm
  subst hw
  obtain ⟨hP1, -, hD1⟩ := hB
  rw [ht] at hP1
  obtain ⟨hP, hD⟩ := va_join (wr := []) (w1 := (wX0 cy h q2 q3 q4 q5 q6 q7 q8 q9 c0 c1 c2 c3 c4 c5 c6 c7 c8 c9 c10 c11)) hP hD [0, 1, 2, 3, 4, 5, 6, 7, 8] [] rfl rfl (by decide) (by decide) hk1 hFc hP1 hD1
  clear hk1 hz1 hP1 hD1 ht hPc hDc hFc
  generalize H1 = H at hP hS ⊢
  have hP : va_P (dC, dI) vwCl (wX0 cy h q2 q3 q4 q5 q6 q7 q8 q9 c0 c1 c2 c3 c4 c5 c6 c7 c8 c9 c10 c11) H := hP
  have hD : va_D A (wX0 cy h q2 q3 q4 q5 q6 q7 q8 q9 c0 c1 c2 c3 c4 c5 c6 c7 c8 c9 c10 c11) := hD
  refine lv_iload_n hx hb dX0_lengthenChains_9 rfl (lv_at hl 2 rfl) ?_
  refine lv_iconst (v := (-1 : Int32)) hx hb dX0_lengthenChains_10 (by decide) ?_
  refine lv_ixor hx hb dX0_lengthenChains_11 ?_
  refine lv_iand hx hb dX0_lengthenChains_12 ?_
  refine lv_iload_n hx hb dX0_lengthenChains_13 rfl (lv_at hl 0 rfl) ?_
  refine lv_ineg hx hb dX0_lengthenChains_14 ?_
  refine lv_iand hx hb dX0_lengthenChains_15 ?_
  refine lv_istore_n (lv' := [(3, .int ((u6 &&& (a1 ^^^ (-1 : Int32))) &&& (-(a1 &&& (-a1))))), (2, .int (a1 &&& (-a1))), (0, .ref h), (1, .int a1)]) hx hb dX0_lengthenChains_16 rfl hl (by decide) rfl (fun ls hl => ?_)
  refine lv_iconst (v := (0 : Int32)) hx hb dX0_lengthenChains_17 (by decide) ?_
  refine lv_istore (lv' := [(4, .int (0 : Int32)), (3, .int ((u6 &&& (a1 ^^^ (-1 : Int32))) &&& (-(a1 &&& (-a1))))), (2, .int (a1 &&& (-a1))), (0, .ref h), (1, .int a1)]) hx hb dX0_lengthenChains_18 hl (by decide) rfl (fun ls hl => ?_)
  refine lv_iconst (v := (0 : Int32)) hx hb dX0_lengthenChains_20 (by decide) ?_
  refine lv_istore (lv' := [(5, .int (0 : Int32)), (4, .int (0 : Int32)), (3, .int ((u6 &&& (a1 ^^^ (-1 : Int32))) &&& (-(a1 &&& (-a1))))), (2, .int (a1 &&& (-a1))), (0, .ref h), (1, .int a1)]) hx hb dX0_lengthenChains_21 hl (by decide) rfl (fun ls hl => ?_)
  exact B23 N a1 (a1 &&& (-a1)) ((u6 &&& (a1 ^^^ (-1 : Int32))) &&& (-(a1 &&& (-a1)))) (0 : Int32) (0 : Int32) c5 _ _ _ hf hP hD hS (lv_sub hl [4, 5, 3, 2, 1, 0] rfl)

set_option maxRecDepth 20000 in
theorem ggX0_closeRounds_X0_everyone : GoodIn wsX0_closeRounds wsX0_everyone := goodIn_r _ [8, 2, 31, 32, 33, 34, 35, 36, 37, 38, 39, 40, 41, 42] (by decide +kernel) (by decide +kernel)
set_option maxRecDepth 20000 in
theorem gX0_closeRounds_X0_everyone : GoodIn wsX0_closeRounds (wsV RX0 85 RX0 yX0_everyone wsX0_everyone) := goodIn_app (goodIn_of _ (by decide +kernel)) ggX0_closeRounds_X0_everyone
set_option maxRecDepth 20000 in
theorem ggX0_closeRounds_J7_fill_53178 : GoodIn wsX0_closeRounds wsJ7_fill_53178 := goodIn_r _ [12] (by decide +kernel) (by decide +kernel)
set_option maxRecDepth 20000 in
theorem gX0_closeRounds_J7_fill_53178 : GoodIn wsX0_closeRounds (va_wsS RX0 143 yJ7_fill_53178 wsJ7_fill_53178) := goodIn_app (goodIn_of _ (by decide +kernel)) ggX0_closeRounds_J7_fill_53178
set_option maxRecDepth 20000 in
theorem ggX0_closeRounds_X0_bit : GoodIn wsX0_closeRounds wsX0_bit := goodIn_r _ [15] (by decide +kernel) (by decide +kernel)
set_option maxRecDepth 20000 in
theorem gX0_closeRounds_X0_bit : GoodIn wsX0_closeRounds (va_wsS RX0 50 yX0_bit wsX0_bit) := goodIn_app (goodIn_of _ (by decide +kernel)) ggX0_closeRounds_X0_bit
set_option maxRecDepth 20000 in
theorem ggX0_closeRounds_X0_chainAt : GoodIn wsX0_closeRounds wsX0_chainAt := goodIn_r _ [18] (by decide +kernel) (by decide +kernel)
set_option maxRecDepth 20000 in
theorem gX0_closeRounds_X0_chainAt : GoodIn wsX0_closeRounds (va_wsS RX0 149 yX0_chainAt wsX0_chainAt) := goodIn_app (goodIn_of _ (by decide +kernel)) ggX0_closeRounds_X0_chainAt
set_option maxRecDepth 20000 in
theorem ggX0_closeRounds_X0_lengthenChains : GoodIn wsX0_closeRounds wsX0_lengthenChains := goodIn_r _ [22, 2, 1, 23, 4, 5, 6, 7, 8, 16, 17, 18, 13, 14, 15, 31, 32, 33, 34, 35, 36, 37, 38, 39, 40, 41, 42] (by decide +kernel) (by decide +kernel)
set_option maxRecDepth 20000 in
theorem gX0_closeRounds_X0_lengthenChains : GoodIn wsX0_closeRounds (wsV RX0 152 RX0 yX0_lengthenChains wsX0_lengthenChains) := goodIn_app (goodIn_of _ (by decide +kernel)) ggX0_closeRounds_X0_lengthenChains
set_option maxRecDepth 20000 in
theorem ggX0_closeRounds_J6_bitCount_0f7a4 : GoodIn wsX0_closeRounds wsJ6_bitCount_0f7a4 := goodIn_r _ [27, 28, 29, 30] (by decide +kernel) (by decide +kernel)
set_option maxRecDepth 20000 in
theorem gX0_closeRounds_J6_bitCount_0f7a4 : GoodIn wsX0_closeRounds (va_wsS RX0 89 yJ6_bitCount_0f7a4 wsJ6_bitCount_0f7a4) := goodIn_app (goodIn_of _ (by decide +kernel)) ggX0_closeRounds_J6_bitCount_0f7a4
theorem dX0_closeRounds_0 : decode cX0_closeRounds 0 = .ok (.aload_n 0, 1) := by decide +kernel
theorem dX0_closeRounds_1 : decode cX0_closeRounds 1 = .ok (.invokevirtual 85, 3) := by decide +kernel
theorem dX0_closeRounds_4 : decode cX0_closeRounds 4 = .ok (.istore_n 2, 1) := by decide +kernel
theorem dX0_closeRounds_5 : decode cX0_closeRounds 5 = .ok (.aload_n 0, 1) := by decide +kernel
theorem dX0_closeRounds_6 : decode cX0_closeRounds 6 = .ok (.getfield 19, 3) := by decide +kernel
theorem dX0_closeRounds_9 : decode cX0_closeRounds 9 = .ok (.iconst 0, 1) := by decide +kernel
theorem dX0_closeRounds_10 : decode cX0_closeRounds 10 = .ok (.invokestatic 143, 3) := by decide +kernel
theorem dX0_closeRounds_13 : decode cX0_closeRounds 13 = .ok (.iconst 0, 1) := by decide +kernel
theorem dX0_closeRounds_14 : decode cX0_closeRounds 14 = .ok (.istore_n 3, 1) := by decide +kernel
theorem dX0_closeRounds_15 : decode cX0_closeRounds 15 = .ok (.iload_n 3, 1) := by decide +kernel
theorem dX0_closeRounds_16 : decode cX0_closeRounds 16 = .ok (.aload_n 0, 1) := by decide +kernel
theorem dX0_closeRounds_17 : decode cX0_closeRounds 17 = .ok (.getfield 38, 3) := by decide +kernel
theorem dX0_closeRounds_20 : decode cX0_closeRounds 20 = .ok (.if_icmp .ge 23, 3) := by decide +kernel
theorem dX0_closeRounds_23 : decode cX0_closeRounds 23 = .ok (.aload_n 0, 1) := by decide +kernel
theorem dX0_closeRounds_24 : decode cX0_closeRounds 24 = .ok (.getfield 19, 3) := by decide +kernel
theorem dX0_closeRounds_27 : decode cX0_closeRounds 27 = .ok (.iload_n 3, 1) := by decide +kernel
theorem dX0_closeRounds_28 : decode cX0_closeRounds 28 = .ok (.invokestatic 50, 3) := by decide +kernel
theorem dX0_closeRounds_31 : decode cX0_closeRounds 31 = .ok (.iload_n 3, 1) := by decide +kernel
theorem dX0_closeRounds_32 : decode cX0_closeRounds 32 = .ok (.invokestatic 149, 3) := by decide +kernel
theorem dX0_closeRounds_35 : decode cX0_closeRounds 35 = .ok (.iconst 1, 1) := by decide +kernel
theorem dX0_closeRounds_36 : decode cX0_closeRounds 36 = .ok (.iastore, 1) := by decide +kernel
theorem dX0_closeRounds_37 : decode cX0_closeRounds 37 = .ok (.iinc 3 1, 3) := by decide +kernel
theorem dX0_closeRounds_40 : decode cX0_closeRounds 40 = .ok (.goto (-25), 3) := by decide +kernel
theorem dX0_closeRounds_43 : decode cX0_closeRounds 43 = .ok (.iconst 1, 1) := by decide +kernel
theorem dX0_closeRounds_44 : decode cX0_closeRounds 44 = .ok (.istore_n 3, 1) := by decide +kernel
theorem dX0_closeRounds_45 : decode cX0_closeRounds 45 = .ok (.iload_n 3, 1) := by decide +kernel
theorem dX0_closeRounds_46 : decode cX0_closeRounds 46 = .ok (.iload_n 2, 1) := by decide +kernel
theorem dX0_closeRounds_47 : decode cX0_closeRounds 47 = .ok (.if_icmp .gt 36, 3) := by decide +kernel
theorem dX0_closeRounds_50 : decode cX0_closeRounds 50 = .ok (.aload_n 0, 1) := by decide +kernel
theorem dX0_closeRounds_51 : decode cX0_closeRounds 51 = .ok (.iload_n 3, 1) := by decide +kernel
theorem dX0_closeRounds_52 : decode cX0_closeRounds 52 = .ok (.invokevirtual 152, 3) := by decide +kernel
theorem dX0_closeRounds_55 : decode cX0_closeRounds 55 = .ok (.istore 4, 2) := by decide +kernel
theorem dX0_closeRounds_57 : decode cX0_closeRounds 57 = .ok (.aload_n 0, 1) := by decide +kernel
theorem dX0_closeRounds_58 : decode cX0_closeRounds 58 = .ok (.getfield 22, 3) := by decide +kernel
theorem dX0_closeRounds_61 : decode cX0_closeRounds 61 = .ok (.iload_n 3, 1) := by decide +kernel
theorem dX0_closeRounds_62 : decode cX0_closeRounds 62 = .ok (.iload_n 3, 1) := by decide +kernel
theorem dX0_closeRounds_63 : decode cX0_closeRounds 63 = .ok (.invokestatic 89, 3) := by decide +kernel
theorem dX0_closeRounds_66 : decode cX0_closeRounds 66 = .ok (.iload_n 1, 1) := by decide +kernel
theorem dX0_closeRounds_67 : decode cX0_closeRounds 67 = .ok (.if_icmp .ge 7, 3) := by decide +kernel
theorem dX0_closeRounds_70 : decode cX0_closeRounds 70 = .ok (.iconst 0, 1) := by decide +kernel
theorem dX0_closeRounds_71 : decode cX0_closeRounds 71 = .ok (.goto 5, 3) := by decide +kernel
theorem dX0_closeRounds_74 : decode cX0_closeRounds 74 = .ok (.iload 4, 2) := by decide +kernel
theorem dX0_closeRounds_76 : decode cX0_closeRounds 76 = .ok (.iastore, 1) := by decide +kernel
theorem dX0_closeRounds_77 : decode cX0_closeRounds 77 = .ok (.iinc 3 1, 3) := by decide +kernel
theorem dX0_closeRounds_80 : decode cX0_closeRounds 80 = .ok (.goto (-35), 3) := by decide +kernel
theorem dX0_closeRounds_83 : decode cX0_closeRounds 83 = .ok (.return_, 1) := by decide +kernel
abbrev rm_X0_closeRounds : Room := { frames := 2, cells := 0, slots := 0, locals := 49 }
set_option maxHeartbeats 4000000 in
set_option maxRecDepth 100000 in
theorem c_X0_closeRounds (N : Nat) (l : Launch) (dC : Nat → ClassId) (dI : Nat → Nat → Nat) (cy : ClassId) (h q2 q3 q4 q5 q6 q7 q8 q9 : Nat) (sz : Nat) (c0 : Int32) (c1 : Int32) (c2 : Nat → Int32) (c3 : Nat → Int32) (c4 : Nat → Int32) (c5 : Nat → Int32) (c6 : Nat → Int32) (c7 : Nat → Int32) (c8 : Nat → Int32) (c9 : Nat → Int32) (c10 : Int32) (c11 : Int32) (a1 : Int32) (res : (Nat → Int32) × (Nat → Int32)) (hf : f_X0_closeRounds N a1 c0 c4 c5 c6 = some res) : Met l yX0_closeRounds wsX0_closeRounds rm_X0_closeRounds (va_Pc [.ref h, .int a1] (fun U => U.heap.size = sz ∧ va_P (dC, dI) vwCl (wX0 cy h q2 q3 q4 q5 q6 q7 q8 q9 c0 c1 c2 c3 c4 c5 c6 c7 c8 c9 c10 c11) U.heap ∧ va_K (dC, dI) vwCl [(cy, .int)] U ∧ va_D (fun _ => True) (wX0 cy h q2 q3 q4 q5 q6 q7 q8 q9 c0 c1 c2 c3 c4 c5 c6 c7 c8 c9 c10 c11))) (z_qV dC dI cy (wX0 cy h q2 q3 q4 q5 q6 q7 q8 q9 c0 c1 c2 c3 c4 res.1 res.2 c7 c8 c9 c10 c11) (va_A (wX0 cy h q2 q3 q4 q5 q6 q7 q8 q9 c0 c1 c2 c3 c4 c5 c6 c7 c8 c9 c10 c11) sz)) 0 0 (va_A (wX0 cy h q2 q3 q4 q5 q6 q7 q8 q9 c0 c1 c2 c3 c4 c5 c6 c7 c8 c9 c10 c11) sz) := by
  refine Met.ofW (cc := cX0_closeRounds) (maxL := 5) (ret := none) (by decide) rfl ?_
  intro p e s m args below meth c s₁ B hml hv
  obtain ⟨rfl, hsz, hP, hK, hD0⟩ := hv
  have hx := B.exec
  have hb := B.bytes
  have hr := B.returns
  have hts := atoms_spec (ws := wsX0_closeRounds) B.pre
  have hown : s.vm.findClass RX0 = some m.cls := findClass_of_methodNamed B.named
  have hlocks := B.notSynchronized
  subst hsz
  have hD := hD0.self (sz := s.heap.size)
  generalize hAe : va_A (wX0 cy h q2 q3 q4 q5 q6 q7 q8 q9 c0 c1 c2 c3 c4 c5 c6 c7 c8 c9 c10 c11) s.heap.size = A at hD ⊢
  have hA : ∀ q : Nat, s.heap.size ≤ q → A q := fun q h => by rw [← hAe]; exact Or.inr h
  have hS : va_S A s.heap s.heap [] := va_S.rf
  have hP : va_P (dC, dI) vwCl (wX0 cy h q2 q3 q4 q5 q6 q7 q8 q9 c0 c1 c2 c3 c4 c5 c6 c7 c8 c9 c10 c11) s.heap := hP
  have hl := lv_entry ([.ref h, .int a1]) (n := 5) (Nat.le_of_ble_eq_true rfl)
  rw [lg_entry_eq]
  generalize (lg_sl ([.ref h, .int a1]) ++ List.replicate (5 - (lg_sl ([.ref h, .int a1])).length) Slot.unset).toArray = ls at hl ⊢
  have hl : lv_has ls 5 [(0, .ref h), (1, .int a1)] := hl
  have B76 : ∀ (r45 : Int32 → Int32 → Int32 → (Nat → Int32) → (Nat → Int32) → Option ((Nat → Int32) × (Nat → Int32))), (∀ (x1 x2 x3 : Int32) (c5 : Nat → Int32) (c6 : Nat → Int32) (H : Heap) (locs : List Loc) (ls : Array Slot), r45 x1 x2 x3 c5 c6 = some res → va_P (dC, dI) vwCl (wX0 cy h q2 q3 q4 q5 q6 q7 q8 q9 c0 c1 c2 c3 c4 c5 c6 c7 c8 c9 c10 c11) H → va_D A (wX0 cy h q2 q3 q4 q5 q6 q7 q8 q9 c0 c1 c2 c3 c4 c5 c6 c7 c8 c9 c10 c11) → va_S A s.heap H locs → lv_has ls 5 [(0, .ref h), (1, .int x1), (2, .int x2), (3, .int x3)] → W p l e rm_X0_closeRounds s m ([.ref h, .int a1] : List Value).toArray below meth c H locs 0 0 (MQ below (z_qV dC dI cy (wX0 cy h q2 q3 q4 q5 q6 q7 q8 q9 c0 c1 c2 c3 c4 res.1 res.2 c7 c8 c9 c10 c11) A) ([.ref h, .int a1] : List Value).toArray s 0 0 A) (F0 m 45 ls [])) → ∀ (x1 x2 x3 t1 t2 : Int32) (c5 : Nat → Int32) (c6 : Nat → Int32) (H : Heap) (locs : List Loc) (ls : Array Slot), f_X0_closeRounds_b76 N c0 c4 r45 x1 x2 x3 t1 t2 c5 c6 = some res → va_P (dC, dI) vwCl (wX0 cy h q2 q3 q4 q5 q6 q7 q8 q9 c0 c1 c2 c3 c4 c5 c6 c7 c8 c9 c10 c11) H → va_D A (wX0 cy h q2 q3 q4 q5 q6 q7 q8 q9 c0 c1 c2 c3 c4 c5 c6 c7 c8 c9 c10 c11) → va_S A s.heap H locs → lv_has ls 5 [(0, .ref h), (1, .int x1), (2, .int x2), (3, .int x3)] → W p l e rm_X0_closeRounds s m ([.ref h, .int a1] : List Value).toArray below meth c H locs 0 0 (MQ below (z_qV dC dI cy (wX0 cy h q2 q3 q4 q5 q6 q7 q8 q9 c0 c1 c2 c3 c4 res.1 res.2 c7 c8 c9 c10 c11) A) ([.ref h, .int a1] : List Value).toArray s 0 0 A) (F0 m 76 ls [.int t2, .int t1, .ref q6]) := by
    clear hf hl hP hD hS
    intro r45 hr45
    intro x1 x2 x3 t1 t2 c5 c6 H locs ls hf hP hD hS hl
    unfold f_X0_closeRounds_b76 at hf
    obtain ⟨hi76, hf⟩ := z_gx_some hf
    refine va_iast hx hb hK hP hD hS 5 0 rfl rfl hi76 dX0_closeRounds_76 (fun H locs hP hD hS => ?_)
    have hP : va_P (dC, dI) vwCl (wX0 cy h q2 q3 q4 q5 q6 q7 q8 q9 c0 c1 c2 c3 c4 c5 (upd c6 (t1).toNatClampNeg t2) c7 c8 c9 c10 c11) H := hP
    have hD : va_D A (wX0 cy h q2 q3 q4 q5 q6 q7 q8 q9 c0 c1 c2 c3 c4 c5 (upd c6 (t1).toNatClampNeg t2) c7 c8 c9 c10 c11) := hD
    refine lv_iinc (v := x3 + (1 : Int32)) (lv' := [(3, .int (x3 + (1 : Int32))), (0, .ref h), (1, .int x1), (2, .int x2)]) hx hb dX0_closeRounds_77 hl (k := 3) rfl rfl (by decide) rfl (fun ls hl => ?_)
    refine lv_goto (tgt := 45) hx hb dX0_closeRounds_80 (by decide) ?_
    exact hr45 x1 x2 (x3 + (1 : Int32)) c5 (upd c6 (t1).toNatClampNeg t2) _ _ _ hf hP hD hS (lv_sub hl [1, 2, 3, 0] rfl)
  have B45 : ∀ n : Nat, ∀ (x1 x2 x3 : Int32) (c5 : Nat → Int32) (c6 : Nat → Int32) (H : Heap) (locs : List Loc) (ls : Array Slot), f_X0_closeRounds_b45 N c0 c4 n x1 x2 x3 c5 c6 = some res → va_P (dC, dI) vwCl (wX0 cy h q2 q3 q4 q5 q6 q7 q8 q9 c0 c1 c2 c3 c4 c5 c6 c7 c8 c9 c10 c11) H → va_D A (wX0 cy h q2 q3 q4 q5 q6 q7 q8 q9 c0 c1 c2 c3 c4 c5 c6 c7 c8 c9 c10 c11) → va_S A s.heap H locs → lv_has ls 5 [(0, .ref h), (1, .int x1), (2, .int x2), (3, .int x3)] → W p l e rm_X0_closeRounds s m ([.ref h, .int a1] : List Value).toArray below meth c H locs 0 0 (MQ below (z_qV dC dI cy (wX0 cy h q2 q3 q4 q5 q6 q7 q8 q9 c0 c1 c2 c3 c4 res.1 res.2 c7 c8 c9 c10 c11) A) ([.ref h, .int a1] : List Value).toArray s 0 0 A) (F0 m 45 ls []) := by
    clear hf hl hP hD hS
    intro n
    induction n with
    | zero =>
      intro x1 x2 x3 c5 c6 H locs ls hf hP hD hS hl
      rw [f_X0_closeRounds_b45] at hf
      cases hf
    | succ n ih =>
      intro x1 x2 x3 c5 c6 H locs ls hf hP hD hS hl
      rw [f_X0_closeRounds_b45] at hf
      refine lv_iload_n hx hb dX0_closeRounds_45 rfl (lv_at hl 3 rfl) ?_
      refine lv_iload_n hx hb dX0_closeRounds_46 rfl (lv_at hl 2 rfl) ?_
      refine lv_icmp_gt (tgt := 83) hx hb dX0_closeRounds_47 (by decide) (fun c_47 => ?_) (fun c_47 => ?_)
      · replace hf := (if_pos c_47).symm.trans hf
        have hres := Option.some.inj hf
        subst hres
        have hP9 := hP.sub (ws' := (wX0 cy h q2 q3 q4 q5 q6 q7 q8 q9 c0 c1 c2 c3 c4 c5 c6 c7 c8 c9 c10 c11)) [0, 1, 2, 3, 4, 5, 6, 7, 8] rfl
        have hD9 := hD.sub (ws' := (wX0 cy h q2 q3 q4 q5 q6 q7 q8 q9 c0 c1 c2 c3 c4 c5 c6 c7 c8 c9 c10 c11)) [0, 1, 2, 3, 4, 5, 6, 7, 8] (by decide) rfl
        have hK9 := hK.sub (tys' := [(cy, .int)]) [0] rfl
        exact W.vret hx hb hr (fun t ht hW => ⟨⟨(), rfl, trivial, by rw [ht]; exact hP9, va_K.moved hW.alike hK9, hD9⟩, hS.F ht⟩) hS.2.2 dX0_closeRounds_83
      · replace hf := (if_neg c_47).symm.trans hf
        refine lv_aload_n hx hb dX0_closeRounds_50 rfl (lv_at hl 0 rfl) ?_
        refine lv_iload_n hx hb dX0_closeRounds_51 rfl (lv_at hl 3 rfl) ?_
        obtain ⟨u52, hu52, hf⟩ := z_ob_some hf
        have hPc := hP.sub (ws' := (wX0 cy h q2 q3 q4 q5 q6 q7 q8 q9 c0 c1 c2 c3 c4 c5 c6 c7 c8 c9 c10 c11)) [0, 1, 2, 3, 4, 5, 6, 7, 8] rfl
        have hDc := hD.sub (ws' := (wX0 cy h q2 q3 q4 q5 q6 q7 q8 q9 c0 c1 c2 c3 c4 c5 c6 c7 c8 c9 c10 c11)) [0, 1, 2, 3, 4, 5, 6, 7, 8] (by decide) rfl
        have hKc := hK.sub (tys' := [(cy, .int)]) [0] rfl
        have hFc := va_free (wc := (wX0 cy h q2 q3 q4 q5 q6 q7 q8 q9 c0 c1 c2 c3 c4 c5 c6 c7 c8 c9 c10 c11)) hD hS hA [0, 1, 2, 3, 4, 5, 6, 7, 8] rfl
        refine va_calli (va_runV (As := [.int x3]) (rest := []) ⟨hx, hb, hml, hown, hts⟩ (c_X0_lengthenChains N l dC dI cy h q2 q3 q4 q5 q6 q7 q8 q9 H.size c0 c1 c2 c3 c4 c5 c6 c7 c8 c9 c10 c11 x3 u52 hu52) (cwV 1 hts gX0_closeRounds_X0_lengthenChains rfl rfl rfl (by decide +kernel) ⟨Nat.le_of_ble_eq_true rfl, Nat.le_of_ble_eq_true rfl⟩) ⟨fun a U g mk q => by obtain ⟨q0, q1, qP, qK, qD⟩ := q; exact ⟨q0, q1, qP, va_K.moved (u := U) (U := U.calling g mk a) (Vm.Alike.refl U.vm) qK, qD⟩, va_recv hKc hPc (ci := 0) (q0 := 0) rfl rfl, fun U hU hW => ⟨rfl, by rw [hU], by rw [hU]; exact hPc, va_K.moved hW.alike hKc, hDc.weaken (fun _ _ _ _ => trivial)⟩⟩ rfl rfl hl.1 rfl (lv_room (Nat.le_of_ble_eq_true rfl)) dX0_closeRounds_52 ⟨Nat.zero_le _, Nat.zero_le _⟩) hS (fun q _ h => hFc q h) hFc (fun r_52 uu_ t H1 locs ht hvm hw hB hz1 hk1 hS => ?_)
        replace hw := hw.symm
        subst hw
        obtain ⟨hP1, -, hD1⟩ := hB
        rw [ht] at hP1
        obtain ⟨hP, hD⟩ := va_join (wr := []) (w1 := (wX0 cy h q2 q3 q4 q5 q6 q7 q8 q9 c0 c1 c2 c3 c4 u52.2 c6 c7 c8 c9 c10 c11)) hP hD [0, 1, 2, 3, 4, 5, 6, 7, 8] [] rfl rfl (by decide) (by decide) hk1 hFc hP1 hD1
        clear hk1 hz1 hP1 hD1 ht hPc hDc hFc
        generalize H1 = H at hP hS ⊢
        have hP : va_P (dC, dI) vwCl (wX0 cy h q2 q3 q4 q5 q6 q7 q8 q9 c0 c1 c2 c3 c4 u52.2 c6 c7 c8 c9 c10 c11) H := hP
        have hD : va_D A (wX0 cy h q2 q3 q4 q5 q6 q7 q8 q9 c0 c1 c2 c3 c4 u52.2 c6 c7 c8 c9 c10 c11) := hD
        refine lv_istore (lv' := [(4, .int u52.1), (0, .ref h), (1, .int x1), (2, .int x2), (3, .int x3)]) hx hb dX0_closeRounds_55 hl (by decide) rfl (fun ls hl => ?_)
        refine lv_aload_n hx hb dX0_closeRounds_57 rfl (lv_at hl 1 rfl) ?_
        refine va_get (D := (dC, dI)) (ci := 0) (v := .ref q6) (C := RX0) (T := TX0) (N := 12) hx hb hts (by decide +kernel) hown hK hP 0 rfl rfl 6 (by decide) (hts (.fieldLink RX0 22 "GiftLots" "closed" "[I") (by decide +kernel)) (fun _ h9 => h9) rfl dX0_closeRounds_58 ?_
        refine lv_iload_n hx hb dX0_closeRounds_61 rfl (lv_at hl 4 rfl) ?_
        refine lv_iload_n hx hb dX0_closeRounds_62 rfl (lv_at hl 4 rfl) ?_
        obtain ⟨u63, hu63, hf⟩ := z_ob_some hf
        have hPc := hP.sub (ws' := ([] : va_W)) [] rfl
        have hDc := hD.sub (ws' := ([] : va_W)) [] (by decide) rfl
        have hKc := hK.sub (tys' := [(cy, .int)]) [0] rfl
        have hFc := va_free (wc := ([] : va_W)) hD hS hA [] rfl
        refine va_calli (va_runS (As := [.int x3]) (rest := [.int x3, .ref q6]) ⟨hx, hb, hml, hown, hts⟩ (c_bitCount l dC dI cy H.size x3 u63 hu63) (va_cwS 1 hts gX0_closeRounds_J6_bitCount_0f7a4 rfl rfl rfl (by decide +kernel) ⟨Nat.le_of_ble_eq_true rfl, Nat.le_of_ble_eq_true rfl⟩) ⟨fun a U g mk q => by obtain ⟨q0, q1, qP, qK, qD⟩ := q; exact ⟨q0, q1, qP, va_K.moved (u := U) (U := U.calling g mk a) (Vm.Alike.refl U.vm) qK, qD⟩, fun U hU hW => ⟨rfl, by rw [hU], by rw [hU]; exact hPc, va_K.moved hW.alike hKc, hDc.weaken (fun _ _ _ _ => trivial)⟩⟩ rfl rfl hl.1 rfl (lv_room (Nat.le_of_ble_eq_true rfl)) dX0_closeRounds_63 ⟨Nat.zero_le _, Nat.zero_le _⟩) hS (fun q _ h => hFc q h) hFc (fun r_63 uu_ t H1 locs ht hvm hw hB hz1 hk1 hS => ?_)
        replace hw := hw.symm
        subst hw
        obtain ⟨hP1, -, hD1⟩ := hB
        rw [ht] at hP1
        obtain ⟨hP, hD⟩ := va_join (wr := (wX0 cy h q2 q3 q4 q5 q6 q7 q8 q9 c0 c1 c2 c3 c4 u52.2 c6 c7 c8 c9 c10 c11)) (w1 := []) hP hD [] [0, 1, 2, 3, 4, 5, 6, 7, 8] rfl rfl (by decide) (by decide) hk1 hFc hP1 hD1
        clear hk1 hz1 hP1 hD1 ht hPc hDc hFc
        generalize H1 = H at hP hS ⊢
        have hP : va_P (dC, dI) vwCl (wX0 cy h q2 q3 q4 q5 q6 q7 q8 q9 c0 c1 c2 c3 c4 u52.2 c6 c7 c8 c9 c10 c11) H := hP
        have hD : va_D A (wX0 cy h q2 q3 q4 q5 q6 q7 q8 q9 c0 c1 c2 c3 c4 u52.2 c6 c7 c8 c9 c10 c11) := hD
        refine lv_iload_n hx hb dX0_closeRounds_66 rfl (lv_at hl 2 rfl) ?_
        refine lv_icmp_ge (tgt := 74) hx hb dX0_closeRounds_67 (by decide) (fun c_67 => ?_) (fun c_67 => ?_)
        · replace hf := (if_pos c_67).symm.trans hf
          refine lv_iload hx hb dX0_closeRounds_74 (lv_at hl 0 rfl) ?_
          exact B76 (f_X0_closeRounds_b45 N c0 c4 n) ih x1 x2 x3 x3 u52.1 u52.2 c6 _ _ _ hf hP hD hS (lv_sub hl [1, 2, 3, 4] rfl)
        · replace hf := (if_neg c_67).symm.trans hf
          refine lv_iconst (v := (0 : Int32)) hx hb dX0_closeRounds_70 (by decide) ?_
          refine lv_goto (tgt := 76) hx hb dX0_closeRounds_71 (by decide) ?_
          exact B76 (f_X0_closeRounds_b45 N c0 c4 n) ih x1 x2 x3 x3 (0 : Int32) u52.2 c6 _ _ _ hf hP hD hS (lv_sub hl [1, 2, 3, 4] rfl)
  have B15 : ∀ n : Nat, ∀ (x1 x2 x3 : Int32) (c5 : Nat → Int32) (c6 : Nat → Int32) (H : Heap) (locs : List Loc) (ls : Array Slot), f_X0_closeRounds_b15 N c0 c4 n x1 x2 x3 c5 c6 = some res → va_P (dC, dI) vwCl (wX0 cy h q2 q3 q4 q5 q6 q7 q8 q9 c0 c1 c2 c3 c4 c5 c6 c7 c8 c9 c10 c11) H → va_D A (wX0 cy h q2 q3 q4 q5 q6 q7 q8 q9 c0 c1 c2 c3 c4 c5 c6 c7 c8 c9 c10 c11) → va_S A s.heap H locs → lv_has ls 5 [(0, .ref h), (1, .int x1), (2, .int x2), (3, .int x3)] → W p l e rm_X0_closeRounds s m ([.ref h, .int a1] : List Value).toArray below meth c H locs 0 0 (MQ below (z_qV dC dI cy (wX0 cy h q2 q3 q4 q5 q6 q7 q8 q9 c0 c1 c2 c3 c4 res.1 res.2 c7 c8 c9 c10 c11) A) ([.ref h, .int a1] : List Value).toArray s 0 0 A) (F0 m 15 ls []) := by
    clear hf hl hP hD hS
    intro n
    induction n with
    | zero =>
      intro x1 x2 x3 c5 c6 H locs ls hf hP hD hS hl
      rw [f_X0_closeRounds_b15] at hf
      cases hf
    | succ n ih =>
      intro x1 x2 x3 c5 c6 H locs ls hf hP hD hS hl
      rw [f_X0_closeRounds_b15] at hf
      refine lv_iload_n hx hb dX0_closeRounds_15 rfl (lv_at hl 3 rfl) ?_
      refine lv_aload_n hx hb dX0_closeRounds_16 rfl (lv_at hl 0 rfl) ?_
      refine va_get (D := (dC, dI)) (ci := 0) (v := .int c0) (C := RX0) (T := TX0) (N := 12) hx hb hts (by decide +kernel) hown hK hP 0 rfl rfl 0 (by decide) (hts (.fieldLink RX0 38 "GiftLots" "count" "I") (by decide +kernel)) (fun _ h9 => h9) rfl dX0_closeRounds_17 ?_
      refine lv_icmp_ge (tgt := 43) hx hb dX0_closeRounds_20 (by decide) (fun c_20 => ?_) (fun c_20 => ?_)
      · replace hf := (if_pos c_20).symm.trans hf
        refine lv_iconst (v := (1 : Int32)) hx hb dX0_closeRounds_43 (by decide) ?_
        refine lv_istore_n (lv' := [(3, .int (1 : Int32)), (0, .ref h), (1, .int x1), (2, .int x2)]) hx hb dX0_closeRounds_44 rfl hl (by decide) rfl (fun ls hl => ?_)
        exact B45 N x1 x2 (1 : Int32) c5 c6 _ _ _ hf hP hD hS (lv_sub hl [1, 2, 3, 0] rfl)
      · replace hf := (if_neg c_20).symm.trans hf
        refine lv_aload_n hx hb dX0_closeRounds_23 rfl (lv_at hl 0 rfl) ?_
        refine va_get (D := (dC, dI)) (ci := 0) (v := .ref q5) (C := RX0) (T := TX0) (N := 12) hx hb hts (by decide +kernel) hown hK hP 0 rfl rfl 5 (by decide) (hts (.fieldLink RX0 19 "GiftLots" "chains" "[I") (by decide +kernel)) (fun _ h9 => h9) rfl dX0_closeRounds_24 ?_
        refine lv_iload_n hx hb dX0_closeRounds_27 rfl (lv_at hl 3 rfl) ?_
        obtain ⟨u28, hu28, hf⟩ := z_ob_some hf
        have hPc := hP.sub (ws' := ([] : va_W)) [] rfl
        have hDc := hD.sub (ws' := ([] : va_W)) [] (by decide) rfl
        have hKc := hK.sub (tys' := [(cy, .int)]) [0] rfl
        have hFc := va_free (wc := ([] : va_W)) hD hS hA [] rfl
        refine va_calli (va_runS (As := [.int x3]) (rest := [.ref q5]) ⟨hx, hb, hml, hown, hts⟩ (c_X0_bit N l dC dI cy H.size x3 u28 hu28) (va_cwS 1 hts gX0_closeRounds_X0_bit rfl rfl rfl (by decide +kernel) ⟨Nat.le_of_ble_eq_true rfl, Nat.le_of_ble_eq_true rfl⟩) ⟨fun a U g mk q => by obtain ⟨q0, q1, qP, qK, qD⟩ := q; exact ⟨q0, q1, qP, va_K.moved (u := U) (U := U.calling g mk a) (Vm.Alike.refl U.vm) qK, qD⟩, fun U hU hW => ⟨rfl, by rw [hU], by rw [hU]; exact hPc, va_K.moved hW.alike hKc, hDc.weaken (fun _ _ _ _ => trivial)⟩⟩ rfl rfl hl.1 rfl (lv_room (Nat.le_of_ble_eq_true rfl)) dX0_closeRounds_28 ⟨Nat.zero_le _, Nat.zero_le _⟩) hS (fun q _ h => hFc q h) hFc (fun r_28 uu_ t H1 locs ht hvm hw hB hz1 hk1 hS => ?_)
        replace hw := hw.symm
        subst hw
        obtain ⟨hP1, -, hD1⟩ := hB
        rw [ht] at hP1
        obtain ⟨hP, hD⟩ := va_join (wr := (wX0 cy h q2 q3 q4 q5 q6 q7 q8 q9 c0 c1 c2 c3 c4 c5 c6 c7 c8 c9 c10 c11)) (w1 := ([] : va_W)) hP hD [] [0, 1, 2, 3, 4, 5, 6, 7, 8] rfl rfl (by decide) (by decide) hk1 hFc hP1 hD1
        clear hk1 hz1 hP1 hD1 ht hPc hDc hFc
        generalize H1 = H at hP hS ⊢
        have hP : va_P (dC, dI) vwCl (wX0 cy h q2 q3 q4 q5 q6 q7 q8 q9 c0 c1 c2 c3 c4 c5 c6 c7 c8 c9 c10 c11) H := hP
        have hD : va_D A (wX0 cy h q2 q3 q4 q5 q6 q7 q8 q9 c0 c1 c2 c3 c4 c5 c6 c7 c8 c9 c10 c11) := hD
        refine lv_iload_n hx hb dX0_closeRounds_31 rfl (lv_at hl 3 rfl) ?_
        obtain ⟨u32, hu32, hf⟩ := z_ob_some hf
        have hPc := hP.sub (ws' := ([] : va_W)) [] rfl
        have hDc := hD.sub (ws' := ([] : va_W)) [] (by decide) rfl
        have hKc := hK.sub (tys' := [(cy, .int)]) [0] rfl
        have hFc := va_free (wc := ([] : va_W)) hD hS hA [] rfl
        refine va_calli (va_runS (As := [.int u28, .int x3]) (rest := [.ref q5]) ⟨hx, hb, hml, hown, hts⟩ (c_X0_chainAt N l dC dI cy H.size u28 x3 u32 hu32) (va_cwS 2 hts gX0_closeRounds_X0_chainAt rfl rfl rfl (by decide +kernel) ⟨Nat.le_of_ble_eq_true rfl, Nat.le_of_ble_eq_true rfl⟩) ⟨fun a U g mk q => by obtain ⟨q0, q1, qP, qK, qD⟩ := q; exact ⟨q0, q1, qP, va_K.moved (u := U) (U := U.calling g mk a) (Vm.Alike.refl U.vm) qK, qD⟩, fun U hU hW => ⟨rfl, by rw [hU], by rw [hU]; exact hPc, va_K.moved hW.alike hKc, hDc.weaken (fun _ _ _ _ => trivial)⟩⟩ rfl rfl hl.1 rfl (lv_room (Nat.le_of_ble_eq_true rfl)) dX0_closeRounds_32 ⟨Nat.zero_le _, Nat.zero_le _⟩) hS (fun q _ h => hFc q h) hFc (fun r_32 uu_ t H1 locs ht hvm hw hB hz1 hk1 hS => ?_)
        replace hw := hw.symm
        subst hw
        obtain ⟨hP1, -, hD1⟩ := hB
        rw [ht] at hP1
        obtain ⟨hP, hD⟩ := va_join (wr := (wX0 cy h q2 q3 q4 q5 q6 q7 q8 q9 c0 c1 c2 c3 c4 c5 c6 c7 c8 c9 c10 c11)) (w1 := ([] : va_W)) hP hD [] [0, 1, 2, 3, 4, 5, 6, 7, 8] rfl rfl (by decide) (by decide) hk1 hFc hP1 hD1
        clear hk1 hz1 hP1 hD1 ht hPc hDc hFc
        generalize H1 = H at hP hS ⊢
        have hP : va_P (dC, dI) vwCl (wX0 cy h q2 q3 q4 q5 q6 q7 q8 q9 c0 c1 c2 c3 c4 c5 c6 c7 c8 c9 c10 c11) H := hP
        have hD : va_D A (wX0 cy h q2 q3 q4 q5 q6 q7 q8 q9 c0 c1 c2 c3 c4 c5 c6 c7 c8 c9 c10 c11) := hD
        refine lv_iconst (v := (1 : Int32)) hx hb dX0_closeRounds_35 (by decide) ?_
        obtain ⟨hi36, hf⟩ := z_gx_some hf
        refine va_iast hx hb hK hP hD hS 4 0 rfl rfl hi36 dX0_closeRounds_36 (fun H locs hP hD hS => ?_)
        have hP : va_P (dC, dI) vwCl (wX0 cy h q2 q3 q4 q5 q6 q7 q8 q9 c0 c1 c2 c3 c4 (upd c5 (u32).toNatClampNeg (1 : Int32)) c6 c7 c8 c9 c10 c11) H := hP
        have hD : va_D A (wX0 cy h q2 q3 q4 q5 q6 q7 q8 q9 c0 c1 c2 c3 c4 (upd c5 (u32).toNatClampNeg (1 : Int32)) c6 c7 c8 c9 c10 c11) := hD
        refine lv_iinc (v := x3 + (1 : Int32)) (lv' := [(3, .int (x3 + (1 : Int32))), (0, .ref h), (1, .int x1), (2, .int x2)]) hx hb dX0_closeRounds_37 hl (k := 3) rfl rfl (by decide) rfl (fun ls hl => ?_)
        refine lv_goto (tgt := 15) hx hb dX0_closeRounds_40 (by decide) ?_
        exact ih x1 x2 (x3 + (1 : Int32)) (upd c5 (u32).toNatClampNeg (1 : Int32)) c6 _ _ _ hf hP hD hS (lv_sub hl [1, 2, 3, 0] rfl)
  unfold f_X0_closeRounds at hf
  refine lv_aload_n hx hb dX0_closeRounds_0 rfl (lv_at hl 0 rfl) ?_
  obtain ⟨u1, hu1, hf⟩ := z_ob_some hf
  have hPc := hP.sub (ws' := (wX0 cy h q2 q3 q4 q5 q6 q7 q8 q9 c0 c1 c2 c3 c4 c5 c6 c7 c8 c9 c10 c11)) [0, 1, 2, 3, 4, 5, 6, 7, 8] rfl
  have hDc := hD.sub (ws' := (wX0 cy h q2 q3 q4 q5 q6 q7 q8 q9 c0 c1 c2 c3 c4 c5 c6 c7 c8 c9 c10 c11)) [0, 1, 2, 3, 4, 5, 6, 7, 8] (by decide) rfl
  have hKc := hK.sub (tys' := [(cy, .int)]) [0] rfl
  have hFc := va_free (wc := (wX0 cy h q2 q3 q4 q5 q6 q7 q8 q9 c0 c1 c2 c3 c4 c5 c6 c7 c8 c9 c10 c11)) hD hS hA [0, 1, 2, 3, 4, 5, 6, 7, 8] rfl
  refine va_calli (va_runV (As := []) (rest := []) ⟨hx, hb, hml, hown, hts⟩ (c_X0_everyone N l dC dI cy h q2 q3 q4 q5 q6 q7 q8 q9 s.heap.size c0 c1 c2 c3 c4 c5 c6 c7 c8 c9 c10 c11 u1 hu1) (cwV 0 hts gX0_closeRounds_X0_everyone rfl rfl rfl (by decide +kernel) ⟨Nat.le_of_ble_eq_true rfl, Nat.le_of_ble_eq_true rfl⟩) ⟨fun a U g mk q => by obtain ⟨q0, q1, qP, qK, qD⟩ := q; exact ⟨q0, q1, qP, va_K.moved (u := U) (U := U.calling g mk a) (Vm.Alike.refl U.vm) qK, qD⟩, va_recv hKc hPc (ci := 0) (q0 := 0) rfl rfl, fun U hU hW => ⟨rfl, by rw [hU], by rw [hU]; exact hPc, va_K.moved hW.alike hKc, hDc.weaken (fun _ _ _ _ => trivial)⟩⟩ rfl rfl hl.1 rfl (lv_room (Nat.le_of_ble_eq_true rfl)) dX0_closeRounds_1 ⟨Nat.zero_le _, Nat.zero_le _⟩) hS (fun q _ h => hFc q h) hFc (fun r_1 uu_ t H1 locs ht hvm hw hB hz1 hk1 hS => ?_)
  replace hw := hw.symm
  subst hw
  obtain ⟨hP1, -, hD1⟩ := hB
  rw [ht] at hP1
  obtain ⟨hP, hD⟩ := va_join (wr := []) (w1 := (wX0 cy h q2 q3 q4 q5 q6 q7 q8 q9 c0 c1 c2 c3 c4 c5 c6 c7 c8 c9 c10 c11)) hP hD [0, 1, 2, 3, 4, 5, 6, 7, 8] [] rfl rfl (by decide) (by decide) hk1 hFc hP1 hD1
  clear hk1 hz1 hP1 hD1 ht hPc hDc hFc
  generalize H1 = H at hP hS ⊢
  have hP : va_P (dC, dI) vwCl (wX0 cy h q2 q3 q4 q5 q6 q7 q8 q9 c0 c1 c2 c3 c4 c5 c6 c7 c8 c9 c10 c11) H := hP
  have hD : va_D A (wX0 cy h q2 q3 q4 q5 q6 q7 q8 q9 c0 c1 c2 c3 c4 c5 c6 c7 c8 c9 c10 c11) := hD
  refine lv_istore_n (lv' := [(2, .int u1), (0, .ref h), (1, .int a1)]) hx hb dX0_closeRounds_4 rfl hl (by decide) rfl (fun ls hl => ?_)
  refine lv_aload_n hx hb dX0_closeRounds_5 rfl (lv_at hl 1 rfl) ?_
  refine va_get (D := (dC, dI)) (ci := 0) (v := .ref q5) (C := RX0) (T := TX0) (N := 12) hx hb hts (by decide +kernel) hown hK hP 0 rfl rfl 5 (by decide) (hts (.fieldLink RX0 19 "GiftLots" "chains" "[I") (by decide +kernel)) (fun _ h9 => h9) rfl dX0_closeRounds_6 ?_
  refine lv_iconst (v := (0 : Int32)) hx hb dX0_closeRounds_9 (by decide) ?_
  have hPc := hP.sub (ws' := [(q5, .inl (cy, 2048, .inl c5))]) [4] rfl
  have hDc := hD.sub (ws' := [(q5, .inl (cy, 2048, .inl c5))]) [4] (by decide) rfl
  have hKc := hK.sub (tys' := [(cy, .int)]) [0] rfl
  have hFc := va_free (wc := [(q5, .inl (cy, 2048, .inl c5))]) hD hS hA [4] rfl
  refine va_callv (va_runS (As := [.ref q5, .int (0 : Int32)]) (rest := []) ⟨hx, hb, hml, hown, hts⟩ (c_fill l dC dI cy q5 2048 (by decide) H.size c5 (0 : Int32)) (va_cwS 2 hts gX0_closeRounds_J7_fill_53178 rfl rfl rfl (by decide +kernel) ⟨Nat.le_of_ble_eq_true rfl, Nat.le_of_ble_eq_true rfl⟩) ⟨fun a U g mk q => by obtain ⟨q0, q1, qP, qK, qD⟩ := q; exact ⟨q0, q1, qP, va_K.moved (u := U) (U := U.calling g mk a) (Vm.Alike.refl U.vm) qK, qD⟩, fun U hU hW => ⟨rfl, by rw [hU], by rw [hU]; exact hPc, va_K.moved hW.alike hKc, hDc.weaken (fun _ _ _ _ => trivial)⟩⟩ rfl rfl hl.1 rfl (lv_room (Nat.le_of_ble_eq_true rfl)) dX0_closeRounds_10 ⟨Nat.zero_le _, Nat.zero_le _⟩) hS (fun q _ h => hFc q h) hFc (fun uu_ t H1 locs ht hvm hw hB hz1 hk1 hS => ?_)
  obtain ⟨hP1, -, hD1⟩ := hB
  rw [ht] at hP1
  obtain ⟨hP, hD⟩ := va_join (wr := [(h, .inr (0, [.int c0, .int c1, .ref q2, .ref q3, .ref q4, .ref q5, .ref q6, .ref q7, .ref q8, .ref q9, .int c10, .int c11])), (q2, .inl (cy, 8, .inl c2)), (q3, .inl (cy, 8, .inl c3)), (q4, .inl (cy, 8, .inl c4)), (q6, .inl (cy, 256, .inl c6)), (q7, .inl (cy, 256, .inl c7)), (q8, .inl (cy, 8, .inl c8)), (q9, .inl (cy, 8, .inl c9))]) (w1 := [(q5, .inl (cy, 2048, .inl (z_fl 2048 c5 (0 : Int32))))]) hP hD [4] [0, 1, 2, 3, 5, 6, 7, 8] rfl rfl (by decide) (by decide) hk1 hFc hP1 hD1
  clear hk1 hz1 hP1 hD1 ht hPc hDc hFc
  generalize H1 = H at hP hS ⊢
  have hP := hP.sub (ws' := (wX0 cy h q2 q3 q4 q5 q6 q7 q8 q9 c0 c1 c2 c3 c4 (z_fl 2048 c5 (0 : Int32)) c6 c7 c8 c9 c10 c11)) [0, 1, 2, 3, 8, 4, 5, 6, 7] rfl
  have hD := hD.sub (ws' := (wX0 cy h q2 q3 q4 q5 q6 q7 q8 q9 c0 c1 c2 c3 c4 (z_fl 2048 c5 (0 : Int32)) c6 c7 c8 c9 c10 c11)) [0, 1, 2, 3, 8, 4, 5, 6, 7] (by decide) rfl
  refine lv_iconst (v := (0 : Int32)) hx hb dX0_closeRounds_13 (by decide) ?_
  refine lv_istore_n (lv' := [(3, .int (0 : Int32)), (2, .int u1), (0, .ref h), (1, .int a1)]) hx hb dX0_closeRounds_14 rfl hl (by decide) rfl (fun ls hl => ?_)
  exact B15 N a1 u1 (0 : Int32) (z_fl 2048 c5 (0 : Int32)) c6 _ _ _ hf hP hD hS (lv_sub hl [2, 3, 1, 0] rfl)

theorem dX0_takeOutRound_0 : decode cX0_takeOutRound 0 = .ok (.iload_n 1, 1) := by decide +kernel
theorem dX0_takeOutRound_1 : decode cX0_takeOutRound 1 = .ok (.iload_n 1, 1) := by decide +kernel
theorem dX0_takeOutRound_2 : decode cX0_takeOutRound 2 = .ok (.ineg, 1) := by decide +kernel
theorem dX0_takeOutRound_3 : decode cX0_takeOutRound 3 = .ok (.iand, 1) := by decide +kernel
theorem dX0_takeOutRound_4 : decode cX0_takeOutRound 4 = .ok (.istore_n 2, 1) := by decide +kernel
theorem dX0_takeOutRound_5 : decode cX0_takeOutRound 5 = .ok (.iload_n 1, 1) := by decide +kernel
theorem dX0_takeOutRound_6 : decode cX0_takeOutRound 6 = .ok (.iload_n 2, 1) := by decide +kernel
theorem dX0_takeOutRound_7 : decode cX0_takeOutRound 7 = .ok (.ixor, 1) := by decide +kernel
theorem dX0_takeOutRound_8 : decode cX0_takeOutRound 8 = .ok (.istore_n 3, 1) := by decide +kernel
theorem dX0_takeOutRound_9 : decode cX0_takeOutRound 9 = .ok (.iconst 0, 1) := by decide +kernel
theorem dX0_takeOutRound_10 : decode cX0_takeOutRound 10 = .ok (.istore 4, 2) := by decide +kernel
theorem dX0_takeOutRound_12 : decode cX0_takeOutRound 12 = .ok (.iload_n 3, 1) := by decide +kernel
theorem dX0_takeOutRound_13 : decode cX0_takeOutRound 13 = .ok (.istore 5, 2) := by decide +kernel
theorem dX0_takeOutRound_15 : decode cX0_takeOutRound 15 = .ok (.iload 5, 2) := by decide +kernel
theorem dX0_takeOutRound_17 : decode cX0_takeOutRound 17 = .ok (.ifCond .le 38, 3) := by decide +kernel
theorem dX0_takeOutRound_20 : decode cX0_takeOutRound 20 = .ok (.iload 4, 2) := by decide +kernel
theorem dX0_takeOutRound_22 : decode cX0_takeOutRound 22 = .ok (.aload_n 0, 1) := by decide +kernel
theorem dX0_takeOutRound_23 : decode cX0_takeOutRound 23 = .ok (.getfield 22, 3) := by decide +kernel
theorem dX0_takeOutRound_26 : decode cX0_takeOutRound 26 = .ok (.iload 5, 2) := by decide +kernel
theorem dX0_takeOutRound_28 : decode cX0_takeOutRound 28 = .ok (.iload_n 2, 1) := by decide +kernel
theorem dX0_takeOutRound_29 : decode cX0_takeOutRound 29 = .ok (.ior, 1) := by decide +kernel
theorem dX0_takeOutRound_30 : decode cX0_takeOutRound 30 = .ok (.iaload, 1) := by decide +kernel
theorem dX0_takeOutRound_31 : decode cX0_takeOutRound 31 = .ok (.aload_n 0, 1) := by decide +kernel
theorem dX0_takeOutRound_32 : decode cX0_takeOutRound 32 = .ok (.getfield 25, 3) := by decide +kernel
theorem dX0_takeOutRound_35 : decode cX0_takeOutRound 35 = .ok (.iload_n 3, 1) := by decide +kernel
theorem dX0_takeOutRound_36 : decode cX0_takeOutRound 36 = .ok (.iload 5, 2) := by decide +kernel
theorem dX0_takeOutRound_38 : decode cX0_takeOutRound 38 = .ok (.ixor, 1) := by decide +kernel
theorem dX0_takeOutRound_39 : decode cX0_takeOutRound 39 = .ok (.iaload, 1) := by decide +kernel
theorem dX0_takeOutRound_40 : decode cX0_takeOutRound 40 = .ok (.imul, 1) := by decide +kernel
theorem dX0_takeOutRound_41 : decode cX0_takeOutRound 41 = .ok (.iadd, 1) := by decide +kernel
theorem dX0_takeOutRound_42 : decode cX0_takeOutRound 42 = .ok (.istore 4, 2) := by decide +kernel
theorem dX0_takeOutRound_44 : decode cX0_takeOutRound 44 = .ok (.iload 5, 2) := by decide +kernel
theorem dX0_takeOutRound_46 : decode cX0_takeOutRound 46 = .ok (.iconst 1, 1) := by decide +kernel
theorem dX0_takeOutRound_47 : decode cX0_takeOutRound 47 = .ok (.isub, 1) := by decide +kernel
theorem dX0_takeOutRound_48 : decode cX0_takeOutRound 48 = .ok (.iload_n 3, 1) := by decide +kernel
theorem dX0_takeOutRound_49 : decode cX0_takeOutRound 49 = .ok (.iand, 1) := by decide +kernel
theorem dX0_takeOutRound_50 : decode cX0_takeOutRound 50 = .ok (.istore 5, 2) := by decide +kernel
theorem dX0_takeOutRound_52 : decode cX0_takeOutRound 52 = .ok (.goto (-37), 3) := by decide +kernel
theorem dX0_takeOutRound_55 : decode cX0_takeOutRound 55 = .ok (.iload 4, 2) := by decide +kernel
theorem dX0_takeOutRound_57 : decode cX0_takeOutRound 57 = .ok (.ireturn, 1) := by decide +kernel
abbrev rm_X0_takeOutRound : Room := { frames := 0, cells := 0, slots := 0, locals := 0 }
set_option maxHeartbeats 4000000 in
set_option maxRecDepth 100000 in
theorem c_X0_takeOutRound (N : Nat) (l : Launch) (dC : Nat → ClassId) (dI : Nat → Nat → Nat) (cy : ClassId) (h q2 q3 q4 q5 q6 q7 q8 q9 : Nat) (sz : Nat) (c0 : Int32) (c1 : Int32) (c2 : Nat → Int32) (c3 : Nat → Int32) (c4 : Nat → Int32) (c5 : Nat → Int32) (c6 : Nat → Int32) (c7 : Nat → Int32) (c8 : Nat → Int32) (c9 : Nat → Int32) (c10 : Int32) (c11 : Int32) (a1 : Int32) (res : Int32) (hf : f_X0_takeOutRound N a1 c6 c7 = some res) : Met l yX0_takeOutRound wsX0_takeOutRound rm_X0_takeOutRound (va_Pc [.ref h, .int a1] (fun U => U.heap.size = sz ∧ va_P (dC, dI) vwCl (wX0 cy h q2 q3 q4 q5 q6 q7 q8 q9 c0 c1 c2 c3 c4 c5 c6 c7 c8 c9 c10 c11) U.heap ∧ va_K (dC, dI) vwCl [(cy, .int)] U ∧ va_D (fun _ => True) (wX0 cy h q2 q3 q4 q5 q6 q7 q8 q9 c0 c1 c2 c3 c4 c5 c6 c7 c8 c9 c10 c11))) (z_qI dC dI cy res (wX0 cy h q2 q3 q4 q5 q6 q7 q8 q9 c0 c1 c2 c3 c4 c5 c6 c7 c8 c9 c10 c11) (va_A (wX0 cy h q2 q3 q4 q5 q6 q7 q8 q9 c0 c1 c2 c3 c4 c5 c6 c7 c8 c9 c10 c11) sz)) 0 0 (va_A (wX0 cy h q2 q3 q4 q5 q6 q7 q8 q9 c0 c1 c2 c3 c4 c5 c6 c7 c8 c9 c10 c11) sz) := by
  refine Met.ofW (cc := cX0_takeOutRound) (maxL := 6) (ret := (some .int)) (by decide) rfl ?_
  intro p e s m args below meth c s₁ B hml hv
  obtain ⟨rfl, hsz, hP, hK, hD0⟩ := hv
  have hx := B.exec
  have hb := B.bytes
  have hr := B.returns
  have hts := atoms_spec (ws := wsX0_takeOutRound) B.pre
  have hown : s.vm.findClass RX0 = some m.cls := findClass_of_methodNamed B.named
  have hlocks := B.notSynchronized
  subst hsz
  have hD := hD0.self (sz := s.heap.size)
  generalize hAe : va_A (wX0 cy h q2 q3 q4 q5 q6 q7 q8 q9 c0 c1 c2 c3 c4 c5 c6 c7 c8 c9 c10 c11) s.heap.size = A at hD ⊢
  have hA : ∀ q : Nat, s.heap.size ≤ q → A q := fun q h => by rw [← hAe]; exact Or.inr h
  have hS : va_S A s.heap s.heap [] := va_S.rf
  have hP : va_P (dC, dI) vwCl (wX0 cy h q2 q3 q4 q5 q6 q7 q8 q9 c0 c1 c2 c3 c4 c5 c6 c7 c8 c9 c10 c11) s.heap := hP
  have hl := lv_entry ([.ref h, .int a1]) (n := 6) (Nat.le_of_ble_eq_true rfl)
  rw [lg_entry_eq]
  generalize (lg_sl ([.ref h, .int a1]) ++ List.replicate (6 - (lg_sl ([.ref h, .int a1])).length) Slot.unset).toArray = ls at hl ⊢
  have hl : lv_has ls 6 [(0, .ref h), (1, .int a1)] := hl
  have B15 : ∀ n : Nat, ∀ (x2 x3 x4 x5 : Int32) (H : Heap) (locs : List Loc) (ls : Array Slot), f_X0_takeOutRound_b15 N c6 c7 n x2 x3 x4 x5 = some res → va_P (dC, dI) vwCl (wX0 cy h q2 q3 q4 q5 q6 q7 q8 q9 c0 c1 c2 c3 c4 c5 c6 c7 c8 c9 c10 c11) H → va_D A (wX0 cy h q2 q3 q4 q5 q6 q7 q8 q9 c0 c1 c2 c3 c4 c5 c6 c7 c8 c9 c10 c11) → va_S A s.heap H locs → lv_has ls 6 [(0, .ref h), (2, .int x2), (3, .int x3), (4, .int x4), (5, .int x5)] → W p l e rm_X0_takeOutRound s m ([.ref h, .int a1] : List Value).toArray below meth c H locs 0 0 (MQ below (z_qI dC dI cy res (wX0 cy h q2 q3 q4 q5 q6 q7 q8 q9 c0 c1 c2 c3 c4 c5 c6 c7 c8 c9 c10 c11) A) ([.ref h, .int a1] : List Value).toArray s 0 0 A) (F0 m 15 ls []) := by
    clear hf hl hP hD hS
    intro n
    induction n with
    | zero =>
      intro x2 x3 x4 x5 H locs ls hf hP hD hS hl
      rw [f_X0_takeOutRound_b15] at hf
      cases hf
    | succ n ih =>
      intro x2 x3 x4 x5 H locs ls hf hP hD hS hl
      rw [f_X0_takeOutRound_b15] at hf
      refine lv_iload hx hb dX0_takeOutRound_15 (lv_at hl 4 rfl) ?_
      refine lv_if_le (tgt := 55) hx hb dX0_takeOutRound_17 (by decide) (fun c_17 => ?_) (fun c_17 => ?_)
      · replace hf := (if_pos c_17).symm.trans hf
        refine lv_iload hx hb dX0_takeOutRound_55 (lv_at hl 3 rfl) ?_
        have hres := Option.some.inj hf
        subst hres
        have hP9 := hP.sub (ws' := (wX0 cy h q2 q3 q4 q5 q6 q7 q8 q9 c0 c1 c2 c3 c4 c5 c6 c7 c8 c9 c10 c11)) [0, 1, 2, 3, 4, 5, 6, 7, 8] rfl
        have hD9 := hD.sub (ws' := (wX0 cy h q2 q3 q4 q5 q6 q7 q8 q9 c0 c1 c2 c3 c4 c5 c6 c7 c8 c9 c10 c11)) [0, 1, 2, 3, 4, 5, 6, 7, 8] (by decide) rfl
        have hK9 := hK.sub (tys' := [(cy, .int)]) [0] rfl
        exact W.iret (v := x4) hx hb hr (fun t ht hW => ⟨⟨x4, (), rfl, rfl, by rw [ht]; exact hP9, va_K.moved hW.alike hK9, hD9⟩, hS.F ht⟩) hS.2.2 dX0_takeOutRound_57
      · replace hf := (if_neg c_17).symm.trans hf
        refine lv_iload hx hb dX0_takeOutRound_20 (lv_at hl 3 rfl) ?_
        refine lv_aload_n hx hb dX0_takeOutRound_22 rfl (lv_at hl 0 rfl) ?_
        refine va_get (D := (dC, dI)) (ci := 0) (v := .ref q6) (C := RX0) (T := TX0) (N := 12) hx hb hts (by decide +kernel) hown hK hP 0 rfl rfl 6 (by decide) (hts (.fieldLink RX0 22 "GiftLots" "closed" "[I") (by decide +kernel)) (fun _ h9 => h9) rfl dX0_takeOutRound_23 ?_
        refine lv_iload hx hb dX0_takeOutRound_26 (lv_at hl 4 rfl) ?_
        refine lv_iload_n hx hb dX0_takeOutRound_28 rfl (lv_at hl 1 rfl) ?_
        refine lv_ior hx hb dX0_takeOutRound_29 ?_
        obtain ⟨hi30, hf⟩ := z_gx_some hf
        refine va_iald hx hb hK hP 5 0 rfl rfl hi30 dX0_takeOutRound_30 ?_
        refine lv_aload_n hx hb dX0_takeOutRound_31 rfl (lv_at hl 0 rfl) ?_
        refine va_get (D := (dC, dI)) (ci := 0) (v := .ref q7) (C := RX0) (T := TX0) (N := 12) hx hb hts (by decide +kernel) hown hK hP 0 rfl rfl 7 (by decide) (hts (.fieldLink RX0 25 "GiftLots" "splits" "[I") (by decide +kernel)) (fun _ h9 => h9) rfl dX0_takeOutRound_32 ?_
        refine lv_iload_n hx hb dX0_takeOutRound_35 rfl (lv_at hl 2 rfl) ?_
        refine lv_iload hx hb dX0_takeOutRound_36 (lv_at hl 4 rfl) ?_
        refine lv_ixor hx hb dX0_takeOutRound_38 ?_
        obtain ⟨hi39, hf⟩ := z_gx_some hf
        refine va_iald hx hb hK hP 6 0 rfl rfl hi39 dX0_takeOutRound_39 ?_
        refine lv_imul hx hb dX0_takeOutRound_40 ?_
        refine lv_iadd hx hb dX0_takeOutRound_41 ?_
        refine lv_istore (lv' := [(4, .int (x4 + ((c6 (x5 ||| x2).toNatClampNeg) * (c7 (x3 ^^^ x5).toNatClampNeg)))), (0, .ref h), (2, .int x2), (3, .int x3), (5, .int x5)]) hx hb dX0_takeOutRound_42 hl (by decide) rfl (fun ls hl => ?_)
        refine lv_iload hx hb dX0_takeOutRound_44 (lv_at hl 4 rfl) ?_
        refine lv_iconst (v := (1 : Int32)) hx hb dX0_takeOutRound_46 (by decide) ?_
        refine lv_isub hx hb dX0_takeOutRound_47 ?_
        refine lv_iload_n hx hb dX0_takeOutRound_48 rfl (lv_at hl 3 rfl) ?_
        refine lv_iand hx hb dX0_takeOutRound_49 ?_
        refine lv_istore (lv' := [(5, .int ((x5 - (1 : Int32)) &&& x3)), (4, .int (x4 + ((c6 (x5 ||| x2).toNatClampNeg) * (c7 (x3 ^^^ x5).toNatClampNeg)))), (0, .ref h), (2, .int x2), (3, .int x3)]) hx hb dX0_takeOutRound_50 hl (by decide) rfl (fun ls hl => ?_)
        refine lv_goto (tgt := 15) hx hb dX0_takeOutRound_52 (by decide) ?_
        exact ih x2 x3 (x4 + ((c6 (x5 ||| x2).toNatClampNeg) * (c7 (x3 ^^^ x5).toNatClampNeg))) ((x5 - (1 : Int32)) &&& x3) _ _ _ hf hP hD hS (lv_sub hl [2, 3, 4, 1, 0] rfl)
  unfold f_X0_takeOutRound at hf
  refine lv_iload_n hx hb dX0_takeOutRound_0 rfl (lv_at hl 1 rfl) ?_
  refine lv_iload_n hx hb dX0_takeOutRound_1 rfl (lv_at hl 1 rfl) ?_
  refine lv_ineg hx hb dX0_takeOutRound_2 ?_
  refine lv_iand hx hb dX0_takeOutRound_3 ?_
  refine lv_istore_n (lv' := [(2, .int (a1 &&& (-a1))), (0, .ref h), (1, .int a1)]) hx hb dX0_takeOutRound_4 rfl hl (by decide) rfl (fun ls hl => ?_)
  refine lv_iload_n hx hb dX0_takeOutRound_5 rfl (lv_at hl 2 rfl) ?_
  refine lv_iload_n hx hb dX0_takeOutRound_6 rfl (lv_at hl 0 rfl) ?_
  refine lv_ixor hx hb dX0_takeOutRound_7 ?_
  refine lv_istore_n (lv' := [(3, .int (a1 ^^^ (a1 &&& (-a1)))), (2, .int (a1 &&& (-a1))), (0, .ref h), (1, .int a1)]) hx hb dX0_takeOutRound_8 rfl hl (by decide) rfl (fun ls hl => ?_)
  refine lv_iconst (v := (0 : Int32)) hx hb dX0_takeOutRound_9 (by decide) ?_
  refine lv_istore (lv' := [(4, .int (0 : Int32)), (3, .int (a1 ^^^ (a1 &&& (-a1)))), (2, .int (a1 &&& (-a1))), (0, .ref h), (1, .int a1)]) hx hb dX0_takeOutRound_10 hl (by decide) rfl (fun ls hl => ?_)
  refine lv_iload_n hx hb dX0_takeOutRound_12 rfl (lv_at hl 1 rfl) ?_
  refine lv_istore (lv' := [(5, .int (a1 ^^^ (a1 &&& (-a1)))), (4, .int (0 : Int32)), (3, .int (a1 ^^^ (a1 &&& (-a1)))), (2, .int (a1 &&& (-a1))), (0, .ref h), (1, .int a1)]) hx hb dX0_takeOutRound_13 hl (by decide) rfl (fun ls hl => ?_)
  exact B15 N (a1 &&& (-a1)) (a1 ^^^ (a1 &&& (-a1))) (0 : Int32) (a1 ^^^ (a1 &&& (-a1))) _ _ _ hf hP hD hS (lv_sub hl [4, 3, 2, 1, 0] rfl)

set_option maxRecDepth 20000 in
theorem ggX0_countWays_X0_closeRounds : GoodIn wsX0_countWays wsX0_closeRounds := goodIn_r _ [6, 7, 8, 9, 10, 11, 12, 5, 13, 14, 15, 16, 17, 18, 19, 20, 21, 22, 23, 24, 25, 26, 27, 28, 29, 30, 31, 32, 33, 34, 35, 40, 41, 42, 43, 44, 45, 46, 47, 48, 49, 50, 51] (by decide +kernel) (by decide +kernel)
set_option maxRecDepth 20000 in
theorem gX0_countWays_X0_closeRounds : GoodIn wsX0_countWays (wsV RX0 73 RX0 yX0_closeRounds wsX0_closeRounds) := goodIn_app (goodIn_of _ (by decide +kernel)) ggX0_countWays_X0_closeRounds
set_option maxRecDepth 20000 in
theorem ggX0_countWays_X0_everyone : GoodIn wsX0_countWays wsX0_everyone := goodIn_r _ [13, 8, 40, 41, 42, 43, 44, 45, 46, 47, 48, 49, 50, 51] (by decide +kernel) (by decide +kernel)
set_option maxRecDepth 20000 in
theorem gX0_countWays_X0_everyone : GoodIn wsX0_countWays (wsV RX0 85 RX0 yX0_everyone wsX0_everyone) := goodIn_app (goodIn_of _ (by decide +kernel)) ggX0_countWays_X0_everyone
set_option maxRecDepth 20000 in
theorem ggX0_countWays_X0_takeOutRound : GoodIn wsX0_countWays wsX0_takeOutRound := goodIn_r _ [39, 9, 1, 40, 41, 42, 43, 44, 45, 46, 47, 48, 49, 50, 51] (by decide +kernel) (by decide +kernel)
set_option maxRecDepth 20000 in
theorem gX0_countWays_X0_takeOutRound : GoodIn wsX0_countWays (wsV RX0 140 RX0 yX0_takeOutRound wsX0_takeOutRound) := goodIn_app (goodIn_of _ (by decide +kernel)) ggX0_countWays_X0_takeOutRound
theorem dX0_countWays_0 : decode cX0_countWays 0 = .ok (.aload_n 0, 1) := by decide +kernel
theorem dX0_countWays_1 : decode cX0_countWays 1 = .ok (.iload_n 1, 1) := by decide +kernel
theorem dX0_countWays_2 : decode cX0_countWays 2 = .ok (.invokevirtual 73, 3) := by decide +kernel
theorem dX0_countWays_5 : decode cX0_countWays 5 = .ok (.aload_n 0, 1) := by decide +kernel
theorem dX0_countWays_6 : decode cX0_countWays 6 = .ok (.invokevirtual 85, 3) := by decide +kernel
theorem dX0_countWays_9 : decode cX0_countWays 9 = .ok (.istore_n 2, 1) := by decide +kernel
theorem dX0_countWays_10 : decode cX0_countWays 10 = .ok (.aload_n 0, 1) := by decide +kernel
theorem dX0_countWays_11 : decode cX0_countWays 11 = .ok (.getfield 25, 3) := by decide +kernel
theorem dX0_countWays_14 : decode cX0_countWays 14 = .ok (.iconst 0, 1) := by decide +kernel
theorem dX0_countWays_15 : decode cX0_countWays 15 = .ok (.iconst 1, 1) := by decide +kernel
theorem dX0_countWays_16 : decode cX0_countWays 16 = .ok (.iastore, 1) := by decide +kernel
theorem dX0_countWays_17 : decode cX0_countWays 17 = .ok (.iconst 1, 1) := by decide +kernel
theorem dX0_countWays_18 : decode cX0_countWays 18 = .ok (.istore_n 3, 1) := by decide +kernel
theorem dX0_countWays_19 : decode cX0_countWays 19 = .ok (.iload_n 3, 1) := by decide +kernel
theorem dX0_countWays_20 : decode cX0_countWays 20 = .ok (.iload_n 2, 1) := by decide +kernel
theorem dX0_countWays_21 : decode cX0_countWays 21 = .ok (.if_icmp .gt 31, 3) := by decide +kernel
theorem dX0_countWays_24 : decode cX0_countWays 24 = .ok (.iload_n 3, 1) := by decide +kernel
theorem dX0_countWays_25 : decode cX0_countWays 25 = .ok (.iconst 1, 1) := by decide +kernel
theorem dX0_countWays_26 : decode cX0_countWays 26 = .ok (.iand, 1) := by decide +kernel
theorem dX0_countWays_27 : decode cX0_countWays 27 = .ok (.ifCond .eq 8, 3) := by decide +kernel
theorem dX0_countWays_30 : decode cX0_countWays 30 = .ok (.iload_n 3, 1) := by decide +kernel
theorem dX0_countWays_31 : decode cX0_countWays 31 = .ok (.iload_n 2, 1) := by decide +kernel
theorem dX0_countWays_32 : decode cX0_countWays 32 = .ok (.if_icmp .ne 14, 3) := by decide +kernel
theorem dX0_countWays_35 : decode cX0_countWays 35 = .ok (.aload_n 0, 1) := by decide +kernel
theorem dX0_countWays_36 : decode cX0_countWays 36 = .ok (.getfield 25, 3) := by decide +kernel
theorem dX0_countWays_39 : decode cX0_countWays 39 = .ok (.iload_n 3, 1) := by decide +kernel
theorem dX0_countWays_40 : decode cX0_countWays 40 = .ok (.aload_n 0, 1) := by decide +kernel
theorem dX0_countWays_41 : decode cX0_countWays 41 = .ok (.iload_n 3, 1) := by decide +kernel
theorem dX0_countWays_42 : decode cX0_countWays 42 = .ok (.invokevirtual 140, 3) := by decide +kernel
theorem dX0_countWays_45 : decode cX0_countWays 45 = .ok (.iastore, 1) := by decide +kernel
theorem dX0_countWays_46 : decode cX0_countWays 46 = .ok (.iinc 3 1, 3) := by decide +kernel
theorem dX0_countWays_49 : decode cX0_countWays 49 = .ok (.goto (-30), 3) := by decide +kernel
theorem dX0_countWays_52 : decode cX0_countWays 52 = .ok (.aload_n 0, 1) := by decide +kernel
theorem dX0_countWays_53 : decode cX0_countWays 53 = .ok (.getfield 25, 3) := by decide +kernel
theorem dX0_countWays_56 : decode cX0_countWays 56 = .ok (.iload_n 2, 1) := by decide +kernel
theorem dX0_countWays_57 : decode cX0_countWays 57 = .ok (.iaload, 1) := by decide +kernel
theorem dX0_countWays_58 : decode cX0_countWays 58 = .ok (.ireturn, 1) := by decide +kernel
abbrev rm_X0_countWays : Room := { frames := 3, cells := 0, slots := 0, locals := 73 }
set_option maxHeartbeats 4000000 in
set_option maxRecDepth 100000 in
theorem c_X0_countWays (N : Nat) (l : Launch) (dC : Nat → ClassId) (dI : Nat → Nat → Nat) (cy : ClassId) (h q2 q3 q4 q5 q6 q7 q8 q9 : Nat) (sz : Nat) (c0 : Int32) (c1 : Int32) (c2 : Nat → Int32) (c3 : Nat → Int32) (c4 : Nat → Int32) (c5 : Nat → Int32) (c6 : Nat → Int32) (c7 : Nat → Int32) (c8 : Nat → Int32) (c9 : Nat → Int32) (c10 : Int32) (c11 : Int32) (a1 : Int32) (res : Int32 × (Nat → Int32) × (Nat → Int32) × (Nat → Int32)) (hf : f_X0_countWays N a1 c0 c4 c5 c6 c7 = some res) : Met l yX0_countWays wsX0_countWays rm_X0_countWays (va_Pc [.ref h, .int a1] (fun U => U.heap.size = sz ∧ va_P (dC, dI) vwCl (wX0 cy h q2 q3 q4 q5 q6 q7 q8 q9 c0 c1 c2 c3 c4 c5 c6 c7 c8 c9 c10 c11) U.heap ∧ va_K (dC, dI) vwCl [(cy, .int)] U ∧ va_D (fun _ => True) (wX0 cy h q2 q3 q4 q5 q6 q7 q8 q9 c0 c1 c2 c3 c4 c5 c6 c7 c8 c9 c10 c11))) (z_qI dC dI cy res.1 (wX0 cy h q2 q3 q4 q5 q6 q7 q8 q9 c0 c1 c2 c3 c4 res.2.1 res.2.2.1 res.2.2.2 c8 c9 c10 c11) (va_A (wX0 cy h q2 q3 q4 q5 q6 q7 q8 q9 c0 c1 c2 c3 c4 c5 c6 c7 c8 c9 c10 c11) sz)) 0 0 (va_A (wX0 cy h q2 q3 q4 q5 q6 q7 q8 q9 c0 c1 c2 c3 c4 c5 c6 c7 c8 c9 c10 c11) sz) := by
  refine Met.ofW (cc := cX0_countWays) (maxL := 4) (ret := (some .int)) (by decide) rfl ?_
  intro p e s m args below meth c s₁ B hml hv
  obtain ⟨rfl, hsz, hP, hK, hD0⟩ := hv
  have hx := B.exec
  have hb := B.bytes
  have hr := B.returns
  have hts := atoms_spec (ws := wsX0_countWays) B.pre
  have hown : s.vm.findClass RX0 = some m.cls := findClass_of_methodNamed B.named
  have hlocks := B.notSynchronized
  subst hsz
  have hD := hD0.self (sz := s.heap.size)
  generalize hAe : va_A (wX0 cy h q2 q3 q4 q5 q6 q7 q8 q9 c0 c1 c2 c3 c4 c5 c6 c7 c8 c9 c10 c11) s.heap.size = A at hD ⊢
  have hA : ∀ q : Nat, s.heap.size ≤ q → A q := fun q h => by rw [← hAe]; exact Or.inr h
  have hS : va_S A s.heap s.heap [] := va_S.rf
  have hP : va_P (dC, dI) vwCl (wX0 cy h q2 q3 q4 q5 q6 q7 q8 q9 c0 c1 c2 c3 c4 c5 c6 c7 c8 c9 c10 c11) s.heap := hP
  have hl := lv_entry ([.ref h, .int a1]) (n := 4) (Nat.le_of_ble_eq_true rfl)
  rw [lg_entry_eq]
  generalize (lg_sl ([.ref h, .int a1]) ++ List.replicate (4 - (lg_sl ([.ref h, .int a1])).length) Slot.unset).toArray = ls at hl ⊢
  have hl : lv_has ls 4 [(0, .ref h), (1, .int a1)] := hl
  have B46 : ∀ (r19 : Int32 → Int32 → (Nat → Int32) → (Nat → Int32) → (Nat → Int32) → Option (Int32 × (Nat → Int32) × (Nat → Int32) × (Nat → Int32))), (∀ (x2 x3 : Int32) (c5 : Nat → Int32) (c6 : Nat → Int32) (c7 : Nat → Int32) (H : Heap) (locs : List Loc) (ls : Array Slot), r19 x2 x3 c5 c6 c7 = some res → va_P (dC, dI) vwCl (wX0 cy h q2 q3 q4 q5 q6 q7 q8 q9 c0 c1 c2 c3 c4 c5 c6 c7 c8 c9 c10 c11) H → va_D A (wX0 cy h q2 q3 q4 q5 q6 q7 q8 q9 c0 c1 c2 c3 c4 c5 c6 c7 c8 c9 c10 c11) → va_S A s.heap H locs → lv_has ls 4 [(0, .ref h), (2, .int x2), (3, .int x3)] → W p l e rm_X0_countWays s m ([.ref h, .int a1] : List Value).toArray below meth c H locs 0 0 (MQ below (z_qI dC dI cy res.1 (wX0 cy h q2 q3 q4 q5 q6 q7 q8 q9 c0 c1 c2 c3 c4 res.2.1 res.2.2.1 res.2.2.2 c8 c9 c10 c11) A) ([.ref h, .int a1] : List Value).toArray s 0 0 A) (F0 m 19 ls [])) → ∀ (x2 x3 : Int32) (c5 : Nat → Int32) (c6 : Nat → Int32) (c7 : Nat → Int32) (H : Heap) (locs : List Loc) (ls : Array Slot), f_X0_countWays_b46 N c0 c4 r19 x2 x3 c5 c6 c7 = some res → va_P (dC, dI) vwCl (wX0 cy h q2 q3 q4 q5 q6 q7 q8 q9 c0 c1 c2 c3 c4 c5 c6 c7 c8 c9 c10 c11) H → va_D A (wX0 cy h q2 q3 q4 q5 q6 q7 q8 q9 c0 c1 c2 c3 c4 c5 c6 c7 c8 c9 c10 c11) → va_S A s.heap H locs → lv_has ls 4 [(0, .ref h), (2, .int x2), (3, .int x3)] → W p l e rm_X0_countWays s m ([.ref h, .int a1] : List Value).toArray below meth c H locs 0 0 (MQ below (z_qI dC dI cy res.1 (wX0 cy h q2 q3 q4 q5 q6 q7 q8 q9 c0 c1 c2 c3 c4 res.2.1 res.2.2.1 res.2.2.2 c8 c9 c10 c11) A) ([.ref h, .int a1] : List Value).toArray s 0 0 A) (F0 m 46 ls []) := by
    clear hf hl hP hD hS
    intro r19 hr19
    intro x2 x3 c5 c6 c7 H locs ls hf hP hD hS hl
    unfold f_X0_countWays_b46 at hf
    refine lv_iinc (v := x3 + (1 : Int32)) (lv' := [(3, .int (x3 + (1 : Int32))), (0, .ref h), (2, .int x2)]) hx hb dX0_countWays_46 hl (k := 2) rfl rfl (by decide) rfl (fun ls hl => ?_)
    refine lv_goto (tgt := 19) hx hb dX0_countWays_49 (by decide) ?_
    exact hr19 x2 (x3 + (1 : Int32)) c5 c6 c7 _ _ _ hf hP hD hS (lv_sub hl [1, 2, 0] rfl)
  have B35 : ∀ (r19 : Int32 → Int32 → (Nat → Int32) → (Nat → Int32) → (Nat → Int32) → Option (Int32 × (Nat → Int32) × (Nat → Int32) × (Nat → Int32))), (∀ (x2 x3 : Int32) (c5 : Nat → Int32) (c6 : Nat → Int32) (c7 : Nat → Int32) (H : Heap) (locs : List Loc) (ls : Array Slot), r19 x2 x3 c5 c6 c7 = some res → va_P (dC, dI) vwCl (wX0 cy h q2 q3 q4 q5 q6 q7 q8 q9 c0 c1 c2 c3 c4 c5 c6 c7 c8 c9 c10 c11) H → va_D A (wX0 cy h q2 q3 q4 q5 q6 q7 q8 q9 c0 c1 c2 c3 c4 c5 c6 c7 c8 c9 c10 c11) → va_S A s.heap H locs → lv_has ls 4 [(0, .ref h), (2, .int x2), (3, .int x3)] → W p l e rm_X0_countWays s m ([.ref h, .int a1] : List Value).toArray below meth c H locs 0 0 (MQ below (z_qI dC dI cy res.1 (wX0 cy h q2 q3 q4 q5 q6 q7 q8 q9 c0 c1 c2 c3 c4 res.2.1 res.2.2.1 res.2.2.2 c8 c9 c10 c11) A) ([.ref h, .int a1] : List Value).toArray s 0 0 A) (F0 m 19 ls [])) → ∀ (x2 x3 : Int32) (c5 : Nat → Int32) (c6 : Nat → Int32) (c7 : Nat → Int32) (H : Heap) (locs : List Loc) (ls : Array Slot), f_X0_countWays_b35 N c0 c4 r19 x2 x3 c5 c6 c7 = some res → va_P (dC, dI) vwCl (wX0 cy h q2 q3 q4 q5 q6 q7 q8 q9 c0 c1 c2 c3 c4 c5 c6 c7 c8 c9 c10 c11) H → va_D A (wX0 cy h q2 q3 q4 q5 q6 q7 q8 q9 c0 c1 c2 c3 c4 c5 c6 c7 c8 c9 c10 c11) → va_S A s.heap H locs → lv_has ls 4 [(0, .ref h), (2, .int x2), (3, .int x3)] → W p l e rm_X0_countWays s m ([.ref h, .int a1] : List Value).toArray below meth c H locs 0 0 (MQ below (z_qI dC dI cy res.1 (wX0 cy h q2 q3 q4 q5 q6 q7 q8 q9 c0 c1 c2 c3 c4 res.2.1 res.2.2.1 res.2.2.2 c8 c9 c10 c11) A) ([.ref h, .int a1] : List Value).toArray s 0 0 A) (F0 m 35 ls []) := by
    clear hf hl hP hD hS
    intro r19 hr19
    intro x2 x3 c5 c6 c7 H locs ls hf hP hD hS hl
    unfold f_X0_countWays_b35 at hf
    refine lv_aload_n hx hb dX0_countWays_35 rfl (lv_at hl 0 rfl) ?_
    refine va_get (D := (dC, dI)) (ci := 0) (v := .ref q7) (C := RX0) (T := TX0) (N := 12) hx hb hts (by decide +kernel) hown hK hP 0 rfl rfl 7 (by decide) (hts (.fieldLink RX0 25 "GiftLots" "splits" "[I") (by decide +kernel)) (fun _ h9 => h9) rfl dX0_countWays_36 ?_
    refine lv_iload_n hx hb dX0_countWays_39 rfl (lv_at hl 2 rfl) ?_
    refine lv_aload_n hx hb dX0_countWays_40 rfl (lv_at hl 0 rfl) ?_
    refine lv_iload_n hx hb dX0_countWays_41 rfl (lv_at hl 2 rfl) ?_
    obtain ⟨u42, hu42, hf⟩ := z_ob_some hf
    have hPc := hP.sub (ws' := (wX0 cy h q2 q3 q4 q5 q6 q7 q8 q9 c0 c1 c2 c3 c4 c5 c6 c7 c8 c9 c10 c11)) [0, 1, 2, 3, 4, 5, 6, 7, 8] rfl
    have hDc := hD.sub (ws' := (wX0 cy h q2 q3 q4 q5 q6 q7 q8 q9 c0 c1 c2 c3 c4 c5 c6 c7 c8 c9 c10 c11)) [0, 1, 2, 3, 4, 5, 6, 7, 8] (by decide) rfl
    have hKc := hK.sub (tys' := [(cy, .int)]) [0] rfl
    have hFc := va_free (wc := (wX0 cy h q2 q3 q4 q5 q6 q7 q8 q9 c0 c1 c2 c3 c4 c5 c6 c7 c8 c9 c10 c11)) hD hS hA [0, 1, 2, 3, 4, 5, 6, 7, 8] rfl
    refine va_calli (va_runV (As := [.int x3]) (rest := [.int x3, .ref q7]) ⟨hx, hb, hml, hown, hts⟩ (c_X0_takeOutRound N l dC dI cy h q2 q3 q4 q5 q6 q7 q8 q9 H.size c0 c1 c2 c3 c4 c5 c6 c7 c8 c9 c10 c11 x3 u42 hu42) (cwV 1 hts gX0_countWays_X0_takeOutRound rfl rfl rfl (by decide +kernel) ⟨Nat.le_of_ble_eq_true rfl, Nat.le_of_ble_eq_true rfl⟩) ⟨fun a U g mk q => by obtain ⟨q0, q1, qP, qK, qD⟩ := q; exact ⟨q0, q1, qP, va_K.moved (u := U) (U := U.calling g mk a) (Vm.Alike.refl U.vm) qK, qD⟩, va_recv hKc hPc (ci := 0) (q0 := 0) rfl rfl, fun U hU hW => ⟨rfl, by rw [hU], by rw [hU]; exact hPc, va_K.moved hW.alike hKc, hDc.weaken (fun _ _ _ _ => trivial)⟩⟩ rfl rfl hl.1 rfl (lv_room (Nat.le_of_ble_eq_true rfl)) dX0_countWays_42 ⟨Nat.zero_le _, Nat.zero_le _⟩) hS (fun q _ h => hFc q h) hFc (fun r_42 uu_ t H1 locs ht hvm hw hB hz1 hk1 hS => ?_)
    replace hw := hw.symm
    subst hw
    obtain ⟨hP1, -, hD1⟩ := hB
    rw [ht] at hP1
    obtain ⟨hP, hD⟩ := va_join (wr := []) (w1 := (wX0 cy h q2 q3 q4 q5 q6 q7 q8 q9 c0 c1 c2 c3 c4 c5 c6 c7 c8 c9 c10 c11)) hP hD [0, 1, 2, 3, 4, 5, 6, 7, 8] [] rfl rfl (by decide) (by decide) hk1 hFc hP1 hD1
    clear hk1 hz1 hP1 hD1 ht hPc hDc hFc
    generalize H1 = H at hP hS ⊢
    have hP : va_P (dC, dI) vwCl (wX0 cy h q2 q3 q4 q5 q6 q7 q8 q9 c0 c1 c2 c3 c4 c5 c6 c7 c8 c9 c10 c11) H := hP
    have hD : va_D A (wX0 cy h q2 q3 q4 q5 q6 q7 q8 q9 c0 c1 c2 c3 c4 c5 c6 c7 c8 c9 c10 c11) := hD
    obtain ⟨hi45, hf⟩ := z_gx_some hf
    refine va_iast hx hb hK hP hD hS 6 0 rfl rfl hi45 dX0_countWays_45 (fun H locs hP hD hS => ?_)
    have hP : va_P (dC, dI) vwCl (wX0 cy h q2 q3 q4 q5 q6 q7 q8 q9 c0 c1 c2 c3 c4 c5 c6 (upd c7 (x3).toNatClampNeg u42) c8 c9 c10 c11) H := hP
    have hD : va_D A (wX0 cy h q2 q3 q4 q5 q6 q7 q8 q9 c0 c1 c2 c3 c4 c5 c6 (upd c7 (x3).toNatClampNeg u42) c8 c9 c10 c11) := hD
    exact B46 r19 hr19 x2 x3 c5 c6 (upd c7 (x3).toNatClampNeg u42) _ _ _ hf hP hD hS (lv_sub hl [0, 1, 2] rfl)
  have B19 : ∀ n : Nat, ∀ (x2 x3 : Int32) (c5 : Nat → Int32) (c6 : Nat → Int32) (c7 : Nat → Int32) (H : Heap) (locs : List Loc) (ls : Array Slot), f_X0_countWays_b19 N c0 c4 n x2 x3 c5 c6 c7 = some res → va_P (dC, dI) vwCl (wX0 cy h q2 q3 q4 q5 q6 q7 q8 q9 c0 c1 c2 c3 c4 c5 c6 c7 c8 c9 c10 c11) H → va_D A (wX0 cy h q2 q3 q4 q5 q6 q7 q8 q9 c0 c1 c2 c3 c4 c5 c6 c7 c8 c9 c10 c11) → va_S A s.heap H locs → lv_has ls 4 [(0, .ref h), (2, .int x2), (3, .int x3)] → W p l e rm_X0_countWays s m ([.ref h, .int a1] : List Value).toArray below meth c H locs 0 0 (MQ below (z_qI dC dI cy res.1 (wX0 cy h q2 q3 q4 q5 q6 q7 q8 q9 c0 c1 c2 c3 c4 res.2.1 res.2.2.1 res.2.2.2 c8 c9 c10 c11) A) ([.ref h, .int a1] : List Value).toArray s 0 0 A) (F0 m 19 ls []) := by
    clear hf hl hP hD hS
    intro n
    induction n with
    | zero =>
      intro x2 x3 c5 c6 c7 H locs ls hf hP hD hS hl
      rw [f_X0_countWays_b19] at hf
      cases hf
    | succ n ih =>
      intro x2 x3 c5 c6 c7 H locs ls hf hP hD hS hl
      rw [f_X0_countWays_b19] at hf
      refine lv_iload_n hx hb dX0_countWays_19 rfl (lv_at hl 2 rfl) ?_
      refine lv_iload_n hx hb dX0_countWays_20 rfl (lv_at hl 1 rfl) ?_
      refine lv_icmp_gt (tgt := 52) hx hb dX0_countWays_21 (by decide) (fun c_21 => ?_) (fun c_21 => ?_)
      · replace hf := (if_pos c_21).symm.trans hf
        refine lv_aload_n hx hb dX0_countWays_52 rfl (lv_at hl 0 rfl) ?_
        refine va_get (D := (dC, dI)) (ci := 0) (v := .ref q7) (C := RX0) (T := TX0) (N := 12) hx hb hts (by decide +kernel) hown hK hP 0 rfl rfl 7 (by decide) (hts (.fieldLink RX0 25 "GiftLots" "splits" "[I") (by decide +kernel)) (fun _ h9 => h9) rfl dX0_countWays_53 ?_
        refine lv_iload_n hx hb dX0_countWays_56 rfl (lv_at hl 1 rfl) ?_
        obtain ⟨hi57, hf⟩ := z_gx_some hf
        refine va_iald hx hb hK hP 6 0 rfl rfl hi57 dX0_countWays_57 ?_
        have hres := Option.some.inj hf
        subst hres
        have hP9 := hP.sub (ws' := (wX0 cy h q2 q3 q4 q5 q6 q7 q8 q9 c0 c1 c2 c3 c4 c5 c6 c7 c8 c9 c10 c11)) [0, 1, 2, 3, 4, 5, 6, 7, 8] rfl
        have hD9 := hD.sub (ws' := (wX0 cy h q2 q3 q4 q5 q6 q7 q8 q9 c0 c1 c2 c3 c4 c5 c6 c7 c8 c9 c10 c11)) [0, 1, 2, 3, 4, 5, 6, 7, 8] (by decide) rfl
        have hK9 := hK.sub (tys' := [(cy, .int)]) [0] rfl
        exact W.iret (v := c7 (x2).toNatClampNeg) hx hb hr (fun t ht hW => ⟨⟨c7 (x2).toNatClampNeg, (), rfl, rfl, by rw [ht]; exact hP9, va_K.moved hW.alike hK9, hD9⟩, hS.F ht⟩) hS.2.2 dX0_countWays_58
      · replace hf := (if_neg c_21).symm.trans hf
        refine lv_iload_n hx hb dX0_countWays_24 rfl (lv_at hl 2 rfl) ?_
        refine lv_iconst (v := (1 : Int32)) hx hb dX0_countWays_25 (by decide) ?_
        refine lv_iand hx hb dX0_countWays_26 ?_
        refine lv_if_eq (tgt := 35) hx hb dX0_countWays_27 (by decide) (fun c_27 => ?_) (fun c_27 => ?_)
        · replace hf := (if_pos c_27).symm.trans hf
          exact B35 (f_X0_countWays_b19 N c0 c4 n) ih x2 x3 c5 c6 c7 _ _ _ hf hP hD hS (lv_sub hl [0, 1, 2] rfl)
        · replace hf := (if_neg c_27).symm.trans hf
          refine lv_iload_n hx hb dX0_countWays_30 rfl (lv_at hl 2 rfl) ?_
          refine lv_iload_n hx hb dX0_countWays_31 rfl (lv_at hl 1 rfl) ?_
          refine lv_icmp_ne (tgt := 46) hx hb dX0_countWays_32 (by decide) (fun c_32 => ?_) (fun c_32 => ?_)
          · replace hf := (if_neg c_32).symm.trans hf
            exact B46 (f_X0_countWays_b19 N c0 c4 n) ih x2 x3 c5 c6 c7 _ _ _ hf hP hD hS (lv_sub hl [0, 1, 2] rfl)
          · replace hf := (if_pos c_32).symm.trans hf
            exact B35 (f_X0_countWays_b19 N c0 c4 n) ih x2 x3 c5 c6 c7 _ _ _ hf hP hD hS (lv_sub hl [0, 1, 2] rfl)
  unfold f_X0_countWays at hf
  refine lv_aload_n hx hb dX0_countWays_0 rfl (lv_at hl 0 rfl) ?_
  refine lv_iload_n hx hb dX0_countWays_1 rfl (lv_at hl 1 rfl) ?_
  obtain ⟨u2, hu2, hf⟩ := z_ob_some hf
  have hPc := hP.sub (ws' := (wX0 cy h q2 q3 q4 q5 q6 q7 q8 q9 c0 c1 c2 c3 c4 c5 c6 c7 c8 c9 c10 c11)) [0, 1, 2, 3, 4, 5, 6, 7, 8] rfl
  have hDc := hD.sub (ws' := (wX0 cy h q2 q3 q4 q5 q6 q7 q8 q9 c0 c1 c2 c3 c4 c5 c6 c7 c8 c9 c10 c11)) [0, 1, 2, 3, 4, 5, 6, 7, 8] (by decide) rfl
  have hKc := hK.sub (tys' := [(cy, .int)]) [0] rfl
  have hFc := va_free (wc := (wX0 cy h q2 q3 q4 q5 q6 q7 q8 q9 c0 c1 c2 c3 c4 c5 c6 c7 c8 c9 c10 c11)) hD hS hA [0, 1, 2, 3, 4, 5, 6, 7, 8] rfl
  refine va_callv (va_runV (As := [.int a1]) (rest := []) ⟨hx, hb, hml, hown, hts⟩ (c_X0_closeRounds N l dC dI cy h q2 q3 q4 q5 q6 q7 q8 q9 s.heap.size c0 c1 c2 c3 c4 c5 c6 c7 c8 c9 c10 c11 a1 u2 hu2) (cwV 1 hts gX0_countWays_X0_closeRounds rfl rfl rfl (by decide +kernel) ⟨Nat.le_of_ble_eq_true rfl, Nat.le_of_ble_eq_true rfl⟩) ⟨fun a U g mk q => by obtain ⟨q0, q1, qP, qK, qD⟩ := q; exact ⟨q0, q1, qP, va_K.moved (u := U) (U := U.calling g mk a) (Vm.Alike.refl U.vm) qK, qD⟩, va_recv hKc hPc (ci := 0) (q0 := 0) rfl rfl, fun U hU hW => ⟨rfl, by rw [hU], by rw [hU]; exact hPc, va_K.moved hW.alike hKc, hDc.weaken (fun _ _ _ _ => trivial)⟩⟩ rfl rfl hl.1 rfl (lv_room (Nat.le_of_ble_eq_true rfl)) dX0_countWays_2 ⟨Nat.zero_le _, Nat.zero_le _⟩) hS (fun q _ h => hFc q h) hFc (fun uu_ t H1 locs ht hvm hw hB hz1 hk1 hS => ?_)
  obtain ⟨hP1, -, hD1⟩ := hB
  rw [ht] at hP1
  obtain ⟨hP, hD⟩ := va_join (wr := []) (w1 := (wX0 cy h q2 q3 q4 q5 q6 q7 q8 q9 c0 c1 c2 c3 c4 u2.1 u2.2 c7 c8 c9 c10 c11)) hP hD [0, 1, 2, 3, 4, 5, 6, 7, 8] [] rfl rfl (by decide) (by decide) hk1 hFc hP1 hD1
  clear hk1 hz1 hP1 hD1 ht hPc hDc hFc
  generalize H1 = H at hP hS ⊢
  have hP : va_P (dC, dI) vwCl (wX0 cy h q2 q3 q4 q5 q6 q7 q8 q9 c0 c1 c2 c3 c4 u2.1 u2.2 c7 c8 c9 c10 c11) H := hP
  have hD : va_D A (wX0 cy h q2 q3 q4 q5 q6 q7 q8 q9 c0 c1 c2 c3 c4 u2.1 u2.2 c7 c8 c9 c10 c11) := hD
  refine lv_aload_n hx hb dX0_countWays_5 rfl (lv_at hl 0 rfl) ?_
  obtain ⟨u6, hu6, hf⟩ := z_ob_some hf
  have hPc := hP.sub (ws' := (wX0 cy h q2 q3 q4 q5 q6 q7 q8 q9 c0 c1 c2 c3 c4 u2.1 u2.2 c7 c8 c9 c10 c11)) [0, 1, 2, 3, 4, 5, 6, 7, 8] rfl
  have hDc := hD.sub (ws' := (wX0 cy h q2 q3 q4 q5 q6 q7 q8 q9 c0 c1 c2 c3 c4 u2.1 u2.2 c7 c8 c9 c10 c11)) [0, 1, 2, 3, 4, 5, 6, 7, 8] (by decide) rfl
  have hKc := hK.sub (tys' := [(cy, .int)]) [0] rfl
  have hFc := va_free (wc := (wX0 cy h q2 q3 q4 q5 q6 q7 q8 q9 c0 c1 c2 c3 c4 u2.1 u2.2 c7 c8 c9 c10 c11)) hD hS hA [0, 1, 2, 3, 4, 5, 6, 7, 8] rfl
  refine va_calli (va_runV (As := []) (rest := []) ⟨hx, hb, hml, hown, hts⟩ (c_X0_everyone N l dC dI cy h q2 q3 q4 q5 q6 q7 q8 q9 H.size c0 c1 c2 c3 c4 u2.1 u2.2 c7 c8 c9 c10 c11 u6 hu6) (cwV 0 hts gX0_countWays_X0_everyone rfl rfl rfl (by decide +kernel) ⟨Nat.le_of_ble_eq_true rfl, Nat.le_of_ble_eq_true rfl⟩) ⟨fun a U g mk q => by obtain ⟨q0, q1, qP, qK, qD⟩ := q; exact ⟨q0, q1, qP, va_K.moved (u := U) (U := U.calling g mk a) (Vm.Alike.refl U.vm) qK, qD⟩, va_recv hKc hPc (ci := 0) (q0 := 0) rfl rfl, fun U hU hW => ⟨rfl, by rw [hU], by rw [hU]; exact hPc, va_K.moved hW.alike hKc, hDc.weaken (fun _ _ _ _ => trivial)⟩⟩ rfl rfl hl.1 rfl (lv_room (Nat.le_of_ble_eq_true rfl)) dX0_countWays_6 ⟨Nat.zero_le _, Nat.zero_le _⟩) hS (fun q _ h => hFc q h) hFc (fun r_6 uu_ t H1 locs ht hvm hw hB hz1 hk1 hS => ?_)
  replace hw := hw.symm
  subst hw
  obtain ⟨hP1, -, hD1⟩ := hB
  rw [ht] at hP1
  obtain ⟨hP, hD⟩ := va_join (wr := []) (w1 := (wX0 cy h q2 q3 q4 q5 q6 q7 q8 q9 c0 c1 c2 c3 c4 u2.1 u2.2 c7 c8 c9 c10 c11)) hP hD [0, 1, 2, 3, 4, 5, 6, 7, 8] [] rfl rfl (by decide) (by decide) hk1 hFc hP1 hD1
  clear hk1 hz1 hP1 hD1 ht hPc hDc hFc
  generalize H1 = H at hP hS ⊢
  have hP : va_P (dC, dI) vwCl (wX0 cy h q2 q3 q4 q5 q6 q7 q8 q9 c0 c1 c2 c3 c4 u2.1 u2.2 c7 c8 c9 c10 c11) H := hP
  have hD : va_D A (wX0 cy h q2 q3 q4 q5 q6 q7 q8 q9 c0 c1 c2 c3 c4 u2.1 u2.2 c7 c8 c9 c10 c11) := hD
  refine lv_istore_n (lv' := [(2, .int u6), (0, .ref h), (1, .int a1)]) hx hb dX0_countWays_9 rfl hl (by decide) rfl (fun ls hl => ?_)
  refine lv_aload_n hx hb dX0_countWays_10 rfl (lv_at hl 1 rfl) ?_
  refine va_get (D := (dC, dI)) (ci := 0) (v := .ref q7) (C := RX0) (T := TX0) (N := 12) hx hb hts (by decide +kernel) hown hK hP 0 rfl rfl 7 (by decide) (hts (.fieldLink RX0 25 "GiftLots" "splits" "[I") (by decide +kernel)) (fun _ h9 => h9) rfl dX0_countWays_11 ?_
  refine lv_iconst (v := (0 : Int32)) hx hb dX0_countWays_14 (by decide) ?_
  refine lv_iconst (v := (1 : Int32)) hx hb dX0_countWays_15 (by decide) ?_
  obtain ⟨hi16, hf⟩ := z_gx_some hf
  refine va_iast hx hb hK hP hD hS 6 0 rfl rfl hi16 dX0_countWays_16 (fun H locs hP hD hS => ?_)
  have hP : va_P (dC, dI) vwCl (wX0 cy h q2 q3 q4 q5 q6 q7 q8 q9 c0 c1 c2 c3 c4 u2.1 u2.2 (upd c7 ((0 : Int32)).toNatClampNeg (1 : Int32)) c8 c9 c10 c11) H := hP
  have hD : va_D A (wX0 cy h q2 q3 q4 q5 q6 q7 q8 q9 c0 c1 c2 c3 c4 u2.1 u2.2 (upd c7 ((0 : Int32)).toNatClampNeg (1 : Int32)) c8 c9 c10 c11) := hD
  refine lv_iconst (v := (1 : Int32)) hx hb dX0_countWays_17 (by decide) ?_
  refine lv_istore_n (lv' := [(3, .int (1 : Int32)), (2, .int u6), (0, .ref h), (1, .int a1)]) hx hb dX0_countWays_18 rfl hl (by decide) rfl (fun ls hl => ?_)
  exact B19 N u6 (1 : Int32) u2.1 u2.2 (upd c7 ((0 : Int32)).toNatClampNeg (1 : Int32)) _ _ _ hf hP hD hS (lv_sub hl [2, 1, 0] rfl)

set_option maxRecDepth 20000 in
theorem ggX0_ways_X0_openRows : GoodIn wsX0_ways wsX0_openRows := goodIn_r _ [6, 7, 8, 9, 10, 11, 12, 54, 55, 56, 57, 58, 59, 60, 61, 62, 63, 64, 65] (by decide +kernel) (by decide +kernel)
set_option maxRecDepth 20000 in
theorem gX0_ways_X0_openRows : GoodIn wsX0_ways (wsV RX0 60 RX0 yX0_openRows wsX0_openRows) := goodIn_app (goodIn_of _ (by decide +kernel)) ggX0_ways_X0_openRows
set_option maxRecDepth 20000 in
theorem ggX0_ways_X0_countWays : GoodIn wsX0_ways wsX0_countWays := goodIn_r _ [16, 17, 18, 19, 20, 5, 21, 22, 23, 24, 25, 26, 27, 28, 29, 30, 31, 32, 33, 34, 35, 36, 37, 38, 39, 40, 41, 42, 8, 43, 44, 45, 46, 47, 48, 49, 50, 51, 52, 53, 54, 55, 56, 57, 58, 59, 60, 61, 62, 63, 64, 65] (by decide +kernel) (by decide +kernel)
set_option maxRecDepth 20000 in
theorem gX0_ways_X0_countWays : GoodIn wsX0_ways (wsV RX0 63 RX0 yX0_countWays wsX0_countWays) := goodIn_app (goodIn_of _ (by decide +kernel)) ggX0_ways_X0_countWays
theorem dX0_ways_0 : decode cX0_ways 0 = .ok (.aload_n 0, 1) := by decide +kernel
theorem dX0_ways_1 : decode cX0_ways 1 = .ok (.invokevirtual 60, 3) := by decide +kernel
theorem dX0_ways_4 : decode cX0_ways 4 = .ok (.aload_n 0, 1) := by decide +kernel
theorem dX0_ways_5 : decode cX0_ways 5 = .ok (.aload_n 0, 1) := by decide +kernel
theorem dX0_ways_6 : decode cX0_ways 6 = .ok (.getfield 57, 3) := by decide +kernel
theorem dX0_ways_9 : decode cX0_ways 9 = .ok (.invokevirtual 63, 3) := by decide +kernel
theorem dX0_ways_12 : decode cX0_ways 12 = .ok (.ireturn, 1) := by decide +kernel
abbrev rm_X0_ways : Room := { frames := 4, cells := 0, slots := 0, locals := 96 }
set_option maxHeartbeats 4000000 in
set_option maxRecDepth 100000 in
theorem c_X0_ways (N : Nat) (l : Launch) (dC : Nat → ClassId) (dI : Nat → Nat → Nat) (cy : ClassId) (h q2 q3 q4 q5 q6 q7 q8 q9 : Nat) (sz : Nat) (c0 : Int32) (c1 : Int32) (c2 : Nat → Int32) (c3 : Nat → Int32) (c4 : Nat → Int32) (c5 : Nat → Int32) (c6 : Nat → Int32) (c7 : Nat → Int32) (c8 : Nat → Int32) (c9 : Nat → Int32) (c10 : Int32) (c11 : Int32) (res : Int32 × (Nat → Int32) × (Nat → Int32) × (Nat → Int32) × (Nat → Int32)) (hf : f_X0_ways N c0 c1 c2 c4 c5 c6 c7 = some res) : Met l yX0_ways wsX0_ways rm_X0_ways (va_Pc [.ref h] (fun U => U.heap.size = sz ∧ va_P (dC, dI) vwCl (wX0 cy h q2 q3 q4 q5 q6 q7 q8 q9 c0 c1 c2 c3 c4 c5 c6 c7 c8 c9 c10 c11) U.heap ∧ va_K (dC, dI) vwCl [(cy, .int)] U ∧ va_D (fun _ => True) (wX0 cy h q2 q3 q4 q5 q6 q7 q8 q9 c0 c1 c2 c3 c4 c5 c6 c7 c8 c9 c10 c11))) (z_qI dC dI cy res.1 (wX0 cy h q2 q3 q4 q5 q6 q7 q8 q9 c0 c1 c2 c3 res.2.1 res.2.2.1 res.2.2.2.1 res.2.2.2.2 c8 c9 c10 c11) (va_A (wX0 cy h q2 q3 q4 q5 q6 q7 q8 q9 c0 c1 c2 c3 c4 c5 c6 c7 c8 c9 c10 c11) sz)) 0 0 (va_A (wX0 cy h q2 q3 q4 q5 q6 q7 q8 q9 c0 c1 c2 c3 c4 c5 c6 c7 c8 c9 c10 c11) sz) := by
  refine Met.ofW (cc := cX0_ways) (maxL := 1) (ret := (some .int)) (by decide) rfl ?_
  intro p e s m args below meth c s₁ B hml hv
  obtain ⟨rfl, hsz, hP, hK, hD0⟩ := hv
  have hx := B.exec
  have hb := B.bytes
  have hr := B.returns
  have hts := atoms_spec (ws := wsX0_ways) B.pre
  have hown : s.vm.findClass RX0 = some m.cls := findClass_of_methodNamed B.named
  have hlocks := B.notSynchronized
  subst hsz
  have hD := hD0.self (sz := s.heap.size)
  generalize hAe : va_A (wX0 cy h q2 q3 q4 q5 q6 q7 q8 q9 c0 c1 c2 c3 c4 c5 c6 c7 c8 c9 c10 c11) s.heap.size = A at hD ⊢
  have hA : ∀ q : Nat, s.heap.size ≤ q → A q := fun q h => by rw [← hAe]; exact Or.inr h
  have hS : va_S A s.heap s.heap [] := va_S.rf
  have hP : va_P (dC, dI) vwCl (wX0 cy h q2 q3 q4 q5 q6 q7 q8 q9 c0 c1 c2 c3 c4 c5 c6 c7 c8 c9 c10 c11) s.heap := hP
  have hl := lv_entry ([.ref h]) (n := 1) (Nat.le_of_ble_eq_true rfl)
  rw [lg_entry_eq]
  generalize (lg_sl ([.ref h]) ++ List.replicate (1 - (lg_sl ([.ref h])).length) Slot.unset).toArray = ls at hl ⊢
  have hl : lv_has ls 1 [(0, .ref h)] := hl
  unfold f_X0_ways at hf
  refine lv_aload_n hx hb dX0_ways_0 rfl (lv_at hl 0 rfl) ?_
  obtain ⟨u1, hu1, hf⟩ := z_ob_some hf
  have hPc := hP.sub (ws' := (wX0 cy h q2 q3 q4 q5 q6 q7 q8 q9 c0 c1 c2 c3 c4 c5 c6 c7 c8 c9 c10 c11)) [0, 1, 2, 3, 4, 5, 6, 7, 8] rfl
  have hDc := hD.sub (ws' := (wX0 cy h q2 q3 q4 q5 q6 q7 q8 q9 c0 c1 c2 c3 c4 c5 c6 c7 c8 c9 c10 c11)) [0, 1, 2, 3, 4, 5, 6, 7, 8] (by decide) rfl
  have hKc := hK.sub (tys' := [(cy, .int)]) [0] rfl
  have hFc := va_free (wc := (wX0 cy h q2 q3 q4 q5 q6 q7 q8 q9 c0 c1 c2 c3 c4 c5 c6 c7 c8 c9 c10 c11)) hD hS hA [0, 1, 2, 3, 4, 5, 6, 7, 8] rfl
  refine va_callv (va_runV (As := []) (rest := []) ⟨hx, hb, hml, hown, hts⟩ (c_X0_openRows N l dC dI cy h q2 q3 q4 q5 q6 q7 q8 q9 s.heap.size c0 c1 c2 c3 c4 c5 c6 c7 c8 c9 c10 c11 u1 hu1) (cwV 0 hts gX0_ways_X0_openRows rfl rfl rfl (by decide +kernel) ⟨Nat.le_of_ble_eq_true rfl, Nat.le_of_ble_eq_true rfl⟩) ⟨fun a U g mk q => by obtain ⟨q0, q1, qP, qK, qD⟩ := q; exact ⟨q0, q1, qP, va_K.moved (u := U) (U := U.calling g mk a) (Vm.Alike.refl U.vm) qK, qD⟩, va_recv hKc hPc (ci := 0) (q0 := 0) rfl rfl, fun U hU hW => ⟨rfl, by rw [hU], by rw [hU]; exact hPc, va_K.moved hW.alike hKc, hDc.weaken (fun _ _ _ _ => trivial)⟩⟩ rfl rfl hl.1 rfl (lv_room (Nat.le_of_ble_eq_true rfl)) dX0_ways_1 ⟨Nat.zero_le _, Nat.zero_le _⟩) hS (fun q _ h => hFc q h) hFc (fun uu_ t H1 locs ht hvm hw hB hz1 hk1 hS => ?_)
  obtain ⟨hP1, -, hD1⟩ := hB
  rw [ht] at hP1
  obtain ⟨hP, hD⟩ := va_join (wr := []) (w1 := (wX0 cy h q2 q3 q4 q5 q6 q7 q8 q9 c0 c1 c2 c3 u1 c5 c6 c7 c8 c9 c10 c11)) hP hD [0, 1, 2, 3, 4, 5, 6, 7, 8] [] rfl rfl (by decide) (by decide) hk1 hFc hP1 hD1
  clear hk1 hz1 hP1 hD1 ht hPc hDc hFc
  generalize H1 = H at hP hS ⊢
  have hP : va_P (dC, dI) vwCl (wX0 cy h q2 q3 q4 q5 q6 q7 q8 q9 c0 c1 c2 c3 u1 c5 c6 c7 c8 c9 c10 c11) H := hP
  have hD : va_D A (wX0 cy h q2 q3 q4 q5 q6 q7 q8 q9 c0 c1 c2 c3 u1 c5 c6 c7 c8 c9 c10 c11) := hD
  refine lv_aload_n hx hb dX0_ways_4 rfl (lv_at hl 0 rfl) ?_
  refine lv_aload_n hx hb dX0_ways_5 rfl (lv_at hl 0 rfl) ?_
  refine va_get (D := (dC, dI)) (ci := 0) (v := .int c1) (C := RX0) (T := TX0) (N := 12) hx hb hts (by decide +kernel) hown hK hP 0 rfl rfl 1 (by decide) (hts (.fieldLink RX0 57 "GiftLots" "shortest" "I") (by decide +kernel)) (fun _ h9 => h9) rfl dX0_ways_6 ?_
  obtain ⟨u9, hu9, hf⟩ := z_ob_some hf
  have hPc := hP.sub (ws' := (wX0 cy h q2 q3 q4 q5 q6 q7 q8 q9 c0 c1 c2 c3 u1 c5 c6 c7 c8 c9 c10 c11)) [0, 1, 2, 3, 4, 5, 6, 7, 8] rfl
  have hDc := hD.sub (ws' := (wX0 cy h q2 q3 q4 q5 q6 q7 q8 q9 c0 c1 c2 c3 u1 c5 c6 c7 c8 c9 c10 c11)) [0, 1, 2, 3, 4, 5, 6, 7, 8] (by decide) rfl
  have hKc := hK.sub (tys' := [(cy, .int)]) [0] rfl
  have hFc := va_free (wc := (wX0 cy h q2 q3 q4 q5 q6 q7 q8 q9 c0 c1 c2 c3 u1 c5 c6 c7 c8 c9 c10 c11)) hD hS hA [0, 1, 2, 3, 4, 5, 6, 7, 8] rfl
  refine va_calli (va_runV (As := [.int c1]) (rest := []) ⟨hx, hb, hml, hown, hts⟩ (c_X0_countWays N l dC dI cy h q2 q3 q4 q5 q6 q7 q8 q9 H.size c0 c1 c2 c3 u1 c5 c6 c7 c8 c9 c10 c11 c1 u9 hu9) (cwV 1 hts gX0_ways_X0_countWays rfl rfl rfl (by decide +kernel) ⟨Nat.le_of_ble_eq_true rfl, Nat.le_of_ble_eq_true rfl⟩) ⟨fun a U g mk q => by obtain ⟨q0, q1, qP, qK, qD⟩ := q; exact ⟨q0, q1, qP, va_K.moved (u := U) (U := U.calling g mk a) (Vm.Alike.refl U.vm) qK, qD⟩, va_recv hKc hPc (ci := 0) (q0 := 0) rfl rfl, fun U hU hW => ⟨rfl, by rw [hU], by rw [hU]; exact hPc, va_K.moved hW.alike hKc, hDc.weaken (fun _ _ _ _ => trivial)⟩⟩ rfl rfl hl.1 rfl (lv_room (Nat.le_of_ble_eq_true rfl)) dX0_ways_9 ⟨Nat.zero_le _, Nat.zero_le _⟩) hS (fun q _ h => hFc q h) hFc (fun r_9 uu_ t H1 locs ht hvm hw hB hz1 hk1 hS => ?_)
  replace hw := hw.symm
  subst hw
  obtain ⟨hP1, -, hD1⟩ := hB
  rw [ht] at hP1
  obtain ⟨hP, hD⟩ := va_join (wr := []) (w1 := (wX0 cy h q2 q3 q4 q5 q6 q7 q8 q9 c0 c1 c2 c3 u1 u9.2.1 u9.2.2.1 u9.2.2.2 c8 c9 c10 c11)) hP hD [0, 1, 2, 3, 4, 5, 6, 7, 8] [] rfl rfl (by decide) (by decide) hk1 hFc hP1 hD1
  clear hk1 hz1 hP1 hD1 ht hPc hDc hFc
  generalize H1 = H at hP hS ⊢
  have hP : va_P (dC, dI) vwCl (wX0 cy h q2 q3 q4 q5 q6 q7 q8 q9 c0 c1 c2 c3 u1 u9.2.1 u9.2.2.1 u9.2.2.2 c8 c9 c10 c11) H := hP
  have hD : va_D A (wX0 cy h q2 q3 q4 q5 q6 q7 q8 q9 c0 c1 c2 c3 u1 u9.2.1 u9.2.2.1 u9.2.2.2 c8 c9 c10 c11) := hD
  have hres := Option.some.inj hf
  subst hres
  have hP9 := hP.sub (ws' := (wX0 cy h q2 q3 q4 q5 q6 q7 q8 q9 c0 c1 c2 c3 u1 u9.2.1 u9.2.2.1 u9.2.2.2 c8 c9 c10 c11)) [0, 1, 2, 3, 4, 5, 6, 7, 8] rfl
  have hD9 := hD.sub (ws' := (wX0 cy h q2 q3 q4 q5 q6 q7 q8 q9 c0 c1 c2 c3 u1 u9.2.1 u9.2.2.1 u9.2.2.2 c8 c9 c10 c11)) [0, 1, 2, 3, 4, 5, 6, 7, 8] (by decide) rfl
  have hK9 := hK.sub (tys' := [(cy, .int)]) [0] rfl
  exact W.iret (v := u9.1) hx hb hr (fun t ht hW => ⟨⟨u9.1, (), rfl, rfl, by rw [ht]; exact hP9, va_K.moved hW.alike hK9, hD9⟩, hS.F ht⟩) hS.2.2 dX0_ways_12

set_option maxRecDepth 20000 in
theorem ggX0_free_X0_openRows : GoodIn wsX0_free wsX0_openRows := goodIn_r _ [5, 6, 7, 8, 9, 10, 11, 53, 54, 55, 56, 57, 58, 59, 60, 61, 62, 63, 64] (by decide +kernel) (by decide +kernel)
set_option maxRecDepth 20000 in
theorem gX0_free_X0_openRows : GoodIn wsX0_free (wsV RX0 60 RX0 yX0_openRows wsX0_openRows) := goodIn_app (goodIn_of _ (by decide +kernel)) ggX0_free_X0_openRows
set_option maxRecDepth 20000 in
theorem ggX0_free_X0_countWays : GoodIn wsX0_free wsX0_countWays := goodIn_r _ [15, 16, 17, 18, 19, 4, 20, 21, 22, 23, 24, 25, 26, 27, 28, 29, 30, 31, 32, 33, 34, 35, 36, 37, 38, 39, 40, 41, 7, 42, 43, 44, 45, 46, 47, 48, 49, 50, 51, 52, 53, 54, 55, 56, 57, 58, 59, 60, 61, 62, 63, 64] (by decide +kernel) (by decide +kernel)
set_option maxRecDepth 20000 in
theorem gX0_free_X0_countWays : GoodIn wsX0_free (wsV RX0 63 RX0 yX0_countWays wsX0_countWays) := goodIn_app (goodIn_of _ (by decide +kernel)) ggX0_free_X0_countWays
theorem dX0_free_0 : decode cX0_free 0 = .ok (.aload_n 0, 1) := by decide +kernel
theorem dX0_free_1 : decode cX0_free 1 = .ok (.invokevirtual 60, 3) := by decide +kernel
theorem dX0_free_4 : decode cX0_free 4 = .ok (.aload_n 0, 1) := by decide +kernel
theorem dX0_free_5 : decode cX0_free 5 = .ok (.iconst 2, 1) := by decide +kernel
theorem dX0_free_6 : decode cX0_free 6 = .ok (.invokevirtual 63, 3) := by decide +kernel
theorem dX0_free_9 : decode cX0_free 9 = .ok (.ireturn, 1) := by decide +kernel
abbrev rm_X0_free : Room := { frames := 4, cells := 0, slots := 0, locals := 96 }
set_option maxHeartbeats 4000000 in
set_option maxRecDepth 100000 in
theorem c_X0_free (N : Nat) (l : Launch) (dC : Nat → ClassId) (dI : Nat → Nat → Nat) (cy : ClassId) (h q2 q3 q4 q5 q6 q7 q8 q9 : Nat) (sz : Nat) (c0 : Int32) (c1 : Int32) (c2 : Nat → Int32) (c3 : Nat → Int32) (c4 : Nat → Int32) (c5 : Nat → Int32) (c6 : Nat → Int32) (c7 : Nat → Int32) (c8 : Nat → Int32) (c9 : Nat → Int32) (c10 : Int32) (c11 : Int32) (res : Int32 × (Nat → Int32) × (Nat → Int32) × (Nat → Int32) × (Nat → Int32)) (hf : f_X0_free N c0 c2 c4 c5 c6 c7 = some res) : Met l yX0_free wsX0_free rm_X0_free (va_Pc [.ref h] (fun U => U.heap.size = sz ∧ va_P (dC, dI) vwCl (wX0 cy h q2 q3 q4 q5 q6 q7 q8 q9 c0 c1 c2 c3 c4 c5 c6 c7 c8 c9 c10 c11) U.heap ∧ va_K (dC, dI) vwCl [(cy, .int)] U ∧ va_D (fun _ => True) (wX0 cy h q2 q3 q4 q5 q6 q7 q8 q9 c0 c1 c2 c3 c4 c5 c6 c7 c8 c9 c10 c11))) (z_qI dC dI cy res.1 (wX0 cy h q2 q3 q4 q5 q6 q7 q8 q9 c0 c1 c2 c3 res.2.1 res.2.2.1 res.2.2.2.1 res.2.2.2.2 c8 c9 c10 c11) (va_A (wX0 cy h q2 q3 q4 q5 q6 q7 q8 q9 c0 c1 c2 c3 c4 c5 c6 c7 c8 c9 c10 c11) sz)) 0 0 (va_A (wX0 cy h q2 q3 q4 q5 q6 q7 q8 q9 c0 c1 c2 c3 c4 c5 c6 c7 c8 c9 c10 c11) sz) := by
  refine Met.ofW (cc := cX0_free) (maxL := 1) (ret := (some .int)) (by decide) rfl ?_
  intro p e s m args below meth c s₁ B hml hv
  obtain ⟨rfl, hsz, hP, hK, hD0⟩ := hv
  have hx := B.exec
  have hb := B.bytes
  have hr := B.returns
  have hts := atoms_spec (ws := wsX0_free) B.pre
  have hown : s.vm.findClass RX0 = some m.cls := findClass_of_methodNamed B.named
  have hlocks := B.notSynchronized
  subst hsz
  have hD := hD0.self (sz := s.heap.size)
  generalize hAe : va_A (wX0 cy h q2 q3 q4 q5 q6 q7 q8 q9 c0 c1 c2 c3 c4 c5 c6 c7 c8 c9 c10 c11) s.heap.size = A at hD ⊢
  have hA : ∀ q : Nat, s.heap.size ≤ q → A q := fun q h => by rw [← hAe]; exact Or.inr h
  have hS : va_S A s.heap s.heap [] := va_S.rf
  have hP : va_P (dC, dI) vwCl (wX0 cy h q2 q3 q4 q5 q6 q7 q8 q9 c0 c1 c2 c3 c4 c5 c6 c7 c8 c9 c10 c11) s.heap := hP
  have hl := lv_entry ([.ref h]) (n := 1) (Nat.le_of_ble_eq_true rfl)
  rw [lg_entry_eq]
  generalize (lg_sl ([.ref h]) ++ List.replicate (1 - (lg_sl ([.ref h])).length) Slot.unset).toArray = ls at hl ⊢
  have hl : lv_has ls 1 [(0, .ref h)] := hl
  unfold f_X0_free at hf
  refine lv_aload_n hx hb dX0_free_0 rfl (lv_at hl 0 rfl) ?_
  obtain ⟨u1, hu1, hf⟩ := z_ob_some hf
  have hPc := hP.sub (ws' := (wX0 cy h q2 q3 q4 q5 q6 q7 q8 q9 c0 c1 c2 c3 c4 c5 c6 c7 c8 c9 c10 c11)) [0, 1, 2, 3, 4, 5, 6, 7, 8] rfl
  have hDc := hD.sub (ws' := (wX0 cy h q2 q3 q4 q5 q6 q7 q8 q9 c0 c1 c2 c3 c4 c5 c6 c7 c8 c9 c10 c11)) [0, 1, 2, 3, 4, 5, 6, 7, 8] (by decide) rfl
  have hKc := hK.sub (tys' := [(cy, .int)]) [0] rfl
  have hFc := va_free (wc := (wX0 cy h q2 q3 q4 q5 q6 q7 q8 q9 c0 c1 c2 c3 c4 c5 c6 c7 c8 c9 c10 c11)) hD hS hA [0, 1, 2, 3, 4, 5, 6, 7, 8] rfl
  refine va_callv (va_runV (As := []) (rest := []) ⟨hx, hb, hml, hown, hts⟩ (c_X0_openRows N l dC dI cy h q2 q3 q4 q5 q6 q7 q8 q9 s.heap.size c0 c1 c2 c3 c4 c5 c6 c7 c8 c9 c10 c11 u1 hu1) (cwV 0 hts gX0_free_X0_openRows rfl rfl rfl (by decide +kernel) ⟨Nat.le_of_ble_eq_true rfl, Nat.le_of_ble_eq_true rfl⟩) ⟨fun a U g mk q => by obtain ⟨q0, q1, qP, qK, qD⟩ := q; exact ⟨q0, q1, qP, va_K.moved (u := U) (U := U.calling g mk a) (Vm.Alike.refl U.vm) qK, qD⟩, va_recv hKc hPc (ci := 0) (q0 := 0) rfl rfl, fun U hU hW => ⟨rfl, by rw [hU], by rw [hU]; exact hPc, va_K.moved hW.alike hKc, hDc.weaken (fun _ _ _ _ => trivial)⟩⟩ rfl rfl hl.1 rfl (lv_room (Nat.le_of_ble_eq_true rfl)) dX0_free_1 ⟨Nat.zero_le _, Nat.zero_le _⟩) hS (fun q _ h => hFc q h) hFc (fun uu_ t H1 locs ht hvm hw hB hz1 hk1 hS => ?_)
  obtain ⟨hP1, -, hD1⟩ := hB
  rw [ht] at hP1
  obtain ⟨hP, hD⟩ := va_join (wr := []) (w1 := (wX0 cy h q2 q3 q4 q5 q6 q7 q8 q9 c0 c1 c2 c3 u1 c5 c6 c7 c8 c9 c10 c11)) hP hD [0, 1, 2, 3, 4, 5, 6, 7, 8] [] rfl rfl (by decide) (by decide) hk1 hFc hP1 hD1
  clear hk1 hz1 hP1 hD1 ht hPc hDc hFc
  generalize H1 = H at hP hS ⊢
  have hP : va_P (dC, dI) vwCl (wX0 cy h q2 q3 q4 q5 q6 q7 q8 q9 c0 c1 c2 c3 u1 c5 c6 c7 c8 c9 c10 c11) H := hP
  have hD : va_D A (wX0 cy h q2 q3 q4 q5 q6 q7 q8 q9 c0 c1 c2 c3 u1 c5 c6 c7 c8 c9 c10 c11) := hD
  refine lv_aload_n hx hb dX0_free_4 rfl (lv_at hl 0 rfl) ?_
  refine lv_iconst (v := (2 : Int32)) hx hb dX0_free_5 (by decide) ?_
  obtain ⟨u6, hu6, hf⟩ := z_ob_some hf
  have hPc := hP.sub (ws' := (wX0 cy h q2 q3 q4 q5 q6 q7 q8 q9 c0 c1 c2 c3 u1 c5 c6 c7 c8 c9 c10 c11)) [0, 1, 2, 3, 4, 5, 6, 7, 8] rfl
  have hDc := hD.sub (ws' := (wX0 cy h q2 q3 q4 q5 q6 q7 q8 q9 c0 c1 c2 c3 u1 c5 c6 c7 c8 c9 c10 c11)) [0, 1, 2, 3, 4, 5, 6, 7, 8] (by decide) rfl
  have hKc := hK.sub (tys' := [(cy, .int)]) [0] rfl
  have hFc := va_free (wc := (wX0 cy h q2 q3 q4 q5 q6 q7 q8 q9 c0 c1 c2 c3 u1 c5 c6 c7 c8 c9 c10 c11)) hD hS hA [0, 1, 2, 3, 4, 5, 6, 7, 8] rfl
  refine va_calli (va_runV (As := [.int (2 : Int32)]) (rest := []) ⟨hx, hb, hml, hown, hts⟩ (c_X0_countWays N l dC dI cy h q2 q3 q4 q5 q6 q7 q8 q9 H.size c0 c1 c2 c3 u1 c5 c6 c7 c8 c9 c10 c11 (2 : Int32) u6 hu6) (cwV 1 hts gX0_free_X0_countWays rfl rfl rfl (by decide +kernel) ⟨Nat.le_of_ble_eq_true rfl, Nat.le_of_ble_eq_true rfl⟩) ⟨fun a U g mk q => by obtain ⟨q0, q1, qP, qK, qD⟩ := q; exact ⟨q0, q1, qP, va_K.moved (u := U) (U := U.calling g mk a) (Vm.Alike.refl U.vm) qK, qD⟩, va_recv hKc hPc (ci := 0) (q0 := 0) rfl rfl, fun U hU hW => ⟨rfl, by rw [hU], by rw [hU]; exact hPc, va_K.moved hW.alike hKc, hDc.weaken (fun _ _ _ _ => trivial)⟩⟩ rfl rfl hl.1 rfl (lv_room (Nat.le_of_ble_eq_true rfl)) dX0_free_6 ⟨Nat.zero_le _, Nat.zero_le _⟩) hS (fun q _ h => hFc q h) hFc (fun r_6 uu_ t H1 locs ht hvm hw hB hz1 hk1 hS => ?_)
  replace hw := hw.symm
  subst hw
  obtain ⟨hP1, -, hD1⟩ := hB
  rw [ht] at hP1
  obtain ⟨hP, hD⟩ := va_join (wr := []) (w1 := (wX0 cy h q2 q3 q4 q5 q6 q7 q8 q9 c0 c1 c2 c3 u1 u6.2.1 u6.2.2.1 u6.2.2.2 c8 c9 c10 c11)) hP hD [0, 1, 2, 3, 4, 5, 6, 7, 8] [] rfl rfl (by decide) (by decide) hk1 hFc hP1 hD1
  clear hk1 hz1 hP1 hD1 ht hPc hDc hFc
  generalize H1 = H at hP hS ⊢
  have hP : va_P (dC, dI) vwCl (wX0 cy h q2 q3 q4 q5 q6 q7 q8 q9 c0 c1 c2 c3 u1 u6.2.1 u6.2.2.1 u6.2.2.2 c8 c9 c10 c11) H := hP
  have hD : va_D A (wX0 cy h q2 q3 q4 q5 q6 q7 q8 q9 c0 c1 c2 c3 u1 u6.2.1 u6.2.2.1 u6.2.2.2 c8 c9 c10 c11) := hD
  have hres := Option.some.inj hf
  subst hres
  have hP9 := hP.sub (ws' := (wX0 cy h q2 q3 q4 q5 q6 q7 q8 q9 c0 c1 c2 c3 u1 u6.2.1 u6.2.2.1 u6.2.2.2 c8 c9 c10 c11)) [0, 1, 2, 3, 4, 5, 6, 7, 8] rfl
  have hD9 := hD.sub (ws' := (wX0 cy h q2 q3 q4 q5 q6 q7 q8 q9 c0 c1 c2 c3 u1 u6.2.1 u6.2.2.1 u6.2.2.2 c8 c9 c10 c11)) [0, 1, 2, 3, 4, 5, 6, 7, 8] (by decide) rfl
  have hK9 := hK.sub (tys' := [(cy, .int)]) [0] rfl
  exact W.iret (v := u6.1) hx hb hr (fun t ht hW => ⟨⟨u6.1, (), rfl, rfl, by rw [ht]; exact hP9, va_K.moved hW.alike hK9, hD9⟩, hS.F ht⟩) hS.2.2 dX0_free_9

set_option maxRecDepth 20000 in
theorem ggX0_chooseGetter_X0_isOne : GoodIn wsX0_chooseGetter wsX0_isOne := goodIn_r _ [9, 1, 50, 51, 52, 53, 54, 55, 56, 57, 58, 59, 60, 61] (by decide +kernel) (by decide +kernel)
set_option maxRecDepth 20000 in
theorem gX0_chooseGetter_X0_isOne : GoodIn wsX0_chooseGetter (wsV RX0 66 RX0 yX0_isOne wsX0_isOne) := goodIn_app (goodIn_of _ (by decide +kernel)) ggX0_chooseGetter_X0_isOne
set_option maxRecDepth 20000 in
theorem ggX0_chooseGetter_X0_bit : GoodIn wsX0_chooseGetter wsX0_bit := goodIn_r _ [12] (by decide +kernel) (by decide +kernel)
set_option maxRecDepth 20000 in
theorem gX0_chooseGetter_X0_bit : GoodIn wsX0_chooseGetter (va_wsS RX0 50 yX0_bit wsX0_bit) := goodIn_app (goodIn_of _ (by decide +kernel)) ggX0_chooseGetter_X0_bit
set_option maxRecDepth 20000 in
theorem ggX0_chooseGetter_X0_countWays : GoodIn wsX0_chooseGetter wsX0_countWays := goodIn_r _ [16, 17, 18, 19, 20, 8, 21, 22, 1, 23, 24, 25, 26, 27, 28, 29, 30, 31, 10, 11, 12, 32, 33, 34, 35, 36, 37, 38, 2, 39, 40, 41, 42, 43, 44, 45, 46, 47, 48, 49, 50, 51, 52, 53, 54, 55, 56, 57, 58, 59, 60, 61] (by decide +kernel) (by decide +kernel)
set_option maxRecDepth 20000 in
theorem gX0_chooseGetter_X0_countWays : GoodIn wsX0_chooseGetter (wsV RX0 63 RX0 yX0_countWays wsX0_countWays) := goodIn_app (goodIn_of _ (by decide +kernel)) ggX0_chooseGetter_X0_countWays
theorem dX0_chooseGetter_0 : decode cX0_chooseGetter 0 = .ok (.aload_n 0, 1) := by decide +kernel
theorem dX0_chooseGetter_1 : decode cX0_chooseGetter 1 = .ok (.iload_n 1, 1) := by decide +kernel
theorem dX0_chooseGetter_2 : decode cX0_chooseGetter 2 = .ok (.invokevirtual 66, 3) := by decide +kernel
theorem dX0_chooseGetter_5 : decode cX0_chooseGetter 5 = .ok (.ifCond .ne 5, 3) := by decide +kernel
theorem dX0_chooseGetter_8 : decode cX0_chooseGetter 8 = .ok (.iconst (-1), 1) := by decide +kernel
theorem dX0_chooseGetter_9 : decode cX0_chooseGetter 9 = .ok (.ireturn, 1) := by decide +kernel
theorem dX0_chooseGetter_10 : decode cX0_chooseGetter 10 = .ok (.iconst 0, 1) := by decide +kernel
theorem dX0_chooseGetter_11 : decode cX0_chooseGetter 11 = .ok (.istore 4, 2) := by decide +kernel
theorem dX0_chooseGetter_13 : decode cX0_chooseGetter 13 = .ok (.iconst 0, 1) := by decide +kernel
theorem dX0_chooseGetter_14 : decode cX0_chooseGetter 14 = .ok (.istore 5, 2) := by decide +kernel
theorem dX0_chooseGetter_16 : decode cX0_chooseGetter 16 = .ok (.iload 5, 2) := by decide +kernel
theorem dX0_chooseGetter_18 : decode cX0_chooseGetter 18 = .ok (.aload_n 0, 1) := by decide +kernel
theorem dX0_chooseGetter_19 : decode cX0_chooseGetter 19 = .ok (.getfield 38, 3) := by decide +kernel
theorem dX0_chooseGetter_22 : decode cX0_chooseGetter 22 = .ok (.if_icmp .ge 74, 3) := by decide +kernel
theorem dX0_chooseGetter_25 : decode cX0_chooseGetter 25 = .ok (.aload_n 0, 1) := by decide +kernel
theorem dX0_chooseGetter_26 : decode cX0_chooseGetter 26 = .ok (.getfield 16, 3) := by decide +kernel
theorem dX0_chooseGetter_29 : decode cX0_chooseGetter 29 = .ok (.iload_n 1, 1) := by decide +kernel
theorem dX0_chooseGetter_30 : decode cX0_chooseGetter 30 = .ok (.iload_n 3, 1) := by decide +kernel
theorem dX0_chooseGetter_31 : decode cX0_chooseGetter 31 = .ok (.iload 5, 2) := by decide +kernel
theorem dX0_chooseGetter_33 : decode cX0_chooseGetter 33 = .ok (.invokestatic 50, 3) := by decide +kernel
theorem dX0_chooseGetter_36 : decode cX0_chooseGetter 36 = .ok (.iand, 1) := by decide +kernel
theorem dX0_chooseGetter_37 : decode cX0_chooseGetter 37 = .ok (.iastore, 1) := by decide +kernel
theorem dX0_chooseGetter_38 : decode cX0_chooseGetter 38 = .ok (.aload_n 0, 1) := by decide +kernel
theorem dX0_chooseGetter_39 : decode cX0_chooseGetter 39 = .ok (.getfield 16, 3) := by decide +kernel
theorem dX0_chooseGetter_42 : decode cX0_chooseGetter 42 = .ok (.iload_n 1, 1) := by decide +kernel
theorem dX0_chooseGetter_43 : decode cX0_chooseGetter 43 = .ok (.iaload, 1) := by decide +kernel
theorem dX0_chooseGetter_44 : decode cX0_chooseGetter 44 = .ok (.ifCond .ne 7, 3) := by decide +kernel
theorem dX0_chooseGetter_47 : decode cX0_chooseGetter 47 = .ok (.iconst 0, 1) := by decide +kernel
theorem dX0_chooseGetter_48 : decode cX0_chooseGetter 48 = .ok (.goto 11, 3) := by decide +kernel
theorem dX0_chooseGetter_51 : decode cX0_chooseGetter 51 = .ok (.aload_n 0, 1) := by decide +kernel
theorem dX0_chooseGetter_52 : decode cX0_chooseGetter 52 = .ok (.aload_n 0, 1) := by decide +kernel
theorem dX0_chooseGetter_53 : decode cX0_chooseGetter 53 = .ok (.getfield 57, 3) := by decide +kernel
theorem dX0_chooseGetter_56 : decode cX0_chooseGetter 56 = .ok (.invokevirtual 63, 3) := by decide +kernel
theorem dX0_chooseGetter_59 : decode cX0_chooseGetter 59 = .ok (.istore 6, 2) := by decide +kernel
theorem dX0_chooseGetter_61 : decode cX0_chooseGetter 61 = .ok (.iload_n 2, 1) := by decide +kernel
theorem dX0_chooseGetter_62 : decode cX0_chooseGetter 62 = .ok (.iload 4, 2) := by decide +kernel
theorem dX0_chooseGetter_64 : decode cX0_chooseGetter 64 = .ok (.isub, 1) := by decide +kernel
theorem dX0_chooseGetter_65 : decode cX0_chooseGetter 65 = .ok (.iload 6, 2) := by decide +kernel
theorem dX0_chooseGetter_67 : decode cX0_chooseGetter 67 = .ok (.if_icmp .ge 16, 3) := by decide +kernel
theorem dX0_chooseGetter_70 : decode cX0_chooseGetter 70 = .ok (.aload_n 0, 1) := by decide +kernel
theorem dX0_chooseGetter_71 : decode cX0_chooseGetter 71 = .ok (.getfield 28, 3) := by decide +kernel
theorem dX0_chooseGetter_74 : decode cX0_chooseGetter 74 = .ok (.iload_n 1, 1) := by decide +kernel
theorem dX0_chooseGetter_75 : decode cX0_chooseGetter 75 = .ok (.iload 5, 2) := by decide +kernel
theorem dX0_chooseGetter_77 : decode cX0_chooseGetter 77 = .ok (.iastore, 1) := by decide +kernel
theorem dX0_chooseGetter_78 : decode cX0_chooseGetter 78 = .ok (.iload_n 2, 1) := by decide +kernel
theorem dX0_chooseGetter_79 : decode cX0_chooseGetter 79 = .ok (.iload 4, 2) := by decide +kernel
theorem dX0_chooseGetter_81 : decode cX0_chooseGetter 81 = .ok (.isub, 1) := by decide +kernel
theorem dX0_chooseGetter_82 : decode cX0_chooseGetter 82 = .ok (.ireturn, 1) := by decide +kernel
theorem dX0_chooseGetter_83 : decode cX0_chooseGetter 83 = .ok (.iload 4, 2) := by decide +kernel
theorem dX0_chooseGetter_85 : decode cX0_chooseGetter 85 = .ok (.iload 6, 2) := by decide +kernel
theorem dX0_chooseGetter_87 : decode cX0_chooseGetter 87 = .ok (.iadd, 1) := by decide +kernel
theorem dX0_chooseGetter_88 : decode cX0_chooseGetter 88 = .ok (.istore 4, 2) := by decide +kernel
theorem dX0_chooseGetter_90 : decode cX0_chooseGetter 90 = .ok (.iinc 5 1, 3) := by decide +kernel
theorem dX0_chooseGetter_93 : decode cX0_chooseGetter 93 = .ok (.goto (-77), 3) := by decide +kernel
theorem dX0_chooseGetter_96 : decode cX0_chooseGetter 96 = .ok (.iconst (-1), 1) := by decide +kernel
theorem dX0_chooseGetter_97 : decode cX0_chooseGetter 97 = .ok (.ireturn, 1) := by decide +kernel
abbrev rm_X0_chooseGetter : Room := { frames := 4, cells := 0, slots := 0, locals := 96 }
set_option maxHeartbeats 4000000 in
set_option maxRecDepth 100000 in
theorem c_X0_chooseGetter (N : Nat) (l : Launch) (dC : Nat → ClassId) (dI : Nat → Nat → Nat) (cy : ClassId) (h q2 q3 q4 q5 q6 q7 q8 q9 : Nat) (sz : Nat) (c0 : Int32) (c1 : Int32) (c2 : Nat → Int32) (c3 : Nat → Int32) (c4 : Nat → Int32) (c5 : Nat → Int32) (c6 : Nat → Int32) (c7 : Nat → Int32) (c8 : Nat → Int32) (c9 : Nat → Int32) (c10 : Int32) (c11 : Int32) (a1 a2 a3 : Int32) (res : Int32 × (Nat → Int32) × (Nat → Int32) × (Nat → Int32) × (Nat → Int32) × (Nat → Int32)) (hf : f_X0_chooseGetter N a1 a2 a3 c0 c1 c4 c5 c6 c7 c8 = some res) : Met l yX0_chooseGetter wsX0_chooseGetter rm_X0_chooseGetter (va_Pc [.ref h, .int a1, .int a2, .int a3] (fun U => U.heap.size = sz ∧ va_P (dC, dI) vwCl (wX0 cy h q2 q3 q4 q5 q6 q7 q8 q9 c0 c1 c2 c3 c4 c5 c6 c7 c8 c9 c10 c11) U.heap ∧ va_K (dC, dI) vwCl [(cy, .int)] U ∧ va_D (fun _ => True) (wX0 cy h q2 q3 q4 q5 q6 q7 q8 q9 c0 c1 c2 c3 c4 c5 c6 c7 c8 c9 c10 c11))) (z_qI dC dI cy res.1 (wX0 cy h q2 q3 q4 q5 q6 q7 q8 q9 c0 c1 c2 c3 res.2.1 res.2.2.1 res.2.2.2.1 res.2.2.2.2.1 res.2.2.2.2.2 c9 c10 c11) (va_A (wX0 cy h q2 q3 q4 q5 q6 q7 q8 q9 c0 c1 c2 c3 c4 c5 c6 c7 c8 c9 c10 c11) sz)) 0 0 (va_A (wX0 cy h q2 q3 q4 q5 q6 q7 q8 q9 c0 c1 c2 c3 c4 c5 c6 c7 c8 c9 c10 c11) sz) := by
  refine Met.ofW (cc := cX0_chooseGetter) (maxL := 7) (ret := (some .int)) (by decide) rfl ?_
  intro p e s m args below meth c s₁ B hml hv
  obtain ⟨rfl, hsz, hP, hK, hD0⟩ := hv
  have hx := B.exec
  have hb := B.bytes
  have hr := B.returns
  have hts := atoms_spec (ws := wsX0_chooseGetter) B.pre
  have hown : s.vm.findClass RX0 = some m.cls := findClass_of_methodNamed B.named
  have hlocks := B.notSynchronized
  subst hsz
  have hD := hD0.self (sz := s.heap.size)
  generalize hAe : va_A (wX0 cy h q2 q3 q4 q5 q6 q7 q8 q9 c0 c1 c2 c3 c4 c5 c6 c7 c8 c9 c10 c11) s.heap.size = A at hD ⊢
  have hA : ∀ q : Nat, s.heap.size ≤ q → A q := fun q h => by rw [← hAe]; exact Or.inr h
  have hS : va_S A s.heap s.heap [] := va_S.rf
  have hP : va_P (dC, dI) vwCl (wX0 cy h q2 q3 q4 q5 q6 q7 q8 q9 c0 c1 c2 c3 c4 c5 c6 c7 c8 c9 c10 c11) s.heap := hP
  have hl := lv_entry ([.ref h, .int a1, .int a2, .int a3]) (n := 7) (Nat.le_of_ble_eq_true rfl)
  rw [lg_entry_eq]
  generalize (lg_sl ([.ref h, .int a1, .int a2, .int a3]) ++ List.replicate (7 - (lg_sl ([.ref h, .int a1, .int a2, .int a3])).length) Slot.unset).toArray = ls at hl ⊢
  have hl : lv_has ls 7 [(0, .ref h), (1, .int a1), (2, .int a2), (3, .int a3)] := hl
  have B59 : ∀ (r16 : Int32 → Int32 → Int32 → Int32 → Int32 → (Nat → Int32) → (Nat → Int32) → (Nat → Int32) → (Nat → Int32) → (Nat → Int32) → Option (Int32 × (Nat → Int32) × (Nat → Int32) × (Nat → Int32) × (Nat → Int32) × (Nat → Int32))), (∀ (x1 x2 x3 x4 x5 : Int32) (c4 : Nat → Int32) (c5 : Nat → Int32) (c6 : Nat → Int32) (c7 : Nat → Int32) (c8 : Nat → Int32) (H : Heap) (locs : List Loc) (ls : Array Slot), r16 x1 x2 x3 x4 x5 c4 c5 c6 c7 c8 = some res → va_P (dC, dI) vwCl (wX0 cy h q2 q3 q4 q5 q6 q7 q8 q9 c0 c1 c2 c3 c4 c5 c6 c7 c8 c9 c10 c11) H → va_D A (wX0 cy h q2 q3 q4 q5 q6 q7 q8 q9 c0 c1 c2 c3 c4 c5 c6 c7 c8 c9 c10 c11) → va_S A s.heap H locs → lv_has ls 7 [(0, .ref h), (1, .int x1), (2, .int x2), (3, .int x3), (4, .int x4), (5, .int x5)] → W p l e rm_X0_chooseGetter s m ([.ref h, .int a1, .int a2, .int a3] : List Value).toArray below meth c H locs 0 0 (MQ below (z_qI dC dI cy res.1 (wX0 cy h q2 q3 q4 q5 q6 q7 q8 q9 c0 c1 c2 c3 res.2.1 res.2.2.1 res.2.2.2.1 res.2.2.2.2.1 res.2.2.2.2.2 c9 c10 c11) A) ([.ref h, .int a1, .int a2, .int a3] : List Value).toArray s 0 0 A) (F0 m 16 ls [])) → ∀ (x1 x2 x3 x4 x5 t0 : Int32) (c4 : Nat → Int32) (c5 : Nat → Int32) (c6 : Nat → Int32) (c7 : Nat → Int32) (c8 : Nat → Int32) (H : Heap) (locs : List Loc) (ls : Array Slot), f_X0_chooseGetter_b59 N c0 c1 r16 x1 x2 x3 x4 x5 t0 c4 c5 c6 c7 c8 = some res → va_P (dC, dI) vwCl (wX0 cy h q2 q3 q4 q5 q6 q7 q8 q9 c0 c1 c2 c3 c4 c5 c6 c7 c8 c9 c10 c11) H → va_D A (wX0 cy h q2 q3 q4 q5 q6 q7 q8 q9 c0 c1 c2 c3 c4 c5 c6 c7 c8 c9 c10 c11) → va_S A s.heap H locs → lv_has ls 7 [(0, .ref h), (1, .int x1), (2, .int x2), (3, .int x3), (4, .int x4), (5, .int x5)] → W p l e rm_X0_chooseGetter s m ([.ref h, .int a1, .int a2, .int a3] : List Value).toArray below meth c H locs 0 0 (MQ below (z_qI dC dI cy res.1 (wX0 cy h q2 q3 q4 q5 q6 q7 q8 q9 c0 c1 c2 c3 res.2.1 res.2.2.1 res.2.2.2.1 res.2.2.2.2.1 res.2.2.2.2.2 c9 c10 c11) A) ([.ref h, .int a1, .int a2, .int a3] : List Value).toArray s 0 0 A) (F0 m 59 ls [.int t0]) := by
    clear hf hl hP hD hS
    intro r16 hr16
    intro x1 x2 x3 x4 x5 t0 c4 c5 c6 c7 c8 H locs ls hf hP hD hS hl
    unfold f_X0_chooseGetter_b59 at hf
    refine lv_istore (lv' := [(6, .int t0), (0, .ref h), (1, .int x1), (2, .int x2), (3, .int x3), (4, .int x4), (5, .int x5)]) hx hb dX0_chooseGetter_59 hl (by decide) rfl (fun ls hl => ?_)
    refine lv_iload_n hx hb dX0_chooseGetter_61 rfl (lv_at hl 3 rfl) ?_
    refine lv_iload hx hb dX0_chooseGetter_62 (lv_at hl 5 rfl) ?_
    refine lv_isub hx hb dX0_chooseGetter_64 ?_
    refine lv_iload hx hb dX0_chooseGetter_65 (lv_at hl 0 rfl) ?_
    refine lv_icmp_ge (tgt := 83) hx hb dX0_chooseGetter_67 (by decide) (fun c_67 => ?_) (fun c_67 => ?_)
    · replace hf := (if_pos c_67).symm.trans hf
      refine lv_iload hx hb dX0_chooseGetter_83 (lv_at hl 5 rfl) ?_
      refine lv_iload hx hb dX0_chooseGetter_85 (lv_at hl 0 rfl) ?_
      refine lv_iadd hx hb dX0_chooseGetter_87 ?_
      refine lv_istore (lv' := [(4, .int (x4 + t0)), (6, .int t0), (0, .ref h), (1, .int x1), (2, .int x2), (3, .int x3), (5, .int x5)]) hx hb dX0_chooseGetter_88 hl (by decide) rfl (fun ls hl => ?_)
      refine lv_iinc (v := x5 + (1 : Int32)) (lv' := [(5, .int (x5 + (1 : Int32))), (4, .int (x4 + t0)), (6, .int t0), (0, .ref h), (1, .int x1), (2, .int x2), (3, .int x3)]) hx hb dX0_chooseGetter_90 hl (k := 6) rfl rfl (by decide) rfl (fun ls hl => ?_)
      refine lv_goto (tgt := 16) hx hb dX0_chooseGetter_93 (by decide) ?_
      exact hr16 x1 x2 x3 (x4 + t0) (x5 + (1 : Int32)) c4 c5 c6 c7 c8 _ _ _ hf hP hD hS (lv_sub hl [3, 4, 5, 6, 1, 0] rfl)
    · replace hf := (if_neg c_67).symm.trans hf
      refine lv_aload_n hx hb dX0_chooseGetter_70 rfl (lv_at hl 1 rfl) ?_
      refine va_get (D := (dC, dI)) (ci := 0) (v := .ref q8) (C := RX0) (T := TX0) (N := 12) hx hb hts (by decide +kernel) hown hK hP 0 rfl rfl 8 (by decide) (hts (.fieldLink RX0 28 "GiftLots" "trial" "[I") (by decide +kernel)) (fun _ h9 => h9) rfl dX0_chooseGetter_71 ?_
      refine lv_iload_n hx hb dX0_chooseGetter_74 rfl (lv_at hl 2 rfl) ?_
      refine lv_iload hx hb dX0_chooseGetter_75 (lv_at hl 6 rfl) ?_
      obtain ⟨hi77, hf⟩ := z_gx_some hf
      refine va_iast hx hb hK hP hD hS 7 0 rfl rfl hi77 dX0_chooseGetter_77 (fun H locs hP hD hS => ?_)
      have hP : va_P (dC, dI) vwCl (wX0 cy h q2 q3 q4 q5 q6 q7 q8 q9 c0 c1 c2 c3 c4 c5 c6 c7 (upd c8 (x1).toNatClampNeg x5) c9 c10 c11) H := hP
      have hD : va_D A (wX0 cy h q2 q3 q4 q5 q6 q7 q8 q9 c0 c1 c2 c3 c4 c5 c6 c7 (upd c8 (x1).toNatClampNeg x5) c9 c10 c11) := hD
      refine lv_iload_n hx hb dX0_chooseGetter_78 rfl (lv_at hl 3 rfl) ?_
      refine lv_iload hx hb dX0_chooseGetter_79 (lv_at hl 5 rfl) ?_
      refine lv_isub hx hb dX0_chooseGetter_81 ?_
      have hres := Option.some.inj hf
      subst hres
      have hP9 := hP.sub (ws' := (wX0 cy h q2 q3 q4 q5 q6 q7 q8 q9 c0 c1 c2 c3 c4 c5 c6 c7 (upd c8 (x1).toNatClampNeg x5) c9 c10 c11)) [0, 1, 2, 3, 4, 5, 6, 7, 8] rfl
      have hD9 := hD.sub (ws' := (wX0 cy h q2 q3 q4 q5 q6 q7 q8 q9 c0 c1 c2 c3 c4 c5 c6 c7 (upd c8 (x1).toNatClampNeg x5) c9 c10 c11)) [0, 1, 2, 3, 4, 5, 6, 7, 8] (by decide) rfl
      have hK9 := hK.sub (tys' := [(cy, .int)]) [0] rfl
      exact W.iret (v := x2 - x4) hx hb hr (fun t ht hW => ⟨⟨x2 - x4, (), rfl, rfl, by rw [ht]; exact hP9, va_K.moved hW.alike hK9, hD9⟩, hS.F ht⟩) hS.2.2 dX0_chooseGetter_82
  have B16 : ∀ n : Nat, ∀ (x1 x2 x3 x4 x5 : Int32) (c4 : Nat → Int32) (c5 : Nat → Int32) (c6 : Nat → Int32) (c7 : Nat → Int32) (c8 : Nat → Int32) (H : Heap) (locs : List Loc) (ls : Array Slot), f_X0_chooseGetter_b16 N c0 c1 n x1 x2 x3 x4 x5 c4 c5 c6 c7 c8 = some res → va_P (dC, dI) vwCl (wX0 cy h q2 q3 q4 q5 q6 q7 q8 q9 c0 c1 c2 c3 c4 c5 c6 c7 c8 c9 c10 c11) H → va_D A (wX0 cy h q2 q3 q4 q5 q6 q7 q8 q9 c0 c1 c2 c3 c4 c5 c6 c7 c8 c9 c10 c11) → va_S A s.heap H locs → lv_has ls 7 [(0, .ref h), (1, .int x1), (2, .int x2), (3, .int x3), (4, .int x4), (5, .int x5)] → W p l e rm_X0_chooseGetter s m ([.ref h, .int a1, .int a2, .int a3] : List Value).toArray below meth c H locs 0 0 (MQ below (z_qI dC dI cy res.1 (wX0 cy h q2 q3 q4 q5 q6 q7 q8 q9 c0 c1 c2 c3 res.2.1 res.2.2.1 res.2.2.2.1 res.2.2.2.2.1 res.2.2.2.2.2 c9 c10 c11) A) ([.ref h, .int a1, .int a2, .int a3] : List Value).toArray s 0 0 A) (F0 m 16 ls []) := by
    clear hf hl hP hD hS
    intro n
    induction n with
    | zero =>
      intro x1 x2 x3 x4 x5 c4 c5 c6 c7 c8 H locs ls hf hP hD hS hl
      rw [f_X0_chooseGetter_b16] at hf
      cases hf
    | succ n ih =>
      intro x1 x2 x3 x4 x5 c4 c5 c6 c7 c8 H locs ls hf hP hD hS hl
      rw [f_X0_chooseGetter_b16] at hf
      refine lv_iload hx hb dX0_chooseGetter_16 (lv_at hl 5 rfl) ?_
      refine lv_aload_n hx hb dX0_chooseGetter_18 rfl (lv_at hl 0 rfl) ?_
      refine va_get (D := (dC, dI)) (ci := 0) (v := .int c0) (C := RX0) (T := TX0) (N := 12) hx hb hts (by decide +kernel) hown hK hP 0 rfl rfl 0 (by decide) (hts (.fieldLink RX0 38 "GiftLots" "count" "I") (by decide +kernel)) (fun _ h9 => h9) rfl dX0_chooseGetter_19 ?_
      refine lv_icmp_ge (tgt := 96) hx hb dX0_chooseGetter_22 (by decide) (fun c_22 => ?_) (fun c_22 => ?_)
      · replace hf := (if_pos c_22).symm.trans hf
        refine lv_iconst (v := (-1 : Int32)) hx hb dX0_chooseGetter_96 (by decide) ?_
        have hres := Option.some.inj hf
        subst hres
        have hP9 := hP.sub (ws' := (wX0 cy h q2 q3 q4 q5 q6 q7 q8 q9 c0 c1 c2 c3 c4 c5 c6 c7 c8 c9 c10 c11)) [0, 1, 2, 3, 4, 5, 6, 7, 8] rfl
        have hD9 := hD.sub (ws' := (wX0 cy h q2 q3 q4 q5 q6 q7 q8 q9 c0 c1 c2 c3 c4 c5 c6 c7 c8 c9 c10 c11)) [0, 1, 2, 3, 4, 5, 6, 7, 8] (by decide) rfl
        have hK9 := hK.sub (tys' := [(cy, .int)]) [0] rfl
        exact W.iret (v := (-1 : Int32)) hx hb hr (fun t ht hW => ⟨⟨(-1 : Int32), (), rfl, rfl, by rw [ht]; exact hP9, va_K.moved hW.alike hK9, hD9⟩, hS.F ht⟩) hS.2.2 dX0_chooseGetter_97
      · replace hf := (if_neg c_22).symm.trans hf
        refine lv_aload_n hx hb dX0_chooseGetter_25 rfl (lv_at hl 0 rfl) ?_
        refine va_get (D := (dC, dI)) (ci := 0) (v := .ref q4) (C := RX0) (T := TX0) (N := 12) hx hb hts (by decide +kernel) hown hK hP 0 rfl rfl 4 (by decide) (hts (.fieldLink RX0 16 "GiftLots" "rows" "[I") (by decide +kernel)) (fun _ h9 => h9) rfl dX0_chooseGetter_26 ?_
        refine lv_iload_n hx hb dX0_chooseGetter_29 rfl (lv_at hl 1 rfl) ?_
        refine lv_iload_n hx hb dX0_chooseGetter_30 rfl (lv_at hl 3 rfl) ?_
        refine lv_iload hx hb dX0_chooseGetter_31 (lv_at hl 5 rfl) ?_
        obtain ⟨u33, hu33, hf⟩ := z_ob_some hf
        have hPc := hP.sub (ws' := ([] : va_W)) [] rfl
        have hDc := hD.sub (ws' := ([] : va_W)) [] (by decide) rfl
        have hKc := hK.sub (tys' := [(cy, .int)]) [0] rfl
        have hFc := va_free (wc := ([] : va_W)) hD hS hA [] rfl
        refine va_calli (va_runS (As := [.int x5]) (rest := [.int x3, .int x1, .ref q4]) ⟨hx, hb, hml, hown, hts⟩ (c_X0_bit N l dC dI cy H.size x5 u33 hu33) (va_cwS 1 hts gX0_chooseGetter_X0_bit rfl rfl rfl (by decide +kernel) ⟨Nat.le_of_ble_eq_true rfl, Nat.le_of_ble_eq_true rfl⟩) ⟨fun a U g mk q => by obtain ⟨q0, q1, qP, qK, qD⟩ := q; exact ⟨q0, q1, qP, va_K.moved (u := U) (U := U.calling g mk a) (Vm.Alike.refl U.vm) qK, qD⟩, fun U hU hW => ⟨rfl, by rw [hU], by rw [hU]; exact hPc, va_K.moved hW.alike hKc, hDc.weaken (fun _ _ _ _ => trivial)⟩⟩ rfl rfl hl.1 rfl (lv_room (Nat.le_of_ble_eq_true rfl)) dX0_chooseGetter_33 ⟨Nat.zero_le _, Nat.zero_le _⟩) hS (fun q _ h => hFc q h) hFc (fun r_33 uu_ t H1 locs ht hvm hw hB hz1 hk1 hS => ?_)
        replace hw := hw.symm
        subst hw
        obtain ⟨hP1, -, hD1⟩ := hB
        rw [ht] at hP1
        obtain ⟨hP, hD⟩ := va_join (wr := (wX0 cy h q2 q3 q4 q5 q6 q7 q8 q9 c0 c1 c2 c3 c4 c5 c6 c7 c8 c9 c10 c11)) (w1 := ([] : va_W)) hP hD [] [0, 1, 2, 3, 4, 5, 6, 7, 8] rfl rfl (by decide) (by decide) hk1 hFc hP1 hD1
        clear hk1 hz1 hP1 hD1 ht hPc hDc hFc
        generalize H1 = H at hP hS ⊢
        have hP : va_P (dC, dI) vwCl (wX0 cy h q2 q3 q4 q5 q6 q7 q8 q9 c0 c1 c2 c3 c4 c5 c6 c7 c8 c9 c10 c11) H := hP
        have hD : va_D A (wX0 cy h q2 q3 q4 q5 q6 q7 q8 q9 c0 c1 c2 c3 c4 c5 c6 c7 c8 c9 c10 c11) := hD
        refine lv_iand hx hb dX0_chooseGetter_36 ?_
        obtain ⟨hi37, hf⟩ := z_gx_some hf
        refine va_iast hx hb hK hP hD hS 3 0 rfl rfl hi37 dX0_chooseGetter_37 (fun H locs hP hD hS => ?_)
        have hP : va_P (dC, dI) vwCl (wX0 cy h q2 q3 q4 q5 q6 q7 q8 q9 c0 c1 c2 c3 (upd c4 (x1).toNatClampNeg (x3 &&& u33)) c5 c6 c7 c8 c9 c10 c11) H := hP
        have hD : va_D A (wX0 cy h q2 q3 q4 q5 q6 q7 q8 q9 c0 c1 c2 c3 (upd c4 (x1).toNatClampNeg (x3 &&& u33)) c5 c6 c7 c8 c9 c10 c11) := hD
        refine lv_aload_n hx hb dX0_chooseGetter_38 rfl (lv_at hl 0 rfl) ?_
        refine va_get (D := (dC, dI)) (ci := 0) (v := .ref q4) (C := RX0) (T := TX0) (N := 12) hx hb hts (by decide +kernel) hown hK hP 0 rfl rfl 4 (by decide) (hts (.fieldLink RX0 16 "GiftLots" "rows" "[I") (by decide +kernel)) (fun _ h9 => h9) rfl dX0_chooseGetter_39 ?_
        refine lv_iload_n hx hb dX0_chooseGetter_42 rfl (lv_at hl 1 rfl) ?_
        obtain ⟨hi43, hf⟩ := z_gx_some hf
        refine va_iald hx hb hK hP 3 0 rfl rfl hi43 dX0_chooseGetter_43 ?_
        refine lv_if_ne (tgt := 51) hx hb dX0_chooseGetter_44 (by decide) (fun c_44 => ?_) (fun c_44 => ?_)
        · replace hf := (if_neg c_44).symm.trans hf
          refine lv_aload_n hx hb dX0_chooseGetter_51 rfl (lv_at hl 0 rfl) ?_
          refine lv_aload_n hx hb dX0_chooseGetter_52 rfl (lv_at hl 0 rfl) ?_
          refine va_get (D := (dC, dI)) (ci := 0) (v := .int c1) (C := RX0) (T := TX0) (N := 12) hx hb hts (by decide +kernel) hown hK hP 0 rfl rfl 1 (by decide) (hts (.fieldLink RX0 57 "GiftLots" "shortest" "I") (by decide +kernel)) (fun _ h9 => h9) rfl dX0_chooseGetter_53 ?_
          obtain ⟨u56, hu56, hf⟩ := z_ob_some hf
          have hPc := hP.sub (ws' := (wX0 cy h q2 q3 q4 q5 q6 q7 q8 q9 c0 c1 c2 c3 (upd c4 (x1).toNatClampNeg (x3 &&& u33)) c5 c6 c7 c8 c9 c10 c11)) [0, 1, 2, 3, 4, 5, 6, 7, 8] rfl
          have hDc := hD.sub (ws' := (wX0 cy h q2 q3 q4 q5 q6 q7 q8 q9 c0 c1 c2 c3 (upd c4 (x1).toNatClampNeg (x3 &&& u33)) c5 c6 c7 c8 c9 c10 c11)) [0, 1, 2, 3, 4, 5, 6, 7, 8] (by decide) rfl
          have hKc := hK.sub (tys' := [(cy, .int)]) [0] rfl
          have hFc := va_free (wc := (wX0 cy h q2 q3 q4 q5 q6 q7 q8 q9 c0 c1 c2 c3 (upd c4 (x1).toNatClampNeg (x3 &&& u33)) c5 c6 c7 c8 c9 c10 c11)) hD hS hA [0, 1, 2, 3, 4, 5, 6, 7, 8] rfl
          refine va_calli (va_runV (As := [.int c1]) (rest := []) ⟨hx, hb, hml, hown, hts⟩ (c_X0_countWays N l dC dI cy h q2 q3 q4 q5 q6 q7 q8 q9 H.size c0 c1 c2 c3 (upd c4 (x1).toNatClampNeg (x3 &&& u33)) c5 c6 c7 c8 c9 c10 c11 c1 u56 hu56) (cwV 1 hts gX0_chooseGetter_X0_countWays rfl rfl rfl (by decide +kernel) ⟨Nat.le_of_ble_eq_true rfl, Nat.le_of_ble_eq_true rfl⟩) ⟨fun a U g mk q => by obtain ⟨q0, q1, qP, qK, qD⟩ := q; exact ⟨q0, q1, qP, va_K.moved (u := U) (U := U.calling g mk a) (Vm.Alike.refl U.vm) qK, qD⟩, va_recv hKc hPc (ci := 0) (q0 := 0) rfl rfl, fun U hU hW => ⟨rfl, by rw [hU], by rw [hU]; exact hPc, va_K.moved hW.alike hKc, hDc.weaken (fun _ _ _ _ => trivial)⟩⟩ rfl rfl hl.1 rfl (lv_room (Nat.le_of_ble_eq_true rfl)) dX0_chooseGetter_56 ⟨Nat.zero_le _, Nat.zero_le _⟩) hS (fun q _ h => hFc q h) hFc (fun r_56 uu_ t H1 locs ht hvm hw hB hz1 hk1 hS => ?_)
          replace hw := hw.symm
          subst hw
          obtain ⟨hP1, -, hD1⟩ := hB
          rw [ht] at hP1
          obtain ⟨hP, hD⟩ := va_join (wr := []) (w1 := (wX0 cy h q2 q3 q4 q5 q6 q7 q8 q9 c0 c1 c2 c3 (upd c4 (x1).toNatClampNeg (x3 &&& u33)) u56.2.1 u56.2.2.1 u56.2.2.2 c8 c9 c10 c11)) hP hD [0, 1, 2, 3, 4, 5, 6, 7, 8] [] rfl rfl (by decide) (by decide) hk1 hFc hP1 hD1
          clear hk1 hz1 hP1 hD1 ht hPc hDc hFc
          generalize H1 = H at hP hS ⊢
          have hP : va_P (dC, dI) vwCl (wX0 cy h q2 q3 q4 q5 q6 q7 q8 q9 c0 c1 c2 c3 (upd c4 (x1).toNatClampNeg (x3 &&& u33)) u56.2.1 u56.2.2.1 u56.2.2.2 c8 c9 c10 c11) H := hP
          have hD : va_D A (wX0 cy h q2 q3 q4 q5 q6 q7 q8 q9 c0 c1 c2 c3 (upd c4 (x1).toNatClampNeg (x3 &&& u33)) u56.2.1 u56.2.2.1 u56.2.2.2 c8 c9 c10 c11) := hD
          exact B59 (f_X0_chooseGetter_b16 N c0 c1 n) ih x1 x2 x3 x4 x5 u56.1 (upd c4 (x1).toNatClampNeg (x3 &&& u33)) u56.2.1 u56.2.2.1 u56.2.2.2 c8 _ _ _ hf hP hD hS (lv_sub hl [0, 1, 2, 3, 4, 5] rfl)
        · replace hf := (if_pos c_44).symm.trans hf
          refine lv_iconst (v := (0 : Int32)) hx hb dX0_chooseGetter_47 (by decide) ?_
          refine lv_goto (tgt := 59) hx hb dX0_chooseGetter_48 (by decide) ?_
          exact B59 (f_X0_chooseGetter_b16 N c0 c1 n) ih x1 x2 x3 x4 x5 (0 : Int32) (upd c4 (x1).toNatClampNeg (x3 &&& u33)) c5 c6 c7 c8 _ _ _ hf hP hD hS (lv_sub hl [0, 1, 2, 3, 4, 5] rfl)
  unfold f_X0_chooseGetter at hf
  refine lv_aload_n hx hb dX0_chooseGetter_0 rfl (lv_at hl 0 rfl) ?_
  refine lv_iload_n hx hb dX0_chooseGetter_1 rfl (lv_at hl 1 rfl) ?_
  obtain ⟨u2, hu2, hf⟩ := z_ob_some hf
  have hPc := hP.sub (ws' := (wX0 cy h q2 q3 q4 q5 q6 q7 q8 q9 c0 c1 c2 c3 c4 c5 c6 c7 c8 c9 c10 c11)) [0, 1, 2, 3, 4, 5, 6, 7, 8] rfl
  have hDc := hD.sub (ws' := (wX0 cy h q2 q3 q4 q5 q6 q7 q8 q9 c0 c1 c2 c3 c4 c5 c6 c7 c8 c9 c10 c11)) [0, 1, 2, 3, 4, 5, 6, 7, 8] (by decide) rfl
  have hKc := hK.sub (tys' := [(cy, .int)]) [0] rfl
  have hFc := va_free (wc := (wX0 cy h q2 q3 q4 q5 q6 q7 q8 q9 c0 c1 c2 c3 c4 c5 c6 c7 c8 c9 c10 c11)) hD hS hA [0, 1, 2, 3, 4, 5, 6, 7, 8] rfl
  refine va_calli (va_runV (As := [.int a1]) (rest := []) ⟨hx, hb, hml, hown, hts⟩ (c_X0_isOne N l dC dI cy h q2 q3 q4 q5 q6 q7 q8 q9 s.heap.size c0 c1 c2 c3 c4 c5 c6 c7 c8 c9 c10 c11 a1 u2 hu2) (cwV 1 hts gX0_chooseGetter_X0_isOne rfl rfl rfl (by decide +kernel) ⟨Nat.le_of_ble_eq_true rfl, Nat.le_of_ble_eq_true rfl⟩) ⟨fun a U g mk q => by obtain ⟨q0, q1, qP, qK, qD⟩ := q; exact ⟨q0, q1, qP, va_K.moved (u := U) (U := U.calling g mk a) (Vm.Alike.refl U.vm) qK, qD⟩, va_recv hKc hPc (ci := 0) (q0 := 0) rfl rfl, fun U hU hW => ⟨rfl, by rw [hU], by rw [hU]; exact hPc, va_K.moved hW.alike hKc, hDc.weaken (fun _ _ _ _ => trivial)⟩⟩ rfl rfl hl.1 rfl (lv_room (Nat.le_of_ble_eq_true rfl)) dX0_chooseGetter_2 ⟨Nat.zero_le _, Nat.zero_le _⟩) hS (fun q _ h => hFc q h) hFc (fun r_2 uu_ t H1 locs ht hvm hw hB hz1 hk1 hS => ?_)
  replace hw := hw.symm
  subst hw
  obtain ⟨hP1, -, hD1⟩ := hB
  rw [ht] at hP1
  obtain ⟨hP, hD⟩ := va_join (wr := []) (w1 := (wX0 cy h q2 q3 q4 q5 q6 q7 q8 q9 c0 c1 c2 c3 c4 c5 c6 c7 c8 c9 c10 c11)) hP hD [0, 1, 2, 3, 4, 5, 6, 7, 8] [] rfl rfl (by decide) (by decide) hk1 hFc hP1 hD1
  clear hk1 hz1 hP1 hD1 ht hPc hDc hFc
  generalize H1 = H at hP hS ⊢
  have hP : va_P (dC, dI) vwCl (wX0 cy h q2 q3 q4 q5 q6 q7 q8 q9 c0 c1 c2 c3 c4 c5 c6 c7 c8 c9 c10 c11) H := hP
  have hD : va_D A (wX0 cy h q2 q3 q4 q5 q6 q7 q8 q9 c0 c1 c2 c3 c4 c5 c6 c7 c8 c9 c10 c11) := hD
  refine lv_if_ne (tgt := 10) hx hb dX0_chooseGetter_5 (by decide) (fun c_5 => ?_) (fun c_5 => ?_)
  · replace hf := (if_neg c_5).symm.trans hf
    refine lv_iconst (v := (0 : Int32)) hx hb dX0_chooseGetter_10 (by decide) ?_
    refine lv_istore (lv' := [(4, .int (0 : Int32)), (0, .ref h), (1, .int a1), (2, .int a2), (3, .int a3)]) hx hb dX0_chooseGetter_11 hl (by decide) rfl (fun ls hl => ?_)
    refine lv_iconst (v := (0 : Int32)) hx hb dX0_chooseGetter_13 (by decide) ?_
    refine lv_istore (lv' := [(5, .int (0 : Int32)), (4, .int (0 : Int32)), (0, .ref h), (1, .int a1), (2, .int a2), (3, .int a3)]) hx hb dX0_chooseGetter_14 hl (by decide) rfl (fun ls hl => ?_)
    exact B16 N a1 a2 a3 (0 : Int32) (0 : Int32) c4 c5 c6 c7 c8 _ _ _ hf hP hD hS (lv_sub hl [2, 3, 4, 5, 1, 0] rfl)
  · replace hf := (if_pos c_5).symm.trans hf
    refine lv_iconst (v := (-1 : Int32)) hx hb dX0_chooseGetter_8 (by decide) ?_
    have hres := Option.some.inj hf
    subst hres
    have hP9 := hP.sub (ws' := (wX0 cy h q2 q3 q4 q5 q6 q7 q8 q9 c0 c1 c2 c3 c4 c5 c6 c7 c8 c9 c10 c11)) [0, 1, 2, 3, 4, 5, 6, 7, 8] rfl
    have hD9 := hD.sub (ws' := (wX0 cy h q2 q3 q4 q5 q6 q7 q8 q9 c0 c1 c2 c3 c4 c5 c6 c7 c8 c9 c10 c11)) [0, 1, 2, 3, 4, 5, 6, 7, 8] (by decide) rfl
    have hK9 := hK.sub (tys' := [(cy, .int)]) [0] rfl
    exact W.iret (v := (-1 : Int32)) hx hb hr (fun t ht hW => ⟨⟨(-1 : Int32), (), rfl, rfl, by rw [ht]; exact hP9, va_K.moved hW.alike hK9, hD9⟩, hS.F ht⟩) hS.2.2 dX0_chooseGetter_9

set_option maxRecDepth 20000 in
theorem ggX0_findWay_X0_openRows : GoodIn wsX0_findWay wsX0_openRows := goodIn_r _ [8, 9, 2, 10, 11, 12, 13, 63, 64, 65, 66, 67, 68, 69, 70, 71, 72, 73, 74] (by decide +kernel) (by decide +kernel)
set_option maxRecDepth 20000 in
theorem gX0_findWay_X0_openRows : GoodIn wsX0_findWay (wsV RX0 60 RX0 yX0_openRows wsX0_openRows) := goodIn_app (goodIn_of _ (by decide +kernel)) ggX0_findWay_X0_openRows
set_option maxRecDepth 20000 in
theorem ggX0_findWay_X0_chooseGetter : GoodIn wsX0_findWay wsX0_chooseGetter := goodIn_r _ [17, 1, 2, 18, 3, 19, 20, 21, 7, 22, 23, 24, 25, 26, 27, 28, 29, 30, 31, 32, 33, 34, 35, 36, 37, 38, 39, 40, 41, 42, 43, 44, 45, 46, 47, 48, 49, 50, 51, 52, 53, 54, 55, 56, 57, 58, 59, 60, 61, 62, 63, 64, 65, 66, 67, 68, 69, 70, 71, 72, 73, 74] (by decide +kernel) (by decide +kernel)
set_option maxRecDepth 20000 in
theorem gX0_findWay_X0_chooseGetter : GoodIn wsX0_findWay (wsV RX0 155 RX0 yX0_chooseGetter wsX0_chooseGetter) := goodIn_app (goodIn_of _ (by decide +kernel)) ggX0_findWay_X0_chooseGetter
set_option maxRecDepth 20000 in
theorem ggX0_findWay_X0_bit : GoodIn wsX0_findWay wsX0_bit := goodIn_r _ [25] (by decide +kernel) (by decide +kernel)
set_option maxRecDepth 20000 in
theorem gX0_findWay_X0_bit : GoodIn wsX0_findWay (va_wsS RX0 50 yX0_bit wsX0_bit) := goodIn_app (goodIn_of _ (by decide +kernel)) ggX0_findWay_X0_bit
theorem dX0_findWay_0 : decode cX0_findWay 0 = .ok (.iload_n 1, 1) := by decide +kernel
theorem dX0_findWay_1 : decode cX0_findWay 1 = .ok (.ifCond .ge 5, 3) := by decide +kernel
theorem dX0_findWay_4 : decode cX0_findWay 4 = .ok (.iconst 0, 1) := by decide +kernel
theorem dX0_findWay_5 : decode cX0_findWay 5 = .ok (.ireturn, 1) := by decide +kernel
theorem dX0_findWay_6 : decode cX0_findWay 6 = .ok (.aload_n 0, 1) := by decide +kernel
theorem dX0_findWay_7 : decode cX0_findWay 7 = .ok (.invokevirtual 60, 3) := by decide +kernel
theorem dX0_findWay_10 : decode cX0_findWay 10 = .ok (.iload_n 1, 1) := by decide +kernel
theorem dX0_findWay_11 : decode cX0_findWay 11 = .ok (.istore_n 2, 1) := by decide +kernel
theorem dX0_findWay_12 : decode cX0_findWay 12 = .ok (.iconst 0, 1) := by decide +kernel
theorem dX0_findWay_13 : decode cX0_findWay 13 = .ok (.istore_n 3, 1) := by decide +kernel
theorem dX0_findWay_14 : decode cX0_findWay 14 = .ok (.iconst 0, 1) := by decide +kernel
theorem dX0_findWay_15 : decode cX0_findWay 15 = .ok (.istore 4, 2) := by decide +kernel
theorem dX0_findWay_17 : decode cX0_findWay 17 = .ok (.iload 4, 2) := by decide +kernel
theorem dX0_findWay_19 : decode cX0_findWay 19 = .ok (.aload_n 0, 1) := by decide +kernel
theorem dX0_findWay_20 : decode cX0_findWay 20 = .ok (.getfield 38, 3) := by decide +kernel
theorem dX0_findWay_23 : decode cX0_findWay 23 = .ok (.if_icmp .ge 47, 3) := by decide +kernel
theorem dX0_findWay_26 : decode cX0_findWay 26 = .ok (.aload_n 0, 1) := by decide +kernel
theorem dX0_findWay_27 : decode cX0_findWay 27 = .ok (.iload 4, 2) := by decide +kernel
theorem dX0_findWay_29 : decode cX0_findWay 29 = .ok (.iload_n 2, 1) := by decide +kernel
theorem dX0_findWay_30 : decode cX0_findWay 30 = .ok (.aload_n 0, 1) := by decide +kernel
theorem dX0_findWay_31 : decode cX0_findWay 31 = .ok (.getfield 16, 3) := by decide +kernel
theorem dX0_findWay_34 : decode cX0_findWay 34 = .ok (.iload 4, 2) := by decide +kernel
theorem dX0_findWay_36 : decode cX0_findWay 36 = .ok (.iaload, 1) := by decide +kernel
theorem dX0_findWay_37 : decode cX0_findWay 37 = .ok (.iload_n 3, 1) := by decide +kernel
theorem dX0_findWay_38 : decode cX0_findWay 38 = .ok (.iconst (-1), 1) := by decide +kernel
theorem dX0_findWay_39 : decode cX0_findWay 39 = .ok (.ixor, 1) := by decide +kernel
theorem dX0_findWay_40 : decode cX0_findWay 40 = .ok (.iand, 1) := by decide +kernel
theorem dX0_findWay_41 : decode cX0_findWay 41 = .ok (.invokevirtual 155, 3) := by decide +kernel
theorem dX0_findWay_44 : decode cX0_findWay 44 = .ok (.istore_n 2, 1) := by decide +kernel
theorem dX0_findWay_45 : decode cX0_findWay 45 = .ok (.iload_n 2, 1) := by decide +kernel
theorem dX0_findWay_46 : decode cX0_findWay 46 = .ok (.ifCond .ge 5, 3) := by decide +kernel
theorem dX0_findWay_49 : decode cX0_findWay 49 = .ok (.iconst 0, 1) := by decide +kernel
theorem dX0_findWay_50 : decode cX0_findWay 50 = .ok (.ireturn, 1) := by decide +kernel
theorem dX0_findWay_51 : decode cX0_findWay 51 = .ok (.iload_n 3, 1) := by decide +kernel
theorem dX0_findWay_52 : decode cX0_findWay 52 = .ok (.aload_n 0, 1) := by decide +kernel
theorem dX0_findWay_53 : decode cX0_findWay 53 = .ok (.getfield 28, 3) := by decide +kernel
theorem dX0_findWay_56 : decode cX0_findWay 56 = .ok (.iload 4, 2) := by decide +kernel
theorem dX0_findWay_58 : decode cX0_findWay 58 = .ok (.iaload, 1) := by decide +kernel
theorem dX0_findWay_59 : decode cX0_findWay 59 = .ok (.invokestatic 50, 3) := by decide +kernel
theorem dX0_findWay_62 : decode cX0_findWay 62 = .ok (.ior, 1) := by decide +kernel
theorem dX0_findWay_63 : decode cX0_findWay 63 = .ok (.istore_n 3, 1) := by decide +kernel
theorem dX0_findWay_64 : decode cX0_findWay 64 = .ok (.iinc 4 1, 3) := by decide +kernel
theorem dX0_findWay_67 : decode cX0_findWay 67 = .ok (.goto (-50), 3) := by decide +kernel
theorem dX0_findWay_70 : decode cX0_findWay 70 = .ok (.iconst 1, 1) := by decide +kernel
theorem dX0_findWay_71 : decode cX0_findWay 71 = .ok (.ireturn, 1) := by decide +kernel
abbrev rm_X0_findWay : Room := { frames := 5, cells := 0, slots := 0, locals := 122 }
set_option maxHeartbeats 4000000 in
set_option maxRecDepth 100000 in
theorem c_X0_findWay (N : Nat) (l : Launch) (dC : Nat → ClassId) (dI : Nat → Nat → Nat) (cy : ClassId) (h q2 q3 q4 q5 q6 q7 q8 q9 : Nat) (sz : Nat) (c0 : Int32) (c1 : Int32) (c2 : Nat → Int32) (c3 : Nat → Int32) (c4 : Nat → Int32) (c5 : Nat → Int32) (c6 : Nat → Int32) (c7 : Nat → Int32) (c8 : Nat → Int32) (c9 : Nat → Int32) (c10 : Int32) (c11 : Int32) (a1 : Int32) (res : Int32 × (Nat → Int32) × (Nat → Int32) × (Nat → Int32) × (Nat → Int32) × (Nat → Int32)) (hf : f_X0_findWay N a1 c0 c1 c2 c4 c5 c6 c7 c8 = some res) : Met l yX0_findWay wsX0_findWay rm_X0_findWay (va_Pc [.ref h, .int a1] (fun U => U.heap.size = sz ∧ va_P (dC, dI) vwCl (wX0 cy h q2 q3 q4 q5 q6 q7 q8 q9 c0 c1 c2 c3 c4 c5 c6 c7 c8 c9 c10 c11) U.heap ∧ va_K (dC, dI) vwCl [(cy, .int)] U ∧ va_D (fun _ => True) (wX0 cy h q2 q3 q4 q5 q6 q7 q8 q9 c0 c1 c2 c3 c4 c5 c6 c7 c8 c9 c10 c11))) (z_qI dC dI cy res.1 (wX0 cy h q2 q3 q4 q5 q6 q7 q8 q9 c0 c1 c2 c3 res.2.1 res.2.2.1 res.2.2.2.1 res.2.2.2.2.1 res.2.2.2.2.2 c9 c10 c11) (va_A (wX0 cy h q2 q3 q4 q5 q6 q7 q8 q9 c0 c1 c2 c3 c4 c5 c6 c7 c8 c9 c10 c11) sz)) 0 0 (va_A (wX0 cy h q2 q3 q4 q5 q6 q7 q8 q9 c0 c1 c2 c3 c4 c5 c6 c7 c8 c9 c10 c11) sz) := by
  refine Met.ofW (cc := cX0_findWay) (maxL := 5) (ret := (some .boolean)) (by decide) rfl ?_
  intro p e s m args below meth c s₁ B hml hv
  obtain ⟨rfl, hsz, hP, hK, hD0⟩ := hv
  have hx := B.exec
  have hb := B.bytes
  have hr := B.returns
  have hts := atoms_spec (ws := wsX0_findWay) B.pre
  have hown : s.vm.findClass RX0 = some m.cls := findClass_of_methodNamed B.named
  have hlocks := B.notSynchronized
  subst hsz
  have hD := hD0.self (sz := s.heap.size)
  generalize hAe : va_A (wX0 cy h q2 q3 q4 q5 q6 q7 q8 q9 c0 c1 c2 c3 c4 c5 c6 c7 c8 c9 c10 c11) s.heap.size = A at hD ⊢
  have hA : ∀ q : Nat, s.heap.size ≤ q → A q := fun q h => by rw [← hAe]; exact Or.inr h
  have hS : va_S A s.heap s.heap [] := va_S.rf
  have hP : va_P (dC, dI) vwCl (wX0 cy h q2 q3 q4 q5 q6 q7 q8 q9 c0 c1 c2 c3 c4 c5 c6 c7 c8 c9 c10 c11) s.heap := hP
  have hl := lv_entry ([.ref h, .int a1]) (n := 5) (Nat.le_of_ble_eq_true rfl)
  rw [lg_entry_eq]
  generalize (lg_sl ([.ref h, .int a1]) ++ List.replicate (5 - (lg_sl ([.ref h, .int a1])).length) Slot.unset).toArray = ls at hl ⊢
  have hl : lv_has ls 5 [(0, .ref h), (1, .int a1)] := hl
  have B17 : ∀ n : Nat, ∀ (x2 x3 x4 : Int32) (c4 : Nat → Int32) (c5 : Nat → Int32) (c6 : Nat → Int32) (c7 : Nat → Int32) (c8 : Nat → Int32) (H : Heap) (locs : List Loc) (ls : Array Slot), f_X0_findWay_b17 N c0 c1 c2 n x2 x3 x4 c4 c5 c6 c7 c8 = some res → va_P (dC, dI) vwCl (wX0 cy h q2 q3 q4 q5 q6 q7 q8 q9 c0 c1 c2 c3 c4 c5 c6 c7 c8 c9 c10 c11) H → va_D A (wX0 cy h q2 q3 q4 q5 q6 q7 q8 q9 c0 c1 c2 c3 c4 c5 c6 c7 c8 c9 c10 c11) → va_S A s.heap H locs → lv_has ls 5 [(0, .ref h), (2, .int x2), (3, .int x3), (4, .int x4)] → W p l e rm_X0_findWay s m ([.ref h, .int a1] : List Value).toArray below meth c H locs 0 0 (MQ below (z_qI dC dI cy res.1 (wX0 cy h q2 q3 q4 q5 q6 q7 q8 q9 c0 c1 c2 c3 res.2.1 res.2.2.1 res.2.2.2.1 res.2.2.2.2.1 res.2.2.2.2.2 c9 c10 c11) A) ([.ref h, .int a1] : List Value).toArray s 0 0 A) (F0 m 17 ls []) := by
    clear hf hl hP hD hS
    intro n
    induction n with
    | zero =>
      intro x2 x3 x4 c4 c5 c6 c7 c8 H locs ls hf hP hD hS hl
      rw [f_X0_findWay_b17] at hf
      cases hf
    | succ n ih =>
      intro x2 x3 x4 c4 c5 c6 c7 c8 H locs ls hf hP hD hS hl
      rw [f_X0_findWay_b17] at hf
      refine lv_iload hx hb dX0_findWay_17 (lv_at hl 3 rfl) ?_
      refine lv_aload_n hx hb dX0_findWay_19 rfl (lv_at hl 0 rfl) ?_
      refine va_get (D := (dC, dI)) (ci := 0) (v := .int c0) (C := RX0) (T := TX0) (N := 12) hx hb hts (by decide +kernel) hown hK hP 0 rfl rfl 0 (by decide) (hts (.fieldLink RX0 38 "GiftLots" "count" "I") (by decide +kernel)) (fun _ h9 => h9) rfl dX0_findWay_20 ?_
      refine lv_icmp_ge (tgt := 70) hx hb dX0_findWay_23 (by decide) (fun c_23 => ?_) (fun c_23 => ?_)
      · replace hf := (if_pos c_23).symm.trans hf
        refine lv_iconst (v := (1 : Int32)) hx hb dX0_findWay_70 (by decide) ?_
        have hres := Option.some.inj hf
        subst hres
        have hP9 := hP.sub (ws' := (wX0 cy h q2 q3 q4 q5 q6 q7 q8 q9 c0 c1 c2 c3 c4 c5 c6 c7 c8 c9 c10 c11)) [0, 1, 2, 3, 4, 5, 6, 7, 8] rfl
        have hD9 := hD.sub (ws' := (wX0 cy h q2 q3 q4 q5 q6 q7 q8 q9 c0 c1 c2 c3 c4 c5 c6 c7 c8 c9 c10 c11)) [0, 1, 2, 3, 4, 5, 6, 7, 8] (by decide) rfl
        have hK9 := hK.sub (tys' := [(cy, .int)]) [0] rfl
        exact W.zret (v := (1 : Int32)) hx hb hr rfl (fun t ht hW => ⟨⟨(1 : Int32), (), rfl, rfl, by rw [ht]; exact hP9, va_K.moved hW.alike hK9, hD9⟩, hS.F ht⟩) hS.2.2 dX0_findWay_71
      · replace hf := (if_neg c_23).symm.trans hf
        refine lv_aload_n hx hb dX0_findWay_26 rfl (lv_at hl 0 rfl) ?_
        refine lv_iload hx hb dX0_findWay_27 (lv_at hl 3 rfl) ?_
        refine lv_iload_n hx hb dX0_findWay_29 rfl (lv_at hl 1 rfl) ?_
        refine lv_aload_n hx hb dX0_findWay_30 rfl (lv_at hl 0 rfl) ?_
        refine va_get (D := (dC, dI)) (ci := 0) (v := .ref q4) (C := RX0) (T := TX0) (N := 12) hx hb hts (by decide +kernel) hown hK hP 0 rfl rfl 4 (by decide) (hts (.fieldLink RX0 16 "GiftLots" "rows" "[I") (by decide +kernel)) (fun _ h9 => h9) rfl dX0_findWay_31 ?_
        refine lv_iload hx hb dX0_findWay_34 (lv_at hl 3 rfl) ?_
        obtain ⟨hi36, hf⟩ := z_gx_some hf
        refine va_iald hx hb hK hP 3 0 rfl rfl hi36 dX0_findWay_36 ?_
        refine lv_iload_n hx hb dX0_findWay_37 rfl (lv_at hl 2 rfl) ?_
        refine lv_iconst (v := (-1 : Int32)) hx hb dX0_findWay_38 (by decide) ?_
        refine lv_ixor hx hb dX0_findWay_39 ?_
        refine lv_iand hx hb dX0_findWay_40 ?_
        obtain ⟨u41, hu41, hf⟩ := z_ob_some hf
        have hPc := hP.sub (ws' := (wX0 cy h q2 q3 q4 q5 q6 q7 q8 q9 c0 c1 c2 c3 c4 c5 c6 c7 c8 c9 c10 c11)) [0, 1, 2, 3, 4, 5, 6, 7, 8] rfl
        have hDc := hD.sub (ws' := (wX0 cy h q2 q3 q4 q5 q6 q7 q8 q9 c0 c1 c2 c3 c4 c5 c6 c7 c8 c9 c10 c11)) [0, 1, 2, 3, 4, 5, 6, 7, 8] (by decide) rfl
        have hKc := hK.sub (tys' := [(cy, .int)]) [0] rfl
        have hFc := va_free (wc := (wX0 cy h q2 q3 q4 q5 q6 q7 q8 q9 c0 c1 c2 c3 c4 c5 c6 c7 c8 c9 c10 c11)) hD hS hA [0, 1, 2, 3, 4, 5, 6, 7, 8] rfl
        refine va_calli (va_runV (As := [.int x4, .int x2, .int ((c4 (x4).toNatClampNeg) &&& (x3 ^^^ (-1 : Int32)))]) (rest := []) ⟨hx, hb, hml, hown, hts⟩ (c_X0_chooseGetter N l dC dI cy h q2 q3 q4 q5 q6 q7 q8 q9 H.size c0 c1 c2 c3 c4 c5 c6 c7 c8 c9 c10 c11 x4 x2 ((c4 (x4).toNatClampNeg) &&& (x3 ^^^ (-1 : Int32))) u41 hu41) (cwV 3 hts gX0_findWay_X0_chooseGetter rfl rfl rfl (by decide +kernel) ⟨Nat.le_of_ble_eq_true rfl, Nat.le_of_ble_eq_true rfl⟩) ⟨fun a U g mk q => by obtain ⟨q0, q1, qP, qK, qD⟩ := q; exact ⟨q0, q1, qP, va_K.moved (u := U) (U := U.calling g mk a) (Vm.Alike.refl U.vm) qK, qD⟩, va_recv hKc hPc (ci := 0) (q0 := 0) rfl rfl, fun U hU hW => ⟨rfl, by rw [hU], by rw [hU]; exact hPc, va_K.moved hW.alike hKc, hDc.weaken (fun _ _ _ _ => trivial)⟩⟩ rfl rfl hl.1 rfl (lv_room (Nat.le_of_ble_eq_true rfl)) dX0_findWay_41 ⟨Nat.zero_le _, Nat.zero_le _⟩) hS (fun q _ h => hFc q h) hFc (fun r_41 uu_ t H1 locs ht hvm hw hB hz1 hk1 hS => ?_)
        replace hw := hw.symm
        subst hw
        obtain ⟨hP1, -, hD1⟩ := hB
        rw [ht] at hP1
        obtain ⟨hP, hD⟩ := va_join (wr := []) (w1 := (wX0 cy h q2 q3 q4 q5 q6 q7 q8 q9 c0 c1 c2 c3 u41.2.1 u41.2.2.1 u41.2.2.2.1 u41.2.2.2.2.1 u41.2.2.2.2.2 c9 c10 c11)) hP hD [0, 1, 2, 3, 4, 5, 6, 7, 8] [] rfl rfl (by decide) (by decide) hk1 hFc hP1 hD1
        clear hk1 hz1 hP1 hD1 ht hPc hDc hFc
        generalize H1 = H at hP hS ⊢
        have hP : va_P (dC, dI) vwCl (wX0 cy h q2 q3 q4 q5 q6 q7 q8 q9 c0 c1 c2 c3 u41.2.1 u41.2.2.1 u41.2.2.2.1 u41.2.2.2.2.1 u41.2.2.2.2.2 c9 c10 c11) H := hP
        have hD : va_D A (wX0 cy h q2 q3 q4 q5 q6 q7 q8 q9 c0 c1 c2 c3 u41.2.1 u41.2.2.1 u41.2.2.2.1 u41.2.2.2.2.1 u41.2.2.2.2.2 c9 c10 c11) := hD
        refine lv_istore_n (lv' := [(2, .int u41.1), (0, .ref h), (3, .int x3), (4, .int x4)]) hx hb dX0_findWay_44 rfl hl (by decide) rfl (fun ls hl => ?_)
        refine lv_iload_n hx hb dX0_findWay_45 rfl (lv_at hl 0 rfl) ?_
        refine lv_if_ge (tgt := 51) hx hb dX0_findWay_46 (by decide) (fun c_46 => ?_) (fun c_46 => ?_)
        · replace hf := (if_pos c_46).symm.trans hf
          refine lv_iload_n hx hb dX0_findWay_51 rfl (lv_at hl 2 rfl) ?_
          refine lv_aload_n hx hb dX0_findWay_52 rfl (lv_at hl 1 rfl) ?_
          refine va_get (D := (dC, dI)) (ci := 0) (v := .ref q8) (C := RX0) (T := TX0) (N := 12) hx hb hts (by decide +kernel) hown hK hP 0 rfl rfl 8 (by decide) (hts (.fieldLink RX0 28 "GiftLots" "trial" "[I") (by decide +kernel)) (fun _ h9 => h9) rfl dX0_findWay_53 ?_
          refine lv_iload hx hb dX0_findWay_56 (lv_at hl 3 rfl) ?_
          obtain ⟨hi58, hf⟩ := z_gx_some hf
          refine va_iald hx hb hK hP 7 0 rfl rfl hi58 dX0_findWay_58 ?_
          obtain ⟨u59, hu59, hf⟩ := z_ob_some hf
          have hPc := hP.sub (ws' := ([] : va_W)) [] rfl
          have hDc := hD.sub (ws' := ([] : va_W)) [] (by decide) rfl
          have hKc := hK.sub (tys' := [(cy, .int)]) [0] rfl
          have hFc := va_free (wc := ([] : va_W)) hD hS hA [] rfl
          refine va_calli (va_runS (As := [.int (u41.2.2.2.2.2 (x4).toNatClampNeg)]) (rest := [.int x3]) ⟨hx, hb, hml, hown, hts⟩ (c_X0_bit N l dC dI cy H.size (u41.2.2.2.2.2 (x4).toNatClampNeg) u59 hu59) (va_cwS 1 hts gX0_findWay_X0_bit rfl rfl rfl (by decide +kernel) ⟨Nat.le_of_ble_eq_true rfl, Nat.le_of_ble_eq_true rfl⟩) ⟨fun a U g mk q => by obtain ⟨q0, q1, qP, qK, qD⟩ := q; exact ⟨q0, q1, qP, va_K.moved (u := U) (U := U.calling g mk a) (Vm.Alike.refl U.vm) qK, qD⟩, fun U hU hW => ⟨rfl, by rw [hU], by rw [hU]; exact hPc, va_K.moved hW.alike hKc, hDc.weaken (fun _ _ _ _ => trivial)⟩⟩ rfl rfl hl.1 rfl (lv_room (Nat.le_of_ble_eq_true rfl)) dX0_findWay_59 ⟨Nat.zero_le _, Nat.zero_le _⟩) hS (fun q _ h => hFc q h) hFc (fun r_59 uu_ t H1 locs ht hvm hw hB hz1 hk1 hS => ?_)
          replace hw := hw.symm
          subst hw
          obtain ⟨hP1, -, hD1⟩ := hB
          rw [ht] at hP1
          obtain ⟨hP, hD⟩ := va_join (wr := (wX0 cy h q2 q3 q4 q5 q6 q7 q8 q9 c0 c1 c2 c3 u41.2.1 u41.2.2.1 u41.2.2.2.1 u41.2.2.2.2.1 u41.2.2.2.2.2 c9 c10 c11)) (w1 := ([] : va_W)) hP hD [] [0, 1, 2, 3, 4, 5, 6, 7, 8] rfl rfl (by decide) (by decide) hk1 hFc hP1 hD1
          clear hk1 hz1 hP1 hD1 ht hPc hDc hFc
          generalize H1 = H at hP hS ⊢
          have hP : va_P (dC, dI) vwCl (wX0 cy h q2 q3 q4 q5 q6 q7 q8 q9 c0 c1 c2 c3 u41.2.1 u41.2.2.1 u41.2.2.2.1 u41.2.2.2.2.1 u41.2.2.2.2.2 c9 c10 c11) H := hP
          have hD : va_D A (wX0 cy h q2 q3 q4 q5 q6 q7 q8 q9 c0 c1 c2 c3 u41.2.1 u41.2.2.1 u41.2.2.2.1 u41.2.2.2.2.1 u41.2.2.2.2.2 c9 c10 c11) := hD
          refine lv_ior hx hb dX0_findWay_62 ?_
          refine lv_istore_n (lv' := [(3, .int (x3 ||| u59)), (2, .int u41.1), (0, .ref h), (4, .int x4)]) hx hb dX0_findWay_63 rfl hl (by decide) rfl (fun ls hl => ?_)
          refine lv_iinc (v := x4 + (1 : Int32)) (lv' := [(4, .int (x4 + (1 : Int32))), (3, .int (x3 ||| u59)), (2, .int u41.1), (0, .ref h)]) hx hb dX0_findWay_64 hl (k := 3) rfl rfl (by decide) rfl (fun ls hl => ?_)
          refine lv_goto (tgt := 17) hx hb dX0_findWay_67 (by decide) ?_
          exact ih u41.1 (x3 ||| u59) (x4 + (1 : Int32)) u41.2.1 u41.2.2.1 u41.2.2.2.1 u41.2.2.2.2.1 u41.2.2.2.2.2 _ _ _ hf hP hD hS (lv_sub hl [3, 2, 1, 0] rfl)
        · replace hf := (if_neg c_46).symm.trans hf
          refine lv_iconst (v := (0 : Int32)) hx hb dX0_findWay_49 (by decide) ?_
          have hres := Option.some.inj hf
          subst hres
          have hP9 := hP.sub (ws' := (wX0 cy h q2 q3 q4 q5 q6 q7 q8 q9 c0 c1 c2 c3 u41.2.1 u41.2.2.1 u41.2.2.2.1 u41.2.2.2.2.1 u41.2.2.2.2.2 c9 c10 c11)) [0, 1, 2, 3, 4, 5, 6, 7, 8] rfl
          have hD9 := hD.sub (ws' := (wX0 cy h q2 q3 q4 q5 q6 q7 q8 q9 c0 c1 c2 c3 u41.2.1 u41.2.2.1 u41.2.2.2.1 u41.2.2.2.2.1 u41.2.2.2.2.2 c9 c10 c11)) [0, 1, 2, 3, 4, 5, 6, 7, 8] (by decide) rfl
          have hK9 := hK.sub (tys' := [(cy, .int)]) [0] rfl
          exact W.zret (v := (0 : Int32)) hx hb hr rfl (fun t ht hW => ⟨⟨(0 : Int32), (), rfl, rfl, by rw [ht]; exact hP9, va_K.moved hW.alike hK9, hD9⟩, hS.F ht⟩) hS.2.2 dX0_findWay_50
  unfold f_X0_findWay at hf
  refine lv_iload_n hx hb dX0_findWay_0 rfl (lv_at hl 1 rfl) ?_
  refine lv_if_ge (tgt := 6) hx hb dX0_findWay_1 (by decide) (fun c_1 => ?_) (fun c_1 => ?_)
  · replace hf := (if_pos c_1).symm.trans hf
    refine lv_aload_n hx hb dX0_findWay_6 rfl (lv_at hl 0 rfl) ?_
    obtain ⟨u7, hu7, hf⟩ := z_ob_some hf
    have hPc := hP.sub (ws' := (wX0 cy h q2 q3 q4 q5 q6 q7 q8 q9 c0 c1 c2 c3 c4 c5 c6 c7 c8 c9 c10 c11)) [0, 1, 2, 3, 4, 5, 6, 7, 8] rfl
    have hDc := hD.sub (ws' := (wX0 cy h q2 q3 q4 q5 q6 q7 q8 q9 c0 c1 c2 c3 c4 c5 c6 c7 c8 c9 c10 c11)) [0, 1, 2, 3, 4, 5, 6, 7, 8] (by decide) rfl
    have hKc := hK.sub (tys' := [(cy, .int)]) [0] rfl
    have hFc := va_free (wc := (wX0 cy h q2 q3 q4 q5 q6 q7 q8 q9 c0 c1 c2 c3 c4 c5 c6 c7 c8 c9 c10 c11)) hD hS hA [0, 1, 2, 3, 4, 5, 6, 7, 8] rfl
    refine va_callv (va_runV (As := []) (rest := []) ⟨hx, hb, hml, hown, hts⟩ (c_X0_openRows N l dC dI cy h q2 q3 q4 q5 q6 q7 q8 q9 s.heap.size c0 c1 c2 c3 c4 c5 c6 c7 c8 c9 c10 c11 u7 hu7) (cwV 0 hts gX0_findWay_X0_openRows rfl rfl rfl (by decide +kernel) ⟨Nat.le_of_ble_eq_true rfl, Nat.le_of_ble_eq_true rfl⟩) ⟨fun a U g mk q => by obtain ⟨q0, q1, qP, qK, qD⟩ := q; exact ⟨q0, q1, qP, va_K.moved (u := U) (U := U.calling g mk a) (Vm.Alike.refl U.vm) qK, qD⟩, va_recv hKc hPc (ci := 0) (q0 := 0) rfl rfl, fun U hU hW => ⟨rfl, by rw [hU], by rw [hU]; exact hPc, va_K.moved hW.alike hKc, hDc.weaken (fun _ _ _ _ => trivial)⟩⟩ rfl rfl hl.1 rfl (lv_room (Nat.le_of_ble_eq_true rfl)) dX0_findWay_7 ⟨Nat.zero_le _, Nat.zero_le _⟩) hS (fun q _ h => hFc q h) hFc (fun uu_ t H1 locs ht hvm hw hB hz1 hk1 hS => ?_)
    obtain ⟨hP1, -, hD1⟩ := hB
    rw [ht] at hP1
    obtain ⟨hP, hD⟩ := va_join (wr := []) (w1 := (wX0 cy h q2 q3 q4 q5 q6 q7 q8 q9 c0 c1 c2 c3 u7 c5 c6 c7 c8 c9 c10 c11)) hP hD [0, 1, 2, 3, 4, 5, 6, 7, 8] [] rfl rfl (by decide) (by decide) hk1 hFc hP1 hD1
    clear hk1 hz1 hP1 hD1 ht hPc hDc hFc
    generalize H1 = H at hP hS ⊢
    have hP : va_P (dC, dI) vwCl (wX0 cy h q2 q3 q4 q5 q6 q7 q8 q9 c0 c1 c2 c3 u7 c5 c6 c7 c8 c9 c10 c11) H := hP
    have hD : va_D A (wX0 cy h q2 q3 q4 q5 q6 q7 q8 q9 c0 c1 c2 c3 u7 c5 c6 c7 c8 c9 c10 c11) := hD
    refine lv_iload_n hx hb dX0_findWay_10 rfl (lv_at hl 1 rfl) ?_
    refine lv_istore_n (lv' := [(2, .int a1), (0, .ref h), (1, .int a1)]) hx hb dX0_findWay_11 rfl hl (by decide) rfl (fun ls hl => ?_)
    refine lv_iconst (v := (0 : Int32)) hx hb dX0_findWay_12 (by decide) ?_
    refine lv_istore_n (lv' := [(3, .int (0 : Int32)), (2, .int a1), (0, .ref h), (1, .int a1)]) hx hb dX0_findWay_13 rfl hl (by decide) rfl (fun ls hl => ?_)
    refine lv_iconst (v := (0 : Int32)) hx hb dX0_findWay_14 (by decide) ?_
    refine lv_istore (lv' := [(4, .int (0 : Int32)), (3, .int (0 : Int32)), (2, .int a1), (0, .ref h), (1, .int a1)]) hx hb dX0_findWay_15 hl (by decide) rfl (fun ls hl => ?_)
    exact B17 N a1 (0 : Int32) (0 : Int32) u7 c5 c6 c7 c8 _ _ _ hf hP hD hS (lv_sub hl [3, 2, 1, 0] rfl)
  · replace hf := (if_neg c_1).symm.trans hf
    refine lv_iconst (v := (0 : Int32)) hx hb dX0_findWay_4 (by decide) ?_
    have hres := Option.some.inj hf
    subst hres
    have hP9 := hP.sub (ws' := (wX0 cy h q2 q3 q4 q5 q6 q7 q8 q9 c0 c1 c2 c3 c4 c5 c6 c7 c8 c9 c10 c11)) [0, 1, 2, 3, 4, 5, 6, 7, 8] rfl
    have hD9 := hD.sub (ws' := (wX0 cy h q2 q3 q4 q5 q6 q7 q8 q9 c0 c1 c2 c3 c4 c5 c6 c7 c8 c9 c10 c11)) [0, 1, 2, 3, 4, 5, 6, 7, 8] (by decide) rfl
    have hK9 := hK.sub (tys' := [(cy, .int)]) [0] rfl
    exact W.zret (v := (0 : Int32)) hx hb hr rfl (fun t ht hW => ⟨⟨(0 : Int32), (), rfl, rfl, by rw [ht]; exact hP9, va_K.moved hW.alike hK9, hD9⟩, hS.F ht⟩) hS.2.2 dX0_findWay_5

set_option maxRecDepth 20000 in
theorem ggX0_way_X0_isOne : GoodIn wsX0_way wsX0_isOne := goodIn_r _ [6, 7, 67, 68, 69, 70, 71, 72, 73, 74, 75, 76, 77, 78] (by decide +kernel) (by decide +kernel)
set_option maxRecDepth 20000 in
theorem gX0_way_X0_isOne : GoodIn wsX0_way (wsV RX0 66 RX0 yX0_isOne wsX0_isOne) := goodIn_app (goodIn_of _ (by decide +kernel)) ggX0_way_X0_isOne
set_option maxRecDepth 20000 in
theorem ggX0_way_X0_findWay : GoodIn wsX0_way wsX0_findWay := goodIn_r _ [11, 7, 12, 1, 13, 14, 15, 5, 16, 17, 18, 19, 20, 21, 22, 23, 24, 25, 26, 2, 3, 4, 6, 27, 28, 29, 30, 31, 32, 33, 34, 35, 36, 37, 38, 39, 40, 41, 42, 43, 44, 45, 46, 47, 48, 49, 50, 51, 52, 53, 54, 55, 56, 57, 58, 59, 60, 61, 62, 63, 64, 65, 66, 67, 68, 69, 70, 71, 72, 73, 74, 75, 76, 77, 78] (by decide +kernel) (by decide +kernel)
set_option maxRecDepth 20000 in
theorem gX0_way_X0_findWay : GoodIn wsX0_way (wsV RX0 70 RX0 yX0_findWay wsX0_findWay) := goodIn_app (goodIn_of _ (by decide +kernel)) ggX0_way_X0_findWay
theorem dX0_way_0 : decode cX0_way 0 = .ok (.aload_n 0, 1) := by decide +kernel
theorem dX0_way_1 : decode cX0_way 1 = .ok (.iload_n 2, 1) := by decide +kernel
theorem dX0_way_2 : decode cX0_way 2 = .ok (.invokevirtual 66, 3) := by decide +kernel
theorem dX0_way_5 : decode cX0_way 5 = .ok (.ifCond .ne 5, 3) := by decide +kernel
theorem dX0_way_8 : decode cX0_way 8 = .ok (.iconst (-1), 1) := by decide +kernel
theorem dX0_way_9 : decode cX0_way 9 = .ok (.ireturn, 1) := by decide +kernel
theorem dX0_way_10 : decode cX0_way 10 = .ok (.aload_n 0, 1) := by decide +kernel
theorem dX0_way_11 : decode cX0_way 11 = .ok (.iload_n 1, 1) := by decide +kernel
theorem dX0_way_12 : decode cX0_way 12 = .ok (.invokevirtual 70, 3) := by decide +kernel
theorem dX0_way_15 : decode cX0_way 15 = .ok (.ifCond .eq 12, 3) := by decide +kernel
theorem dX0_way_18 : decode cX0_way 18 = .ok (.aload_n 0, 1) := by decide +kernel
theorem dX0_way_19 : decode cX0_way 19 = .ok (.getfield 28, 3) := by decide +kernel
theorem dX0_way_22 : decode cX0_way 22 = .ok (.iload_n 2, 1) := by decide +kernel
theorem dX0_way_23 : decode cX0_way 23 = .ok (.iaload, 1) := by decide +kernel
theorem dX0_way_24 : decode cX0_way 24 = .ok (.goto 5, 3) := by decide +kernel
theorem dX0_way_27 : decode cX0_way 27 = .ok (.bipush (-5), 2) := by decide +kernel
theorem dX0_way_29 : decode cX0_way 29 = .ok (.ireturn, 1) := by decide +kernel
abbrev rm_X0_way : Room := { frames := 6, cells := 0, slots := 0, locals := 146 }
set_option maxHeartbeats 4000000 in
set_option maxRecDepth 100000 in
theorem c_X0_way (N : Nat) (l : Launch) (dC : Nat → ClassId) (dI : Nat → Nat → Nat) (cy : ClassId) (h q2 q3 q4 q5 q6 q7 q8 q9 : Nat) (sz : Nat) (c0 : Int32) (c1 : Int32) (c2 : Nat → Int32) (c3 : Nat → Int32) (c4 : Nat → Int32) (c5 : Nat → Int32) (c6 : Nat → Int32) (c7 : Nat → Int32) (c8 : Nat → Int32) (c9 : Nat → Int32) (c10 : Int32) (c11 : Int32) (a1 a2 : Int32) (res : Int32 × (Nat → Int32) × (Nat → Int32) × (Nat → Int32) × (Nat → Int32) × (Nat → Int32)) (hf : f_X0_way N a1 a2 c0 c1 c2 c4 c5 c6 c7 c8 = some res) : Met l yX0_way wsX0_way rm_X0_way (va_Pc [.ref h, .int a1, .int a2] (fun U => U.heap.size = sz ∧ va_P (dC, dI) vwCl (wX0 cy h q2 q3 q4 q5 q6 q7 q8 q9 c0 c1 c2 c3 c4 c5 c6 c7 c8 c9 c10 c11) U.heap ∧ va_K (dC, dI) vwCl [(cy, .int)] U ∧ va_D (fun _ => True) (wX0 cy h q2 q3 q4 q5 q6 q7 q8 q9 c0 c1 c2 c3 c4 c5 c6 c7 c8 c9 c10 c11))) (z_qI dC dI cy res.1 (wX0 cy h q2 q3 q4 q5 q6 q7 q8 q9 c0 c1 c2 c3 res.2.1 res.2.2.1 res.2.2.2.1 res.2.2.2.2.1 res.2.2.2.2.2 c9 c10 c11) (va_A (wX0 cy h q2 q3 q4 q5 q6 q7 q8 q9 c0 c1 c2 c3 c4 c5 c6 c7 c8 c9 c10 c11) sz)) 0 0 (va_A (wX0 cy h q2 q3 q4 q5 q6 q7 q8 q9 c0 c1 c2 c3 c4 c5 c6 c7 c8 c9 c10 c11) sz) := by
  refine Met.ofW (cc := cX0_way) (maxL := 3) (ret := (some .int)) (by decide) rfl ?_
  intro p e s m args below meth c s₁ B hml hv
  obtain ⟨rfl, hsz, hP, hK, hD0⟩ := hv
  have hx := B.exec
  have hb := B.bytes
  have hr := B.returns
  have hts := atoms_spec (ws := wsX0_way) B.pre
  have hown : s.vm.findClass RX0 = some m.cls := findClass_of_methodNamed B.named
  have hlocks := B.notSynchronized
  subst hsz
  have hD := hD0.self (sz := s.heap.size)
  generalize hAe : va_A (wX0 cy h q2 q3 q4 q5 q6 q7 q8 q9 c0 c1 c2 c3 c4 c5 c6 c7 c8 c9 c10 c11) s.heap.size = A at hD ⊢
  have hA : ∀ q : Nat, s.heap.size ≤ q → A q := fun q h => by rw [← hAe]; exact Or.inr h
  have hS : va_S A s.heap s.heap [] := va_S.rf
  have hP : va_P (dC, dI) vwCl (wX0 cy h q2 q3 q4 q5 q6 q7 q8 q9 c0 c1 c2 c3 c4 c5 c6 c7 c8 c9 c10 c11) s.heap := hP
  have hl := lv_entry ([.ref h, .int a1, .int a2]) (n := 3) (Nat.le_of_ble_eq_true rfl)
  rw [lg_entry_eq]
  generalize (lg_sl ([.ref h, .int a1, .int a2]) ++ List.replicate (3 - (lg_sl ([.ref h, .int a1, .int a2])).length) Slot.unset).toArray = ls at hl ⊢
  have hl : lv_has ls 3 [(0, .ref h), (1, .int a1), (2, .int a2)] := hl
  unfold f_X0_way at hf
  refine lv_aload_n hx hb dX0_way_0 rfl (lv_at hl 0 rfl) ?_
  refine lv_iload_n hx hb dX0_way_1 rfl (lv_at hl 2 rfl) ?_
  obtain ⟨u2, hu2, hf⟩ := z_ob_some hf
  have hPc := hP.sub (ws' := (wX0 cy h q2 q3 q4 q5 q6 q7 q8 q9 c0 c1 c2 c3 c4 c5 c6 c7 c8 c9 c10 c11)) [0, 1, 2, 3, 4, 5, 6, 7, 8] rfl
  have hDc := hD.sub (ws' := (wX0 cy h q2 q3 q4 q5 q6 q7 q8 q9 c0 c1 c2 c3 c4 c5 c6 c7 c8 c9 c10 c11)) [0, 1, 2, 3, 4, 5, 6, 7, 8] (by decide) rfl
  have hKc := hK.sub (tys' := [(cy, .int)]) [0] rfl
  have hFc := va_free (wc := (wX0 cy h q2 q3 q4 q5 q6 q7 q8 q9 c0 c1 c2 c3 c4 c5 c6 c7 c8 c9 c10 c11)) hD hS hA [0, 1, 2, 3, 4, 5, 6, 7, 8] rfl
  refine va_calli (va_runV (As := [.int a2]) (rest := []) ⟨hx, hb, hml, hown, hts⟩ (c_X0_isOne N l dC dI cy h q2 q3 q4 q5 q6 q7 q8 q9 s.heap.size c0 c1 c2 c3 c4 c5 c6 c7 c8 c9 c10 c11 a2 u2 hu2) (cwV 1 hts gX0_way_X0_isOne rfl rfl rfl (by decide +kernel) ⟨Nat.le_of_ble_eq_true rfl, Nat.le_of_ble_eq_true rfl⟩) ⟨fun a U g mk q => by obtain ⟨q0, q1, qP, qK, qD⟩ := q; exact ⟨q0, q1, qP, va_K.moved (u := U) (U := U.calling g mk a) (Vm.Alike.refl U.vm) qK, qD⟩, va_recv hKc hPc (ci := 0) (q0 := 0) rfl rfl, fun U hU hW => ⟨rfl, by rw [hU], by rw [hU]; exact hPc, va_K.moved hW.alike hKc, hDc.weaken (fun _ _ _ _ => trivial)⟩⟩ rfl rfl hl.1 rfl (lv_room (Nat.le_of_ble_eq_true rfl)) dX0_way_2 ⟨Nat.zero_le _, Nat.zero_le _⟩) hS (fun q _ h => hFc q h) hFc (fun r_2 uu_ t H1 locs ht hvm hw hB hz1 hk1 hS => ?_)
  replace hw := hw.symm
  subst hw
  obtain ⟨hP1, -, hD1⟩ := hB
  rw [ht] at hP1
  obtain ⟨hP, hD⟩ := va_join (wr := []) (w1 := (wX0 cy h q2 q3 q4 q5 q6 q7 q8 q9 c0 c1 c2 c3 c4 c5 c6 c7 c8 c9 c10 c11)) hP hD [0, 1, 2, 3, 4, 5, 6, 7, 8] [] rfl rfl (by decide) (by decide) hk1 hFc hP1 hD1
  clear hk1 hz1 hP1 hD1 ht hPc hDc hFc
  generalize H1 = H at hP hS ⊢
  have hP : va_P (dC, dI) vwCl (wX0 cy h q2 q3 q4 q5 q6 q7 q8 q9 c0 c1 c2 c3 c4 c5 c6 c7 c8 c9 c10 c11) H := hP
  have hD : va_D A (wX0 cy h q2 q3 q4 q5 q6 q7 q8 q9 c0 c1 c2 c3 c4 c5 c6 c7 c8 c9 c10 c11) := hD
  refine lv_if_ne (tgt := 10) hx hb dX0_way_5 (by decide) (fun c_5 => ?_) (fun c_5 => ?_)
  · replace hf := (if_neg c_5).symm.trans hf
    refine lv_aload_n hx hb dX0_way_10 rfl (lv_at hl 0 rfl) ?_
    refine lv_iload_n hx hb dX0_way_11 rfl (lv_at hl 1 rfl) ?_
    obtain ⟨u12, hu12, hf⟩ := z_ob_some hf
    have hPc := hP.sub (ws' := (wX0 cy h q2 q3 q4 q5 q6 q7 q8 q9 c0 c1 c2 c3 c4 c5 c6 c7 c8 c9 c10 c11)) [0, 1, 2, 3, 4, 5, 6, 7, 8] rfl
    have hDc := hD.sub (ws' := (wX0 cy h q2 q3 q4 q5 q6 q7 q8 q9 c0 c1 c2 c3 c4 c5 c6 c7 c8 c9 c10 c11)) [0, 1, 2, 3, 4, 5, 6, 7, 8] (by decide) rfl
    have hKc := hK.sub (tys' := [(cy, .int)]) [0] rfl
    have hFc := va_free (wc := (wX0 cy h q2 q3 q4 q5 q6 q7 q8 q9 c0 c1 c2 c3 c4 c5 c6 c7 c8 c9 c10 c11)) hD hS hA [0, 1, 2, 3, 4, 5, 6, 7, 8] rfl
    refine va_calli (va_runV (As := [.int a1]) (rest := []) ⟨hx, hb, hml, hown, hts⟩ (c_X0_findWay N l dC dI cy h q2 q3 q4 q5 q6 q7 q8 q9 H.size c0 c1 c2 c3 c4 c5 c6 c7 c8 c9 c10 c11 a1 u12 hu12) (cwV 1 hts gX0_way_X0_findWay rfl rfl rfl (by decide +kernel) ⟨Nat.le_of_ble_eq_true rfl, Nat.le_of_ble_eq_true rfl⟩) ⟨fun a U g mk q => by obtain ⟨q0, q1, qP, qK, qD⟩ := q; exact ⟨q0, q1, qP, va_K.moved (u := U) (U := U.calling g mk a) (Vm.Alike.refl U.vm) qK, qD⟩, va_recv hKc hPc (ci := 0) (q0 := 0) rfl rfl, fun U hU hW => ⟨rfl, by rw [hU], by rw [hU]; exact hPc, va_K.moved hW.alike hKc, hDc.weaken (fun _ _ _ _ => trivial)⟩⟩ rfl rfl hl.1 rfl (lv_room (Nat.le_of_ble_eq_true rfl)) dX0_way_12 ⟨Nat.zero_le _, Nat.zero_le _⟩) hS (fun q _ h => hFc q h) hFc (fun r_12 uu_ t H1 locs ht hvm hw hB hz1 hk1 hS => ?_)
    replace hw := hw.symm
    subst hw
    obtain ⟨hP1, -, hD1⟩ := hB
    rw [ht] at hP1
    obtain ⟨hP, hD⟩ := va_join (wr := []) (w1 := (wX0 cy h q2 q3 q4 q5 q6 q7 q8 q9 c0 c1 c2 c3 u12.2.1 u12.2.2.1 u12.2.2.2.1 u12.2.2.2.2.1 u12.2.2.2.2.2 c9 c10 c11)) hP hD [0, 1, 2, 3, 4, 5, 6, 7, 8] [] rfl rfl (by decide) (by decide) hk1 hFc hP1 hD1
    clear hk1 hz1 hP1 hD1 ht hPc hDc hFc
    generalize H1 = H at hP hS ⊢
    have hP : va_P (dC, dI) vwCl (wX0 cy h q2 q3 q4 q5 q6 q7 q8 q9 c0 c1 c2 c3 u12.2.1 u12.2.2.1 u12.2.2.2.1 u12.2.2.2.2.1 u12.2.2.2.2.2 c9 c10 c11) H := hP
    have hD : va_D A (wX0 cy h q2 q3 q4 q5 q6 q7 q8 q9 c0 c1 c2 c3 u12.2.1 u12.2.2.1 u12.2.2.2.1 u12.2.2.2.2.1 u12.2.2.2.2.2 c9 c10 c11) := hD
    refine lv_if_eq (tgt := 27) hx hb dX0_way_15 (by decide) (fun c_15 => ?_) (fun c_15 => ?_)
    · replace hf := (if_pos c_15).symm.trans hf
      refine lv_bipush (v := (-5 : Int32)) hx hb dX0_way_27 (by decide) ?_
      have hres := Option.some.inj hf
      subst hres
      have hP9 := hP.sub (ws' := (wX0 cy h q2 q3 q4 q5 q6 q7 q8 q9 c0 c1 c2 c3 u12.2.1 u12.2.2.1 u12.2.2.2.1 u12.2.2.2.2.1 u12.2.2.2.2.2 c9 c10 c11)) [0, 1, 2, 3, 4, 5, 6, 7, 8] rfl
      have hD9 := hD.sub (ws' := (wX0 cy h q2 q3 q4 q5 q6 q7 q8 q9 c0 c1 c2 c3 u12.2.1 u12.2.2.1 u12.2.2.2.1 u12.2.2.2.2.1 u12.2.2.2.2.2 c9 c10 c11)) [0, 1, 2, 3, 4, 5, 6, 7, 8] (by decide) rfl
      have hK9 := hK.sub (tys' := [(cy, .int)]) [0] rfl
      exact W.iret (v := (-5 : Int32)) hx hb hr (fun t ht hW => ⟨⟨(-5 : Int32), (), rfl, rfl, by rw [ht]; exact hP9, va_K.moved hW.alike hK9, hD9⟩, hS.F ht⟩) hS.2.2 dX0_way_29
    · replace hf := (if_neg c_15).symm.trans hf
      refine lv_aload_n hx hb dX0_way_18 rfl (lv_at hl 0 rfl) ?_
      refine va_get (D := (dC, dI)) (ci := 0) (v := .ref q8) (C := RX0) (T := TX0) (N := 12) hx hb hts (by decide +kernel) hown hK hP 0 rfl rfl 8 (by decide) (hts (.fieldLink RX0 28 "GiftLots" "trial" "[I") (by decide +kernel)) (fun _ h9 => h9) rfl dX0_way_19 ?_
      refine lv_iload_n hx hb dX0_way_22 rfl (lv_at hl 2 rfl) ?_
      obtain ⟨hi23, hf⟩ := z_gx_some hf
      refine va_iald hx hb hK hP 7 0 rfl rfl hi23 dX0_way_23 ?_
      refine lv_goto (tgt := 29) hx hb dX0_way_24 (by decide) ?_
      have hres := Option.some.inj hf
      subst hres
      have hP9 := hP.sub (ws' := (wX0 cy h q2 q3 q4 q5 q6 q7 q8 q9 c0 c1 c2 c3 u12.2.1 u12.2.2.1 u12.2.2.2.1 u12.2.2.2.2.1 u12.2.2.2.2.2 c9 c10 c11)) [0, 1, 2, 3, 4, 5, 6, 7, 8] rfl
      have hD9 := hD.sub (ws' := (wX0 cy h q2 q3 q4 q5 q6 q7 q8 q9 c0 c1 c2 c3 u12.2.1 u12.2.2.1 u12.2.2.2.1 u12.2.2.2.2.1 u12.2.2.2.2.2 c9 c10 c11)) [0, 1, 2, 3, 4, 5, 6, 7, 8] (by decide) rfl
      have hK9 := hK.sub (tys' := [(cy, .int)]) [0] rfl
      exact W.iret (v := u12.2.2.2.2.2 (a2).toNatClampNeg) hx hb hr (fun t ht hW => ⟨⟨u12.2.2.2.2.2 (a2).toNatClampNeg, (), rfl, rfl, by rw [ht]; exact hP9, va_K.moved hW.alike hK9, hD9⟩, hS.F ht⟩) hS.2.2 dX0_way_29
  · replace hf := (if_pos c_5).symm.trans hf
    refine lv_iconst (v := (-1 : Int32)) hx hb dX0_way_8 (by decide) ?_
    have hres := Option.some.inj hf
    subst hres
    have hP9 := hP.sub (ws' := (wX0 cy h q2 q3 q4 q5 q6 q7 q8 q9 c0 c1 c2 c3 c4 c5 c6 c7 c8 c9 c10 c11)) [0, 1, 2, 3, 4, 5, 6, 7, 8] rfl
    have hD9 := hD.sub (ws' := (wX0 cy h q2 q3 q4 q5 q6 q7 q8 q9 c0 c1 c2 c3 c4 c5 c6 c7 c8 c9 c10 c11)) [0, 1, 2, 3, 4, 5, 6, 7, 8] (by decide) rfl
    have hK9 := hK.sub (tys' := [(cy, .int)]) [0] rfl
    exact W.iret (v := (-1 : Int32)) hx hb hr (fun t ht hW => ⟨⟨(-1 : Int32), (), rfl, rfl, by rw [ht]; exact hP9, va_K.moved hW.alike hK9, hD9⟩, hS.F ht⟩) hS.2.2 dX0_way_9

set_option maxRecDepth 20000 in
theorem ggX0_countSplits_X0_everyone : GoodIn wsX0_countSplits wsX0_everyone := goodIn_r _ [6, 7, 17, 18, 19, 20, 21, 22, 23, 24, 25, 26, 27, 28] (by decide +kernel) (by decide +kernel)
set_option maxRecDepth 20000 in
theorem gX0_countSplits_X0_everyone : GoodIn wsX0_countSplits (wsV RX0 85 RX0 yX0_everyone wsX0_everyone) := goodIn_app (goodIn_of _ (by decide +kernel)) ggX0_countSplits_X0_everyone
set_option maxRecDepth 20000 in
theorem ggX0_countSplits_J7_fill_53178 : GoodIn wsX0_countSplits wsJ7_fill_53178 := goodIn_r _ [11] (by decide +kernel) (by decide +kernel)
set_option maxRecDepth 20000 in
theorem gX0_countSplits_J7_fill_53178 : GoodIn wsX0_countSplits (va_wsS RX0 143 yJ7_fill_53178 wsJ7_fill_53178) := goodIn_app (goodIn_of _ (by decide +kernel)) ggX0_countSplits_J7_fill_53178
set_option maxRecDepth 20000 in
theorem ggX0_countSplits_X0_takeOutRound : GoodIn wsX0_countSplits wsX0_takeOutRound := goodIn_r _ [15, 16, 1, 17, 18, 19, 20, 21, 22, 23, 24, 25, 26, 27, 28] (by decide +kernel) (by decide +kernel)
set_option maxRecDepth 20000 in
theorem gX0_countSplits_X0_takeOutRound : GoodIn wsX0_countSplits (wsV RX0 140 RX0 yX0_takeOutRound wsX0_takeOutRound) := goodIn_app (goodIn_of _ (by decide +kernel)) ggX0_countSplits_X0_takeOutRound
theorem dX0_countSplits_0 : decode cX0_countSplits 0 = .ok (.aload_n 0, 1) := by decide +kernel
theorem dX0_countSplits_1 : decode cX0_countSplits 1 = .ok (.invokevirtual 85, 3) := by decide +kernel
theorem dX0_countSplits_4 : decode cX0_countSplits 4 = .ok (.istore_n 2, 1) := by decide +kernel
theorem dX0_countSplits_5 : decode cX0_countSplits 5 = .ok (.aload_n 0, 1) := by decide +kernel
theorem dX0_countSplits_6 : decode cX0_countSplits 6 = .ok (.getfield 25, 3) := by decide +kernel
theorem dX0_countSplits_9 : decode cX0_countSplits 9 = .ok (.iconst 0, 1) := by decide +kernel
theorem dX0_countSplits_10 : decode cX0_countSplits 10 = .ok (.invokestatic 143, 3) := by decide +kernel
theorem dX0_countSplits_13 : decode cX0_countSplits 13 = .ok (.aload_n 0, 1) := by decide +kernel
theorem dX0_countSplits_14 : decode cX0_countSplits 14 = .ok (.getfield 25, 3) := by decide +kernel
theorem dX0_countSplits_17 : decode cX0_countSplits 17 = .ok (.iconst 0, 1) := by decide +kernel
theorem dX0_countSplits_18 : decode cX0_countSplits 18 = .ok (.iconst 1, 1) := by decide +kernel
theorem dX0_countSplits_19 : decode cX0_countSplits 19 = .ok (.iastore, 1) := by decide +kernel
theorem dX0_countSplits_20 : decode cX0_countSplits 20 = .ok (.iconst 0, 1) := by decide +kernel
theorem dX0_countSplits_21 : decode cX0_countSplits 21 = .ok (.istore_n 3, 1) := by decide +kernel
theorem dX0_countSplits_22 : decode cX0_countSplits 22 = .ok (.iload_n 3, 1) := by decide +kernel
theorem dX0_countSplits_23 : decode cX0_countSplits 23 = .ok (.iload_n 1, 1) := by decide +kernel
theorem dX0_countSplits_24 : decode cX0_countSplits 24 = .ok (.if_icmp .ge 43, 3) := by decide +kernel
theorem dX0_countSplits_27 : decode cX0_countSplits 27 = .ok (.iload_n 2, 1) := by decide +kernel
theorem dX0_countSplits_28 : decode cX0_countSplits 28 = .ok (.istore 4, 2) := by decide +kernel
theorem dX0_countSplits_30 : decode cX0_countSplits 30 = .ok (.iload 4, 2) := by decide +kernel
theorem dX0_countSplits_32 : decode cX0_countSplits 32 = .ok (.ifCond .le 22, 3) := by decide +kernel
theorem dX0_countSplits_35 : decode cX0_countSplits 35 = .ok (.aload_n 0, 1) := by decide +kernel
theorem dX0_countSplits_36 : decode cX0_countSplits 36 = .ok (.getfield 25, 3) := by decide +kernel
theorem dX0_countSplits_39 : decode cX0_countSplits 39 = .ok (.iload 4, 2) := by decide +kernel
theorem dX0_countSplits_41 : decode cX0_countSplits 41 = .ok (.aload_n 0, 1) := by decide +kernel
theorem dX0_countSplits_42 : decode cX0_countSplits 42 = .ok (.iload 4, 2) := by decide +kernel
theorem dX0_countSplits_44 : decode cX0_countSplits 44 = .ok (.invokevirtual 140, 3) := by decide +kernel
theorem dX0_countSplits_47 : decode cX0_countSplits 47 = .ok (.iastore, 1) := by decide +kernel
theorem dX0_countSplits_48 : decode cX0_countSplits 48 = .ok (.iinc 4 (-1), 3) := by decide +kernel
theorem dX0_countSplits_51 : decode cX0_countSplits 51 = .ok (.goto (-21), 3) := by decide +kernel
theorem dX0_countSplits_54 : decode cX0_countSplits 54 = .ok (.aload_n 0, 1) := by decide +kernel
theorem dX0_countSplits_55 : decode cX0_countSplits 55 = .ok (.getfield 25, 3) := by decide +kernel
theorem dX0_countSplits_58 : decode cX0_countSplits 58 = .ok (.iconst 0, 1) := by decide +kernel
theorem dX0_countSplits_59 : decode cX0_countSplits 59 = .ok (.iconst 0, 1) := by decide +kernel
theorem dX0_countSplits_60 : decode cX0_countSplits 60 = .ok (.iastore, 1) := by decide +kernel
theorem dX0_countSplits_61 : decode cX0_countSplits 61 = .ok (.iinc 3 1, 3) := by decide +kernel
theorem dX0_countSplits_64 : decode cX0_countSplits 64 = .ok (.goto (-42), 3) := by decide +kernel
theorem dX0_countSplits_67 : decode cX0_countSplits 67 = .ok (.aload_n 0, 1) := by decide +kernel
theorem dX0_countSplits_68 : decode cX0_countSplits 68 = .ok (.getfield 25, 3) := by decide +kernel
theorem dX0_countSplits_71 : decode cX0_countSplits 71 = .ok (.iload_n 2, 1) := by decide +kernel
theorem dX0_countSplits_72 : decode cX0_countSplits 72 = .ok (.iaload, 1) := by decide +kernel
theorem dX0_countSplits_73 : decode cX0_countSplits 73 = .ok (.ireturn, 1) := by decide +kernel
abbrev rm_X0_countSplits : Room := { frames := 1, cells := 0, slots := 0, locals := 25 }
set_option maxHeartbeats 4000000 in
set_option maxRecDepth 100000 in
theorem c_X0_countSplits (N : Nat) (l : Launch) (dC : Nat → ClassId) (dI : Nat → Nat → Nat) (cy : ClassId) (h q2 q3 q4 q5 q6 q7 q8 q9 : Nat) (sz : Nat) (c0 : Int32) (c1 : Int32) (c2 : Nat → Int32) (c3 : Nat → Int32) (c4 : Nat → Int32) (c5 : Nat → Int32) (c6 : Nat → Int32) (c7 : Nat → Int32) (c8 : Nat → Int32) (c9 : Nat → Int32) (c10 : Int32) (c11 : Int32) (a1 : Int32) (res : Int32 × (Nat → Int32)) (hf : f_X0_countSplits N a1 c0 c6 c7 = some res) : Met l yX0_countSplits wsX0_countSplits rm_X0_countSplits (va_Pc [.ref h, .int a1] (fun U => U.heap.size = sz ∧ va_P (dC, dI) vwCl (wX0 cy h q2 q3 q4 q5 q6 q7 q8 q9 c0 c1 c2 c3 c4 c5 c6 c7 c8 c9 c10 c11) U.heap ∧ va_K (dC, dI) vwCl [(cy, .int)] U ∧ va_D (fun _ => True) (wX0 cy h q2 q3 q4 q5 q6 q7 q8 q9 c0 c1 c2 c3 c4 c5 c6 c7 c8 c9 c10 c11))) (z_qI dC dI cy res.1 (wX0 cy h q2 q3 q4 q5 q6 q7 q8 q9 c0 c1 c2 c3 c4 c5 c6 res.2 c8 c9 c10 c11) (va_A (wX0 cy h q2 q3 q4 q5 q6 q7 q8 q9 c0 c1 c2 c3 c4 c5 c6 c7 c8 c9 c10 c11) sz)) 0 0 (va_A (wX0 cy h q2 q3 q4 q5 q6 q7 q8 q9 c0 c1 c2 c3 c4 c5 c6 c7 c8 c9 c10 c11) sz) := by
  refine Met.ofW (cc := cX0_countSplits) (maxL := 5) (ret := (some .int)) (by decide) rfl ?_
  intro p e s m args below meth c s₁ B hml hv
  obtain ⟨rfl, hsz, hP, hK, hD0⟩ := hv
  have hx := B.exec
  have hb := B.bytes
  have hr := B.returns
  have hts := atoms_spec (ws := wsX0_countSplits) B.pre
  have hown : s.vm.findClass RX0 = some m.cls := findClass_of_methodNamed B.named
  have hlocks := B.notSynchronized
  subst hsz
  have hD := hD0.self (sz := s.heap.size)
  generalize hAe : va_A (wX0 cy h q2 q3 q4 q5 q6 q7 q8 q9 c0 c1 c2 c3 c4 c5 c6 c7 c8 c9 c10 c11) s.heap.size = A at hD ⊢
  have hA : ∀ q : Nat, s.heap.size ≤ q → A q := fun q h => by rw [← hAe]; exact Or.inr h
  have hS : va_S A s.heap s.heap [] := va_S.rf
  have hP : va_P (dC, dI) vwCl (wX0 cy h q2 q3 q4 q5 q6 q7 q8 q9 c0 c1 c2 c3 c4 c5 c6 c7 c8 c9 c10 c11) s.heap := hP
  have hl := lv_entry ([.ref h, .int a1]) (n := 5) (Nat.le_of_ble_eq_true rfl)
  rw [lg_entry_eq]
  generalize (lg_sl ([.ref h, .int a1]) ++ List.replicate (5 - (lg_sl ([.ref h, .int a1])).length) Slot.unset).toArray = ls at hl ⊢
  have hl : lv_has ls 5 [(0, .ref h), (1, .int a1)] := hl
  have B30 : ∀ (r22 : Int32 → Int32 → Int32 → (Nat → Int32) → Option (Int32 × (Nat → Int32))), (∀ (x1 x2 x3 : Int32) (c7 : Nat → Int32) (H : Heap) (locs : List Loc) (ls : Array Slot), r22 x1 x2 x3 c7 = some res → va_P (dC, dI) vwCl (wX0 cy h q2 q3 q4 q5 q6 q7 q8 q9 c0 c1 c2 c3 c4 c5 c6 c7 c8 c9 c10 c11) H → va_D A (wX0 cy h q2 q3 q4 q5 q6 q7 q8 q9 c0 c1 c2 c3 c4 c5 c6 c7 c8 c9 c10 c11) → va_S A s.heap H locs → lv_has ls 5 [(0, .ref h), (1, .int x1), (2, .int x2), (3, .int x3)] → W p l e rm_X0_countSplits s m ([.ref h, .int a1] : List Value).toArray below meth c H locs 0 0 (MQ below (z_qI dC dI cy res.1 (wX0 cy h q2 q3 q4 q5 q6 q7 q8 q9 c0 c1 c2 c3 c4 c5 c6 res.2 c8 c9 c10 c11) A) ([.ref h, .int a1] : List Value).toArray s 0 0 A) (F0 m 22 ls [])) → ∀ n : Nat, ∀ (x1 x2 x3 x4 : Int32) (c7 : Nat → Int32) (H : Heap) (locs : List Loc) (ls : Array Slot), f_X0_countSplits_b30 N c0 c6 r22 n x1 x2 x3 x4 c7 = some res → va_P (dC, dI) vwCl (wX0 cy h q2 q3 q4 q5 q6 q7 q8 q9 c0 c1 c2 c3 c4 c5 c6 c7 c8 c9 c10 c11) H → va_D A (wX0 cy h q2 q3 q4 q5 q6 q7 q8 q9 c0 c1 c2 c3 c4 c5 c6 c7 c8 c9 c10 c11) → va_S A s.heap H locs → lv_has ls 5 [(0, .ref h), (1, .int x1), (2, .int x2), (3, .int x3), (4, .int x4)] → W p l e rm_X0_countSplits s m ([.ref h, .int a1] : List Value).toArray below meth c H locs 0 0 (MQ below (z_qI dC dI cy res.1 (wX0 cy h q2 q3 q4 q5 q6 q7 q8 q9 c0 c1 c2 c3 c4 c5 c6 res.2 c8 c9 c10 c11) A) ([.ref h, .int a1] : List Value).toArray s 0 0 A) (F0 m 30 ls []) := by
    clear hf hl hP hD hS
    intro r22 hr22
    intro n
    induction n with
    | zero =>
      intro x1 x2 x3 x4 c7 H locs ls hf hP hD hS hl
      rw [f_X0_countSplits_b30] at hf
      cases hf
    | succ n ih =>
      intro x1 x2 x3 x4 c7 H locs ls hf hP hD hS hl
      rw [f_X0_countSplits_b30] at hf
      refine lv_iload hx hb dX0_countSplits_30 (lv_at hl 4 rfl) ?_
      refine lv_if_le (tgt := 54) hx hb dX0_countSplits_32 (by decide) (fun c_32 => ?_) (fun c_32 => ?_)
      · replace hf := (if_pos c_32).symm.trans hf
        refine lv_aload_n hx hb dX0_countSplits_54 rfl (lv_at hl 0 rfl) ?_
        refine va_get (D := (dC, dI)) (ci := 0) (v := .ref q7) (C := RX0) (T := TX0) (N := 12) hx hb hts (by decide +kernel) hown hK hP 0 rfl rfl 7 (by decide) (hts (.fieldLink RX0 25 "GiftLots" "splits" "[I") (by decide +kernel)) (fun _ h9 => h9) rfl dX0_countSplits_55 ?_
        refine lv_iconst (v := (0 : Int32)) hx hb dX0_countSplits_58 (by decide) ?_
        refine lv_iconst (v := (0 : Int32)) hx hb dX0_countSplits_59 (by decide) ?_
        obtain ⟨hi60, hf⟩ := z_gx_some hf
        refine va_iast hx hb hK hP hD hS 6 0 rfl rfl hi60 dX0_countSplits_60 (fun H locs hP hD hS => ?_)
        have hP : va_P (dC, dI) vwCl (wX0 cy h q2 q3 q4 q5 q6 q7 q8 q9 c0 c1 c2 c3 c4 c5 c6 (upd c7 ((0 : Int32)).toNatClampNeg (0 : Int32)) c8 c9 c10 c11) H := hP
        have hD : va_D A (wX0 cy h q2 q3 q4 q5 q6 q7 q8 q9 c0 c1 c2 c3 c4 c5 c6 (upd c7 ((0 : Int32)).toNatClampNeg (0 : Int32)) c8 c9 c10 c11) := hD
        refine lv_iinc (v := x3 + (1 : Int32)) (lv' := [(3, .int (x3 + (1 : Int32))), (0, .ref h), (1, .int x1), (2, .int x2), (4, .int x4)]) hx hb dX0_countSplits_61 hl (k := 3) rfl rfl (by decide) rfl (fun ls hl => ?_)
        refine lv_goto (tgt := 22) hx hb dX0_countSplits_64 (by decide) ?_
        exact hr22 x1 x2 (x3 + (1 : Int32)) (upd c7 ((0 : Int32)).toNatClampNeg (0 : Int32)) _ _ _ hf hP hD hS (lv_sub hl [1, 2, 3, 0] rfl)
      · replace hf := (if_neg c_32).symm.trans hf
        refine lv_aload_n hx hb dX0_countSplits_35 rfl (lv_at hl 0 rfl) ?_
        refine va_get (D := (dC, dI)) (ci := 0) (v := .ref q7) (C := RX0) (T := TX0) (N := 12) hx hb hts (by decide +kernel) hown hK hP 0 rfl rfl 7 (by decide) (hts (.fieldLink RX0 25 "GiftLots" "splits" "[I") (by decide +kernel)) (fun _ h9 => h9) rfl dX0_countSplits_36 ?_
        refine lv_iload hx hb dX0_countSplits_39 (lv_at hl 4 rfl) ?_
        refine lv_aload_n hx hb dX0_countSplits_41 rfl (lv_at hl 0 rfl) ?_
        refine lv_iload hx hb dX0_countSplits_42 (lv_at hl 4 rfl) ?_
        obtain ⟨u44, hu44, hf⟩ := z_ob_some hf
        have hPc := hP.sub (ws' := (wX0 cy h q2 q3 q4 q5 q6 q7 q8 q9 c0 c1 c2 c3 c4 c5 c6 c7 c8 c9 c10 c11)) [0, 1, 2, 3, 4, 5, 6, 7, 8] rfl
        have hDc := hD.sub (ws' := (wX0 cy h q2 q3 q4 q5 q6 q7 q8 q9 c0 c1 c2 c3 c4 c5 c6 c7 c8 c9 c10 c11)) [0, 1, 2, 3, 4, 5, 6, 7, 8] (by decide) rfl
        have hKc := hK.sub (tys' := [(cy, .int)]) [0] rfl
        have hFc := va_free (wc := (wX0 cy h q2 q3 q4 q5 q6 q7 q8 q9 c0 c1 c2 c3 c4 c5 c6 c7 c8 c9 c10 c11)) hD hS hA [0, 1, 2, 3, 4, 5, 6, 7, 8] rfl
        refine va_calli (va_runV (As := [.int x4]) (rest := [.int x4, .ref q7]) ⟨hx, hb, hml, hown, hts⟩ (c_X0_takeOutRound N l dC dI cy h q2 q3 q4 q5 q6 q7 q8 q9 H.size c0 c1 c2 c3 c4 c5 c6 c7 c8 c9 c10 c11 x4 u44 hu44) (cwV 1 hts gX0_countSplits_X0_takeOutRound rfl rfl rfl (by decide +kernel) ⟨Nat.le_of_ble_eq_true rfl, Nat.le_of_ble_eq_true rfl⟩) ⟨fun a U g mk q => by obtain ⟨q0, q1, qP, qK, qD⟩ := q; exact ⟨q0, q1, qP, va_K.moved (u := U) (U := U.calling g mk a) (Vm.Alike.refl U.vm) qK, qD⟩, va_recv hKc hPc (ci := 0) (q0 := 0) rfl rfl, fun U hU hW => ⟨rfl, by rw [hU], by rw [hU]; exact hPc, va_K.moved hW.alike hKc, hDc.weaken (fun _ _ _ _ => trivial)⟩⟩ rfl rfl hl.1 rfl (lv_room (Nat.le_of_ble_eq_true rfl)) dX0_countSplits_44 ⟨Nat.zero_le _, Nat.zero_le _⟩) hS (fun q _ h => hFc q h) hFc (fun r_44 uu_ t H1 locs ht hvm hw hB hz1 hk1 hS => ?_)
        replace hw := hw.symm
        subst hw
        obtain ⟨hP1, -, hD1⟩ := hB
        rw [ht] at hP1
        obtain ⟨hP, hD⟩ := va_join (wr := []) (w1 := (wX0 cy h q2 q3 q4 q5 q6 q7 q8 q9 c0 c1 c2 c3 c4 c5 c6 c7 c8 c9 c10 c11)) hP hD [0, 1, 2, 3, 4, 5, 6, 7, 8] [] rfl rfl (by decide) (by decide) hk1 hFc hP1 hD1
        clear hk1 hz1 hP1 hD1 ht hPc hDc hFc
        generalize H1 = H at hP hS ⊢
        have hP : va_P (dC, dI) vwCl (wX0 cy h q2 q3 q4 q5 q6 q7 q8 q9 c0 c1 c2 c3 c4 c5 c6 c7 c8 c9 c10 c11) H := hP
        have hD : va_D A (wX0 cy h q2 q3 q4 q5 q6 q7 q8 q9 c0 c1 c2 c3 c4 c5 c6 c7 c8 c9 c10 c11) := hD
        obtain ⟨hi47, hf⟩ := z_gx_some hf
        refine va_iast hx hb hK hP hD hS 6 0 rfl rfl hi47 dX0_countSplits_47 (fun H locs hP hD hS => ?_)
        have hP : va_P (dC, dI) vwCl (wX0 cy h q2 q3 q4 q5 q6 q7 q8 q9 c0 c1 c2 c3 c4 c5 c6 (upd c7 (x4).toNatClampNeg u44) c8 c9 c10 c11) H := hP
        have hD : va_D A (wX0 cy h q2 q3 q4 q5 q6 q7 q8 q9 c0 c1 c2 c3 c4 c5 c6 (upd c7 (x4).toNatClampNeg u44) c8 c9 c10 c11) := hD
        refine lv_iinc (v := x4 + (-1 : Int32)) (lv' := [(4, .int (x4 + (-1 : Int32))), (0, .ref h), (1, .int x1), (2, .int x2), (3, .int x3)]) hx hb dX0_countSplits_48 hl (k := 4) rfl rfl (by decide) rfl (fun ls hl => ?_)
        refine lv_goto (tgt := 30) hx hb dX0_countSplits_51 (by decide) ?_
        exact ih x1 x2 x3 (x4 + (-1 : Int32)) (upd c7 (x4).toNatClampNeg u44) _ _ _ hf hP hD hS (lv_sub hl [1, 2, 3, 4, 0] rfl)
  have B22 : ∀ n : Nat, ∀ (x1 x2 x3 : Int32) (c7 : Nat → Int32) (H : Heap) (locs : List Loc) (ls : Array Slot), f_X0_countSplits_b22 N c0 c6 n x1 x2 x3 c7 = some res → va_P (dC, dI) vwCl (wX0 cy h q2 q3 q4 q5 q6 q7 q8 q9 c0 c1 c2 c3 c4 c5 c6 c7 c8 c9 c10 c11) H → va_D A (wX0 cy h q2 q3 q4 q5 q6 q7 q8 q9 c0 c1 c2 c3 c4 c5 c6 c7 c8 c9 c10 c11) → va_S A s.heap H locs → lv_has ls 5 [(0, .ref h), (1, .int x1), (2, .int x2), (3, .int x3)] → W p l e rm_X0_countSplits s m ([.ref h, .int a1] : List Value).toArray below meth c H locs 0 0 (MQ below (z_qI dC dI cy res.1 (wX0 cy h q2 q3 q4 q5 q6 q7 q8 q9 c0 c1 c2 c3 c4 c5 c6 res.2 c8 c9 c10 c11) A) ([.ref h, .int a1] : List Value).toArray s 0 0 A) (F0 m 22 ls []) := by
    clear hf hl hP hD hS
    intro n
    induction n with
    | zero =>
      intro x1 x2 x3 c7 H locs ls hf hP hD hS hl
      rw [f_X0_countSplits_b22] at hf
      cases hf
    | succ n ih =>
      intro x1 x2 x3 c7 H locs ls hf hP hD hS hl
      rw [f_X0_countSplits_b22] at hf
      refine lv_iload_n hx hb dX0_countSplits_22 rfl (lv_at hl 3 rfl) ?_
      refine lv_iload_n hx hb dX0_countSplits_23 rfl (lv_at hl 1 rfl) ?_
      refine lv_icmp_ge (tgt := 67) hx hb dX0_countSplits_24 (by decide) (fun c_24 => ?_) (fun c_24 => ?_)
      · replace hf := (if_pos c_24).symm.trans hf
        refine lv_aload_n hx hb dX0_countSplits_67 rfl (lv_at hl 0 rfl) ?_
        refine va_get (D := (dC, dI)) (ci := 0) (v := .ref q7) (C := RX0) (T := TX0) (N := 12) hx hb hts (by decide +kernel) hown hK hP 0 rfl rfl 7 (by decide) (hts (.fieldLink RX0 25 "GiftLots" "splits" "[I") (by decide +kernel)) (fun _ h9 => h9) rfl dX0_countSplits_68 ?_
        refine lv_iload_n hx hb dX0_countSplits_71 rfl (lv_at hl 2 rfl) ?_
        obtain ⟨hi72, hf⟩ := z_gx_some hf
        refine va_iald hx hb hK hP 6 0 rfl rfl hi72 dX0_countSplits_72 ?_
        have hres := Option.some.inj hf
        subst hres
        have hP9 := hP.sub (ws' := (wX0 cy h q2 q3 q4 q5 q6 q7 q8 q9 c0 c1 c2 c3 c4 c5 c6 c7 c8 c9 c10 c11)) [0, 1, 2, 3, 4, 5, 6, 7, 8] rfl
        have hD9 := hD.sub (ws' := (wX0 cy h q2 q3 q4 q5 q6 q7 q8 q9 c0 c1 c2 c3 c4 c5 c6 c7 c8 c9 c10 c11)) [0, 1, 2, 3, 4, 5, 6, 7, 8] (by decide) rfl
        have hK9 := hK.sub (tys' := [(cy, .int)]) [0] rfl
        exact W.iret (v := c7 (x2).toNatClampNeg) hx hb hr (fun t ht hW => ⟨⟨c7 (x2).toNatClampNeg, (), rfl, rfl, by rw [ht]; exact hP9, va_K.moved hW.alike hK9, hD9⟩, hS.F ht⟩) hS.2.2 dX0_countSplits_73
      · replace hf := (if_neg c_24).symm.trans hf
        refine lv_iload_n hx hb dX0_countSplits_27 rfl (lv_at hl 2 rfl) ?_
        refine lv_istore (lv' := [(4, .int x2), (0, .ref h), (1, .int x1), (2, .int x2), (3, .int x3)]) hx hb dX0_countSplits_28 hl (by decide) rfl (fun ls hl => ?_)
        exact B30 (f_X0_countSplits_b22 N c0 c6 n) ih N x1 x2 x3 x2 c7 _ _ _ hf hP hD hS (lv_sub hl [1, 2, 3, 4, 0] rfl)
  unfold f_X0_countSplits at hf
  refine lv_aload_n hx hb dX0_countSplits_0 rfl (lv_at hl 0 rfl) ?_
  obtain ⟨u1, hu1, hf⟩ := z_ob_some hf
  have hPc := hP.sub (ws' := (wX0 cy h q2 q3 q4 q5 q6 q7 q8 q9 c0 c1 c2 c3 c4 c5 c6 c7 c8 c9 c10 c11)) [0, 1, 2, 3, 4, 5, 6, 7, 8] rfl
  have hDc := hD.sub (ws' := (wX0 cy h q2 q3 q4 q5 q6 q7 q8 q9 c0 c1 c2 c3 c4 c5 c6 c7 c8 c9 c10 c11)) [0, 1, 2, 3, 4, 5, 6, 7, 8] (by decide) rfl
  have hKc := hK.sub (tys' := [(cy, .int)]) [0] rfl
  have hFc := va_free (wc := (wX0 cy h q2 q3 q4 q5 q6 q7 q8 q9 c0 c1 c2 c3 c4 c5 c6 c7 c8 c9 c10 c11)) hD hS hA [0, 1, 2, 3, 4, 5, 6, 7, 8] rfl
  refine va_calli (va_runV (As := []) (rest := []) ⟨hx, hb, hml, hown, hts⟩ (c_X0_everyone N l dC dI cy h q2 q3 q4 q5 q6 q7 q8 q9 s.heap.size c0 c1 c2 c3 c4 c5 c6 c7 c8 c9 c10 c11 u1 hu1) (cwV 0 hts gX0_countSplits_X0_everyone rfl rfl rfl (by decide +kernel) ⟨Nat.le_of_ble_eq_true rfl, Nat.le_of_ble_eq_true rfl⟩) ⟨fun a U g mk q => by obtain ⟨q0, q1, qP, qK, qD⟩ := q; exact ⟨q0, q1, qP, va_K.moved (u := U) (U := U.calling g mk a) (Vm.Alike.refl U.vm) qK, qD⟩, va_recv hKc hPc (ci := 0) (q0 := 0) rfl rfl, fun U hU hW => ⟨rfl, by rw [hU], by rw [hU]; exact hPc, va_K.moved hW.alike hKc, hDc.weaken (fun _ _ _ _ => trivial)⟩⟩ rfl rfl hl.1 rfl (lv_room (Nat.le_of_ble_eq_true rfl)) dX0_countSplits_1 ⟨Nat.zero_le _, Nat.zero_le _⟩) hS (fun q _ h => hFc q h) hFc (fun r_1 uu_ t H1 locs ht hvm hw hB hz1 hk1 hS => ?_)
  replace hw := hw.symm
  subst hw
  obtain ⟨hP1, -, hD1⟩ := hB
  rw [ht] at hP1
  obtain ⟨hP, hD⟩ := va_join (wr := []) (w1 := (wX0 cy h q2 q3 q4 q5 q6 q7 q8 q9 c0 c1 c2 c3 c4 c5 c6 c7 c8 c9 c10 c11)) hP hD [0, 1, 2, 3, 4, 5, 6, 7, 8] [] rfl rfl (by decide) (by decide) hk1 hFc hP1 hD1
  clear hk1 hz1 hP1 hD1 ht hPc hDc hFc
  generalize H1 = H at hP hS ⊢
  have hP : va_P (dC, dI) vwCl (wX0 cy h q2 q3 q4 q5 q6 q7 q8 q9 c0 c1 c2 c3 c4 c5 c6 c7 c8 c9 c10 c11) H := hP
  have hD : va_D A (wX0 cy h q2 q3 q4 q5 q6 q7 q8 q9 c0 c1 c2 c3 c4 c5 c6 c7 c8 c9 c10 c11) := hD
  refine lv_istore_n (lv' := [(2, .int u1), (0, .ref h), (1, .int a1)]) hx hb dX0_countSplits_4 rfl hl (by decide) rfl (fun ls hl => ?_)
  refine lv_aload_n hx hb dX0_countSplits_5 rfl (lv_at hl 1 rfl) ?_
  refine va_get (D := (dC, dI)) (ci := 0) (v := .ref q7) (C := RX0) (T := TX0) (N := 12) hx hb hts (by decide +kernel) hown hK hP 0 rfl rfl 7 (by decide) (hts (.fieldLink RX0 25 "GiftLots" "splits" "[I") (by decide +kernel)) (fun _ h9 => h9) rfl dX0_countSplits_6 ?_
  refine lv_iconst (v := (0 : Int32)) hx hb dX0_countSplits_9 (by decide) ?_
  have hPc := hP.sub (ws' := [(q7, .inl (cy, 256, .inl c7))]) [6] rfl
  have hDc := hD.sub (ws' := [(q7, .inl (cy, 256, .inl c7))]) [6] (by decide) rfl
  have hKc := hK.sub (tys' := [(cy, .int)]) [0] rfl
  have hFc := va_free (wc := [(q7, .inl (cy, 256, .inl c7))]) hD hS hA [6] rfl
  refine va_callv (va_runS (As := [.ref q7, .int (0 : Int32)]) (rest := []) ⟨hx, hb, hml, hown, hts⟩ (c_fill l dC dI cy q7 256 (by decide) H.size c7 (0 : Int32)) (va_cwS 2 hts gX0_countSplits_J7_fill_53178 rfl rfl rfl (by decide +kernel) ⟨Nat.le_of_ble_eq_true rfl, Nat.le_of_ble_eq_true rfl⟩) ⟨fun a U g mk q => by obtain ⟨q0, q1, qP, qK, qD⟩ := q; exact ⟨q0, q1, qP, va_K.moved (u := U) (U := U.calling g mk a) (Vm.Alike.refl U.vm) qK, qD⟩, fun U hU hW => ⟨rfl, by rw [hU], by rw [hU]; exact hPc, va_K.moved hW.alike hKc, hDc.weaken (fun _ _ _ _ => trivial)⟩⟩ rfl rfl hl.1 rfl (lv_room (Nat.le_of_ble_eq_true rfl)) dX0_countSplits_10 ⟨Nat.zero_le _, Nat.zero_le _⟩) hS (fun q _ h => hFc q h) hFc (fun uu_ t H1 locs ht hvm hw hB hz1 hk1 hS => ?_)
  obtain ⟨hP1, -, hD1⟩ := hB
  rw [ht] at hP1
  obtain ⟨hP, hD⟩ := va_join (wr := [(h, .inr (0, [.int c0, .int c1, .ref q2, .ref q3, .ref q4, .ref q5, .ref q6, .ref q7, .ref q8, .ref q9, .int c10, .int c11])), (q2, .inl (cy, 8, .inl c2)), (q3, .inl (cy, 8, .inl c3)), (q4, .inl (cy, 8, .inl c4)), (q5, .inl (cy, 2048, .inl c5)), (q6, .inl (cy, 256, .inl c6)), (q8, .inl (cy, 8, .inl c8)), (q9, .inl (cy, 8, .inl c9))]) (w1 := [(q7, .inl (cy, 256, .inl (z_fl 256 c7 (0 : Int32))))]) hP hD [6] [0, 1, 2, 3, 4, 5, 7, 8] rfl rfl (by decide) (by decide) hk1 hFc hP1 hD1
  clear hk1 hz1 hP1 hD1 ht hPc hDc hFc
  generalize H1 = H at hP hS ⊢
  have hP := hP.sub (ws' := (wX0 cy h q2 q3 q4 q5 q6 q7 q8 q9 c0 c1 c2 c3 c4 c5 c6 (z_fl 256 c7 (0 : Int32)) c8 c9 c10 c11)) [0, 1, 2, 3, 4, 5, 8, 6, 7] rfl
  have hD := hD.sub (ws' := (wX0 cy h q2 q3 q4 q5 q6 q7 q8 q9 c0 c1 c2 c3 c4 c5 c6 (z_fl 256 c7 (0 : Int32)) c8 c9 c10 c11)) [0, 1, 2, 3, 4, 5, 8, 6, 7] (by decide) rfl
  refine lv_aload_n hx hb dX0_countSplits_13 rfl (lv_at hl 1 rfl) ?_
  refine va_get (D := (dC, dI)) (ci := 0) (v := .ref q7) (C := RX0) (T := TX0) (N := 12) hx hb hts (by decide +kernel) hown hK hP 0 rfl rfl 7 (by decide) (hts (.fieldLink RX0 25 "GiftLots" "splits" "[I") (by decide +kernel)) (fun _ h9 => h9) rfl dX0_countSplits_14 ?_
  refine lv_iconst (v := (0 : Int32)) hx hb dX0_countSplits_17 (by decide) ?_
  refine lv_iconst (v := (1 : Int32)) hx hb dX0_countSplits_18 (by decide) ?_
  obtain ⟨hi19, hf⟩ := z_gx_some hf
  refine va_iast hx hb hK hP hD hS 6 0 rfl rfl hi19 dX0_countSplits_19 (fun H locs hP hD hS => ?_)
  have hP : va_P (dC, dI) vwCl (wX0 cy h q2 q3 q4 q5 q6 q7 q8 q9 c0 c1 c2 c3 c4 c5 c6 (upd (z_fl 256 c7 (0 : Int32)) ((0 : Int32)).toNatClampNeg (1 : Int32)) c8 c9 c10 c11) H := hP
  have hD : va_D A (wX0 cy h q2 q3 q4 q5 q6 q7 q8 q9 c0 c1 c2 c3 c4 c5 c6 (upd (z_fl 256 c7 (0 : Int32)) ((0 : Int32)).toNatClampNeg (1 : Int32)) c8 c9 c10 c11) := hD
  refine lv_iconst (v := (0 : Int32)) hx hb dX0_countSplits_20 (by decide) ?_
  refine lv_istore_n (lv' := [(3, .int (0 : Int32)), (2, .int u1), (0, .ref h), (1, .int a1)]) hx hb dX0_countSplits_21 rfl hl (by decide) rfl (fun ls hl => ?_)
  exact B22 N a1 u1 (0 : Int32) (upd (z_fl 256 c7 (0 : Int32)) ((0 : Int32)).toNatClampNeg (1 : Int32)) _ _ _ hf hP hD hS (lv_sub hl [2, 3, 1, 0] rfl)

set_option maxRecDepth 20000 in
theorem ggX0_rounds_X0_openRows : GoodIn wsX0_rounds wsX0_openRows := goodIn_r _ [6, 7, 8, 9, 10, 11, 12, 54, 55, 56, 57, 58, 59, 60, 61, 62, 63, 64, 65] (by decide +kernel) (by decide +kernel)
set_option maxRecDepth 20000 in
theorem gX0_rounds_X0_openRows : GoodIn wsX0_rounds (wsV RX0 60 RX0 yX0_openRows wsX0_openRows) := goodIn_app (goodIn_of _ (by decide +kernel)) ggX0_rounds_X0_openRows
set_option maxRecDepth 20000 in
theorem ggX0_rounds_X0_closeRounds : GoodIn wsX0_rounds wsX0_closeRounds := goodIn_r _ [16, 17, 18, 19, 20, 21, 22, 5, 23, 24, 25, 26, 27, 28, 29, 30, 31, 32, 33, 34, 35, 36, 37, 8, 38, 39, 40, 41, 42, 43, 44, 54, 55, 56, 57, 58, 59, 60, 61, 62, 63, 64, 65] (by decide +kernel) (by decide +kernel)
set_option maxRecDepth 20000 in
theorem gX0_rounds_X0_closeRounds : GoodIn wsX0_rounds (wsV RX0 73 RX0 yX0_closeRounds wsX0_closeRounds) := goodIn_app (goodIn_of _ (by decide +kernel)) ggX0_rounds_X0_closeRounds
set_option maxRecDepth 20000 in
theorem ggX0_rounds_X0_countSplits : GoodIn wsX0_rounds wsX0_countSplits := goodIn_r _ [48, 49, 20, 21, 22, 5, 23, 18, 24, 25, 26, 27, 50, 51, 52, 53, 19, 54, 55, 56, 57, 58, 59, 60, 61, 62, 63, 64, 65] (by decide +kernel) (by decide +kernel)
set_option maxRecDepth 20000 in
theorem gX0_rounds_X0_countSplits : GoodIn wsX0_rounds (wsV RX0 76 RX0 yX0_countSplits wsX0_countSplits) := goodIn_app (goodIn_of _ (by decide +kernel)) ggX0_rounds_X0_countSplits
theorem dX0_rounds_0 : decode cX0_rounds 0 = .ok (.iload_n 1, 1) := by decide +kernel
theorem dX0_rounds_1 : decode cX0_rounds 1 = .ok (.iconst 1, 1) := by decide +kernel
theorem dX0_rounds_2 : decode cX0_rounds 2 = .ok (.if_icmp .lt 8, 3) := by decide +kernel
theorem dX0_rounds_5 : decode cX0_rounds 5 = .ok (.iload_n 1, 1) := by decide +kernel
theorem dX0_rounds_6 : decode cX0_rounds 6 = .ok (.iconst 4, 1) := by decide +kernel
theorem dX0_rounds_7 : decode cX0_rounds 7 = .ok (.if_icmp .le 5, 3) := by decide +kernel
theorem dX0_rounds_10 : decode cX0_rounds 10 = .ok (.iconst 0, 1) := by decide +kernel
theorem dX0_rounds_11 : decode cX0_rounds 11 = .ok (.ireturn, 1) := by decide +kernel
theorem dX0_rounds_12 : decode cX0_rounds 12 = .ok (.aload_n 0, 1) := by decide +kernel
theorem dX0_rounds_13 : decode cX0_rounds 13 = .ok (.invokevirtual 60, 3) := by decide +kernel
theorem dX0_rounds_16 : decode cX0_rounds 16 = .ok (.aload_n 0, 1) := by decide +kernel
theorem dX0_rounds_17 : decode cX0_rounds 17 = .ok (.aload_n 0, 1) := by decide +kernel
theorem dX0_rounds_18 : decode cX0_rounds 18 = .ok (.getfield 57, 3) := by decide +kernel
theorem dX0_rounds_21 : decode cX0_rounds 21 = .ok (.invokevirtual 73, 3) := by decide +kernel
theorem dX0_rounds_24 : decode cX0_rounds 24 = .ok (.aload_n 0, 1) := by decide +kernel
theorem dX0_rounds_25 : decode cX0_rounds 25 = .ok (.iload_n 1, 1) := by decide +kernel
theorem dX0_rounds_26 : decode cX0_rounds 26 = .ok (.invokevirtual 76, 3) := by decide +kernel
theorem dX0_rounds_29 : decode cX0_rounds 29 = .ok (.ireturn, 1) := by decide +kernel
abbrev rm_X0_rounds : Room := { frames := 3, cells := 0, slots := 0, locals := 79 }
set_option maxHeartbeats 4000000 in
set_option maxRecDepth 100000 in
theorem c_X0_rounds (N : Nat) (l : Launch) (dC : Nat → ClassId) (dI : Nat → Nat → Nat) (cy : ClassId) (h q2 q3 q4 q5 q6 q7 q8 q9 : Nat) (sz : Nat) (c0 : Int32) (c1 : Int32) (c2 : Nat → Int32) (c3 : Nat → Int32) (c4 : Nat → Int32) (c5 : Nat → Int32) (c6 : Nat → Int32) (c7 : Nat → Int32) (c8 : Nat → Int32) (c9 : Nat → Int32) (c10 : Int32) (c11 : Int32) (a1 : Int32) (res : Int32 × (Nat → Int32) × (Nat → Int32) × (Nat → Int32) × (Nat → Int32)) (hf : f_X0_rounds N a1 c0 c1 c2 c4 c5 c6 c7 = some res) : Met l yX0_rounds wsX0_rounds rm_X0_rounds (va_Pc [.ref h, .int a1] (fun U => U.heap.size = sz ∧ va_P (dC, dI) vwCl (wX0 cy h q2 q3 q4 q5 q6 q7 q8 q9 c0 c1 c2 c3 c4 c5 c6 c7 c8 c9 c10 c11) U.heap ∧ va_K (dC, dI) vwCl [(cy, .int)] U ∧ va_D (fun _ => True) (wX0 cy h q2 q3 q4 q5 q6 q7 q8 q9 c0 c1 c2 c3 c4 c5 c6 c7 c8 c9 c10 c11))) (z_qI dC dI cy res.1 (wX0 cy h q2 q3 q4 q5 q6 q7 q8 q9 c0 c1 c2 c3 res.2.1 res.2.2.1 res.2.2.2.1 res.2.2.2.2 c8 c9 c10 c11) (va_A (wX0 cy h q2 q3 q4 q5 q6 q7 q8 q9 c0 c1 c2 c3 c4 c5 c6 c7 c8 c9 c10 c11) sz)) 0 0 (va_A (wX0 cy h q2 q3 q4 q5 q6 q7 q8 q9 c0 c1 c2 c3 c4 c5 c6 c7 c8 c9 c10 c11) sz) := by
  refine Met.ofW (cc := cX0_rounds) (maxL := 2) (ret := (some .int)) (by decide) rfl ?_
  intro p e s m args below meth c s₁ B hml hv
  obtain ⟨rfl, hsz, hP, hK, hD0⟩ := hv
  have hx := B.exec
  have hb := B.bytes
  have hr := B.returns
  have hts := atoms_spec (ws := wsX0_rounds) B.pre
  have hown : s.vm.findClass RX0 = some m.cls := findClass_of_methodNamed B.named
  have hlocks := B.notSynchronized
  subst hsz
  have hD := hD0.self (sz := s.heap.size)
  generalize hAe : va_A (wX0 cy h q2 q3 q4 q5 q6 q7 q8 q9 c0 c1 c2 c3 c4 c5 c6 c7 c8 c9 c10 c11) s.heap.size = A at hD ⊢
  have hA : ∀ q : Nat, s.heap.size ≤ q → A q := fun q h => by rw [← hAe]; exact Or.inr h
  have hS : va_S A s.heap s.heap [] := va_S.rf
  have hP : va_P (dC, dI) vwCl (wX0 cy h q2 q3 q4 q5 q6 q7 q8 q9 c0 c1 c2 c3 c4 c5 c6 c7 c8 c9 c10 c11) s.heap := hP
  have hl := lv_entry ([.ref h, .int a1]) (n := 2) (Nat.le_of_ble_eq_true rfl)
  rw [lg_entry_eq]
  generalize (lg_sl ([.ref h, .int a1]) ++ List.replicate (2 - (lg_sl ([.ref h, .int a1])).length) Slot.unset).toArray = ls at hl ⊢
  have hl : lv_has ls 2 [(0, .ref h), (1, .int a1)] := hl
  unfold f_X0_rounds at hf
  refine lv_iload_n hx hb dX0_rounds_0 rfl (lv_at hl 1 rfl) ?_
  refine lv_iconst (v := (1 : Int32)) hx hb dX0_rounds_1 (by decide) ?_
  refine lv_icmp_lt (tgt := 10) hx hb dX0_rounds_2 (by decide) (fun c_2 => ?_) (fun c_2 => ?_)
  · replace hf := (if_pos c_2).symm.trans hf
    refine lv_iconst (v := (0 : Int32)) hx hb dX0_rounds_10 (by decide) ?_
    have hres := Option.some.inj hf
    subst hres
    have hP9 := hP.sub (ws' := (wX0 cy h q2 q3 q4 q5 q6 q7 q8 q9 c0 c1 c2 c3 c4 c5 c6 c7 c8 c9 c10 c11)) [0, 1, 2, 3, 4, 5, 6, 7, 8] rfl
    have hD9 := hD.sub (ws' := (wX0 cy h q2 q3 q4 q5 q6 q7 q8 q9 c0 c1 c2 c3 c4 c5 c6 c7 c8 c9 c10 c11)) [0, 1, 2, 3, 4, 5, 6, 7, 8] (by decide) rfl
    have hK9 := hK.sub (tys' := [(cy, .int)]) [0] rfl
    exact W.iret (v := (0 : Int32)) hx hb hr (fun t ht hW => ⟨⟨(0 : Int32), (), rfl, rfl, by rw [ht]; exact hP9, va_K.moved hW.alike hK9, hD9⟩, hS.F ht⟩) hS.2.2 dX0_rounds_11
  · replace hf := (if_neg c_2).symm.trans hf
    refine lv_iload_n hx hb dX0_rounds_5 rfl (lv_at hl 1 rfl) ?_
    refine lv_iconst (v := (4 : Int32)) hx hb dX0_rounds_6 (by decide) ?_
    refine lv_icmp_le (tgt := 12) hx hb dX0_rounds_7 (by decide) (fun c_7 => ?_) (fun c_7 => ?_)
    · replace hf := (if_pos c_7).symm.trans hf
      refine lv_aload_n hx hb dX0_rounds_12 rfl (lv_at hl 0 rfl) ?_
      obtain ⟨u13, hu13, hf⟩ := z_ob_some hf
      have hPc := hP.sub (ws' := (wX0 cy h q2 q3 q4 q5 q6 q7 q8 q9 c0 c1 c2 c3 c4 c5 c6 c7 c8 c9 c10 c11)) [0, 1, 2, 3, 4, 5, 6, 7, 8] rfl
      have hDc := hD.sub (ws' := (wX0 cy h q2 q3 q4 q5 q6 q7 q8 q9 c0 c1 c2 c3 c4 c5 c6 c7 c8 c9 c10 c11)) [0, 1, 2, 3, 4, 5, 6, 7, 8] (by decide) rfl
      have hKc := hK.sub (tys' := [(cy, .int)]) [0] rfl
      have hFc := va_free (wc := (wX0 cy h q2 q3 q4 q5 q6 q7 q8 q9 c0 c1 c2 c3 c4 c5 c6 c7 c8 c9 c10 c11)) hD hS hA [0, 1, 2, 3, 4, 5, 6, 7, 8] rfl
      refine va_callv (va_runV (As := []) (rest := []) ⟨hx, hb, hml, hown, hts⟩ (c_X0_openRows N l dC dI cy h q2 q3 q4 q5 q6 q7 q8 q9 s.heap.size c0 c1 c2 c3 c4 c5 c6 c7 c8 c9 c10 c11 u13 hu13) (cwV 0 hts gX0_rounds_X0_openRows rfl rfl rfl (by decide +kernel) ⟨Nat.le_of_ble_eq_true rfl, Nat.le_of_ble_eq_true rfl⟩) ⟨fun a U g mk q => by obtain ⟨q0, q1, qP, qK, qD⟩ := q; exact ⟨q0, q1, qP, va_K.moved (u := U) (U := U.calling g mk a) (Vm.Alike.refl U.vm) qK, qD⟩, va_recv hKc hPc (ci := 0) (q0 := 0) rfl rfl, fun U hU hW => ⟨rfl, by rw [hU], by rw [hU]; exact hPc, va_K.moved hW.alike hKc, hDc.weaken (fun _ _ _ _ => trivial)⟩⟩ rfl rfl hl.1 rfl (lv_room (Nat.le_of_ble_eq_true rfl)) dX0_rounds_13 ⟨Nat.zero_le _, Nat.zero_le _⟩) hS (fun q _ h => hFc q h) hFc (fun uu_ t H1 locs ht hvm hw hB hz1 hk1 hS => ?_)
      obtain ⟨hP1, -, hD1⟩ := hB
      rw [ht] at hP1
      obtain ⟨hP, hD⟩ := va_join (wr := []) (w1 := (wX0 cy h q2 q3 q4 q5 q6 q7 q8 q9 c0 c1 c2 c3 u13 c5 c6 c7 c8 c9 c10 c11)) hP hD [0, 1, 2, 3, 4, 5, 6, 7, 8] [] rfl rfl (by decide) (by decide) hk1 hFc hP1 hD1
      clear hk1 hz1 hP1 hD1 ht hPc hDc hFc
      generalize H1 = H at hP hS ⊢
      have hP : va_P (dC, dI) vwCl (wX0 cy h q2 q3 q4 q5 q6 q7 q8 q9 c0 c1 c2 c3 u13 c5 c6 c7 c8 c9 c10 c11) H := hP
      have hD : va_D A (wX0 cy h q2 q3 q4 q5 q6 q7 q8 q9 c0 c1 c2 c3 u13 c5 c6 c7 c8 c9 c10 c11) := hD
      refine lv_aload_n hx hb dX0_rounds_16 rfl (lv_at hl 0 rfl) ?_
      refine lv_aload_n hx hb dX0_rounds_17 rfl (lv_at hl 0 rfl) ?_
      refine va_get (D := (dC, dI)) (ci := 0) (v := .int c1) (C := RX0) (T := TX0) (N := 12) hx hb hts (by decide +kernel) hown hK hP 0 rfl rfl 1 (by decide) (hts (.fieldLink RX0 57 "GiftLots" "shortest" "I") (by decide +kernel)) (fun _ h9 => h9) rfl dX0_rounds_18 ?_
      obtain ⟨u21, hu21, hf⟩ := z_ob_some hf
      have hPc := hP.sub (ws' := (wX0 cy h q2 q3 q4 q5 q6 q7 q8 q9 c0 c1 c2 c3 u13 c5 c6 c7 c8 c9 c10 c11)) [0, 1, 2, 3, 4, 5, 6, 7, 8] rfl
      have hDc := hD.sub (ws' := (wX0 cy h q2 q3 q4 q5 q6 q7 q8 q9 c0 c1 c2 c3 u13 c5 c6 c7 c8 c9 c10 c11)) [0, 1, 2, 3, 4, 5, 6, 7, 8] (by decide) rfl
      have hKc := hK.sub (tys' := [(cy, .int)]) [0] rfl
      have hFc := va_free (wc := (wX0 cy h q2 q3 q4 q5 q6 q7 q8 q9 c0 c1 c2 c3 u13 c5 c6 c7 c8 c9 c10 c11)) hD hS hA [0, 1, 2, 3, 4, 5, 6, 7, 8] rfl
      refine va_callv (va_runV (As := [.int c1]) (rest := []) ⟨hx, hb, hml, hown, hts⟩ (c_X0_closeRounds N l dC dI cy h q2 q3 q4 q5 q6 q7 q8 q9 H.size c0 c1 c2 c3 u13 c5 c6 c7 c8 c9 c10 c11 c1 u21 hu21) (cwV 1 hts gX0_rounds_X0_closeRounds rfl rfl rfl (by decide +kernel) ⟨Nat.le_of_ble_eq_true rfl, Nat.le_of_ble_eq_true rfl⟩) ⟨fun a U g mk q => by obtain ⟨q0, q1, qP, qK, qD⟩ := q; exact ⟨q0, q1, qP, va_K.moved (u := U) (U := U.calling g mk a) (Vm.Alike.refl U.vm) qK, qD⟩, va_recv hKc hPc (ci := 0) (q0 := 0) rfl rfl, fun U hU hW => ⟨rfl, by rw [hU], by rw [hU]; exact hPc, va_K.moved hW.alike hKc, hDc.weaken (fun _ _ _ _ => trivial)⟩⟩ rfl rfl hl.1 rfl (lv_room (Nat.le_of_ble_eq_true rfl)) dX0_rounds_21 ⟨Nat.zero_le _, Nat.zero_le _⟩) hS (fun q _ h => hFc q h) hFc (fun uu_ t H1 locs ht hvm hw hB hz1 hk1 hS => ?_)
      obtain ⟨hP1, -, hD1⟩ := hB
      rw [ht] at hP1
      obtain ⟨hP, hD⟩ := va_join (wr := []) (w1 := (wX0 cy h q2 q3 q4 q5 q6 q7 q8 q9 c0 c1 c2 c3 u13 u21.1 u21.2 c7 c8 c9 c10 c11)) hP hD [0, 1, 2, 3, 4, 5, 6, 7, 8] [] rfl rfl (by decide) (by decide) hk1 hFc hP1 hD1
      clear hk1 hz1 hP1 hD1 ht hPc hDc hFc
      generalize H1 = H at hP hS ⊢
      have hP : va_P (dC, dI) vwCl (wX0 cy h q2 q3 q4 q5 q6 q7 q8 q9 c0 c1 c2 c3 u13 u21.1 u21.2 c7 c8 c9 c10 c11) H := hP
      have hD : va_D A (wX0 cy h q2 q3 q4 q5 q6 q7 q8 q9 c0 c1 c2 c3 u13 u21.1 u21.2 c7 c8 c9 c10 c11) := hD
      refine lv_aload_n hx hb dX0_rounds_24 rfl (lv_at hl 0 rfl) ?_
      refine lv_iload_n hx hb dX0_rounds_25 rfl (lv_at hl 1 rfl) ?_
      obtain ⟨u26, hu26, hf⟩ := z_ob_some hf
      have hPc := hP.sub (ws' := (wX0 cy h q2 q3 q4 q5 q6 q7 q8 q9 c0 c1 c2 c3 u13 u21.1 u21.2 c7 c8 c9 c10 c11)) [0, 1, 2, 3, 4, 5, 6, 7, 8] rfl
      have hDc := hD.sub (ws' := (wX0 cy h q2 q3 q4 q5 q6 q7 q8 q9 c0 c1 c2 c3 u13 u21.1 u21.2 c7 c8 c9 c10 c11)) [0, 1, 2, 3, 4, 5, 6, 7, 8] (by decide) rfl
      have hKc := hK.sub (tys' := [(cy, .int)]) [0] rfl
      have hFc := va_free (wc := (wX0 cy h q2 q3 q4 q5 q6 q7 q8 q9 c0 c1 c2 c3 u13 u21.1 u21.2 c7 c8 c9 c10 c11)) hD hS hA [0, 1, 2, 3, 4, 5, 6, 7, 8] rfl
      refine va_calli (va_runV (As := [.int a1]) (rest := []) ⟨hx, hb, hml, hown, hts⟩ (c_X0_countSplits N l dC dI cy h q2 q3 q4 q5 q6 q7 q8 q9 H.size c0 c1 c2 c3 u13 u21.1 u21.2 c7 c8 c9 c10 c11 a1 u26 hu26) (cwV 1 hts gX0_rounds_X0_countSplits rfl rfl rfl (by decide +kernel) ⟨Nat.le_of_ble_eq_true rfl, Nat.le_of_ble_eq_true rfl⟩) ⟨fun a U g mk q => by obtain ⟨q0, q1, qP, qK, qD⟩ := q; exact ⟨q0, q1, qP, va_K.moved (u := U) (U := U.calling g mk a) (Vm.Alike.refl U.vm) qK, qD⟩, va_recv hKc hPc (ci := 0) (q0 := 0) rfl rfl, fun U hU hW => ⟨rfl, by rw [hU], by rw [hU]; exact hPc, va_K.moved hW.alike hKc, hDc.weaken (fun _ _ _ _ => trivial)⟩⟩ rfl rfl hl.1 rfl (lv_room (Nat.le_of_ble_eq_true rfl)) dX0_rounds_26 ⟨Nat.zero_le _, Nat.zero_le _⟩) hS (fun q _ h => hFc q h) hFc (fun r_26 uu_ t H1 locs ht hvm hw hB hz1 hk1 hS => ?_)
      replace hw := hw.symm
      subst hw
      obtain ⟨hP1, -, hD1⟩ := hB
      rw [ht] at hP1
      obtain ⟨hP, hD⟩ := va_join (wr := []) (w1 := (wX0 cy h q2 q3 q4 q5 q6 q7 q8 q9 c0 c1 c2 c3 u13 u21.1 u21.2 u26.2 c8 c9 c10 c11)) hP hD [0, 1, 2, 3, 4, 5, 6, 7, 8] [] rfl rfl (by decide) (by decide) hk1 hFc hP1 hD1
      clear hk1 hz1 hP1 hD1 ht hPc hDc hFc
      generalize H1 = H at hP hS ⊢
      have hP : va_P (dC, dI) vwCl (wX0 cy h q2 q3 q4 q5 q6 q7 q8 q9 c0 c1 c2 c3 u13 u21.1 u21.2 u26.2 c8 c9 c10 c11) H := hP
      have hD : va_D A (wX0 cy h q2 q3 q4 q5 q6 q7 q8 q9 c0 c1 c2 c3 u13 u21.1 u21.2 u26.2 c8 c9 c10 c11) := hD
      have hres := Option.some.inj hf
      subst hres
      have hP9 := hP.sub (ws' := (wX0 cy h q2 q3 q4 q5 q6 q7 q8 q9 c0 c1 c2 c3 u13 u21.1 u21.2 u26.2 c8 c9 c10 c11)) [0, 1, 2, 3, 4, 5, 6, 7, 8] rfl
      have hD9 := hD.sub (ws' := (wX0 cy h q2 q3 q4 q5 q6 q7 q8 q9 c0 c1 c2 c3 u13 u21.1 u21.2 u26.2 c8 c9 c10 c11)) [0, 1, 2, 3, 4, 5, 6, 7, 8] (by decide) rfl
      have hK9 := hK.sub (tys' := [(cy, .int)]) [0] rfl
      exact W.iret (v := u26.1) hx hb hr (fun t ht hW => ⟨⟨u26.1, (), rfl, rfl, by rw [ht]; exact hP9, va_K.moved hW.alike hK9, hD9⟩, hS.F ht⟩) hS.2.2 dX0_rounds_29
    · replace hf := (if_neg c_7).symm.trans hf
      refine lv_iconst (v := (0 : Int32)) hx hb dX0_rounds_10 (by decide) ?_
      have hres := Option.some.inj hf
      subst hres
      have hP9 := hP.sub (ws' := (wX0 cy h q2 q3 q4 q5 q6 q7 q8 q9 c0 c1 c2 c3 c4 c5 c6 c7 c8 c9 c10 c11)) [0, 1, 2, 3, 4, 5, 6, 7, 8] rfl
      have hD9 := hD.sub (ws' := (wX0 cy h q2 q3 q4 q5 q6 q7 q8 q9 c0 c1 c2 c3 c4 c5 c6 c7 c8 c9 c10 c11)) [0, 1, 2, 3, 4, 5, 6, 7, 8] (by decide) rfl
      have hK9 := hK.sub (tys' := [(cy, .int)]) [0] rfl
      exact W.iret (v := (0 : Int32)) hx hb hr (fun t ht hW => ⟨⟨(0 : Int32), (), rfl, rfl, by rw [ht]; exact hP9, va_K.moved hW.alike hK9, hD9⟩, hS.F ht⟩) hS.2.2 dX0_rounds_11

set_option maxRecDepth 20000 in
theorem ggX0_narrow_X0_isOne : GoodIn wsX0_narrow wsX0_isOne := goodIn_r _ [6, 7, 11, 12, 13, 14, 15, 16, 17, 18, 19, 20, 21, 22] (by decide +kernel) (by decide +kernel)
set_option maxRecDepth 20000 in
theorem gX0_narrow_X0_isOne : GoodIn wsX0_narrow (wsV RX0 66 RX0 yX0_isOne wsX0_isOne) := goodIn_app (goodIn_of _ (by decide +kernel)) ggX0_narrow_X0_isOne
set_option maxRecDepth 20000 in
theorem ggX0_narrow_X0_bit : GoodIn wsX0_narrow wsX0_bit := goodIn_r _ [10] (by decide +kernel) (by decide +kernel)
set_option maxRecDepth 20000 in
theorem gX0_narrow_X0_bit : GoodIn wsX0_narrow (va_wsS RX0 50 yX0_bit wsX0_bit) := goodIn_app (goodIn_of _ (by decide +kernel)) ggX0_narrow_X0_bit
theorem dX0_narrow_0 : decode cX0_narrow 0 = .ok (.aload_n 0, 1) := by decide +kernel
theorem dX0_narrow_1 : decode cX0_narrow 1 = .ok (.iload_n 1, 1) := by decide +kernel
theorem dX0_narrow_2 : decode cX0_narrow 2 = .ok (.invokevirtual 66, 3) := by decide +kernel
theorem dX0_narrow_5 : decode cX0_narrow 5 = .ok (.ifCond .eq 16, 3) := by decide +kernel
theorem dX0_narrow_8 : decode cX0_narrow 8 = .ok (.aload_n 0, 1) := by decide +kernel
theorem dX0_narrow_9 : decode cX0_narrow 9 = .ok (.getfield 16, 3) := by decide +kernel
theorem dX0_narrow_12 : decode cX0_narrow 12 = .ok (.iload_n 1, 1) := by decide +kernel
theorem dX0_narrow_13 : decode cX0_narrow 13 = .ok (.dup2, 1) := by decide +kernel
theorem dX0_narrow_14 : decode cX0_narrow 14 = .ok (.iaload, 1) := by decide +kernel
theorem dX0_narrow_15 : decode cX0_narrow 15 = .ok (.iload_n 2, 1) := by decide +kernel
theorem dX0_narrow_16 : decode cX0_narrow 16 = .ok (.invokestatic 50, 3) := by decide +kernel
theorem dX0_narrow_19 : decode cX0_narrow 19 = .ok (.iand, 1) := by decide +kernel
theorem dX0_narrow_20 : decode cX0_narrow 20 = .ok (.iastore, 1) := by decide +kernel
theorem dX0_narrow_21 : decode cX0_narrow 21 = .ok (.return_, 1) := by decide +kernel
abbrev rm_X0_narrow : Room := { frames := 1, cells := 0, slots := 0, locals := 21 }
set_option maxHeartbeats 4000000 in
set_option maxRecDepth 100000 in
theorem c_X0_narrow (N : Nat) (l : Launch) (dC : Nat → ClassId) (dI : Nat → Nat → Nat) (cy : ClassId) (h q2 q3 q4 q5 q6 q7 q8 q9 : Nat) (sz : Nat) (c0 : Int32) (c1 : Int32) (c2 : Nat → Int32) (c3 : Nat → Int32) (c4 : Nat → Int32) (c5 : Nat → Int32) (c6 : Nat → Int32) (c7 : Nat → Int32) (c8 : Nat → Int32) (c9 : Nat → Int32) (c10 : Int32) (c11 : Int32) (a1 a2 : Int32) (res : (Nat → Int32)) (hf : f_X0_narrow N a1 a2 c0 c4 = some res) : Met l yX0_narrow wsX0_narrow rm_X0_narrow (va_Pc [.ref h, .int a1, .int a2] (fun U => U.heap.size = sz ∧ va_P (dC, dI) vwCl (wX0 cy h q2 q3 q4 q5 q6 q7 q8 q9 c0 c1 c2 c3 c4 c5 c6 c7 c8 c9 c10 c11) U.heap ∧ va_K (dC, dI) vwCl [(cy, .int)] U ∧ va_D (fun _ => True) (wX0 cy h q2 q3 q4 q5 q6 q7 q8 q9 c0 c1 c2 c3 c4 c5 c6 c7 c8 c9 c10 c11))) (z_qV dC dI cy (wX0 cy h q2 q3 q4 q5 q6 q7 q8 q9 c0 c1 c2 c3 res c5 c6 c7 c8 c9 c10 c11) (va_A (wX0 cy h q2 q3 q4 q5 q6 q7 q8 q9 c0 c1 c2 c3 c4 c5 c6 c7 c8 c9 c10 c11) sz)) 0 0 (va_A (wX0 cy h q2 q3 q4 q5 q6 q7 q8 q9 c0 c1 c2 c3 c4 c5 c6 c7 c8 c9 c10 c11) sz) := by
  refine Met.ofW (cc := cX0_narrow) (maxL := 3) (ret := none) (by decide) rfl ?_
  intro p e s m args below meth c s₁ B hml hv
  obtain ⟨rfl, hsz, hP, hK, hD0⟩ := hv
  have hx := B.exec
  have hb := B.bytes
  have hr := B.returns
  have hts := atoms_spec (ws := wsX0_narrow) B.pre
  have hown : s.vm.findClass RX0 = some m.cls := findClass_of_methodNamed B.named
  have hlocks := B.notSynchronized
  subst hsz
  have hD := hD0.self (sz := s.heap.size)
  generalize hAe : va_A (wX0 cy h q2 q3 q4 q5 q6 q7 q8 q9 c0 c1 c2 c3 c4 c5 c6 c7 c8 c9 c10 c11) s.heap.size = A at hD ⊢
  have hA : ∀ q : Nat, s.heap.size ≤ q → A q := fun q h => by rw [← hAe]; exact Or.inr h
  have hS : va_S A s.heap s.heap [] := va_S.rf
  have hP : va_P (dC, dI) vwCl (wX0 cy h q2 q3 q4 q5 q6 q7 q8 q9 c0 c1 c2 c3 c4 c5 c6 c7 c8 c9 c10 c11) s.heap := hP
  have hl := lv_entry ([.ref h, .int a1, .int a2]) (n := 3) (Nat.le_of_ble_eq_true rfl)
  rw [lg_entry_eq]
  generalize (lg_sl ([.ref h, .int a1, .int a2]) ++ List.replicate (3 - (lg_sl ([.ref h, .int a1, .int a2])).length) Slot.unset).toArray = ls at hl ⊢
  have hl : lv_has ls 3 [(0, .ref h), (1, .int a1), (2, .int a2)] := hl
  unfold f_X0_narrow at hf
  refine lv_aload_n hx hb dX0_narrow_0 rfl (lv_at hl 0 rfl) ?_
  refine lv_iload_n hx hb dX0_narrow_1 rfl (lv_at hl 1 rfl) ?_
  obtain ⟨u2, hu2, hf⟩ := z_ob_some hf
  have hPc := hP.sub (ws' := (wX0 cy h q2 q3 q4 q5 q6 q7 q8 q9 c0 c1 c2 c3 c4 c5 c6 c7 c8 c9 c10 c11)) [0, 1, 2, 3, 4, 5, 6, 7, 8] rfl
  have hDc := hD.sub (ws' := (wX0 cy h q2 q3 q4 q5 q6 q7 q8 q9 c0 c1 c2 c3 c4 c5 c6 c7 c8 c9 c10 c11)) [0, 1, 2, 3, 4, 5, 6, 7, 8] (by decide) rfl
  have hKc := hK.sub (tys' := [(cy, .int)]) [0] rfl
  have hFc := va_free (wc := (wX0 cy h q2 q3 q4 q5 q6 q7 q8 q9 c0 c1 c2 c3 c4 c5 c6 c7 c8 c9 c10 c11)) hD hS hA [0, 1, 2, 3, 4, 5, 6, 7, 8] rfl
  refine va_calli (va_runV (As := [.int a1]) (rest := []) ⟨hx, hb, hml, hown, hts⟩ (c_X0_isOne N l dC dI cy h q2 q3 q4 q5 q6 q7 q8 q9 s.heap.size c0 c1 c2 c3 c4 c5 c6 c7 c8 c9 c10 c11 a1 u2 hu2) (cwV 1 hts gX0_narrow_X0_isOne rfl rfl rfl (by decide +kernel) ⟨Nat.le_of_ble_eq_true rfl, Nat.le_of_ble_eq_true rfl⟩) ⟨fun a U g mk q => by obtain ⟨q0, q1, qP, qK, qD⟩ := q; exact ⟨q0, q1, qP, va_K.moved (u := U) (U := U.calling g mk a) (Vm.Alike.refl U.vm) qK, qD⟩, va_recv hKc hPc (ci := 0) (q0 := 0) rfl rfl, fun U hU hW => ⟨rfl, by rw [hU], by rw [hU]; exact hPc, va_K.moved hW.alike hKc, hDc.weaken (fun _ _ _ _ => trivial)⟩⟩ rfl rfl hl.1 rfl (lv_room (Nat.le_of_ble_eq_true rfl)) dX0_narrow_2 ⟨Nat.zero_le _, Nat.zero_le _⟩) hS (fun q _ h => hFc q h) hFc (fun r_2 uu_ t H1 locs ht hvm hw hB hz1 hk1 hS => ?_)
  replace hw := hw.symm
  subst hw
  obtain ⟨hP1, -, hD1⟩ := hB
  rw [ht] at hP1
  obtain ⟨hP, hD⟩ := va_join (wr := []) (w1 := (wX0 cy h q2 q3 q4 q5 q6 q7 q8 q9 c0 c1 c2 c3 c4 c5 c6 c7 c8 c9 c10 c11)) hP hD [0, 1, 2, 3, 4, 5, 6, 7, 8] [] rfl rfl (by decide) (by decide) hk1 hFc hP1 hD1
  clear hk1 hz1 hP1 hD1 ht hPc hDc hFc
  generalize H1 = H at hP hS ⊢
  have hP : va_P (dC, dI) vwCl (wX0 cy h q2 q3 q4 q5 q6 q7 q8 q9 c0 c1 c2 c3 c4 c5 c6 c7 c8 c9 c10 c11) H := hP
  have hD : va_D A (wX0 cy h q2 q3 q4 q5 q6 q7 q8 q9 c0 c1 c2 c3 c4 c5 c6 c7 c8 c9 c10 c11) := hD
  refine lv_if_eq (tgt := 21) hx hb dX0_narrow_5 (by decide) (fun c_5 => ?_) (fun c_5 => ?_)
  · replace hf := (if_pos c_5).symm.trans hf
    have hres := Option.some.inj hf
    subst hres
    have hP9 := hP.sub (ws' := (wX0 cy h q2 q3 q4 q5 q6 q7 q8 q9 c0 c1 c2 c3 c4 c5 c6 c7 c8 c9 c10 c11)) [0, 1, 2, 3, 4, 5, 6, 7, 8] rfl
    have hD9 := hD.sub (ws' := (wX0 cy h q2 q3 q4 q5 q6 q7 q8 q9 c0 c1 c2 c3 c4 c5 c6 c7 c8 c9 c10 c11)) [0, 1, 2, 3, 4, 5, 6, 7, 8] (by decide) rfl
    have hK9 := hK.sub (tys' := [(cy, .int)]) [0] rfl
    exact W.vret hx hb hr (fun t ht hW => ⟨⟨(), rfl, trivial, by rw [ht]; exact hP9, va_K.moved hW.alike hK9, hD9⟩, hS.F ht⟩) hS.2.2 dX0_narrow_21
  · replace hf := (if_neg c_5).symm.trans hf
    refine lv_aload_n hx hb dX0_narrow_8 rfl (lv_at hl 0 rfl) ?_
    refine va_get (D := (dC, dI)) (ci := 0) (v := .ref q4) (C := RX0) (T := TX0) (N := 12) hx hb hts (by decide +kernel) hown hK hP 0 rfl rfl 4 (by decide) (hts (.fieldLink RX0 16 "GiftLots" "rows" "[I") (by decide +kernel)) (fun _ h9 => h9) rfl dX0_narrow_9 ?_
    refine lv_iload_n hx hb dX0_narrow_12 rfl (lv_at hl 1 rfl) ?_
    refine lv_dup2_11 hx hb dX0_narrow_13 rfl rfl ?_
    obtain ⟨hi14, hf⟩ := z_gx_some hf
    refine va_iald hx hb hK hP 3 0 rfl rfl hi14 dX0_narrow_14 ?_
    refine lv_iload_n hx hb dX0_narrow_15 rfl (lv_at hl 2 rfl) ?_
    obtain ⟨u16, hu16, hf⟩ := z_ob_some hf
    have hPc := hP.sub (ws' := ([] : va_W)) [] rfl
    have hDc := hD.sub (ws' := ([] : va_W)) [] (by decide) rfl
    have hKc := hK.sub (tys' := [(cy, .int)]) [0] rfl
    have hFc := va_free (wc := ([] : va_W)) hD hS hA [] rfl
    refine va_calli (va_runS (As := [.int a2]) (rest := [.int (c4 (a1).toNatClampNeg), .int a1, .ref q4]) ⟨hx, hb, hml, hown, hts⟩ (c_X0_bit N l dC dI cy H.size a2 u16 hu16) (va_cwS 1 hts gX0_narrow_X0_bit rfl rfl rfl (by decide +kernel) ⟨Nat.le_of_ble_eq_true rfl, Nat.le_of_ble_eq_true rfl⟩) ⟨fun a U g mk q => by obtain ⟨q0, q1, qP, qK, qD⟩ := q; exact ⟨q0, q1, qP, va_K.moved (u := U) (U := U.calling g mk a) (Vm.Alike.refl U.vm) qK, qD⟩, fun U hU hW => ⟨rfl, by rw [hU], by rw [hU]; exact hPc, va_K.moved hW.alike hKc, hDc.weaken (fun _ _ _ _ => trivial)⟩⟩ rfl rfl hl.1 rfl (lv_room (Nat.le_of_ble_eq_true rfl)) dX0_narrow_16 ⟨Nat.zero_le _, Nat.zero_le _⟩) hS (fun q _ h => hFc q h) hFc (fun r_16 uu_ t H1 locs ht hvm hw hB hz1 hk1 hS => ?_)
    replace hw := hw.symm
    subst hw
    obtain ⟨hP1, -, hD1⟩ := hB
    rw [ht] at hP1
    obtain ⟨hP, hD⟩ := va_join (wr := (wX0 cy h q2 q3 q4 q5 q6 q7 q8 q9 c0 c1 c2 c3 c4 c5 c6 c7 c8 c9 c10 c11)) (w1 := ([] : va_W)) hP hD [] [0, 1, 2, 3, 4, 5, 6, 7, 8] rfl rfl (by decide) (by decide) hk1 hFc hP1 hD1
    clear hk1 hz1 hP1 hD1 ht hPc hDc hFc
    generalize H1 = H at hP hS ⊢
    have hP : va_P (dC, dI) vwCl (wX0 cy h q2 q3 q4 q5 q6 q7 q8 q9 c0 c1 c2 c3 c4 c5 c6 c7 c8 c9 c10 c11) H := hP
    have hD : va_D A (wX0 cy h q2 q3 q4 q5 q6 q7 q8 q9 c0 c1 c2 c3 c4 c5 c6 c7 c8 c9 c10 c11) := hD
    refine lv_iand hx hb dX0_narrow_19 ?_
    obtain ⟨hi20, hf⟩ := z_gx_some hf
    refine va_iast hx hb hK hP hD hS 3 0 rfl rfl hi20 dX0_narrow_20 (fun H locs hP hD hS => ?_)
    have hP : va_P (dC, dI) vwCl (wX0 cy h q2 q3 q4 q5 q6 q7 q8 q9 c0 c1 c2 c3 (upd c4 (a1).toNatClampNeg ((c4 (a1).toNatClampNeg) &&& u16)) c5 c6 c7 c8 c9 c10 c11) H := hP
    have hD : va_D A (wX0 cy h q2 q3 q4 q5 q6 q7 q8 q9 c0 c1 c2 c3 (upd c4 (a1).toNatClampNeg ((c4 (a1).toNatClampNeg) &&& u16)) c5 c6 c7 c8 c9 c10 c11) := hD
    have hres := Option.some.inj hf
    subst hres
    have hP9 := hP.sub (ws' := (wX0 cy h q2 q3 q4 q5 q6 q7 q8 q9 c0 c1 c2 c3 (upd c4 (a1).toNatClampNeg ((c4 (a1).toNatClampNeg) &&& u16)) c5 c6 c7 c8 c9 c10 c11)) [0, 1, 2, 3, 4, 5, 6, 7, 8] rfl
    have hD9 := hD.sub (ws' := (wX0 cy h q2 q3 q4 q5 q6 q7 q8 q9 c0 c1 c2 c3 (upd c4 (a1).toNatClampNeg ((c4 (a1).toNatClampNeg) &&& u16)) c5 c6 c7 c8 c9 c10 c11)) [0, 1, 2, 3, 4, 5, 6, 7, 8] (by decide) rfl
    have hK9 := hK.sub (tys' := [(cy, .int)]) [0] rfl
    exact W.vret hx hb hr (fun t ht hW => ⟨⟨(), rfl, trivial, by rw [ht]; exact hP9, va_K.moved hW.alike hK9, hD9⟩, hS.F ht⟩) hS.2.2 dX0_narrow_21

set_option maxRecDepth 20000 in
theorem ggX0_countGiving_X0_openRows : GoodIn wsX0_countGiving wsX0_openRows := goodIn_r _ [6, 7, 8, 9, 10, 11, 12, 62, 63, 64, 65, 66, 67, 68, 69, 70, 71, 72, 73] (by decide +kernel) (by decide +kernel)
set_option maxRecDepth 20000 in
theorem gX0_countGiving_X0_openRows : GoodIn wsX0_countGiving (wsV RX0 60 RX0 yX0_openRows wsX0_openRows) := goodIn_app (goodIn_of _ (by decide +kernel)) ggX0_countGiving_X0_openRows
set_option maxRecDepth 20000 in
theorem ggX0_countGiving_X0_narrow : GoodIn wsX0_countGiving wsX0_narrow := goodIn_r _ [16, 8, 17, 18, 19, 5, 20, 21, 22, 23, 24, 62, 63, 64, 65, 66, 67, 68, 69, 70, 71, 72, 73] (by decide +kernel) (by decide +kernel)
set_option maxRecDepth 20000 in
theorem gX0_countGiving_X0_narrow : GoodIn wsX0_countGiving (wsV RX0 115 RX0 yX0_narrow wsX0_narrow) := goodIn_app (goodIn_of _ (by decide +kernel)) ggX0_countGiving_X0_narrow
set_option maxRecDepth 20000 in
theorem ggX0_countGiving_X0_countWays : GoodIn wsX0_countGiving wsX0_countWays := goodIn_r _ [28, 29, 30, 31, 32, 5, 33, 34, 21, 35, 36, 37, 38, 39, 40, 41, 42, 43, 22, 23, 24, 44, 45, 46, 47, 48, 49, 50, 8, 51, 52, 53, 54, 55, 56, 57, 58, 59, 60, 61, 62, 63, 64, 65, 66, 67, 68, 69, 70, 71, 72, 73] (by decide +kernel) (by decide +kernel)
set_option maxRecDepth 20000 in
theorem gX0_countGiving_X0_countWays : GoodIn wsX0_countGiving (wsV RX0 63 RX0 yX0_countWays wsX0_countWays) := goodIn_app (goodIn_of _ (by decide +kernel)) ggX0_countGiving_X0_countWays
theorem dX0_countGiving_0 : decode cX0_countGiving 0 = .ok (.aload_n 0, 1) := by decide +kernel
theorem dX0_countGiving_1 : decode cX0_countGiving 1 = .ok (.invokevirtual 60, 3) := by decide +kernel
theorem dX0_countGiving_4 : decode cX0_countGiving 4 = .ok (.aload_n 0, 1) := by decide +kernel
theorem dX0_countGiving_5 : decode cX0_countGiving 5 = .ok (.iload_n 1, 1) := by decide +kernel
theorem dX0_countGiving_6 : decode cX0_countGiving 6 = .ok (.iload_n 2, 1) := by decide +kernel
theorem dX0_countGiving_7 : decode cX0_countGiving 7 = .ok (.invokevirtual 115, 3) := by decide +kernel
theorem dX0_countGiving_10 : decode cX0_countGiving 10 = .ok (.aload_n 0, 1) := by decide +kernel
theorem dX0_countGiving_11 : decode cX0_countGiving 11 = .ok (.aload_n 0, 1) := by decide +kernel
theorem dX0_countGiving_12 : decode cX0_countGiving 12 = .ok (.getfield 57, 3) := by decide +kernel
theorem dX0_countGiving_15 : decode cX0_countGiving 15 = .ok (.invokevirtual 63, 3) := by decide +kernel
theorem dX0_countGiving_18 : decode cX0_countGiving 18 = .ok (.ireturn, 1) := by decide +kernel
abbrev rm_X0_countGiving : Room := { frames := 4, cells := 0, slots := 0, locals := 96 }
set_option maxHeartbeats 4000000 in
set_option maxRecDepth 100000 in
theorem c_X0_countGiving (N : Nat) (l : Launch) (dC : Nat → ClassId) (dI : Nat → Nat → Nat) (cy : ClassId) (h q2 q3 q4 q5 q6 q7 q8 q9 : Nat) (sz : Nat) (c0 : Int32) (c1 : Int32) (c2 : Nat → Int32) (c3 : Nat → Int32) (c4 : Nat → Int32) (c5 : Nat → Int32) (c6 : Nat → Int32) (c7 : Nat → Int32) (c8 : Nat → Int32) (c9 : Nat → Int32) (c10 : Int32) (c11 : Int32) (a1 a2 : Int32) (res : Int32 × (Nat → Int32) × (Nat → Int32) × (Nat → Int32) × (Nat → Int32)) (hf : f_X0_countGiving N a1 a2 c0 c1 c2 c4 c5 c6 c7 = some res) : Met l yX0_countGiving wsX0_countGiving rm_X0_countGiving (va_Pc [.ref h, .int a1, .int a2] (fun U => U.heap.size = sz ∧ va_P (dC, dI) vwCl (wX0 cy h q2 q3 q4 q5 q6 q7 q8 q9 c0 c1 c2 c3 c4 c5 c6 c7 c8 c9 c10 c11) U.heap ∧ va_K (dC, dI) vwCl [(cy, .int)] U ∧ va_D (fun _ => True) (wX0 cy h q2 q3 q4 q5 q6 q7 q8 q9 c0 c1 c2 c3 c4 c5 c6 c7 c8 c9 c10 c11))) (z_qI dC dI cy res.1 (wX0 cy h q2 q3 q4 q5 q6 q7 q8 q9 c0 c1 c2 c3 res.2.1 res.2.2.1 res.2.2.2.1 res.2.2.2.2 c8 c9 c10 c11) (va_A (wX0 cy h q2 q3 q4 q5 q6 q7 q8 q9 c0 c1 c2 c3 c4 c5 c6 c7 c8 c9 c10 c11) sz)) 0 0 (va_A (wX0 cy h q2 q3 q4 q5 q6 q7 q8 q9 c0 c1 c2 c3 c4 c5 c6 c7 c8 c9 c10 c11) sz) := by
  refine Met.ofW (cc := cX0_countGiving) (maxL := 3) (ret := (some .int)) (by decide) rfl ?_
  intro p e s m args below meth c s₁ B hml hv
  obtain ⟨rfl, hsz, hP, hK, hD0⟩ := hv
  have hx := B.exec
  have hb := B.bytes
  have hr := B.returns
  have hts := atoms_spec (ws := wsX0_countGiving) B.pre
  have hown : s.vm.findClass RX0 = some m.cls := findClass_of_methodNamed B.named
  have hlocks := B.notSynchronized
  subst hsz
  have hD := hD0.self (sz := s.heap.size)
  generalize hAe : va_A (wX0 cy h q2 q3 q4 q5 q6 q7 q8 q9 c0 c1 c2 c3 c4 c5 c6 c7 c8 c9 c10 c11) s.heap.size = A at hD ⊢
  have hA : ∀ q : Nat, s.heap.size ≤ q → A q := fun q h => by rw [← hAe]; exact Or.inr h
  have hS : va_S A s.heap s.heap [] := va_S.rf
  have hP : va_P (dC, dI) vwCl (wX0 cy h q2 q3 q4 q5 q6 q7 q8 q9 c0 c1 c2 c3 c4 c5 c6 c7 c8 c9 c10 c11) s.heap := hP
  have hl := lv_entry ([.ref h, .int a1, .int a2]) (n := 3) (Nat.le_of_ble_eq_true rfl)
  rw [lg_entry_eq]
  generalize (lg_sl ([.ref h, .int a1, .int a2]) ++ List.replicate (3 - (lg_sl ([.ref h, .int a1, .int a2])).length) Slot.unset).toArray = ls at hl ⊢
  have hl : lv_has ls 3 [(0, .ref h), (1, .int a1), (2, .int a2)] := hl
  unfold f_X0_countGiving at hf
  refine lv_aload_n hx hb dX0_countGiving_0 rfl (lv_at hl 0 rfl) ?_
  obtain ⟨u1, hu1, hf⟩ := z_ob_some hf
  have hPc := hP.sub (ws' := (wX0 cy h q2 q3 q4 q5 q6 q7 q8 q9 c0 c1 c2 c3 c4 c5 c6 c7 c8 c9 c10 c11)) [0, 1, 2, 3, 4, 5, 6, 7, 8] rfl
  have hDc := hD.sub (ws' := (wX0 cy h q2 q3 q4 q5 q6 q7 q8 q9 c0 c1 c2 c3 c4 c5 c6 c7 c8 c9 c10 c11)) [0, 1, 2, 3, 4, 5, 6, 7, 8] (by decide) rfl
  have hKc := hK.sub (tys' := [(cy, .int)]) [0] rfl
  have hFc := va_free (wc := (wX0 cy h q2 q3 q4 q5 q6 q7 q8 q9 c0 c1 c2 c3 c4 c5 c6 c7 c8 c9 c10 c11)) hD hS hA [0, 1, 2, 3, 4, 5, 6, 7, 8] rfl
  refine va_callv (va_runV (As := []) (rest := []) ⟨hx, hb, hml, hown, hts⟩ (c_X0_openRows N l dC dI cy h q2 q3 q4 q5 q6 q7 q8 q9 s.heap.size c0 c1 c2 c3 c4 c5 c6 c7 c8 c9 c10 c11 u1 hu1) (cwV 0 hts gX0_countGiving_X0_openRows rfl rfl rfl (by decide +kernel) ⟨Nat.le_of_ble_eq_true rfl, Nat.le_of_ble_eq_true rfl⟩) ⟨fun a U g mk q => by obtain ⟨q0, q1, qP, qK, qD⟩ := q; exact ⟨q0, q1, qP, va_K.moved (u := U) (U := U.calling g mk a) (Vm.Alike.refl U.vm) qK, qD⟩, va_recv hKc hPc (ci := 0) (q0 := 0) rfl rfl, fun U hU hW => ⟨rfl, by rw [hU], by rw [hU]; exact hPc, va_K.moved hW.alike hKc, hDc.weaken (fun _ _ _ _ => trivial)⟩⟩ rfl rfl hl.1 rfl (lv_room (Nat.le_of_ble_eq_true rfl)) dX0_countGiving_1 ⟨Nat.zero_le _, Nat.zero_le _⟩) hS (fun q _ h => hFc q h) hFc (fun uu_ t H1 locs ht hvm hw hB hz1 hk1 hS => ?_)
  obtain ⟨hP1, -, hD1⟩ := hB
  rw [ht] at hP1
  obtain ⟨hP, hD⟩ := va_join (wr := []) (w1 := (wX0 cy h q2 q3 q4 q5 q6 q7 q8 q9 c0 c1 c2 c3 u1 c5 c6 c7 c8 c9 c10 c11)) hP hD [0, 1, 2, 3, 4, 5, 6, 7, 8] [] rfl rfl (by decide) (by decide) hk1 hFc hP1 hD1
  clear hk1 hz1 hP1 hD1 ht hPc hDc hFc
  generalize H1 = H at hP hS ⊢
  have hP : va_P (dC, dI) vwCl (wX0 cy h q2 q3 q4 q5 q6 q7 q8 q9 c0 c1 c2 c3 u1 c5 c6 c7 c8 c9 c10 c11) H := hP
  have hD : va_D A (wX0 cy h q2 q3 q4 q5 q6 q7 q8 q9 c0 c1 c2 c3 u1 c5 c6 c7 c8 c9 c10 c11) := hD
  refine lv_aload_n hx hb dX0_countGiving_4 rfl (lv_at hl 0 rfl) ?_
  refine lv_iload_n hx hb dX0_countGiving_5 rfl (lv_at hl 1 rfl) ?_
  refine lv_iload_n hx hb dX0_countGiving_6 rfl (lv_at hl 2 rfl) ?_
  obtain ⟨u7, hu7, hf⟩ := z_ob_some hf
  have hPc := hP.sub (ws' := (wX0 cy h q2 q3 q4 q5 q6 q7 q8 q9 c0 c1 c2 c3 u1 c5 c6 c7 c8 c9 c10 c11)) [0, 1, 2, 3, 4, 5, 6, 7, 8] rfl
  have hDc := hD.sub (ws' := (wX0 cy h q2 q3 q4 q5 q6 q7 q8 q9 c0 c1 c2 c3 u1 c5 c6 c7 c8 c9 c10 c11)) [0, 1, 2, 3, 4, 5, 6, 7, 8] (by decide) rfl
  have hKc := hK.sub (tys' := [(cy, .int)]) [0] rfl
  have hFc := va_free (wc := (wX0 cy h q2 q3 q4 q5 q6 q7 q8 q9 c0 c1 c2 c3 u1 c5 c6 c7 c8 c9 c10 c11)) hD hS hA [0, 1, 2, 3, 4, 5, 6, 7, 8] rfl
  refine va_callv (va_runV (As := [.int a1, .int a2]) (rest := []) ⟨hx, hb, hml, hown, hts⟩ (c_X0_narrow N l dC dI cy h q2 q3 q4 q5 q6 q7 q8 q9 H.size c0 c1 c2 c3 u1 c5 c6 c7 c8 c9 c10 c11 a1 a2 u7 hu7) (cwV 2 hts gX0_countGiving_X0_narrow rfl rfl rfl (by decide +kernel) ⟨Nat.le_of_ble_eq_true rfl, Nat.le_of_ble_eq_true rfl⟩) ⟨fun a U g mk q => by obtain ⟨q0, q1, qP, qK, qD⟩ := q; exact ⟨q0, q1, qP, va_K.moved (u := U) (U := U.calling g mk a) (Vm.Alike.refl U.vm) qK, qD⟩, va_recv hKc hPc (ci := 0) (q0 := 0) rfl rfl, fun U hU hW => ⟨rfl, by rw [hU], by rw [hU]; exact hPc, va_K.moved hW.alike hKc, hDc.weaken (fun _ _ _ _ => trivial)⟩⟩ rfl rfl hl.1 rfl (lv_room (Nat.le_of_ble_eq_true rfl)) dX0_countGiving_7 ⟨Nat.zero_le _, Nat.zero_le _⟩) hS (fun q _ h => hFc q h) hFc (fun uu_ t H1 locs ht hvm hw hB hz1 hk1 hS => ?_)
  obtain ⟨hP1, -, hD1⟩ := hB
  rw [ht] at hP1
  obtain ⟨hP, hD⟩ := va_join (wr := []) (w1 := (wX0 cy h q2 q3 q4 q5 q6 q7 q8 q9 c0 c1 c2 c3 u7 c5 c6 c7 c8 c9 c10 c11)) hP hD [0, 1, 2, 3, 4, 5, 6, 7, 8] [] rfl rfl (by decide) (by decide) hk1 hFc hP1 hD1
  clear hk1 hz1 hP1 hD1 ht hPc hDc hFc
  generalize H1 = H at hP hS ⊢
  have hP : va_P (dC, dI) vwCl (wX0 cy h q2 q3 q4 q5 q6 q7 q8 q9 c0 c1 c2 c3 u7 c5 c6 c7 c8 c9 c10 c11) H := hP
  have hD : va_D A (wX0 cy h q2 q3 q4 q5 q6 q7 q8 q9 c0 c1 c2 c3 u7 c5 c6 c7 c8 c9 c10 c11) := hD
  refine lv_aload_n hx hb dX0_countGiving_10 rfl (lv_at hl 0 rfl) ?_
  refine lv_aload_n hx hb dX0_countGiving_11 rfl (lv_at hl 0 rfl) ?_
  refine va_get (D := (dC, dI)) (ci := 0) (v := .int c1) (C := RX0) (T := TX0) (N := 12) hx hb hts (by decide +kernel) hown hK hP 0 rfl rfl 1 (by decide) (hts (.fieldLink RX0 57 "GiftLots" "shortest" "I") (by decide +kernel)) (fun _ h9 => h9) rfl dX0_countGiving_12 ?_
  obtain ⟨u15, hu15, hf⟩ := z_ob_some hf
  have hPc := hP.sub (ws' := (wX0 cy h q2 q3 q4 q5 q6 q7 q8 q9 c0 c1 c2 c3 u7 c5 c6 c7 c8 c9 c10 c11)) [0, 1, 2, 3, 4, 5, 6, 7, 8] rfl
  have hDc := hD.sub (ws' := (wX0 cy h q2 q3 q4 q5 q6 q7 q8 q9 c0 c1 c2 c3 u7 c5 c6 c7 c8 c9 c10 c11)) [0, 1, 2, 3, 4, 5, 6, 7, 8] (by decide) rfl
  have hKc := hK.sub (tys' := [(cy, .int)]) [0] rfl
  have hFc := va_free (wc := (wX0 cy h q2 q3 q4 q5 q6 q7 q8 q9 c0 c1 c2 c3 u7 c5 c6 c7 c8 c9 c10 c11)) hD hS hA [0, 1, 2, 3, 4, 5, 6, 7, 8] rfl
  refine va_calli (va_runV (As := [.int c1]) (rest := []) ⟨hx, hb, hml, hown, hts⟩ (c_X0_countWays N l dC dI cy h q2 q3 q4 q5 q6 q7 q8 q9 H.size c0 c1 c2 c3 u7 c5 c6 c7 c8 c9 c10 c11 c1 u15 hu15) (cwV 1 hts gX0_countGiving_X0_countWays rfl rfl rfl (by decide +kernel) ⟨Nat.le_of_ble_eq_true rfl, Nat.le_of_ble_eq_true rfl⟩) ⟨fun a U g mk q => by obtain ⟨q0, q1, qP, qK, qD⟩ := q; exact ⟨q0, q1, qP, va_K.moved (u := U) (U := U.calling g mk a) (Vm.Alike.refl U.vm) qK, qD⟩, va_recv hKc hPc (ci := 0) (q0 := 0) rfl rfl, fun U hU hW => ⟨rfl, by rw [hU], by rw [hU]; exact hPc, va_K.moved hW.alike hKc, hDc.weaken (fun _ _ _ _ => trivial)⟩⟩ rfl rfl hl.1 rfl (lv_room (Nat.le_of_ble_eq_true rfl)) dX0_countGiving_15 ⟨Nat.zero_le _, Nat.zero_le _⟩) hS (fun q _ h => hFc q h) hFc (fun r_15 uu_ t H1 locs ht hvm hw hB hz1 hk1 hS => ?_)
  replace hw := hw.symm
  subst hw
  obtain ⟨hP1, -, hD1⟩ := hB
  rw [ht] at hP1
  obtain ⟨hP, hD⟩ := va_join (wr := []) (w1 := (wX0 cy h q2 q3 q4 q5 q6 q7 q8 q9 c0 c1 c2 c3 u7 u15.2.1 u15.2.2.1 u15.2.2.2 c8 c9 c10 c11)) hP hD [0, 1, 2, 3, 4, 5, 6, 7, 8] [] rfl rfl (by decide) (by decide) hk1 hFc hP1 hD1
  clear hk1 hz1 hP1 hD1 ht hPc hDc hFc
  generalize H1 = H at hP hS ⊢
  have hP : va_P (dC, dI) vwCl (wX0 cy h q2 q3 q4 q5 q6 q7 q8 q9 c0 c1 c2 c3 u7 u15.2.1 u15.2.2.1 u15.2.2.2 c8 c9 c10 c11) H := hP
  have hD : va_D A (wX0 cy h q2 q3 q4 q5 q6 q7 q8 q9 c0 c1 c2 c3 u7 u15.2.1 u15.2.2.1 u15.2.2.2 c8 c9 c10 c11) := hD
  have hres := Option.some.inj hf
  subst hres
  have hP9 := hP.sub (ws' := (wX0 cy h q2 q3 q4 q5 q6 q7 q8 q9 c0 c1 c2 c3 u7 u15.2.1 u15.2.2.1 u15.2.2.2 c8 c9 c10 c11)) [0, 1, 2, 3, 4, 5, 6, 7, 8] rfl
  have hD9 := hD.sub (ws' := (wX0 cy h q2 q3 q4 q5 q6 q7 q8 q9 c0 c1 c2 c3 u7 u15.2.1 u15.2.2.1 u15.2.2.2 c8 c9 c10 c11)) [0, 1, 2, 3, 4, 5, 6, 7, 8] (by decide) rfl
  have hK9 := hK.sub (tys' := [(cy, .int)]) [0] rfl
  exact W.iret (v := u15.1) hx hb hr (fun t ht hW => ⟨⟨u15.1, (), rfl, rfl, by rw [ht]; exact hP9, va_K.moved hW.alike hK9, hD9⟩, hS.F ht⟩) hS.2.2 dX0_countGiving_18

set_option maxRecDepth 20000 in
theorem ggX0_both_X0_isOne : GoodIn wsX0_both wsX0_isOne := goodIn_r _ [5, 6, 66, 67, 68, 69, 70, 71, 72, 73, 74, 75, 76, 77] (by decide +kernel) (by decide +kernel)
set_option maxRecDepth 20000 in
theorem gX0_both_X0_isOne : GoodIn wsX0_both (wsV RX0 66 RX0 yX0_isOne wsX0_isOne) := goodIn_app (goodIn_of _ (by decide +kernel)) ggX0_both_X0_isOne
set_option maxRecDepth 20000 in
theorem ggX0_both_X0_countGiving : GoodIn wsX0_both wsX0_countGiving := goodIn_r _ [10, 11, 12, 13, 14, 4, 15, 16, 17, 18, 19, 20, 21, 22, 23, 24, 25, 1, 2, 3, 5, 6, 26, 27, 28, 29, 30, 31, 32, 33, 34, 35, 36, 37, 38, 39, 40, 41, 42, 43, 44, 45, 46, 47, 48, 49, 50, 51, 52, 53, 54, 55, 56, 57, 58, 59, 60, 61, 62, 63, 64, 65, 66, 67, 68, 69, 70, 71, 72, 73, 74, 75, 76, 77] (by decide +kernel) (by decide +kernel)
set_option maxRecDepth 20000 in
theorem gX0_both_X0_countGiving : GoodIn wsX0_both (wsV RX0 79 RX0 yX0_countGiving wsX0_countGiving) := goodIn_app (goodIn_of _ (by decide +kernel)) ggX0_both_X0_countGiving
theorem dX0_both_0 : decode cX0_both 0 = .ok (.aload_n 0, 1) := by decide +kernel
theorem dX0_both_1 : decode cX0_both 1 = .ok (.iload_n 1, 1) := by decide +kernel
theorem dX0_both_2 : decode cX0_both 2 = .ok (.invokevirtual 66, 3) := by decide +kernel
theorem dX0_both_5 : decode cX0_both 5 = .ok (.ifCond .eq 11, 3) := by decide +kernel
theorem dX0_both_8 : decode cX0_both 8 = .ok (.aload_n 0, 1) := by decide +kernel
theorem dX0_both_9 : decode cX0_both 9 = .ok (.iload_n 2, 1) := by decide +kernel
theorem dX0_both_10 : decode cX0_both 10 = .ok (.invokevirtual 66, 3) := by decide +kernel
theorem dX0_both_13 : decode cX0_both 13 = .ok (.ifCond .ne 5, 3) := by decide +kernel
theorem dX0_both_16 : decode cX0_both 16 = .ok (.iconst (-1), 1) := by decide +kernel
theorem dX0_both_17 : decode cX0_both 17 = .ok (.ireturn, 1) := by decide +kernel
theorem dX0_both_18 : decode cX0_both 18 = .ok (.aload_n 0, 1) := by decide +kernel
theorem dX0_both_19 : decode cX0_both 19 = .ok (.iload_n 1, 1) := by decide +kernel
theorem dX0_both_20 : decode cX0_both 20 = .ok (.iload_n 2, 1) := by decide +kernel
theorem dX0_both_21 : decode cX0_both 21 = .ok (.invokevirtual 79, 3) := by decide +kernel
theorem dX0_both_24 : decode cX0_both 24 = .ok (.ireturn, 1) := by decide +kernel
abbrev rm_X0_both : Room := { frames := 5, cells := 0, slots := 0, locals := 118 }
set_option maxHeartbeats 4000000 in
set_option maxRecDepth 100000 in
theorem c_X0_both (N : Nat) (l : Launch) (dC : Nat → ClassId) (dI : Nat → Nat → Nat) (cy : ClassId) (h q2 q3 q4 q5 q6 q7 q8 q9 : Nat) (sz : Nat) (c0 : Int32) (c1 : Int32) (c2 : Nat → Int32) (c3 : Nat → Int32) (c4 : Nat → Int32) (c5 : Nat → Int32) (c6 : Nat → Int32) (c7 : Nat → Int32) (c8 : Nat → Int32) (c9 : Nat → Int32) (c10 : Int32) (c11 : Int32) (a1 a2 : Int32) (res : Int32 × (Nat → Int32) × (Nat → Int32) × (Nat → Int32) × (Nat → Int32)) (hf : f_X0_both N a1 a2 c0 c1 c2 c4 c5 c6 c7 = some res) : Met l yX0_both wsX0_both rm_X0_both (va_Pc [.ref h, .int a1, .int a2] (fun U => U.heap.size = sz ∧ va_P (dC, dI) vwCl (wX0 cy h q2 q3 q4 q5 q6 q7 q8 q9 c0 c1 c2 c3 c4 c5 c6 c7 c8 c9 c10 c11) U.heap ∧ va_K (dC, dI) vwCl [(cy, .int)] U ∧ va_D (fun _ => True) (wX0 cy h q2 q3 q4 q5 q6 q7 q8 q9 c0 c1 c2 c3 c4 c5 c6 c7 c8 c9 c10 c11))) (z_qI dC dI cy res.1 (wX0 cy h q2 q3 q4 q5 q6 q7 q8 q9 c0 c1 c2 c3 res.2.1 res.2.2.1 res.2.2.2.1 res.2.2.2.2 c8 c9 c10 c11) (va_A (wX0 cy h q2 q3 q4 q5 q6 q7 q8 q9 c0 c1 c2 c3 c4 c5 c6 c7 c8 c9 c10 c11) sz)) 0 0 (va_A (wX0 cy h q2 q3 q4 q5 q6 q7 q8 q9 c0 c1 c2 c3 c4 c5 c6 c7 c8 c9 c10 c11) sz) := by
  refine Met.ofW (cc := cX0_both) (maxL := 3) (ret := (some .int)) (by decide) rfl ?_
  intro p e s m args below meth c s₁ B hml hv
  obtain ⟨rfl, hsz, hP, hK, hD0⟩ := hv
  have hx := B.exec
  have hb := B.bytes
  have hr := B.returns
  have hts := atoms_spec (ws := wsX0_both) B.pre
  have hown : s.vm.findClass RX0 = some m.cls := findClass_of_methodNamed B.named
  have hlocks := B.notSynchronized
  subst hsz
  have hD := hD0.self (sz := s.heap.size)
  generalize hAe : va_A (wX0 cy h q2 q3 q4 q5 q6 q7 q8 q9 c0 c1 c2 c3 c4 c5 c6 c7 c8 c9 c10 c11) s.heap.size = A at hD ⊢
  have hA : ∀ q : Nat, s.heap.size ≤ q → A q := fun q h => by rw [← hAe]; exact Or.inr h
  have hS : va_S A s.heap s.heap [] := va_S.rf
  have hP : va_P (dC, dI) vwCl (wX0 cy h q2 q3 q4 q5 q6 q7 q8 q9 c0 c1 c2 c3 c4 c5 c6 c7 c8 c9 c10 c11) s.heap := hP
  have hl := lv_entry ([.ref h, .int a1, .int a2]) (n := 3) (Nat.le_of_ble_eq_true rfl)
  rw [lg_entry_eq]
  generalize (lg_sl ([.ref h, .int a1, .int a2]) ++ List.replicate (3 - (lg_sl ([.ref h, .int a1, .int a2])).length) Slot.unset).toArray = ls at hl ⊢
  have hl : lv_has ls 3 [(0, .ref h), (1, .int a1), (2, .int a2)] := hl
  unfold f_X0_both at hf
  refine lv_aload_n hx hb dX0_both_0 rfl (lv_at hl 0 rfl) ?_
  refine lv_iload_n hx hb dX0_both_1 rfl (lv_at hl 1 rfl) ?_
  obtain ⟨u2, hu2, hf⟩ := z_ob_some hf
  have hPc := hP.sub (ws' := (wX0 cy h q2 q3 q4 q5 q6 q7 q8 q9 c0 c1 c2 c3 c4 c5 c6 c7 c8 c9 c10 c11)) [0, 1, 2, 3, 4, 5, 6, 7, 8] rfl
  have hDc := hD.sub (ws' := (wX0 cy h q2 q3 q4 q5 q6 q7 q8 q9 c0 c1 c2 c3 c4 c5 c6 c7 c8 c9 c10 c11)) [0, 1, 2, 3, 4, 5, 6, 7, 8] (by decide) rfl
  have hKc := hK.sub (tys' := [(cy, .int)]) [0] rfl
  have hFc := va_free (wc := (wX0 cy h q2 q3 q4 q5 q6 q7 q8 q9 c0 c1 c2 c3 c4 c5 c6 c7 c8 c9 c10 c11)) hD hS hA [0, 1, 2, 3, 4, 5, 6, 7, 8] rfl
  refine va_calli (va_runV (As := [.int a1]) (rest := []) ⟨hx, hb, hml, hown, hts⟩ (c_X0_isOne N l dC dI cy h q2 q3 q4 q5 q6 q7 q8 q9 s.heap.size c0 c1 c2 c3 c4 c5 c6 c7 c8 c9 c10 c11 a1 u2 hu2) (cwV 1 hts gX0_both_X0_isOne rfl rfl rfl (by decide +kernel) ⟨Nat.le_of_ble_eq_true rfl, Nat.le_of_ble_eq_true rfl⟩) ⟨fun a U g mk q => by obtain ⟨q0, q1, qP, qK, qD⟩ := q; exact ⟨q0, q1, qP, va_K.moved (u := U) (U := U.calling g mk a) (Vm.Alike.refl U.vm) qK, qD⟩, va_recv hKc hPc (ci := 0) (q0 := 0) rfl rfl, fun U hU hW => ⟨rfl, by rw [hU], by rw [hU]; exact hPc, va_K.moved hW.alike hKc, hDc.weaken (fun _ _ _ _ => trivial)⟩⟩ rfl rfl hl.1 rfl (lv_room (Nat.le_of_ble_eq_true rfl)) dX0_both_2 ⟨Nat.zero_le _, Nat.zero_le _⟩) hS (fun q _ h => hFc q h) hFc (fun r_2 uu_ t H1 locs ht hvm hw hB hz1 hk1 hS => ?_)
  replace hw := hw.symm
  subst hw
  obtain ⟨hP1, -, hD1⟩ := hB
  rw [ht] at hP1
  obtain ⟨hP, hD⟩ := va_join (wr := []) (w1 := (wX0 cy h q2 q3 q4 q5 q6 q7 q8 q9 c0 c1 c2 c3 c4 c5 c6 c7 c8 c9 c10 c11)) hP hD [0, 1, 2, 3, 4, 5, 6, 7, 8] [] rfl rfl (by decide) (by decide) hk1 hFc hP1 hD1
  clear hk1 hz1 hP1 hD1 ht hPc hDc hFc
  generalize H1 = H at hP hS ⊢
  have hP : va_P (dC, dI) vwCl (wX0 cy h q2 q3 q4 q5 q6 q7 q8 q9 c0 c1 c2 c3 c4 c5 c6 c7 c8 c9 c10 c11) H := hP
  have hD : va_D A (wX0 cy h q2 q3 q4 q5 q6 q7 q8 q9 c0 c1 c2 c3 c4 c5 c6 c7 c8 c9 c10 c11) := hD
  refine lv_if_eq (tgt := 16) hx hb dX0_both_5 (by decide) (fun c_5 => ?_) (fun c_5 => ?_)
  · replace hf := (if_pos c_5).symm.trans hf
    refine lv_iconst (v := (-1 : Int32)) hx hb dX0_both_16 (by decide) ?_
    have hres := Option.some.inj hf
    subst hres
    have hP9 := hP.sub (ws' := (wX0 cy h q2 q3 q4 q5 q6 q7 q8 q9 c0 c1 c2 c3 c4 c5 c6 c7 c8 c9 c10 c11)) [0, 1, 2, 3, 4, 5, 6, 7, 8] rfl
    have hD9 := hD.sub (ws' := (wX0 cy h q2 q3 q4 q5 q6 q7 q8 q9 c0 c1 c2 c3 c4 c5 c6 c7 c8 c9 c10 c11)) [0, 1, 2, 3, 4, 5, 6, 7, 8] (by decide) rfl
    have hK9 := hK.sub (tys' := [(cy, .int)]) [0] rfl
    exact W.iret (v := (-1 : Int32)) hx hb hr (fun t ht hW => ⟨⟨(-1 : Int32), (), rfl, rfl, by rw [ht]; exact hP9, va_K.moved hW.alike hK9, hD9⟩, hS.F ht⟩) hS.2.2 dX0_both_17
  · replace hf := (if_neg c_5).symm.trans hf
    refine lv_aload_n hx hb dX0_both_8 rfl (lv_at hl 0 rfl) ?_
    refine lv_iload_n hx hb dX0_both_9 rfl (lv_at hl 2 rfl) ?_
    obtain ⟨u10, hu10, hf⟩ := z_ob_some hf
    have hPc := hP.sub (ws' := (wX0 cy h q2 q3 q4 q5 q6 q7 q8 q9 c0 c1 c2 c3 c4 c5 c6 c7 c8 c9 c10 c11)) [0, 1, 2, 3, 4, 5, 6, 7, 8] rfl
    have hDc := hD.sub (ws' := (wX0 cy h q2 q3 q4 q5 q6 q7 q8 q9 c0 c1 c2 c3 c4 c5 c6 c7 c8 c9 c10 c11)) [0, 1, 2, 3, 4, 5, 6, 7, 8] (by decide) rfl
    have hKc := hK.sub (tys' := [(cy, .int)]) [0] rfl
    have hFc := va_free (wc := (wX0 cy h q2 q3 q4 q5 q6 q7 q8 q9 c0 c1 c2 c3 c4 c5 c6 c7 c8 c9 c10 c11)) hD hS hA [0, 1, 2, 3, 4, 5, 6, 7, 8] rfl
    refine va_calli (va_runV (As := [.int a2]) (rest := []) ⟨hx, hb, hml, hown, hts⟩ (c_X0_isOne N l dC dI cy h q2 q3 q4 q5 q6 q7 q8 q9 H.size c0 c1 c2 c3 c4 c5 c6 c7 c8 c9 c10 c11 a2 u10 hu10) (cwV 1 hts gX0_both_X0_isOne rfl rfl rfl (by decide +kernel) ⟨Nat.le_of_ble_eq_true rfl, Nat.le_of_ble_eq_true rfl⟩) ⟨fun a U g mk q => by obtain ⟨q0, q1, qP, qK, qD⟩ := q; exact ⟨q0, q1, qP, va_K.moved (u := U) (U := U.calling g mk a) (Vm.Alike.refl U.vm) qK, qD⟩, va_recv hKc hPc (ci := 0) (q0 := 0) rfl rfl, fun U hU hW => ⟨rfl, by rw [hU], by rw [hU]; exact hPc, va_K.moved hW.alike hKc, hDc.weaken (fun _ _ _ _ => trivial)⟩⟩ rfl rfl hl.1 rfl (lv_room (Nat.le_of_ble_eq_true rfl)) dX0_both_10 ⟨Nat.zero_le _, Nat.zero_le _⟩) hS (fun q _ h => hFc q h) hFc (fun r_10 uu_ t H1 locs ht hvm hw hB hz1 hk1 hS => ?_)
    replace hw := hw.symm
    subst hw
    obtain ⟨hP1, -, hD1⟩ := hB
    rw [ht] at hP1
    obtain ⟨hP, hD⟩ := va_join (wr := []) (w1 := (wX0 cy h q2 q3 q4 q5 q6 q7 q8 q9 c0 c1 c2 c3 c4 c5 c6 c7 c8 c9 c10 c11)) hP hD [0, 1, 2, 3, 4, 5, 6, 7, 8] [] rfl rfl (by decide) (by decide) hk1 hFc hP1 hD1
    clear hk1 hz1 hP1 hD1 ht hPc hDc hFc
    generalize H1 = H at hP hS ⊢
    have hP : va_P (dC, dI) vwCl (wX0 cy h q2 q3 q4 q5 q6 q7 q8 q9 c0 c1 c2 c3 c4 c5 c6 c7 c8 c9 c10 c11) H := hP
    have hD : va_D A (wX0 cy h q2 q3 q4 q5 q6 q7 q8 q9 c0 c1 c2 c3 c4 c5 c6 c7 c8 c9 c10 c11) := hD
    refine lv_if_ne (tgt := 18) hx hb dX0_both_13 (by decide) (fun c_13 => ?_) (fun c_13 => ?_)
    · replace hf := (if_neg c_13).symm.trans hf
      refine lv_aload_n hx hb dX0_both_18 rfl (lv_at hl 0 rfl) ?_
      refine lv_iload_n hx hb dX0_both_19 rfl (lv_at hl 1 rfl) ?_
      refine lv_iload_n hx hb dX0_both_20 rfl (lv_at hl 2 rfl) ?_
      obtain ⟨u21, hu21, hf⟩ := z_ob_some hf
      have hPc := hP.sub (ws' := (wX0 cy h q2 q3 q4 q5 q6 q7 q8 q9 c0 c1 c2 c3 c4 c5 c6 c7 c8 c9 c10 c11)) [0, 1, 2, 3, 4, 5, 6, 7, 8] rfl
      have hDc := hD.sub (ws' := (wX0 cy h q2 q3 q4 q5 q6 q7 q8 q9 c0 c1 c2 c3 c4 c5 c6 c7 c8 c9 c10 c11)) [0, 1, 2, 3, 4, 5, 6, 7, 8] (by decide) rfl
      have hKc := hK.sub (tys' := [(cy, .int)]) [0] rfl
      have hFc := va_free (wc := (wX0 cy h q2 q3 q4 q5 q6 q7 q8 q9 c0 c1 c2 c3 c4 c5 c6 c7 c8 c9 c10 c11)) hD hS hA [0, 1, 2, 3, 4, 5, 6, 7, 8] rfl
      refine va_calli (va_runV (As := [.int a1, .int a2]) (rest := []) ⟨hx, hb, hml, hown, hts⟩ (c_X0_countGiving N l dC dI cy h q2 q3 q4 q5 q6 q7 q8 q9 H.size c0 c1 c2 c3 c4 c5 c6 c7 c8 c9 c10 c11 a1 a2 u21 hu21) (cwV 2 hts gX0_both_X0_countGiving rfl rfl rfl (by decide +kernel) ⟨Nat.le_of_ble_eq_true rfl, Nat.le_of_ble_eq_true rfl⟩) ⟨fun a U g mk q => by obtain ⟨q0, q1, qP, qK, qD⟩ := q; exact ⟨q0, q1, qP, va_K.moved (u := U) (U := U.calling g mk a) (Vm.Alike.refl U.vm) qK, qD⟩, va_recv hKc hPc (ci := 0) (q0 := 0) rfl rfl, fun U hU hW => ⟨rfl, by rw [hU], by rw [hU]; exact hPc, va_K.moved hW.alike hKc, hDc.weaken (fun _ _ _ _ => trivial)⟩⟩ rfl rfl hl.1 rfl (lv_room (Nat.le_of_ble_eq_true rfl)) dX0_both_21 ⟨Nat.zero_le _, Nat.zero_le _⟩) hS (fun q _ h => hFc q h) hFc (fun r_21 uu_ t H1 locs ht hvm hw hB hz1 hk1 hS => ?_)
      replace hw := hw.symm
      subst hw
      obtain ⟨hP1, -, hD1⟩ := hB
      rw [ht] at hP1
      obtain ⟨hP, hD⟩ := va_join (wr := []) (w1 := (wX0 cy h q2 q3 q4 q5 q6 q7 q8 q9 c0 c1 c2 c3 u21.2.1 u21.2.2.1 u21.2.2.2.1 u21.2.2.2.2 c8 c9 c10 c11)) hP hD [0, 1, 2, 3, 4, 5, 6, 7, 8] [] rfl rfl (by decide) (by decide) hk1 hFc hP1 hD1
      clear hk1 hz1 hP1 hD1 ht hPc hDc hFc
      generalize H1 = H at hP hS ⊢
      have hP : va_P (dC, dI) vwCl (wX0 cy h q2 q3 q4 q5 q6 q7 q8 q9 c0 c1 c2 c3 u21.2.1 u21.2.2.1 u21.2.2.2.1 u21.2.2.2.2 c8 c9 c10 c11) H := hP
      have hD : va_D A (wX0 cy h q2 q3 q4 q5 q6 q7 q8 q9 c0 c1 c2 c3 u21.2.1 u21.2.2.1 u21.2.2.2.1 u21.2.2.2.2 c8 c9 c10 c11) := hD
      have hres := Option.some.inj hf
      subst hres
      have hP9 := hP.sub (ws' := (wX0 cy h q2 q3 q4 q5 q6 q7 q8 q9 c0 c1 c2 c3 u21.2.1 u21.2.2.1 u21.2.2.2.1 u21.2.2.2.2 c8 c9 c10 c11)) [0, 1, 2, 3, 4, 5, 6, 7, 8] rfl
      have hD9 := hD.sub (ws' := (wX0 cy h q2 q3 q4 q5 q6 q7 q8 q9 c0 c1 c2 c3 u21.2.1 u21.2.2.1 u21.2.2.2.1 u21.2.2.2.2 c8 c9 c10 c11)) [0, 1, 2, 3, 4, 5, 6, 7, 8] (by decide) rfl
      have hK9 := hK.sub (tys' := [(cy, .int)]) [0] rfl
      exact W.iret (v := u21.1) hx hb hr (fun t ht hW => ⟨⟨u21.1, (), rfl, rfl, by rw [ht]; exact hP9, va_K.moved hW.alike hK9, hD9⟩, hS.F ht⟩) hS.2.2 dX0_both_24
    · replace hf := (if_pos c_13).symm.trans hf
      refine lv_iconst (v := (-1 : Int32)) hx hb dX0_both_16 (by decide) ?_
      have hres := Option.some.inj hf
      subst hres
      have hP9 := hP.sub (ws' := (wX0 cy h q2 q3 q4 q5 q6 q7 q8 q9 c0 c1 c2 c3 c4 c5 c6 c7 c8 c9 c10 c11)) [0, 1, 2, 3, 4, 5, 6, 7, 8] rfl
      have hD9 := hD.sub (ws' := (wX0 cy h q2 q3 q4 q5 q6 q7 q8 q9 c0 c1 c2 c3 c4 c5 c6 c7 c8 c9 c10 c11)) [0, 1, 2, 3, 4, 5, 6, 7, 8] (by decide) rfl
      have hK9 := hK.sub (tys' := [(cy, .int)]) [0] rfl
      exact W.iret (v := (-1 : Int32)) hx hb hr (fun t ht hW => ⟨⟨(-1 : Int32), (), rfl, rfl, by rw [ht]; exact hP9, va_K.moved hW.alike hK9, hD9⟩, hS.F ht⟩) hS.2.2 dX0_both_17

