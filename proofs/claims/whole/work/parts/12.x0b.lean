set_option maxRecDepth 20000 in
theorem ggX0_sumWithoutOne_X0_bit : GoodIn wsX0_sumWithoutOne wsX0_bit := goodIn_r _ [6] (by decide +kernel) (by decide +kernel)
set_option maxRecDepth 20000 in
theorem gX0_sumWithoutOne_X0_bit : GoodIn wsX0_sumWithoutOne (va_wsS RX0 50 yX0_bit wsX0_bit) := goodIn_app (goodIn_of _ (by decide +kernel)) ggX0_sumWithoutOne_X0_bit
theorem dX0_sumWithoutOne_0 : decode cX0_sumWithoutOne 0 = .ok (.iconst 0, 1) := by decide +kernel
theorem dX0_sumWithoutOne_1 : decode cX0_sumWithoutOne 1 = .ok (.istore_n 3, 1) := by decide +kernel
theorem dX0_sumWithoutOne_2 : decode cX0_sumWithoutOne 2 = .ok (.iconst 0, 1) := by decide +kernel
theorem dX0_sumWithoutOne_3 : decode cX0_sumWithoutOne 3 = .ok (.istore 4, 2) := by decide +kernel
theorem dX0_sumWithoutOne_5 : decode cX0_sumWithoutOne 5 = .ok (.iload 4, 2) := by decide +kernel
theorem dX0_sumWithoutOne_7 : decode cX0_sumWithoutOne 7 = .ok (.aload_n 0, 1) := by decide +kernel
theorem dX0_sumWithoutOne_8 : decode cX0_sumWithoutOne 8 = .ok (.getfield 38, 3) := by decide +kernel
theorem dX0_sumWithoutOne_11 : decode cX0_sumWithoutOne 11 = .ok (.if_icmp .ge 36, 3) := by decide +kernel
theorem dX0_sumWithoutOne_14 : decode cX0_sumWithoutOne 14 = .ok (.iload_n 2, 1) := by decide +kernel
theorem dX0_sumWithoutOne_15 : decode cX0_sumWithoutOne 15 = .ok (.iload 4, 2) := by decide +kernel
theorem dX0_sumWithoutOne_17 : decode cX0_sumWithoutOne 17 = .ok (.invokestatic 50, 3) := by decide +kernel
theorem dX0_sumWithoutOne_20 : decode cX0_sumWithoutOne 20 = .ok (.iand, 1) := by decide +kernel
theorem dX0_sumWithoutOne_21 : decode cX0_sumWithoutOne 21 = .ok (.ifCond .eq 20, 3) := by decide +kernel
theorem dX0_sumWithoutOne_24 : decode cX0_sumWithoutOne 24 = .ok (.iload_n 3, 1) := by decide +kernel
theorem dX0_sumWithoutOne_25 : decode cX0_sumWithoutOne 25 = .ok (.aload_n 0, 1) := by decide +kernel
theorem dX0_sumWithoutOne_26 : decode cX0_sumWithoutOne 26 = .ok (.getfield 25, 3) := by decide +kernel
theorem dX0_sumWithoutOne_29 : decode cX0_sumWithoutOne 29 = .ok (.iload_n 1, 1) := by decide +kernel
theorem dX0_sumWithoutOne_30 : decode cX0_sumWithoutOne 30 = .ok (.iload 4, 2) := by decide +kernel
theorem dX0_sumWithoutOne_32 : decode cX0_sumWithoutOne 32 = .ok (.invokestatic 50, 3) := by decide +kernel
theorem dX0_sumWithoutOne_35 : decode cX0_sumWithoutOne 35 = .ok (.iconst (-1), 1) := by decide +kernel
theorem dX0_sumWithoutOne_36 : decode cX0_sumWithoutOne 36 = .ok (.ixor, 1) := by decide +kernel
theorem dX0_sumWithoutOne_37 : decode cX0_sumWithoutOne 37 = .ok (.iand, 1) := by decide +kernel
theorem dX0_sumWithoutOne_38 : decode cX0_sumWithoutOne 38 = .ok (.iaload, 1) := by decide +kernel
theorem dX0_sumWithoutOne_39 : decode cX0_sumWithoutOne 39 = .ok (.iadd, 1) := by decide +kernel
theorem dX0_sumWithoutOne_40 : decode cX0_sumWithoutOne 40 = .ok (.istore_n 3, 1) := by decide +kernel
theorem dX0_sumWithoutOne_41 : decode cX0_sumWithoutOne 41 = .ok (.iinc 4 1, 3) := by decide +kernel
theorem dX0_sumWithoutOne_44 : decode cX0_sumWithoutOne 44 = .ok (.goto (-39), 3) := by decide +kernel
theorem dX0_sumWithoutOne_47 : decode cX0_sumWithoutOne 47 = .ok (.iload_n 3, 1) := by decide +kernel
theorem dX0_sumWithoutOne_48 : decode cX0_sumWithoutOne 48 = .ok (.ireturn, 1) := by decide +kernel
abbrev rm_X0_sumWithoutOne : Room := { frames := 1, cells := 0, slots := 0, locals := 20 }
set_option maxHeartbeats 4000000 in
set_option maxRecDepth 100000 in
theorem c_X0_sumWithoutOne (N : Nat) (l : Launch) (dC : Nat → ClassId) (dI : Nat → Nat → Nat) (cy : ClassId) (h q2 q3 q4 q5 q6 q7 q8 q9 : Nat) (sz : Nat) (c0 : Int32) (c1 : Int32) (c2 : Nat → Int32) (c3 : Nat → Int32) (c4 : Nat → Int32) (c5 : Nat → Int32) (c6 : Nat → Int32) (c7 : Nat → Int32) (c8 : Nat → Int32) (c9 : Nat → Int32) (c10 : Int32) (c11 : Int32) (a1 a2 : Int32) (res : Int32) (hf : f_X0_sumWithoutOne N a1 a2 c0 c7 = some res) : Met l yX0_sumWithoutOne wsX0_sumWithoutOne rm_X0_sumWithoutOne (va_Pc [.ref h, .int a1, .int a2] (fun U => U.heap.size = sz ∧ va_P (dC, dI) vwCl (wX0 cy h q2 q3 q4 q5 q6 q7 q8 q9 c0 c1 c2 c3 c4 c5 c6 c7 c8 c9 c10 c11) U.heap ∧ va_K (dC, dI) vwCl [(cy, .int)] U ∧ va_D (fun _ => True) (wX0 cy h q2 q3 q4 q5 q6 q7 q8 q9 c0 c1 c2 c3 c4 c5 c6 c7 c8 c9 c10 c11))) (z_qI dC dI cy res (wX0 cy h q2 q3 q4 q5 q6 q7 q8 q9 c0 c1 c2 c3 c4 c5 c6 c7 c8 c9 c10 c11) (va_A (wX0 cy h q2 q3 q4 q5 q6 q7 q8 q9 c0 c1 c2 c3 c4 c5 c6 c7 c8 c9 c10 c11) sz)) 0 0 (va_A (wX0 cy h q2 q3 q4 q5 q6 q7 q8 q9 c0 c1 c2 c3 c4 c5 c6 c7 c8 c9 c10 c11) sz) := by
  refine Met.ofW (cc := cX0_sumWithoutOne) (maxL := 5) (ret := (some .int)) (by decide) rfl ?_
  intro p e s m args below meth c s₁ B hml hv
  obtain ⟨rfl, hsz, hP, hK, hD0⟩ := hv
  have hx := B.exec
  have hb := B.bytes
  have hr := B.returns
  have hts := atoms_spec (ws := wsX0_sumWithoutOne) B.pre
  have hown : s.vm.findClass RX0 = some m.cls := findClass_of_methodNamed B.named
  have hlocks := B.notSynchronized
  subst hsz
  have hD := hD0.self (sz := s.heap.size)
  generalize hAe : va_A (wX0 cy h q2 q3 q4 q5 q6 q7 q8 q9 c0 c1 c2 c3 c4 c5 c6 c7 c8 c9 c10 c11) s.heap.size = A at hD ⊢
  have hA : ∀ q : Nat, s.heap.size ≤ q → A q := fun q h => by rw [← hAe]; exact Or.inr h
  have hS : va_S A s.heap s.heap [] := va_S.rf
  have hP : va_P (dC, dI) vwCl (wX0 cy h q2 q3 q4 q5 q6 q7 q8 q9 c0 c1 c2 c3 c4 c5 c6 c7 c8 c9 c10 c11) s.heap := hP
  have hl := lv_entry ([.ref h, .int a1, .int a2]) (n := 5) (Nat.le_of_ble_eq_true rfl)
  rw [lg_entry_eq]
  generalize (lg_sl ([.ref h, .int a1, .int a2]) ++ List.replicate (5 - (lg_sl ([.ref h, .int a1, .int a2])).length) Slot.unset).toArray = ls at hl ⊢
  have hl : lv_has ls 5 [(0, .ref h), (1, .int a1), (2, .int a2)] := hl
  have B41 : ∀ (r5 : Int32 → Int32 → Int32 → Int32 → Option (Int32)), (∀ (x1 x2 x3 x4 : Int32) (H : Heap) (locs : List Loc) (ls : Array Slot), r5 x1 x2 x3 x4 = some res → va_P (dC, dI) vwCl (wX0 cy h q2 q3 q4 q5 q6 q7 q8 q9 c0 c1 c2 c3 c4 c5 c6 c7 c8 c9 c10 c11) H → va_D A (wX0 cy h q2 q3 q4 q5 q6 q7 q8 q9 c0 c1 c2 c3 c4 c5 c6 c7 c8 c9 c10 c11) → va_S A s.heap H locs → lv_has ls 5 [(0, .ref h), (1, .int x1), (2, .int x2), (3, .int x3), (4, .int x4)] → W p l e rm_X0_sumWithoutOne s m ([.ref h, .int a1, .int a2] : List Value).toArray below meth c H locs 0 0 (MQ below (z_qI dC dI cy res (wX0 cy h q2 q3 q4 q5 q6 q7 q8 q9 c0 c1 c2 c3 c4 c5 c6 c7 c8 c9 c10 c11) A) ([.ref h, .int a1, .int a2] : List Value).toArray s 0 0 A) (F0 m 5 ls [])) → ∀ (x1 x2 x3 x4 : Int32) (H : Heap) (locs : List Loc) (ls : Array Slot), f_X0_sumWithoutOne_b41 N c0 c7 r5 x1 x2 x3 x4 = some res → va_P (dC, dI) vwCl (wX0 cy h q2 q3 q4 q5 q6 q7 q8 q9 c0 c1 c2 c3 c4 c5 c6 c7 c8 c9 c10 c11) H → va_D A (wX0 cy h q2 q3 q4 q5 q6 q7 q8 q9 c0 c1 c2 c3 c4 c5 c6 c7 c8 c9 c10 c11) → va_S A s.heap H locs → lv_has ls 5 [(0, .ref h), (1, .int x1), (2, .int x2), (3, .int x3), (4, .int x4)] → W p l e rm_X0_sumWithoutOne s m ([.ref h, .int a1, .int a2] : List Value).toArray below meth c H locs 0 0 (MQ below (z_qI dC dI cy res (wX0 cy h q2 q3 q4 q5 q6 q7 q8 q9 c0 c1 c2 c3 c4 c5 c6 c7 c8 c9 c10 c11) A) ([.ref h, .int a1, .int a2] : List Value).toArray s 0 0 A) (F0 m 41 ls []) := by
    clear hf hl hP hD hS
    intro r5 hr5
    intro x1 x2 x3 x4 H locs ls hf hP hD hS hl
    unfold f_X0_sumWithoutOne_b41 at hf
    refine lv_iinc (v := x4 + (1 : Int32)) (lv' := [(4, .int (x4 + (1 : Int32))), (0, .ref h), (1, .int x1), (2, .int x2), (3, .int x3)]) hx hb dX0_sumWithoutOne_41 hl (k := 4) rfl rfl (by decide) rfl (fun ls hl => ?_)
    refine lv_goto (tgt := 5) hx hb dX0_sumWithoutOne_44 (by decide) ?_
    exact hr5 x1 x2 x3 (x4 + (1 : Int32)) _ _ _ hf hP hD hS (lv_sub hl [1, 2, 3, 4, 0] rfl)
  have B5 : ∀ n : Nat, ∀ (x1 x2 x3 x4 : Int32) (H : Heap) (locs : List Loc) (ls : Array Slot), f_X0_sumWithoutOne_b5 N c0 c7 n x1 x2 x3 x4 = some res → va_P (dC, dI) vwCl (wX0 cy h q2 q3 q4 q5 q6 q7 q8 q9 c0 c1 c2 c3 c4 c5 c6 c7 c8 c9 c10 c11) H → va_D A (wX0 cy h q2 q3 q4 q5 q6 q7 q8 q9 c0 c1 c2 c3 c4 c5 c6 c7 c8 c9 c10 c11) → va_S A s.heap H locs → lv_has ls 5 [(0, .ref h), (1, .int x1), (2, .int x2), (3, .int x3), (4, .int x4)] → W p l e rm_X0_sumWithoutOne s m ([.ref h, .int a1, .int a2] : List Value).toArray below meth c H locs 0 0 (MQ below (z_qI dC dI cy res (wX0 cy h q2 q3 q4 q5 q6 q7 q8 q9 c0 c1 c2 c3 c4 c5 c6 c7 c8 c9 c10 c11) A) ([.ref h, .int a1, .int a2] : List Value).toArray s 0 0 A) (F0 m 5 ls []) := by
    clear hf hl hP hD hS
    intro n
    induction n with
    | zero =>
      intro x1 x2 x3 x4 H locs ls hf hP hD hS hl
      rw [f_X0_sumWithoutOne_b5] at hf
      cases hf
    | succ n ih =>
      intro x1 x2 x3 x4 H locs ls hf hP hD hS hl
      rw [f_X0_sumWithoutOne_b5] at hf
      refine lv_iload hx hb dX0_sumWithoutOne_5 (lv_at hl 4 rfl) ?_
      refine lv_aload_n hx hb dX0_sumWithoutOne_7 rfl (lv_at hl 0 rfl) ?_
      refine va_get (D := (dC, dI)) (ci := 0) (v := .int c0) (C := RX0) (T := TX0) (N := 12) hx hb hts (by decide +kernel) hown hK hP 0 rfl rfl 0 (by decide) (hts (.fieldLink RX0 38 "GiftLots" "count" "I") (by decide +kernel)) (fun _ h9 => h9) rfl dX0_sumWithoutOne_8 ?_
      refine lv_icmp_ge (tgt := 47) hx hb dX0_sumWithoutOne_11 (by decide) (fun c_11 => ?_) (fun c_11 => ?_)
      · replace hf := (if_pos c_11).symm.trans hf
        refine lv_iload_n hx hb dX0_sumWithoutOne_47 rfl (lv_at hl 3 rfl) ?_
        have hres := Option.some.inj hf
        subst hres
        have hP9 := hP.sub (ws' := (wX0 cy h q2 q3 q4 q5 q6 q7 q8 q9 c0 c1 c2 c3 c4 c5 c6 c7 c8 c9 c10 c11)) [0, 1, 2, 3, 4, 5, 6, 7, 8] rfl
        have hD9 := hD.sub (ws' := (wX0 cy h q2 q3 q4 q5 q6 q7 q8 q9 c0 c1 c2 c3 c4 c5 c6 c7 c8 c9 c10 c11)) [0, 1, 2, 3, 4, 5, 6, 7, 8] (by decide) rfl
        have hK9 := hK.sub (tys' := [(cy, .int)]) [0] rfl
        exact W.iret (v := x3) hx hb hr (fun t ht hW => ⟨⟨x3, (), rfl, rfl, by rw [ht]; exact hP9, va_K.moved hW.alike hK9, hD9⟩, hS.F ht⟩) hS.2.2 dX0_sumWithoutOne_48
      · replace hf := (if_neg c_11).symm.trans hf
        refine lv_iload_n hx hb dX0_sumWithoutOne_14 rfl (lv_at hl 2 rfl) ?_
        refine lv_iload hx hb dX0_sumWithoutOne_15 (lv_at hl 4 rfl) ?_
        obtain ⟨u17, hu17, hf⟩ := z_ob_some hf
        have hPc := hP.sub (ws' := ([] : va_W)) [] rfl
        have hDc := hD.sub (ws' := ([] : va_W)) [] (by decide) rfl
        have hKc := hK.sub (tys' := [(cy, .int)]) [0] rfl
        have hFc := va_free (wc := ([] : va_W)) hD hS hA [] rfl
        refine va_calli (va_runS (As := [.int x4]) (rest := [.int x2]) ⟨hx, hb, hml, hown, hts⟩ (c_X0_bit N l dC dI cy H.size x4 u17 hu17) (va_cwS 1 hts gX0_sumWithoutOne_X0_bit rfl rfl rfl (by decide +kernel) ⟨Nat.le_of_ble_eq_true rfl, Nat.le_of_ble_eq_true rfl⟩) ⟨fun a U g mk q => by obtain ⟨q0, q1, qP, qK, qD⟩ := q; exact ⟨q0, q1, qP, va_K.moved (u := U) (U := U.calling g mk a) (Vm.Alike.refl U.vm) qK, qD⟩, fun U hU hW => ⟨rfl, by rw [hU], by rw [hU]; exact hPc, va_K.moved hW.alike hKc, hDc.weaken (fun _ _ _ _ => trivial)⟩⟩ rfl rfl hl.1 rfl (lv_room (Nat.le_of_ble_eq_true rfl)) dX0_sumWithoutOne_17 ⟨Nat.zero_le _, Nat.zero_le _⟩) hS (fun q _ h => hFc q h) hFc (fun r_17 uu_ t H1 locs ht hvm hw hB hz1 hk1 hS => ?_)
        replace hw := hw.symm
        subst hw
        obtain ⟨hP1, -, hD1⟩ := hB
        rw [ht] at hP1
        obtain ⟨hP, hD⟩ := va_join (wr := (wX0 cy h q2 q3 q4 q5 q6 q7 q8 q9 c0 c1 c2 c3 c4 c5 c6 c7 c8 c9 c10 c11)) (w1 := ([] : va_W)) hP hD [] [0, 1, 2, 3, 4, 5, 6, 7, 8] rfl rfl (by decide) (by decide) hk1 hFc hP1 hD1
        clear hk1 hz1 hP1 hD1 ht hPc hDc hFc
        generalize H1 = H at hP hS ⊢
        have hP : va_P (dC, dI) vwCl (wX0 cy h q2 q3 q4 q5 q6 q7 q8 q9 c0 c1 c2 c3 c4 c5 c6 c7 c8 c9 c10 c11) H := hP
        have hD : va_D A (wX0 cy h q2 q3 q4 q5 q6 q7 q8 q9 c0 c1 c2 c3 c4 c5 c6 c7 c8 c9 c10 c11) := hD
        refine lv_iand hx hb dX0_sumWithoutOne_20 ?_
        refine lv_if_eq (tgt := 41) hx hb dX0_sumWithoutOne_21 (by decide) (fun c_21 => ?_) (fun c_21 => ?_)
        · replace hf := (if_pos c_21).symm.trans hf
          exact B41 (f_X0_sumWithoutOne_b5 N c0 c7 n) ih x1 x2 x3 x4 _ _ _ hf hP hD hS (lv_sub hl [0, 1, 2, 3, 4] rfl)
        · replace hf := (if_neg c_21).symm.trans hf
          refine lv_iload_n hx hb dX0_sumWithoutOne_24 rfl (lv_at hl 3 rfl) ?_
          refine lv_aload_n hx hb dX0_sumWithoutOne_25 rfl (lv_at hl 0 rfl) ?_
          refine va_get (D := (dC, dI)) (ci := 0) (v := .ref q7) (C := RX0) (T := TX0) (N := 12) hx hb hts (by decide +kernel) hown hK hP 0 rfl rfl 7 (by decide) (hts (.fieldLink RX0 25 "GiftLots" "splits" "[I") (by decide +kernel)) (fun _ h9 => h9) rfl dX0_sumWithoutOne_26 ?_
          refine lv_iload_n hx hb dX0_sumWithoutOne_29 rfl (lv_at hl 1 rfl) ?_
          refine lv_iload hx hb dX0_sumWithoutOne_30 (lv_at hl 4 rfl) ?_
          obtain ⟨u32, hu32, hf⟩ := z_ob_some hf
          have hPc := hP.sub (ws' := ([] : va_W)) [] rfl
          have hDc := hD.sub (ws' := ([] : va_W)) [] (by decide) rfl
          have hKc := hK.sub (tys' := [(cy, .int)]) [0] rfl
          have hFc := va_free (wc := ([] : va_W)) hD hS hA [] rfl
          refine va_calli (va_runS (As := [.int x4]) (rest := [.int x1, .ref q7, .int x3]) ⟨hx, hb, hml, hown, hts⟩ (c_X0_bit N l dC dI cy H.size x4 u32 hu32) (va_cwS 1 hts gX0_sumWithoutOne_X0_bit rfl rfl rfl (by decide +kernel) ⟨Nat.le_of_ble_eq_true rfl, Nat.le_of_ble_eq_true rfl⟩) ⟨fun a U g mk q => by obtain ⟨q0, q1, qP, qK, qD⟩ := q; exact ⟨q0, q1, qP, va_K.moved (u := U) (U := U.calling g mk a) (Vm.Alike.refl U.vm) qK, qD⟩, fun U hU hW => ⟨rfl, by rw [hU], by rw [hU]; exact hPc, va_K.moved hW.alike hKc, hDc.weaken (fun _ _ _ _ => trivial)⟩⟩ rfl rfl hl.1 rfl (lv_room (Nat.le_of_ble_eq_true rfl)) dX0_sumWithoutOne_32 ⟨Nat.zero_le _, Nat.zero_le _⟩) hS (fun q _ h => hFc q h) hFc (fun r_32 uu_ t H1 locs ht hvm hw hB hz1 hk1 hS => ?_)
          replace hw := hw.symm
          subst hw
          obtain ⟨hP1, -, hD1⟩ := hB
          rw [ht] at hP1
          obtain ⟨hP, hD⟩ := va_join (wr := (wX0 cy h q2 q3 q4 q5 q6 q7 q8 q9 c0 c1 c2 c3 c4 c5 c6 c7 c8 c9 c10 c11)) (w1 := ([] : va_W)) hP hD [] [0, 1, 2, 3, 4, 5, 6, 7, 8] rfl rfl (by decide) (by decide) hk1 hFc hP1 hD1
          clear hk1 hz1 hP1 hD1 ht hPc hDc hFc
          generalize H1 = H at hP hS ⊢
          have hP : va_P (dC, dI) vwCl (wX0 cy h q2 q3 q4 q5 q6 q7 q8 q9 c0 c1 c2 c3 c4 c5 c6 c7 c8 c9 c10 c11) H := hP
          have hD : va_D A (wX0 cy h q2 q3 q4 q5 q6 q7 q8 q9 c0 c1 c2 c3 c4 c5 c6 c7 c8 c9 c10 c11) := hD
          refine lv_iconst (v := (-1 : Int32)) hx hb dX0_sumWithoutOne_35 (by decide) ?_
          refine lv_ixor hx hb dX0_sumWithoutOne_36 ?_
          refine lv_iand hx hb dX0_sumWithoutOne_37 ?_
          obtain ⟨hi38, hf⟩ := z_gx_some hf
          refine va_iald hx hb hK hP 6 0 rfl rfl hi38 dX0_sumWithoutOne_38 ?_
          refine lv_iadd hx hb dX0_sumWithoutOne_39 ?_
          refine lv_istore_n (lv' := [(3, .int (x3 + (c7 (x1 &&& (u32 ^^^ (-1 : Int32))).toNatClampNeg))), (0, .ref h), (1, .int x1), (2, .int x2), (4, .int x4)]) hx hb dX0_sumWithoutOne_40 rfl hl (by decide) rfl (fun ls hl => ?_)
          exact B41 (f_X0_sumWithoutOne_b5 N c0 c7 n) ih x1 x2 (x3 + (c7 (x1 &&& (u32 ^^^ (-1 : Int32))).toNatClampNeg)) x4 _ _ _ hf hP hD hS (lv_sub hl [1, 2, 3, 0, 4] rfl)
  unfold f_X0_sumWithoutOne at hf
  refine lv_iconst (v := (0 : Int32)) hx hb dX0_sumWithoutOne_0 (by decide) ?_
  refine lv_istore_n (lv' := [(3, .int (0 : Int32)), (0, .ref h), (1, .int a1), (2, .int a2)]) hx hb dX0_sumWithoutOne_1 rfl hl (by decide) rfl (fun ls hl => ?_)
  refine lv_iconst (v := (0 : Int32)) hx hb dX0_sumWithoutOne_2 (by decide) ?_
  refine lv_istore (lv' := [(4, .int (0 : Int32)), (3, .int (0 : Int32)), (0, .ref h), (1, .int a1), (2, .int a2)]) hx hb dX0_sumWithoutOne_3 hl (by decide) rfl (fun ls hl => ?_)
  exact B5 N a1 a2 (0 : Int32) (0 : Int32) _ _ _ hf hP hD hS (lv_sub hl [2, 3, 4, 1, 0] rfl)

set_option maxRecDepth 20000 in
theorem ggX0_placeRooks_X0_everyone : GoodIn wsX0_placeRooks wsX0_everyone := goodIn_r _ [8, 2, 20, 21, 22, 23, 24, 25, 26, 27, 28, 29, 30, 31] (by decide +kernel) (by decide +kernel)
set_option maxRecDepth 20000 in
theorem gX0_placeRooks_X0_everyone : GoodIn wsX0_placeRooks (wsV RX0 85 RX0 yX0_everyone wsX0_everyone) := goodIn_app (goodIn_of _ (by decide +kernel)) ggX0_placeRooks_X0_everyone
set_option maxRecDepth 20000 in
theorem ggX0_placeRooks_J7_fill_53178 : GoodIn wsX0_placeRooks wsJ7_fill_53178 := goodIn_r _ [12] (by decide +kernel) (by decide +kernel)
set_option maxRecDepth 20000 in
theorem gX0_placeRooks_J7_fill_53178 : GoodIn wsX0_placeRooks (va_wsS RX0 143 yJ7_fill_53178 wsJ7_fill_53178) := goodIn_app (goodIn_of _ (by decide +kernel)) ggX0_placeRooks_J7_fill_53178
set_option maxRecDepth 20000 in
theorem ggX0_placeRooks_X0_sumWithoutOne : GoodIn wsX0_placeRooks wsX0_sumWithoutOne := goodIn_r _ [16, 2, 1, 17, 18, 7, 19, 20, 21, 22, 23, 24, 25, 26, 27, 28, 29, 30, 31] (by decide +kernel) (by decide +kernel)
set_option maxRecDepth 20000 in
theorem gX0_placeRooks_X0_sumWithoutOne : GoodIn wsX0_placeRooks (wsV RX0 159 RX0 yX0_sumWithoutOne wsX0_sumWithoutOne) := goodIn_app (goodIn_of _ (by decide +kernel)) ggX0_placeRooks_X0_sumWithoutOne
theorem dX0_placeRooks_0 : decode cX0_placeRooks 0 = .ok (.aload_n 0, 1) := by decide +kernel
theorem dX0_placeRooks_1 : decode cX0_placeRooks 1 = .ok (.invokevirtual 85, 3) := by decide +kernel
theorem dX0_placeRooks_4 : decode cX0_placeRooks 4 = .ok (.istore_n 1, 1) := by decide +kernel
theorem dX0_placeRooks_5 : decode cX0_placeRooks 5 = .ok (.aload_n 0, 1) := by decide +kernel
theorem dX0_placeRooks_6 : decode cX0_placeRooks 6 = .ok (.getfield 25, 3) := by decide +kernel
theorem dX0_placeRooks_9 : decode cX0_placeRooks 9 = .ok (.iconst 0, 1) := by decide +kernel
theorem dX0_placeRooks_10 : decode cX0_placeRooks 10 = .ok (.invokestatic 143, 3) := by decide +kernel
theorem dX0_placeRooks_13 : decode cX0_placeRooks 13 = .ok (.aload_n 0, 1) := by decide +kernel
theorem dX0_placeRooks_14 : decode cX0_placeRooks 14 = .ok (.getfield 25, 3) := by decide +kernel
theorem dX0_placeRooks_17 : decode cX0_placeRooks 17 = .ok (.iconst 0, 1) := by decide +kernel
theorem dX0_placeRooks_18 : decode cX0_placeRooks 18 = .ok (.iconst 1, 1) := by decide +kernel
theorem dX0_placeRooks_19 : decode cX0_placeRooks 19 = .ok (.iastore, 1) := by decide +kernel
theorem dX0_placeRooks_20 : decode cX0_placeRooks 20 = .ok (.iconst 0, 1) := by decide +kernel
theorem dX0_placeRooks_21 : decode cX0_placeRooks 21 = .ok (.istore_n 2, 1) := by decide +kernel
theorem dX0_placeRooks_22 : decode cX0_placeRooks 22 = .ok (.iload_n 2, 1) := by decide +kernel
theorem dX0_placeRooks_23 : decode cX0_placeRooks 23 = .ok (.aload_n 0, 1) := by decide +kernel
theorem dX0_placeRooks_24 : decode cX0_placeRooks 24 = .ok (.getfield 38, 3) := by decide +kernel
theorem dX0_placeRooks_27 : decode cX0_placeRooks 27 = .ok (.if_icmp .ge 54, 3) := by decide +kernel
theorem dX0_placeRooks_30 : decode cX0_placeRooks 30 = .ok (.iload_n 1, 1) := by decide +kernel
theorem dX0_placeRooks_31 : decode cX0_placeRooks 31 = .ok (.aload_n 0, 1) := by decide +kernel
theorem dX0_placeRooks_32 : decode cX0_placeRooks 32 = .ok (.getfield 9, 3) := by decide +kernel
theorem dX0_placeRooks_35 : decode cX0_placeRooks 35 = .ok (.iload_n 2, 1) := by decide +kernel
theorem dX0_placeRooks_36 : decode cX0_placeRooks 36 = .ok (.iaload, 1) := by decide +kernel
theorem dX0_placeRooks_37 : decode cX0_placeRooks 37 = .ok (.iconst (-1), 1) := by decide +kernel
theorem dX0_placeRooks_38 : decode cX0_placeRooks 38 = .ok (.ixor, 1) := by decide +kernel
theorem dX0_placeRooks_39 : decode cX0_placeRooks 39 = .ok (.iand, 1) := by decide +kernel
theorem dX0_placeRooks_40 : decode cX0_placeRooks 40 = .ok (.istore_n 3, 1) := by decide +kernel
theorem dX0_placeRooks_41 : decode cX0_placeRooks 41 = .ok (.iload_n 1, 1) := by decide +kernel
theorem dX0_placeRooks_42 : decode cX0_placeRooks 42 = .ok (.istore 4, 2) := by decide +kernel
theorem dX0_placeRooks_44 : decode cX0_placeRooks 44 = .ok (.iload 4, 2) := by decide +kernel
theorem dX0_placeRooks_46 : decode cX0_placeRooks 46 = .ok (.ifCond .le 29, 3) := by decide +kernel
theorem dX0_placeRooks_49 : decode cX0_placeRooks 49 = .ok (.aload_n 0, 1) := by decide +kernel
theorem dX0_placeRooks_50 : decode cX0_placeRooks 50 = .ok (.getfield 25, 3) := by decide +kernel
theorem dX0_placeRooks_53 : decode cX0_placeRooks 53 = .ok (.iload 4, 2) := by decide +kernel
theorem dX0_placeRooks_55 : decode cX0_placeRooks 55 = .ok (.dup2, 1) := by decide +kernel
theorem dX0_placeRooks_56 : decode cX0_placeRooks 56 = .ok (.iaload, 1) := by decide +kernel
theorem dX0_placeRooks_57 : decode cX0_placeRooks 57 = .ok (.aload_n 0, 1) := by decide +kernel
theorem dX0_placeRooks_58 : decode cX0_placeRooks 58 = .ok (.iload 4, 2) := by decide +kernel
theorem dX0_placeRooks_60 : decode cX0_placeRooks 60 = .ok (.iload 4, 2) := by decide +kernel
theorem dX0_placeRooks_62 : decode cX0_placeRooks 62 = .ok (.iload_n 3, 1) := by decide +kernel
theorem dX0_placeRooks_63 : decode cX0_placeRooks 63 = .ok (.iand, 1) := by decide +kernel
theorem dX0_placeRooks_64 : decode cX0_placeRooks 64 = .ok (.invokevirtual 159, 3) := by decide +kernel
theorem dX0_placeRooks_67 : decode cX0_placeRooks 67 = .ok (.iadd, 1) := by decide +kernel
theorem dX0_placeRooks_68 : decode cX0_placeRooks 68 = .ok (.iastore, 1) := by decide +kernel
theorem dX0_placeRooks_69 : decode cX0_placeRooks 69 = .ok (.iinc 4 (-1), 3) := by decide +kernel
theorem dX0_placeRooks_72 : decode cX0_placeRooks 72 = .ok (.goto (-28), 3) := by decide +kernel
theorem dX0_placeRooks_75 : decode cX0_placeRooks 75 = .ok (.iinc 2 1, 3) := by decide +kernel
theorem dX0_placeRooks_78 : decode cX0_placeRooks 78 = .ok (.goto (-56), 3) := by decide +kernel
theorem dX0_placeRooks_81 : decode cX0_placeRooks 81 = .ok (.return_, 1) := by decide +kernel
abbrev rm_X0_placeRooks : Room := { frames := 2, cells := 0, slots := 0, locals := 44 }
set_option maxHeartbeats 4000000 in
set_option maxRecDepth 100000 in
theorem c_X0_placeRooks (N : Nat) (l : Launch) (dC : Nat → ClassId) (dI : Nat → Nat → Nat) (cy : ClassId) (h q2 q3 q4 q5 q6 q7 q8 q9 : Nat) (sz : Nat) (c0 : Int32) (c1 : Int32) (c2 : Nat → Int32) (c3 : Nat → Int32) (c4 : Nat → Int32) (c5 : Nat → Int32) (c6 : Nat → Int32) (c7 : Nat → Int32) (c8 : Nat → Int32) (c9 : Nat → Int32) (c10 : Int32) (c11 : Int32) (res : (Nat → Int32)) (hf : f_X0_placeRooks N c0 c2 c7 = some res) : Met l yX0_placeRooks wsX0_placeRooks rm_X0_placeRooks (va_Pc [.ref h] (fun U => U.heap.size = sz ∧ va_P (dC, dI) vwCl (wX0 cy h q2 q3 q4 q5 q6 q7 q8 q9 c0 c1 c2 c3 c4 c5 c6 c7 c8 c9 c10 c11) U.heap ∧ va_K (dC, dI) vwCl [(cy, .int)] U ∧ va_D (fun _ => True) (wX0 cy h q2 q3 q4 q5 q6 q7 q8 q9 c0 c1 c2 c3 c4 c5 c6 c7 c8 c9 c10 c11))) (z_qV dC dI cy (wX0 cy h q2 q3 q4 q5 q6 q7 q8 q9 c0 c1 c2 c3 c4 c5 c6 res c8 c9 c10 c11) (va_A (wX0 cy h q2 q3 q4 q5 q6 q7 q8 q9 c0 c1 c2 c3 c4 c5 c6 c7 c8 c9 c10 c11) sz)) 0 0 (va_A (wX0 cy h q2 q3 q4 q5 q6 q7 q8 q9 c0 c1 c2 c3 c4 c5 c6 c7 c8 c9 c10 c11) sz) := by
  refine Met.ofW (cc := cX0_placeRooks) (maxL := 5) (ret := none) (by decide) rfl ?_
  intro p e s m args below meth c s₁ B hml hv
  obtain ⟨rfl, hsz, hP, hK, hD0⟩ := hv
  have hx := B.exec
  have hb := B.bytes
  have hr := B.returns
  have hts := atoms_spec (ws := wsX0_placeRooks) B.pre
  have hown : s.vm.findClass RX0 = some m.cls := findClass_of_methodNamed B.named
  have hlocks := B.notSynchronized
  subst hsz
  have hD := hD0.self (sz := s.heap.size)
  generalize hAe : va_A (wX0 cy h q2 q3 q4 q5 q6 q7 q8 q9 c0 c1 c2 c3 c4 c5 c6 c7 c8 c9 c10 c11) s.heap.size = A at hD ⊢
  have hA : ∀ q : Nat, s.heap.size ≤ q → A q := fun q h => by rw [← hAe]; exact Or.inr h
  have hS : va_S A s.heap s.heap [] := va_S.rf
  have hP : va_P (dC, dI) vwCl (wX0 cy h q2 q3 q4 q5 q6 q7 q8 q9 c0 c1 c2 c3 c4 c5 c6 c7 c8 c9 c10 c11) s.heap := hP
  have hl := lv_entry ([.ref h]) (n := 5) (Nat.le_of_ble_eq_true rfl)
  rw [lg_entry_eq]
  generalize (lg_sl ([.ref h]) ++ List.replicate (5 - (lg_sl ([.ref h])).length) Slot.unset).toArray = ls at hl ⊢
  have hl : lv_has ls 5 [(0, .ref h)] := hl
  have B44 : ∀ (r22 : Int32 → Int32 → (Nat → Int32) → Option ((Nat → Int32))), (∀ (x1 x2 : Int32) (c7 : Nat → Int32) (H : Heap) (locs : List Loc) (ls : Array Slot), r22 x1 x2 c7 = some res → va_P (dC, dI) vwCl (wX0 cy h q2 q3 q4 q5 q6 q7 q8 q9 c0 c1 c2 c3 c4 c5 c6 c7 c8 c9 c10 c11) H → va_D A (wX0 cy h q2 q3 q4 q5 q6 q7 q8 q9 c0 c1 c2 c3 c4 c5 c6 c7 c8 c9 c10 c11) → va_S A s.heap H locs → lv_has ls 5 [(0, .ref h), (1, .int x1), (2, .int x2)] → W p l e rm_X0_placeRooks s m ([.ref h] : List Value).toArray below meth c H locs 0 0 (MQ below (z_qV dC dI cy (wX0 cy h q2 q3 q4 q5 q6 q7 q8 q9 c0 c1 c2 c3 c4 c5 c6 res c8 c9 c10 c11) A) ([.ref h] : List Value).toArray s 0 0 A) (F0 m 22 ls [])) → ∀ n : Nat, ∀ (x1 x2 x3 x4 : Int32) (c7 : Nat → Int32) (H : Heap) (locs : List Loc) (ls : Array Slot), f_X0_placeRooks_b44 N c0 c2 r22 n x1 x2 x3 x4 c7 = some res → va_P (dC, dI) vwCl (wX0 cy h q2 q3 q4 q5 q6 q7 q8 q9 c0 c1 c2 c3 c4 c5 c6 c7 c8 c9 c10 c11) H → va_D A (wX0 cy h q2 q3 q4 q5 q6 q7 q8 q9 c0 c1 c2 c3 c4 c5 c6 c7 c8 c9 c10 c11) → va_S A s.heap H locs → lv_has ls 5 [(0, .ref h), (1, .int x1), (2, .int x2), (3, .int x3), (4, .int x4)] → W p l e rm_X0_placeRooks s m ([.ref h] : List Value).toArray below meth c H locs 0 0 (MQ below (z_qV dC dI cy (wX0 cy h q2 q3 q4 q5 q6 q7 q8 q9 c0 c1 c2 c3 c4 c5 c6 res c8 c9 c10 c11) A) ([.ref h] : List Value).toArray s 0 0 A) (F0 m 44 ls []) := by
    clear hf hl hP hD hS
    intro r22 hr22
    intro n
    induction n with
    | zero =>
      intro x1 x2 x3 x4 c7 H locs ls hf hP hD hS hl
      rw [f_X0_placeRooks_b44] at hf
      cases hf
    | succ n ih =>
      intro x1 x2 x3 x4 c7 H locs ls hf hP hD hS hl
      rw [f_X0_placeRooks_b44] at hf
      refine lv_iload hx hb dX0_placeRooks_44 (lv_at hl 4 rfl) ?_
      refine lv_if_le (tgt := 75) hx hb dX0_placeRooks_46 (by decide) (fun c_46 => ?_) (fun c_46 => ?_)
      · replace hf := (if_pos c_46).symm.trans hf
        refine lv_iinc (v := x2 + (1 : Int32)) (lv' := [(2, .int (x2 + (1 : Int32))), (0, .ref h), (1, .int x1), (3, .int x3), (4, .int x4)]) hx hb dX0_placeRooks_75 hl (k := 2) rfl rfl (by decide) rfl (fun ls hl => ?_)
        refine lv_goto (tgt := 22) hx hb dX0_placeRooks_78 (by decide) ?_
        exact hr22 x1 (x2 + (1 : Int32)) c7 _ _ _ hf hP hD hS (lv_sub hl [1, 2, 0] rfl)
      · replace hf := (if_neg c_46).symm.trans hf
        refine lv_aload_n hx hb dX0_placeRooks_49 rfl (lv_at hl 0 rfl) ?_
        refine va_get (D := (dC, dI)) (ci := 0) (v := .ref q7) (C := RX0) (T := TX0) (N := 12) hx hb hts (by decide +kernel) hown hK hP 0 rfl rfl 7 (by decide) (hts (.fieldLink RX0 25 "GiftLots" "splits" "[I") (by decide +kernel)) (fun _ h9 => h9) rfl dX0_placeRooks_50 ?_
        refine lv_iload hx hb dX0_placeRooks_53 (lv_at hl 4 rfl) ?_
        refine lv_dup2_11 hx hb dX0_placeRooks_55 rfl rfl ?_
        obtain ⟨hi56, hf⟩ := z_gx_some hf
        refine va_iald hx hb hK hP 6 0 rfl rfl hi56 dX0_placeRooks_56 ?_
        refine lv_aload_n hx hb dX0_placeRooks_57 rfl (lv_at hl 0 rfl) ?_
        refine lv_iload hx hb dX0_placeRooks_58 (lv_at hl 4 rfl) ?_
        refine lv_iload hx hb dX0_placeRooks_60 (lv_at hl 4 rfl) ?_
        refine lv_iload_n hx hb dX0_placeRooks_62 rfl (lv_at hl 3 rfl) ?_
        refine lv_iand hx hb dX0_placeRooks_63 ?_
        obtain ⟨u64, hu64, hf⟩ := z_ob_some hf
        have hPc := hP.sub (ws' := (wX0 cy h q2 q3 q4 q5 q6 q7 q8 q9 c0 c1 c2 c3 c4 c5 c6 c7 c8 c9 c10 c11)) [0, 1, 2, 3, 4, 5, 6, 7, 8] rfl
        have hDc := hD.sub (ws' := (wX0 cy h q2 q3 q4 q5 q6 q7 q8 q9 c0 c1 c2 c3 c4 c5 c6 c7 c8 c9 c10 c11)) [0, 1, 2, 3, 4, 5, 6, 7, 8] (by decide) rfl
        have hKc := hK.sub (tys' := [(cy, .int)]) [0] rfl
        have hFc := va_free (wc := (wX0 cy h q2 q3 q4 q5 q6 q7 q8 q9 c0 c1 c2 c3 c4 c5 c6 c7 c8 c9 c10 c11)) hD hS hA [0, 1, 2, 3, 4, 5, 6, 7, 8] rfl
        refine va_calli (va_runV (As := [.int x4, .int (x4 &&& x3)]) (rest := [.int (c7 (x4).toNatClampNeg), .int x4, .ref q7]) ⟨hx, hb, hml, hown, hts⟩ (c_X0_sumWithoutOne N l dC dI cy h q2 q3 q4 q5 q6 q7 q8 q9 H.size c0 c1 c2 c3 c4 c5 c6 c7 c8 c9 c10 c11 x4 (x4 &&& x3) u64 hu64) (cwV 2 hts gX0_placeRooks_X0_sumWithoutOne rfl rfl rfl (by decide +kernel) ⟨Nat.le_of_ble_eq_true rfl, Nat.le_of_ble_eq_true rfl⟩) ⟨fun a U g mk q => by obtain ⟨q0, q1, qP, qK, qD⟩ := q; exact ⟨q0, q1, qP, va_K.moved (u := U) (U := U.calling g mk a) (Vm.Alike.refl U.vm) qK, qD⟩, va_recv hKc hPc (ci := 0) (q0 := 0) rfl rfl, fun U hU hW => ⟨rfl, by rw [hU], by rw [hU]; exact hPc, va_K.moved hW.alike hKc, hDc.weaken (fun _ _ _ _ => trivial)⟩⟩ rfl rfl hl.1 rfl (lv_room (Nat.le_of_ble_eq_true rfl)) dX0_placeRooks_64 ⟨Nat.zero_le _, Nat.zero_le _⟩) hS (fun q _ h => hFc q h) hFc (fun r_64 uu_ t H1 locs ht hvm hw hB hz1 hk1 hS => ?_)
        replace hw := hw.symm
        subst hw
        obtain ⟨hP1, -, hD1⟩ := hB
        rw [ht] at hP1
        obtain ⟨hP, hD⟩ := va_join (wr := []) (w1 := (wX0 cy h q2 q3 q4 q5 q6 q7 q8 q9 c0 c1 c2 c3 c4 c5 c6 c7 c8 c9 c10 c11)) hP hD [0, 1, 2, 3, 4, 5, 6, 7, 8] [] rfl rfl (by decide) (by decide) hk1 hFc hP1 hD1
        clear hk1 hz1 hP1 hD1 ht hPc hDc hFc
        generalize H1 = H at hP hS ⊢
        have hP : va_P (dC, dI) vwCl (wX0 cy h q2 q3 q4 q5 q6 q7 q8 q9 c0 c1 c2 c3 c4 c5 c6 c7 c8 c9 c10 c11) H := hP
        have hD : va_D A (wX0 cy h q2 q3 q4 q5 q6 q7 q8 q9 c0 c1 c2 c3 c4 c5 c6 c7 c8 c9 c10 c11) := hD
        refine lv_iadd hx hb dX0_placeRooks_67 ?_
        obtain ⟨hi68, hf⟩ := z_gx_some hf
        refine va_iast hx hb hK hP hD hS 6 0 rfl rfl hi68 dX0_placeRooks_68 (fun H locs hP hD hS => ?_)
        have hP : va_P (dC, dI) vwCl (wX0 cy h q2 q3 q4 q5 q6 q7 q8 q9 c0 c1 c2 c3 c4 c5 c6 (upd c7 (x4).toNatClampNeg ((c7 (x4).toNatClampNeg) + u64)) c8 c9 c10 c11) H := hP
        have hD : va_D A (wX0 cy h q2 q3 q4 q5 q6 q7 q8 q9 c0 c1 c2 c3 c4 c5 c6 (upd c7 (x4).toNatClampNeg ((c7 (x4).toNatClampNeg) + u64)) c8 c9 c10 c11) := hD
        refine lv_iinc (v := x4 + (-1 : Int32)) (lv' := [(4, .int (x4 + (-1 : Int32))), (0, .ref h), (1, .int x1), (2, .int x2), (3, .int x3)]) hx hb dX0_placeRooks_69 hl (k := 4) rfl rfl (by decide) rfl (fun ls hl => ?_)
        refine lv_goto (tgt := 44) hx hb dX0_placeRooks_72 (by decide) ?_
        exact ih x1 x2 x3 (x4 + (-1 : Int32)) (upd c7 (x4).toNatClampNeg ((c7 (x4).toNatClampNeg) + u64)) _ _ _ hf hP hD hS (lv_sub hl [1, 2, 3, 4, 0] rfl)
  have B22 : ∀ n : Nat, ∀ (x1 x2 : Int32) (c7 : Nat → Int32) (H : Heap) (locs : List Loc) (ls : Array Slot), f_X0_placeRooks_b22 N c0 c2 n x1 x2 c7 = some res → va_P (dC, dI) vwCl (wX0 cy h q2 q3 q4 q5 q6 q7 q8 q9 c0 c1 c2 c3 c4 c5 c6 c7 c8 c9 c10 c11) H → va_D A (wX0 cy h q2 q3 q4 q5 q6 q7 q8 q9 c0 c1 c2 c3 c4 c5 c6 c7 c8 c9 c10 c11) → va_S A s.heap H locs → lv_has ls 5 [(0, .ref h), (1, .int x1), (2, .int x2)] → W p l e rm_X0_placeRooks s m ([.ref h] : List Value).toArray below meth c H locs 0 0 (MQ below (z_qV dC dI cy (wX0 cy h q2 q3 q4 q5 q6 q7 q8 q9 c0 c1 c2 c3 c4 c5 c6 res c8 c9 c10 c11) A) ([.ref h] : List Value).toArray s 0 0 A) (F0 m 22 ls []) := by
    clear hf hl hP hD hS
    intro n
    induction n with
    | zero =>
      intro x1 x2 c7 H locs ls hf hP hD hS hl
      rw [f_X0_placeRooks_b22] at hf
      cases hf
    | succ n ih =>
      intro x1 x2 c7 H locs ls hf hP hD hS hl
      rw [f_X0_placeRooks_b22] at hf
      refine lv_iload_n hx hb dX0_placeRooks_22 rfl (lv_at hl 2 rfl) ?_
      refine lv_aload_n hx hb dX0_placeRooks_23 rfl (lv_at hl 0 rfl) ?_
      refine va_get (D := (dC, dI)) (ci := 0) (v := .int c0) (C := RX0) (T := TX0) (N := 12) hx hb hts (by decide +kernel) hown hK hP 0 rfl rfl 0 (by decide) (hts (.fieldLink RX0 38 "GiftLots" "count" "I") (by decide +kernel)) (fun _ h9 => h9) rfl dX0_placeRooks_24 ?_
      refine lv_icmp_ge (tgt := 81) hx hb dX0_placeRooks_27 (by decide) (fun c_27 => ?_) (fun c_27 => ?_)
      · replace hf := (if_pos c_27).symm.trans hf
        have hres := Option.some.inj hf
        subst hres
        have hP9 := hP.sub (ws' := (wX0 cy h q2 q3 q4 q5 q6 q7 q8 q9 c0 c1 c2 c3 c4 c5 c6 c7 c8 c9 c10 c11)) [0, 1, 2, 3, 4, 5, 6, 7, 8] rfl
        have hD9 := hD.sub (ws' := (wX0 cy h q2 q3 q4 q5 q6 q7 q8 q9 c0 c1 c2 c3 c4 c5 c6 c7 c8 c9 c10 c11)) [0, 1, 2, 3, 4, 5, 6, 7, 8] (by decide) rfl
        have hK9 := hK.sub (tys' := [(cy, .int)]) [0] rfl
        exact W.vret hx hb hr (fun t ht hW => ⟨⟨(), rfl, trivial, by rw [ht]; exact hP9, va_K.moved hW.alike hK9, hD9⟩, hS.F ht⟩) hS.2.2 dX0_placeRooks_81
      · replace hf := (if_neg c_27).symm.trans hf
        refine lv_iload_n hx hb dX0_placeRooks_30 rfl (lv_at hl 1 rfl) ?_
        refine lv_aload_n hx hb dX0_placeRooks_31 rfl (lv_at hl 0 rfl) ?_
        refine va_get (D := (dC, dI)) (ci := 0) (v := .ref q2) (C := RX0) (T := TX0) (N := 12) hx hb hts (by decide +kernel) hown hK hP 0 rfl rfl 2 (by decide) (hts (.fieldLink RX0 9 "GiftLots" "board" "[I") (by decide +kernel)) (fun _ h9 => h9) rfl dX0_placeRooks_32 ?_
        refine lv_iload_n hx hb dX0_placeRooks_35 rfl (lv_at hl 2 rfl) ?_
        obtain ⟨hi36, hf⟩ := z_gx_some hf
        refine va_iald hx hb hK hP 1 0 rfl rfl hi36 dX0_placeRooks_36 ?_
        refine lv_iconst (v := (-1 : Int32)) hx hb dX0_placeRooks_37 (by decide) ?_
        refine lv_ixor hx hb dX0_placeRooks_38 ?_
        refine lv_iand hx hb dX0_placeRooks_39 ?_
        refine lv_istore_n (lv' := [(3, .int (x1 &&& ((c2 (x2).toNatClampNeg) ^^^ (-1 : Int32)))), (0, .ref h), (1, .int x1), (2, .int x2)]) hx hb dX0_placeRooks_40 rfl hl (by decide) rfl (fun ls hl => ?_)
        refine lv_iload_n hx hb dX0_placeRooks_41 rfl (lv_at hl 2 rfl) ?_
        refine lv_istore (lv' := [(4, .int x1), (3, .int (x1 &&& ((c2 (x2).toNatClampNeg) ^^^ (-1 : Int32)))), (0, .ref h), (1, .int x1), (2, .int x2)]) hx hb dX0_placeRooks_42 hl (by decide) rfl (fun ls hl => ?_)
        exact B44 (f_X0_placeRooks_b22 N c0 c2 n) ih N x1 x2 (x1 &&& ((c2 (x2).toNatClampNeg) ^^^ (-1 : Int32))) x1 c7 _ _ _ hf hP hD hS (lv_sub hl [2, 3, 4, 1, 0] rfl)
  unfold f_X0_placeRooks at hf
  refine lv_aload_n hx hb dX0_placeRooks_0 rfl (lv_at hl 0 rfl) ?_
  obtain ⟨u1, hu1, hf⟩ := z_ob_some hf
  have hPc := hP.sub (ws' := (wX0 cy h q2 q3 q4 q5 q6 q7 q8 q9 c0 c1 c2 c3 c4 c5 c6 c7 c8 c9 c10 c11)) [0, 1, 2, 3, 4, 5, 6, 7, 8] rfl
  have hDc := hD.sub (ws' := (wX0 cy h q2 q3 q4 q5 q6 q7 q8 q9 c0 c1 c2 c3 c4 c5 c6 c7 c8 c9 c10 c11)) [0, 1, 2, 3, 4, 5, 6, 7, 8] (by decide) rfl
  have hKc := hK.sub (tys' := [(cy, .int)]) [0] rfl
  have hFc := va_free (wc := (wX0 cy h q2 q3 q4 q5 q6 q7 q8 q9 c0 c1 c2 c3 c4 c5 c6 c7 c8 c9 c10 c11)) hD hS hA [0, 1, 2, 3, 4, 5, 6, 7, 8] rfl
  refine va_calli (va_runV (As := []) (rest := []) ⟨hx, hb, hml, hown, hts⟩ (c_X0_everyone N l dC dI cy h q2 q3 q4 q5 q6 q7 q8 q9 s.heap.size c0 c1 c2 c3 c4 c5 c6 c7 c8 c9 c10 c11 u1 hu1) (cwV 0 hts gX0_placeRooks_X0_everyone rfl rfl rfl (by decide +kernel) ⟨Nat.le_of_ble_eq_true rfl, Nat.le_of_ble_eq_true rfl⟩) ⟨fun a U g mk q => by obtain ⟨q0, q1, qP, qK, qD⟩ := q; exact ⟨q0, q1, qP, va_K.moved (u := U) (U := U.calling g mk a) (Vm.Alike.refl U.vm) qK, qD⟩, va_recv hKc hPc (ci := 0) (q0 := 0) rfl rfl, fun U hU hW => ⟨rfl, by rw [hU], by rw [hU]; exact hPc, va_K.moved hW.alike hKc, hDc.weaken (fun _ _ _ _ => trivial)⟩⟩ rfl rfl hl.1 rfl (lv_room (Nat.le_of_ble_eq_true rfl)) dX0_placeRooks_1 ⟨Nat.zero_le _, Nat.zero_le _⟩) hS (fun q _ h => hFc q h) hFc (fun r_1 uu_ t H1 locs ht hvm hw hB hz1 hk1 hS => ?_)
  replace hw := hw.symm
  subst hw
  obtain ⟨hP1, -, hD1⟩ := hB
  rw [ht] at hP1
  obtain ⟨hP, hD⟩ := va_join (wr := []) (w1 := (wX0 cy h q2 q3 q4 q5 q6 q7 q8 q9 c0 c1 c2 c3 c4 c5 c6 c7 c8 c9 c10 c11)) hP hD [0, 1, 2, 3, 4, 5, 6, 7, 8] [] rfl rfl (by decide) (by decide) hk1 hFc hP1 hD1
  clear hk1 hz1 hP1 hD1 ht hPc hDc hFc
  generalize H1 = H at hP hS ⊢
  have hP : va_P (dC, dI) vwCl (wX0 cy h q2 q3 q4 q5 q6 q7 q8 q9 c0 c1 c2 c3 c4 c5 c6 c7 c8 c9 c10 c11) H := hP
  have hD : va_D A (wX0 cy h q2 q3 q4 q5 q6 q7 q8 q9 c0 c1 c2 c3 c4 c5 c6 c7 c8 c9 c10 c11) := hD
  refine lv_istore_n (lv' := [(1, .int u1), (0, .ref h)]) hx hb dX0_placeRooks_4 rfl hl (by decide) rfl (fun ls hl => ?_)
  refine lv_aload_n hx hb dX0_placeRooks_5 rfl (lv_at hl 1 rfl) ?_
  refine va_get (D := (dC, dI)) (ci := 0) (v := .ref q7) (C := RX0) (T := TX0) (N := 12) hx hb hts (by decide +kernel) hown hK hP 0 rfl rfl 7 (by decide) (hts (.fieldLink RX0 25 "GiftLots" "splits" "[I") (by decide +kernel)) (fun _ h9 => h9) rfl dX0_placeRooks_6 ?_
  refine lv_iconst (v := (0 : Int32)) hx hb dX0_placeRooks_9 (by decide) ?_
  have hPc := hP.sub (ws' := [(q7, .inl (cy, 256, .inl c7))]) [6] rfl
  have hDc := hD.sub (ws' := [(q7, .inl (cy, 256, .inl c7))]) [6] (by decide) rfl
  have hKc := hK.sub (tys' := [(cy, .int)]) [0] rfl
  have hFc := va_free (wc := [(q7, .inl (cy, 256, .inl c7))]) hD hS hA [6] rfl
  refine va_callv (va_runS (As := [.ref q7, .int (0 : Int32)]) (rest := []) ⟨hx, hb, hml, hown, hts⟩ (c_fill l dC dI cy q7 256 (by decide) H.size c7 (0 : Int32)) (va_cwS 2 hts gX0_placeRooks_J7_fill_53178 rfl rfl rfl (by decide +kernel) ⟨Nat.le_of_ble_eq_true rfl, Nat.le_of_ble_eq_true rfl⟩) ⟨fun a U g mk q => by obtain ⟨q0, q1, qP, qK, qD⟩ := q; exact ⟨q0, q1, qP, va_K.moved (u := U) (U := U.calling g mk a) (Vm.Alike.refl U.vm) qK, qD⟩, fun U hU hW => ⟨rfl, by rw [hU], by rw [hU]; exact hPc, va_K.moved hW.alike hKc, hDc.weaken (fun _ _ _ _ => trivial)⟩⟩ rfl rfl hl.1 rfl (lv_room (Nat.le_of_ble_eq_true rfl)) dX0_placeRooks_10 ⟨Nat.zero_le _, Nat.zero_le _⟩) hS (fun q _ h => hFc q h) hFc (fun uu_ t H1 locs ht hvm hw hB hz1 hk1 hS => ?_)
  obtain ⟨hP1, -, hD1⟩ := hB
  rw [ht] at hP1
  obtain ⟨hP, hD⟩ := va_join (wr := [(h, .inr (0, [.int c0, .int c1, .ref q2, .ref q3, .ref q4, .ref q5, .ref q6, .ref q7, .ref q8, .ref q9, .int c10, .int c11])), (q2, .inl (cy, 8, .inl c2)), (q3, .inl (cy, 8, .inl c3)), (q4, .inl (cy, 8, .inl c4)), (q5, .inl (cy, 2048, .inl c5)), (q6, .inl (cy, 256, .inl c6)), (q8, .inl (cy, 8, .inl c8)), (q9, .inl (cy, 8, .inl c9))]) (w1 := [(q7, .inl (cy, 256, .inl (z_fl 256 c7 (0 : Int32))))]) hP hD [6] [0, 1, 2, 3, 4, 5, 7, 8] rfl rfl (by decide) (by decide) hk1 hFc hP1 hD1
  clear hk1 hz1 hP1 hD1 ht hPc hDc hFc
  generalize H1 = H at hP hS ⊢
  have hP := hP.sub (ws' := (wX0 cy h q2 q3 q4 q5 q6 q7 q8 q9 c0 c1 c2 c3 c4 c5 c6 (z_fl 256 c7 (0 : Int32)) c8 c9 c10 c11)) [0, 1, 2, 3, 4, 5, 8, 6, 7] rfl
  have hD := hD.sub (ws' := (wX0 cy h q2 q3 q4 q5 q6 q7 q8 q9 c0 c1 c2 c3 c4 c5 c6 (z_fl 256 c7 (0 : Int32)) c8 c9 c10 c11)) [0, 1, 2, 3, 4, 5, 8, 6, 7] (by decide) rfl
  refine lv_aload_n hx hb dX0_placeRooks_13 rfl (lv_at hl 1 rfl) ?_
  refine va_get (D := (dC, dI)) (ci := 0) (v := .ref q7) (C := RX0) (T := TX0) (N := 12) hx hb hts (by decide +kernel) hown hK hP 0 rfl rfl 7 (by decide) (hts (.fieldLink RX0 25 "GiftLots" "splits" "[I") (by decide +kernel)) (fun _ h9 => h9) rfl dX0_placeRooks_14 ?_
  refine lv_iconst (v := (0 : Int32)) hx hb dX0_placeRooks_17 (by decide) ?_
  refine lv_iconst (v := (1 : Int32)) hx hb dX0_placeRooks_18 (by decide) ?_
  obtain ⟨hi19, hf⟩ := z_gx_some hf
  refine va_iast hx hb hK hP hD hS 6 0 rfl rfl hi19 dX0_placeRooks_19 (fun H locs hP hD hS => ?_)
  have hP : va_P (dC, dI) vwCl (wX0 cy h q2 q3 q4 q5 q6 q7 q8 q9 c0 c1 c2 c3 c4 c5 c6 (upd (z_fl 256 c7 (0 : Int32)) ((0 : Int32)).toNatClampNeg (1 : Int32)) c8 c9 c10 c11) H := hP
  have hD : va_D A (wX0 cy h q2 q3 q4 q5 q6 q7 q8 q9 c0 c1 c2 c3 c4 c5 c6 (upd (z_fl 256 c7 (0 : Int32)) ((0 : Int32)).toNatClampNeg (1 : Int32)) c8 c9 c10 c11) := hD
  refine lv_iconst (v := (0 : Int32)) hx hb dX0_placeRooks_20 (by decide) ?_
  refine lv_istore_n (lv' := [(2, .int (0 : Int32)), (1, .int u1), (0, .ref h)]) hx hb dX0_placeRooks_21 rfl hl (by decide) rfl (fun ls hl => ?_)
  exact B22 N u1 (0 : Int32) (upd (z_fl 256 c7 (0 : Int32)) ((0 : Int32)).toNatClampNeg (1 : Int32)) _ _ _ hf hP hD hS (lv_sub hl [2, 1, 0] rfl)

set_option maxRecDepth 20000 in
theorem ggX0_rooks_X0_placeRooks : GoodIn wsX0_rooks wsX0_placeRooks := goodIn_r _ [6, 1, 7, 8, 9, 10, 11, 5, 12, 13, 14, 15, 16, 17, 18, 19, 20, 21, 22, 23, 31, 32, 33, 34, 35, 36, 37, 38, 39, 40, 41, 42] (by decide +kernel) (by decide +kernel)
set_option maxRecDepth 20000 in
theorem gX0_rooks_X0_placeRooks : GoodIn wsX0_rooks (wsV RX0 82 RX0 yX0_placeRooks wsX0_placeRooks) := goodIn_app (goodIn_of _ (by decide +kernel)) ggX0_rooks_X0_placeRooks
set_option maxRecDepth 20000 in
theorem ggX0_rooks_X0_everyone : GoodIn wsX0_rooks wsX0_everyone := goodIn_r _ [12, 7, 31, 32, 33, 34, 35, 36, 37, 38, 39, 40, 41, 42] (by decide +kernel) (by decide +kernel)
set_option maxRecDepth 20000 in
theorem gX0_rooks_X0_everyone : GoodIn wsX0_rooks (wsV RX0 85 RX0 yX0_everyone wsX0_everyone) := goodIn_app (goodIn_of _ (by decide +kernel)) ggX0_rooks_X0_everyone
set_option maxRecDepth 20000 in
theorem ggX0_rooks_J6_bitCount_0f7a4 : GoodIn wsX0_rooks wsJ6_bitCount_0f7a4 := goodIn_r _ [27, 28, 29, 30] (by decide +kernel) (by decide +kernel)
set_option maxRecDepth 20000 in
theorem gX0_rooks_J6_bitCount_0f7a4 : GoodIn wsX0_rooks (va_wsS RX0 89 yJ6_bitCount_0f7a4 wsJ6_bitCount_0f7a4) := goodIn_app (goodIn_of _ (by decide +kernel)) ggX0_rooks_J6_bitCount_0f7a4
theorem dX0_rooks_0 : decode cX0_rooks 0 = .ok (.iload_n 1, 1) := by decide +kernel
theorem dX0_rooks_1 : decode cX0_rooks 1 = .ok (.ifCond .lt 9, 3) := by decide +kernel
theorem dX0_rooks_4 : decode cX0_rooks 4 = .ok (.iload_n 1, 1) := by decide +kernel
theorem dX0_rooks_5 : decode cX0_rooks 5 = .ok (.bipush 8, 2) := by decide +kernel
theorem dX0_rooks_7 : decode cX0_rooks 7 = .ok (.if_icmp .le 6, 3) := by decide +kernel
theorem dX0_rooks_10 : decode cX0_rooks 10 = .ok (.bipush (-2), 2) := by decide +kernel
theorem dX0_rooks_12 : decode cX0_rooks 12 = .ok (.ireturn, 1) := by decide +kernel
theorem dX0_rooks_13 : decode cX0_rooks 13 = .ok (.aload_n 0, 1) := by decide +kernel
theorem dX0_rooks_14 : decode cX0_rooks 14 = .ok (.invokevirtual 82, 3) := by decide +kernel
theorem dX0_rooks_17 : decode cX0_rooks 17 = .ok (.iconst 0, 1) := by decide +kernel
theorem dX0_rooks_18 : decode cX0_rooks 18 = .ok (.istore_n 2, 1) := by decide +kernel
theorem dX0_rooks_19 : decode cX0_rooks 19 = .ok (.iconst 0, 1) := by decide +kernel
theorem dX0_rooks_20 : decode cX0_rooks 20 = .ok (.istore_n 3, 1) := by decide +kernel
theorem dX0_rooks_21 : decode cX0_rooks 21 = .ok (.iload_n 3, 1) := by decide +kernel
theorem dX0_rooks_22 : decode cX0_rooks 22 = .ok (.aload_n 0, 1) := by decide +kernel
theorem dX0_rooks_23 : decode cX0_rooks 23 = .ok (.invokevirtual 85, 3) := by decide +kernel
theorem dX0_rooks_26 : decode cX0_rooks 26 = .ok (.if_icmp .gt 26, 3) := by decide +kernel
theorem dX0_rooks_29 : decode cX0_rooks 29 = .ok (.iload_n 3, 1) := by decide +kernel
theorem dX0_rooks_30 : decode cX0_rooks 30 = .ok (.invokestatic 89, 3) := by decide +kernel
theorem dX0_rooks_33 : decode cX0_rooks 33 = .ok (.iload_n 1, 1) := by decide +kernel
theorem dX0_rooks_34 : decode cX0_rooks 34 = .ok (.if_icmp .ne 12, 3) := by decide +kernel
theorem dX0_rooks_37 : decode cX0_rooks 37 = .ok (.iload_n 2, 1) := by decide +kernel
theorem dX0_rooks_38 : decode cX0_rooks 38 = .ok (.aload_n 0, 1) := by decide +kernel
theorem dX0_rooks_39 : decode cX0_rooks 39 = .ok (.getfield 25, 3) := by decide +kernel
theorem dX0_rooks_42 : decode cX0_rooks 42 = .ok (.iload_n 3, 1) := by decide +kernel
theorem dX0_rooks_43 : decode cX0_rooks 43 = .ok (.iaload, 1) := by decide +kernel
theorem dX0_rooks_44 : decode cX0_rooks 44 = .ok (.iadd, 1) := by decide +kernel
theorem dX0_rooks_45 : decode cX0_rooks 45 = .ok (.istore_n 2, 1) := by decide +kernel
theorem dX0_rooks_46 : decode cX0_rooks 46 = .ok (.iinc 3 1, 3) := by decide +kernel
theorem dX0_rooks_49 : decode cX0_rooks 49 = .ok (.goto (-28), 3) := by decide +kernel
theorem dX0_rooks_52 : decode cX0_rooks 52 = .ok (.iload_n 2, 1) := by decide +kernel
theorem dX0_rooks_53 : decode cX0_rooks 53 = .ok (.ireturn, 1) := by decide +kernel
abbrev rm_X0_rooks : Room := { frames := 3, cells := 0, slots := 0, locals := 68 }
set_option maxHeartbeats 4000000 in
set_option maxRecDepth 100000 in
theorem c_X0_rooks (N : Nat) (l : Launch) (dC : Nat → ClassId) (dI : Nat → Nat → Nat) (cy : ClassId) (h q2 q3 q4 q5 q6 q7 q8 q9 : Nat) (sz : Nat) (c0 : Int32) (c1 : Int32) (c2 : Nat → Int32) (c3 : Nat → Int32) (c4 : Nat → Int32) (c5 : Nat → Int32) (c6 : Nat → Int32) (c7 : Nat → Int32) (c8 : Nat → Int32) (c9 : Nat → Int32) (c10 : Int32) (c11 : Int32) (a1 : Int32) (res : Int32 × (Nat → Int32)) (hf : f_X0_rooks N a1 c0 c2 c7 = some res) : Met l yX0_rooks wsX0_rooks rm_X0_rooks (va_Pc [.ref h, .int a1] (fun U => U.heap.size = sz ∧ va_P (dC, dI) vwCl (wX0 cy h q2 q3 q4 q5 q6 q7 q8 q9 c0 c1 c2 c3 c4 c5 c6 c7 c8 c9 c10 c11) U.heap ∧ va_K (dC, dI) vwCl [(cy, .int)] U ∧ va_D (fun _ => True) (wX0 cy h q2 q3 q4 q5 q6 q7 q8 q9 c0 c1 c2 c3 c4 c5 c6 c7 c8 c9 c10 c11))) (z_qI dC dI cy res.1 (wX0 cy h q2 q3 q4 q5 q6 q7 q8 q9 c0 c1 c2 c3 c4 c5 c6 res.2 c8 c9 c10 c11) (va_A (wX0 cy h q2 q3 q4 q5 q6 q7 q8 q9 c0 c1 c2 c3 c4 c5 c6 c7 c8 c9 c10 c11) sz)) 0 0 (va_A (wX0 cy h q2 q3 q4 q5 q6 q7 q8 q9 c0 c1 c2 c3 c4 c5 c6 c7 c8 c9 c10 c11) sz) := by
  refine Met.ofW (cc := cX0_rooks) (maxL := 4) (ret := (some .int)) (by decide) rfl ?_
  intro p e s m args below meth c s₁ B hml hv
  obtain ⟨rfl, hsz, hP, hK, hD0⟩ := hv
  have hx := B.exec
  have hb := B.bytes
  have hr := B.returns
  have hts := atoms_spec (ws := wsX0_rooks) B.pre
  have hown : s.vm.findClass RX0 = some m.cls := findClass_of_methodNamed B.named
  have hlocks := B.notSynchronized
  subst hsz
  have hD := hD0.self (sz := s.heap.size)
  generalize hAe : va_A (wX0 cy h q2 q3 q4 q5 q6 q7 q8 q9 c0 c1 c2 c3 c4 c5 c6 c7 c8 c9 c10 c11) s.heap.size = A at hD ⊢
  have hA : ∀ q : Nat, s.heap.size ≤ q → A q := fun q h => by rw [← hAe]; exact Or.inr h
  have hS : va_S A s.heap s.heap [] := va_S.rf
  have hP : va_P (dC, dI) vwCl (wX0 cy h q2 q3 q4 q5 q6 q7 q8 q9 c0 c1 c2 c3 c4 c5 c6 c7 c8 c9 c10 c11) s.heap := hP
  have hl := lv_entry ([.ref h, .int a1]) (n := 4) (Nat.le_of_ble_eq_true rfl)
  rw [lg_entry_eq]
  generalize (lg_sl ([.ref h, .int a1]) ++ List.replicate (4 - (lg_sl ([.ref h, .int a1])).length) Slot.unset).toArray = ls at hl ⊢
  have hl : lv_has ls 4 [(0, .ref h), (1, .int a1)] := hl
  have B46 : ∀ (r21 : Int32 → Int32 → Int32 → (Nat → Int32) → Option (Int32 × (Nat → Int32))), (∀ (x1 x2 x3 : Int32) (c7 : Nat → Int32) (H : Heap) (locs : List Loc) (ls : Array Slot), r21 x1 x2 x3 c7 = some res → va_P (dC, dI) vwCl (wX0 cy h q2 q3 q4 q5 q6 q7 q8 q9 c0 c1 c2 c3 c4 c5 c6 c7 c8 c9 c10 c11) H → va_D A (wX0 cy h q2 q3 q4 q5 q6 q7 q8 q9 c0 c1 c2 c3 c4 c5 c6 c7 c8 c9 c10 c11) → va_S A s.heap H locs → lv_has ls 4 [(0, .ref h), (1, .int x1), (2, .int x2), (3, .int x3)] → W p l e rm_X0_rooks s m ([.ref h, .int a1] : List Value).toArray below meth c H locs 0 0 (MQ below (z_qI dC dI cy res.1 (wX0 cy h q2 q3 q4 q5 q6 q7 q8 q9 c0 c1 c2 c3 c4 c5 c6 res.2 c8 c9 c10 c11) A) ([.ref h, .int a1] : List Value).toArray s 0 0 A) (F0 m 21 ls [])) → ∀ (x1 x2 x3 : Int32) (c7 : Nat → Int32) (H : Heap) (locs : List Loc) (ls : Array Slot), f_X0_rooks_b46 N c0 c2 r21 x1 x2 x3 c7 = some res → va_P (dC, dI) vwCl (wX0 cy h q2 q3 q4 q5 q6 q7 q8 q9 c0 c1 c2 c3 c4 c5 c6 c7 c8 c9 c10 c11) H → va_D A (wX0 cy h q2 q3 q4 q5 q6 q7 q8 q9 c0 c1 c2 c3 c4 c5 c6 c7 c8 c9 c10 c11) → va_S A s.heap H locs → lv_has ls 4 [(0, .ref h), (1, .int x1), (2, .int x2), (3, .int x3)] → W p l e rm_X0_rooks s m ([.ref h, .int a1] : List Value).toArray below meth c H locs 0 0 (MQ below (z_qI dC dI cy res.1 (wX0 cy h q2 q3 q4 q5 q6 q7 q8 q9 c0 c1 c2 c3 c4 c5 c6 res.2 c8 c9 c10 c11) A) ([.ref h, .int a1] : List Value).toArray s 0 0 A) (F0 m 46 ls []) := by
    clear hf hl hP hD hS
    intro r21 hr21
    intro x1 x2 x3 c7 H locs ls hf hP hD hS hl
    unfold f_X0_rooks_b46 at hf
    refine lv_iinc (v := x3 + (1 : Int32)) (lv' := [(3, .int (x3 + (1 : Int32))), (0, .ref h), (1, .int x1), (2, .int x2)]) hx hb dX0_rooks_46 hl (k := 3) rfl rfl (by decide) rfl (fun ls hl => ?_)
    refine lv_goto (tgt := 21) hx hb dX0_rooks_49 (by decide) ?_
    exact hr21 x1 x2 (x3 + (1 : Int32)) c7 _ _ _ hf hP hD hS (lv_sub hl [1, 2, 3, 0] rfl)
  have B21 : ∀ n : Nat, ∀ (x1 x2 x3 : Int32) (c7 : Nat → Int32) (H : Heap) (locs : List Loc) (ls : Array Slot), f_X0_rooks_b21 N c0 c2 n x1 x2 x3 c7 = some res → va_P (dC, dI) vwCl (wX0 cy h q2 q3 q4 q5 q6 q7 q8 q9 c0 c1 c2 c3 c4 c5 c6 c7 c8 c9 c10 c11) H → va_D A (wX0 cy h q2 q3 q4 q5 q6 q7 q8 q9 c0 c1 c2 c3 c4 c5 c6 c7 c8 c9 c10 c11) → va_S A s.heap H locs → lv_has ls 4 [(0, .ref h), (1, .int x1), (2, .int x2), (3, .int x3)] → W p l e rm_X0_rooks s m ([.ref h, .int a1] : List Value).toArray below meth c H locs 0 0 (MQ below (z_qI dC dI cy res.1 (wX0 cy h q2 q3 q4 q5 q6 q7 q8 q9 c0 c1 c2 c3 c4 c5 c6 res.2 c8 c9 c10 c11) A) ([.ref h, .int a1] : List Value).toArray s 0 0 A) (F0 m 21 ls []) := by
    clear hf hl hP hD hS
    intro n
    induction n with
    | zero =>
      intro x1 x2 x3 c7 H locs ls hf hP hD hS hl
      rw [f_X0_rooks_b21] at hf
      cases hf
    | succ n ih =>
      intro x1 x2 x3 c7 H locs ls hf hP hD hS hl
      rw [f_X0_rooks_b21] at hf
      refine lv_iload_n hx hb dX0_rooks_21 rfl (lv_at hl 3 rfl) ?_
      refine lv_aload_n hx hb dX0_rooks_22 rfl (lv_at hl 0 rfl) ?_
      obtain ⟨u23, hu23, hf⟩ := z_ob_some hf
      have hPc := hP.sub (ws' := (wX0 cy h q2 q3 q4 q5 q6 q7 q8 q9 c0 c1 c2 c3 c4 c5 c6 c7 c8 c9 c10 c11)) [0, 1, 2, 3, 4, 5, 6, 7, 8] rfl
      have hDc := hD.sub (ws' := (wX0 cy h q2 q3 q4 q5 q6 q7 q8 q9 c0 c1 c2 c3 c4 c5 c6 c7 c8 c9 c10 c11)) [0, 1, 2, 3, 4, 5, 6, 7, 8] (by decide) rfl
      have hKc := hK.sub (tys' := [(cy, .int)]) [0] rfl
      have hFc := va_free (wc := (wX0 cy h q2 q3 q4 q5 q6 q7 q8 q9 c0 c1 c2 c3 c4 c5 c6 c7 c8 c9 c10 c11)) hD hS hA [0, 1, 2, 3, 4, 5, 6, 7, 8] rfl
      refine va_calli (va_runV (As := []) (rest := [.int x3]) ⟨hx, hb, hml, hown, hts⟩ (c_X0_everyone N l dC dI cy h q2 q3 q4 q5 q6 q7 q8 q9 H.size c0 c1 c2 c3 c4 c5 c6 c7 c8 c9 c10 c11 u23 hu23) (cwV 0 hts gX0_rooks_X0_everyone rfl rfl rfl (by decide +kernel) ⟨Nat.le_of_ble_eq_true rfl, Nat.le_of_ble_eq_true rfl⟩) ⟨fun a U g mk q => by obtain ⟨q0, q1, qP, qK, qD⟩ := q; exact ⟨q0, q1, qP, va_K.moved (u := U) (U := U.calling g mk a) (Vm.Alike.refl U.vm) qK, qD⟩, va_recv hKc hPc (ci := 0) (q0 := 0) rfl rfl, fun U hU hW => ⟨rfl, by rw [hU], by rw [hU]; exact hPc, va_K.moved hW.alike hKc, hDc.weaken (fun _ _ _ _ => trivial)⟩⟩ rfl rfl hl.1 rfl (lv_room (Nat.le_of_ble_eq_true rfl)) dX0_rooks_23 ⟨Nat.zero_le _, Nat.zero_le _⟩) hS (fun q _ h => hFc q h) hFc (fun r_23 uu_ t H1 locs ht hvm hw hB hz1 hk1 hS => ?_)
      replace hw := hw.symm
      subst hw
      obtain ⟨hP1, -, hD1⟩ := hB
      rw [ht] at hP1
      obtain ⟨hP, hD⟩ := va_join (wr := []) (w1 := (wX0 cy h q2 q3 q4 q5 q6 q7 q8 q9 c0 c1 c2 c3 c4 c5 c6 c7 c8 c9 c10 c11)) hP hD [0, 1, 2, 3, 4, 5, 6, 7, 8] [] rfl rfl (by decide) (by decide) hk1 hFc hP1 hD1
      clear hk1 hz1 hP1 hD1 ht hPc hDc hFc
      generalize H1 = H at hP hS ⊢
      have hP : va_P (dC, dI) vwCl (wX0 cy h q2 q3 q4 q5 q6 q7 q8 q9 c0 c1 c2 c3 c4 c5 c6 c7 c8 c9 c10 c11) H := hP
      have hD : va_D A (wX0 cy h q2 q3 q4 q5 q6 q7 q8 q9 c0 c1 c2 c3 c4 c5 c6 c7 c8 c9 c10 c11) := hD
      refine lv_icmp_gt (tgt := 52) hx hb dX0_rooks_26 (by decide) (fun c_26 => ?_) (fun c_26 => ?_)
      · replace hf := (if_pos c_26).symm.trans hf
        refine lv_iload_n hx hb dX0_rooks_52 rfl (lv_at hl 2 rfl) ?_
        have hres := Option.some.inj hf
        subst hres
        have hP9 := hP.sub (ws' := (wX0 cy h q2 q3 q4 q5 q6 q7 q8 q9 c0 c1 c2 c3 c4 c5 c6 c7 c8 c9 c10 c11)) [0, 1, 2, 3, 4, 5, 6, 7, 8] rfl
        have hD9 := hD.sub (ws' := (wX0 cy h q2 q3 q4 q5 q6 q7 q8 q9 c0 c1 c2 c3 c4 c5 c6 c7 c8 c9 c10 c11)) [0, 1, 2, 3, 4, 5, 6, 7, 8] (by decide) rfl
        have hK9 := hK.sub (tys' := [(cy, .int)]) [0] rfl
        exact W.iret (v := x2) hx hb hr (fun t ht hW => ⟨⟨x2, (), rfl, rfl, by rw [ht]; exact hP9, va_K.moved hW.alike hK9, hD9⟩, hS.F ht⟩) hS.2.2 dX0_rooks_53
      · replace hf := (if_neg c_26).symm.trans hf
        refine lv_iload_n hx hb dX0_rooks_29 rfl (lv_at hl 3 rfl) ?_
        obtain ⟨u30, hu30, hf⟩ := z_ob_some hf
        have hPc := hP.sub (ws' := ([] : va_W)) [] rfl
        have hDc := hD.sub (ws' := ([] : va_W)) [] (by decide) rfl
        have hKc := hK.sub (tys' := [(cy, .int)]) [0] rfl
        have hFc := va_free (wc := ([] : va_W)) hD hS hA [] rfl
        refine va_calli (va_runS (As := [.int x3]) (rest := []) ⟨hx, hb, hml, hown, hts⟩ (c_bitCount l dC dI cy H.size x3 u30 hu30) (va_cwS 1 hts gX0_rooks_J6_bitCount_0f7a4 rfl rfl rfl (by decide +kernel) ⟨Nat.le_of_ble_eq_true rfl, Nat.le_of_ble_eq_true rfl⟩) ⟨fun a U g mk q => by obtain ⟨q0, q1, qP, qK, qD⟩ := q; exact ⟨q0, q1, qP, va_K.moved (u := U) (U := U.calling g mk a) (Vm.Alike.refl U.vm) qK, qD⟩, fun U hU hW => ⟨rfl, by rw [hU], by rw [hU]; exact hPc, va_K.moved hW.alike hKc, hDc.weaken (fun _ _ _ _ => trivial)⟩⟩ rfl rfl hl.1 rfl (lv_room (Nat.le_of_ble_eq_true rfl)) dX0_rooks_30 ⟨Nat.zero_le _, Nat.zero_le _⟩) hS (fun q _ h => hFc q h) hFc (fun r_30 uu_ t H1 locs ht hvm hw hB hz1 hk1 hS => ?_)
        replace hw := hw.symm
        subst hw
        obtain ⟨hP1, -, hD1⟩ := hB
        rw [ht] at hP1
        obtain ⟨hP, hD⟩ := va_join (wr := (wX0 cy h q2 q3 q4 q5 q6 q7 q8 q9 c0 c1 c2 c3 c4 c5 c6 c7 c8 c9 c10 c11)) (w1 := []) hP hD [] [0, 1, 2, 3, 4, 5, 6, 7, 8] rfl rfl (by decide) (by decide) hk1 hFc hP1 hD1
        clear hk1 hz1 hP1 hD1 ht hPc hDc hFc
        generalize H1 = H at hP hS ⊢
        have hP : va_P (dC, dI) vwCl (wX0 cy h q2 q3 q4 q5 q6 q7 q8 q9 c0 c1 c2 c3 c4 c5 c6 c7 c8 c9 c10 c11) H := hP
        have hD : va_D A (wX0 cy h q2 q3 q4 q5 q6 q7 q8 q9 c0 c1 c2 c3 c4 c5 c6 c7 c8 c9 c10 c11) := hD
        refine lv_iload_n hx hb dX0_rooks_33 rfl (lv_at hl 1 rfl) ?_
        refine lv_icmp_ne (tgt := 46) hx hb dX0_rooks_34 (by decide) (fun c_34 => ?_) (fun c_34 => ?_)
        · replace hf := (if_neg c_34).symm.trans hf
          exact B46 (f_X0_rooks_b21 N c0 c2 n) ih x1 x2 x3 c7 _ _ _ hf hP hD hS (lv_sub hl [0, 1, 2, 3] rfl)
        · replace hf := (if_pos c_34).symm.trans hf
          refine lv_iload_n hx hb dX0_rooks_37 rfl (lv_at hl 2 rfl) ?_
          refine lv_aload_n hx hb dX0_rooks_38 rfl (lv_at hl 0 rfl) ?_
          refine va_get (D := (dC, dI)) (ci := 0) (v := .ref q7) (C := RX0) (T := TX0) (N := 12) hx hb hts (by decide +kernel) hown hK hP 0 rfl rfl 7 (by decide) (hts (.fieldLink RX0 25 "GiftLots" "splits" "[I") (by decide +kernel)) (fun _ h9 => h9) rfl dX0_rooks_39 ?_
          refine lv_iload_n hx hb dX0_rooks_42 rfl (lv_at hl 3 rfl) ?_
          obtain ⟨hi43, hf⟩ := z_gx_some hf
          refine va_iald hx hb hK hP 6 0 rfl rfl hi43 dX0_rooks_43 ?_
          refine lv_iadd hx hb dX0_rooks_44 ?_
          refine lv_istore_n (lv' := [(2, .int (x2 + (c7 (x3).toNatClampNeg))), (0, .ref h), (1, .int x1), (3, .int x3)]) hx hb dX0_rooks_45 rfl hl (by decide) rfl (fun ls hl => ?_)
          exact B46 (f_X0_rooks_b21 N c0 c2 n) ih x1 (x2 + (c7 (x3).toNatClampNeg)) x3 c7 _ _ _ hf hP hD hS (lv_sub hl [1, 2, 0, 3] rfl)
  unfold f_X0_rooks at hf
  refine lv_iload_n hx hb dX0_rooks_0 rfl (lv_at hl 1 rfl) ?_
  refine lv_if_lt (tgt := 10) hx hb dX0_rooks_1 (by decide) (fun c_1 => ?_) (fun c_1 => ?_)
  · replace hf := (if_pos c_1).symm.trans hf
    refine lv_bipush (v := (-2 : Int32)) hx hb dX0_rooks_10 (by decide) ?_
    have hres := Option.some.inj hf
    subst hres
    have hP9 := hP.sub (ws' := (wX0 cy h q2 q3 q4 q5 q6 q7 q8 q9 c0 c1 c2 c3 c4 c5 c6 c7 c8 c9 c10 c11)) [0, 1, 2, 3, 4, 5, 6, 7, 8] rfl
    have hD9 := hD.sub (ws' := (wX0 cy h q2 q3 q4 q5 q6 q7 q8 q9 c0 c1 c2 c3 c4 c5 c6 c7 c8 c9 c10 c11)) [0, 1, 2, 3, 4, 5, 6, 7, 8] (by decide) rfl
    have hK9 := hK.sub (tys' := [(cy, .int)]) [0] rfl
    exact W.iret (v := (-2 : Int32)) hx hb hr (fun t ht hW => ⟨⟨(-2 : Int32), (), rfl, rfl, by rw [ht]; exact hP9, va_K.moved hW.alike hK9, hD9⟩, hS.F ht⟩) hS.2.2 dX0_rooks_12
  · replace hf := (if_neg c_1).symm.trans hf
    refine lv_iload_n hx hb dX0_rooks_4 rfl (lv_at hl 1 rfl) ?_
    refine lv_bipush (v := (8 : Int32)) hx hb dX0_rooks_5 (by decide) ?_
    refine lv_icmp_le (tgt := 13) hx hb dX0_rooks_7 (by decide) (fun c_7 => ?_) (fun c_7 => ?_)
    · replace hf := (if_pos c_7).symm.trans hf
      refine lv_aload_n hx hb dX0_rooks_13 rfl (lv_at hl 0 rfl) ?_
      obtain ⟨u14, hu14, hf⟩ := z_ob_some hf
      have hPc := hP.sub (ws' := (wX0 cy h q2 q3 q4 q5 q6 q7 q8 q9 c0 c1 c2 c3 c4 c5 c6 c7 c8 c9 c10 c11)) [0, 1, 2, 3, 4, 5, 6, 7, 8] rfl
      have hDc := hD.sub (ws' := (wX0 cy h q2 q3 q4 q5 q6 q7 q8 q9 c0 c1 c2 c3 c4 c5 c6 c7 c8 c9 c10 c11)) [0, 1, 2, 3, 4, 5, 6, 7, 8] (by decide) rfl
      have hKc := hK.sub (tys' := [(cy, .int)]) [0] rfl
      have hFc := va_free (wc := (wX0 cy h q2 q3 q4 q5 q6 q7 q8 q9 c0 c1 c2 c3 c4 c5 c6 c7 c8 c9 c10 c11)) hD hS hA [0, 1, 2, 3, 4, 5, 6, 7, 8] rfl
      refine va_callv (va_runV (As := []) (rest := []) ⟨hx, hb, hml, hown, hts⟩ (c_X0_placeRooks N l dC dI cy h q2 q3 q4 q5 q6 q7 q8 q9 s.heap.size c0 c1 c2 c3 c4 c5 c6 c7 c8 c9 c10 c11 u14 hu14) (cwV 0 hts gX0_rooks_X0_placeRooks rfl rfl rfl (by decide +kernel) ⟨Nat.le_of_ble_eq_true rfl, Nat.le_of_ble_eq_true rfl⟩) ⟨fun a U g mk q => by obtain ⟨q0, q1, qP, qK, qD⟩ := q; exact ⟨q0, q1, qP, va_K.moved (u := U) (U := U.calling g mk a) (Vm.Alike.refl U.vm) qK, qD⟩, va_recv hKc hPc (ci := 0) (q0 := 0) rfl rfl, fun U hU hW => ⟨rfl, by rw [hU], by rw [hU]; exact hPc, va_K.moved hW.alike hKc, hDc.weaken (fun _ _ _ _ => trivial)⟩⟩ rfl rfl hl.1 rfl (lv_room (Nat.le_of_ble_eq_true rfl)) dX0_rooks_14 ⟨Nat.zero_le _, Nat.zero_le _⟩) hS (fun q _ h => hFc q h) hFc (fun uu_ t H1 locs ht hvm hw hB hz1 hk1 hS => ?_)
      obtain ⟨hP1, -, hD1⟩ := hB
      rw [ht] at hP1
      obtain ⟨hP, hD⟩ := va_join (wr := []) (w1 := (wX0 cy h q2 q3 q4 q5 q6 q7 q8 q9 c0 c1 c2 c3 c4 c5 c6 u14 c8 c9 c10 c11)) hP hD [0, 1, 2, 3, 4, 5, 6, 7, 8] [] rfl rfl (by decide) (by decide) hk1 hFc hP1 hD1
      clear hk1 hz1 hP1 hD1 ht hPc hDc hFc
      generalize H1 = H at hP hS ⊢
      have hP : va_P (dC, dI) vwCl (wX0 cy h q2 q3 q4 q5 q6 q7 q8 q9 c0 c1 c2 c3 c4 c5 c6 u14 c8 c9 c10 c11) H := hP
      have hD : va_D A (wX0 cy h q2 q3 q4 q5 q6 q7 q8 q9 c0 c1 c2 c3 c4 c5 c6 u14 c8 c9 c10 c11) := hD
      refine lv_iconst (v := (0 : Int32)) hx hb dX0_rooks_17 (by decide) ?_
      refine lv_istore_n (lv' := [(2, .int (0 : Int32)), (0, .ref h), (1, .int a1)]) hx hb dX0_rooks_18 rfl hl (by decide) rfl (fun ls hl => ?_)
      refine lv_iconst (v := (0 : Int32)) hx hb dX0_rooks_19 (by decide) ?_
      refine lv_istore_n (lv' := [(3, .int (0 : Int32)), (2, .int (0 : Int32)), (0, .ref h), (1, .int a1)]) hx hb dX0_rooks_20 rfl hl (by decide) rfl (fun ls hl => ?_)
      exact B21 N a1 (0 : Int32) (0 : Int32) u14 _ _ _ hf hP hD hS (lv_sub hl [2, 3, 1, 0] rfl)
    · replace hf := (if_neg c_7).symm.trans hf
      refine lv_bipush (v := (-2 : Int32)) hx hb dX0_rooks_10 (by decide) ?_
      have hres := Option.some.inj hf
      subst hres
      have hP9 := hP.sub (ws' := (wX0 cy h q2 q3 q4 q5 q6 q7 q8 q9 c0 c1 c2 c3 c4 c5 c6 c7 c8 c9 c10 c11)) [0, 1, 2, 3, 4, 5, 6, 7, 8] rfl
      have hD9 := hD.sub (ws' := (wX0 cy h q2 q3 q4 q5 q6 q7 q8 q9 c0 c1 c2 c3 c4 c5 c6 c7 c8 c9 c10 c11)) [0, 1, 2, 3, 4, 5, 6, 7, 8] (by decide) rfl
      have hK9 := hK.sub (tys' := [(cy, .int)]) [0] rfl
      exact W.iret (v := (-2 : Int32)) hx hb hr (fun t ht hW => ⟨⟨(-2 : Int32), (), rfl, rfl, by rw [ht]; exact hP9, va_K.moved hW.alike hK9, hD9⟩, hS.F ht⟩) hS.2.2 dX0_rooks_12

set_option maxRecDepth 20000 in
theorem ggX0_gettersOf_X0_bit : GoodIn wsX0_gettersOf wsX0_bit := goodIn_r _ [6] (by decide +kernel) (by decide +kernel)
set_option maxRecDepth 20000 in
theorem gX0_gettersOf_X0_bit : GoodIn wsX0_gettersOf (va_wsS RX0 50 yX0_bit wsX0_bit) := goodIn_app (goodIn_of _ (by decide +kernel)) ggX0_gettersOf_X0_bit
theorem dX0_gettersOf_0 : decode cX0_gettersOf 0 = .ok (.iconst 0, 1) := by decide +kernel
theorem dX0_gettersOf_1 : decode cX0_gettersOf 1 = .ok (.istore_n 2, 1) := by decide +kernel
theorem dX0_gettersOf_2 : decode cX0_gettersOf 2 = .ok (.iconst 0, 1) := by decide +kernel
theorem dX0_gettersOf_3 : decode cX0_gettersOf 3 = .ok (.istore_n 3, 1) := by decide +kernel
theorem dX0_gettersOf_4 : decode cX0_gettersOf 4 = .ok (.iload_n 3, 1) := by decide +kernel
theorem dX0_gettersOf_5 : decode cX0_gettersOf 5 = .ok (.aload_n 0, 1) := by decide +kernel
theorem dX0_gettersOf_6 : decode cX0_gettersOf 6 = .ok (.getfield 38, 3) := by decide +kernel
theorem dX0_gettersOf_9 : decode cX0_gettersOf 9 = .ok (.if_icmp .ge 27, 3) := by decide +kernel
theorem dX0_gettersOf_12 : decode cX0_gettersOf 12 = .ok (.iload_n 1, 1) := by decide +kernel
theorem dX0_gettersOf_13 : decode cX0_gettersOf 13 = .ok (.iload_n 3, 1) := by decide +kernel
theorem dX0_gettersOf_14 : decode cX0_gettersOf 14 = .ok (.invokestatic 50, 3) := by decide +kernel
theorem dX0_gettersOf_17 : decode cX0_gettersOf 17 = .ok (.iand, 1) := by decide +kernel
theorem dX0_gettersOf_18 : decode cX0_gettersOf 18 = .ok (.ifCond .eq 12, 3) := by decide +kernel
theorem dX0_gettersOf_21 : decode cX0_gettersOf 21 = .ok (.iload_n 2, 1) := by decide +kernel
theorem dX0_gettersOf_22 : decode cX0_gettersOf 22 = .ok (.aload_n 0, 1) := by decide +kernel
theorem dX0_gettersOf_23 : decode cX0_gettersOf 23 = .ok (.getfield 9, 3) := by decide +kernel
theorem dX0_gettersOf_26 : decode cX0_gettersOf 26 = .ok (.iload_n 3, 1) := by decide +kernel
theorem dX0_gettersOf_27 : decode cX0_gettersOf 27 = .ok (.iaload, 1) := by decide +kernel
theorem dX0_gettersOf_28 : decode cX0_gettersOf 28 = .ok (.ior, 1) := by decide +kernel
theorem dX0_gettersOf_29 : decode cX0_gettersOf 29 = .ok (.istore_n 2, 1) := by decide +kernel
theorem dX0_gettersOf_30 : decode cX0_gettersOf 30 = .ok (.iinc 3 1, 3) := by decide +kernel
theorem dX0_gettersOf_33 : decode cX0_gettersOf 33 = .ok (.goto (-29), 3) := by decide +kernel
theorem dX0_gettersOf_36 : decode cX0_gettersOf 36 = .ok (.iload_n 2, 1) := by decide +kernel
theorem dX0_gettersOf_37 : decode cX0_gettersOf 37 = .ok (.ireturn, 1) := by decide +kernel
abbrev rm_X0_gettersOf : Room := { frames := 1, cells := 0, slots := 0, locals := 20 }
set_option maxHeartbeats 4000000 in
set_option maxRecDepth 100000 in
theorem c_X0_gettersOf (N : Nat) (l : Launch) (dC : Nat → ClassId) (dI : Nat → Nat → Nat) (cy : ClassId) (h q2 q3 q4 q5 q6 q7 q8 q9 : Nat) (sz : Nat) (c0 : Int32) (c1 : Int32) (c2 : Nat → Int32) (c3 : Nat → Int32) (c4 : Nat → Int32) (c5 : Nat → Int32) (c6 : Nat → Int32) (c7 : Nat → Int32) (c8 : Nat → Int32) (c9 : Nat → Int32) (c10 : Int32) (c11 : Int32) (a1 : Int32) (res : Int32) (hf : f_X0_gettersOf N a1 c0 c2 = some res) : Met l yX0_gettersOf wsX0_gettersOf rm_X0_gettersOf (va_Pc [.ref h, .int a1] (fun U => U.heap.size = sz ∧ va_P (dC, dI) vwCl (wX0 cy h q2 q3 q4 q5 q6 q7 q8 q9 c0 c1 c2 c3 c4 c5 c6 c7 c8 c9 c10 c11) U.heap ∧ va_K (dC, dI) vwCl [(cy, .int)] U ∧ va_D (fun _ => True) (wX0 cy h q2 q3 q4 q5 q6 q7 q8 q9 c0 c1 c2 c3 c4 c5 c6 c7 c8 c9 c10 c11))) (z_qI dC dI cy res (wX0 cy h q2 q3 q4 q5 q6 q7 q8 q9 c0 c1 c2 c3 c4 c5 c6 c7 c8 c9 c10 c11) (va_A (wX0 cy h q2 q3 q4 q5 q6 q7 q8 q9 c0 c1 c2 c3 c4 c5 c6 c7 c8 c9 c10 c11) sz)) 0 0 (va_A (wX0 cy h q2 q3 q4 q5 q6 q7 q8 q9 c0 c1 c2 c3 c4 c5 c6 c7 c8 c9 c10 c11) sz) := by
  refine Met.ofW (cc := cX0_gettersOf) (maxL := 4) (ret := (some .int)) (by decide) rfl ?_
  intro p e s m args below meth c s₁ B hml hv
  obtain ⟨rfl, hsz, hP, hK, hD0⟩ := hv
  have hx := B.exec
  have hb := B.bytes
  have hr := B.returns
  have hts := atoms_spec (ws := wsX0_gettersOf) B.pre
  have hown : s.vm.findClass RX0 = some m.cls := findClass_of_methodNamed B.named
  have hlocks := B.notSynchronized
  subst hsz
  have hD := hD0.self (sz := s.heap.size)
  generalize hAe : va_A (wX0 cy h q2 q3 q4 q5 q6 q7 q8 q9 c0 c1 c2 c3 c4 c5 c6 c7 c8 c9 c10 c11) s.heap.size = A at hD ⊢
  have hA : ∀ q : Nat, s.heap.size ≤ q → A q := fun q h => by rw [← hAe]; exact Or.inr h
  have hS : va_S A s.heap s.heap [] := va_S.rf
  have hP : va_P (dC, dI) vwCl (wX0 cy h q2 q3 q4 q5 q6 q7 q8 q9 c0 c1 c2 c3 c4 c5 c6 c7 c8 c9 c10 c11) s.heap := hP
  have hl := lv_entry ([.ref h, .int a1]) (n := 4) (Nat.le_of_ble_eq_true rfl)
  rw [lg_entry_eq]
  generalize (lg_sl ([.ref h, .int a1]) ++ List.replicate (4 - (lg_sl ([.ref h, .int a1])).length) Slot.unset).toArray = ls at hl ⊢
  have hl : lv_has ls 4 [(0, .ref h), (1, .int a1)] := hl
  have B30 : ∀ (r4 : Int32 → Int32 → Int32 → Option (Int32)), (∀ (x1 x2 x3 : Int32) (H : Heap) (locs : List Loc) (ls : Array Slot), r4 x1 x2 x3 = some res → va_P (dC, dI) vwCl (wX0 cy h q2 q3 q4 q5 q6 q7 q8 q9 c0 c1 c2 c3 c4 c5 c6 c7 c8 c9 c10 c11) H → va_D A (wX0 cy h q2 q3 q4 q5 q6 q7 q8 q9 c0 c1 c2 c3 c4 c5 c6 c7 c8 c9 c10 c11) → va_S A s.heap H locs → lv_has ls 4 [(0, .ref h), (1, .int x1), (2, .int x2), (3, .int x3)] → W p l e rm_X0_gettersOf s m ([.ref h, .int a1] : List Value).toArray below meth c H locs 0 0 (MQ below (z_qI dC dI cy res (wX0 cy h q2 q3 q4 q5 q6 q7 q8 q9 c0 c1 c2 c3 c4 c5 c6 c7 c8 c9 c10 c11) A) ([.ref h, .int a1] : List Value).toArray s 0 0 A) (F0 m 4 ls [])) → ∀ (x1 x2 x3 : Int32) (H : Heap) (locs : List Loc) (ls : Array Slot), f_X0_gettersOf_b30 N c0 c2 r4 x1 x2 x3 = some res → va_P (dC, dI) vwCl (wX0 cy h q2 q3 q4 q5 q6 q7 q8 q9 c0 c1 c2 c3 c4 c5 c6 c7 c8 c9 c10 c11) H → va_D A (wX0 cy h q2 q3 q4 q5 q6 q7 q8 q9 c0 c1 c2 c3 c4 c5 c6 c7 c8 c9 c10 c11) → va_S A s.heap H locs → lv_has ls 4 [(0, .ref h), (1, .int x1), (2, .int x2), (3, .int x3)] → W p l e rm_X0_gettersOf s m ([.ref h, .int a1] : List Value).toArray below meth c H locs 0 0 (MQ below (z_qI dC dI cy res (wX0 cy h q2 q3 q4 q5 q6 q7 q8 q9 c0 c1 c2 c3 c4 c5 c6 c7 c8 c9 c10 c11) A) ([.ref h, .int a1] : List Value).toArray s 0 0 A) (F0 m 30 ls []) := by
    clear hf hl hP hD hS
    intro r4 hr4
    intro x1 x2 x3 H locs ls hf hP hD hS hl
    unfold f_X0_gettersOf_b30 at hf
    refine lv_iinc (v := x3 + (1 : Int32)) (lv' := [(3, .int (x3 + (1 : Int32))), (0, .ref h), (1, .int x1), (2, .int x2)]) hx hb dX0_gettersOf_30 hl (k := 3) rfl rfl (by decide) rfl (fun ls hl => ?_)
    refine lv_goto (tgt := 4) hx hb dX0_gettersOf_33 (by decide) ?_
    exact hr4 x1 x2 (x3 + (1 : Int32)) _ _ _ hf hP hD hS (lv_sub hl [1, 2, 3, 0] rfl)
  have B4 : ∀ n : Nat, ∀ (x1 x2 x3 : Int32) (H : Heap) (locs : List Loc) (ls : Array Slot), f_X0_gettersOf_b4 N c0 c2 n x1 x2 x3 = some res → va_P (dC, dI) vwCl (wX0 cy h q2 q3 q4 q5 q6 q7 q8 q9 c0 c1 c2 c3 c4 c5 c6 c7 c8 c9 c10 c11) H → va_D A (wX0 cy h q2 q3 q4 q5 q6 q7 q8 q9 c0 c1 c2 c3 c4 c5 c6 c7 c8 c9 c10 c11) → va_S A s.heap H locs → lv_has ls 4 [(0, .ref h), (1, .int x1), (2, .int x2), (3, .int x3)] → W p l e rm_X0_gettersOf s m ([.ref h, .int a1] : List Value).toArray below meth c H locs 0 0 (MQ below (z_qI dC dI cy res (wX0 cy h q2 q3 q4 q5 q6 q7 q8 q9 c0 c1 c2 c3 c4 c5 c6 c7 c8 c9 c10 c11) A) ([.ref h, .int a1] : List Value).toArray s 0 0 A) (F0 m 4 ls []) := by
    clear hf hl hP hD hS
    intro n
    induction n with
    | zero =>
      intro x1 x2 x3 H locs ls hf hP hD hS hl
      rw [f_X0_gettersOf_b4] at hf
      cases hf
    | succ n ih =>
      intro x1 x2 x3 H locs ls hf hP hD hS hl
      rw [f_X0_gettersOf_b4] at hf
      refine lv_iload_n hx hb dX0_gettersOf_4 rfl (lv_at hl 3 rfl) ?_
      refine lv_aload_n hx hb dX0_gettersOf_5 rfl (lv_at hl 0 rfl) ?_
      refine va_get (D := (dC, dI)) (ci := 0) (v := .int c0) (C := RX0) (T := TX0) (N := 12) hx hb hts (by decide +kernel) hown hK hP 0 rfl rfl 0 (by decide) (hts (.fieldLink RX0 38 "GiftLots" "count" "I") (by decide +kernel)) (fun _ h9 => h9) rfl dX0_gettersOf_6 ?_
      refine lv_icmp_ge (tgt := 36) hx hb dX0_gettersOf_9 (by decide) (fun c_9 => ?_) (fun c_9 => ?_)
      · replace hf := (if_pos c_9).symm.trans hf
        refine lv_iload_n hx hb dX0_gettersOf_36 rfl (lv_at hl 2 rfl) ?_
        have hres := Option.some.inj hf
        subst hres
        have hP9 := hP.sub (ws' := (wX0 cy h q2 q3 q4 q5 q6 q7 q8 q9 c0 c1 c2 c3 c4 c5 c6 c7 c8 c9 c10 c11)) [0, 1, 2, 3, 4, 5, 6, 7, 8] rfl
        have hD9 := hD.sub (ws' := (wX0 cy h q2 q3 q4 q5 q6 q7 q8 q9 c0 c1 c2 c3 c4 c5 c6 c7 c8 c9 c10 c11)) [0, 1, 2, 3, 4, 5, 6, 7, 8] (by decide) rfl
        have hK9 := hK.sub (tys' := [(cy, .int)]) [0] rfl
        exact W.iret (v := x2) hx hb hr (fun t ht hW => ⟨⟨x2, (), rfl, rfl, by rw [ht]; exact hP9, va_K.moved hW.alike hK9, hD9⟩, hS.F ht⟩) hS.2.2 dX0_gettersOf_37
      · replace hf := (if_neg c_9).symm.trans hf
        refine lv_iload_n hx hb dX0_gettersOf_12 rfl (lv_at hl 1 rfl) ?_
        refine lv_iload_n hx hb dX0_gettersOf_13 rfl (lv_at hl 3 rfl) ?_
        obtain ⟨u14, hu14, hf⟩ := z_ob_some hf
        have hPc := hP.sub (ws' := ([] : va_W)) [] rfl
        have hDc := hD.sub (ws' := ([] : va_W)) [] (by decide) rfl
        have hKc := hK.sub (tys' := [(cy, .int)]) [0] rfl
        have hFc := va_free (wc := ([] : va_W)) hD hS hA [] rfl
        refine va_calli (va_runS (As := [.int x3]) (rest := [.int x1]) ⟨hx, hb, hml, hown, hts⟩ (c_X0_bit N l dC dI cy H.size x3 u14 hu14) (va_cwS 1 hts gX0_gettersOf_X0_bit rfl rfl rfl (by decide +kernel) ⟨Nat.le_of_ble_eq_true rfl, Nat.le_of_ble_eq_true rfl⟩) ⟨fun a U g mk q => by obtain ⟨q0, q1, qP, qK, qD⟩ := q; exact ⟨q0, q1, qP, va_K.moved (u := U) (U := U.calling g mk a) (Vm.Alike.refl U.vm) qK, qD⟩, fun U hU hW => ⟨rfl, by rw [hU], by rw [hU]; exact hPc, va_K.moved hW.alike hKc, hDc.weaken (fun _ _ _ _ => trivial)⟩⟩ rfl rfl hl.1 rfl (lv_room (Nat.le_of_ble_eq_true rfl)) dX0_gettersOf_14 ⟨Nat.zero_le _, Nat.zero_le _⟩) hS (fun q _ h => hFc q h) hFc (fun r_14 uu_ t H1 locs ht hvm hw hB hz1 hk1 hS => ?_)
        replace hw := hw.symm
        subst hw
        obtain ⟨hP1, -, hD1⟩ := hB
        rw [ht] at hP1
        obtain ⟨hP, hD⟩ := va_join (wr := (wX0 cy h q2 q3 q4 q5 q6 q7 q8 q9 c0 c1 c2 c3 c4 c5 c6 c7 c8 c9 c10 c11)) (w1 := ([] : va_W)) hP hD [] [0, 1, 2, 3, 4, 5, 6, 7, 8] rfl rfl (by decide) (by decide) hk1 hFc hP1 hD1
        clear hk1 hz1 hP1 hD1 ht hPc hDc hFc
        generalize H1 = H at hP hS ⊢
        have hP : va_P (dC, dI) vwCl (wX0 cy h q2 q3 q4 q5 q6 q7 q8 q9 c0 c1 c2 c3 c4 c5 c6 c7 c8 c9 c10 c11) H := hP
        have hD : va_D A (wX0 cy h q2 q3 q4 q5 q6 q7 q8 q9 c0 c1 c2 c3 c4 c5 c6 c7 c8 c9 c10 c11) := hD
        refine lv_iand hx hb dX0_gettersOf_17 ?_
        refine lv_if_eq (tgt := 30) hx hb dX0_gettersOf_18 (by decide) (fun c_18 => ?_) (fun c_18 => ?_)
        · replace hf := (if_pos c_18).symm.trans hf
          exact B30 (f_X0_gettersOf_b4 N c0 c2 n) ih x1 x2 x3 _ _ _ hf hP hD hS (lv_sub hl [0, 1, 2, 3] rfl)
        · replace hf := (if_neg c_18).symm.trans hf
          refine lv_iload_n hx hb dX0_gettersOf_21 rfl (lv_at hl 2 rfl) ?_
          refine lv_aload_n hx hb dX0_gettersOf_22 rfl (lv_at hl 0 rfl) ?_
          refine va_get (D := (dC, dI)) (ci := 0) (v := .ref q2) (C := RX0) (T := TX0) (N := 12) hx hb hts (by decide +kernel) hown hK hP 0 rfl rfl 2 (by decide) (hts (.fieldLink RX0 9 "GiftLots" "board" "[I") (by decide +kernel)) (fun _ h9 => h9) rfl dX0_gettersOf_23 ?_
          refine lv_iload_n hx hb dX0_gettersOf_26 rfl (lv_at hl 3 rfl) ?_
          obtain ⟨hi27, hf⟩ := z_gx_some hf
          refine va_iald hx hb hK hP 1 0 rfl rfl hi27 dX0_gettersOf_27 ?_
          refine lv_ior hx hb dX0_gettersOf_28 ?_
          refine lv_istore_n (lv' := [(2, .int (x2 ||| (c2 (x3).toNatClampNeg))), (0, .ref h), (1, .int x1), (3, .int x3)]) hx hb dX0_gettersOf_29 rfl hl (by decide) rfl (fun ls hl => ?_)
          exact B30 (f_X0_gettersOf_b4 N c0 c2 n) ih x1 (x2 ||| (c2 (x3).toNatClampNeg)) x3 _ _ _ hf hP hD hS (lv_sub hl [1, 2, 0, 3] rfl)
  unfold f_X0_gettersOf at hf
  refine lv_iconst (v := (0 : Int32)) hx hb dX0_gettersOf_0 (by decide) ?_
  refine lv_istore_n (lv' := [(2, .int (0 : Int32)), (0, .ref h), (1, .int a1)]) hx hb dX0_gettersOf_1 rfl hl (by decide) rfl (fun ls hl => ?_)
  refine lv_iconst (v := (0 : Int32)) hx hb dX0_gettersOf_2 (by decide) ?_
  refine lv_istore_n (lv' := [(3, .int (0 : Int32)), (2, .int (0 : Int32)), (0, .ref h), (1, .int a1)]) hx hb dX0_gettersOf_3 rfl hl (by decide) rfl (fun ls hl => ?_)
  exact B4 N a1 (0 : Int32) (0 : Int32) _ _ _ hf hP hD hS (lv_sub hl [2, 3, 1, 0] rfl)

set_option maxRecDepth 20000 in
theorem ggX0_isHeapBefore_J6_bitCount_0f7a4 : GoodIn wsX0_isHeapBefore wsJ6_bitCount_0f7a4 := goodIn_r _ [4, 5, 6, 7] (by decide +kernel) (by decide +kernel)
set_option maxRecDepth 20000 in
theorem gX0_isHeapBefore_J6_bitCount_0f7a4 : GoodIn wsX0_isHeapBefore (va_wsS RX0 89 yJ6_bitCount_0f7a4 wsJ6_bitCount_0f7a4) := goodIn_app (goodIn_of _ (by decide +kernel)) ggX0_isHeapBefore_J6_bitCount_0f7a4
theorem dX0_isHeapBefore_0 : decode cX0_isHeapBefore 0 = .ok (.iload_n 0, 1) := by decide +kernel
theorem dX0_isHeapBefore_1 : decode cX0_isHeapBefore 1 = .ok (.invokestatic 89, 3) := by decide +kernel
theorem dX0_isHeapBefore_4 : decode cX0_isHeapBefore 4 = .ok (.istore_n 2, 1) := by decide +kernel
theorem dX0_isHeapBefore_5 : decode cX0_isHeapBefore 5 = .ok (.iload_n 1, 1) := by decide +kernel
theorem dX0_isHeapBefore_6 : decode cX0_isHeapBefore 6 = .ok (.invokestatic 89, 3) := by decide +kernel
theorem dX0_isHeapBefore_9 : decode cX0_isHeapBefore 9 = .ok (.istore_n 3, 1) := by decide +kernel
theorem dX0_isHeapBefore_10 : decode cX0_isHeapBefore 10 = .ok (.iload_n 1, 1) := by decide +kernel
theorem dX0_isHeapBefore_11 : decode cX0_isHeapBefore 11 = .ok (.ifCond .eq 8, 3) := by decide +kernel
theorem dX0_isHeapBefore_14 : decode cX0_isHeapBefore 14 = .ok (.iload_n 2, 1) := by decide +kernel
theorem dX0_isHeapBefore_15 : decode cX0_isHeapBefore 15 = .ok (.iload_n 3, 1) := by decide +kernel
theorem dX0_isHeapBefore_16 : decode cX0_isHeapBefore 16 = .ok (.if_icmp .eq 18, 3) := by decide +kernel
theorem dX0_isHeapBefore_19 : decode cX0_isHeapBefore 19 = .ok (.iload_n 1, 1) := by decide +kernel
theorem dX0_isHeapBefore_20 : decode cX0_isHeapBefore 20 = .ok (.ifCond .eq 8, 3) := by decide +kernel
theorem dX0_isHeapBefore_23 : decode cX0_isHeapBefore 23 = .ok (.iload_n 2, 1) := by decide +kernel
theorem dX0_isHeapBefore_24 : decode cX0_isHeapBefore 24 = .ok (.iload_n 3, 1) := by decide +kernel
theorem dX0_isHeapBefore_25 : decode cX0_isHeapBefore 25 = .ok (.if_icmp .ge 7, 3) := by decide +kernel
theorem dX0_isHeapBefore_28 : decode cX0_isHeapBefore 28 = .ok (.iconst 1, 1) := by decide +kernel
theorem dX0_isHeapBefore_29 : decode cX0_isHeapBefore 29 = .ok (.goto 4, 3) := by decide +kernel
theorem dX0_isHeapBefore_32 : decode cX0_isHeapBefore 32 = .ok (.iconst 0, 1) := by decide +kernel
theorem dX0_isHeapBefore_33 : decode cX0_isHeapBefore 33 = .ok (.ireturn, 1) := by decide +kernel
theorem dX0_isHeapBefore_34 : decode cX0_isHeapBefore 34 = .ok (.iload_n 0, 1) := by decide +kernel
theorem dX0_isHeapBefore_35 : decode cX0_isHeapBefore 35 = .ok (.iload_n 1, 1) := by decide +kernel
theorem dX0_isHeapBefore_36 : decode cX0_isHeapBefore 36 = .ok (.ixor, 1) := by decide +kernel
theorem dX0_isHeapBefore_37 : decode cX0_isHeapBefore 37 = .ok (.istore 4, 2) := by decide +kernel
theorem dX0_isHeapBefore_39 : decode cX0_isHeapBefore 39 = .ok (.iload_n 0, 1) := by decide +kernel
theorem dX0_isHeapBefore_40 : decode cX0_isHeapBefore 40 = .ok (.iload 4, 2) := by decide +kernel
theorem dX0_isHeapBefore_42 : decode cX0_isHeapBefore 42 = .ok (.iand, 1) := by decide +kernel
theorem dX0_isHeapBefore_43 : decode cX0_isHeapBefore 43 = .ok (.iload 4, 2) := by decide +kernel
theorem dX0_isHeapBefore_45 : decode cX0_isHeapBefore 45 = .ok (.ineg, 1) := by decide +kernel
theorem dX0_isHeapBefore_46 : decode cX0_isHeapBefore 46 = .ok (.iand, 1) := by decide +kernel
theorem dX0_isHeapBefore_47 : decode cX0_isHeapBefore 47 = .ok (.ifCond .eq 7, 3) := by decide +kernel
theorem dX0_isHeapBefore_50 : decode cX0_isHeapBefore 50 = .ok (.iconst 1, 1) := by decide +kernel
theorem dX0_isHeapBefore_51 : decode cX0_isHeapBefore 51 = .ok (.goto 4, 3) := by decide +kernel
theorem dX0_isHeapBefore_54 : decode cX0_isHeapBefore 54 = .ok (.iconst 0, 1) := by decide +kernel
theorem dX0_isHeapBefore_55 : decode cX0_isHeapBefore 55 = .ok (.ireturn, 1) := by decide +kernel
abbrev rm_X0_isHeapBefore : Room := { frames := 1, cells := 0, slots := 0, locals := 20 }
set_option maxHeartbeats 4000000 in
set_option maxRecDepth 100000 in
theorem c_X0_isHeapBefore (N : Nat) (l : Launch) (dC : Nat → ClassId) (dI : Nat → Nat → Nat) (cy : ClassId) (sz : Nat) (a0 a1 : Int32) (res : Int32) (hf : f_X0_isHeapBefore N a0 a1 = some res) : Met l yX0_isHeapBefore wsX0_isHeapBefore rm_X0_isHeapBefore (va_Pc [.int a0, .int a1] (fun U => U.heap.size = sz ∧ va_P (dC, dI) vwCl ([] : va_W) U.heap ∧ va_K (dC, dI) vwCl [(cy, .int)] U ∧ va_D (fun _ => True) ([] : va_W))) (z_qI dC dI cy res ([] : va_W) (va_A ([] : va_W) sz)) 0 0 (va_A ([] : va_W) sz) := by
  refine Met.ofW (cc := cX0_isHeapBefore) (maxL := 5) (ret := (some .boolean)) (by decide) rfl ?_
  intro p e s m args below meth c s₁ B hml hv
  obtain ⟨rfl, hsz, hP, hK, hD0⟩ := hv
  have hx := B.exec
  have hb := B.bytes
  have hr := B.returns
  have hts := atoms_spec (ws := wsX0_isHeapBefore) B.pre
  have hown : s.vm.findClass RX0 = some m.cls := findClass_of_methodNamed B.named
  have hlocks := B.notSynchronized
  subst hsz
  have hD := hD0.self (sz := s.heap.size)
  generalize hAe : va_A ([] : va_W) s.heap.size = A at hD ⊢
  have hA : ∀ q : Nat, s.heap.size ≤ q → A q := fun q h => by rw [← hAe]; exact Or.inr h
  have hS : va_S A s.heap s.heap [] := va_S.rf
  have hP : va_P (dC, dI) vwCl ([] : va_W) s.heap := hP
  have hl := lv_entry ([.int a0, .int a1]) (n := 5) (Nat.le_of_ble_eq_true rfl)
  rw [lg_entry_eq]
  generalize (lg_sl ([.int a0, .int a1]) ++ List.replicate (5 - (lg_sl ([.int a0, .int a1])).length) Slot.unset).toArray = ls at hl ⊢
  have hl : lv_has ls 5 [(0, .int a0), (1, .int a1)] := hl
  have B28 : ∀ (H : Heap) (locs : List Loc) (ls : Array Slot), f_X0_isHeapBefore_b28 N = some res → va_P (dC, dI) vwCl ([] : va_W) H → va_D A ([] : va_W) → va_S A s.heap H locs → lv_has ls 5 [] → W p l e rm_X0_isHeapBefore s m ([.int a0, .int a1] : List Value).toArray below meth c H locs 0 0 (MQ below (z_qI dC dI cy res ([] : va_W) A) ([.int a0, .int a1] : List Value).toArray s 0 0 A) (F0 m 28 ls []) := by
    clear hf hl hP hD hS
    intro H locs ls hf hP hD hS hl
    unfold f_X0_isHeapBefore_b28 at hf
    refine lv_iconst (v := (1 : Int32)) hx hb dX0_isHeapBefore_28 (by decide) ?_
    refine lv_goto (tgt := 33) hx hb dX0_isHeapBefore_29 (by decide) ?_
    have hres := Option.some.inj hf
    subst hres
    have hP9 := hP.sub (ws' := ([] : va_W)) [] rfl
    have hD9 := hD.sub (ws' := ([] : va_W)) [] (by decide) rfl
    have hK9 := hK.sub (tys' := [(cy, .int)]) [0] rfl
    exact W.zret (v := (1 : Int32)) hx hb hr rfl (fun t ht hW => ⟨⟨(1 : Int32), (), rfl, rfl, by rw [ht]; exact hP9, va_K.moved hW.alike hK9, hD9⟩, hS.F ht⟩) hS.2.2 dX0_isHeapBefore_33
  have B19 : ∀ (x1 x2 x3 : Int32) (H : Heap) (locs : List Loc) (ls : Array Slot), f_X0_isHeapBefore_b19 N x1 x2 x3 = some res → va_P (dC, dI) vwCl ([] : va_W) H → va_D A ([] : va_W) → va_S A s.heap H locs → lv_has ls 5 [(1, .int x1), (2, .int x2), (3, .int x3)] → W p l e rm_X0_isHeapBefore s m ([.int a0, .int a1] : List Value).toArray below meth c H locs 0 0 (MQ below (z_qI dC dI cy res ([] : va_W) A) ([.int a0, .int a1] : List Value).toArray s 0 0 A) (F0 m 19 ls []) := by
    clear hf hl hP hD hS
    intro x1 x2 x3 H locs ls hf hP hD hS hl
    unfold f_X0_isHeapBefore_b19 at hf
    refine lv_iload_n hx hb dX0_isHeapBefore_19 rfl (lv_at hl 0 rfl) ?_
    refine lv_if_eq (tgt := 28) hx hb dX0_isHeapBefore_20 (by decide) (fun c_20 => ?_) (fun c_20 => ?_)
    · replace hf := (if_pos c_20).symm.trans hf
      exact B28  _ _ _ hf hP hD hS (lv_sub hl [] rfl)
    · replace hf := (if_neg c_20).symm.trans hf
      refine lv_iload_n hx hb dX0_isHeapBefore_23 rfl (lv_at hl 1 rfl) ?_
      refine lv_iload_n hx hb dX0_isHeapBefore_24 rfl (lv_at hl 2 rfl) ?_
      refine lv_icmp_ge (tgt := 32) hx hb dX0_isHeapBefore_25 (by decide) (fun c_25 => ?_) (fun c_25 => ?_)
      · replace hf := (if_pos c_25).symm.trans hf
        refine lv_iconst (v := (0 : Int32)) hx hb dX0_isHeapBefore_32 (by decide) ?_
        have hres := Option.some.inj hf
        subst hres
        have hP9 := hP.sub (ws' := ([] : va_W)) [] rfl
        have hD9 := hD.sub (ws' := ([] : va_W)) [] (by decide) rfl
        have hK9 := hK.sub (tys' := [(cy, .int)]) [0] rfl
        exact W.zret (v := (0 : Int32)) hx hb hr rfl (fun t ht hW => ⟨⟨(0 : Int32), (), rfl, rfl, by rw [ht]; exact hP9, va_K.moved hW.alike hK9, hD9⟩, hS.F ht⟩) hS.2.2 dX0_isHeapBefore_33
      · replace hf := (if_neg c_25).symm.trans hf
        exact B28  _ _ _ hf hP hD hS (lv_sub hl [] rfl)
  unfold f_X0_isHeapBefore at hf
  refine lv_iload_n hx hb dX0_isHeapBefore_0 rfl (lv_at hl 0 rfl) ?_
  obtain ⟨u1, hu1, hf⟩ := z_ob_some hf
  have hPc := hP.sub (ws' := ([] : va_W)) [] rfl
  have hDc := hD.sub (ws' := ([] : va_W)) [] (by decide) rfl
  have hKc := hK.sub (tys' := [(cy, .int)]) [0] rfl
  have hFc := va_free (wc := ([] : va_W)) hD hS hA [] rfl
  refine va_calli (va_runS (As := [.int a0]) (rest := []) ⟨hx, hb, hml, hown, hts⟩ (c_bitCount l dC dI cy s.heap.size a0 u1 hu1) (va_cwS 1 hts gX0_isHeapBefore_J6_bitCount_0f7a4 rfl rfl rfl (by decide +kernel) ⟨Nat.le_of_ble_eq_true rfl, Nat.le_of_ble_eq_true rfl⟩) ⟨fun a U g mk q => by obtain ⟨q0, q1, qP, qK, qD⟩ := q; exact ⟨q0, q1, qP, va_K.moved (u := U) (U := U.calling g mk a) (Vm.Alike.refl U.vm) qK, qD⟩, fun U hU hW => ⟨rfl, by rw [hU], by rw [hU]; exact hPc, va_K.moved hW.alike hKc, hDc.weaken (fun _ _ _ _ => trivial)⟩⟩ rfl rfl hl.1 rfl (lv_room (Nat.le_of_ble_eq_true rfl)) dX0_isHeapBefore_1 ⟨Nat.zero_le _, Nat.zero_le _⟩) hS (fun q _ h => hFc q h) hFc (fun r_1 uu_ t H1 locs ht hvm hw hB hz1 hk1 hS => ?_)
  replace hw := hw.symm
  subst hw
  obtain ⟨hP1, -, hD1⟩ := hB
  rw [ht] at hP1
  obtain ⟨hP, hD⟩ := va_join (wr := ([] : va_W)) (w1 := []) hP hD [] [] rfl rfl (by decide) (by decide) hk1 hFc hP1 hD1
  clear hk1 hz1 hP1 hD1 ht hPc hDc hFc
  generalize H1 = H at hP hS ⊢
  have hP : va_P (dC, dI) vwCl ([] : va_W) H := hP
  have hD : va_D A ([] : va_W) := hD
  refine lv_istore_n (lv' := [(2, .int u1), (0, .int a0), (1, .int a1)]) hx hb dX0_isHeapBefore_4 rfl hl (by decide) rfl (fun ls hl => ?_)
  refine lv_iload_n hx hb dX0_isHeapBefore_5 rfl (lv_at hl 2 rfl) ?_
  obtain ⟨u6, hu6, hf⟩ := z_ob_some hf
  have hPc := hP.sub (ws' := ([] : va_W)) [] rfl
  have hDc := hD.sub (ws' := ([] : va_W)) [] (by decide) rfl
  have hKc := hK.sub (tys' := [(cy, .int)]) [0] rfl
  have hFc := va_free (wc := ([] : va_W)) hD hS hA [] rfl
  refine va_calli (va_runS (As := [.int a1]) (rest := []) ⟨hx, hb, hml, hown, hts⟩ (c_bitCount l dC dI cy H.size a1 u6 hu6) (va_cwS 1 hts gX0_isHeapBefore_J6_bitCount_0f7a4 rfl rfl rfl (by decide +kernel) ⟨Nat.le_of_ble_eq_true rfl, Nat.le_of_ble_eq_true rfl⟩) ⟨fun a U g mk q => by obtain ⟨q0, q1, qP, qK, qD⟩ := q; exact ⟨q0, q1, qP, va_K.moved (u := U) (U := U.calling g mk a) (Vm.Alike.refl U.vm) qK, qD⟩, fun U hU hW => ⟨rfl, by rw [hU], by rw [hU]; exact hPc, va_K.moved hW.alike hKc, hDc.weaken (fun _ _ _ _ => trivial)⟩⟩ rfl rfl hl.1 rfl (lv_room (Nat.le_of_ble_eq_true rfl)) dX0_isHeapBefore_6 ⟨Nat.zero_le _, Nat.zero_le _⟩) hS (fun q _ h => hFc q h) hFc (fun r_6 uu_ t H1 locs ht hvm hw hB hz1 hk1 hS => ?_)
  replace hw := hw.symm
  subst hw
  obtain ⟨hP1, -, hD1⟩ := hB
  rw [ht] at hP1
  obtain ⟨hP, hD⟩ := va_join (wr := ([] : va_W)) (w1 := []) hP hD [] [] rfl rfl (by decide) (by decide) hk1 hFc hP1 hD1
  clear hk1 hz1 hP1 hD1 ht hPc hDc hFc
  generalize H1 = H at hP hS ⊢
  have hP : va_P (dC, dI) vwCl ([] : va_W) H := hP
  have hD : va_D A ([] : va_W) := hD
  refine lv_istore_n (lv' := [(3, .int u6), (2, .int u1), (0, .int a0), (1, .int a1)]) hx hb dX0_isHeapBefore_9 rfl hl (by decide) rfl (fun ls hl => ?_)
  refine lv_iload_n hx hb dX0_isHeapBefore_10 rfl (lv_at hl 3 rfl) ?_
  refine lv_if_eq (tgt := 19) hx hb dX0_isHeapBefore_11 (by decide) (fun c_11 => ?_) (fun c_11 => ?_)
  · replace hf := (if_pos c_11).symm.trans hf
    exact B19 a1 u1 u6 _ _ _ hf hP hD hS (lv_sub hl [3, 1, 0] rfl)
  · replace hf := (if_neg c_11).symm.trans hf
    refine lv_iload_n hx hb dX0_isHeapBefore_14 rfl (lv_at hl 1 rfl) ?_
    refine lv_iload_n hx hb dX0_isHeapBefore_15 rfl (lv_at hl 0 rfl) ?_
    refine lv_icmp_eq (tgt := 34) hx hb dX0_isHeapBefore_16 (by decide) (fun c_16 => ?_) (fun c_16 => ?_)
    · replace hf := (if_pos c_16).symm.trans hf
      refine lv_iload_n hx hb dX0_isHeapBefore_34 rfl (lv_at hl 2 rfl) ?_
      refine lv_iload_n hx hb dX0_isHeapBefore_35 rfl (lv_at hl 3 rfl) ?_
      refine lv_ixor hx hb dX0_isHeapBefore_36 ?_
      refine lv_istore (lv' := [(4, .int (a0 ^^^ a1)), (3, .int u6), (2, .int u1), (0, .int a0), (1, .int a1)]) hx hb dX0_isHeapBefore_37 hl (by decide) rfl (fun ls hl => ?_)
      refine lv_iload_n hx hb dX0_isHeapBefore_39 rfl (lv_at hl 3 rfl) ?_
      refine lv_iload hx hb dX0_isHeapBefore_40 (lv_at hl 0 rfl) ?_
      refine lv_iand hx hb dX0_isHeapBefore_42 ?_
      refine lv_iload hx hb dX0_isHeapBefore_43 (lv_at hl 0 rfl) ?_
      refine lv_ineg hx hb dX0_isHeapBefore_45 ?_
      refine lv_iand hx hb dX0_isHeapBefore_46 ?_
      refine lv_if_eq (tgt := 54) hx hb dX0_isHeapBefore_47 (by decide) (fun c_47 => ?_) (fun c_47 => ?_)
      · replace hf := (if_pos c_47).symm.trans hf
        refine lv_iconst (v := (0 : Int32)) hx hb dX0_isHeapBefore_54 (by decide) ?_
        have hres := Option.some.inj hf
        subst hres
        have hP9 := hP.sub (ws' := ([] : va_W)) [] rfl
        have hD9 := hD.sub (ws' := ([] : va_W)) [] (by decide) rfl
        have hK9 := hK.sub (tys' := [(cy, .int)]) [0] rfl
        exact W.zret (v := (0 : Int32)) hx hb hr rfl (fun t ht hW => ⟨⟨(0 : Int32), (), rfl, rfl, by rw [ht]; exact hP9, va_K.moved hW.alike hK9, hD9⟩, hS.F ht⟩) hS.2.2 dX0_isHeapBefore_55
      · replace hf := (if_neg c_47).symm.trans hf
        refine lv_iconst (v := (1 : Int32)) hx hb dX0_isHeapBefore_50 (by decide) ?_
        refine lv_goto (tgt := 55) hx hb dX0_isHeapBefore_51 (by decide) ?_
        have hres := Option.some.inj hf
        subst hres
        have hP9 := hP.sub (ws' := ([] : va_W)) [] rfl
        have hD9 := hD.sub (ws' := ([] : va_W)) [] (by decide) rfl
        have hK9 := hK.sub (tys' := [(cy, .int)]) [0] rfl
        exact W.zret (v := (1 : Int32)) hx hb hr rfl (fun t ht hW => ⟨⟨(1 : Int32), (), rfl, rfl, by rw [ht]; exact hP9, va_K.moved hW.alike hK9, hD9⟩, hS.F ht⟩) hS.2.2 dX0_isHeapBefore_55
    · replace hf := (if_neg c_16).symm.trans hf
      exact B19 a1 u1 u6 _ _ _ hf hP hD hS (lv_sub hl [3, 1, 0] rfl)

set_option maxRecDepth 20000 in
theorem ggX0_heap_X0_everyone : GoodIn wsX0_heap wsX0_everyone := goodIn_r _ [5, 6, 25, 26, 27, 28, 29, 30, 31, 32, 33, 34, 35, 36] (by decide +kernel) (by decide +kernel)
set_option maxRecDepth 20000 in
theorem gX0_heap_X0_everyone : GoodIn wsX0_heap (wsV RX0 85 RX0 yX0_everyone wsX0_everyone) := goodIn_app (goodIn_of _ (by decide +kernel)) ggX0_heap_X0_everyone
set_option maxRecDepth 20000 in
theorem ggX0_heap_X0_gettersOf : GoodIn wsX0_heap wsX0_gettersOf := goodIn_r _ [10, 6, 11, 12, 13, 4, 14, 25, 26, 27, 28, 29, 30, 31, 32, 33, 34, 35, 36] (by decide +kernel) (by decide +kernel)
set_option maxRecDepth 20000 in
theorem gX0_heap_X0_gettersOf : GoodIn wsX0_heap (wsV RX0 94 RX0 yX0_gettersOf wsX0_gettersOf) := goodIn_app (goodIn_of _ (by decide +kernel)) ggX0_heap_X0_gettersOf
set_option maxRecDepth 20000 in
theorem ggX0_heap_J6_bitCount_0f7a4 : GoodIn wsX0_heap wsJ6_bitCount_0f7a4 := goodIn_r _ [18, 19, 20, 21] (by decide +kernel) (by decide +kernel)
set_option maxRecDepth 20000 in
theorem gX0_heap_J6_bitCount_0f7a4 : GoodIn wsX0_heap (va_wsS RX0 89 yJ6_bitCount_0f7a4 wsJ6_bitCount_0f7a4) := goodIn_app (goodIn_of _ (by decide +kernel)) ggX0_heap_J6_bitCount_0f7a4
set_option maxRecDepth 20000 in
theorem ggX0_heap_X0_isHeapBefore : GoodIn wsX0_heap wsX0_isHeapBefore := goodIn_r _ [24, 15, 16, 17, 18, 19, 20, 21] (by decide +kernel) (by decide +kernel)
set_option maxRecDepth 20000 in
theorem gX0_heap_X0_isHeapBefore : GoodIn wsX0_heap (va_wsS RX0 97 yX0_isHeapBefore wsX0_isHeapBefore) := goodIn_app (goodIn_of _ (by decide +kernel)) ggX0_heap_X0_isHeapBefore
theorem dX0_heap_0 : decode cX0_heap 0 = .ok (.iconst 0, 1) := by decide +kernel
theorem dX0_heap_1 : decode cX0_heap 1 = .ok (.istore_n 1, 1) := by decide +kernel
theorem dX0_heap_2 : decode cX0_heap 2 = .ok (.iconst 1, 1) := by decide +kernel
theorem dX0_heap_3 : decode cX0_heap 3 = .ok (.istore_n 2, 1) := by decide +kernel
theorem dX0_heap_4 : decode cX0_heap 4 = .ok (.iload_n 2, 1) := by decide +kernel
theorem dX0_heap_5 : decode cX0_heap 5 = .ok (.aload_n 0, 1) := by decide +kernel
theorem dX0_heap_6 : decode cX0_heap 6 = .ok (.invokevirtual 85, 3) := by decide +kernel
theorem dX0_heap_9 : decode cX0_heap 9 = .ok (.if_icmp .gt 34, 3) := by decide +kernel
theorem dX0_heap_12 : decode cX0_heap 12 = .ok (.aload_n 0, 1) := by decide +kernel
theorem dX0_heap_13 : decode cX0_heap 13 = .ok (.iload_n 2, 1) := by decide +kernel
theorem dX0_heap_14 : decode cX0_heap 14 = .ok (.invokevirtual 94, 3) := by decide +kernel
theorem dX0_heap_17 : decode cX0_heap 17 = .ok (.invokestatic 89, 3) := by decide +kernel
theorem dX0_heap_20 : decode cX0_heap 20 = .ok (.iload_n 2, 1) := by decide +kernel
theorem dX0_heap_21 : decode cX0_heap 21 = .ok (.invokestatic 89, 3) := by decide +kernel
theorem dX0_heap_24 : decode cX0_heap 24 = .ok (.if_icmp .ge 13, 3) := by decide +kernel
theorem dX0_heap_27 : decode cX0_heap 27 = .ok (.iload_n 2, 1) := by decide +kernel
theorem dX0_heap_28 : decode cX0_heap 28 = .ok (.iload_n 1, 1) := by decide +kernel
theorem dX0_heap_29 : decode cX0_heap 29 = .ok (.invokestatic 97, 3) := by decide +kernel
theorem dX0_heap_32 : decode cX0_heap 32 = .ok (.ifCond .eq 5, 3) := by decide +kernel
theorem dX0_heap_35 : decode cX0_heap 35 = .ok (.iload_n 2, 1) := by decide +kernel
theorem dX0_heap_36 : decode cX0_heap 36 = .ok (.istore_n 1, 1) := by decide +kernel
theorem dX0_heap_37 : decode cX0_heap 37 = .ok (.iinc 2 1, 3) := by decide +kernel
theorem dX0_heap_40 : decode cX0_heap 40 = .ok (.goto (-36), 3) := by decide +kernel
theorem dX0_heap_43 : decode cX0_heap 43 = .ok (.iload_n 1, 1) := by decide +kernel
theorem dX0_heap_44 : decode cX0_heap 44 = .ok (.ireturn, 1) := by decide +kernel
abbrev rm_X0_heap : Room := { frames := 2, cells := 0, slots := 0, locals := 44 }
set_option maxHeartbeats 4000000 in
set_option maxRecDepth 100000 in
theorem c_X0_heap (N : Nat) (l : Launch) (dC : Nat → ClassId) (dI : Nat → Nat → Nat) (cy : ClassId) (h q2 q3 q4 q5 q6 q7 q8 q9 : Nat) (sz : Nat) (c0 : Int32) (c1 : Int32) (c2 : Nat → Int32) (c3 : Nat → Int32) (c4 : Nat → Int32) (c5 : Nat → Int32) (c6 : Nat → Int32) (c7 : Nat → Int32) (c8 : Nat → Int32) (c9 : Nat → Int32) (c10 : Int32) (c11 : Int32) (res : Int32) (hf : f_X0_heap N c0 c2 = some res) : Met l yX0_heap wsX0_heap rm_X0_heap (va_Pc [.ref h] (fun U => U.heap.size = sz ∧ va_P (dC, dI) vwCl (wX0 cy h q2 q3 q4 q5 q6 q7 q8 q9 c0 c1 c2 c3 c4 c5 c6 c7 c8 c9 c10 c11) U.heap ∧ va_K (dC, dI) vwCl [(cy, .int)] U ∧ va_D (fun _ => True) (wX0 cy h q2 q3 q4 q5 q6 q7 q8 q9 c0 c1 c2 c3 c4 c5 c6 c7 c8 c9 c10 c11))) (z_qI dC dI cy res (wX0 cy h q2 q3 q4 q5 q6 q7 q8 q9 c0 c1 c2 c3 c4 c5 c6 c7 c8 c9 c10 c11) (va_A (wX0 cy h q2 q3 q4 q5 q6 q7 q8 q9 c0 c1 c2 c3 c4 c5 c6 c7 c8 c9 c10 c11) sz)) 0 0 (va_A (wX0 cy h q2 q3 q4 q5 q6 q7 q8 q9 c0 c1 c2 c3 c4 c5 c6 c7 c8 c9 c10 c11) sz) := by
  refine Met.ofW (cc := cX0_heap) (maxL := 3) (ret := (some .int)) (by decide) rfl ?_
  intro p e s m args below meth c s₁ B hml hv
  obtain ⟨rfl, hsz, hP, hK, hD0⟩ := hv
  have hx := B.exec
  have hb := B.bytes
  have hr := B.returns
  have hts := atoms_spec (ws := wsX0_heap) B.pre
  have hown : s.vm.findClass RX0 = some m.cls := findClass_of_methodNamed B.named
  have hlocks := B.notSynchronized
  subst hsz
  have hD := hD0.self (sz := s.heap.size)
  generalize hAe : va_A (wX0 cy h q2 q3 q4 q5 q6 q7 q8 q9 c0 c1 c2 c3 c4 c5 c6 c7 c8 c9 c10 c11) s.heap.size = A at hD ⊢
  have hA : ∀ q : Nat, s.heap.size ≤ q → A q := fun q h => by rw [← hAe]; exact Or.inr h
  have hS : va_S A s.heap s.heap [] := va_S.rf
  have hP : va_P (dC, dI) vwCl (wX0 cy h q2 q3 q4 q5 q6 q7 q8 q9 c0 c1 c2 c3 c4 c5 c6 c7 c8 c9 c10 c11) s.heap := hP
  have hl := lv_entry ([.ref h]) (n := 3) (Nat.le_of_ble_eq_true rfl)
  rw [lg_entry_eq]
  generalize (lg_sl ([.ref h]) ++ List.replicate (3 - (lg_sl ([.ref h])).length) Slot.unset).toArray = ls at hl ⊢
  have hl : lv_has ls 3 [(0, .ref h)] := hl
  have B37 : ∀ (r4 : Int32 → Int32 → Option (Int32)), (∀ (x1 x2 : Int32) (H : Heap) (locs : List Loc) (ls : Array Slot), r4 x1 x2 = some res → va_P (dC, dI) vwCl (wX0 cy h q2 q3 q4 q5 q6 q7 q8 q9 c0 c1 c2 c3 c4 c5 c6 c7 c8 c9 c10 c11) H → va_D A (wX0 cy h q2 q3 q4 q5 q6 q7 q8 q9 c0 c1 c2 c3 c4 c5 c6 c7 c8 c9 c10 c11) → va_S A s.heap H locs → lv_has ls 3 [(0, .ref h), (1, .int x1), (2, .int x2)] → W p l e rm_X0_heap s m ([.ref h] : List Value).toArray below meth c H locs 0 0 (MQ below (z_qI dC dI cy res (wX0 cy h q2 q3 q4 q5 q6 q7 q8 q9 c0 c1 c2 c3 c4 c5 c6 c7 c8 c9 c10 c11) A) ([.ref h] : List Value).toArray s 0 0 A) (F0 m 4 ls [])) → ∀ (x1 x2 : Int32) (H : Heap) (locs : List Loc) (ls : Array Slot), f_X0_heap_b37 N c0 c2 r4 x1 x2 = some res → va_P (dC, dI) vwCl (wX0 cy h q2 q3 q4 q5 q6 q7 q8 q9 c0 c1 c2 c3 c4 c5 c6 c7 c8 c9 c10 c11) H → va_D A (wX0 cy h q2 q3 q4 q5 q6 q7 q8 q9 c0 c1 c2 c3 c4 c5 c6 c7 c8 c9 c10 c11) → va_S A s.heap H locs → lv_has ls 3 [(0, .ref h), (1, .int x1), (2, .int x2)] → W p l e rm_X0_heap s m ([.ref h] : List Value).toArray below meth c H locs 0 0 (MQ below (z_qI dC dI cy res (wX0 cy h q2 q3 q4 q5 q6 q7 q8 q9 c0 c1 c2 c3 c4 c5 c6 c7 c8 c9 c10 c11) A) ([.ref h] : List Value).toArray s 0 0 A) (F0 m 37 ls []) := by
    clear hf hl hP hD hS
    intro r4 hr4
    intro x1 x2 H locs ls hf hP hD hS hl
    unfold f_X0_heap_b37 at hf
    refine lv_iinc (v := x2 + (1 : Int32)) (lv' := [(2, .int (x2 + (1 : Int32))), (0, .ref h), (1, .int x1)]) hx hb dX0_heap_37 hl (k := 2) rfl rfl (by decide) rfl (fun ls hl => ?_)
    refine lv_goto (tgt := 4) hx hb dX0_heap_40 (by decide) ?_
    exact hr4 x1 (x2 + (1 : Int32)) _ _ _ hf hP hD hS (lv_sub hl [1, 2, 0] rfl)
  have B4 : ∀ n : Nat, ∀ (x1 x2 : Int32) (H : Heap) (locs : List Loc) (ls : Array Slot), f_X0_heap_b4 N c0 c2 n x1 x2 = some res → va_P (dC, dI) vwCl (wX0 cy h q2 q3 q4 q5 q6 q7 q8 q9 c0 c1 c2 c3 c4 c5 c6 c7 c8 c9 c10 c11) H → va_D A (wX0 cy h q2 q3 q4 q5 q6 q7 q8 q9 c0 c1 c2 c3 c4 c5 c6 c7 c8 c9 c10 c11) → va_S A s.heap H locs → lv_has ls 3 [(0, .ref h), (1, .int x1), (2, .int x2)] → W p l e rm_X0_heap s m ([.ref h] : List Value).toArray below meth c H locs 0 0 (MQ below (z_qI dC dI cy res (wX0 cy h q2 q3 q4 q5 q6 q7 q8 q9 c0 c1 c2 c3 c4 c5 c6 c7 c8 c9 c10 c11) A) ([.ref h] : List Value).toArray s 0 0 A) (F0 m 4 ls []) := by
    clear hf hl hP hD hS
    intro n
    induction n with
    | zero =>
      intro x1 x2 H locs ls hf hP hD hS hl
      rw [f_X0_heap_b4] at hf
      cases hf
    | succ n ih =>
      intro x1 x2 H locs ls hf hP hD hS hl
      rw [f_X0_heap_b4] at hf
      refine lv_iload_n hx hb dX0_heap_4 rfl (lv_at hl 2 rfl) ?_
      refine lv_aload_n hx hb dX0_heap_5 rfl (lv_at hl 0 rfl) ?_
      obtain ⟨u6, hu6, hf⟩ := z_ob_some hf
      have hPc := hP.sub (ws' := (wX0 cy h q2 q3 q4 q5 q6 q7 q8 q9 c0 c1 c2 c3 c4 c5 c6 c7 c8 c9 c10 c11)) [0, 1, 2, 3, 4, 5, 6, 7, 8] rfl
      have hDc := hD.sub (ws' := (wX0 cy h q2 q3 q4 q5 q6 q7 q8 q9 c0 c1 c2 c3 c4 c5 c6 c7 c8 c9 c10 c11)) [0, 1, 2, 3, 4, 5, 6, 7, 8] (by decide) rfl
      have hKc := hK.sub (tys' := [(cy, .int)]) [0] rfl
      have hFc := va_free (wc := (wX0 cy h q2 q3 q4 q5 q6 q7 q8 q9 c0 c1 c2 c3 c4 c5 c6 c7 c8 c9 c10 c11)) hD hS hA [0, 1, 2, 3, 4, 5, 6, 7, 8] rfl
      refine va_calli (va_runV (As := []) (rest := [.int x2]) ⟨hx, hb, hml, hown, hts⟩ (c_X0_everyone N l dC dI cy h q2 q3 q4 q5 q6 q7 q8 q9 H.size c0 c1 c2 c3 c4 c5 c6 c7 c8 c9 c10 c11 u6 hu6) (cwV 0 hts gX0_heap_X0_everyone rfl rfl rfl (by decide +kernel) ⟨Nat.le_of_ble_eq_true rfl, Nat.le_of_ble_eq_true rfl⟩) ⟨fun a U g mk q => by obtain ⟨q0, q1, qP, qK, qD⟩ := q; exact ⟨q0, q1, qP, va_K.moved (u := U) (U := U.calling g mk a) (Vm.Alike.refl U.vm) qK, qD⟩, va_recv hKc hPc (ci := 0) (q0 := 0) rfl rfl, fun U hU hW => ⟨rfl, by rw [hU], by rw [hU]; exact hPc, va_K.moved hW.alike hKc, hDc.weaken (fun _ _ _ _ => trivial)⟩⟩ rfl rfl hl.1 rfl (lv_room (Nat.le_of_ble_eq_true rfl)) dX0_heap_6 ⟨Nat.zero_le _, Nat.zero_le _⟩) hS (fun q _ h => hFc q h) hFc (fun r_6 uu_ t H1 locs ht hvm hw hB hz1 hk1 hS => ?_)
      replace hw := hw.symm
      subst hw
      obtain ⟨hP1, -, hD1⟩ := hB
      rw [ht] at hP1
      obtain ⟨hP, hD⟩ := va_join (wr := []) (w1 := (wX0 cy h q2 q3 q4 q5 q6 q7 q8 q9 c0 c1 c2 c3 c4 c5 c6 c7 c8 c9 c10 c11)) hP hD [0, 1, 2, 3, 4, 5, 6, 7, 8] [] rfl rfl (by decide) (by decide) hk1 hFc hP1 hD1
      clear hk1 hz1 hP1 hD1 ht hPc hDc hFc
      generalize H1 = H at hP hS ⊢
      have hP : va_P (dC, dI) vwCl (wX0 cy h q2 q3 q4 q5 q6 q7 q8 q9 c0 c1 c2 c3 c4 c5 c6 c7 c8 c9 c10 c11) H := hP
      have hD : va_D A (wX0 cy h q2 q3 q4 q5 q6 q7 q8 q9 c0 c1 c2 c3 c4 c5 c6 c7 c8 c9 c10 c11) := hD
      refine lv_icmp_gt (tgt := 43) hx hb dX0_heap_9 (by decide) (fun c_9 => ?_) (fun c_9 => ?_)
      · replace hf := (if_pos c_9).symm.trans hf
        refine lv_iload_n hx hb dX0_heap_43 rfl (lv_at hl 1 rfl) ?_
        have hres := Option.some.inj hf
        subst hres
        have hP9 := hP.sub (ws' := (wX0 cy h q2 q3 q4 q5 q6 q7 q8 q9 c0 c1 c2 c3 c4 c5 c6 c7 c8 c9 c10 c11)) [0, 1, 2, 3, 4, 5, 6, 7, 8] rfl
        have hD9 := hD.sub (ws' := (wX0 cy h q2 q3 q4 q5 q6 q7 q8 q9 c0 c1 c2 c3 c4 c5 c6 c7 c8 c9 c10 c11)) [0, 1, 2, 3, 4, 5, 6, 7, 8] (by decide) rfl
        have hK9 := hK.sub (tys' := [(cy, .int)]) [0] rfl
        exact W.iret (v := x1) hx hb hr (fun t ht hW => ⟨⟨x1, (), rfl, rfl, by rw [ht]; exact hP9, va_K.moved hW.alike hK9, hD9⟩, hS.F ht⟩) hS.2.2 dX0_heap_44
      · replace hf := (if_neg c_9).symm.trans hf
        refine lv_aload_n hx hb dX0_heap_12 rfl (lv_at hl 0 rfl) ?_
        refine lv_iload_n hx hb dX0_heap_13 rfl (lv_at hl 2 rfl) ?_
        obtain ⟨u14, hu14, hf⟩ := z_ob_some hf
        have hPc := hP.sub (ws' := (wX0 cy h q2 q3 q4 q5 q6 q7 q8 q9 c0 c1 c2 c3 c4 c5 c6 c7 c8 c9 c10 c11)) [0, 1, 2, 3, 4, 5, 6, 7, 8] rfl
        have hDc := hD.sub (ws' := (wX0 cy h q2 q3 q4 q5 q6 q7 q8 q9 c0 c1 c2 c3 c4 c5 c6 c7 c8 c9 c10 c11)) [0, 1, 2, 3, 4, 5, 6, 7, 8] (by decide) rfl
        have hKc := hK.sub (tys' := [(cy, .int)]) [0] rfl
        have hFc := va_free (wc := (wX0 cy h q2 q3 q4 q5 q6 q7 q8 q9 c0 c1 c2 c3 c4 c5 c6 c7 c8 c9 c10 c11)) hD hS hA [0, 1, 2, 3, 4, 5, 6, 7, 8] rfl
        refine va_calli (va_runV (As := [.int x2]) (rest := []) ⟨hx, hb, hml, hown, hts⟩ (c_X0_gettersOf N l dC dI cy h q2 q3 q4 q5 q6 q7 q8 q9 H.size c0 c1 c2 c3 c4 c5 c6 c7 c8 c9 c10 c11 x2 u14 hu14) (cwV 1 hts gX0_heap_X0_gettersOf rfl rfl rfl (by decide +kernel) ⟨Nat.le_of_ble_eq_true rfl, Nat.le_of_ble_eq_true rfl⟩) ⟨fun a U g mk q => by obtain ⟨q0, q1, qP, qK, qD⟩ := q; exact ⟨q0, q1, qP, va_K.moved (u := U) (U := U.calling g mk a) (Vm.Alike.refl U.vm) qK, qD⟩, va_recv hKc hPc (ci := 0) (q0 := 0) rfl rfl, fun U hU hW => ⟨rfl, by rw [hU], by rw [hU]; exact hPc, va_K.moved hW.alike hKc, hDc.weaken (fun _ _ _ _ => trivial)⟩⟩ rfl rfl hl.1 rfl (lv_room (Nat.le_of_ble_eq_true rfl)) dX0_heap_14 ⟨Nat.zero_le _, Nat.zero_le _⟩) hS (fun q _ h => hFc q h) hFc (fun r_14 uu_ t H1 locs ht hvm hw hB hz1 hk1 hS => ?_)
        replace hw := hw.symm
        subst hw
        obtain ⟨hP1, -, hD1⟩ := hB
        rw [ht] at hP1
        obtain ⟨hP, hD⟩ := va_join (wr := []) (w1 := (wX0 cy h q2 q3 q4 q5 q6 q7 q8 q9 c0 c1 c2 c3 c4 c5 c6 c7 c8 c9 c10 c11)) hP hD [0, 1, 2, 3, 4, 5, 6, 7, 8] [] rfl rfl (by decide) (by decide) hk1 hFc hP1 hD1
        clear hk1 hz1 hP1 hD1 ht hPc hDc hFc
        generalize H1 = H at hP hS ⊢
        have hP : va_P (dC, dI) vwCl (wX0 cy h q2 q3 q4 q5 q6 q7 q8 q9 c0 c1 c2 c3 c4 c5 c6 c7 c8 c9 c10 c11) H := hP
        have hD : va_D A (wX0 cy h q2 q3 q4 q5 q6 q7 q8 q9 c0 c1 c2 c3 c4 c5 c6 c7 c8 c9 c10 c11) := hD
        obtain ⟨u17, hu17, hf⟩ := z_ob_some hf
        have hPc := hP.sub (ws' := ([] : va_W)) [] rfl
        have hDc := hD.sub (ws' := ([] : va_W)) [] (by decide) rfl
        have hKc := hK.sub (tys' := [(cy, .int)]) [0] rfl
        have hFc := va_free (wc := ([] : va_W)) hD hS hA [] rfl
        refine va_calli (va_runS (As := [.int u14]) (rest := []) ⟨hx, hb, hml, hown, hts⟩ (c_bitCount l dC dI cy H.size u14 u17 hu17) (va_cwS 1 hts gX0_heap_J6_bitCount_0f7a4 rfl rfl rfl (by decide +kernel) ⟨Nat.le_of_ble_eq_true rfl, Nat.le_of_ble_eq_true rfl⟩) ⟨fun a U g mk q => by obtain ⟨q0, q1, qP, qK, qD⟩ := q; exact ⟨q0, q1, qP, va_K.moved (u := U) (U := U.calling g mk a) (Vm.Alike.refl U.vm) qK, qD⟩, fun U hU hW => ⟨rfl, by rw [hU], by rw [hU]; exact hPc, va_K.moved hW.alike hKc, hDc.weaken (fun _ _ _ _ => trivial)⟩⟩ rfl rfl hl.1 rfl (lv_room (Nat.le_of_ble_eq_true rfl)) dX0_heap_17 ⟨Nat.zero_le _, Nat.zero_le _⟩) hS (fun q _ h => hFc q h) hFc (fun r_17 uu_ t H1 locs ht hvm hw hB hz1 hk1 hS => ?_)
        replace hw := hw.symm
        subst hw
        obtain ⟨hP1, -, hD1⟩ := hB
        rw [ht] at hP1
        obtain ⟨hP, hD⟩ := va_join (wr := (wX0 cy h q2 q3 q4 q5 q6 q7 q8 q9 c0 c1 c2 c3 c4 c5 c6 c7 c8 c9 c10 c11)) (w1 := []) hP hD [] [0, 1, 2, 3, 4, 5, 6, 7, 8] rfl rfl (by decide) (by decide) hk1 hFc hP1 hD1
        clear hk1 hz1 hP1 hD1 ht hPc hDc hFc
        generalize H1 = H at hP hS ⊢
        have hP : va_P (dC, dI) vwCl (wX0 cy h q2 q3 q4 q5 q6 q7 q8 q9 c0 c1 c2 c3 c4 c5 c6 c7 c8 c9 c10 c11) H := hP
        have hD : va_D A (wX0 cy h q2 q3 q4 q5 q6 q7 q8 q9 c0 c1 c2 c3 c4 c5 c6 c7 c8 c9 c10 c11) := hD
        refine lv_iload_n hx hb dX0_heap_20 rfl (lv_at hl 2 rfl) ?_
        obtain ⟨u21, hu21, hf⟩ := z_ob_some hf
        have hPc := hP.sub (ws' := ([] : va_W)) [] rfl
        have hDc := hD.sub (ws' := ([] : va_W)) [] (by decide) rfl
        have hKc := hK.sub (tys' := [(cy, .int)]) [0] rfl
        have hFc := va_free (wc := ([] : va_W)) hD hS hA [] rfl
        refine va_calli (va_runS (As := [.int x2]) (rest := [.int u17]) ⟨hx, hb, hml, hown, hts⟩ (c_bitCount l dC dI cy H.size x2 u21 hu21) (va_cwS 1 hts gX0_heap_J6_bitCount_0f7a4 rfl rfl rfl (by decide +kernel) ⟨Nat.le_of_ble_eq_true rfl, Nat.le_of_ble_eq_true rfl⟩) ⟨fun a U g mk q => by obtain ⟨q0, q1, qP, qK, qD⟩ := q; exact ⟨q0, q1, qP, va_K.moved (u := U) (U := U.calling g mk a) (Vm.Alike.refl U.vm) qK, qD⟩, fun U hU hW => ⟨rfl, by rw [hU], by rw [hU]; exact hPc, va_K.moved hW.alike hKc, hDc.weaken (fun _ _ _ _ => trivial)⟩⟩ rfl rfl hl.1 rfl (lv_room (Nat.le_of_ble_eq_true rfl)) dX0_heap_21 ⟨Nat.zero_le _, Nat.zero_le _⟩) hS (fun q _ h => hFc q h) hFc (fun r_21 uu_ t H1 locs ht hvm hw hB hz1 hk1 hS => ?_)
        replace hw := hw.symm
        subst hw
        obtain ⟨hP1, -, hD1⟩ := hB
        rw [ht] at hP1
        obtain ⟨hP, hD⟩ := va_join (wr := (wX0 cy h q2 q3 q4 q5 q6 q7 q8 q9 c0 c1 c2 c3 c4 c5 c6 c7 c8 c9 c10 c11)) (w1 := []) hP hD [] [0, 1, 2, 3, 4, 5, 6, 7, 8] rfl rfl (by decide) (by decide) hk1 hFc hP1 hD1
        clear hk1 hz1 hP1 hD1 ht hPc hDc hFc
        generalize H1 = H at hP hS ⊢
        have hP : va_P (dC, dI) vwCl (wX0 cy h q2 q3 q4 q5 q6 q7 q8 q9 c0 c1 c2 c3 c4 c5 c6 c7 c8 c9 c10 c11) H := hP
        have hD : va_D A (wX0 cy h q2 q3 q4 q5 q6 q7 q8 q9 c0 c1 c2 c3 c4 c5 c6 c7 c8 c9 c10 c11) := hD
        refine lv_icmp_ge (tgt := 37) hx hb dX0_heap_24 (by decide) (fun c_24 => ?_) (fun c_24 => ?_)
        · replace hf := (if_pos c_24).symm.trans hf
          exact B37 (f_X0_heap_b4 N c0 c2 n) ih x1 x2 _ _ _ hf hP hD hS (lv_sub hl [0, 1, 2] rfl)
        · replace hf := (if_neg c_24).symm.trans hf
          refine lv_iload_n hx hb dX0_heap_27 rfl (lv_at hl 2 rfl) ?_
          refine lv_iload_n hx hb dX0_heap_28 rfl (lv_at hl 1 rfl) ?_
          obtain ⟨u29, hu29, hf⟩ := z_ob_some hf
          have hPc := hP.sub (ws' := ([] : va_W)) [] rfl
          have hDc := hD.sub (ws' := ([] : va_W)) [] (by decide) rfl
          have hKc := hK.sub (tys' := [(cy, .int)]) [0] rfl
          have hFc := va_free (wc := ([] : va_W)) hD hS hA [] rfl
          refine va_calli (va_runS (As := [.int x2, .int x1]) (rest := []) ⟨hx, hb, hml, hown, hts⟩ (c_X0_isHeapBefore N l dC dI cy H.size x2 x1 u29 hu29) (va_cwS 2 hts gX0_heap_X0_isHeapBefore rfl rfl rfl (by decide +kernel) ⟨Nat.le_of_ble_eq_true rfl, Nat.le_of_ble_eq_true rfl⟩) ⟨fun a U g mk q => by obtain ⟨q0, q1, qP, qK, qD⟩ := q; exact ⟨q0, q1, qP, va_K.moved (u := U) (U := U.calling g mk a) (Vm.Alike.refl U.vm) qK, qD⟩, fun U hU hW => ⟨rfl, by rw [hU], by rw [hU]; exact hPc, va_K.moved hW.alike hKc, hDc.weaken (fun _ _ _ _ => trivial)⟩⟩ rfl rfl hl.1 rfl (lv_room (Nat.le_of_ble_eq_true rfl)) dX0_heap_29 ⟨Nat.zero_le _, Nat.zero_le _⟩) hS (fun q _ h => hFc q h) hFc (fun r_29 uu_ t H1 locs ht hvm hw hB hz1 hk1 hS => ?_)
          replace hw := hw.symm
          subst hw
          obtain ⟨hP1, -, hD1⟩ := hB
          rw [ht] at hP1
          obtain ⟨hP, hD⟩ := va_join (wr := (wX0 cy h q2 q3 q4 q5 q6 q7 q8 q9 c0 c1 c2 c3 c4 c5 c6 c7 c8 c9 c10 c11)) (w1 := ([] : va_W)) hP hD [] [0, 1, 2, 3, 4, 5, 6, 7, 8] rfl rfl (by decide) (by decide) hk1 hFc hP1 hD1
          clear hk1 hz1 hP1 hD1 ht hPc hDc hFc
          generalize H1 = H at hP hS ⊢
          have hP : va_P (dC, dI) vwCl (wX0 cy h q2 q3 q4 q5 q6 q7 q8 q9 c0 c1 c2 c3 c4 c5 c6 c7 c8 c9 c10 c11) H := hP
          have hD : va_D A (wX0 cy h q2 q3 q4 q5 q6 q7 q8 q9 c0 c1 c2 c3 c4 c5 c6 c7 c8 c9 c10 c11) := hD
          refine lv_if_eq (tgt := 37) hx hb dX0_heap_32 (by decide) (fun c_32 => ?_) (fun c_32 => ?_)
          · replace hf := (if_pos c_32).symm.trans hf
            exact B37 (f_X0_heap_b4 N c0 c2 n) ih x1 x2 _ _ _ hf hP hD hS (lv_sub hl [0, 1, 2] rfl)
          · replace hf := (if_neg c_32).symm.trans hf
            refine lv_iload_n hx hb dX0_heap_35 rfl (lv_at hl 2 rfl) ?_
            refine lv_istore_n (lv' := [(1, .int x2), (0, .ref h), (2, .int x2)]) hx hb dX0_heap_36 rfl hl (by decide) rfl (fun ls hl => ?_)
            exact B37 (f_X0_heap_b4 N c0 c2 n) ih x2 x2 _ _ _ hf hP hD hS (lv_sub hl [1, 0, 2] rfl)
  unfold f_X0_heap at hf
  refine lv_iconst (v := (0 : Int32)) hx hb dX0_heap_0 (by decide) ?_
  refine lv_istore_n (lv' := [(1, .int (0 : Int32)), (0, .ref h)]) hx hb dX0_heap_1 rfl hl (by decide) rfl (fun ls hl => ?_)
  refine lv_iconst (v := (1 : Int32)) hx hb dX0_heap_2 (by decide) ?_
  refine lv_istore_n (lv' := [(2, .int (1 : Int32)), (1, .int (0 : Int32)), (0, .ref h)]) hx hb dX0_heap_3 rfl hl (by decide) rfl (fun ls hl => ?_)
  exact B4 N (0 : Int32) (1 : Int32) _ _ _ hf hP hD hS (lv_sub hl [2, 1, 0] rfl)

theorem dX0_isTakenFromOther_0 : decode cX0_isTakenFromOther 0 = .ok (.iconst 0, 1) := by decide +kernel
theorem dX0_isTakenFromOther_1 : decode cX0_isTakenFromOther 1 = .ok (.istore_n 3, 1) := by decide +kernel
theorem dX0_isTakenFromOther_2 : decode cX0_isTakenFromOther 2 = .ok (.iload_n 3, 1) := by decide +kernel
theorem dX0_isTakenFromOther_3 : decode cX0_isTakenFromOther 3 = .ok (.aload_n 0, 1) := by decide +kernel
theorem dX0_isTakenFromOther_4 : decode cX0_isTakenFromOther 4 = .ok (.getfield 38, 3) := by decide +kernel
theorem dX0_isTakenFromOther_7 : decode cX0_isTakenFromOther 7 = .ok (.if_icmp .ge 26, 3) := by decide +kernel
theorem dX0_isTakenFromOther_10 : decode cX0_isTakenFromOther 10 = .ok (.iload_n 3, 1) := by decide +kernel
theorem dX0_isTakenFromOther_11 : decode cX0_isTakenFromOther 11 = .ok (.iload_n 1, 1) := by decide +kernel
theorem dX0_isTakenFromOther_12 : decode cX0_isTakenFromOther 12 = .ok (.if_icmp .eq 15, 3) := by decide +kernel
theorem dX0_isTakenFromOther_15 : decode cX0_isTakenFromOther 15 = .ok (.aload_n 0, 1) := by decide +kernel
theorem dX0_isTakenFromOther_16 : decode cX0_isTakenFromOther 16 = .ok (.getfield 13, 3) := by decide +kernel
theorem dX0_isTakenFromOther_19 : decode cX0_isTakenFromOther 19 = .ok (.iload_n 3, 1) := by decide +kernel
theorem dX0_isTakenFromOther_20 : decode cX0_isTakenFromOther 20 = .ok (.iaload, 1) := by decide +kernel
theorem dX0_isTakenFromOther_21 : decode cX0_isTakenFromOther 21 = .ok (.iload_n 2, 1) := by decide +kernel
theorem dX0_isTakenFromOther_22 : decode cX0_isTakenFromOther 22 = .ok (.if_icmp .ne 5, 3) := by decide +kernel
theorem dX0_isTakenFromOther_25 : decode cX0_isTakenFromOther 25 = .ok (.iconst 1, 1) := by decide +kernel
theorem dX0_isTakenFromOther_26 : decode cX0_isTakenFromOther 26 = .ok (.ireturn, 1) := by decide +kernel
theorem dX0_isTakenFromOther_27 : decode cX0_isTakenFromOther 27 = .ok (.iinc 3 1, 3) := by decide +kernel
theorem dX0_isTakenFromOther_30 : decode cX0_isTakenFromOther 30 = .ok (.goto (-28), 3) := by decide +kernel
theorem dX0_isTakenFromOther_33 : decode cX0_isTakenFromOther 33 = .ok (.iconst 0, 1) := by decide +kernel
theorem dX0_isTakenFromOther_34 : decode cX0_isTakenFromOther 34 = .ok (.ireturn, 1) := by decide +kernel
abbrev rm_X0_isTakenFromOther : Room := { frames := 0, cells := 0, slots := 0, locals := 0 }
set_option maxHeartbeats 4000000 in
set_option maxRecDepth 100000 in
theorem c_X0_isTakenFromOther (N : Nat) (l : Launch) (dC : Nat → ClassId) (dI : Nat → Nat → Nat) (cy : ClassId) (h q2 q3 q4 q5 q6 q7 q8 q9 : Nat) (sz : Nat) (c0 : Int32) (c1 : Int32) (c2 : Nat → Int32) (c3 : Nat → Int32) (c4 : Nat → Int32) (c5 : Nat → Int32) (c6 : Nat → Int32) (c7 : Nat → Int32) (c8 : Nat → Int32) (c9 : Nat → Int32) (c10 : Int32) (c11 : Int32) (a1 a2 : Int32) (res : Int32) (hf : f_X0_isTakenFromOther N a1 a2 c0 c3 = some res) : Met l yX0_isTakenFromOther wsX0_isTakenFromOther rm_X0_isTakenFromOther (va_Pc [.ref h, .int a1, .int a2] (fun U => U.heap.size = sz ∧ va_P (dC, dI) vwCl (wX0 cy h q2 q3 q4 q5 q6 q7 q8 q9 c0 c1 c2 c3 c4 c5 c6 c7 c8 c9 c10 c11) U.heap ∧ va_K (dC, dI) vwCl [(cy, .int)] U ∧ va_D (fun _ => True) (wX0 cy h q2 q3 q4 q5 q6 q7 q8 q9 c0 c1 c2 c3 c4 c5 c6 c7 c8 c9 c10 c11))) (z_qI dC dI cy res (wX0 cy h q2 q3 q4 q5 q6 q7 q8 q9 c0 c1 c2 c3 c4 c5 c6 c7 c8 c9 c10 c11) (va_A (wX0 cy h q2 q3 q4 q5 q6 q7 q8 q9 c0 c1 c2 c3 c4 c5 c6 c7 c8 c9 c10 c11) sz)) 0 0 (va_A (wX0 cy h q2 q3 q4 q5 q6 q7 q8 q9 c0 c1 c2 c3 c4 c5 c6 c7 c8 c9 c10 c11) sz) := by
  refine Met.ofW (cc := cX0_isTakenFromOther) (maxL := 4) (ret := (some .boolean)) (by decide) rfl ?_
  intro p e s m args below meth c s₁ B hml hv
  obtain ⟨rfl, hsz, hP, hK, hD0⟩ := hv
  have hx := B.exec
  have hb := B.bytes
  have hr := B.returns
  have hts := atoms_spec (ws := wsX0_isTakenFromOther) B.pre
  have hown : s.vm.findClass RX0 = some m.cls := findClass_of_methodNamed B.named
  have hlocks := B.notSynchronized
  subst hsz
  have hD := hD0.self (sz := s.heap.size)
  generalize hAe : va_A (wX0 cy h q2 q3 q4 q5 q6 q7 q8 q9 c0 c1 c2 c3 c4 c5 c6 c7 c8 c9 c10 c11) s.heap.size = A at hD ⊢
  have hA : ∀ q : Nat, s.heap.size ≤ q → A q := fun q h => by rw [← hAe]; exact Or.inr h
  have hS : va_S A s.heap s.heap [] := va_S.rf
  have hP : va_P (dC, dI) vwCl (wX0 cy h q2 q3 q4 q5 q6 q7 q8 q9 c0 c1 c2 c3 c4 c5 c6 c7 c8 c9 c10 c11) s.heap := hP
  have hl := lv_entry ([.ref h, .int a1, .int a2]) (n := 4) (Nat.le_of_ble_eq_true rfl)
  rw [lg_entry_eq]
  generalize (lg_sl ([.ref h, .int a1, .int a2]) ++ List.replicate (4 - (lg_sl ([.ref h, .int a1, .int a2])).length) Slot.unset).toArray = ls at hl ⊢
  have hl : lv_has ls 4 [(0, .ref h), (1, .int a1), (2, .int a2)] := hl
  have B27 : ∀ (r2 : Int32 → Int32 → Int32 → Option (Int32)), (∀ (x1 x2 x3 : Int32) (H : Heap) (locs : List Loc) (ls : Array Slot), r2 x1 x2 x3 = some res → va_P (dC, dI) vwCl (wX0 cy h q2 q3 q4 q5 q6 q7 q8 q9 c0 c1 c2 c3 c4 c5 c6 c7 c8 c9 c10 c11) H → va_D A (wX0 cy h q2 q3 q4 q5 q6 q7 q8 q9 c0 c1 c2 c3 c4 c5 c6 c7 c8 c9 c10 c11) → va_S A s.heap H locs → lv_has ls 4 [(0, .ref h), (1, .int x1), (2, .int x2), (3, .int x3)] → W p l e rm_X0_isTakenFromOther s m ([.ref h, .int a1, .int a2] : List Value).toArray below meth c H locs 0 0 (MQ below (z_qI dC dI cy res (wX0 cy h q2 q3 q4 q5 q6 q7 q8 q9 c0 c1 c2 c3 c4 c5 c6 c7 c8 c9 c10 c11) A) ([.ref h, .int a1, .int a2] : List Value).toArray s 0 0 A) (F0 m 2 ls [])) → ∀ (x1 x2 x3 : Int32) (H : Heap) (locs : List Loc) (ls : Array Slot), f_X0_isTakenFromOther_b27 N c0 c3 r2 x1 x2 x3 = some res → va_P (dC, dI) vwCl (wX0 cy h q2 q3 q4 q5 q6 q7 q8 q9 c0 c1 c2 c3 c4 c5 c6 c7 c8 c9 c10 c11) H → va_D A (wX0 cy h q2 q3 q4 q5 q6 q7 q8 q9 c0 c1 c2 c3 c4 c5 c6 c7 c8 c9 c10 c11) → va_S A s.heap H locs → lv_has ls 4 [(0, .ref h), (1, .int x1), (2, .int x2), (3, .int x3)] → W p l e rm_X0_isTakenFromOther s m ([.ref h, .int a1, .int a2] : List Value).toArray below meth c H locs 0 0 (MQ below (z_qI dC dI cy res (wX0 cy h q2 q3 q4 q5 q6 q7 q8 q9 c0 c1 c2 c3 c4 c5 c6 c7 c8 c9 c10 c11) A) ([.ref h, .int a1, .int a2] : List Value).toArray s 0 0 A) (F0 m 27 ls []) := by
    clear hf hl hP hD hS
    intro r2 hr2
    intro x1 x2 x3 H locs ls hf hP hD hS hl
    unfold f_X0_isTakenFromOther_b27 at hf
    refine lv_iinc (v := x3 + (1 : Int32)) (lv' := [(3, .int (x3 + (1 : Int32))), (0, .ref h), (1, .int x1), (2, .int x2)]) hx hb dX0_isTakenFromOther_27 hl (k := 3) rfl rfl (by decide) rfl (fun ls hl => ?_)
    refine lv_goto (tgt := 2) hx hb dX0_isTakenFromOther_30 (by decide) ?_
    exact hr2 x1 x2 (x3 + (1 : Int32)) _ _ _ hf hP hD hS (lv_sub hl [1, 2, 3, 0] rfl)
  have B2 : ∀ n : Nat, ∀ (x1 x2 x3 : Int32) (H : Heap) (locs : List Loc) (ls : Array Slot), f_X0_isTakenFromOther_b2 N c0 c3 n x1 x2 x3 = some res → va_P (dC, dI) vwCl (wX0 cy h q2 q3 q4 q5 q6 q7 q8 q9 c0 c1 c2 c3 c4 c5 c6 c7 c8 c9 c10 c11) H → va_D A (wX0 cy h q2 q3 q4 q5 q6 q7 q8 q9 c0 c1 c2 c3 c4 c5 c6 c7 c8 c9 c10 c11) → va_S A s.heap H locs → lv_has ls 4 [(0, .ref h), (1, .int x1), (2, .int x2), (3, .int x3)] → W p l e rm_X0_isTakenFromOther s m ([.ref h, .int a1, .int a2] : List Value).toArray below meth c H locs 0 0 (MQ below (z_qI dC dI cy res (wX0 cy h q2 q3 q4 q5 q6 q7 q8 q9 c0 c1 c2 c3 c4 c5 c6 c7 c8 c9 c10 c11) A) ([.ref h, .int a1, .int a2] : List Value).toArray s 0 0 A) (F0 m 2 ls []) := by
    clear hf hl hP hD hS
    intro n
    induction n with
    | zero =>
      intro x1 x2 x3 H locs ls hf hP hD hS hl
      rw [f_X0_isTakenFromOther_b2] at hf
      cases hf
    | succ n ih =>
      intro x1 x2 x3 H locs ls hf hP hD hS hl
      rw [f_X0_isTakenFromOther_b2] at hf
      refine lv_iload_n hx hb dX0_isTakenFromOther_2 rfl (lv_at hl 3 rfl) ?_
      refine lv_aload_n hx hb dX0_isTakenFromOther_3 rfl (lv_at hl 0 rfl) ?_
      refine va_get (D := (dC, dI)) (ci := 0) (v := .int c0) (C := RX0) (T := TX0) (N := 12) hx hb hts (by decide +kernel) hown hK hP 0 rfl rfl 0 (by decide) (hts (.fieldLink RX0 38 "GiftLots" "count" "I") (by decide +kernel)) (fun _ h9 => h9) rfl dX0_isTakenFromOther_4 ?_
      refine lv_icmp_ge (tgt := 33) hx hb dX0_isTakenFromOther_7 (by decide) (fun c_7 => ?_) (fun c_7 => ?_)
      · replace hf := (if_pos c_7).symm.trans hf
        refine lv_iconst (v := (0 : Int32)) hx hb dX0_isTakenFromOther_33 (by decide) ?_
        have hres := Option.some.inj hf
        subst hres
        have hP9 := hP.sub (ws' := (wX0 cy h q2 q3 q4 q5 q6 q7 q8 q9 c0 c1 c2 c3 c4 c5 c6 c7 c8 c9 c10 c11)) [0, 1, 2, 3, 4, 5, 6, 7, 8] rfl
        have hD9 := hD.sub (ws' := (wX0 cy h q2 q3 q4 q5 q6 q7 q8 q9 c0 c1 c2 c3 c4 c5 c6 c7 c8 c9 c10 c11)) [0, 1, 2, 3, 4, 5, 6, 7, 8] (by decide) rfl
        have hK9 := hK.sub (tys' := [(cy, .int)]) [0] rfl
        exact W.zret (v := (0 : Int32)) hx hb hr rfl (fun t ht hW => ⟨⟨(0 : Int32), (), rfl, rfl, by rw [ht]; exact hP9, va_K.moved hW.alike hK9, hD9⟩, hS.F ht⟩) hS.2.2 dX0_isTakenFromOther_34
      · replace hf := (if_neg c_7).symm.trans hf
        refine lv_iload_n hx hb dX0_isTakenFromOther_10 rfl (lv_at hl 3 rfl) ?_
        refine lv_iload_n hx hb dX0_isTakenFromOther_11 rfl (lv_at hl 1 rfl) ?_
        refine lv_icmp_eq (tgt := 27) hx hb dX0_isTakenFromOther_12 (by decide) (fun c_12 => ?_) (fun c_12 => ?_)
        · replace hf := (if_pos c_12).symm.trans hf
          exact B27 (f_X0_isTakenFromOther_b2 N c0 c3 n) ih x1 x2 x3 _ _ _ hf hP hD hS (lv_sub hl [0, 1, 2, 3] rfl)
        · replace hf := (if_neg c_12).symm.trans hf
          refine lv_aload_n hx hb dX0_isTakenFromOther_15 rfl (lv_at hl 0 rfl) ?_
          refine va_get (D := (dC, dI)) (ci := 0) (v := .ref q3) (C := RX0) (T := TX0) (N := 12) hx hb hts (by decide +kernel) hown hK hP 0 rfl rfl 3 (by decide) (hts (.fieldLink RX0 13 "GiftLots" "hand" "[I") (by decide +kernel)) (fun _ h9 => h9) rfl dX0_isTakenFromOther_16 ?_
          refine lv_iload_n hx hb dX0_isTakenFromOther_19 rfl (lv_at hl 3 rfl) ?_
          obtain ⟨hi20, hf⟩ := z_gx_some hf
          refine va_iald hx hb hK hP 2 0 rfl rfl hi20 dX0_isTakenFromOther_20 ?_
          refine lv_iload_n hx hb dX0_isTakenFromOther_21 rfl (lv_at hl 2 rfl) ?_
          refine lv_icmp_ne (tgt := 27) hx hb dX0_isTakenFromOther_22 (by decide) (fun c_22 => ?_) (fun c_22 => ?_)
          · replace hf := (if_neg c_22).symm.trans hf
            exact B27 (f_X0_isTakenFromOther_b2 N c0 c3 n) ih x1 x2 x3 _ _ _ hf hP hD hS (lv_sub hl [0, 1, 2, 3] rfl)
          · replace hf := (if_pos c_22).symm.trans hf
            refine lv_iconst (v := (1 : Int32)) hx hb dX0_isTakenFromOther_25 (by decide) ?_
            have hres := Option.some.inj hf
            subst hres
            have hP9 := hP.sub (ws' := (wX0 cy h q2 q3 q4 q5 q6 q7 q8 q9 c0 c1 c2 c3 c4 c5 c6 c7 c8 c9 c10 c11)) [0, 1, 2, 3, 4, 5, 6, 7, 8] rfl
            have hD9 := hD.sub (ws' := (wX0 cy h q2 q3 q4 q5 q6 q7 q8 q9 c0 c1 c2 c3 c4 c5 c6 c7 c8 c9 c10 c11)) [0, 1, 2, 3, 4, 5, 6, 7, 8] (by decide) rfl
            have hK9 := hK.sub (tys' := [(cy, .int)]) [0] rfl
            exact W.zret (v := (1 : Int32)) hx hb hr rfl (fun t ht hW => ⟨⟨(1 : Int32), (), rfl, rfl, by rw [ht]; exact hP9, va_K.moved hW.alike hK9, hD9⟩, hS.F ht⟩) hS.2.2 dX0_isTakenFromOther_26
  unfold f_X0_isTakenFromOther at hf
  refine lv_iconst (v := (0 : Int32)) hx hb dX0_isTakenFromOther_0 (by decide) ?_
  refine lv_istore_n (lv' := [(3, .int (0 : Int32)), (0, .ref h), (1, .int a1), (2, .int a2)]) hx hb dX0_isTakenFromOther_1 rfl hl (by decide) rfl (fun ls hl => ?_)
  exact B2 N a1 a2 (0 : Int32) _ _ _ hf hP hD hS (lv_sub hl [1, 2, 3, 0] rfl)

set_option maxRecDepth 20000 in
theorem ggX0_lay_X0_isOne : GoodIn wsX0_lay wsX0_isOne := goodIn_r _ [6, 7, 12, 13, 14, 15, 16, 17, 18, 19, 20, 21, 22, 23] (by decide +kernel) (by decide +kernel)
set_option maxRecDepth 20000 in
theorem gX0_lay_X0_isOne : GoodIn wsX0_lay (wsV RX0 66 RX0 yX0_isOne wsX0_isOne) := goodIn_app (goodIn_of _ (by decide +kernel)) ggX0_lay_X0_isOne
set_option maxRecDepth 20000 in
theorem ggX0_lay_X0_isTakenFromOther : GoodIn wsX0_lay wsX0_isTakenFromOther := goodIn_r _ [11, 7, 1, 12, 13, 14, 15, 16, 17, 18, 19, 20, 21, 22, 23] (by decide +kernel) (by decide +kernel)
set_option maxRecDepth 20000 in
theorem gX0_lay_X0_isTakenFromOther : GoodIn wsX0_lay (wsV RX0 100 RX0 yX0_isTakenFromOther wsX0_isTakenFromOther) := goodIn_app (goodIn_of _ (by decide +kernel)) ggX0_lay_X0_isTakenFromOther
theorem dX0_lay_0 : decode cX0_lay 0 = .ok (.aload_n 0, 1) := by decide +kernel
theorem dX0_lay_1 : decode cX0_lay 1 = .ok (.iload_n 1, 1) := by decide +kernel
theorem dX0_lay_2 : decode cX0_lay 2 = .ok (.invokevirtual 66, 3) := by decide +kernel
theorem dX0_lay_5 : decode cX0_lay 5 = .ok (.ifCond .eq 21, 3) := by decide +kernel
theorem dX0_lay_8 : decode cX0_lay 8 = .ok (.iload_n 1, 1) := by decide +kernel
theorem dX0_lay_9 : decode cX0_lay 9 = .ok (.iload_n 2, 1) := by decide +kernel
theorem dX0_lay_10 : decode cX0_lay 10 = .ok (.if_icmp .eq 16, 3) := by decide +kernel
theorem dX0_lay_13 : decode cX0_lay 13 = .ok (.iload_n 2, 1) := by decide +kernel
theorem dX0_lay_14 : decode cX0_lay 14 = .ok (.iconst (-1), 1) := by decide +kernel
theorem dX0_lay_15 : decode cX0_lay 15 = .ok (.if_icmp .eq 13, 3) := by decide +kernel
theorem dX0_lay_18 : decode cX0_lay 18 = .ok (.aload_n 0, 1) := by decide +kernel
theorem dX0_lay_19 : decode cX0_lay 19 = .ok (.iload_n 2, 1) := by decide +kernel
theorem dX0_lay_20 : decode cX0_lay 20 = .ok (.invokevirtual 66, 3) := by decide +kernel
theorem dX0_lay_23 : decode cX0_lay 23 = .ok (.ifCond .ne 5, 3) := by decide +kernel
theorem dX0_lay_26 : decode cX0_lay 26 = .ok (.iconst (-1), 1) := by decide +kernel
theorem dX0_lay_27 : decode cX0_lay 27 = .ok (.ireturn, 1) := by decide +kernel
theorem dX0_lay_28 : decode cX0_lay 28 = .ok (.iload_n 2, 1) := by decide +kernel
theorem dX0_lay_29 : decode cX0_lay 29 = .ok (.iconst (-1), 1) := by decide +kernel
theorem dX0_lay_30 : decode cX0_lay 30 = .ok (.if_icmp .eq 15, 3) := by decide +kernel
theorem dX0_lay_33 : decode cX0_lay 33 = .ok (.aload_n 0, 1) := by decide +kernel
theorem dX0_lay_34 : decode cX0_lay 34 = .ok (.iload_n 1, 1) := by decide +kernel
theorem dX0_lay_35 : decode cX0_lay 35 = .ok (.iload_n 2, 1) := by decide +kernel
theorem dX0_lay_36 : decode cX0_lay 36 = .ok (.invokevirtual 100, 3) := by decide +kernel
theorem dX0_lay_39 : decode cX0_lay 39 = .ok (.ifCond .eq 6, 3) := by decide +kernel
theorem dX0_lay_42 : decode cX0_lay 42 = .ok (.bipush (-3), 2) := by decide +kernel
theorem dX0_lay_44 : decode cX0_lay 44 = .ok (.ireturn, 1) := by decide +kernel
theorem dX0_lay_45 : decode cX0_lay 45 = .ok (.aload_n 0, 1) := by decide +kernel
theorem dX0_lay_46 : decode cX0_lay 46 = .ok (.getfield 13, 3) := by decide +kernel
theorem dX0_lay_49 : decode cX0_lay 49 = .ok (.iload_n 1, 1) := by decide +kernel
theorem dX0_lay_50 : decode cX0_lay 50 = .ok (.iaload, 1) := by decide +kernel
theorem dX0_lay_51 : decode cX0_lay 51 = .ok (.istore_n 3, 1) := by decide +kernel
theorem dX0_lay_52 : decode cX0_lay 52 = .ok (.aload_n 0, 1) := by decide +kernel
theorem dX0_lay_53 : decode cX0_lay 53 = .ok (.getfield 13, 3) := by decide +kernel
theorem dX0_lay_56 : decode cX0_lay 56 = .ok (.iload_n 1, 1) := by decide +kernel
theorem dX0_lay_57 : decode cX0_lay 57 = .ok (.iload_n 2, 1) := by decide +kernel
theorem dX0_lay_58 : decode cX0_lay 58 = .ok (.iconst (-1), 1) := by decide +kernel
theorem dX0_lay_59 : decode cX0_lay 59 = .ok (.if_icmp .ne 8, 3) := by decide +kernel
theorem dX0_lay_62 : decode cX0_lay 62 = .ok (.bipush (-6), 2) := by decide +kernel
theorem dX0_lay_64 : decode cX0_lay 64 = .ok (.goto 4, 3) := by decide +kernel
theorem dX0_lay_67 : decode cX0_lay 67 = .ok (.iload_n 2, 1) := by decide +kernel
theorem dX0_lay_68 : decode cX0_lay 68 = .ok (.iastore, 1) := by decide +kernel
theorem dX0_lay_69 : decode cX0_lay 69 = .ok (.iload_n 3, 1) := by decide +kernel
theorem dX0_lay_70 : decode cX0_lay 70 = .ok (.ireturn, 1) := by decide +kernel
abbrev rm_X0_lay : Room := { frames := 1, cells := 0, slots := 0, locals := 23 }
set_option maxHeartbeats 4000000 in
set_option maxRecDepth 100000 in
theorem c_X0_lay (N : Nat) (l : Launch) (dC : Nat → ClassId) (dI : Nat → Nat → Nat) (cy : ClassId) (h q2 q3 q4 q5 q6 q7 q8 q9 : Nat) (sz : Nat) (c0 : Int32) (c1 : Int32) (c2 : Nat → Int32) (c3 : Nat → Int32) (c4 : Nat → Int32) (c5 : Nat → Int32) (c6 : Nat → Int32) (c7 : Nat → Int32) (c8 : Nat → Int32) (c9 : Nat → Int32) (c10 : Int32) (c11 : Int32) (a1 a2 : Int32) (res : Int32 × (Nat → Int32)) (hf : f_X0_lay N a1 a2 c0 c3 = some res) : Met l yX0_lay wsX0_lay rm_X0_lay (va_Pc [.ref h, .int a1, .int a2] (fun U => U.heap.size = sz ∧ va_P (dC, dI) vwCl (wX0 cy h q2 q3 q4 q5 q6 q7 q8 q9 c0 c1 c2 c3 c4 c5 c6 c7 c8 c9 c10 c11) U.heap ∧ va_K (dC, dI) vwCl [(cy, .int)] U ∧ va_D (fun _ => True) (wX0 cy h q2 q3 q4 q5 q6 q7 q8 q9 c0 c1 c2 c3 c4 c5 c6 c7 c8 c9 c10 c11))) (z_qI dC dI cy res.1 (wX0 cy h q2 q3 q4 q5 q6 q7 q8 q9 c0 c1 c2 res.2 c4 c5 c6 c7 c8 c9 c10 c11) (va_A (wX0 cy h q2 q3 q4 q5 q6 q7 q8 q9 c0 c1 c2 c3 c4 c5 c6 c7 c8 c9 c10 c11) sz)) 0 0 (va_A (wX0 cy h q2 q3 q4 q5 q6 q7 q8 q9 c0 c1 c2 c3 c4 c5 c6 c7 c8 c9 c10 c11) sz) := by
  refine Met.ofW (cc := cX0_lay) (maxL := 4) (ret := (some .int)) (by decide) rfl ?_
  intro p e s m args below meth c s₁ B hml hv
  obtain ⟨rfl, hsz, hP, hK, hD0⟩ := hv
  have hx := B.exec
  have hb := B.bytes
  have hr := B.returns
  have hts := atoms_spec (ws := wsX0_lay) B.pre
  have hown : s.vm.findClass RX0 = some m.cls := findClass_of_methodNamed B.named
  have hlocks := B.notSynchronized
  subst hsz
  have hD := hD0.self (sz := s.heap.size)
  generalize hAe : va_A (wX0 cy h q2 q3 q4 q5 q6 q7 q8 q9 c0 c1 c2 c3 c4 c5 c6 c7 c8 c9 c10 c11) s.heap.size = A at hD ⊢
  have hA : ∀ q : Nat, s.heap.size ≤ q → A q := fun q h => by rw [← hAe]; exact Or.inr h
  have hS : va_S A s.heap s.heap [] := va_S.rf
  have hP : va_P (dC, dI) vwCl (wX0 cy h q2 q3 q4 q5 q6 q7 q8 q9 c0 c1 c2 c3 c4 c5 c6 c7 c8 c9 c10 c11) s.heap := hP
  have hl := lv_entry ([.ref h, .int a1, .int a2]) (n := 4) (Nat.le_of_ble_eq_true rfl)
  rw [lg_entry_eq]
  generalize (lg_sl ([.ref h, .int a1, .int a2]) ++ List.replicate (4 - (lg_sl ([.ref h, .int a1, .int a2])).length) Slot.unset).toArray = ls at hl ⊢
  have hl : lv_has ls 4 [(0, .ref h), (1, .int a1), (2, .int a2)] := hl
  have B68 : ∀ (x3 t1 t2 : Int32) (c3 : Nat → Int32) (H : Heap) (locs : List Loc) (ls : Array Slot), f_X0_lay_b68 N c0 x3 t1 t2 c3 = some res → va_P (dC, dI) vwCl (wX0 cy h q2 q3 q4 q5 q6 q7 q8 q9 c0 c1 c2 c3 c4 c5 c6 c7 c8 c9 c10 c11) H → va_D A (wX0 cy h q2 q3 q4 q5 q6 q7 q8 q9 c0 c1 c2 c3 c4 c5 c6 c7 c8 c9 c10 c11) → va_S A s.heap H locs → lv_has ls 4 [(0, .ref h), (3, .int x3)] → W p l e rm_X0_lay s m ([.ref h, .int a1, .int a2] : List Value).toArray below meth c H locs 0 0 (MQ below (z_qI dC dI cy res.1 (wX0 cy h q2 q3 q4 q5 q6 q7 q8 q9 c0 c1 c2 res.2 c4 c5 c6 c7 c8 c9 c10 c11) A) ([.ref h, .int a1, .int a2] : List Value).toArray s 0 0 A) (F0 m 68 ls [.int t2, .int t1, .ref q3]) := by
    clear hf hl hP hD hS
    intro x3 t1 t2 c3 H locs ls hf hP hD hS hl
    unfold f_X0_lay_b68 at hf
    obtain ⟨hi68, hf⟩ := z_gx_some hf
    refine va_iast hx hb hK hP hD hS 2 0 rfl rfl hi68 dX0_lay_68 (fun H locs hP hD hS => ?_)
    have hP : va_P (dC, dI) vwCl (wX0 cy h q2 q3 q4 q5 q6 q7 q8 q9 c0 c1 c2 (upd c3 (t1).toNatClampNeg t2) c4 c5 c6 c7 c8 c9 c10 c11) H := hP
    have hD : va_D A (wX0 cy h q2 q3 q4 q5 q6 q7 q8 q9 c0 c1 c2 (upd c3 (t1).toNatClampNeg t2) c4 c5 c6 c7 c8 c9 c10 c11) := hD
    refine lv_iload_n hx hb dX0_lay_69 rfl (lv_at hl 1 rfl) ?_
    have hres := Option.some.inj hf
    subst hres
    have hP9 := hP.sub (ws' := (wX0 cy h q2 q3 q4 q5 q6 q7 q8 q9 c0 c1 c2 (upd c3 (t1).toNatClampNeg t2) c4 c5 c6 c7 c8 c9 c10 c11)) [0, 1, 2, 3, 4, 5, 6, 7, 8] rfl
    have hD9 := hD.sub (ws' := (wX0 cy h q2 q3 q4 q5 q6 q7 q8 q9 c0 c1 c2 (upd c3 (t1).toNatClampNeg t2) c4 c5 c6 c7 c8 c9 c10 c11)) [0, 1, 2, 3, 4, 5, 6, 7, 8] (by decide) rfl
    have hK9 := hK.sub (tys' := [(cy, .int)]) [0] rfl
    exact W.iret (v := x3) hx hb hr (fun t ht hW => ⟨⟨x3, (), rfl, rfl, by rw [ht]; exact hP9, va_K.moved hW.alike hK9, hD9⟩, hS.F ht⟩) hS.2.2 dX0_lay_70
  have B45 : ∀ (x1 x2 : Int32) (c3 : Nat → Int32) (H : Heap) (locs : List Loc) (ls : Array Slot), f_X0_lay_b45 N c0 x1 x2 c3 = some res → va_P (dC, dI) vwCl (wX0 cy h q2 q3 q4 q5 q6 q7 q8 q9 c0 c1 c2 c3 c4 c5 c6 c7 c8 c9 c10 c11) H → va_D A (wX0 cy h q2 q3 q4 q5 q6 q7 q8 q9 c0 c1 c2 c3 c4 c5 c6 c7 c8 c9 c10 c11) → va_S A s.heap H locs → lv_has ls 4 [(0, .ref h), (1, .int x1), (2, .int x2)] → W p l e rm_X0_lay s m ([.ref h, .int a1, .int a2] : List Value).toArray below meth c H locs 0 0 (MQ below (z_qI dC dI cy res.1 (wX0 cy h q2 q3 q4 q5 q6 q7 q8 q9 c0 c1 c2 res.2 c4 c5 c6 c7 c8 c9 c10 c11) A) ([.ref h, .int a1, .int a2] : List Value).toArray s 0 0 A) (F0 m 45 ls []) := by
    clear hf hl hP hD hS
    intro x1 x2 c3 H locs ls hf hP hD hS hl
    unfold f_X0_lay_b45 at hf
    refine lv_aload_n hx hb dX0_lay_45 rfl (lv_at hl 0 rfl) ?_
    refine va_get (D := (dC, dI)) (ci := 0) (v := .ref q3) (C := RX0) (T := TX0) (N := 12) hx hb hts (by decide +kernel) hown hK hP 0 rfl rfl 3 (by decide) (hts (.fieldLink RX0 13 "GiftLots" "hand" "[I") (by decide +kernel)) (fun _ h9 => h9) rfl dX0_lay_46 ?_
    refine lv_iload_n hx hb dX0_lay_49 rfl (lv_at hl 1 rfl) ?_
    obtain ⟨hi50, hf⟩ := z_gx_some hf
    refine va_iald hx hb hK hP 2 0 rfl rfl hi50 dX0_lay_50 ?_
    refine lv_istore_n (lv' := [(3, .int (c3 (x1).toNatClampNeg)), (0, .ref h), (1, .int x1), (2, .int x2)]) hx hb dX0_lay_51 rfl hl (by decide) rfl (fun ls hl => ?_)
    refine lv_aload_n hx hb dX0_lay_52 rfl (lv_at hl 1 rfl) ?_
    refine va_get (D := (dC, dI)) (ci := 0) (v := .ref q3) (C := RX0) (T := TX0) (N := 12) hx hb hts (by decide +kernel) hown hK hP 0 rfl rfl 3 (by decide) (hts (.fieldLink RX0 13 "GiftLots" "hand" "[I") (by decide +kernel)) (fun _ h9 => h9) rfl dX0_lay_53 ?_
    refine lv_iload_n hx hb dX0_lay_56 rfl (lv_at hl 2 rfl) ?_
    refine lv_iload_n hx hb dX0_lay_57 rfl (lv_at hl 3 rfl) ?_
    refine lv_iconst (v := (-1 : Int32)) hx hb dX0_lay_58 (by decide) ?_
    refine lv_icmp_ne (tgt := 67) hx hb dX0_lay_59 (by decide) (fun c_59 => ?_) (fun c_59 => ?_)
    · replace hf := (if_neg c_59).symm.trans hf
      refine lv_iload_n hx hb dX0_lay_67 rfl (lv_at hl 3 rfl) ?_
      exact B68 (c3 (x1).toNatClampNeg) x1 x2 c3 _ _ _ hf hP hD hS (lv_sub hl [1, 0] rfl)
    · replace hf := (if_pos c_59).symm.trans hf
      refine lv_bipush (v := (-6 : Int32)) hx hb dX0_lay_62 (by decide) ?_
      refine lv_goto (tgt := 68) hx hb dX0_lay_64 (by decide) ?_
      exact B68 (c3 (x1).toNatClampNeg) x1 (-6 : Int32) c3 _ _ _ hf hP hD hS (lv_sub hl [1, 0] rfl)
  have B28 : ∀ (x1 x2 : Int32) (c3 : Nat → Int32) (H : Heap) (locs : List Loc) (ls : Array Slot), f_X0_lay_b28 N c0 x1 x2 c3 = some res → va_P (dC, dI) vwCl (wX0 cy h q2 q3 q4 q5 q6 q7 q8 q9 c0 c1 c2 c3 c4 c5 c6 c7 c8 c9 c10 c11) H → va_D A (wX0 cy h q2 q3 q4 q5 q6 q7 q8 q9 c0 c1 c2 c3 c4 c5 c6 c7 c8 c9 c10 c11) → va_S A s.heap H locs → lv_has ls 4 [(0, .ref h), (1, .int x1), (2, .int x2)] → W p l e rm_X0_lay s m ([.ref h, .int a1, .int a2] : List Value).toArray below meth c H locs 0 0 (MQ below (z_qI dC dI cy res.1 (wX0 cy h q2 q3 q4 q5 q6 q7 q8 q9 c0 c1 c2 res.2 c4 c5 c6 c7 c8 c9 c10 c11) A) ([.ref h, .int a1, .int a2] : List Value).toArray s 0 0 A) (F0 m 28 ls []) := by
    clear hf hl hP hD hS
    intro x1 x2 c3 H locs ls hf hP hD hS hl
    unfold f_X0_lay_b28 at hf
    refine lv_iload_n hx hb dX0_lay_28 rfl (lv_at hl 2 rfl) ?_
    refine lv_iconst (v := (-1 : Int32)) hx hb dX0_lay_29 (by decide) ?_
    refine lv_icmp_eq (tgt := 45) hx hb dX0_lay_30 (by decide) (fun c_30 => ?_) (fun c_30 => ?_)
    · replace hf := (if_pos c_30).symm.trans hf
      exact B45 x1 x2 c3 _ _ _ hf hP hD hS (lv_sub hl [0, 1, 2] rfl)
    · replace hf := (if_neg c_30).symm.trans hf
      refine lv_aload_n hx hb dX0_lay_33 rfl (lv_at hl 0 rfl) ?_
      refine lv_iload_n hx hb dX0_lay_34 rfl (lv_at hl 1 rfl) ?_
      refine lv_iload_n hx hb dX0_lay_35 rfl (lv_at hl 2 rfl) ?_
      obtain ⟨u36, hu36, hf⟩ := z_ob_some hf
      have hPc := hP.sub (ws' := (wX0 cy h q2 q3 q4 q5 q6 q7 q8 q9 c0 c1 c2 c3 c4 c5 c6 c7 c8 c9 c10 c11)) [0, 1, 2, 3, 4, 5, 6, 7, 8] rfl
      have hDc := hD.sub (ws' := (wX0 cy h q2 q3 q4 q5 q6 q7 q8 q9 c0 c1 c2 c3 c4 c5 c6 c7 c8 c9 c10 c11)) [0, 1, 2, 3, 4, 5, 6, 7, 8] (by decide) rfl
      have hKc := hK.sub (tys' := [(cy, .int)]) [0] rfl
      have hFc := va_free (wc := (wX0 cy h q2 q3 q4 q5 q6 q7 q8 q9 c0 c1 c2 c3 c4 c5 c6 c7 c8 c9 c10 c11)) hD hS hA [0, 1, 2, 3, 4, 5, 6, 7, 8] rfl
      refine va_calli (va_runV (As := [.int x1, .int x2]) (rest := []) ⟨hx, hb, hml, hown, hts⟩ (c_X0_isTakenFromOther N l dC dI cy h q2 q3 q4 q5 q6 q7 q8 q9 H.size c0 c1 c2 c3 c4 c5 c6 c7 c8 c9 c10 c11 x1 x2 u36 hu36) (cwV 2 hts gX0_lay_X0_isTakenFromOther rfl rfl rfl (by decide +kernel) ⟨Nat.le_of_ble_eq_true rfl, Nat.le_of_ble_eq_true rfl⟩) ⟨fun a U g mk q => by obtain ⟨q0, q1, qP, qK, qD⟩ := q; exact ⟨q0, q1, qP, va_K.moved (u := U) (U := U.calling g mk a) (Vm.Alike.refl U.vm) qK, qD⟩, va_recv hKc hPc (ci := 0) (q0 := 0) rfl rfl, fun U hU hW => ⟨rfl, by rw [hU], by rw [hU]; exact hPc, va_K.moved hW.alike hKc, hDc.weaken (fun _ _ _ _ => trivial)⟩⟩ rfl rfl hl.1 rfl (lv_room (Nat.le_of_ble_eq_true rfl)) dX0_lay_36 ⟨Nat.zero_le _, Nat.zero_le _⟩) hS (fun q _ h => hFc q h) hFc (fun r_36 uu_ t H1 locs ht hvm hw hB hz1 hk1 hS => ?_)
      replace hw := hw.symm
      subst hw
      obtain ⟨hP1, -, hD1⟩ := hB
      rw [ht] at hP1
      obtain ⟨hP, hD⟩ := va_join (wr := []) (w1 := (wX0 cy h q2 q3 q4 q5 q6 q7 q8 q9 c0 c1 c2 c3 c4 c5 c6 c7 c8 c9 c10 c11)) hP hD [0, 1, 2, 3, 4, 5, 6, 7, 8] [] rfl rfl (by decide) (by decide) hk1 hFc hP1 hD1
      clear hk1 hz1 hP1 hD1 ht hPc hDc hFc
      generalize H1 = H at hP hS ⊢
      have hP : va_P (dC, dI) vwCl (wX0 cy h q2 q3 q4 q5 q6 q7 q8 q9 c0 c1 c2 c3 c4 c5 c6 c7 c8 c9 c10 c11) H := hP
      have hD : va_D A (wX0 cy h q2 q3 q4 q5 q6 q7 q8 q9 c0 c1 c2 c3 c4 c5 c6 c7 c8 c9 c10 c11) := hD
      refine lv_if_eq (tgt := 45) hx hb dX0_lay_39 (by decide) (fun c_39 => ?_) (fun c_39 => ?_)
      · replace hf := (if_pos c_39).symm.trans hf
        exact B45 x1 x2 c3 _ _ _ hf hP hD hS (lv_sub hl [0, 1, 2] rfl)
      · replace hf := (if_neg c_39).symm.trans hf
        refine lv_bipush (v := (-3 : Int32)) hx hb dX0_lay_42 (by decide) ?_
        have hres := Option.some.inj hf
        subst hres
        have hP9 := hP.sub (ws' := (wX0 cy h q2 q3 q4 q5 q6 q7 q8 q9 c0 c1 c2 c3 c4 c5 c6 c7 c8 c9 c10 c11)) [0, 1, 2, 3, 4, 5, 6, 7, 8] rfl
        have hD9 := hD.sub (ws' := (wX0 cy h q2 q3 q4 q5 q6 q7 q8 q9 c0 c1 c2 c3 c4 c5 c6 c7 c8 c9 c10 c11)) [0, 1, 2, 3, 4, 5, 6, 7, 8] (by decide) rfl
        have hK9 := hK.sub (tys' := [(cy, .int)]) [0] rfl
        exact W.iret (v := (-3 : Int32)) hx hb hr (fun t ht hW => ⟨⟨(-3 : Int32), (), rfl, rfl, by rw [ht]; exact hP9, va_K.moved hW.alike hK9, hD9⟩, hS.F ht⟩) hS.2.2 dX0_lay_44
  unfold f_X0_lay at hf
  refine lv_aload_n hx hb dX0_lay_0 rfl (lv_at hl 0 rfl) ?_
  refine lv_iload_n hx hb dX0_lay_1 rfl (lv_at hl 1 rfl) ?_
  obtain ⟨u2, hu2, hf⟩ := z_ob_some hf
  have hPc := hP.sub (ws' := (wX0 cy h q2 q3 q4 q5 q6 q7 q8 q9 c0 c1 c2 c3 c4 c5 c6 c7 c8 c9 c10 c11)) [0, 1, 2, 3, 4, 5, 6, 7, 8] rfl
  have hDc := hD.sub (ws' := (wX0 cy h q2 q3 q4 q5 q6 q7 q8 q9 c0 c1 c2 c3 c4 c5 c6 c7 c8 c9 c10 c11)) [0, 1, 2, 3, 4, 5, 6, 7, 8] (by decide) rfl
  have hKc := hK.sub (tys' := [(cy, .int)]) [0] rfl
  have hFc := va_free (wc := (wX0 cy h q2 q3 q4 q5 q6 q7 q8 q9 c0 c1 c2 c3 c4 c5 c6 c7 c8 c9 c10 c11)) hD hS hA [0, 1, 2, 3, 4, 5, 6, 7, 8] rfl
  refine va_calli (va_runV (As := [.int a1]) (rest := []) ⟨hx, hb, hml, hown, hts⟩ (c_X0_isOne N l dC dI cy h q2 q3 q4 q5 q6 q7 q8 q9 s.heap.size c0 c1 c2 c3 c4 c5 c6 c7 c8 c9 c10 c11 a1 u2 hu2) (cwV 1 hts gX0_lay_X0_isOne rfl rfl rfl (by decide +kernel) ⟨Nat.le_of_ble_eq_true rfl, Nat.le_of_ble_eq_true rfl⟩) ⟨fun a U g mk q => by obtain ⟨q0, q1, qP, qK, qD⟩ := q; exact ⟨q0, q1, qP, va_K.moved (u := U) (U := U.calling g mk a) (Vm.Alike.refl U.vm) qK, qD⟩, va_recv hKc hPc (ci := 0) (q0 := 0) rfl rfl, fun U hU hW => ⟨rfl, by rw [hU], by rw [hU]; exact hPc, va_K.moved hW.alike hKc, hDc.weaken (fun _ _ _ _ => trivial)⟩⟩ rfl rfl hl.1 rfl (lv_room (Nat.le_of_ble_eq_true rfl)) dX0_lay_2 ⟨Nat.zero_le _, Nat.zero_le _⟩) hS (fun q _ h => hFc q h) hFc (fun r_2 uu_ t H1 locs ht hvm hw hB hz1 hk1 hS => ?_)
  replace hw := hw.symm
  subst hw
  obtain ⟨hP1, -, hD1⟩ := hB
  rw [ht] at hP1
  obtain ⟨hP, hD⟩ := va_join (wr := []) (w1 := (wX0 cy h q2 q3 q4 q5 q6 q7 q8 q9 c0 c1 c2 c3 c4 c5 c6 c7 c8 c9 c10 c11)) hP hD [0, 1, 2, 3, 4, 5, 6, 7, 8] [] rfl rfl (by decide) (by decide) hk1 hFc hP1 hD1
  clear hk1 hz1 hP1 hD1 ht hPc hDc hFc
  generalize H1 = H at hP hS ⊢
  have hP : va_P (dC, dI) vwCl (wX0 cy h q2 q3 q4 q5 q6 q7 q8 q9 c0 c1 c2 c3 c4 c5 c6 c7 c8 c9 c10 c11) H := hP
  have hD : va_D A (wX0 cy h q2 q3 q4 q5 q6 q7 q8 q9 c0 c1 c2 c3 c4 c5 c6 c7 c8 c9 c10 c11) := hD
  refine lv_if_eq (tgt := 26) hx hb dX0_lay_5 (by decide) (fun c_5 => ?_) (fun c_5 => ?_)
  · replace hf := (if_pos c_5).symm.trans hf
    refine lv_iconst (v := (-1 : Int32)) hx hb dX0_lay_26 (by decide) ?_
    have hres := Option.some.inj hf
    subst hres
    have hP9 := hP.sub (ws' := (wX0 cy h q2 q3 q4 q5 q6 q7 q8 q9 c0 c1 c2 c3 c4 c5 c6 c7 c8 c9 c10 c11)) [0, 1, 2, 3, 4, 5, 6, 7, 8] rfl
    have hD9 := hD.sub (ws' := (wX0 cy h q2 q3 q4 q5 q6 q7 q8 q9 c0 c1 c2 c3 c4 c5 c6 c7 c8 c9 c10 c11)) [0, 1, 2, 3, 4, 5, 6, 7, 8] (by decide) rfl
    have hK9 := hK.sub (tys' := [(cy, .int)]) [0] rfl
    exact W.iret (v := (-1 : Int32)) hx hb hr (fun t ht hW => ⟨⟨(-1 : Int32), (), rfl, rfl, by rw [ht]; exact hP9, va_K.moved hW.alike hK9, hD9⟩, hS.F ht⟩) hS.2.2 dX0_lay_27
  · replace hf := (if_neg c_5).symm.trans hf
    refine lv_iload_n hx hb dX0_lay_8 rfl (lv_at hl 1 rfl) ?_
    refine lv_iload_n hx hb dX0_lay_9 rfl (lv_at hl 2 rfl) ?_
    refine lv_icmp_eq (tgt := 26) hx hb dX0_lay_10 (by decide) (fun c_10 => ?_) (fun c_10 => ?_)
    · replace hf := (if_pos c_10).symm.trans hf
      refine lv_iconst (v := (-1 : Int32)) hx hb dX0_lay_26 (by decide) ?_
      have hres := Option.some.inj hf
      subst hres
      have hP9 := hP.sub (ws' := (wX0 cy h q2 q3 q4 q5 q6 q7 q8 q9 c0 c1 c2 c3 c4 c5 c6 c7 c8 c9 c10 c11)) [0, 1, 2, 3, 4, 5, 6, 7, 8] rfl
      have hD9 := hD.sub (ws' := (wX0 cy h q2 q3 q4 q5 q6 q7 q8 q9 c0 c1 c2 c3 c4 c5 c6 c7 c8 c9 c10 c11)) [0, 1, 2, 3, 4, 5, 6, 7, 8] (by decide) rfl
      have hK9 := hK.sub (tys' := [(cy, .int)]) [0] rfl
      exact W.iret (v := (-1 : Int32)) hx hb hr (fun t ht hW => ⟨⟨(-1 : Int32), (), rfl, rfl, by rw [ht]; exact hP9, va_K.moved hW.alike hK9, hD9⟩, hS.F ht⟩) hS.2.2 dX0_lay_27
    · replace hf := (if_neg c_10).symm.trans hf
      refine lv_iload_n hx hb dX0_lay_13 rfl (lv_at hl 2 rfl) ?_
      refine lv_iconst (v := (-1 : Int32)) hx hb dX0_lay_14 (by decide) ?_
      refine lv_icmp_eq (tgt := 28) hx hb dX0_lay_15 (by decide) (fun c_15 => ?_) (fun c_15 => ?_)
      · replace hf := (if_pos c_15).symm.trans hf
        exact B28 a1 a2 c3 _ _ _ hf hP hD hS (lv_sub hl [0, 1, 2] rfl)
      · replace hf := (if_neg c_15).symm.trans hf
        refine lv_aload_n hx hb dX0_lay_18 rfl (lv_at hl 0 rfl) ?_
        refine lv_iload_n hx hb dX0_lay_19 rfl (lv_at hl 2 rfl) ?_
        obtain ⟨u20, hu20, hf⟩ := z_ob_some hf
        have hPc := hP.sub (ws' := (wX0 cy h q2 q3 q4 q5 q6 q7 q8 q9 c0 c1 c2 c3 c4 c5 c6 c7 c8 c9 c10 c11)) [0, 1, 2, 3, 4, 5, 6, 7, 8] rfl
        have hDc := hD.sub (ws' := (wX0 cy h q2 q3 q4 q5 q6 q7 q8 q9 c0 c1 c2 c3 c4 c5 c6 c7 c8 c9 c10 c11)) [0, 1, 2, 3, 4, 5, 6, 7, 8] (by decide) rfl
        have hKc := hK.sub (tys' := [(cy, .int)]) [0] rfl
        have hFc := va_free (wc := (wX0 cy h q2 q3 q4 q5 q6 q7 q8 q9 c0 c1 c2 c3 c4 c5 c6 c7 c8 c9 c10 c11)) hD hS hA [0, 1, 2, 3, 4, 5, 6, 7, 8] rfl
        refine va_calli (va_runV (As := [.int a2]) (rest := []) ⟨hx, hb, hml, hown, hts⟩ (c_X0_isOne N l dC dI cy h q2 q3 q4 q5 q6 q7 q8 q9 H.size c0 c1 c2 c3 c4 c5 c6 c7 c8 c9 c10 c11 a2 u20 hu20) (cwV 1 hts gX0_lay_X0_isOne rfl rfl rfl (by decide +kernel) ⟨Nat.le_of_ble_eq_true rfl, Nat.le_of_ble_eq_true rfl⟩) ⟨fun a U g mk q => by obtain ⟨q0, q1, qP, qK, qD⟩ := q; exact ⟨q0, q1, qP, va_K.moved (u := U) (U := U.calling g mk a) (Vm.Alike.refl U.vm) qK, qD⟩, va_recv hKc hPc (ci := 0) (q0 := 0) rfl rfl, fun U hU hW => ⟨rfl, by rw [hU], by rw [hU]; exact hPc, va_K.moved hW.alike hKc, hDc.weaken (fun _ _ _ _ => trivial)⟩⟩ rfl rfl hl.1 rfl (lv_room (Nat.le_of_ble_eq_true rfl)) dX0_lay_20 ⟨Nat.zero_le _, Nat.zero_le _⟩) hS (fun q _ h => hFc q h) hFc (fun r_20 uu_ t H1 locs ht hvm hw hB hz1 hk1 hS => ?_)
        replace hw := hw.symm
        subst hw
        obtain ⟨hP1, -, hD1⟩ := hB
        rw [ht] at hP1
        obtain ⟨hP, hD⟩ := va_join (wr := []) (w1 := (wX0 cy h q2 q3 q4 q5 q6 q7 q8 q9 c0 c1 c2 c3 c4 c5 c6 c7 c8 c9 c10 c11)) hP hD [0, 1, 2, 3, 4, 5, 6, 7, 8] [] rfl rfl (by decide) (by decide) hk1 hFc hP1 hD1
        clear hk1 hz1 hP1 hD1 ht hPc hDc hFc
        generalize H1 = H at hP hS ⊢
        have hP : va_P (dC, dI) vwCl (wX0 cy h q2 q3 q4 q5 q6 q7 q8 q9 c0 c1 c2 c3 c4 c5 c6 c7 c8 c9 c10 c11) H := hP
        have hD : va_D A (wX0 cy h q2 q3 q4 q5 q6 q7 q8 q9 c0 c1 c2 c3 c4 c5 c6 c7 c8 c9 c10 c11) := hD
        refine lv_if_ne (tgt := 28) hx hb dX0_lay_23 (by decide) (fun c_23 => ?_) (fun c_23 => ?_)
        · replace hf := (if_neg c_23).symm.trans hf
          exact B28 a1 a2 c3 _ _ _ hf hP hD hS (lv_sub hl [0, 1, 2] rfl)
        · replace hf := (if_pos c_23).symm.trans hf
          refine lv_iconst (v := (-1 : Int32)) hx hb dX0_lay_26 (by decide) ?_
          have hres := Option.some.inj hf
          subst hres
          have hP9 := hP.sub (ws' := (wX0 cy h q2 q3 q4 q5 q6 q7 q8 q9 c0 c1 c2 c3 c4 c5 c6 c7 c8 c9 c10 c11)) [0, 1, 2, 3, 4, 5, 6, 7, 8] rfl
          have hD9 := hD.sub (ws' := (wX0 cy h q2 q3 q4 q5 q6 q7 q8 q9 c0 c1 c2 c3 c4 c5 c6 c7 c8 c9 c10 c11)) [0, 1, 2, 3, 4, 5, 6, 7, 8] (by decide) rfl
          have hK9 := hK.sub (tys' := [(cy, .int)]) [0] rfl
          exact W.iret (v := (-1 : Int32)) hx hb hr (fun t ht hW => ⟨⟨(-1 : Int32), (), rfl, rfl, by rw [ht]; exact hP9, va_K.moved hW.alike hK9, hD9⟩, hS.F ht⟩) hS.2.2 dX0_lay_27

set_option maxRecDepth 20000 in
theorem ggX0_laid_X0_isOne : GoodIn wsX0_laid wsX0_isOne := goodIn_r _ [6, 7, 8, 9, 10, 11, 12, 13, 14, 15, 16, 17, 18, 19] (by decide +kernel) (by decide +kernel)
set_option maxRecDepth 20000 in
theorem gX0_laid_X0_isOne : GoodIn wsX0_laid (wsV RX0 66 RX0 yX0_isOne wsX0_isOne) := goodIn_app (goodIn_of _ (by decide +kernel)) ggX0_laid_X0_isOne
theorem dX0_laid_0 : decode cX0_laid 0 = .ok (.aload_n 0, 1) := by decide +kernel
theorem dX0_laid_1 : decode cX0_laid 1 = .ok (.iload_n 1, 1) := by decide +kernel
theorem dX0_laid_2 : decode cX0_laid 2 = .ok (.invokevirtual 66, 3) := by decide +kernel
theorem dX0_laid_5 : decode cX0_laid 5 = .ok (.ifCond .eq 12, 3) := by decide +kernel
theorem dX0_laid_8 : decode cX0_laid 8 = .ok (.aload_n 0, 1) := by decide +kernel
theorem dX0_laid_9 : decode cX0_laid 9 = .ok (.getfield 13, 3) := by decide +kernel
theorem dX0_laid_12 : decode cX0_laid 12 = .ok (.iload_n 1, 1) := by decide +kernel
theorem dX0_laid_13 : decode cX0_laid 13 = .ok (.iaload, 1) := by decide +kernel
theorem dX0_laid_14 : decode cX0_laid 14 = .ok (.goto 4, 3) := by decide +kernel
theorem dX0_laid_17 : decode cX0_laid 17 = .ok (.iconst (-1), 1) := by decide +kernel
theorem dX0_laid_18 : decode cX0_laid 18 = .ok (.ireturn, 1) := by decide +kernel
abbrev rm_X0_laid : Room := { frames := 1, cells := 0, slots := 0, locals := 21 }
set_option maxHeartbeats 4000000 in
set_option maxRecDepth 100000 in
theorem c_X0_laid (N : Nat) (l : Launch) (dC : Nat → ClassId) (dI : Nat → Nat → Nat) (cy : ClassId) (h q2 q3 q4 q5 q6 q7 q8 q9 : Nat) (sz : Nat) (c0 : Int32) (c1 : Int32) (c2 : Nat → Int32) (c3 : Nat → Int32) (c4 : Nat → Int32) (c5 : Nat → Int32) (c6 : Nat → Int32) (c7 : Nat → Int32) (c8 : Nat → Int32) (c9 : Nat → Int32) (c10 : Int32) (c11 : Int32) (a1 : Int32) (res : Int32) (hf : f_X0_laid N a1 c0 c3 = some res) : Met l yX0_laid wsX0_laid rm_X0_laid (va_Pc [.ref h, .int a1] (fun U => U.heap.size = sz ∧ va_P (dC, dI) vwCl (wX0 cy h q2 q3 q4 q5 q6 q7 q8 q9 c0 c1 c2 c3 c4 c5 c6 c7 c8 c9 c10 c11) U.heap ∧ va_K (dC, dI) vwCl [(cy, .int)] U ∧ va_D (fun _ => True) (wX0 cy h q2 q3 q4 q5 q6 q7 q8 q9 c0 c1 c2 c3 c4 c5 c6 c7 c8 c9 c10 c11))) (z_qI dC dI cy res (wX0 cy h q2 q3 q4 q5 q6 q7 q8 q9 c0 c1 c2 c3 c4 c5 c6 c7 c8 c9 c10 c11) (va_A (wX0 cy h q2 q3 q4 q5 q6 q7 q8 q9 c0 c1 c2 c3 c4 c5 c6 c7 c8 c9 c10 c11) sz)) 0 0 (va_A (wX0 cy h q2 q3 q4 q5 q6 q7 q8 q9 c0 c1 c2 c3 c4 c5 c6 c7 c8 c9 c10 c11) sz) := by
  refine Met.ofW (cc := cX0_laid) (maxL := 2) (ret := (some .int)) (by decide) rfl ?_
  intro p e s m args below meth c s₁ B hml hv
  obtain ⟨rfl, hsz, hP, hK, hD0⟩ := hv
  have hx := B.exec
  have hb := B.bytes
  have hr := B.returns
  have hts := atoms_spec (ws := wsX0_laid) B.pre
  have hown : s.vm.findClass RX0 = some m.cls := findClass_of_methodNamed B.named
  have hlocks := B.notSynchronized
  subst hsz
  have hD := hD0.self (sz := s.heap.size)
  generalize hAe : va_A (wX0 cy h q2 q3 q4 q5 q6 q7 q8 q9 c0 c1 c2 c3 c4 c5 c6 c7 c8 c9 c10 c11) s.heap.size = A at hD ⊢
  have hA : ∀ q : Nat, s.heap.size ≤ q → A q := fun q h => by rw [← hAe]; exact Or.inr h
  have hS : va_S A s.heap s.heap [] := va_S.rf
  have hP : va_P (dC, dI) vwCl (wX0 cy h q2 q3 q4 q5 q6 q7 q8 q9 c0 c1 c2 c3 c4 c5 c6 c7 c8 c9 c10 c11) s.heap := hP
  have hl := lv_entry ([.ref h, .int a1]) (n := 2) (Nat.le_of_ble_eq_true rfl)
  rw [lg_entry_eq]
  generalize (lg_sl ([.ref h, .int a1]) ++ List.replicate (2 - (lg_sl ([.ref h, .int a1])).length) Slot.unset).toArray = ls at hl ⊢
  have hl : lv_has ls 2 [(0, .ref h), (1, .int a1)] := hl
  unfold f_X0_laid at hf
  refine lv_aload_n hx hb dX0_laid_0 rfl (lv_at hl 0 rfl) ?_
  refine lv_iload_n hx hb dX0_laid_1 rfl (lv_at hl 1 rfl) ?_
  obtain ⟨u2, hu2, hf⟩ := z_ob_some hf
  have hPc := hP.sub (ws' := (wX0 cy h q2 q3 q4 q5 q6 q7 q8 q9 c0 c1 c2 c3 c4 c5 c6 c7 c8 c9 c10 c11)) [0, 1, 2, 3, 4, 5, 6, 7, 8] rfl
  have hDc := hD.sub (ws' := (wX0 cy h q2 q3 q4 q5 q6 q7 q8 q9 c0 c1 c2 c3 c4 c5 c6 c7 c8 c9 c10 c11)) [0, 1, 2, 3, 4, 5, 6, 7, 8] (by decide) rfl
  have hKc := hK.sub (tys' := [(cy, .int)]) [0] rfl
  have hFc := va_free (wc := (wX0 cy h q2 q3 q4 q5 q6 q7 q8 q9 c0 c1 c2 c3 c4 c5 c6 c7 c8 c9 c10 c11)) hD hS hA [0, 1, 2, 3, 4, 5, 6, 7, 8] rfl
  refine va_calli (va_runV (As := [.int a1]) (rest := []) ⟨hx, hb, hml, hown, hts⟩ (c_X0_isOne N l dC dI cy h q2 q3 q4 q5 q6 q7 q8 q9 s.heap.size c0 c1 c2 c3 c4 c5 c6 c7 c8 c9 c10 c11 a1 u2 hu2) (cwV 1 hts gX0_laid_X0_isOne rfl rfl rfl (by decide +kernel) ⟨Nat.le_of_ble_eq_true rfl, Nat.le_of_ble_eq_true rfl⟩) ⟨fun a U g mk q => by obtain ⟨q0, q1, qP, qK, qD⟩ := q; exact ⟨q0, q1, qP, va_K.moved (u := U) (U := U.calling g mk a) (Vm.Alike.refl U.vm) qK, qD⟩, va_recv hKc hPc (ci := 0) (q0 := 0) rfl rfl, fun U hU hW => ⟨rfl, by rw [hU], by rw [hU]; exact hPc, va_K.moved hW.alike hKc, hDc.weaken (fun _ _ _ _ => trivial)⟩⟩ rfl rfl hl.1 rfl (lv_room (Nat.le_of_ble_eq_true rfl)) dX0_laid_2 ⟨Nat.zero_le _, Nat.zero_le _⟩) hS (fun q _ h => hFc q h) hFc (fun r_2 uu_ t H1 locs ht hvm hw hB hz1 hk1 hS => ?_)
  replace hw := hw.symm
  subst hw
  obtain ⟨hP1, -, hD1⟩ := hB
  rw [ht] at hP1
  obtain ⟨hP, hD⟩ := va_join (wr := []) (w1 := (wX0 cy h q2 q3 q4 q5 q6 q7 q8 q9 c0 c1 c2 c3 c4 c5 c6 c7 c8 c9 c10 c11)) hP hD [0, 1, 2, 3, 4, 5, 6, 7, 8] [] rfl rfl (by decide) (by decide) hk1 hFc hP1 hD1
  clear hk1 hz1 hP1 hD1 ht hPc hDc hFc
  generalize H1 = H at hP hS ⊢
  have hP : va_P (dC, dI) vwCl (wX0 cy h q2 q3 q4 q5 q6 q7 q8 q9 c0 c1 c2 c3 c4 c5 c6 c7 c8 c9 c10 c11) H := hP
  have hD : va_D A (wX0 cy h q2 q3 q4 q5 q6 q7 q8 q9 c0 c1 c2 c3 c4 c5 c6 c7 c8 c9 c10 c11) := hD
  refine lv_if_eq (tgt := 17) hx hb dX0_laid_5 (by decide) (fun c_5 => ?_) (fun c_5 => ?_)
  · replace hf := (if_pos c_5).symm.trans hf
    refine lv_iconst (v := (-1 : Int32)) hx hb dX0_laid_17 (by decide) ?_
    have hres := Option.some.inj hf
    subst hres
    have hP9 := hP.sub (ws' := (wX0 cy h q2 q3 q4 q5 q6 q7 q8 q9 c0 c1 c2 c3 c4 c5 c6 c7 c8 c9 c10 c11)) [0, 1, 2, 3, 4, 5, 6, 7, 8] rfl
    have hD9 := hD.sub (ws' := (wX0 cy h q2 q3 q4 q5 q6 q7 q8 q9 c0 c1 c2 c3 c4 c5 c6 c7 c8 c9 c10 c11)) [0, 1, 2, 3, 4, 5, 6, 7, 8] (by decide) rfl
    have hK9 := hK.sub (tys' := [(cy, .int)]) [0] rfl
    exact W.iret (v := (-1 : Int32)) hx hb hr (fun t ht hW => ⟨⟨(-1 : Int32), (), rfl, rfl, by rw [ht]; exact hP9, va_K.moved hW.alike hK9, hD9⟩, hS.F ht⟩) hS.2.2 dX0_laid_18
  · replace hf := (if_neg c_5).symm.trans hf
    refine lv_aload_n hx hb dX0_laid_8 rfl (lv_at hl 0 rfl) ?_
    refine va_get (D := (dC, dI)) (ci := 0) (v := .ref q3) (C := RX0) (T := TX0) (N := 12) hx hb hts (by decide +kernel) hown hK hP 0 rfl rfl 3 (by decide) (hts (.fieldLink RX0 13 "GiftLots" "hand" "[I") (by decide +kernel)) (fun _ h9 => h9) rfl dX0_laid_9 ?_
    refine lv_iload_n hx hb dX0_laid_12 rfl (lv_at hl 1 rfl) ?_
    obtain ⟨hi13, hf⟩ := z_gx_some hf
    refine va_iald hx hb hK hP 2 0 rfl rfl hi13 dX0_laid_13 ?_
    refine lv_goto (tgt := 18) hx hb dX0_laid_14 (by decide) ?_
    have hres := Option.some.inj hf
    subst hres
    have hP9 := hP.sub (ws' := (wX0 cy h q2 q3 q4 q5 q6 q7 q8 q9 c0 c1 c2 c3 c4 c5 c6 c7 c8 c9 c10 c11)) [0, 1, 2, 3, 4, 5, 6, 7, 8] rfl
    have hD9 := hD.sub (ws' := (wX0 cy h q2 q3 q4 q5 q6 q7 q8 q9 c0 c1 c2 c3 c4 c5 c6 c7 c8 c9 c10 c11)) [0, 1, 2, 3, 4, 5, 6, 7, 8] (by decide) rfl
    have hK9 := hK.sub (tys' := [(cy, .int)]) [0] rfl
    exact W.iret (v := c3 (a1).toNatClampNeg) hx hb hr (fun t ht hW => ⟨⟨c3 (a1).toNatClampNeg, (), rfl, rfl, by rw [ht]; exact hP9, va_K.moved hW.alike hK9, hD9⟩, hS.F ht⟩) hS.2.2 dX0_laid_18

set_option maxRecDepth 20000 in
theorem ggX0_draw_X0_findWay : GoodIn wsX0_draw wsX0_findWay := goodIn_r _ [12, 3, 13, 1, 14, 15, 16, 11, 17, 18, 4, 5, 6, 7, 19, 20, 21, 22, 23, 24, 25, 26, 27, 28, 29, 30, 31, 32, 33, 34, 35, 36, 37, 38, 39, 40, 41, 42, 43, 44, 45, 46, 47, 48, 49, 50, 51, 52, 53, 54, 55, 56, 57, 58, 59, 60, 61, 62, 63, 64, 65, 66, 67, 68, 69, 70, 71, 72, 73, 74, 75, 76, 77, 78, 79] (by decide +kernel) (by decide +kernel)
set_option maxRecDepth 20000 in
theorem gX0_draw_X0_findWay : GoodIn wsX0_draw (wsV RX0 70 RX0 yX0_findWay wsX0_findWay) := goodIn_app (goodIn_of _ (by decide +kernel)) ggX0_draw_X0_findWay
theorem dX0_draw_0 : decode cX0_draw 0 = .ok (.aload_n 0, 1) := by decide +kernel
theorem dX0_draw_1 : decode cX0_draw 1 = .ok (.iload_n 1, 1) := by decide +kernel
theorem dX0_draw_2 : decode cX0_draw 2 = .ok (.invokevirtual 70, 3) := by decide +kernel
theorem dX0_draw_5 : decode cX0_draw 5 = .ok (.ifCond .ne 6, 3) := by decide +kernel
theorem dX0_draw_8 : decode cX0_draw 8 = .ok (.bipush (-5), 2) := by decide +kernel
theorem dX0_draw_10 : decode cX0_draw 10 = .ok (.ireturn, 1) := by decide +kernel
theorem dX0_draw_11 : decode cX0_draw 11 = .ok (.aload_n 0, 1) := by decide +kernel
theorem dX0_draw_12 : decode cX0_draw 12 = .ok (.getfield 28, 3) := by decide +kernel
theorem dX0_draw_15 : decode cX0_draw 15 = .ok (.iconst 0, 1) := by decide +kernel
theorem dX0_draw_16 : decode cX0_draw 16 = .ok (.aload_n 0, 1) := by decide +kernel
theorem dX0_draw_17 : decode cX0_draw 17 = .ok (.getfield 13, 3) := by decide +kernel
theorem dX0_draw_20 : decode cX0_draw 20 = .ok (.iconst 0, 1) := by decide +kernel
theorem dX0_draw_21 : decode cX0_draw 21 = .ok (.aload_n 0, 1) := by decide +kernel
theorem dX0_draw_22 : decode cX0_draw 22 = .ok (.getfield 38, 3) := by decide +kernel
theorem dX0_draw_25 : decode cX0_draw 25 = .ok (.invokestatic 103, 3) := by decide +kernel
theorem dX0_draw_28 : decode cX0_draw 28 = .ok (.iconst 1, 1) := by decide +kernel
theorem dX0_draw_29 : decode cX0_draw 29 = .ok (.ireturn, 1) := by decide +kernel
abbrev rm_X0_draw : Room := { frames := 6, cells := 0, slots := 0, locals := 146 }
set_option maxHeartbeats 4000000 in
set_option maxRecDepth 100000 in
theorem c_X0_draw (N : Nat) (l : Launch) (dC : Nat → ClassId) (dI : Nat → Nat → Nat) (cy : ClassId) (h q2 q3 q4 q5 q6 q7 q8 q9 : Nat) (sz : Nat) (c0 : Int32) (c1 : Int32) (c2 : Nat → Int32) (c3 : Nat → Int32) (c4 : Nat → Int32) (c5 : Nat → Int32) (c6 : Nat → Int32) (c7 : Nat → Int32) (c8 : Nat → Int32) (c9 : Nat → Int32) (c10 : Int32) (c11 : Int32) (a1 : Int32) (res : Int32 × (Nat → Int32) × (Nat → Int32) × (Nat → Int32) × (Nat → Int32) × (Nat → Int32) × (Nat → Int32)) (hf : f_X0_draw N a1 c0 c1 c2 c3 c4 c5 c6 c7 c8 = some res) : Met l yX0_draw wsX0_draw rm_X0_draw (va_Pc [.ref h, .int a1] (fun U => U.heap.size = sz ∧ va_P (dC, dI) vwCl (wX0 cy h q2 q3 q4 q5 q6 q7 q8 q9 c0 c1 c2 c3 c4 c5 c6 c7 c8 c9 c10 c11) U.heap ∧ va_K (dC, dI) vwCl [(cy, .int)] U ∧ va_D (fun _ => True) (wX0 cy h q2 q3 q4 q5 q6 q7 q8 q9 c0 c1 c2 c3 c4 c5 c6 c7 c8 c9 c10 c11))) (z_qI dC dI cy res.1 (wX0 cy h q2 q3 q4 q5 q6 q7 q8 q9 c0 c1 c2 res.2.1 res.2.2.1 res.2.2.2.1 res.2.2.2.2.1 res.2.2.2.2.2.1 res.2.2.2.2.2.2 c9 c10 c11) (va_A (wX0 cy h q2 q3 q4 q5 q6 q7 q8 q9 c0 c1 c2 c3 c4 c5 c6 c7 c8 c9 c10 c11) sz)) 0 0 (va_A (wX0 cy h q2 q3 q4 q5 q6 q7 q8 q9 c0 c1 c2 c3 c4 c5 c6 c7 c8 c9 c10 c11) sz) := by
  refine Met.ofW (cc := cX0_draw) (maxL := 2) (ret := (some .int)) (by decide) rfl ?_
  intro p e s m args below meth c s₁ B hml hv
  obtain ⟨rfl, hsz, hP, hK, hD0⟩ := hv
  have hx := B.exec
  have hb := B.bytes
  have hr := B.returns
  have hts := atoms_spec (ws := wsX0_draw) B.pre
  have hown : s.vm.findClass RX0 = some m.cls := findClass_of_methodNamed B.named
  have hlocks := B.notSynchronized
  subst hsz
  have hD := hD0.self (sz := s.heap.size)
  generalize hAe : va_A (wX0 cy h q2 q3 q4 q5 q6 q7 q8 q9 c0 c1 c2 c3 c4 c5 c6 c7 c8 c9 c10 c11) s.heap.size = A at hD ⊢
  have hA : ∀ q : Nat, s.heap.size ≤ q → A q := fun q h => by rw [← hAe]; exact Or.inr h
  have hS : va_S A s.heap s.heap [] := va_S.rf
  have hP : va_P (dC, dI) vwCl (wX0 cy h q2 q3 q4 q5 q6 q7 q8 q9 c0 c1 c2 c3 c4 c5 c6 c7 c8 c9 c10 c11) s.heap := hP
  have hl := lv_entry ([.ref h, .int a1]) (n := 2) (Nat.le_of_ble_eq_true rfl)
  rw [lg_entry_eq]
  generalize (lg_sl ([.ref h, .int a1]) ++ List.replicate (2 - (lg_sl ([.ref h, .int a1])).length) Slot.unset).toArray = ls at hl ⊢
  have hl : lv_has ls 2 [(0, .ref h), (1, .int a1)] := hl
  unfold f_X0_draw at hf
  refine lv_aload_n hx hb dX0_draw_0 rfl (lv_at hl 0 rfl) ?_
  refine lv_iload_n hx hb dX0_draw_1 rfl (lv_at hl 1 rfl) ?_
  obtain ⟨u2, hu2, hf⟩ := z_ob_some hf
  have hPc := hP.sub (ws' := (wX0 cy h q2 q3 q4 q5 q6 q7 q8 q9 c0 c1 c2 c3 c4 c5 c6 c7 c8 c9 c10 c11)) [0, 1, 2, 3, 4, 5, 6, 7, 8] rfl
  have hDc := hD.sub (ws' := (wX0 cy h q2 q3 q4 q5 q6 q7 q8 q9 c0 c1 c2 c3 c4 c5 c6 c7 c8 c9 c10 c11)) [0, 1, 2, 3, 4, 5, 6, 7, 8] (by decide) rfl
  have hKc := hK.sub (tys' := [(cy, .int)]) [0] rfl
  have hFc := va_free (wc := (wX0 cy h q2 q3 q4 q5 q6 q7 q8 q9 c0 c1 c2 c3 c4 c5 c6 c7 c8 c9 c10 c11)) hD hS hA [0, 1, 2, 3, 4, 5, 6, 7, 8] rfl
  refine va_calli (va_runV (As := [.int a1]) (rest := []) ⟨hx, hb, hml, hown, hts⟩ (c_X0_findWay N l dC dI cy h q2 q3 q4 q5 q6 q7 q8 q9 s.heap.size c0 c1 c2 c3 c4 c5 c6 c7 c8 c9 c10 c11 a1 u2 hu2) (cwV 1 hts gX0_draw_X0_findWay rfl rfl rfl (by decide +kernel) ⟨Nat.le_of_ble_eq_true rfl, Nat.le_of_ble_eq_true rfl⟩) ⟨fun a U g mk q => by obtain ⟨q0, q1, qP, qK, qD⟩ := q; exact ⟨q0, q1, qP, va_K.moved (u := U) (U := U.calling g mk a) (Vm.Alike.refl U.vm) qK, qD⟩, va_recv hKc hPc (ci := 0) (q0 := 0) rfl rfl, fun U hU hW => ⟨rfl, by rw [hU], by rw [hU]; exact hPc, va_K.moved hW.alike hKc, hDc.weaken (fun _ _ _ _ => trivial)⟩⟩ rfl rfl hl.1 rfl (lv_room (Nat.le_of_ble_eq_true rfl)) dX0_draw_2 ⟨Nat.zero_le _, Nat.zero_le _⟩) hS (fun q _ h => hFc q h) hFc (fun r_2 uu_ t H1 locs ht hvm hw hB hz1 hk1 hS => ?_)
  replace hw := hw.symm
  subst hw
  obtain ⟨hP1, -, hD1⟩ := hB
  rw [ht] at hP1
  obtain ⟨hP, hD⟩ := va_join (wr := []) (w1 := (wX0 cy h q2 q3 q4 q5 q6 q7 q8 q9 c0 c1 c2 c3 u2.2.1 u2.2.2.1 u2.2.2.2.1 u2.2.2.2.2.1 u2.2.2.2.2.2 c9 c10 c11)) hP hD [0, 1, 2, 3, 4, 5, 6, 7, 8] [] rfl rfl (by decide) (by decide) hk1 hFc hP1 hD1
  clear hk1 hz1 hP1 hD1 ht hPc hDc hFc
  generalize H1 = H at hP hS ⊢
  have hP : va_P (dC, dI) vwCl (wX0 cy h q2 q3 q4 q5 q6 q7 q8 q9 c0 c1 c2 c3 u2.2.1 u2.2.2.1 u2.2.2.2.1 u2.2.2.2.2.1 u2.2.2.2.2.2 c9 c10 c11) H := hP
  have hD : va_D A (wX0 cy h q2 q3 q4 q5 q6 q7 q8 q9 c0 c1 c2 c3 u2.2.1 u2.2.2.1 u2.2.2.2.1 u2.2.2.2.2.1 u2.2.2.2.2.2 c9 c10 c11) := hD
  refine lv_if_ne (tgt := 11) hx hb dX0_draw_5 (by decide) (fun c_5 => ?_) (fun c_5 => ?_)
  · replace hf := (if_neg c_5).symm.trans hf
    refine lv_aload_n hx hb dX0_draw_11 rfl (lv_at hl 0 rfl) ?_
    refine va_get (D := (dC, dI)) (ci := 0) (v := .ref q8) (C := RX0) (T := TX0) (N := 12) hx hb hts (by decide +kernel) hown hK hP 0 rfl rfl 8 (by decide) (hts (.fieldLink RX0 28 "GiftLots" "trial" "[I") (by decide +kernel)) (fun _ h9 => h9) rfl dX0_draw_12 ?_
    refine lv_iconst (v := (0 : Int32)) hx hb dX0_draw_15 (by decide) ?_
    refine lv_aload_n hx hb dX0_draw_16 rfl (lv_at hl 0 rfl) ?_
    refine va_get (D := (dC, dI)) (ci := 0) (v := .ref q3) (C := RX0) (T := TX0) (N := 12) hx hb hts (by decide +kernel) hown hK hP 0 rfl rfl 3 (by decide) (hts (.fieldLink RX0 13 "GiftLots" "hand" "[I") (by decide +kernel)) (fun _ h9 => h9) rfl dX0_draw_17 ?_
    refine lv_iconst (v := (0 : Int32)) hx hb dX0_draw_20 (by decide) ?_
    refine lv_aload_n hx hb dX0_draw_21 rfl (lv_at hl 0 rfl) ?_
    refine va_get (D := (dC, dI)) (ci := 0) (v := .int c0) (C := RX0) (T := TX0) (N := 12) hx hb hts (by decide +kernel) hown hK hP 0 rfl rfl 0 (by decide) (hts (.fieldLink RX0 38 "GiftLots" "count" "I") (by decide +kernel)) (fun _ h9 => h9) rfl dX0_draw_22 ?_
    obtain ⟨hi25, hj25, hf⟩ := z_gc_some hf
    refine va_copyi hx hb (hml.trans hl.1.symm) hown (hts (.methodLink RX0 103 arraycopyName) (by decide +kernel)) (hts (.native arraycopyName) (by decide +kernel)) (hts (.static arraycopyName) (by decide +kernel)) (hts (.initialized "java/lang/System") (by decide +kernel)) hK hP hD hS 7 2 0 0 rfl rfl rfl rfl rfl (by decide) (by decide) hi25 (z_gc_le hj25) (z_gc_le hj25) (fun _ _ => rfl) (Nat.le_of_ble_eq_true rfl) (by decide) dX0_draw_25 (fun H locs hP hD hS => ?_)
    have hP : va_P (dC, dI) vwCl (wX0 cy h q2 q3 q4 q5 q6 q7 q8 q9 c0 c1 c2 (va_cpy u2.2.2.2.2.2 c3 0 0 (c0).toNatClampNeg) u2.2.1 u2.2.2.1 u2.2.2.2.1 u2.2.2.2.2.1 u2.2.2.2.2.2 c9 c10 c11) H := hP
    have hD : va_D A (wX0 cy h q2 q3 q4 q5 q6 q7 q8 q9 c0 c1 c2 (va_cpy u2.2.2.2.2.2 c3 0 0 (c0).toNatClampNeg) u2.2.1 u2.2.2.1 u2.2.2.2.1 u2.2.2.2.2.1 u2.2.2.2.2.2 c9 c10 c11) := hD
    refine lv_iconst (v := (1 : Int32)) hx hb dX0_draw_28 (by decide) ?_
    have hres := Option.some.inj hf
    subst hres
    have hP9 := hP.sub (ws' := (wX0 cy h q2 q3 q4 q5 q6 q7 q8 q9 c0 c1 c2 (va_cpy u2.2.2.2.2.2 c3 0 0 (c0).toNatClampNeg) u2.2.1 u2.2.2.1 u2.2.2.2.1 u2.2.2.2.2.1 u2.2.2.2.2.2 c9 c10 c11)) [0, 1, 2, 3, 4, 5, 6, 7, 8] rfl
    have hD9 := hD.sub (ws' := (wX0 cy h q2 q3 q4 q5 q6 q7 q8 q9 c0 c1 c2 (va_cpy u2.2.2.2.2.2 c3 0 0 (c0).toNatClampNeg) u2.2.1 u2.2.2.1 u2.2.2.2.1 u2.2.2.2.2.1 u2.2.2.2.2.2 c9 c10 c11)) [0, 1, 2, 3, 4, 5, 6, 7, 8] (by decide) rfl
    have hK9 := hK.sub (tys' := [(cy, .int)]) [0] rfl
    exact W.iret (v := (1 : Int32)) hx hb hr (fun t ht hW => ⟨⟨(1 : Int32), (), rfl, rfl, by rw [ht]; exact hP9, va_K.moved hW.alike hK9, hD9⟩, hS.F ht⟩) hS.2.2 dX0_draw_29
  · replace hf := (if_pos c_5).symm.trans hf
    refine lv_bipush (v := (-5 : Int32)) hx hb dX0_draw_8 (by decide) ?_
    have hres := Option.some.inj hf
    subst hres
    have hP9 := hP.sub (ws' := (wX0 cy h q2 q3 q4 q5 q6 q7 q8 q9 c0 c1 c2 c3 u2.2.1 u2.2.2.1 u2.2.2.2.1 u2.2.2.2.2.1 u2.2.2.2.2.2 c9 c10 c11)) [0, 1, 2, 3, 4, 5, 6, 7, 8] rfl
    have hD9 := hD.sub (ws' := (wX0 cy h q2 q3 q4 q5 q6 q7 q8 q9 c0 c1 c2 c3 u2.2.1 u2.2.2.1 u2.2.2.2.1 u2.2.2.2.2.1 u2.2.2.2.2.2 c9 c10 c11)) [0, 1, 2, 3, 4, 5, 6, 7, 8] (by decide) rfl
    have hK9 := hK.sub (tys' := [(cy, .int)]) [0] rfl
    exact W.iret (v := (-5 : Int32)) hx hb hr (fun t ht hW => ⟨⟨(-5 : Int32), (), rfl, rfl, by rw [ht]; exact hP9, va_K.moved hW.alike hK9, hD9⟩, hS.F ht⟩) hS.2.2 dX0_draw_10

theorem dX0_givesBelow_0 : decode cX0_givesBelow 0 = .ok (.iconst 0, 1) := by decide +kernel
theorem dX0_givesBelow_1 : decode cX0_givesBelow 1 = .ok (.istore_n 2, 1) := by decide +kernel
theorem dX0_givesBelow_2 : decode cX0_givesBelow 2 = .ok (.iload_n 2, 1) := by decide +kernel
theorem dX0_givesBelow_3 : decode cX0_givesBelow 3 = .ok (.iload_n 1, 1) := by decide +kernel
theorem dX0_givesBelow_4 : decode cX0_givesBelow 4 = .ok (.if_icmp .ge 30, 3) := by decide +kernel
theorem dX0_givesBelow_7 : decode cX0_givesBelow 7 = .ok (.iload_n 2, 1) := by decide +kernel
theorem dX0_givesBelow_8 : decode cX0_givesBelow 8 = .ok (.aload_n 0, 1) := by decide +kernel
theorem dX0_givesBelow_9 : decode cX0_givesBelow 9 = .ok (.getfield 38, 3) := by decide +kernel
theorem dX0_givesBelow_12 : decode cX0_givesBelow 12 = .ok (.if_icmp .ge 22, 3) := by decide +kernel
theorem dX0_givesBelow_15 : decode cX0_givesBelow 15 = .ok (.aload_n 0, 1) := by decide +kernel
theorem dX0_givesBelow_16 : decode cX0_givesBelow 16 = .ok (.getfield 13, 3) := by decide +kernel
theorem dX0_givesBelow_19 : decode cX0_givesBelow 19 = .ok (.iload_n 2, 1) := by decide +kernel
theorem dX0_givesBelow_20 : decode cX0_givesBelow 20 = .ok (.iaload, 1) := by decide +kernel
theorem dX0_givesBelow_21 : decode cX0_givesBelow 21 = .ok (.bipush (-6), 2) := by decide +kernel
theorem dX0_givesBelow_23 : decode cX0_givesBelow 23 = .ok (.if_icmp .ne 5, 3) := by decide +kernel
theorem dX0_givesBelow_26 : decode cX0_givesBelow 26 = .ok (.iconst 0, 1) := by decide +kernel
theorem dX0_givesBelow_27 : decode cX0_givesBelow 27 = .ok (.ireturn, 1) := by decide +kernel
theorem dX0_givesBelow_28 : decode cX0_givesBelow 28 = .ok (.iinc 2 1, 3) := by decide +kernel
theorem dX0_givesBelow_31 : decode cX0_givesBelow 31 = .ok (.goto (-29), 3) := by decide +kernel
theorem dX0_givesBelow_34 : decode cX0_givesBelow 34 = .ok (.iconst 1, 1) := by decide +kernel
theorem dX0_givesBelow_35 : decode cX0_givesBelow 35 = .ok (.ireturn, 1) := by decide +kernel
abbrev rm_X0_givesBelow : Room := { frames := 0, cells := 0, slots := 0, locals := 0 }
set_option maxHeartbeats 4000000 in
set_option maxRecDepth 100000 in
theorem c_X0_givesBelow (N : Nat) (l : Launch) (dC : Nat → ClassId) (dI : Nat → Nat → Nat) (cy : ClassId) (h q2 q3 q4 q5 q6 q7 q8 q9 : Nat) (sz : Nat) (c0 : Int32) (c1 : Int32) (c2 : Nat → Int32) (c3 : Nat → Int32) (c4 : Nat → Int32) (c5 : Nat → Int32) (c6 : Nat → Int32) (c7 : Nat → Int32) (c8 : Nat → Int32) (c9 : Nat → Int32) (c10 : Int32) (c11 : Int32) (a1 : Int32) (res : Int32) (hf : f_X0_givesBelow N a1 c0 c3 = some res) : Met l yX0_givesBelow wsX0_givesBelow rm_X0_givesBelow (va_Pc [.ref h, .int a1] (fun U => U.heap.size = sz ∧ va_P (dC, dI) vwCl (wX0 cy h q2 q3 q4 q5 q6 q7 q8 q9 c0 c1 c2 c3 c4 c5 c6 c7 c8 c9 c10 c11) U.heap ∧ va_K (dC, dI) vwCl [(cy, .int)] U ∧ va_D (fun _ => True) (wX0 cy h q2 q3 q4 q5 q6 q7 q8 q9 c0 c1 c2 c3 c4 c5 c6 c7 c8 c9 c10 c11))) (z_qI dC dI cy res (wX0 cy h q2 q3 q4 q5 q6 q7 q8 q9 c0 c1 c2 c3 c4 c5 c6 c7 c8 c9 c10 c11) (va_A (wX0 cy h q2 q3 q4 q5 q6 q7 q8 q9 c0 c1 c2 c3 c4 c5 c6 c7 c8 c9 c10 c11) sz)) 0 0 (va_A (wX0 cy h q2 q3 q4 q5 q6 q7 q8 q9 c0 c1 c2 c3 c4 c5 c6 c7 c8 c9 c10 c11) sz) := by
  refine Met.ofW (cc := cX0_givesBelow) (maxL := 3) (ret := (some .boolean)) (by decide) rfl ?_
  intro p e s m args below meth c s₁ B hml hv
  obtain ⟨rfl, hsz, hP, hK, hD0⟩ := hv
  have hx := B.exec
  have hb := B.bytes
  have hr := B.returns
  have hts := atoms_spec (ws := wsX0_givesBelow) B.pre
  have hown : s.vm.findClass RX0 = some m.cls := findClass_of_methodNamed B.named
  have hlocks := B.notSynchronized
  subst hsz
  have hD := hD0.self (sz := s.heap.size)
  generalize hAe : va_A (wX0 cy h q2 q3 q4 q5 q6 q7 q8 q9 c0 c1 c2 c3 c4 c5 c6 c7 c8 c9 c10 c11) s.heap.size = A at hD ⊢
  have hA : ∀ q : Nat, s.heap.size ≤ q → A q := fun q h => by rw [← hAe]; exact Or.inr h
  have hS : va_S A s.heap s.heap [] := va_S.rf
  have hP : va_P (dC, dI) vwCl (wX0 cy h q2 q3 q4 q5 q6 q7 q8 q9 c0 c1 c2 c3 c4 c5 c6 c7 c8 c9 c10 c11) s.heap := hP
  have hl := lv_entry ([.ref h, .int a1]) (n := 3) (Nat.le_of_ble_eq_true rfl)
  rw [lg_entry_eq]
  generalize (lg_sl ([.ref h, .int a1]) ++ List.replicate (3 - (lg_sl ([.ref h, .int a1])).length) Slot.unset).toArray = ls at hl ⊢
  have hl : lv_has ls 3 [(0, .ref h), (1, .int a1)] := hl
  have B2 : ∀ n : Nat, ∀ (x1 x2 : Int32) (H : Heap) (locs : List Loc) (ls : Array Slot), f_X0_givesBelow_b2 N c0 c3 n x1 x2 = some res → va_P (dC, dI) vwCl (wX0 cy h q2 q3 q4 q5 q6 q7 q8 q9 c0 c1 c2 c3 c4 c5 c6 c7 c8 c9 c10 c11) H → va_D A (wX0 cy h q2 q3 q4 q5 q6 q7 q8 q9 c0 c1 c2 c3 c4 c5 c6 c7 c8 c9 c10 c11) → va_S A s.heap H locs → lv_has ls 3 [(0, .ref h), (1, .int x1), (2, .int x2)] → W p l e rm_X0_givesBelow s m ([.ref h, .int a1] : List Value).toArray below meth c H locs 0 0 (MQ below (z_qI dC dI cy res (wX0 cy h q2 q3 q4 q5 q6 q7 q8 q9 c0 c1 c2 c3 c4 c5 c6 c7 c8 c9 c10 c11) A) ([.ref h, .int a1] : List Value).toArray s 0 0 A) (F0 m 2 ls []) := by
    clear hf hl hP hD hS
    intro n
    induction n with
    | zero =>
      intro x1 x2 H locs ls hf hP hD hS hl
      rw [f_X0_givesBelow_b2] at hf
      cases hf
    | succ n ih =>
      intro x1 x2 H locs ls hf hP hD hS hl
      rw [f_X0_givesBelow_b2] at hf
      refine lv_iload_n hx hb dX0_givesBelow_2 rfl (lv_at hl 2 rfl) ?_
      refine lv_iload_n hx hb dX0_givesBelow_3 rfl (lv_at hl 1 rfl) ?_
      refine lv_icmp_ge (tgt := 34) hx hb dX0_givesBelow_4 (by decide) (fun c_4 => ?_) (fun c_4 => ?_)
      · replace hf := (if_pos c_4).symm.trans hf
        refine lv_iconst (v := (1 : Int32)) hx hb dX0_givesBelow_34 (by decide) ?_
        have hres := Option.some.inj hf
        subst hres
        have hP9 := hP.sub (ws' := (wX0 cy h q2 q3 q4 q5 q6 q7 q8 q9 c0 c1 c2 c3 c4 c5 c6 c7 c8 c9 c10 c11)) [0, 1, 2, 3, 4, 5, 6, 7, 8] rfl
        have hD9 := hD.sub (ws' := (wX0 cy h q2 q3 q4 q5 q6 q7 q8 q9 c0 c1 c2 c3 c4 c5 c6 c7 c8 c9 c10 c11)) [0, 1, 2, 3, 4, 5, 6, 7, 8] (by decide) rfl
        have hK9 := hK.sub (tys' := [(cy, .int)]) [0] rfl
        exact W.zret (v := (1 : Int32)) hx hb hr rfl (fun t ht hW => ⟨⟨(1 : Int32), (), rfl, rfl, by rw [ht]; exact hP9, va_K.moved hW.alike hK9, hD9⟩, hS.F ht⟩) hS.2.2 dX0_givesBelow_35
      · replace hf := (if_neg c_4).symm.trans hf
        refine lv_iload_n hx hb dX0_givesBelow_7 rfl (lv_at hl 2 rfl) ?_
        refine lv_aload_n hx hb dX0_givesBelow_8 rfl (lv_at hl 0 rfl) ?_
        refine va_get (D := (dC, dI)) (ci := 0) (v := .int c0) (C := RX0) (T := TX0) (N := 12) hx hb hts (by decide +kernel) hown hK hP 0 rfl rfl 0 (by decide) (hts (.fieldLink RX0 38 "GiftLots" "count" "I") (by decide +kernel)) (fun _ h9 => h9) rfl dX0_givesBelow_9 ?_
        refine lv_icmp_ge (tgt := 34) hx hb dX0_givesBelow_12 (by decide) (fun c_12 => ?_) (fun c_12 => ?_)
        · replace hf := (if_pos c_12).symm.trans hf
          refine lv_iconst (v := (1 : Int32)) hx hb dX0_givesBelow_34 (by decide) ?_
          have hres := Option.some.inj hf
          subst hres
          have hP9 := hP.sub (ws' := (wX0 cy h q2 q3 q4 q5 q6 q7 q8 q9 c0 c1 c2 c3 c4 c5 c6 c7 c8 c9 c10 c11)) [0, 1, 2, 3, 4, 5, 6, 7, 8] rfl
          have hD9 := hD.sub (ws' := (wX0 cy h q2 q3 q4 q5 q6 q7 q8 q9 c0 c1 c2 c3 c4 c5 c6 c7 c8 c9 c10 c11)) [0, 1, 2, 3, 4, 5, 6, 7, 8] (by decide) rfl
          have hK9 := hK.sub (tys' := [(cy, .int)]) [0] rfl
          exact W.zret (v := (1 : Int32)) hx hb hr rfl (fun t ht hW => ⟨⟨(1 : Int32), (), rfl, rfl, by rw [ht]; exact hP9, va_K.moved hW.alike hK9, hD9⟩, hS.F ht⟩) hS.2.2 dX0_givesBelow_35
        · replace hf := (if_neg c_12).symm.trans hf
          refine lv_aload_n hx hb dX0_givesBelow_15 rfl (lv_at hl 0 rfl) ?_
          refine va_get (D := (dC, dI)) (ci := 0) (v := .ref q3) (C := RX0) (T := TX0) (N := 12) hx hb hts (by decide +kernel) hown hK hP 0 rfl rfl 3 (by decide) (hts (.fieldLink RX0 13 "GiftLots" "hand" "[I") (by decide +kernel)) (fun _ h9 => h9) rfl dX0_givesBelow_16 ?_
          refine lv_iload_n hx hb dX0_givesBelow_19 rfl (lv_at hl 2 rfl) ?_
          obtain ⟨hi20, hf⟩ := z_gx_some hf
          refine va_iald hx hb hK hP 2 0 rfl rfl hi20 dX0_givesBelow_20 ?_
          refine lv_bipush (v := (-6 : Int32)) hx hb dX0_givesBelow_21 (by decide) ?_
          refine lv_icmp_ne (tgt := 28) hx hb dX0_givesBelow_23 (by decide) (fun c_23 => ?_) (fun c_23 => ?_)
          · replace hf := (if_neg c_23).symm.trans hf
            refine lv_iinc (v := x2 + (1 : Int32)) (lv' := [(2, .int (x2 + (1 : Int32))), (0, .ref h), (1, .int x1)]) hx hb dX0_givesBelow_28 hl (k := 2) rfl rfl (by decide) rfl (fun ls hl => ?_)
            refine lv_goto (tgt := 2) hx hb dX0_givesBelow_31 (by decide) ?_
            exact ih x1 (x2 + (1 : Int32)) _ _ _ hf hP hD hS (lv_sub hl [1, 2, 0] rfl)
          · replace hf := (if_pos c_23).symm.trans hf
            refine lv_iconst (v := (0 : Int32)) hx hb dX0_givesBelow_26 (by decide) ?_
            have hres := Option.some.inj hf
            subst hres
            have hP9 := hP.sub (ws' := (wX0 cy h q2 q3 q4 q5 q6 q7 q8 q9 c0 c1 c2 c3 c4 c5 c6 c7 c8 c9 c10 c11)) [0, 1, 2, 3, 4, 5, 6, 7, 8] rfl
            have hD9 := hD.sub (ws' := (wX0 cy h q2 q3 q4 q5 q6 q7 q8 q9 c0 c1 c2 c3 c4 c5 c6 c7 c8 c9 c10 c11)) [0, 1, 2, 3, 4, 5, 6, 7, 8] (by decide) rfl
            have hK9 := hK.sub (tys' := [(cy, .int)]) [0] rfl
            exact W.zret (v := (0 : Int32)) hx hb hr rfl (fun t ht hW => ⟨⟨(0 : Int32), (), rfl, rfl, by rw [ht]; exact hP9, va_K.moved hW.alike hK9, hD9⟩, hS.F ht⟩) hS.2.2 dX0_givesBelow_27
  unfold f_X0_givesBelow at hf
  refine lv_iconst (v := (0 : Int32)) hx hb dX0_givesBelow_0 (by decide) ?_
  refine lv_istore_n (lv' := [(2, .int (0 : Int32)), (0, .ref h), (1, .int a1)]) hx hb dX0_givesBelow_1 rfl hl (by decide) rfl (fun ls hl => ?_)
  exact B2 N a1 (0 : Int32) _ _ _ hf hP hD hS (lv_sub hl [1, 2, 0] rfl)

set_option maxRecDepth 20000 in
theorem ggX0_refuseHand_X0_givesBelow : GoodIn wsX0_refuseHand wsX0_givesBelow := goodIn_r _ [8, 1, 2, 67, 68, 69, 70, 71, 72, 73, 74, 75, 76, 77, 78] (by decide +kernel) (by decide +kernel)
set_option maxRecDepth 20000 in
theorem gX0_refuseHand_X0_givesBelow : GoodIn wsX0_refuseHand (wsV RX0 112 RX0 yX0_givesBelow wsX0_givesBelow) := goodIn_app (goodIn_of _ (by decide +kernel)) ggX0_refuseHand_X0_givesBelow
set_option maxRecDepth 20000 in
theorem ggX0_refuseHand_X0_openRows : GoodIn wsX0_refuseHand wsX0_openRows := goodIn_r _ [12, 13, 14, 15, 16, 17, 18, 67, 68, 69, 70, 71, 72, 73, 74, 75, 76, 77, 78] (by decide +kernel) (by decide +kernel)
set_option maxRecDepth 20000 in
theorem gX0_refuseHand_X0_openRows : GoodIn wsX0_refuseHand (wsV RX0 60 RX0 yX0_openRows wsX0_openRows) := goodIn_app (goodIn_of _ (by decide +kernel)) ggX0_refuseHand_X0_openRows
set_option maxRecDepth 20000 in
theorem ggX0_refuseHand_X0_narrow : GoodIn wsX0_refuseHand wsX0_narrow := goodIn_r _ [22, 14, 23, 24, 25, 7, 26, 1, 27, 28, 29, 67, 68, 69, 70, 71, 72, 73, 74, 75, 76, 77, 78] (by decide +kernel) (by decide +kernel)
set_option maxRecDepth 20000 in
theorem gX0_refuseHand_X0_narrow : GoodIn wsX0_refuseHand (wsV RX0 115 RX0 yX0_narrow wsX0_narrow) := goodIn_app (goodIn_of _ (by decide +kernel)) ggX0_refuseHand_X0_narrow
set_option maxRecDepth 20000 in
theorem ggX0_refuseHand_X0_countWays : GoodIn wsX0_refuseHand wsX0_countWays := goodIn_r _ [33, 34, 35, 36, 37, 7, 38, 39, 1, 40, 41, 42, 43, 44, 45, 46, 47, 48, 27, 28, 29, 49, 50, 51, 52, 53, 54, 55, 14, 56, 57, 58, 59, 60, 61, 62, 63, 64, 65, 66, 67, 68, 69, 70, 71, 72, 73, 74, 75, 76, 77, 78] (by decide +kernel) (by decide +kernel)
set_option maxRecDepth 20000 in
theorem gX0_refuseHand_X0_countWays : GoodIn wsX0_refuseHand (wsV RX0 63 RX0 yX0_countWays wsX0_countWays) := goodIn_app (goodIn_of _ (by decide +kernel)) ggX0_refuseHand_X0_countWays
theorem dX0_refuseHand_0 : decode cX0_refuseHand 0 = .ok (.aload_n 0, 1) := by decide +kernel
theorem dX0_refuseHand_1 : decode cX0_refuseHand 1 = .ok (.aload_n 0, 1) := by decide +kernel
theorem dX0_refuseHand_2 : decode cX0_refuseHand 2 = .ok (.getfield 38, 3) := by decide +kernel
theorem dX0_refuseHand_5 : decode cX0_refuseHand 5 = .ok (.invokevirtual 112, 3) := by decide +kernel
theorem dX0_refuseHand_8 : decode cX0_refuseHand 8 = .ok (.ifCond .ne 6, 3) := by decide +kernel
theorem dX0_refuseHand_11 : decode cX0_refuseHand 11 = .ok (.bipush (-3), 2) := by decide +kernel
theorem dX0_refuseHand_13 : decode cX0_refuseHand 13 = .ok (.ireturn, 1) := by decide +kernel
theorem dX0_refuseHand_14 : decode cX0_refuseHand 14 = .ok (.aload_n 0, 1) := by decide +kernel
theorem dX0_refuseHand_15 : decode cX0_refuseHand 15 = .ok (.invokevirtual 60, 3) := by decide +kernel
theorem dX0_refuseHand_18 : decode cX0_refuseHand 18 = .ok (.iconst 0, 1) := by decide +kernel
theorem dX0_refuseHand_19 : decode cX0_refuseHand 19 = .ok (.istore_n 1, 1) := by decide +kernel
theorem dX0_refuseHand_20 : decode cX0_refuseHand 20 = .ok (.iload_n 1, 1) := by decide +kernel
theorem dX0_refuseHand_21 : decode cX0_refuseHand 21 = .ok (.aload_n 0, 1) := by decide +kernel
theorem dX0_refuseHand_22 : decode cX0_refuseHand 22 = .ok (.getfield 38, 3) := by decide +kernel
theorem dX0_refuseHand_25 : decode cX0_refuseHand 25 = .ok (.if_icmp .ge 20, 3) := by decide +kernel
theorem dX0_refuseHand_28 : decode cX0_refuseHand 28 = .ok (.aload_n 0, 1) := by decide +kernel
theorem dX0_refuseHand_29 : decode cX0_refuseHand 29 = .ok (.iload_n 1, 1) := by decide +kernel
theorem dX0_refuseHand_30 : decode cX0_refuseHand 30 = .ok (.aload_n 0, 1) := by decide +kernel
theorem dX0_refuseHand_31 : decode cX0_refuseHand 31 = .ok (.getfield 13, 3) := by decide +kernel
theorem dX0_refuseHand_34 : decode cX0_refuseHand 34 = .ok (.iload_n 1, 1) := by decide +kernel
theorem dX0_refuseHand_35 : decode cX0_refuseHand 35 = .ok (.iaload, 1) := by decide +kernel
theorem dX0_refuseHand_36 : decode cX0_refuseHand 36 = .ok (.invokevirtual 115, 3) := by decide +kernel
theorem dX0_refuseHand_39 : decode cX0_refuseHand 39 = .ok (.iinc 1 1, 3) := by decide +kernel
theorem dX0_refuseHand_42 : decode cX0_refuseHand 42 = .ok (.goto (-22), 3) := by decide +kernel
theorem dX0_refuseHand_45 : decode cX0_refuseHand 45 = .ok (.aload_n 0, 1) := by decide +kernel
theorem dX0_refuseHand_46 : decode cX0_refuseHand 46 = .ok (.aload_n 0, 1) := by decide +kernel
theorem dX0_refuseHand_47 : decode cX0_refuseHand 47 = .ok (.getfield 57, 3) := by decide +kernel
theorem dX0_refuseHand_50 : decode cX0_refuseHand 50 = .ok (.invokevirtual 63, 3) := by decide +kernel
theorem dX0_refuseHand_53 : decode cX0_refuseHand 53 = .ok (.ifCond .ne 8, 3) := by decide +kernel
theorem dX0_refuseHand_56 : decode cX0_refuseHand 56 = .ok (.bipush (-5), 2) := by decide +kernel
theorem dX0_refuseHand_58 : decode cX0_refuseHand 58 = .ok (.goto 4, 3) := by decide +kernel
theorem dX0_refuseHand_61 : decode cX0_refuseHand 61 = .ok (.iconst 0, 1) := by decide +kernel
theorem dX0_refuseHand_62 : decode cX0_refuseHand 62 = .ok (.ireturn, 1) := by decide +kernel
abbrev rm_X0_refuseHand : Room := { frames := 4, cells := 0, slots := 0, locals := 96 }
set_option maxHeartbeats 4000000 in
set_option maxRecDepth 100000 in
theorem c_X0_refuseHand (N : Nat) (l : Launch) (dC : Nat → ClassId) (dI : Nat → Nat → Nat) (cy : ClassId) (h q2 q3 q4 q5 q6 q7 q8 q9 : Nat) (sz : Nat) (c0 : Int32) (c1 : Int32) (c2 : Nat → Int32) (c3 : Nat → Int32) (c4 : Nat → Int32) (c5 : Nat → Int32) (c6 : Nat → Int32) (c7 : Nat → Int32) (c8 : Nat → Int32) (c9 : Nat → Int32) (c10 : Int32) (c11 : Int32) (res : Int32 × (Nat → Int32) × (Nat → Int32) × (Nat → Int32) × (Nat → Int32)) (hf : f_X0_refuseHand N c0 c1 c2 c3 c4 c5 c6 c7 = some res) : Met l yX0_refuseHand wsX0_refuseHand rm_X0_refuseHand (va_Pc [.ref h] (fun U => U.heap.size = sz ∧ va_P (dC, dI) vwCl (wX0 cy h q2 q3 q4 q5 q6 q7 q8 q9 c0 c1 c2 c3 c4 c5 c6 c7 c8 c9 c10 c11) U.heap ∧ va_K (dC, dI) vwCl [(cy, .int)] U ∧ va_D (fun _ => True) (wX0 cy h q2 q3 q4 q5 q6 q7 q8 q9 c0 c1 c2 c3 c4 c5 c6 c7 c8 c9 c10 c11))) (z_qI dC dI cy res.1 (wX0 cy h q2 q3 q4 q5 q6 q7 q8 q9 c0 c1 c2 c3 res.2.1 res.2.2.1 res.2.2.2.1 res.2.2.2.2 c8 c9 c10 c11) (va_A (wX0 cy h q2 q3 q4 q5 q6 q7 q8 q9 c0 c1 c2 c3 c4 c5 c6 c7 c8 c9 c10 c11) sz)) 0 0 (va_A (wX0 cy h q2 q3 q4 q5 q6 q7 q8 q9 c0 c1 c2 c3 c4 c5 c6 c7 c8 c9 c10 c11) sz) := by
  refine Met.ofW (cc := cX0_refuseHand) (maxL := 2) (ret := (some .int)) (by decide) rfl ?_
  intro p e s m args below meth c s₁ B hml hv
  obtain ⟨rfl, hsz, hP, hK, hD0⟩ := hv
  have hx := B.exec
  have hb := B.bytes
  have hr := B.returns
  have hts := atoms_spec (ws := wsX0_refuseHand) B.pre
  have hown : s.vm.findClass RX0 = some m.cls := findClass_of_methodNamed B.named
  have hlocks := B.notSynchronized
  subst hsz
  have hD := hD0.self (sz := s.heap.size)
  generalize hAe : va_A (wX0 cy h q2 q3 q4 q5 q6 q7 q8 q9 c0 c1 c2 c3 c4 c5 c6 c7 c8 c9 c10 c11) s.heap.size = A at hD ⊢
  have hA : ∀ q : Nat, s.heap.size ≤ q → A q := fun q h => by rw [← hAe]; exact Or.inr h
  have hS : va_S A s.heap s.heap [] := va_S.rf
  have hP : va_P (dC, dI) vwCl (wX0 cy h q2 q3 q4 q5 q6 q7 q8 q9 c0 c1 c2 c3 c4 c5 c6 c7 c8 c9 c10 c11) s.heap := hP
  have hl := lv_entry ([.ref h]) (n := 2) (Nat.le_of_ble_eq_true rfl)
  rw [lg_entry_eq]
  generalize (lg_sl ([.ref h]) ++ List.replicate (2 - (lg_sl ([.ref h])).length) Slot.unset).toArray = ls at hl ⊢
  have hl : lv_has ls 2 [(0, .ref h)] := hl
  have B20 : ∀ n : Nat, ∀ (x1 : Int32) (c4 : Nat → Int32) (c5 : Nat → Int32) (c6 : Nat → Int32) (c7 : Nat → Int32) (H : Heap) (locs : List Loc) (ls : Array Slot), f_X0_refuseHand_b20 N c0 c1 c2 c3 n x1 c4 c5 c6 c7 = some res → va_P (dC, dI) vwCl (wX0 cy h q2 q3 q4 q5 q6 q7 q8 q9 c0 c1 c2 c3 c4 c5 c6 c7 c8 c9 c10 c11) H → va_D A (wX0 cy h q2 q3 q4 q5 q6 q7 q8 q9 c0 c1 c2 c3 c4 c5 c6 c7 c8 c9 c10 c11) → va_S A s.heap H locs → lv_has ls 2 [(0, .ref h), (1, .int x1)] → W p l e rm_X0_refuseHand s m ([.ref h] : List Value).toArray below meth c H locs 0 0 (MQ below (z_qI dC dI cy res.1 (wX0 cy h q2 q3 q4 q5 q6 q7 q8 q9 c0 c1 c2 c3 res.2.1 res.2.2.1 res.2.2.2.1 res.2.2.2.2 c8 c9 c10 c11) A) ([.ref h] : List Value).toArray s 0 0 A) (F0 m 20 ls []) := by
    clear hf hl hP hD hS
    intro n
    induction n with
    | zero =>
      intro x1 c4 c5 c6 c7 H locs ls hf hP hD hS hl
      rw [f_X0_refuseHand_b20] at hf
      cases hf
    | succ n ih =>
      intro x1 c4 c5 c6 c7 H locs ls hf hP hD hS hl
      rw [f_X0_refuseHand_b20] at hf
      refine lv_iload_n hx hb dX0_refuseHand_20 rfl (lv_at hl 1 rfl) ?_
      refine lv_aload_n hx hb dX0_refuseHand_21 rfl (lv_at hl 0 rfl) ?_
      refine va_get (D := (dC, dI)) (ci := 0) (v := .int c0) (C := RX0) (T := TX0) (N := 12) hx hb hts (by decide +kernel) hown hK hP 0 rfl rfl 0 (by decide) (hts (.fieldLink RX0 38 "GiftLots" "count" "I") (by decide +kernel)) (fun _ h9 => h9) rfl dX0_refuseHand_22 ?_
      refine lv_icmp_ge (tgt := 45) hx hb dX0_refuseHand_25 (by decide) (fun c_25 => ?_) (fun c_25 => ?_)
      · replace hf := (if_pos c_25).symm.trans hf
        refine lv_aload_n hx hb dX0_refuseHand_45 rfl (lv_at hl 0 rfl) ?_
        refine lv_aload_n hx hb dX0_refuseHand_46 rfl (lv_at hl 0 rfl) ?_
        refine va_get (D := (dC, dI)) (ci := 0) (v := .int c1) (C := RX0) (T := TX0) (N := 12) hx hb hts (by decide +kernel) hown hK hP 0 rfl rfl 1 (by decide) (hts (.fieldLink RX0 57 "GiftLots" "shortest" "I") (by decide +kernel)) (fun _ h9 => h9) rfl dX0_refuseHand_47 ?_
        obtain ⟨u50, hu50, hf⟩ := z_ob_some hf
        have hPc := hP.sub (ws' := (wX0 cy h q2 q3 q4 q5 q6 q7 q8 q9 c0 c1 c2 c3 c4 c5 c6 c7 c8 c9 c10 c11)) [0, 1, 2, 3, 4, 5, 6, 7, 8] rfl
        have hDc := hD.sub (ws' := (wX0 cy h q2 q3 q4 q5 q6 q7 q8 q9 c0 c1 c2 c3 c4 c5 c6 c7 c8 c9 c10 c11)) [0, 1, 2, 3, 4, 5, 6, 7, 8] (by decide) rfl
        have hKc := hK.sub (tys' := [(cy, .int)]) [0] rfl
        have hFc := va_free (wc := (wX0 cy h q2 q3 q4 q5 q6 q7 q8 q9 c0 c1 c2 c3 c4 c5 c6 c7 c8 c9 c10 c11)) hD hS hA [0, 1, 2, 3, 4, 5, 6, 7, 8] rfl
        refine va_calli (va_runV (As := [.int c1]) (rest := []) ⟨hx, hb, hml, hown, hts⟩ (c_X0_countWays N l dC dI cy h q2 q3 q4 q5 q6 q7 q8 q9 H.size c0 c1 c2 c3 c4 c5 c6 c7 c8 c9 c10 c11 c1 u50 hu50) (cwV 1 hts gX0_refuseHand_X0_countWays rfl rfl rfl (by decide +kernel) ⟨Nat.le_of_ble_eq_true rfl, Nat.le_of_ble_eq_true rfl⟩) ⟨fun a U g mk q => by obtain ⟨q0, q1, qP, qK, qD⟩ := q; exact ⟨q0, q1, qP, va_K.moved (u := U) (U := U.calling g mk a) (Vm.Alike.refl U.vm) qK, qD⟩, va_recv hKc hPc (ci := 0) (q0 := 0) rfl rfl, fun U hU hW => ⟨rfl, by rw [hU], by rw [hU]; exact hPc, va_K.moved hW.alike hKc, hDc.weaken (fun _ _ _ _ => trivial)⟩⟩ rfl rfl hl.1 rfl (lv_room (Nat.le_of_ble_eq_true rfl)) dX0_refuseHand_50 ⟨Nat.zero_le _, Nat.zero_le _⟩) hS (fun q _ h => hFc q h) hFc (fun r_50 uu_ t H1 locs ht hvm hw hB hz1 hk1 hS => ?_)
        replace hw := hw.symm
        subst hw
        obtain ⟨hP1, -, hD1⟩ := hB
        rw [ht] at hP1
        obtain ⟨hP, hD⟩ := va_join (wr := []) (w1 := (wX0 cy h q2 q3 q4 q5 q6 q7 q8 q9 c0 c1 c2 c3 c4 u50.2.1 u50.2.2.1 u50.2.2.2 c8 c9 c10 c11)) hP hD [0, 1, 2, 3, 4, 5, 6, 7, 8] [] rfl rfl (by decide) (by decide) hk1 hFc hP1 hD1
        clear hk1 hz1 hP1 hD1 ht hPc hDc hFc
        generalize H1 = H at hP hS ⊢
        have hP : va_P (dC, dI) vwCl (wX0 cy h q2 q3 q4 q5 q6 q7 q8 q9 c0 c1 c2 c3 c4 u50.2.1 u50.2.2.1 u50.2.2.2 c8 c9 c10 c11) H := hP
        have hD : va_D A (wX0 cy h q2 q3 q4 q5 q6 q7 q8 q9 c0 c1 c2 c3 c4 u50.2.1 u50.2.2.1 u50.2.2.2 c8 c9 c10 c11) := hD
        refine lv_if_ne (tgt := 61) hx hb dX0_refuseHand_53 (by decide) (fun c_53 => ?_) (fun c_53 => ?_)
        · replace hf := (if_neg c_53).symm.trans hf
          refine lv_iconst (v := (0 : Int32)) hx hb dX0_refuseHand_61 (by decide) ?_
          have hres := Option.some.inj hf
          subst hres
          have hP9 := hP.sub (ws' := (wX0 cy h q2 q3 q4 q5 q6 q7 q8 q9 c0 c1 c2 c3 c4 u50.2.1 u50.2.2.1 u50.2.2.2 c8 c9 c10 c11)) [0, 1, 2, 3, 4, 5, 6, 7, 8] rfl
          have hD9 := hD.sub (ws' := (wX0 cy h q2 q3 q4 q5 q6 q7 q8 q9 c0 c1 c2 c3 c4 u50.2.1 u50.2.2.1 u50.2.2.2 c8 c9 c10 c11)) [0, 1, 2, 3, 4, 5, 6, 7, 8] (by decide) rfl
          have hK9 := hK.sub (tys' := [(cy, .int)]) [0] rfl
          exact W.iret (v := (0 : Int32)) hx hb hr (fun t ht hW => ⟨⟨(0 : Int32), (), rfl, rfl, by rw [ht]; exact hP9, va_K.moved hW.alike hK9, hD9⟩, hS.F ht⟩) hS.2.2 dX0_refuseHand_62
        · replace hf := (if_pos c_53).symm.trans hf
          refine lv_bipush (v := (-5 : Int32)) hx hb dX0_refuseHand_56 (by decide) ?_
          refine lv_goto (tgt := 62) hx hb dX0_refuseHand_58 (by decide) ?_
          have hres := Option.some.inj hf
          subst hres
          have hP9 := hP.sub (ws' := (wX0 cy h q2 q3 q4 q5 q6 q7 q8 q9 c0 c1 c2 c3 c4 u50.2.1 u50.2.2.1 u50.2.2.2 c8 c9 c10 c11)) [0, 1, 2, 3, 4, 5, 6, 7, 8] rfl
          have hD9 := hD.sub (ws' := (wX0 cy h q2 q3 q4 q5 q6 q7 q8 q9 c0 c1 c2 c3 c4 u50.2.1 u50.2.2.1 u50.2.2.2 c8 c9 c10 c11)) [0, 1, 2, 3, 4, 5, 6, 7, 8] (by decide) rfl
          have hK9 := hK.sub (tys' := [(cy, .int)]) [0] rfl
          exact W.iret (v := (-5 : Int32)) hx hb hr (fun t ht hW => ⟨⟨(-5 : Int32), (), rfl, rfl, by rw [ht]; exact hP9, va_K.moved hW.alike hK9, hD9⟩, hS.F ht⟩) hS.2.2 dX0_refuseHand_62
      · replace hf := (if_neg c_25).symm.trans hf
        refine lv_aload_n hx hb dX0_refuseHand_28 rfl (lv_at hl 0 rfl) ?_
        refine lv_iload_n hx hb dX0_refuseHand_29 rfl (lv_at hl 1 rfl) ?_
        refine lv_aload_n hx hb dX0_refuseHand_30 rfl (lv_at hl 0 rfl) ?_
        refine va_get (D := (dC, dI)) (ci := 0) (v := .ref q3) (C := RX0) (T := TX0) (N := 12) hx hb hts (by decide +kernel) hown hK hP 0 rfl rfl 3 (by decide) (hts (.fieldLink RX0 13 "GiftLots" "hand" "[I") (by decide +kernel)) (fun _ h9 => h9) rfl dX0_refuseHand_31 ?_
        refine lv_iload_n hx hb dX0_refuseHand_34 rfl (lv_at hl 1 rfl) ?_
        obtain ⟨hi35, hf⟩ := z_gx_some hf
        refine va_iald hx hb hK hP 2 0 rfl rfl hi35 dX0_refuseHand_35 ?_
        obtain ⟨u36, hu36, hf⟩ := z_ob_some hf
        have hPc := hP.sub (ws' := (wX0 cy h q2 q3 q4 q5 q6 q7 q8 q9 c0 c1 c2 c3 c4 c5 c6 c7 c8 c9 c10 c11)) [0, 1, 2, 3, 4, 5, 6, 7, 8] rfl
        have hDc := hD.sub (ws' := (wX0 cy h q2 q3 q4 q5 q6 q7 q8 q9 c0 c1 c2 c3 c4 c5 c6 c7 c8 c9 c10 c11)) [0, 1, 2, 3, 4, 5, 6, 7, 8] (by decide) rfl
        have hKc := hK.sub (tys' := [(cy, .int)]) [0] rfl
        have hFc := va_free (wc := (wX0 cy h q2 q3 q4 q5 q6 q7 q8 q9 c0 c1 c2 c3 c4 c5 c6 c7 c8 c9 c10 c11)) hD hS hA [0, 1, 2, 3, 4, 5, 6, 7, 8] rfl
        refine va_callv (va_runV (As := [.int x1, .int (c3 (x1).toNatClampNeg)]) (rest := []) ⟨hx, hb, hml, hown, hts⟩ (c_X0_narrow N l dC dI cy h q2 q3 q4 q5 q6 q7 q8 q9 H.size c0 c1 c2 c3 c4 c5 c6 c7 c8 c9 c10 c11 x1 (c3 (x1).toNatClampNeg) u36 hu36) (cwV 2 hts gX0_refuseHand_X0_narrow rfl rfl rfl (by decide +kernel) ⟨Nat.le_of_ble_eq_true rfl, Nat.le_of_ble_eq_true rfl⟩) ⟨fun a U g mk q => by obtain ⟨q0, q1, qP, qK, qD⟩ := q; exact ⟨q0, q1, qP, va_K.moved (u := U) (U := U.calling g mk a) (Vm.Alike.refl U.vm) qK, qD⟩, va_recv hKc hPc (ci := 0) (q0 := 0) rfl rfl, fun U hU hW => ⟨rfl, by rw [hU], by rw [hU]; exact hPc, va_K.moved hW.alike hKc, hDc.weaken (fun _ _ _ _ => trivial)⟩⟩ rfl rfl hl.1 rfl (lv_room (Nat.le_of_ble_eq_true rfl)) dX0_refuseHand_36 ⟨Nat.zero_le _, Nat.zero_le _⟩) hS (fun q _ h => hFc q h) hFc (fun uu_ t H1 locs ht hvm hw hB hz1 hk1 hS => ?_)
        obtain ⟨hP1, -, hD1⟩ := hB
        rw [ht] at hP1
        obtain ⟨hP, hD⟩ := va_join (wr := []) (w1 := (wX0 cy h q2 q3 q4 q5 q6 q7 q8 q9 c0 c1 c2 c3 u36 c5 c6 c7 c8 c9 c10 c11)) hP hD [0, 1, 2, 3, 4, 5, 6, 7, 8] [] rfl rfl (by decide) (by decide) hk1 hFc hP1 hD1
        clear hk1 hz1 hP1 hD1 ht hPc hDc hFc
        generalize H1 = H at hP hS ⊢
        have hP : va_P (dC, dI) vwCl (wX0 cy h q2 q3 q4 q5 q6 q7 q8 q9 c0 c1 c2 c3 u36 c5 c6 c7 c8 c9 c10 c11) H := hP
        have hD : va_D A (wX0 cy h q2 q3 q4 q5 q6 q7 q8 q9 c0 c1 c2 c3 u36 c5 c6 c7 c8 c9 c10 c11) := hD
        refine lv_iinc (v := x1 + (1 : Int32)) (lv' := [(1, .int (x1 + (1 : Int32))), (0, .ref h)]) hx hb dX0_refuseHand_39 hl (k := 1) rfl rfl (by decide) rfl (fun ls hl => ?_)
        refine lv_goto (tgt := 20) hx hb dX0_refuseHand_42 (by decide) ?_
        exact ih (x1 + (1 : Int32)) u36 c5 c6 c7 _ _ _ hf hP hD hS (lv_sub hl [1, 0] rfl)
  unfold f_X0_refuseHand at hf
  refine lv_aload_n hx hb dX0_refuseHand_0 rfl (lv_at hl 0 rfl) ?_
  refine lv_aload_n hx hb dX0_refuseHand_1 rfl (lv_at hl 0 rfl) ?_
  refine va_get (D := (dC, dI)) (ci := 0) (v := .int c0) (C := RX0) (T := TX0) (N := 12) hx hb hts (by decide +kernel) hown hK hP 0 rfl rfl 0 (by decide) (hts (.fieldLink RX0 38 "GiftLots" "count" "I") (by decide +kernel)) (fun _ h9 => h9) rfl dX0_refuseHand_2 ?_
  obtain ⟨u5, hu5, hf⟩ := z_ob_some hf
  have hPc := hP.sub (ws' := (wX0 cy h q2 q3 q4 q5 q6 q7 q8 q9 c0 c1 c2 c3 c4 c5 c6 c7 c8 c9 c10 c11)) [0, 1, 2, 3, 4, 5, 6, 7, 8] rfl
  have hDc := hD.sub (ws' := (wX0 cy h q2 q3 q4 q5 q6 q7 q8 q9 c0 c1 c2 c3 c4 c5 c6 c7 c8 c9 c10 c11)) [0, 1, 2, 3, 4, 5, 6, 7, 8] (by decide) rfl
  have hKc := hK.sub (tys' := [(cy, .int)]) [0] rfl
  have hFc := va_free (wc := (wX0 cy h q2 q3 q4 q5 q6 q7 q8 q9 c0 c1 c2 c3 c4 c5 c6 c7 c8 c9 c10 c11)) hD hS hA [0, 1, 2, 3, 4, 5, 6, 7, 8] rfl
  refine va_calli (va_runV (As := [.int c0]) (rest := []) ⟨hx, hb, hml, hown, hts⟩ (c_X0_givesBelow N l dC dI cy h q2 q3 q4 q5 q6 q7 q8 q9 s.heap.size c0 c1 c2 c3 c4 c5 c6 c7 c8 c9 c10 c11 c0 u5 hu5) (cwV 1 hts gX0_refuseHand_X0_givesBelow rfl rfl rfl (by decide +kernel) ⟨Nat.le_of_ble_eq_true rfl, Nat.le_of_ble_eq_true rfl⟩) ⟨fun a U g mk q => by obtain ⟨q0, q1, qP, qK, qD⟩ := q; exact ⟨q0, q1, qP, va_K.moved (u := U) (U := U.calling g mk a) (Vm.Alike.refl U.vm) qK, qD⟩, va_recv hKc hPc (ci := 0) (q0 := 0) rfl rfl, fun U hU hW => ⟨rfl, by rw [hU], by rw [hU]; exact hPc, va_K.moved hW.alike hKc, hDc.weaken (fun _ _ _ _ => trivial)⟩⟩ rfl rfl hl.1 rfl (lv_room (Nat.le_of_ble_eq_true rfl)) dX0_refuseHand_5 ⟨Nat.zero_le _, Nat.zero_le _⟩) hS (fun q _ h => hFc q h) hFc (fun r_5 uu_ t H1 locs ht hvm hw hB hz1 hk1 hS => ?_)
  replace hw := hw.symm
  subst hw
  obtain ⟨hP1, -, hD1⟩ := hB
  rw [ht] at hP1
  obtain ⟨hP, hD⟩ := va_join (wr := []) (w1 := (wX0 cy h q2 q3 q4 q5 q6 q7 q8 q9 c0 c1 c2 c3 c4 c5 c6 c7 c8 c9 c10 c11)) hP hD [0, 1, 2, 3, 4, 5, 6, 7, 8] [] rfl rfl (by decide) (by decide) hk1 hFc hP1 hD1
  clear hk1 hz1 hP1 hD1 ht hPc hDc hFc
  generalize H1 = H at hP hS ⊢
  have hP : va_P (dC, dI) vwCl (wX0 cy h q2 q3 q4 q5 q6 q7 q8 q9 c0 c1 c2 c3 c4 c5 c6 c7 c8 c9 c10 c11) H := hP
  have hD : va_D A (wX0 cy h q2 q3 q4 q5 q6 q7 q8 q9 c0 c1 c2 c3 c4 c5 c6 c7 c8 c9 c10 c11) := hD
  refine lv_if_ne (tgt := 14) hx hb dX0_refuseHand_8 (by decide) (fun c_8 => ?_) (fun c_8 => ?_)
  · replace hf := (if_neg c_8).symm.trans hf
    refine lv_aload_n hx hb dX0_refuseHand_14 rfl (lv_at hl 0 rfl) ?_
    obtain ⟨u15, hu15, hf⟩ := z_ob_some hf
    have hPc := hP.sub (ws' := (wX0 cy h q2 q3 q4 q5 q6 q7 q8 q9 c0 c1 c2 c3 c4 c5 c6 c7 c8 c9 c10 c11)) [0, 1, 2, 3, 4, 5, 6, 7, 8] rfl
    have hDc := hD.sub (ws' := (wX0 cy h q2 q3 q4 q5 q6 q7 q8 q9 c0 c1 c2 c3 c4 c5 c6 c7 c8 c9 c10 c11)) [0, 1, 2, 3, 4, 5, 6, 7, 8] (by decide) rfl
    have hKc := hK.sub (tys' := [(cy, .int)]) [0] rfl
    have hFc := va_free (wc := (wX0 cy h q2 q3 q4 q5 q6 q7 q8 q9 c0 c1 c2 c3 c4 c5 c6 c7 c8 c9 c10 c11)) hD hS hA [0, 1, 2, 3, 4, 5, 6, 7, 8] rfl
    refine va_callv (va_runV (As := []) (rest := []) ⟨hx, hb, hml, hown, hts⟩ (c_X0_openRows N l dC dI cy h q2 q3 q4 q5 q6 q7 q8 q9 H.size c0 c1 c2 c3 c4 c5 c6 c7 c8 c9 c10 c11 u15 hu15) (cwV 0 hts gX0_refuseHand_X0_openRows rfl rfl rfl (by decide +kernel) ⟨Nat.le_of_ble_eq_true rfl, Nat.le_of_ble_eq_true rfl⟩) ⟨fun a U g mk q => by obtain ⟨q0, q1, qP, qK, qD⟩ := q; exact ⟨q0, q1, qP, va_K.moved (u := U) (U := U.calling g mk a) (Vm.Alike.refl U.vm) qK, qD⟩, va_recv hKc hPc (ci := 0) (q0 := 0) rfl rfl, fun U hU hW => ⟨rfl, by rw [hU], by rw [hU]; exact hPc, va_K.moved hW.alike hKc, hDc.weaken (fun _ _ _ _ => trivial)⟩⟩ rfl rfl hl.1 rfl (lv_room (Nat.le_of_ble_eq_true rfl)) dX0_refuseHand_15 ⟨Nat.zero_le _, Nat.zero_le _⟩) hS (fun q _ h => hFc q h) hFc (fun uu_ t H1 locs ht hvm hw hB hz1 hk1 hS => ?_)
    obtain ⟨hP1, -, hD1⟩ := hB
    rw [ht] at hP1
    obtain ⟨hP, hD⟩ := va_join (wr := []) (w1 := (wX0 cy h q2 q3 q4 q5 q6 q7 q8 q9 c0 c1 c2 c3 u15 c5 c6 c7 c8 c9 c10 c11)) hP hD [0, 1, 2, 3, 4, 5, 6, 7, 8] [] rfl rfl (by decide) (by decide) hk1 hFc hP1 hD1
    clear hk1 hz1 hP1 hD1 ht hPc hDc hFc
    generalize H1 = H at hP hS ⊢
    have hP : va_P (dC, dI) vwCl (wX0 cy h q2 q3 q4 q5 q6 q7 q8 q9 c0 c1 c2 c3 u15 c5 c6 c7 c8 c9 c10 c11) H := hP
    have hD : va_D A (wX0 cy h q2 q3 q4 q5 q6 q7 q8 q9 c0 c1 c2 c3 u15 c5 c6 c7 c8 c9 c10 c11) := hD
    refine lv_iconst (v := (0 : Int32)) hx hb dX0_refuseHand_18 (by decide) ?_
    refine lv_istore_n (lv' := [(1, .int (0 : Int32)), (0, .ref h)]) hx hb dX0_refuseHand_19 rfl hl (by decide) rfl (fun ls hl => ?_)
    exact B20 N (0 : Int32) u15 c5 c6 c7 _ _ _ hf hP hD hS (lv_sub hl [1, 0] rfl)
  · replace hf := (if_pos c_8).symm.trans hf
    refine lv_bipush (v := (-3 : Int32)) hx hb dX0_refuseHand_11 (by decide) ?_
    have hres := Option.some.inj hf
    subst hres
    have hP9 := hP.sub (ws' := (wX0 cy h q2 q3 q4 q5 q6 q7 q8 q9 c0 c1 c2 c3 c4 c5 c6 c7 c8 c9 c10 c11)) [0, 1, 2, 3, 4, 5, 6, 7, 8] rfl
    have hD9 := hD.sub (ws' := (wX0 cy h q2 q3 q4 q5 q6 q7 q8 q9 c0 c1 c2 c3 c4 c5 c6 c7 c8 c9 c10 c11)) [0, 1, 2, 3, 4, 5, 6, 7, 8] (by decide) rfl
    have hK9 := hK.sub (tys' := [(cy, .int)]) [0] rfl
    exact W.iret (v := (-3 : Int32)) hx hb hr (fun t ht hW => ⟨⟨(-3 : Int32), (), rfl, rfl, by rw [ht]; exact hP9, va_K.moved hW.alike hK9, hD9⟩, hS.F ht⟩) hS.2.2 dX0_refuseHand_13

set_option maxRecDepth 20000 in
theorem ggX0_rank_X0_refuseHand : GoodIn wsX0_rank wsX0_refuseHand := goodIn_r _ [9, 1, 2, 4, 10, 11, 12, 8, 13, 14, 15, 16, 17, 18, 3, 19, 20, 21, 22, 23, 24, 25, 26, 27, 28, 29, 30, 31, 32, 33, 34, 35, 36, 37, 38, 39, 40, 41, 42, 43, 44, 45, 46, 47, 48, 49, 50, 51, 52, 53, 54, 55, 56, 57, 58, 59, 60, 61, 62, 63, 64, 65, 66, 67, 68, 69, 70, 71, 72, 73, 74, 75, 76, 77, 78, 79, 80, 81, 82] (by decide +kernel) (by decide +kernel)
set_option maxRecDepth 20000 in
theorem gX0_rank_X0_refuseHand : GoodIn wsX0_rank (wsV RX0 109 RX0 yX0_refuseHand wsX0_refuseHand) := goodIn_app (goodIn_of _ (by decide +kernel)) ggX0_rank_X0_refuseHand
set_option maxRecDepth 20000 in
theorem ggX0_rank_X0_openRows : GoodIn wsX0_rank wsX0_openRows := goodIn_r _ [17, 18, 3, 19, 20, 21, 22, 71, 72, 73, 74, 75, 76, 77, 78, 79, 80, 81, 82] (by decide +kernel) (by decide +kernel)
set_option maxRecDepth 20000 in
theorem gX0_rank_X0_openRows : GoodIn wsX0_rank (wsV RX0 60 RX0 yX0_openRows wsX0_openRows) := goodIn_app (goodIn_of _ (by decide +kernel)) ggX0_rank_X0_openRows
set_option maxRecDepth 20000 in
theorem ggX0_rank_X0_bit : GoodIn wsX0_rank wsX0_bit := goodIn_r _ [33] (by decide +kernel) (by decide +kernel)
set_option maxRecDepth 20000 in
theorem gX0_rank_X0_bit : GoodIn wsX0_rank (va_wsS RX0 50 yX0_bit wsX0_bit) := goodIn_app (goodIn_of _ (by decide +kernel)) ggX0_rank_X0_bit
set_option maxRecDepth 20000 in
theorem ggX0_rank_X0_countWays : GoodIn wsX0_rank wsX0_countWays := goodIn_r _ [37, 38, 39, 40, 41, 8, 42, 43, 1, 44, 45, 46, 47, 48, 49, 50, 51, 52, 31, 32, 33, 53, 54, 55, 56, 57, 58, 59, 3, 60, 61, 62, 63, 64, 65, 66, 67, 68, 69, 70, 71, 72, 73, 74, 75, 76, 77, 78, 79, 80, 81, 82] (by decide +kernel) (by decide +kernel)
set_option maxRecDepth 20000 in
theorem gX0_rank_X0_countWays : GoodIn wsX0_rank (wsV RX0 63 RX0 yX0_countWays wsX0_countWays) := goodIn_app (goodIn_of _ (by decide +kernel)) ggX0_rank_X0_countWays
theorem dX0_rank_0 : decode cX0_rank 0 = .ok (.aload_n 0, 1) := by decide +kernel
theorem dX0_rank_1 : decode cX0_rank 1 = .ok (.invokevirtual 109, 3) := by decide +kernel
theorem dX0_rank_4 : decode cX0_rank 4 = .ok (.istore_n 1, 1) := by decide +kernel
theorem dX0_rank_5 : decode cX0_rank 5 = .ok (.iload_n 1, 1) := by decide +kernel
theorem dX0_rank_6 : decode cX0_rank 6 = .ok (.ifCond .eq 5, 3) := by decide +kernel
theorem dX0_rank_9 : decode cX0_rank 9 = .ok (.iload_n 1, 1) := by decide +kernel
theorem dX0_rank_10 : decode cX0_rank 10 = .ok (.ireturn, 1) := by decide +kernel
theorem dX0_rank_11 : decode cX0_rank 11 = .ok (.aload_n 0, 1) := by decide +kernel
theorem dX0_rank_12 : decode cX0_rank 12 = .ok (.invokevirtual 60, 3) := by decide +kernel
theorem dX0_rank_15 : decode cX0_rank 15 = .ok (.iconst 0, 1) := by decide +kernel
theorem dX0_rank_16 : decode cX0_rank 16 = .ok (.istore_n 2, 1) := by decide +kernel
theorem dX0_rank_17 : decode cX0_rank 17 = .ok (.iconst 0, 1) := by decide +kernel
theorem dX0_rank_18 : decode cX0_rank 18 = .ok (.istore_n 3, 1) := by decide +kernel
theorem dX0_rank_19 : decode cX0_rank 19 = .ok (.iload_n 3, 1) := by decide +kernel
theorem dX0_rank_20 : decode cX0_rank 20 = .ok (.aload_n 0, 1) := by decide +kernel
theorem dX0_rank_21 : decode cX0_rank 21 = .ok (.getfield 38, 3) := by decide +kernel
theorem dX0_rank_24 : decode cX0_rank 24 = .ok (.if_icmp .ge 63, 3) := by decide +kernel
theorem dX0_rank_27 : decode cX0_rank 27 = .ok (.aload_n 0, 1) := by decide +kernel
theorem dX0_rank_28 : decode cX0_rank 28 = .ok (.getfield 13, 3) := by decide +kernel
theorem dX0_rank_31 : decode cX0_rank 31 = .ok (.iload_n 3, 1) := by decide +kernel
theorem dX0_rank_32 : decode cX0_rank 32 = .ok (.iaload, 1) := by decide +kernel
theorem dX0_rank_33 : decode cX0_rank 33 = .ok (.invokestatic 50, 3) := by decide +kernel
theorem dX0_rank_36 : decode cX0_rank 36 = .ok (.istore 4, 2) := by decide +kernel
theorem dX0_rank_38 : decode cX0_rank 38 = .ok (.aload_n 0, 1) := by decide +kernel
theorem dX0_rank_39 : decode cX0_rank 39 = .ok (.getfield 16, 3) := by decide +kernel
theorem dX0_rank_42 : decode cX0_rank 42 = .ok (.iload_n 3, 1) := by decide +kernel
theorem dX0_rank_43 : decode cX0_rank 43 = .ok (.iaload, 1) := by decide +kernel
theorem dX0_rank_44 : decode cX0_rank 44 = .ok (.istore 5, 2) := by decide +kernel
theorem dX0_rank_46 : decode cX0_rank 46 = .ok (.aload_n 0, 1) := by decide +kernel
theorem dX0_rank_47 : decode cX0_rank 47 = .ok (.getfield 16, 3) := by decide +kernel
theorem dX0_rank_50 : decode cX0_rank 50 = .ok (.iload_n 3, 1) := by decide +kernel
theorem dX0_rank_51 : decode cX0_rank 51 = .ok (.iload 5, 2) := by decide +kernel
theorem dX0_rank_53 : decode cX0_rank 53 = .ok (.iload 4, 2) := by decide +kernel
theorem dX0_rank_55 : decode cX0_rank 55 = .ok (.iconst 1, 1) := by decide +kernel
theorem dX0_rank_56 : decode cX0_rank 56 = .ok (.isub, 1) := by decide +kernel
theorem dX0_rank_57 : decode cX0_rank 57 = .ok (.iand, 1) := by decide +kernel
theorem dX0_rank_58 : decode cX0_rank 58 = .ok (.iastore, 1) := by decide +kernel
theorem dX0_rank_59 : decode cX0_rank 59 = .ok (.iload_n 2, 1) := by decide +kernel
theorem dX0_rank_60 : decode cX0_rank 60 = .ok (.aload_n 0, 1) := by decide +kernel
theorem dX0_rank_61 : decode cX0_rank 61 = .ok (.aload_n 0, 1) := by decide +kernel
theorem dX0_rank_62 : decode cX0_rank 62 = .ok (.getfield 57, 3) := by decide +kernel
theorem dX0_rank_65 : decode cX0_rank 65 = .ok (.invokevirtual 63, 3) := by decide +kernel
theorem dX0_rank_68 : decode cX0_rank 68 = .ok (.iadd, 1) := by decide +kernel
theorem dX0_rank_69 : decode cX0_rank 69 = .ok (.istore_n 2, 1) := by decide +kernel
theorem dX0_rank_70 : decode cX0_rank 70 = .ok (.aload_n 0, 1) := by decide +kernel
theorem dX0_rank_71 : decode cX0_rank 71 = .ok (.getfield 16, 3) := by decide +kernel
theorem dX0_rank_74 : decode cX0_rank 74 = .ok (.iload_n 3, 1) := by decide +kernel
theorem dX0_rank_75 : decode cX0_rank 75 = .ok (.iload 5, 2) := by decide +kernel
theorem dX0_rank_77 : decode cX0_rank 77 = .ok (.iload 4, 2) := by decide +kernel
theorem dX0_rank_79 : decode cX0_rank 79 = .ok (.iand, 1) := by decide +kernel
theorem dX0_rank_80 : decode cX0_rank 80 = .ok (.iastore, 1) := by decide +kernel
theorem dX0_rank_81 : decode cX0_rank 81 = .ok (.iinc 3 1, 3) := by decide +kernel
theorem dX0_rank_84 : decode cX0_rank 84 = .ok (.goto (-65), 3) := by decide +kernel
theorem dX0_rank_87 : decode cX0_rank 87 = .ok (.iload_n 2, 1) := by decide +kernel
theorem dX0_rank_88 : decode cX0_rank 88 = .ok (.ireturn, 1) := by decide +kernel
abbrev rm_X0_rank : Room := { frames := 5, cells := 0, slots := 0, locals := 117 }
set_option maxHeartbeats 4000000 in
set_option maxRecDepth 100000 in
theorem c_X0_rank (N : Nat) (l : Launch) (dC : Nat → ClassId) (dI : Nat → Nat → Nat) (cy : ClassId) (h q2 q3 q4 q5 q6 q7 q8 q9 : Nat) (sz : Nat) (c0 : Int32) (c1 : Int32) (c2 : Nat → Int32) (c3 : Nat → Int32) (c4 : Nat → Int32) (c5 : Nat → Int32) (c6 : Nat → Int32) (c7 : Nat → Int32) (c8 : Nat → Int32) (c9 : Nat → Int32) (c10 : Int32) (c11 : Int32) (res : Int32 × (Nat → Int32) × (Nat → Int32) × (Nat → Int32) × (Nat → Int32)) (hf : f_X0_rank N c0 c1 c2 c3 c4 c5 c6 c7 = some res) : Met l yX0_rank wsX0_rank rm_X0_rank (va_Pc [.ref h] (fun U => U.heap.size = sz ∧ va_P (dC, dI) vwCl (wX0 cy h q2 q3 q4 q5 q6 q7 q8 q9 c0 c1 c2 c3 c4 c5 c6 c7 c8 c9 c10 c11) U.heap ∧ va_K (dC, dI) vwCl [(cy, .int)] U ∧ va_D (fun _ => True) (wX0 cy h q2 q3 q4 q5 q6 q7 q8 q9 c0 c1 c2 c3 c4 c5 c6 c7 c8 c9 c10 c11))) (z_qI dC dI cy res.1 (wX0 cy h q2 q3 q4 q5 q6 q7 q8 q9 c0 c1 c2 c3 res.2.1 res.2.2.1 res.2.2.2.1 res.2.2.2.2 c8 c9 c10 c11) (va_A (wX0 cy h q2 q3 q4 q5 q6 q7 q8 q9 c0 c1 c2 c3 c4 c5 c6 c7 c8 c9 c10 c11) sz)) 0 0 (va_A (wX0 cy h q2 q3 q4 q5 q6 q7 q8 q9 c0 c1 c2 c3 c4 c5 c6 c7 c8 c9 c10 c11) sz) := by
  refine Met.ofW (cc := cX0_rank) (maxL := 6) (ret := (some .int)) (by decide) rfl ?_
  intro p e s m args below meth c s₁ B hml hv
  obtain ⟨rfl, hsz, hP, hK, hD0⟩ := hv
  have hx := B.exec
  have hb := B.bytes
  have hr := B.returns
  have hts := atoms_spec (ws := wsX0_rank) B.pre
  have hown : s.vm.findClass RX0 = some m.cls := findClass_of_methodNamed B.named
  have hlocks := B.notSynchronized
  subst hsz
  have hD := hD0.self (sz := s.heap.size)
  generalize hAe : va_A (wX0 cy h q2 q3 q4 q5 q6 q7 q8 q9 c0 c1 c2 c3 c4 c5 c6 c7 c8 c9 c10 c11) s.heap.size = A at hD ⊢
  have hA : ∀ q : Nat, s.heap.size ≤ q → A q := fun q h => by rw [← hAe]; exact Or.inr h
  have hS : va_S A s.heap s.heap [] := va_S.rf
  have hP : va_P (dC, dI) vwCl (wX0 cy h q2 q3 q4 q5 q6 q7 q8 q9 c0 c1 c2 c3 c4 c5 c6 c7 c8 c9 c10 c11) s.heap := hP
  have hl := lv_entry ([.ref h]) (n := 6) (Nat.le_of_ble_eq_true rfl)
  rw [lg_entry_eq]
  generalize (lg_sl ([.ref h]) ++ List.replicate (6 - (lg_sl ([.ref h])).length) Slot.unset).toArray = ls at hl ⊢
  have hl : lv_has ls 6 [(0, .ref h)] := hl
  have B19 : ∀ n : Nat, ∀ (x2 x3 : Int32) (c4 : Nat → Int32) (c5 : Nat → Int32) (c6 : Nat → Int32) (c7 : Nat → Int32) (H : Heap) (locs : List Loc) (ls : Array Slot), f_X0_rank_b19 N c0 c1 c2 c3 n x2 x3 c4 c5 c6 c7 = some res → va_P (dC, dI) vwCl (wX0 cy h q2 q3 q4 q5 q6 q7 q8 q9 c0 c1 c2 c3 c4 c5 c6 c7 c8 c9 c10 c11) H → va_D A (wX0 cy h q2 q3 q4 q5 q6 q7 q8 q9 c0 c1 c2 c3 c4 c5 c6 c7 c8 c9 c10 c11) → va_S A s.heap H locs → lv_has ls 6 [(0, .ref h), (2, .int x2), (3, .int x3)] → W p l e rm_X0_rank s m ([.ref h] : List Value).toArray below meth c H locs 0 0 (MQ below (z_qI dC dI cy res.1 (wX0 cy h q2 q3 q4 q5 q6 q7 q8 q9 c0 c1 c2 c3 res.2.1 res.2.2.1 res.2.2.2.1 res.2.2.2.2 c8 c9 c10 c11) A) ([.ref h] : List Value).toArray s 0 0 A) (F0 m 19 ls []) := by
    clear hf hl hP hD hS
    intro n
    induction n with
    | zero =>
      intro x2 x3 c4 c5 c6 c7 H locs ls hf hP hD hS hl
      rw [f_X0_rank_b19] at hf
      cases hf
    | succ n ih =>
      intro x2 x3 c4 c5 c6 c7 H locs ls hf hP hD hS hl
      rw [f_X0_rank_b19] at hf
      refine lv_iload_n hx hb dX0_rank_19 rfl (lv_at hl 2 rfl) ?_
      refine lv_aload_n hx hb dX0_rank_20 rfl (lv_at hl 0 rfl) ?_
      refine va_get (D := (dC, dI)) (ci := 0) (v := .int c0) (C := RX0) (T := TX0) (N := 12) hx hb hts (by decide +kernel) hown hK hP 0 rfl rfl 0 (by decide) (hts (.fieldLink RX0 38 "GiftLots" "count" "I") (by decide +kernel)) (fun _ h9 => h9) rfl dX0_rank_21 ?_
      refine lv_icmp_ge (tgt := 87) hx hb dX0_rank_24 (by decide) (fun c_24 => ?_) (fun c_24 => ?_)
      · replace hf := (if_pos c_24).symm.trans hf
        refine lv_iload_n hx hb dX0_rank_87 rfl (lv_at hl 1 rfl) ?_
        have hres := Option.some.inj hf
        subst hres
        have hP9 := hP.sub (ws' := (wX0 cy h q2 q3 q4 q5 q6 q7 q8 q9 c0 c1 c2 c3 c4 c5 c6 c7 c8 c9 c10 c11)) [0, 1, 2, 3, 4, 5, 6, 7, 8] rfl
        have hD9 := hD.sub (ws' := (wX0 cy h q2 q3 q4 q5 q6 q7 q8 q9 c0 c1 c2 c3 c4 c5 c6 c7 c8 c9 c10 c11)) [0, 1, 2, 3, 4, 5, 6, 7, 8] (by decide) rfl
        have hK9 := hK.sub (tys' := [(cy, .int)]) [0] rfl
        exact W.iret (v := x2) hx hb hr (fun t ht hW => ⟨⟨x2, (), rfl, rfl, by rw [ht]; exact hP9, va_K.moved hW.alike hK9, hD9⟩, hS.F ht⟩) hS.2.2 dX0_rank_88
      · replace hf := (if_neg c_24).symm.trans hf
        refine lv_aload_n hx hb dX0_rank_27 rfl (lv_at hl 0 rfl) ?_
        refine va_get (D := (dC, dI)) (ci := 0) (v := .ref q3) (C := RX0) (T := TX0) (N := 12) hx hb hts (by decide +kernel) hown hK hP 0 rfl rfl 3 (by decide) (hts (.fieldLink RX0 13 "GiftLots" "hand" "[I") (by decide +kernel)) (fun _ h9 => h9) rfl dX0_rank_28 ?_
        refine lv_iload_n hx hb dX0_rank_31 rfl (lv_at hl 2 rfl) ?_
        obtain ⟨hi32, hf⟩ := z_gx_some hf
        refine va_iald hx hb hK hP 2 0 rfl rfl hi32 dX0_rank_32 ?_
        obtain ⟨u33, hu33, hf⟩ := z_ob_some hf
        have hPc := hP.sub (ws' := ([] : va_W)) [] rfl
        have hDc := hD.sub (ws' := ([] : va_W)) [] (by decide) rfl
        have hKc := hK.sub (tys' := [(cy, .int)]) [0] rfl
        have hFc := va_free (wc := ([] : va_W)) hD hS hA [] rfl
        refine va_calli (va_runS (As := [.int (c3 (x3).toNatClampNeg)]) (rest := []) ⟨hx, hb, hml, hown, hts⟩ (c_X0_bit N l dC dI cy H.size (c3 (x3).toNatClampNeg) u33 hu33) (va_cwS 1 hts gX0_rank_X0_bit rfl rfl rfl (by decide +kernel) ⟨Nat.le_of_ble_eq_true rfl, Nat.le_of_ble_eq_true rfl⟩) ⟨fun a U g mk q => by obtain ⟨q0, q1, qP, qK, qD⟩ := q; exact ⟨q0, q1, qP, va_K.moved (u := U) (U := U.calling g mk a) (Vm.Alike.refl U.vm) qK, qD⟩, fun U hU hW => ⟨rfl, by rw [hU], by rw [hU]; exact hPc, va_K.moved hW.alike hKc, hDc.weaken (fun _ _ _ _ => trivial)⟩⟩ rfl rfl hl.1 rfl (lv_room (Nat.le_of_ble_eq_true rfl)) dX0_rank_33 ⟨Nat.zero_le _, Nat.zero_le _⟩) hS (fun q _ h => hFc q h) hFc (fun r_33 uu_ t H1 locs ht hvm hw hB hz1 hk1 hS => ?_)
        replace hw := hw.symm
        subst hw
        obtain ⟨hP1, -, hD1⟩ := hB
        rw [ht] at hP1
        obtain ⟨hP, hD⟩ := va_join (wr := (wX0 cy h q2 q3 q4 q5 q6 q7 q8 q9 c0 c1 c2 c3 c4 c5 c6 c7 c8 c9 c10 c11)) (w1 := ([] : va_W)) hP hD [] [0, 1, 2, 3, 4, 5, 6, 7, 8] rfl rfl (by decide) (by decide) hk1 hFc hP1 hD1
        clear hk1 hz1 hP1 hD1 ht hPc hDc hFc
        generalize H1 = H at hP hS ⊢
        have hP : va_P (dC, dI) vwCl (wX0 cy h q2 q3 q4 q5 q6 q7 q8 q9 c0 c1 c2 c3 c4 c5 c6 c7 c8 c9 c10 c11) H := hP
        have hD : va_D A (wX0 cy h q2 q3 q4 q5 q6 q7 q8 q9 c0 c1 c2 c3 c4 c5 c6 c7 c8 c9 c10 c11) := hD
        refine lv_istore (lv' := [(4, .int u33), (0, .ref h), (2, .int x2), (3, .int x3)]) hx hb dX0_rank_36 hl (by decide) rfl (fun ls hl => ?_)
        refine lv_aload_n hx hb dX0_rank_38 rfl (lv_at hl 1 rfl) ?_
        refine va_get (D := (dC, dI)) (ci := 0) (v := .ref q4) (C := RX0) (T := TX0) (N := 12) hx hb hts (by decide +kernel) hown hK hP 0 rfl rfl 4 (by decide) (hts (.fieldLink RX0 16 "GiftLots" "rows" "[I") (by decide +kernel)) (fun _ h9 => h9) rfl dX0_rank_39 ?_
        refine lv_iload_n hx hb dX0_rank_42 rfl (lv_at hl 3 rfl) ?_
        obtain ⟨hi43, hf⟩ := z_gx_some hf
        refine va_iald hx hb hK hP 3 0 rfl rfl hi43 dX0_rank_43 ?_
        refine lv_istore (lv' := [(5, .int (c4 (x3).toNatClampNeg)), (4, .int u33), (0, .ref h), (2, .int x2), (3, .int x3)]) hx hb dX0_rank_44 hl (by decide) rfl (fun ls hl => ?_)
        refine lv_aload_n hx hb dX0_rank_46 rfl (lv_at hl 2 rfl) ?_
        refine va_get (D := (dC, dI)) (ci := 0) (v := .ref q4) (C := RX0) (T := TX0) (N := 12) hx hb hts (by decide +kernel) hown hK hP 0 rfl rfl 4 (by decide) (hts (.fieldLink RX0 16 "GiftLots" "rows" "[I") (by decide +kernel)) (fun _ h9 => h9) rfl dX0_rank_47 ?_
        refine lv_iload_n hx hb dX0_rank_50 rfl (lv_at hl 4 rfl) ?_
        refine lv_iload hx hb dX0_rank_51 (lv_at hl 0 rfl) ?_
        refine lv_iload hx hb dX0_rank_53 (lv_at hl 1 rfl) ?_
        refine lv_iconst (v := (1 : Int32)) hx hb dX0_rank_55 (by decide) ?_
        refine lv_isub hx hb dX0_rank_56 ?_
        refine lv_iand hx hb dX0_rank_57 ?_
        obtain ⟨hi58, hf⟩ := z_gx_some hf
        refine va_iast hx hb hK hP hD hS 3 0 rfl rfl hi58 dX0_rank_58 (fun H locs hP hD hS => ?_)
        have hP : va_P (dC, dI) vwCl (wX0 cy h q2 q3 q4 q5 q6 q7 q8 q9 c0 c1 c2 c3 (upd c4 (x3).toNatClampNeg ((c4 (x3).toNatClampNeg) &&& (u33 - (1 : Int32)))) c5 c6 c7 c8 c9 c10 c11) H := hP
        have hD : va_D A (wX0 cy h q2 q3 q4 q5 q6 q7 q8 q9 c0 c1 c2 c3 (upd c4 (x3).toNatClampNeg ((c4 (x3).toNatClampNeg) &&& (u33 - (1 : Int32)))) c5 c6 c7 c8 c9 c10 c11) := hD
        refine lv_iload_n hx hb dX0_rank_59 rfl (lv_at hl 3 rfl) ?_
        refine lv_aload_n hx hb dX0_rank_60 rfl (lv_at hl 2 rfl) ?_
        refine lv_aload_n hx hb dX0_rank_61 rfl (lv_at hl 2 rfl) ?_
        refine va_get (D := (dC, dI)) (ci := 0) (v := .int c1) (C := RX0) (T := TX0) (N := 12) hx hb hts (by decide +kernel) hown hK hP 0 rfl rfl 1 (by decide) (hts (.fieldLink RX0 57 "GiftLots" "shortest" "I") (by decide +kernel)) (fun _ h9 => h9) rfl dX0_rank_62 ?_
        obtain ⟨u65, hu65, hf⟩ := z_ob_some hf
        have hPc := hP.sub (ws' := (wX0 cy h q2 q3 q4 q5 q6 q7 q8 q9 c0 c1 c2 c3 (upd c4 (x3).toNatClampNeg ((c4 (x3).toNatClampNeg) &&& (u33 - (1 : Int32)))) c5 c6 c7 c8 c9 c10 c11)) [0, 1, 2, 3, 4, 5, 6, 7, 8] rfl
        have hDc := hD.sub (ws' := (wX0 cy h q2 q3 q4 q5 q6 q7 q8 q9 c0 c1 c2 c3 (upd c4 (x3).toNatClampNeg ((c4 (x3).toNatClampNeg) &&& (u33 - (1 : Int32)))) c5 c6 c7 c8 c9 c10 c11)) [0, 1, 2, 3, 4, 5, 6, 7, 8] (by decide) rfl
        have hKc := hK.sub (tys' := [(cy, .int)]) [0] rfl
        have hFc := va_free (wc := (wX0 cy h q2 q3 q4 q5 q6 q7 q8 q9 c0 c1 c2 c3 (upd c4 (x3).toNatClampNeg ((c4 (x3).toNatClampNeg) &&& (u33 - (1 : Int32)))) c5 c6 c7 c8 c9 c10 c11)) hD hS hA [0, 1, 2, 3, 4, 5, 6, 7, 8] rfl
        refine va_calli (va_runV (As := [.int c1]) (rest := [.int x2]) ⟨hx, hb, hml, hown, hts⟩ (c_X0_countWays N l dC dI cy h q2 q3 q4 q5 q6 q7 q8 q9 H.size c0 c1 c2 c3 (upd c4 (x3).toNatClampNeg ((c4 (x3).toNatClampNeg) &&& (u33 - (1 : Int32)))) c5 c6 c7 c8 c9 c10 c11 c1 u65 hu65) (cwV 1 hts gX0_rank_X0_countWays rfl rfl rfl (by decide +kernel) ⟨Nat.le_of_ble_eq_true rfl, Nat.le_of_ble_eq_true rfl⟩) ⟨fun a U g mk q => by obtain ⟨q0, q1, qP, qK, qD⟩ := q; exact ⟨q0, q1, qP, va_K.moved (u := U) (U := U.calling g mk a) (Vm.Alike.refl U.vm) qK, qD⟩, va_recv hKc hPc (ci := 0) (q0 := 0) rfl rfl, fun U hU hW => ⟨rfl, by rw [hU], by rw [hU]; exact hPc, va_K.moved hW.alike hKc, hDc.weaken (fun _ _ _ _ => trivial)⟩⟩ rfl rfl hl.1 rfl (lv_room (Nat.le_of_ble_eq_true rfl)) dX0_rank_65 ⟨Nat.zero_le _, Nat.zero_le _⟩) hS (fun q _ h => hFc q h) hFc (fun r_65 uu_ t H1 locs ht hvm hw hB hz1 hk1 hS => ?_)
        replace hw := hw.symm
        subst hw
        obtain ⟨hP1, -, hD1⟩ := hB
        rw [ht] at hP1
        obtain ⟨hP, hD⟩ := va_join (wr := []) (w1 := (wX0 cy h q2 q3 q4 q5 q6 q7 q8 q9 c0 c1 c2 c3 (upd c4 (x3).toNatClampNeg ((c4 (x3).toNatClampNeg) &&& (u33 - (1 : Int32)))) u65.2.1 u65.2.2.1 u65.2.2.2 c8 c9 c10 c11)) hP hD [0, 1, 2, 3, 4, 5, 6, 7, 8] [] rfl rfl (by decide) (by decide) hk1 hFc hP1 hD1
        clear hk1 hz1 hP1 hD1 ht hPc hDc hFc
        generalize H1 = H at hP hS ⊢
        have hP : va_P (dC, dI) vwCl (wX0 cy h q2 q3 q4 q5 q6 q7 q8 q9 c0 c1 c2 c3 (upd c4 (x3).toNatClampNeg ((c4 (x3).toNatClampNeg) &&& (u33 - (1 : Int32)))) u65.2.1 u65.2.2.1 u65.2.2.2 c8 c9 c10 c11) H := hP
        have hD : va_D A (wX0 cy h q2 q3 q4 q5 q6 q7 q8 q9 c0 c1 c2 c3 (upd c4 (x3).toNatClampNeg ((c4 (x3).toNatClampNeg) &&& (u33 - (1 : Int32)))) u65.2.1 u65.2.2.1 u65.2.2.2 c8 c9 c10 c11) := hD
        refine lv_iadd hx hb dX0_rank_68 ?_
        refine lv_istore_n (lv' := [(2, .int (x2 + u65.1)), (5, .int (c4 (x3).toNatClampNeg)), (4, .int u33), (0, .ref h), (3, .int x3)]) hx hb dX0_rank_69 rfl hl (by decide) rfl (fun ls hl => ?_)
        refine lv_aload_n hx hb dX0_rank_70 rfl (lv_at hl 3 rfl) ?_
        refine va_get (D := (dC, dI)) (ci := 0) (v := .ref q4) (C := RX0) (T := TX0) (N := 12) hx hb hts (by decide +kernel) hown hK hP 0 rfl rfl 4 (by decide) (hts (.fieldLink RX0 16 "GiftLots" "rows" "[I") (by decide +kernel)) (fun _ h9 => h9) rfl dX0_rank_71 ?_
        refine lv_iload_n hx hb dX0_rank_74 rfl (lv_at hl 4 rfl) ?_
        refine lv_iload hx hb dX0_rank_75 (lv_at hl 1 rfl) ?_
        refine lv_iload hx hb dX0_rank_77 (lv_at hl 2 rfl) ?_
        refine lv_iand hx hb dX0_rank_79 ?_
        obtain ⟨hi80, hf⟩ := z_gx_some hf
        refine va_iast hx hb hK hP hD hS 3 0 rfl rfl hi80 dX0_rank_80 (fun H locs hP hD hS => ?_)
        have hP : va_P (dC, dI) vwCl (wX0 cy h q2 q3 q4 q5 q6 q7 q8 q9 c0 c1 c2 c3 (upd (upd c4 (x3).toNatClampNeg ((c4 (x3).toNatClampNeg) &&& (u33 - (1 : Int32)))) (x3).toNatClampNeg ((c4 (x3).toNatClampNeg) &&& u33)) u65.2.1 u65.2.2.1 u65.2.2.2 c8 c9 c10 c11) H := hP
        have hD : va_D A (wX0 cy h q2 q3 q4 q5 q6 q7 q8 q9 c0 c1 c2 c3 (upd (upd c4 (x3).toNatClampNeg ((c4 (x3).toNatClampNeg) &&& (u33 - (1 : Int32)))) (x3).toNatClampNeg ((c4 (x3).toNatClampNeg) &&& u33)) u65.2.1 u65.2.2.1 u65.2.2.2 c8 c9 c10 c11) := hD
        refine lv_iinc (v := x3 + (1 : Int32)) (lv' := [(3, .int (x3 + (1 : Int32))), (2, .int (x2 + u65.1)), (5, .int (c4 (x3).toNatClampNeg)), (4, .int u33), (0, .ref h)]) hx hb dX0_rank_81 hl (k := 4) rfl rfl (by decide) rfl (fun ls hl => ?_)
        refine lv_goto (tgt := 19) hx hb dX0_rank_84 (by decide) ?_
        exact ih (x2 + u65.1) (x3 + (1 : Int32)) (upd (upd c4 (x3).toNatClampNeg ((c4 (x3).toNatClampNeg) &&& (u33 - (1 : Int32)))) (x3).toNatClampNeg ((c4 (x3).toNatClampNeg) &&& u33)) u65.2.1 u65.2.2.1 u65.2.2.2 _ _ _ hf hP hD hS (lv_sub hl [4, 1, 0] rfl)
  unfold f_X0_rank at hf
  refine lv_aload_n hx hb dX0_rank_0 rfl (lv_at hl 0 rfl) ?_
  obtain ⟨u1, hu1, hf⟩ := z_ob_some hf
  have hPc := hP.sub (ws' := (wX0 cy h q2 q3 q4 q5 q6 q7 q8 q9 c0 c1 c2 c3 c4 c5 c6 c7 c8 c9 c10 c11)) [0, 1, 2, 3, 4, 5, 6, 7, 8] rfl
  have hDc := hD.sub (ws' := (wX0 cy h q2 q3 q4 q5 q6 q7 q8 q9 c0 c1 c2 c3 c4 c5 c6 c7 c8 c9 c10 c11)) [0, 1, 2, 3, 4, 5, 6, 7, 8] (by decide) rfl
  have hKc := hK.sub (tys' := [(cy, .int)]) [0] rfl
  have hFc := va_free (wc := (wX0 cy h q2 q3 q4 q5 q6 q7 q8 q9 c0 c1 c2 c3 c4 c5 c6 c7 c8 c9 c10 c11)) hD hS hA [0, 1, 2, 3, 4, 5, 6, 7, 8] rfl
  refine va_calli (va_runV (As := []) (rest := []) ⟨hx, hb, hml, hown, hts⟩ (c_X0_refuseHand N l dC dI cy h q2 q3 q4 q5 q6 q7 q8 q9 s.heap.size c0 c1 c2 c3 c4 c5 c6 c7 c8 c9 c10 c11 u1 hu1) (cwV 0 hts gX0_rank_X0_refuseHand rfl rfl rfl (by decide +kernel) ⟨Nat.le_of_ble_eq_true rfl, Nat.le_of_ble_eq_true rfl⟩) ⟨fun a U g mk q => by obtain ⟨q0, q1, qP, qK, qD⟩ := q; exact ⟨q0, q1, qP, va_K.moved (u := U) (U := U.calling g mk a) (Vm.Alike.refl U.vm) qK, qD⟩, va_recv hKc hPc (ci := 0) (q0 := 0) rfl rfl, fun U hU hW => ⟨rfl, by rw [hU], by rw [hU]; exact hPc, va_K.moved hW.alike hKc, hDc.weaken (fun _ _ _ _ => trivial)⟩⟩ rfl rfl hl.1 rfl (lv_room (Nat.le_of_ble_eq_true rfl)) dX0_rank_1 ⟨Nat.zero_le _, Nat.zero_le _⟩) hS (fun q _ h => hFc q h) hFc (fun r_1 uu_ t H1 locs ht hvm hw hB hz1 hk1 hS => ?_)
  replace hw := hw.symm
  subst hw
  obtain ⟨hP1, -, hD1⟩ := hB
  rw [ht] at hP1
  obtain ⟨hP, hD⟩ := va_join (wr := []) (w1 := (wX0 cy h q2 q3 q4 q5 q6 q7 q8 q9 c0 c1 c2 c3 u1.2.1 u1.2.2.1 u1.2.2.2.1 u1.2.2.2.2 c8 c9 c10 c11)) hP hD [0, 1, 2, 3, 4, 5, 6, 7, 8] [] rfl rfl (by decide) (by decide) hk1 hFc hP1 hD1
  clear hk1 hz1 hP1 hD1 ht hPc hDc hFc
  generalize H1 = H at hP hS ⊢
  have hP : va_P (dC, dI) vwCl (wX0 cy h q2 q3 q4 q5 q6 q7 q8 q9 c0 c1 c2 c3 u1.2.1 u1.2.2.1 u1.2.2.2.1 u1.2.2.2.2 c8 c9 c10 c11) H := hP
  have hD : va_D A (wX0 cy h q2 q3 q4 q5 q6 q7 q8 q9 c0 c1 c2 c3 u1.2.1 u1.2.2.1 u1.2.2.2.1 u1.2.2.2.2 c8 c9 c10 c11) := hD
  refine lv_istore_n (lv' := [(1, .int u1.1), (0, .ref h)]) hx hb dX0_rank_4 rfl hl (by decide) rfl (fun ls hl => ?_)
  refine lv_iload_n hx hb dX0_rank_5 rfl (lv_at hl 0 rfl) ?_
  refine lv_if_eq (tgt := 11) hx hb dX0_rank_6 (by decide) (fun c_6 => ?_) (fun c_6 => ?_)
  · replace hf := (if_pos c_6).symm.trans hf
    refine lv_aload_n hx hb dX0_rank_11 rfl (lv_at hl 1 rfl) ?_
    obtain ⟨u12, hu12, hf⟩ := z_ob_some hf
    have hPc := hP.sub (ws' := (wX0 cy h q2 q3 q4 q5 q6 q7 q8 q9 c0 c1 c2 c3 u1.2.1 u1.2.2.1 u1.2.2.2.1 u1.2.2.2.2 c8 c9 c10 c11)) [0, 1, 2, 3, 4, 5, 6, 7, 8] rfl
    have hDc := hD.sub (ws' := (wX0 cy h q2 q3 q4 q5 q6 q7 q8 q9 c0 c1 c2 c3 u1.2.1 u1.2.2.1 u1.2.2.2.1 u1.2.2.2.2 c8 c9 c10 c11)) [0, 1, 2, 3, 4, 5, 6, 7, 8] (by decide) rfl
    have hKc := hK.sub (tys' := [(cy, .int)]) [0] rfl
    have hFc := va_free (wc := (wX0 cy h q2 q3 q4 q5 q6 q7 q8 q9 c0 c1 c2 c3 u1.2.1 u1.2.2.1 u1.2.2.2.1 u1.2.2.2.2 c8 c9 c10 c11)) hD hS hA [0, 1, 2, 3, 4, 5, 6, 7, 8] rfl
    refine va_callv (va_runV (As := []) (rest := []) ⟨hx, hb, hml, hown, hts⟩ (c_X0_openRows N l dC dI cy h q2 q3 q4 q5 q6 q7 q8 q9 H.size c0 c1 c2 c3 u1.2.1 u1.2.2.1 u1.2.2.2.1 u1.2.2.2.2 c8 c9 c10 c11 u12 hu12) (cwV 0 hts gX0_rank_X0_openRows rfl rfl rfl (by decide +kernel) ⟨Nat.le_of_ble_eq_true rfl, Nat.le_of_ble_eq_true rfl⟩) ⟨fun a U g mk q => by obtain ⟨q0, q1, qP, qK, qD⟩ := q; exact ⟨q0, q1, qP, va_K.moved (u := U) (U := U.calling g mk a) (Vm.Alike.refl U.vm) qK, qD⟩, va_recv hKc hPc (ci := 0) (q0 := 0) rfl rfl, fun U hU hW => ⟨rfl, by rw [hU], by rw [hU]; exact hPc, va_K.moved hW.alike hKc, hDc.weaken (fun _ _ _ _ => trivial)⟩⟩ rfl rfl hl.1 rfl (lv_room (Nat.le_of_ble_eq_true rfl)) dX0_rank_12 ⟨Nat.zero_le _, Nat.zero_le _⟩) hS (fun q _ h => hFc q h) hFc (fun uu_ t H1 locs ht hvm hw hB hz1 hk1 hS => ?_)
    obtain ⟨hP1, -, hD1⟩ := hB
    rw [ht] at hP1
    obtain ⟨hP, hD⟩ := va_join (wr := []) (w1 := (wX0 cy h q2 q3 q4 q5 q6 q7 q8 q9 c0 c1 c2 c3 u12 u1.2.2.1 u1.2.2.2.1 u1.2.2.2.2 c8 c9 c10 c11)) hP hD [0, 1, 2, 3, 4, 5, 6, 7, 8] [] rfl rfl (by decide) (by decide) hk1 hFc hP1 hD1
    clear hk1 hz1 hP1 hD1 ht hPc hDc hFc
    generalize H1 = H at hP hS ⊢
    have hP : va_P (dC, dI) vwCl (wX0 cy h q2 q3 q4 q5 q6 q7 q8 q9 c0 c1 c2 c3 u12 u1.2.2.1 u1.2.2.2.1 u1.2.2.2.2 c8 c9 c10 c11) H := hP
    have hD : va_D A (wX0 cy h q2 q3 q4 q5 q6 q7 q8 q9 c0 c1 c2 c3 u12 u1.2.2.1 u1.2.2.2.1 u1.2.2.2.2 c8 c9 c10 c11) := hD
    refine lv_iconst (v := (0 : Int32)) hx hb dX0_rank_15 (by decide) ?_
    refine lv_istore_n (lv' := [(2, .int (0 : Int32)), (1, .int u1.1), (0, .ref h)]) hx hb dX0_rank_16 rfl hl (by decide) rfl (fun ls hl => ?_)
    refine lv_iconst (v := (0 : Int32)) hx hb dX0_rank_17 (by decide) ?_
    refine lv_istore_n (lv' := [(3, .int (0 : Int32)), (2, .int (0 : Int32)), (1, .int u1.1), (0, .ref h)]) hx hb dX0_rank_18 rfl hl (by decide) rfl (fun ls hl => ?_)
    exact B19 N (0 : Int32) (0 : Int32) u12 u1.2.2.1 u1.2.2.2.1 u1.2.2.2.2 _ _ _ hf hP hD hS (lv_sub hl [3, 1, 0] rfl)
  · replace hf := (if_neg c_6).symm.trans hf
    refine lv_iload_n hx hb dX0_rank_9 rfl (lv_at hl 0 rfl) ?_
    have hres := Option.some.inj hf
    subst hres
    have hP9 := hP.sub (ws' := (wX0 cy h q2 q3 q4 q5 q6 q7 q8 q9 c0 c1 c2 c3 u1.2.1 u1.2.2.1 u1.2.2.2.1 u1.2.2.2.2 c8 c9 c10 c11)) [0, 1, 2, 3, 4, 5, 6, 7, 8] rfl
    have hD9 := hD.sub (ws' := (wX0 cy h q2 q3 q4 q5 q6 q7 q8 q9 c0 c1 c2 c3 u1.2.1 u1.2.2.1 u1.2.2.2.1 u1.2.2.2.2 c8 c9 c10 c11)) [0, 1, 2, 3, 4, 5, 6, 7, 8] (by decide) rfl
    have hK9 := hK.sub (tys' := [(cy, .int)]) [0] rfl
    exact W.iret (v := u1.1) hx hb hr (fun t ht hW => ⟨⟨u1.1, (), rfl, rfl, by rw [ht]; exact hP9, va_K.moved hW.alike hK9, hD9⟩, hS.F ht⟩) hS.2.2 dX0_rank_10

set_option maxRecDepth 20000 in
theorem ggX0_share_X0_isOne : GoodIn wsX0_share wsX0_isOne := goodIn_r _ [7, 8, 67, 68, 69, 70, 71, 72, 73, 74, 75, 76, 77, 78] (by decide +kernel) (by decide +kernel)
set_option maxRecDepth 20000 in
theorem gX0_share_X0_isOne : GoodIn wsX0_share (wsV RX0 66 RX0 yX0_isOne wsX0_isOne) := goodIn_app (goodIn_of _ (by decide +kernel)) ggX0_share_X0_isOne
set_option maxRecDepth 20000 in
theorem ggX0_share_X0_givesBelow : GoodIn wsX0_share wsX0_givesBelow := goodIn_r _ [12, 8, 1, 67, 68, 69, 70, 71, 72, 73, 74, 75, 76, 77, 78] (by decide +kernel) (by decide +kernel)
set_option maxRecDepth 20000 in
theorem gX0_share_X0_givesBelow : GoodIn wsX0_share (wsV RX0 112 RX0 yX0_givesBelow wsX0_givesBelow) := goodIn_app (goodIn_of _ (by decide +kernel)) ggX0_share_X0_givesBelow
set_option maxRecDepth 20000 in
theorem ggX0_share_X0_openRows : GoodIn wsX0_share wsX0_openRows := goodIn_r _ [16, 17, 18, 19, 20, 21, 22, 67, 68, 69, 70, 71, 72, 73, 74, 75, 76, 77, 78] (by decide +kernel) (by decide +kernel)
set_option maxRecDepth 20000 in
theorem gX0_share_X0_openRows : GoodIn wsX0_share (wsV RX0 60 RX0 yX0_openRows wsX0_openRows) := goodIn_app (goodIn_of _ (by decide +kernel)) ggX0_share_X0_openRows
set_option maxRecDepth 20000 in
theorem ggX0_share_X0_narrow : GoodIn wsX0_share wsX0_narrow := goodIn_r _ [26, 18, 3, 4, 5, 6, 7, 8, 27, 28, 29, 67, 68, 69, 70, 71, 72, 73, 74, 75, 76, 77, 78] (by decide +kernel) (by decide +kernel)
set_option maxRecDepth 20000 in
theorem gX0_share_X0_narrow : GoodIn wsX0_share (wsV RX0 115 RX0 yX0_narrow wsX0_narrow) := goodIn_app (goodIn_of _ (by decide +kernel)) ggX0_share_X0_narrow
set_option maxRecDepth 20000 in
theorem ggX0_share_X0_countWays : GoodIn wsX0_share wsX0_countWays := goodIn_r _ [33, 34, 35, 36, 37, 6, 38, 39, 8, 40, 41, 42, 43, 44, 45, 46, 47, 48, 27, 28, 29, 49, 50, 51, 52, 53, 54, 55, 18, 56, 57, 58, 59, 60, 61, 62, 63, 64, 65, 66, 67, 68, 69, 70, 71, 72, 73, 74, 75, 76, 77, 78] (by decide +kernel) (by decide +kernel)
set_option maxRecDepth 20000 in
theorem gX0_share_X0_countWays : GoodIn wsX0_share (wsV RX0 63 RX0 yX0_countWays wsX0_countWays) := goodIn_app (goodIn_of _ (by decide +kernel)) ggX0_share_X0_countWays
theorem dX0_share_0 : decode cX0_share 0 = .ok (.aload_n 0, 1) := by decide +kernel
theorem dX0_share_1 : decode cX0_share 1 = .ok (.iload_n 1, 1) := by decide +kernel
theorem dX0_share_2 : decode cX0_share 2 = .ok (.invokevirtual 66, 3) := by decide +kernel
theorem dX0_share_5 : decode cX0_share 5 = .ok (.ifCond .eq 11, 3) := by decide +kernel
theorem dX0_share_8 : decode cX0_share 8 = .ok (.aload_n 0, 1) := by decide +kernel
theorem dX0_share_9 : decode cX0_share 9 = .ok (.iload_n 2, 1) := by decide +kernel
theorem dX0_share_10 : decode cX0_share 10 = .ok (.invokevirtual 66, 3) := by decide +kernel
theorem dX0_share_13 : decode cX0_share 13 = .ok (.ifCond .ne 5, 3) := by decide +kernel
theorem dX0_share_16 : decode cX0_share 16 = .ok (.iconst (-1), 1) := by decide +kernel
theorem dX0_share_17 : decode cX0_share 17 = .ok (.ireturn, 1) := by decide +kernel
theorem dX0_share_18 : decode cX0_share 18 = .ok (.aload_n 0, 1) := by decide +kernel
theorem dX0_share_19 : decode cX0_share 19 = .ok (.iload_n 1, 1) := by decide +kernel
theorem dX0_share_20 : decode cX0_share 20 = .ok (.invokevirtual 112, 3) := by decide +kernel
theorem dX0_share_23 : decode cX0_share 23 = .ok (.ifCond .ne 6, 3) := by decide +kernel
theorem dX0_share_26 : decode cX0_share 26 = .ok (.bipush (-3), 2) := by decide +kernel
theorem dX0_share_28 : decode cX0_share 28 = .ok (.ireturn, 1) := by decide +kernel
theorem dX0_share_29 : decode cX0_share 29 = .ok (.aload_n 0, 1) := by decide +kernel
theorem dX0_share_30 : decode cX0_share 30 = .ok (.invokevirtual 60, 3) := by decide +kernel
theorem dX0_share_33 : decode cX0_share 33 = .ok (.iconst 0, 1) := by decide +kernel
theorem dX0_share_34 : decode cX0_share 34 = .ok (.istore_n 3, 1) := by decide +kernel
theorem dX0_share_35 : decode cX0_share 35 = .ok (.iload_n 3, 1) := by decide +kernel
theorem dX0_share_36 : decode cX0_share 36 = .ok (.iload_n 1, 1) := by decide +kernel
theorem dX0_share_37 : decode cX0_share 37 = .ok (.if_icmp .ge 20, 3) := by decide +kernel
theorem dX0_share_40 : decode cX0_share 40 = .ok (.aload_n 0, 1) := by decide +kernel
theorem dX0_share_41 : decode cX0_share 41 = .ok (.iload_n 3, 1) := by decide +kernel
theorem dX0_share_42 : decode cX0_share 42 = .ok (.aload_n 0, 1) := by decide +kernel
theorem dX0_share_43 : decode cX0_share 43 = .ok (.getfield 13, 3) := by decide +kernel
theorem dX0_share_46 : decode cX0_share 46 = .ok (.iload_n 3, 1) := by decide +kernel
theorem dX0_share_47 : decode cX0_share 47 = .ok (.iaload, 1) := by decide +kernel
theorem dX0_share_48 : decode cX0_share 48 = .ok (.invokevirtual 115, 3) := by decide +kernel
theorem dX0_share_51 : decode cX0_share 51 = .ok (.iinc 3 1, 3) := by decide +kernel
theorem dX0_share_54 : decode cX0_share 54 = .ok (.goto (-19), 3) := by decide +kernel
theorem dX0_share_57 : decode cX0_share 57 = .ok (.aload_n 0, 1) := by decide +kernel
theorem dX0_share_58 : decode cX0_share 58 = .ok (.iload_n 1, 1) := by decide +kernel
theorem dX0_share_59 : decode cX0_share 59 = .ok (.iload_n 2, 1) := by decide +kernel
theorem dX0_share_60 : decode cX0_share 60 = .ok (.invokevirtual 115, 3) := by decide +kernel
theorem dX0_share_63 : decode cX0_share 63 = .ok (.aload_n 0, 1) := by decide +kernel
theorem dX0_share_64 : decode cX0_share 64 = .ok (.aload_n 0, 1) := by decide +kernel
theorem dX0_share_65 : decode cX0_share 65 = .ok (.getfield 57, 3) := by decide +kernel
theorem dX0_share_68 : decode cX0_share 68 = .ok (.invokevirtual 63, 3) := by decide +kernel
theorem dX0_share_71 : decode cX0_share 71 = .ok (.ireturn, 1) := by decide +kernel
abbrev rm_X0_share : Room := { frames := 4, cells := 0, slots := 0, locals := 96 }
set_option maxHeartbeats 4000000 in
set_option maxRecDepth 100000 in
theorem c_X0_share (N : Nat) (l : Launch) (dC : Nat → ClassId) (dI : Nat → Nat → Nat) (cy : ClassId) (h q2 q3 q4 q5 q6 q7 q8 q9 : Nat) (sz : Nat) (c0 : Int32) (c1 : Int32) (c2 : Nat → Int32) (c3 : Nat → Int32) (c4 : Nat → Int32) (c5 : Nat → Int32) (c6 : Nat → Int32) (c7 : Nat → Int32) (c8 : Nat → Int32) (c9 : Nat → Int32) (c10 : Int32) (c11 : Int32) (a1 a2 : Int32) (res : Int32 × (Nat → Int32) × (Nat → Int32) × (Nat → Int32) × (Nat → Int32)) (hf : f_X0_share N a1 a2 c0 c1 c2 c3 c4 c5 c6 c7 = some res) : Met l yX0_share wsX0_share rm_X0_share (va_Pc [.ref h, .int a1, .int a2] (fun U => U.heap.size = sz ∧ va_P (dC, dI) vwCl (wX0 cy h q2 q3 q4 q5 q6 q7 q8 q9 c0 c1 c2 c3 c4 c5 c6 c7 c8 c9 c10 c11) U.heap ∧ va_K (dC, dI) vwCl [(cy, .int)] U ∧ va_D (fun _ => True) (wX0 cy h q2 q3 q4 q5 q6 q7 q8 q9 c0 c1 c2 c3 c4 c5 c6 c7 c8 c9 c10 c11))) (z_qI dC dI cy res.1 (wX0 cy h q2 q3 q4 q5 q6 q7 q8 q9 c0 c1 c2 c3 res.2.1 res.2.2.1 res.2.2.2.1 res.2.2.2.2 c8 c9 c10 c11) (va_A (wX0 cy h q2 q3 q4 q5 q6 q7 q8 q9 c0 c1 c2 c3 c4 c5 c6 c7 c8 c9 c10 c11) sz)) 0 0 (va_A (wX0 cy h q2 q3 q4 q5 q6 q7 q8 q9 c0 c1 c2 c3 c4 c5 c6 c7 c8 c9 c10 c11) sz) := by
  refine Met.ofW (cc := cX0_share) (maxL := 4) (ret := (some .int)) (by decide) rfl ?_
  intro p e s m args below meth c s₁ B hml hv
  obtain ⟨rfl, hsz, hP, hK, hD0⟩ := hv
  have hx := B.exec
  have hb := B.bytes
  have hr := B.returns
  have hts := atoms_spec (ws := wsX0_share) B.pre
  have hown : s.vm.findClass RX0 = some m.cls := findClass_of_methodNamed B.named
  have hlocks := B.notSynchronized
  subst hsz
  have hD := hD0.self (sz := s.heap.size)
  generalize hAe : va_A (wX0 cy h q2 q3 q4 q5 q6 q7 q8 q9 c0 c1 c2 c3 c4 c5 c6 c7 c8 c9 c10 c11) s.heap.size = A at hD ⊢
  have hA : ∀ q : Nat, s.heap.size ≤ q → A q := fun q h => by rw [← hAe]; exact Or.inr h
  have hS : va_S A s.heap s.heap [] := va_S.rf
  have hP : va_P (dC, dI) vwCl (wX0 cy h q2 q3 q4 q5 q6 q7 q8 q9 c0 c1 c2 c3 c4 c5 c6 c7 c8 c9 c10 c11) s.heap := hP
  have hl := lv_entry ([.ref h, .int a1, .int a2]) (n := 4) (Nat.le_of_ble_eq_true rfl)
  rw [lg_entry_eq]
  generalize (lg_sl ([.ref h, .int a1, .int a2]) ++ List.replicate (4 - (lg_sl ([.ref h, .int a1, .int a2])).length) Slot.unset).toArray = ls at hl ⊢
  have hl : lv_has ls 4 [(0, .ref h), (1, .int a1), (2, .int a2)] := hl
  have B35 : ∀ n : Nat, ∀ (x1 x2 x3 : Int32) (c4 : Nat → Int32) (c5 : Nat → Int32) (c6 : Nat → Int32) (c7 : Nat → Int32) (H : Heap) (locs : List Loc) (ls : Array Slot), f_X0_share_b35 N c0 c1 c2 c3 n x1 x2 x3 c4 c5 c6 c7 = some res → va_P (dC, dI) vwCl (wX0 cy h q2 q3 q4 q5 q6 q7 q8 q9 c0 c1 c2 c3 c4 c5 c6 c7 c8 c9 c10 c11) H → va_D A (wX0 cy h q2 q3 q4 q5 q6 q7 q8 q9 c0 c1 c2 c3 c4 c5 c6 c7 c8 c9 c10 c11) → va_S A s.heap H locs → lv_has ls 4 [(0, .ref h), (1, .int x1), (2, .int x2), (3, .int x3)] → W p l e rm_X0_share s m ([.ref h, .int a1, .int a2] : List Value).toArray below meth c H locs 0 0 (MQ below (z_qI dC dI cy res.1 (wX0 cy h q2 q3 q4 q5 q6 q7 q8 q9 c0 c1 c2 c3 res.2.1 res.2.2.1 res.2.2.2.1 res.2.2.2.2 c8 c9 c10 c11) A) ([.ref h, .int a1, .int a2] : List Value).toArray s 0 0 A) (F0 m 35 ls []) := by
    clear hf hl hP hD hS
    intro n
    induction n with
    | zero =>
      intro x1 x2 x3 c4 c5 c6 c7 H locs ls hf hP hD hS hl
      rw [f_X0_share_b35] at hf
      cases hf
    | succ n ih =>
      intro x1 x2 x3 c4 c5 c6 c7 H locs ls hf hP hD hS hl
      rw [f_X0_share_b35] at hf
      refine lv_iload_n hx hb dX0_share_35 rfl (lv_at hl 3 rfl) ?_
      refine lv_iload_n hx hb dX0_share_36 rfl (lv_at hl 1 rfl) ?_
      refine lv_icmp_ge (tgt := 57) hx hb dX0_share_37 (by decide) (fun c_37 => ?_) (fun c_37 => ?_)
      · replace hf := (if_pos c_37).symm.trans hf
        refine lv_aload_n hx hb dX0_share_57 rfl (lv_at hl 0 rfl) ?_
        refine lv_iload_n hx hb dX0_share_58 rfl (lv_at hl 1 rfl) ?_
        refine lv_iload_n hx hb dX0_share_59 rfl (lv_at hl 2 rfl) ?_
        obtain ⟨u60, hu60, hf⟩ := z_ob_some hf
        have hPc := hP.sub (ws' := (wX0 cy h q2 q3 q4 q5 q6 q7 q8 q9 c0 c1 c2 c3 c4 c5 c6 c7 c8 c9 c10 c11)) [0, 1, 2, 3, 4, 5, 6, 7, 8] rfl
        have hDc := hD.sub (ws' := (wX0 cy h q2 q3 q4 q5 q6 q7 q8 q9 c0 c1 c2 c3 c4 c5 c6 c7 c8 c9 c10 c11)) [0, 1, 2, 3, 4, 5, 6, 7, 8] (by decide) rfl
        have hKc := hK.sub (tys' := [(cy, .int)]) [0] rfl
        have hFc := va_free (wc := (wX0 cy h q2 q3 q4 q5 q6 q7 q8 q9 c0 c1 c2 c3 c4 c5 c6 c7 c8 c9 c10 c11)) hD hS hA [0, 1, 2, 3, 4, 5, 6, 7, 8] rfl
        refine va_callv (va_runV (As := [.int x1, .int x2]) (rest := []) ⟨hx, hb, hml, hown, hts⟩ (c_X0_narrow N l dC dI cy h q2 q3 q4 q5 q6 q7 q8 q9 H.size c0 c1 c2 c3 c4 c5 c6 c7 c8 c9 c10 c11 x1 x2 u60 hu60) (cwV 2 hts gX0_share_X0_narrow rfl rfl rfl (by decide +kernel) ⟨Nat.le_of_ble_eq_true rfl, Nat.le_of_ble_eq_true rfl⟩) ⟨fun a U g mk q => by obtain ⟨q0, q1, qP, qK, qD⟩ := q; exact ⟨q0, q1, qP, va_K.moved (u := U) (U := U.calling g mk a) (Vm.Alike.refl U.vm) qK, qD⟩, va_recv hKc hPc (ci := 0) (q0 := 0) rfl rfl, fun U hU hW => ⟨rfl, by rw [hU], by rw [hU]; exact hPc, va_K.moved hW.alike hKc, hDc.weaken (fun _ _ _ _ => trivial)⟩⟩ rfl rfl hl.1 rfl (lv_room (Nat.le_of_ble_eq_true rfl)) dX0_share_60 ⟨Nat.zero_le _, Nat.zero_le _⟩) hS (fun q _ h => hFc q h) hFc (fun uu_ t H1 locs ht hvm hw hB hz1 hk1 hS => ?_)
        obtain ⟨hP1, -, hD1⟩ := hB
        rw [ht] at hP1
        obtain ⟨hP, hD⟩ := va_join (wr := []) (w1 := (wX0 cy h q2 q3 q4 q5 q6 q7 q8 q9 c0 c1 c2 c3 u60 c5 c6 c7 c8 c9 c10 c11)) hP hD [0, 1, 2, 3, 4, 5, 6, 7, 8] [] rfl rfl (by decide) (by decide) hk1 hFc hP1 hD1
        clear hk1 hz1 hP1 hD1 ht hPc hDc hFc
        generalize H1 = H at hP hS ⊢
        have hP : va_P (dC, dI) vwCl (wX0 cy h q2 q3 q4 q5 q6 q7 q8 q9 c0 c1 c2 c3 u60 c5 c6 c7 c8 c9 c10 c11) H := hP
        have hD : va_D A (wX0 cy h q2 q3 q4 q5 q6 q7 q8 q9 c0 c1 c2 c3 u60 c5 c6 c7 c8 c9 c10 c11) := hD
        refine lv_aload_n hx hb dX0_share_63 rfl (lv_at hl 0 rfl) ?_
        refine lv_aload_n hx hb dX0_share_64 rfl (lv_at hl 0 rfl) ?_
        refine va_get (D := (dC, dI)) (ci := 0) (v := .int c1) (C := RX0) (T := TX0) (N := 12) hx hb hts (by decide +kernel) hown hK hP 0 rfl rfl 1 (by decide) (hts (.fieldLink RX0 57 "GiftLots" "shortest" "I") (by decide +kernel)) (fun _ h9 => h9) rfl dX0_share_65 ?_
        obtain ⟨u68, hu68, hf⟩ := z_ob_some hf
        have hPc := hP.sub (ws' := (wX0 cy h q2 q3 q4 q5 q6 q7 q8 q9 c0 c1 c2 c3 u60 c5 c6 c7 c8 c9 c10 c11)) [0, 1, 2, 3, 4, 5, 6, 7, 8] rfl
        have hDc := hD.sub (ws' := (wX0 cy h q2 q3 q4 q5 q6 q7 q8 q9 c0 c1 c2 c3 u60 c5 c6 c7 c8 c9 c10 c11)) [0, 1, 2, 3, 4, 5, 6, 7, 8] (by decide) rfl
        have hKc := hK.sub (tys' := [(cy, .int)]) [0] rfl
        have hFc := va_free (wc := (wX0 cy h q2 q3 q4 q5 q6 q7 q8 q9 c0 c1 c2 c3 u60 c5 c6 c7 c8 c9 c10 c11)) hD hS hA [0, 1, 2, 3, 4, 5, 6, 7, 8] rfl
        refine va_calli (va_runV (As := [.int c1]) (rest := []) ⟨hx, hb, hml, hown, hts⟩ (c_X0_countWays N l dC dI cy h q2 q3 q4 q5 q6 q7 q8 q9 H.size c0 c1 c2 c3 u60 c5 c6 c7 c8 c9 c10 c11 c1 u68 hu68) (cwV 1 hts gX0_share_X0_countWays rfl rfl rfl (by decide +kernel) ⟨Nat.le_of_ble_eq_true rfl, Nat.le_of_ble_eq_true rfl⟩) ⟨fun a U g mk q => by obtain ⟨q0, q1, qP, qK, qD⟩ := q; exact ⟨q0, q1, qP, va_K.moved (u := U) (U := U.calling g mk a) (Vm.Alike.refl U.vm) qK, qD⟩, va_recv hKc hPc (ci := 0) (q0 := 0) rfl rfl, fun U hU hW => ⟨rfl, by rw [hU], by rw [hU]; exact hPc, va_K.moved hW.alike hKc, hDc.weaken (fun _ _ _ _ => trivial)⟩⟩ rfl rfl hl.1 rfl (lv_room (Nat.le_of_ble_eq_true rfl)) dX0_share_68 ⟨Nat.zero_le _, Nat.zero_le _⟩) hS (fun q _ h => hFc q h) hFc (fun r_68 uu_ t H1 locs ht hvm hw hB hz1 hk1 hS => ?_)
        replace hw := hw.symm
        subst hw
        obtain ⟨hP1, -, hD1⟩ := hB
        rw [ht] at hP1
        obtain ⟨hP, hD⟩ := va_join (wr := []) (w1 := (wX0 cy h q2 q3 q4 q5 q6 q7 q8 q9 c0 c1 c2 c3 u60 u68.2.1 u68.2.2.1 u68.2.2.2 c8 c9 c10 c11)) hP hD [0, 1, 2, 3, 4, 5, 6, 7, 8] [] rfl rfl (by decide) (by decide) hk1 hFc hP1 hD1
        clear hk1 hz1 hP1 hD1 ht hPc hDc hFc
        generalize H1 = H at hP hS ⊢
        have hP : va_P (dC, dI) vwCl (wX0 cy h q2 q3 q4 q5 q6 q7 q8 q9 c0 c1 c2 c3 u60 u68.2.1 u68.2.2.1 u68.2.2.2 c8 c9 c10 c11) H := hP
        have hD : va_D A (wX0 cy h q2 q3 q4 q5 q6 q7 q8 q9 c0 c1 c2 c3 u60 u68.2.1 u68.2.2.1 u68.2.2.2 c8 c9 c10 c11) := hD
        have hres := Option.some.inj hf
        subst hres
        have hP9 := hP.sub (ws' := (wX0 cy h q2 q3 q4 q5 q6 q7 q8 q9 c0 c1 c2 c3 u60 u68.2.1 u68.2.2.1 u68.2.2.2 c8 c9 c10 c11)) [0, 1, 2, 3, 4, 5, 6, 7, 8] rfl
        have hD9 := hD.sub (ws' := (wX0 cy h q2 q3 q4 q5 q6 q7 q8 q9 c0 c1 c2 c3 u60 u68.2.1 u68.2.2.1 u68.2.2.2 c8 c9 c10 c11)) [0, 1, 2, 3, 4, 5, 6, 7, 8] (by decide) rfl
        have hK9 := hK.sub (tys' := [(cy, .int)]) [0] rfl
        exact W.iret (v := u68.1) hx hb hr (fun t ht hW => ⟨⟨u68.1, (), rfl, rfl, by rw [ht]; exact hP9, va_K.moved hW.alike hK9, hD9⟩, hS.F ht⟩) hS.2.2 dX0_share_71
      · replace hf := (if_neg c_37).symm.trans hf
        refine lv_aload_n hx hb dX0_share_40 rfl (lv_at hl 0 rfl) ?_
        refine lv_iload_n hx hb dX0_share_41 rfl (lv_at hl 3 rfl) ?_
        refine lv_aload_n hx hb dX0_share_42 rfl (lv_at hl 0 rfl) ?_
        refine va_get (D := (dC, dI)) (ci := 0) (v := .ref q3) (C := RX0) (T := TX0) (N := 12) hx hb hts (by decide +kernel) hown hK hP 0 rfl rfl 3 (by decide) (hts (.fieldLink RX0 13 "GiftLots" "hand" "[I") (by decide +kernel)) (fun _ h9 => h9) rfl dX0_share_43 ?_
        refine lv_iload_n hx hb dX0_share_46 rfl (lv_at hl 3 rfl) ?_
        obtain ⟨hi47, hf⟩ := z_gx_some hf
        refine va_iald hx hb hK hP 2 0 rfl rfl hi47 dX0_share_47 ?_
        obtain ⟨u48, hu48, hf⟩ := z_ob_some hf
        have hPc := hP.sub (ws' := (wX0 cy h q2 q3 q4 q5 q6 q7 q8 q9 c0 c1 c2 c3 c4 c5 c6 c7 c8 c9 c10 c11)) [0, 1, 2, 3, 4, 5, 6, 7, 8] rfl
        have hDc := hD.sub (ws' := (wX0 cy h q2 q3 q4 q5 q6 q7 q8 q9 c0 c1 c2 c3 c4 c5 c6 c7 c8 c9 c10 c11)) [0, 1, 2, 3, 4, 5, 6, 7, 8] (by decide) rfl
        have hKc := hK.sub (tys' := [(cy, .int)]) [0] rfl
        have hFc := va_free (wc := (wX0 cy h q2 q3 q4 q5 q6 q7 q8 q9 c0 c1 c2 c3 c4 c5 c6 c7 c8 c9 c10 c11)) hD hS hA [0, 1, 2, 3, 4, 5, 6, 7, 8] rfl
        refine va_callv (va_runV (As := [.int x3, .int (c3 (x3).toNatClampNeg)]) (rest := []) ⟨hx, hb, hml, hown, hts⟩ (c_X0_narrow N l dC dI cy h q2 q3 q4 q5 q6 q7 q8 q9 H.size c0 c1 c2 c3 c4 c5 c6 c7 c8 c9 c10 c11 x3 (c3 (x3).toNatClampNeg) u48 hu48) (cwV 2 hts gX0_share_X0_narrow rfl rfl rfl (by decide +kernel) ⟨Nat.le_of_ble_eq_true rfl, Nat.le_of_ble_eq_true rfl⟩) ⟨fun a U g mk q => by obtain ⟨q0, q1, qP, qK, qD⟩ := q; exact ⟨q0, q1, qP, va_K.moved (u := U) (U := U.calling g mk a) (Vm.Alike.refl U.vm) qK, qD⟩, va_recv hKc hPc (ci := 0) (q0 := 0) rfl rfl, fun U hU hW => ⟨rfl, by rw [hU], by rw [hU]; exact hPc, va_K.moved hW.alike hKc, hDc.weaken (fun _ _ _ _ => trivial)⟩⟩ rfl rfl hl.1 rfl (lv_room (Nat.le_of_ble_eq_true rfl)) dX0_share_48 ⟨Nat.zero_le _, Nat.zero_le _⟩) hS (fun q _ h => hFc q h) hFc (fun uu_ t H1 locs ht hvm hw hB hz1 hk1 hS => ?_)
        obtain ⟨hP1, -, hD1⟩ := hB
        rw [ht] at hP1
        obtain ⟨hP, hD⟩ := va_join (wr := []) (w1 := (wX0 cy h q2 q3 q4 q5 q6 q7 q8 q9 c0 c1 c2 c3 u48 c5 c6 c7 c8 c9 c10 c11)) hP hD [0, 1, 2, 3, 4, 5, 6, 7, 8] [] rfl rfl (by decide) (by decide) hk1 hFc hP1 hD1
        clear hk1 hz1 hP1 hD1 ht hPc hDc hFc
        generalize H1 = H at hP hS ⊢
        have hP : va_P (dC, dI) vwCl (wX0 cy h q2 q3 q4 q5 q6 q7 q8 q9 c0 c1 c2 c3 u48 c5 c6 c7 c8 c9 c10 c11) H := hP
        have hD : va_D A (wX0 cy h q2 q3 q4 q5 q6 q7 q8 q9 c0 c1 c2 c3 u48 c5 c6 c7 c8 c9 c10 c11) := hD
        refine lv_iinc (v := x3 + (1 : Int32)) (lv' := [(3, .int (x3 + (1 : Int32))), (0, .ref h), (1, .int x1), (2, .int x2)]) hx hb dX0_share_51 hl (k := 3) rfl rfl (by decide) rfl (fun ls hl => ?_)
        refine lv_goto (tgt := 35) hx hb dX0_share_54 (by decide) ?_
        exact ih x1 x2 (x3 + (1 : Int32)) u48 c5 c6 c7 _ _ _ hf hP hD hS (lv_sub hl [1, 2, 3, 0] rfl)
  unfold f_X0_share at hf
  refine lv_aload_n hx hb dX0_share_0 rfl (lv_at hl 0 rfl) ?_
  refine lv_iload_n hx hb dX0_share_1 rfl (lv_at hl 1 rfl) ?_
  obtain ⟨u2, hu2, hf⟩ := z_ob_some hf
  have hPc := hP.sub (ws' := (wX0 cy h q2 q3 q4 q5 q6 q7 q8 q9 c0 c1 c2 c3 c4 c5 c6 c7 c8 c9 c10 c11)) [0, 1, 2, 3, 4, 5, 6, 7, 8] rfl
  have hDc := hD.sub (ws' := (wX0 cy h q2 q3 q4 q5 q6 q7 q8 q9 c0 c1 c2 c3 c4 c5 c6 c7 c8 c9 c10 c11)) [0, 1, 2, 3, 4, 5, 6, 7, 8] (by decide) rfl
  have hKc := hK.sub (tys' := [(cy, .int)]) [0] rfl
  have hFc := va_free (wc := (wX0 cy h q2 q3 q4 q5 q6 q7 q8 q9 c0 c1 c2 c3 c4 c5 c6 c7 c8 c9 c10 c11)) hD hS hA [0, 1, 2, 3, 4, 5, 6, 7, 8] rfl
  refine va_calli (va_runV (As := [.int a1]) (rest := []) ⟨hx, hb, hml, hown, hts⟩ (c_X0_isOne N l dC dI cy h q2 q3 q4 q5 q6 q7 q8 q9 s.heap.size c0 c1 c2 c3 c4 c5 c6 c7 c8 c9 c10 c11 a1 u2 hu2) (cwV 1 hts gX0_share_X0_isOne rfl rfl rfl (by decide +kernel) ⟨Nat.le_of_ble_eq_true rfl, Nat.le_of_ble_eq_true rfl⟩) ⟨fun a U g mk q => by obtain ⟨q0, q1, qP, qK, qD⟩ := q; exact ⟨q0, q1, qP, va_K.moved (u := U) (U := U.calling g mk a) (Vm.Alike.refl U.vm) qK, qD⟩, va_recv hKc hPc (ci := 0) (q0 := 0) rfl rfl, fun U hU hW => ⟨rfl, by rw [hU], by rw [hU]; exact hPc, va_K.moved hW.alike hKc, hDc.weaken (fun _ _ _ _ => trivial)⟩⟩ rfl rfl hl.1 rfl (lv_room (Nat.le_of_ble_eq_true rfl)) dX0_share_2 ⟨Nat.zero_le _, Nat.zero_le _⟩) hS (fun q _ h => hFc q h) hFc (fun r_2 uu_ t H1 locs ht hvm hw hB hz1 hk1 hS => ?_)
  replace hw := hw.symm
  subst hw
  obtain ⟨hP1, -, hD1⟩ := hB
  rw [ht] at hP1
  obtain ⟨hP, hD⟩ := va_join (wr := []) (w1 := (wX0 cy h q2 q3 q4 q5 q6 q7 q8 q9 c0 c1 c2 c3 c4 c5 c6 c7 c8 c9 c10 c11)) hP hD [0, 1, 2, 3, 4, 5, 6, 7, 8] [] rfl rfl (by decide) (by decide) hk1 hFc hP1 hD1
  clear hk1 hz1 hP1 hD1 ht hPc hDc hFc
  generalize H1 = H at hP hS ⊢
  have hP : va_P (dC, dI) vwCl (wX0 cy h q2 q3 q4 q5 q6 q7 q8 q9 c0 c1 c2 c3 c4 c5 c6 c7 c8 c9 c10 c11) H := hP
  have hD : va_D A (wX0 cy h q2 q3 q4 q5 q6 q7 q8 q9 c0 c1 c2 c3 c4 c5 c6 c7 c8 c9 c10 c11) := hD
  refine lv_if_eq (tgt := 16) hx hb dX0_share_5 (by decide) (fun c_5 => ?_) (fun c_5 => ?_)
  · replace hf := (if_pos c_5).symm.trans hf
    refine lv_iconst (v := (-1 : Int32)) hx hb dX0_share_16 (by decide) ?_
    have hres := Option.some.inj hf
    subst hres
    have hP9 := hP.sub (ws' := (wX0 cy h q2 q3 q4 q5 q6 q7 q8 q9 c0 c1 c2 c3 c4 c5 c6 c7 c8 c9 c10 c11)) [0, 1, 2, 3, 4, 5, 6, 7, 8] rfl
    have hD9 := hD.sub (ws' := (wX0 cy h q2 q3 q4 q5 q6 q7 q8 q9 c0 c1 c2 c3 c4 c5 c6 c7 c8 c9 c10 c11)) [0, 1, 2, 3, 4, 5, 6, 7, 8] (by decide) rfl
    have hK9 := hK.sub (tys' := [(cy, .int)]) [0] rfl
    exact W.iret (v := (-1 : Int32)) hx hb hr (fun t ht hW => ⟨⟨(-1 : Int32), (), rfl, rfl, by rw [ht]; exact hP9, va_K.moved hW.alike hK9, hD9⟩, hS.F ht⟩) hS.2.2 dX0_share_17
  · replace hf := (if_neg c_5).symm.trans hf
    refine lv_aload_n hx hb dX0_share_8 rfl (lv_at hl 0 rfl) ?_
    refine lv_iload_n hx hb dX0_share_9 rfl (lv_at hl 2 rfl) ?_
    obtain ⟨u10, hu10, hf⟩ := z_ob_some hf
    have hPc := hP.sub (ws' := (wX0 cy h q2 q3 q4 q5 q6 q7 q8 q9 c0 c1 c2 c3 c4 c5 c6 c7 c8 c9 c10 c11)) [0, 1, 2, 3, 4, 5, 6, 7, 8] rfl
    have hDc := hD.sub (ws' := (wX0 cy h q2 q3 q4 q5 q6 q7 q8 q9 c0 c1 c2 c3 c4 c5 c6 c7 c8 c9 c10 c11)) [0, 1, 2, 3, 4, 5, 6, 7, 8] (by decide) rfl
    have hKc := hK.sub (tys' := [(cy, .int)]) [0] rfl
    have hFc := va_free (wc := (wX0 cy h q2 q3 q4 q5 q6 q7 q8 q9 c0 c1 c2 c3 c4 c5 c6 c7 c8 c9 c10 c11)) hD hS hA [0, 1, 2, 3, 4, 5, 6, 7, 8] rfl
    refine va_calli (va_runV (As := [.int a2]) (rest := []) ⟨hx, hb, hml, hown, hts⟩ (c_X0_isOne N l dC dI cy h q2 q3 q4 q5 q6 q7 q8 q9 H.size c0 c1 c2 c3 c4 c5 c6 c7 c8 c9 c10 c11 a2 u10 hu10) (cwV 1 hts gX0_share_X0_isOne rfl rfl rfl (by decide +kernel) ⟨Nat.le_of_ble_eq_true rfl, Nat.le_of_ble_eq_true rfl⟩) ⟨fun a U g mk q => by obtain ⟨q0, q1, qP, qK, qD⟩ := q; exact ⟨q0, q1, qP, va_K.moved (u := U) (U := U.calling g mk a) (Vm.Alike.refl U.vm) qK, qD⟩, va_recv hKc hPc (ci := 0) (q0 := 0) rfl rfl, fun U hU hW => ⟨rfl, by rw [hU], by rw [hU]; exact hPc, va_K.moved hW.alike hKc, hDc.weaken (fun _ _ _ _ => trivial)⟩⟩ rfl rfl hl.1 rfl (lv_room (Nat.le_of_ble_eq_true rfl)) dX0_share_10 ⟨Nat.zero_le _, Nat.zero_le _⟩) hS (fun q _ h => hFc q h) hFc (fun r_10 uu_ t H1 locs ht hvm hw hB hz1 hk1 hS => ?_)
    replace hw := hw.symm
    subst hw
    obtain ⟨hP1, -, hD1⟩ := hB
    rw [ht] at hP1
    obtain ⟨hP, hD⟩ := va_join (wr := []) (w1 := (wX0 cy h q2 q3 q4 q5 q6 q7 q8 q9 c0 c1 c2 c3 c4 c5 c6 c7 c8 c9 c10 c11)) hP hD [0, 1, 2, 3, 4, 5, 6, 7, 8] [] rfl rfl (by decide) (by decide) hk1 hFc hP1 hD1
    clear hk1 hz1 hP1 hD1 ht hPc hDc hFc
    generalize H1 = H at hP hS ⊢
    have hP : va_P (dC, dI) vwCl (wX0 cy h q2 q3 q4 q5 q6 q7 q8 q9 c0 c1 c2 c3 c4 c5 c6 c7 c8 c9 c10 c11) H := hP
    have hD : va_D A (wX0 cy h q2 q3 q4 q5 q6 q7 q8 q9 c0 c1 c2 c3 c4 c5 c6 c7 c8 c9 c10 c11) := hD
    refine lv_if_ne (tgt := 18) hx hb dX0_share_13 (by decide) (fun c_13 => ?_) (fun c_13 => ?_)
    · replace hf := (if_neg c_13).symm.trans hf
      refine lv_aload_n hx hb dX0_share_18 rfl (lv_at hl 0 rfl) ?_
      refine lv_iload_n hx hb dX0_share_19 rfl (lv_at hl 1 rfl) ?_
      obtain ⟨u20, hu20, hf⟩ := z_ob_some hf
      have hPc := hP.sub (ws' := (wX0 cy h q2 q3 q4 q5 q6 q7 q8 q9 c0 c1 c2 c3 c4 c5 c6 c7 c8 c9 c10 c11)) [0, 1, 2, 3, 4, 5, 6, 7, 8] rfl
      have hDc := hD.sub (ws' := (wX0 cy h q2 q3 q4 q5 q6 q7 q8 q9 c0 c1 c2 c3 c4 c5 c6 c7 c8 c9 c10 c11)) [0, 1, 2, 3, 4, 5, 6, 7, 8] (by decide) rfl
      have hKc := hK.sub (tys' := [(cy, .int)]) [0] rfl
      have hFc := va_free (wc := (wX0 cy h q2 q3 q4 q5 q6 q7 q8 q9 c0 c1 c2 c3 c4 c5 c6 c7 c8 c9 c10 c11)) hD hS hA [0, 1, 2, 3, 4, 5, 6, 7, 8] rfl
      refine va_calli (va_runV (As := [.int a1]) (rest := []) ⟨hx, hb, hml, hown, hts⟩ (c_X0_givesBelow N l dC dI cy h q2 q3 q4 q5 q6 q7 q8 q9 H.size c0 c1 c2 c3 c4 c5 c6 c7 c8 c9 c10 c11 a1 u20 hu20) (cwV 1 hts gX0_share_X0_givesBelow rfl rfl rfl (by decide +kernel) ⟨Nat.le_of_ble_eq_true rfl, Nat.le_of_ble_eq_true rfl⟩) ⟨fun a U g mk q => by obtain ⟨q0, q1, qP, qK, qD⟩ := q; exact ⟨q0, q1, qP, va_K.moved (u := U) (U := U.calling g mk a) (Vm.Alike.refl U.vm) qK, qD⟩, va_recv hKc hPc (ci := 0) (q0 := 0) rfl rfl, fun U hU hW => ⟨rfl, by rw [hU], by rw [hU]; exact hPc, va_K.moved hW.alike hKc, hDc.weaken (fun _ _ _ _ => trivial)⟩⟩ rfl rfl hl.1 rfl (lv_room (Nat.le_of_ble_eq_true rfl)) dX0_share_20 ⟨Nat.zero_le _, Nat.zero_le _⟩) hS (fun q _ h => hFc q h) hFc (fun r_20 uu_ t H1 locs ht hvm hw hB hz1 hk1 hS => ?_)
      replace hw := hw.symm
      subst hw
      obtain ⟨hP1, -, hD1⟩ := hB
      rw [ht] at hP1
      obtain ⟨hP, hD⟩ := va_join (wr := []) (w1 := (wX0 cy h q2 q3 q4 q5 q6 q7 q8 q9 c0 c1 c2 c3 c4 c5 c6 c7 c8 c9 c10 c11)) hP hD [0, 1, 2, 3, 4, 5, 6, 7, 8] [] rfl rfl (by decide) (by decide) hk1 hFc hP1 hD1
      clear hk1 hz1 hP1 hD1 ht hPc hDc hFc
      generalize H1 = H at hP hS ⊢
      have hP : va_P (dC, dI) vwCl (wX0 cy h q2 q3 q4 q5 q6 q7 q8 q9 c0 c1 c2 c3 c4 c5 c6 c7 c8 c9 c10 c11) H := hP
      have hD : va_D A (wX0 cy h q2 q3 q4 q5 q6 q7 q8 q9 c0 c1 c2 c3 c4 c5 c6 c7 c8 c9 c10 c11) := hD
      refine lv_if_ne (tgt := 29) hx hb dX0_share_23 (by decide) (fun c_23 => ?_) (fun c_23 => ?_)
      · replace hf := (if_neg c_23).symm.trans hf
        refine lv_aload_n hx hb dX0_share_29 rfl (lv_at hl 0 rfl) ?_
        obtain ⟨u30, hu30, hf⟩ := z_ob_some hf
        have hPc := hP.sub (ws' := (wX0 cy h q2 q3 q4 q5 q6 q7 q8 q9 c0 c1 c2 c3 c4 c5 c6 c7 c8 c9 c10 c11)) [0, 1, 2, 3, 4, 5, 6, 7, 8] rfl
        have hDc := hD.sub (ws' := (wX0 cy h q2 q3 q4 q5 q6 q7 q8 q9 c0 c1 c2 c3 c4 c5 c6 c7 c8 c9 c10 c11)) [0, 1, 2, 3, 4, 5, 6, 7, 8] (by decide) rfl
        have hKc := hK.sub (tys' := [(cy, .int)]) [0] rfl
        have hFc := va_free (wc := (wX0 cy h q2 q3 q4 q5 q6 q7 q8 q9 c0 c1 c2 c3 c4 c5 c6 c7 c8 c9 c10 c11)) hD hS hA [0, 1, 2, 3, 4, 5, 6, 7, 8] rfl
        refine va_callv (va_runV (As := []) (rest := []) ⟨hx, hb, hml, hown, hts⟩ (c_X0_openRows N l dC dI cy h q2 q3 q4 q5 q6 q7 q8 q9 H.size c0 c1 c2 c3 c4 c5 c6 c7 c8 c9 c10 c11 u30 hu30) (cwV 0 hts gX0_share_X0_openRows rfl rfl rfl (by decide +kernel) ⟨Nat.le_of_ble_eq_true rfl, Nat.le_of_ble_eq_true rfl⟩) ⟨fun a U g mk q => by obtain ⟨q0, q1, qP, qK, qD⟩ := q; exact ⟨q0, q1, qP, va_K.moved (u := U) (U := U.calling g mk a) (Vm.Alike.refl U.vm) qK, qD⟩, va_recv hKc hPc (ci := 0) (q0 := 0) rfl rfl, fun U hU hW => ⟨rfl, by rw [hU], by rw [hU]; exact hPc, va_K.moved hW.alike hKc, hDc.weaken (fun _ _ _ _ => trivial)⟩⟩ rfl rfl hl.1 rfl (lv_room (Nat.le_of_ble_eq_true rfl)) dX0_share_30 ⟨Nat.zero_le _, Nat.zero_le _⟩) hS (fun q _ h => hFc q h) hFc (fun uu_ t H1 locs ht hvm hw hB hz1 hk1 hS => ?_)
        obtain ⟨hP1, -, hD1⟩ := hB
        rw [ht] at hP1
        obtain ⟨hP, hD⟩ := va_join (wr := []) (w1 := (wX0 cy h q2 q3 q4 q5 q6 q7 q8 q9 c0 c1 c2 c3 u30 c5 c6 c7 c8 c9 c10 c11)) hP hD [0, 1, 2, 3, 4, 5, 6, 7, 8] [] rfl rfl (by decide) (by decide) hk1 hFc hP1 hD1
        clear hk1 hz1 hP1 hD1 ht hPc hDc hFc
        generalize H1 = H at hP hS ⊢
        have hP : va_P (dC, dI) vwCl (wX0 cy h q2 q3 q4 q5 q6 q7 q8 q9 c0 c1 c2 c3 u30 c5 c6 c7 c8 c9 c10 c11) H := hP
        have hD : va_D A (wX0 cy h q2 q3 q4 q5 q6 q7 q8 q9 c0 c1 c2 c3 u30 c5 c6 c7 c8 c9 c10 c11) := hD
        refine lv_iconst (v := (0 : Int32)) hx hb dX0_share_33 (by decide) ?_
        refine lv_istore_n (lv' := [(3, .int (0 : Int32)), (0, .ref h), (1, .int a1), (2, .int a2)]) hx hb dX0_share_34 rfl hl (by decide) rfl (fun ls hl => ?_)
        exact B35 N a1 a2 (0 : Int32) u30 c5 c6 c7 _ _ _ hf hP hD hS (lv_sub hl [1, 2, 3, 0] rfl)
      · replace hf := (if_pos c_23).symm.trans hf
        refine lv_bipush (v := (-3 : Int32)) hx hb dX0_share_26 (by decide) ?_
        have hres := Option.some.inj hf
        subst hres
        have hP9 := hP.sub (ws' := (wX0 cy h q2 q3 q4 q5 q6 q7 q8 q9 c0 c1 c2 c3 c4 c5 c6 c7 c8 c9 c10 c11)) [0, 1, 2, 3, 4, 5, 6, 7, 8] rfl
        have hD9 := hD.sub (ws' := (wX0 cy h q2 q3 q4 q5 q6 q7 q8 q9 c0 c1 c2 c3 c4 c5 c6 c7 c8 c9 c10 c11)) [0, 1, 2, 3, 4, 5, 6, 7, 8] (by decide) rfl
        have hK9 := hK.sub (tys' := [(cy, .int)]) [0] rfl
        exact W.iret (v := (-3 : Int32)) hx hb hr (fun t ht hW => ⟨⟨(-3 : Int32), (), rfl, rfl, by rw [ht]; exact hP9, va_K.moved hW.alike hK9, hD9⟩, hS.F ht⟩) hS.2.2 dX0_share_28
    · replace hf := (if_pos c_13).symm.trans hf
      refine lv_iconst (v := (-1 : Int32)) hx hb dX0_share_16 (by decide) ?_
      have hres := Option.some.inj hf
      subst hres
      have hP9 := hP.sub (ws' := (wX0 cy h q2 q3 q4 q5 q6 q7 q8 q9 c0 c1 c2 c3 c4 c5 c6 c7 c8 c9 c10 c11)) [0, 1, 2, 3, 4, 5, 6, 7, 8] rfl
      have hD9 := hD.sub (ws' := (wX0 cy h q2 q3 q4 q5 q6 q7 q8 q9 c0 c1 c2 c3 c4 c5 c6 c7 c8 c9 c10 c11)) [0, 1, 2, 3, 4, 5, 6, 7, 8] (by decide) rfl
      have hK9 := hK.sub (tys' := [(cy, .int)]) [0] rfl
      exact W.iret (v := (-1 : Int32)) hx hb hr (fun t ht hW => ⟨⟨(-1 : Int32), (), rfl, rfl, by rw [ht]; exact hP9, va_K.moved hW.alike hK9, hD9⟩, hS.F ht⟩) hS.2.2 dX0_share_17

set_option maxRecDepth 20000 in
theorem ggX0_knows_X0_isOne : GoodIn wsX0_knows wsX0_isOne := goodIn_r _ [6, 7, 67, 68, 69, 70, 71, 72, 73, 74, 75, 76, 77, 78] (by decide +kernel) (by decide +kernel)
set_option maxRecDepth 20000 in
theorem gX0_knows_X0_isOne : GoodIn wsX0_knows (wsV RX0 66 RX0 yX0_isOne wsX0_isOne) := goodIn_app (goodIn_of _ (by decide +kernel)) ggX0_knows_X0_isOne
set_option maxRecDepth 20000 in
theorem ggX0_knows_X0_countGiving : GoodIn wsX0_knows wsX0_countGiving := goodIn_r _ [11, 12, 13, 14, 15, 5, 16, 17, 18, 19, 20, 21, 22, 23, 24, 25, 26, 2, 3, 4, 6, 7, 27, 28, 29, 30, 31, 32, 33, 34, 35, 36, 37, 38, 39, 40, 41, 42, 43, 44, 45, 46, 47, 48, 49, 50, 51, 52, 53, 54, 55, 56, 57, 58, 59, 60, 61, 62, 63, 64, 65, 66, 67, 68, 69, 70, 71, 72, 73, 74, 75, 76, 77, 78] (by decide +kernel) (by decide +kernel)
set_option maxRecDepth 20000 in
theorem gX0_knows_X0_countGiving : GoodIn wsX0_knows (wsV RX0 79 RX0 yX0_countGiving wsX0_countGiving) := goodIn_app (goodIn_of _ (by decide +kernel)) ggX0_knows_X0_countGiving
theorem dX0_knows_0 : decode cX0_knows 0 = .ok (.aload_n 0, 1) := by decide +kernel
theorem dX0_knows_1 : decode cX0_knows 1 = .ok (.iload_n 1, 1) := by decide +kernel
theorem dX0_knows_2 : decode cX0_knows 2 = .ok (.invokevirtual 66, 3) := by decide +kernel
theorem dX0_knows_5 : decode cX0_knows 5 = .ok (.ifCond .ne 5, 3) := by decide +kernel
theorem dX0_knows_8 : decode cX0_knows 8 = .ok (.iconst (-1), 1) := by decide +kernel
theorem dX0_knows_9 : decode cX0_knows 9 = .ok (.ireturn, 1) := by decide +kernel
theorem dX0_knows_10 : decode cX0_knows 10 = .ok (.aload_n 0, 1) := by decide +kernel
theorem dX0_knows_11 : decode cX0_knows 11 = .ok (.getfield 13, 3) := by decide +kernel
theorem dX0_knows_14 : decode cX0_knows 14 = .ok (.iload_n 1, 1) := by decide +kernel
theorem dX0_knows_15 : decode cX0_knows 15 = .ok (.iaload, 1) := by decide +kernel
theorem dX0_knows_16 : decode cX0_knows 16 = .ok (.bipush (-6), 2) := by decide +kernel
theorem dX0_knows_18 : decode cX0_knows 18 = .ok (.if_icmp .ne 6, 3) := by decide +kernel
theorem dX0_knows_21 : decode cX0_knows 21 = .ok (.bipush (-3), 2) := by decide +kernel
theorem dX0_knows_23 : decode cX0_knows 23 = .ok (.ireturn, 1) := by decide +kernel
theorem dX0_knows_24 : decode cX0_knows 24 = .ok (.aload_n 0, 1) := by decide +kernel
theorem dX0_knows_25 : decode cX0_knows 25 = .ok (.iload_n 1, 1) := by decide +kernel
theorem dX0_knows_26 : decode cX0_knows 26 = .ok (.aload_n 0, 1) := by decide +kernel
theorem dX0_knows_27 : decode cX0_knows 27 = .ok (.getfield 13, 3) := by decide +kernel
theorem dX0_knows_30 : decode cX0_knows 30 = .ok (.iload_n 1, 1) := by decide +kernel
theorem dX0_knows_31 : decode cX0_knows 31 = .ok (.iaload, 1) := by decide +kernel
theorem dX0_knows_32 : decode cX0_knows 32 = .ok (.invokevirtual 79, 3) := by decide +kernel
theorem dX0_knows_35 : decode cX0_knows 35 = .ok (.ireturn, 1) := by decide +kernel
abbrev rm_X0_knows : Room := { frames := 5, cells := 0, slots := 0, locals := 118 }
set_option maxHeartbeats 4000000 in
set_option maxRecDepth 100000 in
theorem c_X0_knows (N : Nat) (l : Launch) (dC : Nat → ClassId) (dI : Nat → Nat → Nat) (cy : ClassId) (h q2 q3 q4 q5 q6 q7 q8 q9 : Nat) (sz : Nat) (c0 : Int32) (c1 : Int32) (c2 : Nat → Int32) (c3 : Nat → Int32) (c4 : Nat → Int32) (c5 : Nat → Int32) (c6 : Nat → Int32) (c7 : Nat → Int32) (c8 : Nat → Int32) (c9 : Nat → Int32) (c10 : Int32) (c11 : Int32) (a1 : Int32) (res : Int32 × (Nat → Int32) × (Nat → Int32) × (Nat → Int32) × (Nat → Int32)) (hf : f_X0_knows N a1 c0 c1 c2 c3 c4 c5 c6 c7 = some res) : Met l yX0_knows wsX0_knows rm_X0_knows (va_Pc [.ref h, .int a1] (fun U => U.heap.size = sz ∧ va_P (dC, dI) vwCl (wX0 cy h q2 q3 q4 q5 q6 q7 q8 q9 c0 c1 c2 c3 c4 c5 c6 c7 c8 c9 c10 c11) U.heap ∧ va_K (dC, dI) vwCl [(cy, .int)] U ∧ va_D (fun _ => True) (wX0 cy h q2 q3 q4 q5 q6 q7 q8 q9 c0 c1 c2 c3 c4 c5 c6 c7 c8 c9 c10 c11))) (z_qI dC dI cy res.1 (wX0 cy h q2 q3 q4 q5 q6 q7 q8 q9 c0 c1 c2 c3 res.2.1 res.2.2.1 res.2.2.2.1 res.2.2.2.2 c8 c9 c10 c11) (va_A (wX0 cy h q2 q3 q4 q5 q6 q7 q8 q9 c0 c1 c2 c3 c4 c5 c6 c7 c8 c9 c10 c11) sz)) 0 0 (va_A (wX0 cy h q2 q3 q4 q5 q6 q7 q8 q9 c0 c1 c2 c3 c4 c5 c6 c7 c8 c9 c10 c11) sz) := by
  refine Met.ofW (cc := cX0_knows) (maxL := 2) (ret := (some .int)) (by decide) rfl ?_
  intro p e s m args below meth c s₁ B hml hv
  obtain ⟨rfl, hsz, hP, hK, hD0⟩ := hv
  have hx := B.exec
  have hb := B.bytes
  have hr := B.returns
  have hts := atoms_spec (ws := wsX0_knows) B.pre
  have hown : s.vm.findClass RX0 = some m.cls := findClass_of_methodNamed B.named
  have hlocks := B.notSynchronized
  subst hsz
  have hD := hD0.self (sz := s.heap.size)
  generalize hAe : va_A (wX0 cy h q2 q3 q4 q5 q6 q7 q8 q9 c0 c1 c2 c3 c4 c5 c6 c7 c8 c9 c10 c11) s.heap.size = A at hD ⊢
  have hA : ∀ q : Nat, s.heap.size ≤ q → A q := fun q h => by rw [← hAe]; exact Or.inr h
  have hS : va_S A s.heap s.heap [] := va_S.rf
  have hP : va_P (dC, dI) vwCl (wX0 cy h q2 q3 q4 q5 q6 q7 q8 q9 c0 c1 c2 c3 c4 c5 c6 c7 c8 c9 c10 c11) s.heap := hP
  have hl := lv_entry ([.ref h, .int a1]) (n := 2) (Nat.le_of_ble_eq_true rfl)
  rw [lg_entry_eq]
  generalize (lg_sl ([.ref h, .int a1]) ++ List.replicate (2 - (lg_sl ([.ref h, .int a1])).length) Slot.unset).toArray = ls at hl ⊢
  have hl : lv_has ls 2 [(0, .ref h), (1, .int a1)] := hl
  unfold f_X0_knows at hf
  refine lv_aload_n hx hb dX0_knows_0 rfl (lv_at hl 0 rfl) ?_
  refine lv_iload_n hx hb dX0_knows_1 rfl (lv_at hl 1 rfl) ?_
  obtain ⟨u2, hu2, hf⟩ := z_ob_some hf
  have hPc := hP.sub (ws' := (wX0 cy h q2 q3 q4 q5 q6 q7 q8 q9 c0 c1 c2 c3 c4 c5 c6 c7 c8 c9 c10 c11)) [0, 1, 2, 3, 4, 5, 6, 7, 8] rfl
  have hDc := hD.sub (ws' := (wX0 cy h q2 q3 q4 q5 q6 q7 q8 q9 c0 c1 c2 c3 c4 c5 c6 c7 c8 c9 c10 c11)) [0, 1, 2, 3, 4, 5, 6, 7, 8] (by decide) rfl
  have hKc := hK.sub (tys' := [(cy, .int)]) [0] rfl
  have hFc := va_free (wc := (wX0 cy h q2 q3 q4 q5 q6 q7 q8 q9 c0 c1 c2 c3 c4 c5 c6 c7 c8 c9 c10 c11)) hD hS hA [0, 1, 2, 3, 4, 5, 6, 7, 8] rfl
  refine va_calli (va_runV (As := [.int a1]) (rest := []) ⟨hx, hb, hml, hown, hts⟩ (c_X0_isOne N l dC dI cy h q2 q3 q4 q5 q6 q7 q8 q9 s.heap.size c0 c1 c2 c3 c4 c5 c6 c7 c8 c9 c10 c11 a1 u2 hu2) (cwV 1 hts gX0_knows_X0_isOne rfl rfl rfl (by decide +kernel) ⟨Nat.le_of_ble_eq_true rfl, Nat.le_of_ble_eq_true rfl⟩) ⟨fun a U g mk q => by obtain ⟨q0, q1, qP, qK, qD⟩ := q; exact ⟨q0, q1, qP, va_K.moved (u := U) (U := U.calling g mk a) (Vm.Alike.refl U.vm) qK, qD⟩, va_recv hKc hPc (ci := 0) (q0 := 0) rfl rfl, fun U hU hW => ⟨rfl, by rw [hU], by rw [hU]; exact hPc, va_K.moved hW.alike hKc, hDc.weaken (fun _ _ _ _ => trivial)⟩⟩ rfl rfl hl.1 rfl (lv_room (Nat.le_of_ble_eq_true rfl)) dX0_knows_2 ⟨Nat.zero_le _, Nat.zero_le _⟩) hS (fun q _ h => hFc q h) hFc (fun r_2 uu_ t H1 locs ht hvm hw hB hz1 hk1 hS => ?_)
  replace hw := hw.symm
  subst hw
  obtain ⟨hP1, -, hD1⟩ := hB
  rw [ht] at hP1
  obtain ⟨hP, hD⟩ := va_join (wr := []) (w1 := (wX0 cy h q2 q3 q4 q5 q6 q7 q8 q9 c0 c1 c2 c3 c4 c5 c6 c7 c8 c9 c10 c11)) hP hD [0, 1, 2, 3, 4, 5, 6, 7, 8] [] rfl rfl (by decide) (by decide) hk1 hFc hP1 hD1
  clear hk1 hz1 hP1 hD1 ht hPc hDc hFc
  generalize H1 = H at hP hS ⊢
  have hP : va_P (dC, dI) vwCl (wX0 cy h q2 q3 q4 q5 q6 q7 q8 q9 c0 c1 c2 c3 c4 c5 c6 c7 c8 c9 c10 c11) H := hP
  have hD : va_D A (wX0 cy h q2 q3 q4 q5 q6 q7 q8 q9 c0 c1 c2 c3 c4 c5 c6 c7 c8 c9 c10 c11) := hD
  refine lv_if_ne (tgt := 10) hx hb dX0_knows_5 (by decide) (fun c_5 => ?_) (fun c_5 => ?_)
  · replace hf := (if_neg c_5).symm.trans hf
    refine lv_aload_n hx hb dX0_knows_10 rfl (lv_at hl 0 rfl) ?_
    refine va_get (D := (dC, dI)) (ci := 0) (v := .ref q3) (C := RX0) (T := TX0) (N := 12) hx hb hts (by decide +kernel) hown hK hP 0 rfl rfl 3 (by decide) (hts (.fieldLink RX0 13 "GiftLots" "hand" "[I") (by decide +kernel)) (fun _ h9 => h9) rfl dX0_knows_11 ?_
    refine lv_iload_n hx hb dX0_knows_14 rfl (lv_at hl 1 rfl) ?_
    obtain ⟨hi15, hf⟩ := z_gx_some hf
    refine va_iald hx hb hK hP 2 0 rfl rfl hi15 dX0_knows_15 ?_
    refine lv_bipush (v := (-6 : Int32)) hx hb dX0_knows_16 (by decide) ?_
    refine lv_icmp_ne (tgt := 24) hx hb dX0_knows_18 (by decide) (fun c_18 => ?_) (fun c_18 => ?_)
    · replace hf := (if_neg c_18).symm.trans hf
      refine lv_aload_n hx hb dX0_knows_24 rfl (lv_at hl 0 rfl) ?_
      refine lv_iload_n hx hb dX0_knows_25 rfl (lv_at hl 1 rfl) ?_
      refine lv_aload_n hx hb dX0_knows_26 rfl (lv_at hl 0 rfl) ?_
      refine va_get (D := (dC, dI)) (ci := 0) (v := .ref q3) (C := RX0) (T := TX0) (N := 12) hx hb hts (by decide +kernel) hown hK hP 0 rfl rfl 3 (by decide) (hts (.fieldLink RX0 13 "GiftLots" "hand" "[I") (by decide +kernel)) (fun _ h9 => h9) rfl dX0_knows_27 ?_
      refine lv_iload_n hx hb dX0_knows_30 rfl (lv_at hl 1 rfl) ?_
      obtain ⟨hi31, hf⟩ := z_gx_some hf
      refine va_iald hx hb hK hP 2 0 rfl rfl hi31 dX0_knows_31 ?_
      obtain ⟨u32, hu32, hf⟩ := z_ob_some hf
      have hPc := hP.sub (ws' := (wX0 cy h q2 q3 q4 q5 q6 q7 q8 q9 c0 c1 c2 c3 c4 c5 c6 c7 c8 c9 c10 c11)) [0, 1, 2, 3, 4, 5, 6, 7, 8] rfl
      have hDc := hD.sub (ws' := (wX0 cy h q2 q3 q4 q5 q6 q7 q8 q9 c0 c1 c2 c3 c4 c5 c6 c7 c8 c9 c10 c11)) [0, 1, 2, 3, 4, 5, 6, 7, 8] (by decide) rfl
      have hKc := hK.sub (tys' := [(cy, .int)]) [0] rfl
      have hFc := va_free (wc := (wX0 cy h q2 q3 q4 q5 q6 q7 q8 q9 c0 c1 c2 c3 c4 c5 c6 c7 c8 c9 c10 c11)) hD hS hA [0, 1, 2, 3, 4, 5, 6, 7, 8] rfl
      refine va_calli (va_runV (As := [.int a1, .int (c3 (a1).toNatClampNeg)]) (rest := []) ⟨hx, hb, hml, hown, hts⟩ (c_X0_countGiving N l dC dI cy h q2 q3 q4 q5 q6 q7 q8 q9 H.size c0 c1 c2 c3 c4 c5 c6 c7 c8 c9 c10 c11 a1 (c3 (a1).toNatClampNeg) u32 hu32) (cwV 2 hts gX0_knows_X0_countGiving rfl rfl rfl (by decide +kernel) ⟨Nat.le_of_ble_eq_true rfl, Nat.le_of_ble_eq_true rfl⟩) ⟨fun a U g mk q => by obtain ⟨q0, q1, qP, qK, qD⟩ := q; exact ⟨q0, q1, qP, va_K.moved (u := U) (U := U.calling g mk a) (Vm.Alike.refl U.vm) qK, qD⟩, va_recv hKc hPc (ci := 0) (q0 := 0) rfl rfl, fun U hU hW => ⟨rfl, by rw [hU], by rw [hU]; exact hPc, va_K.moved hW.alike hKc, hDc.weaken (fun _ _ _ _ => trivial)⟩⟩ rfl rfl hl.1 rfl (lv_room (Nat.le_of_ble_eq_true rfl)) dX0_knows_32 ⟨Nat.zero_le _, Nat.zero_le _⟩) hS (fun q _ h => hFc q h) hFc (fun r_32 uu_ t H1 locs ht hvm hw hB hz1 hk1 hS => ?_)
      replace hw := hw.symm
      subst hw
      obtain ⟨hP1, -, hD1⟩ := hB
      rw [ht] at hP1
      obtain ⟨hP, hD⟩ := va_join (wr := []) (w1 := (wX0 cy h q2 q3 q4 q5 q6 q7 q8 q9 c0 c1 c2 c3 u32.2.1 u32.2.2.1 u32.2.2.2.1 u32.2.2.2.2 c8 c9 c10 c11)) hP hD [0, 1, 2, 3, 4, 5, 6, 7, 8] [] rfl rfl (by decide) (by decide) hk1 hFc hP1 hD1
      clear hk1 hz1 hP1 hD1 ht hPc hDc hFc
      generalize H1 = H at hP hS ⊢
      have hP : va_P (dC, dI) vwCl (wX0 cy h q2 q3 q4 q5 q6 q7 q8 q9 c0 c1 c2 c3 u32.2.1 u32.2.2.1 u32.2.2.2.1 u32.2.2.2.2 c8 c9 c10 c11) H := hP
      have hD : va_D A (wX0 cy h q2 q3 q4 q5 q6 q7 q8 q9 c0 c1 c2 c3 u32.2.1 u32.2.2.1 u32.2.2.2.1 u32.2.2.2.2 c8 c9 c10 c11) := hD
      have hres := Option.some.inj hf
      subst hres
      have hP9 := hP.sub (ws' := (wX0 cy h q2 q3 q4 q5 q6 q7 q8 q9 c0 c1 c2 c3 u32.2.1 u32.2.2.1 u32.2.2.2.1 u32.2.2.2.2 c8 c9 c10 c11)) [0, 1, 2, 3, 4, 5, 6, 7, 8] rfl
      have hD9 := hD.sub (ws' := (wX0 cy h q2 q3 q4 q5 q6 q7 q8 q9 c0 c1 c2 c3 u32.2.1 u32.2.2.1 u32.2.2.2.1 u32.2.2.2.2 c8 c9 c10 c11)) [0, 1, 2, 3, 4, 5, 6, 7, 8] (by decide) rfl
      have hK9 := hK.sub (tys' := [(cy, .int)]) [0] rfl
      exact W.iret (v := u32.1) hx hb hr (fun t ht hW => ⟨⟨u32.1, (), rfl, rfl, by rw [ht]; exact hP9, va_K.moved hW.alike hK9, hD9⟩, hS.F ht⟩) hS.2.2 dX0_knows_35
    · replace hf := (if_pos c_18).symm.trans hf
      refine lv_bipush (v := (-3 : Int32)) hx hb dX0_knows_21 (by decide) ?_
      have hres := Option.some.inj hf
      subst hres
      have hP9 := hP.sub (ws' := (wX0 cy h q2 q3 q4 q5 q6 q7 q8 q9 c0 c1 c2 c3 c4 c5 c6 c7 c8 c9 c10 c11)) [0, 1, 2, 3, 4, 5, 6, 7, 8] rfl
      have hD9 := hD.sub (ws' := (wX0 cy h q2 q3 q4 q5 q6 q7 q8 q9 c0 c1 c2 c3 c4 c5 c6 c7 c8 c9 c10 c11)) [0, 1, 2, 3, 4, 5, 6, 7, 8] (by decide) rfl
      have hK9 := hK.sub (tys' := [(cy, .int)]) [0] rfl
      exact W.iret (v := (-3 : Int32)) hx hb hr (fun t ht hW => ⟨⟨(-3 : Int32), (), rfl, rfl, by rw [ht]; exact hP9, va_K.moved hW.alike hK9, hD9⟩, hS.F ht⟩) hS.2.2 dX0_knows_23
  · replace hf := (if_pos c_5).symm.trans hf
    refine lv_iconst (v := (-1 : Int32)) hx hb dX0_knows_8 (by decide) ?_
    have hres := Option.some.inj hf
    subst hres
    have hP9 := hP.sub (ws' := (wX0 cy h q2 q3 q4 q5 q6 q7 q8 q9 c0 c1 c2 c3 c4 c5 c6 c7 c8 c9 c10 c11)) [0, 1, 2, 3, 4, 5, 6, 7, 8] rfl
    have hD9 := hD.sub (ws' := (wX0 cy h q2 q3 q4 q5 q6 q7 q8 q9 c0 c1 c2 c3 c4 c5 c6 c7 c8 c9 c10 c11)) [0, 1, 2, 3, 4, 5, 6, 7, 8] (by decide) rfl
    have hK9 := hK.sub (tys' := [(cy, .int)]) [0] rfl
    exact W.iret (v := (-1 : Int32)) hx hb hr (fun t ht hW => ⟨⟨(-1 : Int32), (), rfl, rfl, by rw [ht]; exact hP9, va_K.moved hW.alike hK9, hD9⟩, hS.F ht⟩) hS.2.2 dX0_knows_9

set_option maxRecDepth 20000 in
theorem ggX0_givesAlike_X0_isOne : GoodIn wsX0_givesAlike wsX0_isOne := goodIn_r _ [8, 2, 49, 50, 51, 52, 53, 54, 55, 56, 57, 58, 59, 60] (by decide +kernel) (by decide +kernel)
set_option maxRecDepth 20000 in
theorem gX0_givesAlike_X0_isOne : GoodIn wsX0_givesAlike (wsV RX0 66 RX0 yX0_isOne wsX0_isOne) := goodIn_app (goodIn_of _ (by decide +kernel)) ggX0_givesAlike_X0_isOne
set_option maxRecDepth 20000 in
theorem ggX0_givesAlike_X0_bit : GoodIn wsX0_givesAlike wsX0_bit := goodIn_r _ [11] (by decide +kernel) (by decide +kernel)
set_option maxRecDepth 20000 in
theorem gX0_givesAlike_X0_bit : GoodIn wsX0_givesAlike (va_wsS RX0 50 yX0_bit wsX0_bit) := goodIn_app (goodIn_of _ (by decide +kernel)) ggX0_givesAlike_X0_bit
set_option maxRecDepth 20000 in
theorem ggX0_givesAlike_X0_countWays : GoodIn wsX0_givesAlike wsX0_countWays := goodIn_r _ [15, 16, 17, 18, 19, 7, 20, 21, 2, 22, 23, 24, 25, 26, 27, 28, 29, 30, 9, 10, 11, 31, 32, 33, 34, 35, 36, 37, 1, 38, 39, 40, 41, 42, 43, 44, 45, 46, 47, 48, 49, 50, 51, 52, 53, 54, 55, 56, 57, 58, 59, 60] (by decide +kernel) (by decide +kernel)
set_option maxRecDepth 20000 in
theorem gX0_givesAlike_X0_countWays : GoodIn wsX0_givesAlike (wsV RX0 63 RX0 yX0_countWays wsX0_countWays) := goodIn_app (goodIn_of _ (by decide +kernel)) ggX0_givesAlike_X0_countWays
theorem dX0_givesAlike_0 : decode cX0_givesAlike 0 = .ok (.aload_n 0, 1) := by decide +kernel
theorem dX0_givesAlike_1 : decode cX0_givesAlike 1 = .ok (.iload_n 1, 1) := by decide +kernel
theorem dX0_givesAlike_2 : decode cX0_givesAlike 2 = .ok (.invokevirtual 66, 3) := by decide +kernel
theorem dX0_givesAlike_5 : decode cX0_givesAlike 5 = .ok (.ifCond .ne 5, 3) := by decide +kernel
theorem dX0_givesAlike_8 : decode cX0_givesAlike 8 = .ok (.iconst 0, 1) := by decide +kernel
theorem dX0_givesAlike_9 : decode cX0_givesAlike 9 = .ok (.ireturn, 1) := by decide +kernel
theorem dX0_givesAlike_10 : decode cX0_givesAlike 10 = .ok (.aload_n 0, 1) := by decide +kernel
theorem dX0_givesAlike_11 : decode cX0_givesAlike 11 = .ok (.getfield 16, 3) := by decide +kernel
theorem dX0_givesAlike_14 : decode cX0_givesAlike 14 = .ok (.iload_n 1, 1) := by decide +kernel
theorem dX0_givesAlike_15 : decode cX0_givesAlike 15 = .ok (.iaload, 1) := by decide +kernel
theorem dX0_givesAlike_16 : decode cX0_givesAlike 16 = .ok (.istore_n 3, 1) := by decide +kernel
theorem dX0_givesAlike_17 : decode cX0_givesAlike 17 = .ok (.iconst 0, 1) := by decide +kernel
theorem dX0_givesAlike_18 : decode cX0_givesAlike 18 = .ok (.istore 4, 2) := by decide +kernel
theorem dX0_givesAlike_20 : decode cX0_givesAlike 20 = .ok (.iload 4, 2) := by decide +kernel
theorem dX0_givesAlike_22 : decode cX0_givesAlike 22 = .ok (.aload_n 0, 1) := by decide +kernel
theorem dX0_givesAlike_23 : decode cX0_givesAlike 23 = .ok (.getfield 38, 3) := by decide +kernel
theorem dX0_givesAlike_26 : decode cX0_givesAlike 26 = .ok (.if_icmp .ge 62, 3) := by decide +kernel
theorem dX0_givesAlike_29 : decode cX0_givesAlike 29 = .ok (.aload_n 0, 1) := by decide +kernel
theorem dX0_givesAlike_30 : decode cX0_givesAlike 30 = .ok (.getfield 16, 3) := by decide +kernel
theorem dX0_givesAlike_33 : decode cX0_givesAlike 33 = .ok (.iload_n 1, 1) := by decide +kernel
theorem dX0_givesAlike_34 : decode cX0_givesAlike 34 = .ok (.iload_n 3, 1) := by decide +kernel
theorem dX0_givesAlike_35 : decode cX0_givesAlike 35 = .ok (.iload 4, 2) := by decide +kernel
theorem dX0_givesAlike_37 : decode cX0_givesAlike 37 = .ok (.invokestatic 50, 3) := by decide +kernel
theorem dX0_givesAlike_40 : decode cX0_givesAlike 40 = .ok (.iand, 1) := by decide +kernel
theorem dX0_givesAlike_41 : decode cX0_givesAlike 41 = .ok (.iastore, 1) := by decide +kernel
theorem dX0_givesAlike_42 : decode cX0_givesAlike 42 = .ok (.aload_n 0, 1) := by decide +kernel
theorem dX0_givesAlike_43 : decode cX0_givesAlike 43 = .ok (.getfield 16, 3) := by decide +kernel
theorem dX0_givesAlike_46 : decode cX0_givesAlike 46 = .ok (.iload_n 1, 1) := by decide +kernel
theorem dX0_givesAlike_47 : decode cX0_givesAlike 47 = .ok (.iaload, 1) := by decide +kernel
theorem dX0_givesAlike_48 : decode cX0_givesAlike 48 = .ok (.ifCond .ne 7, 3) := by decide +kernel
theorem dX0_givesAlike_51 : decode cX0_givesAlike 51 = .ok (.iconst 0, 1) := by decide +kernel
theorem dX0_givesAlike_52 : decode cX0_givesAlike 52 = .ok (.goto 11, 3) := by decide +kernel
theorem dX0_givesAlike_55 : decode cX0_givesAlike 55 = .ok (.aload_n 0, 1) := by decide +kernel
theorem dX0_givesAlike_56 : decode cX0_givesAlike 56 = .ok (.aload_n 0, 1) := by decide +kernel
theorem dX0_givesAlike_57 : decode cX0_givesAlike 57 = .ok (.getfield 57, 3) := by decide +kernel
theorem dX0_givesAlike_60 : decode cX0_givesAlike 60 = .ok (.invokevirtual 63, 3) := by decide +kernel
theorem dX0_givesAlike_63 : decode cX0_givesAlike 63 = .ok (.istore 5, 2) := by decide +kernel
theorem dX0_givesAlike_65 : decode cX0_givesAlike 65 = .ok (.iload 5, 2) := by decide +kernel
theorem dX0_givesAlike_67 : decode cX0_givesAlike 67 = .ok (.ifCond .le 15, 3) := by decide +kernel
theorem dX0_givesAlike_70 : decode cX0_givesAlike 70 = .ok (.iload 5, 2) := by decide +kernel
theorem dX0_givesAlike_72 : decode cX0_givesAlike 72 = .ok (.iload_n 2, 1) := by decide +kernel
theorem dX0_givesAlike_73 : decode cX0_givesAlike 73 = .ok (.if_icmp .ne 7, 3) := by decide +kernel
theorem dX0_givesAlike_76 : decode cX0_givesAlike 76 = .ok (.iconst 1, 1) := by decide +kernel
theorem dX0_givesAlike_77 : decode cX0_givesAlike 77 = .ok (.goto 4, 3) := by decide +kernel
theorem dX0_givesAlike_80 : decode cX0_givesAlike 80 = .ok (.iconst 0, 1) := by decide +kernel
theorem dX0_givesAlike_81 : decode cX0_givesAlike 81 = .ok (.ireturn, 1) := by decide +kernel
theorem dX0_givesAlike_82 : decode cX0_givesAlike 82 = .ok (.iinc 4 1, 3) := by decide +kernel
theorem dX0_givesAlike_85 : decode cX0_givesAlike 85 = .ok (.goto (-65), 3) := by decide +kernel
theorem dX0_givesAlike_88 : decode cX0_givesAlike 88 = .ok (.iconst 0, 1) := by decide +kernel
theorem dX0_givesAlike_89 : decode cX0_givesAlike 89 = .ok (.ireturn, 1) := by decide +kernel
abbrev rm_X0_givesAlike : Room := { frames := 4, cells := 0, slots := 0, locals := 96 }
set_option maxHeartbeats 4000000 in
set_option maxRecDepth 100000 in
theorem c_X0_givesAlike (N : Nat) (l : Launch) (dC : Nat → ClassId) (dI : Nat → Nat → Nat) (cy : ClassId) (h q2 q3 q4 q5 q6 q7 q8 q9 : Nat) (sz : Nat) (c0 : Int32) (c1 : Int32) (c2 : Nat → Int32) (c3 : Nat → Int32) (c4 : Nat → Int32) (c5 : Nat → Int32) (c6 : Nat → Int32) (c7 : Nat → Int32) (c8 : Nat → Int32) (c9 : Nat → Int32) (c10 : Int32) (c11 : Int32) (a1 a2 : Int32) (res : Int32 × (Nat → Int32) × (Nat → Int32) × (Nat → Int32) × (Nat → Int32)) (hf : f_X0_givesAlike N a1 a2 c0 c1 c4 c5 c6 c7 = some res) : Met l yX0_givesAlike wsX0_givesAlike rm_X0_givesAlike (va_Pc [.ref h, .int a1, .int a2] (fun U => U.heap.size = sz ∧ va_P (dC, dI) vwCl (wX0 cy h q2 q3 q4 q5 q6 q7 q8 q9 c0 c1 c2 c3 c4 c5 c6 c7 c8 c9 c10 c11) U.heap ∧ va_K (dC, dI) vwCl [(cy, .int)] U ∧ va_D (fun _ => True) (wX0 cy h q2 q3 q4 q5 q6 q7 q8 q9 c0 c1 c2 c3 c4 c5 c6 c7 c8 c9 c10 c11))) (z_qI dC dI cy res.1 (wX0 cy h q2 q3 q4 q5 q6 q7 q8 q9 c0 c1 c2 c3 res.2.1 res.2.2.1 res.2.2.2.1 res.2.2.2.2 c8 c9 c10 c11) (va_A (wX0 cy h q2 q3 q4 q5 q6 q7 q8 q9 c0 c1 c2 c3 c4 c5 c6 c7 c8 c9 c10 c11) sz)) 0 0 (va_A (wX0 cy h q2 q3 q4 q5 q6 q7 q8 q9 c0 c1 c2 c3 c4 c5 c6 c7 c8 c9 c10 c11) sz) := by
  refine Met.ofW (cc := cX0_givesAlike) (maxL := 6) (ret := (some .boolean)) (by decide) rfl ?_
  intro p e s m args below meth c s₁ B hml hv
  obtain ⟨rfl, hsz, hP, hK, hD0⟩ := hv
  have hx := B.exec
  have hb := B.bytes
  have hr := B.returns
  have hts := atoms_spec (ws := wsX0_givesAlike) B.pre
  have hown : s.vm.findClass RX0 = some m.cls := findClass_of_methodNamed B.named
  have hlocks := B.notSynchronized
  subst hsz
  have hD := hD0.self (sz := s.heap.size)
  generalize hAe : va_A (wX0 cy h q2 q3 q4 q5 q6 q7 q8 q9 c0 c1 c2 c3 c4 c5 c6 c7 c8 c9 c10 c11) s.heap.size = A at hD ⊢
  have hA : ∀ q : Nat, s.heap.size ≤ q → A q := fun q h => by rw [← hAe]; exact Or.inr h
  have hS : va_S A s.heap s.heap [] := va_S.rf
  have hP : va_P (dC, dI) vwCl (wX0 cy h q2 q3 q4 q5 q6 q7 q8 q9 c0 c1 c2 c3 c4 c5 c6 c7 c8 c9 c10 c11) s.heap := hP
  have hl := lv_entry ([.ref h, .int a1, .int a2]) (n := 6) (Nat.le_of_ble_eq_true rfl)
  rw [lg_entry_eq]
  generalize (lg_sl ([.ref h, .int a1, .int a2]) ++ List.replicate (6 - (lg_sl ([.ref h, .int a1, .int a2])).length) Slot.unset).toArray = ls at hl ⊢
  have hl : lv_has ls 6 [(0, .ref h), (1, .int a1), (2, .int a2)] := hl
  have B63 : ∀ (r20 : Int32 → Int32 → Int32 → Int32 → (Nat → Int32) → (Nat → Int32) → (Nat → Int32) → (Nat → Int32) → Option (Int32 × (Nat → Int32) × (Nat → Int32) × (Nat → Int32) × (Nat → Int32))), (∀ (x1 x2 x3 x4 : Int32) (c4 : Nat → Int32) (c5 : Nat → Int32) (c6 : Nat → Int32) (c7 : Nat → Int32) (H : Heap) (locs : List Loc) (ls : Array Slot), r20 x1 x2 x3 x4 c4 c5 c6 c7 = some res → va_P (dC, dI) vwCl (wX0 cy h q2 q3 q4 q5 q6 q7 q8 q9 c0 c1 c2 c3 c4 c5 c6 c7 c8 c9 c10 c11) H → va_D A (wX0 cy h q2 q3 q4 q5 q6 q7 q8 q9 c0 c1 c2 c3 c4 c5 c6 c7 c8 c9 c10 c11) → va_S A s.heap H locs → lv_has ls 6 [(0, .ref h), (1, .int x1), (2, .int x2), (3, .int x3), (4, .int x4)] → W p l e rm_X0_givesAlike s m ([.ref h, .int a1, .int a2] : List Value).toArray below meth c H locs 0 0 (MQ below (z_qI dC dI cy res.1 (wX0 cy h q2 q3 q4 q5 q6 q7 q8 q9 c0 c1 c2 c3 res.2.1 res.2.2.1 res.2.2.2.1 res.2.2.2.2 c8 c9 c10 c11) A) ([.ref h, .int a1, .int a2] : List Value).toArray s 0 0 A) (F0 m 20 ls [])) → ∀ (x1 x2 x3 x4 t0 : Int32) (c4 : Nat → Int32) (c5 : Nat → Int32) (c6 : Nat → Int32) (c7 : Nat → Int32) (H : Heap) (locs : List Loc) (ls : Array Slot), f_X0_givesAlike_b63 N c0 c1 r20 x1 x2 x3 x4 t0 c4 c5 c6 c7 = some res → va_P (dC, dI) vwCl (wX0 cy h q2 q3 q4 q5 q6 q7 q8 q9 c0 c1 c2 c3 c4 c5 c6 c7 c8 c9 c10 c11) H → va_D A (wX0 cy h q2 q3 q4 q5 q6 q7 q8 q9 c0 c1 c2 c3 c4 c5 c6 c7 c8 c9 c10 c11) → va_S A s.heap H locs → lv_has ls 6 [(0, .ref h), (1, .int x1), (2, .int x2), (3, .int x3), (4, .int x4)] → W p l e rm_X0_givesAlike s m ([.ref h, .int a1, .int a2] : List Value).toArray below meth c H locs 0 0 (MQ below (z_qI dC dI cy res.1 (wX0 cy h q2 q3 q4 q5 q6 q7 q8 q9 c0 c1 c2 c3 res.2.1 res.2.2.1 res.2.2.2.1 res.2.2.2.2 c8 c9 c10 c11) A) ([.ref h, .int a1, .int a2] : List Value).toArray s 0 0 A) (F0 m 63 ls [.int t0]) := by
    clear hf hl hP hD hS
    intro r20 hr20
    intro x1 x2 x3 x4 t0 c4 c5 c6 c7 H locs ls hf hP hD hS hl
    unfold f_X0_givesAlike_b63 at hf
    refine lv_istore (lv' := [(5, .int t0), (0, .ref h), (1, .int x1), (2, .int x2), (3, .int x3), (4, .int x4)]) hx hb dX0_givesAlike_63 hl (by decide) rfl (fun ls hl => ?_)
    refine lv_iload hx hb dX0_givesAlike_65 (lv_at hl 0 rfl) ?_
    refine lv_if_le (tgt := 82) hx hb dX0_givesAlike_67 (by decide) (fun c_67 => ?_) (fun c_67 => ?_)
    · replace hf := (if_pos c_67).symm.trans hf
      refine lv_iinc (v := x4 + (1 : Int32)) (lv' := [(4, .int (x4 + (1 : Int32))), (5, .int t0), (0, .ref h), (1, .int x1), (2, .int x2), (3, .int x3)]) hx hb dX0_givesAlike_82 hl (k := 5) rfl rfl (by decide) rfl (fun ls hl => ?_)
      refine lv_goto (tgt := 20) hx hb dX0_givesAlike_85 (by decide) ?_
      exact hr20 x1 x2 x3 (x4 + (1 : Int32)) c4 c5 c6 c7 _ _ _ hf hP hD hS (lv_sub hl [2, 3, 4, 5, 0] rfl)
    · replace hf := (if_neg c_67).symm.trans hf
      refine lv_iload hx hb dX0_givesAlike_70 (lv_at hl 0 rfl) ?_
      refine lv_iload_n hx hb dX0_givesAlike_72 rfl (lv_at hl 3 rfl) ?_
      refine lv_icmp_ne (tgt := 80) hx hb dX0_givesAlike_73 (by decide) (fun c_73 => ?_) (fun c_73 => ?_)
      · replace hf := (if_neg c_73).symm.trans hf
        refine lv_iconst (v := (0 : Int32)) hx hb dX0_givesAlike_80 (by decide) ?_
        have hres := Option.some.inj hf
        subst hres
        have hP9 := hP.sub (ws' := (wX0 cy h q2 q3 q4 q5 q6 q7 q8 q9 c0 c1 c2 c3 c4 c5 c6 c7 c8 c9 c10 c11)) [0, 1, 2, 3, 4, 5, 6, 7, 8] rfl
        have hD9 := hD.sub (ws' := (wX0 cy h q2 q3 q4 q5 q6 q7 q8 q9 c0 c1 c2 c3 c4 c5 c6 c7 c8 c9 c10 c11)) [0, 1, 2, 3, 4, 5, 6, 7, 8] (by decide) rfl
        have hK9 := hK.sub (tys' := [(cy, .int)]) [0] rfl
        exact W.zret (v := (0 : Int32)) hx hb hr rfl (fun t ht hW => ⟨⟨(0 : Int32), (), rfl, rfl, by rw [ht]; exact hP9, va_K.moved hW.alike hK9, hD9⟩, hS.F ht⟩) hS.2.2 dX0_givesAlike_81
      · replace hf := (if_pos c_73).symm.trans hf
        refine lv_iconst (v := (1 : Int32)) hx hb dX0_givesAlike_76 (by decide) ?_
        refine lv_goto (tgt := 81) hx hb dX0_givesAlike_77 (by decide) ?_
        have hres := Option.some.inj hf
        subst hres
        have hP9 := hP.sub (ws' := (wX0 cy h q2 q3 q4 q5 q6 q7 q8 q9 c0 c1 c2 c3 c4 c5 c6 c7 c8 c9 c10 c11)) [0, 1, 2, 3, 4, 5, 6, 7, 8] rfl
        have hD9 := hD.sub (ws' := (wX0 cy h q2 q3 q4 q5 q6 q7 q8 q9 c0 c1 c2 c3 c4 c5 c6 c7 c8 c9 c10 c11)) [0, 1, 2, 3, 4, 5, 6, 7, 8] (by decide) rfl
        have hK9 := hK.sub (tys' := [(cy, .int)]) [0] rfl
        exact W.zret (v := (1 : Int32)) hx hb hr rfl (fun t ht hW => ⟨⟨(1 : Int32), (), rfl, rfl, by rw [ht]; exact hP9, va_K.moved hW.alike hK9, hD9⟩, hS.F ht⟩) hS.2.2 dX0_givesAlike_81
  have B20 : ∀ n : Nat, ∀ (x1 x2 x3 x4 : Int32) (c4 : Nat → Int32) (c5 : Nat → Int32) (c6 : Nat → Int32) (c7 : Nat → Int32) (H : Heap) (locs : List Loc) (ls : Array Slot), f_X0_givesAlike_b20 N c0 c1 n x1 x2 x3 x4 c4 c5 c6 c7 = some res → va_P (dC, dI) vwCl (wX0 cy h q2 q3 q4 q5 q6 q7 q8 q9 c0 c1 c2 c3 c4 c5 c6 c7 c8 c9 c10 c11) H → va_D A (wX0 cy h q2 q3 q4 q5 q6 q7 q8 q9 c0 c1 c2 c3 c4 c5 c6 c7 c8 c9 c10 c11) → va_S A s.heap H locs → lv_has ls 6 [(0, .ref h), (1, .int x1), (2, .int x2), (3, .int x3), (4, .int x4)] → W p l e rm_X0_givesAlike s m ([.ref h, .int a1, .int a2] : List Value).toArray below meth c H locs 0 0 (MQ below (z_qI dC dI cy res.1 (wX0 cy h q2 q3 q4 q5 q6 q7 q8 q9 c0 c1 c2 c3 res.2.1 res.2.2.1 res.2.2.2.1 res.2.2.2.2 c8 c9 c10 c11) A) ([.ref h, .int a1, .int a2] : List Value).toArray s 0 0 A) (F0 m 20 ls []) := by
    clear hf hl hP hD hS
    intro n
    induction n with
    | zero =>
      intro x1 x2 x3 x4 c4 c5 c6 c7 H locs ls hf hP hD hS hl
      rw [f_X0_givesAlike_b20] at hf
      cases hf
    | succ n ih =>
      intro x1 x2 x3 x4 c4 c5 c6 c7 H locs ls hf hP hD hS hl
      rw [f_X0_givesAlike_b20] at hf
      refine lv_iload hx hb dX0_givesAlike_20 (lv_at hl 4 rfl) ?_
      refine lv_aload_n hx hb dX0_givesAlike_22 rfl (lv_at hl 0 rfl) ?_
      refine va_get (D := (dC, dI)) (ci := 0) (v := .int c0) (C := RX0) (T := TX0) (N := 12) hx hb hts (by decide +kernel) hown hK hP 0 rfl rfl 0 (by decide) (hts (.fieldLink RX0 38 "GiftLots" "count" "I") (by decide +kernel)) (fun _ h9 => h9) rfl dX0_givesAlike_23 ?_
      refine lv_icmp_ge (tgt := 88) hx hb dX0_givesAlike_26 (by decide) (fun c_26 => ?_) (fun c_26 => ?_)
      · replace hf := (if_pos c_26).symm.trans hf
        refine lv_iconst (v := (0 : Int32)) hx hb dX0_givesAlike_88 (by decide) ?_
        have hres := Option.some.inj hf
        subst hres
        have hP9 := hP.sub (ws' := (wX0 cy h q2 q3 q4 q5 q6 q7 q8 q9 c0 c1 c2 c3 c4 c5 c6 c7 c8 c9 c10 c11)) [0, 1, 2, 3, 4, 5, 6, 7, 8] rfl
        have hD9 := hD.sub (ws' := (wX0 cy h q2 q3 q4 q5 q6 q7 q8 q9 c0 c1 c2 c3 c4 c5 c6 c7 c8 c9 c10 c11)) [0, 1, 2, 3, 4, 5, 6, 7, 8] (by decide) rfl
        have hK9 := hK.sub (tys' := [(cy, .int)]) [0] rfl
        exact W.zret (v := (0 : Int32)) hx hb hr rfl (fun t ht hW => ⟨⟨(0 : Int32), (), rfl, rfl, by rw [ht]; exact hP9, va_K.moved hW.alike hK9, hD9⟩, hS.F ht⟩) hS.2.2 dX0_givesAlike_89
      · replace hf := (if_neg c_26).symm.trans hf
        refine lv_aload_n hx hb dX0_givesAlike_29 rfl (lv_at hl 0 rfl) ?_
        refine va_get (D := (dC, dI)) (ci := 0) (v := .ref q4) (C := RX0) (T := TX0) (N := 12) hx hb hts (by decide +kernel) hown hK hP 0 rfl rfl 4 (by decide) (hts (.fieldLink RX0 16 "GiftLots" "rows" "[I") (by decide +kernel)) (fun _ h9 => h9) rfl dX0_givesAlike_30 ?_
        refine lv_iload_n hx hb dX0_givesAlike_33 rfl (lv_at hl 1 rfl) ?_
        refine lv_iload_n hx hb dX0_givesAlike_34 rfl (lv_at hl 3 rfl) ?_
        refine lv_iload hx hb dX0_givesAlike_35 (lv_at hl 4 rfl) ?_
        obtain ⟨u37, hu37, hf⟩ := z_ob_some hf
        have hPc := hP.sub (ws' := ([] : va_W)) [] rfl
        have hDc := hD.sub (ws' := ([] : va_W)) [] (by decide) rfl
        have hKc := hK.sub (tys' := [(cy, .int)]) [0] rfl
        have hFc := va_free (wc := ([] : va_W)) hD hS hA [] rfl
        refine va_calli (va_runS (As := [.int x4]) (rest := [.int x3, .int x1, .ref q4]) ⟨hx, hb, hml, hown, hts⟩ (c_X0_bit N l dC dI cy H.size x4 u37 hu37) (va_cwS 1 hts gX0_givesAlike_X0_bit rfl rfl rfl (by decide +kernel) ⟨Nat.le_of_ble_eq_true rfl, Nat.le_of_ble_eq_true rfl⟩) ⟨fun a U g mk q => by obtain ⟨q0, q1, qP, qK, qD⟩ := q; exact ⟨q0, q1, qP, va_K.moved (u := U) (U := U.calling g mk a) (Vm.Alike.refl U.vm) qK, qD⟩, fun U hU hW => ⟨rfl, by rw [hU], by rw [hU]; exact hPc, va_K.moved hW.alike hKc, hDc.weaken (fun _ _ _ _ => trivial)⟩⟩ rfl rfl hl.1 rfl (lv_room (Nat.le_of_ble_eq_true rfl)) dX0_givesAlike_37 ⟨Nat.zero_le _, Nat.zero_le _⟩) hS (fun q _ h => hFc q h) hFc (fun r_37 uu_ t H1 locs ht hvm hw hB hz1 hk1 hS => ?_)
        replace hw := hw.symm
        subst hw
        obtain ⟨hP1, -, hD1⟩ := hB
        rw [ht] at hP1
        obtain ⟨hP, hD⟩ := va_join (wr := (wX0 cy h q2 q3 q4 q5 q6 q7 q8 q9 c0 c1 c2 c3 c4 c5 c6 c7 c8 c9 c10 c11)) (w1 := ([] : va_W)) hP hD [] [0, 1, 2, 3, 4, 5, 6, 7, 8] rfl rfl (by decide) (by decide) hk1 hFc hP1 hD1
        clear hk1 hz1 hP1 hD1 ht hPc hDc hFc
        generalize H1 = H at hP hS ⊢
        have hP : va_P (dC, dI) vwCl (wX0 cy h q2 q3 q4 q5 q6 q7 q8 q9 c0 c1 c2 c3 c4 c5 c6 c7 c8 c9 c10 c11) H := hP
        have hD : va_D A (wX0 cy h q2 q3 q4 q5 q6 q7 q8 q9 c0 c1 c2 c3 c4 c5 c6 c7 c8 c9 c10 c11) := hD
        refine lv_iand hx hb dX0_givesAlike_40 ?_
        obtain ⟨hi41, hf⟩ := z_gx_some hf
        refine va_iast hx hb hK hP hD hS 3 0 rfl rfl hi41 dX0_givesAlike_41 (fun H locs hP hD hS => ?_)
        have hP : va_P (dC, dI) vwCl (wX0 cy h q2 q3 q4 q5 q6 q7 q8 q9 c0 c1 c2 c3 (upd c4 (x1).toNatClampNeg (x3 &&& u37)) c5 c6 c7 c8 c9 c10 c11) H := hP
        have hD : va_D A (wX0 cy h q2 q3 q4 q5 q6 q7 q8 q9 c0 c1 c2 c3 (upd c4 (x1).toNatClampNeg (x3 &&& u37)) c5 c6 c7 c8 c9 c10 c11) := hD
        refine lv_aload_n hx hb dX0_givesAlike_42 rfl (lv_at hl 0 rfl) ?_
        refine va_get (D := (dC, dI)) (ci := 0) (v := .ref q4) (C := RX0) (T := TX0) (N := 12) hx hb hts (by decide +kernel) hown hK hP 0 rfl rfl 4 (by decide) (hts (.fieldLink RX0 16 "GiftLots" "rows" "[I") (by decide +kernel)) (fun _ h9 => h9) rfl dX0_givesAlike_43 ?_
        refine lv_iload_n hx hb dX0_givesAlike_46 rfl (lv_at hl 1 rfl) ?_
        obtain ⟨hi47, hf⟩ := z_gx_some hf
        refine va_iald hx hb hK hP 3 0 rfl rfl hi47 dX0_givesAlike_47 ?_
        refine lv_if_ne (tgt := 55) hx hb dX0_givesAlike_48 (by decide) (fun c_48 => ?_) (fun c_48 => ?_)
        · replace hf := (if_neg c_48).symm.trans hf
          refine lv_aload_n hx hb dX0_givesAlike_55 rfl (lv_at hl 0 rfl) ?_
          refine lv_aload_n hx hb dX0_givesAlike_56 rfl (lv_at hl 0 rfl) ?_
          refine va_get (D := (dC, dI)) (ci := 0) (v := .int c1) (C := RX0) (T := TX0) (N := 12) hx hb hts (by decide +kernel) hown hK hP 0 rfl rfl 1 (by decide) (hts (.fieldLink RX0 57 "GiftLots" "shortest" "I") (by decide +kernel)) (fun _ h9 => h9) rfl dX0_givesAlike_57 ?_
          obtain ⟨u60, hu60, hf⟩ := z_ob_some hf
          have hPc := hP.sub (ws' := (wX0 cy h q2 q3 q4 q5 q6 q7 q8 q9 c0 c1 c2 c3 (upd c4 (x1).toNatClampNeg (x3 &&& u37)) c5 c6 c7 c8 c9 c10 c11)) [0, 1, 2, 3, 4, 5, 6, 7, 8] rfl
          have hDc := hD.sub (ws' := (wX0 cy h q2 q3 q4 q5 q6 q7 q8 q9 c0 c1 c2 c3 (upd c4 (x1).toNatClampNeg (x3 &&& u37)) c5 c6 c7 c8 c9 c10 c11)) [0, 1, 2, 3, 4, 5, 6, 7, 8] (by decide) rfl
          have hKc := hK.sub (tys' := [(cy, .int)]) [0] rfl
          have hFc := va_free (wc := (wX0 cy h q2 q3 q4 q5 q6 q7 q8 q9 c0 c1 c2 c3 (upd c4 (x1).toNatClampNeg (x3 &&& u37)) c5 c6 c7 c8 c9 c10 c11)) hD hS hA [0, 1, 2, 3, 4, 5, 6, 7, 8] rfl
          refine va_calli (va_runV (As := [.int c1]) (rest := []) ⟨hx, hb, hml, hown, hts⟩ (c_X0_countWays N l dC dI cy h q2 q3 q4 q5 q6 q7 q8 q9 H.size c0 c1 c2 c3 (upd c4 (x1).toNatClampNeg (x3 &&& u37)) c5 c6 c7 c8 c9 c10 c11 c1 u60 hu60) (cwV 1 hts gX0_givesAlike_X0_countWays rfl rfl rfl (by decide +kernel) ⟨Nat.le_of_ble_eq_true rfl, Nat.le_of_ble_eq_true rfl⟩) ⟨fun a U g mk q => by obtain ⟨q0, q1, qP, qK, qD⟩ := q; exact ⟨q0, q1, qP, va_K.moved (u := U) (U := U.calling g mk a) (Vm.Alike.refl U.vm) qK, qD⟩, va_recv hKc hPc (ci := 0) (q0 := 0) rfl rfl, fun U hU hW => ⟨rfl, by rw [hU], by rw [hU]; exact hPc, va_K.moved hW.alike hKc, hDc.weaken (fun _ _ _ _ => trivial)⟩⟩ rfl rfl hl.1 rfl (lv_room (Nat.le_of_ble_eq_true rfl)) dX0_givesAlike_60 ⟨Nat.zero_le _, Nat.zero_le _⟩) hS (fun q _ h => hFc q h) hFc (fun r_60 uu_ t H1 locs ht hvm hw hB hz1 hk1 hS => ?_)
          replace hw := hw.symm
          subst hw
          obtain ⟨hP1, -, hD1⟩ := hB
          rw [ht] at hP1
          obtain ⟨hP, hD⟩ := va_join (wr := []) (w1 := (wX0 cy h q2 q3 q4 q5 q6 q7 q8 q9 c0 c1 c2 c3 (upd c4 (x1).toNatClampNeg (x3 &&& u37)) u60.2.1 u60.2.2.1 u60.2.2.2 c8 c9 c10 c11)) hP hD [0, 1, 2, 3, 4, 5, 6, 7, 8] [] rfl rfl (by decide) (by decide) hk1 hFc hP1 hD1
          clear hk1 hz1 hP1 hD1 ht hPc hDc hFc
          generalize H1 = H at hP hS ⊢
          have hP : va_P (dC, dI) vwCl (wX0 cy h q2 q3 q4 q5 q6 q7 q8 q9 c0 c1 c2 c3 (upd c4 (x1).toNatClampNeg (x3 &&& u37)) u60.2.1 u60.2.2.1 u60.2.2.2 c8 c9 c10 c11) H := hP
          have hD : va_D A (wX0 cy h q2 q3 q4 q5 q6 q7 q8 q9 c0 c1 c2 c3 (upd c4 (x1).toNatClampNeg (x3 &&& u37)) u60.2.1 u60.2.2.1 u60.2.2.2 c8 c9 c10 c11) := hD
          exact B63 (f_X0_givesAlike_b20 N c0 c1 n) ih x1 x2 x3 x4 u60.1 (upd c4 (x1).toNatClampNeg (x3 &&& u37)) u60.2.1 u60.2.2.1 u60.2.2.2 _ _ _ hf hP hD hS (lv_sub hl [0, 1, 2, 3, 4] rfl)
        · replace hf := (if_pos c_48).symm.trans hf
          refine lv_iconst (v := (0 : Int32)) hx hb dX0_givesAlike_51 (by decide) ?_
          refine lv_goto (tgt := 63) hx hb dX0_givesAlike_52 (by decide) ?_
          exact B63 (f_X0_givesAlike_b20 N c0 c1 n) ih x1 x2 x3 x4 (0 : Int32) (upd c4 (x1).toNatClampNeg (x3 &&& u37)) c5 c6 c7 _ _ _ hf hP hD hS (lv_sub hl [0, 1, 2, 3, 4] rfl)
  unfold f_X0_givesAlike at hf
  refine lv_aload_n hx hb dX0_givesAlike_0 rfl (lv_at hl 0 rfl) ?_
  refine lv_iload_n hx hb dX0_givesAlike_1 rfl (lv_at hl 1 rfl) ?_
  obtain ⟨u2, hu2, hf⟩ := z_ob_some hf
  have hPc := hP.sub (ws' := (wX0 cy h q2 q3 q4 q5 q6 q7 q8 q9 c0 c1 c2 c3 c4 c5 c6 c7 c8 c9 c10 c11)) [0, 1, 2, 3, 4, 5, 6, 7, 8] rfl
  have hDc := hD.sub (ws' := (wX0 cy h q2 q3 q4 q5 q6 q7 q8 q9 c0 c1 c2 c3 c4 c5 c6 c7 c8 c9 c10 c11)) [0, 1, 2, 3, 4, 5, 6, 7, 8] (by decide) rfl
  have hKc := hK.sub (tys' := [(cy, .int)]) [0] rfl
  have hFc := va_free (wc := (wX0 cy h q2 q3 q4 q5 q6 q7 q8 q9 c0 c1 c2 c3 c4 c5 c6 c7 c8 c9 c10 c11)) hD hS hA [0, 1, 2, 3, 4, 5, 6, 7, 8] rfl
  refine va_calli (va_runV (As := [.int a1]) (rest := []) ⟨hx, hb, hml, hown, hts⟩ (c_X0_isOne N l dC dI cy h q2 q3 q4 q5 q6 q7 q8 q9 s.heap.size c0 c1 c2 c3 c4 c5 c6 c7 c8 c9 c10 c11 a1 u2 hu2) (cwV 1 hts gX0_givesAlike_X0_isOne rfl rfl rfl (by decide +kernel) ⟨Nat.le_of_ble_eq_true rfl, Nat.le_of_ble_eq_true rfl⟩) ⟨fun a U g mk q => by obtain ⟨q0, q1, qP, qK, qD⟩ := q; exact ⟨q0, q1, qP, va_K.moved (u := U) (U := U.calling g mk a) (Vm.Alike.refl U.vm) qK, qD⟩, va_recv hKc hPc (ci := 0) (q0 := 0) rfl rfl, fun U hU hW => ⟨rfl, by rw [hU], by rw [hU]; exact hPc, va_K.moved hW.alike hKc, hDc.weaken (fun _ _ _ _ => trivial)⟩⟩ rfl rfl hl.1 rfl (lv_room (Nat.le_of_ble_eq_true rfl)) dX0_givesAlike_2 ⟨Nat.zero_le _, Nat.zero_le _⟩) hS (fun q _ h => hFc q h) hFc (fun r_2 uu_ t H1 locs ht hvm hw hB hz1 hk1 hS => ?_)
  replace hw := hw.symm
  subst hw
  obtain ⟨hP1, -, hD1⟩ := hB
  rw [ht] at hP1
  obtain ⟨hP, hD⟩ := va_join (wr := []) (w1 := (wX0 cy h q2 q3 q4 q5 q6 q7 q8 q9 c0 c1 c2 c3 c4 c5 c6 c7 c8 c9 c10 c11)) hP hD [0, 1, 2, 3, 4, 5, 6, 7, 8] [] rfl rfl (by decide) (by decide) hk1 hFc hP1 hD1
  clear hk1 hz1 hP1 hD1 ht hPc hDc hFc
  generalize H1 = H at hP hS ⊢
  have hP : va_P (dC, dI) vwCl (wX0 cy h q2 q3 q4 q5 q6 q7 q8 q9 c0 c1 c2 c3 c4 c5 c6 c7 c8 c9 c10 c11) H := hP
  have hD : va_D A (wX0 cy h q2 q3 q4 q5 q6 q7 q8 q9 c0 c1 c2 c3 c4 c5 c6 c7 c8 c9 c10 c11) := hD
  refine lv_if_ne (tgt := 10) hx hb dX0_givesAlike_5 (by decide) (fun c_5 => ?_) (fun c_5 => ?_)
  · replace hf := (if_neg c_5).symm.trans hf
    refine lv_aload_n hx hb dX0_givesAlike_10 rfl (lv_at hl 0 rfl) ?_
    refine va_get (D := (dC, dI)) (ci := 0) (v := .ref q4) (C := RX0) (T := TX0) (N := 12) hx hb hts (by decide +kernel) hown hK hP 0 rfl rfl 4 (by decide) (hts (.fieldLink RX0 16 "GiftLots" "rows" "[I") (by decide +kernel)) (fun _ h9 => h9) rfl dX0_givesAlike_11 ?_
    refine lv_iload_n hx hb dX0_givesAlike_14 rfl (lv_at hl 1 rfl) ?_
    obtain ⟨hi15, hf⟩ := z_gx_some hf
    refine va_iald hx hb hK hP 3 0 rfl rfl hi15 dX0_givesAlike_15 ?_
    refine lv_istore_n (lv' := [(3, .int (c4 (a1).toNatClampNeg)), (0, .ref h), (1, .int a1), (2, .int a2)]) hx hb dX0_givesAlike_16 rfl hl (by decide) rfl (fun ls hl => ?_)
    refine lv_iconst (v := (0 : Int32)) hx hb dX0_givesAlike_17 (by decide) ?_
    refine lv_istore (lv' := [(4, .int (0 : Int32)), (3, .int (c4 (a1).toNatClampNeg)), (0, .ref h), (1, .int a1), (2, .int a2)]) hx hb dX0_givesAlike_18 hl (by decide) rfl (fun ls hl => ?_)
    exact B20 N a1 a2 (c4 (a1).toNatClampNeg) (0 : Int32) c4 c5 c6 c7 _ _ _ hf hP hD hS (lv_sub hl [2, 3, 4, 1, 0] rfl)
  · replace hf := (if_pos c_5).symm.trans hf
    refine lv_iconst (v := (0 : Int32)) hx hb dX0_givesAlike_8 (by decide) ?_
    have hres := Option.some.inj hf
    subst hres
    have hP9 := hP.sub (ws' := (wX0 cy h q2 q3 q4 q5 q6 q7 q8 q9 c0 c1 c2 c3 c4 c5 c6 c7 c8 c9 c10 c11)) [0, 1, 2, 3, 4, 5, 6, 7, 8] rfl
    have hD9 := hD.sub (ws' := (wX0 cy h q2 q3 q4 q5 q6 q7 q8 q9 c0 c1 c2 c3 c4 c5 c6 c7 c8 c9 c10 c11)) [0, 1, 2, 3, 4, 5, 6, 7, 8] (by decide) rfl
    have hK9 := hK.sub (tys' := [(cy, .int)]) [0] rfl
    exact W.zret (v := (0 : Int32)) hx hb hr rfl (fun t ht hW => ⟨⟨(0 : Int32), (), rfl, rfl, by rw [ht]; exact hP9, va_K.moved hW.alike hK9, hD9⟩, hS.F ht⟩) hS.2.2 dX0_givesAlike_9

set_option maxRecDepth 20000 in
theorem ggX0_sure_X0_isOne : GoodIn wsX0_sure wsX0_isOne := goodIn_r _ [6, 7, 71, 72, 73, 74, 75, 76, 77, 78, 79, 80, 81, 82] (by decide +kernel) (by decide +kernel)
set_option maxRecDepth 20000 in
theorem gX0_sure_X0_isOne : GoodIn wsX0_sure (wsV RX0 66 RX0 yX0_isOne wsX0_isOne) := goodIn_app (goodIn_of _ (by decide +kernel)) ggX0_sure_X0_isOne
set_option maxRecDepth 20000 in
theorem ggX0_sure_X0_countGiving : GoodIn wsX0_sure wsX0_countGiving := goodIn_r _ [11, 12, 13, 14, 15, 5, 16, 17, 18, 19, 20, 21, 22, 23, 24, 25, 26, 2, 3, 4, 6, 7, 27, 28, 29, 30, 31, 32, 33, 34, 35, 36, 37, 38, 39, 40, 41, 42, 43, 44, 45, 46, 47, 48, 49, 50, 51, 52, 53, 54, 55, 56, 57, 58, 59, 60, 61, 62, 63, 64, 65, 66, 71, 72, 73, 74, 75, 76, 77, 78, 79, 80, 81, 82] (by decide +kernel) (by decide +kernel)
set_option maxRecDepth 20000 in
theorem gX0_sure_X0_countGiving : GoodIn wsX0_sure (wsV RX0 79 RX0 yX0_countGiving wsX0_countGiving) := goodIn_app (goodIn_of _ (by decide +kernel)) ggX0_sure_X0_countGiving
set_option maxRecDepth 20000 in
theorem ggX0_sure_X0_givesAlike : GoodIn wsX0_sure wsX0_givesAlike := goodIn_r _ [70, 18, 7, 12, 2, 3, 4, 5, 6, 27, 28, 29, 30, 31, 32, 33, 34, 35, 36, 37, 38, 39, 40, 41, 42, 43, 44, 45, 46, 47, 48, 49, 50, 51, 52, 53, 54, 55, 56, 57, 58, 59, 60, 61, 62, 63, 64, 65, 66, 71, 72, 73, 74, 75, 76, 77, 78, 79, 80, 81, 82] (by decide +kernel) (by decide +kernel)
set_option maxRecDepth 20000 in
theorem gX0_sure_X0_givesAlike : GoodIn wsX0_sure (wsV RX0 119 RX0 yX0_givesAlike wsX0_givesAlike) := goodIn_app (goodIn_of _ (by decide +kernel)) ggX0_sure_X0_givesAlike
theorem dX0_sure_0 : decode cX0_sure 0 = .ok (.aload_n 0, 1) := by decide +kernel
theorem dX0_sure_1 : decode cX0_sure 1 = .ok (.iload_n 1, 1) := by decide +kernel
theorem dX0_sure_2 : decode cX0_sure 2 = .ok (.invokevirtual 66, 3) := by decide +kernel
theorem dX0_sure_5 : decode cX0_sure 5 = .ok (.ifCond .eq 11, 3) := by decide +kernel
theorem dX0_sure_8 : decode cX0_sure 8 = .ok (.aload_n 0, 1) := by decide +kernel
theorem dX0_sure_9 : decode cX0_sure 9 = .ok (.iload_n 2, 1) := by decide +kernel
theorem dX0_sure_10 : decode cX0_sure 10 = .ok (.invokevirtual 66, 3) := by decide +kernel
theorem dX0_sure_13 : decode cX0_sure 13 = .ok (.ifCond .ne 5, 3) := by decide +kernel
theorem dX0_sure_16 : decode cX0_sure 16 = .ok (.iconst (-1), 1) := by decide +kernel
theorem dX0_sure_17 : decode cX0_sure 17 = .ok (.ireturn, 1) := by decide +kernel
theorem dX0_sure_18 : decode cX0_sure 18 = .ok (.aload_n 0, 1) := by decide +kernel
theorem dX0_sure_19 : decode cX0_sure 19 = .ok (.getfield 13, 3) := by decide +kernel
theorem dX0_sure_22 : decode cX0_sure 22 = .ok (.iload_n 1, 1) := by decide +kernel
theorem dX0_sure_23 : decode cX0_sure 23 = .ok (.iaload, 1) := by decide +kernel
theorem dX0_sure_24 : decode cX0_sure 24 = .ok (.bipush (-6), 2) := by decide +kernel
theorem dX0_sure_26 : decode cX0_sure 26 = .ok (.if_icmp .ne 6, 3) := by decide +kernel
theorem dX0_sure_29 : decode cX0_sure 29 = .ok (.bipush (-3), 2) := by decide +kernel
theorem dX0_sure_31 : decode cX0_sure 31 = .ok (.ireturn, 1) := by decide +kernel
theorem dX0_sure_32 : decode cX0_sure 32 = .ok (.aload_n 0, 1) := by decide +kernel
theorem dX0_sure_33 : decode cX0_sure 33 = .ok (.iload_n 1, 1) := by decide +kernel
theorem dX0_sure_34 : decode cX0_sure 34 = .ok (.aload_n 0, 1) := by decide +kernel
theorem dX0_sure_35 : decode cX0_sure 35 = .ok (.getfield 13, 3) := by decide +kernel
theorem dX0_sure_38 : decode cX0_sure 38 = .ok (.iload_n 1, 1) := by decide +kernel
theorem dX0_sure_39 : decode cX0_sure 39 = .ok (.iaload, 1) := by decide +kernel
theorem dX0_sure_40 : decode cX0_sure 40 = .ok (.invokevirtual 79, 3) := by decide +kernel
theorem dX0_sure_43 : decode cX0_sure 43 = .ok (.istore_n 3, 1) := by decide +kernel
theorem dX0_sure_44 : decode cX0_sure 44 = .ok (.iload_n 3, 1) := by decide +kernel
theorem dX0_sure_45 : decode cX0_sure 45 = .ok (.ifCond .ne 6, 3) := by decide +kernel
theorem dX0_sure_48 : decode cX0_sure 48 = .ok (.bipush (-5), 2) := by decide +kernel
theorem dX0_sure_50 : decode cX0_sure 50 = .ok (.ireturn, 1) := by decide +kernel
theorem dX0_sure_51 : decode cX0_sure 51 = .ok (.aload_n 0, 1) := by decide +kernel
theorem dX0_sure_52 : decode cX0_sure 52 = .ok (.iload_n 2, 1) := by decide +kernel
theorem dX0_sure_53 : decode cX0_sure 53 = .ok (.iload_n 3, 1) := by decide +kernel
theorem dX0_sure_54 : decode cX0_sure 54 = .ok (.invokevirtual 119, 3) := by decide +kernel
theorem dX0_sure_57 : decode cX0_sure 57 = .ok (.ifCond .eq 7, 3) := by decide +kernel
theorem dX0_sure_60 : decode cX0_sure 60 = .ok (.iconst 1, 1) := by decide +kernel
theorem dX0_sure_61 : decode cX0_sure 61 = .ok (.goto 4, 3) := by decide +kernel
theorem dX0_sure_64 : decode cX0_sure 64 = .ok (.iconst 0, 1) := by decide +kernel
theorem dX0_sure_65 : decode cX0_sure 65 = .ok (.ireturn, 1) := by decide +kernel
abbrev rm_X0_sure : Room := { frames := 5, cells := 0, slots := 0, locals := 121 }
set_option maxHeartbeats 4000000 in
set_option maxRecDepth 100000 in
theorem c_X0_sure (N : Nat) (l : Launch) (dC : Nat → ClassId) (dI : Nat → Nat → Nat) (cy : ClassId) (h q2 q3 q4 q5 q6 q7 q8 q9 : Nat) (sz : Nat) (c0 : Int32) (c1 : Int32) (c2 : Nat → Int32) (c3 : Nat → Int32) (c4 : Nat → Int32) (c5 : Nat → Int32) (c6 : Nat → Int32) (c7 : Nat → Int32) (c8 : Nat → Int32) (c9 : Nat → Int32) (c10 : Int32) (c11 : Int32) (a1 a2 : Int32) (res : Int32 × (Nat → Int32) × (Nat → Int32) × (Nat → Int32) × (Nat → Int32)) (hf : f_X0_sure N a1 a2 c0 c1 c2 c3 c4 c5 c6 c7 = some res) : Met l yX0_sure wsX0_sure rm_X0_sure (va_Pc [.ref h, .int a1, .int a2] (fun U => U.heap.size = sz ∧ va_P (dC, dI) vwCl (wX0 cy h q2 q3 q4 q5 q6 q7 q8 q9 c0 c1 c2 c3 c4 c5 c6 c7 c8 c9 c10 c11) U.heap ∧ va_K (dC, dI) vwCl [(cy, .int)] U ∧ va_D (fun _ => True) (wX0 cy h q2 q3 q4 q5 q6 q7 q8 q9 c0 c1 c2 c3 c4 c5 c6 c7 c8 c9 c10 c11))) (z_qI dC dI cy res.1 (wX0 cy h q2 q3 q4 q5 q6 q7 q8 q9 c0 c1 c2 c3 res.2.1 res.2.2.1 res.2.2.2.1 res.2.2.2.2 c8 c9 c10 c11) (va_A (wX0 cy h q2 q3 q4 q5 q6 q7 q8 q9 c0 c1 c2 c3 c4 c5 c6 c7 c8 c9 c10 c11) sz)) 0 0 (va_A (wX0 cy h q2 q3 q4 q5 q6 q7 q8 q9 c0 c1 c2 c3 c4 c5 c6 c7 c8 c9 c10 c11) sz) := by
  refine Met.ofW (cc := cX0_sure) (maxL := 4) (ret := (some .int)) (by decide) rfl ?_
  intro p e s m args below meth c s₁ B hml hv
  obtain ⟨rfl, hsz, hP, hK, hD0⟩ := hv
  have hx := B.exec
  have hb := B.bytes
  have hr := B.returns
  have hts := atoms_spec (ws := wsX0_sure) B.pre
  have hown : s.vm.findClass RX0 = some m.cls := findClass_of_methodNamed B.named
  have hlocks := B.notSynchronized
  subst hsz
  have hD := hD0.self (sz := s.heap.size)
  generalize hAe : va_A (wX0 cy h q2 q3 q4 q5 q6 q7 q8 q9 c0 c1 c2 c3 c4 c5 c6 c7 c8 c9 c10 c11) s.heap.size = A at hD ⊢
  have hA : ∀ q : Nat, s.heap.size ≤ q → A q := fun q h => by rw [← hAe]; exact Or.inr h
  have hS : va_S A s.heap s.heap [] := va_S.rf
  have hP : va_P (dC, dI) vwCl (wX0 cy h q2 q3 q4 q5 q6 q7 q8 q9 c0 c1 c2 c3 c4 c5 c6 c7 c8 c9 c10 c11) s.heap := hP
  have hl := lv_entry ([.ref h, .int a1, .int a2]) (n := 4) (Nat.le_of_ble_eq_true rfl)
  rw [lg_entry_eq]
  generalize (lg_sl ([.ref h, .int a1, .int a2]) ++ List.replicate (4 - (lg_sl ([.ref h, .int a1, .int a2])).length) Slot.unset).toArray = ls at hl ⊢
  have hl : lv_has ls 4 [(0, .ref h), (1, .int a1), (2, .int a2)] := hl
  unfold f_X0_sure at hf
  refine lv_aload_n hx hb dX0_sure_0 rfl (lv_at hl 0 rfl) ?_
  refine lv_iload_n hx hb dX0_sure_1 rfl (lv_at hl 1 rfl) ?_
  obtain ⟨u2, hu2, hf⟩ := z_ob_some hf
  have hPc := hP.sub (ws' := (wX0 cy h q2 q3 q4 q5 q6 q7 q8 q9 c0 c1 c2 c3 c4 c5 c6 c7 c8 c9 c10 c11)) [0, 1, 2, 3, 4, 5, 6, 7, 8] rfl
  have hDc := hD.sub (ws' := (wX0 cy h q2 q3 q4 q5 q6 q7 q8 q9 c0 c1 c2 c3 c4 c5 c6 c7 c8 c9 c10 c11)) [0, 1, 2, 3, 4, 5, 6, 7, 8] (by decide) rfl
  have hKc := hK.sub (tys' := [(cy, .int)]) [0] rfl
  have hFc := va_free (wc := (wX0 cy h q2 q3 q4 q5 q6 q7 q8 q9 c0 c1 c2 c3 c4 c5 c6 c7 c8 c9 c10 c11)) hD hS hA [0, 1, 2, 3, 4, 5, 6, 7, 8] rfl
  refine va_calli (va_runV (As := [.int a1]) (rest := []) ⟨hx, hb, hml, hown, hts⟩ (c_X0_isOne N l dC dI cy h q2 q3 q4 q5 q6 q7 q8 q9 s.heap.size c0 c1 c2 c3 c4 c5 c6 c7 c8 c9 c10 c11 a1 u2 hu2) (cwV 1 hts gX0_sure_X0_isOne rfl rfl rfl (by decide +kernel) ⟨Nat.le_of_ble_eq_true rfl, Nat.le_of_ble_eq_true rfl⟩) ⟨fun a U g mk q => by obtain ⟨q0, q1, qP, qK, qD⟩ := q; exact ⟨q0, q1, qP, va_K.moved (u := U) (U := U.calling g mk a) (Vm.Alike.refl U.vm) qK, qD⟩, va_recv hKc hPc (ci := 0) (q0 := 0) rfl rfl, fun U hU hW => ⟨rfl, by rw [hU], by rw [hU]; exact hPc, va_K.moved hW.alike hKc, hDc.weaken (fun _ _ _ _ => trivial)⟩⟩ rfl rfl hl.1 rfl (lv_room (Nat.le_of_ble_eq_true rfl)) dX0_sure_2 ⟨Nat.zero_le _, Nat.zero_le _⟩) hS (fun q _ h => hFc q h) hFc (fun r_2 uu_ t H1 locs ht hvm hw hB hz1 hk1 hS => ?_)
  replace hw := hw.symm
  subst hw
  obtain ⟨hP1, -, hD1⟩ := hB
  rw [ht] at hP1
  obtain ⟨hP, hD⟩ := va_join (wr := []) (w1 := (wX0 cy h q2 q3 q4 q5 q6 q7 q8 q9 c0 c1 c2 c3 c4 c5 c6 c7 c8 c9 c10 c11)) hP hD [0, 1, 2, 3, 4, 5, 6, 7, 8] [] rfl rfl (by decide) (by decide) hk1 hFc hP1 hD1
  clear hk1 hz1 hP1 hD1 ht hPc hDc hFc
  generalize H1 = H at hP hS ⊢
  have hP : va_P (dC, dI) vwCl (wX0 cy h q2 q3 q4 q5 q6 q7 q8 q9 c0 c1 c2 c3 c4 c5 c6 c7 c8 c9 c10 c11) H := hP
  have hD : va_D A (wX0 cy h q2 q3 q4 q5 q6 q7 q8 q9 c0 c1 c2 c3 c4 c5 c6 c7 c8 c9 c10 c11) := hD
  refine lv_if_eq (tgt := 16) hx hb dX0_sure_5 (by decide) (fun c_5 => ?_) (fun c_5 => ?_)
  · replace hf := (if_pos c_5).symm.trans hf
    refine lv_iconst (v := (-1 : Int32)) hx hb dX0_sure_16 (by decide) ?_
    have hres := Option.some.inj hf
    subst hres
    have hP9 := hP.sub (ws' := (wX0 cy h q2 q3 q4 q5 q6 q7 q8 q9 c0 c1 c2 c3 c4 c5 c6 c7 c8 c9 c10 c11)) [0, 1, 2, 3, 4, 5, 6, 7, 8] rfl
    have hD9 := hD.sub (ws' := (wX0 cy h q2 q3 q4 q5 q6 q7 q8 q9 c0 c1 c2 c3 c4 c5 c6 c7 c8 c9 c10 c11)) [0, 1, 2, 3, 4, 5, 6, 7, 8] (by decide) rfl
    have hK9 := hK.sub (tys' := [(cy, .int)]) [0] rfl
    exact W.iret (v := (-1 : Int32)) hx hb hr (fun t ht hW => ⟨⟨(-1 : Int32), (), rfl, rfl, by rw [ht]; exact hP9, va_K.moved hW.alike hK9, hD9⟩, hS.F ht⟩) hS.2.2 dX0_sure_17
  · replace hf := (if_neg c_5).symm.trans hf
    refine lv_aload_n hx hb dX0_sure_8 rfl (lv_at hl 0 rfl) ?_
    refine lv_iload_n hx hb dX0_sure_9 rfl (lv_at hl 2 rfl) ?_
    obtain ⟨u10, hu10, hf⟩ := z_ob_some hf
    have hPc := hP.sub (ws' := (wX0 cy h q2 q3 q4 q5 q6 q7 q8 q9 c0 c1 c2 c3 c4 c5 c6 c7 c8 c9 c10 c11)) [0, 1, 2, 3, 4, 5, 6, 7, 8] rfl
    have hDc := hD.sub (ws' := (wX0 cy h q2 q3 q4 q5 q6 q7 q8 q9 c0 c1 c2 c3 c4 c5 c6 c7 c8 c9 c10 c11)) [0, 1, 2, 3, 4, 5, 6, 7, 8] (by decide) rfl
    have hKc := hK.sub (tys' := [(cy, .int)]) [0] rfl
    have hFc := va_free (wc := (wX0 cy h q2 q3 q4 q5 q6 q7 q8 q9 c0 c1 c2 c3 c4 c5 c6 c7 c8 c9 c10 c11)) hD hS hA [0, 1, 2, 3, 4, 5, 6, 7, 8] rfl
    refine va_calli (va_runV (As := [.int a2]) (rest := []) ⟨hx, hb, hml, hown, hts⟩ (c_X0_isOne N l dC dI cy h q2 q3 q4 q5 q6 q7 q8 q9 H.size c0 c1 c2 c3 c4 c5 c6 c7 c8 c9 c10 c11 a2 u10 hu10) (cwV 1 hts gX0_sure_X0_isOne rfl rfl rfl (by decide +kernel) ⟨Nat.le_of_ble_eq_true rfl, Nat.le_of_ble_eq_true rfl⟩) ⟨fun a U g mk q => by obtain ⟨q0, q1, qP, qK, qD⟩ := q; exact ⟨q0, q1, qP, va_K.moved (u := U) (U := U.calling g mk a) (Vm.Alike.refl U.vm) qK, qD⟩, va_recv hKc hPc (ci := 0) (q0 := 0) rfl rfl, fun U hU hW => ⟨rfl, by rw [hU], by rw [hU]; exact hPc, va_K.moved hW.alike hKc, hDc.weaken (fun _ _ _ _ => trivial)⟩⟩ rfl rfl hl.1 rfl (lv_room (Nat.le_of_ble_eq_true rfl)) dX0_sure_10 ⟨Nat.zero_le _, Nat.zero_le _⟩) hS (fun q _ h => hFc q h) hFc (fun r_10 uu_ t H1 locs ht hvm hw hB hz1 hk1 hS => ?_)
    replace hw := hw.symm
    subst hw
    obtain ⟨hP1, -, hD1⟩ := hB
    rw [ht] at hP1
    obtain ⟨hP, hD⟩ := va_join (wr := []) (w1 := (wX0 cy h q2 q3 q4 q5 q6 q7 q8 q9 c0 c1 c2 c3 c4 c5 c6 c7 c8 c9 c10 c11)) hP hD [0, 1, 2, 3, 4, 5, 6, 7, 8] [] rfl rfl (by decide) (by decide) hk1 hFc hP1 hD1
    clear hk1 hz1 hP1 hD1 ht hPc hDc hFc
    generalize H1 = H at hP hS ⊢
    have hP : va_P (dC, dI) vwCl (wX0 cy h q2 q3 q4 q5 q6 q7 q8 q9 c0 c1 c2 c3 c4 c5 c6 c7 c8 c9 c10 c11) H := hP
    have hD : va_D A (wX0 cy h q2 q3 q4 q5 q6 q7 q8 q9 c0 c1 c2 c3 c4 c5 c6 c7 c8 c9 c10 c11) := hD
    refine lv_if_ne (tgt := 18) hx hb dX0_sure_13 (by decide) (fun c_13 => ?_) (fun c_13 => ?_)
    · replace hf := (if_neg c_13).symm.trans hf
      refine lv_aload_n hx hb dX0_sure_18 rfl (lv_at hl 0 rfl) ?_
      refine va_get (D := (dC, dI)) (ci := 0) (v := .ref q3) (C := RX0) (T := TX0) (N := 12) hx hb hts (by decide +kernel) hown hK hP 0 rfl rfl 3 (by decide) (hts (.fieldLink RX0 13 "GiftLots" "hand" "[I") (by decide +kernel)) (fun _ h9 => h9) rfl dX0_sure_19 ?_
      refine lv_iload_n hx hb dX0_sure_22 rfl (lv_at hl 1 rfl) ?_
      obtain ⟨hi23, hf⟩ := z_gx_some hf
      refine va_iald hx hb hK hP 2 0 rfl rfl hi23 dX0_sure_23 ?_
      refine lv_bipush (v := (-6 : Int32)) hx hb dX0_sure_24 (by decide) ?_
      refine lv_icmp_ne (tgt := 32) hx hb dX0_sure_26 (by decide) (fun c_26 => ?_) (fun c_26 => ?_)
      · replace hf := (if_neg c_26).symm.trans hf
        refine lv_aload_n hx hb dX0_sure_32 rfl (lv_at hl 0 rfl) ?_
        refine lv_iload_n hx hb dX0_sure_33 rfl (lv_at hl 1 rfl) ?_
        refine lv_aload_n hx hb dX0_sure_34 rfl (lv_at hl 0 rfl) ?_
        refine va_get (D := (dC, dI)) (ci := 0) (v := .ref q3) (C := RX0) (T := TX0) (N := 12) hx hb hts (by decide +kernel) hown hK hP 0 rfl rfl 3 (by decide) (hts (.fieldLink RX0 13 "GiftLots" "hand" "[I") (by decide +kernel)) (fun _ h9 => h9) rfl dX0_sure_35 ?_
        refine lv_iload_n hx hb dX0_sure_38 rfl (lv_at hl 1 rfl) ?_
        obtain ⟨hi39, hf⟩ := z_gx_some hf
        refine va_iald hx hb hK hP 2 0 rfl rfl hi39 dX0_sure_39 ?_
        obtain ⟨u40, hu40, hf⟩ := z_ob_some hf
        have hPc := hP.sub (ws' := (wX0 cy h q2 q3 q4 q5 q6 q7 q8 q9 c0 c1 c2 c3 c4 c5 c6 c7 c8 c9 c10 c11)) [0, 1, 2, 3, 4, 5, 6, 7, 8] rfl
        have hDc := hD.sub (ws' := (wX0 cy h q2 q3 q4 q5 q6 q7 q8 q9 c0 c1 c2 c3 c4 c5 c6 c7 c8 c9 c10 c11)) [0, 1, 2, 3, 4, 5, 6, 7, 8] (by decide) rfl
        have hKc := hK.sub (tys' := [(cy, .int)]) [0] rfl
        have hFc := va_free (wc := (wX0 cy h q2 q3 q4 q5 q6 q7 q8 q9 c0 c1 c2 c3 c4 c5 c6 c7 c8 c9 c10 c11)) hD hS hA [0, 1, 2, 3, 4, 5, 6, 7, 8] rfl
        refine va_calli (va_runV (As := [.int a1, .int (c3 (a1).toNatClampNeg)]) (rest := []) ⟨hx, hb, hml, hown, hts⟩ (c_X0_countGiving N l dC dI cy h q2 q3 q4 q5 q6 q7 q8 q9 H.size c0 c1 c2 c3 c4 c5 c6 c7 c8 c9 c10 c11 a1 (c3 (a1).toNatClampNeg) u40 hu40) (cwV 2 hts gX0_sure_X0_countGiving rfl rfl rfl (by decide +kernel) ⟨Nat.le_of_ble_eq_true rfl, Nat.le_of_ble_eq_true rfl⟩) ⟨fun a U g mk q => by obtain ⟨q0, q1, qP, qK, qD⟩ := q; exact ⟨q0, q1, qP, va_K.moved (u := U) (U := U.calling g mk a) (Vm.Alike.refl U.vm) qK, qD⟩, va_recv hKc hPc (ci := 0) (q0 := 0) rfl rfl, fun U hU hW => ⟨rfl, by rw [hU], by rw [hU]; exact hPc, va_K.moved hW.alike hKc, hDc.weaken (fun _ _ _ _ => trivial)⟩⟩ rfl rfl hl.1 rfl (lv_room (Nat.le_of_ble_eq_true rfl)) dX0_sure_40 ⟨Nat.zero_le _, Nat.zero_le _⟩) hS (fun q _ h => hFc q h) hFc (fun r_40 uu_ t H1 locs ht hvm hw hB hz1 hk1 hS => ?_)
        replace hw := hw.symm
        subst hw
        obtain ⟨hP1, -, hD1⟩ := hB
        rw [ht] at hP1
        obtain ⟨hP, hD⟩ := va_join (wr := []) (w1 := (wX0 cy h q2 q3 q4 q5 q6 q7 q8 q9 c0 c1 c2 c3 u40.2.1 u40.2.2.1 u40.2.2.2.1 u40.2.2.2.2 c8 c9 c10 c11)) hP hD [0, 1, 2, 3, 4, 5, 6, 7, 8] [] rfl rfl (by decide) (by decide) hk1 hFc hP1 hD1
        clear hk1 hz1 hP1 hD1 ht hPc hDc hFc
        generalize H1 = H at hP hS ⊢
        have hP : va_P (dC, dI) vwCl (wX0 cy h q2 q3 q4 q5 q6 q7 q8 q9 c0 c1 c2 c3 u40.2.1 u40.2.2.1 u40.2.2.2.1 u40.2.2.2.2 c8 c9 c10 c11) H := hP
        have hD : va_D A (wX0 cy h q2 q3 q4 q5 q6 q7 q8 q9 c0 c1 c2 c3 u40.2.1 u40.2.2.1 u40.2.2.2.1 u40.2.2.2.2 c8 c9 c10 c11) := hD
        refine lv_istore_n (lv' := [(3, .int u40.1), (0, .ref h), (1, .int a1), (2, .int a2)]) hx hb dX0_sure_43 rfl hl (by decide) rfl (fun ls hl => ?_)
        refine lv_iload_n hx hb dX0_sure_44 rfl (lv_at hl 0 rfl) ?_
        refine lv_if_ne (tgt := 51) hx hb dX0_sure_45 (by decide) (fun c_45 => ?_) (fun c_45 => ?_)
        · replace hf := (if_neg c_45).symm.trans hf
          refine lv_aload_n hx hb dX0_sure_51 rfl (lv_at hl 1 rfl) ?_
          refine lv_iload_n hx hb dX0_sure_52 rfl (lv_at hl 3 rfl) ?_
          refine lv_iload_n hx hb dX0_sure_53 rfl (lv_at hl 0 rfl) ?_
          obtain ⟨u54, hu54, hf⟩ := z_ob_some hf
          have hPc := hP.sub (ws' := (wX0 cy h q2 q3 q4 q5 q6 q7 q8 q9 c0 c1 c2 c3 u40.2.1 u40.2.2.1 u40.2.2.2.1 u40.2.2.2.2 c8 c9 c10 c11)) [0, 1, 2, 3, 4, 5, 6, 7, 8] rfl
          have hDc := hD.sub (ws' := (wX0 cy h q2 q3 q4 q5 q6 q7 q8 q9 c0 c1 c2 c3 u40.2.1 u40.2.2.1 u40.2.2.2.1 u40.2.2.2.2 c8 c9 c10 c11)) [0, 1, 2, 3, 4, 5, 6, 7, 8] (by decide) rfl
          have hKc := hK.sub (tys' := [(cy, .int)]) [0] rfl
          have hFc := va_free (wc := (wX0 cy h q2 q3 q4 q5 q6 q7 q8 q9 c0 c1 c2 c3 u40.2.1 u40.2.2.1 u40.2.2.2.1 u40.2.2.2.2 c8 c9 c10 c11)) hD hS hA [0, 1, 2, 3, 4, 5, 6, 7, 8] rfl
          refine va_calli (va_runV (As := [.int a2, .int u40.1]) (rest := []) ⟨hx, hb, hml, hown, hts⟩ (c_X0_givesAlike N l dC dI cy h q2 q3 q4 q5 q6 q7 q8 q9 H.size c0 c1 c2 c3 u40.2.1 u40.2.2.1 u40.2.2.2.1 u40.2.2.2.2 c8 c9 c10 c11 a2 u40.1 u54 hu54) (cwV 2 hts gX0_sure_X0_givesAlike rfl rfl rfl (by decide +kernel) ⟨Nat.le_of_ble_eq_true rfl, Nat.le_of_ble_eq_true rfl⟩) ⟨fun a U g mk q => by obtain ⟨q0, q1, qP, qK, qD⟩ := q; exact ⟨q0, q1, qP, va_K.moved (u := U) (U := U.calling g mk a) (Vm.Alike.refl U.vm) qK, qD⟩, va_recv hKc hPc (ci := 0) (q0 := 0) rfl rfl, fun U hU hW => ⟨rfl, by rw [hU], by rw [hU]; exact hPc, va_K.moved hW.alike hKc, hDc.weaken (fun _ _ _ _ => trivial)⟩⟩ rfl rfl hl.1 rfl (lv_room (Nat.le_of_ble_eq_true rfl)) dX0_sure_54 ⟨Nat.zero_le _, Nat.zero_le _⟩) hS (fun q _ h => hFc q h) hFc (fun r_54 uu_ t H1 locs ht hvm hw hB hz1 hk1 hS => ?_)
          replace hw := hw.symm
          subst hw
          obtain ⟨hP1, -, hD1⟩ := hB
          rw [ht] at hP1
          obtain ⟨hP, hD⟩ := va_join (wr := []) (w1 := (wX0 cy h q2 q3 q4 q5 q6 q7 q8 q9 c0 c1 c2 c3 u54.2.1 u54.2.2.1 u54.2.2.2.1 u54.2.2.2.2 c8 c9 c10 c11)) hP hD [0, 1, 2, 3, 4, 5, 6, 7, 8] [] rfl rfl (by decide) (by decide) hk1 hFc hP1 hD1
          clear hk1 hz1 hP1 hD1 ht hPc hDc hFc
          generalize H1 = H at hP hS ⊢
          have hP : va_P (dC, dI) vwCl (wX0 cy h q2 q3 q4 q5 q6 q7 q8 q9 c0 c1 c2 c3 u54.2.1 u54.2.2.1 u54.2.2.2.1 u54.2.2.2.2 c8 c9 c10 c11) H := hP
          have hD : va_D A (wX0 cy h q2 q3 q4 q5 q6 q7 q8 q9 c0 c1 c2 c3 u54.2.1 u54.2.2.1 u54.2.2.2.1 u54.2.2.2.2 c8 c9 c10 c11) := hD
          refine lv_if_eq (tgt := 64) hx hb dX0_sure_57 (by decide) (fun c_57 => ?_) (fun c_57 => ?_)
          · replace hf := (if_pos c_57).symm.trans hf
            refine lv_iconst (v := (0 : Int32)) hx hb dX0_sure_64 (by decide) ?_
            have hres := Option.some.inj hf
            subst hres
            have hP9 := hP.sub (ws' := (wX0 cy h q2 q3 q4 q5 q6 q7 q8 q9 c0 c1 c2 c3 u54.2.1 u54.2.2.1 u54.2.2.2.1 u54.2.2.2.2 c8 c9 c10 c11)) [0, 1, 2, 3, 4, 5, 6, 7, 8] rfl
            have hD9 := hD.sub (ws' := (wX0 cy h q2 q3 q4 q5 q6 q7 q8 q9 c0 c1 c2 c3 u54.2.1 u54.2.2.1 u54.2.2.2.1 u54.2.2.2.2 c8 c9 c10 c11)) [0, 1, 2, 3, 4, 5, 6, 7, 8] (by decide) rfl
            have hK9 := hK.sub (tys' := [(cy, .int)]) [0] rfl
            exact W.iret (v := (0 : Int32)) hx hb hr (fun t ht hW => ⟨⟨(0 : Int32), (), rfl, rfl, by rw [ht]; exact hP9, va_K.moved hW.alike hK9, hD9⟩, hS.F ht⟩) hS.2.2 dX0_sure_65
          · replace hf := (if_neg c_57).symm.trans hf
            refine lv_iconst (v := (1 : Int32)) hx hb dX0_sure_60 (by decide) ?_
            refine lv_goto (tgt := 65) hx hb dX0_sure_61 (by decide) ?_
            have hres := Option.some.inj hf
            subst hres
            have hP9 := hP.sub (ws' := (wX0 cy h q2 q3 q4 q5 q6 q7 q8 q9 c0 c1 c2 c3 u54.2.1 u54.2.2.1 u54.2.2.2.1 u54.2.2.2.2 c8 c9 c10 c11)) [0, 1, 2, 3, 4, 5, 6, 7, 8] rfl
            have hD9 := hD.sub (ws' := (wX0 cy h q2 q3 q4 q5 q6 q7 q8 q9 c0 c1 c2 c3 u54.2.1 u54.2.2.1 u54.2.2.2.1 u54.2.2.2.2 c8 c9 c10 c11)) [0, 1, 2, 3, 4, 5, 6, 7, 8] (by decide) rfl
            have hK9 := hK.sub (tys' := [(cy, .int)]) [0] rfl
            exact W.iret (v := (1 : Int32)) hx hb hr (fun t ht hW => ⟨⟨(1 : Int32), (), rfl, rfl, by rw [ht]; exact hP9, va_K.moved hW.alike hK9, hD9⟩, hS.F ht⟩) hS.2.2 dX0_sure_65
        · replace hf := (if_pos c_45).symm.trans hf
          refine lv_bipush (v := (-5 : Int32)) hx hb dX0_sure_48 (by decide) ?_
          have hres := Option.some.inj hf
          subst hres
          have hP9 := hP.sub (ws' := (wX0 cy h q2 q3 q4 q5 q6 q7 q8 q9 c0 c1 c2 c3 u40.2.1 u40.2.2.1 u40.2.2.2.1 u40.2.2.2.2 c8 c9 c10 c11)) [0, 1, 2, 3, 4, 5, 6, 7, 8] rfl
          have hD9 := hD.sub (ws' := (wX0 cy h q2 q3 q4 q5 q6 q7 q8 q9 c0 c1 c2 c3 u40.2.1 u40.2.2.1 u40.2.2.2.1 u40.2.2.2.2 c8 c9 c10 c11)) [0, 1, 2, 3, 4, 5, 6, 7, 8] (by decide) rfl
          have hK9 := hK.sub (tys' := [(cy, .int)]) [0] rfl
          exact W.iret (v := (-5 : Int32)) hx hb hr (fun t ht hW => ⟨⟨(-5 : Int32), (), rfl, rfl, by rw [ht]; exact hP9, va_K.moved hW.alike hK9, hD9⟩, hS.F ht⟩) hS.2.2 dX0_sure_50
      · replace hf := (if_pos c_26).symm.trans hf
        refine lv_bipush (v := (-3 : Int32)) hx hb dX0_sure_29 (by decide) ?_
        have hres := Option.some.inj hf
        subst hres
        have hP9 := hP.sub (ws' := (wX0 cy h q2 q3 q4 q5 q6 q7 q8 q9 c0 c1 c2 c3 c4 c5 c6 c7 c8 c9 c10 c11)) [0, 1, 2, 3, 4, 5, 6, 7, 8] rfl
        have hD9 := hD.sub (ws' := (wX0 cy h q2 q3 q4 q5 q6 q7 q8 q9 c0 c1 c2 c3 c4 c5 c6 c7 c8 c9 c10 c11)) [0, 1, 2, 3, 4, 5, 6, 7, 8] (by decide) rfl
        have hK9 := hK.sub (tys' := [(cy, .int)]) [0] rfl
        exact W.iret (v := (-3 : Int32)) hx hb hr (fun t ht hW => ⟨⟨(-3 : Int32), (), rfl, rfl, by rw [ht]; exact hP9, va_K.moved hW.alike hK9, hD9⟩, hS.F ht⟩) hS.2.2 dX0_sure_31
    · replace hf := (if_pos c_13).symm.trans hf
      refine lv_iconst (v := (-1 : Int32)) hx hb dX0_sure_16 (by decide) ?_
      have hres := Option.some.inj hf
      subst hres
      have hP9 := hP.sub (ws' := (wX0 cy h q2 q3 q4 q5 q6 q7 q8 q9 c0 c1 c2 c3 c4 c5 c6 c7 c8 c9 c10 c11)) [0, 1, 2, 3, 4, 5, 6, 7, 8] rfl
      have hD9 := hD.sub (ws' := (wX0 cy h q2 q3 q4 q5 q6 q7 q8 q9 c0 c1 c2 c3 c4 c5 c6 c7 c8 c9 c10 c11)) [0, 1, 2, 3, 4, 5, 6, 7, 8] (by decide) rfl
      have hK9 := hK.sub (tys' := [(cy, .int)]) [0] rfl
      exact W.iret (v := (-1 : Int32)) hx hb hr (fun t ht hW => ⟨⟨(-1 : Int32), (), rfl, rfl, by rw [ht]; exact hP9, va_K.moved hW.alike hK9, hD9⟩, hS.F ht⟩) hS.2.2 dX0_sure_17

set_option maxRecDepth 20000 in
theorem ggX0_refuseFall_X0_isOne : GoodIn wsX0_refuseFall wsX0_isOne := goodIn_r _ [5, 6, 71, 72, 73, 74, 75, 76, 77, 78, 79, 80, 81, 82] (by decide +kernel) (by decide +kernel)
set_option maxRecDepth 20000 in
theorem gX0_refuseFall_X0_isOne : GoodIn wsX0_refuseFall (wsV RX0 66 RX0 yX0_isOne wsX0_isOne) := goodIn_app (goodIn_of _ (by decide +kernel)) ggX0_refuseFall_X0_isOne
set_option maxRecDepth 20000 in
theorem ggX0_refuseFall_X0_refuseHand : GoodIn wsX0_refuseFall wsX0_refuseHand := goodIn_r _ [10, 6, 11, 12, 13, 14, 15, 4, 16, 17, 18, 19, 20, 21, 22, 23, 24, 25, 26, 27, 28, 29, 30, 1, 2, 3, 5, 31, 32, 33, 34, 35, 36, 37, 38, 39, 40, 41, 42, 43, 44, 45, 46, 47, 48, 49, 50, 51, 52, 53, 54, 55, 56, 57, 58, 59, 60, 61, 62, 63, 64, 65, 66, 67, 68, 69, 70, 71, 72, 73, 74, 75, 76, 77, 78, 79, 80, 81, 82] (by decide +kernel) (by decide +kernel)
set_option maxRecDepth 20000 in
theorem gX0_refuseFall_X0_refuseHand : GoodIn wsX0_refuseFall (wsV RX0 109 RX0 yX0_refuseHand wsX0_refuseHand) := goodIn_app (goodIn_of _ (by decide +kernel)) ggX0_refuseFall_X0_refuseHand
theorem dX0_refuseFall_0 : decode cX0_refuseFall 0 = .ok (.aload_n 0, 1) := by decide +kernel
theorem dX0_refuseFall_1 : decode cX0_refuseFall 1 = .ok (.iload_n 1, 1) := by decide +kernel
theorem dX0_refuseFall_2 : decode cX0_refuseFall 2 = .ok (.invokevirtual 66, 3) := by decide +kernel
theorem dX0_refuseFall_5 : decode cX0_refuseFall 5 = .ok (.ifCond .eq 10, 3) := by decide +kernel
theorem dX0_refuseFall_8 : decode cX0_refuseFall 8 = .ok (.aload_n 0, 1) := by decide +kernel
theorem dX0_refuseFall_9 : decode cX0_refuseFall 9 = .ok (.invokevirtual 109, 3) := by decide +kernel
theorem dX0_refuseFall_12 : decode cX0_refuseFall 12 = .ok (.goto 4, 3) := by decide +kernel
theorem dX0_refuseFall_15 : decode cX0_refuseFall 15 = .ok (.iconst (-1), 1) := by decide +kernel
theorem dX0_refuseFall_16 : decode cX0_refuseFall 16 = .ok (.ireturn, 1) := by decide +kernel
abbrev rm_X0_refuseFall : Room := { frames := 5, cells := 0, slots := 0, locals := 117 }
set_option maxHeartbeats 4000000 in
set_option maxRecDepth 100000 in
theorem c_X0_refuseFall (N : Nat) (l : Launch) (dC : Nat → ClassId) (dI : Nat → Nat → Nat) (cy : ClassId) (h q2 q3 q4 q5 q6 q7 q8 q9 : Nat) (sz : Nat) (c0 : Int32) (c1 : Int32) (c2 : Nat → Int32) (c3 : Nat → Int32) (c4 : Nat → Int32) (c5 : Nat → Int32) (c6 : Nat → Int32) (c7 : Nat → Int32) (c8 : Nat → Int32) (c9 : Nat → Int32) (c10 : Int32) (c11 : Int32) (a1 : Int32) (res : Int32 × (Nat → Int32) × (Nat → Int32) × (Nat → Int32) × (Nat → Int32)) (hf : f_X0_refuseFall N a1 c0 c1 c2 c3 c4 c5 c6 c7 = some res) : Met l yX0_refuseFall wsX0_refuseFall rm_X0_refuseFall (va_Pc [.ref h, .int a1] (fun U => U.heap.size = sz ∧ va_P (dC, dI) vwCl (wX0 cy h q2 q3 q4 q5 q6 q7 q8 q9 c0 c1 c2 c3 c4 c5 c6 c7 c8 c9 c10 c11) U.heap ∧ va_K (dC, dI) vwCl [(cy, .int)] U ∧ va_D (fun _ => True) (wX0 cy h q2 q3 q4 q5 q6 q7 q8 q9 c0 c1 c2 c3 c4 c5 c6 c7 c8 c9 c10 c11))) (z_qI dC dI cy res.1 (wX0 cy h q2 q3 q4 q5 q6 q7 q8 q9 c0 c1 c2 c3 res.2.1 res.2.2.1 res.2.2.2.1 res.2.2.2.2 c8 c9 c10 c11) (va_A (wX0 cy h q2 q3 q4 q5 q6 q7 q8 q9 c0 c1 c2 c3 c4 c5 c6 c7 c8 c9 c10 c11) sz)) 0 0 (va_A (wX0 cy h q2 q3 q4 q5 q6 q7 q8 q9 c0 c1 c2 c3 c4 c5 c6 c7 c8 c9 c10 c11) sz) := by
  refine Met.ofW (cc := cX0_refuseFall) (maxL := 2) (ret := (some .int)) (by decide) rfl ?_
  intro p e s m args below meth c s₁ B hml hv
  obtain ⟨rfl, hsz, hP, hK, hD0⟩ := hv
  have hx := B.exec
  have hb := B.bytes
  have hr := B.returns
  have hts := atoms_spec (ws := wsX0_refuseFall) B.pre
  have hown : s.vm.findClass RX0 = some m.cls := findClass_of_methodNamed B.named
  have hlocks := B.notSynchronized
  subst hsz
  have hD := hD0.self (sz := s.heap.size)
  generalize hAe : va_A (wX0 cy h q2 q3 q4 q5 q6 q7 q8 q9 c0 c1 c2 c3 c4 c5 c6 c7 c8 c9 c10 c11) s.heap.size = A at hD ⊢
  have hA : ∀ q : Nat, s.heap.size ≤ q → A q := fun q h => by rw [← hAe]; exact Or.inr h
  have hS : va_S A s.heap s.heap [] := va_S.rf
  have hP : va_P (dC, dI) vwCl (wX0 cy h q2 q3 q4 q5 q6 q7 q8 q9 c0 c1 c2 c3 c4 c5 c6 c7 c8 c9 c10 c11) s.heap := hP
  have hl := lv_entry ([.ref h, .int a1]) (n := 2) (Nat.le_of_ble_eq_true rfl)
  rw [lg_entry_eq]
  generalize (lg_sl ([.ref h, .int a1]) ++ List.replicate (2 - (lg_sl ([.ref h, .int a1])).length) Slot.unset).toArray = ls at hl ⊢
  have hl : lv_has ls 2 [(0, .ref h), (1, .int a1)] := hl
  unfold f_X0_refuseFall at hf
  refine lv_aload_n hx hb dX0_refuseFall_0 rfl (lv_at hl 0 rfl) ?_
  refine lv_iload_n hx hb dX0_refuseFall_1 rfl (lv_at hl 1 rfl) ?_
  obtain ⟨u2, hu2, hf⟩ := z_ob_some hf
  have hPc := hP.sub (ws' := (wX0 cy h q2 q3 q4 q5 q6 q7 q8 q9 c0 c1 c2 c3 c4 c5 c6 c7 c8 c9 c10 c11)) [0, 1, 2, 3, 4, 5, 6, 7, 8] rfl
  have hDc := hD.sub (ws' := (wX0 cy h q2 q3 q4 q5 q6 q7 q8 q9 c0 c1 c2 c3 c4 c5 c6 c7 c8 c9 c10 c11)) [0, 1, 2, 3, 4, 5, 6, 7, 8] (by decide) rfl
  have hKc := hK.sub (tys' := [(cy, .int)]) [0] rfl
  have hFc := va_free (wc := (wX0 cy h q2 q3 q4 q5 q6 q7 q8 q9 c0 c1 c2 c3 c4 c5 c6 c7 c8 c9 c10 c11)) hD hS hA [0, 1, 2, 3, 4, 5, 6, 7, 8] rfl
  refine va_calli (va_runV (As := [.int a1]) (rest := []) ⟨hx, hb, hml, hown, hts⟩ (c_X0_isOne N l dC dI cy h q2 q3 q4 q5 q6 q7 q8 q9 s.heap.size c0 c1 c2 c3 c4 c5 c6 c7 c8 c9 c10 c11 a1 u2 hu2) (cwV 1 hts gX0_refuseFall_X0_isOne rfl rfl rfl (by decide +kernel) ⟨Nat.le_of_ble_eq_true rfl, Nat.le_of_ble_eq_true rfl⟩) ⟨fun a U g mk q => by obtain ⟨q0, q1, qP, qK, qD⟩ := q; exact ⟨q0, q1, qP, va_K.moved (u := U) (U := U.calling g mk a) (Vm.Alike.refl U.vm) qK, qD⟩, va_recv hKc hPc (ci := 0) (q0 := 0) rfl rfl, fun U hU hW => ⟨rfl, by rw [hU], by rw [hU]; exact hPc, va_K.moved hW.alike hKc, hDc.weaken (fun _ _ _ _ => trivial)⟩⟩ rfl rfl hl.1 rfl (lv_room (Nat.le_of_ble_eq_true rfl)) dX0_refuseFall_2 ⟨Nat.zero_le _, Nat.zero_le _⟩) hS (fun q _ h => hFc q h) hFc (fun r_2 uu_ t H1 locs ht hvm hw hB hz1 hk1 hS => ?_)
  replace hw := hw.symm
  subst hw
  obtain ⟨hP1, -, hD1⟩ := hB
  rw [ht] at hP1
  obtain ⟨hP, hD⟩ := va_join (wr := []) (w1 := (wX0 cy h q2 q3 q4 q5 q6 q7 q8 q9 c0 c1 c2 c3 c4 c5 c6 c7 c8 c9 c10 c11)) hP hD [0, 1, 2, 3, 4, 5, 6, 7, 8] [] rfl rfl (by decide) (by decide) hk1 hFc hP1 hD1
  clear hk1 hz1 hP1 hD1 ht hPc hDc hFc
  generalize H1 = H at hP hS ⊢
  have hP : va_P (dC, dI) vwCl (wX0 cy h q2 q3 q4 q5 q6 q7 q8 q9 c0 c1 c2 c3 c4 c5 c6 c7 c8 c9 c10 c11) H := hP
  have hD : va_D A (wX0 cy h q2 q3 q4 q5 q6 q7 q8 q9 c0 c1 c2 c3 c4 c5 c6 c7 c8 c9 c10 c11) := hD
  refine lv_if_eq (tgt := 15) hx hb dX0_refuseFall_5 (by decide) (fun c_5 => ?_) (fun c_5 => ?_)
  · replace hf := (if_pos c_5).symm.trans hf
    refine lv_iconst (v := (-1 : Int32)) hx hb dX0_refuseFall_15 (by decide) ?_
    have hres := Option.some.inj hf
    subst hres
    have hP9 := hP.sub (ws' := (wX0 cy h q2 q3 q4 q5 q6 q7 q8 q9 c0 c1 c2 c3 c4 c5 c6 c7 c8 c9 c10 c11)) [0, 1, 2, 3, 4, 5, 6, 7, 8] rfl
    have hD9 := hD.sub (ws' := (wX0 cy h q2 q3 q4 q5 q6 q7 q8 q9 c0 c1 c2 c3 c4 c5 c6 c7 c8 c9 c10 c11)) [0, 1, 2, 3, 4, 5, 6, 7, 8] (by decide) rfl
    have hK9 := hK.sub (tys' := [(cy, .int)]) [0] rfl
    exact W.iret (v := (-1 : Int32)) hx hb hr (fun t ht hW => ⟨⟨(-1 : Int32), (), rfl, rfl, by rw [ht]; exact hP9, va_K.moved hW.alike hK9, hD9⟩, hS.F ht⟩) hS.2.2 dX0_refuseFall_16
  · replace hf := (if_neg c_5).symm.trans hf
    refine lv_aload_n hx hb dX0_refuseFall_8 rfl (lv_at hl 0 rfl) ?_
    obtain ⟨u9, hu9, hf⟩ := z_ob_some hf
    have hPc := hP.sub (ws' := (wX0 cy h q2 q3 q4 q5 q6 q7 q8 q9 c0 c1 c2 c3 c4 c5 c6 c7 c8 c9 c10 c11)) [0, 1, 2, 3, 4, 5, 6, 7, 8] rfl
    have hDc := hD.sub (ws' := (wX0 cy h q2 q3 q4 q5 q6 q7 q8 q9 c0 c1 c2 c3 c4 c5 c6 c7 c8 c9 c10 c11)) [0, 1, 2, 3, 4, 5, 6, 7, 8] (by decide) rfl
    have hKc := hK.sub (tys' := [(cy, .int)]) [0] rfl
    have hFc := va_free (wc := (wX0 cy h q2 q3 q4 q5 q6 q7 q8 q9 c0 c1 c2 c3 c4 c5 c6 c7 c8 c9 c10 c11)) hD hS hA [0, 1, 2, 3, 4, 5, 6, 7, 8] rfl
    refine va_calli (va_runV (As := []) (rest := []) ⟨hx, hb, hml, hown, hts⟩ (c_X0_refuseHand N l dC dI cy h q2 q3 q4 q5 q6 q7 q8 q9 H.size c0 c1 c2 c3 c4 c5 c6 c7 c8 c9 c10 c11 u9 hu9) (cwV 0 hts gX0_refuseFall_X0_refuseHand rfl rfl rfl (by decide +kernel) ⟨Nat.le_of_ble_eq_true rfl, Nat.le_of_ble_eq_true rfl⟩) ⟨fun a U g mk q => by obtain ⟨q0, q1, qP, qK, qD⟩ := q; exact ⟨q0, q1, qP, va_K.moved (u := U) (U := U.calling g mk a) (Vm.Alike.refl U.vm) qK, qD⟩, va_recv hKc hPc (ci := 0) (q0 := 0) rfl rfl, fun U hU hW => ⟨rfl, by rw [hU], by rw [hU]; exact hPc, va_K.moved hW.alike hKc, hDc.weaken (fun _ _ _ _ => trivial)⟩⟩ rfl rfl hl.1 rfl (lv_room (Nat.le_of_ble_eq_true rfl)) dX0_refuseFall_9 ⟨Nat.zero_le _, Nat.zero_le _⟩) hS (fun q _ h => hFc q h) hFc (fun r_9 uu_ t H1 locs ht hvm hw hB hz1 hk1 hS => ?_)
    replace hw := hw.symm
    subst hw
    obtain ⟨hP1, -, hD1⟩ := hB
    rw [ht] at hP1
    obtain ⟨hP, hD⟩ := va_join (wr := []) (w1 := (wX0 cy h q2 q3 q4 q5 q6 q7 q8 q9 c0 c1 c2 c3 u9.2.1 u9.2.2.1 u9.2.2.2.1 u9.2.2.2.2 c8 c9 c10 c11)) hP hD [0, 1, 2, 3, 4, 5, 6, 7, 8] [] rfl rfl (by decide) (by decide) hk1 hFc hP1 hD1
    clear hk1 hz1 hP1 hD1 ht hPc hDc hFc
    generalize H1 = H at hP hS ⊢
    have hP : va_P (dC, dI) vwCl (wX0 cy h q2 q3 q4 q5 q6 q7 q8 q9 c0 c1 c2 c3 u9.2.1 u9.2.2.1 u9.2.2.2.1 u9.2.2.2.2 c8 c9 c10 c11) H := hP
    have hD : va_D A (wX0 cy h q2 q3 q4 q5 q6 q7 q8 q9 c0 c1 c2 c3 u9.2.1 u9.2.2.1 u9.2.2.2.1 u9.2.2.2.2 c8 c9 c10 c11) := hD
    refine lv_goto (tgt := 16) hx hb dX0_refuseFall_12 (by decide) ?_
    have hres := Option.some.inj hf
    subst hres
    have hP9 := hP.sub (ws' := (wX0 cy h q2 q3 q4 q5 q6 q7 q8 q9 c0 c1 c2 c3 u9.2.1 u9.2.2.1 u9.2.2.2.1 u9.2.2.2.2 c8 c9 c10 c11)) [0, 1, 2, 3, 4, 5, 6, 7, 8] rfl
    have hD9 := hD.sub (ws' := (wX0 cy h q2 q3 q4 q5 q6 q7 q8 q9 c0 c1 c2 c3 u9.2.1 u9.2.2.1 u9.2.2.2.1 u9.2.2.2.2 c8 c9 c10 c11)) [0, 1, 2, 3, 4, 5, 6, 7, 8] (by decide) rfl
    have hK9 := hK.sub (tys' := [(cy, .int)]) [0] rfl
    exact W.iret (v := u9.1) hx hb hr (fun t ht hW => ⟨⟨u9.1, (), rfl, rfl, by rw [ht]; exact hP9, va_K.moved hW.alike hK9, hD9⟩, hS.F ht⟩) hS.2.2 dX0_refuseFall_16

set_option maxRecDepth 20000 in
theorem ggX0_layGetters_X0_bit : GoodIn wsX0_layGetters wsX0_bit := goodIn_r _ [9] (by decide +kernel) (by decide +kernel)
set_option maxRecDepth 20000 in
theorem gX0_layGetters_X0_bit : GoodIn wsX0_layGetters (va_wsS RX0 50 yX0_bit wsX0_bit) := goodIn_app (goodIn_of _ (by decide +kernel)) ggX0_layGetters_X0_bit
set_option maxRecDepth 20000 in
theorem ggX0_layGetters_X0_layMend : GoodIn wsX0_layGetters wsX0_layMend := goodIn_r _ [13, 14, 15, 16, 8, 17, 2, 18, 19, 20, 21, 22, 23, 24, 25, 4, 5, 26, 27, 28, 29, 30, 31, 32, 33, 34, 35, 36, 37, 38, 39, 0, 1, 3, 6, 7, 9, 10, 11, 12, 40, 41, 42, 43, 44, 45, 46, 47, 48, 49, 50, 51] (by decide +kernel) (by decide +kernel)
set_option maxRecDepth 20000 in
theorem gX0_layGetters_X0_layMend : GoodIn wsX0_layGetters (wsV RX0 162 RX0 yX0_layMend wsX0_layMend) := goodIn_app (goodIn_of _ (by decide +kernel)) ggX0_layGetters_X0_layMend
theorem dX0_layGetters_0 : decode cX0_layGetters 0 = .ok (.aload_n 0, 1) := by decide +kernel
theorem dX0_layGetters_1 : decode cX0_layGetters 1 = .ok (.getfield 9, 3) := by decide +kernel
theorem dX0_layGetters_4 : decode cX0_layGetters 4 = .ok (.iload_n 1, 1) := by decide +kernel
theorem dX0_layGetters_5 : decode cX0_layGetters 5 = .ok (.iaload, 1) := by decide +kernel
theorem dX0_layGetters_6 : decode cX0_layGetters 6 = .ok (.iload_n 3, 1) := by decide +kernel
theorem dX0_layGetters_7 : decode cX0_layGetters 7 = .ok (.iconst (-1), 1) := by decide +kernel
theorem dX0_layGetters_8 : decode cX0_layGetters 8 = .ok (.ixor, 1) := by decide +kernel
theorem dX0_layGetters_9 : decode cX0_layGetters 9 = .ok (.iand, 1) := by decide +kernel
theorem dX0_layGetters_10 : decode cX0_layGetters 10 = .ok (.iload_n 2, 1) := by decide +kernel
theorem dX0_layGetters_11 : decode cX0_layGetters 11 = .ok (.invokestatic 50, 3) := by decide +kernel
theorem dX0_layGetters_14 : decode cX0_layGetters 14 = .ok (.iconst (-1), 1) := by decide +kernel
theorem dX0_layGetters_15 : decode cX0_layGetters 15 = .ok (.ixor, 1) := by decide +kernel
theorem dX0_layGetters_16 : decode cX0_layGetters 16 = .ok (.iand, 1) := by decide +kernel
theorem dX0_layGetters_17 : decode cX0_layGetters 17 = .ok (.istore 5, 2) := by decide +kernel
theorem dX0_layGetters_19 : decode cX0_layGetters 19 = .ok (.iconst 0, 1) := by decide +kernel
theorem dX0_layGetters_20 : decode cX0_layGetters 20 = .ok (.istore 6, 2) := by decide +kernel
theorem dX0_layGetters_22 : decode cX0_layGetters 22 = .ok (.iload 6, 2) := by decide +kernel
theorem dX0_layGetters_24 : decode cX0_layGetters 24 = .ok (.aload_n 0, 1) := by decide +kernel
theorem dX0_layGetters_25 : decode cX0_layGetters 25 = .ok (.getfield 38, 3) := by decide +kernel
theorem dX0_layGetters_28 : decode cX0_layGetters 28 = .ok (.if_icmp .ge 75, 3) := by decide +kernel
theorem dX0_layGetters_31 : decode cX0_layGetters 31 = .ok (.iload 4, 2) := by decide +kernel
theorem dX0_layGetters_33 : decode cX0_layGetters 33 = .ok (.aload_n 0, 1) := by decide +kernel
theorem dX0_layGetters_34 : decode cX0_layGetters 34 = .ok (.getfield 13, 3) := by decide +kernel
theorem dX0_layGetters_37 : decode cX0_layGetters 37 = .ok (.iload_n 1, 1) := by decide +kernel
theorem dX0_layGetters_38 : decode cX0_layGetters 38 = .ok (.iaload, 1) := by decide +kernel
theorem dX0_layGetters_39 : decode cX0_layGetters 39 = .ok (.iload 6, 2) := by decide +kernel
theorem dX0_layGetters_41 : decode cX0_layGetters 41 = .ok (.if_icmp .ne 7, 3) := by decide +kernel
theorem dX0_layGetters_44 : decode cX0_layGetters 44 = .ok (.iconst 0, 1) := by decide +kernel
theorem dX0_layGetters_45 : decode cX0_layGetters 45 = .ok (.goto 4, 3) := by decide +kernel
theorem dX0_layGetters_48 : decode cX0_layGetters 48 = .ok (.iconst 1, 1) := by decide +kernel
theorem dX0_layGetters_49 : decode cX0_layGetters 49 = .ok (.iadd, 1) := by decide +kernel
theorem dX0_layGetters_50 : decode cX0_layGetters 50 = .ok (.istore 7, 2) := by decide +kernel
theorem dX0_layGetters_52 : decode cX0_layGetters 52 = .ok (.iload 5, 2) := by decide +kernel
theorem dX0_layGetters_54 : decode cX0_layGetters 54 = .ok (.iload 6, 2) := by decide +kernel
theorem dX0_layGetters_56 : decode cX0_layGetters 56 = .ok (.invokestatic 50, 3) := by decide +kernel
theorem dX0_layGetters_59 : decode cX0_layGetters 59 = .ok (.iand, 1) := by decide +kernel
theorem dX0_layGetters_60 : decode cX0_layGetters 60 = .ok (.ifCond .eq 37, 3) := by decide +kernel
theorem dX0_layGetters_63 : decode cX0_layGetters 63 = .ok (.iload 7, 2) := by decide +kernel
theorem dX0_layGetters_65 : decode cX0_layGetters 65 = .ok (.aload_n 0, 1) := by decide +kernel
theorem dX0_layGetters_66 : decode cX0_layGetters 66 = .ok (.getfield 131, 3) := by decide +kernel
theorem dX0_layGetters_69 : decode cX0_layGetters 69 = .ok (.if_icmp .gt 28, 3) := by decide +kernel
theorem dX0_layGetters_72 : decode cX0_layGetters 72 = .ok (.aload_n 0, 1) := by decide +kernel
theorem dX0_layGetters_73 : decode cX0_layGetters 73 = .ok (.getfield 28, 3) := by decide +kernel
theorem dX0_layGetters_76 : decode cX0_layGetters 76 = .ok (.iload_n 1, 1) := by decide +kernel
theorem dX0_layGetters_77 : decode cX0_layGetters 77 = .ok (.iload 6, 2) := by decide +kernel
theorem dX0_layGetters_79 : decode cX0_layGetters 79 = .ok (.iastore, 1) := by decide +kernel
theorem dX0_layGetters_80 : decode cX0_layGetters 80 = .ok (.aload_n 0, 1) := by decide +kernel
theorem dX0_layGetters_81 : decode cX0_layGetters 81 = .ok (.iload_n 1, 1) := by decide +kernel
theorem dX0_layGetters_82 : decode cX0_layGetters 82 = .ok (.iconst 1, 1) := by decide +kernel
theorem dX0_layGetters_83 : decode cX0_layGetters 83 = .ok (.iadd, 1) := by decide +kernel
theorem dX0_layGetters_84 : decode cX0_layGetters 84 = .ok (.iload_n 2, 1) := by decide +kernel
theorem dX0_layGetters_85 : decode cX0_layGetters 85 = .ok (.iload_n 3, 1) := by decide +kernel
theorem dX0_layGetters_86 : decode cX0_layGetters 86 = .ok (.iload 6, 2) := by decide +kernel
theorem dX0_layGetters_88 : decode cX0_layGetters 88 = .ok (.invokestatic 50, 3) := by decide +kernel
theorem dX0_layGetters_91 : decode cX0_layGetters 91 = .ok (.ior, 1) := by decide +kernel
theorem dX0_layGetters_92 : decode cX0_layGetters 92 = .ok (.iload 7, 2) := by decide +kernel
theorem dX0_layGetters_94 : decode cX0_layGetters 94 = .ok (.invokevirtual 162, 3) := by decide +kernel
theorem dX0_layGetters_97 : decode cX0_layGetters 97 = .ok (.iinc 6 1, 3) := by decide +kernel
theorem dX0_layGetters_100 : decode cX0_layGetters 100 = .ok (.goto (-78), 3) := by decide +kernel
theorem dX0_layGetters_103 : decode cX0_layGetters 103 = .ok (.return_, 1) := by decide +kernel
abbrev rm_X0_layMend (nd : Nat) : Room := { frames := 4 + 2 * nd, cells := 0, slots := 0, locals := 89 + 52 * nd }
abbrev rm_X0_layGetters (nd : Nat) : Room := { frames := 4 + 2 * nd + 1, cells := 0, slots := 0, locals := 89 + 52 * nd + 25 }
set_option maxHeartbeats 4000000 in
set_option maxRecDepth 100000 in
theorem c_X0_layGetters_g (N : Nat) (l : Launch) (dC : Nat → ClassId) (dI : Nat → Nat → Nat) (cy : ClassId) (h q2 q3 q4 q5 q6 q7 q8 q9 : Nat) (c0 : Int32) (c1 : Int32) (c2 : Nat → Int32) (c3 : Nat → Int32) (c4 : Nat → Int32) (c5 : Nat → Int32) (c6 : Nat → Int32) (c7 : Nat → Int32) (rs : Int32 → Int32 → Int32 → Int32 → (Nat → Int32) → (Nat → Int32) → Int32 → Int32 → Option ((Nat → Int32) × (Nat → Int32) × Int32 × Int32)) (nd : Nat) (hself : ∀ (sz : Nat) (c8 : Nat → Int32) (c9 : Nat → Int32) (c10 : Int32) (c11 : Int32) (a1 a2 a3 a4 : Int32) (res : (Nat → Int32) × (Nat → Int32) × Int32 × Int32) (hf : rs a1 a2 a3 a4 c8 c9 c10 c11 = some res), Met l yX0_layMend wsX0_layMend (rm_X0_layMend nd) (va_Pc [.ref h, .int a1, .int a2, .int a3, .int a4] (fun U => U.heap.size = sz ∧ va_P (dC, dI) vwCl (wX0 cy h q2 q3 q4 q5 q6 q7 q8 q9 c0 c1 c2 c3 c4 c5 c6 c7 c8 c9 c10 c11) U.heap ∧ va_K (dC, dI) vwCl [(cy, .int)] U ∧ va_D (fun _ => True) (wX0 cy h q2 q3 q4 q5 q6 q7 q8 q9 c0 c1 c2 c3 c4 c5 c6 c7 c8 c9 c10 c11))) (z_qV dC dI cy (wX0 cy h q2 q3 q4 q5 q6 q7 q8 q9 c0 c1 c2 c3 c4 c5 c6 c7 res.1 res.2.1 res.2.2.1 res.2.2.2) (va_A (wX0 cy h q2 q3 q4 q5 q6 q7 q8 q9 c0 c1 c2 c3 c4 c5 c6 c7 c8 c9 c10 c11) sz)) 0 0 (va_A (wX0 cy h q2 q3 q4 q5 q6 q7 q8 q9 c0 c1 c2 c3 c4 c5 c6 c7 c8 c9 c10 c11) sz)) : ∀ (sz : Nat) (c8 : Nat → Int32) (c9 : Nat → Int32) (c10 : Int32) (c11 : Int32) (a1 a2 a3 a4 : Int32) (res : (Nat → Int32) × (Nat → Int32) × Int32 × Int32) (hf : f_X0_layGetters N rs a1 a2 a3 a4 c0 c1 c2 c3 c8 c9 c10 c11 = some res), Met l yX0_layGetters wsX0_layGetters (rm_X0_layGetters nd) (va_Pc [.ref h, .int a1, .int a2, .int a3, .int a4] (fun U => U.heap.size = sz ∧ va_P (dC, dI) vwCl (wX0 cy h q2 q3 q4 q5 q6 q7 q8 q9 c0 c1 c2 c3 c4 c5 c6 c7 c8 c9 c10 c11) U.heap ∧ va_K (dC, dI) vwCl [(cy, .int)] U ∧ va_D (fun _ => True) (wX0 cy h q2 q3 q4 q5 q6 q7 q8 q9 c0 c1 c2 c3 c4 c5 c6 c7 c8 c9 c10 c11))) (z_qV dC dI cy (wX0 cy h q2 q3 q4 q5 q6 q7 q8 q9 c0 c1 c2 c3 c4 c5 c6 c7 res.1 res.2.1 res.2.2.1 res.2.2.2) (va_A (wX0 cy h q2 q3 q4 q5 q6 q7 q8 q9 c0 c1 c2 c3 c4 c5 c6 c7 c8 c9 c10 c11) sz)) 0 0 (va_A (wX0 cy h q2 q3 q4 q5 q6 q7 q8 q9 c0 c1 c2 c3 c4 c5 c6 c7 c8 c9 c10 c11) sz) := by
  intro sz c8 c9 c10 c11 a1 a2 a3 a4 res hf
  refine Met.ofW (cc := cX0_layGetters) (maxL := 8) (ret := none) (by decide) rfl ?_
  intro p e s m args below meth c s₁ B hml hv
  obtain ⟨rfl, hsz, hP, hK, hD0⟩ := hv
  have hx := B.exec
  have hb := B.bytes
  have hr := B.returns
  have hts := atoms_spec (ws := wsX0_layGetters) B.pre
  have hown : s.vm.findClass RX0 = some m.cls := findClass_of_methodNamed B.named
  have hlocks := B.notSynchronized
  subst hsz
  have hD := hD0.self (sz := s.heap.size)
  generalize hAe : va_A (wX0 cy h q2 q3 q4 q5 q6 q7 q8 q9 c0 c1 c2 c3 c4 c5 c6 c7 c8 c9 c10 c11) s.heap.size = A at hD ⊢
  have hA : ∀ q : Nat, s.heap.size ≤ q → A q := fun q h => by rw [← hAe]; exact Or.inr h
  have hS : va_S A s.heap s.heap [] := va_S.rf
  have hP : va_P (dC, dI) vwCl (wX0 cy h q2 q3 q4 q5 q6 q7 q8 q9 c0 c1 c2 c3 c4 c5 c6 c7 c8 c9 c10 c11) s.heap := hP
  have hl := lv_entry ([.ref h, .int a1, .int a2, .int a3, .int a4]) (n := 8) (Nat.le_of_ble_eq_true rfl)
  rw [lg_entry_eq]
  generalize (lg_sl ([.ref h, .int a1, .int a2, .int a3, .int a4]) ++ List.replicate (8 - (lg_sl ([.ref h, .int a1, .int a2, .int a3, .int a4])).length) Slot.unset).toArray = ls at hl ⊢
  have hl : lv_has ls 8 [(0, .ref h), (1, .int a1), (2, .int a2), (3, .int a3), (4, .int a4)] := hl
  have B97 : ∀ (r22 : Int32 → Int32 → Int32 → Int32 → Int32 → Int32 → (Nat → Int32) → (Nat → Int32) → Int32 → Int32 → Option ((Nat → Int32) × (Nat → Int32) × Int32 × Int32)), (∀ (x1 x2 x3 x4 x5 x6 : Int32) (c8 : Nat → Int32) (c9 : Nat → Int32) (c10 : Int32) (c11 : Int32) (H : Heap) (locs : List Loc) (ls : Array Slot), r22 x1 x2 x3 x4 x5 x6 c8 c9 c10 c11 = some res → va_P (dC, dI) vwCl (wX0 cy h q2 q3 q4 q5 q6 q7 q8 q9 c0 c1 c2 c3 c4 c5 c6 c7 c8 c9 c10 c11) H → va_D A (wX0 cy h q2 q3 q4 q5 q6 q7 q8 q9 c0 c1 c2 c3 c4 c5 c6 c7 c8 c9 c10 c11) → va_S A s.heap H locs → lv_has ls 8 [(0, .ref h), (1, .int x1), (2, .int x2), (3, .int x3), (4, .int x4), (5, .int x5), (6, .int x6)] → W p l e (rm_X0_layGetters nd) s m ([.ref h, .int a1, .int a2, .int a3, .int a4] : List Value).toArray below meth c H locs 0 0 (MQ below (z_qV dC dI cy (wX0 cy h q2 q3 q4 q5 q6 q7 q8 q9 c0 c1 c2 c3 c4 c5 c6 c7 res.1 res.2.1 res.2.2.1 res.2.2.2) A) ([.ref h, .int a1, .int a2, .int a3, .int a4] : List Value).toArray s 0 0 A) (F0 m 22 ls [])) → ∀ (x1 x2 x3 x4 x5 x6 : Int32) (c8 : Nat → Int32) (c9 : Nat → Int32) (c10 : Int32) (c11 : Int32) (H : Heap) (locs : List Loc) (ls : Array Slot), f_X0_layGetters_b97 N c0 c1 c2 c3 rs r22 x1 x2 x3 x4 x5 x6 c8 c9 c10 c11 = some res → va_P (dC, dI) vwCl (wX0 cy h q2 q3 q4 q5 q6 q7 q8 q9 c0 c1 c2 c3 c4 c5 c6 c7 c8 c9 c10 c11) H → va_D A (wX0 cy h q2 q3 q4 q5 q6 q7 q8 q9 c0 c1 c2 c3 c4 c5 c6 c7 c8 c9 c10 c11) → va_S A s.heap H locs → lv_has ls 8 [(0, .ref h), (1, .int x1), (2, .int x2), (3, .int x3), (4, .int x4), (5, .int x5), (6, .int x6)] → W p l e (rm_X0_layGetters nd) s m ([.ref h, .int a1, .int a2, .int a3, .int a4] : List Value).toArray below meth c H locs 0 0 (MQ below (z_qV dC dI cy (wX0 cy h q2 q3 q4 q5 q6 q7 q8 q9 c0 c1 c2 c3 c4 c5 c6 c7 res.1 res.2.1 res.2.2.1 res.2.2.2) A) ([.ref h, .int a1, .int a2, .int a3, .int a4] : List Value).toArray s 0 0 A) (F0 m 97 ls []) := by
    clear hf hl hP hD hS
    intro r22 hr22
    intro x1 x2 x3 x4 x5 x6 c8 c9 c10 c11 H locs ls hf hP hD hS hl
    unfold f_X0_layGetters_b97 at hf
    refine lv_iinc (v := x6 + (1 : Int32)) (lv' := [(6, .int (x6 + (1 : Int32))), (0, .ref h), (1, .int x1), (2, .int x2), (3, .int x3), (4, .int x4), (5, .int x5)]) hx hb dX0_layGetters_97 hl (k := 6) rfl rfl (by decide) rfl (fun ls hl => ?_)
    refine lv_goto (tgt := 22) hx hb dX0_layGetters_100 (by decide) ?_
    exact hr22 x1 x2 x3 x4 x5 (x6 + (1 : Int32)) c8 c9 c10 c11 _ _ _ hf hP hD hS (lv_sub hl [1, 2, 3, 4, 5, 6, 0] rfl)
  have B49 : ∀ (r22 : Int32 → Int32 → Int32 → Int32 → Int32 → Int32 → (Nat → Int32) → (Nat → Int32) → Int32 → Int32 → Option ((Nat → Int32) × (Nat → Int32) × Int32 × Int32)), (∀ (x1 x2 x3 x4 x5 x6 : Int32) (c8 : Nat → Int32) (c9 : Nat → Int32) (c10 : Int32) (c11 : Int32) (H : Heap) (locs : List Loc) (ls : Array Slot), r22 x1 x2 x3 x4 x5 x6 c8 c9 c10 c11 = some res → va_P (dC, dI) vwCl (wX0 cy h q2 q3 q4 q5 q6 q7 q8 q9 c0 c1 c2 c3 c4 c5 c6 c7 c8 c9 c10 c11) H → va_D A (wX0 cy h q2 q3 q4 q5 q6 q7 q8 q9 c0 c1 c2 c3 c4 c5 c6 c7 c8 c9 c10 c11) → va_S A s.heap H locs → lv_has ls 8 [(0, .ref h), (1, .int x1), (2, .int x2), (3, .int x3), (4, .int x4), (5, .int x5), (6, .int x6)] → W p l e (rm_X0_layGetters nd) s m ([.ref h, .int a1, .int a2, .int a3, .int a4] : List Value).toArray below meth c H locs 0 0 (MQ below (z_qV dC dI cy (wX0 cy h q2 q3 q4 q5 q6 q7 q8 q9 c0 c1 c2 c3 c4 c5 c6 c7 res.1 res.2.1 res.2.2.1 res.2.2.2) A) ([.ref h, .int a1, .int a2, .int a3, .int a4] : List Value).toArray s 0 0 A) (F0 m 22 ls [])) → ∀ (x1 x2 x3 x4 x5 x6 t0 t1 : Int32) (c8 : Nat → Int32) (c9 : Nat → Int32) (c10 : Int32) (c11 : Int32) (H : Heap) (locs : List Loc) (ls : Array Slot), f_X0_layGetters_b49 N c0 c1 c2 c3 rs r22 x1 x2 x3 x4 x5 x6 t0 t1 c8 c9 c10 c11 = some res → va_P (dC, dI) vwCl (wX0 cy h q2 q3 q4 q5 q6 q7 q8 q9 c0 c1 c2 c3 c4 c5 c6 c7 c8 c9 c10 c11) H → va_D A (wX0 cy h q2 q3 q4 q5 q6 q7 q8 q9 c0 c1 c2 c3 c4 c5 c6 c7 c8 c9 c10 c11) → va_S A s.heap H locs → lv_has ls 8 [(0, .ref h), (1, .int x1), (2, .int x2), (3, .int x3), (4, .int x4), (5, .int x5), (6, .int x6)] → W p l e (rm_X0_layGetters nd) s m ([.ref h, .int a1, .int a2, .int a3, .int a4] : List Value).toArray below meth c H locs 0 0 (MQ below (z_qV dC dI cy (wX0 cy h q2 q3 q4 q5 q6 q7 q8 q9 c0 c1 c2 c3 c4 c5 c6 c7 res.1 res.2.1 res.2.2.1 res.2.2.2) A) ([.ref h, .int a1, .int a2, .int a3, .int a4] : List Value).toArray s 0 0 A) (F0 m 49 ls [.int t1, .int t0]) := by
    clear hf hl hP hD hS
    intro r22 hr22
    intro x1 x2 x3 x4 x5 x6 t0 t1 c8 c9 c10 c11 H locs ls hf hP hD hS hl
    unfold f_X0_layGetters_b49 at hf
    refine lv_iadd hx hb dX0_layGetters_49 ?_
    refine lv_istore (lv' := [(7, .int (t0 + t1)), (0, .ref h), (1, .int x1), (2, .int x2), (3, .int x3), (4, .int x4), (5, .int x5), (6, .int x6)]) hx hb dX0_layGetters_50 hl (by decide) rfl (fun ls hl => ?_)
    refine lv_iload hx hb dX0_layGetters_52 (lv_at hl 6 rfl) ?_
    refine lv_iload hx hb dX0_layGetters_54 (lv_at hl 7 rfl) ?_
    obtain ⟨u56, hu56, hf⟩ := z_ob_some hf
    have hPc := hP.sub (ws' := ([] : va_W)) [] rfl
    have hDc := hD.sub (ws' := ([] : va_W)) [] (by decide) rfl
    have hKc := hK.sub (tys' := [(cy, .int)]) [0] rfl
    have hFc := va_free (wc := ([] : va_W)) hD hS hA [] rfl
    refine va_calli (va_runS (As := [.int x6]) (rest := [.int x5]) ⟨hx, hb, hml, hown, hts⟩ (c_X0_bit N l dC dI cy H.size x6 u56 hu56) (va_cwS 1 hts gX0_layGetters_X0_bit rfl rfl rfl (by decide +kernel) ⟨(show (0) + 1 ≤ 4 + 2 * nd + 1 by omega), (show 8 + (1 + 11) + (0) ≤ 89 + 52 * nd + 25 by omega)⟩) ⟨fun a U g mk q => by obtain ⟨q0, q1, qP, qK, qD⟩ := q; exact ⟨q0, q1, qP, va_K.moved (u := U) (U := U.calling g mk a) (Vm.Alike.refl U.vm) qK, qD⟩, fun U hU hW => ⟨rfl, by rw [hU], by rw [hU]; exact hPc, va_K.moved hW.alike hKc, hDc.weaken (fun _ _ _ _ => trivial)⟩⟩ rfl rfl hl.1 rfl (lv_room (Nat.le_of_ble_eq_true rfl)) dX0_layGetters_56 ⟨Nat.zero_le _, Nat.zero_le _⟩) hS (fun q _ h => hFc q h) hFc (fun r_56 uu_ t H1 locs ht hvm hw hB hz1 hk1 hS => ?_)
    replace hw := hw.symm
    subst hw
    obtain ⟨hP1, -, hD1⟩ := hB
    rw [ht] at hP1
    obtain ⟨hP, hD⟩ := va_join (wr := (wX0 cy h q2 q3 q4 q5 q6 q7 q8 q9 c0 c1 c2 c3 c4 c5 c6 c7 c8 c9 c10 c11)) (w1 := ([] : va_W)) hP hD [] [0, 1, 2, 3, 4, 5, 6, 7, 8] rfl rfl (by decide) (by decide) hk1 hFc hP1 hD1
    clear hk1 hz1 hP1 hD1 ht hPc hDc hFc
    generalize H1 = H at hP hS ⊢
    have hP : va_P (dC, dI) vwCl (wX0 cy h q2 q3 q4 q5 q6 q7 q8 q9 c0 c1 c2 c3 c4 c5 c6 c7 c8 c9 c10 c11) H := hP
    have hD : va_D A (wX0 cy h q2 q3 q4 q5 q6 q7 q8 q9 c0 c1 c2 c3 c4 c5 c6 c7 c8 c9 c10 c11) := hD
    refine lv_iand hx hb dX0_layGetters_59 ?_
    refine lv_if_eq (tgt := 97) hx hb dX0_layGetters_60 (by decide) (fun c_60 => ?_) (fun c_60 => ?_)
    · replace hf := (if_pos c_60).symm.trans hf
      exact B97 r22 hr22 x1 x2 x3 x4 x5 x6 c8 c9 c10 c11 _ _ _ hf hP hD hS (lv_sub hl [1, 2, 3, 4, 5, 6, 7] rfl)
    · replace hf := (if_neg c_60).symm.trans hf
      refine lv_iload hx hb dX0_layGetters_63 (lv_at hl 0 rfl) ?_
      refine lv_aload_n hx hb dX0_layGetters_65 rfl (lv_at hl 1 rfl) ?_
      refine va_get (D := (dC, dI)) (ci := 0) (v := .int c10) (C := RX0) (T := TX0) (N := 12) hx hb hts (by decide +kernel) hown hK hP 0 rfl rfl 10 (by decide) (hts (.fieldLink RX0 131 "GiftLots" "fewestChanges" "I") (by decide +kernel)) (fun _ h9 => h9) rfl dX0_layGetters_66 ?_
      refine lv_icmp_gt (tgt := 97) hx hb dX0_layGetters_69 (by decide) (fun c_69 => ?_) (fun c_69 => ?_)
      · replace hf := (if_pos c_69).symm.trans hf
        exact B97 r22 hr22 x1 x2 x3 x4 x5 x6 c8 c9 c10 c11 _ _ _ hf hP hD hS (lv_sub hl [1, 2, 3, 4, 5, 6, 7] rfl)
      · replace hf := (if_neg c_69).symm.trans hf
        refine lv_aload_n hx hb dX0_layGetters_72 rfl (lv_at hl 1 rfl) ?_
        refine va_get (D := (dC, dI)) (ci := 0) (v := .ref q8) (C := RX0) (T := TX0) (N := 12) hx hb hts (by decide +kernel) hown hK hP 0 rfl rfl 8 (by decide) (hts (.fieldLink RX0 28 "GiftLots" "trial" "[I") (by decide +kernel)) (fun _ h9 => h9) rfl dX0_layGetters_73 ?_
        refine lv_iload_n hx hb dX0_layGetters_76 rfl (lv_at hl 2 rfl) ?_
        refine lv_iload hx hb dX0_layGetters_77 (lv_at hl 7 rfl) ?_
        obtain ⟨hi79, hf⟩ := z_gx_some hf
        refine va_iast hx hb hK hP hD hS 7 0 rfl rfl hi79 dX0_layGetters_79 (fun H locs hP hD hS => ?_)
        have hP : va_P (dC, dI) vwCl (wX0 cy h q2 q3 q4 q5 q6 q7 q8 q9 c0 c1 c2 c3 c4 c5 c6 c7 (upd c8 (x1).toNatClampNeg x6) c9 c10 c11) H := hP
        have hD : va_D A (wX0 cy h q2 q3 q4 q5 q6 q7 q8 q9 c0 c1 c2 c3 c4 c5 c6 c7 (upd c8 (x1).toNatClampNeg x6) c9 c10 c11) := hD
        refine lv_aload_n hx hb dX0_layGetters_80 rfl (lv_at hl 1 rfl) ?_
        refine lv_iload_n hx hb dX0_layGetters_81 rfl (lv_at hl 2 rfl) ?_
        refine lv_iconst (v := (1 : Int32)) hx hb dX0_layGetters_82 (by decide) ?_
        refine lv_iadd hx hb dX0_layGetters_83 ?_
        refine lv_iload_n hx hb dX0_layGetters_84 rfl (lv_at hl 3 rfl) ?_
        refine lv_iload_n hx hb dX0_layGetters_85 rfl (lv_at hl 4 rfl) ?_
        refine lv_iload hx hb dX0_layGetters_86 (lv_at hl 7 rfl) ?_
        obtain ⟨u88, hu88, hf⟩ := z_ob_some hf
        have hPc := hP.sub (ws' := ([] : va_W)) [] rfl
        have hDc := hD.sub (ws' := ([] : va_W)) [] (by decide) rfl
        have hKc := hK.sub (tys' := [(cy, .int)]) [0] rfl
        have hFc := va_free (wc := ([] : va_W)) hD hS hA [] rfl
        refine va_calli (va_runS (As := [.int x6]) (rest := [.int x3, .int x2, .int (x1 + (1 : Int32)), .ref h]) ⟨hx, hb, hml, hown, hts⟩ (c_X0_bit N l dC dI cy H.size x6 u88 hu88) (va_cwS 1 hts gX0_layGetters_X0_bit rfl rfl rfl (by decide +kernel) ⟨(show (0) + 1 ≤ 4 + 2 * nd + 1 by omega), (show 8 + (1 + 11) + (0) ≤ 89 + 52 * nd + 25 by omega)⟩) ⟨fun a U g mk q => by obtain ⟨q0, q1, qP, qK, qD⟩ := q; exact ⟨q0, q1, qP, va_K.moved (u := U) (U := U.calling g mk a) (Vm.Alike.refl U.vm) qK, qD⟩, fun U hU hW => ⟨rfl, by rw [hU], by rw [hU]; exact hPc, va_K.moved hW.alike hKc, hDc.weaken (fun _ _ _ _ => trivial)⟩⟩ rfl rfl hl.1 rfl (lv_room (Nat.le_of_ble_eq_true rfl)) dX0_layGetters_88 ⟨Nat.zero_le _, Nat.zero_le _⟩) hS (fun q _ h => hFc q h) hFc (fun r_88 uu_ t H1 locs ht hvm hw hB hz1 hk1 hS => ?_)
        replace hw := hw.symm
        subst hw
        obtain ⟨hP1, -, hD1⟩ := hB
        rw [ht] at hP1
        obtain ⟨hP, hD⟩ := va_join (wr := (wX0 cy h q2 q3 q4 q5 q6 q7 q8 q9 c0 c1 c2 c3 c4 c5 c6 c7 (upd c8 (x1).toNatClampNeg x6) c9 c10 c11)) (w1 := ([] : va_W)) hP hD [] [0, 1, 2, 3, 4, 5, 6, 7, 8] rfl rfl (by decide) (by decide) hk1 hFc hP1 hD1
        clear hk1 hz1 hP1 hD1 ht hPc hDc hFc
        generalize H1 = H at hP hS ⊢
        have hP : va_P (dC, dI) vwCl (wX0 cy h q2 q3 q4 q5 q6 q7 q8 q9 c0 c1 c2 c3 c4 c5 c6 c7 (upd c8 (x1).toNatClampNeg x6) c9 c10 c11) H := hP
        have hD : va_D A (wX0 cy h q2 q3 q4 q5 q6 q7 q8 q9 c0 c1 c2 c3 c4 c5 c6 c7 (upd c8 (x1).toNatClampNeg x6) c9 c10 c11) := hD
        refine lv_ior hx hb dX0_layGetters_91 ?_
        refine lv_iload hx hb dX0_layGetters_92 (lv_at hl 0 rfl) ?_
        obtain ⟨u94, hu94, hf⟩ := z_ob_some hf
        have hPc := hP.sub (ws' := (wX0 cy h q2 q3 q4 q5 q6 q7 q8 q9 c0 c1 c2 c3 c4 c5 c6 c7 (upd c8 (x1).toNatClampNeg x6) c9 c10 c11)) [0, 1, 2, 3, 4, 5, 6, 7, 8] rfl
        have hDc := hD.sub (ws' := (wX0 cy h q2 q3 q4 q5 q6 q7 q8 q9 c0 c1 c2 c3 c4 c5 c6 c7 (upd c8 (x1).toNatClampNeg x6) c9 c10 c11)) [0, 1, 2, 3, 4, 5, 6, 7, 8] (by decide) rfl
        have hKc := hK.sub (tys' := [(cy, .int)]) [0] rfl
        have hFc := va_free (wc := (wX0 cy h q2 q3 q4 q5 q6 q7 q8 q9 c0 c1 c2 c3 c4 c5 c6 c7 (upd c8 (x1).toNatClampNeg x6) c9 c10 c11)) hD hS hA [0, 1, 2, 3, 4, 5, 6, 7, 8] rfl
        refine va_callv (va_runV (As := [.int (x1 + (1 : Int32)), .int x2, .int (x3 ||| u88), .int (t0 + t1)]) (rest := []) ⟨hx, hb, hml, hown, hts⟩ (hself H.size (upd c8 (x1).toNatClampNeg x6) c9 c10 c11 (x1 + (1 : Int32)) x2 (x3 ||| u88) (t0 + t1) u94 hu94) (cwV 4 hts gX0_layGetters_X0_layMend rfl rfl rfl (by decide +kernel) ⟨(show (4 + 2 * nd) + 1 ≤ 4 + 2 * nd + 1 by omega), (show 8 + (6 + 11) + (89 + 52 * nd) ≤ 89 + 52 * nd + 25 by omega)⟩) ⟨fun a U g mk q => by obtain ⟨q0, q1, qP, qK, qD⟩ := q; exact ⟨q0, q1, qP, va_K.moved (u := U) (U := U.calling g mk a) (Vm.Alike.refl U.vm) qK, qD⟩, va_recv hKc hPc (ci := 0) (q0 := 0) rfl rfl, fun U hU hW => ⟨rfl, by rw [hU], by rw [hU]; exact hPc, va_K.moved hW.alike hKc, hDc.weaken (fun _ _ _ _ => trivial)⟩⟩ rfl rfl hl.1 rfl (lv_room (Nat.le_of_ble_eq_true rfl)) dX0_layGetters_94 ⟨Nat.zero_le _, Nat.zero_le _⟩) hS (fun q _ h => hFc q h) hFc (fun uu_ t H1 locs ht hvm hw hB hz1 hk1 hS => ?_)
        obtain ⟨hP1, -, hD1⟩ := hB
        rw [ht] at hP1
        obtain ⟨hP, hD⟩ := va_join (wr := []) (w1 := (wX0 cy h q2 q3 q4 q5 q6 q7 q8 q9 c0 c1 c2 c3 c4 c5 c6 c7 u94.1 u94.2.1 u94.2.2.1 u94.2.2.2)) hP hD [0, 1, 2, 3, 4, 5, 6, 7, 8] [] rfl rfl (by decide) (by decide) hk1 hFc hP1 hD1
        clear hk1 hz1 hP1 hD1 ht hPc hDc hFc
        generalize H1 = H at hP hS ⊢
        have hP : va_P (dC, dI) vwCl (wX0 cy h q2 q3 q4 q5 q6 q7 q8 q9 c0 c1 c2 c3 c4 c5 c6 c7 u94.1 u94.2.1 u94.2.2.1 u94.2.2.2) H := hP
        have hD : va_D A (wX0 cy h q2 q3 q4 q5 q6 q7 q8 q9 c0 c1 c2 c3 c4 c5 c6 c7 u94.1 u94.2.1 u94.2.2.1 u94.2.2.2) := hD
        exact B97 r22 hr22 x1 x2 x3 x4 x5 x6 u94.1 u94.2.1 u94.2.2.1 u94.2.2.2 _ _ _ hf hP hD hS (lv_sub hl [1, 2, 3, 4, 5, 6, 7] rfl)
  have B22 : ∀ n : Nat, ∀ (x1 x2 x3 x4 x5 x6 : Int32) (c8 : Nat → Int32) (c9 : Nat → Int32) (c10 : Int32) (c11 : Int32) (H : Heap) (locs : List Loc) (ls : Array Slot), f_X0_layGetters_b22 N c0 c1 c2 c3 rs n x1 x2 x3 x4 x5 x6 c8 c9 c10 c11 = some res → va_P (dC, dI) vwCl (wX0 cy h q2 q3 q4 q5 q6 q7 q8 q9 c0 c1 c2 c3 c4 c5 c6 c7 c8 c9 c10 c11) H → va_D A (wX0 cy h q2 q3 q4 q5 q6 q7 q8 q9 c0 c1 c2 c3 c4 c5 c6 c7 c8 c9 c10 c11) → va_S A s.heap H locs → lv_has ls 8 [(0, .ref h), (1, .int x1), (2, .int x2), (3, .int x3), (4, .int x4), (5, .int x5), (6, .int x6)] → W p l e (rm_X0_layGetters nd) s m ([.ref h, .int a1, .int a2, .int a3, .int a4] : List Value).toArray below meth c H locs 0 0 (MQ below (z_qV dC dI cy (wX0 cy h q2 q3 q4 q5 q6 q7 q8 q9 c0 c1 c2 c3 c4 c5 c6 c7 res.1 res.2.1 res.2.2.1 res.2.2.2) A) ([.ref h, .int a1, .int a2, .int a3, .int a4] : List Value).toArray s 0 0 A) (F0 m 22 ls []) := by
    clear hf hl hP hD hS
    intro n
    induction n with
    | zero =>
      intro x1 x2 x3 x4 x5 x6 c8 c9 c10 c11 H locs ls hf hP hD hS hl
      rw [f_X0_layGetters_b22] at hf
      cases hf
    | succ n ih =>
      intro x1 x2 x3 x4 x5 x6 c8 c9 c10 c11 H locs ls hf hP hD hS hl
      rw [f_X0_layGetters_b22] at hf
      refine lv_iload hx hb dX0_layGetters_22 (lv_at hl 6 rfl) ?_
      refine lv_aload_n hx hb dX0_layGetters_24 rfl (lv_at hl 0 rfl) ?_
      refine va_get (D := (dC, dI)) (ci := 0) (v := .int c0) (C := RX0) (T := TX0) (N := 12) hx hb hts (by decide +kernel) hown hK hP 0 rfl rfl 0 (by decide) (hts (.fieldLink RX0 38 "GiftLots" "count" "I") (by decide +kernel)) (fun _ h9 => h9) rfl dX0_layGetters_25 ?_
      refine lv_icmp_ge (tgt := 103) hx hb dX0_layGetters_28 (by decide) (fun c_28 => ?_) (fun c_28 => ?_)
      · replace hf := (if_pos c_28).symm.trans hf
        have hres := Option.some.inj hf
        subst hres
        have hP9 := hP.sub (ws' := (wX0 cy h q2 q3 q4 q5 q6 q7 q8 q9 c0 c1 c2 c3 c4 c5 c6 c7 c8 c9 c10 c11)) [0, 1, 2, 3, 4, 5, 6, 7, 8] rfl
        have hD9 := hD.sub (ws' := (wX0 cy h q2 q3 q4 q5 q6 q7 q8 q9 c0 c1 c2 c3 c4 c5 c6 c7 c8 c9 c10 c11)) [0, 1, 2, 3, 4, 5, 6, 7, 8] (by decide) rfl
        have hK9 := hK.sub (tys' := [(cy, .int)]) [0] rfl
        exact W.vret hx hb hr (fun t ht hW => ⟨⟨(), rfl, trivial, by rw [ht]; exact hP9, va_K.moved hW.alike hK9, hD9⟩, hS.F ht⟩) hS.2.2 dX0_layGetters_103
      · replace hf := (if_neg c_28).symm.trans hf
        refine lv_iload hx hb dX0_layGetters_31 (lv_at hl 4 rfl) ?_
        refine lv_aload_n hx hb dX0_layGetters_33 rfl (lv_at hl 0 rfl) ?_
        refine va_get (D := (dC, dI)) (ci := 0) (v := .ref q3) (C := RX0) (T := TX0) (N := 12) hx hb hts (by decide +kernel) hown hK hP 0 rfl rfl 3 (by decide) (hts (.fieldLink RX0 13 "GiftLots" "hand" "[I") (by decide +kernel)) (fun _ h9 => h9) rfl dX0_layGetters_34 ?_
        refine lv_iload_n hx hb dX0_layGetters_37 rfl (lv_at hl 1 rfl) ?_
        obtain ⟨hi38, hf⟩ := z_gx_some hf
        refine va_iald hx hb hK hP 2 0 rfl rfl hi38 dX0_layGetters_38 ?_
        refine lv_iload hx hb dX0_layGetters_39 (lv_at hl 6 rfl) ?_
        refine lv_icmp_ne (tgt := 48) hx hb dX0_layGetters_41 (by decide) (fun c_41 => ?_) (fun c_41 => ?_)
        · replace hf := (if_neg c_41).symm.trans hf
          refine lv_iconst (v := (1 : Int32)) hx hb dX0_layGetters_48 (by decide) ?_
          exact B49 (f_X0_layGetters_b22 N c0 c1 c2 c3 rs n) ih x1 x2 x3 x4 x5 x6 x4 (1 : Int32) c8 c9 c10 c11 _ _ _ hf hP hD hS (lv_sub hl [0, 1, 2, 3, 4, 5, 6] rfl)
        · replace hf := (if_pos c_41).symm.trans hf
          refine lv_iconst (v := (0 : Int32)) hx hb dX0_layGetters_44 (by decide) ?_
          refine lv_goto (tgt := 49) hx hb dX0_layGetters_45 (by decide) ?_
          exact B49 (f_X0_layGetters_b22 N c0 c1 c2 c3 rs n) ih x1 x2 x3 x4 x5 x6 x4 (0 : Int32) c8 c9 c10 c11 _ _ _ hf hP hD hS (lv_sub hl [0, 1, 2, 3, 4, 5, 6] rfl)
  unfold f_X0_layGetters at hf
  refine lv_aload_n hx hb dX0_layGetters_0 rfl (lv_at hl 0 rfl) ?_
  refine va_get (D := (dC, dI)) (ci := 0) (v := .ref q2) (C := RX0) (T := TX0) (N := 12) hx hb hts (by decide +kernel) hown hK hP 0 rfl rfl 2 (by decide) (hts (.fieldLink RX0 9 "GiftLots" "board" "[I") (by decide +kernel)) (fun _ h9 => h9) rfl dX0_layGetters_1 ?_
  refine lv_iload_n hx hb dX0_layGetters_4 rfl (lv_at hl 1 rfl) ?_
  obtain ⟨hi5, hf⟩ := z_gx_some hf
  refine va_iald hx hb hK hP 1 0 rfl rfl hi5 dX0_layGetters_5 ?_
  refine lv_iload_n hx hb dX0_layGetters_6 rfl (lv_at hl 3 rfl) ?_
  refine lv_iconst (v := (-1 : Int32)) hx hb dX0_layGetters_7 (by decide) ?_
  refine lv_ixor hx hb dX0_layGetters_8 ?_
  refine lv_iand hx hb dX0_layGetters_9 ?_
  refine lv_iload_n hx hb dX0_layGetters_10 rfl (lv_at hl 2 rfl) ?_
  obtain ⟨u11, hu11, hf⟩ := z_ob_some hf
  have hPc := hP.sub (ws' := ([] : va_W)) [] rfl
  have hDc := hD.sub (ws' := ([] : va_W)) [] (by decide) rfl
  have hKc := hK.sub (tys' := [(cy, .int)]) [0] rfl
  have hFc := va_free (wc := ([] : va_W)) hD hS hA [] rfl
  refine va_calli (va_runS (As := [.int a2]) (rest := [.int ((c2 (a1).toNatClampNeg) &&& (a3 ^^^ (-1 : Int32)))]) ⟨hx, hb, hml, hown, hts⟩ (c_X0_bit N l dC dI cy s.heap.size a2 u11 hu11) (va_cwS 1 hts gX0_layGetters_X0_bit rfl rfl rfl (by decide +kernel) ⟨(show (0) + 1 ≤ 4 + 2 * nd + 1 by omega), (show 8 + (1 + 11) + (0) ≤ 89 + 52 * nd + 25 by omega)⟩) ⟨fun a U g mk q => by obtain ⟨q0, q1, qP, qK, qD⟩ := q; exact ⟨q0, q1, qP, va_K.moved (u := U) (U := U.calling g mk a) (Vm.Alike.refl U.vm) qK, qD⟩, fun U hU hW => ⟨rfl, by rw [hU], by rw [hU]; exact hPc, va_K.moved hW.alike hKc, hDc.weaken (fun _ _ _ _ => trivial)⟩⟩ rfl rfl hl.1 rfl (lv_room (Nat.le_of_ble_eq_true rfl)) dX0_layGetters_11 ⟨Nat.zero_le _, Nat.zero_le _⟩) hS (fun q _ h => hFc q h) hFc (fun r_11 uu_ t H1 locs ht hvm hw hB hz1 hk1 hS => ?_)
  replace hw := hw.symm
  subst hw
  obtain ⟨hP1, -, hD1⟩ := hB
  rw [ht] at hP1
  obtain ⟨hP, hD⟩ := va_join (wr := (wX0 cy h q2 q3 q4 q5 q6 q7 q8 q9 c0 c1 c2 c3 c4 c5 c6 c7 c8 c9 c10 c11)) (w1 := ([] : va_W)) hP hD [] [0, 1, 2, 3, 4, 5, 6, 7, 8] rfl rfl (by decide) (by decide) hk1 hFc hP1 hD1
  clear hk1 hz1 hP1 hD1 ht hPc hDc hFc
  generalize H1 = H at hP hS ⊢
  have hP : va_P (dC, dI) vwCl (wX0 cy h q2 q3 q4 q5 q6 q7 q8 q9 c0 c1 c2 c3 c4 c5 c6 c7 c8 c9 c10 c11) H := hP
  have hD : va_D A (wX0 cy h q2 q3 q4 q5 q6 q7 q8 q9 c0 c1 c2 c3 c4 c5 c6 c7 c8 c9 c10 c11) := hD
  refine lv_iconst (v := (-1 : Int32)) hx hb dX0_layGetters_14 (by decide) ?_
  refine lv_ixor hx hb dX0_layGetters_15 ?_
  refine lv_iand hx hb dX0_layGetters_16 ?_
  refine lv_istore (lv' := [(5, .int (((c2 (a1).toNatClampNeg) &&& (a3 ^^^ (-1 : Int32))) &&& (u11 ^^^ (-1 : Int32)))), (0, .ref h), (1, .int a1), (2, .int a2), (3, .int a3), (4, .int a4)]) hx hb dX0_layGetters_17 hl (by decide) rfl (fun ls hl => ?_)
  refine lv_iconst (v := (0 : Int32)) hx hb dX0_layGetters_19 (by decide) ?_
  refine lv_istore (lv' := [(6, .int (0 : Int32)), (5, .int (((c2 (a1).toNatClampNeg) &&& (a3 ^^^ (-1 : Int32))) &&& (u11 ^^^ (-1 : Int32)))), (0, .ref h), (1, .int a1), (2, .int a2), (3, .int a3), (4, .int a4)]) hx hb dX0_layGetters_20 hl (by decide) rfl (fun ls hl => ?_)
  exact B22 N a1 a2 a3 a4 (((c2 (a1).toNatClampNeg) &&& (a3 ^^^ (-1 : Int32))) &&& (u11 ^^^ (-1 : Int32))) (0 : Int32) c8 c9 c10 c11 _ _ _ hf hP hD hS (lv_sub hl [2, 3, 4, 5, 6, 1, 0] rfl)

set_option maxRecDepth 20000 in
theorem ggX0_roundFrom_X0_isOne : GoodIn wsX0_roundFrom wsX0_isOne := goodIn_r _ [7, 1, 8, 9, 10, 11, 12, 13, 14, 15, 16, 17, 18, 19] (by decide +kernel) (by decide +kernel)
set_option maxRecDepth 20000 in
theorem gX0_roundFrom_X0_isOne : GoodIn wsX0_roundFrom (wsV RX0 66 RX0 yX0_isOne wsX0_isOne) := goodIn_app (goodIn_of _ (by decide +kernel)) ggX0_roundFrom_X0_isOne
theorem dX0_roundFrom_0 : decode cX0_roundFrom 0 = .ok (.iconst 0, 1) := by decide +kernel
theorem dX0_roundFrom_1 : decode cX0_roundFrom 1 = .ok (.istore_n 2, 1) := by decide +kernel
theorem dX0_roundFrom_2 : decode cX0_roundFrom 2 = .ok (.iload_n 1, 1) := by decide +kernel
theorem dX0_roundFrom_3 : decode cX0_roundFrom 3 = .ok (.istore_n 3, 1) := by decide +kernel
theorem dX0_roundFrom_4 : decode cX0_roundFrom 4 = .ok (.iconst 0, 1) := by decide +kernel
theorem dX0_roundFrom_5 : decode cX0_roundFrom 5 = .ok (.istore 4, 2) := by decide +kernel
theorem dX0_roundFrom_7 : decode cX0_roundFrom 7 = .ok (.iload 4, 2) := by decide +kernel
theorem dX0_roundFrom_9 : decode cX0_roundFrom 9 = .ok (.aload_n 0, 1) := by decide +kernel
theorem dX0_roundFrom_10 : decode cX0_roundFrom 10 = .ok (.getfield 38, 3) := by decide +kernel
theorem dX0_roundFrom_13 : decode cX0_roundFrom 13 = .ok (.if_icmp .ge 34, 3) := by decide +kernel
theorem dX0_roundFrom_16 : decode cX0_roundFrom 16 = .ok (.aload_n 0, 1) := by decide +kernel
theorem dX0_roundFrom_17 : decode cX0_roundFrom 17 = .ok (.iload_n 3, 1) := by decide +kernel
theorem dX0_roundFrom_18 : decode cX0_roundFrom 18 = .ok (.invokevirtual 66, 3) := by decide +kernel
theorem dX0_roundFrom_21 : decode cX0_roundFrom 21 = .ok (.ifCond .eq 26, 3) := by decide +kernel
theorem dX0_roundFrom_24 : decode cX0_roundFrom 24 = .ok (.aload_n 0, 1) := by decide +kernel
theorem dX0_roundFrom_25 : decode cX0_roundFrom 25 = .ok (.getfield 28, 3) := by decide +kernel
theorem dX0_roundFrom_28 : decode cX0_roundFrom 28 = .ok (.iload_n 3, 1) := by decide +kernel
theorem dX0_roundFrom_29 : decode cX0_roundFrom 29 = .ok (.iaload, 1) := by decide +kernel
theorem dX0_roundFrom_30 : decode cX0_roundFrom 30 = .ok (.istore_n 3, 1) := by decide +kernel
theorem dX0_roundFrom_31 : decode cX0_roundFrom 31 = .ok (.iinc 2 1, 3) := by decide +kernel
theorem dX0_roundFrom_34 : decode cX0_roundFrom 34 = .ok (.iload_n 3, 1) := by decide +kernel
theorem dX0_roundFrom_35 : decode cX0_roundFrom 35 = .ok (.iload_n 1, 1) := by decide +kernel
theorem dX0_roundFrom_36 : decode cX0_roundFrom 36 = .ok (.if_icmp .ne 5, 3) := by decide +kernel
theorem dX0_roundFrom_39 : decode cX0_roundFrom 39 = .ok (.iload_n 2, 1) := by decide +kernel
theorem dX0_roundFrom_40 : decode cX0_roundFrom 40 = .ok (.ireturn, 1) := by decide +kernel
theorem dX0_roundFrom_41 : decode cX0_roundFrom 41 = .ok (.iinc 4 1, 3) := by decide +kernel
theorem dX0_roundFrom_44 : decode cX0_roundFrom 44 = .ok (.goto (-37), 3) := by decide +kernel
theorem dX0_roundFrom_47 : decode cX0_roundFrom 47 = .ok (.iload_n 2, 1) := by decide +kernel
theorem dX0_roundFrom_48 : decode cX0_roundFrom 48 = .ok (.ireturn, 1) := by decide +kernel
abbrev rm_X0_roundFrom : Room := { frames := 1, cells := 0, slots := 0, locals := 21 }
set_option maxHeartbeats 4000000 in
set_option maxRecDepth 100000 in
theorem c_X0_roundFrom (N : Nat) (l : Launch) (dC : Nat → ClassId) (dI : Nat → Nat → Nat) (cy : ClassId) (h q2 q3 q4 q5 q6 q7 q8 q9 : Nat) (sz : Nat) (c0 : Int32) (c1 : Int32) (c2 : Nat → Int32) (c3 : Nat → Int32) (c4 : Nat → Int32) (c5 : Nat → Int32) (c6 : Nat → Int32) (c7 : Nat → Int32) (c8 : Nat → Int32) (c9 : Nat → Int32) (c10 : Int32) (c11 : Int32) (a1 : Int32) (res : Int32) (hf : f_X0_roundFrom N a1 c0 c8 = some res) : Met l yX0_roundFrom wsX0_roundFrom rm_X0_roundFrom (va_Pc [.ref h, .int a1] (fun U => U.heap.size = sz ∧ va_P (dC, dI) vwCl (wX0 cy h q2 q3 q4 q5 q6 q7 q8 q9 c0 c1 c2 c3 c4 c5 c6 c7 c8 c9 c10 c11) U.heap ∧ va_K (dC, dI) vwCl [(cy, .int)] U ∧ va_D (fun _ => True) (wX0 cy h q2 q3 q4 q5 q6 q7 q8 q9 c0 c1 c2 c3 c4 c5 c6 c7 c8 c9 c10 c11))) (z_qI dC dI cy res (wX0 cy h q2 q3 q4 q5 q6 q7 q8 q9 c0 c1 c2 c3 c4 c5 c6 c7 c8 c9 c10 c11) (va_A (wX0 cy h q2 q3 q4 q5 q6 q7 q8 q9 c0 c1 c2 c3 c4 c5 c6 c7 c8 c9 c10 c11) sz)) 0 0 (va_A (wX0 cy h q2 q3 q4 q5 q6 q7 q8 q9 c0 c1 c2 c3 c4 c5 c6 c7 c8 c9 c10 c11) sz) := by
  refine Met.ofW (cc := cX0_roundFrom) (maxL := 5) (ret := (some .int)) (by decide) rfl ?_
  intro p e s m args below meth c s₁ B hml hv
  obtain ⟨rfl, hsz, hP, hK, hD0⟩ := hv
  have hx := B.exec
  have hb := B.bytes
  have hr := B.returns
  have hts := atoms_spec (ws := wsX0_roundFrom) B.pre
  have hown : s.vm.findClass RX0 = some m.cls := findClass_of_methodNamed B.named
  have hlocks := B.notSynchronized
  subst hsz
  have hD := hD0.self (sz := s.heap.size)
  generalize hAe : va_A (wX0 cy h q2 q3 q4 q5 q6 q7 q8 q9 c0 c1 c2 c3 c4 c5 c6 c7 c8 c9 c10 c11) s.heap.size = A at hD ⊢
  have hA : ∀ q : Nat, s.heap.size ≤ q → A q := fun q h => by rw [← hAe]; exact Or.inr h
  have hS : va_S A s.heap s.heap [] := va_S.rf
  have hP : va_P (dC, dI) vwCl (wX0 cy h q2 q3 q4 q5 q6 q7 q8 q9 c0 c1 c2 c3 c4 c5 c6 c7 c8 c9 c10 c11) s.heap := hP
  have hl := lv_entry ([.ref h, .int a1]) (n := 5) (Nat.le_of_ble_eq_true rfl)
  rw [lg_entry_eq]
  generalize (lg_sl ([.ref h, .int a1]) ++ List.replicate (5 - (lg_sl ([.ref h, .int a1])).length) Slot.unset).toArray = ls at hl ⊢
  have hl : lv_has ls 5 [(0, .ref h), (1, .int a1)] := hl
  have B47 : ∀ (x2 : Int32) (H : Heap) (locs : List Loc) (ls : Array Slot), f_X0_roundFrom_b47 N c0 c8 x2 = some res → va_P (dC, dI) vwCl (wX0 cy h q2 q3 q4 q5 q6 q7 q8 q9 c0 c1 c2 c3 c4 c5 c6 c7 c8 c9 c10 c11) H → va_D A (wX0 cy h q2 q3 q4 q5 q6 q7 q8 q9 c0 c1 c2 c3 c4 c5 c6 c7 c8 c9 c10 c11) → va_S A s.heap H locs → lv_has ls 5 [(0, .ref h), (2, .int x2)] → W p l e rm_X0_roundFrom s m ([.ref h, .int a1] : List Value).toArray below meth c H locs 0 0 (MQ below (z_qI dC dI cy res (wX0 cy h q2 q3 q4 q5 q6 q7 q8 q9 c0 c1 c2 c3 c4 c5 c6 c7 c8 c9 c10 c11) A) ([.ref h, .int a1] : List Value).toArray s 0 0 A) (F0 m 47 ls []) := by
    clear hf hl hP hD hS
    intro x2 H locs ls hf hP hD hS hl
    unfold f_X0_roundFrom_b47 at hf
    refine lv_iload_n hx hb dX0_roundFrom_47 rfl (lv_at hl 1 rfl) ?_
    have hres := Option.some.inj hf
    subst hres
    have hP9 := hP.sub (ws' := (wX0 cy h q2 q3 q4 q5 q6 q7 q8 q9 c0 c1 c2 c3 c4 c5 c6 c7 c8 c9 c10 c11)) [0, 1, 2, 3, 4, 5, 6, 7, 8] rfl
    have hD9 := hD.sub (ws' := (wX0 cy h q2 q3 q4 q5 q6 q7 q8 q9 c0 c1 c2 c3 c4 c5 c6 c7 c8 c9 c10 c11)) [0, 1, 2, 3, 4, 5, 6, 7, 8] (by decide) rfl
    have hK9 := hK.sub (tys' := [(cy, .int)]) [0] rfl
    exact W.iret (v := x2) hx hb hr (fun t ht hW => ⟨⟨x2, (), rfl, rfl, by rw [ht]; exact hP9, va_K.moved hW.alike hK9, hD9⟩, hS.F ht⟩) hS.2.2 dX0_roundFrom_48
  have B7 : ∀ n : Nat, ∀ (x1 x2 x3 x4 : Int32) (H : Heap) (locs : List Loc) (ls : Array Slot), f_X0_roundFrom_b7 N c0 c8 n x1 x2 x3 x4 = some res → va_P (dC, dI) vwCl (wX0 cy h q2 q3 q4 q5 q6 q7 q8 q9 c0 c1 c2 c3 c4 c5 c6 c7 c8 c9 c10 c11) H → va_D A (wX0 cy h q2 q3 q4 q5 q6 q7 q8 q9 c0 c1 c2 c3 c4 c5 c6 c7 c8 c9 c10 c11) → va_S A s.heap H locs → lv_has ls 5 [(0, .ref h), (1, .int x1), (2, .int x2), (3, .int x3), (4, .int x4)] → W p l e rm_X0_roundFrom s m ([.ref h, .int a1] : List Value).toArray below meth c H locs 0 0 (MQ below (z_qI dC dI cy res (wX0 cy h q2 q3 q4 q5 q6 q7 q8 q9 c0 c1 c2 c3 c4 c5 c6 c7 c8 c9 c10 c11) A) ([.ref h, .int a1] : List Value).toArray s 0 0 A) (F0 m 7 ls []) := by
    clear hf hl hP hD hS
    intro n
    induction n with
    | zero =>
      intro x1 x2 x3 x4 H locs ls hf hP hD hS hl
      rw [f_X0_roundFrom_b7] at hf
      cases hf
    | succ n ih =>
      intro x1 x2 x3 x4 H locs ls hf hP hD hS hl
      rw [f_X0_roundFrom_b7] at hf
      refine lv_iload hx hb dX0_roundFrom_7 (lv_at hl 4 rfl) ?_
      refine lv_aload_n hx hb dX0_roundFrom_9 rfl (lv_at hl 0 rfl) ?_
      refine va_get (D := (dC, dI)) (ci := 0) (v := .int c0) (C := RX0) (T := TX0) (N := 12) hx hb hts (by decide +kernel) hown hK hP 0 rfl rfl 0 (by decide) (hts (.fieldLink RX0 38 "GiftLots" "count" "I") (by decide +kernel)) (fun _ h9 => h9) rfl dX0_roundFrom_10 ?_
      refine lv_icmp_ge (tgt := 47) hx hb dX0_roundFrom_13 (by decide) (fun c_13 => ?_) (fun c_13 => ?_)
      · replace hf := (if_pos c_13).symm.trans hf
        exact B47 x2 _ _ _ hf hP hD hS (lv_sub hl [0, 2] rfl)
      · replace hf := (if_neg c_13).symm.trans hf
        refine lv_aload_n hx hb dX0_roundFrom_16 rfl (lv_at hl 0 rfl) ?_
        refine lv_iload_n hx hb dX0_roundFrom_17 rfl (lv_at hl 3 rfl) ?_
        obtain ⟨u18, hu18, hf⟩ := z_ob_some hf
        have hPc := hP.sub (ws' := (wX0 cy h q2 q3 q4 q5 q6 q7 q8 q9 c0 c1 c2 c3 c4 c5 c6 c7 c8 c9 c10 c11)) [0, 1, 2, 3, 4, 5, 6, 7, 8] rfl
        have hDc := hD.sub (ws' := (wX0 cy h q2 q3 q4 q5 q6 q7 q8 q9 c0 c1 c2 c3 c4 c5 c6 c7 c8 c9 c10 c11)) [0, 1, 2, 3, 4, 5, 6, 7, 8] (by decide) rfl
        have hKc := hK.sub (tys' := [(cy, .int)]) [0] rfl
        have hFc := va_free (wc := (wX0 cy h q2 q3 q4 q5 q6 q7 q8 q9 c0 c1 c2 c3 c4 c5 c6 c7 c8 c9 c10 c11)) hD hS hA [0, 1, 2, 3, 4, 5, 6, 7, 8] rfl
        refine va_calli (va_runV (As := [.int x3]) (rest := []) ⟨hx, hb, hml, hown, hts⟩ (c_X0_isOne N l dC dI cy h q2 q3 q4 q5 q6 q7 q8 q9 H.size c0 c1 c2 c3 c4 c5 c6 c7 c8 c9 c10 c11 x3 u18 hu18) (cwV 1 hts gX0_roundFrom_X0_isOne rfl rfl rfl (by decide +kernel) ⟨Nat.le_of_ble_eq_true rfl, Nat.le_of_ble_eq_true rfl⟩) ⟨fun a U g mk q => by obtain ⟨q0, q1, qP, qK, qD⟩ := q; exact ⟨q0, q1, qP, va_K.moved (u := U) (U := U.calling g mk a) (Vm.Alike.refl U.vm) qK, qD⟩, va_recv hKc hPc (ci := 0) (q0 := 0) rfl rfl, fun U hU hW => ⟨rfl, by rw [hU], by rw [hU]; exact hPc, va_K.moved hW.alike hKc, hDc.weaken (fun _ _ _ _ => trivial)⟩⟩ rfl rfl hl.1 rfl (lv_room (Nat.le_of_ble_eq_true rfl)) dX0_roundFrom_18 ⟨Nat.zero_le _, Nat.zero_le _⟩) hS (fun q _ h => hFc q h) hFc (fun r_18 uu_ t H1 locs ht hvm hw hB hz1 hk1 hS => ?_)
        replace hw := hw.symm
        subst hw
        obtain ⟨hP1, -, hD1⟩ := hB
        rw [ht] at hP1
        obtain ⟨hP, hD⟩ := va_join (wr := []) (w1 := (wX0 cy h q2 q3 q4 q5 q6 q7 q8 q9 c0 c1 c2 c3 c4 c5 c6 c7 c8 c9 c10 c11)) hP hD [0, 1, 2, 3, 4, 5, 6, 7, 8] [] rfl rfl (by decide) (by decide) hk1 hFc hP1 hD1
        clear hk1 hz1 hP1 hD1 ht hPc hDc hFc
        generalize H1 = H at hP hS ⊢
        have hP : va_P (dC, dI) vwCl (wX0 cy h q2 q3 q4 q5 q6 q7 q8 q9 c0 c1 c2 c3 c4 c5 c6 c7 c8 c9 c10 c11) H := hP
        have hD : va_D A (wX0 cy h q2 q3 q4 q5 q6 q7 q8 q9 c0 c1 c2 c3 c4 c5 c6 c7 c8 c9 c10 c11) := hD
        refine lv_if_eq (tgt := 47) hx hb dX0_roundFrom_21 (by decide) (fun c_21 => ?_) (fun c_21 => ?_)
        · replace hf := (if_pos c_21).symm.trans hf
          exact B47 x2 _ _ _ hf hP hD hS (lv_sub hl [0, 2] rfl)
        · replace hf := (if_neg c_21).symm.trans hf
          refine lv_aload_n hx hb dX0_roundFrom_24 rfl (lv_at hl 0 rfl) ?_
          refine va_get (D := (dC, dI)) (ci := 0) (v := .ref q8) (C := RX0) (T := TX0) (N := 12) hx hb hts (by decide +kernel) hown hK hP 0 rfl rfl 8 (by decide) (hts (.fieldLink RX0 28 "GiftLots" "trial" "[I") (by decide +kernel)) (fun _ h9 => h9) rfl dX0_roundFrom_25 ?_
          refine lv_iload_n hx hb dX0_roundFrom_28 rfl (lv_at hl 3 rfl) ?_
          obtain ⟨hi29, hf⟩ := z_gx_some hf
          refine va_iald hx hb hK hP 7 0 rfl rfl hi29 dX0_roundFrom_29 ?_
          refine lv_istore_n (lv' := [(3, .int (c8 (x3).toNatClampNeg)), (0, .ref h), (1, .int x1), (2, .int x2), (4, .int x4)]) hx hb dX0_roundFrom_30 rfl hl (by decide) rfl (fun ls hl => ?_)
          refine lv_iinc (v := x2 + (1 : Int32)) (lv' := [(2, .int (x2 + (1 : Int32))), (3, .int (c8 (x3).toNatClampNeg)), (0, .ref h), (1, .int x1), (4, .int x4)]) hx hb dX0_roundFrom_31 hl (k := 3) rfl rfl (by decide) rfl (fun ls hl => ?_)
          refine lv_iload_n hx hb dX0_roundFrom_34 rfl (lv_at hl 1 rfl) ?_
          refine lv_iload_n hx hb dX0_roundFrom_35 rfl (lv_at hl 3 rfl) ?_
          refine lv_icmp_ne (tgt := 41) hx hb dX0_roundFrom_36 (by decide) (fun c_36 => ?_) (fun c_36 => ?_)
          · replace hf := (if_neg c_36).symm.trans hf
            refine lv_iinc (v := x4 + (1 : Int32)) (lv' := [(4, .int (x4 + (1 : Int32))), (2, .int (x2 + (1 : Int32))), (3, .int (c8 (x3).toNatClampNeg)), (0, .ref h), (1, .int x1)]) hx hb dX0_roundFrom_41 hl (k := 4) rfl rfl (by decide) rfl (fun ls hl => ?_)
            refine lv_goto (tgt := 7) hx hb dX0_roundFrom_44 (by decide) ?_
            exact ih x1 (x2 + (1 : Int32)) (c8 (x3).toNatClampNeg) (x4 + (1 : Int32)) _ _ _ hf hP hD hS (lv_sub hl [3, 4, 1, 2, 0] rfl)
          · replace hf := (if_pos c_36).symm.trans hf
            refine lv_iload_n hx hb dX0_roundFrom_39 rfl (lv_at hl 0 rfl) ?_
            have hres := Option.some.inj hf
            subst hres
            have hP9 := hP.sub (ws' := (wX0 cy h q2 q3 q4 q5 q6 q7 q8 q9 c0 c1 c2 c3 c4 c5 c6 c7 c8 c9 c10 c11)) [0, 1, 2, 3, 4, 5, 6, 7, 8] rfl
            have hD9 := hD.sub (ws' := (wX0 cy h q2 q3 q4 q5 q6 q7 q8 q9 c0 c1 c2 c3 c4 c5 c6 c7 c8 c9 c10 c11)) [0, 1, 2, 3, 4, 5, 6, 7, 8] (by decide) rfl
            have hK9 := hK.sub (tys' := [(cy, .int)]) [0] rfl
            exact W.iret (v := x2 + (1 : Int32)) hx hb hr (fun t ht hW => ⟨⟨x2 + (1 : Int32), (), rfl, rfl, by rw [ht]; exact hP9, va_K.moved hW.alike hK9, hD9⟩, hS.F ht⟩) hS.2.2 dX0_roundFrom_40
  unfold f_X0_roundFrom at hf
  refine lv_iconst (v := (0 : Int32)) hx hb dX0_roundFrom_0 (by decide) ?_
  refine lv_istore_n (lv' := [(2, .int (0 : Int32)), (0, .ref h), (1, .int a1)]) hx hb dX0_roundFrom_1 rfl hl (by decide) rfl (fun ls hl => ?_)
  refine lv_iload_n hx hb dX0_roundFrom_2 rfl (lv_at hl 2 rfl) ?_
  refine lv_istore_n (lv' := [(3, .int a1), (2, .int (0 : Int32)), (0, .ref h), (1, .int a1)]) hx hb dX0_roundFrom_3 rfl hl (by decide) rfl (fun ls hl => ?_)
  refine lv_iconst (v := (0 : Int32)) hx hb dX0_roundFrom_4 (by decide) ?_
  refine lv_istore (lv' := [(4, .int (0 : Int32)), (3, .int a1), (2, .int (0 : Int32)), (0, .ref h), (1, .int a1)]) hx hb dX0_roundFrom_5 hl (by decide) rfl (fun ls hl => ?_)
  exact B7 N a1 (0 : Int32) a1 (0 : Int32) _ _ _ hf hP hD hS (lv_sub hl [3, 4, 2, 1, 0] rfl)

set_option maxRecDepth 20000 in
theorem ggX0_hasLongRounds_X0_roundFrom : GoodIn wsX0_hasLongRounds wsX0_roundFrom := goodIn_r _ [7, 1, 8, 9, 10, 11, 6, 12, 13, 14, 15, 16, 17, 18, 19, 20, 21, 22, 23, 24] (by decide +kernel) (by decide +kernel)
set_option maxRecDepth 20000 in
theorem gX0_hasLongRounds_X0_roundFrom : GoodIn wsX0_hasLongRounds (wsV RX0 175 RX0 yX0_roundFrom wsX0_roundFrom) := goodIn_app (goodIn_of _ (by decide +kernel)) ggX0_hasLongRounds_X0_roundFrom
theorem dX0_hasLongRounds_0 : decode cX0_hasLongRounds 0 = .ok (.iconst 0, 1) := by decide +kernel
theorem dX0_hasLongRounds_1 : decode cX0_hasLongRounds 1 = .ok (.istore_n 2, 1) := by decide +kernel
theorem dX0_hasLongRounds_2 : decode cX0_hasLongRounds 2 = .ok (.iload_n 2, 1) := by decide +kernel
theorem dX0_hasLongRounds_3 : decode cX0_hasLongRounds 3 = .ok (.aload_n 0, 1) := by decide +kernel
theorem dX0_hasLongRounds_4 : decode cX0_hasLongRounds 4 = .ok (.getfield 38, 3) := by decide +kernel
theorem dX0_hasLongRounds_7 : decode cX0_hasLongRounds 7 = .ok (.if_icmp .ge 28, 3) := by decide +kernel
theorem dX0_hasLongRounds_10 : decode cX0_hasLongRounds 10 = .ok (.iload_n 2, 1) := by decide +kernel
theorem dX0_hasLongRounds_11 : decode cX0_hasLongRounds 11 = .ok (.iload_n 1, 1) := by decide +kernel
theorem dX0_hasLongRounds_12 : decode cX0_hasLongRounds 12 = .ok (.if_icmp .eq 17, 3) := by decide +kernel
theorem dX0_hasLongRounds_15 : decode cX0_hasLongRounds 15 = .ok (.aload_n 0, 1) := by decide +kernel
theorem dX0_hasLongRounds_16 : decode cX0_hasLongRounds 16 = .ok (.iload_n 2, 1) := by decide +kernel
theorem dX0_hasLongRounds_17 : decode cX0_hasLongRounds 17 = .ok (.invokevirtual 175, 3) := by decide +kernel
theorem dX0_hasLongRounds_20 : decode cX0_hasLongRounds 20 = .ok (.aload_n 0, 1) := by decide +kernel
theorem dX0_hasLongRounds_21 : decode cX0_hasLongRounds 21 = .ok (.getfield 57, 3) := by decide +kernel
theorem dX0_hasLongRounds_24 : decode cX0_hasLongRounds 24 = .ok (.if_icmp .ge 5, 3) := by decide +kernel
theorem dX0_hasLongRounds_27 : decode cX0_hasLongRounds 27 = .ok (.iconst 0, 1) := by decide +kernel
theorem dX0_hasLongRounds_28 : decode cX0_hasLongRounds 28 = .ok (.ireturn, 1) := by decide +kernel
theorem dX0_hasLongRounds_29 : decode cX0_hasLongRounds 29 = .ok (.iinc 2 1, 3) := by decide +kernel
theorem dX0_hasLongRounds_32 : decode cX0_hasLongRounds 32 = .ok (.goto (-30), 3) := by decide +kernel
theorem dX0_hasLongRounds_35 : decode cX0_hasLongRounds 35 = .ok (.iconst 1, 1) := by decide +kernel
theorem dX0_hasLongRounds_36 : decode cX0_hasLongRounds 36 = .ok (.ireturn, 1) := by decide +kernel
abbrev rm_X0_hasLongRounds : Room := { frames := 2, cells := 0, slots := 0, locals := 45 }
set_option maxHeartbeats 4000000 in
set_option maxRecDepth 100000 in
theorem c_X0_hasLongRounds (N : Nat) (l : Launch) (dC : Nat → ClassId) (dI : Nat → Nat → Nat) (cy : ClassId) (h q2 q3 q4 q5 q6 q7 q8 q9 : Nat) (sz : Nat) (c0 : Int32) (c1 : Int32) (c2 : Nat → Int32) (c3 : Nat → Int32) (c4 : Nat → Int32) (c5 : Nat → Int32) (c6 : Nat → Int32) (c7 : Nat → Int32) (c8 : Nat → Int32) (c9 : Nat → Int32) (c10 : Int32) (c11 : Int32) (a1 : Int32) (res : Int32) (hf : f_X0_hasLongRounds N a1 c0 c1 c8 = some res) : Met l yX0_hasLongRounds wsX0_hasLongRounds rm_X0_hasLongRounds (va_Pc [.ref h, .int a1] (fun U => U.heap.size = sz ∧ va_P (dC, dI) vwCl (wX0 cy h q2 q3 q4 q5 q6 q7 q8 q9 c0 c1 c2 c3 c4 c5 c6 c7 c8 c9 c10 c11) U.heap ∧ va_K (dC, dI) vwCl [(cy, .int)] U ∧ va_D (fun _ => True) (wX0 cy h q2 q3 q4 q5 q6 q7 q8 q9 c0 c1 c2 c3 c4 c5 c6 c7 c8 c9 c10 c11))) (z_qI dC dI cy res (wX0 cy h q2 q3 q4 q5 q6 q7 q8 q9 c0 c1 c2 c3 c4 c5 c6 c7 c8 c9 c10 c11) (va_A (wX0 cy h q2 q3 q4 q5 q6 q7 q8 q9 c0 c1 c2 c3 c4 c5 c6 c7 c8 c9 c10 c11) sz)) 0 0 (va_A (wX0 cy h q2 q3 q4 q5 q6 q7 q8 q9 c0 c1 c2 c3 c4 c5 c6 c7 c8 c9 c10 c11) sz) := by
  refine Met.ofW (cc := cX0_hasLongRounds) (maxL := 3) (ret := (some .boolean)) (by decide) rfl ?_
  intro p e s m args below meth c s₁ B hml hv
  obtain ⟨rfl, hsz, hP, hK, hD0⟩ := hv
  have hx := B.exec
  have hb := B.bytes
  have hr := B.returns
  have hts := atoms_spec (ws := wsX0_hasLongRounds) B.pre
  have hown : s.vm.findClass RX0 = some m.cls := findClass_of_methodNamed B.named
  have hlocks := B.notSynchronized
  subst hsz
  have hD := hD0.self (sz := s.heap.size)
  generalize hAe : va_A (wX0 cy h q2 q3 q4 q5 q6 q7 q8 q9 c0 c1 c2 c3 c4 c5 c6 c7 c8 c9 c10 c11) s.heap.size = A at hD ⊢
  have hA : ∀ q : Nat, s.heap.size ≤ q → A q := fun q h => by rw [← hAe]; exact Or.inr h
  have hS : va_S A s.heap s.heap [] := va_S.rf
  have hP : va_P (dC, dI) vwCl (wX0 cy h q2 q3 q4 q5 q6 q7 q8 q9 c0 c1 c2 c3 c4 c5 c6 c7 c8 c9 c10 c11) s.heap := hP
  have hl := lv_entry ([.ref h, .int a1]) (n := 3) (Nat.le_of_ble_eq_true rfl)
  rw [lg_entry_eq]
  generalize (lg_sl ([.ref h, .int a1]) ++ List.replicate (3 - (lg_sl ([.ref h, .int a1])).length) Slot.unset).toArray = ls at hl ⊢
  have hl : lv_has ls 3 [(0, .ref h), (1, .int a1)] := hl
  have B29 : ∀ (r2 : Int32 → Int32 → Option (Int32)), (∀ (x1 x2 : Int32) (H : Heap) (locs : List Loc) (ls : Array Slot), r2 x1 x2 = some res → va_P (dC, dI) vwCl (wX0 cy h q2 q3 q4 q5 q6 q7 q8 q9 c0 c1 c2 c3 c4 c5 c6 c7 c8 c9 c10 c11) H → va_D A (wX0 cy h q2 q3 q4 q5 q6 q7 q8 q9 c0 c1 c2 c3 c4 c5 c6 c7 c8 c9 c10 c11) → va_S A s.heap H locs → lv_has ls 3 [(0, .ref h), (1, .int x1), (2, .int x2)] → W p l e rm_X0_hasLongRounds s m ([.ref h, .int a1] : List Value).toArray below meth c H locs 0 0 (MQ below (z_qI dC dI cy res (wX0 cy h q2 q3 q4 q5 q6 q7 q8 q9 c0 c1 c2 c3 c4 c5 c6 c7 c8 c9 c10 c11) A) ([.ref h, .int a1] : List Value).toArray s 0 0 A) (F0 m 2 ls [])) → ∀ (x1 x2 : Int32) (H : Heap) (locs : List Loc) (ls : Array Slot), f_X0_hasLongRounds_b29 N c0 c1 c8 r2 x1 x2 = some res → va_P (dC, dI) vwCl (wX0 cy h q2 q3 q4 q5 q6 q7 q8 q9 c0 c1 c2 c3 c4 c5 c6 c7 c8 c9 c10 c11) H → va_D A (wX0 cy h q2 q3 q4 q5 q6 q7 q8 q9 c0 c1 c2 c3 c4 c5 c6 c7 c8 c9 c10 c11) → va_S A s.heap H locs → lv_has ls 3 [(0, .ref h), (1, .int x1), (2, .int x2)] → W p l e rm_X0_hasLongRounds s m ([.ref h, .int a1] : List Value).toArray below meth c H locs 0 0 (MQ below (z_qI dC dI cy res (wX0 cy h q2 q3 q4 q5 q6 q7 q8 q9 c0 c1 c2 c3 c4 c5 c6 c7 c8 c9 c10 c11) A) ([.ref h, .int a1] : List Value).toArray s 0 0 A) (F0 m 29 ls []) := by
    clear hf hl hP hD hS
    intro r2 hr2
    intro x1 x2 H locs ls hf hP hD hS hl
    unfold f_X0_hasLongRounds_b29 at hf
    refine lv_iinc (v := x2 + (1 : Int32)) (lv' := [(2, .int (x2 + (1 : Int32))), (0, .ref h), (1, .int x1)]) hx hb dX0_hasLongRounds_29 hl (k := 2) rfl rfl (by decide) rfl (fun ls hl => ?_)
    refine lv_goto (tgt := 2) hx hb dX0_hasLongRounds_32 (by decide) ?_
    exact hr2 x1 (x2 + (1 : Int32)) _ _ _ hf hP hD hS (lv_sub hl [1, 2, 0] rfl)
  have B2 : ∀ n : Nat, ∀ (x1 x2 : Int32) (H : Heap) (locs : List Loc) (ls : Array Slot), f_X0_hasLongRounds_b2 N c0 c1 c8 n x1 x2 = some res → va_P (dC, dI) vwCl (wX0 cy h q2 q3 q4 q5 q6 q7 q8 q9 c0 c1 c2 c3 c4 c5 c6 c7 c8 c9 c10 c11) H → va_D A (wX0 cy h q2 q3 q4 q5 q6 q7 q8 q9 c0 c1 c2 c3 c4 c5 c6 c7 c8 c9 c10 c11) → va_S A s.heap H locs → lv_has ls 3 [(0, .ref h), (1, .int x1), (2, .int x2)] → W p l e rm_X0_hasLongRounds s m ([.ref h, .int a1] : List Value).toArray below meth c H locs 0 0 (MQ below (z_qI dC dI cy res (wX0 cy h q2 q3 q4 q5 q6 q7 q8 q9 c0 c1 c2 c3 c4 c5 c6 c7 c8 c9 c10 c11) A) ([.ref h, .int a1] : List Value).toArray s 0 0 A) (F0 m 2 ls []) := by
    clear hf hl hP hD hS
    intro n
    induction n with
    | zero =>
      intro x1 x2 H locs ls hf hP hD hS hl
      rw [f_X0_hasLongRounds_b2] at hf
      cases hf
    | succ n ih =>
      intro x1 x2 H locs ls hf hP hD hS hl
      rw [f_X0_hasLongRounds_b2] at hf
      refine lv_iload_n hx hb dX0_hasLongRounds_2 rfl (lv_at hl 2 rfl) ?_
      refine lv_aload_n hx hb dX0_hasLongRounds_3 rfl (lv_at hl 0 rfl) ?_
      refine va_get (D := (dC, dI)) (ci := 0) (v := .int c0) (C := RX0) (T := TX0) (N := 12) hx hb hts (by decide +kernel) hown hK hP 0 rfl rfl 0 (by decide) (hts (.fieldLink RX0 38 "GiftLots" "count" "I") (by decide +kernel)) (fun _ h9 => h9) rfl dX0_hasLongRounds_4 ?_
      refine lv_icmp_ge (tgt := 35) hx hb dX0_hasLongRounds_7 (by decide) (fun c_7 => ?_) (fun c_7 => ?_)
      · replace hf := (if_pos c_7).symm.trans hf
        refine lv_iconst (v := (1 : Int32)) hx hb dX0_hasLongRounds_35 (by decide) ?_
        have hres := Option.some.inj hf
        subst hres
        have hP9 := hP.sub (ws' := (wX0 cy h q2 q3 q4 q5 q6 q7 q8 q9 c0 c1 c2 c3 c4 c5 c6 c7 c8 c9 c10 c11)) [0, 1, 2, 3, 4, 5, 6, 7, 8] rfl
        have hD9 := hD.sub (ws' := (wX0 cy h q2 q3 q4 q5 q6 q7 q8 q9 c0 c1 c2 c3 c4 c5 c6 c7 c8 c9 c10 c11)) [0, 1, 2, 3, 4, 5, 6, 7, 8] (by decide) rfl
        have hK9 := hK.sub (tys' := [(cy, .int)]) [0] rfl
        exact W.zret (v := (1 : Int32)) hx hb hr rfl (fun t ht hW => ⟨⟨(1 : Int32), (), rfl, rfl, by rw [ht]; exact hP9, va_K.moved hW.alike hK9, hD9⟩, hS.F ht⟩) hS.2.2 dX0_hasLongRounds_36
      · replace hf := (if_neg c_7).symm.trans hf
        refine lv_iload_n hx hb dX0_hasLongRounds_10 rfl (lv_at hl 2 rfl) ?_
        refine lv_iload_n hx hb dX0_hasLongRounds_11 rfl (lv_at hl 1 rfl) ?_
        refine lv_icmp_eq (tgt := 29) hx hb dX0_hasLongRounds_12 (by decide) (fun c_12 => ?_) (fun c_12 => ?_)
        · replace hf := (if_pos c_12).symm.trans hf
          exact B29 (f_X0_hasLongRounds_b2 N c0 c1 c8 n) ih x1 x2 _ _ _ hf hP hD hS (lv_sub hl [0, 1, 2] rfl)
        · replace hf := (if_neg c_12).symm.trans hf
          refine lv_aload_n hx hb dX0_hasLongRounds_15 rfl (lv_at hl 0 rfl) ?_
          refine lv_iload_n hx hb dX0_hasLongRounds_16 rfl (lv_at hl 2 rfl) ?_
          obtain ⟨u17, hu17, hf⟩ := z_ob_some hf
          have hPc := hP.sub (ws' := (wX0 cy h q2 q3 q4 q5 q6 q7 q8 q9 c0 c1 c2 c3 c4 c5 c6 c7 c8 c9 c10 c11)) [0, 1, 2, 3, 4, 5, 6, 7, 8] rfl
          have hDc := hD.sub (ws' := (wX0 cy h q2 q3 q4 q5 q6 q7 q8 q9 c0 c1 c2 c3 c4 c5 c6 c7 c8 c9 c10 c11)) [0, 1, 2, 3, 4, 5, 6, 7, 8] (by decide) rfl
          have hKc := hK.sub (tys' := [(cy, .int)]) [0] rfl
          have hFc := va_free (wc := (wX0 cy h q2 q3 q4 q5 q6 q7 q8 q9 c0 c1 c2 c3 c4 c5 c6 c7 c8 c9 c10 c11)) hD hS hA [0, 1, 2, 3, 4, 5, 6, 7, 8] rfl
          refine va_calli (va_runV (As := [.int x2]) (rest := []) ⟨hx, hb, hml, hown, hts⟩ (c_X0_roundFrom N l dC dI cy h q2 q3 q4 q5 q6 q7 q8 q9 H.size c0 c1 c2 c3 c4 c5 c6 c7 c8 c9 c10 c11 x2 u17 hu17) (cwV 1 hts gX0_hasLongRounds_X0_roundFrom rfl rfl rfl (by decide +kernel) ⟨Nat.le_of_ble_eq_true rfl, Nat.le_of_ble_eq_true rfl⟩) ⟨fun a U g mk q => by obtain ⟨q0, q1, qP, qK, qD⟩ := q; exact ⟨q0, q1, qP, va_K.moved (u := U) (U := U.calling g mk a) (Vm.Alike.refl U.vm) qK, qD⟩, va_recv hKc hPc (ci := 0) (q0 := 0) rfl rfl, fun U hU hW => ⟨rfl, by rw [hU], by rw [hU]; exact hPc, va_K.moved hW.alike hKc, hDc.weaken (fun _ _ _ _ => trivial)⟩⟩ rfl rfl hl.1 rfl (lv_room (Nat.le_of_ble_eq_true rfl)) dX0_hasLongRounds_17 ⟨Nat.zero_le _, Nat.zero_le _⟩) hS (fun q _ h => hFc q h) hFc (fun r_17 uu_ t H1 locs ht hvm hw hB hz1 hk1 hS => ?_)
          replace hw := hw.symm
          subst hw
          obtain ⟨hP1, -, hD1⟩ := hB
          rw [ht] at hP1
          obtain ⟨hP, hD⟩ := va_join (wr := []) (w1 := (wX0 cy h q2 q3 q4 q5 q6 q7 q8 q9 c0 c1 c2 c3 c4 c5 c6 c7 c8 c9 c10 c11)) hP hD [0, 1, 2, 3, 4, 5, 6, 7, 8] [] rfl rfl (by decide) (by decide) hk1 hFc hP1 hD1
          clear hk1 hz1 hP1 hD1 ht hPc hDc hFc
          generalize H1 = H at hP hS ⊢
          have hP : va_P (dC, dI) vwCl (wX0 cy h q2 q3 q4 q5 q6 q7 q8 q9 c0 c1 c2 c3 c4 c5 c6 c7 c8 c9 c10 c11) H := hP
          have hD : va_D A (wX0 cy h q2 q3 q4 q5 q6 q7 q8 q9 c0 c1 c2 c3 c4 c5 c6 c7 c8 c9 c10 c11) := hD
          refine lv_aload_n hx hb dX0_hasLongRounds_20 rfl (lv_at hl 0 rfl) ?_
          refine va_get (D := (dC, dI)) (ci := 0) (v := .int c1) (C := RX0) (T := TX0) (N := 12) hx hb hts (by decide +kernel) hown hK hP 0 rfl rfl 1 (by decide) (hts (.fieldLink RX0 57 "GiftLots" "shortest" "I") (by decide +kernel)) (fun _ h9 => h9) rfl dX0_hasLongRounds_21 ?_
          refine lv_icmp_ge (tgt := 29) hx hb dX0_hasLongRounds_24 (by decide) (fun c_24 => ?_) (fun c_24 => ?_)
          · replace hf := (if_pos c_24).symm.trans hf
            exact B29 (f_X0_hasLongRounds_b2 N c0 c1 c8 n) ih x1 x2 _ _ _ hf hP hD hS (lv_sub hl [0, 1, 2] rfl)
          · replace hf := (if_neg c_24).symm.trans hf
            refine lv_iconst (v := (0 : Int32)) hx hb dX0_hasLongRounds_27 (by decide) ?_
            have hres := Option.some.inj hf
            subst hres
            have hP9 := hP.sub (ws' := (wX0 cy h q2 q3 q4 q5 q6 q7 q8 q9 c0 c1 c2 c3 c4 c5 c6 c7 c8 c9 c10 c11)) [0, 1, 2, 3, 4, 5, 6, 7, 8] rfl
            have hD9 := hD.sub (ws' := (wX0 cy h q2 q3 q4 q5 q6 q7 q8 q9 c0 c1 c2 c3 c4 c5 c6 c7 c8 c9 c10 c11)) [0, 1, 2, 3, 4, 5, 6, 7, 8] (by decide) rfl
            have hK9 := hK.sub (tys' := [(cy, .int)]) [0] rfl
            exact W.zret (v := (0 : Int32)) hx hb hr rfl (fun t ht hW => ⟨⟨(0 : Int32), (), rfl, rfl, by rw [ht]; exact hP9, va_K.moved hW.alike hK9, hD9⟩, hS.F ht⟩) hS.2.2 dX0_hasLongRounds_28
  unfold f_X0_hasLongRounds at hf
  refine lv_iconst (v := (0 : Int32)) hx hb dX0_hasLongRounds_0 (by decide) ?_
  refine lv_istore_n (lv' := [(2, .int (0 : Int32)), (0, .ref h), (1, .int a1)]) hx hb dX0_hasLongRounds_1 rfl hl (by decide) rfl (fun ls hl => ?_)
  exact B2 N a1 (0 : Int32) _ _ _ hf hP hD hS (lv_sub hl [1, 2, 0] rfl)

set_option maxRecDepth 20000 in
theorem ggX0_judgeMend_X0_hasLongRounds : GoodIn wsX0_judgeMend wsX0_hasLongRounds := goodIn_r _ [14, 5, 15, 16, 17, 18, 13, 19, 3, 20, 21, 22, 23, 24, 25, 26, 27, 28, 29, 30, 31, 32, 33, 34, 35] (by decide +kernel) (by decide +kernel)
set_option maxRecDepth 20000 in
theorem gX0_judgeMend_X0_hasLongRounds : GoodIn wsX0_judgeMend (wsV RX0 172 RX0 yX0_hasLongRounds wsX0_hasLongRounds) := goodIn_app (goodIn_of _ (by decide +kernel)) ggX0_judgeMend_X0_hasLongRounds
theorem dX0_judgeMend_0 : decode cX0_judgeMend 0 = .ok (.aload_n 0, 1) := by decide +kernel
theorem dX0_judgeMend_1 : decode cX0_judgeMend 1 = .ok (.iload_n 1, 1) := by decide +kernel
theorem dX0_judgeMend_2 : decode cX0_judgeMend 2 = .ok (.invokevirtual 172, 3) := by decide +kernel
theorem dX0_judgeMend_5 : decode cX0_judgeMend 5 = .ok (.ifCond .ne 4, 3) := by decide +kernel
theorem dX0_judgeMend_8 : decode cX0_judgeMend 8 = .ok (.return_, 1) := by decide +kernel
theorem dX0_judgeMend_9 : decode cX0_judgeMend 9 = .ok (.aload_n 0, 1) := by decide +kernel
theorem dX0_judgeMend_10 : decode cX0_judgeMend 10 = .ok (.getfield 128, 3) := by decide +kernel
theorem dX0_judgeMend_13 : decode cX0_judgeMend 13 = .ok (.ifCond .eq 11, 3) := by decide +kernel
theorem dX0_judgeMend_16 : decode cX0_judgeMend 16 = .ok (.iload_n 2, 1) := by decide +kernel
theorem dX0_judgeMend_17 : decode cX0_judgeMend 17 = .ok (.aload_n 0, 1) := by decide +kernel
theorem dX0_judgeMend_18 : decode cX0_judgeMend 18 = .ok (.getfield 131, 3) := by decide +kernel
theorem dX0_judgeMend_21 : decode cX0_judgeMend 21 = .ok (.if_icmp .ge 30, 3) := by decide +kernel
theorem dX0_judgeMend_24 : decode cX0_judgeMend 24 = .ok (.aload_n 0, 1) := by decide +kernel
theorem dX0_judgeMend_25 : decode cX0_judgeMend 25 = .ok (.iload_n 2, 1) := by decide +kernel
theorem dX0_judgeMend_26 : decode cX0_judgeMend 26 = .ok (.putfield 131, 3) := by decide +kernel
theorem dX0_judgeMend_29 : decode cX0_judgeMend 29 = .ok (.aload_n 0, 1) := by decide +kernel
theorem dX0_judgeMend_30 : decode cX0_judgeMend 30 = .ok (.iconst 0, 1) := by decide +kernel
theorem dX0_judgeMend_31 : decode cX0_judgeMend 31 = .ok (.putfield 128, 3) := by decide +kernel
theorem dX0_judgeMend_34 : decode cX0_judgeMend 34 = .ok (.aload_n 0, 1) := by decide +kernel
theorem dX0_judgeMend_35 : decode cX0_judgeMend 35 = .ok (.getfield 28, 3) := by decide +kernel
theorem dX0_judgeMend_38 : decode cX0_judgeMend 38 = .ok (.iconst 0, 1) := by decide +kernel
theorem dX0_judgeMend_39 : decode cX0_judgeMend 39 = .ok (.aload_n 0, 1) := by decide +kernel
theorem dX0_judgeMend_40 : decode cX0_judgeMend 40 = .ok (.getfield 31, 3) := by decide +kernel
theorem dX0_judgeMend_43 : decode cX0_judgeMend 43 = .ok (.iconst 0, 1) := by decide +kernel
theorem dX0_judgeMend_44 : decode cX0_judgeMend 44 = .ok (.aload_n 0, 1) := by decide +kernel
theorem dX0_judgeMend_45 : decode cX0_judgeMend 45 = .ok (.getfield 38, 3) := by decide +kernel
theorem dX0_judgeMend_48 : decode cX0_judgeMend 48 = .ok (.invokestatic 103, 3) := by decide +kernel
theorem dX0_judgeMend_51 : decode cX0_judgeMend 51 = .ok (.aload_n 0, 1) := by decide +kernel
theorem dX0_judgeMend_52 : decode cX0_judgeMend 52 = .ok (.dup, 1) := by decide +kernel
theorem dX0_judgeMend_53 : decode cX0_judgeMend 53 = .ok (.getfield 128, 3) := by decide +kernel
theorem dX0_judgeMend_56 : decode cX0_judgeMend 56 = .ok (.iconst 1, 1) := by decide +kernel
theorem dX0_judgeMend_57 : decode cX0_judgeMend 57 = .ok (.iadd, 1) := by decide +kernel
theorem dX0_judgeMend_58 : decode cX0_judgeMend 58 = .ok (.putfield 128, 3) := by decide +kernel
theorem dX0_judgeMend_61 : decode cX0_judgeMend 61 = .ok (.return_, 1) := by decide +kernel
abbrev rm_X0_judgeMend : Room := { frames := 3, cells := 0, slots := 0, locals := 67 }
set_option maxHeartbeats 4000000 in
set_option maxRecDepth 100000 in
theorem c_X0_judgeMend (N : Nat) (l : Launch) (dC : Nat → ClassId) (dI : Nat → Nat → Nat) (cy : ClassId) (h q2 q3 q4 q5 q6 q7 q8 q9 : Nat) (sz : Nat) (c0 : Int32) (c1 : Int32) (c2 : Nat → Int32) (c3 : Nat → Int32) (c4 : Nat → Int32) (c5 : Nat → Int32) (c6 : Nat → Int32) (c7 : Nat → Int32) (c8 : Nat → Int32) (c9 : Nat → Int32) (c10 : Int32) (c11 : Int32) (a1 a2 : Int32) (res : (Nat → Int32) × Int32 × Int32) (hf : f_X0_judgeMend N a1 a2 c0 c1 c8 c9 c10 c11 = some res) : Met l yX0_judgeMend wsX0_judgeMend rm_X0_judgeMend (va_Pc [.ref h, .int a1, .int a2] (fun U => U.heap.size = sz ∧ va_P (dC, dI) vwCl (wX0 cy h q2 q3 q4 q5 q6 q7 q8 q9 c0 c1 c2 c3 c4 c5 c6 c7 c8 c9 c10 c11) U.heap ∧ va_K (dC, dI) vwCl [(cy, .int)] U ∧ va_D (fun _ => True) (wX0 cy h q2 q3 q4 q5 q6 q7 q8 q9 c0 c1 c2 c3 c4 c5 c6 c7 c8 c9 c10 c11))) (z_qV dC dI cy (wX0 cy h q2 q3 q4 q5 q6 q7 q8 q9 c0 c1 c2 c3 c4 c5 c6 c7 c8 res.1 res.2.1 res.2.2) (va_A (wX0 cy h q2 q3 q4 q5 q6 q7 q8 q9 c0 c1 c2 c3 c4 c5 c6 c7 c8 c9 c10 c11) sz)) 0 0 (va_A (wX0 cy h q2 q3 q4 q5 q6 q7 q8 q9 c0 c1 c2 c3 c4 c5 c6 c7 c8 c9 c10 c11) sz) := by
  refine Met.ofW (cc := cX0_judgeMend) (maxL := 3) (ret := none) (by decide) rfl ?_
  intro p e s m args below meth c s₁ B hml hv
  obtain ⟨rfl, hsz, hP, hK, hD0⟩ := hv
  have hx := B.exec
  have hb := B.bytes
  have hr := B.returns
  have hts := atoms_spec (ws := wsX0_judgeMend) B.pre
  have hown : s.vm.findClass RX0 = some m.cls := findClass_of_methodNamed B.named
  have hlocks := B.notSynchronized
  subst hsz
  have hD := hD0.self (sz := s.heap.size)
  generalize hAe : va_A (wX0 cy h q2 q3 q4 q5 q6 q7 q8 q9 c0 c1 c2 c3 c4 c5 c6 c7 c8 c9 c10 c11) s.heap.size = A at hD ⊢
  have hA : ∀ q : Nat, s.heap.size ≤ q → A q := fun q h => by rw [← hAe]; exact Or.inr h
  have hS : va_S A s.heap s.heap [] := va_S.rf
  have hP : va_P (dC, dI) vwCl (wX0 cy h q2 q3 q4 q5 q6 q7 q8 q9 c0 c1 c2 c3 c4 c5 c6 c7 c8 c9 c10 c11) s.heap := hP
  have hl := lv_entry ([.ref h, .int a1, .int a2]) (n := 3) (Nat.le_of_ble_eq_true rfl)
  rw [lg_entry_eq]
  generalize (lg_sl ([.ref h, .int a1, .int a2]) ++ List.replicate (3 - (lg_sl ([.ref h, .int a1, .int a2])).length) Slot.unset).toArray = ls at hl ⊢
  have hl : lv_has ls 3 [(0, .ref h), (1, .int a1), (2, .int a2)] := hl
  have B51 : ∀ (c9 : Nat → Int32) (c10 : Int32) (c11 : Int32) (H : Heap) (locs : List Loc) (ls : Array Slot), f_X0_judgeMend_b51 N c0 c1 c8 c9 c10 c11 = some res → va_P (dC, dI) vwCl (wX0 cy h q2 q3 q4 q5 q6 q7 q8 q9 c0 c1 c2 c3 c4 c5 c6 c7 c8 c9 c10 c11) H → va_D A (wX0 cy h q2 q3 q4 q5 q6 q7 q8 q9 c0 c1 c2 c3 c4 c5 c6 c7 c8 c9 c10 c11) → va_S A s.heap H locs → lv_has ls 3 [(0, .ref h)] → W p l e rm_X0_judgeMend s m ([.ref h, .int a1, .int a2] : List Value).toArray below meth c H locs 0 0 (MQ below (z_qV dC dI cy (wX0 cy h q2 q3 q4 q5 q6 q7 q8 q9 c0 c1 c2 c3 c4 c5 c6 c7 c8 res.1 res.2.1 res.2.2) A) ([.ref h, .int a1, .int a2] : List Value).toArray s 0 0 A) (F0 m 51 ls []) := by
    clear hf hl hP hD hS
    intro c9 c10 c11 H locs ls hf hP hD hS hl
    unfold f_X0_judgeMend_b51 at hf
    refine lv_aload_n hx hb dX0_judgeMend_51 rfl (lv_at hl 0 rfl) ?_
    refine lv_dup hx hb dX0_judgeMend_52 rfl ?_
    refine va_get (D := (dC, dI)) (ci := 0) (v := .int c11) (C := RX0) (T := TX0) (N := 12) hx hb hts (by decide +kernel) hown hK hP 0 rfl rfl 11 (by decide) (hts (.fieldLink RX0 128 "GiftLots" "mendsFound" "I") (by decide +kernel)) (fun _ h9 => h9) rfl dX0_judgeMend_53 ?_
    refine lv_iconst (v := (1 : Int32)) hx hb dX0_judgeMend_56 (by decide) ?_
    refine lv_iadd hx hb dX0_judgeMend_57 ?_
    refine va_put (D := (dC, dI)) (ci := 0) (v := .int (c11 + (1 : Int32))) (ty := .int) (C := RX0) (T := TX0) (N := 12) hx hb hts (by decide +kernel) tyX0 tyX0_ok nmX0 hown hK hP hD hS 0 rfl rfl 11 (by decide) (hts (.fieldLink RX0 128 "GiftLots" "mendsFound" "I") (by decide +kernel)) (fun _ h9 => h9) rfl (by decide +kernel) rfl rfl (Nat.le_of_ble_eq_true rfl) dX0_judgeMend_58 (fun H locs hP hD hS => ?_)
    have hP : va_P (dC, dI) vwCl (wX0 cy h q2 q3 q4 q5 q6 q7 q8 q9 c0 c1 c2 c3 c4 c5 c6 c7 c8 c9 c10 (c11 + (1 : Int32))) H := hP
    have hD : va_D A (wX0 cy h q2 q3 q4 q5 q6 q7 q8 q9 c0 c1 c2 c3 c4 c5 c6 c7 c8 c9 c10 (c11 + (1 : Int32))) := hD
    have hres := Option.some.inj hf
    subst hres
    have hP9 := hP.sub (ws' := (wX0 cy h q2 q3 q4 q5 q6 q7 q8 q9 c0 c1 c2 c3 c4 c5 c6 c7 c8 c9 c10 (c11 + (1 : Int32)))) [0, 1, 2, 3, 4, 5, 6, 7, 8] rfl
    have hD9 := hD.sub (ws' := (wX0 cy h q2 q3 q4 q5 q6 q7 q8 q9 c0 c1 c2 c3 c4 c5 c6 c7 c8 c9 c10 (c11 + (1 : Int32)))) [0, 1, 2, 3, 4, 5, 6, 7, 8] (by decide) rfl
    have hK9 := hK.sub (tys' := [(cy, .int)]) [0] rfl
    exact W.vret hx hb hr (fun t ht hW => ⟨⟨(), rfl, trivial, by rw [ht]; exact hP9, va_K.moved hW.alike hK9, hD9⟩, hS.F ht⟩) hS.2.2 dX0_judgeMend_61
  have B24 : ∀ (x2 : Int32) (c9 : Nat → Int32) (c10 : Int32) (c11 : Int32) (H : Heap) (locs : List Loc) (ls : Array Slot), f_X0_judgeMend_b24 N c0 c1 c8 x2 c9 c10 c11 = some res → va_P (dC, dI) vwCl (wX0 cy h q2 q3 q4 q5 q6 q7 q8 q9 c0 c1 c2 c3 c4 c5 c6 c7 c8 c9 c10 c11) H → va_D A (wX0 cy h q2 q3 q4 q5 q6 q7 q8 q9 c0 c1 c2 c3 c4 c5 c6 c7 c8 c9 c10 c11) → va_S A s.heap H locs → lv_has ls 3 [(0, .ref h), (2, .int x2)] → W p l e rm_X0_judgeMend s m ([.ref h, .int a1, .int a2] : List Value).toArray below meth c H locs 0 0 (MQ below (z_qV dC dI cy (wX0 cy h q2 q3 q4 q5 q6 q7 q8 q9 c0 c1 c2 c3 c4 c5 c6 c7 c8 res.1 res.2.1 res.2.2) A) ([.ref h, .int a1, .int a2] : List Value).toArray s 0 0 A) (F0 m 24 ls []) := by
    clear hf hl hP hD hS
    intro x2 c9 c10 c11 H locs ls hf hP hD hS hl
    unfold f_X0_judgeMend_b24 at hf
    refine lv_aload_n hx hb dX0_judgeMend_24 rfl (lv_at hl 0 rfl) ?_
    refine lv_iload_n hx hb dX0_judgeMend_25 rfl (lv_at hl 1 rfl) ?_
    refine va_put (D := (dC, dI)) (ci := 0) (v := .int x2) (ty := .int) (C := RX0) (T := TX0) (N := 12) hx hb hts (by decide +kernel) tyX0 tyX0_ok nmX0 hown hK hP hD hS 0 rfl rfl 10 (by decide) (hts (.fieldLink RX0 131 "GiftLots" "fewestChanges" "I") (by decide +kernel)) (fun _ h9 => h9) rfl (by decide +kernel) rfl rfl (Nat.le_of_ble_eq_true rfl) dX0_judgeMend_26 (fun H locs hP hD hS => ?_)
    have hP : va_P (dC, dI) vwCl (wX0 cy h q2 q3 q4 q5 q6 q7 q8 q9 c0 c1 c2 c3 c4 c5 c6 c7 c8 c9 x2 c11) H := hP
    have hD : va_D A (wX0 cy h q2 q3 q4 q5 q6 q7 q8 q9 c0 c1 c2 c3 c4 c5 c6 c7 c8 c9 x2 c11) := hD
    refine lv_aload_n hx hb dX0_judgeMend_29 rfl (lv_at hl 0 rfl) ?_
    refine lv_iconst (v := (0 : Int32)) hx hb dX0_judgeMend_30 (by decide) ?_
    refine va_put (D := (dC, dI)) (ci := 0) (v := .int (0 : Int32)) (ty := .int) (C := RX0) (T := TX0) (N := 12) hx hb hts (by decide +kernel) tyX0 tyX0_ok nmX0 hown hK hP hD hS 0 rfl rfl 11 (by decide) (hts (.fieldLink RX0 128 "GiftLots" "mendsFound" "I") (by decide +kernel)) (fun _ h9 => h9) rfl (by decide +kernel) rfl rfl (Nat.le_of_ble_eq_true rfl) dX0_judgeMend_31 (fun H locs hP hD hS => ?_)
    have hP : va_P (dC, dI) vwCl (wX0 cy h q2 q3 q4 q5 q6 q7 q8 q9 c0 c1 c2 c3 c4 c5 c6 c7 c8 c9 x2 (0 : Int32)) H := hP
    have hD : va_D A (wX0 cy h q2 q3 q4 q5 q6 q7 q8 q9 c0 c1 c2 c3 c4 c5 c6 c7 c8 c9 x2 (0 : Int32)) := hD
    refine lv_aload_n hx hb dX0_judgeMend_34 rfl (lv_at hl 0 rfl) ?_
    refine va_get (D := (dC, dI)) (ci := 0) (v := .ref q8) (C := RX0) (T := TX0) (N := 12) hx hb hts (by decide +kernel) hown hK hP 0 rfl rfl 8 (by decide) (hts (.fieldLink RX0 28 "GiftLots" "trial" "[I") (by decide +kernel)) (fun _ h9 => h9) rfl dX0_judgeMend_35 ?_
    refine lv_iconst (v := (0 : Int32)) hx hb dX0_judgeMend_38 (by decide) ?_
    refine lv_aload_n hx hb dX0_judgeMend_39 rfl (lv_at hl 0 rfl) ?_
    refine va_get (D := (dC, dI)) (ci := 0) (v := .ref q9) (C := RX0) (T := TX0) (N := 12) hx hb hts (by decide +kernel) hown hK hP 0 rfl rfl 9 (by decide) (hts (.fieldLink RX0 31 "GiftLots" "firstMend" "[I") (by decide +kernel)) (fun _ h9 => h9) rfl dX0_judgeMend_40 ?_
    refine lv_iconst (v := (0 : Int32)) hx hb dX0_judgeMend_43 (by decide) ?_
    refine lv_aload_n hx hb dX0_judgeMend_44 rfl (lv_at hl 0 rfl) ?_
    refine va_get (D := (dC, dI)) (ci := 0) (v := .int c0) (C := RX0) (T := TX0) (N := 12) hx hb hts (by decide +kernel) hown hK hP 0 rfl rfl 0 (by decide) (hts (.fieldLink RX0 38 "GiftLots" "count" "I") (by decide +kernel)) (fun _ h9 => h9) rfl dX0_judgeMend_45 ?_
    obtain ⟨hi48, hj48, hf⟩ := z_gc_some hf
    refine va_copyi hx hb (hml.trans hl.1.symm) hown (hts (.methodLink RX0 103 arraycopyName) (by decide +kernel)) (hts (.native arraycopyName) (by decide +kernel)) (hts (.static arraycopyName) (by decide +kernel)) (hts (.initialized "java/lang/System") (by decide +kernel)) hK hP hD hS 7 8 0 0 rfl rfl rfl rfl rfl (by decide) (by decide) hi48 (z_gc_le hj48) (z_gc_le hj48) (fun _ _ => rfl) (Nat.le_of_ble_eq_true rfl) (by decide) dX0_judgeMend_48 (fun H locs hP hD hS => ?_)
    have hP : va_P (dC, dI) vwCl (wX0 cy h q2 q3 q4 q5 q6 q7 q8 q9 c0 c1 c2 c3 c4 c5 c6 c7 c8 (va_cpy c8 c9 0 0 (c0).toNatClampNeg) x2 (0 : Int32)) H := hP
    have hD : va_D A (wX0 cy h q2 q3 q4 q5 q6 q7 q8 q9 c0 c1 c2 c3 c4 c5 c6 c7 c8 (va_cpy c8 c9 0 0 (c0).toNatClampNeg) x2 (0 : Int32)) := hD
    exact B51 (va_cpy c8 c9 0 0 (c0).toNatClampNeg) x2 (0 : Int32) _ _ _ hf hP hD hS (lv_sub hl [0] rfl)
  unfold f_X0_judgeMend at hf
  refine lv_aload_n hx hb dX0_judgeMend_0 rfl (lv_at hl 0 rfl) ?_
  refine lv_iload_n hx hb dX0_judgeMend_1 rfl (lv_at hl 1 rfl) ?_
  obtain ⟨u2, hu2, hf⟩ := z_ob_some hf
  have hPc := hP.sub (ws' := (wX0 cy h q2 q3 q4 q5 q6 q7 q8 q9 c0 c1 c2 c3 c4 c5 c6 c7 c8 c9 c10 c11)) [0, 1, 2, 3, 4, 5, 6, 7, 8] rfl
  have hDc := hD.sub (ws' := (wX0 cy h q2 q3 q4 q5 q6 q7 q8 q9 c0 c1 c2 c3 c4 c5 c6 c7 c8 c9 c10 c11)) [0, 1, 2, 3, 4, 5, 6, 7, 8] (by decide) rfl
  have hKc := hK.sub (tys' := [(cy, .int)]) [0] rfl
  have hFc := va_free (wc := (wX0 cy h q2 q3 q4 q5 q6 q7 q8 q9 c0 c1 c2 c3 c4 c5 c6 c7 c8 c9 c10 c11)) hD hS hA [0, 1, 2, 3, 4, 5, 6, 7, 8] rfl
  refine va_calli (va_runV (As := [.int a1]) (rest := []) ⟨hx, hb, hml, hown, hts⟩ (c_X0_hasLongRounds N l dC dI cy h q2 q3 q4 q5 q6 q7 q8 q9 s.heap.size c0 c1 c2 c3 c4 c5 c6 c7 c8 c9 c10 c11 a1 u2 hu2) (cwV 1 hts gX0_judgeMend_X0_hasLongRounds rfl rfl rfl (by decide +kernel) ⟨Nat.le_of_ble_eq_true rfl, Nat.le_of_ble_eq_true rfl⟩) ⟨fun a U g mk q => by obtain ⟨q0, q1, qP, qK, qD⟩ := q; exact ⟨q0, q1, qP, va_K.moved (u := U) (U := U.calling g mk a) (Vm.Alike.refl U.vm) qK, qD⟩, va_recv hKc hPc (ci := 0) (q0 := 0) rfl rfl, fun U hU hW => ⟨rfl, by rw [hU], by rw [hU]; exact hPc, va_K.moved hW.alike hKc, hDc.weaken (fun _ _ _ _ => trivial)⟩⟩ rfl rfl hl.1 rfl (lv_room (Nat.le_of_ble_eq_true rfl)) dX0_judgeMend_2 ⟨Nat.zero_le _, Nat.zero_le _⟩) hS (fun q _ h => hFc q h) hFc (fun r_2 uu_ t H1 locs ht hvm hw hB hz1 hk1 hS => ?_)
  replace hw := hw.symm
  subst hw
  obtain ⟨hP1, -, hD1⟩ := hB
  rw [ht] at hP1
  obtain ⟨hP, hD⟩ := va_join (wr := []) (w1 := (wX0 cy h q2 q3 q4 q5 q6 q7 q8 q9 c0 c1 c2 c3 c4 c5 c6 c7 c8 c9 c10 c11)) hP hD [0, 1, 2, 3, 4, 5, 6, 7, 8] [] rfl rfl (by decide) (by decide) hk1 hFc hP1 hD1
  clear hk1 hz1 hP1 hD1 ht hPc hDc hFc
  generalize H1 = H at hP hS ⊢
  have hP : va_P (dC, dI) vwCl (wX0 cy h q2 q3 q4 q5 q6 q7 q8 q9 c0 c1 c2 c3 c4 c5 c6 c7 c8 c9 c10 c11) H := hP
  have hD : va_D A (wX0 cy h q2 q3 q4 q5 q6 q7 q8 q9 c0 c1 c2 c3 c4 c5 c6 c7 c8 c9 c10 c11) := hD
  refine lv_if_ne (tgt := 9) hx hb dX0_judgeMend_5 (by decide) (fun c_5 => ?_) (fun c_5 => ?_)
  · replace hf := (if_neg c_5).symm.trans hf
    refine lv_aload_n hx hb dX0_judgeMend_9 rfl (lv_at hl 0 rfl) ?_
    refine va_get (D := (dC, dI)) (ci := 0) (v := .int c11) (C := RX0) (T := TX0) (N := 12) hx hb hts (by decide +kernel) hown hK hP 0 rfl rfl 11 (by decide) (hts (.fieldLink RX0 128 "GiftLots" "mendsFound" "I") (by decide +kernel)) (fun _ h9 => h9) rfl dX0_judgeMend_10 ?_
    refine lv_if_eq (tgt := 24) hx hb dX0_judgeMend_13 (by decide) (fun c_13 => ?_) (fun c_13 => ?_)
    · replace hf := (if_pos c_13).symm.trans hf
      exact B24 a2 c9 c10 c11 _ _ _ hf hP hD hS (lv_sub hl [0, 2] rfl)
    · replace hf := (if_neg c_13).symm.trans hf
      refine lv_iload_n hx hb dX0_judgeMend_16 rfl (lv_at hl 2 rfl) ?_
      refine lv_aload_n hx hb dX0_judgeMend_17 rfl (lv_at hl 0 rfl) ?_
      refine va_get (D := (dC, dI)) (ci := 0) (v := .int c10) (C := RX0) (T := TX0) (N := 12) hx hb hts (by decide +kernel) hown hK hP 0 rfl rfl 10 (by decide) (hts (.fieldLink RX0 131 "GiftLots" "fewestChanges" "I") (by decide +kernel)) (fun _ h9 => h9) rfl dX0_judgeMend_18 ?_
      refine lv_icmp_ge (tgt := 51) hx hb dX0_judgeMend_21 (by decide) (fun c_21 => ?_) (fun c_21 => ?_)
      · replace hf := (if_pos c_21).symm.trans hf
        exact B51 c9 c10 c11 _ _ _ hf hP hD hS (lv_sub hl [0] rfl)
      · replace hf := (if_neg c_21).symm.trans hf
        exact B24 a2 c9 c10 c11 _ _ _ hf hP hD hS (lv_sub hl [0, 2] rfl)
  · replace hf := (if_pos c_5).symm.trans hf
    have hres := Option.some.inj hf
    subst hres
    have hP9 := hP.sub (ws' := (wX0 cy h q2 q3 q4 q5 q6 q7 q8 q9 c0 c1 c2 c3 c4 c5 c6 c7 c8 c9 c10 c11)) [0, 1, 2, 3, 4, 5, 6, 7, 8] rfl
    have hD9 := hD.sub (ws' := (wX0 cy h q2 q3 q4 q5 q6 q7 q8 q9 c0 c1 c2 c3 c4 c5 c6 c7 c8 c9 c10 c11)) [0, 1, 2, 3, 4, 5, 6, 7, 8] (by decide) rfl
    have hK9 := hK.sub (tys' := [(cy, .int)]) [0] rfl
    exact W.vret hx hb hr (fun t ht hW => ⟨⟨(), rfl, trivial, by rw [ht]; exact hP9, va_K.moved hW.alike hK9, hD9⟩, hS.F ht⟩) hS.2.2 dX0_judgeMend_8

set_option maxRecDepth 20000 in
theorem ggX0_layMend_X0_isOne : GoodIn wsX0_layMend wsX0_isOne := goodIn_r _ [5, 6, 40, 41, 42, 43, 44, 45, 46, 47, 48, 49, 50, 51] (by decide +kernel) (by decide +kernel)
set_option maxRecDepth 20000 in
theorem gX0_layMend_X0_isOne : GoodIn wsX0_layMend (wsV RX0 66 RX0 yX0_isOne wsX0_isOne) := goodIn_app (goodIn_of _ (by decide +kernel)) ggX0_layMend_X0_isOne
set_option maxRecDepth 20000 in
theorem ggX0_layMend_X0_layGetters : GoodIn wsX0_layMend wsX0_layGetters := goodIn_r _ [31, 32, 6, 33, 15, 16, 34, 35, 4, 36, 37, 38, 39, 0, 1, 2, 3, 5, 7, 8, 9, 10, 11, 12, 13, 14, 17, 18, 19, 20, 21, 22, 23, 24, 25, 26, 27, 28, 29, 30, 40, 41, 42, 43, 44, 45, 46, 47, 48, 49, 50, 51] (by decide +kernel) (by decide +kernel)
set_option maxRecDepth 20000 in
theorem gX0_layMend_X0_layGetters : GoodIn wsX0_layMend (wsV RX0 166 RX0 yX0_layGetters wsX0_layGetters) := goodIn_app (goodIn_of _ (by decide +kernel)) ggX0_layMend_X0_layGetters
set_option maxRecDepth 20000 in
theorem ggX0_layMend_X0_judgeMend : GoodIn wsX0_layMend wsX0_judgeMend := goodIn_r _ [13, 14, 15, 16, 17, 6, 18, 19, 20, 21, 22, 23, 24, 4, 25, 26, 27, 28, 29, 30, 1, 2, 3, 5, 40, 41, 42, 43, 44, 45, 46, 47, 48, 49, 50, 51] (by decide +kernel) (by decide +kernel)
set_option maxRecDepth 20000 in
theorem gX0_layMend_X0_judgeMend : GoodIn wsX0_layMend (wsV RX0 169 RX0 yX0_judgeMend wsX0_judgeMend) := goodIn_app (goodIn_of _ (by decide +kernel)) ggX0_layMend_X0_judgeMend
theorem dX0_layMend_0 : decode cX0_layMend 0 = .ok (.iload_n 1, 1) := by decide +kernel
theorem dX0_layMend_1 : decode cX0_layMend 1 = .ok (.iload_n 2, 1) := by decide +kernel
theorem dX0_layMend_2 : decode cX0_layMend 2 = .ok (.if_icmp .ne 9, 3) := by decide +kernel
theorem dX0_layMend_5 : decode cX0_layMend 5 = .ok (.iload_n 1, 1) := by decide +kernel
theorem dX0_layMend_6 : decode cX0_layMend 6 = .ok (.iconst 1, 1) := by decide +kernel
theorem dX0_layMend_7 : decode cX0_layMend 7 = .ok (.iadd, 1) := by decide +kernel
theorem dX0_layMend_8 : decode cX0_layMend 8 = .ok (.goto 4, 3) := by decide +kernel
theorem dX0_layMend_11 : decode cX0_layMend 11 = .ok (.iload_n 1, 1) := by decide +kernel
theorem dX0_layMend_12 : decode cX0_layMend 12 = .ok (.istore 5, 2) := by decide +kernel
theorem dX0_layMend_14 : decode cX0_layMend 14 = .ok (.aload_n 0, 1) := by decide +kernel
theorem dX0_layMend_15 : decode cX0_layMend 15 = .ok (.iload 5, 2) := by decide +kernel
theorem dX0_layMend_17 : decode cX0_layMend 17 = .ok (.invokevirtual 66, 3) := by decide +kernel
theorem dX0_layMend_20 : decode cX0_layMend 20 = .ok (.ifCond .eq 16, 3) := by decide +kernel
theorem dX0_layMend_23 : decode cX0_layMend 23 = .ok (.aload_n 0, 1) := by decide +kernel
theorem dX0_layMend_24 : decode cX0_layMend 24 = .ok (.iload 5, 2) := by decide +kernel
theorem dX0_layMend_26 : decode cX0_layMend 26 = .ok (.iload_n 2, 1) := by decide +kernel
theorem dX0_layMend_27 : decode cX0_layMend 27 = .ok (.iload_n 3, 1) := by decide +kernel
theorem dX0_layMend_28 : decode cX0_layMend 28 = .ok (.iload 4, 2) := by decide +kernel
theorem dX0_layMend_30 : decode cX0_layMend 30 = .ok (.invokevirtual 166, 3) := by decide +kernel
theorem dX0_layMend_33 : decode cX0_layMend 33 = .ok (.goto 10, 3) := by decide +kernel
theorem dX0_layMend_36 : decode cX0_layMend 36 = .ok (.aload_n 0, 1) := by decide +kernel
theorem dX0_layMend_37 : decode cX0_layMend 37 = .ok (.iload_n 2, 1) := by decide +kernel
theorem dX0_layMend_38 : decode cX0_layMend 38 = .ok (.iload 4, 2) := by decide +kernel
theorem dX0_layMend_40 : decode cX0_layMend 40 = .ok (.invokevirtual 169, 3) := by decide +kernel
theorem dX0_layMend_43 : decode cX0_layMend 43 = .ok (.return_, 1) := by decide +kernel
set_option maxHeartbeats 4000000 in
set_option maxRecDepth 100000 in
theorem c_X0_layMend_r (N : Nat) (l : Launch) (dC : Nat → ClassId) (dI : Nat → Nat → Nat) (cy : ClassId) (h q2 q3 q4 q5 q6 q7 q8 q9 : Nat) (c0 : Int32) (c1 : Int32) (c2 : Nat → Int32) (c3 : Nat → Int32) (c4 : Nat → Int32) (c5 : Nat → Int32) (c6 : Nat → Int32) (c7 : Nat → Int32) : ∀ (nd : Nat), ∀ (sz : Nat) (c8 : Nat → Int32) (c9 : Nat → Int32) (c10 : Int32) (c11 : Int32) (a1 a2 a3 a4 : Int32) (res : (Nat → Int32) × (Nat → Int32) × Int32 × Int32) (hf : f_X0_layMend_r N c0 c1 c2 c3 nd a1 a2 a3 a4 c8 c9 c10 c11 = some res), Met l yX0_layMend wsX0_layMend (rm_X0_layMend nd) (va_Pc [.ref h, .int a1, .int a2, .int a3, .int a4] (fun U => U.heap.size = sz ∧ va_P (dC, dI) vwCl (wX0 cy h q2 q3 q4 q5 q6 q7 q8 q9 c0 c1 c2 c3 c4 c5 c6 c7 c8 c9 c10 c11) U.heap ∧ va_K (dC, dI) vwCl [(cy, .int)] U ∧ va_D (fun _ => True) (wX0 cy h q2 q3 q4 q5 q6 q7 q8 q9 c0 c1 c2 c3 c4 c5 c6 c7 c8 c9 c10 c11))) (z_qV dC dI cy (wX0 cy h q2 q3 q4 q5 q6 q7 q8 q9 c0 c1 c2 c3 c4 c5 c6 c7 res.1 res.2.1 res.2.2.1 res.2.2.2) (va_A (wX0 cy h q2 q3 q4 q5 q6 q7 q8 q9 c0 c1 c2 c3 c4 c5 c6 c7 c8 c9 c10 c11) sz)) 0 0 (va_A (wX0 cy h q2 q3 q4 q5 q6 q7 q8 q9 c0 c1 c2 c3 c4 c5 c6 c7 c8 c9 c10 c11) sz) := by
  intro nd
  induction nd with
  | zero =>
    intro sz c8 c9 c10 c11 a1 a2 a3 a4 res hf
    rw [f_X0_layMend_r] at hf
    cases hf
  | succ nd hself =>
    intro sz c8 c9 c10 c11 a1 a2 a3 a4 res hf
    rw [f_X0_layMend_r] at hf
    generalize hrs : f_X0_layMend_r N c0 c1 c2 c3 nd = rs at hf hself
    refine Met.ofW (cc := cX0_layMend) (maxL := 6) (ret := none) (by decide) rfl ?_
    intro p e s m args below meth c s₁ B hml hv
    obtain ⟨rfl, hsz, hP, hK, hD0⟩ := hv
    have hx := B.exec
    have hb := B.bytes
    have hr := B.returns
    have hts := atoms_spec (ws := wsX0_layMend) B.pre
    have hown : s.vm.findClass RX0 = some m.cls := findClass_of_methodNamed B.named
    have hlocks := B.notSynchronized
    subst hsz
    have hD := hD0.self (sz := s.heap.size)
    generalize hAe : va_A (wX0 cy h q2 q3 q4 q5 q6 q7 q8 q9 c0 c1 c2 c3 c4 c5 c6 c7 c8 c9 c10 c11) s.heap.size = A at hD ⊢
    have hA : ∀ q : Nat, s.heap.size ≤ q → A q := fun q h => by rw [← hAe]; exact Or.inr h
    have hS : va_S A s.heap s.heap [] := va_S.rf
    have hP : va_P (dC, dI) vwCl (wX0 cy h q2 q3 q4 q5 q6 q7 q8 q9 c0 c1 c2 c3 c4 c5 c6 c7 c8 c9 c10 c11) s.heap := hP
    have hl := lv_entry ([.ref h, .int a1, .int a2, .int a3, .int a4]) (n := 6) (Nat.le_of_ble_eq_true rfl)
    rw [lg_entry_eq]
    generalize (lg_sl ([.ref h, .int a1, .int a2, .int a3, .int a4]) ++ List.replicate (6 - (lg_sl ([.ref h, .int a1, .int a2, .int a3, .int a4])).length) Slot.unset).toArray = ls at hl ⊢
    have hl : lv_has ls 6 [(0, .ref h), (1, .int a1), (2, .int a2), (3, .int a3), (4, .int a4)] := hl
    have B12 : ∀ (x2 x3 x4 t0 : Int32) (c8 : Nat → Int32) (c9 : Nat → Int32) (c10 : Int32) (c11 : Int32) (H : Heap) (locs : List Loc) (ls : Array Slot), f_X0_layMend_b12 N c0 c1 c2 c3 rs x2 x3 x4 t0 c8 c9 c10 c11 = some res → va_P (dC, dI) vwCl (wX0 cy h q2 q3 q4 q5 q6 q7 q8 q9 c0 c1 c2 c3 c4 c5 c6 c7 c8 c9 c10 c11) H → va_D A (wX0 cy h q2 q3 q4 q5 q6 q7 q8 q9 c0 c1 c2 c3 c4 c5 c6 c7 c8 c9 c10 c11) → va_S A s.heap H locs → lv_has ls 6 [(0, .ref h), (2, .int x2), (3, .int x3), (4, .int x4)] → W p l e (rm_X0_layMend (nd + 1)) s m ([.ref h, .int a1, .int a2, .int a3, .int a4] : List Value).toArray below meth c H locs 0 0 (MQ below (z_qV dC dI cy (wX0 cy h q2 q3 q4 q5 q6 q7 q8 q9 c0 c1 c2 c3 c4 c5 c6 c7 res.1 res.2.1 res.2.2.1 res.2.2.2) A) ([.ref h, .int a1, .int a2, .int a3, .int a4] : List Value).toArray s 0 0 A) (F0 m 12 ls [.int t0]) := by
      clear hf hl hP hD hS
      intro x2 x3 x4 t0 c8 c9 c10 c11 H locs ls hf hP hD hS hl
      unfold f_X0_layMend_b12 at hf
      refine lv_istore (lv' := [(5, .int t0), (0, .ref h), (2, .int x2), (3, .int x3), (4, .int x4)]) hx hb dX0_layMend_12 hl (by decide) rfl (fun ls hl => ?_)
      refine lv_aload_n hx hb dX0_layMend_14 rfl (lv_at hl 1 rfl) ?_
      refine lv_iload hx hb dX0_layMend_15 (lv_at hl 0 rfl) ?_
      obtain ⟨u17, hu17, hf⟩ := z_ob_some hf
      have hPc := hP.sub (ws' := (wX0 cy h q2 q3 q4 q5 q6 q7 q8 q9 c0 c1 c2 c3 c4 c5 c6 c7 c8 c9 c10 c11)) [0, 1, 2, 3, 4, 5, 6, 7, 8] rfl
      have hDc := hD.sub (ws' := (wX0 cy h q2 q3 q4 q5 q6 q7 q8 q9 c0 c1 c2 c3 c4 c5 c6 c7 c8 c9 c10 c11)) [0, 1, 2, 3, 4, 5, 6, 7, 8] (by decide) rfl
      have hKc := hK.sub (tys' := [(cy, .int)]) [0] rfl
      have hFc := va_free (wc := (wX0 cy h q2 q3 q4 q5 q6 q7 q8 q9 c0 c1 c2 c3 c4 c5 c6 c7 c8 c9 c10 c11)) hD hS hA [0, 1, 2, 3, 4, 5, 6, 7, 8] rfl
      refine va_calli (va_runV (As := [.int t0]) (rest := []) ⟨hx, hb, hml, hown, hts⟩ (c_X0_isOne N l dC dI cy h q2 q3 q4 q5 q6 q7 q8 q9 H.size c0 c1 c2 c3 c4 c5 c6 c7 c8 c9 c10 c11 t0 u17 hu17) (cwV 1 hts gX0_layMend_X0_isOne rfl rfl rfl (by decide +kernel) ⟨(show (0) + 1 ≤ 4 + 2 * (nd + 1) by omega), (show 8 + (2 + 11) + (0) ≤ 89 + 52 * (nd + 1) by omega)⟩) ⟨fun a U g mk q => by obtain ⟨q0, q1, qP, qK, qD⟩ := q; exact ⟨q0, q1, qP, va_K.moved (u := U) (U := U.calling g mk a) (Vm.Alike.refl U.vm) qK, qD⟩, va_recv hKc hPc (ci := 0) (q0 := 0) rfl rfl, fun U hU hW => ⟨rfl, by rw [hU], by rw [hU]; exact hPc, va_K.moved hW.alike hKc, hDc.weaken (fun _ _ _ _ => trivial)⟩⟩ rfl rfl hl.1 rfl (lv_room (Nat.le_of_ble_eq_true rfl)) dX0_layMend_17 ⟨Nat.zero_le _, Nat.zero_le _⟩) hS (fun q _ h => hFc q h) hFc (fun r_17 uu_ t H1 locs ht hvm hw hB hz1 hk1 hS => ?_)
      replace hw := hw.symm
      subst hw
      obtain ⟨hP1, -, hD1⟩ := hB
      rw [ht] at hP1
      obtain ⟨hP, hD⟩ := va_join (wr := []) (w1 := (wX0 cy h q2 q3 q4 q5 q6 q7 q8 q9 c0 c1 c2 c3 c4 c5 c6 c7 c8 c9 c10 c11)) hP hD [0, 1, 2, 3, 4, 5, 6, 7, 8] [] rfl rfl (by decide) (by decide) hk1 hFc hP1 hD1
      clear hk1 hz1 hP1 hD1 ht hPc hDc hFc
      generalize H1 = H at hP hS ⊢
      have hP : va_P (dC, dI) vwCl (wX0 cy h q2 q3 q4 q5 q6 q7 q8 q9 c0 c1 c2 c3 c4 c5 c6 c7 c8 c9 c10 c11) H := hP
      have hD : va_D A (wX0 cy h q2 q3 q4 q5 q6 q7 q8 q9 c0 c1 c2 c3 c4 c5 c6 c7 c8 c9 c10 c11) := hD
      refine lv_if_eq (tgt := 36) hx hb dX0_layMend_20 (by decide) (fun c_20 => ?_) (fun c_20 => ?_)
      · replace hf := (if_pos c_20).symm.trans hf
        refine lv_aload_n hx hb dX0_layMend_36 rfl (lv_at hl 1 rfl) ?_
        refine lv_iload_n hx hb dX0_layMend_37 rfl (lv_at hl 2 rfl) ?_
        refine lv_iload hx hb dX0_layMend_38 (lv_at hl 4 rfl) ?_
        obtain ⟨u40, hu40, hf⟩ := z_ob_some hf
        have hPc := hP.sub (ws' := (wX0 cy h q2 q3 q4 q5 q6 q7 q8 q9 c0 c1 c2 c3 c4 c5 c6 c7 c8 c9 c10 c11)) [0, 1, 2, 3, 4, 5, 6, 7, 8] rfl
        have hDc := hD.sub (ws' := (wX0 cy h q2 q3 q4 q5 q6 q7 q8 q9 c0 c1 c2 c3 c4 c5 c6 c7 c8 c9 c10 c11)) [0, 1, 2, 3, 4, 5, 6, 7, 8] (by decide) rfl
        have hKc := hK.sub (tys' := [(cy, .int)]) [0] rfl
        have hFc := va_free (wc := (wX0 cy h q2 q3 q4 q5 q6 q7 q8 q9 c0 c1 c2 c3 c4 c5 c6 c7 c8 c9 c10 c11)) hD hS hA [0, 1, 2, 3, 4, 5, 6, 7, 8] rfl
        refine va_callv (va_runV (As := [.int x2, .int x4]) (rest := []) ⟨hx, hb, hml, hown, hts⟩ (c_X0_judgeMend N l dC dI cy h q2 q3 q4 q5 q6 q7 q8 q9 H.size c0 c1 c2 c3 c4 c5 c6 c7 c8 c9 c10 c11 x2 x4 u40 hu40) (cwV 2 hts gX0_layMend_X0_judgeMend rfl rfl rfl (by decide +kernel) ⟨(show (3) + 1 ≤ 4 + 2 * (nd + 1) by omega), (show 8 + (3 + 11) + (67) ≤ 89 + 52 * (nd + 1) by omega)⟩) ⟨fun a U g mk q => by obtain ⟨q0, q1, qP, qK, qD⟩ := q; exact ⟨q0, q1, qP, va_K.moved (u := U) (U := U.calling g mk a) (Vm.Alike.refl U.vm) qK, qD⟩, va_recv hKc hPc (ci := 0) (q0 := 0) rfl rfl, fun U hU hW => ⟨rfl, by rw [hU], by rw [hU]; exact hPc, va_K.moved hW.alike hKc, hDc.weaken (fun _ _ _ _ => trivial)⟩⟩ rfl rfl hl.1 rfl (lv_room (Nat.le_of_ble_eq_true rfl)) dX0_layMend_40 ⟨Nat.zero_le _, Nat.zero_le _⟩) hS (fun q _ h => hFc q h) hFc (fun uu_ t H1 locs ht hvm hw hB hz1 hk1 hS => ?_)
        obtain ⟨hP1, -, hD1⟩ := hB
        rw [ht] at hP1
        obtain ⟨hP, hD⟩ := va_join (wr := []) (w1 := (wX0 cy h q2 q3 q4 q5 q6 q7 q8 q9 c0 c1 c2 c3 c4 c5 c6 c7 c8 u40.1 u40.2.1 u40.2.2)) hP hD [0, 1, 2, 3, 4, 5, 6, 7, 8] [] rfl rfl (by decide) (by decide) hk1 hFc hP1 hD1
        clear hk1 hz1 hP1 hD1 ht hPc hDc hFc
        generalize H1 = H at hP hS ⊢
        have hP : va_P (dC, dI) vwCl (wX0 cy h q2 q3 q4 q5 q6 q7 q8 q9 c0 c1 c2 c3 c4 c5 c6 c7 c8 u40.1 u40.2.1 u40.2.2) H := hP
        have hD : va_D A (wX0 cy h q2 q3 q4 q5 q6 q7 q8 q9 c0 c1 c2 c3 c4 c5 c6 c7 c8 u40.1 u40.2.1 u40.2.2) := hD
        have hres := Option.some.inj hf
        subst hres
        have hP9 := hP.sub (ws' := (wX0 cy h q2 q3 q4 q5 q6 q7 q8 q9 c0 c1 c2 c3 c4 c5 c6 c7 c8 u40.1 u40.2.1 u40.2.2)) [0, 1, 2, 3, 4, 5, 6, 7, 8] rfl
        have hD9 := hD.sub (ws' := (wX0 cy h q2 q3 q4 q5 q6 q7 q8 q9 c0 c1 c2 c3 c4 c5 c6 c7 c8 u40.1 u40.2.1 u40.2.2)) [0, 1, 2, 3, 4, 5, 6, 7, 8] (by decide) rfl
        have hK9 := hK.sub (tys' := [(cy, .int)]) [0] rfl
        exact W.vret hx hb hr (fun t ht hW => ⟨⟨(), rfl, trivial, by rw [ht]; exact hP9, va_K.moved hW.alike hK9, hD9⟩, hS.F ht⟩) hS.2.2 dX0_layMend_43
      · replace hf := (if_neg c_20).symm.trans hf
        refine lv_aload_n hx hb dX0_layMend_23 rfl (lv_at hl 1 rfl) ?_
        refine lv_iload hx hb dX0_layMend_24 (lv_at hl 0 rfl) ?_
        refine lv_iload_n hx hb dX0_layMend_26 rfl (lv_at hl 2 rfl) ?_
        refine lv_iload_n hx hb dX0_layMend_27 rfl (lv_at hl 3 rfl) ?_
        refine lv_iload hx hb dX0_layMend_28 (lv_at hl 4 rfl) ?_
        obtain ⟨u30, hu30, hf⟩ := z_ob_some hf
        have hPc := hP.sub (ws' := (wX0 cy h q2 q3 q4 q5 q6 q7 q8 q9 c0 c1 c2 c3 c4 c5 c6 c7 c8 c9 c10 c11)) [0, 1, 2, 3, 4, 5, 6, 7, 8] rfl
        have hDc := hD.sub (ws' := (wX0 cy h q2 q3 q4 q5 q6 q7 q8 q9 c0 c1 c2 c3 c4 c5 c6 c7 c8 c9 c10 c11)) [0, 1, 2, 3, 4, 5, 6, 7, 8] (by decide) rfl
        have hKc := hK.sub (tys' := [(cy, .int)]) [0] rfl
        have hFc := va_free (wc := (wX0 cy h q2 q3 q4 q5 q6 q7 q8 q9 c0 c1 c2 c3 c4 c5 c6 c7 c8 c9 c10 c11)) hD hS hA [0, 1, 2, 3, 4, 5, 6, 7, 8] rfl
        refine va_callv (va_runV (As := [.int t0, .int x2, .int x3, .int x4]) (rest := []) ⟨hx, hb, hml, hown, hts⟩ (c_X0_layGetters_g N l dC dI cy h q2 q3 q4 q5 q6 q7 q8 q9 c0 c1 c2 c3 c4 c5 c6 c7 rs nd hself H.size c8 c9 c10 c11 t0 x2 x3 x4 u30 hu30) (cwV 4 hts gX0_layMend_X0_layGetters rfl rfl rfl (by decide +kernel) ⟨(show (4 + 2 * nd + 1) + 1 ≤ 4 + 2 * (nd + 1) by omega), (show 8 + (8 + 11) + (89 + 52 * nd + 25) ≤ 89 + 52 * (nd + 1) by omega)⟩) ⟨fun a U g mk q => by obtain ⟨q0, q1, qP, qK, qD⟩ := q; exact ⟨q0, q1, qP, va_K.moved (u := U) (U := U.calling g mk a) (Vm.Alike.refl U.vm) qK, qD⟩, va_recv hKc hPc (ci := 0) (q0 := 0) rfl rfl, fun U hU hW => ⟨rfl, by rw [hU], by rw [hU]; exact hPc, va_K.moved hW.alike hKc, hDc.weaken (fun _ _ _ _ => trivial)⟩⟩ rfl rfl hl.1 rfl (lv_room (Nat.le_of_ble_eq_true rfl)) dX0_layMend_30 ⟨Nat.zero_le _, Nat.zero_le _⟩) hS (fun q _ h => hFc q h) hFc (fun uu_ t H1 locs ht hvm hw hB hz1 hk1 hS => ?_)
        obtain ⟨hP1, -, hD1⟩ := hB
        rw [ht] at hP1
        obtain ⟨hP, hD⟩ := va_join (wr := []) (w1 := (wX0 cy h q2 q3 q4 q5 q6 q7 q8 q9 c0 c1 c2 c3 c4 c5 c6 c7 u30.1 u30.2.1 u30.2.2.1 u30.2.2.2)) hP hD [0, 1, 2, 3, 4, 5, 6, 7, 8] [] rfl rfl (by decide) (by decide) hk1 hFc hP1 hD1
        clear hk1 hz1 hP1 hD1 ht hPc hDc hFc
        generalize H1 = H at hP hS ⊢
        have hP : va_P (dC, dI) vwCl (wX0 cy h q2 q3 q4 q5 q6 q7 q8 q9 c0 c1 c2 c3 c4 c5 c6 c7 u30.1 u30.2.1 u30.2.2.1 u30.2.2.2) H := hP
        have hD : va_D A (wX0 cy h q2 q3 q4 q5 q6 q7 q8 q9 c0 c1 c2 c3 c4 c5 c6 c7 u30.1 u30.2.1 u30.2.2.1 u30.2.2.2) := hD
        refine lv_goto (tgt := 43) hx hb dX0_layMend_33 (by decide) ?_
        have hres := Option.some.inj hf
        subst hres
        have hP9 := hP.sub (ws' := (wX0 cy h q2 q3 q4 q5 q6 q7 q8 q9 c0 c1 c2 c3 c4 c5 c6 c7 u30.1 u30.2.1 u30.2.2.1 u30.2.2.2)) [0, 1, 2, 3, 4, 5, 6, 7, 8] rfl
        have hD9 := hD.sub (ws' := (wX0 cy h q2 q3 q4 q5 q6 q7 q8 q9 c0 c1 c2 c3 c4 c5 c6 c7 u30.1 u30.2.1 u30.2.2.1 u30.2.2.2)) [0, 1, 2, 3, 4, 5, 6, 7, 8] (by decide) rfl
        have hK9 := hK.sub (tys' := [(cy, .int)]) [0] rfl
        exact W.vret hx hb hr (fun t ht hW => ⟨⟨(), rfl, trivial, by rw [ht]; exact hP9, va_K.moved hW.alike hK9, hD9⟩, hS.F ht⟩) hS.2.2 dX0_layMend_43
    refine lv_iload_n hx hb dX0_layMend_0 rfl (lv_at hl 1 rfl) ?_
    refine lv_iload_n hx hb dX0_layMend_1 rfl (lv_at hl 2 rfl) ?_
    refine lv_icmp_ne (tgt := 11) hx hb dX0_layMend_2 (by decide) (fun c_2 => ?_) (fun c_2 => ?_)
    · replace hf := (if_neg c_2).symm.trans hf
      refine lv_iload_n hx hb dX0_layMend_11 rfl (lv_at hl 1 rfl) ?_
      exact B12 a2 a3 a4 a1 c8 c9 c10 c11 _ _ _ hf hP hD hS (lv_sub hl [0, 2, 3, 4] rfl)
    · replace hf := (if_pos c_2).symm.trans hf
      refine lv_iload_n hx hb dX0_layMend_5 rfl (lv_at hl 1 rfl) ?_
      refine lv_iconst (v := (1 : Int32)) hx hb dX0_layMend_6 (by decide) ?_
      refine lv_iadd hx hb dX0_layMend_7 ?_
      refine lv_goto (tgt := 12) hx hb dX0_layMend_8 (by decide) ?_
      exact B12 a2 a3 a4 (a1 + (1 : Int32)) c8 c9 c10 c11 _ _ _ hf hP hD hS (lv_sub hl [0, 2, 3, 4] rfl)

set_option maxRecDepth 20000 in
theorem ggX0_findMends_X0_layMend : GoodIn wsX0_findMends wsX0_layMend := goodIn_r _ [7, 8, 9, 10, 6, 11, 12, 13, 14, 15, 16, 17, 18, 19, 2, 1, 20, 21, 22, 23, 24, 25, 26, 27, 28, 29, 30, 31, 32, 33, 34, 35, 36, 37, 38, 39, 40, 3, 4, 5, 41, 42, 43, 44, 45, 46, 47, 48, 49, 50, 51, 52] (by decide +kernel) (by decide +kernel)
set_option maxRecDepth 20000 in
theorem gX0_findMends_X0_layMend : GoodIn wsX0_findMends (wsV RX0 162 RX0 yX0_layMend wsX0_layMend) := goodIn_app (goodIn_of _ (by decide +kernel)) ggX0_findMends_X0_layMend
theorem dX0_findMends_0 : decode cX0_findMends 0 = .ok (.aload_n 0, 1) := by decide +kernel
theorem dX0_findMends_1 : decode cX0_findMends 1 = .ok (.bipush 8, 2) := by decide +kernel
theorem dX0_findMends_3 : decode cX0_findMends 3 = .ok (.putfield 131, 3) := by decide +kernel
theorem dX0_findMends_6 : decode cX0_findMends 6 = .ok (.aload_n 0, 1) := by decide +kernel
theorem dX0_findMends_7 : decode cX0_findMends 7 = .ok (.iconst 0, 1) := by decide +kernel
theorem dX0_findMends_8 : decode cX0_findMends 8 = .ok (.putfield 128, 3) := by decide +kernel
theorem dX0_findMends_11 : decode cX0_findMends 11 = .ok (.aload_n 0, 1) := by decide +kernel
theorem dX0_findMends_12 : decode cX0_findMends 12 = .ok (.iconst 0, 1) := by decide +kernel
theorem dX0_findMends_13 : decode cX0_findMends 13 = .ok (.iload_n 1, 1) := by decide +kernel
theorem dX0_findMends_14 : decode cX0_findMends 14 = .ok (.iconst 0, 1) := by decide +kernel
theorem dX0_findMends_15 : decode cX0_findMends 15 = .ok (.iconst 0, 1) := by decide +kernel
theorem dX0_findMends_16 : decode cX0_findMends 16 = .ok (.invokevirtual 162, 3) := by decide +kernel
theorem dX0_findMends_19 : decode cX0_findMends 19 = .ok (.return_, 1) := by decide +kernel
abbrev rm_X0_findMends : Room := { frames := 25, cells := 0, slots := 0, locals := 634 }
set_option maxHeartbeats 4000000 in
set_option maxRecDepth 100000 in
theorem c_X0_findMends (N : Nat) (l : Launch) (dC : Nat → ClassId) (dI : Nat → Nat → Nat) (cy : ClassId) (h q2 q3 q4 q5 q6 q7 q8 q9 : Nat) (sz : Nat) (c0 : Int32) (c1 : Int32) (c2 : Nat → Int32) (c3 : Nat → Int32) (c4 : Nat → Int32) (c5 : Nat → Int32) (c6 : Nat → Int32) (c7 : Nat → Int32) (c8 : Nat → Int32) (c9 : Nat → Int32) (c10 : Int32) (c11 : Int32) (a1 : Int32) (res : (Nat → Int32) × (Nat → Int32) × Int32 × Int32) (hf : f_X0_findMends N a1 c0 c1 c2 c3 c8 c9 c10 c11 = some res) : Met l yX0_findMends wsX0_findMends rm_X0_findMends (va_Pc [.ref h, .int a1] (fun U => U.heap.size = sz ∧ va_P (dC, dI) vwCl (wX0 cy h q2 q3 q4 q5 q6 q7 q8 q9 c0 c1 c2 c3 c4 c5 c6 c7 c8 c9 c10 c11) U.heap ∧ va_K (dC, dI) vwCl [(cy, .int)] U ∧ va_D (fun _ => True) (wX0 cy h q2 q3 q4 q5 q6 q7 q8 q9 c0 c1 c2 c3 c4 c5 c6 c7 c8 c9 c10 c11))) (z_qV dC dI cy (wX0 cy h q2 q3 q4 q5 q6 q7 q8 q9 c0 c1 c2 c3 c4 c5 c6 c7 res.1 res.2.1 res.2.2.1 res.2.2.2) (va_A (wX0 cy h q2 q3 q4 q5 q6 q7 q8 q9 c0 c1 c2 c3 c4 c5 c6 c7 c8 c9 c10 c11) sz)) 0 0 (va_A (wX0 cy h q2 q3 q4 q5 q6 q7 q8 q9 c0 c1 c2 c3 c4 c5 c6 c7 c8 c9 c10 c11) sz) := by
  refine Met.ofW (cc := cX0_findMends) (maxL := 2) (ret := none) (by decide) rfl ?_
  intro p e s m args below meth c s₁ B hml hv
  obtain ⟨rfl, hsz, hP, hK, hD0⟩ := hv
  have hx := B.exec
  have hb := B.bytes
  have hr := B.returns
  have hts := atoms_spec (ws := wsX0_findMends) B.pre
  have hown : s.vm.findClass RX0 = some m.cls := findClass_of_methodNamed B.named
  have hlocks := B.notSynchronized
  subst hsz
  have hD := hD0.self (sz := s.heap.size)
  generalize hAe : va_A (wX0 cy h q2 q3 q4 q5 q6 q7 q8 q9 c0 c1 c2 c3 c4 c5 c6 c7 c8 c9 c10 c11) s.heap.size = A at hD ⊢
  have hA : ∀ q : Nat, s.heap.size ≤ q → A q := fun q h => by rw [← hAe]; exact Or.inr h
  have hS : va_S A s.heap s.heap [] := va_S.rf
  have hP : va_P (dC, dI) vwCl (wX0 cy h q2 q3 q4 q5 q6 q7 q8 q9 c0 c1 c2 c3 c4 c5 c6 c7 c8 c9 c10 c11) s.heap := hP
  have hl := lv_entry ([.ref h, .int a1]) (n := 2) (Nat.le_of_ble_eq_true rfl)
  rw [lg_entry_eq]
  generalize (lg_sl ([.ref h, .int a1]) ++ List.replicate (2 - (lg_sl ([.ref h, .int a1])).length) Slot.unset).toArray = ls at hl ⊢
  have hl : lv_has ls 2 [(0, .ref h), (1, .int a1)] := hl
  unfold f_X0_findMends at hf
  refine lv_aload_n hx hb dX0_findMends_0 rfl (lv_at hl 0 rfl) ?_
  refine lv_bipush (v := (8 : Int32)) hx hb dX0_findMends_1 (by decide) ?_
  refine va_put (D := (dC, dI)) (ci := 0) (v := .int (8 : Int32)) (ty := .int) (C := RX0) (T := TX0) (N := 12) hx hb hts (by decide +kernel) tyX0 tyX0_ok nmX0 hown hK hP hD hS 0 rfl rfl 10 (by decide) (hts (.fieldLink RX0 131 "GiftLots" "fewestChanges" "I") (by decide +kernel)) (fun _ h9 => h9) rfl (by decide +kernel) rfl rfl (Nat.le_of_ble_eq_true rfl) dX0_findMends_3 (fun H locs hP hD hS => ?_)
  have hP : va_P (dC, dI) vwCl (wX0 cy h q2 q3 q4 q5 q6 q7 q8 q9 c0 c1 c2 c3 c4 c5 c6 c7 c8 c9 (8 : Int32) c11) H := hP
  have hD : va_D A (wX0 cy h q2 q3 q4 q5 q6 q7 q8 q9 c0 c1 c2 c3 c4 c5 c6 c7 c8 c9 (8 : Int32) c11) := hD
  refine lv_aload_n hx hb dX0_findMends_6 rfl (lv_at hl 0 rfl) ?_
  refine lv_iconst (v := (0 : Int32)) hx hb dX0_findMends_7 (by decide) ?_
  refine va_put (D := (dC, dI)) (ci := 0) (v := .int (0 : Int32)) (ty := .int) (C := RX0) (T := TX0) (N := 12) hx hb hts (by decide +kernel) tyX0 tyX0_ok nmX0 hown hK hP hD hS 0 rfl rfl 11 (by decide) (hts (.fieldLink RX0 128 "GiftLots" "mendsFound" "I") (by decide +kernel)) (fun _ h9 => h9) rfl (by decide +kernel) rfl rfl (Nat.le_of_ble_eq_true rfl) dX0_findMends_8 (fun H locs hP hD hS => ?_)
  have hP : va_P (dC, dI) vwCl (wX0 cy h q2 q3 q4 q5 q6 q7 q8 q9 c0 c1 c2 c3 c4 c5 c6 c7 c8 c9 (8 : Int32) (0 : Int32)) H := hP
  have hD : va_D A (wX0 cy h q2 q3 q4 q5 q6 q7 q8 q9 c0 c1 c2 c3 c4 c5 c6 c7 c8 c9 (8 : Int32) (0 : Int32)) := hD
  refine lv_aload_n hx hb dX0_findMends_11 rfl (lv_at hl 0 rfl) ?_
  refine lv_iconst (v := (0 : Int32)) hx hb dX0_findMends_12 (by decide) ?_
  refine lv_iload_n hx hb dX0_findMends_13 rfl (lv_at hl 1 rfl) ?_
  refine lv_iconst (v := (0 : Int32)) hx hb dX0_findMends_14 (by decide) ?_
  refine lv_iconst (v := (0 : Int32)) hx hb dX0_findMends_15 (by decide) ?_
  obtain ⟨u16, hu16, hf⟩ := z_ob_some hf
  have hPc := hP.sub (ws' := (wX0 cy h q2 q3 q4 q5 q6 q7 q8 q9 c0 c1 c2 c3 c4 c5 c6 c7 c8 c9 (8 : Int32) (0 : Int32))) [0, 1, 2, 3, 4, 5, 6, 7, 8] rfl
  have hDc := hD.sub (ws' := (wX0 cy h q2 q3 q4 q5 q6 q7 q8 q9 c0 c1 c2 c3 c4 c5 c6 c7 c8 c9 (8 : Int32) (0 : Int32))) [0, 1, 2, 3, 4, 5, 6, 7, 8] (by decide) rfl
  have hKc := hK.sub (tys' := [(cy, .int)]) [0] rfl
  have hFc := va_free (wc := (wX0 cy h q2 q3 q4 q5 q6 q7 q8 q9 c0 c1 c2 c3 c4 c5 c6 c7 c8 c9 (8 : Int32) (0 : Int32))) hD hS hA [0, 1, 2, 3, 4, 5, 6, 7, 8] rfl
  refine va_callv (va_runV (As := [.int (0 : Int32), .int a1, .int (0 : Int32), .int (0 : Int32)]) (rest := []) ⟨hx, hb, hml, hown, hts⟩ (c_X0_layMend_r N l dC dI cy h q2 q3 q4 q5 q6 q7 q8 q9 c0 c1 c2 c3 c4 c5 c6 c7 10 H.size c8 c9 (8 : Int32) (0 : Int32) (0 : Int32) a1 (0 : Int32) (0 : Int32) u16 hu16) (cwV 4 hts gX0_findMends_X0_layMend rfl rfl rfl (by decide +kernel) ⟨Nat.le_of_ble_eq_true rfl, Nat.le_of_ble_eq_true rfl⟩) ⟨fun a U g mk q => by obtain ⟨q0, q1, qP, qK, qD⟩ := q; exact ⟨q0, q1, qP, va_K.moved (u := U) (U := U.calling g mk a) (Vm.Alike.refl U.vm) qK, qD⟩, va_recv hKc hPc (ci := 0) (q0 := 0) rfl rfl, fun U hU hW => ⟨rfl, by rw [hU], by rw [hU]; exact hPc, va_K.moved hW.alike hKc, hDc.weaken (fun _ _ _ _ => trivial)⟩⟩ rfl rfl hl.1 rfl (lv_room (Nat.le_of_ble_eq_true rfl)) dX0_findMends_16 ⟨Nat.zero_le _, Nat.zero_le _⟩) hS (fun q _ h => hFc q h) hFc (fun uu_ t H1 locs ht hvm hw hB hz1 hk1 hS => ?_)
  obtain ⟨hP1, -, hD1⟩ := hB
  rw [ht] at hP1
  obtain ⟨hP, hD⟩ := va_join (wr := []) (w1 := (wX0 cy h q2 q3 q4 q5 q6 q7 q8 q9 c0 c1 c2 c3 c4 c5 c6 c7 u16.1 u16.2.1 u16.2.2.1 u16.2.2.2)) hP hD [0, 1, 2, 3, 4, 5, 6, 7, 8] [] rfl rfl (by decide) (by decide) hk1 hFc hP1 hD1
  clear hk1 hz1 hP1 hD1 ht hPc hDc hFc
  generalize H1 = H at hP hS ⊢
  have hP : va_P (dC, dI) vwCl (wX0 cy h q2 q3 q4 q5 q6 q7 q8 q9 c0 c1 c2 c3 c4 c5 c6 c7 u16.1 u16.2.1 u16.2.2.1 u16.2.2.2) H := hP
  have hD : va_D A (wX0 cy h q2 q3 q4 q5 q6 q7 q8 q9 c0 c1 c2 c3 c4 c5 c6 c7 u16.1 u16.2.1 u16.2.2.1 u16.2.2.2) := hD
  have hres := Option.some.inj hf
  subst hres
  have hP9 := hP.sub (ws' := (wX0 cy h q2 q3 q4 q5 q6 q7 q8 q9 c0 c1 c2 c3 c4 c5 c6 c7 u16.1 u16.2.1 u16.2.2.1 u16.2.2.2)) [0, 1, 2, 3, 4, 5, 6, 7, 8] rfl
  have hD9 := hD.sub (ws' := (wX0 cy h q2 q3 q4 q5 q6 q7 q8 q9 c0 c1 c2 c3 c4 c5 c6 c7 u16.1 u16.2.1 u16.2.2.1 u16.2.2.2)) [0, 1, 2, 3, 4, 5, 6, 7, 8] (by decide) rfl
  have hK9 := hK.sub (tys' := [(cy, .int)]) [0] rfl
  exact W.vret hx hb hr (fun t ht hW => ⟨⟨(), rfl, trivial, by rw [ht]; exact hP9, va_K.moved hW.alike hK9, hD9⟩, hS.F ht⟩) hS.2.2 dX0_findMends_19

set_option maxRecDepth 20000 in
theorem ggX0_changes_X0_refuseFall : GoodIn wsX0_changes wsX0_refuseFall := goodIn_r _ [7, 8, 9, 10, 6, 11, 12, 13, 14, 15, 16, 17, 18, 19, 20, 21, 22, 23, 24, 25, 26, 27, 28, 29, 30, 31, 32, 33, 34, 35, 36, 37, 38, 39, 40, 41, 42, 43, 44, 45, 46, 47, 48, 49, 50, 51, 52, 53, 54, 55, 56, 57, 58, 59, 60, 61, 62, 63, 64, 65, 66, 67, 68, 69, 70, 71, 72, 73, 74, 75, 76, 103, 104, 105, 106, 107, 108, 109, 110, 111, 112, 113, 114] (by decide +kernel) (by decide +kernel)
set_option maxRecDepth 20000 in
theorem gX0_changes_X0_refuseFall : GoodIn wsX0_changes (wsV RX0 122 RX0 yX0_refuseFall wsX0_refuseFall) := goodIn_app (goodIn_of _ (by decide +kernel)) ggX0_changes_X0_refuseFall
set_option maxRecDepth 20000 in
theorem ggX0_changes_X0_findMends : GoodIn wsX0_changes wsX0_findMends := goodIn_r _ [80, 2, 1, 81, 82, 83, 6, 84, 8, 9, 10, 11, 12, 85, 86, 87, 88, 89, 90, 91, 92, 93, 29, 30, 31, 32, 94, 95, 96, 97, 18, 98, 99, 100, 101, 102, 27, 17, 37, 38, 39, 103, 104, 105, 106, 107, 108, 109, 110, 111, 112, 113, 114] (by decide +kernel) (by decide +kernel)
set_option maxRecDepth 20000 in
theorem gX0_changes_X0_findMends : GoodIn wsX0_changes (wsV RX0 125 RX0 yX0_findMends wsX0_findMends) := goodIn_app (goodIn_of _ (by decide +kernel)) ggX0_changes_X0_findMends
theorem dX0_changes_0 : decode cX0_changes 0 = .ok (.aload_n 0, 1) := by decide +kernel
theorem dX0_changes_1 : decode cX0_changes 1 = .ok (.iload_n 1, 1) := by decide +kernel
theorem dX0_changes_2 : decode cX0_changes 2 = .ok (.invokevirtual 122, 3) := by decide +kernel
theorem dX0_changes_5 : decode cX0_changes 5 = .ok (.istore_n 2, 1) := by decide +kernel
theorem dX0_changes_6 : decode cX0_changes 6 = .ok (.iload_n 2, 1) := by decide +kernel
theorem dX0_changes_7 : decode cX0_changes 7 = .ok (.ifCond .eq 5, 3) := by decide +kernel
theorem dX0_changes_10 : decode cX0_changes 10 = .ok (.iload_n 2, 1) := by decide +kernel
theorem dX0_changes_11 : decode cX0_changes 11 = .ok (.ireturn, 1) := by decide +kernel
theorem dX0_changes_12 : decode cX0_changes 12 = .ok (.aload_n 0, 1) := by decide +kernel
theorem dX0_changes_13 : decode cX0_changes 13 = .ok (.iload_n 1, 1) := by decide +kernel
theorem dX0_changes_14 : decode cX0_changes 14 = .ok (.invokevirtual 125, 3) := by decide +kernel
theorem dX0_changes_17 : decode cX0_changes 17 = .ok (.aload_n 0, 1) := by decide +kernel
theorem dX0_changes_18 : decode cX0_changes 18 = .ok (.getfield 128, 3) := by decide +kernel
theorem dX0_changes_21 : decode cX0_changes 21 = .ok (.ifCond .ne 8, 3) := by decide +kernel
theorem dX0_changes_24 : decode cX0_changes 24 = .ok (.bipush (-6), 2) := by decide +kernel
theorem dX0_changes_26 : decode cX0_changes 26 = .ok (.goto 7, 3) := by decide +kernel
theorem dX0_changes_29 : decode cX0_changes 29 = .ok (.aload_n 0, 1) := by decide +kernel
theorem dX0_changes_30 : decode cX0_changes 30 = .ok (.getfield 131, 3) := by decide +kernel
theorem dX0_changes_33 : decode cX0_changes 33 = .ok (.ireturn, 1) := by decide +kernel
abbrev rm_X0_changes : Room := { frames := 26, cells := 0, slots := 0, locals := 655 }
set_option maxHeartbeats 4000000 in
set_option maxRecDepth 100000 in
theorem c_X0_changes (N : Nat) (l : Launch) (dC : Nat → ClassId) (dI : Nat → Nat → Nat) (cy : ClassId) (h q2 q3 q4 q5 q6 q7 q8 q9 : Nat) (sz : Nat) (c0 : Int32) (c1 : Int32) (c2 : Nat → Int32) (c3 : Nat → Int32) (c4 : Nat → Int32) (c5 : Nat → Int32) (c6 : Nat → Int32) (c7 : Nat → Int32) (c8 : Nat → Int32) (c9 : Nat → Int32) (c10 : Int32) (c11 : Int32) (a1 : Int32) (res : Int32 × (Nat → Int32) × (Nat → Int32) × (Nat → Int32) × (Nat → Int32) × (Nat → Int32) × (Nat → Int32) × Int32 × Int32) (hf : f_X0_changes N a1 c0 c1 c2 c3 c4 c5 c6 c7 c8 c9 c10 c11 = some res) : Met l yX0_changes wsX0_changes rm_X0_changes (va_Pc [.ref h, .int a1] (fun U => U.heap.size = sz ∧ va_P (dC, dI) vwCl (wX0 cy h q2 q3 q4 q5 q6 q7 q8 q9 c0 c1 c2 c3 c4 c5 c6 c7 c8 c9 c10 c11) U.heap ∧ va_K (dC, dI) vwCl [(cy, .int)] U ∧ va_D (fun _ => True) (wX0 cy h q2 q3 q4 q5 q6 q7 q8 q9 c0 c1 c2 c3 c4 c5 c6 c7 c8 c9 c10 c11))) (z_qI dC dI cy res.1 (wX0 cy h q2 q3 q4 q5 q6 q7 q8 q9 c0 c1 c2 c3 res.2.1 res.2.2.1 res.2.2.2.1 res.2.2.2.2.1 res.2.2.2.2.2.1 res.2.2.2.2.2.2.1 res.2.2.2.2.2.2.2.1 res.2.2.2.2.2.2.2.2) (va_A (wX0 cy h q2 q3 q4 q5 q6 q7 q8 q9 c0 c1 c2 c3 c4 c5 c6 c7 c8 c9 c10 c11) sz)) 0 0 (va_A (wX0 cy h q2 q3 q4 q5 q6 q7 q8 q9 c0 c1 c2 c3 c4 c5 c6 c7 c8 c9 c10 c11) sz) := by
  refine Met.ofW (cc := cX0_changes) (maxL := 3) (ret := (some .int)) (by decide) rfl ?_
  intro p e s m args below meth c s₁ B hml hv
  obtain ⟨rfl, hsz, hP, hK, hD0⟩ := hv
  have hx := B.exec
  have hb := B.bytes
  have hr := B.returns
  have hts := atoms_spec (ws := wsX0_changes) B.pre
  have hown : s.vm.findClass RX0 = some m.cls := findClass_of_methodNamed B.named
  have hlocks := B.notSynchronized
  subst hsz
  have hD := hD0.self (sz := s.heap.size)
  generalize hAe : va_A (wX0 cy h q2 q3 q4 q5 q6 q7 q8 q9 c0 c1 c2 c3 c4 c5 c6 c7 c8 c9 c10 c11) s.heap.size = A at hD ⊢
  have hA : ∀ q : Nat, s.heap.size ≤ q → A q := fun q h => by rw [← hAe]; exact Or.inr h
  have hS : va_S A s.heap s.heap [] := va_S.rf
  have hP : va_P (dC, dI) vwCl (wX0 cy h q2 q3 q4 q5 q6 q7 q8 q9 c0 c1 c2 c3 c4 c5 c6 c7 c8 c9 c10 c11) s.heap := hP
  have hl := lv_entry ([.ref h, .int a1]) (n := 3) (Nat.le_of_ble_eq_true rfl)
  rw [lg_entry_eq]
  generalize (lg_sl ([.ref h, .int a1]) ++ List.replicate (3 - (lg_sl ([.ref h, .int a1])).length) Slot.unset).toArray = ls at hl ⊢
  have hl : lv_has ls 3 [(0, .ref h), (1, .int a1)] := hl
  unfold f_X0_changes at hf
  refine lv_aload_n hx hb dX0_changes_0 rfl (lv_at hl 0 rfl) ?_
  refine lv_iload_n hx hb dX0_changes_1 rfl (lv_at hl 1 rfl) ?_
  obtain ⟨u2, hu2, hf⟩ := z_ob_some hf
  have hPc := hP.sub (ws' := (wX0 cy h q2 q3 q4 q5 q6 q7 q8 q9 c0 c1 c2 c3 c4 c5 c6 c7 c8 c9 c10 c11)) [0, 1, 2, 3, 4, 5, 6, 7, 8] rfl
  have hDc := hD.sub (ws' := (wX0 cy h q2 q3 q4 q5 q6 q7 q8 q9 c0 c1 c2 c3 c4 c5 c6 c7 c8 c9 c10 c11)) [0, 1, 2, 3, 4, 5, 6, 7, 8] (by decide) rfl
  have hKc := hK.sub (tys' := [(cy, .int)]) [0] rfl
  have hFc := va_free (wc := (wX0 cy h q2 q3 q4 q5 q6 q7 q8 q9 c0 c1 c2 c3 c4 c5 c6 c7 c8 c9 c10 c11)) hD hS hA [0, 1, 2, 3, 4, 5, 6, 7, 8] rfl
  refine va_calli (va_runV (As := [.int a1]) (rest := []) ⟨hx, hb, hml, hown, hts⟩ (c_X0_refuseFall N l dC dI cy h q2 q3 q4 q5 q6 q7 q8 q9 s.heap.size c0 c1 c2 c3 c4 c5 c6 c7 c8 c9 c10 c11 a1 u2 hu2) (cwV 1 hts gX0_changes_X0_refuseFall rfl rfl rfl (by decide +kernel) ⟨Nat.le_of_ble_eq_true rfl, Nat.le_of_ble_eq_true rfl⟩) ⟨fun a U g mk q => by obtain ⟨q0, q1, qP, qK, qD⟩ := q; exact ⟨q0, q1, qP, va_K.moved (u := U) (U := U.calling g mk a) (Vm.Alike.refl U.vm) qK, qD⟩, va_recv hKc hPc (ci := 0) (q0 := 0) rfl rfl, fun U hU hW => ⟨rfl, by rw [hU], by rw [hU]; exact hPc, va_K.moved hW.alike hKc, hDc.weaken (fun _ _ _ _ => trivial)⟩⟩ rfl rfl hl.1 rfl (lv_room (Nat.le_of_ble_eq_true rfl)) dX0_changes_2 ⟨Nat.zero_le _, Nat.zero_le _⟩) hS (fun q _ h => hFc q h) hFc (fun r_2 uu_ t H1 locs ht hvm hw hB hz1 hk1 hS => ?_)
  replace hw := hw.symm
  subst hw
  obtain ⟨hP1, -, hD1⟩ := hB
  rw [ht] at hP1
  obtain ⟨hP, hD⟩ := va_join (wr := []) (w1 := (wX0 cy h q2 q3 q4 q5 q6 q7 q8 q9 c0 c1 c2 c3 u2.2.1 u2.2.2.1 u2.2.2.2.1 u2.2.2.2.2 c8 c9 c10 c11)) hP hD [0, 1, 2, 3, 4, 5, 6, 7, 8] [] rfl rfl (by decide) (by decide) hk1 hFc hP1 hD1
  clear hk1 hz1 hP1 hD1 ht hPc hDc hFc
  generalize H1 = H at hP hS ⊢
  have hP : va_P (dC, dI) vwCl (wX0 cy h q2 q3 q4 q5 q6 q7 q8 q9 c0 c1 c2 c3 u2.2.1 u2.2.2.1 u2.2.2.2.1 u2.2.2.2.2 c8 c9 c10 c11) H := hP
  have hD : va_D A (wX0 cy h q2 q3 q4 q5 q6 q7 q8 q9 c0 c1 c2 c3 u2.2.1 u2.2.2.1 u2.2.2.2.1 u2.2.2.2.2 c8 c9 c10 c11) := hD
  refine lv_istore_n (lv' := [(2, .int u2.1), (0, .ref h), (1, .int a1)]) hx hb dX0_changes_5 rfl hl (by decide) rfl (fun ls hl => ?_)
  refine lv_iload_n hx hb dX0_changes_6 rfl (lv_at hl 0 rfl) ?_
  refine lv_if_eq (tgt := 12) hx hb dX0_changes_7 (by decide) (fun c_7 => ?_) (fun c_7 => ?_)
  · replace hf := (if_pos c_7).symm.trans hf
    refine lv_aload_n hx hb dX0_changes_12 rfl (lv_at hl 1 rfl) ?_
    refine lv_iload_n hx hb dX0_changes_13 rfl (lv_at hl 2 rfl) ?_
    obtain ⟨u14, hu14, hf⟩ := z_ob_some hf
    have hPc := hP.sub (ws' := (wX0 cy h q2 q3 q4 q5 q6 q7 q8 q9 c0 c1 c2 c3 u2.2.1 u2.2.2.1 u2.2.2.2.1 u2.2.2.2.2 c8 c9 c10 c11)) [0, 1, 2, 3, 4, 5, 6, 7, 8] rfl
    have hDc := hD.sub (ws' := (wX0 cy h q2 q3 q4 q5 q6 q7 q8 q9 c0 c1 c2 c3 u2.2.1 u2.2.2.1 u2.2.2.2.1 u2.2.2.2.2 c8 c9 c10 c11)) [0, 1, 2, 3, 4, 5, 6, 7, 8] (by decide) rfl
    have hKc := hK.sub (tys' := [(cy, .int)]) [0] rfl
    have hFc := va_free (wc := (wX0 cy h q2 q3 q4 q5 q6 q7 q8 q9 c0 c1 c2 c3 u2.2.1 u2.2.2.1 u2.2.2.2.1 u2.2.2.2.2 c8 c9 c10 c11)) hD hS hA [0, 1, 2, 3, 4, 5, 6, 7, 8] rfl
    refine va_callv (va_runV (As := [.int a1]) (rest := []) ⟨hx, hb, hml, hown, hts⟩ (c_X0_findMends N l dC dI cy h q2 q3 q4 q5 q6 q7 q8 q9 H.size c0 c1 c2 c3 u2.2.1 u2.2.2.1 u2.2.2.2.1 u2.2.2.2.2 c8 c9 c10 c11 a1 u14 hu14) (cwV 1 hts gX0_changes_X0_findMends rfl rfl rfl (by decide +kernel) ⟨Nat.le_of_ble_eq_true rfl, Nat.le_of_ble_eq_true rfl⟩) ⟨fun a U g mk q => by obtain ⟨q0, q1, qP, qK, qD⟩ := q; exact ⟨q0, q1, qP, va_K.moved (u := U) (U := U.calling g mk a) (Vm.Alike.refl U.vm) qK, qD⟩, va_recv hKc hPc (ci := 0) (q0 := 0) rfl rfl, fun U hU hW => ⟨rfl, by rw [hU], by rw [hU]; exact hPc, va_K.moved hW.alike hKc, hDc.weaken (fun _ _ _ _ => trivial)⟩⟩ rfl rfl hl.1 rfl (lv_room (Nat.le_of_ble_eq_true rfl)) dX0_changes_14 ⟨Nat.zero_le _, Nat.zero_le _⟩) hS (fun q _ h => hFc q h) hFc (fun uu_ t H1 locs ht hvm hw hB hz1 hk1 hS => ?_)
    obtain ⟨hP1, -, hD1⟩ := hB
    rw [ht] at hP1
    obtain ⟨hP, hD⟩ := va_join (wr := []) (w1 := (wX0 cy h q2 q3 q4 q5 q6 q7 q8 q9 c0 c1 c2 c3 u2.2.1 u2.2.2.1 u2.2.2.2.1 u2.2.2.2.2 u14.1 u14.2.1 u14.2.2.1 u14.2.2.2)) hP hD [0, 1, 2, 3, 4, 5, 6, 7, 8] [] rfl rfl (by decide) (by decide) hk1 hFc hP1 hD1
    clear hk1 hz1 hP1 hD1 ht hPc hDc hFc
    generalize H1 = H at hP hS ⊢
    have hP : va_P (dC, dI) vwCl (wX0 cy h q2 q3 q4 q5 q6 q7 q8 q9 c0 c1 c2 c3 u2.2.1 u2.2.2.1 u2.2.2.2.1 u2.2.2.2.2 u14.1 u14.2.1 u14.2.2.1 u14.2.2.2) H := hP
    have hD : va_D A (wX0 cy h q2 q3 q4 q5 q6 q7 q8 q9 c0 c1 c2 c3 u2.2.1 u2.2.2.1 u2.2.2.2.1 u2.2.2.2.2 u14.1 u14.2.1 u14.2.2.1 u14.2.2.2) := hD
    refine lv_aload_n hx hb dX0_changes_17 rfl (lv_at hl 1 rfl) ?_
    refine va_get (D := (dC, dI)) (ci := 0) (v := .int u14.2.2.2) (C := RX0) (T := TX0) (N := 12) hx hb hts (by decide +kernel) hown hK hP 0 rfl rfl 11 (by decide) (hts (.fieldLink RX0 128 "GiftLots" "mendsFound" "I") (by decide +kernel)) (fun _ h9 => h9) rfl dX0_changes_18 ?_
    refine lv_if_ne (tgt := 29) hx hb dX0_changes_21 (by decide) (fun c_21 => ?_) (fun c_21 => ?_)
    · replace hf := (if_neg c_21).symm.trans hf
      refine lv_aload_n hx hb dX0_changes_29 rfl (lv_at hl 1 rfl) ?_
      refine va_get (D := (dC, dI)) (ci := 0) (v := .int u14.2.2.1) (C := RX0) (T := TX0) (N := 12) hx hb hts (by decide +kernel) hown hK hP 0 rfl rfl 10 (by decide) (hts (.fieldLink RX0 131 "GiftLots" "fewestChanges" "I") (by decide +kernel)) (fun _ h9 => h9) rfl dX0_changes_30 ?_
      have hres := Option.some.inj hf
      subst hres
      have hP9 := hP.sub (ws' := (wX0 cy h q2 q3 q4 q5 q6 q7 q8 q9 c0 c1 c2 c3 u2.2.1 u2.2.2.1 u2.2.2.2.1 u2.2.2.2.2 u14.1 u14.2.1 u14.2.2.1 u14.2.2.2)) [0, 1, 2, 3, 4, 5, 6, 7, 8] rfl
      have hD9 := hD.sub (ws' := (wX0 cy h q2 q3 q4 q5 q6 q7 q8 q9 c0 c1 c2 c3 u2.2.1 u2.2.2.1 u2.2.2.2.1 u2.2.2.2.2 u14.1 u14.2.1 u14.2.2.1 u14.2.2.2)) [0, 1, 2, 3, 4, 5, 6, 7, 8] (by decide) rfl
      have hK9 := hK.sub (tys' := [(cy, .int)]) [0] rfl
      exact W.iret (v := u14.2.2.1) hx hb hr (fun t ht hW => ⟨⟨u14.2.2.1, (), rfl, rfl, by rw [ht]; exact hP9, va_K.moved hW.alike hK9, hD9⟩, hS.F ht⟩) hS.2.2 dX0_changes_33
    · replace hf := (if_pos c_21).symm.trans hf
      refine lv_bipush (v := (-6 : Int32)) hx hb dX0_changes_24 (by decide) ?_
      refine lv_goto (tgt := 33) hx hb dX0_changes_26 (by decide) ?_
      have hres := Option.some.inj hf
      subst hres
      have hP9 := hP.sub (ws' := (wX0 cy h q2 q3 q4 q5 q6 q7 q8 q9 c0 c1 c2 c3 u2.2.1 u2.2.2.1 u2.2.2.2.1 u2.2.2.2.2 u14.1 u14.2.1 u14.2.2.1 u14.2.2.2)) [0, 1, 2, 3, 4, 5, 6, 7, 8] rfl
      have hD9 := hD.sub (ws' := (wX0 cy h q2 q3 q4 q5 q6 q7 q8 q9 c0 c1 c2 c3 u2.2.1 u2.2.2.1 u2.2.2.2.1 u2.2.2.2.2 u14.1 u14.2.1 u14.2.2.1 u14.2.2.2)) [0, 1, 2, 3, 4, 5, 6, 7, 8] (by decide) rfl
      have hK9 := hK.sub (tys' := [(cy, .int)]) [0] rfl
      exact W.iret (v := (-6 : Int32)) hx hb hr (fun t ht hW => ⟨⟨(-6 : Int32), (), rfl, rfl, by rw [ht]; exact hP9, va_K.moved hW.alike hK9, hD9⟩, hS.F ht⟩) hS.2.2 dX0_changes_33
  · replace hf := (if_neg c_7).symm.trans hf
    refine lv_iload_n hx hb dX0_changes_10 rfl (lv_at hl 0 rfl) ?_
    have hres := Option.some.inj hf
    subst hres
    have hP9 := hP.sub (ws' := (wX0 cy h q2 q3 q4 q5 q6 q7 q8 q9 c0 c1 c2 c3 u2.2.1 u2.2.2.1 u2.2.2.2.1 u2.2.2.2.2 c8 c9 c10 c11)) [0, 1, 2, 3, 4, 5, 6, 7, 8] rfl
    have hD9 := hD.sub (ws' := (wX0 cy h q2 q3 q4 q5 q6 q7 q8 q9 c0 c1 c2 c3 u2.2.1 u2.2.2.1 u2.2.2.2.1 u2.2.2.2.2 c8 c9 c10 c11)) [0, 1, 2, 3, 4, 5, 6, 7, 8] (by decide) rfl
    have hK9 := hK.sub (tys' := [(cy, .int)]) [0] rfl
    exact W.iret (v := u2.1) hx hb hr (fun t ht hW => ⟨⟨u2.1, (), rfl, rfl, by rw [ht]; exact hP9, va_K.moved hW.alike hK9, hD9⟩, hS.F ht⟩) hS.2.2 dX0_changes_11

set_option maxRecDepth 20000 in
theorem ggX0_mends_X0_refuseFall : GoodIn wsX0_mends wsX0_refuseFall := goodIn_r _ [6, 7, 8, 9, 5, 10, 11, 12, 13, 14, 15, 16, 17, 18, 19, 20, 21, 22, 23, 24, 25, 26, 27, 28, 29, 30, 31, 32, 33, 34, 35, 36, 37, 38, 39, 40, 41, 42, 43, 44, 45, 46, 47, 48, 49, 50, 51, 52, 53, 54, 55, 56, 57, 58, 59, 60, 61, 62, 63, 64, 65, 66, 67, 68, 69, 70, 71, 72, 73, 74, 75, 103, 104, 105, 106, 107, 108, 109, 110, 111, 112, 113, 114] (by decide +kernel) (by decide +kernel)
set_option maxRecDepth 20000 in
theorem gX0_mends_X0_refuseFall : GoodIn wsX0_mends (wsV RX0 122 RX0 yX0_refuseFall wsX0_refuseFall) := goodIn_app (goodIn_of _ (by decide +kernel)) ggX0_mends_X0_refuseFall
set_option maxRecDepth 20000 in
theorem ggX0_mends_X0_findMends : GoodIn wsX0_mends wsX0_findMends := goodIn_r _ [79, 80, 1, 81, 82, 83, 5, 84, 7, 8, 9, 10, 11, 85, 86, 87, 88, 89, 90, 91, 92, 93, 28, 29, 30, 31, 94, 95, 96, 97, 17, 98, 99, 100, 101, 102, 26, 16, 36, 37, 38, 103, 104, 105, 106, 107, 108, 109, 110, 111, 112, 113, 114] (by decide +kernel) (by decide +kernel)
set_option maxRecDepth 20000 in
theorem gX0_mends_X0_findMends : GoodIn wsX0_mends (wsV RX0 125 RX0 yX0_findMends wsX0_findMends) := goodIn_app (goodIn_of _ (by decide +kernel)) ggX0_mends_X0_findMends
theorem dX0_mends_0 : decode cX0_mends 0 = .ok (.aload_n 0, 1) := by decide +kernel
theorem dX0_mends_1 : decode cX0_mends 1 = .ok (.iload_n 1, 1) := by decide +kernel
theorem dX0_mends_2 : decode cX0_mends 2 = .ok (.invokevirtual 122, 3) := by decide +kernel
theorem dX0_mends_5 : decode cX0_mends 5 = .ok (.istore_n 2, 1) := by decide +kernel
theorem dX0_mends_6 : decode cX0_mends 6 = .ok (.iload_n 2, 1) := by decide +kernel
theorem dX0_mends_7 : decode cX0_mends 7 = .ok (.ifCond .eq 5, 3) := by decide +kernel
theorem dX0_mends_10 : decode cX0_mends 10 = .ok (.iload_n 2, 1) := by decide +kernel
theorem dX0_mends_11 : decode cX0_mends 11 = .ok (.ireturn, 1) := by decide +kernel
theorem dX0_mends_12 : decode cX0_mends 12 = .ok (.aload_n 0, 1) := by decide +kernel
theorem dX0_mends_13 : decode cX0_mends 13 = .ok (.iload_n 1, 1) := by decide +kernel
theorem dX0_mends_14 : decode cX0_mends 14 = .ok (.invokevirtual 125, 3) := by decide +kernel
theorem dX0_mends_17 : decode cX0_mends 17 = .ok (.aload_n 0, 1) := by decide +kernel
theorem dX0_mends_18 : decode cX0_mends 18 = .ok (.getfield 128, 3) := by decide +kernel
theorem dX0_mends_21 : decode cX0_mends 21 = .ok (.ireturn, 1) := by decide +kernel
abbrev rm_X0_mends : Room := { frames := 26, cells := 0, slots := 0, locals := 655 }
set_option maxHeartbeats 4000000 in
set_option maxRecDepth 100000 in
theorem c_X0_mends (N : Nat) (l : Launch) (dC : Nat → ClassId) (dI : Nat → Nat → Nat) (cy : ClassId) (h q2 q3 q4 q5 q6 q7 q8 q9 : Nat) (sz : Nat) (c0 : Int32) (c1 : Int32) (c2 : Nat → Int32) (c3 : Nat → Int32) (c4 : Nat → Int32) (c5 : Nat → Int32) (c6 : Nat → Int32) (c7 : Nat → Int32) (c8 : Nat → Int32) (c9 : Nat → Int32) (c10 : Int32) (c11 : Int32) (a1 : Int32) (res : Int32 × (Nat → Int32) × (Nat → Int32) × (Nat → Int32) × (Nat → Int32) × (Nat → Int32) × (Nat → Int32) × Int32 × Int32) (hf : f_X0_mends N a1 c0 c1 c2 c3 c4 c5 c6 c7 c8 c9 c10 c11 = some res) : Met l yX0_mends wsX0_mends rm_X0_mends (va_Pc [.ref h, .int a1] (fun U => U.heap.size = sz ∧ va_P (dC, dI) vwCl (wX0 cy h q2 q3 q4 q5 q6 q7 q8 q9 c0 c1 c2 c3 c4 c5 c6 c7 c8 c9 c10 c11) U.heap ∧ va_K (dC, dI) vwCl [(cy, .int)] U ∧ va_D (fun _ => True) (wX0 cy h q2 q3 q4 q5 q6 q7 q8 q9 c0 c1 c2 c3 c4 c5 c6 c7 c8 c9 c10 c11))) (z_qI dC dI cy res.1 (wX0 cy h q2 q3 q4 q5 q6 q7 q8 q9 c0 c1 c2 c3 res.2.1 res.2.2.1 res.2.2.2.1 res.2.2.2.2.1 res.2.2.2.2.2.1 res.2.2.2.2.2.2.1 res.2.2.2.2.2.2.2.1 res.2.2.2.2.2.2.2.2) (va_A (wX0 cy h q2 q3 q4 q5 q6 q7 q8 q9 c0 c1 c2 c3 c4 c5 c6 c7 c8 c9 c10 c11) sz)) 0 0 (va_A (wX0 cy h q2 q3 q4 q5 q6 q7 q8 q9 c0 c1 c2 c3 c4 c5 c6 c7 c8 c9 c10 c11) sz) := by
  refine Met.ofW (cc := cX0_mends) (maxL := 3) (ret := (some .int)) (by decide) rfl ?_
  intro p e s m args below meth c s₁ B hml hv
  obtain ⟨rfl, hsz, hP, hK, hD0⟩ := hv
  have hx := B.exec
  have hb := B.bytes
  have hr := B.returns
  have hts := atoms_spec (ws := wsX0_mends) B.pre
  have hown : s.vm.findClass RX0 = some m.cls := findClass_of_methodNamed B.named
  have hlocks := B.notSynchronized
  subst hsz
  have hD := hD0.self (sz := s.heap.size)
  generalize hAe : va_A (wX0 cy h q2 q3 q4 q5 q6 q7 q8 q9 c0 c1 c2 c3 c4 c5 c6 c7 c8 c9 c10 c11) s.heap.size = A at hD ⊢
  have hA : ∀ q : Nat, s.heap.size ≤ q → A q := fun q h => by rw [← hAe]; exact Or.inr h
  have hS : va_S A s.heap s.heap [] := va_S.rf
  have hP : va_P (dC, dI) vwCl (wX0 cy h q2 q3 q4 q5 q6 q7 q8 q9 c0 c1 c2 c3 c4 c5 c6 c7 c8 c9 c10 c11) s.heap := hP
  have hl := lv_entry ([.ref h, .int a1]) (n := 3) (Nat.le_of_ble_eq_true rfl)
  rw [lg_entry_eq]
  generalize (lg_sl ([.ref h, .int a1]) ++ List.replicate (3 - (lg_sl ([.ref h, .int a1])).length) Slot.unset).toArray = ls at hl ⊢
  have hl : lv_has ls 3 [(0, .ref h), (1, .int a1)] := hl
  unfold f_X0_mends at hf
  refine lv_aload_n hx hb dX0_mends_0 rfl (lv_at hl 0 rfl) ?_
  refine lv_iload_n hx hb dX0_mends_1 rfl (lv_at hl 1 rfl) ?_
  obtain ⟨u2, hu2, hf⟩ := z_ob_some hf
  have hPc := hP.sub (ws' := (wX0 cy h q2 q3 q4 q5 q6 q7 q8 q9 c0 c1 c2 c3 c4 c5 c6 c7 c8 c9 c10 c11)) [0, 1, 2, 3, 4, 5, 6, 7, 8] rfl
  have hDc := hD.sub (ws' := (wX0 cy h q2 q3 q4 q5 q6 q7 q8 q9 c0 c1 c2 c3 c4 c5 c6 c7 c8 c9 c10 c11)) [0, 1, 2, 3, 4, 5, 6, 7, 8] (by decide) rfl
  have hKc := hK.sub (tys' := [(cy, .int)]) [0] rfl
  have hFc := va_free (wc := (wX0 cy h q2 q3 q4 q5 q6 q7 q8 q9 c0 c1 c2 c3 c4 c5 c6 c7 c8 c9 c10 c11)) hD hS hA [0, 1, 2, 3, 4, 5, 6, 7, 8] rfl
  refine va_calli (va_runV (As := [.int a1]) (rest := []) ⟨hx, hb, hml, hown, hts⟩ (c_X0_refuseFall N l dC dI cy h q2 q3 q4 q5 q6 q7 q8 q9 s.heap.size c0 c1 c2 c3 c4 c5 c6 c7 c8 c9 c10 c11 a1 u2 hu2) (cwV 1 hts gX0_mends_X0_refuseFall rfl rfl rfl (by decide +kernel) ⟨Nat.le_of_ble_eq_true rfl, Nat.le_of_ble_eq_true rfl⟩) ⟨fun a U g mk q => by obtain ⟨q0, q1, qP, qK, qD⟩ := q; exact ⟨q0, q1, qP, va_K.moved (u := U) (U := U.calling g mk a) (Vm.Alike.refl U.vm) qK, qD⟩, va_recv hKc hPc (ci := 0) (q0 := 0) rfl rfl, fun U hU hW => ⟨rfl, by rw [hU], by rw [hU]; exact hPc, va_K.moved hW.alike hKc, hDc.weaken (fun _ _ _ _ => trivial)⟩⟩ rfl rfl hl.1 rfl (lv_room (Nat.le_of_ble_eq_true rfl)) dX0_mends_2 ⟨Nat.zero_le _, Nat.zero_le _⟩) hS (fun q _ h => hFc q h) hFc (fun r_2 uu_ t H1 locs ht hvm hw hB hz1 hk1 hS => ?_)
  replace hw := hw.symm
  subst hw
  obtain ⟨hP1, -, hD1⟩ := hB
  rw [ht] at hP1
  obtain ⟨hP, hD⟩ := va_join (wr := []) (w1 := (wX0 cy h q2 q3 q4 q5 q6 q7 q8 q9 c0 c1 c2 c3 u2.2.1 u2.2.2.1 u2.2.2.2.1 u2.2.2.2.2 c8 c9 c10 c11)) hP hD [0, 1, 2, 3, 4, 5, 6, 7, 8] [] rfl rfl (by decide) (by decide) hk1 hFc hP1 hD1
  clear hk1 hz1 hP1 hD1 ht hPc hDc hFc
  generalize H1 = H at hP hS ⊢
  have hP : va_P (dC, dI) vwCl (wX0 cy h q2 q3 q4 q5 q6 q7 q8 q9 c0 c1 c2 c3 u2.2.1 u2.2.2.1 u2.2.2.2.1 u2.2.2.2.2 c8 c9 c10 c11) H := hP
  have hD : va_D A (wX0 cy h q2 q3 q4 q5 q6 q7 q8 q9 c0 c1 c2 c3 u2.2.1 u2.2.2.1 u2.2.2.2.1 u2.2.2.2.2 c8 c9 c10 c11) := hD
  refine lv_istore_n (lv' := [(2, .int u2.1), (0, .ref h), (1, .int a1)]) hx hb dX0_mends_5 rfl hl (by decide) rfl (fun ls hl => ?_)
  refine lv_iload_n hx hb dX0_mends_6 rfl (lv_at hl 0 rfl) ?_
  refine lv_if_eq (tgt := 12) hx hb dX0_mends_7 (by decide) (fun c_7 => ?_) (fun c_7 => ?_)
  · replace hf := (if_pos c_7).symm.trans hf
    refine lv_aload_n hx hb dX0_mends_12 rfl (lv_at hl 1 rfl) ?_
    refine lv_iload_n hx hb dX0_mends_13 rfl (lv_at hl 2 rfl) ?_
    obtain ⟨u14, hu14, hf⟩ := z_ob_some hf
    have hPc := hP.sub (ws' := (wX0 cy h q2 q3 q4 q5 q6 q7 q8 q9 c0 c1 c2 c3 u2.2.1 u2.2.2.1 u2.2.2.2.1 u2.2.2.2.2 c8 c9 c10 c11)) [0, 1, 2, 3, 4, 5, 6, 7, 8] rfl
    have hDc := hD.sub (ws' := (wX0 cy h q2 q3 q4 q5 q6 q7 q8 q9 c0 c1 c2 c3 u2.2.1 u2.2.2.1 u2.2.2.2.1 u2.2.2.2.2 c8 c9 c10 c11)) [0, 1, 2, 3, 4, 5, 6, 7, 8] (by decide) rfl
    have hKc := hK.sub (tys' := [(cy, .int)]) [0] rfl
    have hFc := va_free (wc := (wX0 cy h q2 q3 q4 q5 q6 q7 q8 q9 c0 c1 c2 c3 u2.2.1 u2.2.2.1 u2.2.2.2.1 u2.2.2.2.2 c8 c9 c10 c11)) hD hS hA [0, 1, 2, 3, 4, 5, 6, 7, 8] rfl
    refine va_callv (va_runV (As := [.int a1]) (rest := []) ⟨hx, hb, hml, hown, hts⟩ (c_X0_findMends N l dC dI cy h q2 q3 q4 q5 q6 q7 q8 q9 H.size c0 c1 c2 c3 u2.2.1 u2.2.2.1 u2.2.2.2.1 u2.2.2.2.2 c8 c9 c10 c11 a1 u14 hu14) (cwV 1 hts gX0_mends_X0_findMends rfl rfl rfl (by decide +kernel) ⟨Nat.le_of_ble_eq_true rfl, Nat.le_of_ble_eq_true rfl⟩) ⟨fun a U g mk q => by obtain ⟨q0, q1, qP, qK, qD⟩ := q; exact ⟨q0, q1, qP, va_K.moved (u := U) (U := U.calling g mk a) (Vm.Alike.refl U.vm) qK, qD⟩, va_recv hKc hPc (ci := 0) (q0 := 0) rfl rfl, fun U hU hW => ⟨rfl, by rw [hU], by rw [hU]; exact hPc, va_K.moved hW.alike hKc, hDc.weaken (fun _ _ _ _ => trivial)⟩⟩ rfl rfl hl.1 rfl (lv_room (Nat.le_of_ble_eq_true rfl)) dX0_mends_14 ⟨Nat.zero_le _, Nat.zero_le _⟩) hS (fun q _ h => hFc q h) hFc (fun uu_ t H1 locs ht hvm hw hB hz1 hk1 hS => ?_)
    obtain ⟨hP1, -, hD1⟩ := hB
    rw [ht] at hP1
    obtain ⟨hP, hD⟩ := va_join (wr := []) (w1 := (wX0 cy h q2 q3 q4 q5 q6 q7 q8 q9 c0 c1 c2 c3 u2.2.1 u2.2.2.1 u2.2.2.2.1 u2.2.2.2.2 u14.1 u14.2.1 u14.2.2.1 u14.2.2.2)) hP hD [0, 1, 2, 3, 4, 5, 6, 7, 8] [] rfl rfl (by decide) (by decide) hk1 hFc hP1 hD1
    clear hk1 hz1 hP1 hD1 ht hPc hDc hFc
    generalize H1 = H at hP hS ⊢
    have hP : va_P (dC, dI) vwCl (wX0 cy h q2 q3 q4 q5 q6 q7 q8 q9 c0 c1 c2 c3 u2.2.1 u2.2.2.1 u2.2.2.2.1 u2.2.2.2.2 u14.1 u14.2.1 u14.2.2.1 u14.2.2.2) H := hP
    have hD : va_D A (wX0 cy h q2 q3 q4 q5 q6 q7 q8 q9 c0 c1 c2 c3 u2.2.1 u2.2.2.1 u2.2.2.2.1 u2.2.2.2.2 u14.1 u14.2.1 u14.2.2.1 u14.2.2.2) := hD
    refine lv_aload_n hx hb dX0_mends_17 rfl (lv_at hl 1 rfl) ?_
    refine va_get (D := (dC, dI)) (ci := 0) (v := .int u14.2.2.2) (C := RX0) (T := TX0) (N := 12) hx hb hts (by decide +kernel) hown hK hP 0 rfl rfl 11 (by decide) (hts (.fieldLink RX0 128 "GiftLots" "mendsFound" "I") (by decide +kernel)) (fun _ h9 => h9) rfl dX0_mends_18 ?_
    have hres := Option.some.inj hf
    subst hres
    have hP9 := hP.sub (ws' := (wX0 cy h q2 q3 q4 q5 q6 q7 q8 q9 c0 c1 c2 c3 u2.2.1 u2.2.2.1 u2.2.2.2.1 u2.2.2.2.2 u14.1 u14.2.1 u14.2.2.1 u14.2.2.2)) [0, 1, 2, 3, 4, 5, 6, 7, 8] rfl
    have hD9 := hD.sub (ws' := (wX0 cy h q2 q3 q4 q5 q6 q7 q8 q9 c0 c1 c2 c3 u2.2.1 u2.2.2.1 u2.2.2.2.1 u2.2.2.2.2 u14.1 u14.2.1 u14.2.2.1 u14.2.2.2)) [0, 1, 2, 3, 4, 5, 6, 7, 8] (by decide) rfl
    have hK9 := hK.sub (tys' := [(cy, .int)]) [0] rfl
    exact W.iret (v := u14.2.2.2) hx hb hr (fun t ht hW => ⟨⟨u14.2.2.2, (), rfl, rfl, by rw [ht]; exact hP9, va_K.moved hW.alike hK9, hD9⟩, hS.F ht⟩) hS.2.2 dX0_mends_21
  · replace hf := (if_neg c_7).symm.trans hf
    refine lv_iload_n hx hb dX0_mends_10 rfl (lv_at hl 0 rfl) ?_
    have hres := Option.some.inj hf
    subst hres
    have hP9 := hP.sub (ws' := (wX0 cy h q2 q3 q4 q5 q6 q7 q8 q9 c0 c1 c2 c3 u2.2.1 u2.2.2.1 u2.2.2.2.1 u2.2.2.2.2 c8 c9 c10 c11)) [0, 1, 2, 3, 4, 5, 6, 7, 8] rfl
    have hD9 := hD.sub (ws' := (wX0 cy h q2 q3 q4 q5 q6 q7 q8 q9 c0 c1 c2 c3 u2.2.1 u2.2.2.1 u2.2.2.2.1 u2.2.2.2.2 c8 c9 c10 c11)) [0, 1, 2, 3, 4, 5, 6, 7, 8] (by decide) rfl
    have hK9 := hK.sub (tys' := [(cy, .int)]) [0] rfl
    exact W.iret (v := u2.1) hx hb hr (fun t ht hW => ⟨⟨u2.1, (), rfl, rfl, by rw [ht]; exact hP9, va_K.moved hW.alike hK9, hD9⟩, hS.F ht⟩) hS.2.2 dX0_mends_11

set_option maxRecDepth 20000 in
theorem ggX0_mend_X0_isOne : GoodIn wsX0_mend wsX0_isOne := goodIn_r _ [7, 8, 99, 100, 101, 102, 103, 104, 105, 106, 107, 108, 109, 110] (by decide +kernel) (by decide +kernel)
set_option maxRecDepth 20000 in
theorem gX0_mend_X0_isOne : GoodIn wsX0_mend (wsV RX0 66 RX0 yX0_isOne wsX0_isOne) := goodIn_app (goodIn_of _ (by decide +kernel)) ggX0_mend_X0_isOne
set_option maxRecDepth 20000 in
theorem ggX0_mend_X0_refuseHand : GoodIn wsX0_mend wsX0_refuseHand := goodIn_r _ [12, 8, 13, 14, 15, 16, 17, 6, 18, 19, 20, 21, 22, 23, 24, 25, 26, 27, 28, 29, 30, 31, 32, 3, 4, 5, 7, 33, 34, 35, 36, 37, 38, 39, 40, 41, 42, 43, 44, 45, 46, 47, 48, 49, 50, 51, 52, 53, 54, 55, 56, 57, 58, 59, 60, 61, 62, 63, 64, 65, 66, 67, 68, 69, 70, 71, 72, 99, 100, 101, 102, 103, 104, 105, 106, 107, 108, 109, 110] (by decide +kernel) (by decide +kernel)
set_option maxRecDepth 20000 in
theorem gX0_mend_X0_refuseHand : GoodIn wsX0_mend (wsV RX0 109 RX0 yX0_refuseHand wsX0_refuseHand) := goodIn_app (goodIn_of _ (by decide +kernel)) ggX0_mend_X0_refuseHand
set_option maxRecDepth 20000 in
theorem ggX0_mend_X0_findMends : GoodIn wsX0_mend wsX0_findMends := goodIn_r _ [76, 77, 1, 78, 79, 80, 6, 81, 3, 4, 5, 7, 8, 82, 83, 84, 85, 86, 87, 88, 89, 2, 25, 26, 27, 28, 90, 91, 92, 93, 14, 94, 95, 96, 97, 98, 23, 13, 33, 34, 35, 99, 100, 101, 102, 103, 104, 105, 106, 107, 108, 109, 110] (by decide +kernel) (by decide +kernel)
set_option maxRecDepth 20000 in
theorem gX0_mend_X0_findMends : GoodIn wsX0_mend (wsV RX0 125 RX0 yX0_findMends wsX0_findMends) := goodIn_app (goodIn_of _ (by decide +kernel)) ggX0_mend_X0_findMends
theorem dX0_mend_0 : decode cX0_mend 0 = .ok (.aload_n 0, 1) := by decide +kernel
theorem dX0_mend_1 : decode cX0_mend 1 = .ok (.iload_n 1, 1) := by decide +kernel
theorem dX0_mend_2 : decode cX0_mend 2 = .ok (.invokevirtual 66, 3) := by decide +kernel
theorem dX0_mend_5 : decode cX0_mend 5 = .ok (.ifCond .eq 16, 3) := by decide +kernel
theorem dX0_mend_8 : decode cX0_mend 8 = .ok (.aload_n 0, 1) := by decide +kernel
theorem dX0_mend_9 : decode cX0_mend 9 = .ok (.iload_n 2, 1) := by decide +kernel
theorem dX0_mend_10 : decode cX0_mend 10 = .ok (.invokevirtual 66, 3) := by decide +kernel
theorem dX0_mend_13 : decode cX0_mend 13 = .ok (.ifCond .eq 8, 3) := by decide +kernel
theorem dX0_mend_16 : decode cX0_mend 16 = .ok (.iload_n 1, 1) := by decide +kernel
theorem dX0_mend_17 : decode cX0_mend 17 = .ok (.iload_n 2, 1) := by decide +kernel
theorem dX0_mend_18 : decode cX0_mend 18 = .ok (.if_icmp .ne 5, 3) := by decide +kernel
theorem dX0_mend_21 : decode cX0_mend 21 = .ok (.iconst (-1), 1) := by decide +kernel
theorem dX0_mend_22 : decode cX0_mend 22 = .ok (.ireturn, 1) := by decide +kernel
theorem dX0_mend_23 : decode cX0_mend 23 = .ok (.aload_n 0, 1) := by decide +kernel
theorem dX0_mend_24 : decode cX0_mend 24 = .ok (.invokevirtual 109, 3) := by decide +kernel
theorem dX0_mend_27 : decode cX0_mend 27 = .ok (.istore_n 3, 1) := by decide +kernel
theorem dX0_mend_28 : decode cX0_mend 28 = .ok (.iload_n 3, 1) := by decide +kernel
theorem dX0_mend_29 : decode cX0_mend 29 = .ok (.ifCond .eq 5, 3) := by decide +kernel
theorem dX0_mend_32 : decode cX0_mend 32 = .ok (.iload_n 3, 1) := by decide +kernel
theorem dX0_mend_33 : decode cX0_mend 33 = .ok (.ireturn, 1) := by decide +kernel
theorem dX0_mend_34 : decode cX0_mend 34 = .ok (.aload_n 0, 1) := by decide +kernel
theorem dX0_mend_35 : decode cX0_mend 35 = .ok (.iload_n 1, 1) := by decide +kernel
theorem dX0_mend_36 : decode cX0_mend 36 = .ok (.invokevirtual 125, 3) := by decide +kernel
theorem dX0_mend_39 : decode cX0_mend 39 = .ok (.aload_n 0, 1) := by decide +kernel
theorem dX0_mend_40 : decode cX0_mend 40 = .ok (.getfield 128, 3) := by decide +kernel
theorem dX0_mend_43 : decode cX0_mend 43 = .ok (.ifCond .ne 8, 3) := by decide +kernel
theorem dX0_mend_46 : decode cX0_mend 46 = .ok (.bipush (-6), 2) := by decide +kernel
theorem dX0_mend_48 : decode cX0_mend 48 = .ok (.goto 9, 3) := by decide +kernel
theorem dX0_mend_51 : decode cX0_mend 51 = .ok (.aload_n 0, 1) := by decide +kernel
theorem dX0_mend_52 : decode cX0_mend 52 = .ok (.getfield 31, 3) := by decide +kernel
theorem dX0_mend_55 : decode cX0_mend 55 = .ok (.iload_n 2, 1) := by decide +kernel
theorem dX0_mend_56 : decode cX0_mend 56 = .ok (.iaload, 1) := by decide +kernel
theorem dX0_mend_57 : decode cX0_mend 57 = .ok (.ireturn, 1) := by decide +kernel
abbrev rm_X0_mend : Room := { frames := 26, cells := 0, slots := 0, locals := 655 }
set_option maxHeartbeats 4000000 in
set_option maxRecDepth 100000 in
theorem c_X0_mend (N : Nat) (l : Launch) (dC : Nat → ClassId) (dI : Nat → Nat → Nat) (cy : ClassId) (h q2 q3 q4 q5 q6 q7 q8 q9 : Nat) (sz : Nat) (c0 : Int32) (c1 : Int32) (c2 : Nat → Int32) (c3 : Nat → Int32) (c4 : Nat → Int32) (c5 : Nat → Int32) (c6 : Nat → Int32) (c7 : Nat → Int32) (c8 : Nat → Int32) (c9 : Nat → Int32) (c10 : Int32) (c11 : Int32) (a1 a2 : Int32) (res : Int32 × (Nat → Int32) × (Nat → Int32) × (Nat → Int32) × (Nat → Int32) × (Nat → Int32) × (Nat → Int32) × Int32 × Int32) (hf : f_X0_mend N a1 a2 c0 c1 c2 c3 c4 c5 c6 c7 c8 c9 c10 c11 = some res) : Met l yX0_mend wsX0_mend rm_X0_mend (va_Pc [.ref h, .int a1, .int a2] (fun U => U.heap.size = sz ∧ va_P (dC, dI) vwCl (wX0 cy h q2 q3 q4 q5 q6 q7 q8 q9 c0 c1 c2 c3 c4 c5 c6 c7 c8 c9 c10 c11) U.heap ∧ va_K (dC, dI) vwCl [(cy, .int)] U ∧ va_D (fun _ => True) (wX0 cy h q2 q3 q4 q5 q6 q7 q8 q9 c0 c1 c2 c3 c4 c5 c6 c7 c8 c9 c10 c11))) (z_qI dC dI cy res.1 (wX0 cy h q2 q3 q4 q5 q6 q7 q8 q9 c0 c1 c2 c3 res.2.1 res.2.2.1 res.2.2.2.1 res.2.2.2.2.1 res.2.2.2.2.2.1 res.2.2.2.2.2.2.1 res.2.2.2.2.2.2.2.1 res.2.2.2.2.2.2.2.2) (va_A (wX0 cy h q2 q3 q4 q5 q6 q7 q8 q9 c0 c1 c2 c3 c4 c5 c6 c7 c8 c9 c10 c11) sz)) 0 0 (va_A (wX0 cy h q2 q3 q4 q5 q6 q7 q8 q9 c0 c1 c2 c3 c4 c5 c6 c7 c8 c9 c10 c11) sz) := by
  refine Met.ofW (cc := cX0_mend) (maxL := 4) (ret := (some .int)) (by decide) rfl ?_
  intro p e s m args below meth c s₁ B hml hv
  obtain ⟨rfl, hsz, hP, hK, hD0⟩ := hv
  have hx := B.exec
  have hb := B.bytes
  have hr := B.returns
  have hts := atoms_spec (ws := wsX0_mend) B.pre
  have hown : s.vm.findClass RX0 = some m.cls := findClass_of_methodNamed B.named
  have hlocks := B.notSynchronized
  subst hsz
  have hD := hD0.self (sz := s.heap.size)
  generalize hAe : va_A (wX0 cy h q2 q3 q4 q5 q6 q7 q8 q9 c0 c1 c2 c3 c4 c5 c6 c7 c8 c9 c10 c11) s.heap.size = A at hD ⊢
  have hA : ∀ q : Nat, s.heap.size ≤ q → A q := fun q h => by rw [← hAe]; exact Or.inr h
  have hS : va_S A s.heap s.heap [] := va_S.rf
  have hP : va_P (dC, dI) vwCl (wX0 cy h q2 q3 q4 q5 q6 q7 q8 q9 c0 c1 c2 c3 c4 c5 c6 c7 c8 c9 c10 c11) s.heap := hP
  have hl := lv_entry ([.ref h, .int a1, .int a2]) (n := 4) (Nat.le_of_ble_eq_true rfl)
  rw [lg_entry_eq]
  generalize (lg_sl ([.ref h, .int a1, .int a2]) ++ List.replicate (4 - (lg_sl ([.ref h, .int a1, .int a2])).length) Slot.unset).toArray = ls at hl ⊢
  have hl : lv_has ls 4 [(0, .ref h), (1, .int a1), (2, .int a2)] := hl
  unfold f_X0_mend at hf
  refine lv_aload_n hx hb dX0_mend_0 rfl (lv_at hl 0 rfl) ?_
  refine lv_iload_n hx hb dX0_mend_1 rfl (lv_at hl 1 rfl) ?_
  obtain ⟨u2, hu2, hf⟩ := z_ob_some hf
  have hPc := hP.sub (ws' := (wX0 cy h q2 q3 q4 q5 q6 q7 q8 q9 c0 c1 c2 c3 c4 c5 c6 c7 c8 c9 c10 c11)) [0, 1, 2, 3, 4, 5, 6, 7, 8] rfl
  have hDc := hD.sub (ws' := (wX0 cy h q2 q3 q4 q5 q6 q7 q8 q9 c0 c1 c2 c3 c4 c5 c6 c7 c8 c9 c10 c11)) [0, 1, 2, 3, 4, 5, 6, 7, 8] (by decide) rfl
  have hKc := hK.sub (tys' := [(cy, .int)]) [0] rfl
  have hFc := va_free (wc := (wX0 cy h q2 q3 q4 q5 q6 q7 q8 q9 c0 c1 c2 c3 c4 c5 c6 c7 c8 c9 c10 c11)) hD hS hA [0, 1, 2, 3, 4, 5, 6, 7, 8] rfl
  refine va_calli (va_runV (As := [.int a1]) (rest := []) ⟨hx, hb, hml, hown, hts⟩ (c_X0_isOne N l dC dI cy h q2 q3 q4 q5 q6 q7 q8 q9 s.heap.size c0 c1 c2 c3 c4 c5 c6 c7 c8 c9 c10 c11 a1 u2 hu2) (cwV 1 hts gX0_mend_X0_isOne rfl rfl rfl (by decide +kernel) ⟨Nat.le_of_ble_eq_true rfl, Nat.le_of_ble_eq_true rfl⟩) ⟨fun a U g mk q => by obtain ⟨q0, q1, qP, qK, qD⟩ := q; exact ⟨q0, q1, qP, va_K.moved (u := U) (U := U.calling g mk a) (Vm.Alike.refl U.vm) qK, qD⟩, va_recv hKc hPc (ci := 0) (q0 := 0) rfl rfl, fun U hU hW => ⟨rfl, by rw [hU], by rw [hU]; exact hPc, va_K.moved hW.alike hKc, hDc.weaken (fun _ _ _ _ => trivial)⟩⟩ rfl rfl hl.1 rfl (lv_room (Nat.le_of_ble_eq_true rfl)) dX0_mend_2 ⟨Nat.zero_le _, Nat.zero_le _⟩) hS (fun q _ h => hFc q h) hFc (fun r_2 uu_ t H1 locs ht hvm hw hB hz1 hk1 hS => ?_)
  replace hw := hw.symm
  subst hw
  obtain ⟨hP1, -, hD1⟩ := hB
  rw [ht] at hP1
  obtain ⟨hP, hD⟩ := va_join (wr := []) (w1 := (wX0 cy h q2 q3 q4 q5 q6 q7 q8 q9 c0 c1 c2 c3 c4 c5 c6 c7 c8 c9 c10 c11)) hP hD [0, 1, 2, 3, 4, 5, 6, 7, 8] [] rfl rfl (by decide) (by decide) hk1 hFc hP1 hD1
  clear hk1 hz1 hP1 hD1 ht hPc hDc hFc
  generalize H1 = H at hP hS ⊢
  have hP : va_P (dC, dI) vwCl (wX0 cy h q2 q3 q4 q5 q6 q7 q8 q9 c0 c1 c2 c3 c4 c5 c6 c7 c8 c9 c10 c11) H := hP
  have hD : va_D A (wX0 cy h q2 q3 q4 q5 q6 q7 q8 q9 c0 c1 c2 c3 c4 c5 c6 c7 c8 c9 c10 c11) := hD
  refine lv_if_eq (tgt := 21) hx hb dX0_mend_5 (by decide) (fun c_5 => ?_) (fun c_5 => ?_)
  · replace hf := (if_pos c_5).symm.trans hf
    refine lv_iconst (v := (-1 : Int32)) hx hb dX0_mend_21 (by decide) ?_
    have hres := Option.some.inj hf
    subst hres
    have hP9 := hP.sub (ws' := (wX0 cy h q2 q3 q4 q5 q6 q7 q8 q9 c0 c1 c2 c3 c4 c5 c6 c7 c8 c9 c10 c11)) [0, 1, 2, 3, 4, 5, 6, 7, 8] rfl
    have hD9 := hD.sub (ws' := (wX0 cy h q2 q3 q4 q5 q6 q7 q8 q9 c0 c1 c2 c3 c4 c5 c6 c7 c8 c9 c10 c11)) [0, 1, 2, 3, 4, 5, 6, 7, 8] (by decide) rfl
    have hK9 := hK.sub (tys' := [(cy, .int)]) [0] rfl
    exact W.iret (v := (-1 : Int32)) hx hb hr (fun t ht hW => ⟨⟨(-1 : Int32), (), rfl, rfl, by rw [ht]; exact hP9, va_K.moved hW.alike hK9, hD9⟩, hS.F ht⟩) hS.2.2 dX0_mend_22
  · replace hf := (if_neg c_5).symm.trans hf
    refine lv_aload_n hx hb dX0_mend_8 rfl (lv_at hl 0 rfl) ?_
    refine lv_iload_n hx hb dX0_mend_9 rfl (lv_at hl 2 rfl) ?_
    obtain ⟨u10, hu10, hf⟩ := z_ob_some hf
    have hPc := hP.sub (ws' := (wX0 cy h q2 q3 q4 q5 q6 q7 q8 q9 c0 c1 c2 c3 c4 c5 c6 c7 c8 c9 c10 c11)) [0, 1, 2, 3, 4, 5, 6, 7, 8] rfl
    have hDc := hD.sub (ws' := (wX0 cy h q2 q3 q4 q5 q6 q7 q8 q9 c0 c1 c2 c3 c4 c5 c6 c7 c8 c9 c10 c11)) [0, 1, 2, 3, 4, 5, 6, 7, 8] (by decide) rfl
    have hKc := hK.sub (tys' := [(cy, .int)]) [0] rfl
    have hFc := va_free (wc := (wX0 cy h q2 q3 q4 q5 q6 q7 q8 q9 c0 c1 c2 c3 c4 c5 c6 c7 c8 c9 c10 c11)) hD hS hA [0, 1, 2, 3, 4, 5, 6, 7, 8] rfl
    refine va_calli (va_runV (As := [.int a2]) (rest := []) ⟨hx, hb, hml, hown, hts⟩ (c_X0_isOne N l dC dI cy h q2 q3 q4 q5 q6 q7 q8 q9 H.size c0 c1 c2 c3 c4 c5 c6 c7 c8 c9 c10 c11 a2 u10 hu10) (cwV 1 hts gX0_mend_X0_isOne rfl rfl rfl (by decide +kernel) ⟨Nat.le_of_ble_eq_true rfl, Nat.le_of_ble_eq_true rfl⟩) ⟨fun a U g mk q => by obtain ⟨q0, q1, qP, qK, qD⟩ := q; exact ⟨q0, q1, qP, va_K.moved (u := U) (U := U.calling g mk a) (Vm.Alike.refl U.vm) qK, qD⟩, va_recv hKc hPc (ci := 0) (q0 := 0) rfl rfl, fun U hU hW => ⟨rfl, by rw [hU], by rw [hU]; exact hPc, va_K.moved hW.alike hKc, hDc.weaken (fun _ _ _ _ => trivial)⟩⟩ rfl rfl hl.1 rfl (lv_room (Nat.le_of_ble_eq_true rfl)) dX0_mend_10 ⟨Nat.zero_le _, Nat.zero_le _⟩) hS (fun q _ h => hFc q h) hFc (fun r_10 uu_ t H1 locs ht hvm hw hB hz1 hk1 hS => ?_)
    replace hw := hw.symm
    subst hw
    obtain ⟨hP1, -, hD1⟩ := hB
    rw [ht] at hP1
    obtain ⟨hP, hD⟩ := va_join (wr := []) (w1 := (wX0 cy h q2 q3 q4 q5 q6 q7 q8 q9 c0 c1 c2 c3 c4 c5 c6 c7 c8 c9 c10 c11)) hP hD [0, 1, 2, 3, 4, 5, 6, 7, 8] [] rfl rfl (by decide) (by decide) hk1 hFc hP1 hD1
    clear hk1 hz1 hP1 hD1 ht hPc hDc hFc
    generalize H1 = H at hP hS ⊢
    have hP : va_P (dC, dI) vwCl (wX0 cy h q2 q3 q4 q5 q6 q7 q8 q9 c0 c1 c2 c3 c4 c5 c6 c7 c8 c9 c10 c11) H := hP
    have hD : va_D A (wX0 cy h q2 q3 q4 q5 q6 q7 q8 q9 c0 c1 c2 c3 c4 c5 c6 c7 c8 c9 c10 c11) := hD
    refine lv_if_eq (tgt := 21) hx hb dX0_mend_13 (by decide) (fun c_13 => ?_) (fun c_13 => ?_)
    · replace hf := (if_pos c_13).symm.trans hf
      refine lv_iconst (v := (-1 : Int32)) hx hb dX0_mend_21 (by decide) ?_
      have hres := Option.some.inj hf
      subst hres
      have hP9 := hP.sub (ws' := (wX0 cy h q2 q3 q4 q5 q6 q7 q8 q9 c0 c1 c2 c3 c4 c5 c6 c7 c8 c9 c10 c11)) [0, 1, 2, 3, 4, 5, 6, 7, 8] rfl
      have hD9 := hD.sub (ws' := (wX0 cy h q2 q3 q4 q5 q6 q7 q8 q9 c0 c1 c2 c3 c4 c5 c6 c7 c8 c9 c10 c11)) [0, 1, 2, 3, 4, 5, 6, 7, 8] (by decide) rfl
      have hK9 := hK.sub (tys' := [(cy, .int)]) [0] rfl
      exact W.iret (v := (-1 : Int32)) hx hb hr (fun t ht hW => ⟨⟨(-1 : Int32), (), rfl, rfl, by rw [ht]; exact hP9, va_K.moved hW.alike hK9, hD9⟩, hS.F ht⟩) hS.2.2 dX0_mend_22
    · replace hf := (if_neg c_13).symm.trans hf
      refine lv_iload_n hx hb dX0_mend_16 rfl (lv_at hl 1 rfl) ?_
      refine lv_iload_n hx hb dX0_mend_17 rfl (lv_at hl 2 rfl) ?_
      refine lv_icmp_ne (tgt := 23) hx hb dX0_mend_18 (by decide) (fun c_18 => ?_) (fun c_18 => ?_)
      · replace hf := (if_neg c_18).symm.trans hf
        refine lv_aload_n hx hb dX0_mend_23 rfl (lv_at hl 0 rfl) ?_
        obtain ⟨u24, hu24, hf⟩ := z_ob_some hf
        have hPc := hP.sub (ws' := (wX0 cy h q2 q3 q4 q5 q6 q7 q8 q9 c0 c1 c2 c3 c4 c5 c6 c7 c8 c9 c10 c11)) [0, 1, 2, 3, 4, 5, 6, 7, 8] rfl
        have hDc := hD.sub (ws' := (wX0 cy h q2 q3 q4 q5 q6 q7 q8 q9 c0 c1 c2 c3 c4 c5 c6 c7 c8 c9 c10 c11)) [0, 1, 2, 3, 4, 5, 6, 7, 8] (by decide) rfl
        have hKc := hK.sub (tys' := [(cy, .int)]) [0] rfl
        have hFc := va_free (wc := (wX0 cy h q2 q3 q4 q5 q6 q7 q8 q9 c0 c1 c2 c3 c4 c5 c6 c7 c8 c9 c10 c11)) hD hS hA [0, 1, 2, 3, 4, 5, 6, 7, 8] rfl
        refine va_calli (va_runV (As := []) (rest := []) ⟨hx, hb, hml, hown, hts⟩ (c_X0_refuseHand N l dC dI cy h q2 q3 q4 q5 q6 q7 q8 q9 H.size c0 c1 c2 c3 c4 c5 c6 c7 c8 c9 c10 c11 u24 hu24) (cwV 0 hts gX0_mend_X0_refuseHand rfl rfl rfl (by decide +kernel) ⟨Nat.le_of_ble_eq_true rfl, Nat.le_of_ble_eq_true rfl⟩) ⟨fun a U g mk q => by obtain ⟨q0, q1, qP, qK, qD⟩ := q; exact ⟨q0, q1, qP, va_K.moved (u := U) (U := U.calling g mk a) (Vm.Alike.refl U.vm) qK, qD⟩, va_recv hKc hPc (ci := 0) (q0 := 0) rfl rfl, fun U hU hW => ⟨rfl, by rw [hU], by rw [hU]; exact hPc, va_K.moved hW.alike hKc, hDc.weaken (fun _ _ _ _ => trivial)⟩⟩ rfl rfl hl.1 rfl (lv_room (Nat.le_of_ble_eq_true rfl)) dX0_mend_24 ⟨Nat.zero_le _, Nat.zero_le _⟩) hS (fun q _ h => hFc q h) hFc (fun r_24 uu_ t H1 locs ht hvm hw hB hz1 hk1 hS => ?_)
        replace hw := hw.symm
        subst hw
        obtain ⟨hP1, -, hD1⟩ := hB
        rw [ht] at hP1
        obtain ⟨hP, hD⟩ := va_join (wr := []) (w1 := (wX0 cy h q2 q3 q4 q5 q6 q7 q8 q9 c0 c1 c2 c3 u24.2.1 u24.2.2.1 u24.2.2.2.1 u24.2.2.2.2 c8 c9 c10 c11)) hP hD [0, 1, 2, 3, 4, 5, 6, 7, 8] [] rfl rfl (by decide) (by decide) hk1 hFc hP1 hD1
        clear hk1 hz1 hP1 hD1 ht hPc hDc hFc
        generalize H1 = H at hP hS ⊢
        have hP : va_P (dC, dI) vwCl (wX0 cy h q2 q3 q4 q5 q6 q7 q8 q9 c0 c1 c2 c3 u24.2.1 u24.2.2.1 u24.2.2.2.1 u24.2.2.2.2 c8 c9 c10 c11) H := hP
        have hD : va_D A (wX0 cy h q2 q3 q4 q5 q6 q7 q8 q9 c0 c1 c2 c3 u24.2.1 u24.2.2.1 u24.2.2.2.1 u24.2.2.2.2 c8 c9 c10 c11) := hD
        refine lv_istore_n (lv' := [(3, .int u24.1), (0, .ref h), (1, .int a1), (2, .int a2)]) hx hb dX0_mend_27 rfl hl (by decide) rfl (fun ls hl => ?_)
        refine lv_iload_n hx hb dX0_mend_28 rfl (lv_at hl 0 rfl) ?_
        refine lv_if_eq (tgt := 34) hx hb dX0_mend_29 (by decide) (fun c_29 => ?_) (fun c_29 => ?_)
        · replace hf := (if_pos c_29).symm.trans hf
          refine lv_aload_n hx hb dX0_mend_34 rfl (lv_at hl 1 rfl) ?_
          refine lv_iload_n hx hb dX0_mend_35 rfl (lv_at hl 2 rfl) ?_
          obtain ⟨u36, hu36, hf⟩ := z_ob_some hf
          have hPc := hP.sub (ws' := (wX0 cy h q2 q3 q4 q5 q6 q7 q8 q9 c0 c1 c2 c3 u24.2.1 u24.2.2.1 u24.2.2.2.1 u24.2.2.2.2 c8 c9 c10 c11)) [0, 1, 2, 3, 4, 5, 6, 7, 8] rfl
          have hDc := hD.sub (ws' := (wX0 cy h q2 q3 q4 q5 q6 q7 q8 q9 c0 c1 c2 c3 u24.2.1 u24.2.2.1 u24.2.2.2.1 u24.2.2.2.2 c8 c9 c10 c11)) [0, 1, 2, 3, 4, 5, 6, 7, 8] (by decide) rfl
          have hKc := hK.sub (tys' := [(cy, .int)]) [0] rfl
          have hFc := va_free (wc := (wX0 cy h q2 q3 q4 q5 q6 q7 q8 q9 c0 c1 c2 c3 u24.2.1 u24.2.2.1 u24.2.2.2.1 u24.2.2.2.2 c8 c9 c10 c11)) hD hS hA [0, 1, 2, 3, 4, 5, 6, 7, 8] rfl
          refine va_callv (va_runV (As := [.int a1]) (rest := []) ⟨hx, hb, hml, hown, hts⟩ (c_X0_findMends N l dC dI cy h q2 q3 q4 q5 q6 q7 q8 q9 H.size c0 c1 c2 c3 u24.2.1 u24.2.2.1 u24.2.2.2.1 u24.2.2.2.2 c8 c9 c10 c11 a1 u36 hu36) (cwV 1 hts gX0_mend_X0_findMends rfl rfl rfl (by decide +kernel) ⟨Nat.le_of_ble_eq_true rfl, Nat.le_of_ble_eq_true rfl⟩) ⟨fun a U g mk q => by obtain ⟨q0, q1, qP, qK, qD⟩ := q; exact ⟨q0, q1, qP, va_K.moved (u := U) (U := U.calling g mk a) (Vm.Alike.refl U.vm) qK, qD⟩, va_recv hKc hPc (ci := 0) (q0 := 0) rfl rfl, fun U hU hW => ⟨rfl, by rw [hU], by rw [hU]; exact hPc, va_K.moved hW.alike hKc, hDc.weaken (fun _ _ _ _ => trivial)⟩⟩ rfl rfl hl.1 rfl (lv_room (Nat.le_of_ble_eq_true rfl)) dX0_mend_36 ⟨Nat.zero_le _, Nat.zero_le _⟩) hS (fun q _ h => hFc q h) hFc (fun uu_ t H1 locs ht hvm hw hB hz1 hk1 hS => ?_)
          obtain ⟨hP1, -, hD1⟩ := hB
          rw [ht] at hP1
          obtain ⟨hP, hD⟩ := va_join (wr := []) (w1 := (wX0 cy h q2 q3 q4 q5 q6 q7 q8 q9 c0 c1 c2 c3 u24.2.1 u24.2.2.1 u24.2.2.2.1 u24.2.2.2.2 u36.1 u36.2.1 u36.2.2.1 u36.2.2.2)) hP hD [0, 1, 2, 3, 4, 5, 6, 7, 8] [] rfl rfl (by decide) (by decide) hk1 hFc hP1 hD1
          clear hk1 hz1 hP1 hD1 ht hPc hDc hFc
          generalize H1 = H at hP hS ⊢
          have hP : va_P (dC, dI) vwCl (wX0 cy h q2 q3 q4 q5 q6 q7 q8 q9 c0 c1 c2 c3 u24.2.1 u24.2.2.1 u24.2.2.2.1 u24.2.2.2.2 u36.1 u36.2.1 u36.2.2.1 u36.2.2.2) H := hP
          have hD : va_D A (wX0 cy h q2 q3 q4 q5 q6 q7 q8 q9 c0 c1 c2 c3 u24.2.1 u24.2.2.1 u24.2.2.2.1 u24.2.2.2.2 u36.1 u36.2.1 u36.2.2.1 u36.2.2.2) := hD
          refine lv_aload_n hx hb dX0_mend_39 rfl (lv_at hl 1 rfl) ?_
          refine va_get (D := (dC, dI)) (ci := 0) (v := .int u36.2.2.2) (C := RX0) (T := TX0) (N := 12) hx hb hts (by decide +kernel) hown hK hP 0 rfl rfl 11 (by decide) (hts (.fieldLink RX0 128 "GiftLots" "mendsFound" "I") (by decide +kernel)) (fun _ h9 => h9) rfl dX0_mend_40 ?_
          refine lv_if_ne (tgt := 51) hx hb dX0_mend_43 (by decide) (fun c_43 => ?_) (fun c_43 => ?_)
          · replace hf := (if_neg c_43).symm.trans hf
            refine lv_aload_n hx hb dX0_mend_51 rfl (lv_at hl 1 rfl) ?_
            refine va_get (D := (dC, dI)) (ci := 0) (v := .ref q9) (C := RX0) (T := TX0) (N := 12) hx hb hts (by decide +kernel) hown hK hP 0 rfl rfl 9 (by decide) (hts (.fieldLink RX0 31 "GiftLots" "firstMend" "[I") (by decide +kernel)) (fun _ h9 => h9) rfl dX0_mend_52 ?_
            refine lv_iload_n hx hb dX0_mend_55 rfl (lv_at hl 3 rfl) ?_
            obtain ⟨hi56, hf⟩ := z_gx_some hf
            refine va_iald hx hb hK hP 8 0 rfl rfl hi56 dX0_mend_56 ?_
            have hres := Option.some.inj hf
            subst hres
            have hP9 := hP.sub (ws' := (wX0 cy h q2 q3 q4 q5 q6 q7 q8 q9 c0 c1 c2 c3 u24.2.1 u24.2.2.1 u24.2.2.2.1 u24.2.2.2.2 u36.1 u36.2.1 u36.2.2.1 u36.2.2.2)) [0, 1, 2, 3, 4, 5, 6, 7, 8] rfl
            have hD9 := hD.sub (ws' := (wX0 cy h q2 q3 q4 q5 q6 q7 q8 q9 c0 c1 c2 c3 u24.2.1 u24.2.2.1 u24.2.2.2.1 u24.2.2.2.2 u36.1 u36.2.1 u36.2.2.1 u36.2.2.2)) [0, 1, 2, 3, 4, 5, 6, 7, 8] (by decide) rfl
            have hK9 := hK.sub (tys' := [(cy, .int)]) [0] rfl
            exact W.iret (v := u36.2.1 (a2).toNatClampNeg) hx hb hr (fun t ht hW => ⟨⟨u36.2.1 (a2).toNatClampNeg, (), rfl, rfl, by rw [ht]; exact hP9, va_K.moved hW.alike hK9, hD9⟩, hS.F ht⟩) hS.2.2 dX0_mend_57
          · replace hf := (if_pos c_43).symm.trans hf
            refine lv_bipush (v := (-6 : Int32)) hx hb dX0_mend_46 (by decide) ?_
            refine lv_goto (tgt := 57) hx hb dX0_mend_48 (by decide) ?_
            have hres := Option.some.inj hf
            subst hres
            have hP9 := hP.sub (ws' := (wX0 cy h q2 q3 q4 q5 q6 q7 q8 q9 c0 c1 c2 c3 u24.2.1 u24.2.2.1 u24.2.2.2.1 u24.2.2.2.2 u36.1 u36.2.1 u36.2.2.1 u36.2.2.2)) [0, 1, 2, 3, 4, 5, 6, 7, 8] rfl
            have hD9 := hD.sub (ws' := (wX0 cy h q2 q3 q4 q5 q6 q7 q8 q9 c0 c1 c2 c3 u24.2.1 u24.2.2.1 u24.2.2.2.1 u24.2.2.2.2 u36.1 u36.2.1 u36.2.2.1 u36.2.2.2)) [0, 1, 2, 3, 4, 5, 6, 7, 8] (by decide) rfl
            have hK9 := hK.sub (tys' := [(cy, .int)]) [0] rfl
            exact W.iret (v := (-6 : Int32)) hx hb hr (fun t ht hW => ⟨⟨(-6 : Int32), (), rfl, rfl, by rw [ht]; exact hP9, va_K.moved hW.alike hK9, hD9⟩, hS.F ht⟩) hS.2.2 dX0_mend_57
        · replace hf := (if_neg c_29).symm.trans hf
          refine lv_iload_n hx hb dX0_mend_32 rfl (lv_at hl 0 rfl) ?_
          have hres := Option.some.inj hf
          subst hres
          have hP9 := hP.sub (ws' := (wX0 cy h q2 q3 q4 q5 q6 q7 q8 q9 c0 c1 c2 c3 u24.2.1 u24.2.2.1 u24.2.2.2.1 u24.2.2.2.2 c8 c9 c10 c11)) [0, 1, 2, 3, 4, 5, 6, 7, 8] rfl
          have hD9 := hD.sub (ws' := (wX0 cy h q2 q3 q4 q5 q6 q7 q8 q9 c0 c1 c2 c3 u24.2.1 u24.2.2.1 u24.2.2.2.1 u24.2.2.2.2 c8 c9 c10 c11)) [0, 1, 2, 3, 4, 5, 6, 7, 8] (by decide) rfl
          have hK9 := hK.sub (tys' := [(cy, .int)]) [0] rfl
          exact W.iret (v := u24.1) hx hb hr (fun t ht hW => ⟨⟨u24.1, (), rfl, rfl, by rw [ht]; exact hP9, va_K.moved hW.alike hK9, hD9⟩, hS.F ht⟩) hS.2.2 dX0_mend_33
      · replace hf := (if_pos c_18).symm.trans hf
        refine lv_iconst (v := (-1 : Int32)) hx hb dX0_mend_21 (by decide) ?_
        have hres := Option.some.inj hf
        subst hres
        have hP9 := hP.sub (ws' := (wX0 cy h q2 q3 q4 q5 q6 q7 q8 q9 c0 c1 c2 c3 c4 c5 c6 c7 c8 c9 c10 c11)) [0, 1, 2, 3, 4, 5, 6, 7, 8] rfl
        have hD9 := hD.sub (ws' := (wX0 cy h q2 q3 q4 q5 q6 q7 q8 q9 c0 c1 c2 c3 c4 c5 c6 c7 c8 c9 c10 c11)) [0, 1, 2, 3, 4, 5, 6, 7, 8] (by decide) rfl
        have hK9 := hK.sub (tys' := [(cy, .int)]) [0] rfl
        exact W.iret (v := (-1 : Int32)) hx hb hr (fun t ht hW => ⟨⟨(-1 : Int32), (), rfl, rfl, by rw [ht]; exact hP9, va_K.moved hW.alike hK9, hD9⟩, hS.F ht⟩) hS.2.2 dX0_mend_22

theorem dX0_countGivers_0 : decode cX0_countGivers 0 = .ok (.iconst 0, 1) := by decide +kernel
theorem dX0_countGivers_1 : decode cX0_countGivers 1 = .ok (.istore_n 1, 1) := by decide +kernel
theorem dX0_countGivers_2 : decode cX0_countGivers 2 = .ok (.iconst 0, 1) := by decide +kernel
theorem dX0_countGivers_3 : decode cX0_countGivers 3 = .ok (.istore_n 2, 1) := by decide +kernel
theorem dX0_countGivers_4 : decode cX0_countGivers 4 = .ok (.iload_n 2, 1) := by decide +kernel
theorem dX0_countGivers_5 : decode cX0_countGivers 5 = .ok (.aload_n 0, 1) := by decide +kernel
theorem dX0_countGivers_6 : decode cX0_countGivers 6 = .ok (.getfield 38, 3) := by decide +kernel
theorem dX0_countGivers_9 : decode cX0_countGivers 9 = .ok (.if_icmp .ge 23, 3) := by decide +kernel
theorem dX0_countGivers_12 : decode cX0_countGivers 12 = .ok (.aload_n 0, 1) := by decide +kernel
theorem dX0_countGivers_13 : decode cX0_countGivers 13 = .ok (.getfield 13, 3) := by decide +kernel
theorem dX0_countGivers_16 : decode cX0_countGivers 16 = .ok (.iload_n 2, 1) := by decide +kernel
theorem dX0_countGivers_17 : decode cX0_countGivers 17 = .ok (.iaload, 1) := by decide +kernel
theorem dX0_countGivers_18 : decode cX0_countGivers 18 = .ok (.bipush (-6), 2) := by decide +kernel
theorem dX0_countGivers_20 : decode cX0_countGivers 20 = .ok (.if_icmp .eq 6, 3) := by decide +kernel
theorem dX0_countGivers_23 : decode cX0_countGivers 23 = .ok (.iinc 1 1, 3) := by decide +kernel
theorem dX0_countGivers_26 : decode cX0_countGivers 26 = .ok (.iinc 2 1, 3) := by decide +kernel
theorem dX0_countGivers_29 : decode cX0_countGivers 29 = .ok (.goto (-25), 3) := by decide +kernel
theorem dX0_countGivers_32 : decode cX0_countGivers 32 = .ok (.iload_n 1, 1) := by decide +kernel
theorem dX0_countGivers_33 : decode cX0_countGivers 33 = .ok (.ireturn, 1) := by decide +kernel
abbrev rm_X0_countGivers : Room := { frames := 0, cells := 0, slots := 0, locals := 0 }
set_option maxHeartbeats 4000000 in
set_option maxRecDepth 100000 in
theorem c_X0_countGivers (N : Nat) (l : Launch) (dC : Nat → ClassId) (dI : Nat → Nat → Nat) (cy : ClassId) (h q2 q3 q4 q5 q6 q7 q8 q9 : Nat) (sz : Nat) (c0 : Int32) (c1 : Int32) (c2 : Nat → Int32) (c3 : Nat → Int32) (c4 : Nat → Int32) (c5 : Nat → Int32) (c6 : Nat → Int32) (c7 : Nat → Int32) (c8 : Nat → Int32) (c9 : Nat → Int32) (c10 : Int32) (c11 : Int32) (res : Int32) (hf : f_X0_countGivers N c0 c3 = some res) : Met l yX0_countGivers wsX0_countGivers rm_X0_countGivers (va_Pc [.ref h] (fun U => U.heap.size = sz ∧ va_P (dC, dI) vwCl (wX0 cy h q2 q3 q4 q5 q6 q7 q8 q9 c0 c1 c2 c3 c4 c5 c6 c7 c8 c9 c10 c11) U.heap ∧ va_K (dC, dI) vwCl [(cy, .int)] U ∧ va_D (fun _ => True) (wX0 cy h q2 q3 q4 q5 q6 q7 q8 q9 c0 c1 c2 c3 c4 c5 c6 c7 c8 c9 c10 c11))) (z_qI dC dI cy res (wX0 cy h q2 q3 q4 q5 q6 q7 q8 q9 c0 c1 c2 c3 c4 c5 c6 c7 c8 c9 c10 c11) (va_A (wX0 cy h q2 q3 q4 q5 q6 q7 q8 q9 c0 c1 c2 c3 c4 c5 c6 c7 c8 c9 c10 c11) sz)) 0 0 (va_A (wX0 cy h q2 q3 q4 q5 q6 q7 q8 q9 c0 c1 c2 c3 c4 c5 c6 c7 c8 c9 c10 c11) sz) := by
  refine Met.ofW (cc := cX0_countGivers) (maxL := 3) (ret := (some .int)) (by decide) rfl ?_
  intro p e s m args below meth c s₁ B hml hv
  obtain ⟨rfl, hsz, hP, hK, hD0⟩ := hv
  have hx := B.exec
  have hb := B.bytes
  have hr := B.returns
  have hts := atoms_spec (ws := wsX0_countGivers) B.pre
  have hown : s.vm.findClass RX0 = some m.cls := findClass_of_methodNamed B.named
  have hlocks := B.notSynchronized
  subst hsz
  have hD := hD0.self (sz := s.heap.size)
  generalize hAe : va_A (wX0 cy h q2 q3 q4 q5 q6 q7 q8 q9 c0 c1 c2 c3 c4 c5 c6 c7 c8 c9 c10 c11) s.heap.size = A at hD ⊢
  have hA : ∀ q : Nat, s.heap.size ≤ q → A q := fun q h => by rw [← hAe]; exact Or.inr h
  have hS : va_S A s.heap s.heap [] := va_S.rf
  have hP : va_P (dC, dI) vwCl (wX0 cy h q2 q3 q4 q5 q6 q7 q8 q9 c0 c1 c2 c3 c4 c5 c6 c7 c8 c9 c10 c11) s.heap := hP
  have hl := lv_entry ([.ref h]) (n := 3) (Nat.le_of_ble_eq_true rfl)
  rw [lg_entry_eq]
  generalize (lg_sl ([.ref h]) ++ List.replicate (3 - (lg_sl ([.ref h])).length) Slot.unset).toArray = ls at hl ⊢
  have hl : lv_has ls 3 [(0, .ref h)] := hl
  have B26 : ∀ (r4 : Int32 → Int32 → Option (Int32)), (∀ (x1 x2 : Int32) (H : Heap) (locs : List Loc) (ls : Array Slot), r4 x1 x2 = some res → va_P (dC, dI) vwCl (wX0 cy h q2 q3 q4 q5 q6 q7 q8 q9 c0 c1 c2 c3 c4 c5 c6 c7 c8 c9 c10 c11) H → va_D A (wX0 cy h q2 q3 q4 q5 q6 q7 q8 q9 c0 c1 c2 c3 c4 c5 c6 c7 c8 c9 c10 c11) → va_S A s.heap H locs → lv_has ls 3 [(0, .ref h), (1, .int x1), (2, .int x2)] → W p l e rm_X0_countGivers s m ([.ref h] : List Value).toArray below meth c H locs 0 0 (MQ below (z_qI dC dI cy res (wX0 cy h q2 q3 q4 q5 q6 q7 q8 q9 c0 c1 c2 c3 c4 c5 c6 c7 c8 c9 c10 c11) A) ([.ref h] : List Value).toArray s 0 0 A) (F0 m 4 ls [])) → ∀ (x1 x2 : Int32) (H : Heap) (locs : List Loc) (ls : Array Slot), f_X0_countGivers_b26 N c0 c3 r4 x1 x2 = some res → va_P (dC, dI) vwCl (wX0 cy h q2 q3 q4 q5 q6 q7 q8 q9 c0 c1 c2 c3 c4 c5 c6 c7 c8 c9 c10 c11) H → va_D A (wX0 cy h q2 q3 q4 q5 q6 q7 q8 q9 c0 c1 c2 c3 c4 c5 c6 c7 c8 c9 c10 c11) → va_S A s.heap H locs → lv_has ls 3 [(0, .ref h), (1, .int x1), (2, .int x2)] → W p l e rm_X0_countGivers s m ([.ref h] : List Value).toArray below meth c H locs 0 0 (MQ below (z_qI dC dI cy res (wX0 cy h q2 q3 q4 q5 q6 q7 q8 q9 c0 c1 c2 c3 c4 c5 c6 c7 c8 c9 c10 c11) A) ([.ref h] : List Value).toArray s 0 0 A) (F0 m 26 ls []) := by
    clear hf hl hP hD hS
    intro r4 hr4
    intro x1 x2 H locs ls hf hP hD hS hl
    unfold f_X0_countGivers_b26 at hf
    refine lv_iinc (v := x2 + (1 : Int32)) (lv' := [(2, .int (x2 + (1 : Int32))), (0, .ref h), (1, .int x1)]) hx hb dX0_countGivers_26 hl (k := 2) rfl rfl (by decide) rfl (fun ls hl => ?_)
    refine lv_goto (tgt := 4) hx hb dX0_countGivers_29 (by decide) ?_
    exact hr4 x1 (x2 + (1 : Int32)) _ _ _ hf hP hD hS (lv_sub hl [1, 2, 0] rfl)
  have B4 : ∀ n : Nat, ∀ (x1 x2 : Int32) (H : Heap) (locs : List Loc) (ls : Array Slot), f_X0_countGivers_b4 N c0 c3 n x1 x2 = some res → va_P (dC, dI) vwCl (wX0 cy h q2 q3 q4 q5 q6 q7 q8 q9 c0 c1 c2 c3 c4 c5 c6 c7 c8 c9 c10 c11) H → va_D A (wX0 cy h q2 q3 q4 q5 q6 q7 q8 q9 c0 c1 c2 c3 c4 c5 c6 c7 c8 c9 c10 c11) → va_S A s.heap H locs → lv_has ls 3 [(0, .ref h), (1, .int x1), (2, .int x2)] → W p l e rm_X0_countGivers s m ([.ref h] : List Value).toArray below meth c H locs 0 0 (MQ below (z_qI dC dI cy res (wX0 cy h q2 q3 q4 q5 q6 q7 q8 q9 c0 c1 c2 c3 c4 c5 c6 c7 c8 c9 c10 c11) A) ([.ref h] : List Value).toArray s 0 0 A) (F0 m 4 ls []) := by
    clear hf hl hP hD hS
    intro n
    induction n with
    | zero =>
      intro x1 x2 H locs ls hf hP hD hS hl
      rw [f_X0_countGivers_b4] at hf
      cases hf
    | succ n ih =>
      intro x1 x2 H locs ls hf hP hD hS hl
      rw [f_X0_countGivers_b4] at hf
      refine lv_iload_n hx hb dX0_countGivers_4 rfl (lv_at hl 2 rfl) ?_
      refine lv_aload_n hx hb dX0_countGivers_5 rfl (lv_at hl 0 rfl) ?_
      refine va_get (D := (dC, dI)) (ci := 0) (v := .int c0) (C := RX0) (T := TX0) (N := 12) hx hb hts (by decide +kernel) hown hK hP 0 rfl rfl 0 (by decide) (hts (.fieldLink RX0 38 "GiftLots" "count" "I") (by decide +kernel)) (fun _ h9 => h9) rfl dX0_countGivers_6 ?_
      refine lv_icmp_ge (tgt := 32) hx hb dX0_countGivers_9 (by decide) (fun c_9 => ?_) (fun c_9 => ?_)
      · replace hf := (if_pos c_9).symm.trans hf
        refine lv_iload_n hx hb dX0_countGivers_32 rfl (lv_at hl 1 rfl) ?_
        have hres := Option.some.inj hf
        subst hres
        have hP9 := hP.sub (ws' := (wX0 cy h q2 q3 q4 q5 q6 q7 q8 q9 c0 c1 c2 c3 c4 c5 c6 c7 c8 c9 c10 c11)) [0, 1, 2, 3, 4, 5, 6, 7, 8] rfl
        have hD9 := hD.sub (ws' := (wX0 cy h q2 q3 q4 q5 q6 q7 q8 q9 c0 c1 c2 c3 c4 c5 c6 c7 c8 c9 c10 c11)) [0, 1, 2, 3, 4, 5, 6, 7, 8] (by decide) rfl
        have hK9 := hK.sub (tys' := [(cy, .int)]) [0] rfl
        exact W.iret (v := x1) hx hb hr (fun t ht hW => ⟨⟨x1, (), rfl, rfl, by rw [ht]; exact hP9, va_K.moved hW.alike hK9, hD9⟩, hS.F ht⟩) hS.2.2 dX0_countGivers_33
      · replace hf := (if_neg c_9).symm.trans hf
        refine lv_aload_n hx hb dX0_countGivers_12 rfl (lv_at hl 0 rfl) ?_
        refine va_get (D := (dC, dI)) (ci := 0) (v := .ref q3) (C := RX0) (T := TX0) (N := 12) hx hb hts (by decide +kernel) hown hK hP 0 rfl rfl 3 (by decide) (hts (.fieldLink RX0 13 "GiftLots" "hand" "[I") (by decide +kernel)) (fun _ h9 => h9) rfl dX0_countGivers_13 ?_
        refine lv_iload_n hx hb dX0_countGivers_16 rfl (lv_at hl 2 rfl) ?_
        obtain ⟨hi17, hf⟩ := z_gx_some hf
        refine va_iald hx hb hK hP 2 0 rfl rfl hi17 dX0_countGivers_17 ?_
        refine lv_bipush (v := (-6 : Int32)) hx hb dX0_countGivers_18 (by decide) ?_
        refine lv_icmp_eq (tgt := 26) hx hb dX0_countGivers_20 (by decide) (fun c_20 => ?_) (fun c_20 => ?_)
        · replace hf := (if_pos c_20).symm.trans hf
          exact B26 (f_X0_countGivers_b4 N c0 c3 n) ih x1 x2 _ _ _ hf hP hD hS (lv_sub hl [0, 1, 2] rfl)
        · replace hf := (if_neg c_20).symm.trans hf
          refine lv_iinc (v := x1 + (1 : Int32)) (lv' := [(1, .int (x1 + (1 : Int32))), (0, .ref h), (2, .int x2)]) hx hb dX0_countGivers_23 hl (k := 1) rfl rfl (by decide) rfl (fun ls hl => ?_)
          exact B26 (f_X0_countGivers_b4 N c0 c3 n) ih (x1 + (1 : Int32)) x2 _ _ _ hf hP hD hS (lv_sub hl [1, 0, 2] rfl)
  unfold f_X0_countGivers at hf
  refine lv_iconst (v := (0 : Int32)) hx hb dX0_countGivers_0 (by decide) ?_
  refine lv_istore_n (lv' := [(1, .int (0 : Int32)), (0, .ref h)]) hx hb dX0_countGivers_1 rfl hl (by decide) rfl (fun ls hl => ?_)
  refine lv_iconst (v := (0 : Int32)) hx hb dX0_countGivers_2 (by decide) ?_
  refine lv_istore_n (lv' := [(2, .int (0 : Int32)), (1, .int (0 : Int32)), (0, .ref h)]) hx hb dX0_countGivers_3 rfl hl (by decide) rfl (fun ls hl => ?_)
  exact B4 N (0 : Int32) (0 : Int32) _ _ _ hf hP hD hS (lv_sub hl [2, 1, 0] rfl)

set_option maxRecDepth 20000 in
theorem ggX0_countPairs_J6_bitCount_0f7a4 : GoodIn wsX0_countPairs wsJ6_bitCount_0f7a4 := goodIn_r _ [6, 7, 8, 9] (by decide +kernel) (by decide +kernel)
set_option maxRecDepth 20000 in
theorem gX0_countPairs_J6_bitCount_0f7a4 : GoodIn wsX0_countPairs (va_wsS RX0 89 yJ6_bitCount_0f7a4 wsJ6_bitCount_0f7a4) := goodIn_app (goodIn_of _ (by decide +kernel)) ggX0_countPairs_J6_bitCount_0f7a4
theorem dX0_countPairs_0 : decode cX0_countPairs 0 = .ok (.iconst 0, 1) := by decide +kernel
theorem dX0_countPairs_1 : decode cX0_countPairs 1 = .ok (.istore_n 1, 1) := by decide +kernel
theorem dX0_countPairs_2 : decode cX0_countPairs 2 = .ok (.iconst 0, 1) := by decide +kernel
theorem dX0_countPairs_3 : decode cX0_countPairs 3 = .ok (.istore_n 2, 1) := by decide +kernel
theorem dX0_countPairs_4 : decode cX0_countPairs 4 = .ok (.iload_n 2, 1) := by decide +kernel
theorem dX0_countPairs_5 : decode cX0_countPairs 5 = .ok (.aload_n 0, 1) := by decide +kernel
theorem dX0_countPairs_6 : decode cX0_countPairs 6 = .ok (.getfield 38, 3) := by decide +kernel
theorem dX0_countPairs_9 : decode cX0_countPairs 9 = .ok (.if_icmp .ge 21, 3) := by decide +kernel
theorem dX0_countPairs_12 : decode cX0_countPairs 12 = .ok (.iload_n 1, 1) := by decide +kernel
theorem dX0_countPairs_13 : decode cX0_countPairs 13 = .ok (.aload_n 0, 1) := by decide +kernel
theorem dX0_countPairs_14 : decode cX0_countPairs 14 = .ok (.getfield 9, 3) := by decide +kernel
theorem dX0_countPairs_17 : decode cX0_countPairs 17 = .ok (.iload_n 2, 1) := by decide +kernel
theorem dX0_countPairs_18 : decode cX0_countPairs 18 = .ok (.iaload, 1) := by decide +kernel
theorem dX0_countPairs_19 : decode cX0_countPairs 19 = .ok (.invokestatic 89, 3) := by decide +kernel
theorem dX0_countPairs_22 : decode cX0_countPairs 22 = .ok (.iadd, 1) := by decide +kernel
theorem dX0_countPairs_23 : decode cX0_countPairs 23 = .ok (.istore_n 1, 1) := by decide +kernel
theorem dX0_countPairs_24 : decode cX0_countPairs 24 = .ok (.iinc 2 1, 3) := by decide +kernel
theorem dX0_countPairs_27 : decode cX0_countPairs 27 = .ok (.goto (-23), 3) := by decide +kernel
theorem dX0_countPairs_30 : decode cX0_countPairs 30 = .ok (.iload_n 1, 1) := by decide +kernel
theorem dX0_countPairs_31 : decode cX0_countPairs 31 = .ok (.ireturn, 1) := by decide +kernel
abbrev rm_X0_countPairs : Room := { frames := 1, cells := 0, slots := 0, locals := 20 }
set_option maxHeartbeats 4000000 in
set_option maxRecDepth 100000 in
theorem c_X0_countPairs (N : Nat) (l : Launch) (dC : Nat → ClassId) (dI : Nat → Nat → Nat) (cy : ClassId) (h q2 q3 q4 q5 q6 q7 q8 q9 : Nat) (sz : Nat) (c0 : Int32) (c1 : Int32) (c2 : Nat → Int32) (c3 : Nat → Int32) (c4 : Nat → Int32) (c5 : Nat → Int32) (c6 : Nat → Int32) (c7 : Nat → Int32) (c8 : Nat → Int32) (c9 : Nat → Int32) (c10 : Int32) (c11 : Int32) (res : Int32) (hf : f_X0_countPairs N c0 c2 = some res) : Met l yX0_countPairs wsX0_countPairs rm_X0_countPairs (va_Pc [.ref h] (fun U => U.heap.size = sz ∧ va_P (dC, dI) vwCl (wX0 cy h q2 q3 q4 q5 q6 q7 q8 q9 c0 c1 c2 c3 c4 c5 c6 c7 c8 c9 c10 c11) U.heap ∧ va_K (dC, dI) vwCl [(cy, .int)] U ∧ va_D (fun _ => True) (wX0 cy h q2 q3 q4 q5 q6 q7 q8 q9 c0 c1 c2 c3 c4 c5 c6 c7 c8 c9 c10 c11))) (z_qI dC dI cy res (wX0 cy h q2 q3 q4 q5 q6 q7 q8 q9 c0 c1 c2 c3 c4 c5 c6 c7 c8 c9 c10 c11) (va_A (wX0 cy h q2 q3 q4 q5 q6 q7 q8 q9 c0 c1 c2 c3 c4 c5 c6 c7 c8 c9 c10 c11) sz)) 0 0 (va_A (wX0 cy h q2 q3 q4 q5 q6 q7 q8 q9 c0 c1 c2 c3 c4 c5 c6 c7 c8 c9 c10 c11) sz) := by
  refine Met.ofW (cc := cX0_countPairs) (maxL := 3) (ret := (some .int)) (by decide) rfl ?_
  intro p e s m args below meth c s₁ B hml hv
  obtain ⟨rfl, hsz, hP, hK, hD0⟩ := hv
  have hx := B.exec
  have hb := B.bytes
  have hr := B.returns
  have hts := atoms_spec (ws := wsX0_countPairs) B.pre
  have hown : s.vm.findClass RX0 = some m.cls := findClass_of_methodNamed B.named
  have hlocks := B.notSynchronized
  subst hsz
  have hD := hD0.self (sz := s.heap.size)
  generalize hAe : va_A (wX0 cy h q2 q3 q4 q5 q6 q7 q8 q9 c0 c1 c2 c3 c4 c5 c6 c7 c8 c9 c10 c11) s.heap.size = A at hD ⊢
  have hA : ∀ q : Nat, s.heap.size ≤ q → A q := fun q h => by rw [← hAe]; exact Or.inr h
  have hS : va_S A s.heap s.heap [] := va_S.rf
  have hP : va_P (dC, dI) vwCl (wX0 cy h q2 q3 q4 q5 q6 q7 q8 q9 c0 c1 c2 c3 c4 c5 c6 c7 c8 c9 c10 c11) s.heap := hP
  have hl := lv_entry ([.ref h]) (n := 3) (Nat.le_of_ble_eq_true rfl)
  rw [lg_entry_eq]
  generalize (lg_sl ([.ref h]) ++ List.replicate (3 - (lg_sl ([.ref h])).length) Slot.unset).toArray = ls at hl ⊢
  have hl : lv_has ls 3 [(0, .ref h)] := hl
  have B4 : ∀ n : Nat, ∀ (x1 x2 : Int32) (H : Heap) (locs : List Loc) (ls : Array Slot), f_X0_countPairs_b4 N c0 c2 n x1 x2 = some res → va_P (dC, dI) vwCl (wX0 cy h q2 q3 q4 q5 q6 q7 q8 q9 c0 c1 c2 c3 c4 c5 c6 c7 c8 c9 c10 c11) H → va_D A (wX0 cy h q2 q3 q4 q5 q6 q7 q8 q9 c0 c1 c2 c3 c4 c5 c6 c7 c8 c9 c10 c11) → va_S A s.heap H locs → lv_has ls 3 [(0, .ref h), (1, .int x1), (2, .int x2)] → W p l e rm_X0_countPairs s m ([.ref h] : List Value).toArray below meth c H locs 0 0 (MQ below (z_qI dC dI cy res (wX0 cy h q2 q3 q4 q5 q6 q7 q8 q9 c0 c1 c2 c3 c4 c5 c6 c7 c8 c9 c10 c11) A) ([.ref h] : List Value).toArray s 0 0 A) (F0 m 4 ls []) := by
    clear hf hl hP hD hS
    intro n
    induction n with
    | zero =>
      intro x1 x2 H locs ls hf hP hD hS hl
      rw [f_X0_countPairs_b4] at hf
      cases hf
    | succ n ih =>
      intro x1 x2 H locs ls hf hP hD hS hl
      rw [f_X0_countPairs_b4] at hf
      refine lv_iload_n hx hb dX0_countPairs_4 rfl (lv_at hl 2 rfl) ?_
      refine lv_aload_n hx hb dX0_countPairs_5 rfl (lv_at hl 0 rfl) ?_
      refine va_get (D := (dC, dI)) (ci := 0) (v := .int c0) (C := RX0) (T := TX0) (N := 12) hx hb hts (by decide +kernel) hown hK hP 0 rfl rfl 0 (by decide) (hts (.fieldLink RX0 38 "GiftLots" "count" "I") (by decide +kernel)) (fun _ h9 => h9) rfl dX0_countPairs_6 ?_
      refine lv_icmp_ge (tgt := 30) hx hb dX0_countPairs_9 (by decide) (fun c_9 => ?_) (fun c_9 => ?_)
      · replace hf := (if_pos c_9).symm.trans hf
        refine lv_iload_n hx hb dX0_countPairs_30 rfl (lv_at hl 1 rfl) ?_
        have hres := Option.some.inj hf
        subst hres
        have hP9 := hP.sub (ws' := (wX0 cy h q2 q3 q4 q5 q6 q7 q8 q9 c0 c1 c2 c3 c4 c5 c6 c7 c8 c9 c10 c11)) [0, 1, 2, 3, 4, 5, 6, 7, 8] rfl
        have hD9 := hD.sub (ws' := (wX0 cy h q2 q3 q4 q5 q6 q7 q8 q9 c0 c1 c2 c3 c4 c5 c6 c7 c8 c9 c10 c11)) [0, 1, 2, 3, 4, 5, 6, 7, 8] (by decide) rfl
        have hK9 := hK.sub (tys' := [(cy, .int)]) [0] rfl
        exact W.iret (v := x1) hx hb hr (fun t ht hW => ⟨⟨x1, (), rfl, rfl, by rw [ht]; exact hP9, va_K.moved hW.alike hK9, hD9⟩, hS.F ht⟩) hS.2.2 dX0_countPairs_31
      · replace hf := (if_neg c_9).symm.trans hf
        refine lv_iload_n hx hb dX0_countPairs_12 rfl (lv_at hl 1 rfl) ?_
        refine lv_aload_n hx hb dX0_countPairs_13 rfl (lv_at hl 0 rfl) ?_
        refine va_get (D := (dC, dI)) (ci := 0) (v := .ref q2) (C := RX0) (T := TX0) (N := 12) hx hb hts (by decide +kernel) hown hK hP 0 rfl rfl 2 (by decide) (hts (.fieldLink RX0 9 "GiftLots" "board" "[I") (by decide +kernel)) (fun _ h9 => h9) rfl dX0_countPairs_14 ?_
        refine lv_iload_n hx hb dX0_countPairs_17 rfl (lv_at hl 2 rfl) ?_
        obtain ⟨hi18, hf⟩ := z_gx_some hf
        refine va_iald hx hb hK hP 1 0 rfl rfl hi18 dX0_countPairs_18 ?_
        obtain ⟨u19, hu19, hf⟩ := z_ob_some hf
        have hPc := hP.sub (ws' := ([] : va_W)) [] rfl
        have hDc := hD.sub (ws' := ([] : va_W)) [] (by decide) rfl
        have hKc := hK.sub (tys' := [(cy, .int)]) [0] rfl
        have hFc := va_free (wc := ([] : va_W)) hD hS hA [] rfl
        refine va_calli (va_runS (As := [.int (c2 (x2).toNatClampNeg)]) (rest := [.int x1]) ⟨hx, hb, hml, hown, hts⟩ (c_bitCount l dC dI cy H.size (c2 (x2).toNatClampNeg) u19 hu19) (va_cwS 1 hts gX0_countPairs_J6_bitCount_0f7a4 rfl rfl rfl (by decide +kernel) ⟨Nat.le_of_ble_eq_true rfl, Nat.le_of_ble_eq_true rfl⟩) ⟨fun a U g mk q => by obtain ⟨q0, q1, qP, qK, qD⟩ := q; exact ⟨q0, q1, qP, va_K.moved (u := U) (U := U.calling g mk a) (Vm.Alike.refl U.vm) qK, qD⟩, fun U hU hW => ⟨rfl, by rw [hU], by rw [hU]; exact hPc, va_K.moved hW.alike hKc, hDc.weaken (fun _ _ _ _ => trivial)⟩⟩ rfl rfl hl.1 rfl (lv_room (Nat.le_of_ble_eq_true rfl)) dX0_countPairs_19 ⟨Nat.zero_le _, Nat.zero_le _⟩) hS (fun q _ h => hFc q h) hFc (fun r_19 uu_ t H1 locs ht hvm hw hB hz1 hk1 hS => ?_)
        replace hw := hw.symm
        subst hw
        obtain ⟨hP1, -, hD1⟩ := hB
        rw [ht] at hP1
        obtain ⟨hP, hD⟩ := va_join (wr := (wX0 cy h q2 q3 q4 q5 q6 q7 q8 q9 c0 c1 c2 c3 c4 c5 c6 c7 c8 c9 c10 c11)) (w1 := []) hP hD [] [0, 1, 2, 3, 4, 5, 6, 7, 8] rfl rfl (by decide) (by decide) hk1 hFc hP1 hD1
        clear hk1 hz1 hP1 hD1 ht hPc hDc hFc
        generalize H1 = H at hP hS ⊢
        have hP : va_P (dC, dI) vwCl (wX0 cy h q2 q3 q4 q5 q6 q7 q8 q9 c0 c1 c2 c3 c4 c5 c6 c7 c8 c9 c10 c11) H := hP
        have hD : va_D A (wX0 cy h q2 q3 q4 q5 q6 q7 q8 q9 c0 c1 c2 c3 c4 c5 c6 c7 c8 c9 c10 c11) := hD
        refine lv_iadd hx hb dX0_countPairs_22 ?_
        refine lv_istore_n (lv' := [(1, .int (x1 + u19)), (0, .ref h), (2, .int x2)]) hx hb dX0_countPairs_23 rfl hl (by decide) rfl (fun ls hl => ?_)
        refine lv_iinc (v := x2 + (1 : Int32)) (lv' := [(2, .int (x2 + (1 : Int32))), (1, .int (x1 + u19)), (0, .ref h)]) hx hb dX0_countPairs_24 hl (k := 2) rfl rfl (by decide) rfl (fun ls hl => ?_)
        refine lv_goto (tgt := 4) hx hb dX0_countPairs_27 (by decide) ?_
        exact ih (x1 + u19) (x2 + (1 : Int32)) _ _ _ hf hP hD hS (lv_sub hl [2, 1, 0] rfl)
  unfold f_X0_countPairs at hf
  refine lv_iconst (v := (0 : Int32)) hx hb dX0_countPairs_0 (by decide) ?_
  refine lv_istore_n (lv' := [(1, .int (0 : Int32)), (0, .ref h)]) hx hb dX0_countPairs_1 rfl hl (by decide) rfl (fun ls hl => ?_)
  refine lv_iconst (v := (0 : Int32)) hx hb dX0_countPairs_2 (by decide) ?_
  refine lv_istore_n (lv' := [(2, .int (0 : Int32)), (1, .int (0 : Int32)), (0, .ref h)]) hx hb dX0_countPairs_3 rfl hl (by decide) rfl (fun ls hl => ?_)
  exact B4 N (0 : Int32) (0 : Int32) _ _ _ hf hP hD hS (lv_sub hl [2, 1, 0] rfl)

set_option maxRecDepth 20000 in
theorem ggX0_told_X0_countPairs : GoodIn wsX0_told wsX0_countPairs := goodIn_r _ [7, 1, 8, 9, 10, 11, 12, 13, 14, 15, 21, 22, 23, 24, 25, 26, 27, 28, 29, 30, 31, 32] (by decide +kernel) (by decide +kernel)
set_option maxRecDepth 20000 in
theorem gX0_told_X0_countPairs : GoodIn wsX0_told (wsV RX0 134 RX0 yX0_countPairs wsX0_countPairs) := goodIn_app (goodIn_of _ (by decide +kernel)) ggX0_told_X0_countPairs
set_option maxRecDepth 20000 in
theorem ggX0_told_X0_countGivers : GoodIn wsX0_told wsX0_countGivers := goodIn_r _ [19, 1, 20, 21, 22, 23, 24, 25, 26, 27, 28, 29, 30, 31, 32] (by decide +kernel) (by decide +kernel)
set_option maxRecDepth 20000 in
theorem gX0_told_X0_countGivers : GoodIn wsX0_told (wsV RX0 137 RX0 yX0_countGivers wsX0_countGivers) := goodIn_app (goodIn_of _ (by decide +kernel)) ggX0_told_X0_countGivers
theorem dX0_told_0 : decode cX0_told 0 = .ok (.iload_n 1, 1) := by decide +kernel
theorem dX0_told_1 : decode cX0_told 1 = .ok (.tableswitch 51 0 3 #[31, 36, 41, 46], 31) := by decide +kernel
theorem dX0_told_32 : decode cX0_told 32 = .ok (.aload_n 0, 1) := by decide +kernel
theorem dX0_told_33 : decode cX0_told 33 = .ok (.getfield 38, 3) := by decide +kernel
theorem dX0_told_36 : decode cX0_told 36 = .ok (.ireturn, 1) := by decide +kernel
theorem dX0_told_37 : decode cX0_told 37 = .ok (.aload_n 0, 1) := by decide +kernel
theorem dX0_told_38 : decode cX0_told 38 = .ok (.getfield 57, 3) := by decide +kernel
theorem dX0_told_41 : decode cX0_told 41 = .ok (.ireturn, 1) := by decide +kernel
theorem dX0_told_42 : decode cX0_told 42 = .ok (.aload_n 0, 1) := by decide +kernel
theorem dX0_told_43 : decode cX0_told 43 = .ok (.invokevirtual 134, 3) := by decide +kernel
theorem dX0_told_46 : decode cX0_told 46 = .ok (.ireturn, 1) := by decide +kernel
theorem dX0_told_47 : decode cX0_told 47 = .ok (.aload_n 0, 1) := by decide +kernel
theorem dX0_told_48 : decode cX0_told 48 = .ok (.invokevirtual 137, 3) := by decide +kernel
theorem dX0_told_51 : decode cX0_told 51 = .ok (.ireturn, 1) := by decide +kernel
theorem dX0_told_52 : decode cX0_told 52 = .ok (.bipush (-2), 2) := by decide +kernel
theorem dX0_told_54 : decode cX0_told 54 = .ok (.ireturn, 1) := by decide +kernel
abbrev rm_X0_told : Room := { frames := 2, cells := 0, slots := 0, locals := 42 }
set_option maxHeartbeats 4000000 in
set_option maxRecDepth 100000 in
theorem c_X0_told (N : Nat) (l : Launch) (dC : Nat → ClassId) (dI : Nat → Nat → Nat) (cy : ClassId) (h q2 q3 q4 q5 q6 q7 q8 q9 : Nat) (sz : Nat) (c0 : Int32) (c1 : Int32) (c2 : Nat → Int32) (c3 : Nat → Int32) (c4 : Nat → Int32) (c5 : Nat → Int32) (c6 : Nat → Int32) (c7 : Nat → Int32) (c8 : Nat → Int32) (c9 : Nat → Int32) (c10 : Int32) (c11 : Int32) (a1 : Int32) (res : Int32) (hf : f_X0_told N a1 c0 c1 c2 c3 = some res) : Met l yX0_told wsX0_told rm_X0_told (va_Pc [.ref h, .int a1] (fun U => U.heap.size = sz ∧ va_P (dC, dI) vwCl (wX0 cy h q2 q3 q4 q5 q6 q7 q8 q9 c0 c1 c2 c3 c4 c5 c6 c7 c8 c9 c10 c11) U.heap ∧ va_K (dC, dI) vwCl [(cy, .int)] U ∧ va_D (fun _ => True) (wX0 cy h q2 q3 q4 q5 q6 q7 q8 q9 c0 c1 c2 c3 c4 c5 c6 c7 c8 c9 c10 c11))) (z_qI dC dI cy res (wX0 cy h q2 q3 q4 q5 q6 q7 q8 q9 c0 c1 c2 c3 c4 c5 c6 c7 c8 c9 c10 c11) (va_A (wX0 cy h q2 q3 q4 q5 q6 q7 q8 q9 c0 c1 c2 c3 c4 c5 c6 c7 c8 c9 c10 c11) sz)) 0 0 (va_A (wX0 cy h q2 q3 q4 q5 q6 q7 q8 q9 c0 c1 c2 c3 c4 c5 c6 c7 c8 c9 c10 c11) sz) := by
  refine Met.ofW (cc := cX0_told) (maxL := 2) (ret := (some .int)) (by decide) rfl ?_
  intro p e s m args below meth c s₁ B hml hv
  obtain ⟨rfl, hsz, hP, hK, hD0⟩ := hv
  have hx := B.exec
  have hb := B.bytes
  have hr := B.returns
  have hts := atoms_spec (ws := wsX0_told) B.pre
  have hown : s.vm.findClass RX0 = some m.cls := findClass_of_methodNamed B.named
  have hlocks := B.notSynchronized
  subst hsz
  have hD := hD0.self (sz := s.heap.size)
  generalize hAe : va_A (wX0 cy h q2 q3 q4 q5 q6 q7 q8 q9 c0 c1 c2 c3 c4 c5 c6 c7 c8 c9 c10 c11) s.heap.size = A at hD ⊢
  have hA : ∀ q : Nat, s.heap.size ≤ q → A q := fun q h => by rw [← hAe]; exact Or.inr h
  have hS : va_S A s.heap s.heap [] := va_S.rf
  have hP : va_P (dC, dI) vwCl (wX0 cy h q2 q3 q4 q5 q6 q7 q8 q9 c0 c1 c2 c3 c4 c5 c6 c7 c8 c9 c10 c11) s.heap := hP
  have hl := lv_entry ([.ref h, .int a1]) (n := 2) (Nat.le_of_ble_eq_true rfl)
  rw [lg_entry_eq]
  generalize (lg_sl ([.ref h, .int a1]) ++ List.replicate (2 - (lg_sl ([.ref h, .int a1])).length) Slot.unset).toArray = ls at hl ⊢
  have hl : lv_has ls 2 [(0, .ref h), (1, .int a1)] := hl
  unfold f_X0_told at hf
  refine lv_iload_n hx hb dX0_told_0 rfl (lv_at hl 1 rfl) ?_
  by_cases c_1_0 : a1 = (0 : Int32)
  · replace hf := (if_pos c_1_0).symm.trans hf
    refine lv_tableIn (tgt := 32) hx hb dX0_told_1 (by rw [c_1_0]; decide) (by rw [c_1_0]; decide) (by rw [c_1_0]; rfl) (by decide) ?_
    refine lv_aload_n hx hb dX0_told_32 rfl (lv_at hl 0 rfl) ?_
    refine va_get (D := (dC, dI)) (ci := 0) (v := .int c0) (C := RX0) (T := TX0) (N := 12) hx hb hts (by decide +kernel) hown hK hP 0 rfl rfl 0 (by decide) (hts (.fieldLink RX0 38 "GiftLots" "count" "I") (by decide +kernel)) (fun _ h9 => h9) rfl dX0_told_33 ?_
    have hres := Option.some.inj hf
    subst hres
    have hP9 := hP.sub (ws' := (wX0 cy h q2 q3 q4 q5 q6 q7 q8 q9 c0 c1 c2 c3 c4 c5 c6 c7 c8 c9 c10 c11)) [0, 1, 2, 3, 4, 5, 6, 7, 8] rfl
    have hD9 := hD.sub (ws' := (wX0 cy h q2 q3 q4 q5 q6 q7 q8 q9 c0 c1 c2 c3 c4 c5 c6 c7 c8 c9 c10 c11)) [0, 1, 2, 3, 4, 5, 6, 7, 8] (by decide) rfl
    have hK9 := hK.sub (tys' := [(cy, .int)]) [0] rfl
    exact W.iret (v := c0) hx hb hr (fun t ht hW => ⟨⟨c0, (), rfl, rfl, by rw [ht]; exact hP9, va_K.moved hW.alike hK9, hD9⟩, hS.F ht⟩) hS.2.2 dX0_told_36
  replace hf := (if_neg c_1_0).symm.trans hf
  by_cases c_1_1 : a1 = (1 : Int32)
  · replace hf := (if_pos c_1_1).symm.trans hf
    refine lv_tableIn (tgt := 37) hx hb dX0_told_1 (by rw [c_1_1]; decide) (by rw [c_1_1]; decide) (by rw [c_1_1]; rfl) (by decide) ?_
    refine lv_aload_n hx hb dX0_told_37 rfl (lv_at hl 0 rfl) ?_
    refine va_get (D := (dC, dI)) (ci := 0) (v := .int c1) (C := RX0) (T := TX0) (N := 12) hx hb hts (by decide +kernel) hown hK hP 0 rfl rfl 1 (by decide) (hts (.fieldLink RX0 57 "GiftLots" "shortest" "I") (by decide +kernel)) (fun _ h9 => h9) rfl dX0_told_38 ?_
    have hres := Option.some.inj hf
    subst hres
    have hP9 := hP.sub (ws' := (wX0 cy h q2 q3 q4 q5 q6 q7 q8 q9 c0 c1 c2 c3 c4 c5 c6 c7 c8 c9 c10 c11)) [0, 1, 2, 3, 4, 5, 6, 7, 8] rfl
    have hD9 := hD.sub (ws' := (wX0 cy h q2 q3 q4 q5 q6 q7 q8 q9 c0 c1 c2 c3 c4 c5 c6 c7 c8 c9 c10 c11)) [0, 1, 2, 3, 4, 5, 6, 7, 8] (by decide) rfl
    have hK9 := hK.sub (tys' := [(cy, .int)]) [0] rfl
    exact W.iret (v := c1) hx hb hr (fun t ht hW => ⟨⟨c1, (), rfl, rfl, by rw [ht]; exact hP9, va_K.moved hW.alike hK9, hD9⟩, hS.F ht⟩) hS.2.2 dX0_told_41
  replace hf := (if_neg c_1_1).symm.trans hf
  by_cases c_1_2 : a1 = (2 : Int32)
  · replace hf := (if_pos c_1_2).symm.trans hf
    refine lv_tableIn (tgt := 42) hx hb dX0_told_1 (by rw [c_1_2]; decide) (by rw [c_1_2]; decide) (by rw [c_1_2]; rfl) (by decide) ?_
    refine lv_aload_n hx hb dX0_told_42 rfl (lv_at hl 0 rfl) ?_
    obtain ⟨u43, hu43, hf⟩ := z_ob_some hf
    have hPc := hP.sub (ws' := (wX0 cy h q2 q3 q4 q5 q6 q7 q8 q9 c0 c1 c2 c3 c4 c5 c6 c7 c8 c9 c10 c11)) [0, 1, 2, 3, 4, 5, 6, 7, 8] rfl
    have hDc := hD.sub (ws' := (wX0 cy h q2 q3 q4 q5 q6 q7 q8 q9 c0 c1 c2 c3 c4 c5 c6 c7 c8 c9 c10 c11)) [0, 1, 2, 3, 4, 5, 6, 7, 8] (by decide) rfl
    have hKc := hK.sub (tys' := [(cy, .int)]) [0] rfl
    have hFc := va_free (wc := (wX0 cy h q2 q3 q4 q5 q6 q7 q8 q9 c0 c1 c2 c3 c4 c5 c6 c7 c8 c9 c10 c11)) hD hS hA [0, 1, 2, 3, 4, 5, 6, 7, 8] rfl
    refine va_calli (va_runV (As := []) (rest := []) ⟨hx, hb, hml, hown, hts⟩ (c_X0_countPairs N l dC dI cy h q2 q3 q4 q5 q6 q7 q8 q9 s.heap.size c0 c1 c2 c3 c4 c5 c6 c7 c8 c9 c10 c11 u43 hu43) (cwV 0 hts gX0_told_X0_countPairs rfl rfl rfl (by decide +kernel) ⟨Nat.le_of_ble_eq_true rfl, Nat.le_of_ble_eq_true rfl⟩) ⟨fun a U g mk q => by obtain ⟨q0, q1, qP, qK, qD⟩ := q; exact ⟨q0, q1, qP, va_K.moved (u := U) (U := U.calling g mk a) (Vm.Alike.refl U.vm) qK, qD⟩, va_recv hKc hPc (ci := 0) (q0 := 0) rfl rfl, fun U hU hW => ⟨rfl, by rw [hU], by rw [hU]; exact hPc, va_K.moved hW.alike hKc, hDc.weaken (fun _ _ _ _ => trivial)⟩⟩ rfl rfl hl.1 rfl (lv_room (Nat.le_of_ble_eq_true rfl)) dX0_told_43 ⟨Nat.zero_le _, Nat.zero_le _⟩) hS (fun q _ h => hFc q h) hFc (fun r_43 uu_ t H1 locs ht hvm hw hB hz1 hk1 hS => ?_)
    replace hw := hw.symm
    subst hw
    obtain ⟨hP1, -, hD1⟩ := hB
    rw [ht] at hP1
    obtain ⟨hP, hD⟩ := va_join (wr := []) (w1 := (wX0 cy h q2 q3 q4 q5 q6 q7 q8 q9 c0 c1 c2 c3 c4 c5 c6 c7 c8 c9 c10 c11)) hP hD [0, 1, 2, 3, 4, 5, 6, 7, 8] [] rfl rfl (by decide) (by decide) hk1 hFc hP1 hD1
    clear hk1 hz1 hP1 hD1 ht hPc hDc hFc
    generalize H1 = H at hP hS ⊢
    have hP : va_P (dC, dI) vwCl (wX0 cy h q2 q3 q4 q5 q6 q7 q8 q9 c0 c1 c2 c3 c4 c5 c6 c7 c8 c9 c10 c11) H := hP
    have hD : va_D A (wX0 cy h q2 q3 q4 q5 q6 q7 q8 q9 c0 c1 c2 c3 c4 c5 c6 c7 c8 c9 c10 c11) := hD
    have hres := Option.some.inj hf
    subst hres
    have hP9 := hP.sub (ws' := (wX0 cy h q2 q3 q4 q5 q6 q7 q8 q9 c0 c1 c2 c3 c4 c5 c6 c7 c8 c9 c10 c11)) [0, 1, 2, 3, 4, 5, 6, 7, 8] rfl
    have hD9 := hD.sub (ws' := (wX0 cy h q2 q3 q4 q5 q6 q7 q8 q9 c0 c1 c2 c3 c4 c5 c6 c7 c8 c9 c10 c11)) [0, 1, 2, 3, 4, 5, 6, 7, 8] (by decide) rfl
    have hK9 := hK.sub (tys' := [(cy, .int)]) [0] rfl
    exact W.iret (v := u43) hx hb hr (fun t ht hW => ⟨⟨u43, (), rfl, rfl, by rw [ht]; exact hP9, va_K.moved hW.alike hK9, hD9⟩, hS.F ht⟩) hS.2.2 dX0_told_46
  replace hf := (if_neg c_1_2).symm.trans hf
  by_cases c_1_3 : a1 = (3 : Int32)
  · replace hf := (if_pos c_1_3).symm.trans hf
    refine lv_tableIn (tgt := 47) hx hb dX0_told_1 (by rw [c_1_3]; decide) (by rw [c_1_3]; decide) (by rw [c_1_3]; rfl) (by decide) ?_
    refine lv_aload_n hx hb dX0_told_47 rfl (lv_at hl 0 rfl) ?_
    obtain ⟨u48, hu48, hf⟩ := z_ob_some hf
    have hPc := hP.sub (ws' := (wX0 cy h q2 q3 q4 q5 q6 q7 q8 q9 c0 c1 c2 c3 c4 c5 c6 c7 c8 c9 c10 c11)) [0, 1, 2, 3, 4, 5, 6, 7, 8] rfl
    have hDc := hD.sub (ws' := (wX0 cy h q2 q3 q4 q5 q6 q7 q8 q9 c0 c1 c2 c3 c4 c5 c6 c7 c8 c9 c10 c11)) [0, 1, 2, 3, 4, 5, 6, 7, 8] (by decide) rfl
    have hKc := hK.sub (tys' := [(cy, .int)]) [0] rfl
    have hFc := va_free (wc := (wX0 cy h q2 q3 q4 q5 q6 q7 q8 q9 c0 c1 c2 c3 c4 c5 c6 c7 c8 c9 c10 c11)) hD hS hA [0, 1, 2, 3, 4, 5, 6, 7, 8] rfl
    refine va_calli (va_runV (As := []) (rest := []) ⟨hx, hb, hml, hown, hts⟩ (c_X0_countGivers N l dC dI cy h q2 q3 q4 q5 q6 q7 q8 q9 s.heap.size c0 c1 c2 c3 c4 c5 c6 c7 c8 c9 c10 c11 u48 hu48) (cwV 0 hts gX0_told_X0_countGivers rfl rfl rfl (by decide +kernel) ⟨Nat.le_of_ble_eq_true rfl, Nat.le_of_ble_eq_true rfl⟩) ⟨fun a U g mk q => by obtain ⟨q0, q1, qP, qK, qD⟩ := q; exact ⟨q0, q1, qP, va_K.moved (u := U) (U := U.calling g mk a) (Vm.Alike.refl U.vm) qK, qD⟩, va_recv hKc hPc (ci := 0) (q0 := 0) rfl rfl, fun U hU hW => ⟨rfl, by rw [hU], by rw [hU]; exact hPc, va_K.moved hW.alike hKc, hDc.weaken (fun _ _ _ _ => trivial)⟩⟩ rfl rfl hl.1 rfl (lv_room (Nat.le_of_ble_eq_true rfl)) dX0_told_48 ⟨Nat.zero_le _, Nat.zero_le _⟩) hS (fun q _ h => hFc q h) hFc (fun r_48 uu_ t H1 locs ht hvm hw hB hz1 hk1 hS => ?_)
    replace hw := hw.symm
    subst hw
    obtain ⟨hP1, -, hD1⟩ := hB
    rw [ht] at hP1
    obtain ⟨hP, hD⟩ := va_join (wr := []) (w1 := (wX0 cy h q2 q3 q4 q5 q6 q7 q8 q9 c0 c1 c2 c3 c4 c5 c6 c7 c8 c9 c10 c11)) hP hD [0, 1, 2, 3, 4, 5, 6, 7, 8] [] rfl rfl (by decide) (by decide) hk1 hFc hP1 hD1
    clear hk1 hz1 hP1 hD1 ht hPc hDc hFc
    generalize H1 = H at hP hS ⊢
    have hP : va_P (dC, dI) vwCl (wX0 cy h q2 q3 q4 q5 q6 q7 q8 q9 c0 c1 c2 c3 c4 c5 c6 c7 c8 c9 c10 c11) H := hP
    have hD : va_D A (wX0 cy h q2 q3 q4 q5 q6 q7 q8 q9 c0 c1 c2 c3 c4 c5 c6 c7 c8 c9 c10 c11) := hD
    have hres := Option.some.inj hf
    subst hres
    have hP9 := hP.sub (ws' := (wX0 cy h q2 q3 q4 q5 q6 q7 q8 q9 c0 c1 c2 c3 c4 c5 c6 c7 c8 c9 c10 c11)) [0, 1, 2, 3, 4, 5, 6, 7, 8] rfl
    have hD9 := hD.sub (ws' := (wX0 cy h q2 q3 q4 q5 q6 q7 q8 q9 c0 c1 c2 c3 c4 c5 c6 c7 c8 c9 c10 c11)) [0, 1, 2, 3, 4, 5, 6, 7, 8] (by decide) rfl
    have hK9 := hK.sub (tys' := [(cy, .int)]) [0] rfl
    exact W.iret (v := u48) hx hb hr (fun t ht hW => ⟨⟨u48, (), rfl, rfl, by rw [ht]; exact hP9, va_K.moved hW.alike hK9, hD9⟩, hS.F ht⟩) hS.2.2 dX0_told_51
  replace hf := (if_neg c_1_3).symm.trans hf
  refine lv_tableOut (tgt := 52) hx hb dX0_told_1 (z_sw3 c_1_0 c_1_1 c_1_2 c_1_3) (by decide) ?_
  refine lv_bipush (v := (-2 : Int32)) hx hb dX0_told_52 (by decide) ?_
  have hres := Option.some.inj hf
  subst hres
  have hP9 := hP.sub (ws' := (wX0 cy h q2 q3 q4 q5 q6 q7 q8 q9 c0 c1 c2 c3 c4 c5 c6 c7 c8 c9 c10 c11)) [0, 1, 2, 3, 4, 5, 6, 7, 8] rfl
  have hD9 := hD.sub (ws' := (wX0 cy h q2 q3 q4 q5 q6 q7 q8 q9 c0 c1 c2 c3 c4 c5 c6 c7 c8 c9 c10 c11)) [0, 1, 2, 3, 4, 5, 6, 7, 8] (by decide) rfl
  have hK9 := hK.sub (tys' := [(cy, .int)]) [0] rfl
  exact W.iret (v := (-2 : Int32)) hx hb hr (fun t ht hW => ⟨⟨(-2 : Int32), (), rfl, rfl, by rw [ht]; exact hP9, va_K.moved hW.alike hK9, hD9⟩, hS.F ht⟩) hS.2.2 dX0_told_54

