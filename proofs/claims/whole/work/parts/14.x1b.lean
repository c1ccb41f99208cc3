set_option maxRecDepth 20000 in
theorem ggX1_rounds_X1_all : GoodIn wsX1_rounds wsX1_all := goodIn_r _ [5, 6, 43, 44, 45, 46, 47, 48, 49, 50, 51, 52, 53] (by decide +kernel) (by decide +kernel)
set_option maxRecDepth 20000 in
theorem gX1_rounds_X1_all : GoodIn wsX1_rounds (wsV RX1 69 RX1 yX1_all wsX1_all) := goodIn_app (goodIn_of _ (by decide +kernel)) ggX1_rounds_X1_all
set_option maxRecDepth 20000 in
theorem ggX1_rounds_X1_start : GoodIn wsX1_rounds wsX1_start := goodIn_r _ [10, 11, 12, 13, 43, 44, 45, 46, 47, 48, 49, 50, 51, 52, 53] (by decide +kernel) (by decide +kernel)
set_option maxRecDepth 20000 in
theorem gX1_rounds_X1_start : GoodIn wsX1_rounds (wsV RX1 72 RX1 yX1_start wsX1_start) := goodIn_app (goodIn_of _ (by decide +kernel)) ggX1_rounds_X1_start
set_option maxRecDepth 20000 in
theorem ggX1_rounds_X1_next : GoodIn wsX1_rounds wsX1_next := goodIn_r _ [17, 6, 13, 18, 11, 12, 19, 20, 21, 4, 22, 23, 24, 25, 26, 27, 28, 29, 30, 31, 32, 33, 34, 35, 36, 37, 38, 43, 44, 45, 46, 47, 48, 49, 50, 51, 52, 53] (by decide +kernel) (by decide +kernel)
set_option maxRecDepth 20000 in
theorem gX1_rounds_X1_next : GoodIn wsX1_rounds (wsV RX1 76 RX1 yX1_next wsX1_next) := goodIn_app (goodIn_of _ (by decide +kernel)) ggX1_rounds_X1_next
set_option maxRecDepth 20000 in
theorem ggX1_rounds_X1_roundsNow : GoodIn wsX1_rounds wsX1_roundsNow := goodIn_r _ [42, 6, 13, 43, 44, 45, 46, 47, 48, 49, 50, 51, 52, 53] (by decide +kernel) (by decide +kernel)
set_option maxRecDepth 20000 in
theorem gX1_rounds_X1_roundsNow : GoodIn wsX1_rounds (wsV RX1 82 RX1 yX1_roundsNow wsX1_roundsNow) := goodIn_app (goodIn_of _ (by decide +kernel)) ggX1_rounds_X1_roundsNow
theorem dX1_rounds_0 : decode cX1_rounds 0 = .ok (.aload_n 0, 1) := by decide +kernel
theorem dX1_rounds_1 : decode cX1_rounds 1 = .ok (.aload_n 0, 1) := by decide +kernel
theorem dX1_rounds_2 : decode cX1_rounds 2 = .ok (.invokevirtual 69, 3) := by decide +kernel
theorem dX1_rounds_5 : decode cX1_rounds 5 = .ok (.iconst 0, 1) := by decide +kernel
theorem dX1_rounds_6 : decode cX1_rounds 6 = .ok (.invokevirtual 72, 3) := by decide +kernel
theorem dX1_rounds_9 : decode cX1_rounds 9 = .ok (.iconst 0, 1) := by decide +kernel
theorem dX1_rounds_10 : decode cX1_rounds 10 = .ok (.istore_n 2, 1) := by decide +kernel
theorem dX1_rounds_11 : decode cX1_rounds 11 = .ok (.aload_n 0, 1) := by decide +kernel
theorem dX1_rounds_12 : decode cX1_rounds 12 = .ok (.invokevirtual 76, 3) := by decide +kernel
theorem dX1_rounds_15 : decode cX1_rounds 15 = .ok (.ifCond .eq 22, 3) := by decide +kernel
theorem dX1_rounds_18 : decode cX1_rounds 18 = .ok (.iload_n 2, 1) := by decide +kernel
theorem dX1_rounds_19 : decode cX1_rounds 19 = .ok (.aload_n 0, 1) := by decide +kernel
theorem dX1_rounds_20 : decode cX1_rounds 20 = .ok (.invokevirtual 82, 3) := by decide +kernel
theorem dX1_rounds_23 : decode cX1_rounds 23 = .ok (.iload_n 1, 1) := by decide +kernel
theorem dX1_rounds_24 : decode cX1_rounds 24 = .ok (.if_icmp .ne 7, 3) := by decide +kernel
theorem dX1_rounds_27 : decode cX1_rounds 27 = .ok (.iconst 1, 1) := by decide +kernel
theorem dX1_rounds_28 : decode cX1_rounds 28 = .ok (.goto 4, 3) := by decide +kernel
theorem dX1_rounds_31 : decode cX1_rounds 31 = .ok (.iconst 0, 1) := by decide +kernel
theorem dX1_rounds_32 : decode cX1_rounds 32 = .ok (.iadd, 1) := by decide +kernel
theorem dX1_rounds_33 : decode cX1_rounds 33 = .ok (.istore_n 2, 1) := by decide +kernel
theorem dX1_rounds_34 : decode cX1_rounds 34 = .ok (.goto (-23), 3) := by decide +kernel
theorem dX1_rounds_37 : decode cX1_rounds 37 = .ok (.iload_n 2, 1) := by decide +kernel
theorem dX1_rounds_38 : decode cX1_rounds 38 = .ok (.ireturn, 1) := by decide +kernel
abbrev rm_X1_rounds : Room := { frames := 3, cells := 0, slots := 0, locals := 70 }
set_option maxHeartbeats 4000000 in
set_option maxRecDepth 100000 in
theorem c_X1_rounds (N : Nat) (l : Launch) (dC : Nat → ClassId) (dI : Nat → Nat → Nat) (cy : ClassId) (h q2 q3 q6 q7 q10 : Nat) (sz : Nat) (c0 : Int32) (c1 : Int32) (c2 : Nat → Int32) (c3 : Nat → Int32) (c4 : Int32) (c5 : Int32) (c6 : Nat → Int32) (c7 : Nat → Int32) (c8 : Int32) (c9 : Int32) (c10 : Nat → Int32) (a1 : Int32) (res : Int32 × Int32 × Int32 × (Nat → Int32)) (hf : f_X1_rounds N a1 c0 c1 c2 c4 c5 c6 = some res) : Met l yX1_rounds wsX1_rounds rm_X1_rounds (va_Pc [.ref h, .int a1] (fun U => U.heap.size = sz ∧ va_P (dC, dI) vwCl (wX1 cy h q2 q3 q6 q7 q10 c0 c1 c2 c3 c4 c5 c6 c7 c8 c9 c10) U.heap ∧ va_K (dC, dI) vwCl [(cy, .int)] U ∧ va_D (fun _ => True) (wX1 cy h q2 q3 q6 q7 q10 c0 c1 c2 c3 c4 c5 c6 c7 c8 c9 c10))) (z_qI dC dI cy res.1 (wX1 cy h q2 q3 q6 q7 q10 c0 c1 c2 c3 res.2.1 res.2.2.1 res.2.2.2 c7 c8 c9 c10) (va_A (wX1 cy h q2 q3 q6 q7 q10 c0 c1 c2 c3 c4 c5 c6 c7 c8 c9 c10) sz)) 0 0 (va_A (wX1 cy h q2 q3 q6 q7 q10 c0 c1 c2 c3 c4 c5 c6 c7 c8 c9 c10) sz) := by
  refine Met.ofW (cc := cX1_rounds) (maxL := 3) (ret := (some .int)) (by decide) rfl ?_
  intro p e s m args below meth c s₁ B hml hv
  obtain ⟨rfl, hsz, hP, hK, hD0⟩ := hv
  have hx := B.exec
  have hb := B.bytes
  have hr := B.returns
  have hts := atoms_spec (ws := wsX1_rounds) B.pre
  have hown : s.vm.findClass RX1 = some m.cls := findClass_of_methodNamed B.named
  have hlocks := B.notSynchronized
  subst hsz
  have hD := hD0.self (sz := s.heap.size)
  generalize hAe : va_A (wX1 cy h q2 q3 q6 q7 q10 c0 c1 c2 c3 c4 c5 c6 c7 c8 c9 c10) s.heap.size = A at hD ⊢
  have hA : ∀ q : Nat, s.heap.size ≤ q → A q := fun q h => by rw [← hAe]; exact Or.inr h
  have hS : va_S A s.heap s.heap [] := va_S.rf
  have hP : va_P (dC, dI) vwCl (wX1 cy h q2 q3 q6 q7 q10 c0 c1 c2 c3 c4 c5 c6 c7 c8 c9 c10) s.heap := hP
  have hl := lv_entry ([.ref h, .int a1]) (n := 3) (Nat.le_of_ble_eq_true rfl)
  rw [lg_entry_eq]
  generalize (lg_sl ([.ref h, .int a1]) ++ List.replicate (3 - (lg_sl ([.ref h, .int a1])).length) Slot.unset).toArray = ls at hl ⊢
  have hl : lv_has ls 3 [(0, .ref h), (1, .int a1)] := hl
  have B32 : ∀ (r11 : Int32 → Int32 → Int32 → Int32 → (Nat → Int32) → Option (Int32 × Int32 × Int32 × (Nat → Int32))), (∀ (x1 x2 : Int32) (c4 : Int32) (c5 : Int32) (c6 : Nat → Int32) (H : Heap) (locs : List Loc) (ls : Array Slot), r11 x1 x2 c4 c5 c6 = some res → va_P (dC, dI) vwCl (wX1 cy h q2 q3 q6 q7 q10 c0 c1 c2 c3 c4 c5 c6 c7 c8 c9 c10) H → va_D A (wX1 cy h q2 q3 q6 q7 q10 c0 c1 c2 c3 c4 c5 c6 c7 c8 c9 c10) → va_S A s.heap H locs → lv_has ls 3 [(0, .ref h), (1, .int x1), (2, .int x2)] → W p l e rm_X1_rounds s m ([.ref h, .int a1] : List Value).toArray below meth c H locs 0 0 (MQ below (z_qI dC dI cy res.1 (wX1 cy h q2 q3 q6 q7 q10 c0 c1 c2 c3 res.2.1 res.2.2.1 res.2.2.2 c7 c8 c9 c10) A) ([.ref h, .int a1] : List Value).toArray s 0 0 A) (F0 m 11 ls [])) → ∀ (x1 t0 t1 : Int32) (c4 : Int32) (c5 : Int32) (c6 : Nat → Int32) (H : Heap) (locs : List Loc) (ls : Array Slot), f_X1_rounds_b32 N c0 c1 c2 r11 x1 t0 t1 c4 c5 c6 = some res → va_P (dC, dI) vwCl (wX1 cy h q2 q3 q6 q7 q10 c0 c1 c2 c3 c4 c5 c6 c7 c8 c9 c10) H → va_D A (wX1 cy h q2 q3 q6 q7 q10 c0 c1 c2 c3 c4 c5 c6 c7 c8 c9 c10) → va_S A s.heap H locs → lv_has ls 3 [(0, .ref h), (1, .int x1)] → W p l e rm_X1_rounds s m ([.ref h, .int a1] : List Value).toArray below meth c H locs 0 0 (MQ below (z_qI dC dI cy res.1 (wX1 cy h q2 q3 q6 q7 q10 c0 c1 c2 c3 res.2.1 res.2.2.1 res.2.2.2 c7 c8 c9 c10) A) ([.ref h, .int a1] : List Value).toArray s 0 0 A) (F0 m 32 ls [.int t1, .int t0]) := by
    clear hf hl hP hD hS
    intro r11 hr11
    intro x1 t0 t1 c4 c5 c6 H locs ls hf hP hD hS hl
    unfold f_X1_rounds_b32 at hf
    refine lv_iadd hx hb dX1_rounds_32 ?_
    refine lv_istore_n (lv' := [(2, .int (t0 + t1)), (0, .ref h), (1, .int x1)]) hx hb dX1_rounds_33 rfl hl (by decide) rfl (fun ls hl => ?_)
    refine lv_goto (tgt := 11) hx hb dX1_rounds_34 (by decide) ?_
    exact hr11 x1 (t0 + t1) c4 c5 c6 _ _ _ hf hP hD hS (lv_sub hl [1, 2, 0] rfl)
  have B11 : ∀ n : Nat, ∀ (x1 x2 : Int32) (c4 : Int32) (c5 : Int32) (c6 : Nat → Int32) (H : Heap) (locs : List Loc) (ls : Array Slot), f_X1_rounds_b11 N c0 c1 c2 n x1 x2 c4 c5 c6 = some res → va_P (dC, dI) vwCl (wX1 cy h q2 q3 q6 q7 q10 c0 c1 c2 c3 c4 c5 c6 c7 c8 c9 c10) H → va_D A (wX1 cy h q2 q3 q6 q7 q10 c0 c1 c2 c3 c4 c5 c6 c7 c8 c9 c10) → va_S A s.heap H locs → lv_has ls 3 [(0, .ref h), (1, .int x1), (2, .int x2)] → W p l e rm_X1_rounds s m ([.ref h, .int a1] : List Value).toArray below meth c H locs 0 0 (MQ below (z_qI dC dI cy res.1 (wX1 cy h q2 q3 q6 q7 q10 c0 c1 c2 c3 res.2.1 res.2.2.1 res.2.2.2 c7 c8 c9 c10) A) ([.ref h, .int a1] : List Value).toArray s 0 0 A) (F0 m 11 ls []) := by
    clear hf hl hP hD hS
    intro n
    induction n with
    | zero =>
      intro x1 x2 c4 c5 c6 H locs ls hf hP hD hS hl
      rw [f_X1_rounds_b11] at hf
      cases hf
    | succ n ih =>
      intro x1 x2 c4 c5 c6 H locs ls hf hP hD hS hl
      rw [f_X1_rounds_b11] at hf
      refine lv_aload_n hx hb dX1_rounds_11 rfl (lv_at hl 0 rfl) ?_
      obtain ⟨u12, hu12, hf⟩ := z_ob_some hf
      have hPc := hP.sub (ws' := (wX1 cy h q2 q3 q6 q7 q10 c0 c1 c2 c3 c4 c5 c6 c7 c8 c9 c10)) [0, 1, 2, 3, 4, 5] rfl
      have hDc := hD.sub (ws' := (wX1 cy h q2 q3 q6 q7 q10 c0 c1 c2 c3 c4 c5 c6 c7 c8 c9 c10)) [0, 1, 2, 3, 4, 5] (by decide) rfl
      have hKc := hK.sub (tys' := [(cy, .int)]) [0] rfl
      have hFc := va_free (wc := (wX1 cy h q2 q3 q6 q7 q10 c0 c1 c2 c3 c4 c5 c6 c7 c8 c9 c10)) hD hS hA [0, 1, 2, 3, 4, 5] rfl
      refine va_calli (va_runV (As := []) (rest := []) ⟨hx, hb, hml, hown, hts⟩ (c_X1_next N l dC dI cy h q2 q3 q6 q7 q10 H.size c0 c1 c2 c3 c4 c5 c6 c7 c8 c9 c10 u12 hu12) (cwV 0 hts gX1_rounds_X1_next rfl rfl rfl (by decide +kernel) ⟨Nat.le_of_ble_eq_true rfl, Nat.le_of_ble_eq_true rfl⟩) ⟨fun a U g mk q => by obtain ⟨q0, q1, qP, qK, qD⟩ := q; exact ⟨q0, q1, qP, va_K.moved (u := U) (U := U.calling g mk a) (Vm.Alike.refl U.vm) qK, qD⟩, va_recv hKc hPc (ci := 1) (q0 := 0) rfl rfl, fun U hU hW => ⟨rfl, by rw [hU], by rw [hU]; exact hPc, va_K.moved hW.alike hKc, hDc.weaken (fun _ _ _ _ => trivial)⟩⟩ rfl rfl hl.1 rfl (lv_room (Nat.le_of_ble_eq_true rfl)) dX1_rounds_12 ⟨Nat.zero_le _, Nat.zero_le _⟩) hS (fun q _ h => hFc q h) hFc (fun r_12 uu_ t H1 locs ht hvm hw hB hz1 hk1 hS => ?_)
      replace hw := hw.symm
      subst hw
      obtain ⟨hP1, -, hD1⟩ := hB
      rw [ht] at hP1
      obtain ⟨hP, hD⟩ := va_join (wr := []) (w1 := (wX1 cy h q2 q3 q6 q7 q10 c0 c1 c2 c3 c4 c5 u12.2 c7 c8 c9 c10)) hP hD [0, 1, 2, 3, 4, 5] [] rfl rfl (by decide) (by decide) hk1 hFc hP1 hD1
      clear hk1 hz1 hP1 hD1 ht hPc hDc hFc
      generalize H1 = H at hP hS ⊢
      have hP : va_P (dC, dI) vwCl (wX1 cy h q2 q3 q6 q7 q10 c0 c1 c2 c3 c4 c5 u12.2 c7 c8 c9 c10) H := hP
      have hD : va_D A (wX1 cy h q2 q3 q6 q7 q10 c0 c1 c2 c3 c4 c5 u12.2 c7 c8 c9 c10) := hD
      refine lv_if_eq (tgt := 37) hx hb dX1_rounds_15 (by decide) (fun c_15 => ?_) (fun c_15 => ?_)
      · replace hf := (if_pos c_15).symm.trans hf
        refine lv_iload_n hx hb dX1_rounds_37 rfl (lv_at hl 2 rfl) ?_
        have hres := Option.some.inj hf
        subst hres
        have hP9 := hP.sub (ws' := (wX1 cy h q2 q3 q6 q7 q10 c0 c1 c2 c3 c4 c5 u12.2 c7 c8 c9 c10)) [0, 1, 2, 3, 4, 5] rfl
        have hD9 := hD.sub (ws' := (wX1 cy h q2 q3 q6 q7 q10 c0 c1 c2 c3 c4 c5 u12.2 c7 c8 c9 c10)) [0, 1, 2, 3, 4, 5] (by decide) rfl
        have hK9 := hK.sub (tys' := [(cy, .int)]) [0] rfl
        exact W.iret (v := x2) hx hb hr (fun t ht hW => ⟨⟨x2, (), rfl, rfl, by rw [ht]; exact hP9, va_K.moved hW.alike hK9, hD9⟩, hS.F ht⟩) hS.2.2 dX1_rounds_38
      · replace hf := (if_neg c_15).symm.trans hf
        refine lv_iload_n hx hb dX1_rounds_18 rfl (lv_at hl 2 rfl) ?_
        refine lv_aload_n hx hb dX1_rounds_19 rfl (lv_at hl 0 rfl) ?_
        obtain ⟨u20, hu20, hf⟩ := z_ob_some hf
        have hPc := hP.sub (ws' := (wX1 cy h q2 q3 q6 q7 q10 c0 c1 c2 c3 c4 c5 u12.2 c7 c8 c9 c10)) [0, 1, 2, 3, 4, 5] rfl
        have hDc := hD.sub (ws' := (wX1 cy h q2 q3 q6 q7 q10 c0 c1 c2 c3 c4 c5 u12.2 c7 c8 c9 c10)) [0, 1, 2, 3, 4, 5] (by decide) rfl
        have hKc := hK.sub (tys' := [(cy, .int)]) [0] rfl
        have hFc := va_free (wc := (wX1 cy h q2 q3 q6 q7 q10 c0 c1 c2 c3 c4 c5 u12.2 c7 c8 c9 c10)) hD hS hA [0, 1, 2, 3, 4, 5] rfl
        refine va_calli (va_runV (As := []) (rest := [.int x2]) ⟨hx, hb, hml, hown, hts⟩ (c_X1_roundsNow N l dC dI cy h q2 q3 q6 q7 q10 H.size c0 c1 c2 c3 c4 c5 u12.2 c7 c8 c9 c10 u20 hu20) (cwV 0 hts gX1_rounds_X1_roundsNow rfl rfl rfl (by decide +kernel) ⟨Nat.le_of_ble_eq_true rfl, Nat.le_of_ble_eq_true rfl⟩) ⟨fun a U g mk q => by obtain ⟨q0, q1, qP, qK, qD⟩ := q; exact ⟨q0, q1, qP, va_K.moved (u := U) (U := U.calling g mk a) (Vm.Alike.refl U.vm) qK, qD⟩, va_recv hKc hPc (ci := 1) (q0 := 0) rfl rfl, fun U hU hW => ⟨rfl, by rw [hU], by rw [hU]; exact hPc, va_K.moved hW.alike hKc, hDc.weaken (fun _ _ _ _ => trivial)⟩⟩ rfl rfl hl.1 rfl (lv_room (Nat.le_of_ble_eq_true rfl)) dX1_rounds_20 ⟨Nat.zero_le _, Nat.zero_le _⟩) hS (fun q _ h => hFc q h) hFc (fun r_20 uu_ t H1 locs ht hvm hw hB hz1 hk1 hS => ?_)
        replace hw := hw.symm
        subst hw
        obtain ⟨hP1, -, hD1⟩ := hB
        rw [ht] at hP1
        obtain ⟨hP, hD⟩ := va_join (wr := []) (w1 := (wX1 cy h q2 q3 q6 q7 q10 c0 c1 c2 c3 c4 c5 u12.2 c7 c8 c9 c10)) hP hD [0, 1, 2, 3, 4, 5] [] rfl rfl (by decide) (by decide) hk1 hFc hP1 hD1
        clear hk1 hz1 hP1 hD1 ht hPc hDc hFc
        generalize H1 = H at hP hS ⊢
        have hP : va_P (dC, dI) vwCl (wX1 cy h q2 q3 q6 q7 q10 c0 c1 c2 c3 c4 c5 u12.2 c7 c8 c9 c10) H := hP
        have hD : va_D A (wX1 cy h q2 q3 q6 q7 q10 c0 c1 c2 c3 c4 c5 u12.2 c7 c8 c9 c10) := hD
        refine lv_iload_n hx hb dX1_rounds_23 rfl (lv_at hl 1 rfl) ?_
        refine lv_icmp_ne (tgt := 31) hx hb dX1_rounds_24 (by decide) (fun c_24 => ?_) (fun c_24 => ?_)
        · replace hf := (if_neg c_24).symm.trans hf
          refine lv_iconst (v := (0 : Int32)) hx hb dX1_rounds_31 (by decide) ?_
          exact B32 (f_X1_rounds_b11 N c0 c1 c2 n) ih x1 x2 (0 : Int32) c4 c5 u12.2 _ _ _ hf hP hD hS (lv_sub hl [0, 1] rfl)
        · replace hf := (if_pos c_24).symm.trans hf
          refine lv_iconst (v := (1 : Int32)) hx hb dX1_rounds_27 (by decide) ?_
          refine lv_goto (tgt := 32) hx hb dX1_rounds_28 (by decide) ?_
          exact B32 (f_X1_rounds_b11 N c0 c1 c2 n) ih x1 x2 (1 : Int32) c4 c5 u12.2 _ _ _ hf hP hD hS (lv_sub hl [0, 1] rfl)
  unfold f_X1_rounds at hf
  refine lv_aload_n hx hb dX1_rounds_0 rfl (lv_at hl 0 rfl) ?_
  refine lv_aload_n hx hb dX1_rounds_1 rfl (lv_at hl 0 rfl) ?_
  obtain ⟨u2, hu2, hf⟩ := z_ob_some hf
  have hPc := hP.sub (ws' := (wX1 cy h q2 q3 q6 q7 q10 c0 c1 c2 c3 c4 c5 c6 c7 c8 c9 c10)) [0, 1, 2, 3, 4, 5] rfl
  have hDc := hD.sub (ws' := (wX1 cy h q2 q3 q6 q7 q10 c0 c1 c2 c3 c4 c5 c6 c7 c8 c9 c10)) [0, 1, 2, 3, 4, 5] (by decide) rfl
  have hKc := hK.sub (tys' := [(cy, .int)]) [0] rfl
  have hFc := va_free (wc := (wX1 cy h q2 q3 q6 q7 q10 c0 c1 c2 c3 c4 c5 c6 c7 c8 c9 c10)) hD hS hA [0, 1, 2, 3, 4, 5] rfl
  refine va_calli (va_runV (As := []) (rest := [.ref h]) ⟨hx, hb, hml, hown, hts⟩ (c_X1_all N l dC dI cy h q2 q3 q6 q7 q10 s.heap.size c0 c1 c2 c3 c4 c5 c6 c7 c8 c9 c10 u2 hu2) (cwV 0 hts gX1_rounds_X1_all rfl rfl rfl (by decide +kernel) ⟨Nat.le_of_ble_eq_true rfl, Nat.le_of_ble_eq_true rfl⟩) ⟨fun a U g mk q => by obtain ⟨q0, q1, qP, qK, qD⟩ := q; exact ⟨q0, q1, qP, va_K.moved (u := U) (U := U.calling g mk a) (Vm.Alike.refl U.vm) qK, qD⟩, va_recv hKc hPc (ci := 1) (q0 := 0) rfl rfl, fun U hU hW => ⟨rfl, by rw [hU], by rw [hU]; exact hPc, va_K.moved hW.alike hKc, hDc.weaken (fun _ _ _ _ => trivial)⟩⟩ rfl rfl hl.1 rfl (lv_room (Nat.le_of_ble_eq_true rfl)) dX1_rounds_2 ⟨Nat.zero_le _, Nat.zero_le _⟩) hS (fun q _ h => hFc q h) hFc (fun r_2 uu_ t H1 locs ht hvm hw hB hz1 hk1 hS => ?_)
  replace hw := hw.symm
  subst hw
  obtain ⟨hP1, -, hD1⟩ := hB
  rw [ht] at hP1
  obtain ⟨hP, hD⟩ := va_join (wr := []) (w1 := (wX1 cy h q2 q3 q6 q7 q10 c0 c1 c2 c3 c4 c5 c6 c7 c8 c9 c10)) hP hD [0, 1, 2, 3, 4, 5] [] rfl rfl (by decide) (by decide) hk1 hFc hP1 hD1
  clear hk1 hz1 hP1 hD1 ht hPc hDc hFc
  generalize H1 = H at hP hS ⊢
  have hP : va_P (dC, dI) vwCl (wX1 cy h q2 q3 q6 q7 q10 c0 c1 c2 c3 c4 c5 c6 c7 c8 c9 c10) H := hP
  have hD : va_D A (wX1 cy h q2 q3 q6 q7 q10 c0 c1 c2 c3 c4 c5 c6 c7 c8 c9 c10) := hD
  refine lv_iconst (v := (0 : Int32)) hx hb dX1_rounds_5 (by decide) ?_
  obtain ⟨u6, hu6, hf⟩ := z_ob_some hf
  have hPc := hP.sub (ws' := (wX1 cy h q2 q3 q6 q7 q10 c0 c1 c2 c3 c4 c5 c6 c7 c8 c9 c10)) [0, 1, 2, 3, 4, 5] rfl
  have hDc := hD.sub (ws' := (wX1 cy h q2 q3 q6 q7 q10 c0 c1 c2 c3 c4 c5 c6 c7 c8 c9 c10)) [0, 1, 2, 3, 4, 5] (by decide) rfl
  have hKc := hK.sub (tys' := [(cy, .int)]) [0] rfl
  have hFc := va_free (wc := (wX1 cy h q2 q3 q6 q7 q10 c0 c1 c2 c3 c4 c5 c6 c7 c8 c9 c10)) hD hS hA [0, 1, 2, 3, 4, 5] rfl
  refine va_callv (va_runV (As := [.int u2, .int (0 : Int32)]) (rest := []) ⟨hx, hb, hml, hown, hts⟩ (c_X1_start N l dC dI cy h q2 q3 q6 q7 q10 H.size c0 c1 c2 c3 c4 c5 c6 c7 c8 c9 c10 u2 (0 : Int32) u6 hu6) (cwV 2 hts gX1_rounds_X1_start rfl rfl rfl (by decide +kernel) ⟨Nat.le_of_ble_eq_true rfl, Nat.le_of_ble_eq_true rfl⟩) ⟨fun a U g mk q => by obtain ⟨q0, q1, qP, qK, qD⟩ := q; exact ⟨q0, q1, qP, va_K.moved (u := U) (U := U.calling g mk a) (Vm.Alike.refl U.vm) qK, qD⟩, va_recv hKc hPc (ci := 1) (q0 := 0) rfl rfl, fun U hU hW => ⟨rfl, by rw [hU], by rw [hU]; exact hPc, va_K.moved hW.alike hKc, hDc.weaken (fun _ _ _ _ => trivial)⟩⟩ rfl rfl hl.1 rfl (lv_room (Nat.le_of_ble_eq_true rfl)) dX1_rounds_6 ⟨Nat.zero_le _, Nat.zero_le _⟩) hS (fun q _ h => hFc q h) hFc (fun uu_ t H1 locs ht hvm hw hB hz1 hk1 hS => ?_)
  obtain ⟨hP1, -, hD1⟩ := hB
  rw [ht] at hP1
  obtain ⟨hP, hD⟩ := va_join (wr := []) (w1 := (wX1 cy h q2 q3 q6 q7 q10 c0 c1 c2 c3 u6.1 u6.2.1 u6.2.2 c7 c8 c9 c10)) hP hD [0, 1, 2, 3, 4, 5] [] rfl rfl (by decide) (by decide) hk1 hFc hP1 hD1
  clear hk1 hz1 hP1 hD1 ht hPc hDc hFc
  generalize H1 = H at hP hS ⊢
  have hP : va_P (dC, dI) vwCl (wX1 cy h q2 q3 q6 q7 q10 c0 c1 c2 c3 u6.1 u6.2.1 u6.2.2 c7 c8 c9 c10) H := hP
  have hD : va_D A (wX1 cy h q2 q3 q6 q7 q10 c0 c1 c2 c3 u6.1 u6.2.1 u6.2.2 c7 c8 c9 c10) := hD
  refine lv_iconst (v := (0 : Int32)) hx hb dX1_rounds_9 (by decide) ?_
  refine lv_istore_n (lv' := [(2, .int (0 : Int32)), (0, .ref h), (1, .int a1)]) hx hb dX1_rounds_10 rfl hl (by decide) rfl (fun ls hl => ?_)
  exact B11 N a1 (0 : Int32) u6.1 u6.2.1 u6.2.2 _ _ _ hf hP hD hS (lv_sub hl [1, 2, 0] rfl)

set_option maxRecDepth 20000 in
theorem ggX1_waysWith_X1_all : GoodIn wsX1_waysWith wsX1_all := goodIn_r _ [6, 7, 39, 40, 41, 42, 43, 44, 45, 46, 47, 48, 49] (by decide +kernel) (by decide +kernel)
set_option maxRecDepth 20000 in
theorem gX1_waysWith_X1_all : GoodIn wsX1_waysWith (wsV RX1 69 RX1 yX1_all wsX1_all) := goodIn_app (goodIn_of _ (by decide +kernel)) ggX1_waysWith_X1_all
set_option maxRecDepth 20000 in
theorem ggX1_waysWith_X1_start : GoodIn wsX1_waysWith wsX1_start := goodIn_r _ [11, 12, 13, 1, 39, 40, 41, 42, 43, 44, 45, 46, 47, 48, 49] (by decide +kernel) (by decide +kernel)
set_option maxRecDepth 20000 in
theorem gX1_waysWith_X1_start : GoodIn wsX1_waysWith (wsV RX1 72 RX1 yX1_start wsX1_start) := goodIn_app (goodIn_of _ (by decide +kernel)) ggX1_waysWith_X1_start
set_option maxRecDepth 20000 in
theorem ggX1_waysWith_X1_next : GoodIn wsX1_waysWith wsX1_next := goodIn_r _ [17, 7, 1, 18, 12, 13, 19, 20, 21, 5, 22, 23, 24, 25, 26, 27, 28, 29, 30, 31, 32, 33, 34, 35, 36, 37, 38, 39, 40, 41, 42, 43, 44, 45, 46, 47, 48, 49] (by decide +kernel) (by decide +kernel)
set_option maxRecDepth 20000 in
theorem gX1_waysWith_X1_next : GoodIn wsX1_waysWith (wsV RX1 76 RX1 yX1_next wsX1_next) := goodIn_app (goodIn_of _ (by decide +kernel)) ggX1_waysWith_X1_next
theorem dX1_waysWith_0 : decode cX1_waysWith 0 = .ok (.aload_n 0, 1) := by decide +kernel
theorem dX1_waysWith_1 : decode cX1_waysWith 1 = .ok (.aload_n 0, 1) := by decide +kernel
theorem dX1_waysWith_2 : decode cX1_waysWith 2 = .ok (.invokevirtual 69, 3) := by decide +kernel
theorem dX1_waysWith_5 : decode cX1_waysWith 5 = .ok (.iconst 0, 1) := by decide +kernel
theorem dX1_waysWith_6 : decode cX1_waysWith 6 = .ok (.invokevirtual 72, 3) := by decide +kernel
theorem dX1_waysWith_9 : decode cX1_waysWith 9 = .ok (.iconst 0, 1) := by decide +kernel
theorem dX1_waysWith_10 : decode cX1_waysWith 10 = .ok (.istore_n 3, 1) := by decide +kernel
theorem dX1_waysWith_11 : decode cX1_waysWith 11 = .ok (.aload_n 0, 1) := by decide +kernel
theorem dX1_waysWith_12 : decode cX1_waysWith 12 = .ok (.invokevirtual 76, 3) := by decide +kernel
theorem dX1_waysWith_15 : decode cX1_waysWith 15 = .ok (.ifCond .eq 24, 3) := by decide +kernel
theorem dX1_waysWith_18 : decode cX1_waysWith 18 = .ok (.iload_n 3, 1) := by decide +kernel
theorem dX1_waysWith_19 : decode cX1_waysWith 19 = .ok (.aload_n 0, 1) := by decide +kernel
theorem dX1_waysWith_20 : decode cX1_waysWith 20 = .ok (.getfield 23, 3) := by decide +kernel
theorem dX1_waysWith_23 : decode cX1_waysWith 23 = .ok (.iload_n 1, 1) := by decide +kernel
theorem dX1_waysWith_24 : decode cX1_waysWith 24 = .ok (.iaload, 1) := by decide +kernel
theorem dX1_waysWith_25 : decode cX1_waysWith 25 = .ok (.iload_n 2, 1) := by decide +kernel
theorem dX1_waysWith_26 : decode cX1_waysWith 26 = .ok (.if_icmp .ne 7, 3) := by decide +kernel
theorem dX1_waysWith_29 : decode cX1_waysWith 29 = .ok (.iconst 1, 1) := by decide +kernel
theorem dX1_waysWith_30 : decode cX1_waysWith 30 = .ok (.goto 4, 3) := by decide +kernel
theorem dX1_waysWith_33 : decode cX1_waysWith 33 = .ok (.iconst 0, 1) := by decide +kernel
theorem dX1_waysWith_34 : decode cX1_waysWith 34 = .ok (.iadd, 1) := by decide +kernel
theorem dX1_waysWith_35 : decode cX1_waysWith 35 = .ok (.istore_n 3, 1) := by decide +kernel
theorem dX1_waysWith_36 : decode cX1_waysWith 36 = .ok (.goto (-25), 3) := by decide +kernel
theorem dX1_waysWith_39 : decode cX1_waysWith 39 = .ok (.iload_n 3, 1) := by decide +kernel
theorem dX1_waysWith_40 : decode cX1_waysWith 40 = .ok (.ireturn, 1) := by decide +kernel
abbrev rm_X1_waysWith : Room := { frames := 3, cells := 0, slots := 0, locals := 70 }
set_option maxHeartbeats 4000000 in
set_option maxRecDepth 100000 in
theorem c_X1_waysWith (N : Nat) (l : Launch) (dC : Nat → ClassId) (dI : Nat → Nat → Nat) (cy : ClassId) (h q2 q3 q6 q7 q10 : Nat) (sz : Nat) (c0 : Int32) (c1 : Int32) (c2 : Nat → Int32) (c3 : Nat → Int32) (c4 : Int32) (c5 : Int32) (c6 : Nat → Int32) (c7 : Nat → Int32) (c8 : Int32) (c9 : Int32) (c10 : Nat → Int32) (a1 a2 : Int32) (res : Int32 × Int32 × Int32 × (Nat → Int32)) (hf : f_X1_waysWith N a1 a2 c0 c1 c2 c4 c5 c6 = some res) : Met l yX1_waysWith wsX1_waysWith rm_X1_waysWith (va_Pc [.ref h, .int a1, .int a2] (fun U => U.heap.size = sz ∧ va_P (dC, dI) vwCl (wX1 cy h q2 q3 q6 q7 q10 c0 c1 c2 c3 c4 c5 c6 c7 c8 c9 c10) U.heap ∧ va_K (dC, dI) vwCl [(cy, .int)] U ∧ va_D (fun _ => True) (wX1 cy h q2 q3 q6 q7 q10 c0 c1 c2 c3 c4 c5 c6 c7 c8 c9 c10))) (z_qI dC dI cy res.1 (wX1 cy h q2 q3 q6 q7 q10 c0 c1 c2 c3 res.2.1 res.2.2.1 res.2.2.2 c7 c8 c9 c10) (va_A (wX1 cy h q2 q3 q6 q7 q10 c0 c1 c2 c3 c4 c5 c6 c7 c8 c9 c10) sz)) 0 0 (va_A (wX1 cy h q2 q3 q6 q7 q10 c0 c1 c2 c3 c4 c5 c6 c7 c8 c9 c10) sz) := by
  refine Met.ofW (cc := cX1_waysWith) (maxL := 4) (ret := (some .int)) (by decide) rfl ?_
  intro p e s m args below meth c s₁ B hml hv
  obtain ⟨rfl, hsz, hP, hK, hD0⟩ := hv
  have hx := B.exec
  have hb := B.bytes
  have hr := B.returns
  have hts := atoms_spec (ws := wsX1_waysWith) B.pre
  have hown : s.vm.findClass RX1 = some m.cls := findClass_of_methodNamed B.named
  have hlocks := B.notSynchronized
  subst hsz
  have hD := hD0.self (sz := s.heap.size)
  generalize hAe : va_A (wX1 cy h q2 q3 q6 q7 q10 c0 c1 c2 c3 c4 c5 c6 c7 c8 c9 c10) s.heap.size = A at hD ⊢
  have hA : ∀ q : Nat, s.heap.size ≤ q → A q := fun q h => by rw [← hAe]; exact Or.inr h
  have hS : va_S A s.heap s.heap [] := va_S.rf
  have hP : va_P (dC, dI) vwCl (wX1 cy h q2 q3 q6 q7 q10 c0 c1 c2 c3 c4 c5 c6 c7 c8 c9 c10) s.heap := hP
  have hl := lv_entry ([.ref h, .int a1, .int a2]) (n := 4) (Nat.le_of_ble_eq_true rfl)
  rw [lg_entry_eq]
  generalize (lg_sl ([.ref h, .int a1, .int a2]) ++ List.replicate (4 - (lg_sl ([.ref h, .int a1, .int a2])).length) Slot.unset).toArray = ls at hl ⊢
  have hl : lv_has ls 4 [(0, .ref h), (1, .int a1), (2, .int a2)] := hl
  have B34 : ∀ (r11 : Int32 → Int32 → Int32 → Int32 → Int32 → (Nat → Int32) → Option (Int32 × Int32 × Int32 × (Nat → Int32))), (∀ (x1 x2 x3 : Int32) (c4 : Int32) (c5 : Int32) (c6 : Nat → Int32) (H : Heap) (locs : List Loc) (ls : Array Slot), r11 x1 x2 x3 c4 c5 c6 = some res → va_P (dC, dI) vwCl (wX1 cy h q2 q3 q6 q7 q10 c0 c1 c2 c3 c4 c5 c6 c7 c8 c9 c10) H → va_D A (wX1 cy h q2 q3 q6 q7 q10 c0 c1 c2 c3 c4 c5 c6 c7 c8 c9 c10) → va_S A s.heap H locs → lv_has ls 4 [(0, .ref h), (1, .int x1), (2, .int x2), (3, .int x3)] → W p l e rm_X1_waysWith s m ([.ref h, .int a1, .int a2] : List Value).toArray below meth c H locs 0 0 (MQ below (z_qI dC dI cy res.1 (wX1 cy h q2 q3 q6 q7 q10 c0 c1 c2 c3 res.2.1 res.2.2.1 res.2.2.2 c7 c8 c9 c10) A) ([.ref h, .int a1, .int a2] : List Value).toArray s 0 0 A) (F0 m 11 ls [])) → ∀ (x1 x2 t0 t1 : Int32) (c4 : Int32) (c5 : Int32) (c6 : Nat → Int32) (H : Heap) (locs : List Loc) (ls : Array Slot), f_X1_waysWith_b34 N c0 c1 c2 r11 x1 x2 t0 t1 c4 c5 c6 = some res → va_P (dC, dI) vwCl (wX1 cy h q2 q3 q6 q7 q10 c0 c1 c2 c3 c4 c5 c6 c7 c8 c9 c10) H → va_D A (wX1 cy h q2 q3 q6 q7 q10 c0 c1 c2 c3 c4 c5 c6 c7 c8 c9 c10) → va_S A s.heap H locs → lv_has ls 4 [(0, .ref h), (1, .int x1), (2, .int x2)] → W p l e rm_X1_waysWith s m ([.ref h, .int a1, .int a2] : List Value).toArray below meth c H locs 0 0 (MQ below (z_qI dC dI cy res.1 (wX1 cy h q2 q3 q6 q7 q10 c0 c1 c2 c3 res.2.1 res.2.2.1 res.2.2.2 c7 c8 c9 c10) A) ([.ref h, .int a1, .int a2] : List Value).toArray s 0 0 A) (F0 m 34 ls [.int t1, .int t0]) := by
    clear hf hl hP hD hS
    intro r11 hr11
    intro x1 x2 t0 t1 c4 c5 c6 H locs ls hf hP hD hS hl
    unfold f_X1_waysWith_b34 at hf
    refine lv_iadd hx hb dX1_waysWith_34 ?_
    refine lv_istore_n (lv' := [(3, .int (t0 + t1)), (0, .ref h), (1, .int x1), (2, .int x2)]) hx hb dX1_waysWith_35 rfl hl (by decide) rfl (fun ls hl => ?_)
    refine lv_goto (tgt := 11) hx hb dX1_waysWith_36 (by decide) ?_
    exact hr11 x1 x2 (t0 + t1) c4 c5 c6 _ _ _ hf hP hD hS (lv_sub hl [1, 2, 3, 0] rfl)
  have B11 : ∀ n : Nat, ∀ (x1 x2 x3 : Int32) (c4 : Int32) (c5 : Int32) (c6 : Nat → Int32) (H : Heap) (locs : List Loc) (ls : Array Slot), f_X1_waysWith_b11 N c0 c1 c2 n x1 x2 x3 c4 c5 c6 = some res → va_P (dC, dI) vwCl (wX1 cy h q2 q3 q6 q7 q10 c0 c1 c2 c3 c4 c5 c6 c7 c8 c9 c10) H → va_D A (wX1 cy h q2 q3 q6 q7 q10 c0 c1 c2 c3 c4 c5 c6 c7 c8 c9 c10) → va_S A s.heap H locs → lv_has ls 4 [(0, .ref h), (1, .int x1), (2, .int x2), (3, .int x3)] → W p l e rm_X1_waysWith s m ([.ref h, .int a1, .int a2] : List Value).toArray below meth c H locs 0 0 (MQ below (z_qI dC dI cy res.1 (wX1 cy h q2 q3 q6 q7 q10 c0 c1 c2 c3 res.2.1 res.2.2.1 res.2.2.2 c7 c8 c9 c10) A) ([.ref h, .int a1, .int a2] : List Value).toArray s 0 0 A) (F0 m 11 ls []) := by
    clear hf hl hP hD hS
    intro n
    induction n with
    | zero =>
      intro x1 x2 x3 c4 c5 c6 H locs ls hf hP hD hS hl
      rw [f_X1_waysWith_b11] at hf
      cases hf
    | succ n ih =>
      intro x1 x2 x3 c4 c5 c6 H locs ls hf hP hD hS hl
      rw [f_X1_waysWith_b11] at hf
      refine lv_aload_n hx hb dX1_waysWith_11 rfl (lv_at hl 0 rfl) ?_
      obtain ⟨u12, hu12, hf⟩ := z_ob_some hf
      have hPc := hP.sub (ws' := (wX1 cy h q2 q3 q6 q7 q10 c0 c1 c2 c3 c4 c5 c6 c7 c8 c9 c10)) [0, 1, 2, 3, 4, 5] rfl
      have hDc := hD.sub (ws' := (wX1 cy h q2 q3 q6 q7 q10 c0 c1 c2 c3 c4 c5 c6 c7 c8 c9 c10)) [0, 1, 2, 3, 4, 5] (by decide) rfl
      have hKc := hK.sub (tys' := [(cy, .int)]) [0] rfl
      have hFc := va_free (wc := (wX1 cy h q2 q3 q6 q7 q10 c0 c1 c2 c3 c4 c5 c6 c7 c8 c9 c10)) hD hS hA [0, 1, 2, 3, 4, 5] rfl
      refine va_calli (va_runV (As := []) (rest := []) ⟨hx, hb, hml, hown, hts⟩ (c_X1_next N l dC dI cy h q2 q3 q6 q7 q10 H.size c0 c1 c2 c3 c4 c5 c6 c7 c8 c9 c10 u12 hu12) (cwV 0 hts gX1_waysWith_X1_next rfl rfl rfl (by decide +kernel) ⟨Nat.le_of_ble_eq_true rfl, Nat.le_of_ble_eq_true rfl⟩) ⟨fun a U g mk q => by obtain ⟨q0, q1, qP, qK, qD⟩ := q; exact ⟨q0, q1, qP, va_K.moved (u := U) (U := U.calling g mk a) (Vm.Alike.refl U.vm) qK, qD⟩, va_recv hKc hPc (ci := 1) (q0 := 0) rfl rfl, fun U hU hW => ⟨rfl, by rw [hU], by rw [hU]; exact hPc, va_K.moved hW.alike hKc, hDc.weaken (fun _ _ _ _ => trivial)⟩⟩ rfl rfl hl.1 rfl (lv_room (Nat.le_of_ble_eq_true rfl)) dX1_waysWith_12 ⟨Nat.zero_le _, Nat.zero_le _⟩) hS (fun q _ h => hFc q h) hFc (fun r_12 uu_ t H1 locs ht hvm hw hB hz1 hk1 hS => ?_)
      replace hw := hw.symm
      subst hw
      obtain ⟨hP1, -, hD1⟩ := hB
      rw [ht] at hP1
      obtain ⟨hP, hD⟩ := va_join (wr := []) (w1 := (wX1 cy h q2 q3 q6 q7 q10 c0 c1 c2 c3 c4 c5 u12.2 c7 c8 c9 c10)) hP hD [0, 1, 2, 3, 4, 5] [] rfl rfl (by decide) (by decide) hk1 hFc hP1 hD1
      clear hk1 hz1 hP1 hD1 ht hPc hDc hFc
      generalize H1 = H at hP hS ⊢
      have hP : va_P (dC, dI) vwCl (wX1 cy h q2 q3 q6 q7 q10 c0 c1 c2 c3 c4 c5 u12.2 c7 c8 c9 c10) H := hP
      have hD : va_D A (wX1 cy h q2 q3 q6 q7 q10 c0 c1 c2 c3 c4 c5 u12.2 c7 c8 c9 c10) := hD
      refine lv_if_eq (tgt := 39) hx hb dX1_waysWith_15 (by decide) (fun c_15 => ?_) (fun c_15 => ?_)
      · replace hf := (if_pos c_15).symm.trans hf
        refine lv_iload_n hx hb dX1_waysWith_39 rfl (lv_at hl 3 rfl) ?_
        have hres := Option.some.inj hf
        subst hres
        have hP9 := hP.sub (ws' := (wX1 cy h q2 q3 q6 q7 q10 c0 c1 c2 c3 c4 c5 u12.2 c7 c8 c9 c10)) [0, 1, 2, 3, 4, 5] rfl
        have hD9 := hD.sub (ws' := (wX1 cy h q2 q3 q6 q7 q10 c0 c1 c2 c3 c4 c5 u12.2 c7 c8 c9 c10)) [0, 1, 2, 3, 4, 5] (by decide) rfl
        have hK9 := hK.sub (tys' := [(cy, .int)]) [0] rfl
        exact W.iret (v := x3) hx hb hr (fun t ht hW => ⟨⟨x3, (), rfl, rfl, by rw [ht]; exact hP9, va_K.moved hW.alike hK9, hD9⟩, hS.F ht⟩) hS.2.2 dX1_waysWith_40
      · replace hf := (if_neg c_15).symm.trans hf
        refine lv_iload_n hx hb dX1_waysWith_18 rfl (lv_at hl 3 rfl) ?_
        refine lv_aload_n hx hb dX1_waysWith_19 rfl (lv_at hl 0 rfl) ?_
        refine va_get (D := (dC, dI)) (ci := 1) (v := .ref q6) (C := RX1) (T := TX1) (N := 11) hx hb hts (by decide +kernel) hown hK hP 0 rfl rfl 6 (by decide) (hts (.fieldLink RX1 23 "GiftLotsModel" "gives" "[I") (by decide +kernel)) (fun _ h9 => h9) rfl dX1_waysWith_20 ?_
        refine lv_iload_n hx hb dX1_waysWith_23 rfl (lv_at hl 1 rfl) ?_
        obtain ⟨hi24, hf⟩ := z_gx_some hf
        refine va_iald hx hb hK hP 3 0 rfl rfl hi24 dX1_waysWith_24 ?_
        refine lv_iload_n hx hb dX1_waysWith_25 rfl (lv_at hl 2 rfl) ?_
        refine lv_icmp_ne (tgt := 33) hx hb dX1_waysWith_26 (by decide) (fun c_26 => ?_) (fun c_26 => ?_)
        · replace hf := (if_neg c_26).symm.trans hf
          refine lv_iconst (v := (0 : Int32)) hx hb dX1_waysWith_33 (by decide) ?_
          exact B34 (f_X1_waysWith_b11 N c0 c1 c2 n) ih x1 x2 x3 (0 : Int32) c4 c5 u12.2 _ _ _ hf hP hD hS (lv_sub hl [0, 1, 2] rfl)
        · replace hf := (if_pos c_26).symm.trans hf
          refine lv_iconst (v := (1 : Int32)) hx hb dX1_waysWith_29 (by decide) ?_
          refine lv_goto (tgt := 34) hx hb dX1_waysWith_30 (by decide) ?_
          exact B34 (f_X1_waysWith_b11 N c0 c1 c2 n) ih x1 x2 x3 (1 : Int32) c4 c5 u12.2 _ _ _ hf hP hD hS (lv_sub hl [0, 1, 2] rfl)
  unfold f_X1_waysWith at hf
  refine lv_aload_n hx hb dX1_waysWith_0 rfl (lv_at hl 0 rfl) ?_
  refine lv_aload_n hx hb dX1_waysWith_1 rfl (lv_at hl 0 rfl) ?_
  obtain ⟨u2, hu2, hf⟩ := z_ob_some hf
  have hPc := hP.sub (ws' := (wX1 cy h q2 q3 q6 q7 q10 c0 c1 c2 c3 c4 c5 c6 c7 c8 c9 c10)) [0, 1, 2, 3, 4, 5] rfl
  have hDc := hD.sub (ws' := (wX1 cy h q2 q3 q6 q7 q10 c0 c1 c2 c3 c4 c5 c6 c7 c8 c9 c10)) [0, 1, 2, 3, 4, 5] (by decide) rfl
  have hKc := hK.sub (tys' := [(cy, .int)]) [0] rfl
  have hFc := va_free (wc := (wX1 cy h q2 q3 q6 q7 q10 c0 c1 c2 c3 c4 c5 c6 c7 c8 c9 c10)) hD hS hA [0, 1, 2, 3, 4, 5] rfl
  refine va_calli (va_runV (As := []) (rest := [.ref h]) ⟨hx, hb, hml, hown, hts⟩ (c_X1_all N l dC dI cy h q2 q3 q6 q7 q10 s.heap.size c0 c1 c2 c3 c4 c5 c6 c7 c8 c9 c10 u2 hu2) (cwV 0 hts gX1_waysWith_X1_all rfl rfl rfl (by decide +kernel) ⟨Nat.le_of_ble_eq_true rfl, Nat.le_of_ble_eq_true rfl⟩) ⟨fun a U g mk q => by obtain ⟨q0, q1, qP, qK, qD⟩ := q; exact ⟨q0, q1, qP, va_K.moved (u := U) (U := U.calling g mk a) (Vm.Alike.refl U.vm) qK, qD⟩, va_recv hKc hPc (ci := 1) (q0 := 0) rfl rfl, fun U hU hW => ⟨rfl, by rw [hU], by rw [hU]; exact hPc, va_K.moved hW.alike hKc, hDc.weaken (fun _ _ _ _ => trivial)⟩⟩ rfl rfl hl.1 rfl (lv_room (Nat.le_of_ble_eq_true rfl)) dX1_waysWith_2 ⟨Nat.zero_le _, Nat.zero_le _⟩) hS (fun q _ h => hFc q h) hFc (fun r_2 uu_ t H1 locs ht hvm hw hB hz1 hk1 hS => ?_)
  replace hw := hw.symm
  subst hw
  obtain ⟨hP1, -, hD1⟩ := hB
  rw [ht] at hP1
  obtain ⟨hP, hD⟩ := va_join (wr := []) (w1 := (wX1 cy h q2 q3 q6 q7 q10 c0 c1 c2 c3 c4 c5 c6 c7 c8 c9 c10)) hP hD [0, 1, 2, 3, 4, 5] [] rfl rfl (by decide) (by decide) hk1 hFc hP1 hD1
  clear hk1 hz1 hP1 hD1 ht hPc hDc hFc
  generalize H1 = H at hP hS ⊢
  have hP : va_P (dC, dI) vwCl (wX1 cy h q2 q3 q6 q7 q10 c0 c1 c2 c3 c4 c5 c6 c7 c8 c9 c10) H := hP
  have hD : va_D A (wX1 cy h q2 q3 q6 q7 q10 c0 c1 c2 c3 c4 c5 c6 c7 c8 c9 c10) := hD
  refine lv_iconst (v := (0 : Int32)) hx hb dX1_waysWith_5 (by decide) ?_
  obtain ⟨u6, hu6, hf⟩ := z_ob_some hf
  have hPc := hP.sub (ws' := (wX1 cy h q2 q3 q6 q7 q10 c0 c1 c2 c3 c4 c5 c6 c7 c8 c9 c10)) [0, 1, 2, 3, 4, 5] rfl
  have hDc := hD.sub (ws' := (wX1 cy h q2 q3 q6 q7 q10 c0 c1 c2 c3 c4 c5 c6 c7 c8 c9 c10)) [0, 1, 2, 3, 4, 5] (by decide) rfl
  have hKc := hK.sub (tys' := [(cy, .int)]) [0] rfl
  have hFc := va_free (wc := (wX1 cy h q2 q3 q6 q7 q10 c0 c1 c2 c3 c4 c5 c6 c7 c8 c9 c10)) hD hS hA [0, 1, 2, 3, 4, 5] rfl
  refine va_callv (va_runV (As := [.int u2, .int (0 : Int32)]) (rest := []) ⟨hx, hb, hml, hown, hts⟩ (c_X1_start N l dC dI cy h q2 q3 q6 q7 q10 H.size c0 c1 c2 c3 c4 c5 c6 c7 c8 c9 c10 u2 (0 : Int32) u6 hu6) (cwV 2 hts gX1_waysWith_X1_start rfl rfl rfl (by decide +kernel) ⟨Nat.le_of_ble_eq_true rfl, Nat.le_of_ble_eq_true rfl⟩) ⟨fun a U g mk q => by obtain ⟨q0, q1, qP, qK, qD⟩ := q; exact ⟨q0, q1, qP, va_K.moved (u := U) (U := U.calling g mk a) (Vm.Alike.refl U.vm) qK, qD⟩, va_recv hKc hPc (ci := 1) (q0 := 0) rfl rfl, fun U hU hW => ⟨rfl, by rw [hU], by rw [hU]; exact hPc, va_K.moved hW.alike hKc, hDc.weaken (fun _ _ _ _ => trivial)⟩⟩ rfl rfl hl.1 rfl (lv_room (Nat.le_of_ble_eq_true rfl)) dX1_waysWith_6 ⟨Nat.zero_le _, Nat.zero_le _⟩) hS (fun q _ h => hFc q h) hFc (fun uu_ t H1 locs ht hvm hw hB hz1 hk1 hS => ?_)
  obtain ⟨hP1, -, hD1⟩ := hB
  rw [ht] at hP1
  obtain ⟨hP, hD⟩ := va_join (wr := []) (w1 := (wX1 cy h q2 q3 q6 q7 q10 c0 c1 c2 c3 u6.1 u6.2.1 u6.2.2 c7 c8 c9 c10)) hP hD [0, 1, 2, 3, 4, 5] [] rfl rfl (by decide) (by decide) hk1 hFc hP1 hD1
  clear hk1 hz1 hP1 hD1 ht hPc hDc hFc
  generalize H1 = H at hP hS ⊢
  have hP : va_P (dC, dI) vwCl (wX1 cy h q2 q3 q6 q7 q10 c0 c1 c2 c3 u6.1 u6.2.1 u6.2.2 c7 c8 c9 c10) H := hP
  have hD : va_D A (wX1 cy h q2 q3 q6 q7 q10 c0 c1 c2 c3 u6.1 u6.2.1 u6.2.2 c7 c8 c9 c10) := hD
  refine lv_iconst (v := (0 : Int32)) hx hb dX1_waysWith_9 (by decide) ?_
  refine lv_istore_n (lv' := [(3, .int (0 : Int32)), (0, .ref h), (1, .int a1), (2, .int a2)]) hx hb dX1_waysWith_10 rfl hl (by decide) rfl (fun ls hl => ?_)
  exact B11 N a1 a2 (0 : Int32) u6.1 u6.2.1 u6.2.2 _ _ _ hf hP hD hS (lv_sub hl [1, 2, 3, 0] rfl)

set_option maxRecDepth 20000 in
theorem ggX1_both_X1_isOne : GoodIn wsX1_both wsX1_isOne := goodIn_r _ [5, 6, 7, 8, 4, 9, 47, 48, 49, 50, 51, 52, 53, 54, 55, 56, 57] (by decide +kernel) (by decide +kernel)
set_option maxRecDepth 20000 in
theorem gX1_both_X1_isOne : GoodIn wsX1_both (wsV RX1 39 RX1 yX1_isOne wsX1_isOne) := goodIn_app (goodIn_of _ (by decide +kernel)) ggX1_both_X1_isOne
set_option maxRecDepth 20000 in
theorem ggX1_both_X1_waysWith : GoodIn wsX1_both wsX1_waysWith := goodIn_r _ [13, 14, 15, 16, 17, 4, 18, 6, 19, 20, 21, 22, 23, 24, 25, 26, 27, 28, 29, 30, 31, 32, 33, 7, 8, 9, 34, 35, 36, 37, 38, 39, 40, 41, 42, 43, 44, 45, 46, 47, 48, 49, 50, 51, 52, 53, 54, 55, 56, 57] (by decide +kernel) (by decide +kernel)
set_option maxRecDepth 20000 in
theorem gX1_both_X1_waysWith : GoodIn wsX1_both (wsV RX1 85 RX1 yX1_waysWith wsX1_waysWith) := goodIn_app (goodIn_of _ (by decide +kernel)) ggX1_both_X1_waysWith
theorem dX1_both_0 : decode cX1_both 0 = .ok (.aload_n 0, 1) := by decide +kernel
theorem dX1_both_1 : decode cX1_both 1 = .ok (.iload_n 1, 1) := by decide +kernel
theorem dX1_both_2 : decode cX1_both 2 = .ok (.invokevirtual 39, 3) := by decide +kernel
theorem dX1_both_5 : decode cX1_both 5 = .ok (.ifCond .eq 20, 3) := by decide +kernel
theorem dX1_both_8 : decode cX1_both 8 = .ok (.aload_n 0, 1) := by decide +kernel
theorem dX1_both_9 : decode cX1_both 9 = .ok (.iload_n 2, 1) := by decide +kernel
theorem dX1_both_10 : decode cX1_both 10 = .ok (.invokevirtual 39, 3) := by decide +kernel
theorem dX1_both_13 : decode cX1_both 13 = .ok (.ifCond .eq 12, 3) := by decide +kernel
theorem dX1_both_16 : decode cX1_both 16 = .ok (.aload_n 0, 1) := by decide +kernel
theorem dX1_both_17 : decode cX1_both 17 = .ok (.iload_n 1, 1) := by decide +kernel
theorem dX1_both_18 : decode cX1_both 18 = .ok (.iload_n 2, 1) := by decide +kernel
theorem dX1_both_19 : decode cX1_both 19 = .ok (.invokevirtual 85, 3) := by decide +kernel
theorem dX1_both_22 : decode cX1_both 22 = .ok (.goto 4, 3) := by decide +kernel
theorem dX1_both_25 : decode cX1_both 25 = .ok (.iconst (-1), 1) := by decide +kernel
theorem dX1_both_26 : decode cX1_both 26 = .ok (.ireturn, 1) := by decide +kernel
abbrev rm_X1_both : Room := { frames := 4, cells := 0, slots := 0, locals := 93 }
set_option maxHeartbeats 4000000 in
set_option maxRecDepth 100000 in
theorem c_X1_both (N : Nat) (l : Launch) (dC : Nat → ClassId) (dI : Nat → Nat → Nat) (cy : ClassId) (h q2 q3 q6 q7 q10 : Nat) (sz : Nat) (c0 : Int32) (c1 : Int32) (c2 : Nat → Int32) (c3 : Nat → Int32) (c4 : Int32) (c5 : Int32) (c6 : Nat → Int32) (c7 : Nat → Int32) (c8 : Int32) (c9 : Int32) (c10 : Nat → Int32) (a1 a2 : Int32) (res : Int32 × Int32 × Int32 × (Nat → Int32)) (hf : f_X1_both N a1 a2 c0 c1 c2 c4 c5 c6 = some res) : Met l yX1_both wsX1_both rm_X1_both (va_Pc [.ref h, .int a1, .int a2] (fun U => U.heap.size = sz ∧ va_P (dC, dI) vwCl (wX1 cy h q2 q3 q6 q7 q10 c0 c1 c2 c3 c4 c5 c6 c7 c8 c9 c10) U.heap ∧ va_K (dC, dI) vwCl [(cy, .int)] U ∧ va_D (fun _ => True) (wX1 cy h q2 q3 q6 q7 q10 c0 c1 c2 c3 c4 c5 c6 c7 c8 c9 c10))) (z_qI dC dI cy res.1 (wX1 cy h q2 q3 q6 q7 q10 c0 c1 c2 c3 res.2.1 res.2.2.1 res.2.2.2 c7 c8 c9 c10) (va_A (wX1 cy h q2 q3 q6 q7 q10 c0 c1 c2 c3 c4 c5 c6 c7 c8 c9 c10) sz)) 0 0 (va_A (wX1 cy h q2 q3 q6 q7 q10 c0 c1 c2 c3 c4 c5 c6 c7 c8 c9 c10) sz) := by
  refine Met.ofW (cc := cX1_both) (maxL := 3) (ret := (some .int)) (by decide) rfl ?_
  intro p e s m args below meth c s₁ B hml hv
  obtain ⟨rfl, hsz, hP, hK, hD0⟩ := hv
  have hx := B.exec
  have hb := B.bytes
  have hr := B.returns
  have hts := atoms_spec (ws := wsX1_both) B.pre
  have hown : s.vm.findClass RX1 = some m.cls := findClass_of_methodNamed B.named
  have hlocks := B.notSynchronized
  subst hsz
  have hD := hD0.self (sz := s.heap.size)
  generalize hAe : va_A (wX1 cy h q2 q3 q6 q7 q10 c0 c1 c2 c3 c4 c5 c6 c7 c8 c9 c10) s.heap.size = A at hD ⊢
  have hA : ∀ q : Nat, s.heap.size ≤ q → A q := fun q h => by rw [← hAe]; exact Or.inr h
  have hS : va_S A s.heap s.heap [] := va_S.rf
  have hP : va_P (dC, dI) vwCl (wX1 cy h q2 q3 q6 q7 q10 c0 c1 c2 c3 c4 c5 c6 c7 c8 c9 c10) s.heap := hP
  have hl := lv_entry ([.ref h, .int a1, .int a2]) (n := 3) (Nat.le_of_ble_eq_true rfl)
  rw [lg_entry_eq]
  generalize (lg_sl ([.ref h, .int a1, .int a2]) ++ List.replicate (3 - (lg_sl ([.ref h, .int a1, .int a2])).length) Slot.unset).toArray = ls at hl ⊢
  have hl : lv_has ls 3 [(0, .ref h), (1, .int a1), (2, .int a2)] := hl
  unfold f_X1_both at hf
  refine lv_aload_n hx hb dX1_both_0 rfl (lv_at hl 0 rfl) ?_
  refine lv_iload_n hx hb dX1_both_1 rfl (lv_at hl 1 rfl) ?_
  obtain ⟨u2, hu2, hf⟩ := z_ob_some hf
  have hPc := hP.sub (ws' := (wX1 cy h q2 q3 q6 q7 q10 c0 c1 c2 c3 c4 c5 c6 c7 c8 c9 c10)) [0, 1, 2, 3, 4, 5] rfl
  have hDc := hD.sub (ws' := (wX1 cy h q2 q3 q6 q7 q10 c0 c1 c2 c3 c4 c5 c6 c7 c8 c9 c10)) [0, 1, 2, 3, 4, 5] (by decide) rfl
  have hKc := hK.sub (tys' := [(cy, .int)]) [0] rfl
  have hFc := va_free (wc := (wX1 cy h q2 q3 q6 q7 q10 c0 c1 c2 c3 c4 c5 c6 c7 c8 c9 c10)) hD hS hA [0, 1, 2, 3, 4, 5] rfl
  refine va_calli (va_runV (As := [.int a1]) (rest := []) ⟨hx, hb, hml, hown, hts⟩ (c_X1_isOne N l dC dI cy h q2 q3 q6 q7 q10 s.heap.size c0 c1 c2 c3 c4 c5 c6 c7 c8 c9 c10 a1 u2 hu2) (cwV 1 hts gX1_both_X1_isOne rfl rfl rfl (by decide +kernel) ⟨Nat.le_of_ble_eq_true rfl, Nat.le_of_ble_eq_true rfl⟩) ⟨fun a U g mk q => by obtain ⟨q0, q1, qP, qK, qD⟩ := q; exact ⟨q0, q1, qP, va_K.moved (u := U) (U := U.calling g mk a) (Vm.Alike.refl U.vm) qK, qD⟩, va_recv hKc hPc (ci := 1) (q0 := 0) rfl rfl, fun U hU hW => ⟨rfl, by rw [hU], by rw [hU]; exact hPc, va_K.moved hW.alike hKc, hDc.weaken (fun _ _ _ _ => trivial)⟩⟩ rfl rfl hl.1 rfl (lv_room (Nat.le_of_ble_eq_true rfl)) dX1_both_2 ⟨Nat.zero_le _, Nat.zero_le _⟩) hS (fun q _ h => hFc q h) hFc (fun r_2 uu_ t H1 locs ht hvm hw hB hz1 hk1 hS => ?_)
  replace hw := hw.symm
  subst hw
  obtain ⟨hP1, -, hD1⟩ := hB
  rw [ht] at hP1
  obtain ⟨hP, hD⟩ := va_join (wr := []) (w1 := (wX1 cy h q2 q3 q6 q7 q10 c0 c1 c2 c3 c4 c5 c6 c7 c8 c9 c10)) hP hD [0, 1, 2, 3, 4, 5] [] rfl rfl (by decide) (by decide) hk1 hFc hP1 hD1
  clear hk1 hz1 hP1 hD1 ht hPc hDc hFc
  generalize H1 = H at hP hS ⊢
  have hP : va_P (dC, dI) vwCl (wX1 cy h q2 q3 q6 q7 q10 c0 c1 c2 c3 c4 c5 c6 c7 c8 c9 c10) H := hP
  have hD : va_D A (wX1 cy h q2 q3 q6 q7 q10 c0 c1 c2 c3 c4 c5 c6 c7 c8 c9 c10) := hD
  refine lv_if_eq (tgt := 25) hx hb dX1_both_5 (by decide) (fun c_5 => ?_) (fun c_5 => ?_)
  · replace hf := (if_pos c_5).symm.trans hf
    refine lv_iconst (v := (-1 : Int32)) hx hb dX1_both_25 (by decide) ?_
    have hres := Option.some.inj hf
    subst hres
    have hP9 := hP.sub (ws' := (wX1 cy h q2 q3 q6 q7 q10 c0 c1 c2 c3 c4 c5 c6 c7 c8 c9 c10)) [0, 1, 2, 3, 4, 5] rfl
    have hD9 := hD.sub (ws' := (wX1 cy h q2 q3 q6 q7 q10 c0 c1 c2 c3 c4 c5 c6 c7 c8 c9 c10)) [0, 1, 2, 3, 4, 5] (by decide) rfl
    have hK9 := hK.sub (tys' := [(cy, .int)]) [0] rfl
    exact W.iret (v := (-1 : Int32)) hx hb hr (fun t ht hW => ⟨⟨(-1 : Int32), (), rfl, rfl, by rw [ht]; exact hP9, va_K.moved hW.alike hK9, hD9⟩, hS.F ht⟩) hS.2.2 dX1_both_26
  · replace hf := (if_neg c_5).symm.trans hf
    refine lv_aload_n hx hb dX1_both_8 rfl (lv_at hl 0 rfl) ?_
    refine lv_iload_n hx hb dX1_both_9 rfl (lv_at hl 2 rfl) ?_
    obtain ⟨u10, hu10, hf⟩ := z_ob_some hf
    have hPc := hP.sub (ws' := (wX1 cy h q2 q3 q6 q7 q10 c0 c1 c2 c3 c4 c5 c6 c7 c8 c9 c10)) [0, 1, 2, 3, 4, 5] rfl
    have hDc := hD.sub (ws' := (wX1 cy h q2 q3 q6 q7 q10 c0 c1 c2 c3 c4 c5 c6 c7 c8 c9 c10)) [0, 1, 2, 3, 4, 5] (by decide) rfl
    have hKc := hK.sub (tys' := [(cy, .int)]) [0] rfl
    have hFc := va_free (wc := (wX1 cy h q2 q3 q6 q7 q10 c0 c1 c2 c3 c4 c5 c6 c7 c8 c9 c10)) hD hS hA [0, 1, 2, 3, 4, 5] rfl
    refine va_calli (va_runV (As := [.int a2]) (rest := []) ⟨hx, hb, hml, hown, hts⟩ (c_X1_isOne N l dC dI cy h q2 q3 q6 q7 q10 H.size c0 c1 c2 c3 c4 c5 c6 c7 c8 c9 c10 a2 u10 hu10) (cwV 1 hts gX1_both_X1_isOne rfl rfl rfl (by decide +kernel) ⟨Nat.le_of_ble_eq_true rfl, Nat.le_of_ble_eq_true rfl⟩) ⟨fun a U g mk q => by obtain ⟨q0, q1, qP, qK, qD⟩ := q; exact ⟨q0, q1, qP, va_K.moved (u := U) (U := U.calling g mk a) (Vm.Alike.refl U.vm) qK, qD⟩, va_recv hKc hPc (ci := 1) (q0 := 0) rfl rfl, fun U hU hW => ⟨rfl, by rw [hU], by rw [hU]; exact hPc, va_K.moved hW.alike hKc, hDc.weaken (fun _ _ _ _ => trivial)⟩⟩ rfl rfl hl.1 rfl (lv_room (Nat.le_of_ble_eq_true rfl)) dX1_both_10 ⟨Nat.zero_le _, Nat.zero_le _⟩) hS (fun q _ h => hFc q h) hFc (fun r_10 uu_ t H1 locs ht hvm hw hB hz1 hk1 hS => ?_)
    replace hw := hw.symm
    subst hw
    obtain ⟨hP1, -, hD1⟩ := hB
    rw [ht] at hP1
    obtain ⟨hP, hD⟩ := va_join (wr := []) (w1 := (wX1 cy h q2 q3 q6 q7 q10 c0 c1 c2 c3 c4 c5 c6 c7 c8 c9 c10)) hP hD [0, 1, 2, 3, 4, 5] [] rfl rfl (by decide) (by decide) hk1 hFc hP1 hD1
    clear hk1 hz1 hP1 hD1 ht hPc hDc hFc
    generalize H1 = H at hP hS ⊢
    have hP : va_P (dC, dI) vwCl (wX1 cy h q2 q3 q6 q7 q10 c0 c1 c2 c3 c4 c5 c6 c7 c8 c9 c10) H := hP
    have hD : va_D A (wX1 cy h q2 q3 q6 q7 q10 c0 c1 c2 c3 c4 c5 c6 c7 c8 c9 c10) := hD
    refine lv_if_eq (tgt := 25) hx hb dX1_both_13 (by decide) (fun c_13 => ?_) (fun c_13 => ?_)
    · replace hf := (if_pos c_13).symm.trans hf
      refine lv_iconst (v := (-1 : Int32)) hx hb dX1_both_25 (by decide) ?_
      have hres := Option.some.inj hf
      subst hres
      have hP9 := hP.sub (ws' := (wX1 cy h q2 q3 q6 q7 q10 c0 c1 c2 c3 c4 c5 c6 c7 c8 c9 c10)) [0, 1, 2, 3, 4, 5] rfl
      have hD9 := hD.sub (ws' := (wX1 cy h q2 q3 q6 q7 q10 c0 c1 c2 c3 c4 c5 c6 c7 c8 c9 c10)) [0, 1, 2, 3, 4, 5] (by decide) rfl
      have hK9 := hK.sub (tys' := [(cy, .int)]) [0] rfl
      exact W.iret (v := (-1 : Int32)) hx hb hr (fun t ht hW => ⟨⟨(-1 : Int32), (), rfl, rfl, by rw [ht]; exact hP9, va_K.moved hW.alike hK9, hD9⟩, hS.F ht⟩) hS.2.2 dX1_both_26
    · replace hf := (if_neg c_13).symm.trans hf
      refine lv_aload_n hx hb dX1_both_16 rfl (lv_at hl 0 rfl) ?_
      refine lv_iload_n hx hb dX1_both_17 rfl (lv_at hl 1 rfl) ?_
      refine lv_iload_n hx hb dX1_both_18 rfl (lv_at hl 2 rfl) ?_
      obtain ⟨u19, hu19, hf⟩ := z_ob_some hf
      have hPc := hP.sub (ws' := (wX1 cy h q2 q3 q6 q7 q10 c0 c1 c2 c3 c4 c5 c6 c7 c8 c9 c10)) [0, 1, 2, 3, 4, 5] rfl
      have hDc := hD.sub (ws' := (wX1 cy h q2 q3 q6 q7 q10 c0 c1 c2 c3 c4 c5 c6 c7 c8 c9 c10)) [0, 1, 2, 3, 4, 5] (by decide) rfl
      have hKc := hK.sub (tys' := [(cy, .int)]) [0] rfl
      have hFc := va_free (wc := (wX1 cy h q2 q3 q6 q7 q10 c0 c1 c2 c3 c4 c5 c6 c7 c8 c9 c10)) hD hS hA [0, 1, 2, 3, 4, 5] rfl
      refine va_calli (va_runV (As := [.int a1, .int a2]) (rest := []) ⟨hx, hb, hml, hown, hts⟩ (c_X1_waysWith N l dC dI cy h q2 q3 q6 q7 q10 H.size c0 c1 c2 c3 c4 c5 c6 c7 c8 c9 c10 a1 a2 u19 hu19) (cwV 2 hts gX1_both_X1_waysWith rfl rfl rfl (by decide +kernel) ⟨Nat.le_of_ble_eq_true rfl, Nat.le_of_ble_eq_true rfl⟩) ⟨fun a U g mk q => by obtain ⟨q0, q1, qP, qK, qD⟩ := q; exact ⟨q0, q1, qP, va_K.moved (u := U) (U := U.calling g mk a) (Vm.Alike.refl U.vm) qK, qD⟩, va_recv hKc hPc (ci := 1) (q0 := 0) rfl rfl, fun U hU hW => ⟨rfl, by rw [hU], by rw [hU]; exact hPc, va_K.moved hW.alike hKc, hDc.weaken (fun _ _ _ _ => trivial)⟩⟩ rfl rfl hl.1 rfl (lv_room (Nat.le_of_ble_eq_true rfl)) dX1_both_19 ⟨Nat.zero_le _, Nat.zero_le _⟩) hS (fun q _ h => hFc q h) hFc (fun r_19 uu_ t H1 locs ht hvm hw hB hz1 hk1 hS => ?_)
      replace hw := hw.symm
      subst hw
      obtain ⟨hP1, -, hD1⟩ := hB
      rw [ht] at hP1
      obtain ⟨hP, hD⟩ := va_join (wr := []) (w1 := (wX1 cy h q2 q3 q6 q7 q10 c0 c1 c2 c3 u19.2.1 u19.2.2.1 u19.2.2.2 c7 c8 c9 c10)) hP hD [0, 1, 2, 3, 4, 5] [] rfl rfl (by decide) (by decide) hk1 hFc hP1 hD1
      clear hk1 hz1 hP1 hD1 ht hPc hDc hFc
      generalize H1 = H at hP hS ⊢
      have hP : va_P (dC, dI) vwCl (wX1 cy h q2 q3 q6 q7 q10 c0 c1 c2 c3 u19.2.1 u19.2.2.1 u19.2.2.2 c7 c8 c9 c10) H := hP
      have hD : va_D A (wX1 cy h q2 q3 q6 q7 q10 c0 c1 c2 c3 u19.2.1 u19.2.2.1 u19.2.2.2 c7 c8 c9 c10) := hD
      refine lv_goto (tgt := 26) hx hb dX1_both_22 (by decide) ?_
      have hres := Option.some.inj hf
      subst hres
      have hP9 := hP.sub (ws' := (wX1 cy h q2 q3 q6 q7 q10 c0 c1 c2 c3 u19.2.1 u19.2.2.1 u19.2.2.2 c7 c8 c9 c10)) [0, 1, 2, 3, 4, 5] rfl
      have hD9 := hD.sub (ws' := (wX1 cy h q2 q3 q6 q7 q10 c0 c1 c2 c3 u19.2.1 u19.2.2.1 u19.2.2.2 c7 c8 c9 c10)) [0, 1, 2, 3, 4, 5] (by decide) rfl
      have hK9 := hK.sub (tys' := [(cy, .int)]) [0] rfl
      exact W.iret (v := u19.1) hx hb hr (fun t ht hW => ⟨⟨u19.1, (), rfl, rfl, by rw [ht]; exact hP9, va_K.moved hW.alike hK9, hD9⟩, hS.F ht⟩) hS.2.2 dX1_both_26

theorem dX1_bits_0 : decode cX1_bits 0 = .ok (.iconst 0, 1) := by decide +kernel
theorem dX1_bits_1 : decode cX1_bits 1 = .ok (.istore_n 1, 1) := by decide +kernel
theorem dX1_bits_2 : decode cX1_bits 2 = .ok (.iconst 0, 1) := by decide +kernel
theorem dX1_bits_3 : decode cX1_bits 3 = .ok (.istore_n 2, 1) := by decide +kernel
theorem dX1_bits_4 : decode cX1_bits 4 = .ok (.iload_n 2, 1) := by decide +kernel
theorem dX1_bits_5 : decode cX1_bits 5 = .ok (.bipush 8, 2) := by decide +kernel
theorem dX1_bits_7 : decode cX1_bits 7 = .ok (.if_icmp .ge 17, 3) := by decide +kernel
theorem dX1_bits_10 : decode cX1_bits 10 = .ok (.iload_n 1, 1) := by decide +kernel
theorem dX1_bits_11 : decode cX1_bits 11 = .ok (.iload_n 0, 1) := by decide +kernel
theorem dX1_bits_12 : decode cX1_bits 12 = .ok (.iload_n 2, 1) := by decide +kernel
theorem dX1_bits_13 : decode cX1_bits 13 = .ok (.ishr, 1) := by decide +kernel
theorem dX1_bits_14 : decode cX1_bits 14 = .ok (.iconst 1, 1) := by decide +kernel
theorem dX1_bits_15 : decode cX1_bits 15 = .ok (.iand, 1) := by decide +kernel
theorem dX1_bits_16 : decode cX1_bits 16 = .ok (.iadd, 1) := by decide +kernel
theorem dX1_bits_17 : decode cX1_bits 17 = .ok (.istore_n 1, 1) := by decide +kernel
theorem dX1_bits_18 : decode cX1_bits 18 = .ok (.iinc 2 1, 3) := by decide +kernel
theorem dX1_bits_21 : decode cX1_bits 21 = .ok (.goto (-17), 3) := by decide +kernel
theorem dX1_bits_24 : decode cX1_bits 24 = .ok (.iload_n 1, 1) := by decide +kernel
theorem dX1_bits_25 : decode cX1_bits 25 = .ok (.ireturn, 1) := by decide +kernel
abbrev rm_X1_bits : Room := { frames := 0, cells := 0, slots := 0, locals := 0 }
set_option maxHeartbeats 4000000 in
set_option maxRecDepth 100000 in
theorem c_X1_bits (N : Nat) (l : Launch) (dC : Nat → ClassId) (dI : Nat → Nat → Nat) (cy : ClassId) (sz : Nat) (a0 : Int32) (res : Int32) (hf : f_X1_bits N a0 = some res) : Met l yX1_bits wsX1_bits rm_X1_bits (va_Pc [.int a0] (fun U => U.heap.size = sz ∧ va_P (dC, dI) vwCl ([] : va_W) U.heap ∧ va_K (dC, dI) vwCl [(cy, .int)] U ∧ va_D (fun _ => True) ([] : va_W))) (z_qI dC dI cy res ([] : va_W) (va_A ([] : va_W) sz)) 0 0 (va_A ([] : va_W) sz) := by
  refine Met.ofW (cc := cX1_bits) (maxL := 3) (ret := (some .int)) (by decide) rfl ?_
  intro p e s m args below meth c s₁ B hml hv
  obtain ⟨rfl, hsz, hP, hK, hD0⟩ := hv
  have hx := B.exec
  have hb := B.bytes
  have hr := B.returns
  have hts := atoms_spec (ws := wsX1_bits) B.pre
  have hown : s.vm.findClass RX1 = some m.cls := findClass_of_methodNamed B.named
  have hlocks := B.notSynchronized
  subst hsz
  have hD := hD0.self (sz := s.heap.size)
  generalize hAe : va_A ([] : va_W) s.heap.size = A at hD ⊢
  have hA : ∀ q : Nat, s.heap.size ≤ q → A q := fun q h => by rw [← hAe]; exact Or.inr h
  have hS : va_S A s.heap s.heap [] := va_S.rf
  have hP : va_P (dC, dI) vwCl ([] : va_W) s.heap := hP
  have hl := lv_entry ([.int a0]) (n := 3) (Nat.le_of_ble_eq_true rfl)
  rw [lg_entry_eq]
  generalize (lg_sl ([.int a0]) ++ List.replicate (3 - (lg_sl ([.int a0])).length) Slot.unset).toArray = ls at hl ⊢
  have hl : lv_has ls 3 [(0, .int a0)] := hl
  have B4 : ∀ n : Nat, ∀ (x0 x1 x2 : Int32) (H : Heap) (locs : List Loc) (ls : Array Slot), f_X1_bits_b4 N n x0 x1 x2 = some res → va_P (dC, dI) vwCl ([] : va_W) H → va_D A ([] : va_W) → va_S A s.heap H locs → lv_has ls 3 [(0, .int x0), (1, .int x1), (2, .int x2)] → W p l e rm_X1_bits s m ([.int a0] : List Value).toArray below meth c H locs 0 0 (MQ below (z_qI dC dI cy res ([] : va_W) A) ([.int a0] : List Value).toArray s 0 0 A) (F0 m 4 ls []) := by
    clear hf hl hP hD hS
    intro n
    induction n with
    | zero =>
      intro x0 x1 x2 H locs ls hf hP hD hS hl
      rw [f_X1_bits_b4] at hf
      cases hf
    | succ n ih =>
      intro x0 x1 x2 H locs ls hf hP hD hS hl
      rw [f_X1_bits_b4] at hf
      refine lv_iload_n hx hb dX1_bits_4 rfl (lv_at hl 2 rfl) ?_
      refine lv_bipush (v := (8 : Int32)) hx hb dX1_bits_5 (by decide) ?_
      refine lv_icmp_ge (tgt := 24) hx hb dX1_bits_7 (by decide) (fun c_7 => ?_) (fun c_7 => ?_)
      · replace hf := (if_pos c_7).symm.trans hf
        refine lv_iload_n hx hb dX1_bits_24 rfl (lv_at hl 1 rfl) ?_
        have hres := Option.some.inj hf
        subst hres
        have hP9 := hP.sub (ws' := ([] : va_W)) [] rfl
        have hD9 := hD.sub (ws' := ([] : va_W)) [] (by decide) rfl
        have hK9 := hK.sub (tys' := [(cy, .int)]) [0] rfl
        exact W.iret (v := x1) hx hb hr (fun t ht hW => ⟨⟨x1, (), rfl, rfl, by rw [ht]; exact hP9, va_K.moved hW.alike hK9, hD9⟩, hS.F ht⟩) hS.2.2 dX1_bits_25
      · replace hf := (if_neg c_7).symm.trans hf
        refine lv_iload_n hx hb dX1_bits_10 rfl (lv_at hl 1 rfl) ?_
        refine lv_iload_n hx hb dX1_bits_11 rfl (lv_at hl 0 rfl) ?_
        refine lv_iload_n hx hb dX1_bits_12 rfl (lv_at hl 2 rfl) ?_
        refine lv_ishr hx hb dX1_bits_13 ?_
        refine lv_iconst (v := (1 : Int32)) hx hb dX1_bits_14 (by decide) ?_
        refine lv_iand hx hb dX1_bits_15 ?_
        refine lv_iadd hx hb dX1_bits_16 ?_
        refine lv_istore_n (lv' := [(1, .int (x1 + ((x0 >>> (x2 &&& 31)) &&& (1 : Int32)))), (0, .int x0), (2, .int x2)]) hx hb dX1_bits_17 rfl hl (by decide) rfl (fun ls hl => ?_)
        refine lv_iinc (v := x2 + (1 : Int32)) (lv' := [(2, .int (x2 + (1 : Int32))), (1, .int (x1 + ((x0 >>> (x2 &&& 31)) &&& (1 : Int32)))), (0, .int x0)]) hx hb dX1_bits_18 hl (k := 2) rfl rfl (by decide) rfl (fun ls hl => ?_)
        refine lv_goto (tgt := 4) hx hb dX1_bits_21 (by decide) ?_
        exact ih x0 (x1 + ((x0 >>> (x2 &&& 31)) &&& (1 : Int32))) (x2 + (1 : Int32)) _ _ _ hf hP hD hS (lv_sub hl [2, 1, 0] rfl)
  unfold f_X1_bits at hf
  refine lv_iconst (v := (0 : Int32)) hx hb dX1_bits_0 (by decide) ?_
  refine lv_istore_n (lv' := [(1, .int (0 : Int32)), (0, .int a0)]) hx hb dX1_bits_1 rfl hl (by decide) rfl (fun ls hl => ?_)
  refine lv_iconst (v := (0 : Int32)) hx hb dX1_bits_2 (by decide) ?_
  refine lv_istore_n (lv' := [(2, .int (0 : Int32)), (1, .int (0 : Int32)), (0, .int a0)]) hx hb dX1_bits_3 rfl hl (by decide) rfl (fun ls hl => ?_)
  exact B4 N a0 (0 : Int32) (0 : Int32) _ _ _ hf hP hD hS (lv_sub hl [2, 1, 0] rfl)

set_option maxRecDepth 20000 in
theorem ggX1_rooks_X1_in : GoodIn wsX1_rooks wsX1_in := goodIn_r _ [7] (by decide +kernel) (by decide +kernel)
set_option maxRecDepth 20000 in
theorem gX1_rooks_X1_in : GoodIn wsX1_rooks (va_wsS RX1 35 yX1_in wsX1_in) := goodIn_app (goodIn_of _ (by decide +kernel)) ggX1_rooks_X1_in
set_option maxRecDepth 20000 in
theorem ggX1_rooks_X1_all : GoodIn wsX1_rooks wsX1_all := goodIn_r _ [11, 2, 15, 16, 17, 18, 19, 20, 21, 22, 23, 24, 25] (by decide +kernel) (by decide +kernel)
set_option maxRecDepth 20000 in
theorem gX1_rooks_X1_all : GoodIn wsX1_rooks (wsV RX1 69 RX1 yX1_all wsX1_all) := goodIn_app (goodIn_of _ (by decide +kernel)) ggX1_rooks_X1_all
set_option maxRecDepth 20000 in
theorem ggX1_rooks_X1_bits : GoodIn wsX1_rooks wsX1_bits := goodIn_r _ [14] (by decide +kernel) (by decide +kernel)
set_option maxRecDepth 20000 in
theorem gX1_rooks_X1_bits : GoodIn wsX1_rooks (va_wsS RX1 88 yX1_bits wsX1_bits) := goodIn_app (goodIn_of _ (by decide +kernel)) ggX1_rooks_X1_bits
theorem dX1_rooks_0 : decode cX1_rooks 0 = .ok (.iload_n 1, 1) := by decide +kernel
theorem dX1_rooks_1 : decode cX1_rooks 1 = .ok (.iconst 0, 1) := by decide +kernel
theorem dX1_rooks_2 : decode cX1_rooks 2 = .ok (.bipush 8, 2) := by decide +kernel
theorem dX1_rooks_4 : decode cX1_rooks 4 = .ok (.invokestatic 35, 3) := by decide +kernel
theorem dX1_rooks_7 : decode cX1_rooks 7 = .ok (.ifCond .ne 6, 3) := by decide +kernel
theorem dX1_rooks_10 : decode cX1_rooks 10 = .ok (.bipush (-2), 2) := by decide +kernel
theorem dX1_rooks_12 : decode cX1_rooks 12 = .ok (.ireturn, 1) := by decide +kernel
theorem dX1_rooks_13 : decode cX1_rooks 13 = .ok (.iconst 0, 1) := by decide +kernel
theorem dX1_rooks_14 : decode cX1_rooks 14 = .ok (.istore_n 2, 1) := by decide +kernel
theorem dX1_rooks_15 : decode cX1_rooks 15 = .ok (.iload_n 2, 1) := by decide +kernel
theorem dX1_rooks_16 : decode cX1_rooks 16 = .ok (.sipush 256, 3) := by decide +kernel
theorem dX1_rooks_19 : decode cX1_rooks 19 = .ok (.if_icmp .ge 24, 3) := by decide +kernel
theorem dX1_rooks_22 : decode cX1_rooks 22 = .ok (.aload_n 0, 1) := by decide +kernel
theorem dX1_rooks_23 : decode cX1_rooks 23 = .ok (.getfield 26, 3) := by decide +kernel
theorem dX1_rooks_26 : decode cX1_rooks 26 = .ok (.iload_n 2, 1) := by decide +kernel
theorem dX1_rooks_27 : decode cX1_rooks 27 = .ok (.iload_n 2, 1) := by decide +kernel
theorem dX1_rooks_28 : decode cX1_rooks 28 = .ok (.ifCond .ne 7, 3) := by decide +kernel
theorem dX1_rooks_31 : decode cX1_rooks 31 = .ok (.iconst 1, 1) := by decide +kernel
theorem dX1_rooks_32 : decode cX1_rooks 32 = .ok (.goto 4, 3) := by decide +kernel
theorem dX1_rooks_35 : decode cX1_rooks 35 = .ok (.iconst 0, 1) := by decide +kernel
theorem dX1_rooks_36 : decode cX1_rooks 36 = .ok (.iastore, 1) := by decide +kernel
theorem dX1_rooks_37 : decode cX1_rooks 37 = .ok (.iinc 2 1, 3) := by decide +kernel
theorem dX1_rooks_40 : decode cX1_rooks 40 = .ok (.goto (-25), 3) := by decide +kernel
theorem dX1_rooks_43 : decode cX1_rooks 43 = .ok (.iconst 0, 1) := by decide +kernel
theorem dX1_rooks_44 : decode cX1_rooks 44 = .ok (.istore_n 2, 1) := by decide +kernel
theorem dX1_rooks_45 : decode cX1_rooks 45 = .ok (.iload_n 2, 1) := by decide +kernel
theorem dX1_rooks_46 : decode cX1_rooks 46 = .ok (.aload_n 0, 1) := by decide +kernel
theorem dX1_rooks_47 : decode cX1_rooks 47 = .ok (.getfield 7, 3) := by decide +kernel
theorem dX1_rooks_50 : decode cX1_rooks 50 = .ok (.if_icmp .ge 119, 3) := by decide +kernel
theorem dX1_rooks_53 : decode cX1_rooks 53 = .ok (.aload_n 0, 1) := by decide +kernel
theorem dX1_rooks_54 : decode cX1_rooks 54 = .ok (.invokevirtual 69, 3) := by decide +kernel
theorem dX1_rooks_57 : decode cX1_rooks 57 = .ok (.aload_n 0, 1) := by decide +kernel
theorem dX1_rooks_58 : decode cX1_rooks 58 = .ok (.getfield 16, 3) := by decide +kernel
theorem dX1_rooks_61 : decode cX1_rooks 61 = .ok (.iload_n 2, 1) := by decide +kernel
theorem dX1_rooks_62 : decode cX1_rooks 62 = .ok (.iaload, 1) := by decide +kernel
theorem dX1_rooks_63 : decode cX1_rooks 63 = .ok (.iconst (-1), 1) := by decide +kernel
theorem dX1_rooks_64 : decode cX1_rooks 64 = .ok (.ixor, 1) := by decide +kernel
theorem dX1_rooks_65 : decode cX1_rooks 65 = .ok (.iand, 1) := by decide +kernel
theorem dX1_rooks_66 : decode cX1_rooks 66 = .ok (.istore_n 3, 1) := by decide +kernel
theorem dX1_rooks_67 : decode cX1_rooks 67 = .ok (.aload_n 0, 1) := by decide +kernel
theorem dX1_rooks_68 : decode cX1_rooks 68 = .ok (.invokevirtual 69, 3) := by decide +kernel
theorem dX1_rooks_71 : decode cX1_rooks 71 = .ok (.istore 4, 2) := by decide +kernel
theorem dX1_rooks_73 : decode cX1_rooks 73 = .ok (.iload 4, 2) := by decide +kernel
theorem dX1_rooks_75 : decode cX1_rooks 75 = .ok (.ifCond .lt 88, 3) := by decide +kernel
theorem dX1_rooks_78 : decode cX1_rooks 78 = .ok (.iconst 0, 1) := by decide +kernel
theorem dX1_rooks_79 : decode cX1_rooks 79 = .ok (.istore 5, 2) := by decide +kernel
theorem dX1_rooks_81 : decode cX1_rooks 81 = .ok (.iload 5, 2) := by decide +kernel
theorem dX1_rooks_83 : decode cX1_rooks 83 = .ok (.aload_n 0, 1) := by decide +kernel
theorem dX1_rooks_84 : decode cX1_rooks 84 = .ok (.getfield 7, 3) := by decide +kernel
theorem dX1_rooks_87 : decode cX1_rooks 87 = .ok (.if_icmp .ge 70, 3) := by decide +kernel
theorem dX1_rooks_90 : decode cX1_rooks 90 = .ok (.iload_n 3, 1) := by decide +kernel
theorem dX1_rooks_91 : decode cX1_rooks 91 = .ok (.iload 5, 2) := by decide +kernel
theorem dX1_rooks_93 : decode cX1_rooks 93 = .ok (.ishr, 1) := by decide +kernel
theorem dX1_rooks_94 : decode cX1_rooks 94 = .ok (.iconst 1, 1) := by decide +kernel
theorem dX1_rooks_95 : decode cX1_rooks 95 = .ok (.iand, 1) := by decide +kernel
theorem dX1_rooks_96 : decode cX1_rooks 96 = .ok (.iconst 1, 1) := by decide +kernel
theorem dX1_rooks_97 : decode cX1_rooks 97 = .ok (.if_icmp .ne 18, 3) := by decide +kernel
theorem dX1_rooks_100 : decode cX1_rooks 100 = .ok (.iload 4, 2) := by decide +kernel
theorem dX1_rooks_102 : decode cX1_rooks 102 = .ok (.iload 5, 2) := by decide +kernel
theorem dX1_rooks_104 : decode cX1_rooks 104 = .ok (.ishr, 1) := by decide +kernel
theorem dX1_rooks_105 : decode cX1_rooks 105 = .ok (.iconst 1, 1) := by decide +kernel
theorem dX1_rooks_106 : decode cX1_rooks 106 = .ok (.iand, 1) := by decide +kernel
theorem dX1_rooks_107 : decode cX1_rooks 107 = .ok (.iconst 1, 1) := by decide +kernel
theorem dX1_rooks_108 : decode cX1_rooks 108 = .ok (.if_icmp .ne 7, 3) := by decide +kernel
theorem dX1_rooks_111 : decode cX1_rooks 111 = .ok (.iconst 1, 1) := by decide +kernel
theorem dX1_rooks_112 : decode cX1_rooks 112 = .ok (.goto 4, 3) := by decide +kernel
theorem dX1_rooks_115 : decode cX1_rooks 115 = .ok (.iconst 0, 1) := by decide +kernel
theorem dX1_rooks_116 : decode cX1_rooks 116 = .ok (.istore 6, 2) := by decide +kernel
theorem dX1_rooks_118 : decode cX1_rooks 118 = .ok (.aload_n 0, 1) := by decide +kernel
theorem dX1_rooks_119 : decode cX1_rooks 119 = .ok (.getfield 26, 3) := by decide +kernel
theorem dX1_rooks_122 : decode cX1_rooks 122 = .ok (.iload 4, 2) := by decide +kernel
theorem dX1_rooks_124 : decode cX1_rooks 124 = .ok (.dup2, 1) := by decide +kernel
theorem dX1_rooks_125 : decode cX1_rooks 125 = .ok (.iaload, 1) := by decide +kernel
theorem dX1_rooks_126 : decode cX1_rooks 126 = .ok (.iload 6, 2) := by decide +kernel
theorem dX1_rooks_128 : decode cX1_rooks 128 = .ok (.ifCond .eq 20, 3) := by decide +kernel
theorem dX1_rooks_131 : decode cX1_rooks 131 = .ok (.aload_n 0, 1) := by decide +kernel
theorem dX1_rooks_132 : decode cX1_rooks 132 = .ok (.getfield 26, 3) := by decide +kernel
theorem dX1_rooks_135 : decode cX1_rooks 135 = .ok (.iload 4, 2) := by decide +kernel
theorem dX1_rooks_137 : decode cX1_rooks 137 = .ok (.iconst 1, 1) := by decide +kernel
theorem dX1_rooks_138 : decode cX1_rooks 138 = .ok (.iload 5, 2) := by decide +kernel
theorem dX1_rooks_140 : decode cX1_rooks 140 = .ok (.ishl, 1) := by decide +kernel
theorem dX1_rooks_141 : decode cX1_rooks 141 = .ok (.iconst (-1), 1) := by decide +kernel
theorem dX1_rooks_142 : decode cX1_rooks 142 = .ok (.ixor, 1) := by decide +kernel
theorem dX1_rooks_143 : decode cX1_rooks 143 = .ok (.iand, 1) := by decide +kernel
theorem dX1_rooks_144 : decode cX1_rooks 144 = .ok (.iaload, 1) := by decide +kernel
theorem dX1_rooks_145 : decode cX1_rooks 145 = .ok (.goto 4, 3) := by decide +kernel
theorem dX1_rooks_148 : decode cX1_rooks 148 = .ok (.iconst 0, 1) := by decide +kernel
theorem dX1_rooks_149 : decode cX1_rooks 149 = .ok (.iadd, 1) := by decide +kernel
theorem dX1_rooks_150 : decode cX1_rooks 150 = .ok (.iastore, 1) := by decide +kernel
theorem dX1_rooks_151 : decode cX1_rooks 151 = .ok (.iinc 5 1, 3) := by decide +kernel
theorem dX1_rooks_154 : decode cX1_rooks 154 = .ok (.goto (-73), 3) := by decide +kernel
theorem dX1_rooks_157 : decode cX1_rooks 157 = .ok (.iinc 4 (-1), 3) := by decide +kernel
theorem dX1_rooks_160 : decode cX1_rooks 160 = .ok (.goto (-87), 3) := by decide +kernel
theorem dX1_rooks_163 : decode cX1_rooks 163 = .ok (.iinc 2 1, 3) := by decide +kernel
theorem dX1_rooks_166 : decode cX1_rooks 166 = .ok (.goto (-121), 3) := by decide +kernel
theorem dX1_rooks_169 : decode cX1_rooks 169 = .ok (.iconst 0, 1) := by decide +kernel
theorem dX1_rooks_170 : decode cX1_rooks 170 = .ok (.istore_n 2, 1) := by decide +kernel
theorem dX1_rooks_171 : decode cX1_rooks 171 = .ok (.iconst 0, 1) := by decide +kernel
theorem dX1_rooks_172 : decode cX1_rooks 172 = .ok (.istore_n 3, 1) := by decide +kernel
theorem dX1_rooks_173 : decode cX1_rooks 173 = .ok (.iload_n 3, 1) := by decide +kernel
theorem dX1_rooks_174 : decode cX1_rooks 174 = .ok (.sipush 256, 3) := by decide +kernel
theorem dX1_rooks_177 : decode cX1_rooks 177 = .ok (.if_icmp .ge 30, 3) := by decide +kernel
theorem dX1_rooks_180 : decode cX1_rooks 180 = .ok (.iload_n 2, 1) := by decide +kernel
theorem dX1_rooks_181 : decode cX1_rooks 181 = .ok (.iload_n 3, 1) := by decide +kernel
theorem dX1_rooks_182 : decode cX1_rooks 182 = .ok (.invokestatic 88, 3) := by decide +kernel
theorem dX1_rooks_185 : decode cX1_rooks 185 = .ok (.iload_n 1, 1) := by decide +kernel
theorem dX1_rooks_186 : decode cX1_rooks 186 = .ok (.if_icmp .ne 12, 3) := by decide +kernel
theorem dX1_rooks_189 : decode cX1_rooks 189 = .ok (.aload_n 0, 1) := by decide +kernel
theorem dX1_rooks_190 : decode cX1_rooks 190 = .ok (.getfield 26, 3) := by decide +kernel
theorem dX1_rooks_193 : decode cX1_rooks 193 = .ok (.iload_n 3, 1) := by decide +kernel
theorem dX1_rooks_194 : decode cX1_rooks 194 = .ok (.iaload, 1) := by decide +kernel
theorem dX1_rooks_195 : decode cX1_rooks 195 = .ok (.goto 4, 3) := by decide +kernel
theorem dX1_rooks_198 : decode cX1_rooks 198 = .ok (.iconst 0, 1) := by decide +kernel
theorem dX1_rooks_199 : decode cX1_rooks 199 = .ok (.iadd, 1) := by decide +kernel
theorem dX1_rooks_200 : decode cX1_rooks 200 = .ok (.istore_n 2, 1) := by decide +kernel
theorem dX1_rooks_201 : decode cX1_rooks 201 = .ok (.iinc 3 1, 3) := by decide +kernel
theorem dX1_rooks_204 : decode cX1_rooks 204 = .ok (.goto (-31), 3) := by decide +kernel
theorem dX1_rooks_207 : decode cX1_rooks 207 = .ok (.iload_n 2, 1) := by decide +kernel
theorem dX1_rooks_208 : decode cX1_rooks 208 = .ok (.ireturn, 1) := by decide +kernel
abbrev rm_X1_rooks : Room := { frames := 1, cells := 0, slots := 0, locals := 22 }
set_option maxHeartbeats 4000000 in
set_option maxRecDepth 100000 in
theorem c_X1_rooks (N : Nat) (l : Launch) (dC : Nat → ClassId) (dI : Nat → Nat → Nat) (cy : ClassId) (h q2 q3 q6 q7 q10 : Nat) (sz : Nat) (c0 : Int32) (c1 : Int32) (c2 : Nat → Int32) (c3 : Nat → Int32) (c4 : Int32) (c5 : Int32) (c6 : Nat → Int32) (c7 : Nat → Int32) (c8 : Int32) (c9 : Int32) (c10 : Nat → Int32) (a1 : Int32) (res : Int32 × (Nat → Int32)) (hf : f_X1_rooks N a1 c0 c2 c7 = some res) : Met l yX1_rooks wsX1_rooks rm_X1_rooks (va_Pc [.ref h, .int a1] (fun U => U.heap.size = sz ∧ va_P (dC, dI) vwCl (wX1 cy h q2 q3 q6 q7 q10 c0 c1 c2 c3 c4 c5 c6 c7 c8 c9 c10) U.heap ∧ va_K (dC, dI) vwCl [(cy, .int)] U ∧ va_D (fun _ => True) (wX1 cy h q2 q3 q6 q7 q10 c0 c1 c2 c3 c4 c5 c6 c7 c8 c9 c10))) (z_qI dC dI cy res.1 (wX1 cy h q2 q3 q6 q7 q10 c0 c1 c2 c3 c4 c5 c6 res.2 c8 c9 c10) (va_A (wX1 cy h q2 q3 q6 q7 q10 c0 c1 c2 c3 c4 c5 c6 c7 c8 c9 c10) sz)) 0 0 (va_A (wX1 cy h q2 q3 q6 q7 q10 c0 c1 c2 c3 c4 c5 c6 c7 c8 c9 c10) sz) := by
  refine Met.ofW (cc := cX1_rooks) (maxL := 7) (ret := (some .int)) (by decide) rfl ?_
  intro p e s m args below meth c s₁ B hml hv
  obtain ⟨rfl, hsz, hP, hK, hD0⟩ := hv
  have hx := B.exec
  have hb := B.bytes
  have hr := B.returns
  have hts := atoms_spec (ws := wsX1_rooks) B.pre
  have hown : s.vm.findClass RX1 = some m.cls := findClass_of_methodNamed B.named
  have hlocks := B.notSynchronized
  subst hsz
  have hD := hD0.self (sz := s.heap.size)
  generalize hAe : va_A (wX1 cy h q2 q3 q6 q7 q10 c0 c1 c2 c3 c4 c5 c6 c7 c8 c9 c10) s.heap.size = A at hD ⊢
  have hA : ∀ q : Nat, s.heap.size ≤ q → A q := fun q h => by rw [← hAe]; exact Or.inr h
  have hS : va_S A s.heap s.heap [] := va_S.rf
  have hP : va_P (dC, dI) vwCl (wX1 cy h q2 q3 q6 q7 q10 c0 c1 c2 c3 c4 c5 c6 c7 c8 c9 c10) s.heap := hP
  have hl := lv_entry ([.ref h, .int a1]) (n := 7) (Nat.le_of_ble_eq_true rfl)
  rw [lg_entry_eq]
  generalize (lg_sl ([.ref h, .int a1]) ++ List.replicate (7 - (lg_sl ([.ref h, .int a1])).length) Slot.unset).toArray = ls at hl ⊢
  have hl : lv_has ls 7 [(0, .ref h), (1, .int a1)] := hl
  have B199 : ∀ (r173 : Int32 → Int32 → Int32 → (Nat → Int32) → Option (Int32 × (Nat → Int32))), (∀ (x1 x2 x3 : Int32) (c7 : Nat → Int32) (H : Heap) (locs : List Loc) (ls : Array Slot), r173 x1 x2 x3 c7 = some res → va_P (dC, dI) vwCl (wX1 cy h q2 q3 q6 q7 q10 c0 c1 c2 c3 c4 c5 c6 c7 c8 c9 c10) H → va_D A (wX1 cy h q2 q3 q6 q7 q10 c0 c1 c2 c3 c4 c5 c6 c7 c8 c9 c10) → va_S A s.heap H locs → lv_has ls 7 [(0, .ref h), (1, .int x1), (2, .int x2), (3, .int x3)] → W p l e rm_X1_rooks s m ([.ref h, .int a1] : List Value).toArray below meth c H locs 0 0 (MQ below (z_qI dC dI cy res.1 (wX1 cy h q2 q3 q6 q7 q10 c0 c1 c2 c3 c4 c5 c6 res.2 c8 c9 c10) A) ([.ref h, .int a1] : List Value).toArray s 0 0 A) (F0 m 173 ls [])) → ∀ (x1 x3 t0 t1 : Int32) (c7 : Nat → Int32) (H : Heap) (locs : List Loc) (ls : Array Slot), f_X1_rooks_b199 N c0 c2 r173 x1 x3 t0 t1 c7 = some res → va_P (dC, dI) vwCl (wX1 cy h q2 q3 q6 q7 q10 c0 c1 c2 c3 c4 c5 c6 c7 c8 c9 c10) H → va_D A (wX1 cy h q2 q3 q6 q7 q10 c0 c1 c2 c3 c4 c5 c6 c7 c8 c9 c10) → va_S A s.heap H locs → lv_has ls 7 [(0, .ref h), (1, .int x1), (3, .int x3)] → W p l e rm_X1_rooks s m ([.ref h, .int a1] : List Value).toArray below meth c H locs 0 0 (MQ below (z_qI dC dI cy res.1 (wX1 cy h q2 q3 q6 q7 q10 c0 c1 c2 c3 c4 c5 c6 res.2 c8 c9 c10) A) ([.ref h, .int a1] : List Value).toArray s 0 0 A) (F0 m 199 ls [.int t1, .int t0]) := by
    clear hf hl hP hD hS
    intro r173 hr173
    intro x1 x3 t0 t1 c7 H locs ls hf hP hD hS hl
    unfold f_X1_rooks_b199 at hf
    refine lv_iadd hx hb dX1_rooks_199 ?_
    refine lv_istore_n (lv' := [(2, .int (t0 + t1)), (0, .ref h), (1, .int x1), (3, .int x3)]) hx hb dX1_rooks_200 rfl hl (by decide) rfl (fun ls hl => ?_)
    refine lv_iinc (v := x3 + (1 : Int32)) (lv' := [(3, .int (x3 + (1 : Int32))), (2, .int (t0 + t1)), (0, .ref h), (1, .int x1)]) hx hb dX1_rooks_201 hl (k := 3) rfl rfl (by decide) rfl (fun ls hl => ?_)
    refine lv_goto (tgt := 173) hx hb dX1_rooks_204 (by decide) ?_
    exact hr173 x1 (t0 + t1) (x3 + (1 : Int32)) c7 _ _ _ hf hP hD hS (lv_sub hl [2, 3, 1, 0] rfl)
  have B173 : ∀ n : Nat, ∀ (x1 x2 x3 : Int32) (c7 : Nat → Int32) (H : Heap) (locs : List Loc) (ls : Array Slot), f_X1_rooks_b173 N c0 c2 n x1 x2 x3 c7 = some res → va_P (dC, dI) vwCl (wX1 cy h q2 q3 q6 q7 q10 c0 c1 c2 c3 c4 c5 c6 c7 c8 c9 c10) H → va_D A (wX1 cy h q2 q3 q6 q7 q10 c0 c1 c2 c3 c4 c5 c6 c7 c8 c9 c10) → va_S A s.heap H locs → lv_has ls 7 [(0, .ref h), (1, .int x1), (2, .int x2), (3, .int x3)] → W p l e rm_X1_rooks s m ([.ref h, .int a1] : List Value).toArray below meth c H locs 0 0 (MQ below (z_qI dC dI cy res.1 (wX1 cy h q2 q3 q6 q7 q10 c0 c1 c2 c3 c4 c5 c6 res.2 c8 c9 c10) A) ([.ref h, .int a1] : List Value).toArray s 0 0 A) (F0 m 173 ls []) := by
    clear hf hl hP hD hS
    intro n
    induction n with
    | zero =>
      intro x1 x2 x3 c7 H locs ls hf hP hD hS hl
      rw [f_X1_rooks_b173] at hf
      cases hf
    | succ n ih =>
      intro x1 x2 x3 c7 H locs ls hf hP hD hS hl
      rw [f_X1_rooks_b173] at hf
      refine lv_iload_n hx hb dX1_rooks_173 rfl (lv_at hl 3 rfl) ?_
      refine lv_sipush (v := (256 : Int32)) hx hb dX1_rooks_174 (by decide) ?_
      refine lv_icmp_ge (tgt := 207) hx hb dX1_rooks_177 (by decide) (fun c_177 => ?_) (fun c_177 => ?_)
      · replace hf := (if_pos c_177).symm.trans hf
        refine lv_iload_n hx hb dX1_rooks_207 rfl (lv_at hl 2 rfl) ?_
        have hres := Option.some.inj hf
        subst hres
        have hP9 := hP.sub (ws' := (wX1 cy h q2 q3 q6 q7 q10 c0 c1 c2 c3 c4 c5 c6 c7 c8 c9 c10)) [0, 1, 2, 3, 4, 5] rfl
        have hD9 := hD.sub (ws' := (wX1 cy h q2 q3 q6 q7 q10 c0 c1 c2 c3 c4 c5 c6 c7 c8 c9 c10)) [0, 1, 2, 3, 4, 5] (by decide) rfl
        have hK9 := hK.sub (tys' := [(cy, .int)]) [0] rfl
        exact W.iret (v := x2) hx hb hr (fun t ht hW => ⟨⟨x2, (), rfl, rfl, by rw [ht]; exact hP9, va_K.moved hW.alike hK9, hD9⟩, hS.F ht⟩) hS.2.2 dX1_rooks_208
      · replace hf := (if_neg c_177).symm.trans hf
        refine lv_iload_n hx hb dX1_rooks_180 rfl (lv_at hl 2 rfl) ?_
        refine lv_iload_n hx hb dX1_rooks_181 rfl (lv_at hl 3 rfl) ?_
        obtain ⟨u182, hu182, hf⟩ := z_ob_some hf
        have hPc := hP.sub (ws' := ([] : va_W)) [] rfl
        have hDc := hD.sub (ws' := ([] : va_W)) [] (by decide) rfl
        have hKc := hK.sub (tys' := [(cy, .int)]) [0] rfl
        have hFc := va_free (wc := ([] : va_W)) hD hS hA [] rfl
        refine va_calli (va_runS (As := [.int x3]) (rest := [.int x2]) ⟨hx, hb, hml, hown, hts⟩ (c_X1_bits N l dC dI cy H.size x3 u182 hu182) (va_cwS 1 hts gX1_rooks_X1_bits rfl rfl rfl (by decide +kernel) ⟨Nat.le_of_ble_eq_true rfl, Nat.le_of_ble_eq_true rfl⟩) ⟨fun a U g mk q => by obtain ⟨q0, q1, qP, qK, qD⟩ := q; exact ⟨q0, q1, qP, va_K.moved (u := U) (U := U.calling g mk a) (Vm.Alike.refl U.vm) qK, qD⟩, fun U hU hW => ⟨rfl, by rw [hU], by rw [hU]; exact hPc, va_K.moved hW.alike hKc, hDc.weaken (fun _ _ _ _ => trivial)⟩⟩ rfl rfl hl.1 rfl (lv_room (Nat.le_of_ble_eq_true rfl)) dX1_rooks_182 ⟨Nat.zero_le _, Nat.zero_le _⟩) hS (fun q _ h => hFc q h) hFc (fun r_182 uu_ t H1 locs ht hvm hw hB hz1 hk1 hS => ?_)
        replace hw := hw.symm
        subst hw
        obtain ⟨hP1, -, hD1⟩ := hB
        rw [ht] at hP1
        obtain ⟨hP, hD⟩ := va_join (wr := (wX1 cy h q2 q3 q6 q7 q10 c0 c1 c2 c3 c4 c5 c6 c7 c8 c9 c10)) (w1 := ([] : va_W)) hP hD [] [0, 1, 2, 3, 4, 5] rfl rfl (by decide) (by decide) hk1 hFc hP1 hD1
        clear hk1 hz1 hP1 hD1 ht hPc hDc hFc
        generalize H1 = H at hP hS ⊢
        have hP : va_P (dC, dI) vwCl (wX1 cy h q2 q3 q6 q7 q10 c0 c1 c2 c3 c4 c5 c6 c7 c8 c9 c10) H := hP
        have hD : va_D A (wX1 cy h q2 q3 q6 q7 q10 c0 c1 c2 c3 c4 c5 c6 c7 c8 c9 c10) := hD
        refine lv_iload_n hx hb dX1_rooks_185 rfl (lv_at hl 1 rfl) ?_
        refine lv_icmp_ne (tgt := 198) hx hb dX1_rooks_186 (by decide) (fun c_186 => ?_) (fun c_186 => ?_)
        · replace hf := (if_neg c_186).symm.trans hf
          refine lv_iconst (v := (0 : Int32)) hx hb dX1_rooks_198 (by decide) ?_
          exact B199 (f_X1_rooks_b173 N c0 c2 n) ih x1 x3 x2 (0 : Int32) c7 _ _ _ hf hP hD hS (lv_sub hl [0, 1, 3] rfl)
        · replace hf := (if_pos c_186).symm.trans hf
          refine lv_aload_n hx hb dX1_rooks_189 rfl (lv_at hl 0 rfl) ?_
          refine va_get (D := (dC, dI)) (ci := 1) (v := .ref q7) (C := RX1) (T := TX1) (N := 11) hx hb hts (by decide +kernel) hown hK hP 0 rfl rfl 7 (by decide) (hts (.fieldLink RX1 26 "GiftLotsModel" "put" "[I") (by decide +kernel)) (fun _ h9 => h9) rfl dX1_rooks_190 ?_
          refine lv_iload_n hx hb dX1_rooks_193 rfl (lv_at hl 3 rfl) ?_
          obtain ⟨hi194, hf⟩ := z_gx_some hf
          refine va_iald hx hb hK hP 4 0 rfl rfl hi194 dX1_rooks_194 ?_
          refine lv_goto (tgt := 199) hx hb dX1_rooks_195 (by decide) ?_
          exact B199 (f_X1_rooks_b173 N c0 c2 n) ih x1 x3 x2 (c7 (x3).toNatClampNeg) c7 _ _ _ hf hP hD hS (lv_sub hl [0, 1, 3] rfl)
  have B149 : ∀ (r45 : Int32 → Int32 → (Nat → Int32) → Option (Int32 × (Nat → Int32))), (∀ (x1 x2 : Int32) (c7 : Nat → Int32) (H : Heap) (locs : List Loc) (ls : Array Slot), r45 x1 x2 c7 = some res → va_P (dC, dI) vwCl (wX1 cy h q2 q3 q6 q7 q10 c0 c1 c2 c3 c4 c5 c6 c7 c8 c9 c10) H → va_D A (wX1 cy h q2 q3 q6 q7 q10 c0 c1 c2 c3 c4 c5 c6 c7 c8 c9 c10) → va_S A s.heap H locs → lv_has ls 7 [(0, .ref h), (1, .int x1), (2, .int x2)] → W p l e rm_X1_rooks s m ([.ref h, .int a1] : List Value).toArray below meth c H locs 0 0 (MQ below (z_qI dC dI cy res.1 (wX1 cy h q2 q3 q6 q7 q10 c0 c1 c2 c3 c4 c5 c6 res.2 c8 c9 c10) A) ([.ref h, .int a1] : List Value).toArray s 0 0 A) (F0 m 45 ls [])) → ∀ (r73 : Int32 → Int32 → Int32 → Int32 → (Nat → Int32) → Option (Int32 × (Nat → Int32))), (∀ (x1 x2 x3 x4 : Int32) (c7 : Nat → Int32) (H : Heap) (locs : List Loc) (ls : Array Slot), r73 x1 x2 x3 x4 c7 = some res → va_P (dC, dI) vwCl (wX1 cy h q2 q3 q6 q7 q10 c0 c1 c2 c3 c4 c5 c6 c7 c8 c9 c10) H → va_D A (wX1 cy h q2 q3 q6 q7 q10 c0 c1 c2 c3 c4 c5 c6 c7 c8 c9 c10) → va_S A s.heap H locs → lv_has ls 7 [(0, .ref h), (1, .int x1), (2, .int x2), (3, .int x3), (4, .int x4)] → W p l e rm_X1_rooks s m ([.ref h, .int a1] : List Value).toArray below meth c H locs 0 0 (MQ below (z_qI dC dI cy res.1 (wX1 cy h q2 q3 q6 q7 q10 c0 c1 c2 c3 c4 c5 c6 res.2 c8 c9 c10) A) ([.ref h, .int a1] : List Value).toArray s 0 0 A) (F0 m 73 ls [])) → ∀ (r81 : Int32 → Int32 → Int32 → Int32 → Int32 → (Nat → Int32) → Option (Int32 × (Nat → Int32))), (∀ (x1 x2 x3 x4 x5 : Int32) (c7 : Nat → Int32) (H : Heap) (locs : List Loc) (ls : Array Slot), r81 x1 x2 x3 x4 x5 c7 = some res → va_P (dC, dI) vwCl (wX1 cy h q2 q3 q6 q7 q10 c0 c1 c2 c3 c4 c5 c6 c7 c8 c9 c10) H → va_D A (wX1 cy h q2 q3 q6 q7 q10 c0 c1 c2 c3 c4 c5 c6 c7 c8 c9 c10) → va_S A s.heap H locs → lv_has ls 7 [(0, .ref h), (1, .int x1), (2, .int x2), (3, .int x3), (4, .int x4), (5, .int x5)] → W p l e rm_X1_rooks s m ([.ref h, .int a1] : List Value).toArray below meth c H locs 0 0 (MQ below (z_qI dC dI cy res.1 (wX1 cy h q2 q3 q6 q7 q10 c0 c1 c2 c3 c4 c5 c6 res.2 c8 c9 c10) A) ([.ref h, .int a1] : List Value).toArray s 0 0 A) (F0 m 81 ls [])) → ∀ (x1 x2 x3 x4 x5 t1 t2 t3 : Int32) (c7 : Nat → Int32) (H : Heap) (locs : List Loc) (ls : Array Slot), f_X1_rooks_b149 N c0 c2 r45 r73 r81 x1 x2 x3 x4 x5 t1 t2 t3 c7 = some res → va_P (dC, dI) vwCl (wX1 cy h q2 q3 q6 q7 q10 c0 c1 c2 c3 c4 c5 c6 c7 c8 c9 c10) H → va_D A (wX1 cy h q2 q3 q6 q7 q10 c0 c1 c2 c3 c4 c5 c6 c7 c8 c9 c10) → va_S A s.heap H locs → lv_has ls 7 [(0, .ref h), (1, .int x1), (2, .int x2), (3, .int x3), (4, .int x4), (5, .int x5)] → W p l e rm_X1_rooks s m ([.ref h, .int a1] : List Value).toArray below meth c H locs 0 0 (MQ below (z_qI dC dI cy res.1 (wX1 cy h q2 q3 q6 q7 q10 c0 c1 c2 c3 c4 c5 c6 res.2 c8 c9 c10) A) ([.ref h, .int a1] : List Value).toArray s 0 0 A) (F0 m 149 ls [.int t3, .int t2, .int t1, .ref q7]) := by
    clear hf hl hP hD hS
    intro r45 hr45 r73 hr73 r81 hr81
    intro x1 x2 x3 x4 x5 t1 t2 t3 c7 H locs ls hf hP hD hS hl
    unfold f_X1_rooks_b149 at hf
    refine lv_iadd hx hb dX1_rooks_149 ?_
    obtain ⟨hi150, hf⟩ := z_gx_some hf
    refine va_iast hx hb hK hP hD hS 4 0 rfl rfl hi150 dX1_rooks_150 (fun H locs hP hD hS => ?_)
    have hP : va_P (dC, dI) vwCl (wX1 cy h q2 q3 q6 q7 q10 c0 c1 c2 c3 c4 c5 c6 (upd c7 (t1).toNatClampNeg (t2 + t3)) c8 c9 c10) H := hP
    have hD : va_D A (wX1 cy h q2 q3 q6 q7 q10 c0 c1 c2 c3 c4 c5 c6 (upd c7 (t1).toNatClampNeg (t2 + t3)) c8 c9 c10) := hD
    refine lv_iinc (v := x5 + (1 : Int32)) (lv' := [(5, .int (x5 + (1 : Int32))), (0, .ref h), (1, .int x1), (2, .int x2), (3, .int x3), (4, .int x4)]) hx hb dX1_rooks_151 hl (k := 5) rfl rfl (by decide) rfl (fun ls hl => ?_)
    refine lv_goto (tgt := 81) hx hb dX1_rooks_154 (by decide) ?_
    exact hr81 x1 x2 x3 x4 (x5 + (1 : Int32)) (upd c7 (t1).toNatClampNeg (t2 + t3)) _ _ _ hf hP hD hS (lv_sub hl [1, 2, 3, 4, 5, 0] rfl)
  have B116 : ∀ (r45 : Int32 → Int32 → (Nat → Int32) → Option (Int32 × (Nat → Int32))), (∀ (x1 x2 : Int32) (c7 : Nat → Int32) (H : Heap) (locs : List Loc) (ls : Array Slot), r45 x1 x2 c7 = some res → va_P (dC, dI) vwCl (wX1 cy h q2 q3 q6 q7 q10 c0 c1 c2 c3 c4 c5 c6 c7 c8 c9 c10) H → va_D A (wX1 cy h q2 q3 q6 q7 q10 c0 c1 c2 c3 c4 c5 c6 c7 c8 c9 c10) → va_S A s.heap H locs → lv_has ls 7 [(0, .ref h), (1, .int x1), (2, .int x2)] → W p l e rm_X1_rooks s m ([.ref h, .int a1] : List Value).toArray below meth c H locs 0 0 (MQ below (z_qI dC dI cy res.1 (wX1 cy h q2 q3 q6 q7 q10 c0 c1 c2 c3 c4 c5 c6 res.2 c8 c9 c10) A) ([.ref h, .int a1] : List Value).toArray s 0 0 A) (F0 m 45 ls [])) → ∀ (r73 : Int32 → Int32 → Int32 → Int32 → (Nat → Int32) → Option (Int32 × (Nat → Int32))), (∀ (x1 x2 x3 x4 : Int32) (c7 : Nat → Int32) (H : Heap) (locs : List Loc) (ls : Array Slot), r73 x1 x2 x3 x4 c7 = some res → va_P (dC, dI) vwCl (wX1 cy h q2 q3 q6 q7 q10 c0 c1 c2 c3 c4 c5 c6 c7 c8 c9 c10) H → va_D A (wX1 cy h q2 q3 q6 q7 q10 c0 c1 c2 c3 c4 c5 c6 c7 c8 c9 c10) → va_S A s.heap H locs → lv_has ls 7 [(0, .ref h), (1, .int x1), (2, .int x2), (3, .int x3), (4, .int x4)] → W p l e rm_X1_rooks s m ([.ref h, .int a1] : List Value).toArray below meth c H locs 0 0 (MQ below (z_qI dC dI cy res.1 (wX1 cy h q2 q3 q6 q7 q10 c0 c1 c2 c3 c4 c5 c6 res.2 c8 c9 c10) A) ([.ref h, .int a1] : List Value).toArray s 0 0 A) (F0 m 73 ls [])) → ∀ (r81 : Int32 → Int32 → Int32 → Int32 → Int32 → (Nat → Int32) → Option (Int32 × (Nat → Int32))), (∀ (x1 x2 x3 x4 x5 : Int32) (c7 : Nat → Int32) (H : Heap) (locs : List Loc) (ls : Array Slot), r81 x1 x2 x3 x4 x5 c7 = some res → va_P (dC, dI) vwCl (wX1 cy h q2 q3 q6 q7 q10 c0 c1 c2 c3 c4 c5 c6 c7 c8 c9 c10) H → va_D A (wX1 cy h q2 q3 q6 q7 q10 c0 c1 c2 c3 c4 c5 c6 c7 c8 c9 c10) → va_S A s.heap H locs → lv_has ls 7 [(0, .ref h), (1, .int x1), (2, .int x2), (3, .int x3), (4, .int x4), (5, .int x5)] → W p l e rm_X1_rooks s m ([.ref h, .int a1] : List Value).toArray below meth c H locs 0 0 (MQ below (z_qI dC dI cy res.1 (wX1 cy h q2 q3 q6 q7 q10 c0 c1 c2 c3 c4 c5 c6 res.2 c8 c9 c10) A) ([.ref h, .int a1] : List Value).toArray s 0 0 A) (F0 m 81 ls [])) → ∀ (x1 x2 x3 x4 x5 t0 : Int32) (c7 : Nat → Int32) (H : Heap) (locs : List Loc) (ls : Array Slot), f_X1_rooks_b116 N c0 c2 r45 r73 r81 x1 x2 x3 x4 x5 t0 c7 = some res → va_P (dC, dI) vwCl (wX1 cy h q2 q3 q6 q7 q10 c0 c1 c2 c3 c4 c5 c6 c7 c8 c9 c10) H → va_D A (wX1 cy h q2 q3 q6 q7 q10 c0 c1 c2 c3 c4 c5 c6 c7 c8 c9 c10) → va_S A s.heap H locs → lv_has ls 7 [(0, .ref h), (1, .int x1), (2, .int x2), (3, .int x3), (4, .int x4), (5, .int x5)] → W p l e rm_X1_rooks s m ([.ref h, .int a1] : List Value).toArray below meth c H locs 0 0 (MQ below (z_qI dC dI cy res.1 (wX1 cy h q2 q3 q6 q7 q10 c0 c1 c2 c3 c4 c5 c6 res.2 c8 c9 c10) A) ([.ref h, .int a1] : List Value).toArray s 0 0 A) (F0 m 116 ls [.int t0]) := by
    clear hf hl hP hD hS
    intro r45 hr45 r73 hr73 r81 hr81
    intro x1 x2 x3 x4 x5 t0 c7 H locs ls hf hP hD hS hl
    unfold f_X1_rooks_b116 at hf
    refine lv_istore (lv' := [(6, .int t0), (0, .ref h), (1, .int x1), (2, .int x2), (3, .int x3), (4, .int x4), (5, .int x5)]) hx hb dX1_rooks_116 hl (by decide) rfl (fun ls hl => ?_)
    refine lv_aload_n hx hb dX1_rooks_118 rfl (lv_at hl 1 rfl) ?_
    refine va_get (D := (dC, dI)) (ci := 1) (v := .ref q7) (C := RX1) (T := TX1) (N := 11) hx hb hts (by decide +kernel) hown hK hP 0 rfl rfl 7 (by decide) (hts (.fieldLink RX1 26 "GiftLotsModel" "put" "[I") (by decide +kernel)) (fun _ h9 => h9) rfl dX1_rooks_119 ?_
    refine lv_iload hx hb dX1_rooks_122 (lv_at hl 5 rfl) ?_
    refine lv_dup2_11 hx hb dX1_rooks_124 rfl rfl ?_
    obtain ⟨hi125, hf⟩ := z_gx_some hf
    refine va_iald hx hb hK hP 4 0 rfl rfl hi125 dX1_rooks_125 ?_
    refine lv_iload hx hb dX1_rooks_126 (lv_at hl 0 rfl) ?_
    refine lv_if_eq (tgt := 148) hx hb dX1_rooks_128 (by decide) (fun c_128 => ?_) (fun c_128 => ?_)
    · replace hf := (if_pos c_128).symm.trans hf
      refine lv_iconst (v := (0 : Int32)) hx hb dX1_rooks_148 (by decide) ?_
      exact B149 r45 hr45 r73 hr73 r81 hr81 x1 x2 x3 x4 x5 x4 (c7 (x4).toNatClampNeg) (0 : Int32) c7 _ _ _ hf hP hD hS (lv_sub hl [1, 2, 3, 4, 5, 6] rfl)
    · replace hf := (if_neg c_128).symm.trans hf
      refine lv_aload_n hx hb dX1_rooks_131 rfl (lv_at hl 1 rfl) ?_
      refine va_get (D := (dC, dI)) (ci := 1) (v := .ref q7) (C := RX1) (T := TX1) (N := 11) hx hb hts (by decide +kernel) hown hK hP 0 rfl rfl 7 (by decide) (hts (.fieldLink RX1 26 "GiftLotsModel" "put" "[I") (by decide +kernel)) (fun _ h9 => h9) rfl dX1_rooks_132 ?_
      refine lv_iload hx hb dX1_rooks_135 (lv_at hl 5 rfl) ?_
      refine lv_iconst (v := (1 : Int32)) hx hb dX1_rooks_137 (by decide) ?_
      refine lv_iload hx hb dX1_rooks_138 (lv_at hl 6 rfl) ?_
      refine lv_ishl hx hb dX1_rooks_140 ?_
      refine lv_iconst (v := (-1 : Int32)) hx hb dX1_rooks_141 (by decide) ?_
      refine lv_ixor hx hb dX1_rooks_142 ?_
      refine lv_iand hx hb dX1_rooks_143 ?_
      obtain ⟨hi144, hf⟩ := z_gx_some hf
      refine va_iald hx hb hK hP 4 0 rfl rfl hi144 dX1_rooks_144 ?_
      refine lv_goto (tgt := 149) hx hb dX1_rooks_145 (by decide) ?_
      exact B149 r45 hr45 r73 hr73 r81 hr81 x1 x2 x3 x4 x5 x4 (c7 (x4).toNatClampNeg) (c7 (x4 &&& (((1 : Int32) <<< (x5 &&& 31)) ^^^ (-1 : Int32))).toNatClampNeg) c7 _ _ _ hf hP hD hS (lv_sub hl [1, 2, 3, 4, 5, 6] rfl)
  have B115 : ∀ (r45 : Int32 → Int32 → (Nat → Int32) → Option (Int32 × (Nat → Int32))), (∀ (x1 x2 : Int32) (c7 : Nat → Int32) (H : Heap) (locs : List Loc) (ls : Array Slot), r45 x1 x2 c7 = some res → va_P (dC, dI) vwCl (wX1 cy h q2 q3 q6 q7 q10 c0 c1 c2 c3 c4 c5 c6 c7 c8 c9 c10) H → va_D A (wX1 cy h q2 q3 q6 q7 q10 c0 c1 c2 c3 c4 c5 c6 c7 c8 c9 c10) → va_S A s.heap H locs → lv_has ls 7 [(0, .ref h), (1, .int x1), (2, .int x2)] → W p l e rm_X1_rooks s m ([.ref h, .int a1] : List Value).toArray below meth c H locs 0 0 (MQ below (z_qI dC dI cy res.1 (wX1 cy h q2 q3 q6 q7 q10 c0 c1 c2 c3 c4 c5 c6 res.2 c8 c9 c10) A) ([.ref h, .int a1] : List Value).toArray s 0 0 A) (F0 m 45 ls [])) → ∀ (r73 : Int32 → Int32 → Int32 → Int32 → (Nat → Int32) → Option (Int32 × (Nat → Int32))), (∀ (x1 x2 x3 x4 : Int32) (c7 : Nat → Int32) (H : Heap) (locs : List Loc) (ls : Array Slot), r73 x1 x2 x3 x4 c7 = some res → va_P (dC, dI) vwCl (wX1 cy h q2 q3 q6 q7 q10 c0 c1 c2 c3 c4 c5 c6 c7 c8 c9 c10) H → va_D A (wX1 cy h q2 q3 q6 q7 q10 c0 c1 c2 c3 c4 c5 c6 c7 c8 c9 c10) → va_S A s.heap H locs → lv_has ls 7 [(0, .ref h), (1, .int x1), (2, .int x2), (3, .int x3), (4, .int x4)] → W p l e rm_X1_rooks s m ([.ref h, .int a1] : List Value).toArray below meth c H locs 0 0 (MQ below (z_qI dC dI cy res.1 (wX1 cy h q2 q3 q6 q7 q10 c0 c1 c2 c3 c4 c5 c6 res.2 c8 c9 c10) A) ([.ref h, .int a1] : List Value).toArray s 0 0 A) (F0 m 73 ls [])) → ∀ (r81 : Int32 → Int32 → Int32 → Int32 → Int32 → (Nat → Int32) → Option (Int32 × (Nat → Int32))), (∀ (x1 x2 x3 x4 x5 : Int32) (c7 : Nat → Int32) (H : Heap) (locs : List Loc) (ls : Array Slot), r81 x1 x2 x3 x4 x5 c7 = some res → va_P (dC, dI) vwCl (wX1 cy h q2 q3 q6 q7 q10 c0 c1 c2 c3 c4 c5 c6 c7 c8 c9 c10) H → va_D A (wX1 cy h q2 q3 q6 q7 q10 c0 c1 c2 c3 c4 c5 c6 c7 c8 c9 c10) → va_S A s.heap H locs → lv_has ls 7 [(0, .ref h), (1, .int x1), (2, .int x2), (3, .int x3), (4, .int x4), (5, .int x5)] → W p l e rm_X1_rooks s m ([.ref h, .int a1] : List Value).toArray below meth c H locs 0 0 (MQ below (z_qI dC dI cy res.1 (wX1 cy h q2 q3 q6 q7 q10 c0 c1 c2 c3 c4 c5 c6 res.2 c8 c9 c10) A) ([.ref h, .int a1] : List Value).toArray s 0 0 A) (F0 m 81 ls [])) → ∀ (x1 x2 x3 x4 x5 : Int32) (c7 : Nat → Int32) (H : Heap) (locs : List Loc) (ls : Array Slot), f_X1_rooks_b115 N c0 c2 r45 r73 r81 x1 x2 x3 x4 x5 c7 = some res → va_P (dC, dI) vwCl (wX1 cy h q2 q3 q6 q7 q10 c0 c1 c2 c3 c4 c5 c6 c7 c8 c9 c10) H → va_D A (wX1 cy h q2 q3 q6 q7 q10 c0 c1 c2 c3 c4 c5 c6 c7 c8 c9 c10) → va_S A s.heap H locs → lv_has ls 7 [(0, .ref h), (1, .int x1), (2, .int x2), (3, .int x3), (4, .int x4), (5, .int x5)] → W p l e rm_X1_rooks s m ([.ref h, .int a1] : List Value).toArray below meth c H locs 0 0 (MQ below (z_qI dC dI cy res.1 (wX1 cy h q2 q3 q6 q7 q10 c0 c1 c2 c3 c4 c5 c6 res.2 c8 c9 c10) A) ([.ref h, .int a1] : List Value).toArray s 0 0 A) (F0 m 115 ls []) := by
    clear hf hl hP hD hS
    intro r45 hr45 r73 hr73 r81 hr81
    intro x1 x2 x3 x4 x5 c7 H locs ls hf hP hD hS hl
    unfold f_X1_rooks_b115 at hf
    refine lv_iconst (v := (0 : Int32)) hx hb dX1_rooks_115 (by decide) ?_
    exact B116 r45 hr45 r73 hr73 r81 hr81 x1 x2 x3 x4 x5 (0 : Int32) c7 _ _ _ hf hP hD hS (lv_sub hl [0, 1, 2, 3, 4, 5] rfl)
  have B81 : ∀ (r45 : Int32 → Int32 → (Nat → Int32) → Option (Int32 × (Nat → Int32))), (∀ (x1 x2 : Int32) (c7 : Nat → Int32) (H : Heap) (locs : List Loc) (ls : Array Slot), r45 x1 x2 c7 = some res → va_P (dC, dI) vwCl (wX1 cy h q2 q3 q6 q7 q10 c0 c1 c2 c3 c4 c5 c6 c7 c8 c9 c10) H → va_D A (wX1 cy h q2 q3 q6 q7 q10 c0 c1 c2 c3 c4 c5 c6 c7 c8 c9 c10) → va_S A s.heap H locs → lv_has ls 7 [(0, .ref h), (1, .int x1), (2, .int x2)] → W p l e rm_X1_rooks s m ([.ref h, .int a1] : List Value).toArray below meth c H locs 0 0 (MQ below (z_qI dC dI cy res.1 (wX1 cy h q2 q3 q6 q7 q10 c0 c1 c2 c3 c4 c5 c6 res.2 c8 c9 c10) A) ([.ref h, .int a1] : List Value).toArray s 0 0 A) (F0 m 45 ls [])) → ∀ (r73 : Int32 → Int32 → Int32 → Int32 → (Nat → Int32) → Option (Int32 × (Nat → Int32))), (∀ (x1 x2 x3 x4 : Int32) (c7 : Nat → Int32) (H : Heap) (locs : List Loc) (ls : Array Slot), r73 x1 x2 x3 x4 c7 = some res → va_P (dC, dI) vwCl (wX1 cy h q2 q3 q6 q7 q10 c0 c1 c2 c3 c4 c5 c6 c7 c8 c9 c10) H → va_D A (wX1 cy h q2 q3 q6 q7 q10 c0 c1 c2 c3 c4 c5 c6 c7 c8 c9 c10) → va_S A s.heap H locs → lv_has ls 7 [(0, .ref h), (1, .int x1), (2, .int x2), (3, .int x3), (4, .int x4)] → W p l e rm_X1_rooks s m ([.ref h, .int a1] : List Value).toArray below meth c H locs 0 0 (MQ below (z_qI dC dI cy res.1 (wX1 cy h q2 q3 q6 q7 q10 c0 c1 c2 c3 c4 c5 c6 res.2 c8 c9 c10) A) ([.ref h, .int a1] : List Value).toArray s 0 0 A) (F0 m 73 ls [])) → ∀ n : Nat, ∀ (x1 x2 x3 x4 x5 : Int32) (c7 : Nat → Int32) (H : Heap) (locs : List Loc) (ls : Array Slot), f_X1_rooks_b81 N c0 c2 r45 r73 n x1 x2 x3 x4 x5 c7 = some res → va_P (dC, dI) vwCl (wX1 cy h q2 q3 q6 q7 q10 c0 c1 c2 c3 c4 c5 c6 c7 c8 c9 c10) H → va_D A (wX1 cy h q2 q3 q6 q7 q10 c0 c1 c2 c3 c4 c5 c6 c7 c8 c9 c10) → va_S A s.heap H locs → lv_has ls 7 [(0, .ref h), (1, .int x1), (2, .int x2), (3, .int x3), (4, .int x4), (5, .int x5)] → W p l e rm_X1_rooks s m ([.ref h, .int a1] : List Value).toArray below meth c H locs 0 0 (MQ below (z_qI dC dI cy res.1 (wX1 cy h q2 q3 q6 q7 q10 c0 c1 c2 c3 c4 c5 c6 res.2 c8 c9 c10) A) ([.ref h, .int a1] : List Value).toArray s 0 0 A) (F0 m 81 ls []) := by
    clear hf hl hP hD hS
    intro r45 hr45 r73 hr73
    intro n
    induction n with
    | zero =>
      intro x1 x2 x3 x4 x5 c7 H locs ls hf hP hD hS hl
      rw [f_X1_rooks_b81] at hf
      cases hf
    | succ n ih =>
      intro x1 x2 x3 x4 x5 c7 H locs ls hf hP hD hS hl
      rw [f_X1_rooks_b81] at hf
      refine lv_iload hx hb dX1_rooks_81 (lv_at hl 5 rfl) ?_
      refine lv_aload_n hx hb dX1_rooks_83 rfl (lv_at hl 0 rfl) ?_
      refine va_get (D := (dC, dI)) (ci := 1) (v := .int c0) (C := RX1) (T := TX1) (N := 11) hx hb hts (by decide +kernel) hown hK hP 0 rfl rfl 0 (by decide) (hts (.fieldLink RX1 7 "GiftLotsModel" "ones" "I") (by decide +kernel)) (fun _ h9 => h9) rfl dX1_rooks_84 ?_
      refine lv_icmp_ge (tgt := 157) hx hb dX1_rooks_87 (by decide) (fun c_87 => ?_) (fun c_87 => ?_)
      · replace hf := (if_pos c_87).symm.trans hf
        refine lv_iinc (v := x4 + (-1 : Int32)) (lv' := [(4, .int (x4 + (-1 : Int32))), (0, .ref h), (1, .int x1), (2, .int x2), (3, .int x3), (5, .int x5)]) hx hb dX1_rooks_157 hl (k := 4) rfl rfl (by decide) rfl (fun ls hl => ?_)
        refine lv_goto (tgt := 73) hx hb dX1_rooks_160 (by decide) ?_
        exact hr73 x1 x2 x3 (x4 + (-1 : Int32)) c7 _ _ _ hf hP hD hS (lv_sub hl [1, 2, 3, 4, 0] rfl)
      · replace hf := (if_neg c_87).symm.trans hf
        refine lv_iload_n hx hb dX1_rooks_90 rfl (lv_at hl 3 rfl) ?_
        refine lv_iload hx hb dX1_rooks_91 (lv_at hl 5 rfl) ?_
        refine lv_ishr hx hb dX1_rooks_93 ?_
        refine lv_iconst (v := (1 : Int32)) hx hb dX1_rooks_94 (by decide) ?_
        refine lv_iand hx hb dX1_rooks_95 ?_
        refine lv_iconst (v := (1 : Int32)) hx hb dX1_rooks_96 (by decide) ?_
        refine lv_icmp_ne (tgt := 115) hx hb dX1_rooks_97 (by decide) (fun c_97 => ?_) (fun c_97 => ?_)
        · replace hf := (if_neg c_97).symm.trans hf
          exact B115 r45 hr45 r73 hr73 (f_X1_rooks_b81 N c0 c2 r45 r73 n) ih x1 x2 x3 x4 x5 c7 _ _ _ hf hP hD hS (lv_sub hl [0, 1, 2, 3, 4, 5] rfl)
        · replace hf := (if_pos c_97).symm.trans hf
          refine lv_iload hx hb dX1_rooks_100 (lv_at hl 4 rfl) ?_
          refine lv_iload hx hb dX1_rooks_102 (lv_at hl 5 rfl) ?_
          refine lv_ishr hx hb dX1_rooks_104 ?_
          refine lv_iconst (v := (1 : Int32)) hx hb dX1_rooks_105 (by decide) ?_
          refine lv_iand hx hb dX1_rooks_106 ?_
          refine lv_iconst (v := (1 : Int32)) hx hb dX1_rooks_107 (by decide) ?_
          refine lv_icmp_ne (tgt := 115) hx hb dX1_rooks_108 (by decide) (fun c_108 => ?_) (fun c_108 => ?_)
          · replace hf := (if_neg c_108).symm.trans hf
            exact B115 r45 hr45 r73 hr73 (f_X1_rooks_b81 N c0 c2 r45 r73 n) ih x1 x2 x3 x4 x5 c7 _ _ _ hf hP hD hS (lv_sub hl [0, 1, 2, 3, 4, 5] rfl)
          · replace hf := (if_pos c_108).symm.trans hf
            refine lv_iconst (v := (1 : Int32)) hx hb dX1_rooks_111 (by decide) ?_
            refine lv_goto (tgt := 116) hx hb dX1_rooks_112 (by decide) ?_
            exact B116 r45 hr45 r73 hr73 (f_X1_rooks_b81 N c0 c2 r45 r73 n) ih x1 x2 x3 x4 x5 (1 : Int32) c7 _ _ _ hf hP hD hS (lv_sub hl [0, 1, 2, 3, 4, 5] rfl)
  have B73 : ∀ (r45 : Int32 → Int32 → (Nat → Int32) → Option (Int32 × (Nat → Int32))), (∀ (x1 x2 : Int32) (c7 : Nat → Int32) (H : Heap) (locs : List Loc) (ls : Array Slot), r45 x1 x2 c7 = some res → va_P (dC, dI) vwCl (wX1 cy h q2 q3 q6 q7 q10 c0 c1 c2 c3 c4 c5 c6 c7 c8 c9 c10) H → va_D A (wX1 cy h q2 q3 q6 q7 q10 c0 c1 c2 c3 c4 c5 c6 c7 c8 c9 c10) → va_S A s.heap H locs → lv_has ls 7 [(0, .ref h), (1, .int x1), (2, .int x2)] → W p l e rm_X1_rooks s m ([.ref h, .int a1] : List Value).toArray below meth c H locs 0 0 (MQ below (z_qI dC dI cy res.1 (wX1 cy h q2 q3 q6 q7 q10 c0 c1 c2 c3 c4 c5 c6 res.2 c8 c9 c10) A) ([.ref h, .int a1] : List Value).toArray s 0 0 A) (F0 m 45 ls [])) → ∀ n : Nat, ∀ (x1 x2 x3 x4 : Int32) (c7 : Nat → Int32) (H : Heap) (locs : List Loc) (ls : Array Slot), f_X1_rooks_b73 N c0 c2 r45 n x1 x2 x3 x4 c7 = some res → va_P (dC, dI) vwCl (wX1 cy h q2 q3 q6 q7 q10 c0 c1 c2 c3 c4 c5 c6 c7 c8 c9 c10) H → va_D A (wX1 cy h q2 q3 q6 q7 q10 c0 c1 c2 c3 c4 c5 c6 c7 c8 c9 c10) → va_S A s.heap H locs → lv_has ls 7 [(0, .ref h), (1, .int x1), (2, .int x2), (3, .int x3), (4, .int x4)] → W p l e rm_X1_rooks s m ([.ref h, .int a1] : List Value).toArray below meth c H locs 0 0 (MQ below (z_qI dC dI cy res.1 (wX1 cy h q2 q3 q6 q7 q10 c0 c1 c2 c3 c4 c5 c6 res.2 c8 c9 c10) A) ([.ref h, .int a1] : List Value).toArray s 0 0 A) (F0 m 73 ls []) := by
    clear hf hl hP hD hS
    intro r45 hr45
    intro n
    induction n with
    | zero =>
      intro x1 x2 x3 x4 c7 H locs ls hf hP hD hS hl
      rw [f_X1_rooks_b73] at hf
      cases hf
    | succ n ih =>
      intro x1 x2 x3 x4 c7 H locs ls hf hP hD hS hl
      rw [f_X1_rooks_b73] at hf
      refine lv_iload hx hb dX1_rooks_73 (lv_at hl 4 rfl) ?_
      refine lv_if_lt (tgt := 163) hx hb dX1_rooks_75 (by decide) (fun c_75 => ?_) (fun c_75 => ?_)
      · replace hf := (if_pos c_75).symm.trans hf
        refine lv_iinc (v := x2 + (1 : Int32)) (lv' := [(2, .int (x2 + (1 : Int32))), (0, .ref h), (1, .int x1), (3, .int x3), (4, .int x4)]) hx hb dX1_rooks_163 hl (k := 2) rfl rfl (by decide) rfl (fun ls hl => ?_)
        refine lv_goto (tgt := 45) hx hb dX1_rooks_166 (by decide) ?_
        exact hr45 x1 (x2 + (1 : Int32)) c7 _ _ _ hf hP hD hS (lv_sub hl [1, 2, 0] rfl)
      · replace hf := (if_neg c_75).symm.trans hf
        refine lv_iconst (v := (0 : Int32)) hx hb dX1_rooks_78 (by decide) ?_
        refine lv_istore (lv' := [(5, .int (0 : Int32)), (0, .ref h), (1, .int x1), (2, .int x2), (3, .int x3), (4, .int x4)]) hx hb dX1_rooks_79 hl (by decide) rfl (fun ls hl => ?_)
        exact B81 r45 hr45 (f_X1_rooks_b73 N c0 c2 r45 n) ih N x1 x2 x3 x4 (0 : Int32) c7 _ _ _ hf hP hD hS (lv_sub hl [1, 2, 3, 4, 5, 0] rfl)
  have B45 : ∀ n : Nat, ∀ (x1 x2 : Int32) (c7 : Nat → Int32) (H : Heap) (locs : List Loc) (ls : Array Slot), f_X1_rooks_b45 N c0 c2 n x1 x2 c7 = some res → va_P (dC, dI) vwCl (wX1 cy h q2 q3 q6 q7 q10 c0 c1 c2 c3 c4 c5 c6 c7 c8 c9 c10) H → va_D A (wX1 cy h q2 q3 q6 q7 q10 c0 c1 c2 c3 c4 c5 c6 c7 c8 c9 c10) → va_S A s.heap H locs → lv_has ls 7 [(0, .ref h), (1, .int x1), (2, .int x2)] → W p l e rm_X1_rooks s m ([.ref h, .int a1] : List Value).toArray below meth c H locs 0 0 (MQ below (z_qI dC dI cy res.1 (wX1 cy h q2 q3 q6 q7 q10 c0 c1 c2 c3 c4 c5 c6 res.2 c8 c9 c10) A) ([.ref h, .int a1] : List Value).toArray s 0 0 A) (F0 m 45 ls []) := by
    clear hf hl hP hD hS
    intro n
    induction n with
    | zero =>
      intro x1 x2 c7 H locs ls hf hP hD hS hl
      rw [f_X1_rooks_b45] at hf
      cases hf
    | succ n ih =>
      intro x1 x2 c7 H locs ls hf hP hD hS hl
      rw [f_X1_rooks_b45] at hf
      refine lv_iload_n hx hb dX1_rooks_45 rfl (lv_at hl 2 rfl) ?_
      refine lv_aload_n hx hb dX1_rooks_46 rfl (lv_at hl 0 rfl) ?_
      refine va_get (D := (dC, dI)) (ci := 1) (v := .int c0) (C := RX1) (T := TX1) (N := 11) hx hb hts (by decide +kernel) hown hK hP 0 rfl rfl 0 (by decide) (hts (.fieldLink RX1 7 "GiftLotsModel" "ones" "I") (by decide +kernel)) (fun _ h9 => h9) rfl dX1_rooks_47 ?_
      refine lv_icmp_ge (tgt := 169) hx hb dX1_rooks_50 (by decide) (fun c_50 => ?_) (fun c_50 => ?_)
      · replace hf := (if_pos c_50).symm.trans hf
        refine lv_iconst (v := (0 : Int32)) hx hb dX1_rooks_169 (by decide) ?_
        refine lv_istore_n (lv' := [(2, .int (0 : Int32)), (0, .ref h), (1, .int x1)]) hx hb dX1_rooks_170 rfl hl (by decide) rfl (fun ls hl => ?_)
        refine lv_iconst (v := (0 : Int32)) hx hb dX1_rooks_171 (by decide) ?_
        refine lv_istore_n (lv' := [(3, .int (0 : Int32)), (2, .int (0 : Int32)), (0, .ref h), (1, .int x1)]) hx hb dX1_rooks_172 rfl hl (by decide) rfl (fun ls hl => ?_)
        exact B173 N x1 (0 : Int32) (0 : Int32) c7 _ _ _ hf hP hD hS (lv_sub hl [2, 3, 1, 0] rfl)
      · replace hf := (if_neg c_50).symm.trans hf
        refine lv_aload_n hx hb dX1_rooks_53 rfl (lv_at hl 0 rfl) ?_
        obtain ⟨u54, hu54, hf⟩ := z_ob_some hf
        have hPc := hP.sub (ws' := (wX1 cy h q2 q3 q6 q7 q10 c0 c1 c2 c3 c4 c5 c6 c7 c8 c9 c10)) [0, 1, 2, 3, 4, 5] rfl
        have hDc := hD.sub (ws' := (wX1 cy h q2 q3 q6 q7 q10 c0 c1 c2 c3 c4 c5 c6 c7 c8 c9 c10)) [0, 1, 2, 3, 4, 5] (by decide) rfl
        have hKc := hK.sub (tys' := [(cy, .int)]) [0] rfl
        have hFc := va_free (wc := (wX1 cy h q2 q3 q6 q7 q10 c0 c1 c2 c3 c4 c5 c6 c7 c8 c9 c10)) hD hS hA [0, 1, 2, 3, 4, 5] rfl
        refine va_calli (va_runV (As := []) (rest := []) ⟨hx, hb, hml, hown, hts⟩ (c_X1_all N l dC dI cy h q2 q3 q6 q7 q10 H.size c0 c1 c2 c3 c4 c5 c6 c7 c8 c9 c10 u54 hu54) (cwV 0 hts gX1_rooks_X1_all rfl rfl rfl (by decide +kernel) ⟨Nat.le_of_ble_eq_true rfl, Nat.le_of_ble_eq_true rfl⟩) ⟨fun a U g mk q => by obtain ⟨q0, q1, qP, qK, qD⟩ := q; exact ⟨q0, q1, qP, va_K.moved (u := U) (U := U.calling g mk a) (Vm.Alike.refl U.vm) qK, qD⟩, va_recv hKc hPc (ci := 1) (q0 := 0) rfl rfl, fun U hU hW => ⟨rfl, by rw [hU], by rw [hU]; exact hPc, va_K.moved hW.alike hKc, hDc.weaken (fun _ _ _ _ => trivial)⟩⟩ rfl rfl hl.1 rfl (lv_room (Nat.le_of_ble_eq_true rfl)) dX1_rooks_54 ⟨Nat.zero_le _, Nat.zero_le _⟩) hS (fun q _ h => hFc q h) hFc (fun r_54 uu_ t H1 locs ht hvm hw hB hz1 hk1 hS => ?_)
        replace hw := hw.symm
        subst hw
        obtain ⟨hP1, -, hD1⟩ := hB
        rw [ht] at hP1
        obtain ⟨hP, hD⟩ := va_join (wr := []) (w1 := (wX1 cy h q2 q3 q6 q7 q10 c0 c1 c2 c3 c4 c5 c6 c7 c8 c9 c10)) hP hD [0, 1, 2, 3, 4, 5] [] rfl rfl (by decide) (by decide) hk1 hFc hP1 hD1
        clear hk1 hz1 hP1 hD1 ht hPc hDc hFc
        generalize H1 = H at hP hS ⊢
        have hP : va_P (dC, dI) vwCl (wX1 cy h q2 q3 q6 q7 q10 c0 c1 c2 c3 c4 c5 c6 c7 c8 c9 c10) H := hP
        have hD : va_D A (wX1 cy h q2 q3 q6 q7 q10 c0 c1 c2 c3 c4 c5 c6 c7 c8 c9 c10) := hD
        refine lv_aload_n hx hb dX1_rooks_57 rfl (lv_at hl 0 rfl) ?_
        refine va_get (D := (dC, dI)) (ci := 1) (v := .ref q2) (C := RX1) (T := TX1) (N := 11) hx hb hts (by decide +kernel) hown hK hP 0 rfl rfl 2 (by decide) (hts (.fieldLink RX1 16 "GiftLotsModel" "may" "[I") (by decide +kernel)) (fun _ h9 => h9) rfl dX1_rooks_58 ?_
        refine lv_iload_n hx hb dX1_rooks_61 rfl (lv_at hl 2 rfl) ?_
        obtain ⟨hi62, hf⟩ := z_gx_some hf
        refine va_iald hx hb hK hP 1 0 rfl rfl hi62 dX1_rooks_62 ?_
        refine lv_iconst (v := (-1 : Int32)) hx hb dX1_rooks_63 (by decide) ?_
        refine lv_ixor hx hb dX1_rooks_64 ?_
        refine lv_iand hx hb dX1_rooks_65 ?_
        refine lv_istore_n (lv' := [(3, .int (u54 &&& ((c2 (x2).toNatClampNeg) ^^^ (-1 : Int32)))), (0, .ref h), (1, .int x1), (2, .int x2)]) hx hb dX1_rooks_66 rfl hl (by decide) rfl (fun ls hl => ?_)
        refine lv_aload_n hx hb dX1_rooks_67 rfl (lv_at hl 1 rfl) ?_
        obtain ⟨u68, hu68, hf⟩ := z_ob_some hf
        have hPc := hP.sub (ws' := (wX1 cy h q2 q3 q6 q7 q10 c0 c1 c2 c3 c4 c5 c6 c7 c8 c9 c10)) [0, 1, 2, 3, 4, 5] rfl
        have hDc := hD.sub (ws' := (wX1 cy h q2 q3 q6 q7 q10 c0 c1 c2 c3 c4 c5 c6 c7 c8 c9 c10)) [0, 1, 2, 3, 4, 5] (by decide) rfl
        have hKc := hK.sub (tys' := [(cy, .int)]) [0] rfl
        have hFc := va_free (wc := (wX1 cy h q2 q3 q6 q7 q10 c0 c1 c2 c3 c4 c5 c6 c7 c8 c9 c10)) hD hS hA [0, 1, 2, 3, 4, 5] rfl
        refine va_calli (va_runV (As := []) (rest := []) ⟨hx, hb, hml, hown, hts⟩ (c_X1_all N l dC dI cy h q2 q3 q6 q7 q10 H.size c0 c1 c2 c3 c4 c5 c6 c7 c8 c9 c10 u68 hu68) (cwV 0 hts gX1_rooks_X1_all rfl rfl rfl (by decide +kernel) ⟨Nat.le_of_ble_eq_true rfl, Nat.le_of_ble_eq_true rfl⟩) ⟨fun a U g mk q => by obtain ⟨q0, q1, qP, qK, qD⟩ := q; exact ⟨q0, q1, qP, va_K.moved (u := U) (U := U.calling g mk a) (Vm.Alike.refl U.vm) qK, qD⟩, va_recv hKc hPc (ci := 1) (q0 := 0) rfl rfl, fun U hU hW => ⟨rfl, by rw [hU], by rw [hU]; exact hPc, va_K.moved hW.alike hKc, hDc.weaken (fun _ _ _ _ => trivial)⟩⟩ rfl rfl hl.1 rfl (lv_room (Nat.le_of_ble_eq_true rfl)) dX1_rooks_68 ⟨Nat.zero_le _, Nat.zero_le _⟩) hS (fun q _ h => hFc q h) hFc (fun r_68 uu_ t H1 locs ht hvm hw hB hz1 hk1 hS => ?_)
        replace hw := hw.symm
        subst hw
        obtain ⟨hP1, -, hD1⟩ := hB
        rw [ht] at hP1
        obtain ⟨hP, hD⟩ := va_join (wr := []) (w1 := (wX1 cy h q2 q3 q6 q7 q10 c0 c1 c2 c3 c4 c5 c6 c7 c8 c9 c10)) hP hD [0, 1, 2, 3, 4, 5] [] rfl rfl (by decide) (by decide) hk1 hFc hP1 hD1
        clear hk1 hz1 hP1 hD1 ht hPc hDc hFc
        generalize H1 = H at hP hS ⊢
        have hP : va_P (dC, dI) vwCl (wX1 cy h q2 q3 q6 q7 q10 c0 c1 c2 c3 c4 c5 c6 c7 c8 c9 c10) H := hP
        have hD : va_D A (wX1 cy h q2 q3 q6 q7 q10 c0 c1 c2 c3 c4 c5 c6 c7 c8 c9 c10) := hD
        refine lv_istore (lv' := [(4, .int u68), (3, .int (u54 &&& ((c2 (x2).toNatClampNeg) ^^^ (-1 : Int32)))), (0, .ref h), (1, .int x1), (2, .int x2)]) hx hb dX1_rooks_71 hl (by decide) rfl (fun ls hl => ?_)
        exact B73 (f_X1_rooks_b45 N c0 c2 n) ih N x1 x2 (u54 &&& ((c2 (x2).toNatClampNeg) ^^^ (-1 : Int32))) u68 c7 _ _ _ hf hP hD hS (lv_sub hl [2, 3, 4, 1, 0] rfl)
  have B36 : ∀ (r15 : Int32 → Int32 → (Nat → Int32) → Option (Int32 × (Nat → Int32))), (∀ (x1 x2 : Int32) (c7 : Nat → Int32) (H : Heap) (locs : List Loc) (ls : Array Slot), r15 x1 x2 c7 = some res → va_P (dC, dI) vwCl (wX1 cy h q2 q3 q6 q7 q10 c0 c1 c2 c3 c4 c5 c6 c7 c8 c9 c10) H → va_D A (wX1 cy h q2 q3 q6 q7 q10 c0 c1 c2 c3 c4 c5 c6 c7 c8 c9 c10) → va_S A s.heap H locs → lv_has ls 7 [(0, .ref h), (1, .int x1), (2, .int x2)] → W p l e rm_X1_rooks s m ([.ref h, .int a1] : List Value).toArray below meth c H locs 0 0 (MQ below (z_qI dC dI cy res.1 (wX1 cy h q2 q3 q6 q7 q10 c0 c1 c2 c3 c4 c5 c6 res.2 c8 c9 c10) A) ([.ref h, .int a1] : List Value).toArray s 0 0 A) (F0 m 15 ls [])) → ∀ (x1 x2 t1 t2 : Int32) (c7 : Nat → Int32) (H : Heap) (locs : List Loc) (ls : Array Slot), f_X1_rooks_b36 N c0 c2 r15 x1 x2 t1 t2 c7 = some res → va_P (dC, dI) vwCl (wX1 cy h q2 q3 q6 q7 q10 c0 c1 c2 c3 c4 c5 c6 c7 c8 c9 c10) H → va_D A (wX1 cy h q2 q3 q6 q7 q10 c0 c1 c2 c3 c4 c5 c6 c7 c8 c9 c10) → va_S A s.heap H locs → lv_has ls 7 [(0, .ref h), (1, .int x1), (2, .int x2)] → W p l e rm_X1_rooks s m ([.ref h, .int a1] : List Value).toArray below meth c H locs 0 0 (MQ below (z_qI dC dI cy res.1 (wX1 cy h q2 q3 q6 q7 q10 c0 c1 c2 c3 c4 c5 c6 res.2 c8 c9 c10) A) ([.ref h, .int a1] : List Value).toArray s 0 0 A) (F0 m 36 ls [.int t2, .int t1, .ref q7]) := by
    clear hf hl hP hD hS
    intro r15 hr15
    intro x1 x2 t1 t2 c7 H locs ls hf hP hD hS hl
    unfold f_X1_rooks_b36 at hf
    obtain ⟨hi36, hf⟩ := z_gx_some hf
    refine va_iast hx hb hK hP hD hS 4 0 rfl rfl hi36 dX1_rooks_36 (fun H locs hP hD hS => ?_)
    have hP : va_P (dC, dI) vwCl (wX1 cy h q2 q3 q6 q7 q10 c0 c1 c2 c3 c4 c5 c6 (upd c7 (t1).toNatClampNeg t2) c8 c9 c10) H := hP
    have hD : va_D A (wX1 cy h q2 q3 q6 q7 q10 c0 c1 c2 c3 c4 c5 c6 (upd c7 (t1).toNatClampNeg t2) c8 c9 c10) := hD
    refine lv_iinc (v := x2 + (1 : Int32)) (lv' := [(2, .int (x2 + (1 : Int32))), (0, .ref h), (1, .int x1)]) hx hb dX1_rooks_37 hl (k := 2) rfl rfl (by decide) rfl (fun ls hl => ?_)
    refine lv_goto (tgt := 15) hx hb dX1_rooks_40 (by decide) ?_
    exact hr15 x1 (x2 + (1 : Int32)) (upd c7 (t1).toNatClampNeg t2) _ _ _ hf hP hD hS (lv_sub hl [1, 2, 0] rfl)
  have B15 : ∀ n : Nat, ∀ (x1 x2 : Int32) (c7 : Nat → Int32) (H : Heap) (locs : List Loc) (ls : Array Slot), f_X1_rooks_b15 N c0 c2 n x1 x2 c7 = some res → va_P (dC, dI) vwCl (wX1 cy h q2 q3 q6 q7 q10 c0 c1 c2 c3 c4 c5 c6 c7 c8 c9 c10) H → va_D A (wX1 cy h q2 q3 q6 q7 q10 c0 c1 c2 c3 c4 c5 c6 c7 c8 c9 c10) → va_S A s.heap H locs → lv_has ls 7 [(0, .ref h), (1, .int x1), (2, .int x2)] → W p l e rm_X1_rooks s m ([.ref h, .int a1] : List Value).toArray below meth c H locs 0 0 (MQ below (z_qI dC dI cy res.1 (wX1 cy h q2 q3 q6 q7 q10 c0 c1 c2 c3 c4 c5 c6 res.2 c8 c9 c10) A) ([.ref h, .int a1] : List Value).toArray s 0 0 A) (F0 m 15 ls []) := by
    clear hf hl hP hD hS
    intro n
    induction n with
    | zero =>
      intro x1 x2 c7 H locs ls hf hP hD hS hl
      rw [f_X1_rooks_b15] at hf
      cases hf
    | succ n ih =>
      intro x1 x2 c7 H locs ls hf hP hD hS hl
      rw [f_X1_rooks_b15] at hf
      refine lv_iload_n hx hb dX1_rooks_15 rfl (lv_at hl 2 rfl) ?_
      refine lv_sipush (v := (256 : Int32)) hx hb dX1_rooks_16 (by decide) ?_
      refine lv_icmp_ge (tgt := 43) hx hb dX1_rooks_19 (by decide) (fun c_19 => ?_) (fun c_19 => ?_)
      · replace hf := (if_pos c_19).symm.trans hf
        refine lv_iconst (v := (0 : Int32)) hx hb dX1_rooks_43 (by decide) ?_
        refine lv_istore_n (lv' := [(2, .int (0 : Int32)), (0, .ref h), (1, .int x1)]) hx hb dX1_rooks_44 rfl hl (by decide) rfl (fun ls hl => ?_)
        exact B45 N x1 (0 : Int32) c7 _ _ _ hf hP hD hS (lv_sub hl [1, 2, 0] rfl)
      · replace hf := (if_neg c_19).symm.trans hf
        refine lv_aload_n hx hb dX1_rooks_22 rfl (lv_at hl 0 rfl) ?_
        refine va_get (D := (dC, dI)) (ci := 1) (v := .ref q7) (C := RX1) (T := TX1) (N := 11) hx hb hts (by decide +kernel) hown hK hP 0 rfl rfl 7 (by decide) (hts (.fieldLink RX1 26 "GiftLotsModel" "put" "[I") (by decide +kernel)) (fun _ h9 => h9) rfl dX1_rooks_23 ?_
        refine lv_iload_n hx hb dX1_rooks_26 rfl (lv_at hl 2 rfl) ?_
        refine lv_iload_n hx hb dX1_rooks_27 rfl (lv_at hl 2 rfl) ?_
        refine lv_if_ne (tgt := 35) hx hb dX1_rooks_28 (by decide) (fun c_28 => ?_) (fun c_28 => ?_)
        · replace hf := (if_neg c_28).symm.trans hf
          refine lv_iconst (v := (0 : Int32)) hx hb dX1_rooks_35 (by decide) ?_
          exact B36 (f_X1_rooks_b15 N c0 c2 n) ih x1 x2 x2 (0 : Int32) c7 _ _ _ hf hP hD hS (lv_sub hl [0, 1, 2] rfl)
        · replace hf := (if_pos c_28).symm.trans hf
          refine lv_iconst (v := (1 : Int32)) hx hb dX1_rooks_31 (by decide) ?_
          refine lv_goto (tgt := 36) hx hb dX1_rooks_32 (by decide) ?_
          exact B36 (f_X1_rooks_b15 N c0 c2 n) ih x1 x2 x2 (1 : Int32) c7 _ _ _ hf hP hD hS (lv_sub hl [0, 1, 2] rfl)
  unfold f_X1_rooks at hf
  refine lv_iload_n hx hb dX1_rooks_0 rfl (lv_at hl 1 rfl) ?_
  refine lv_iconst (v := (0 : Int32)) hx hb dX1_rooks_1 (by decide) ?_
  refine lv_bipush (v := (8 : Int32)) hx hb dX1_rooks_2 (by decide) ?_
  obtain ⟨u4, hu4, hf⟩ := z_ob_some hf
  have hPc := hP.sub (ws' := ([] : va_W)) [] rfl
  have hDc := hD.sub (ws' := ([] : va_W)) [] (by decide) rfl
  have hKc := hK.sub (tys' := [(cy, .int)]) [0] rfl
  have hFc := va_free (wc := ([] : va_W)) hD hS hA [] rfl
  refine va_calli (va_runS (As := [.int a1, .int (0 : Int32), .int (8 : Int32)]) (rest := []) ⟨hx, hb, hml, hown, hts⟩ (c_X1_in N l dC dI cy s.heap.size a1 (0 : Int32) (8 : Int32) u4 hu4) (va_cwS 3 hts gX1_rooks_X1_in rfl rfl rfl (by decide +kernel) ⟨Nat.le_of_ble_eq_true rfl, Nat.le_of_ble_eq_true rfl⟩) ⟨fun a U g mk q => by obtain ⟨q0, q1, qP, qK, qD⟩ := q; exact ⟨q0, q1, qP, va_K.moved (u := U) (U := U.calling g mk a) (Vm.Alike.refl U.vm) qK, qD⟩, fun U hU hW => ⟨rfl, by rw [hU], by rw [hU]; exact hPc, va_K.moved hW.alike hKc, hDc.weaken (fun _ _ _ _ => trivial)⟩⟩ rfl rfl hl.1 rfl (lv_room (Nat.le_of_ble_eq_true rfl)) dX1_rooks_4 ⟨Nat.zero_le _, Nat.zero_le _⟩) hS (fun q _ h => hFc q h) hFc (fun r_4 uu_ t H1 locs ht hvm hw hB hz1 hk1 hS => ?_)
  replace hw := hw.symm
  subst hw
  obtain ⟨hP1, -, hD1⟩ := hB
  rw [ht] at hP1
  obtain ⟨hP, hD⟩ := va_join (wr := (wX1 cy h q2 q3 q6 q7 q10 c0 c1 c2 c3 c4 c5 c6 c7 c8 c9 c10)) (w1 := ([] : va_W)) hP hD [] [0, 1, 2, 3, 4, 5] rfl rfl (by decide) (by decide) hk1 hFc hP1 hD1
  clear hk1 hz1 hP1 hD1 ht hPc hDc hFc
  generalize H1 = H at hP hS ⊢
  have hP : va_P (dC, dI) vwCl (wX1 cy h q2 q3 q6 q7 q10 c0 c1 c2 c3 c4 c5 c6 c7 c8 c9 c10) H := hP
  have hD : va_D A (wX1 cy h q2 q3 q6 q7 q10 c0 c1 c2 c3 c4 c5 c6 c7 c8 c9 c10) := hD
  refine lv_if_ne (tgt := 13) hx hb dX1_rooks_7 (by decide) (fun c_7 => ?_) (fun c_7 => ?_)
  · replace hf := (if_neg c_7).symm.trans hf
    refine lv_iconst (v := (0 : Int32)) hx hb dX1_rooks_13 (by decide) ?_
    refine lv_istore_n (lv' := [(2, .int (0 : Int32)), (0, .ref h), (1, .int a1)]) hx hb dX1_rooks_14 rfl hl (by decide) rfl (fun ls hl => ?_)
    exact B15 N a1 (0 : Int32) c7 _ _ _ hf hP hD hS (lv_sub hl [1, 2, 0] rfl)
  · replace hf := (if_pos c_7).symm.trans hf
    refine lv_bipush (v := (-2 : Int32)) hx hb dX1_rooks_10 (by decide) ?_
    have hres := Option.some.inj hf
    subst hres
    have hP9 := hP.sub (ws' := (wX1 cy h q2 q3 q6 q7 q10 c0 c1 c2 c3 c4 c5 c6 c7 c8 c9 c10)) [0, 1, 2, 3, 4, 5] rfl
    have hD9 := hD.sub (ws' := (wX1 cy h q2 q3 q6 q7 q10 c0 c1 c2 c3 c4 c5 c6 c7 c8 c9 c10)) [0, 1, 2, 3, 4, 5] (by decide) rfl
    have hK9 := hK.sub (tys' := [(cy, .int)]) [0] rfl
    exact W.iret (v := (-2 : Int32)) hx hb hr (fun t ht hW => ⟨⟨(-2 : Int32), (), rfl, rfl, by rw [ht]; exact hP9, va_K.moved hW.alike hK9, hD9⟩, hS.F ht⟩) hS.2.2 dX1_rooks_12

set_option maxRecDepth 20000 in
theorem ggX1_heap_X1_all : GoodIn wsX1_heap wsX1_all := goodIn_r _ [7, 1, 11, 12, 13, 14, 15, 16, 17, 18, 19, 20, 21] (by decide +kernel) (by decide +kernel)
set_option maxRecDepth 20000 in
theorem gX1_heap_X1_all : GoodIn wsX1_heap (wsV RX1 69 RX1 yX1_all wsX1_all) := goodIn_app (goodIn_of _ (by decide +kernel)) ggX1_heap_X1_all
set_option maxRecDepth 20000 in
theorem ggX1_heap_X1_bits : GoodIn wsX1_heap wsX1_bits := goodIn_r _ [10] (by decide +kernel) (by decide +kernel)
set_option maxRecDepth 20000 in
theorem gX1_heap_X1_bits : GoodIn wsX1_heap (va_wsS RX1 88 yX1_bits wsX1_bits) := goodIn_app (goodIn_of _ (by decide +kernel)) ggX1_heap_X1_bits
theorem dX1_heap_0 : decode cX1_heap 0 = .ok (.iconst 0, 1) := by decide +kernel
theorem dX1_heap_1 : decode cX1_heap 1 = .ok (.istore_n 1, 1) := by decide +kernel
theorem dX1_heap_2 : decode cX1_heap 2 = .ok (.iconst 1, 1) := by decide +kernel
theorem dX1_heap_3 : decode cX1_heap 3 = .ok (.istore_n 2, 1) := by decide +kernel
theorem dX1_heap_4 : decode cX1_heap 4 = .ok (.iload_n 2, 1) := by decide +kernel
theorem dX1_heap_5 : decode cX1_heap 5 = .ok (.aload_n 0, 1) := by decide +kernel
theorem dX1_heap_6 : decode cX1_heap 6 = .ok (.invokevirtual 69, 3) := by decide +kernel
theorem dX1_heap_9 : decode cX1_heap 9 = .ok (.if_icmp .gt 124, 3) := by decide +kernel
theorem dX1_heap_12 : decode cX1_heap 12 = .ok (.iconst 0, 1) := by decide +kernel
theorem dX1_heap_13 : decode cX1_heap 13 = .ok (.istore_n 3, 1) := by decide +kernel
theorem dX1_heap_14 : decode cX1_heap 14 = .ok (.iconst 0, 1) := by decide +kernel
theorem dX1_heap_15 : decode cX1_heap 15 = .ok (.istore 4, 2) := by decide +kernel
theorem dX1_heap_17 : decode cX1_heap 17 = .ok (.iload 4, 2) := by decide +kernel
theorem dX1_heap_19 : decode cX1_heap 19 = .ok (.aload_n 0, 1) := by decide +kernel
theorem dX1_heap_20 : decode cX1_heap 20 = .ok (.getfield 7, 3) := by decide +kernel
theorem dX1_heap_23 : decode cX1_heap 23 = .ok (.if_icmp .ge 33, 3) := by decide +kernel
theorem dX1_heap_26 : decode cX1_heap 26 = .ok (.iload_n 3, 1) := by decide +kernel
theorem dX1_heap_27 : decode cX1_heap 27 = .ok (.iload_n 2, 1) := by decide +kernel
theorem dX1_heap_28 : decode cX1_heap 28 = .ok (.iload 4, 2) := by decide +kernel
theorem dX1_heap_30 : decode cX1_heap 30 = .ok (.ishr, 1) := by decide +kernel
theorem dX1_heap_31 : decode cX1_heap 31 = .ok (.iconst 1, 1) := by decide +kernel
theorem dX1_heap_32 : decode cX1_heap 32 = .ok (.iand, 1) := by decide +kernel
theorem dX1_heap_33 : decode cX1_heap 33 = .ok (.iconst 1, 1) := by decide +kernel
theorem dX1_heap_34 : decode cX1_heap 34 = .ok (.if_icmp .ne 13, 3) := by decide +kernel
theorem dX1_heap_37 : decode cX1_heap 37 = .ok (.aload_n 0, 1) := by decide +kernel
theorem dX1_heap_38 : decode cX1_heap 38 = .ok (.getfield 16, 3) := by decide +kernel
theorem dX1_heap_41 : decode cX1_heap 41 = .ok (.iload 4, 2) := by decide +kernel
theorem dX1_heap_43 : decode cX1_heap 43 = .ok (.iaload, 1) := by decide +kernel
theorem dX1_heap_44 : decode cX1_heap 44 = .ok (.goto 4, 3) := by decide +kernel
theorem dX1_heap_47 : decode cX1_heap 47 = .ok (.iconst 0, 1) := by decide +kernel
theorem dX1_heap_48 : decode cX1_heap 48 = .ok (.ior, 1) := by decide +kernel
theorem dX1_heap_49 : decode cX1_heap 49 = .ok (.istore_n 3, 1) := by decide +kernel
theorem dX1_heap_50 : decode cX1_heap 50 = .ok (.iinc 4 1, 3) := by decide +kernel
theorem dX1_heap_53 : decode cX1_heap 53 = .ok (.goto (-36), 3) := by decide +kernel
theorem dX1_heap_56 : decode cX1_heap 56 = .ok (.iload_n 2, 1) := by decide +kernel
theorem dX1_heap_57 : decode cX1_heap 57 = .ok (.iload_n 1, 1) := by decide +kernel
theorem dX1_heap_58 : decode cX1_heap 58 = .ok (.ixor, 1) := by decide +kernel
theorem dX1_heap_59 : decode cX1_heap 59 = .ok (.istore 4, 2) := by decide +kernel
theorem dX1_heap_61 : decode cX1_heap 61 = .ok (.iload_n 1, 1) := by decide +kernel
theorem dX1_heap_62 : decode cX1_heap 62 = .ok (.ifCond .eq 36, 3) := by decide +kernel
theorem dX1_heap_65 : decode cX1_heap 65 = .ok (.iload_n 2, 1) := by decide +kernel
theorem dX1_heap_66 : decode cX1_heap 66 = .ok (.invokestatic 88, 3) := by decide +kernel
theorem dX1_heap_69 : decode cX1_heap 69 = .ok (.iload_n 1, 1) := by decide +kernel
theorem dX1_heap_70 : decode cX1_heap 70 = .ok (.invokestatic 88, 3) := by decide +kernel
theorem dX1_heap_73 : decode cX1_heap 73 = .ok (.if_icmp .lt 25, 3) := by decide +kernel
theorem dX1_heap_76 : decode cX1_heap 76 = .ok (.iload_n 2, 1) := by decide +kernel
theorem dX1_heap_77 : decode cX1_heap 77 = .ok (.invokestatic 88, 3) := by decide +kernel
theorem dX1_heap_80 : decode cX1_heap 80 = .ok (.iload_n 1, 1) := by decide +kernel
theorem dX1_heap_81 : decode cX1_heap 81 = .ok (.invokestatic 88, 3) := by decide +kernel
theorem dX1_heap_84 : decode cX1_heap 84 = .ok (.if_icmp .ne 18, 3) := by decide +kernel
theorem dX1_heap_87 : decode cX1_heap 87 = .ok (.iload_n 2, 1) := by decide +kernel
theorem dX1_heap_88 : decode cX1_heap 88 = .ok (.iload 4, 2) := by decide +kernel
theorem dX1_heap_90 : decode cX1_heap 90 = .ok (.iand, 1) := by decide +kernel
theorem dX1_heap_91 : decode cX1_heap 91 = .ok (.iload 4, 2) := by decide +kernel
theorem dX1_heap_93 : decode cX1_heap 93 = .ok (.ineg, 1) := by decide +kernel
theorem dX1_heap_94 : decode cX1_heap 94 = .ok (.iand, 1) := by decide +kernel
theorem dX1_heap_95 : decode cX1_heap 95 = .ok (.ifCond .eq 7, 3) := by decide +kernel
theorem dX1_heap_98 : decode cX1_heap 98 = .ok (.iconst 1, 1) := by decide +kernel
theorem dX1_heap_99 : decode cX1_heap 99 = .ok (.goto 4, 3) := by decide +kernel
theorem dX1_heap_102 : decode cX1_heap 102 = .ok (.iconst 0, 1) := by decide +kernel
theorem dX1_heap_103 : decode cX1_heap 103 = .ok (.istore 5, 2) := by decide +kernel
theorem dX1_heap_105 : decode cX1_heap 105 = .ok (.iload_n 3, 1) := by decide +kernel
theorem dX1_heap_106 : decode cX1_heap 106 = .ok (.invokestatic 88, 3) := by decide +kernel
theorem dX1_heap_109 : decode cX1_heap 109 = .ok (.iload_n 2, 1) := by decide +kernel
theorem dX1_heap_110 : decode cX1_heap 110 = .ok (.invokestatic 88, 3) := by decide +kernel
theorem dX1_heap_113 : decode cX1_heap 113 = .ok (.if_icmp .ge 12, 3) := by decide +kernel
theorem dX1_heap_116 : decode cX1_heap 116 = .ok (.iload 5, 2) := by decide +kernel
theorem dX1_heap_118 : decode cX1_heap 118 = .ok (.ifCond .eq 7, 3) := by decide +kernel
theorem dX1_heap_121 : decode cX1_heap 121 = .ok (.iload_n 2, 1) := by decide +kernel
theorem dX1_heap_122 : decode cX1_heap 122 = .ok (.goto 4, 3) := by decide +kernel
theorem dX1_heap_125 : decode cX1_heap 125 = .ok (.iload_n 1, 1) := by decide +kernel
theorem dX1_heap_126 : decode cX1_heap 126 = .ok (.istore_n 1, 1) := by decide +kernel
theorem dX1_heap_127 : decode cX1_heap 127 = .ok (.iinc 2 1, 3) := by decide +kernel
theorem dX1_heap_130 : decode cX1_heap 130 = .ok (.goto (-126), 3) := by decide +kernel
theorem dX1_heap_133 : decode cX1_heap 133 = .ok (.iload_n 1, 1) := by decide +kernel
theorem dX1_heap_134 : decode cX1_heap 134 = .ok (.ireturn, 1) := by decide +kernel
abbrev rm_X1_heap : Room := { frames := 1, cells := 0, slots := 0, locals := 22 }
set_option maxHeartbeats 4000000 in
set_option maxRecDepth 100000 in
theorem c_X1_heap (N : Nat) (l : Launch) (dC : Nat → ClassId) (dI : Nat → Nat → Nat) (cy : ClassId) (h q2 q3 q6 q7 q10 : Nat) (sz : Nat) (c0 : Int32) (c1 : Int32) (c2 : Nat → Int32) (c3 : Nat → Int32) (c4 : Int32) (c5 : Int32) (c6 : Nat → Int32) (c7 : Nat → Int32) (c8 : Int32) (c9 : Int32) (c10 : Nat → Int32) (res : Int32) (hf : f_X1_heap N c0 c2 = some res) : Met l yX1_heap wsX1_heap rm_X1_heap (va_Pc [.ref h] (fun U => U.heap.size = sz ∧ va_P (dC, dI) vwCl (wX1 cy h q2 q3 q6 q7 q10 c0 c1 c2 c3 c4 c5 c6 c7 c8 c9 c10) U.heap ∧ va_K (dC, dI) vwCl [(cy, .int)] U ∧ va_D (fun _ => True) (wX1 cy h q2 q3 q6 q7 q10 c0 c1 c2 c3 c4 c5 c6 c7 c8 c9 c10))) (z_qI dC dI cy res (wX1 cy h q2 q3 q6 q7 q10 c0 c1 c2 c3 c4 c5 c6 c7 c8 c9 c10) (va_A (wX1 cy h q2 q3 q6 q7 q10 c0 c1 c2 c3 c4 c5 c6 c7 c8 c9 c10) sz)) 0 0 (va_A (wX1 cy h q2 q3 q6 q7 q10 c0 c1 c2 c3 c4 c5 c6 c7 c8 c9 c10) sz) := by
  refine Met.ofW (cc := cX1_heap) (maxL := 6) (ret := (some .int)) (by decide) rfl ?_
  intro p e s m args below meth c s₁ B hml hv
  obtain ⟨rfl, hsz, hP, hK, hD0⟩ := hv
  have hx := B.exec
  have hb := B.bytes
  have hr := B.returns
  have hts := atoms_spec (ws := wsX1_heap) B.pre
  have hown : s.vm.findClass RX1 = some m.cls := findClass_of_methodNamed B.named
  have hlocks := B.notSynchronized
  subst hsz
  have hD := hD0.self (sz := s.heap.size)
  generalize hAe : va_A (wX1 cy h q2 q3 q6 q7 q10 c0 c1 c2 c3 c4 c5 c6 c7 c8 c9 c10) s.heap.size = A at hD ⊢
  have hA : ∀ q : Nat, s.heap.size ≤ q → A q := fun q h => by rw [← hAe]; exact Or.inr h
  have hS : va_S A s.heap s.heap [] := va_S.rf
  have hP : va_P (dC, dI) vwCl (wX1 cy h q2 q3 q6 q7 q10 c0 c1 c2 c3 c4 c5 c6 c7 c8 c9 c10) s.heap := hP
  have hl := lv_entry ([.ref h]) (n := 6) (Nat.le_of_ble_eq_true rfl)
  rw [lg_entry_eq]
  generalize (lg_sl ([.ref h]) ++ List.replicate (6 - (lg_sl ([.ref h])).length) Slot.unset).toArray = ls at hl ⊢
  have hl : lv_has ls 6 [(0, .ref h)] := hl
  have B126 : ∀ (r4 : Int32 → Int32 → Option (Int32)), (∀ (x1 x2 : Int32) (H : Heap) (locs : List Loc) (ls : Array Slot), r4 x1 x2 = some res → va_P (dC, dI) vwCl (wX1 cy h q2 q3 q6 q7 q10 c0 c1 c2 c3 c4 c5 c6 c7 c8 c9 c10) H → va_D A (wX1 cy h q2 q3 q6 q7 q10 c0 c1 c2 c3 c4 c5 c6 c7 c8 c9 c10) → va_S A s.heap H locs → lv_has ls 6 [(0, .ref h), (1, .int x1), (2, .int x2)] → W p l e rm_X1_heap s m ([.ref h] : List Value).toArray below meth c H locs 0 0 (MQ below (z_qI dC dI cy res (wX1 cy h q2 q3 q6 q7 q10 c0 c1 c2 c3 c4 c5 c6 c7 c8 c9 c10) A) ([.ref h] : List Value).toArray s 0 0 A) (F0 m 4 ls [])) → ∀ (x2 t0 : Int32) (H : Heap) (locs : List Loc) (ls : Array Slot), f_X1_heap_b126 N c0 c2 r4 x2 t0 = some res → va_P (dC, dI) vwCl (wX1 cy h q2 q3 q6 q7 q10 c0 c1 c2 c3 c4 c5 c6 c7 c8 c9 c10) H → va_D A (wX1 cy h q2 q3 q6 q7 q10 c0 c1 c2 c3 c4 c5 c6 c7 c8 c9 c10) → va_S A s.heap H locs → lv_has ls 6 [(0, .ref h), (2, .int x2)] → W p l e rm_X1_heap s m ([.ref h] : List Value).toArray below meth c H locs 0 0 (MQ below (z_qI dC dI cy res (wX1 cy h q2 q3 q6 q7 q10 c0 c1 c2 c3 c4 c5 c6 c7 c8 c9 c10) A) ([.ref h] : List Value).toArray s 0 0 A) (F0 m 126 ls [.int t0]) := by
    clear hf hl hP hD hS
    intro r4 hr4
    intro x2 t0 H locs ls hf hP hD hS hl
    unfold f_X1_heap_b126 at hf
    refine lv_istore_n (lv' := [(1, .int t0), (0, .ref h), (2, .int x2)]) hx hb dX1_heap_126 rfl hl (by decide) rfl (fun ls hl => ?_)
    refine lv_iinc (v := x2 + (1 : Int32)) (lv' := [(2, .int (x2 + (1 : Int32))), (1, .int t0), (0, .ref h)]) hx hb dX1_heap_127 hl (k := 2) rfl rfl (by decide) rfl (fun ls hl => ?_)
    refine lv_goto (tgt := 4) hx hb dX1_heap_130 (by decide) ?_
    exact hr4 t0 (x2 + (1 : Int32)) _ _ _ hf hP hD hS (lv_sub hl [2, 1, 0] rfl)
  have B125 : ∀ (r4 : Int32 → Int32 → Option (Int32)), (∀ (x1 x2 : Int32) (H : Heap) (locs : List Loc) (ls : Array Slot), r4 x1 x2 = some res → va_P (dC, dI) vwCl (wX1 cy h q2 q3 q6 q7 q10 c0 c1 c2 c3 c4 c5 c6 c7 c8 c9 c10) H → va_D A (wX1 cy h q2 q3 q6 q7 q10 c0 c1 c2 c3 c4 c5 c6 c7 c8 c9 c10) → va_S A s.heap H locs → lv_has ls 6 [(0, .ref h), (1, .int x1), (2, .int x2)] → W p l e rm_X1_heap s m ([.ref h] : List Value).toArray below meth c H locs 0 0 (MQ below (z_qI dC dI cy res (wX1 cy h q2 q3 q6 q7 q10 c0 c1 c2 c3 c4 c5 c6 c7 c8 c9 c10) A) ([.ref h] : List Value).toArray s 0 0 A) (F0 m 4 ls [])) → ∀ (x1 x2 : Int32) (H : Heap) (locs : List Loc) (ls : Array Slot), f_X1_heap_b125 N c0 c2 r4 x1 x2 = some res → va_P (dC, dI) vwCl (wX1 cy h q2 q3 q6 q7 q10 c0 c1 c2 c3 c4 c5 c6 c7 c8 c9 c10) H → va_D A (wX1 cy h q2 q3 q6 q7 q10 c0 c1 c2 c3 c4 c5 c6 c7 c8 c9 c10) → va_S A s.heap H locs → lv_has ls 6 [(0, .ref h), (1, .int x1), (2, .int x2)] → W p l e rm_X1_heap s m ([.ref h] : List Value).toArray below meth c H locs 0 0 (MQ below (z_qI dC dI cy res (wX1 cy h q2 q3 q6 q7 q10 c0 c1 c2 c3 c4 c5 c6 c7 c8 c9 c10) A) ([.ref h] : List Value).toArray s 0 0 A) (F0 m 125 ls []) := by
    clear hf hl hP hD hS
    intro r4 hr4
    intro x1 x2 H locs ls hf hP hD hS hl
    unfold f_X1_heap_b125 at hf
    refine lv_iload_n hx hb dX1_heap_125 rfl (lv_at hl 1 rfl) ?_
    exact B126 r4 hr4 x2 x1 _ _ _ hf hP hD hS (lv_sub hl [0, 2] rfl)
  have B103 : ∀ (r4 : Int32 → Int32 → Option (Int32)), (∀ (x1 x2 : Int32) (H : Heap) (locs : List Loc) (ls : Array Slot), r4 x1 x2 = some res → va_P (dC, dI) vwCl (wX1 cy h q2 q3 q6 q7 q10 c0 c1 c2 c3 c4 c5 c6 c7 c8 c9 c10) H → va_D A (wX1 cy h q2 q3 q6 q7 q10 c0 c1 c2 c3 c4 c5 c6 c7 c8 c9 c10) → va_S A s.heap H locs → lv_has ls 6 [(0, .ref h), (1, .int x1), (2, .int x2)] → W p l e rm_X1_heap s m ([.ref h] : List Value).toArray below meth c H locs 0 0 (MQ below (z_qI dC dI cy res (wX1 cy h q2 q3 q6 q7 q10 c0 c1 c2 c3 c4 c5 c6 c7 c8 c9 c10) A) ([.ref h] : List Value).toArray s 0 0 A) (F0 m 4 ls [])) → ∀ (x1 x2 x3 t0 : Int32) (H : Heap) (locs : List Loc) (ls : Array Slot), f_X1_heap_b103 N c0 c2 r4 x1 x2 x3 t0 = some res → va_P (dC, dI) vwCl (wX1 cy h q2 q3 q6 q7 q10 c0 c1 c2 c3 c4 c5 c6 c7 c8 c9 c10) H → va_D A (wX1 cy h q2 q3 q6 q7 q10 c0 c1 c2 c3 c4 c5 c6 c7 c8 c9 c10) → va_S A s.heap H locs → lv_has ls 6 [(0, .ref h), (1, .int x1), (2, .int x2), (3, .int x3)] → W p l e rm_X1_heap s m ([.ref h] : List Value).toArray below meth c H locs 0 0 (MQ below (z_qI dC dI cy res (wX1 cy h q2 q3 q6 q7 q10 c0 c1 c2 c3 c4 c5 c6 c7 c8 c9 c10) A) ([.ref h] : List Value).toArray s 0 0 A) (F0 m 103 ls [.int t0]) := by
    clear hf hl hP hD hS
    intro r4 hr4
    intro x1 x2 x3 t0 H locs ls hf hP hD hS hl
    unfold f_X1_heap_b103 at hf
    refine lv_istore (lv' := [(5, .int t0), (0, .ref h), (1, .int x1), (2, .int x2), (3, .int x3)]) hx hb dX1_heap_103 hl (by decide) rfl (fun ls hl => ?_)
    refine lv_iload_n hx hb dX1_heap_105 rfl (lv_at hl 4 rfl) ?_
    obtain ⟨u106, hu106, hf⟩ := z_ob_some hf
    have hPc := hP.sub (ws' := ([] : va_W)) [] rfl
    have hDc := hD.sub (ws' := ([] : va_W)) [] (by decide) rfl
    have hKc := hK.sub (tys' := [(cy, .int)]) [0] rfl
    have hFc := va_free (wc := ([] : va_W)) hD hS hA [] rfl
    refine va_calli (va_runS (As := [.int x3]) (rest := []) ⟨hx, hb, hml, hown, hts⟩ (c_X1_bits N l dC dI cy H.size x3 u106 hu106) (va_cwS 1 hts gX1_heap_X1_bits rfl rfl rfl (by decide +kernel) ⟨Nat.le_of_ble_eq_true rfl, Nat.le_of_ble_eq_true rfl⟩) ⟨fun a U g mk q => by obtain ⟨q0, q1, qP, qK, qD⟩ := q; exact ⟨q0, q1, qP, va_K.moved (u := U) (U := U.calling g mk a) (Vm.Alike.refl U.vm) qK, qD⟩, fun U hU hW => ⟨rfl, by rw [hU], by rw [hU]; exact hPc, va_K.moved hW.alike hKc, hDc.weaken (fun _ _ _ _ => trivial)⟩⟩ rfl rfl hl.1 rfl (lv_room (Nat.le_of_ble_eq_true rfl)) dX1_heap_106 ⟨Nat.zero_le _, Nat.zero_le _⟩) hS (fun q _ h => hFc q h) hFc (fun r_106 uu_ t H1 locs ht hvm hw hB hz1 hk1 hS => ?_)
    replace hw := hw.symm
    subst hw
    obtain ⟨hP1, -, hD1⟩ := hB
    rw [ht] at hP1
    obtain ⟨hP, hD⟩ := va_join (wr := (wX1 cy h q2 q3 q6 q7 q10 c0 c1 c2 c3 c4 c5 c6 c7 c8 c9 c10)) (w1 := ([] : va_W)) hP hD [] [0, 1, 2, 3, 4, 5] rfl rfl (by decide) (by decide) hk1 hFc hP1 hD1
    clear hk1 hz1 hP1 hD1 ht hPc hDc hFc
    generalize H1 = H at hP hS ⊢
    have hP : va_P (dC, dI) vwCl (wX1 cy h q2 q3 q6 q7 q10 c0 c1 c2 c3 c4 c5 c6 c7 c8 c9 c10) H := hP
    have hD : va_D A (wX1 cy h q2 q3 q6 q7 q10 c0 c1 c2 c3 c4 c5 c6 c7 c8 c9 c10) := hD
    refine lv_iload_n hx hb dX1_heap_109 rfl (lv_at hl 3 rfl) ?_
    obtain ⟨u110, hu110, hf⟩ := z_ob_some hf
    have hPc := hP.sub (ws' := ([] : va_W)) [] rfl
    have hDc := hD.sub (ws' := ([] : va_W)) [] (by decide) rfl
    have hKc := hK.sub (tys' := [(cy, .int)]) [0] rfl
    have hFc := va_free (wc := ([] : va_W)) hD hS hA [] rfl
    refine va_calli (va_runS (As := [.int x2]) (rest := [.int u106]) ⟨hx, hb, hml, hown, hts⟩ (c_X1_bits N l dC dI cy H.size x2 u110 hu110) (va_cwS 1 hts gX1_heap_X1_bits rfl rfl rfl (by decide +kernel) ⟨Nat.le_of_ble_eq_true rfl, Nat.le_of_ble_eq_true rfl⟩) ⟨fun a U g mk q => by obtain ⟨q0, q1, qP, qK, qD⟩ := q; exact ⟨q0, q1, qP, va_K.moved (u := U) (U := U.calling g mk a) (Vm.Alike.refl U.vm) qK, qD⟩, fun U hU hW => ⟨rfl, by rw [hU], by rw [hU]; exact hPc, va_K.moved hW.alike hKc, hDc.weaken (fun _ _ _ _ => trivial)⟩⟩ rfl rfl hl.1 rfl (lv_room (Nat.le_of_ble_eq_true rfl)) dX1_heap_110 ⟨Nat.zero_le _, Nat.zero_le _⟩) hS (fun q _ h => hFc q h) hFc (fun r_110 uu_ t H1 locs ht hvm hw hB hz1 hk1 hS => ?_)
    replace hw := hw.symm
    subst hw
    obtain ⟨hP1, -, hD1⟩ := hB
    rw [ht] at hP1
    obtain ⟨hP, hD⟩ := va_join (wr := (wX1 cy h q2 q3 q6 q7 q10 c0 c1 c2 c3 c4 c5 c6 c7 c8 c9 c10)) (w1 := ([] : va_W)) hP hD [] [0, 1, 2, 3, 4, 5] rfl rfl (by decide) (by decide) hk1 hFc hP1 hD1
    clear hk1 hz1 hP1 hD1 ht hPc hDc hFc
    generalize H1 = H at hP hS ⊢
    have hP : va_P (dC, dI) vwCl (wX1 cy h q2 q3 q6 q7 q10 c0 c1 c2 c3 c4 c5 c6 c7 c8 c9 c10) H := hP
    have hD : va_D A (wX1 cy h q2 q3 q6 q7 q10 c0 c1 c2 c3 c4 c5 c6 c7 c8 c9 c10) := hD
    refine lv_icmp_ge (tgt := 125) hx hb dX1_heap_113 (by decide) (fun c_113 => ?_) (fun c_113 => ?_)
    · replace hf := (if_pos c_113).symm.trans hf
      exact B125 r4 hr4 x1 x2 _ _ _ hf hP hD hS (lv_sub hl [1, 2, 3] rfl)
    · replace hf := (if_neg c_113).symm.trans hf
      refine lv_iload hx hb dX1_heap_116 (lv_at hl 0 rfl) ?_
      refine lv_if_eq (tgt := 125) hx hb dX1_heap_118 (by decide) (fun c_118 => ?_) (fun c_118 => ?_)
      · replace hf := (if_pos c_118).symm.trans hf
        exact B125 r4 hr4 x1 x2 _ _ _ hf hP hD hS (lv_sub hl [1, 2, 3] rfl)
      · replace hf := (if_neg c_118).symm.trans hf
        refine lv_iload_n hx hb dX1_heap_121 rfl (lv_at hl 3 rfl) ?_
        refine lv_goto (tgt := 126) hx hb dX1_heap_122 (by decide) ?_
        exact B126 r4 hr4 x2 x2 _ _ _ hf hP hD hS (lv_sub hl [1, 3] rfl)
  have B102 : ∀ (r4 : Int32 → Int32 → Option (Int32)), (∀ (x1 x2 : Int32) (H : Heap) (locs : List Loc) (ls : Array Slot), r4 x1 x2 = some res → va_P (dC, dI) vwCl (wX1 cy h q2 q3 q6 q7 q10 c0 c1 c2 c3 c4 c5 c6 c7 c8 c9 c10) H → va_D A (wX1 cy h q2 q3 q6 q7 q10 c0 c1 c2 c3 c4 c5 c6 c7 c8 c9 c10) → va_S A s.heap H locs → lv_has ls 6 [(0, .ref h), (1, .int x1), (2, .int x2)] → W p l e rm_X1_heap s m ([.ref h] : List Value).toArray below meth c H locs 0 0 (MQ below (z_qI dC dI cy res (wX1 cy h q2 q3 q6 q7 q10 c0 c1 c2 c3 c4 c5 c6 c7 c8 c9 c10) A) ([.ref h] : List Value).toArray s 0 0 A) (F0 m 4 ls [])) → ∀ (x1 x2 x3 : Int32) (H : Heap) (locs : List Loc) (ls : Array Slot), f_X1_heap_b102 N c0 c2 r4 x1 x2 x3 = some res → va_P (dC, dI) vwCl (wX1 cy h q2 q3 q6 q7 q10 c0 c1 c2 c3 c4 c5 c6 c7 c8 c9 c10) H → va_D A (wX1 cy h q2 q3 q6 q7 q10 c0 c1 c2 c3 c4 c5 c6 c7 c8 c9 c10) → va_S A s.heap H locs → lv_has ls 6 [(0, .ref h), (1, .int x1), (2, .int x2), (3, .int x3)] → W p l e rm_X1_heap s m ([.ref h] : List Value).toArray below meth c H locs 0 0 (MQ below (z_qI dC dI cy res (wX1 cy h q2 q3 q6 q7 q10 c0 c1 c2 c3 c4 c5 c6 c7 c8 c9 c10) A) ([.ref h] : List Value).toArray s 0 0 A) (F0 m 102 ls []) := by
    clear hf hl hP hD hS
    intro r4 hr4
    intro x1 x2 x3 H locs ls hf hP hD hS hl
    unfold f_X1_heap_b102 at hf
    refine lv_iconst (v := (0 : Int32)) hx hb dX1_heap_102 (by decide) ?_
    exact B103 r4 hr4 x1 x2 x3 (0 : Int32) _ _ _ hf hP hD hS (lv_sub hl [0, 1, 2, 3] rfl)
  have B98 : ∀ (r4 : Int32 → Int32 → Option (Int32)), (∀ (x1 x2 : Int32) (H : Heap) (locs : List Loc) (ls : Array Slot), r4 x1 x2 = some res → va_P (dC, dI) vwCl (wX1 cy h q2 q3 q6 q7 q10 c0 c1 c2 c3 c4 c5 c6 c7 c8 c9 c10) H → va_D A (wX1 cy h q2 q3 q6 q7 q10 c0 c1 c2 c3 c4 c5 c6 c7 c8 c9 c10) → va_S A s.heap H locs → lv_has ls 6 [(0, .ref h), (1, .int x1), (2, .int x2)] → W p l e rm_X1_heap s m ([.ref h] : List Value).toArray below meth c H locs 0 0 (MQ below (z_qI dC dI cy res (wX1 cy h q2 q3 q6 q7 q10 c0 c1 c2 c3 c4 c5 c6 c7 c8 c9 c10) A) ([.ref h] : List Value).toArray s 0 0 A) (F0 m 4 ls [])) → ∀ (x1 x2 x3 : Int32) (H : Heap) (locs : List Loc) (ls : Array Slot), f_X1_heap_b98 N c0 c2 r4 x1 x2 x3 = some res → va_P (dC, dI) vwCl (wX1 cy h q2 q3 q6 q7 q10 c0 c1 c2 c3 c4 c5 c6 c7 c8 c9 c10) H → va_D A (wX1 cy h q2 q3 q6 q7 q10 c0 c1 c2 c3 c4 c5 c6 c7 c8 c9 c10) → va_S A s.heap H locs → lv_has ls 6 [(0, .ref h), (1, .int x1), (2, .int x2), (3, .int x3)] → W p l e rm_X1_heap s m ([.ref h] : List Value).toArray below meth c H locs 0 0 (MQ below (z_qI dC dI cy res (wX1 cy h q2 q3 q6 q7 q10 c0 c1 c2 c3 c4 c5 c6 c7 c8 c9 c10) A) ([.ref h] : List Value).toArray s 0 0 A) (F0 m 98 ls []) := by
    clear hf hl hP hD hS
    intro r4 hr4
    intro x1 x2 x3 H locs ls hf hP hD hS hl
    unfold f_X1_heap_b98 at hf
    refine lv_iconst (v := (1 : Int32)) hx hb dX1_heap_98 (by decide) ?_
    refine lv_goto (tgt := 103) hx hb dX1_heap_99 (by decide) ?_
    exact B103 r4 hr4 x1 x2 x3 (1 : Int32) _ _ _ hf hP hD hS (lv_sub hl [0, 1, 2, 3] rfl)
  have B48 : ∀ (r4 : Int32 → Int32 → Option (Int32)), (∀ (x1 x2 : Int32) (H : Heap) (locs : List Loc) (ls : Array Slot), r4 x1 x2 = some res → va_P (dC, dI) vwCl (wX1 cy h q2 q3 q6 q7 q10 c0 c1 c2 c3 c4 c5 c6 c7 c8 c9 c10) H → va_D A (wX1 cy h q2 q3 q6 q7 q10 c0 c1 c2 c3 c4 c5 c6 c7 c8 c9 c10) → va_S A s.heap H locs → lv_has ls 6 [(0, .ref h), (1, .int x1), (2, .int x2)] → W p l e rm_X1_heap s m ([.ref h] : List Value).toArray below meth c H locs 0 0 (MQ below (z_qI dC dI cy res (wX1 cy h q2 q3 q6 q7 q10 c0 c1 c2 c3 c4 c5 c6 c7 c8 c9 c10) A) ([.ref h] : List Value).toArray s 0 0 A) (F0 m 4 ls [])) → ∀ (r17 : Int32 → Int32 → Int32 → Int32 → Option (Int32)), (∀ (x1 x2 x3 x4 : Int32) (H : Heap) (locs : List Loc) (ls : Array Slot), r17 x1 x2 x3 x4 = some res → va_P (dC, dI) vwCl (wX1 cy h q2 q3 q6 q7 q10 c0 c1 c2 c3 c4 c5 c6 c7 c8 c9 c10) H → va_D A (wX1 cy h q2 q3 q6 q7 q10 c0 c1 c2 c3 c4 c5 c6 c7 c8 c9 c10) → va_S A s.heap H locs → lv_has ls 6 [(0, .ref h), (1, .int x1), (2, .int x2), (3, .int x3), (4, .int x4)] → W p l e rm_X1_heap s m ([.ref h] : List Value).toArray below meth c H locs 0 0 (MQ below (z_qI dC dI cy res (wX1 cy h q2 q3 q6 q7 q10 c0 c1 c2 c3 c4 c5 c6 c7 c8 c9 c10) A) ([.ref h] : List Value).toArray s 0 0 A) (F0 m 17 ls [])) → ∀ (x1 x2 x4 t0 t1 : Int32) (H : Heap) (locs : List Loc) (ls : Array Slot), f_X1_heap_b48 N c0 c2 r4 r17 x1 x2 x4 t0 t1 = some res → va_P (dC, dI) vwCl (wX1 cy h q2 q3 q6 q7 q10 c0 c1 c2 c3 c4 c5 c6 c7 c8 c9 c10) H → va_D A (wX1 cy h q2 q3 q6 q7 q10 c0 c1 c2 c3 c4 c5 c6 c7 c8 c9 c10) → va_S A s.heap H locs → lv_has ls 6 [(0, .ref h), (1, .int x1), (2, .int x2), (4, .int x4)] → W p l e rm_X1_heap s m ([.ref h] : List Value).toArray below meth c H locs 0 0 (MQ below (z_qI dC dI cy res (wX1 cy h q2 q3 q6 q7 q10 c0 c1 c2 c3 c4 c5 c6 c7 c8 c9 c10) A) ([.ref h] : List Value).toArray s 0 0 A) (F0 m 48 ls [.int t1, .int t0]) := by
    clear hf hl hP hD hS
    intro r4 hr4 r17 hr17
    intro x1 x2 x4 t0 t1 H locs ls hf hP hD hS hl
    unfold f_X1_heap_b48 at hf
    refine lv_ior hx hb dX1_heap_48 ?_
    refine lv_istore_n (lv' := [(3, .int (t0 ||| t1)), (0, .ref h), (1, .int x1), (2, .int x2), (4, .int x4)]) hx hb dX1_heap_49 rfl hl (by decide) rfl (fun ls hl => ?_)
    refine lv_iinc (v := x4 + (1 : Int32)) (lv' := [(4, .int (x4 + (1 : Int32))), (3, .int (t0 ||| t1)), (0, .ref h), (1, .int x1), (2, .int x2)]) hx hb dX1_heap_50 hl (k := 4) rfl rfl (by decide) rfl (fun ls hl => ?_)
    refine lv_goto (tgt := 17) hx hb dX1_heap_53 (by decide) ?_
    exact hr17 x1 x2 (t0 ||| t1) (x4 + (1 : Int32)) _ _ _ hf hP hD hS (lv_sub hl [2, 3, 4, 1, 0] rfl)
  have B17 : ∀ (r4 : Int32 → Int32 → Option (Int32)), (∀ (x1 x2 : Int32) (H : Heap) (locs : List Loc) (ls : Array Slot), r4 x1 x2 = some res → va_P (dC, dI) vwCl (wX1 cy h q2 q3 q6 q7 q10 c0 c1 c2 c3 c4 c5 c6 c7 c8 c9 c10) H → va_D A (wX1 cy h q2 q3 q6 q7 q10 c0 c1 c2 c3 c4 c5 c6 c7 c8 c9 c10) → va_S A s.heap H locs → lv_has ls 6 [(0, .ref h), (1, .int x1), (2, .int x2)] → W p l e rm_X1_heap s m ([.ref h] : List Value).toArray below meth c H locs 0 0 (MQ below (z_qI dC dI cy res (wX1 cy h q2 q3 q6 q7 q10 c0 c1 c2 c3 c4 c5 c6 c7 c8 c9 c10) A) ([.ref h] : List Value).toArray s 0 0 A) (F0 m 4 ls [])) → ∀ n : Nat, ∀ (x1 x2 x3 x4 : Int32) (H : Heap) (locs : List Loc) (ls : Array Slot), f_X1_heap_b17 N c0 c2 r4 n x1 x2 x3 x4 = some res → va_P (dC, dI) vwCl (wX1 cy h q2 q3 q6 q7 q10 c0 c1 c2 c3 c4 c5 c6 c7 c8 c9 c10) H → va_D A (wX1 cy h q2 q3 q6 q7 q10 c0 c1 c2 c3 c4 c5 c6 c7 c8 c9 c10) → va_S A s.heap H locs → lv_has ls 6 [(0, .ref h), (1, .int x1), (2, .int x2), (3, .int x3), (4, .int x4)] → W p l e rm_X1_heap s m ([.ref h] : List Value).toArray below meth c H locs 0 0 (MQ below (z_qI dC dI cy res (wX1 cy h q2 q3 q6 q7 q10 c0 c1 c2 c3 c4 c5 c6 c7 c8 c9 c10) A) ([.ref h] : List Value).toArray s 0 0 A) (F0 m 17 ls []) := by
    clear hf hl hP hD hS
    intro r4 hr4
    intro n
    induction n with
    | zero =>
      intro x1 x2 x3 x4 H locs ls hf hP hD hS hl
      rw [f_X1_heap_b17] at hf
      cases hf
    | succ n ih =>
      intro x1 x2 x3 x4 H locs ls hf hP hD hS hl
      rw [f_X1_heap_b17] at hf
      refine lv_iload hx hb dX1_heap_17 (lv_at hl 4 rfl) ?_
      refine lv_aload_n hx hb dX1_heap_19 rfl (lv_at hl 0 rfl) ?_
      refine va_get (D := (dC, dI)) (ci := 1) (v := .int c0) (C := RX1) (T := TX1) (N := 11) hx hb hts (by decide +kernel) hown hK hP 0 rfl rfl 0 (by decide) (hts (.fieldLink RX1 7 "GiftLotsModel" "ones" "I") (by decide +kernel)) (fun _ h9 => h9) rfl dX1_heap_20 ?_
      refine lv_icmp_ge (tgt := 56) hx hb dX1_heap_23 (by decide) (fun c_23 => ?_) (fun c_23 => ?_)
      · replace hf := (if_pos c_23).symm.trans hf
        refine lv_iload_n hx hb dX1_heap_56 rfl (lv_at hl 2 rfl) ?_
        refine lv_iload_n hx hb dX1_heap_57 rfl (lv_at hl 1 rfl) ?_
        refine lv_ixor hx hb dX1_heap_58 ?_
        refine lv_istore (lv' := [(4, .int (x2 ^^^ x1)), (0, .ref h), (1, .int x1), (2, .int x2), (3, .int x3)]) hx hb dX1_heap_59 hl (by decide) rfl (fun ls hl => ?_)
        refine lv_iload_n hx hb dX1_heap_61 rfl (lv_at hl 2 rfl) ?_
        refine lv_if_eq (tgt := 98) hx hb dX1_heap_62 (by decide) (fun c_62 => ?_) (fun c_62 => ?_)
        · replace hf := (if_pos c_62).symm.trans hf
          exact B98 r4 hr4 x1 x2 x3 _ _ _ hf hP hD hS (lv_sub hl [1, 2, 3, 4] rfl)
        · replace hf := (if_neg c_62).symm.trans hf
          refine lv_iload_n hx hb dX1_heap_65 rfl (lv_at hl 3 rfl) ?_
          obtain ⟨u66, hu66, hf⟩ := z_ob_some hf
          have hPc := hP.sub (ws' := ([] : va_W)) [] rfl
          have hDc := hD.sub (ws' := ([] : va_W)) [] (by decide) rfl
          have hKc := hK.sub (tys' := [(cy, .int)]) [0] rfl
          have hFc := va_free (wc := ([] : va_W)) hD hS hA [] rfl
          refine va_calli (va_runS (As := [.int x2]) (rest := []) ⟨hx, hb, hml, hown, hts⟩ (c_X1_bits N l dC dI cy H.size x2 u66 hu66) (va_cwS 1 hts gX1_heap_X1_bits rfl rfl rfl (by decide +kernel) ⟨Nat.le_of_ble_eq_true rfl, Nat.le_of_ble_eq_true rfl⟩) ⟨fun a U g mk q => by obtain ⟨q0, q1, qP, qK, qD⟩ := q; exact ⟨q0, q1, qP, va_K.moved (u := U) (U := U.calling g mk a) (Vm.Alike.refl U.vm) qK, qD⟩, fun U hU hW => ⟨rfl, by rw [hU], by rw [hU]; exact hPc, va_K.moved hW.alike hKc, hDc.weaken (fun _ _ _ _ => trivial)⟩⟩ rfl rfl hl.1 rfl (lv_room (Nat.le_of_ble_eq_true rfl)) dX1_heap_66 ⟨Nat.zero_le _, Nat.zero_le _⟩) hS (fun q _ h => hFc q h) hFc (fun r_66 uu_ t H1 locs ht hvm hw hB hz1 hk1 hS => ?_)
          replace hw := hw.symm
          subst hw
          obtain ⟨hP1, -, hD1⟩ := hB
          rw [ht] at hP1
          obtain ⟨hP, hD⟩ := va_join (wr := (wX1 cy h q2 q3 q6 q7 q10 c0 c1 c2 c3 c4 c5 c6 c7 c8 c9 c10)) (w1 := ([] : va_W)) hP hD [] [0, 1, 2, 3, 4, 5] rfl rfl (by decide) (by decide) hk1 hFc hP1 hD1
          clear hk1 hz1 hP1 hD1 ht hPc hDc hFc
          generalize H1 = H at hP hS ⊢
          have hP : va_P (dC, dI) vwCl (wX1 cy h q2 q3 q6 q7 q10 c0 c1 c2 c3 c4 c5 c6 c7 c8 c9 c10) H := hP
          have hD : va_D A (wX1 cy h q2 q3 q6 q7 q10 c0 c1 c2 c3 c4 c5 c6 c7 c8 c9 c10) := hD
          refine lv_iload_n hx hb dX1_heap_69 rfl (lv_at hl 2 rfl) ?_
          obtain ⟨u70, hu70, hf⟩ := z_ob_some hf
          have hPc := hP.sub (ws' := ([] : va_W)) [] rfl
          have hDc := hD.sub (ws' := ([] : va_W)) [] (by decide) rfl
          have hKc := hK.sub (tys' := [(cy, .int)]) [0] rfl
          have hFc := va_free (wc := ([] : va_W)) hD hS hA [] rfl
          refine va_calli (va_runS (As := [.int x1]) (rest := [.int u66]) ⟨hx, hb, hml, hown, hts⟩ (c_X1_bits N l dC dI cy H.size x1 u70 hu70) (va_cwS 1 hts gX1_heap_X1_bits rfl rfl rfl (by decide +kernel) ⟨Nat.le_of_ble_eq_true rfl, Nat.le_of_ble_eq_true rfl⟩) ⟨fun a U g mk q => by obtain ⟨q0, q1, qP, qK, qD⟩ := q; exact ⟨q0, q1, qP, va_K.moved (u := U) (U := U.calling g mk a) (Vm.Alike.refl U.vm) qK, qD⟩, fun U hU hW => ⟨rfl, by rw [hU], by rw [hU]; exact hPc, va_K.moved hW.alike hKc, hDc.weaken (fun _ _ _ _ => trivial)⟩⟩ rfl rfl hl.1 rfl (lv_room (Nat.le_of_ble_eq_true rfl)) dX1_heap_70 ⟨Nat.zero_le _, Nat.zero_le _⟩) hS (fun q _ h => hFc q h) hFc (fun r_70 uu_ t H1 locs ht hvm hw hB hz1 hk1 hS => ?_)
          replace hw := hw.symm
          subst hw
          obtain ⟨hP1, -, hD1⟩ := hB
          rw [ht] at hP1
          obtain ⟨hP, hD⟩ := va_join (wr := (wX1 cy h q2 q3 q6 q7 q10 c0 c1 c2 c3 c4 c5 c6 c7 c8 c9 c10)) (w1 := ([] : va_W)) hP hD [] [0, 1, 2, 3, 4, 5] rfl rfl (by decide) (by decide) hk1 hFc hP1 hD1
          clear hk1 hz1 hP1 hD1 ht hPc hDc hFc
          generalize H1 = H at hP hS ⊢
          have hP : va_P (dC, dI) vwCl (wX1 cy h q2 q3 q6 q7 q10 c0 c1 c2 c3 c4 c5 c6 c7 c8 c9 c10) H := hP
          have hD : va_D A (wX1 cy h q2 q3 q6 q7 q10 c0 c1 c2 c3 c4 c5 c6 c7 c8 c9 c10) := hD
          refine lv_icmp_lt (tgt := 98) hx hb dX1_heap_73 (by decide) (fun c_73 => ?_) (fun c_73 => ?_)
          · replace hf := (if_pos c_73).symm.trans hf
            exact B98 r4 hr4 x1 x2 x3 _ _ _ hf hP hD hS (lv_sub hl [1, 2, 3, 4] rfl)
          · replace hf := (if_neg c_73).symm.trans hf
            refine lv_iload_n hx hb dX1_heap_76 rfl (lv_at hl 3 rfl) ?_
            obtain ⟨u77, hu77, hf⟩ := z_ob_some hf
            have hPc := hP.sub (ws' := ([] : va_W)) [] rfl
            have hDc := hD.sub (ws' := ([] : va_W)) [] (by decide) rfl
            have hKc := hK.sub (tys' := [(cy, .int)]) [0] rfl
            have hFc := va_free (wc := ([] : va_W)) hD hS hA [] rfl
            refine va_calli (va_runS (As := [.int x2]) (rest := []) ⟨hx, hb, hml, hown, hts⟩ (c_X1_bits N l dC dI cy H.size x2 u77 hu77) (va_cwS 1 hts gX1_heap_X1_bits rfl rfl rfl (by decide +kernel) ⟨Nat.le_of_ble_eq_true rfl, Nat.le_of_ble_eq_true rfl⟩) ⟨fun a U g mk q => by obtain ⟨q0, q1, qP, qK, qD⟩ := q; exact ⟨q0, q1, qP, va_K.moved (u := U) (U := U.calling g mk a) (Vm.Alike.refl U.vm) qK, qD⟩, fun U hU hW => ⟨rfl, by rw [hU], by rw [hU]; exact hPc, va_K.moved hW.alike hKc, hDc.weaken (fun _ _ _ _ => trivial)⟩⟩ rfl rfl hl.1 rfl (lv_room (Nat.le_of_ble_eq_true rfl)) dX1_heap_77 ⟨Nat.zero_le _, Nat.zero_le _⟩) hS (fun q _ h => hFc q h) hFc (fun r_77 uu_ t H1 locs ht hvm hw hB hz1 hk1 hS => ?_)
            replace hw := hw.symm
            subst hw
            obtain ⟨hP1, -, hD1⟩ := hB
            rw [ht] at hP1
            obtain ⟨hP, hD⟩ := va_join (wr := (wX1 cy h q2 q3 q6 q7 q10 c0 c1 c2 c3 c4 c5 c6 c7 c8 c9 c10)) (w1 := ([] : va_W)) hP hD [] [0, 1, 2, 3, 4, 5] rfl rfl (by decide) (by decide) hk1 hFc hP1 hD1
            clear hk1 hz1 hP1 hD1 ht hPc hDc hFc
            generalize H1 = H at hP hS ⊢
            have hP : va_P (dC, dI) vwCl (wX1 cy h q2 q3 q6 q7 q10 c0 c1 c2 c3 c4 c5 c6 c7 c8 c9 c10) H := hP
            have hD : va_D A (wX1 cy h q2 q3 q6 q7 q10 c0 c1 c2 c3 c4 c5 c6 c7 c8 c9 c10) := hD
            refine lv_iload_n hx hb dX1_heap_80 rfl (lv_at hl 2 rfl) ?_
            obtain ⟨u81, hu81, hf⟩ := z_ob_some hf
            have hPc := hP.sub (ws' := ([] : va_W)) [] rfl
            have hDc := hD.sub (ws' := ([] : va_W)) [] (by decide) rfl
            have hKc := hK.sub (tys' := [(cy, .int)]) [0] rfl
            have hFc := va_free (wc := ([] : va_W)) hD hS hA [] rfl
            refine va_calli (va_runS (As := [.int x1]) (rest := [.int u77]) ⟨hx, hb, hml, hown, hts⟩ (c_X1_bits N l dC dI cy H.size x1 u81 hu81) (va_cwS 1 hts gX1_heap_X1_bits rfl rfl rfl (by decide +kernel) ⟨Nat.le_of_ble_eq_true rfl, Nat.le_of_ble_eq_true rfl⟩) ⟨fun a U g mk q => by obtain ⟨q0, q1, qP, qK, qD⟩ := q; exact ⟨q0, q1, qP, va_K.moved (u := U) (U := U.calling g mk a) (Vm.Alike.refl U.vm) qK, qD⟩, fun U hU hW => ⟨rfl, by rw [hU], by rw [hU]; exact hPc, va_K.moved hW.alike hKc, hDc.weaken (fun _ _ _ _ => trivial)⟩⟩ rfl rfl hl.1 rfl (lv_room (Nat.le_of_ble_eq_true rfl)) dX1_heap_81 ⟨Nat.zero_le _, Nat.zero_le _⟩) hS (fun q _ h => hFc q h) hFc (fun r_81 uu_ t H1 locs ht hvm hw hB hz1 hk1 hS => ?_)
            replace hw := hw.symm
            subst hw
            obtain ⟨hP1, -, hD1⟩ := hB
            rw [ht] at hP1
            obtain ⟨hP, hD⟩ := va_join (wr := (wX1 cy h q2 q3 q6 q7 q10 c0 c1 c2 c3 c4 c5 c6 c7 c8 c9 c10)) (w1 := ([] : va_W)) hP hD [] [0, 1, 2, 3, 4, 5] rfl rfl (by decide) (by decide) hk1 hFc hP1 hD1
            clear hk1 hz1 hP1 hD1 ht hPc hDc hFc
            generalize H1 = H at hP hS ⊢
            have hP : va_P (dC, dI) vwCl (wX1 cy h q2 q3 q6 q7 q10 c0 c1 c2 c3 c4 c5 c6 c7 c8 c9 c10) H := hP
            have hD : va_D A (wX1 cy h q2 q3 q6 q7 q10 c0 c1 c2 c3 c4 c5 c6 c7 c8 c9 c10) := hD
            refine lv_icmp_ne (tgt := 102) hx hb dX1_heap_84 (by decide) (fun c_84 => ?_) (fun c_84 => ?_)
            · replace hf := (if_neg c_84).symm.trans hf
              exact B102 r4 hr4 x1 x2 x3 _ _ _ hf hP hD hS (lv_sub hl [1, 2, 3, 4] rfl)
            · replace hf := (if_pos c_84).symm.trans hf
              refine lv_iload_n hx hb dX1_heap_87 rfl (lv_at hl 3 rfl) ?_
              refine lv_iload hx hb dX1_heap_88 (lv_at hl 0 rfl) ?_
              refine lv_iand hx hb dX1_heap_90 ?_
              refine lv_iload hx hb dX1_heap_91 (lv_at hl 0 rfl) ?_
              refine lv_ineg hx hb dX1_heap_93 ?_
              refine lv_iand hx hb dX1_heap_94 ?_
              refine lv_if_eq (tgt := 102) hx hb dX1_heap_95 (by decide) (fun c_95 => ?_) (fun c_95 => ?_)
              · replace hf := (if_pos c_95).symm.trans hf
                exact B102 r4 hr4 x1 x2 x3 _ _ _ hf hP hD hS (lv_sub hl [1, 2, 3, 4] rfl)
              · replace hf := (if_neg c_95).symm.trans hf
                exact B98 r4 hr4 x1 x2 x3 _ _ _ hf hP hD hS (lv_sub hl [1, 2, 3, 4] rfl)
      · replace hf := (if_neg c_23).symm.trans hf
        refine lv_iload_n hx hb dX1_heap_26 rfl (lv_at hl 3 rfl) ?_
        refine lv_iload_n hx hb dX1_heap_27 rfl (lv_at hl 2 rfl) ?_
        refine lv_iload hx hb dX1_heap_28 (lv_at hl 4 rfl) ?_
        refine lv_ishr hx hb dX1_heap_30 ?_
        refine lv_iconst (v := (1 : Int32)) hx hb dX1_heap_31 (by decide) ?_
        refine lv_iand hx hb dX1_heap_32 ?_
        refine lv_iconst (v := (1 : Int32)) hx hb dX1_heap_33 (by decide) ?_
        refine lv_icmp_ne (tgt := 47) hx hb dX1_heap_34 (by decide) (fun c_34 => ?_) (fun c_34 => ?_)
        · replace hf := (if_neg c_34).symm.trans hf
          refine lv_iconst (v := (0 : Int32)) hx hb dX1_heap_47 (by decide) ?_
          exact B48 r4 hr4 (f_X1_heap_b17 N c0 c2 r4 n) ih x1 x2 x4 x3 (0 : Int32) _ _ _ hf hP hD hS (lv_sub hl [0, 1, 2, 4] rfl)
        · replace hf := (if_pos c_34).symm.trans hf
          refine lv_aload_n hx hb dX1_heap_37 rfl (lv_at hl 0 rfl) ?_
          refine va_get (D := (dC, dI)) (ci := 1) (v := .ref q2) (C := RX1) (T := TX1) (N := 11) hx hb hts (by decide +kernel) hown hK hP 0 rfl rfl 2 (by decide) (hts (.fieldLink RX1 16 "GiftLotsModel" "may" "[I") (by decide +kernel)) (fun _ h9 => h9) rfl dX1_heap_38 ?_
          refine lv_iload hx hb dX1_heap_41 (lv_at hl 4 rfl) ?_
          obtain ⟨hi43, hf⟩ := z_gx_some hf
          refine va_iald hx hb hK hP 1 0 rfl rfl hi43 dX1_heap_43 ?_
          refine lv_goto (tgt := 48) hx hb dX1_heap_44 (by decide) ?_
          exact B48 r4 hr4 (f_X1_heap_b17 N c0 c2 r4 n) ih x1 x2 x4 x3 (c2 (x4).toNatClampNeg) _ _ _ hf hP hD hS (lv_sub hl [0, 1, 2, 4] rfl)
  have B4 : ∀ n : Nat, ∀ (x1 x2 : Int32) (H : Heap) (locs : List Loc) (ls : Array Slot), f_X1_heap_b4 N c0 c2 n x1 x2 = some res → va_P (dC, dI) vwCl (wX1 cy h q2 q3 q6 q7 q10 c0 c1 c2 c3 c4 c5 c6 c7 c8 c9 c10) H → va_D A (wX1 cy h q2 q3 q6 q7 q10 c0 c1 c2 c3 c4 c5 c6 c7 c8 c9 c10) → va_S A s.heap H locs → lv_has ls 6 [(0, .ref h), (1, .int x1), (2, .int x2)] → W p l e rm_X1_heap s m ([.ref h] : List Value).toArray below meth c H locs 0 0 (MQ below (z_qI dC dI cy res (wX1 cy h q2 q3 q6 q7 q10 c0 c1 c2 c3 c4 c5 c6 c7 c8 c9 c10) A) ([.ref h] : List Value).toArray s 0 0 A) (F0 m 4 ls []) := by
    clear hf hl hP hD hS
    intro n
    induction n with
    | zero =>
      intro x1 x2 H locs ls hf hP hD hS hl
      rw [f_X1_heap_b4] at hf
      cases hf
    | succ n ih =>
      intro x1 x2 H locs ls hf hP hD hS hl
      rw [f_X1_heap_b4] at hf
      refine lv_iload_n hx hb dX1_heap_4 rfl (lv_at hl 2 rfl) ?_
      refine lv_aload_n hx hb dX1_heap_5 rfl (lv_at hl 0 rfl) ?_
      obtain ⟨u6, hu6, hf⟩ := z_ob_some hf
      have hPc := hP.sub (ws' := (wX1 cy h q2 q3 q6 q7 q10 c0 c1 c2 c3 c4 c5 c6 c7 c8 c9 c10)) [0, 1, 2, 3, 4, 5] rfl
      have hDc := hD.sub (ws' := (wX1 cy h q2 q3 q6 q7 q10 c0 c1 c2 c3 c4 c5 c6 c7 c8 c9 c10)) [0, 1, 2, 3, 4, 5] (by decide) rfl
      have hKc := hK.sub (tys' := [(cy, .int)]) [0] rfl
      have hFc := va_free (wc := (wX1 cy h q2 q3 q6 q7 q10 c0 c1 c2 c3 c4 c5 c6 c7 c8 c9 c10)) hD hS hA [0, 1, 2, 3, 4, 5] rfl
      refine va_calli (va_runV (As := []) (rest := [.int x2]) ⟨hx, hb, hml, hown, hts⟩ (c_X1_all N l dC dI cy h q2 q3 q6 q7 q10 H.size c0 c1 c2 c3 c4 c5 c6 c7 c8 c9 c10 u6 hu6) (cwV 0 hts gX1_heap_X1_all rfl rfl rfl (by decide +kernel) ⟨Nat.le_of_ble_eq_true rfl, Nat.le_of_ble_eq_true rfl⟩) ⟨fun a U g mk q => by obtain ⟨q0, q1, qP, qK, qD⟩ := q; exact ⟨q0, q1, qP, va_K.moved (u := U) (U := U.calling g mk a) (Vm.Alike.refl U.vm) qK, qD⟩, va_recv hKc hPc (ci := 1) (q0 := 0) rfl rfl, fun U hU hW => ⟨rfl, by rw [hU], by rw [hU]; exact hPc, va_K.moved hW.alike hKc, hDc.weaken (fun _ _ _ _ => trivial)⟩⟩ rfl rfl hl.1 rfl (lv_room (Nat.le_of_ble_eq_true rfl)) dX1_heap_6 ⟨Nat.zero_le _, Nat.zero_le _⟩) hS (fun q _ h => hFc q h) hFc (fun r_6 uu_ t H1 locs ht hvm hw hB hz1 hk1 hS => ?_)
      replace hw := hw.symm
      subst hw
      obtain ⟨hP1, -, hD1⟩ := hB
      rw [ht] at hP1
      obtain ⟨hP, hD⟩ := va_join (wr := []) (w1 := (wX1 cy h q2 q3 q6 q7 q10 c0 c1 c2 c3 c4 c5 c6 c7 c8 c9 c10)) hP hD [0, 1, 2, 3, 4, 5] [] rfl rfl (by decide) (by decide) hk1 hFc hP1 hD1
      clear hk1 hz1 hP1 hD1 ht hPc hDc hFc
      generalize H1 = H at hP hS ⊢
      have hP : va_P (dC, dI) vwCl (wX1 cy h q2 q3 q6 q7 q10 c0 c1 c2 c3 c4 c5 c6 c7 c8 c9 c10) H := hP
      have hD : va_D A (wX1 cy h q2 q3 q6 q7 q10 c0 c1 c2 c3 c4 c5 c6 c7 c8 c9 c10) := hD
      refine lv_icmp_gt (tgt := 133) hx hb dX1_heap_9 (by decide) (fun c_9 => ?_) (fun c_9 => ?_)
      · replace hf := (if_pos c_9).symm.trans hf
        refine lv_iload_n hx hb dX1_heap_133 rfl (lv_at hl 1 rfl) ?_
        have hres := Option.some.inj hf
        subst hres
        have hP9 := hP.sub (ws' := (wX1 cy h q2 q3 q6 q7 q10 c0 c1 c2 c3 c4 c5 c6 c7 c8 c9 c10)) [0, 1, 2, 3, 4, 5] rfl
        have hD9 := hD.sub (ws' := (wX1 cy h q2 q3 q6 q7 q10 c0 c1 c2 c3 c4 c5 c6 c7 c8 c9 c10)) [0, 1, 2, 3, 4, 5] (by decide) rfl
        have hK9 := hK.sub (tys' := [(cy, .int)]) [0] rfl
        exact W.iret (v := x1) hx hb hr (fun t ht hW => ⟨⟨x1, (), rfl, rfl, by rw [ht]; exact hP9, va_K.moved hW.alike hK9, hD9⟩, hS.F ht⟩) hS.2.2 dX1_heap_134
      · replace hf := (if_neg c_9).symm.trans hf
        refine lv_iconst (v := (0 : Int32)) hx hb dX1_heap_12 (by decide) ?_
        refine lv_istore_n (lv' := [(3, .int (0 : Int32)), (0, .ref h), (1, .int x1), (2, .int x2)]) hx hb dX1_heap_13 rfl hl (by decide) rfl (fun ls hl => ?_)
        refine lv_iconst (v := (0 : Int32)) hx hb dX1_heap_14 (by decide) ?_
        refine lv_istore (lv' := [(4, .int (0 : Int32)), (3, .int (0 : Int32)), (0, .ref h), (1, .int x1), (2, .int x2)]) hx hb dX1_heap_15 hl (by decide) rfl (fun ls hl => ?_)
        exact B17 (f_X1_heap_b4 N c0 c2 n) ih N x1 x2 (0 : Int32) (0 : Int32) _ _ _ hf hP hD hS (lv_sub hl [2, 3, 4, 1, 0] rfl)
  unfold f_X1_heap at hf
  refine lv_iconst (v := (0 : Int32)) hx hb dX1_heap_0 (by decide) ?_
  refine lv_istore_n (lv' := [(1, .int (0 : Int32)), (0, .ref h)]) hx hb dX1_heap_1 rfl hl (by decide) rfl (fun ls hl => ?_)
  refine lv_iconst (v := (1 : Int32)) hx hb dX1_heap_2 (by decide) ?_
  refine lv_istore_n (lv' := [(2, .int (1 : Int32)), (1, .int (0 : Int32)), (0, .ref h)]) hx hb dX1_heap_3 rfl hl (by decide) rfl (fun ls hl => ?_)
  exact B4 N (0 : Int32) (1 : Int32) _ _ _ hf hP hD hS (lv_sub hl [2, 1, 0] rfl)

set_option maxRecDepth 20000 in
theorem ggX1_lay_X1_isOne : GoodIn wsX1_lay wsX1_isOne := goodIn_r _ [7, 1, 8, 9, 6, 10, 11, 12, 13, 14, 15, 16, 17, 18, 19, 20, 21] (by decide +kernel) (by decide +kernel)
set_option maxRecDepth 20000 in
theorem gX1_lay_X1_isOne : GoodIn wsX1_lay (wsV RX1 39 RX1 yX1_isOne wsX1_isOne) := goodIn_app (goodIn_of _ (by decide +kernel)) ggX1_lay_X1_isOne
theorem dX1_lay_0 : decode cX1_lay 0 = .ok (.aload_n 0, 1) := by decide +kernel
theorem dX1_lay_1 : decode cX1_lay 1 = .ok (.iload_n 1, 1) := by decide +kernel
theorem dX1_lay_2 : decode cX1_lay 2 = .ok (.invokevirtual 39, 3) := by decide +kernel
theorem dX1_lay_5 : decode cX1_lay 5 = .ok (.ifCond .eq 21, 3) := by decide +kernel
theorem dX1_lay_8 : decode cX1_lay 8 = .ok (.iload_n 2, 1) := by decide +kernel
theorem dX1_lay_9 : decode cX1_lay 9 = .ok (.iconst (-1), 1) := by decide +kernel
theorem dX1_lay_10 : decode cX1_lay 10 = .ok (.if_icmp .eq 11, 3) := by decide +kernel
theorem dX1_lay_13 : decode cX1_lay 13 = .ok (.aload_n 0, 1) := by decide +kernel
theorem dX1_lay_14 : decode cX1_lay 14 = .ok (.iload_n 2, 1) := by decide +kernel
theorem dX1_lay_15 : decode cX1_lay 15 = .ok (.invokevirtual 39, 3) := by decide +kernel
theorem dX1_lay_18 : decode cX1_lay 18 = .ok (.ifCond .eq 8, 3) := by decide +kernel
theorem dX1_lay_21 : decode cX1_lay 21 = .ok (.iload_n 1, 1) := by decide +kernel
theorem dX1_lay_22 : decode cX1_lay 22 = .ok (.iload_n 2, 1) := by decide +kernel
theorem dX1_lay_23 : decode cX1_lay 23 = .ok (.if_icmp .ne 5, 3) := by decide +kernel
theorem dX1_lay_26 : decode cX1_lay 26 = .ok (.iconst (-1), 1) := by decide +kernel
theorem dX1_lay_27 : decode cX1_lay 27 = .ok (.ireturn, 1) := by decide +kernel
theorem dX1_lay_28 : decode cX1_lay 28 = .ok (.iconst 0, 1) := by decide +kernel
theorem dX1_lay_29 : decode cX1_lay 29 = .ok (.istore_n 3, 1) := by decide +kernel
theorem dX1_lay_30 : decode cX1_lay 30 = .ok (.iload_n 3, 1) := by decide +kernel
theorem dX1_lay_31 : decode cX1_lay 31 = .ok (.aload_n 0, 1) := by decide +kernel
theorem dX1_lay_32 : decode cX1_lay 32 = .ok (.getfield 7, 3) := by decide +kernel
theorem dX1_lay_35 : decode cX1_lay 35 = .ok (.if_icmp .ge 31, 3) := by decide +kernel
theorem dX1_lay_38 : decode cX1_lay 38 = .ok (.iload_n 3, 1) := by decide +kernel
theorem dX1_lay_39 : decode cX1_lay 39 = .ok (.iload_n 1, 1) := by decide +kernel
theorem dX1_lay_40 : decode cX1_lay 40 = .ok (.if_icmp .eq 20, 3) := by decide +kernel
theorem dX1_lay_43 : decode cX1_lay 43 = .ok (.iload_n 2, 1) := by decide +kernel
theorem dX1_lay_44 : decode cX1_lay 44 = .ok (.ifCond .lt 16, 3) := by decide +kernel
theorem dX1_lay_47 : decode cX1_lay 47 = .ok (.aload_n 0, 1) := by decide +kernel
theorem dX1_lay_48 : decode cX1_lay 48 = .ok (.getfield 20, 3) := by decide +kernel
theorem dX1_lay_51 : decode cX1_lay 51 = .ok (.iload_n 3, 1) := by decide +kernel
theorem dX1_lay_52 : decode cX1_lay 52 = .ok (.iaload, 1) := by decide +kernel
theorem dX1_lay_53 : decode cX1_lay 53 = .ok (.iload_n 2, 1) := by decide +kernel
theorem dX1_lay_54 : decode cX1_lay 54 = .ok (.if_icmp .ne 6, 3) := by decide +kernel
theorem dX1_lay_57 : decode cX1_lay 57 = .ok (.bipush (-3), 2) := by decide +kernel
theorem dX1_lay_59 : decode cX1_lay 59 = .ok (.ireturn, 1) := by decide +kernel
theorem dX1_lay_60 : decode cX1_lay 60 = .ok (.iinc 3 1, 3) := by decide +kernel
theorem dX1_lay_63 : decode cX1_lay 63 = .ok (.goto (-33), 3) := by decide +kernel
theorem dX1_lay_66 : decode cX1_lay 66 = .ok (.aload_n 0, 1) := by decide +kernel
theorem dX1_lay_67 : decode cX1_lay 67 = .ok (.getfield 20, 3) := by decide +kernel
theorem dX1_lay_70 : decode cX1_lay 70 = .ok (.iload_n 1, 1) := by decide +kernel
theorem dX1_lay_71 : decode cX1_lay 71 = .ok (.iaload, 1) := by decide +kernel
theorem dX1_lay_72 : decode cX1_lay 72 = .ok (.istore_n 3, 1) := by decide +kernel
theorem dX1_lay_73 : decode cX1_lay 73 = .ok (.aload_n 0, 1) := by decide +kernel
theorem dX1_lay_74 : decode cX1_lay 74 = .ok (.getfield 20, 3) := by decide +kernel
theorem dX1_lay_77 : decode cX1_lay 77 = .ok (.iload_n 1, 1) := by decide +kernel
theorem dX1_lay_78 : decode cX1_lay 78 = .ok (.iload_n 2, 1) := by decide +kernel
theorem dX1_lay_79 : decode cX1_lay 79 = .ok (.iconst (-1), 1) := by decide +kernel
theorem dX1_lay_80 : decode cX1_lay 80 = .ok (.if_icmp .ne 8, 3) := by decide +kernel
theorem dX1_lay_83 : decode cX1_lay 83 = .ok (.bipush (-6), 2) := by decide +kernel
theorem dX1_lay_85 : decode cX1_lay 85 = .ok (.goto 4, 3) := by decide +kernel
theorem dX1_lay_88 : decode cX1_lay 88 = .ok (.iload_n 2, 1) := by decide +kernel
theorem dX1_lay_89 : decode cX1_lay 89 = .ok (.iastore, 1) := by decide +kernel
theorem dX1_lay_90 : decode cX1_lay 90 = .ok (.iload_n 3, 1) := by decide +kernel
theorem dX1_lay_91 : decode cX1_lay 91 = .ok (.ireturn, 1) := by decide +kernel
abbrev rm_X1_lay : Room := { frames := 2, cells := 0, slots := 0, locals := 43 }
set_option maxHeartbeats 4000000 in
set_option maxRecDepth 100000 in
theorem c_X1_lay (N : Nat) (l : Launch) (dC : Nat → ClassId) (dI : Nat → Nat → Nat) (cy : ClassId) (h q2 q3 q6 q7 q10 : Nat) (sz : Nat) (c0 : Int32) (c1 : Int32) (c2 : Nat → Int32) (c3 : Nat → Int32) (c4 : Int32) (c5 : Int32) (c6 : Nat → Int32) (c7 : Nat → Int32) (c8 : Int32) (c9 : Int32) (c10 : Nat → Int32) (a1 a2 : Int32) (res : Int32 × (Nat → Int32)) (hf : f_X1_lay N a1 a2 c0 c3 = some res) : Met l yX1_lay wsX1_lay rm_X1_lay (va_Pc [.ref h, .int a1, .int a2] (fun U => U.heap.size = sz ∧ va_P (dC, dI) vwCl (wX1 cy h q2 q3 q6 q7 q10 c0 c1 c2 c3 c4 c5 c6 c7 c8 c9 c10) U.heap ∧ va_K (dC, dI) vwCl [(cy, .int)] U ∧ va_D (fun _ => True) (wX1 cy h q2 q3 q6 q7 q10 c0 c1 c2 c3 c4 c5 c6 c7 c8 c9 c10))) (z_qI dC dI cy res.1 (wX1 cy h q2 q3 q6 q7 q10 c0 c1 c2 res.2 c4 c5 c6 c7 c8 c9 c10) (va_A (wX1 cy h q2 q3 q6 q7 q10 c0 c1 c2 c3 c4 c5 c6 c7 c8 c9 c10) sz)) 0 0 (va_A (wX1 cy h q2 q3 q6 q7 q10 c0 c1 c2 c3 c4 c5 c6 c7 c8 c9 c10) sz) := by
  refine Met.ofW (cc := cX1_lay) (maxL := 4) (ret := (some .int)) (by decide) rfl ?_
  intro p e s m args below meth c s₁ B hml hv
  obtain ⟨rfl, hsz, hP, hK, hD0⟩ := hv
  have hx := B.exec
  have hb := B.bytes
  have hr := B.returns
  have hts := atoms_spec (ws := wsX1_lay) B.pre
  have hown : s.vm.findClass RX1 = some m.cls := findClass_of_methodNamed B.named
  have hlocks := B.notSynchronized
  subst hsz
  have hD := hD0.self (sz := s.heap.size)
  generalize hAe : va_A (wX1 cy h q2 q3 q6 q7 q10 c0 c1 c2 c3 c4 c5 c6 c7 c8 c9 c10) s.heap.size = A at hD ⊢
  have hA : ∀ q : Nat, s.heap.size ≤ q → A q := fun q h => by rw [← hAe]; exact Or.inr h
  have hS : va_S A s.heap s.heap [] := va_S.rf
  have hP : va_P (dC, dI) vwCl (wX1 cy h q2 q3 q6 q7 q10 c0 c1 c2 c3 c4 c5 c6 c7 c8 c9 c10) s.heap := hP
  have hl := lv_entry ([.ref h, .int a1, .int a2]) (n := 4) (Nat.le_of_ble_eq_true rfl)
  rw [lg_entry_eq]
  generalize (lg_sl ([.ref h, .int a1, .int a2]) ++ List.replicate (4 - (lg_sl ([.ref h, .int a1, .int a2])).length) Slot.unset).toArray = ls at hl ⊢
  have hl : lv_has ls 4 [(0, .ref h), (1, .int a1), (2, .int a2)] := hl
  have B89 : ∀ (x3 t1 t2 : Int32) (c3 : Nat → Int32) (H : Heap) (locs : List Loc) (ls : Array Slot), f_X1_lay_b89 N c0 x3 t1 t2 c3 = some res → va_P (dC, dI) vwCl (wX1 cy h q2 q3 q6 q7 q10 c0 c1 c2 c3 c4 c5 c6 c7 c8 c9 c10) H → va_D A (wX1 cy h q2 q3 q6 q7 q10 c0 c1 c2 c3 c4 c5 c6 c7 c8 c9 c10) → va_S A s.heap H locs → lv_has ls 4 [(0, .ref h), (3, .int x3)] → W p l e rm_X1_lay s m ([.ref h, .int a1, .int a2] : List Value).toArray below meth c H locs 0 0 (MQ below (z_qI dC dI cy res.1 (wX1 cy h q2 q3 q6 q7 q10 c0 c1 c2 res.2 c4 c5 c6 c7 c8 c9 c10) A) ([.ref h, .int a1, .int a2] : List Value).toArray s 0 0 A) (F0 m 89 ls [.int t2, .int t1, .ref q3]) := by
    clear hf hl hP hD hS
    intro x3 t1 t2 c3 H locs ls hf hP hD hS hl
    unfold f_X1_lay_b89 at hf
    obtain ⟨hi89, hf⟩ := z_gx_some hf
    refine va_iast hx hb hK hP hD hS 2 0 rfl rfl hi89 dX1_lay_89 (fun H locs hP hD hS => ?_)
    have hP : va_P (dC, dI) vwCl (wX1 cy h q2 q3 q6 q7 q10 c0 c1 c2 (upd c3 (t1).toNatClampNeg t2) c4 c5 c6 c7 c8 c9 c10) H := hP
    have hD : va_D A (wX1 cy h q2 q3 q6 q7 q10 c0 c1 c2 (upd c3 (t1).toNatClampNeg t2) c4 c5 c6 c7 c8 c9 c10) := hD
    refine lv_iload_n hx hb dX1_lay_90 rfl (lv_at hl 1 rfl) ?_
    have hres := Option.some.inj hf
    subst hres
    have hP9 := hP.sub (ws' := (wX1 cy h q2 q3 q6 q7 q10 c0 c1 c2 (upd c3 (t1).toNatClampNeg t2) c4 c5 c6 c7 c8 c9 c10)) [0, 1, 2, 3, 4, 5] rfl
    have hD9 := hD.sub (ws' := (wX1 cy h q2 q3 q6 q7 q10 c0 c1 c2 (upd c3 (t1).toNatClampNeg t2) c4 c5 c6 c7 c8 c9 c10)) [0, 1, 2, 3, 4, 5] (by decide) rfl
    have hK9 := hK.sub (tys' := [(cy, .int)]) [0] rfl
    exact W.iret (v := x3) hx hb hr (fun t ht hW => ⟨⟨x3, (), rfl, rfl, by rw [ht]; exact hP9, va_K.moved hW.alike hK9, hD9⟩, hS.F ht⟩) hS.2.2 dX1_lay_91
  have B60 : ∀ (r30 : Int32 → Int32 → Int32 → (Nat → Int32) → Option (Int32 × (Nat → Int32))), (∀ (x1 x2 x3 : Int32) (c3 : Nat → Int32) (H : Heap) (locs : List Loc) (ls : Array Slot), r30 x1 x2 x3 c3 = some res → va_P (dC, dI) vwCl (wX1 cy h q2 q3 q6 q7 q10 c0 c1 c2 c3 c4 c5 c6 c7 c8 c9 c10) H → va_D A (wX1 cy h q2 q3 q6 q7 q10 c0 c1 c2 c3 c4 c5 c6 c7 c8 c9 c10) → va_S A s.heap H locs → lv_has ls 4 [(0, .ref h), (1, .int x1), (2, .int x2), (3, .int x3)] → W p l e rm_X1_lay s m ([.ref h, .int a1, .int a2] : List Value).toArray below meth c H locs 0 0 (MQ below (z_qI dC dI cy res.1 (wX1 cy h q2 q3 q6 q7 q10 c0 c1 c2 res.2 c4 c5 c6 c7 c8 c9 c10) A) ([.ref h, .int a1, .int a2] : List Value).toArray s 0 0 A) (F0 m 30 ls [])) → ∀ (x1 x2 x3 : Int32) (c3 : Nat → Int32) (H : Heap) (locs : List Loc) (ls : Array Slot), f_X1_lay_b60 N c0 r30 x1 x2 x3 c3 = some res → va_P (dC, dI) vwCl (wX1 cy h q2 q3 q6 q7 q10 c0 c1 c2 c3 c4 c5 c6 c7 c8 c9 c10) H → va_D A (wX1 cy h q2 q3 q6 q7 q10 c0 c1 c2 c3 c4 c5 c6 c7 c8 c9 c10) → va_S A s.heap H locs → lv_has ls 4 [(0, .ref h), (1, .int x1), (2, .int x2), (3, .int x3)] → W p l e rm_X1_lay s m ([.ref h, .int a1, .int a2] : List Value).toArray below meth c H locs 0 0 (MQ below (z_qI dC dI cy res.1 (wX1 cy h q2 q3 q6 q7 q10 c0 c1 c2 res.2 c4 c5 c6 c7 c8 c9 c10) A) ([.ref h, .int a1, .int a2] : List Value).toArray s 0 0 A) (F0 m 60 ls []) := by
    clear hf hl hP hD hS
    intro r30 hr30
    intro x1 x2 x3 c3 H locs ls hf hP hD hS hl
    unfold f_X1_lay_b60 at hf
    refine lv_iinc (v := x3 + (1 : Int32)) (lv' := [(3, .int (x3 + (1 : Int32))), (0, .ref h), (1, .int x1), (2, .int x2)]) hx hb dX1_lay_60 hl (k := 3) rfl rfl (by decide) rfl (fun ls hl => ?_)
    refine lv_goto (tgt := 30) hx hb dX1_lay_63 (by decide) ?_
    exact hr30 x1 x2 (x3 + (1 : Int32)) c3 _ _ _ hf hP hD hS (lv_sub hl [1, 2, 3, 0] rfl)
  have B30 : ∀ n : Nat, ∀ (x1 x2 x3 : Int32) (c3 : Nat → Int32) (H : Heap) (locs : List Loc) (ls : Array Slot), f_X1_lay_b30 N c0 n x1 x2 x3 c3 = some res → va_P (dC, dI) vwCl (wX1 cy h q2 q3 q6 q7 q10 c0 c1 c2 c3 c4 c5 c6 c7 c8 c9 c10) H → va_D A (wX1 cy h q2 q3 q6 q7 q10 c0 c1 c2 c3 c4 c5 c6 c7 c8 c9 c10) → va_S A s.heap H locs → lv_has ls 4 [(0, .ref h), (1, .int x1), (2, .int x2), (3, .int x3)] → W p l e rm_X1_lay s m ([.ref h, .int a1, .int a2] : List Value).toArray below meth c H locs 0 0 (MQ below (z_qI dC dI cy res.1 (wX1 cy h q2 q3 q6 q7 q10 c0 c1 c2 res.2 c4 c5 c6 c7 c8 c9 c10) A) ([.ref h, .int a1, .int a2] : List Value).toArray s 0 0 A) (F0 m 30 ls []) := by
    clear hf hl hP hD hS
    intro n
    induction n with
    | zero =>
      intro x1 x2 x3 c3 H locs ls hf hP hD hS hl
      rw [f_X1_lay_b30] at hf
      cases hf
    | succ n ih =>
      intro x1 x2 x3 c3 H locs ls hf hP hD hS hl
      rw [f_X1_lay_b30] at hf
      refine lv_iload_n hx hb dX1_lay_30 rfl (lv_at hl 3 rfl) ?_
      refine lv_aload_n hx hb dX1_lay_31 rfl (lv_at hl 0 rfl) ?_
      refine va_get (D := (dC, dI)) (ci := 1) (v := .int c0) (C := RX1) (T := TX1) (N := 11) hx hb hts (by decide +kernel) hown hK hP 0 rfl rfl 0 (by decide) (hts (.fieldLink RX1 7 "GiftLotsModel" "ones" "I") (by decide +kernel)) (fun _ h9 => h9) rfl dX1_lay_32 ?_
      refine lv_icmp_ge (tgt := 66) hx hb dX1_lay_35 (by decide) (fun c_35 => ?_) (fun c_35 => ?_)
      · replace hf := (if_pos c_35).symm.trans hf
        refine lv_aload_n hx hb dX1_lay_66 rfl (lv_at hl 0 rfl) ?_
        refine va_get (D := (dC, dI)) (ci := 1) (v := .ref q3) (C := RX1) (T := TX1) (N := 11) hx hb hts (by decide +kernel) hown hK hP 0 rfl rfl 3 (by decide) (hts (.fieldLink RX1 20 "GiftLotsModel" "hand" "[I") (by decide +kernel)) (fun _ h9 => h9) rfl dX1_lay_67 ?_
        refine lv_iload_n hx hb dX1_lay_70 rfl (lv_at hl 1 rfl) ?_
        obtain ⟨hi71, hf⟩ := z_gx_some hf
        refine va_iald hx hb hK hP 2 0 rfl rfl hi71 dX1_lay_71 ?_
        refine lv_istore_n (lv' := [(3, .int (c3 (x1).toNatClampNeg)), (0, .ref h), (1, .int x1), (2, .int x2)]) hx hb dX1_lay_72 rfl hl (by decide) rfl (fun ls hl => ?_)
        refine lv_aload_n hx hb dX1_lay_73 rfl (lv_at hl 1 rfl) ?_
        refine va_get (D := (dC, dI)) (ci := 1) (v := .ref q3) (C := RX1) (T := TX1) (N := 11) hx hb hts (by decide +kernel) hown hK hP 0 rfl rfl 3 (by decide) (hts (.fieldLink RX1 20 "GiftLotsModel" "hand" "[I") (by decide +kernel)) (fun _ h9 => h9) rfl dX1_lay_74 ?_
        refine lv_iload_n hx hb dX1_lay_77 rfl (lv_at hl 2 rfl) ?_
        refine lv_iload_n hx hb dX1_lay_78 rfl (lv_at hl 3 rfl) ?_
        refine lv_iconst (v := (-1 : Int32)) hx hb dX1_lay_79 (by decide) ?_
        refine lv_icmp_ne (tgt := 88) hx hb dX1_lay_80 (by decide) (fun c_80 => ?_) (fun c_80 => ?_)
        · replace hf := (if_neg c_80).symm.trans hf
          refine lv_iload_n hx hb dX1_lay_88 rfl (lv_at hl 3 rfl) ?_
          exact B89 (c3 (x1).toNatClampNeg) x1 x2 c3 _ _ _ hf hP hD hS (lv_sub hl [1, 0] rfl)
        · replace hf := (if_pos c_80).symm.trans hf
          refine lv_bipush (v := (-6 : Int32)) hx hb dX1_lay_83 (by decide) ?_
          refine lv_goto (tgt := 89) hx hb dX1_lay_85 (by decide) ?_
          exact B89 (c3 (x1).toNatClampNeg) x1 (-6 : Int32) c3 _ _ _ hf hP hD hS (lv_sub hl [1, 0] rfl)
      · replace hf := (if_neg c_35).symm.trans hf
        refine lv_iload_n hx hb dX1_lay_38 rfl (lv_at hl 3 rfl) ?_
        refine lv_iload_n hx hb dX1_lay_39 rfl (lv_at hl 1 rfl) ?_
        refine lv_icmp_eq (tgt := 60) hx hb dX1_lay_40 (by decide) (fun c_40 => ?_) (fun c_40 => ?_)
        · replace hf := (if_pos c_40).symm.trans hf
          exact B60 (f_X1_lay_b30 N c0 n) ih x1 x2 x3 c3 _ _ _ hf hP hD hS (lv_sub hl [0, 1, 2, 3] rfl)
        · replace hf := (if_neg c_40).symm.trans hf
          refine lv_iload_n hx hb dX1_lay_43 rfl (lv_at hl 2 rfl) ?_
          refine lv_if_lt (tgt := 60) hx hb dX1_lay_44 (by decide) (fun c_44 => ?_) (fun c_44 => ?_)
          · replace hf := (if_pos c_44).symm.trans hf
            exact B60 (f_X1_lay_b30 N c0 n) ih x1 x2 x3 c3 _ _ _ hf hP hD hS (lv_sub hl [0, 1, 2, 3] rfl)
          · replace hf := (if_neg c_44).symm.trans hf
            refine lv_aload_n hx hb dX1_lay_47 rfl (lv_at hl 0 rfl) ?_
            refine va_get (D := (dC, dI)) (ci := 1) (v := .ref q3) (C := RX1) (T := TX1) (N := 11) hx hb hts (by decide +kernel) hown hK hP 0 rfl rfl 3 (by decide) (hts (.fieldLink RX1 20 "GiftLotsModel" "hand" "[I") (by decide +kernel)) (fun _ h9 => h9) rfl dX1_lay_48 ?_
            refine lv_iload_n hx hb dX1_lay_51 rfl (lv_at hl 3 rfl) ?_
            obtain ⟨hi52, hf⟩ := z_gx_some hf
            refine va_iald hx hb hK hP 2 0 rfl rfl hi52 dX1_lay_52 ?_
            refine lv_iload_n hx hb dX1_lay_53 rfl (lv_at hl 2 rfl) ?_
            refine lv_icmp_ne (tgt := 60) hx hb dX1_lay_54 (by decide) (fun c_54 => ?_) (fun c_54 => ?_)
            · replace hf := (if_neg c_54).symm.trans hf
              exact B60 (f_X1_lay_b30 N c0 n) ih x1 x2 x3 c3 _ _ _ hf hP hD hS (lv_sub hl [0, 1, 2, 3] rfl)
            · replace hf := (if_pos c_54).symm.trans hf
              refine lv_bipush (v := (-3 : Int32)) hx hb dX1_lay_57 (by decide) ?_
              have hres := Option.some.inj hf
              subst hres
              have hP9 := hP.sub (ws' := (wX1 cy h q2 q3 q6 q7 q10 c0 c1 c2 c3 c4 c5 c6 c7 c8 c9 c10)) [0, 1, 2, 3, 4, 5] rfl
              have hD9 := hD.sub (ws' := (wX1 cy h q2 q3 q6 q7 q10 c0 c1 c2 c3 c4 c5 c6 c7 c8 c9 c10)) [0, 1, 2, 3, 4, 5] (by decide) rfl
              have hK9 := hK.sub (tys' := [(cy, .int)]) [0] rfl
              exact W.iret (v := (-3 : Int32)) hx hb hr (fun t ht hW => ⟨⟨(-3 : Int32), (), rfl, rfl, by rw [ht]; exact hP9, va_K.moved hW.alike hK9, hD9⟩, hS.F ht⟩) hS.2.2 dX1_lay_59
  have B21 : ∀ (x1 x2 : Int32) (c3 : Nat → Int32) (H : Heap) (locs : List Loc) (ls : Array Slot), f_X1_lay_b21 N c0 x1 x2 c3 = some res → va_P (dC, dI) vwCl (wX1 cy h q2 q3 q6 q7 q10 c0 c1 c2 c3 c4 c5 c6 c7 c8 c9 c10) H → va_D A (wX1 cy h q2 q3 q6 q7 q10 c0 c1 c2 c3 c4 c5 c6 c7 c8 c9 c10) → va_S A s.heap H locs → lv_has ls 4 [(0, .ref h), (1, .int x1), (2, .int x2)] → W p l e rm_X1_lay s m ([.ref h, .int a1, .int a2] : List Value).toArray below meth c H locs 0 0 (MQ below (z_qI dC dI cy res.1 (wX1 cy h q2 q3 q6 q7 q10 c0 c1 c2 res.2 c4 c5 c6 c7 c8 c9 c10) A) ([.ref h, .int a1, .int a2] : List Value).toArray s 0 0 A) (F0 m 21 ls []) := by
    clear hf hl hP hD hS
    intro x1 x2 c3 H locs ls hf hP hD hS hl
    unfold f_X1_lay_b21 at hf
    refine lv_iload_n hx hb dX1_lay_21 rfl (lv_at hl 1 rfl) ?_
    refine lv_iload_n hx hb dX1_lay_22 rfl (lv_at hl 2 rfl) ?_
    refine lv_icmp_ne (tgt := 28) hx hb dX1_lay_23 (by decide) (fun c_23 => ?_) (fun c_23 => ?_)
    · replace hf := (if_neg c_23).symm.trans hf
      refine lv_iconst (v := (0 : Int32)) hx hb dX1_lay_28 (by decide) ?_
      refine lv_istore_n (lv' := [(3, .int (0 : Int32)), (0, .ref h), (1, .int x1), (2, .int x2)]) hx hb dX1_lay_29 rfl hl (by decide) rfl (fun ls hl => ?_)
      exact B30 N x1 x2 (0 : Int32) c3 _ _ _ hf hP hD hS (lv_sub hl [1, 2, 3, 0] rfl)
    · replace hf := (if_pos c_23).symm.trans hf
      refine lv_iconst (v := (-1 : Int32)) hx hb dX1_lay_26 (by decide) ?_
      have hres := Option.some.inj hf
      subst hres
      have hP9 := hP.sub (ws' := (wX1 cy h q2 q3 q6 q7 q10 c0 c1 c2 c3 c4 c5 c6 c7 c8 c9 c10)) [0, 1, 2, 3, 4, 5] rfl
      have hD9 := hD.sub (ws' := (wX1 cy h q2 q3 q6 q7 q10 c0 c1 c2 c3 c4 c5 c6 c7 c8 c9 c10)) [0, 1, 2, 3, 4, 5] (by decide) rfl
      have hK9 := hK.sub (tys' := [(cy, .int)]) [0] rfl
      exact W.iret (v := (-1 : Int32)) hx hb hr (fun t ht hW => ⟨⟨(-1 : Int32), (), rfl, rfl, by rw [ht]; exact hP9, va_K.moved hW.alike hK9, hD9⟩, hS.F ht⟩) hS.2.2 dX1_lay_27
  unfold f_X1_lay at hf
  refine lv_aload_n hx hb dX1_lay_0 rfl (lv_at hl 0 rfl) ?_
  refine lv_iload_n hx hb dX1_lay_1 rfl (lv_at hl 1 rfl) ?_
  obtain ⟨u2, hu2, hf⟩ := z_ob_some hf
  have hPc := hP.sub (ws' := (wX1 cy h q2 q3 q6 q7 q10 c0 c1 c2 c3 c4 c5 c6 c7 c8 c9 c10)) [0, 1, 2, 3, 4, 5] rfl
  have hDc := hD.sub (ws' := (wX1 cy h q2 q3 q6 q7 q10 c0 c1 c2 c3 c4 c5 c6 c7 c8 c9 c10)) [0, 1, 2, 3, 4, 5] (by decide) rfl
  have hKc := hK.sub (tys' := [(cy, .int)]) [0] rfl
  have hFc := va_free (wc := (wX1 cy h q2 q3 q6 q7 q10 c0 c1 c2 c3 c4 c5 c6 c7 c8 c9 c10)) hD hS hA [0, 1, 2, 3, 4, 5] rfl
  refine va_calli (va_runV (As := [.int a1]) (rest := []) ⟨hx, hb, hml, hown, hts⟩ (c_X1_isOne N l dC dI cy h q2 q3 q6 q7 q10 s.heap.size c0 c1 c2 c3 c4 c5 c6 c7 c8 c9 c10 a1 u2 hu2) (cwV 1 hts gX1_lay_X1_isOne rfl rfl rfl (by decide +kernel) ⟨Nat.le_of_ble_eq_true rfl, Nat.le_of_ble_eq_true rfl⟩) ⟨fun a U g mk q => by obtain ⟨q0, q1, qP, qK, qD⟩ := q; exact ⟨q0, q1, qP, va_K.moved (u := U) (U := U.calling g mk a) (Vm.Alike.refl U.vm) qK, qD⟩, va_recv hKc hPc (ci := 1) (q0 := 0) rfl rfl, fun U hU hW => ⟨rfl, by rw [hU], by rw [hU]; exact hPc, va_K.moved hW.alike hKc, hDc.weaken (fun _ _ _ _ => trivial)⟩⟩ rfl rfl hl.1 rfl (lv_room (Nat.le_of_ble_eq_true rfl)) dX1_lay_2 ⟨Nat.zero_le _, Nat.zero_le _⟩) hS (fun q _ h => hFc q h) hFc (fun r_2 uu_ t H1 locs ht hvm hw hB hz1 hk1 hS => ?_)
  replace hw := hw.symm
  subst hw
  obtain ⟨hP1, -, hD1⟩ := hB
  rw [ht] at hP1
  obtain ⟨hP, hD⟩ := va_join (wr := []) (w1 := (wX1 cy h q2 q3 q6 q7 q10 c0 c1 c2 c3 c4 c5 c6 c7 c8 c9 c10)) hP hD [0, 1, 2, 3, 4, 5] [] rfl rfl (by decide) (by decide) hk1 hFc hP1 hD1
  clear hk1 hz1 hP1 hD1 ht hPc hDc hFc
  generalize H1 = H at hP hS ⊢
  have hP : va_P (dC, dI) vwCl (wX1 cy h q2 q3 q6 q7 q10 c0 c1 c2 c3 c4 c5 c6 c7 c8 c9 c10) H := hP
  have hD : va_D A (wX1 cy h q2 q3 q6 q7 q10 c0 c1 c2 c3 c4 c5 c6 c7 c8 c9 c10) := hD
  refine lv_if_eq (tgt := 26) hx hb dX1_lay_5 (by decide) (fun c_5 => ?_) (fun c_5 => ?_)
  · replace hf := (if_pos c_5).symm.trans hf
    refine lv_iconst (v := (-1 : Int32)) hx hb dX1_lay_26 (by decide) ?_
    have hres := Option.some.inj hf
    subst hres
    have hP9 := hP.sub (ws' := (wX1 cy h q2 q3 q6 q7 q10 c0 c1 c2 c3 c4 c5 c6 c7 c8 c9 c10)) [0, 1, 2, 3, 4, 5] rfl
    have hD9 := hD.sub (ws' := (wX1 cy h q2 q3 q6 q7 q10 c0 c1 c2 c3 c4 c5 c6 c7 c8 c9 c10)) [0, 1, 2, 3, 4, 5] (by decide) rfl
    have hK9 := hK.sub (tys' := [(cy, .int)]) [0] rfl
    exact W.iret (v := (-1 : Int32)) hx hb hr (fun t ht hW => ⟨⟨(-1 : Int32), (), rfl, rfl, by rw [ht]; exact hP9, va_K.moved hW.alike hK9, hD9⟩, hS.F ht⟩) hS.2.2 dX1_lay_27
  · replace hf := (if_neg c_5).symm.trans hf
    refine lv_iload_n hx hb dX1_lay_8 rfl (lv_at hl 2 rfl) ?_
    refine lv_iconst (v := (-1 : Int32)) hx hb dX1_lay_9 (by decide) ?_
    refine lv_icmp_eq (tgt := 21) hx hb dX1_lay_10 (by decide) (fun c_10 => ?_) (fun c_10 => ?_)
    · replace hf := (if_pos c_10).symm.trans hf
      exact B21 a1 a2 c3 _ _ _ hf hP hD hS (lv_sub hl [0, 1, 2] rfl)
    · replace hf := (if_neg c_10).symm.trans hf
      refine lv_aload_n hx hb dX1_lay_13 rfl (lv_at hl 0 rfl) ?_
      refine lv_iload_n hx hb dX1_lay_14 rfl (lv_at hl 2 rfl) ?_
      obtain ⟨u15, hu15, hf⟩ := z_ob_some hf
      have hPc := hP.sub (ws' := (wX1 cy h q2 q3 q6 q7 q10 c0 c1 c2 c3 c4 c5 c6 c7 c8 c9 c10)) [0, 1, 2, 3, 4, 5] rfl
      have hDc := hD.sub (ws' := (wX1 cy h q2 q3 q6 q7 q10 c0 c1 c2 c3 c4 c5 c6 c7 c8 c9 c10)) [0, 1, 2, 3, 4, 5] (by decide) rfl
      have hKc := hK.sub (tys' := [(cy, .int)]) [0] rfl
      have hFc := va_free (wc := (wX1 cy h q2 q3 q6 q7 q10 c0 c1 c2 c3 c4 c5 c6 c7 c8 c9 c10)) hD hS hA [0, 1, 2, 3, 4, 5] rfl
      refine va_calli (va_runV (As := [.int a2]) (rest := []) ⟨hx, hb, hml, hown, hts⟩ (c_X1_isOne N l dC dI cy h q2 q3 q6 q7 q10 H.size c0 c1 c2 c3 c4 c5 c6 c7 c8 c9 c10 a2 u15 hu15) (cwV 1 hts gX1_lay_X1_isOne rfl rfl rfl (by decide +kernel) ⟨Nat.le_of_ble_eq_true rfl, Nat.le_of_ble_eq_true rfl⟩) ⟨fun a U g mk q => by obtain ⟨q0, q1, qP, qK, qD⟩ := q; exact ⟨q0, q1, qP, va_K.moved (u := U) (U := U.calling g mk a) (Vm.Alike.refl U.vm) qK, qD⟩, va_recv hKc hPc (ci := 1) (q0 := 0) rfl rfl, fun U hU hW => ⟨rfl, by rw [hU], by rw [hU]; exact hPc, va_K.moved hW.alike hKc, hDc.weaken (fun _ _ _ _ => trivial)⟩⟩ rfl rfl hl.1 rfl (lv_room (Nat.le_of_ble_eq_true rfl)) dX1_lay_15 ⟨Nat.zero_le _, Nat.zero_le _⟩) hS (fun q _ h => hFc q h) hFc (fun r_15 uu_ t H1 locs ht hvm hw hB hz1 hk1 hS => ?_)
      replace hw := hw.symm
      subst hw
      obtain ⟨hP1, -, hD1⟩ := hB
      rw [ht] at hP1
      obtain ⟨hP, hD⟩ := va_join (wr := []) (w1 := (wX1 cy h q2 q3 q6 q7 q10 c0 c1 c2 c3 c4 c5 c6 c7 c8 c9 c10)) hP hD [0, 1, 2, 3, 4, 5] [] rfl rfl (by decide) (by decide) hk1 hFc hP1 hD1
      clear hk1 hz1 hP1 hD1 ht hPc hDc hFc
      generalize H1 = H at hP hS ⊢
      have hP : va_P (dC, dI) vwCl (wX1 cy h q2 q3 q6 q7 q10 c0 c1 c2 c3 c4 c5 c6 c7 c8 c9 c10) H := hP
      have hD : va_D A (wX1 cy h q2 q3 q6 q7 q10 c0 c1 c2 c3 c4 c5 c6 c7 c8 c9 c10) := hD
      refine lv_if_eq (tgt := 26) hx hb dX1_lay_18 (by decide) (fun c_18 => ?_) (fun c_18 => ?_)
      · replace hf := (if_pos c_18).symm.trans hf
        refine lv_iconst (v := (-1 : Int32)) hx hb dX1_lay_26 (by decide) ?_
        have hres := Option.some.inj hf
        subst hres
        have hP9 := hP.sub (ws' := (wX1 cy h q2 q3 q6 q7 q10 c0 c1 c2 c3 c4 c5 c6 c7 c8 c9 c10)) [0, 1, 2, 3, 4, 5] rfl
        have hD9 := hD.sub (ws' := (wX1 cy h q2 q3 q6 q7 q10 c0 c1 c2 c3 c4 c5 c6 c7 c8 c9 c10)) [0, 1, 2, 3, 4, 5] (by decide) rfl
        have hK9 := hK.sub (tys' := [(cy, .int)]) [0] rfl
        exact W.iret (v := (-1 : Int32)) hx hb hr (fun t ht hW => ⟨⟨(-1 : Int32), (), rfl, rfl, by rw [ht]; exact hP9, va_K.moved hW.alike hK9, hD9⟩, hS.F ht⟩) hS.2.2 dX1_lay_27
      · replace hf := (if_neg c_18).symm.trans hf
        exact B21 a1 a2 c3 _ _ _ hf hP hD hS (lv_sub hl [0, 1, 2] rfl)

set_option maxRecDepth 20000 in
theorem ggX1_laid_X1_isOne : GoodIn wsX1_laid wsX1_isOne := goodIn_r _ [6, 7, 8, 9, 5, 10, 11, 12, 13, 14, 15, 16, 17, 18, 19, 20, 21] (by decide +kernel) (by decide +kernel)
set_option maxRecDepth 20000 in
theorem gX1_laid_X1_isOne : GoodIn wsX1_laid (wsV RX1 39 RX1 yX1_isOne wsX1_isOne) := goodIn_app (goodIn_of _ (by decide +kernel)) ggX1_laid_X1_isOne
theorem dX1_laid_0 : decode cX1_laid 0 = .ok (.aload_n 0, 1) := by decide +kernel
theorem dX1_laid_1 : decode cX1_laid 1 = .ok (.iload_n 1, 1) := by decide +kernel
theorem dX1_laid_2 : decode cX1_laid 2 = .ok (.invokevirtual 39, 3) := by decide +kernel
theorem dX1_laid_5 : decode cX1_laid 5 = .ok (.ifCond .eq 12, 3) := by decide +kernel
theorem dX1_laid_8 : decode cX1_laid 8 = .ok (.aload_n 0, 1) := by decide +kernel
theorem dX1_laid_9 : decode cX1_laid 9 = .ok (.getfield 20, 3) := by decide +kernel
theorem dX1_laid_12 : decode cX1_laid 12 = .ok (.iload_n 1, 1) := by decide +kernel
theorem dX1_laid_13 : decode cX1_laid 13 = .ok (.iaload, 1) := by decide +kernel
theorem dX1_laid_14 : decode cX1_laid 14 = .ok (.goto 4, 3) := by decide +kernel
theorem dX1_laid_17 : decode cX1_laid 17 = .ok (.iconst (-1), 1) := by decide +kernel
theorem dX1_laid_18 : decode cX1_laid 18 = .ok (.ireturn, 1) := by decide +kernel
abbrev rm_X1_laid : Room := { frames := 2, cells := 0, slots := 0, locals := 43 }
set_option maxHeartbeats 4000000 in
set_option maxRecDepth 100000 in
theorem c_X1_laid (N : Nat) (l : Launch) (dC : Nat → ClassId) (dI : Nat → Nat → Nat) (cy : ClassId) (h q2 q3 q6 q7 q10 : Nat) (sz : Nat) (c0 : Int32) (c1 : Int32) (c2 : Nat → Int32) (c3 : Nat → Int32) (c4 : Int32) (c5 : Int32) (c6 : Nat → Int32) (c7 : Nat → Int32) (c8 : Int32) (c9 : Int32) (c10 : Nat → Int32) (a1 : Int32) (res : Int32) (hf : f_X1_laid N a1 c0 c3 = some res) : Met l yX1_laid wsX1_laid rm_X1_laid (va_Pc [.ref h, .int a1] (fun U => U.heap.size = sz ∧ va_P (dC, dI) vwCl (wX1 cy h q2 q3 q6 q7 q10 c0 c1 c2 c3 c4 c5 c6 c7 c8 c9 c10) U.heap ∧ va_K (dC, dI) vwCl [(cy, .int)] U ∧ va_D (fun _ => True) (wX1 cy h q2 q3 q6 q7 q10 c0 c1 c2 c3 c4 c5 c6 c7 c8 c9 c10))) (z_qI dC dI cy res (wX1 cy h q2 q3 q6 q7 q10 c0 c1 c2 c3 c4 c5 c6 c7 c8 c9 c10) (va_A (wX1 cy h q2 q3 q6 q7 q10 c0 c1 c2 c3 c4 c5 c6 c7 c8 c9 c10) sz)) 0 0 (va_A (wX1 cy h q2 q3 q6 q7 q10 c0 c1 c2 c3 c4 c5 c6 c7 c8 c9 c10) sz) := by
  refine Met.ofW (cc := cX1_laid) (maxL := 2) (ret := (some .int)) (by decide) rfl ?_
  intro p e s m args below meth c s₁ B hml hv
  obtain ⟨rfl, hsz, hP, hK, hD0⟩ := hv
  have hx := B.exec
  have hb := B.bytes
  have hr := B.returns
  have hts := atoms_spec (ws := wsX1_laid) B.pre
  have hown : s.vm.findClass RX1 = some m.cls := findClass_of_methodNamed B.named
  have hlocks := B.notSynchronized
  subst hsz
  have hD := hD0.self (sz := s.heap.size)
  generalize hAe : va_A (wX1 cy h q2 q3 q6 q7 q10 c0 c1 c2 c3 c4 c5 c6 c7 c8 c9 c10) s.heap.size = A at hD ⊢
  have hA : ∀ q : Nat, s.heap.size ≤ q → A q := fun q h => by rw [← hAe]; exact Or.inr h
  have hS : va_S A s.heap s.heap [] := va_S.rf
  have hP : va_P (dC, dI) vwCl (wX1 cy h q2 q3 q6 q7 q10 c0 c1 c2 c3 c4 c5 c6 c7 c8 c9 c10) s.heap := hP
  have hl := lv_entry ([.ref h, .int a1]) (n := 2) (Nat.le_of_ble_eq_true rfl)
  rw [lg_entry_eq]
  generalize (lg_sl ([.ref h, .int a1]) ++ List.replicate (2 - (lg_sl ([.ref h, .int a1])).length) Slot.unset).toArray = ls at hl ⊢
  have hl : lv_has ls 2 [(0, .ref h), (1, .int a1)] := hl
  unfold f_X1_laid at hf
  refine lv_aload_n hx hb dX1_laid_0 rfl (lv_at hl 0 rfl) ?_
  refine lv_iload_n hx hb dX1_laid_1 rfl (lv_at hl 1 rfl) ?_
  obtain ⟨u2, hu2, hf⟩ := z_ob_some hf
  have hPc := hP.sub (ws' := (wX1 cy h q2 q3 q6 q7 q10 c0 c1 c2 c3 c4 c5 c6 c7 c8 c9 c10)) [0, 1, 2, 3, 4, 5] rfl
  have hDc := hD.sub (ws' := (wX1 cy h q2 q3 q6 q7 q10 c0 c1 c2 c3 c4 c5 c6 c7 c8 c9 c10)) [0, 1, 2, 3, 4, 5] (by decide) rfl
  have hKc := hK.sub (tys' := [(cy, .int)]) [0] rfl
  have hFc := va_free (wc := (wX1 cy h q2 q3 q6 q7 q10 c0 c1 c2 c3 c4 c5 c6 c7 c8 c9 c10)) hD hS hA [0, 1, 2, 3, 4, 5] rfl
  refine va_calli (va_runV (As := [.int a1]) (rest := []) ⟨hx, hb, hml, hown, hts⟩ (c_X1_isOne N l dC dI cy h q2 q3 q6 q7 q10 s.heap.size c0 c1 c2 c3 c4 c5 c6 c7 c8 c9 c10 a1 u2 hu2) (cwV 1 hts gX1_laid_X1_isOne rfl rfl rfl (by decide +kernel) ⟨Nat.le_of_ble_eq_true rfl, Nat.le_of_ble_eq_true rfl⟩) ⟨fun a U g mk q => by obtain ⟨q0, q1, qP, qK, qD⟩ := q; exact ⟨q0, q1, qP, va_K.moved (u := U) (U := U.calling g mk a) (Vm.Alike.refl U.vm) qK, qD⟩, va_recv hKc hPc (ci := 1) (q0 := 0) rfl rfl, fun U hU hW => ⟨rfl, by rw [hU], by rw [hU]; exact hPc, va_K.moved hW.alike hKc, hDc.weaken (fun _ _ _ _ => trivial)⟩⟩ rfl rfl hl.1 rfl (lv_room (Nat.le_of_ble_eq_true rfl)) dX1_laid_2 ⟨Nat.zero_le _, Nat.zero_le _⟩) hS (fun q _ h => hFc q h) hFc (fun r_2 uu_ t H1 locs ht hvm hw hB hz1 hk1 hS => ?_)
  replace hw := hw.symm
  subst hw
  obtain ⟨hP1, -, hD1⟩ := hB
  rw [ht] at hP1
  obtain ⟨hP, hD⟩ := va_join (wr := []) (w1 := (wX1 cy h q2 q3 q6 q7 q10 c0 c1 c2 c3 c4 c5 c6 c7 c8 c9 c10)) hP hD [0, 1, 2, 3, 4, 5] [] rfl rfl (by decide) (by decide) hk1 hFc hP1 hD1
  clear hk1 hz1 hP1 hD1 ht hPc hDc hFc
  generalize H1 = H at hP hS ⊢
  have hP : va_P (dC, dI) vwCl (wX1 cy h q2 q3 q6 q7 q10 c0 c1 c2 c3 c4 c5 c6 c7 c8 c9 c10) H := hP
  have hD : va_D A (wX1 cy h q2 q3 q6 q7 q10 c0 c1 c2 c3 c4 c5 c6 c7 c8 c9 c10) := hD
  refine lv_if_eq (tgt := 17) hx hb dX1_laid_5 (by decide) (fun c_5 => ?_) (fun c_5 => ?_)
  · replace hf := (if_pos c_5).symm.trans hf
    refine lv_iconst (v := (-1 : Int32)) hx hb dX1_laid_17 (by decide) ?_
    have hres := Option.some.inj hf
    subst hres
    have hP9 := hP.sub (ws' := (wX1 cy h q2 q3 q6 q7 q10 c0 c1 c2 c3 c4 c5 c6 c7 c8 c9 c10)) [0, 1, 2, 3, 4, 5] rfl
    have hD9 := hD.sub (ws' := (wX1 cy h q2 q3 q6 q7 q10 c0 c1 c2 c3 c4 c5 c6 c7 c8 c9 c10)) [0, 1, 2, 3, 4, 5] (by decide) rfl
    have hK9 := hK.sub (tys' := [(cy, .int)]) [0] rfl
    exact W.iret (v := (-1 : Int32)) hx hb hr (fun t ht hW => ⟨⟨(-1 : Int32), (), rfl, rfl, by rw [ht]; exact hP9, va_K.moved hW.alike hK9, hD9⟩, hS.F ht⟩) hS.2.2 dX1_laid_18
  · replace hf := (if_neg c_5).symm.trans hf
    refine lv_aload_n hx hb dX1_laid_8 rfl (lv_at hl 0 rfl) ?_
    refine va_get (D := (dC, dI)) (ci := 1) (v := .ref q3) (C := RX1) (T := TX1) (N := 11) hx hb hts (by decide +kernel) hown hK hP 0 rfl rfl 3 (by decide) (hts (.fieldLink RX1 20 "GiftLotsModel" "hand" "[I") (by decide +kernel)) (fun _ h9 => h9) rfl dX1_laid_9 ?_
    refine lv_iload_n hx hb dX1_laid_12 rfl (lv_at hl 1 rfl) ?_
    obtain ⟨hi13, hf⟩ := z_gx_some hf
    refine va_iald hx hb hK hP 2 0 rfl rfl hi13 dX1_laid_13 ?_
    refine lv_goto (tgt := 18) hx hb dX1_laid_14 (by decide) ?_
    have hres := Option.some.inj hf
    subst hres
    have hP9 := hP.sub (ws' := (wX1 cy h q2 q3 q6 q7 q10 c0 c1 c2 c3 c4 c5 c6 c7 c8 c9 c10)) [0, 1, 2, 3, 4, 5] rfl
    have hD9 := hD.sub (ws' := (wX1 cy h q2 q3 q6 q7 q10 c0 c1 c2 c3 c4 c5 c6 c7 c8 c9 c10)) [0, 1, 2, 3, 4, 5] (by decide) rfl
    have hK9 := hK.sub (tys' := [(cy, .int)]) [0] rfl
    exact W.iret (v := c3 (a1).toNatClampNeg) hx hb hr (fun t ht hW => ⟨⟨c3 (a1).toNatClampNeg, (), rfl, rfl, by rw [ht]; exact hP9, va_K.moved hW.alike hK9, hD9⟩, hS.F ht⟩) hS.2.2 dX1_laid_18

set_option maxRecDepth 20000 in
theorem ggX1_draw_X1_goTo : GoodIn wsX1_draw wsX1_goTo := goodIn_r _ [8, 9, 10, 11, 7, 12, 1, 13, 14, 15, 16, 17, 18, 3, 19, 20, 21, 22, 23, 24, 25, 26, 27, 28, 29, 30, 31, 32, 33, 34, 35, 36, 37, 38, 39, 40, 41, 42, 43, 44, 45, 46, 47, 48, 49, 50, 51, 52, 53, 54] (by decide +kernel) (by decide +kernel)
set_option maxRecDepth 20000 in
theorem gX1_draw_X1_goTo : GoodIn wsX1_draw (wsV RX1 79 RX1 yX1_goTo wsX1_goTo) := goodIn_app (goodIn_of _ (by decide +kernel)) ggX1_draw_X1_goTo
theorem dX1_draw_0 : decode cX1_draw 0 = .ok (.aload_n 0, 1) := by decide +kernel
theorem dX1_draw_1 : decode cX1_draw 1 = .ok (.iload_n 1, 1) := by decide +kernel
theorem dX1_draw_2 : decode cX1_draw 2 = .ok (.invokevirtual 79, 3) := by decide +kernel
theorem dX1_draw_5 : decode cX1_draw 5 = .ok (.ifCond .ne 6, 3) := by decide +kernel
theorem dX1_draw_8 : decode cX1_draw 8 = .ok (.bipush (-5), 2) := by decide +kernel
theorem dX1_draw_10 : decode cX1_draw 10 = .ok (.ireturn, 1) := by decide +kernel
theorem dX1_draw_11 : decode cX1_draw 11 = .ok (.iconst 0, 1) := by decide +kernel
theorem dX1_draw_12 : decode cX1_draw 12 = .ok (.istore_n 2, 1) := by decide +kernel
theorem dX1_draw_13 : decode cX1_draw 13 = .ok (.iload_n 2, 1) := by decide +kernel
theorem dX1_draw_14 : decode cX1_draw 14 = .ok (.aload_n 0, 1) := by decide +kernel
theorem dX1_draw_15 : decode cX1_draw 15 = .ok (.getfield 7, 3) := by decide +kernel
theorem dX1_draw_18 : decode cX1_draw 18 = .ok (.if_icmp .ge 21, 3) := by decide +kernel
theorem dX1_draw_21 : decode cX1_draw 21 = .ok (.aload_n 0, 1) := by decide +kernel
theorem dX1_draw_22 : decode cX1_draw 22 = .ok (.getfield 20, 3) := by decide +kernel
theorem dX1_draw_25 : decode cX1_draw 25 = .ok (.iload_n 2, 1) := by decide +kernel
theorem dX1_draw_26 : decode cX1_draw 26 = .ok (.aload_n 0, 1) := by decide +kernel
theorem dX1_draw_27 : decode cX1_draw 27 = .ok (.getfield 23, 3) := by decide +kernel
theorem dX1_draw_30 : decode cX1_draw 30 = .ok (.iload_n 2, 1) := by decide +kernel
theorem dX1_draw_31 : decode cX1_draw 31 = .ok (.iaload, 1) := by decide +kernel
theorem dX1_draw_32 : decode cX1_draw 32 = .ok (.iastore, 1) := by decide +kernel
theorem dX1_draw_33 : decode cX1_draw 33 = .ok (.iinc 2 1, 3) := by decide +kernel
theorem dX1_draw_36 : decode cX1_draw 36 = .ok (.goto (-23), 3) := by decide +kernel
theorem dX1_draw_39 : decode cX1_draw 39 = .ok (.iconst 1, 1) := by decide +kernel
theorem dX1_draw_40 : decode cX1_draw 40 = .ok (.ireturn, 1) := by decide +kernel
abbrev rm_X1_draw : Room := { frames := 4, cells := 0, slots := 0, locals := 92 }
set_option maxHeartbeats 4000000 in
set_option maxRecDepth 100000 in
theorem c_X1_draw (N : Nat) (l : Launch) (dC : Nat → ClassId) (dI : Nat → Nat → Nat) (cy : ClassId) (h q2 q3 q6 q7 q10 : Nat) (sz : Nat) (c0 : Int32) (c1 : Int32) (c2 : Nat → Int32) (c3 : Nat → Int32) (c4 : Int32) (c5 : Int32) (c6 : Nat → Int32) (c7 : Nat → Int32) (c8 : Int32) (c9 : Int32) (c10 : Nat → Int32) (a1 : Int32) (res : Int32 × (Nat → Int32) × Int32 × Int32 × (Nat → Int32)) (hf : f_X1_draw N a1 c0 c1 c2 c3 c4 c5 c6 = some res) : Met l yX1_draw wsX1_draw rm_X1_draw (va_Pc [.ref h, .int a1] (fun U => U.heap.size = sz ∧ va_P (dC, dI) vwCl (wX1 cy h q2 q3 q6 q7 q10 c0 c1 c2 c3 c4 c5 c6 c7 c8 c9 c10) U.heap ∧ va_K (dC, dI) vwCl [(cy, .int)] U ∧ va_D (fun _ => True) (wX1 cy h q2 q3 q6 q7 q10 c0 c1 c2 c3 c4 c5 c6 c7 c8 c9 c10))) (z_qI dC dI cy res.1 (wX1 cy h q2 q3 q6 q7 q10 c0 c1 c2 res.2.1 res.2.2.1 res.2.2.2.1 res.2.2.2.2 c7 c8 c9 c10) (va_A (wX1 cy h q2 q3 q6 q7 q10 c0 c1 c2 c3 c4 c5 c6 c7 c8 c9 c10) sz)) 0 0 (va_A (wX1 cy h q2 q3 q6 q7 q10 c0 c1 c2 c3 c4 c5 c6 c7 c8 c9 c10) sz) := by
  refine Met.ofW (cc := cX1_draw) (maxL := 3) (ret := (some .int)) (by decide) rfl ?_
  intro p e s m args below meth c s₁ B hml hv
  obtain ⟨rfl, hsz, hP, hK, hD0⟩ := hv
  have hx := B.exec
  have hb := B.bytes
  have hr := B.returns
  have hts := atoms_spec (ws := wsX1_draw) B.pre
  have hown : s.vm.findClass RX1 = some m.cls := findClass_of_methodNamed B.named
  have hlocks := B.notSynchronized
  subst hsz
  have hD := hD0.self (sz := s.heap.size)
  generalize hAe : va_A (wX1 cy h q2 q3 q6 q7 q10 c0 c1 c2 c3 c4 c5 c6 c7 c8 c9 c10) s.heap.size = A at hD ⊢
  have hA : ∀ q : Nat, s.heap.size ≤ q → A q := fun q h => by rw [← hAe]; exact Or.inr h
  have hS : va_S A s.heap s.heap [] := va_S.rf
  have hP : va_P (dC, dI) vwCl (wX1 cy h q2 q3 q6 q7 q10 c0 c1 c2 c3 c4 c5 c6 c7 c8 c9 c10) s.heap := hP
  have hl := lv_entry ([.ref h, .int a1]) (n := 3) (Nat.le_of_ble_eq_true rfl)
  rw [lg_entry_eq]
  generalize (lg_sl ([.ref h, .int a1]) ++ List.replicate (3 - (lg_sl ([.ref h, .int a1])).length) Slot.unset).toArray = ls at hl ⊢
  have hl : lv_has ls 3 [(0, .ref h), (1, .int a1)] := hl
  have B13 : ∀ n : Nat, ∀ (x2 : Int32) (c3 : Nat → Int32) (c4 : Int32) (c5 : Int32) (c6 : Nat → Int32) (H : Heap) (locs : List Loc) (ls : Array Slot), f_X1_draw_b13 N c0 c1 c2 n x2 c3 c4 c5 c6 = some res → va_P (dC, dI) vwCl (wX1 cy h q2 q3 q6 q7 q10 c0 c1 c2 c3 c4 c5 c6 c7 c8 c9 c10) H → va_D A (wX1 cy h q2 q3 q6 q7 q10 c0 c1 c2 c3 c4 c5 c6 c7 c8 c9 c10) → va_S A s.heap H locs → lv_has ls 3 [(0, .ref h), (2, .int x2)] → W p l e rm_X1_draw s m ([.ref h, .int a1] : List Value).toArray below meth c H locs 0 0 (MQ below (z_qI dC dI cy res.1 (wX1 cy h q2 q3 q6 q7 q10 c0 c1 c2 res.2.1 res.2.2.1 res.2.2.2.1 res.2.2.2.2 c7 c8 c9 c10) A) ([.ref h, .int a1] : List Value).toArray s 0 0 A) (F0 m 13 ls []) := by
    clear hf hl hP hD hS
    intro n
    induction n with
    | zero =>
      intro x2 c3 c4 c5 c6 H locs ls hf hP hD hS hl
      rw [f_X1_draw_b13] at hf
      cases hf
    | succ n ih =>
      intro x2 c3 c4 c5 c6 H locs ls hf hP hD hS hl
      rw [f_X1_draw_b13] at hf
      refine lv_iload_n hx hb dX1_draw_13 rfl (lv_at hl 1 rfl) ?_
      refine lv_aload_n hx hb dX1_draw_14 rfl (lv_at hl 0 rfl) ?_
      refine va_get (D := (dC, dI)) (ci := 1) (v := .int c0) (C := RX1) (T := TX1) (N := 11) hx hb hts (by decide +kernel) hown hK hP 0 rfl rfl 0 (by decide) (hts (.fieldLink RX1 7 "GiftLotsModel" "ones" "I") (by decide +kernel)) (fun _ h9 => h9) rfl dX1_draw_15 ?_
      refine lv_icmp_ge (tgt := 39) hx hb dX1_draw_18 (by decide) (fun c_18 => ?_) (fun c_18 => ?_)
      · replace hf := (if_pos c_18).symm.trans hf
        refine lv_iconst (v := (1 : Int32)) hx hb dX1_draw_39 (by decide) ?_
        have hres := Option.some.inj hf
        subst hres
        have hP9 := hP.sub (ws' := (wX1 cy h q2 q3 q6 q7 q10 c0 c1 c2 c3 c4 c5 c6 c7 c8 c9 c10)) [0, 1, 2, 3, 4, 5] rfl
        have hD9 := hD.sub (ws' := (wX1 cy h q2 q3 q6 q7 q10 c0 c1 c2 c3 c4 c5 c6 c7 c8 c9 c10)) [0, 1, 2, 3, 4, 5] (by decide) rfl
        have hK9 := hK.sub (tys' := [(cy, .int)]) [0] rfl
        exact W.iret (v := (1 : Int32)) hx hb hr (fun t ht hW => ⟨⟨(1 : Int32), (), rfl, rfl, by rw [ht]; exact hP9, va_K.moved hW.alike hK9, hD9⟩, hS.F ht⟩) hS.2.2 dX1_draw_40
      · replace hf := (if_neg c_18).symm.trans hf
        refine lv_aload_n hx hb dX1_draw_21 rfl (lv_at hl 0 rfl) ?_
        refine va_get (D := (dC, dI)) (ci := 1) (v := .ref q3) (C := RX1) (T := TX1) (N := 11) hx hb hts (by decide +kernel) hown hK hP 0 rfl rfl 3 (by decide) (hts (.fieldLink RX1 20 "GiftLotsModel" "hand" "[I") (by decide +kernel)) (fun _ h9 => h9) rfl dX1_draw_22 ?_
        refine lv_iload_n hx hb dX1_draw_25 rfl (lv_at hl 1 rfl) ?_
        refine lv_aload_n hx hb dX1_draw_26 rfl (lv_at hl 0 rfl) ?_
        refine va_get (D := (dC, dI)) (ci := 1) (v := .ref q6) (C := RX1) (T := TX1) (N := 11) hx hb hts (by decide +kernel) hown hK hP 0 rfl rfl 6 (by decide) (hts (.fieldLink RX1 23 "GiftLotsModel" "gives" "[I") (by decide +kernel)) (fun _ h9 => h9) rfl dX1_draw_27 ?_
        refine lv_iload_n hx hb dX1_draw_30 rfl (lv_at hl 1 rfl) ?_
        obtain ⟨hi31, hf⟩ := z_gx_some hf
        refine va_iald hx hb hK hP 3 0 rfl rfl hi31 dX1_draw_31 ?_
        obtain ⟨hi32, hf⟩ := z_gx_some hf
        refine va_iast hx hb hK hP hD hS 2 0 rfl rfl hi32 dX1_draw_32 (fun H locs hP hD hS => ?_)
        have hP : va_P (dC, dI) vwCl (wX1 cy h q2 q3 q6 q7 q10 c0 c1 c2 (upd c3 (x2).toNatClampNeg (c6 (x2).toNatClampNeg)) c4 c5 c6 c7 c8 c9 c10) H := hP
        have hD : va_D A (wX1 cy h q2 q3 q6 q7 q10 c0 c1 c2 (upd c3 (x2).toNatClampNeg (c6 (x2).toNatClampNeg)) c4 c5 c6 c7 c8 c9 c10) := hD
        refine lv_iinc (v := x2 + (1 : Int32)) (lv' := [(2, .int (x2 + (1 : Int32))), (0, .ref h)]) hx hb dX1_draw_33 hl (k := 1) rfl rfl (by decide) rfl (fun ls hl => ?_)
        refine lv_goto (tgt := 13) hx hb dX1_draw_36 (by decide) ?_
        exact ih (x2 + (1 : Int32)) (upd c3 (x2).toNatClampNeg (c6 (x2).toNatClampNeg)) c4 c5 c6 _ _ _ hf hP hD hS (lv_sub hl [1, 0] rfl)
  unfold f_X1_draw at hf
  refine lv_aload_n hx hb dX1_draw_0 rfl (lv_at hl 0 rfl) ?_
  refine lv_iload_n hx hb dX1_draw_1 rfl (lv_at hl 1 rfl) ?_
  obtain ⟨u2, hu2, hf⟩ := z_ob_some hf
  have hPc := hP.sub (ws' := (wX1 cy h q2 q3 q6 q7 q10 c0 c1 c2 c3 c4 c5 c6 c7 c8 c9 c10)) [0, 1, 2, 3, 4, 5] rfl
  have hDc := hD.sub (ws' := (wX1 cy h q2 q3 q6 q7 q10 c0 c1 c2 c3 c4 c5 c6 c7 c8 c9 c10)) [0, 1, 2, 3, 4, 5] (by decide) rfl
  have hKc := hK.sub (tys' := [(cy, .int)]) [0] rfl
  have hFc := va_free (wc := (wX1 cy h q2 q3 q6 q7 q10 c0 c1 c2 c3 c4 c5 c6 c7 c8 c9 c10)) hD hS hA [0, 1, 2, 3, 4, 5] rfl
  refine va_calli (va_runV (As := [.int a1]) (rest := []) ⟨hx, hb, hml, hown, hts⟩ (c_X1_goTo N l dC dI cy h q2 q3 q6 q7 q10 s.heap.size c0 c1 c2 c3 c4 c5 c6 c7 c8 c9 c10 a1 u2 hu2) (cwV 1 hts gX1_draw_X1_goTo rfl rfl rfl (by decide +kernel) ⟨Nat.le_of_ble_eq_true rfl, Nat.le_of_ble_eq_true rfl⟩) ⟨fun a U g mk q => by obtain ⟨q0, q1, qP, qK, qD⟩ := q; exact ⟨q0, q1, qP, va_K.moved (u := U) (U := U.calling g mk a) (Vm.Alike.refl U.vm) qK, qD⟩, va_recv hKc hPc (ci := 1) (q0 := 0) rfl rfl, fun U hU hW => ⟨rfl, by rw [hU], by rw [hU]; exact hPc, va_K.moved hW.alike hKc, hDc.weaken (fun _ _ _ _ => trivial)⟩⟩ rfl rfl hl.1 rfl (lv_room (Nat.le_of_ble_eq_true rfl)) dX1_draw_2 ⟨Nat.zero_le _, Nat.zero_le _⟩) hS (fun q _ h => hFc q h) hFc (fun r_2 uu_ t H1 locs ht hvm hw hB hz1 hk1 hS => ?_)
  replace hw := hw.symm
  subst hw
  obtain ⟨hP1, -, hD1⟩ := hB
  rw [ht] at hP1
  obtain ⟨hP, hD⟩ := va_join (wr := []) (w1 := (wX1 cy h q2 q3 q6 q7 q10 c0 c1 c2 c3 u2.2.1 u2.2.2.1 u2.2.2.2 c7 c8 c9 c10)) hP hD [0, 1, 2, 3, 4, 5] [] rfl rfl (by decide) (by decide) hk1 hFc hP1 hD1
  clear hk1 hz1 hP1 hD1 ht hPc hDc hFc
  generalize H1 = H at hP hS ⊢
  have hP : va_P (dC, dI) vwCl (wX1 cy h q2 q3 q6 q7 q10 c0 c1 c2 c3 u2.2.1 u2.2.2.1 u2.2.2.2 c7 c8 c9 c10) H := hP
  have hD : va_D A (wX1 cy h q2 q3 q6 q7 q10 c0 c1 c2 c3 u2.2.1 u2.2.2.1 u2.2.2.2 c7 c8 c9 c10) := hD
  refine lv_if_ne (tgt := 11) hx hb dX1_draw_5 (by decide) (fun c_5 => ?_) (fun c_5 => ?_)
  · replace hf := (if_neg c_5).symm.trans hf
    refine lv_iconst (v := (0 : Int32)) hx hb dX1_draw_11 (by decide) ?_
    refine lv_istore_n (lv' := [(2, .int (0 : Int32)), (0, .ref h), (1, .int a1)]) hx hb dX1_draw_12 rfl hl (by decide) rfl (fun ls hl => ?_)
    exact B13 N (0 : Int32) c3 u2.2.1 u2.2.2.1 u2.2.2.2 _ _ _ hf hP hD hS (lv_sub hl [1, 0] rfl)
  · replace hf := (if_pos c_5).symm.trans hf
    refine lv_bipush (v := (-5 : Int32)) hx hb dX1_draw_8 (by decide) ?_
    have hres := Option.some.inj hf
    subst hres
    have hP9 := hP.sub (ws' := (wX1 cy h q2 q3 q6 q7 q10 c0 c1 c2 c3 u2.2.1 u2.2.2.1 u2.2.2.2 c7 c8 c9 c10)) [0, 1, 2, 3, 4, 5] rfl
    have hD9 := hD.sub (ws' := (wX1 cy h q2 q3 q6 q7 q10 c0 c1 c2 c3 u2.2.1 u2.2.2.1 u2.2.2.2 c7 c8 c9 c10)) [0, 1, 2, 3, 4, 5] (by decide) rfl
    have hK9 := hK.sub (tys' := [(cy, .int)]) [0] rfl
    exact W.iret (v := (-5 : Int32)) hx hb hr (fun t ht hW => ⟨⟨(-5 : Int32), (), rfl, rfl, by rw [ht]; exact hP9, va_K.moved hW.alike hK9, hD9⟩, hS.F ht⟩) hS.2.2 dX1_draw_10

theorem dX1_handMany_0 : decode cX1_handMany 0 = .ok (.iconst 0, 1) := by decide +kernel
theorem dX1_handMany_1 : decode cX1_handMany 1 = .ok (.istore_n 1, 1) := by decide +kernel
theorem dX1_handMany_2 : decode cX1_handMany 2 = .ok (.iconst 0, 1) := by decide +kernel
theorem dX1_handMany_3 : decode cX1_handMany 3 = .ok (.istore_n 2, 1) := by decide +kernel
theorem dX1_handMany_4 : decode cX1_handMany 4 = .ok (.iload_n 2, 1) := by decide +kernel
theorem dX1_handMany_5 : decode cX1_handMany 5 = .ok (.aload_n 0, 1) := by decide +kernel
theorem dX1_handMany_6 : decode cX1_handMany 6 = .ok (.getfield 7, 3) := by decide +kernel
theorem dX1_handMany_9 : decode cX1_handMany 9 = .ok (.if_icmp .ge 26, 3) := by decide +kernel
theorem dX1_handMany_12 : decode cX1_handMany 12 = .ok (.iload_n 1, 1) := by decide +kernel
theorem dX1_handMany_13 : decode cX1_handMany 13 = .ok (.aload_n 0, 1) := by decide +kernel
theorem dX1_handMany_14 : decode cX1_handMany 14 = .ok (.getfield 20, 3) := by decide +kernel
theorem dX1_handMany_17 : decode cX1_handMany 17 = .ok (.iload_n 2, 1) := by decide +kernel
theorem dX1_handMany_18 : decode cX1_handMany 18 = .ok (.iaload, 1) := by decide +kernel
theorem dX1_handMany_19 : decode cX1_handMany 19 = .ok (.ifCond .lt 7, 3) := by decide +kernel
theorem dX1_handMany_22 : decode cX1_handMany 22 = .ok (.iconst 1, 1) := by decide +kernel
theorem dX1_handMany_23 : decode cX1_handMany 23 = .ok (.goto 4, 3) := by decide +kernel
theorem dX1_handMany_26 : decode cX1_handMany 26 = .ok (.iconst 0, 1) := by decide +kernel
theorem dX1_handMany_27 : decode cX1_handMany 27 = .ok (.iadd, 1) := by decide +kernel
theorem dX1_handMany_28 : decode cX1_handMany 28 = .ok (.istore_n 1, 1) := by decide +kernel
theorem dX1_handMany_29 : decode cX1_handMany 29 = .ok (.iinc 2 1, 3) := by decide +kernel
theorem dX1_handMany_32 : decode cX1_handMany 32 = .ok (.goto (-28), 3) := by decide +kernel
theorem dX1_handMany_35 : decode cX1_handMany 35 = .ok (.iload_n 1, 1) := by decide +kernel
theorem dX1_handMany_36 : decode cX1_handMany 36 = .ok (.ireturn, 1) := by decide +kernel
abbrev rm_X1_handMany : Room := { frames := 0, cells := 0, slots := 0, locals := 0 }
set_option maxHeartbeats 4000000 in
set_option maxRecDepth 100000 in
theorem c_X1_handMany (N : Nat) (l : Launch) (dC : Nat → ClassId) (dI : Nat → Nat → Nat) (cy : ClassId) (h q2 q3 q6 q7 q10 : Nat) (sz : Nat) (c0 : Int32) (c1 : Int32) (c2 : Nat → Int32) (c3 : Nat → Int32) (c4 : Int32) (c5 : Int32) (c6 : Nat → Int32) (c7 : Nat → Int32) (c8 : Int32) (c9 : Int32) (c10 : Nat → Int32) (res : Int32) (hf : f_X1_handMany N c0 c3 = some res) : Met l yX1_handMany wsX1_handMany rm_X1_handMany (va_Pc [.ref h] (fun U => U.heap.size = sz ∧ va_P (dC, dI) vwCl (wX1 cy h q2 q3 q6 q7 q10 c0 c1 c2 c3 c4 c5 c6 c7 c8 c9 c10) U.heap ∧ va_K (dC, dI) vwCl [(cy, .int)] U ∧ va_D (fun _ => True) (wX1 cy h q2 q3 q6 q7 q10 c0 c1 c2 c3 c4 c5 c6 c7 c8 c9 c10))) (z_qI dC dI cy res (wX1 cy h q2 q3 q6 q7 q10 c0 c1 c2 c3 c4 c5 c6 c7 c8 c9 c10) (va_A (wX1 cy h q2 q3 q6 q7 q10 c0 c1 c2 c3 c4 c5 c6 c7 c8 c9 c10) sz)) 0 0 (va_A (wX1 cy h q2 q3 q6 q7 q10 c0 c1 c2 c3 c4 c5 c6 c7 c8 c9 c10) sz) := by
  refine Met.ofW (cc := cX1_handMany) (maxL := 3) (ret := (some .int)) (by decide) rfl ?_
  intro p e s m args below meth c s₁ B hml hv
  obtain ⟨rfl, hsz, hP, hK, hD0⟩ := hv
  have hx := B.exec
  have hb := B.bytes
  have hr := B.returns
  have hts := atoms_spec (ws := wsX1_handMany) B.pre
  have hown : s.vm.findClass RX1 = some m.cls := findClass_of_methodNamed B.named
  have hlocks := B.notSynchronized
  subst hsz
  have hD := hD0.self (sz := s.heap.size)
  generalize hAe : va_A (wX1 cy h q2 q3 q6 q7 q10 c0 c1 c2 c3 c4 c5 c6 c7 c8 c9 c10) s.heap.size = A at hD ⊢
  have hA : ∀ q : Nat, s.heap.size ≤ q → A q := fun q h => by rw [← hAe]; exact Or.inr h
  have hS : va_S A s.heap s.heap [] := va_S.rf
  have hP : va_P (dC, dI) vwCl (wX1 cy h q2 q3 q6 q7 q10 c0 c1 c2 c3 c4 c5 c6 c7 c8 c9 c10) s.heap := hP
  have hl := lv_entry ([.ref h]) (n := 3) (Nat.le_of_ble_eq_true rfl)
  rw [lg_entry_eq]
  generalize (lg_sl ([.ref h]) ++ List.replicate (3 - (lg_sl ([.ref h])).length) Slot.unset).toArray = ls at hl ⊢
  have hl : lv_has ls 3 [(0, .ref h)] := hl
  have B27 : ∀ (r4 : Int32 → Int32 → Option (Int32)), (∀ (x1 x2 : Int32) (H : Heap) (locs : List Loc) (ls : Array Slot), r4 x1 x2 = some res → va_P (dC, dI) vwCl (wX1 cy h q2 q3 q6 q7 q10 c0 c1 c2 c3 c4 c5 c6 c7 c8 c9 c10) H → va_D A (wX1 cy h q2 q3 q6 q7 q10 c0 c1 c2 c3 c4 c5 c6 c7 c8 c9 c10) → va_S A s.heap H locs → lv_has ls 3 [(0, .ref h), (1, .int x1), (2, .int x2)] → W p l e rm_X1_handMany s m ([.ref h] : List Value).toArray below meth c H locs 0 0 (MQ below (z_qI dC dI cy res (wX1 cy h q2 q3 q6 q7 q10 c0 c1 c2 c3 c4 c5 c6 c7 c8 c9 c10) A) ([.ref h] : List Value).toArray s 0 0 A) (F0 m 4 ls [])) → ∀ (x2 t0 t1 : Int32) (H : Heap) (locs : List Loc) (ls : Array Slot), f_X1_handMany_b27 N c0 c3 r4 x2 t0 t1 = some res → va_P (dC, dI) vwCl (wX1 cy h q2 q3 q6 q7 q10 c0 c1 c2 c3 c4 c5 c6 c7 c8 c9 c10) H → va_D A (wX1 cy h q2 q3 q6 q7 q10 c0 c1 c2 c3 c4 c5 c6 c7 c8 c9 c10) → va_S A s.heap H locs → lv_has ls 3 [(0, .ref h), (2, .int x2)] → W p l e rm_X1_handMany s m ([.ref h] : List Value).toArray below meth c H locs 0 0 (MQ below (z_qI dC dI cy res (wX1 cy h q2 q3 q6 q7 q10 c0 c1 c2 c3 c4 c5 c6 c7 c8 c9 c10) A) ([.ref h] : List Value).toArray s 0 0 A) (F0 m 27 ls [.int t1, .int t0]) := by
    clear hf hl hP hD hS
    intro r4 hr4
    intro x2 t0 t1 H locs ls hf hP hD hS hl
    unfold f_X1_handMany_b27 at hf
    refine lv_iadd hx hb dX1_handMany_27 ?_
    refine lv_istore_n (lv' := [(1, .int (t0 + t1)), (0, .ref h), (2, .int x2)]) hx hb dX1_handMany_28 rfl hl (by decide) rfl (fun ls hl => ?_)
    refine lv_iinc (v := x2 + (1 : Int32)) (lv' := [(2, .int (x2 + (1 : Int32))), (1, .int (t0 + t1)), (0, .ref h)]) hx hb dX1_handMany_29 hl (k := 2) rfl rfl (by decide) rfl (fun ls hl => ?_)
    refine lv_goto (tgt := 4) hx hb dX1_handMany_32 (by decide) ?_
    exact hr4 (t0 + t1) (x2 + (1 : Int32)) _ _ _ hf hP hD hS (lv_sub hl [2, 1, 0] rfl)
  have B4 : ∀ n : Nat, ∀ (x1 x2 : Int32) (H : Heap) (locs : List Loc) (ls : Array Slot), f_X1_handMany_b4 N c0 c3 n x1 x2 = some res → va_P (dC, dI) vwCl (wX1 cy h q2 q3 q6 q7 q10 c0 c1 c2 c3 c4 c5 c6 c7 c8 c9 c10) H → va_D A (wX1 cy h q2 q3 q6 q7 q10 c0 c1 c2 c3 c4 c5 c6 c7 c8 c9 c10) → va_S A s.heap H locs → lv_has ls 3 [(0, .ref h), (1, .int x1), (2, .int x2)] → W p l e rm_X1_handMany s m ([.ref h] : List Value).toArray below meth c H locs 0 0 (MQ below (z_qI dC dI cy res (wX1 cy h q2 q3 q6 q7 q10 c0 c1 c2 c3 c4 c5 c6 c7 c8 c9 c10) A) ([.ref h] : List Value).toArray s 0 0 A) (F0 m 4 ls []) := by
    clear hf hl hP hD hS
    intro n
    induction n with
    | zero =>
      intro x1 x2 H locs ls hf hP hD hS hl
      rw [f_X1_handMany_b4] at hf
      cases hf
    | succ n ih =>
      intro x1 x2 H locs ls hf hP hD hS hl
      rw [f_X1_handMany_b4] at hf
      refine lv_iload_n hx hb dX1_handMany_4 rfl (lv_at hl 2 rfl) ?_
      refine lv_aload_n hx hb dX1_handMany_5 rfl (lv_at hl 0 rfl) ?_
      refine va_get (D := (dC, dI)) (ci := 1) (v := .int c0) (C := RX1) (T := TX1) (N := 11) hx hb hts (by decide +kernel) hown hK hP 0 rfl rfl 0 (by decide) (hts (.fieldLink RX1 7 "GiftLotsModel" "ones" "I") (by decide +kernel)) (fun _ h9 => h9) rfl dX1_handMany_6 ?_
      refine lv_icmp_ge (tgt := 35) hx hb dX1_handMany_9 (by decide) (fun c_9 => ?_) (fun c_9 => ?_)
      · replace hf := (if_pos c_9).symm.trans hf
        refine lv_iload_n hx hb dX1_handMany_35 rfl (lv_at hl 1 rfl) ?_
        have hres := Option.some.inj hf
        subst hres
        have hP9 := hP.sub (ws' := (wX1 cy h q2 q3 q6 q7 q10 c0 c1 c2 c3 c4 c5 c6 c7 c8 c9 c10)) [0, 1, 2, 3, 4, 5] rfl
        have hD9 := hD.sub (ws' := (wX1 cy h q2 q3 q6 q7 q10 c0 c1 c2 c3 c4 c5 c6 c7 c8 c9 c10)) [0, 1, 2, 3, 4, 5] (by decide) rfl
        have hK9 := hK.sub (tys' := [(cy, .int)]) [0] rfl
        exact W.iret (v := x1) hx hb hr (fun t ht hW => ⟨⟨x1, (), rfl, rfl, by rw [ht]; exact hP9, va_K.moved hW.alike hK9, hD9⟩, hS.F ht⟩) hS.2.2 dX1_handMany_36
      · replace hf := (if_neg c_9).symm.trans hf
        refine lv_iload_n hx hb dX1_handMany_12 rfl (lv_at hl 1 rfl) ?_
        refine lv_aload_n hx hb dX1_handMany_13 rfl (lv_at hl 0 rfl) ?_
        refine va_get (D := (dC, dI)) (ci := 1) (v := .ref q3) (C := RX1) (T := TX1) (N := 11) hx hb hts (by decide +kernel) hown hK hP 0 rfl rfl 3 (by decide) (hts (.fieldLink RX1 20 "GiftLotsModel" "hand" "[I") (by decide +kernel)) (fun _ h9 => h9) rfl dX1_handMany_14 ?_
        refine lv_iload_n hx hb dX1_handMany_17 rfl (lv_at hl 2 rfl) ?_
        obtain ⟨hi18, hf⟩ := z_gx_some hf
        refine va_iald hx hb hK hP 2 0 rfl rfl hi18 dX1_handMany_18 ?_
        refine lv_if_lt (tgt := 26) hx hb dX1_handMany_19 (by decide) (fun c_19 => ?_) (fun c_19 => ?_)
        · replace hf := (if_pos c_19).symm.trans hf
          refine lv_iconst (v := (0 : Int32)) hx hb dX1_handMany_26 (by decide) ?_
          exact B27 (f_X1_handMany_b4 N c0 c3 n) ih x2 x1 (0 : Int32) _ _ _ hf hP hD hS (lv_sub hl [0, 2] rfl)
        · replace hf := (if_neg c_19).symm.trans hf
          refine lv_iconst (v := (1 : Int32)) hx hb dX1_handMany_22 (by decide) ?_
          refine lv_goto (tgt := 27) hx hb dX1_handMany_23 (by decide) ?_
          exact B27 (f_X1_handMany_b4 N c0 c3 n) ih x2 x1 (1 : Int32) _ _ _ hf hP hD hS (lv_sub hl [0, 2] rfl)
  unfold f_X1_handMany at hf
  refine lv_iconst (v := (0 : Int32)) hx hb dX1_handMany_0 (by decide) ?_
  refine lv_istore_n (lv' := [(1, .int (0 : Int32)), (0, .ref h)]) hx hb dX1_handMany_1 rfl hl (by decide) rfl (fun ls hl => ?_)
  refine lv_iconst (v := (0 : Int32)) hx hb dX1_handMany_2 (by decide) ?_
  refine lv_istore_n (lv' := [(2, .int (0 : Int32)), (1, .int (0 : Int32)), (0, .ref h)]) hx hb dX1_handMany_3 rfl hl (by decide) rfl (fun ls hl => ?_)
  exact B4 N (0 : Int32) (0 : Int32) _ _ _ hf hP hD hS (lv_sub hl [2, 1, 0] rfl)

theorem dX1_agrees_0 : decode cX1_agrees 0 = .ok (.iconst 1, 1) := by decide +kernel
theorem dX1_agrees_1 : decode cX1_agrees 1 = .ok (.istore_n 2, 1) := by decide +kernel
theorem dX1_agrees_2 : decode cX1_agrees 2 = .ok (.iconst 0, 1) := by decide +kernel
theorem dX1_agrees_3 : decode cX1_agrees 3 = .ok (.istore_n 3, 1) := by decide +kernel
theorem dX1_agrees_4 : decode cX1_agrees 4 = .ok (.iload_n 3, 1) := by decide +kernel
theorem dX1_agrees_5 : decode cX1_agrees 5 = .ok (.iload_n 1, 1) := by decide +kernel
theorem dX1_agrees_6 : decode cX1_agrees 6 = .ok (.if_icmp .ge 34, 3) := by decide +kernel
theorem dX1_agrees_9 : decode cX1_agrees 9 = .ok (.iload_n 2, 1) := by decide +kernel
theorem dX1_agrees_10 : decode cX1_agrees 10 = .ok (.ifCond .eq 22, 3) := by decide +kernel
theorem dX1_agrees_13 : decode cX1_agrees 13 = .ok (.aload_n 0, 1) := by decide +kernel
theorem dX1_agrees_14 : decode cX1_agrees 14 = .ok (.getfield 23, 3) := by decide +kernel
theorem dX1_agrees_17 : decode cX1_agrees 17 = .ok (.iload_n 3, 1) := by decide +kernel
theorem dX1_agrees_18 : decode cX1_agrees 18 = .ok (.iaload, 1) := by decide +kernel
theorem dX1_agrees_19 : decode cX1_agrees 19 = .ok (.aload_n 0, 1) := by decide +kernel
theorem dX1_agrees_20 : decode cX1_agrees 20 = .ok (.getfield 20, 3) := by decide +kernel
theorem dX1_agrees_23 : decode cX1_agrees 23 = .ok (.iload_n 3, 1) := by decide +kernel
theorem dX1_agrees_24 : decode cX1_agrees 24 = .ok (.iaload, 1) := by decide +kernel
theorem dX1_agrees_25 : decode cX1_agrees 25 = .ok (.if_icmp .ne 7, 3) := by decide +kernel
theorem dX1_agrees_28 : decode cX1_agrees 28 = .ok (.iconst 1, 1) := by decide +kernel
theorem dX1_agrees_29 : decode cX1_agrees 29 = .ok (.goto 4, 3) := by decide +kernel
theorem dX1_agrees_32 : decode cX1_agrees 32 = .ok (.iconst 0, 1) := by decide +kernel
theorem dX1_agrees_33 : decode cX1_agrees 33 = .ok (.istore_n 2, 1) := by decide +kernel
theorem dX1_agrees_34 : decode cX1_agrees 34 = .ok (.iinc 3 1, 3) := by decide +kernel
theorem dX1_agrees_37 : decode cX1_agrees 37 = .ok (.goto (-33), 3) := by decide +kernel
theorem dX1_agrees_40 : decode cX1_agrees 40 = .ok (.iload_n 2, 1) := by decide +kernel
theorem dX1_agrees_41 : decode cX1_agrees 41 = .ok (.ireturn, 1) := by decide +kernel
abbrev rm_X1_agrees : Room := { frames := 0, cells := 0, slots := 0, locals := 0 }
set_option maxHeartbeats 4000000 in
set_option maxRecDepth 100000 in
theorem c_X1_agrees (N : Nat) (l : Launch) (dC : Nat → ClassId) (dI : Nat → Nat → Nat) (cy : ClassId) (h q2 q3 q6 q7 q10 : Nat) (sz : Nat) (c0 : Int32) (c1 : Int32) (c2 : Nat → Int32) (c3 : Nat → Int32) (c4 : Int32) (c5 : Int32) (c6 : Nat → Int32) (c7 : Nat → Int32) (c8 : Int32) (c9 : Int32) (c10 : Nat → Int32) (a1 : Int32) (res : Int32) (hf : f_X1_agrees N a1 c3 c6 = some res) : Met l yX1_agrees wsX1_agrees rm_X1_agrees (va_Pc [.ref h, .int a1] (fun U => U.heap.size = sz ∧ va_P (dC, dI) vwCl (wX1 cy h q2 q3 q6 q7 q10 c0 c1 c2 c3 c4 c5 c6 c7 c8 c9 c10) U.heap ∧ va_K (dC, dI) vwCl [(cy, .int)] U ∧ va_D (fun _ => True) (wX1 cy h q2 q3 q6 q7 q10 c0 c1 c2 c3 c4 c5 c6 c7 c8 c9 c10))) (z_qI dC dI cy res (wX1 cy h q2 q3 q6 q7 q10 c0 c1 c2 c3 c4 c5 c6 c7 c8 c9 c10) (va_A (wX1 cy h q2 q3 q6 q7 q10 c0 c1 c2 c3 c4 c5 c6 c7 c8 c9 c10) sz)) 0 0 (va_A (wX1 cy h q2 q3 q6 q7 q10 c0 c1 c2 c3 c4 c5 c6 c7 c8 c9 c10) sz) := by
  refine Met.ofW (cc := cX1_agrees) (maxL := 4) (ret := (some .boolean)) (by decide) rfl ?_
  intro p e s m args below meth c s₁ B hml hv
  obtain ⟨rfl, hsz, hP, hK, hD0⟩ := hv
  have hx := B.exec
  have hb := B.bytes
  have hr := B.returns
  have hts := atoms_spec (ws := wsX1_agrees) B.pre
  have hown : s.vm.findClass RX1 = some m.cls := findClass_of_methodNamed B.named
  have hlocks := B.notSynchronized
  subst hsz
  have hD := hD0.self (sz := s.heap.size)
  generalize hAe : va_A (wX1 cy h q2 q3 q6 q7 q10 c0 c1 c2 c3 c4 c5 c6 c7 c8 c9 c10) s.heap.size = A at hD ⊢
  have hA : ∀ q : Nat, s.heap.size ≤ q → A q := fun q h => by rw [← hAe]; exact Or.inr h
  have hS : va_S A s.heap s.heap [] := va_S.rf
  have hP : va_P (dC, dI) vwCl (wX1 cy h q2 q3 q6 q7 q10 c0 c1 c2 c3 c4 c5 c6 c7 c8 c9 c10) s.heap := hP
  have hl := lv_entry ([.ref h, .int a1]) (n := 4) (Nat.le_of_ble_eq_true rfl)
  rw [lg_entry_eq]
  generalize (lg_sl ([.ref h, .int a1]) ++ List.replicate (4 - (lg_sl ([.ref h, .int a1])).length) Slot.unset).toArray = ls at hl ⊢
  have hl : lv_has ls 4 [(0, .ref h), (1, .int a1)] := hl
  have B33 : ∀ (r4 : Int32 → Int32 → Int32 → Option (Int32)), (∀ (x1 x2 x3 : Int32) (H : Heap) (locs : List Loc) (ls : Array Slot), r4 x1 x2 x3 = some res → va_P (dC, dI) vwCl (wX1 cy h q2 q3 q6 q7 q10 c0 c1 c2 c3 c4 c5 c6 c7 c8 c9 c10) H → va_D A (wX1 cy h q2 q3 q6 q7 q10 c0 c1 c2 c3 c4 c5 c6 c7 c8 c9 c10) → va_S A s.heap H locs → lv_has ls 4 [(0, .ref h), (1, .int x1), (2, .int x2), (3, .int x3)] → W p l e rm_X1_agrees s m ([.ref h, .int a1] : List Value).toArray below meth c H locs 0 0 (MQ below (z_qI dC dI cy res (wX1 cy h q2 q3 q6 q7 q10 c0 c1 c2 c3 c4 c5 c6 c7 c8 c9 c10) A) ([.ref h, .int a1] : List Value).toArray s 0 0 A) (F0 m 4 ls [])) → ∀ (x1 x3 t0 : Int32) (H : Heap) (locs : List Loc) (ls : Array Slot), f_X1_agrees_b33 N c3 c6 r4 x1 x3 t0 = some res → va_P (dC, dI) vwCl (wX1 cy h q2 q3 q6 q7 q10 c0 c1 c2 c3 c4 c5 c6 c7 c8 c9 c10) H → va_D A (wX1 cy h q2 q3 q6 q7 q10 c0 c1 c2 c3 c4 c5 c6 c7 c8 c9 c10) → va_S A s.heap H locs → lv_has ls 4 [(0, .ref h), (1, .int x1), (3, .int x3)] → W p l e rm_X1_agrees s m ([.ref h, .int a1] : List Value).toArray below meth c H locs 0 0 (MQ below (z_qI dC dI cy res (wX1 cy h q2 q3 q6 q7 q10 c0 c1 c2 c3 c4 c5 c6 c7 c8 c9 c10) A) ([.ref h, .int a1] : List Value).toArray s 0 0 A) (F0 m 33 ls [.int t0]) := by
    clear hf hl hP hD hS
    intro r4 hr4
    intro x1 x3 t0 H locs ls hf hP hD hS hl
    unfold f_X1_agrees_b33 at hf
    refine lv_istore_n (lv' := [(2, .int t0), (0, .ref h), (1, .int x1), (3, .int x3)]) hx hb dX1_agrees_33 rfl hl (by decide) rfl (fun ls hl => ?_)
    refine lv_iinc (v := x3 + (1 : Int32)) (lv' := [(3, .int (x3 + (1 : Int32))), (2, .int t0), (0, .ref h), (1, .int x1)]) hx hb dX1_agrees_34 hl (k := 3) rfl rfl (by decide) rfl (fun ls hl => ?_)
    refine lv_goto (tgt := 4) hx hb dX1_agrees_37 (by decide) ?_
    exact hr4 x1 t0 (x3 + (1 : Int32)) _ _ _ hf hP hD hS (lv_sub hl [2, 3, 1, 0] rfl)
  have B32 : ∀ (r4 : Int32 → Int32 → Int32 → Option (Int32)), (∀ (x1 x2 x3 : Int32) (H : Heap) (locs : List Loc) (ls : Array Slot), r4 x1 x2 x3 = some res → va_P (dC, dI) vwCl (wX1 cy h q2 q3 q6 q7 q10 c0 c1 c2 c3 c4 c5 c6 c7 c8 c9 c10) H → va_D A (wX1 cy h q2 q3 q6 q7 q10 c0 c1 c2 c3 c4 c5 c6 c7 c8 c9 c10) → va_S A s.heap H locs → lv_has ls 4 [(0, .ref h), (1, .int x1), (2, .int x2), (3, .int x3)] → W p l e rm_X1_agrees s m ([.ref h, .int a1] : List Value).toArray below meth c H locs 0 0 (MQ below (z_qI dC dI cy res (wX1 cy h q2 q3 q6 q7 q10 c0 c1 c2 c3 c4 c5 c6 c7 c8 c9 c10) A) ([.ref h, .int a1] : List Value).toArray s 0 0 A) (F0 m 4 ls [])) → ∀ (x1 x3 : Int32) (H : Heap) (locs : List Loc) (ls : Array Slot), f_X1_agrees_b32 N c3 c6 r4 x1 x3 = some res → va_P (dC, dI) vwCl (wX1 cy h q2 q3 q6 q7 q10 c0 c1 c2 c3 c4 c5 c6 c7 c8 c9 c10) H → va_D A (wX1 cy h q2 q3 q6 q7 q10 c0 c1 c2 c3 c4 c5 c6 c7 c8 c9 c10) → va_S A s.heap H locs → lv_has ls 4 [(0, .ref h), (1, .int x1), (3, .int x3)] → W p l e rm_X1_agrees s m ([.ref h, .int a1] : List Value).toArray below meth c H locs 0 0 (MQ below (z_qI dC dI cy res (wX1 cy h q2 q3 q6 q7 q10 c0 c1 c2 c3 c4 c5 c6 c7 c8 c9 c10) A) ([.ref h, .int a1] : List Value).toArray s 0 0 A) (F0 m 32 ls []) := by
    clear hf hl hP hD hS
    intro r4 hr4
    intro x1 x3 H locs ls hf hP hD hS hl
    unfold f_X1_agrees_b32 at hf
    refine lv_iconst (v := (0 : Int32)) hx hb dX1_agrees_32 (by decide) ?_
    exact B33 r4 hr4 x1 x3 (0 : Int32) _ _ _ hf hP hD hS (lv_sub hl [0, 1, 2] rfl)
  have B4 : ∀ n : Nat, ∀ (x1 x2 x3 : Int32) (H : Heap) (locs : List Loc) (ls : Array Slot), f_X1_agrees_b4 N c3 c6 n x1 x2 x3 = some res → va_P (dC, dI) vwCl (wX1 cy h q2 q3 q6 q7 q10 c0 c1 c2 c3 c4 c5 c6 c7 c8 c9 c10) H → va_D A (wX1 cy h q2 q3 q6 q7 q10 c0 c1 c2 c3 c4 c5 c6 c7 c8 c9 c10) → va_S A s.heap H locs → lv_has ls 4 [(0, .ref h), (1, .int x1), (2, .int x2), (3, .int x3)] → W p l e rm_X1_agrees s m ([.ref h, .int a1] : List Value).toArray below meth c H locs 0 0 (MQ below (z_qI dC dI cy res (wX1 cy h q2 q3 q6 q7 q10 c0 c1 c2 c3 c4 c5 c6 c7 c8 c9 c10) A) ([.ref h, .int a1] : List Value).toArray s 0 0 A) (F0 m 4 ls []) := by
    clear hf hl hP hD hS
    intro n
    induction n with
    | zero =>
      intro x1 x2 x3 H locs ls hf hP hD hS hl
      rw [f_X1_agrees_b4] at hf
      cases hf
    | succ n ih =>
      intro x1 x2 x3 H locs ls hf hP hD hS hl
      rw [f_X1_agrees_b4] at hf
      refine lv_iload_n hx hb dX1_agrees_4 rfl (lv_at hl 3 rfl) ?_
      refine lv_iload_n hx hb dX1_agrees_5 rfl (lv_at hl 1 rfl) ?_
      refine lv_icmp_ge (tgt := 40) hx hb dX1_agrees_6 (by decide) (fun c_6 => ?_) (fun c_6 => ?_)
      · replace hf := (if_pos c_6).symm.trans hf
        refine lv_iload_n hx hb dX1_agrees_40 rfl (lv_at hl 2 rfl) ?_
        obtain ⟨hb41, hf⟩ := z_gb_some hf
        have hres := Option.some.inj hf
        subst hres
        have hP9 := hP.sub (ws' := (wX1 cy h q2 q3 q6 q7 q10 c0 c1 c2 c3 c4 c5 c6 c7 c8 c9 c10)) [0, 1, 2, 3, 4, 5] rfl
        have hD9 := hD.sub (ws' := (wX1 cy h q2 q3 q6 q7 q10 c0 c1 c2 c3 c4 c5 c6 c7 c8 c9 c10)) [0, 1, 2, 3, 4, 5] (by decide) rfl
        have hK9 := hK.sub (tys' := [(cy, .int)]) [0] rfl
        exact W.zret (v := x2) hx hb hr (z_gb_nar hb41) (fun t ht hW => ⟨⟨x2, (), rfl, rfl, by rw [ht]; exact hP9, va_K.moved hW.alike hK9, hD9⟩, hS.F ht⟩) hS.2.2 dX1_agrees_41
      · replace hf := (if_neg c_6).symm.trans hf
        refine lv_iload_n hx hb dX1_agrees_9 rfl (lv_at hl 2 rfl) ?_
        refine lv_if_eq (tgt := 32) hx hb dX1_agrees_10 (by decide) (fun c_10 => ?_) (fun c_10 => ?_)
        · replace hf := (if_pos c_10).symm.trans hf
          exact B32 (f_X1_agrees_b4 N c3 c6 n) ih x1 x3 _ _ _ hf hP hD hS (lv_sub hl [0, 1, 3] rfl)
        · replace hf := (if_neg c_10).symm.trans hf
          refine lv_aload_n hx hb dX1_agrees_13 rfl (lv_at hl 0 rfl) ?_
          refine va_get (D := (dC, dI)) (ci := 1) (v := .ref q6) (C := RX1) (T := TX1) (N := 11) hx hb hts (by decide +kernel) hown hK hP 0 rfl rfl 6 (by decide) (hts (.fieldLink RX1 23 "GiftLotsModel" "gives" "[I") (by decide +kernel)) (fun _ h9 => h9) rfl dX1_agrees_14 ?_
          refine lv_iload_n hx hb dX1_agrees_17 rfl (lv_at hl 3 rfl) ?_
          obtain ⟨hi18, hf⟩ := z_gx_some hf
          refine va_iald hx hb hK hP 3 0 rfl rfl hi18 dX1_agrees_18 ?_
          refine lv_aload_n hx hb dX1_agrees_19 rfl (lv_at hl 0 rfl) ?_
          refine va_get (D := (dC, dI)) (ci := 1) (v := .ref q3) (C := RX1) (T := TX1) (N := 11) hx hb hts (by decide +kernel) hown hK hP 0 rfl rfl 3 (by decide) (hts (.fieldLink RX1 20 "GiftLotsModel" "hand" "[I") (by decide +kernel)) (fun _ h9 => h9) rfl dX1_agrees_20 ?_
          refine lv_iload_n hx hb dX1_agrees_23 rfl (lv_at hl 3 rfl) ?_
          obtain ⟨hi24, hf⟩ := z_gx_some hf
          refine va_iald hx hb hK hP 2 0 rfl rfl hi24 dX1_agrees_24 ?_
          refine lv_icmp_ne (tgt := 32) hx hb dX1_agrees_25 (by decide) (fun c_25 => ?_) (fun c_25 => ?_)
          · replace hf := (if_neg c_25).symm.trans hf
            exact B32 (f_X1_agrees_b4 N c3 c6 n) ih x1 x3 _ _ _ hf hP hD hS (lv_sub hl [0, 1, 3] rfl)
          · replace hf := (if_pos c_25).symm.trans hf
            refine lv_iconst (v := (1 : Int32)) hx hb dX1_agrees_28 (by decide) ?_
            refine lv_goto (tgt := 33) hx hb dX1_agrees_29 (by decide) ?_
            exact B33 (f_X1_agrees_b4 N c3 c6 n) ih x1 x3 (1 : Int32) _ _ _ hf hP hD hS (lv_sub hl [0, 1, 3] rfl)
  unfold f_X1_agrees at hf
  refine lv_iconst (v := (1 : Int32)) hx hb dX1_agrees_0 (by decide) ?_
  refine lv_istore_n (lv' := [(2, .int (1 : Int32)), (0, .ref h), (1, .int a1)]) hx hb dX1_agrees_1 rfl hl (by decide) rfl (fun ls hl => ?_)
  refine lv_iconst (v := (0 : Int32)) hx hb dX1_agrees_2 (by decide) ?_
  refine lv_istore_n (lv' := [(3, .int (0 : Int32)), (2, .int (1 : Int32)), (0, .ref h), (1, .int a1)]) hx hb dX1_agrees_3 rfl hl (by decide) rfl (fun ls hl => ?_)
  exact B4 N a1 (1 : Int32) (0 : Int32) _ _ _ hf hP hD hS (lv_sub hl [2, 3, 1, 0] rfl)

set_option maxRecDepth 20000 in
theorem ggX1_rank_X1_handMany : GoodIn wsX1_rank wsX1_handMany := goodIn_r _ [6, 1, 7, 48, 49, 50, 51, 52, 53, 54, 55, 56, 57, 58] (by decide +kernel) (by decide +kernel)
set_option maxRecDepth 20000 in
theorem gX1_rank_X1_handMany : GoodIn wsX1_rank (wsV RX1 91 RX1 yX1_handMany wsX1_handMany) := goodIn_app (goodIn_of _ (by decide +kernel)) ggX1_rank_X1_handMany
set_option maxRecDepth 20000 in
theorem ggX1_rank_X1_all : GoodIn wsX1_rank wsX1_all := goodIn_r _ [11, 1, 48, 49, 50, 51, 52, 53, 54, 55, 56, 57, 58] (by decide +kernel) (by decide +kernel)
set_option maxRecDepth 20000 in
theorem gX1_rank_X1_all : GoodIn wsX1_rank (wsV RX1 69 RX1 yX1_all wsX1_all) := goodIn_app (goodIn_of _ (by decide +kernel)) ggX1_rank_X1_all
set_option maxRecDepth 20000 in
theorem ggX1_rank_X1_start : GoodIn wsX1_rank wsX1_start := goodIn_r _ [15, 16, 17, 18, 48, 49, 50, 51, 52, 53, 54, 55, 56, 57, 58] (by decide +kernel) (by decide +kernel)
set_option maxRecDepth 20000 in
theorem gX1_rank_X1_start : GoodIn wsX1_rank (wsV RX1 72 RX1 yX1_start wsX1_start) := goodIn_app (goodIn_of _ (by decide +kernel)) ggX1_rank_X1_start
set_option maxRecDepth 20000 in
theorem ggX1_rank_X1_next : GoodIn wsX1_rank wsX1_next := goodIn_r _ [22, 1, 18, 23, 16, 17, 24, 25, 26, 5, 27, 28, 29, 30, 31, 32, 33, 34, 35, 36, 37, 38, 39, 40, 41, 42, 43, 48, 49, 50, 51, 52, 53, 54, 55, 56, 57, 58] (by decide +kernel) (by decide +kernel)
set_option maxRecDepth 20000 in
theorem gX1_rank_X1_next : GoodIn wsX1_rank (wsV RX1 76 RX1 yX1_next wsX1_next) := goodIn_app (goodIn_of _ (by decide +kernel)) ggX1_rank_X1_next
set_option maxRecDepth 20000 in
theorem ggX1_rank_X1_agrees : GoodIn wsX1_rank wsX1_agrees := goodIn_r _ [47, 18, 7, 48, 49, 50, 51, 52, 53, 54, 55, 56, 57, 58] (by decide +kernel) (by decide +kernel)
set_option maxRecDepth 20000 in
theorem gX1_rank_X1_agrees : GoodIn wsX1_rank (wsV RX1 94 RX1 yX1_agrees wsX1_agrees) := goodIn_app (goodIn_of _ (by decide +kernel)) ggX1_rank_X1_agrees
theorem dX1_rank_0 : decode cX1_rank 0 = .ok (.aload_n 0, 1) := by decide +kernel
theorem dX1_rank_1 : decode cX1_rank 1 = .ok (.invokevirtual 91, 3) := by decide +kernel
theorem dX1_rank_4 : decode cX1_rank 4 = .ok (.aload_n 0, 1) := by decide +kernel
theorem dX1_rank_5 : decode cX1_rank 5 = .ok (.getfield 7, 3) := by decide +kernel
theorem dX1_rank_8 : decode cX1_rank 8 = .ok (.if_icmp .ge 6, 3) := by decide +kernel
theorem dX1_rank_11 : decode cX1_rank 11 = .ok (.bipush (-3), 2) := by decide +kernel
theorem dX1_rank_13 : decode cX1_rank 13 = .ok (.ireturn, 1) := by decide +kernel
theorem dX1_rank_14 : decode cX1_rank 14 = .ok (.aload_n 0, 1) := by decide +kernel
theorem dX1_rank_15 : decode cX1_rank 15 = .ok (.aload_n 0, 1) := by decide +kernel
theorem dX1_rank_16 : decode cX1_rank 16 = .ok (.invokevirtual 69, 3) := by decide +kernel
theorem dX1_rank_19 : decode cX1_rank 19 = .ok (.iconst 0, 1) := by decide +kernel
theorem dX1_rank_20 : decode cX1_rank 20 = .ok (.invokevirtual 72, 3) := by decide +kernel
theorem dX1_rank_23 : decode cX1_rank 23 = .ok (.iconst 0, 1) := by decide +kernel
theorem dX1_rank_24 : decode cX1_rank 24 = .ok (.istore_n 1, 1) := by decide +kernel
theorem dX1_rank_25 : decode cX1_rank 25 = .ok (.aload_n 0, 1) := by decide +kernel
theorem dX1_rank_26 : decode cX1_rank 26 = .ok (.invokevirtual 76, 3) := by decide +kernel
theorem dX1_rank_29 : decode cX1_rank 29 = .ok (.ifCond .eq 22, 3) := by decide +kernel
theorem dX1_rank_32 : decode cX1_rank 32 = .ok (.aload_n 0, 1) := by decide +kernel
theorem dX1_rank_33 : decode cX1_rank 33 = .ok (.aload_n 0, 1) := by decide +kernel
theorem dX1_rank_34 : decode cX1_rank 34 = .ok (.getfield 7, 3) := by decide +kernel
theorem dX1_rank_37 : decode cX1_rank 37 = .ok (.invokevirtual 94, 3) := by decide +kernel
theorem dX1_rank_40 : decode cX1_rank 40 = .ok (.ifCond .eq 5, 3) := by decide +kernel
theorem dX1_rank_43 : decode cX1_rank 43 = .ok (.iload_n 1, 1) := by decide +kernel
theorem dX1_rank_44 : decode cX1_rank 44 = .ok (.ireturn, 1) := by decide +kernel
theorem dX1_rank_45 : decode cX1_rank 45 = .ok (.iinc 1 1, 3) := by decide +kernel
theorem dX1_rank_48 : decode cX1_rank 48 = .ok (.goto (-23), 3) := by decide +kernel
theorem dX1_rank_51 : decode cX1_rank 51 = .ok (.bipush (-5), 2) := by decide +kernel
theorem dX1_rank_53 : decode cX1_rank 53 = .ok (.ireturn, 1) := by decide +kernel
abbrev rm_X1_rank : Room := { frames := 3, cells := 0, slots := 0, locals := 70 }
set_option maxHeartbeats 4000000 in
set_option maxRecDepth 100000 in
theorem c_X1_rank (N : Nat) (l : Launch) (dC : Nat → ClassId) (dI : Nat → Nat → Nat) (cy : ClassId) (h q2 q3 q6 q7 q10 : Nat) (sz : Nat) (c0 : Int32) (c1 : Int32) (c2 : Nat → Int32) (c3 : Nat → Int32) (c4 : Int32) (c5 : Int32) (c6 : Nat → Int32) (c7 : Nat → Int32) (c8 : Int32) (c9 : Int32) (c10 : Nat → Int32) (res : Int32 × Int32 × Int32 × (Nat → Int32)) (hf : f_X1_rank N c0 c1 c2 c3 c4 c5 c6 = some res) : Met l yX1_rank wsX1_rank rm_X1_rank (va_Pc [.ref h] (fun U => U.heap.size = sz ∧ va_P (dC, dI) vwCl (wX1 cy h q2 q3 q6 q7 q10 c0 c1 c2 c3 c4 c5 c6 c7 c8 c9 c10) U.heap ∧ va_K (dC, dI) vwCl [(cy, .int)] U ∧ va_D (fun _ => True) (wX1 cy h q2 q3 q6 q7 q10 c0 c1 c2 c3 c4 c5 c6 c7 c8 c9 c10))) (z_qI dC dI cy res.1 (wX1 cy h q2 q3 q6 q7 q10 c0 c1 c2 c3 res.2.1 res.2.2.1 res.2.2.2 c7 c8 c9 c10) (va_A (wX1 cy h q2 q3 q6 q7 q10 c0 c1 c2 c3 c4 c5 c6 c7 c8 c9 c10) sz)) 0 0 (va_A (wX1 cy h q2 q3 q6 q7 q10 c0 c1 c2 c3 c4 c5 c6 c7 c8 c9 c10) sz) := by
  refine Met.ofW (cc := cX1_rank) (maxL := 2) (ret := (some .int)) (by decide) rfl ?_
  intro p e s m args below meth c s₁ B hml hv
  obtain ⟨rfl, hsz, hP, hK, hD0⟩ := hv
  have hx := B.exec
  have hb := B.bytes
  have hr := B.returns
  have hts := atoms_spec (ws := wsX1_rank) B.pre
  have hown : s.vm.findClass RX1 = some m.cls := findClass_of_methodNamed B.named
  have hlocks := B.notSynchronized
  subst hsz
  have hD := hD0.self (sz := s.heap.size)
  generalize hAe : va_A (wX1 cy h q2 q3 q6 q7 q10 c0 c1 c2 c3 c4 c5 c6 c7 c8 c9 c10) s.heap.size = A at hD ⊢
  have hA : ∀ q : Nat, s.heap.size ≤ q → A q := fun q h => by rw [← hAe]; exact Or.inr h
  have hS : va_S A s.heap s.heap [] := va_S.rf
  have hP : va_P (dC, dI) vwCl (wX1 cy h q2 q3 q6 q7 q10 c0 c1 c2 c3 c4 c5 c6 c7 c8 c9 c10) s.heap := hP
  have hl := lv_entry ([.ref h]) (n := 2) (Nat.le_of_ble_eq_true rfl)
  rw [lg_entry_eq]
  generalize (lg_sl ([.ref h]) ++ List.replicate (2 - (lg_sl ([.ref h])).length) Slot.unset).toArray = ls at hl ⊢
  have hl : lv_has ls 2 [(0, .ref h)] := hl
  have B25 : ∀ n : Nat, ∀ (x1 : Int32) (c4 : Int32) (c5 : Int32) (c6 : Nat → Int32) (H : Heap) (locs : List Loc) (ls : Array Slot), f_X1_rank_b25 N c0 c1 c2 c3 n x1 c4 c5 c6 = some res → va_P (dC, dI) vwCl (wX1 cy h q2 q3 q6 q7 q10 c0 c1 c2 c3 c4 c5 c6 c7 c8 c9 c10) H → va_D A (wX1 cy h q2 q3 q6 q7 q10 c0 c1 c2 c3 c4 c5 c6 c7 c8 c9 c10) → va_S A s.heap H locs → lv_has ls 2 [(0, .ref h), (1, .int x1)] → W p l e rm_X1_rank s m ([.ref h] : List Value).toArray below meth c H locs 0 0 (MQ below (z_qI dC dI cy res.1 (wX1 cy h q2 q3 q6 q7 q10 c0 c1 c2 c3 res.2.1 res.2.2.1 res.2.2.2 c7 c8 c9 c10) A) ([.ref h] : List Value).toArray s 0 0 A) (F0 m 25 ls []) := by
    clear hf hl hP hD hS
    intro n
    induction n with
    | zero =>
      intro x1 c4 c5 c6 H locs ls hf hP hD hS hl
      rw [f_X1_rank_b25] at hf
      cases hf
    | succ n ih =>
      intro x1 c4 c5 c6 H locs ls hf hP hD hS hl
      rw [f_X1_rank_b25] at hf
      refine lv_aload_n hx hb dX1_rank_25 rfl (lv_at hl 0 rfl) ?_
      obtain ⟨u26, hu26, hf⟩ := z_ob_some hf
      have hPc := hP.sub (ws' := (wX1 cy h q2 q3 q6 q7 q10 c0 c1 c2 c3 c4 c5 c6 c7 c8 c9 c10)) [0, 1, 2, 3, 4, 5] rfl
      have hDc := hD.sub (ws' := (wX1 cy h q2 q3 q6 q7 q10 c0 c1 c2 c3 c4 c5 c6 c7 c8 c9 c10)) [0, 1, 2, 3, 4, 5] (by decide) rfl
      have hKc := hK.sub (tys' := [(cy, .int)]) [0] rfl
      have hFc := va_free (wc := (wX1 cy h q2 q3 q6 q7 q10 c0 c1 c2 c3 c4 c5 c6 c7 c8 c9 c10)) hD hS hA [0, 1, 2, 3, 4, 5] rfl
      refine va_calli (va_runV (As := []) (rest := []) ⟨hx, hb, hml, hown, hts⟩ (c_X1_next N l dC dI cy h q2 q3 q6 q7 q10 H.size c0 c1 c2 c3 c4 c5 c6 c7 c8 c9 c10 u26 hu26) (cwV 0 hts gX1_rank_X1_next rfl rfl rfl (by decide +kernel) ⟨Nat.le_of_ble_eq_true rfl, Nat.le_of_ble_eq_true rfl⟩) ⟨fun a U g mk q => by obtain ⟨q0, q1, qP, qK, qD⟩ := q; exact ⟨q0, q1, qP, va_K.moved (u := U) (U := U.calling g mk a) (Vm.Alike.refl U.vm) qK, qD⟩, va_recv hKc hPc (ci := 1) (q0 := 0) rfl rfl, fun U hU hW => ⟨rfl, by rw [hU], by rw [hU]; exact hPc, va_K.moved hW.alike hKc, hDc.weaken (fun _ _ _ _ => trivial)⟩⟩ rfl rfl hl.1 rfl (lv_room (Nat.le_of_ble_eq_true rfl)) dX1_rank_26 ⟨Nat.zero_le _, Nat.zero_le _⟩) hS (fun q _ h => hFc q h) hFc (fun r_26 uu_ t H1 locs ht hvm hw hB hz1 hk1 hS => ?_)
      replace hw := hw.symm
      subst hw
      obtain ⟨hP1, -, hD1⟩ := hB
      rw [ht] at hP1
      obtain ⟨hP, hD⟩ := va_join (wr := []) (w1 := (wX1 cy h q2 q3 q6 q7 q10 c0 c1 c2 c3 c4 c5 u26.2 c7 c8 c9 c10)) hP hD [0, 1, 2, 3, 4, 5] [] rfl rfl (by decide) (by decide) hk1 hFc hP1 hD1
      clear hk1 hz1 hP1 hD1 ht hPc hDc hFc
      generalize H1 = H at hP hS ⊢
      have hP : va_P (dC, dI) vwCl (wX1 cy h q2 q3 q6 q7 q10 c0 c1 c2 c3 c4 c5 u26.2 c7 c8 c9 c10) H := hP
      have hD : va_D A (wX1 cy h q2 q3 q6 q7 q10 c0 c1 c2 c3 c4 c5 u26.2 c7 c8 c9 c10) := hD
      refine lv_if_eq (tgt := 51) hx hb dX1_rank_29 (by decide) (fun c_29 => ?_) (fun c_29 => ?_)
      · replace hf := (if_pos c_29).symm.trans hf
        refine lv_bipush (v := (-5 : Int32)) hx hb dX1_rank_51 (by decide) ?_
        have hres := Option.some.inj hf
        subst hres
        have hP9 := hP.sub (ws' := (wX1 cy h q2 q3 q6 q7 q10 c0 c1 c2 c3 c4 c5 u26.2 c7 c8 c9 c10)) [0, 1, 2, 3, 4, 5] rfl
        have hD9 := hD.sub (ws' := (wX1 cy h q2 q3 q6 q7 q10 c0 c1 c2 c3 c4 c5 u26.2 c7 c8 c9 c10)) [0, 1, 2, 3, 4, 5] (by decide) rfl
        have hK9 := hK.sub (tys' := [(cy, .int)]) [0] rfl
        exact W.iret (v := (-5 : Int32)) hx hb hr (fun t ht hW => ⟨⟨(-5 : Int32), (), rfl, rfl, by rw [ht]; exact hP9, va_K.moved hW.alike hK9, hD9⟩, hS.F ht⟩) hS.2.2 dX1_rank_53
      · replace hf := (if_neg c_29).symm.trans hf
        refine lv_aload_n hx hb dX1_rank_32 rfl (lv_at hl 0 rfl) ?_
        refine lv_aload_n hx hb dX1_rank_33 rfl (lv_at hl 0 rfl) ?_
        refine va_get (D := (dC, dI)) (ci := 1) (v := .int c0) (C := RX1) (T := TX1) (N := 11) hx hb hts (by decide +kernel) hown hK hP 0 rfl rfl 0 (by decide) (hts (.fieldLink RX1 7 "GiftLotsModel" "ones" "I") (by decide +kernel)) (fun _ h9 => h9) rfl dX1_rank_34 ?_
        obtain ⟨u37, hu37, hf⟩ := z_ob_some hf
        have hPc := hP.sub (ws' := (wX1 cy h q2 q3 q6 q7 q10 c0 c1 c2 c3 c4 c5 u26.2 c7 c8 c9 c10)) [0, 1, 2, 3, 4, 5] rfl
        have hDc := hD.sub (ws' := (wX1 cy h q2 q3 q6 q7 q10 c0 c1 c2 c3 c4 c5 u26.2 c7 c8 c9 c10)) [0, 1, 2, 3, 4, 5] (by decide) rfl
        have hKc := hK.sub (tys' := [(cy, .int)]) [0] rfl
        have hFc := va_free (wc := (wX1 cy h q2 q3 q6 q7 q10 c0 c1 c2 c3 c4 c5 u26.2 c7 c8 c9 c10)) hD hS hA [0, 1, 2, 3, 4, 5] rfl
        refine va_calli (va_runV (As := [.int c0]) (rest := []) ⟨hx, hb, hml, hown, hts⟩ (c_X1_agrees N l dC dI cy h q2 q3 q6 q7 q10 H.size c0 c1 c2 c3 c4 c5 u26.2 c7 c8 c9 c10 c0 u37 hu37) (cwV 1 hts gX1_rank_X1_agrees rfl rfl rfl (by decide +kernel) ⟨Nat.le_of_ble_eq_true rfl, Nat.le_of_ble_eq_true rfl⟩) ⟨fun a U g mk q => by obtain ⟨q0, q1, qP, qK, qD⟩ := q; exact ⟨q0, q1, qP, va_K.moved (u := U) (U := U.calling g mk a) (Vm.Alike.refl U.vm) qK, qD⟩, va_recv hKc hPc (ci := 1) (q0 := 0) rfl rfl, fun U hU hW => ⟨rfl, by rw [hU], by rw [hU]; exact hPc, va_K.moved hW.alike hKc, hDc.weaken (fun _ _ _ _ => trivial)⟩⟩ rfl rfl hl.1 rfl (lv_room (Nat.le_of_ble_eq_true rfl)) dX1_rank_37 ⟨Nat.zero_le _, Nat.zero_le _⟩) hS (fun q _ h => hFc q h) hFc (fun r_37 uu_ t H1 locs ht hvm hw hB hz1 hk1 hS => ?_)
        replace hw := hw.symm
        subst hw
        obtain ⟨hP1, -, hD1⟩ := hB
        rw [ht] at hP1
        obtain ⟨hP, hD⟩ := va_join (wr := []) (w1 := (wX1 cy h q2 q3 q6 q7 q10 c0 c1 c2 c3 c4 c5 u26.2 c7 c8 c9 c10)) hP hD [0, 1, 2, 3, 4, 5] [] rfl rfl (by decide) (by decide) hk1 hFc hP1 hD1
        clear hk1 hz1 hP1 hD1 ht hPc hDc hFc
        generalize H1 = H at hP hS ⊢
        have hP : va_P (dC, dI) vwCl (wX1 cy h q2 q3 q6 q7 q10 c0 c1 c2 c3 c4 c5 u26.2 c7 c8 c9 c10) H := hP
        have hD : va_D A (wX1 cy h q2 q3 q6 q7 q10 c0 c1 c2 c3 c4 c5 u26.2 c7 c8 c9 c10) := hD
        refine lv_if_eq (tgt := 45) hx hb dX1_rank_40 (by decide) (fun c_40 => ?_) (fun c_40 => ?_)
        · replace hf := (if_pos c_40).symm.trans hf
          refine lv_iinc (v := x1 + (1 : Int32)) (lv' := [(1, .int (x1 + (1 : Int32))), (0, .ref h)]) hx hb dX1_rank_45 hl (k := 1) rfl rfl (by decide) rfl (fun ls hl => ?_)
          refine lv_goto (tgt := 25) hx hb dX1_rank_48 (by decide) ?_
          exact ih (x1 + (1 : Int32)) c4 c5 u26.2 _ _ _ hf hP hD hS (lv_sub hl [1, 0] rfl)
        · replace hf := (if_neg c_40).symm.trans hf
          refine lv_iload_n hx hb dX1_rank_43 rfl (lv_at hl 1 rfl) ?_
          have hres := Option.some.inj hf
          subst hres
          have hP9 := hP.sub (ws' := (wX1 cy h q2 q3 q6 q7 q10 c0 c1 c2 c3 c4 c5 u26.2 c7 c8 c9 c10)) [0, 1, 2, 3, 4, 5] rfl
          have hD9 := hD.sub (ws' := (wX1 cy h q2 q3 q6 q7 q10 c0 c1 c2 c3 c4 c5 u26.2 c7 c8 c9 c10)) [0, 1, 2, 3, 4, 5] (by decide) rfl
          have hK9 := hK.sub (tys' := [(cy, .int)]) [0] rfl
          exact W.iret (v := x1) hx hb hr (fun t ht hW => ⟨⟨x1, (), rfl, rfl, by rw [ht]; exact hP9, va_K.moved hW.alike hK9, hD9⟩, hS.F ht⟩) hS.2.2 dX1_rank_44
  unfold f_X1_rank at hf
  refine lv_aload_n hx hb dX1_rank_0 rfl (lv_at hl 0 rfl) ?_
  obtain ⟨u1, hu1, hf⟩ := z_ob_some hf
  have hPc := hP.sub (ws' := (wX1 cy h q2 q3 q6 q7 q10 c0 c1 c2 c3 c4 c5 c6 c7 c8 c9 c10)) [0, 1, 2, 3, 4, 5] rfl
  have hDc := hD.sub (ws' := (wX1 cy h q2 q3 q6 q7 q10 c0 c1 c2 c3 c4 c5 c6 c7 c8 c9 c10)) [0, 1, 2, 3, 4, 5] (by decide) rfl
  have hKc := hK.sub (tys' := [(cy, .int)]) [0] rfl
  have hFc := va_free (wc := (wX1 cy h q2 q3 q6 q7 q10 c0 c1 c2 c3 c4 c5 c6 c7 c8 c9 c10)) hD hS hA [0, 1, 2, 3, 4, 5] rfl
  refine va_calli (va_runV (As := []) (rest := []) ⟨hx, hb, hml, hown, hts⟩ (c_X1_handMany N l dC dI cy h q2 q3 q6 q7 q10 s.heap.size c0 c1 c2 c3 c4 c5 c6 c7 c8 c9 c10 u1 hu1) (cwV 0 hts gX1_rank_X1_handMany rfl rfl rfl (by decide +kernel) ⟨Nat.le_of_ble_eq_true rfl, Nat.le_of_ble_eq_true rfl⟩) ⟨fun a U g mk q => by obtain ⟨q0, q1, qP, qK, qD⟩ := q; exact ⟨q0, q1, qP, va_K.moved (u := U) (U := U.calling g mk a) (Vm.Alike.refl U.vm) qK, qD⟩, va_recv hKc hPc (ci := 1) (q0 := 0) rfl rfl, fun U hU hW => ⟨rfl, by rw [hU], by rw [hU]; exact hPc, va_K.moved hW.alike hKc, hDc.weaken (fun _ _ _ _ => trivial)⟩⟩ rfl rfl hl.1 rfl (lv_room (Nat.le_of_ble_eq_true rfl)) dX1_rank_1 ⟨Nat.zero_le _, Nat.zero_le _⟩) hS (fun q _ h => hFc q h) hFc (fun r_1 uu_ t H1 locs ht hvm hw hB hz1 hk1 hS => ?_)
  replace hw := hw.symm
  subst hw
  obtain ⟨hP1, -, hD1⟩ := hB
  rw [ht] at hP1
  obtain ⟨hP, hD⟩ := va_join (wr := []) (w1 := (wX1 cy h q2 q3 q6 q7 q10 c0 c1 c2 c3 c4 c5 c6 c7 c8 c9 c10)) hP hD [0, 1, 2, 3, 4, 5] [] rfl rfl (by decide) (by decide) hk1 hFc hP1 hD1
  clear hk1 hz1 hP1 hD1 ht hPc hDc hFc
  generalize H1 = H at hP hS ⊢
  have hP : va_P (dC, dI) vwCl (wX1 cy h q2 q3 q6 q7 q10 c0 c1 c2 c3 c4 c5 c6 c7 c8 c9 c10) H := hP
  have hD : va_D A (wX1 cy h q2 q3 q6 q7 q10 c0 c1 c2 c3 c4 c5 c6 c7 c8 c9 c10) := hD
  refine lv_aload_n hx hb dX1_rank_4 rfl (lv_at hl 0 rfl) ?_
  refine va_get (D := (dC, dI)) (ci := 1) (v := .int c0) (C := RX1) (T := TX1) (N := 11) hx hb hts (by decide +kernel) hown hK hP 0 rfl rfl 0 (by decide) (hts (.fieldLink RX1 7 "GiftLotsModel" "ones" "I") (by decide +kernel)) (fun _ h9 => h9) rfl dX1_rank_5 ?_
  refine lv_icmp_ge (tgt := 14) hx hb dX1_rank_8 (by decide) (fun c_8 => ?_) (fun c_8 => ?_)
  · replace hf := (if_pos c_8).symm.trans hf
    refine lv_aload_n hx hb dX1_rank_14 rfl (lv_at hl 0 rfl) ?_
    refine lv_aload_n hx hb dX1_rank_15 rfl (lv_at hl 0 rfl) ?_
    obtain ⟨u16, hu16, hf⟩ := z_ob_some hf
    have hPc := hP.sub (ws' := (wX1 cy h q2 q3 q6 q7 q10 c0 c1 c2 c3 c4 c5 c6 c7 c8 c9 c10)) [0, 1, 2, 3, 4, 5] rfl
    have hDc := hD.sub (ws' := (wX1 cy h q2 q3 q6 q7 q10 c0 c1 c2 c3 c4 c5 c6 c7 c8 c9 c10)) [0, 1, 2, 3, 4, 5] (by decide) rfl
    have hKc := hK.sub (tys' := [(cy, .int)]) [0] rfl
    have hFc := va_free (wc := (wX1 cy h q2 q3 q6 q7 q10 c0 c1 c2 c3 c4 c5 c6 c7 c8 c9 c10)) hD hS hA [0, 1, 2, 3, 4, 5] rfl
    refine va_calli (va_runV (As := []) (rest := [.ref h]) ⟨hx, hb, hml, hown, hts⟩ (c_X1_all N l dC dI cy h q2 q3 q6 q7 q10 H.size c0 c1 c2 c3 c4 c5 c6 c7 c8 c9 c10 u16 hu16) (cwV 0 hts gX1_rank_X1_all rfl rfl rfl (by decide +kernel) ⟨Nat.le_of_ble_eq_true rfl, Nat.le_of_ble_eq_true rfl⟩) ⟨fun a U g mk q => by obtain ⟨q0, q1, qP, qK, qD⟩ := q; exact ⟨q0, q1, qP, va_K.moved (u := U) (U := U.calling g mk a) (Vm.Alike.refl U.vm) qK, qD⟩, va_recv hKc hPc (ci := 1) (q0 := 0) rfl rfl, fun U hU hW => ⟨rfl, by rw [hU], by rw [hU]; exact hPc, va_K.moved hW.alike hKc, hDc.weaken (fun _ _ _ _ => trivial)⟩⟩ rfl rfl hl.1 rfl (lv_room (Nat.le_of_ble_eq_true rfl)) dX1_rank_16 ⟨Nat.zero_le _, Nat.zero_le _⟩) hS (fun q _ h => hFc q h) hFc (fun r_16 uu_ t H1 locs ht hvm hw hB hz1 hk1 hS => ?_)
    replace hw := hw.symm
    subst hw
    obtain ⟨hP1, -, hD1⟩ := hB
    rw [ht] at hP1
    obtain ⟨hP, hD⟩ := va_join (wr := []) (w1 := (wX1 cy h q2 q3 q6 q7 q10 c0 c1 c2 c3 c4 c5 c6 c7 c8 c9 c10)) hP hD [0, 1, 2, 3, 4, 5] [] rfl rfl (by decide) (by decide) hk1 hFc hP1 hD1
    clear hk1 hz1 hP1 hD1 ht hPc hDc hFc
    generalize H1 = H at hP hS ⊢
    have hP : va_P (dC, dI) vwCl (wX1 cy h q2 q3 q6 q7 q10 c0 c1 c2 c3 c4 c5 c6 c7 c8 c9 c10) H := hP
    have hD : va_D A (wX1 cy h q2 q3 q6 q7 q10 c0 c1 c2 c3 c4 c5 c6 c7 c8 c9 c10) := hD
    refine lv_iconst (v := (0 : Int32)) hx hb dX1_rank_19 (by decide) ?_
    obtain ⟨u20, hu20, hf⟩ := z_ob_some hf
    have hPc := hP.sub (ws' := (wX1 cy h q2 q3 q6 q7 q10 c0 c1 c2 c3 c4 c5 c6 c7 c8 c9 c10)) [0, 1, 2, 3, 4, 5] rfl
    have hDc := hD.sub (ws' := (wX1 cy h q2 q3 q6 q7 q10 c0 c1 c2 c3 c4 c5 c6 c7 c8 c9 c10)) [0, 1, 2, 3, 4, 5] (by decide) rfl
    have hKc := hK.sub (tys' := [(cy, .int)]) [0] rfl
    have hFc := va_free (wc := (wX1 cy h q2 q3 q6 q7 q10 c0 c1 c2 c3 c4 c5 c6 c7 c8 c9 c10)) hD hS hA [0, 1, 2, 3, 4, 5] rfl
    refine va_callv (va_runV (As := [.int u16, .int (0 : Int32)]) (rest := []) ⟨hx, hb, hml, hown, hts⟩ (c_X1_start N l dC dI cy h q2 q3 q6 q7 q10 H.size c0 c1 c2 c3 c4 c5 c6 c7 c8 c9 c10 u16 (0 : Int32) u20 hu20) (cwV 2 hts gX1_rank_X1_start rfl rfl rfl (by decide +kernel) ⟨Nat.le_of_ble_eq_true rfl, Nat.le_of_ble_eq_true rfl⟩) ⟨fun a U g mk q => by obtain ⟨q0, q1, qP, qK, qD⟩ := q; exact ⟨q0, q1, qP, va_K.moved (u := U) (U := U.calling g mk a) (Vm.Alike.refl U.vm) qK, qD⟩, va_recv hKc hPc (ci := 1) (q0 := 0) rfl rfl, fun U hU hW => ⟨rfl, by rw [hU], by rw [hU]; exact hPc, va_K.moved hW.alike hKc, hDc.weaken (fun _ _ _ _ => trivial)⟩⟩ rfl rfl hl.1 rfl (lv_room (Nat.le_of_ble_eq_true rfl)) dX1_rank_20 ⟨Nat.zero_le _, Nat.zero_le _⟩) hS (fun q _ h => hFc q h) hFc (fun uu_ t H1 locs ht hvm hw hB hz1 hk1 hS => ?_)
    obtain ⟨hP1, -, hD1⟩ := hB
    rw [ht] at hP1
    obtain ⟨hP, hD⟩ := va_join (wr := []) (w1 := (wX1 cy h q2 q3 q6 q7 q10 c0 c1 c2 c3 u20.1 u20.2.1 u20.2.2 c7 c8 c9 c10)) hP hD [0, 1, 2, 3, 4, 5] [] rfl rfl (by decide) (by decide) hk1 hFc hP1 hD1
    clear hk1 hz1 hP1 hD1 ht hPc hDc hFc
    generalize H1 = H at hP hS ⊢
    have hP : va_P (dC, dI) vwCl (wX1 cy h q2 q3 q6 q7 q10 c0 c1 c2 c3 u20.1 u20.2.1 u20.2.2 c7 c8 c9 c10) H := hP
    have hD : va_D A (wX1 cy h q2 q3 q6 q7 q10 c0 c1 c2 c3 u20.1 u20.2.1 u20.2.2 c7 c8 c9 c10) := hD
    refine lv_iconst (v := (0 : Int32)) hx hb dX1_rank_23 (by decide) ?_
    refine lv_istore_n (lv' := [(1, .int (0 : Int32)), (0, .ref h)]) hx hb dX1_rank_24 rfl hl (by decide) rfl (fun ls hl => ?_)
    exact B25 N (0 : Int32) u20.1 u20.2.1 u20.2.2 _ _ _ hf hP hD hS (lv_sub hl [1, 0] rfl)
  · replace hf := (if_neg c_8).symm.trans hf
    refine lv_bipush (v := (-3 : Int32)) hx hb dX1_rank_11 (by decide) ?_
    have hres := Option.some.inj hf
    subst hres
    have hP9 := hP.sub (ws' := (wX1 cy h q2 q3 q6 q7 q10 c0 c1 c2 c3 c4 c5 c6 c7 c8 c9 c10)) [0, 1, 2, 3, 4, 5] rfl
    have hD9 := hD.sub (ws' := (wX1 cy h q2 q3 q6 q7 q10 c0 c1 c2 c3 c4 c5 c6 c7 c8 c9 c10)) [0, 1, 2, 3, 4, 5] (by decide) rfl
    have hK9 := hK.sub (tys' := [(cy, .int)]) [0] rfl
    exact W.iret (v := (-3 : Int32)) hx hb hr (fun t ht hW => ⟨⟨(-3 : Int32), (), rfl, rfl, by rw [ht]; exact hP9, va_K.moved hW.alike hK9, hD9⟩, hS.F ht⟩) hS.2.2 dX1_rank_13

set_option maxRecDepth 20000 in
theorem ggX1_share_X1_isOne : GoodIn wsX1_share wsX1_isOne := goodIn_r _ [7, 8, 9, 10, 6, 11, 48, 49, 50, 51, 52, 53, 54, 55, 56, 57, 58] (by decide +kernel) (by decide +kernel)
set_option maxRecDepth 20000 in
theorem gX1_share_X1_isOne : GoodIn wsX1_share (wsV RX1 39 RX1 yX1_isOne wsX1_isOne) := goodIn_app (goodIn_of _ (by decide +kernel)) ggX1_share_X1_isOne
set_option maxRecDepth 20000 in
theorem ggX1_share_X1_all : GoodIn wsX1_share wsX1_all := goodIn_r _ [15, 8, 48, 49, 50, 51, 52, 53, 54, 55, 56, 57, 58] (by decide +kernel) (by decide +kernel)
set_option maxRecDepth 20000 in
theorem gX1_share_X1_all : GoodIn wsX1_share (wsV RX1 69 RX1 yX1_all wsX1_all) := goodIn_app (goodIn_of _ (by decide +kernel)) ggX1_share_X1_all
set_option maxRecDepth 20000 in
theorem ggX1_share_X1_start : GoodIn wsX1_share wsX1_start := goodIn_r _ [19, 20, 21, 2, 48, 49, 50, 51, 52, 53, 54, 55, 56, 57, 58] (by decide +kernel) (by decide +kernel)
set_option maxRecDepth 20000 in
theorem gX1_share_X1_start : GoodIn wsX1_share (wsV RX1 72 RX1 yX1_start wsX1_start) := goodIn_app (goodIn_of _ (by decide +kernel)) ggX1_share_X1_start
set_option maxRecDepth 20000 in
theorem ggX1_share_X1_next : GoodIn wsX1_share wsX1_next := goodIn_r _ [25, 8, 2, 26, 20, 21, 27, 28, 29, 6, 30, 9, 10, 11, 31, 32, 33, 34, 35, 36, 37, 38, 39, 40, 41, 42, 43, 48, 49, 50, 51, 52, 53, 54, 55, 56, 57, 58] (by decide +kernel) (by decide +kernel)
set_option maxRecDepth 20000 in
theorem gX1_share_X1_next : GoodIn wsX1_share (wsV RX1 76 RX1 yX1_next wsX1_next) := goodIn_app (goodIn_of _ (by decide +kernel)) ggX1_share_X1_next
set_option maxRecDepth 20000 in
theorem ggX1_share_X1_agrees : GoodIn wsX1_share wsX1_agrees := goodIn_r _ [47, 2, 1, 48, 49, 50, 51, 52, 53, 54, 55, 56, 57, 58] (by decide +kernel) (by decide +kernel)
set_option maxRecDepth 20000 in
theorem gX1_share_X1_agrees : GoodIn wsX1_share (wsV RX1 94 RX1 yX1_agrees wsX1_agrees) := goodIn_app (goodIn_of _ (by decide +kernel)) ggX1_share_X1_agrees
theorem dX1_share_0 : decode cX1_share 0 = .ok (.aload_n 0, 1) := by decide +kernel
theorem dX1_share_1 : decode cX1_share 1 = .ok (.iload_n 1, 1) := by decide +kernel
theorem dX1_share_2 : decode cX1_share 2 = .ok (.invokevirtual 39, 3) := by decide +kernel
theorem dX1_share_5 : decode cX1_share 5 = .ok (.ifCond .eq 11, 3) := by decide +kernel
theorem dX1_share_8 : decode cX1_share 8 = .ok (.aload_n 0, 1) := by decide +kernel
theorem dX1_share_9 : decode cX1_share 9 = .ok (.iload_n 2, 1) := by decide +kernel
theorem dX1_share_10 : decode cX1_share 10 = .ok (.invokevirtual 39, 3) := by decide +kernel
theorem dX1_share_13 : decode cX1_share 13 = .ok (.ifCond .ne 5, 3) := by decide +kernel
theorem dX1_share_16 : decode cX1_share 16 = .ok (.iconst (-1), 1) := by decide +kernel
theorem dX1_share_17 : decode cX1_share 17 = .ok (.ireturn, 1) := by decide +kernel
theorem dX1_share_18 : decode cX1_share 18 = .ok (.iconst 0, 1) := by decide +kernel
theorem dX1_share_19 : decode cX1_share 19 = .ok (.istore_n 3, 1) := by decide +kernel
theorem dX1_share_20 : decode cX1_share 20 = .ok (.iload_n 3, 1) := by decide +kernel
theorem dX1_share_21 : decode cX1_share 21 = .ok (.iload_n 1, 1) := by decide +kernel
theorem dX1_share_22 : decode cX1_share 22 = .ok (.if_icmp .ge 21, 3) := by decide +kernel
theorem dX1_share_25 : decode cX1_share 25 = .ok (.aload_n 0, 1) := by decide +kernel
theorem dX1_share_26 : decode cX1_share 26 = .ok (.getfield 20, 3) := by decide +kernel
theorem dX1_share_29 : decode cX1_share 29 = .ok (.iload_n 3, 1) := by decide +kernel
theorem dX1_share_30 : decode cX1_share 30 = .ok (.iaload, 1) := by decide +kernel
theorem dX1_share_31 : decode cX1_share 31 = .ok (.ifCond .ge 6, 3) := by decide +kernel
theorem dX1_share_34 : decode cX1_share 34 = .ok (.bipush (-3), 2) := by decide +kernel
theorem dX1_share_36 : decode cX1_share 36 = .ok (.ireturn, 1) := by decide +kernel
theorem dX1_share_37 : decode cX1_share 37 = .ok (.iinc 3 1, 3) := by decide +kernel
theorem dX1_share_40 : decode cX1_share 40 = .ok (.goto (-20), 3) := by decide +kernel
theorem dX1_share_43 : decode cX1_share 43 = .ok (.aload_n 0, 1) := by decide +kernel
theorem dX1_share_44 : decode cX1_share 44 = .ok (.aload_n 0, 1) := by decide +kernel
theorem dX1_share_45 : decode cX1_share 45 = .ok (.invokevirtual 69, 3) := by decide +kernel
theorem dX1_share_48 : decode cX1_share 48 = .ok (.iconst 0, 1) := by decide +kernel
theorem dX1_share_49 : decode cX1_share 49 = .ok (.invokevirtual 72, 3) := by decide +kernel
theorem dX1_share_52 : decode cX1_share 52 = .ok (.iconst 0, 1) := by decide +kernel
theorem dX1_share_53 : decode cX1_share 53 = .ok (.istore_n 3, 1) := by decide +kernel
theorem dX1_share_54 : decode cX1_share 54 = .ok (.aload_n 0, 1) := by decide +kernel
theorem dX1_share_55 : decode cX1_share 55 = .ok (.invokevirtual 76, 3) := by decide +kernel
theorem dX1_share_58 : decode cX1_share 58 = .ok (.ifCond .eq 32, 3) := by decide +kernel
theorem dX1_share_61 : decode cX1_share 61 = .ok (.iload_n 3, 1) := by decide +kernel
theorem dX1_share_62 : decode cX1_share 62 = .ok (.aload_n 0, 1) := by decide +kernel
theorem dX1_share_63 : decode cX1_share 63 = .ok (.iload_n 1, 1) := by decide +kernel
theorem dX1_share_64 : decode cX1_share 64 = .ok (.invokevirtual 94, 3) := by decide +kernel
theorem dX1_share_67 : decode cX1_share 67 = .ok (.ifCond .eq 17, 3) := by decide +kernel
theorem dX1_share_70 : decode cX1_share 70 = .ok (.aload_n 0, 1) := by decide +kernel
theorem dX1_share_71 : decode cX1_share 71 = .ok (.getfield 23, 3) := by decide +kernel
theorem dX1_share_74 : decode cX1_share 74 = .ok (.iload_n 1, 1) := by decide +kernel
theorem dX1_share_75 : decode cX1_share 75 = .ok (.iaload, 1) := by decide +kernel
theorem dX1_share_76 : decode cX1_share 76 = .ok (.iload_n 2, 1) := by decide +kernel
theorem dX1_share_77 : decode cX1_share 77 = .ok (.if_icmp .ne 7, 3) := by decide +kernel
theorem dX1_share_80 : decode cX1_share 80 = .ok (.iconst 1, 1) := by decide +kernel
theorem dX1_share_81 : decode cX1_share 81 = .ok (.goto 4, 3) := by decide +kernel
theorem dX1_share_84 : decode cX1_share 84 = .ok (.iconst 0, 1) := by decide +kernel
theorem dX1_share_85 : decode cX1_share 85 = .ok (.iadd, 1) := by decide +kernel
theorem dX1_share_86 : decode cX1_share 86 = .ok (.istore_n 3, 1) := by decide +kernel
theorem dX1_share_87 : decode cX1_share 87 = .ok (.goto (-33), 3) := by decide +kernel
theorem dX1_share_90 : decode cX1_share 90 = .ok (.iload_n 3, 1) := by decide +kernel
theorem dX1_share_91 : decode cX1_share 91 = .ok (.ireturn, 1) := by decide +kernel
abbrev rm_X1_share : Room := { frames := 3, cells := 0, slots := 0, locals := 70 }
set_option maxHeartbeats 4000000 in
set_option maxRecDepth 100000 in
theorem c_X1_share (N : Nat) (l : Launch) (dC : Nat → ClassId) (dI : Nat → Nat → Nat) (cy : ClassId) (h q2 q3 q6 q7 q10 : Nat) (sz : Nat) (c0 : Int32) (c1 : Int32) (c2 : Nat → Int32) (c3 : Nat → Int32) (c4 : Int32) (c5 : Int32) (c6 : Nat → Int32) (c7 : Nat → Int32) (c8 : Int32) (c9 : Int32) (c10 : Nat → Int32) (a1 a2 : Int32) (res : Int32 × Int32 × Int32 × (Nat → Int32)) (hf : f_X1_share N a1 a2 c0 c1 c2 c3 c4 c5 c6 = some res) : Met l yX1_share wsX1_share rm_X1_share (va_Pc [.ref h, .int a1, .int a2] (fun U => U.heap.size = sz ∧ va_P (dC, dI) vwCl (wX1 cy h q2 q3 q6 q7 q10 c0 c1 c2 c3 c4 c5 c6 c7 c8 c9 c10) U.heap ∧ va_K (dC, dI) vwCl [(cy, .int)] U ∧ va_D (fun _ => True) (wX1 cy h q2 q3 q6 q7 q10 c0 c1 c2 c3 c4 c5 c6 c7 c8 c9 c10))) (z_qI dC dI cy res.1 (wX1 cy h q2 q3 q6 q7 q10 c0 c1 c2 c3 res.2.1 res.2.2.1 res.2.2.2 c7 c8 c9 c10) (va_A (wX1 cy h q2 q3 q6 q7 q10 c0 c1 c2 c3 c4 c5 c6 c7 c8 c9 c10) sz)) 0 0 (va_A (wX1 cy h q2 q3 q6 q7 q10 c0 c1 c2 c3 c4 c5 c6 c7 c8 c9 c10) sz) := by
  refine Met.ofW (cc := cX1_share) (maxL := 4) (ret := (some .int)) (by decide) rfl ?_
  intro p e s m args below meth c s₁ B hml hv
  obtain ⟨rfl, hsz, hP, hK, hD0⟩ := hv
  have hx := B.exec
  have hb := B.bytes
  have hr := B.returns
  have hts := atoms_spec (ws := wsX1_share) B.pre
  have hown : s.vm.findClass RX1 = some m.cls := findClass_of_methodNamed B.named
  have hlocks := B.notSynchronized
  subst hsz
  have hD := hD0.self (sz := s.heap.size)
  generalize hAe : va_A (wX1 cy h q2 q3 q6 q7 q10 c0 c1 c2 c3 c4 c5 c6 c7 c8 c9 c10) s.heap.size = A at hD ⊢
  have hA : ∀ q : Nat, s.heap.size ≤ q → A q := fun q h => by rw [← hAe]; exact Or.inr h
  have hS : va_S A s.heap s.heap [] := va_S.rf
  have hP : va_P (dC, dI) vwCl (wX1 cy h q2 q3 q6 q7 q10 c0 c1 c2 c3 c4 c5 c6 c7 c8 c9 c10) s.heap := hP
  have hl := lv_entry ([.ref h, .int a1, .int a2]) (n := 4) (Nat.le_of_ble_eq_true rfl)
  rw [lg_entry_eq]
  generalize (lg_sl ([.ref h, .int a1, .int a2]) ++ List.replicate (4 - (lg_sl ([.ref h, .int a1, .int a2])).length) Slot.unset).toArray = ls at hl ⊢
  have hl : lv_has ls 4 [(0, .ref h), (1, .int a1), (2, .int a2)] := hl
  have B85 : ∀ (r54 : Int32 → Int32 → Int32 → Int32 → Int32 → (Nat → Int32) → Option (Int32 × Int32 × Int32 × (Nat → Int32))), (∀ (x1 x2 x3 : Int32) (c4 : Int32) (c5 : Int32) (c6 : Nat → Int32) (H : Heap) (locs : List Loc) (ls : Array Slot), r54 x1 x2 x3 c4 c5 c6 = some res → va_P (dC, dI) vwCl (wX1 cy h q2 q3 q6 q7 q10 c0 c1 c2 c3 c4 c5 c6 c7 c8 c9 c10) H → va_D A (wX1 cy h q2 q3 q6 q7 q10 c0 c1 c2 c3 c4 c5 c6 c7 c8 c9 c10) → va_S A s.heap H locs → lv_has ls 4 [(0, .ref h), (1, .int x1), (2, .int x2), (3, .int x3)] → W p l e rm_X1_share s m ([.ref h, .int a1, .int a2] : List Value).toArray below meth c H locs 0 0 (MQ below (z_qI dC dI cy res.1 (wX1 cy h q2 q3 q6 q7 q10 c0 c1 c2 c3 res.2.1 res.2.2.1 res.2.2.2 c7 c8 c9 c10) A) ([.ref h, .int a1, .int a2] : List Value).toArray s 0 0 A) (F0 m 54 ls [])) → ∀ (x1 x2 t0 t1 : Int32) (c4 : Int32) (c5 : Int32) (c6 : Nat → Int32) (H : Heap) (locs : List Loc) (ls : Array Slot), f_X1_share_b85 N c0 c1 c2 c3 r54 x1 x2 t0 t1 c4 c5 c6 = some res → va_P (dC, dI) vwCl (wX1 cy h q2 q3 q6 q7 q10 c0 c1 c2 c3 c4 c5 c6 c7 c8 c9 c10) H → va_D A (wX1 cy h q2 q3 q6 q7 q10 c0 c1 c2 c3 c4 c5 c6 c7 c8 c9 c10) → va_S A s.heap H locs → lv_has ls 4 [(0, .ref h), (1, .int x1), (2, .int x2)] → W p l e rm_X1_share s m ([.ref h, .int a1, .int a2] : List Value).toArray below meth c H locs 0 0 (MQ below (z_qI dC dI cy res.1 (wX1 cy h q2 q3 q6 q7 q10 c0 c1 c2 c3 res.2.1 res.2.2.1 res.2.2.2 c7 c8 c9 c10) A) ([.ref h, .int a1, .int a2] : List Value).toArray s 0 0 A) (F0 m 85 ls [.int t1, .int t0]) := by
    clear hf hl hP hD hS
    intro r54 hr54
    intro x1 x2 t0 t1 c4 c5 c6 H locs ls hf hP hD hS hl
    unfold f_X1_share_b85 at hf
    refine lv_iadd hx hb dX1_share_85 ?_
    refine lv_istore_n (lv' := [(3, .int (t0 + t1)), (0, .ref h), (1, .int x1), (2, .int x2)]) hx hb dX1_share_86 rfl hl (by decide) rfl (fun ls hl => ?_)
    refine lv_goto (tgt := 54) hx hb dX1_share_87 (by decide) ?_
    exact hr54 x1 x2 (t0 + t1) c4 c5 c6 _ _ _ hf hP hD hS (lv_sub hl [1, 2, 3, 0] rfl)
  have B84 : ∀ (r54 : Int32 → Int32 → Int32 → Int32 → Int32 → (Nat → Int32) → Option (Int32 × Int32 × Int32 × (Nat → Int32))), (∀ (x1 x2 x3 : Int32) (c4 : Int32) (c5 : Int32) (c6 : Nat → Int32) (H : Heap) (locs : List Loc) (ls : Array Slot), r54 x1 x2 x3 c4 c5 c6 = some res → va_P (dC, dI) vwCl (wX1 cy h q2 q3 q6 q7 q10 c0 c1 c2 c3 c4 c5 c6 c7 c8 c9 c10) H → va_D A (wX1 cy h q2 q3 q6 q7 q10 c0 c1 c2 c3 c4 c5 c6 c7 c8 c9 c10) → va_S A s.heap H locs → lv_has ls 4 [(0, .ref h), (1, .int x1), (2, .int x2), (3, .int x3)] → W p l e rm_X1_share s m ([.ref h, .int a1, .int a2] : List Value).toArray below meth c H locs 0 0 (MQ below (z_qI dC dI cy res.1 (wX1 cy h q2 q3 q6 q7 q10 c0 c1 c2 c3 res.2.1 res.2.2.1 res.2.2.2 c7 c8 c9 c10) A) ([.ref h, .int a1, .int a2] : List Value).toArray s 0 0 A) (F0 m 54 ls [])) → ∀ (x1 x2 t0 : Int32) (c4 : Int32) (c5 : Int32) (c6 : Nat → Int32) (H : Heap) (locs : List Loc) (ls : Array Slot), f_X1_share_b84 N c0 c1 c2 c3 r54 x1 x2 t0 c4 c5 c6 = some res → va_P (dC, dI) vwCl (wX1 cy h q2 q3 q6 q7 q10 c0 c1 c2 c3 c4 c5 c6 c7 c8 c9 c10) H → va_D A (wX1 cy h q2 q3 q6 q7 q10 c0 c1 c2 c3 c4 c5 c6 c7 c8 c9 c10) → va_S A s.heap H locs → lv_has ls 4 [(0, .ref h), (1, .int x1), (2, .int x2)] → W p l e rm_X1_share s m ([.ref h, .int a1, .int a2] : List Value).toArray below meth c H locs 0 0 (MQ below (z_qI dC dI cy res.1 (wX1 cy h q2 q3 q6 q7 q10 c0 c1 c2 c3 res.2.1 res.2.2.1 res.2.2.2 c7 c8 c9 c10) A) ([.ref h, .int a1, .int a2] : List Value).toArray s 0 0 A) (F0 m 84 ls [.int t0]) := by
    clear hf hl hP hD hS
    intro r54 hr54
    intro x1 x2 t0 c4 c5 c6 H locs ls hf hP hD hS hl
    unfold f_X1_share_b84 at hf
    refine lv_iconst (v := (0 : Int32)) hx hb dX1_share_84 (by decide) ?_
    exact B85 r54 hr54 x1 x2 t0 (0 : Int32) c4 c5 c6 _ _ _ hf hP hD hS (lv_sub hl [0, 1, 2] rfl)
  have B54 : ∀ n : Nat, ∀ (x1 x2 x3 : Int32) (c4 : Int32) (c5 : Int32) (c6 : Nat → Int32) (H : Heap) (locs : List Loc) (ls : Array Slot), f_X1_share_b54 N c0 c1 c2 c3 n x1 x2 x3 c4 c5 c6 = some res → va_P (dC, dI) vwCl (wX1 cy h q2 q3 q6 q7 q10 c0 c1 c2 c3 c4 c5 c6 c7 c8 c9 c10) H → va_D A (wX1 cy h q2 q3 q6 q7 q10 c0 c1 c2 c3 c4 c5 c6 c7 c8 c9 c10) → va_S A s.heap H locs → lv_has ls 4 [(0, .ref h), (1, .int x1), (2, .int x2), (3, .int x3)] → W p l e rm_X1_share s m ([.ref h, .int a1, .int a2] : List Value).toArray below meth c H locs 0 0 (MQ below (z_qI dC dI cy res.1 (wX1 cy h q2 q3 q6 q7 q10 c0 c1 c2 c3 res.2.1 res.2.2.1 res.2.2.2 c7 c8 c9 c10) A) ([.ref h, .int a1, .int a2] : List Value).toArray s 0 0 A) (F0 m 54 ls []) := by
    clear hf hl hP hD hS
    intro n
    induction n with
    | zero =>
      intro x1 x2 x3 c4 c5 c6 H locs ls hf hP hD hS hl
      rw [f_X1_share_b54] at hf
      cases hf
    | succ n ih =>
      intro x1 x2 x3 c4 c5 c6 H locs ls hf hP hD hS hl
      rw [f_X1_share_b54] at hf
      refine lv_aload_n hx hb dX1_share_54 rfl (lv_at hl 0 rfl) ?_
      obtain ⟨u55, hu55, hf⟩ := z_ob_some hf
      have hPc := hP.sub (ws' := (wX1 cy h q2 q3 q6 q7 q10 c0 c1 c2 c3 c4 c5 c6 c7 c8 c9 c10)) [0, 1, 2, 3, 4, 5] rfl
      have hDc := hD.sub (ws' := (wX1 cy h q2 q3 q6 q7 q10 c0 c1 c2 c3 c4 c5 c6 c7 c8 c9 c10)) [0, 1, 2, 3, 4, 5] (by decide) rfl
      have hKc := hK.sub (tys' := [(cy, .int)]) [0] rfl
      have hFc := va_free (wc := (wX1 cy h q2 q3 q6 q7 q10 c0 c1 c2 c3 c4 c5 c6 c7 c8 c9 c10)) hD hS hA [0, 1, 2, 3, 4, 5] rfl
      refine va_calli (va_runV (As := []) (rest := []) ⟨hx, hb, hml, hown, hts⟩ (c_X1_next N l dC dI cy h q2 q3 q6 q7 q10 H.size c0 c1 c2 c3 c4 c5 c6 c7 c8 c9 c10 u55 hu55) (cwV 0 hts gX1_share_X1_next rfl rfl rfl (by decide +kernel) ⟨Nat.le_of_ble_eq_true rfl, Nat.le_of_ble_eq_true rfl⟩) ⟨fun a U g mk q => by obtain ⟨q0, q1, qP, qK, qD⟩ := q; exact ⟨q0, q1, qP, va_K.moved (u := U) (U := U.calling g mk a) (Vm.Alike.refl U.vm) qK, qD⟩, va_recv hKc hPc (ci := 1) (q0 := 0) rfl rfl, fun U hU hW => ⟨rfl, by rw [hU], by rw [hU]; exact hPc, va_K.moved hW.alike hKc, hDc.weaken (fun _ _ _ _ => trivial)⟩⟩ rfl rfl hl.1 rfl (lv_room (Nat.le_of_ble_eq_true rfl)) dX1_share_55 ⟨Nat.zero_le _, Nat.zero_le _⟩) hS (fun q _ h => hFc q h) hFc (fun r_55 uu_ t H1 locs ht hvm hw hB hz1 hk1 hS => ?_)
      replace hw := hw.symm
      subst hw
      obtain ⟨hP1, -, hD1⟩ := hB
      rw [ht] at hP1
      obtain ⟨hP, hD⟩ := va_join (wr := []) (w1 := (wX1 cy h q2 q3 q6 q7 q10 c0 c1 c2 c3 c4 c5 u55.2 c7 c8 c9 c10)) hP hD [0, 1, 2, 3, 4, 5] [] rfl rfl (by decide) (by decide) hk1 hFc hP1 hD1
      clear hk1 hz1 hP1 hD1 ht hPc hDc hFc
      generalize H1 = H at hP hS ⊢
      have hP : va_P (dC, dI) vwCl (wX1 cy h q2 q3 q6 q7 q10 c0 c1 c2 c3 c4 c5 u55.2 c7 c8 c9 c10) H := hP
      have hD : va_D A (wX1 cy h q2 q3 q6 q7 q10 c0 c1 c2 c3 c4 c5 u55.2 c7 c8 c9 c10) := hD
      refine lv_if_eq (tgt := 90) hx hb dX1_share_58 (by decide) (fun c_58 => ?_) (fun c_58 => ?_)
      · replace hf := (if_pos c_58).symm.trans hf
        refine lv_iload_n hx hb dX1_share_90 rfl (lv_at hl 3 rfl) ?_
        have hres := Option.some.inj hf
        subst hres
        have hP9 := hP.sub (ws' := (wX1 cy h q2 q3 q6 q7 q10 c0 c1 c2 c3 c4 c5 u55.2 c7 c8 c9 c10)) [0, 1, 2, 3, 4, 5] rfl
        have hD9 := hD.sub (ws' := (wX1 cy h q2 q3 q6 q7 q10 c0 c1 c2 c3 c4 c5 u55.2 c7 c8 c9 c10)) [0, 1, 2, 3, 4, 5] (by decide) rfl
        have hK9 := hK.sub (tys' := [(cy, .int)]) [0] rfl
        exact W.iret (v := x3) hx hb hr (fun t ht hW => ⟨⟨x3, (), rfl, rfl, by rw [ht]; exact hP9, va_K.moved hW.alike hK9, hD9⟩, hS.F ht⟩) hS.2.2 dX1_share_91
      · replace hf := (if_neg c_58).symm.trans hf
        refine lv_iload_n hx hb dX1_share_61 rfl (lv_at hl 3 rfl) ?_
        refine lv_aload_n hx hb dX1_share_62 rfl (lv_at hl 0 rfl) ?_
        refine lv_iload_n hx hb dX1_share_63 rfl (lv_at hl 1 rfl) ?_
        obtain ⟨u64, hu64, hf⟩ := z_ob_some hf
        have hPc := hP.sub (ws' := (wX1 cy h q2 q3 q6 q7 q10 c0 c1 c2 c3 c4 c5 u55.2 c7 c8 c9 c10)) [0, 1, 2, 3, 4, 5] rfl
        have hDc := hD.sub (ws' := (wX1 cy h q2 q3 q6 q7 q10 c0 c1 c2 c3 c4 c5 u55.2 c7 c8 c9 c10)) [0, 1, 2, 3, 4, 5] (by decide) rfl
        have hKc := hK.sub (tys' := [(cy, .int)]) [0] rfl
        have hFc := va_free (wc := (wX1 cy h q2 q3 q6 q7 q10 c0 c1 c2 c3 c4 c5 u55.2 c7 c8 c9 c10)) hD hS hA [0, 1, 2, 3, 4, 5] rfl
        refine va_calli (va_runV (As := [.int x1]) (rest := [.int x3]) ⟨hx, hb, hml, hown, hts⟩ (c_X1_agrees N l dC dI cy h q2 q3 q6 q7 q10 H.size c0 c1 c2 c3 c4 c5 u55.2 c7 c8 c9 c10 x1 u64 hu64) (cwV 1 hts gX1_share_X1_agrees rfl rfl rfl (by decide +kernel) ⟨Nat.le_of_ble_eq_true rfl, Nat.le_of_ble_eq_true rfl⟩) ⟨fun a U g mk q => by obtain ⟨q0, q1, qP, qK, qD⟩ := q; exact ⟨q0, q1, qP, va_K.moved (u := U) (U := U.calling g mk a) (Vm.Alike.refl U.vm) qK, qD⟩, va_recv hKc hPc (ci := 1) (q0 := 0) rfl rfl, fun U hU hW => ⟨rfl, by rw [hU], by rw [hU]; exact hPc, va_K.moved hW.alike hKc, hDc.weaken (fun _ _ _ _ => trivial)⟩⟩ rfl rfl hl.1 rfl (lv_room (Nat.le_of_ble_eq_true rfl)) dX1_share_64 ⟨Nat.zero_le _, Nat.zero_le _⟩) hS (fun q _ h => hFc q h) hFc (fun r_64 uu_ t H1 locs ht hvm hw hB hz1 hk1 hS => ?_)
        replace hw := hw.symm
        subst hw
        obtain ⟨hP1, -, hD1⟩ := hB
        rw [ht] at hP1
        obtain ⟨hP, hD⟩ := va_join (wr := []) (w1 := (wX1 cy h q2 q3 q6 q7 q10 c0 c1 c2 c3 c4 c5 u55.2 c7 c8 c9 c10)) hP hD [0, 1, 2, 3, 4, 5] [] rfl rfl (by decide) (by decide) hk1 hFc hP1 hD1
        clear hk1 hz1 hP1 hD1 ht hPc hDc hFc
        generalize H1 = H at hP hS ⊢
        have hP : va_P (dC, dI) vwCl (wX1 cy h q2 q3 q6 q7 q10 c0 c1 c2 c3 c4 c5 u55.2 c7 c8 c9 c10) H := hP
        have hD : va_D A (wX1 cy h q2 q3 q6 q7 q10 c0 c1 c2 c3 c4 c5 u55.2 c7 c8 c9 c10) := hD
        refine lv_if_eq (tgt := 84) hx hb dX1_share_67 (by decide) (fun c_67 => ?_) (fun c_67 => ?_)
        · replace hf := (if_pos c_67).symm.trans hf
          exact B84 (f_X1_share_b54 N c0 c1 c2 c3 n) ih x1 x2 x3 c4 c5 u55.2 _ _ _ hf hP hD hS (lv_sub hl [0, 1, 2] rfl)
        · replace hf := (if_neg c_67).symm.trans hf
          refine lv_aload_n hx hb dX1_share_70 rfl (lv_at hl 0 rfl) ?_
          refine va_get (D := (dC, dI)) (ci := 1) (v := .ref q6) (C := RX1) (T := TX1) (N := 11) hx hb hts (by decide +kernel) hown hK hP 0 rfl rfl 6 (by decide) (hts (.fieldLink RX1 23 "GiftLotsModel" "gives" "[I") (by decide +kernel)) (fun _ h9 => h9) rfl dX1_share_71 ?_
          refine lv_iload_n hx hb dX1_share_74 rfl (lv_at hl 1 rfl) ?_
          obtain ⟨hi75, hf⟩ := z_gx_some hf
          refine va_iald hx hb hK hP 3 0 rfl rfl hi75 dX1_share_75 ?_
          refine lv_iload_n hx hb dX1_share_76 rfl (lv_at hl 2 rfl) ?_
          refine lv_icmp_ne (tgt := 84) hx hb dX1_share_77 (by decide) (fun c_77 => ?_) (fun c_77 => ?_)
          · replace hf := (if_neg c_77).symm.trans hf
            exact B84 (f_X1_share_b54 N c0 c1 c2 c3 n) ih x1 x2 x3 c4 c5 u55.2 _ _ _ hf hP hD hS (lv_sub hl [0, 1, 2] rfl)
          · replace hf := (if_pos c_77).symm.trans hf
            refine lv_iconst (v := (1 : Int32)) hx hb dX1_share_80 (by decide) ?_
            refine lv_goto (tgt := 85) hx hb dX1_share_81 (by decide) ?_
            exact B85 (f_X1_share_b54 N c0 c1 c2 c3 n) ih x1 x2 x3 (1 : Int32) c4 c5 u55.2 _ _ _ hf hP hD hS (lv_sub hl [0, 1, 2] rfl)
  have B20 : ∀ n : Nat, ∀ (x1 x2 x3 : Int32) (c4 : Int32) (c5 : Int32) (c6 : Nat → Int32) (H : Heap) (locs : List Loc) (ls : Array Slot), f_X1_share_b20 N c0 c1 c2 c3 n x1 x2 x3 c4 c5 c6 = some res → va_P (dC, dI) vwCl (wX1 cy h q2 q3 q6 q7 q10 c0 c1 c2 c3 c4 c5 c6 c7 c8 c9 c10) H → va_D A (wX1 cy h q2 q3 q6 q7 q10 c0 c1 c2 c3 c4 c5 c6 c7 c8 c9 c10) → va_S A s.heap H locs → lv_has ls 4 [(0, .ref h), (1, .int x1), (2, .int x2), (3, .int x3)] → W p l e rm_X1_share s m ([.ref h, .int a1, .int a2] : List Value).toArray below meth c H locs 0 0 (MQ below (z_qI dC dI cy res.1 (wX1 cy h q2 q3 q6 q7 q10 c0 c1 c2 c3 res.2.1 res.2.2.1 res.2.2.2 c7 c8 c9 c10) A) ([.ref h, .int a1, .int a2] : List Value).toArray s 0 0 A) (F0 m 20 ls []) := by
    clear hf hl hP hD hS
    intro n
    induction n with
    | zero =>
      intro x1 x2 x3 c4 c5 c6 H locs ls hf hP hD hS hl
      rw [f_X1_share_b20] at hf
      cases hf
    | succ n ih =>
      intro x1 x2 x3 c4 c5 c6 H locs ls hf hP hD hS hl
      rw [f_X1_share_b20] at hf
      refine lv_iload_n hx hb dX1_share_20 rfl (lv_at hl 3 rfl) ?_
      refine lv_iload_n hx hb dX1_share_21 rfl (lv_at hl 1 rfl) ?_
      refine lv_icmp_ge (tgt := 43) hx hb dX1_share_22 (by decide) (fun c_22 => ?_) (fun c_22 => ?_)
      · replace hf := (if_pos c_22).symm.trans hf
        refine lv_aload_n hx hb dX1_share_43 rfl (lv_at hl 0 rfl) ?_
        refine lv_aload_n hx hb dX1_share_44 rfl (lv_at hl 0 rfl) ?_
        obtain ⟨u45, hu45, hf⟩ := z_ob_some hf
        have hPc := hP.sub (ws' := (wX1 cy h q2 q3 q6 q7 q10 c0 c1 c2 c3 c4 c5 c6 c7 c8 c9 c10)) [0, 1, 2, 3, 4, 5] rfl
        have hDc := hD.sub (ws' := (wX1 cy h q2 q3 q6 q7 q10 c0 c1 c2 c3 c4 c5 c6 c7 c8 c9 c10)) [0, 1, 2, 3, 4, 5] (by decide) rfl
        have hKc := hK.sub (tys' := [(cy, .int)]) [0] rfl
        have hFc := va_free (wc := (wX1 cy h q2 q3 q6 q7 q10 c0 c1 c2 c3 c4 c5 c6 c7 c8 c9 c10)) hD hS hA [0, 1, 2, 3, 4, 5] rfl
        refine va_calli (va_runV (As := []) (rest := [.ref h]) ⟨hx, hb, hml, hown, hts⟩ (c_X1_all N l dC dI cy h q2 q3 q6 q7 q10 H.size c0 c1 c2 c3 c4 c5 c6 c7 c8 c9 c10 u45 hu45) (cwV 0 hts gX1_share_X1_all rfl rfl rfl (by decide +kernel) ⟨Nat.le_of_ble_eq_true rfl, Nat.le_of_ble_eq_true rfl⟩) ⟨fun a U g mk q => by obtain ⟨q0, q1, qP, qK, qD⟩ := q; exact ⟨q0, q1, qP, va_K.moved (u := U) (U := U.calling g mk a) (Vm.Alike.refl U.vm) qK, qD⟩, va_recv hKc hPc (ci := 1) (q0 := 0) rfl rfl, fun U hU hW => ⟨rfl, by rw [hU], by rw [hU]; exact hPc, va_K.moved hW.alike hKc, hDc.weaken (fun _ _ _ _ => trivial)⟩⟩ rfl rfl hl.1 rfl (lv_room (Nat.le_of_ble_eq_true rfl)) dX1_share_45 ⟨Nat.zero_le _, Nat.zero_le _⟩) hS (fun q _ h => hFc q h) hFc (fun r_45 uu_ t H1 locs ht hvm hw hB hz1 hk1 hS => ?_)
        replace hw := hw.symm
        subst hw
        obtain ⟨hP1, -, hD1⟩ := hB
        rw [ht] at hP1
        obtain ⟨hP, hD⟩ := va_join (wr := []) (w1 := (wX1 cy h q2 q3 q6 q7 q10 c0 c1 c2 c3 c4 c5 c6 c7 c8 c9 c10)) hP hD [0, 1, 2, 3, 4, 5] [] rfl rfl (by decide) (by decide) hk1 hFc hP1 hD1
        clear hk1 hz1 hP1 hD1 ht hPc hDc hFc
        generalize H1 = H at hP hS ⊢
        have hP : va_P (dC, dI) vwCl (wX1 cy h q2 q3 q6 q7 q10 c0 c1 c2 c3 c4 c5 c6 c7 c8 c9 c10) H := hP
        have hD : va_D A (wX1 cy h q2 q3 q6 q7 q10 c0 c1 c2 c3 c4 c5 c6 c7 c8 c9 c10) := hD
        refine lv_iconst (v := (0 : Int32)) hx hb dX1_share_48 (by decide) ?_
        obtain ⟨u49, hu49, hf⟩ := z_ob_some hf
        have hPc := hP.sub (ws' := (wX1 cy h q2 q3 q6 q7 q10 c0 c1 c2 c3 c4 c5 c6 c7 c8 c9 c10)) [0, 1, 2, 3, 4, 5] rfl
        have hDc := hD.sub (ws' := (wX1 cy h q2 q3 q6 q7 q10 c0 c1 c2 c3 c4 c5 c6 c7 c8 c9 c10)) [0, 1, 2, 3, 4, 5] (by decide) rfl
        have hKc := hK.sub (tys' := [(cy, .int)]) [0] rfl
        have hFc := va_free (wc := (wX1 cy h q2 q3 q6 q7 q10 c0 c1 c2 c3 c4 c5 c6 c7 c8 c9 c10)) hD hS hA [0, 1, 2, 3, 4, 5] rfl
        refine va_callv (va_runV (As := [.int u45, .int (0 : Int32)]) (rest := []) ⟨hx, hb, hml, hown, hts⟩ (c_X1_start N l dC dI cy h q2 q3 q6 q7 q10 H.size c0 c1 c2 c3 c4 c5 c6 c7 c8 c9 c10 u45 (0 : Int32) u49 hu49) (cwV 2 hts gX1_share_X1_start rfl rfl rfl (by decide +kernel) ⟨Nat.le_of_ble_eq_true rfl, Nat.le_of_ble_eq_true rfl⟩) ⟨fun a U g mk q => by obtain ⟨q0, q1, qP, qK, qD⟩ := q; exact ⟨q0, q1, qP, va_K.moved (u := U) (U := U.calling g mk a) (Vm.Alike.refl U.vm) qK, qD⟩, va_recv hKc hPc (ci := 1) (q0 := 0) rfl rfl, fun U hU hW => ⟨rfl, by rw [hU], by rw [hU]; exact hPc, va_K.moved hW.alike hKc, hDc.weaken (fun _ _ _ _ => trivial)⟩⟩ rfl rfl hl.1 rfl (lv_room (Nat.le_of_ble_eq_true rfl)) dX1_share_49 ⟨Nat.zero_le _, Nat.zero_le _⟩) hS (fun q _ h => hFc q h) hFc (fun uu_ t H1 locs ht hvm hw hB hz1 hk1 hS => ?_)
        obtain ⟨hP1, -, hD1⟩ := hB
        rw [ht] at hP1
        obtain ⟨hP, hD⟩ := va_join (wr := []) (w1 := (wX1 cy h q2 q3 q6 q7 q10 c0 c1 c2 c3 u49.1 u49.2.1 u49.2.2 c7 c8 c9 c10)) hP hD [0, 1, 2, 3, 4, 5] [] rfl rfl (by decide) (by decide) hk1 hFc hP1 hD1
        clear hk1 hz1 hP1 hD1 ht hPc hDc hFc
        generalize H1 = H at hP hS ⊢
        have hP : va_P (dC, dI) vwCl (wX1 cy h q2 q3 q6 q7 q10 c0 c1 c2 c3 u49.1 u49.2.1 u49.2.2 c7 c8 c9 c10) H := hP
        have hD : va_D A (wX1 cy h q2 q3 q6 q7 q10 c0 c1 c2 c3 u49.1 u49.2.1 u49.2.2 c7 c8 c9 c10) := hD
        refine lv_iconst (v := (0 : Int32)) hx hb dX1_share_52 (by decide) ?_
        refine lv_istore_n (lv' := [(3, .int (0 : Int32)), (0, .ref h), (1, .int x1), (2, .int x2)]) hx hb dX1_share_53 rfl hl (by decide) rfl (fun ls hl => ?_)
        exact B54 N x1 x2 (0 : Int32) u49.1 u49.2.1 u49.2.2 _ _ _ hf hP hD hS (lv_sub hl [1, 2, 3, 0] rfl)
      · replace hf := (if_neg c_22).symm.trans hf
        refine lv_aload_n hx hb dX1_share_25 rfl (lv_at hl 0 rfl) ?_
        refine va_get (D := (dC, dI)) (ci := 1) (v := .ref q3) (C := RX1) (T := TX1) (N := 11) hx hb hts (by decide +kernel) hown hK hP 0 rfl rfl 3 (by decide) (hts (.fieldLink RX1 20 "GiftLotsModel" "hand" "[I") (by decide +kernel)) (fun _ h9 => h9) rfl dX1_share_26 ?_
        refine lv_iload_n hx hb dX1_share_29 rfl (lv_at hl 3 rfl) ?_
        obtain ⟨hi30, hf⟩ := z_gx_some hf
        refine va_iald hx hb hK hP 2 0 rfl rfl hi30 dX1_share_30 ?_
        refine lv_if_ge (tgt := 37) hx hb dX1_share_31 (by decide) (fun c_31 => ?_) (fun c_31 => ?_)
        · replace hf := (if_pos c_31).symm.trans hf
          refine lv_iinc (v := x3 + (1 : Int32)) (lv' := [(3, .int (x3 + (1 : Int32))), (0, .ref h), (1, .int x1), (2, .int x2)]) hx hb dX1_share_37 hl (k := 3) rfl rfl (by decide) rfl (fun ls hl => ?_)
          refine lv_goto (tgt := 20) hx hb dX1_share_40 (by decide) ?_
          exact ih x1 x2 (x3 + (1 : Int32)) c4 c5 c6 _ _ _ hf hP hD hS (lv_sub hl [1, 2, 3, 0] rfl)
        · replace hf := (if_neg c_31).symm.trans hf
          refine lv_bipush (v := (-3 : Int32)) hx hb dX1_share_34 (by decide) ?_
          have hres := Option.some.inj hf
          subst hres
          have hP9 := hP.sub (ws' := (wX1 cy h q2 q3 q6 q7 q10 c0 c1 c2 c3 c4 c5 c6 c7 c8 c9 c10)) [0, 1, 2, 3, 4, 5] rfl
          have hD9 := hD.sub (ws' := (wX1 cy h q2 q3 q6 q7 q10 c0 c1 c2 c3 c4 c5 c6 c7 c8 c9 c10)) [0, 1, 2, 3, 4, 5] (by decide) rfl
          have hK9 := hK.sub (tys' := [(cy, .int)]) [0] rfl
          exact W.iret (v := (-3 : Int32)) hx hb hr (fun t ht hW => ⟨⟨(-3 : Int32), (), rfl, rfl, by rw [ht]; exact hP9, va_K.moved hW.alike hK9, hD9⟩, hS.F ht⟩) hS.2.2 dX1_share_36
  unfold f_X1_share at hf
  refine lv_aload_n hx hb dX1_share_0 rfl (lv_at hl 0 rfl) ?_
  refine lv_iload_n hx hb dX1_share_1 rfl (lv_at hl 1 rfl) ?_
  obtain ⟨u2, hu2, hf⟩ := z_ob_some hf
  have hPc := hP.sub (ws' := (wX1 cy h q2 q3 q6 q7 q10 c0 c1 c2 c3 c4 c5 c6 c7 c8 c9 c10)) [0, 1, 2, 3, 4, 5] rfl
  have hDc := hD.sub (ws' := (wX1 cy h q2 q3 q6 q7 q10 c0 c1 c2 c3 c4 c5 c6 c7 c8 c9 c10)) [0, 1, 2, 3, 4, 5] (by decide) rfl
  have hKc := hK.sub (tys' := [(cy, .int)]) [0] rfl
  have hFc := va_free (wc := (wX1 cy h q2 q3 q6 q7 q10 c0 c1 c2 c3 c4 c5 c6 c7 c8 c9 c10)) hD hS hA [0, 1, 2, 3, 4, 5] rfl
  refine va_calli (va_runV (As := [.int a1]) (rest := []) ⟨hx, hb, hml, hown, hts⟩ (c_X1_isOne N l dC dI cy h q2 q3 q6 q7 q10 s.heap.size c0 c1 c2 c3 c4 c5 c6 c7 c8 c9 c10 a1 u2 hu2) (cwV 1 hts gX1_share_X1_isOne rfl rfl rfl (by decide +kernel) ⟨Nat.le_of_ble_eq_true rfl, Nat.le_of_ble_eq_true rfl⟩) ⟨fun a U g mk q => by obtain ⟨q0, q1, qP, qK, qD⟩ := q; exact ⟨q0, q1, qP, va_K.moved (u := U) (U := U.calling g mk a) (Vm.Alike.refl U.vm) qK, qD⟩, va_recv hKc hPc (ci := 1) (q0 := 0) rfl rfl, fun U hU hW => ⟨rfl, by rw [hU], by rw [hU]; exact hPc, va_K.moved hW.alike hKc, hDc.weaken (fun _ _ _ _ => trivial)⟩⟩ rfl rfl hl.1 rfl (lv_room (Nat.le_of_ble_eq_true rfl)) dX1_share_2 ⟨Nat.zero_le _, Nat.zero_le _⟩) hS (fun q _ h => hFc q h) hFc (fun r_2 uu_ t H1 locs ht hvm hw hB hz1 hk1 hS => ?_)
  replace hw := hw.symm
  subst hw
  obtain ⟨hP1, -, hD1⟩ := hB
  rw [ht] at hP1
  obtain ⟨hP, hD⟩ := va_join (wr := []) (w1 := (wX1 cy h q2 q3 q6 q7 q10 c0 c1 c2 c3 c4 c5 c6 c7 c8 c9 c10)) hP hD [0, 1, 2, 3, 4, 5] [] rfl rfl (by decide) (by decide) hk1 hFc hP1 hD1
  clear hk1 hz1 hP1 hD1 ht hPc hDc hFc
  generalize H1 = H at hP hS ⊢
  have hP : va_P (dC, dI) vwCl (wX1 cy h q2 q3 q6 q7 q10 c0 c1 c2 c3 c4 c5 c6 c7 c8 c9 c10) H := hP
  have hD : va_D A (wX1 cy h q2 q3 q6 q7 q10 c0 c1 c2 c3 c4 c5 c6 c7 c8 c9 c10) := hD
  refine lv_if_eq (tgt := 16) hx hb dX1_share_5 (by decide) (fun c_5 => ?_) (fun c_5 => ?_)
  · replace hf := (if_pos c_5).symm.trans hf
    refine lv_iconst (v := (-1 : Int32)) hx hb dX1_share_16 (by decide) ?_
    have hres := Option.some.inj hf
    subst hres
    have hP9 := hP.sub (ws' := (wX1 cy h q2 q3 q6 q7 q10 c0 c1 c2 c3 c4 c5 c6 c7 c8 c9 c10)) [0, 1, 2, 3, 4, 5] rfl
    have hD9 := hD.sub (ws' := (wX1 cy h q2 q3 q6 q7 q10 c0 c1 c2 c3 c4 c5 c6 c7 c8 c9 c10)) [0, 1, 2, 3, 4, 5] (by decide) rfl
    have hK9 := hK.sub (tys' := [(cy, .int)]) [0] rfl
    exact W.iret (v := (-1 : Int32)) hx hb hr (fun t ht hW => ⟨⟨(-1 : Int32), (), rfl, rfl, by rw [ht]; exact hP9, va_K.moved hW.alike hK9, hD9⟩, hS.F ht⟩) hS.2.2 dX1_share_17
  · replace hf := (if_neg c_5).symm.trans hf
    refine lv_aload_n hx hb dX1_share_8 rfl (lv_at hl 0 rfl) ?_
    refine lv_iload_n hx hb dX1_share_9 rfl (lv_at hl 2 rfl) ?_
    obtain ⟨u10, hu10, hf⟩ := z_ob_some hf
    have hPc := hP.sub (ws' := (wX1 cy h q2 q3 q6 q7 q10 c0 c1 c2 c3 c4 c5 c6 c7 c8 c9 c10)) [0, 1, 2, 3, 4, 5] rfl
    have hDc := hD.sub (ws' := (wX1 cy h q2 q3 q6 q7 q10 c0 c1 c2 c3 c4 c5 c6 c7 c8 c9 c10)) [0, 1, 2, 3, 4, 5] (by decide) rfl
    have hKc := hK.sub (tys' := [(cy, .int)]) [0] rfl
    have hFc := va_free (wc := (wX1 cy h q2 q3 q6 q7 q10 c0 c1 c2 c3 c4 c5 c6 c7 c8 c9 c10)) hD hS hA [0, 1, 2, 3, 4, 5] rfl
    refine va_calli (va_runV (As := [.int a2]) (rest := []) ⟨hx, hb, hml, hown, hts⟩ (c_X1_isOne N l dC dI cy h q2 q3 q6 q7 q10 H.size c0 c1 c2 c3 c4 c5 c6 c7 c8 c9 c10 a2 u10 hu10) (cwV 1 hts gX1_share_X1_isOne rfl rfl rfl (by decide +kernel) ⟨Nat.le_of_ble_eq_true rfl, Nat.le_of_ble_eq_true rfl⟩) ⟨fun a U g mk q => by obtain ⟨q0, q1, qP, qK, qD⟩ := q; exact ⟨q0, q1, qP, va_K.moved (u := U) (U := U.calling g mk a) (Vm.Alike.refl U.vm) qK, qD⟩, va_recv hKc hPc (ci := 1) (q0 := 0) rfl rfl, fun U hU hW => ⟨rfl, by rw [hU], by rw [hU]; exact hPc, va_K.moved hW.alike hKc, hDc.weaken (fun _ _ _ _ => trivial)⟩⟩ rfl rfl hl.1 rfl (lv_room (Nat.le_of_ble_eq_true rfl)) dX1_share_10 ⟨Nat.zero_le _, Nat.zero_le _⟩) hS (fun q _ h => hFc q h) hFc (fun r_10 uu_ t H1 locs ht hvm hw hB hz1 hk1 hS => ?_)
    replace hw := hw.symm
    subst hw
    obtain ⟨hP1, -, hD1⟩ := hB
    rw [ht] at hP1
    obtain ⟨hP, hD⟩ := va_join (wr := []) (w1 := (wX1 cy h q2 q3 q6 q7 q10 c0 c1 c2 c3 c4 c5 c6 c7 c8 c9 c10)) hP hD [0, 1, 2, 3, 4, 5] [] rfl rfl (by decide) (by decide) hk1 hFc hP1 hD1
    clear hk1 hz1 hP1 hD1 ht hPc hDc hFc
    generalize H1 = H at hP hS ⊢
    have hP : va_P (dC, dI) vwCl (wX1 cy h q2 q3 q6 q7 q10 c0 c1 c2 c3 c4 c5 c6 c7 c8 c9 c10) H := hP
    have hD : va_D A (wX1 cy h q2 q3 q6 q7 q10 c0 c1 c2 c3 c4 c5 c6 c7 c8 c9 c10) := hD
    refine lv_if_ne (tgt := 18) hx hb dX1_share_13 (by decide) (fun c_13 => ?_) (fun c_13 => ?_)
    · replace hf := (if_neg c_13).symm.trans hf
      refine lv_iconst (v := (0 : Int32)) hx hb dX1_share_18 (by decide) ?_
      refine lv_istore_n (lv' := [(3, .int (0 : Int32)), (0, .ref h), (1, .int a1), (2, .int a2)]) hx hb dX1_share_19 rfl hl (by decide) rfl (fun ls hl => ?_)
      exact B20 N a1 a2 (0 : Int32) c4 c5 c6 _ _ _ hf hP hD hS (lv_sub hl [1, 2, 3, 0] rfl)
    · replace hf := (if_pos c_13).symm.trans hf
      refine lv_iconst (v := (-1 : Int32)) hx hb dX1_share_16 (by decide) ?_
      have hres := Option.some.inj hf
      subst hres
      have hP9 := hP.sub (ws' := (wX1 cy h q2 q3 q6 q7 q10 c0 c1 c2 c3 c4 c5 c6 c7 c8 c9 c10)) [0, 1, 2, 3, 4, 5] rfl
      have hD9 := hD.sub (ws' := (wX1 cy h q2 q3 q6 q7 q10 c0 c1 c2 c3 c4 c5 c6 c7 c8 c9 c10)) [0, 1, 2, 3, 4, 5] (by decide) rfl
      have hK9 := hK.sub (tys' := [(cy, .int)]) [0] rfl
      exact W.iret (v := (-1 : Int32)) hx hb hr (fun t ht hW => ⟨⟨(-1 : Int32), (), rfl, rfl, by rw [ht]; exact hP9, va_K.moved hW.alike hK9, hD9⟩, hS.F ht⟩) hS.2.2 dX1_share_17

set_option maxRecDepth 20000 in
theorem ggX1_knows_X1_isOne : GoodIn wsX1_knows wsX1_isOne := goodIn_r _ [6, 7, 8, 9, 5, 10, 48, 49, 50, 51, 52, 53, 54, 55, 56, 57, 58] (by decide +kernel) (by decide +kernel)
set_option maxRecDepth 20000 in
theorem gX1_knows_X1_isOne : GoodIn wsX1_knows (wsV RX1 39 RX1 yX1_isOne wsX1_isOne) := goodIn_app (goodIn_of _ (by decide +kernel)) ggX1_knows_X1_isOne
set_option maxRecDepth 20000 in
theorem ggX1_knows_X1_waysWith : GoodIn wsX1_knows wsX1_waysWith := goodIn_r _ [14, 15, 16, 17, 18, 5, 19, 7, 20, 21, 22, 23, 24, 25, 26, 27, 28, 29, 30, 31, 32, 33, 34, 8, 9, 10, 35, 36, 37, 38, 39, 40, 41, 42, 43, 44, 45, 46, 47, 48, 49, 50, 51, 52, 53, 54, 55, 56, 57, 58] (by decide +kernel) (by decide +kernel)
set_option maxRecDepth 20000 in
theorem gX1_knows_X1_waysWith : GoodIn wsX1_knows (wsV RX1 85 RX1 yX1_waysWith wsX1_waysWith) := goodIn_app (goodIn_of _ (by decide +kernel)) ggX1_knows_X1_waysWith
theorem dX1_knows_0 : decode cX1_knows 0 = .ok (.aload_n 0, 1) := by decide +kernel
theorem dX1_knows_1 : decode cX1_knows 1 = .ok (.iload_n 1, 1) := by decide +kernel
theorem dX1_knows_2 : decode cX1_knows 2 = .ok (.invokevirtual 39, 3) := by decide +kernel
theorem dX1_knows_5 : decode cX1_knows 5 = .ok (.ifCond .ne 5, 3) := by decide +kernel
theorem dX1_knows_8 : decode cX1_knows 8 = .ok (.iconst (-1), 1) := by decide +kernel
theorem dX1_knows_9 : decode cX1_knows 9 = .ok (.ireturn, 1) := by decide +kernel
theorem dX1_knows_10 : decode cX1_knows 10 = .ok (.aload_n 0, 1) := by decide +kernel
theorem dX1_knows_11 : decode cX1_knows 11 = .ok (.getfield 20, 3) := by decide +kernel
theorem dX1_knows_14 : decode cX1_knows 14 = .ok (.iload_n 1, 1) := by decide +kernel
theorem dX1_knows_15 : decode cX1_knows 15 = .ok (.iaload, 1) := by decide +kernel
theorem dX1_knows_16 : decode cX1_knows 16 = .ok (.ifCond .ge 8, 3) := by decide +kernel
theorem dX1_knows_19 : decode cX1_knows 19 = .ok (.bipush (-3), 2) := by decide +kernel
theorem dX1_knows_21 : decode cX1_knows 21 = .ok (.goto 14, 3) := by decide +kernel
theorem dX1_knows_24 : decode cX1_knows 24 = .ok (.aload_n 0, 1) := by decide +kernel
theorem dX1_knows_25 : decode cX1_knows 25 = .ok (.iload_n 1, 1) := by decide +kernel
theorem dX1_knows_26 : decode cX1_knows 26 = .ok (.aload_n 0, 1) := by decide +kernel
theorem dX1_knows_27 : decode cX1_knows 27 = .ok (.getfield 20, 3) := by decide +kernel
theorem dX1_knows_30 : decode cX1_knows 30 = .ok (.iload_n 1, 1) := by decide +kernel
theorem dX1_knows_31 : decode cX1_knows 31 = .ok (.iaload, 1) := by decide +kernel
theorem dX1_knows_32 : decode cX1_knows 32 = .ok (.invokevirtual 85, 3) := by decide +kernel
theorem dX1_knows_35 : decode cX1_knows 35 = .ok (.ireturn, 1) := by decide +kernel
abbrev rm_X1_knows : Room := { frames := 4, cells := 0, slots := 0, locals := 93 }
set_option maxHeartbeats 4000000 in
set_option maxRecDepth 100000 in
theorem c_X1_knows (N : Nat) (l : Launch) (dC : Nat → ClassId) (dI : Nat → Nat → Nat) (cy : ClassId) (h q2 q3 q6 q7 q10 : Nat) (sz : Nat) (c0 : Int32) (c1 : Int32) (c2 : Nat → Int32) (c3 : Nat → Int32) (c4 : Int32) (c5 : Int32) (c6 : Nat → Int32) (c7 : Nat → Int32) (c8 : Int32) (c9 : Int32) (c10 : Nat → Int32) (a1 : Int32) (res : Int32 × Int32 × Int32 × (Nat → Int32)) (hf : f_X1_knows N a1 c0 c1 c2 c3 c4 c5 c6 = some res) : Met l yX1_knows wsX1_knows rm_X1_knows (va_Pc [.ref h, .int a1] (fun U => U.heap.size = sz ∧ va_P (dC, dI) vwCl (wX1 cy h q2 q3 q6 q7 q10 c0 c1 c2 c3 c4 c5 c6 c7 c8 c9 c10) U.heap ∧ va_K (dC, dI) vwCl [(cy, .int)] U ∧ va_D (fun _ => True) (wX1 cy h q2 q3 q6 q7 q10 c0 c1 c2 c3 c4 c5 c6 c7 c8 c9 c10))) (z_qI dC dI cy res.1 (wX1 cy h q2 q3 q6 q7 q10 c0 c1 c2 c3 res.2.1 res.2.2.1 res.2.2.2 c7 c8 c9 c10) (va_A (wX1 cy h q2 q3 q6 q7 q10 c0 c1 c2 c3 c4 c5 c6 c7 c8 c9 c10) sz)) 0 0 (va_A (wX1 cy h q2 q3 q6 q7 q10 c0 c1 c2 c3 c4 c5 c6 c7 c8 c9 c10) sz) := by
  refine Met.ofW (cc := cX1_knows) (maxL := 2) (ret := (some .int)) (by decide) rfl ?_
  intro p e s m args below meth c s₁ B hml hv
  obtain ⟨rfl, hsz, hP, hK, hD0⟩ := hv
  have hx := B.exec
  have hb := B.bytes
  have hr := B.returns
  have hts := atoms_spec (ws := wsX1_knows) B.pre
  have hown : s.vm.findClass RX1 = some m.cls := findClass_of_methodNamed B.named
  have hlocks := B.notSynchronized
  subst hsz
  have hD := hD0.self (sz := s.heap.size)
  generalize hAe : va_A (wX1 cy h q2 q3 q6 q7 q10 c0 c1 c2 c3 c4 c5 c6 c7 c8 c9 c10) s.heap.size = A at hD ⊢
  have hA : ∀ q : Nat, s.heap.size ≤ q → A q := fun q h => by rw [← hAe]; exact Or.inr h
  have hS : va_S A s.heap s.heap [] := va_S.rf
  have hP : va_P (dC, dI) vwCl (wX1 cy h q2 q3 q6 q7 q10 c0 c1 c2 c3 c4 c5 c6 c7 c8 c9 c10) s.heap := hP
  have hl := lv_entry ([.ref h, .int a1]) (n := 2) (Nat.le_of_ble_eq_true rfl)
  rw [lg_entry_eq]
  generalize (lg_sl ([.ref h, .int a1]) ++ List.replicate (2 - (lg_sl ([.ref h, .int a1])).length) Slot.unset).toArray = ls at hl ⊢
  have hl : lv_has ls 2 [(0, .ref h), (1, .int a1)] := hl
  unfold f_X1_knows at hf
  refine lv_aload_n hx hb dX1_knows_0 rfl (lv_at hl 0 rfl) ?_
  refine lv_iload_n hx hb dX1_knows_1 rfl (lv_at hl 1 rfl) ?_
  obtain ⟨u2, hu2, hf⟩ := z_ob_some hf
  have hPc := hP.sub (ws' := (wX1 cy h q2 q3 q6 q7 q10 c0 c1 c2 c3 c4 c5 c6 c7 c8 c9 c10)) [0, 1, 2, 3, 4, 5] rfl
  have hDc := hD.sub (ws' := (wX1 cy h q2 q3 q6 q7 q10 c0 c1 c2 c3 c4 c5 c6 c7 c8 c9 c10)) [0, 1, 2, 3, 4, 5] (by decide) rfl
  have hKc := hK.sub (tys' := [(cy, .int)]) [0] rfl
  have hFc := va_free (wc := (wX1 cy h q2 q3 q6 q7 q10 c0 c1 c2 c3 c4 c5 c6 c7 c8 c9 c10)) hD hS hA [0, 1, 2, 3, 4, 5] rfl
  refine va_calli (va_runV (As := [.int a1]) (rest := []) ⟨hx, hb, hml, hown, hts⟩ (c_X1_isOne N l dC dI cy h q2 q3 q6 q7 q10 s.heap.size c0 c1 c2 c3 c4 c5 c6 c7 c8 c9 c10 a1 u2 hu2) (cwV 1 hts gX1_knows_X1_isOne rfl rfl rfl (by decide +kernel) ⟨Nat.le_of_ble_eq_true rfl, Nat.le_of_ble_eq_true rfl⟩) ⟨fun a U g mk q => by obtain ⟨q0, q1, qP, qK, qD⟩ := q; exact ⟨q0, q1, qP, va_K.moved (u := U) (U := U.calling g mk a) (Vm.Alike.refl U.vm) qK, qD⟩, va_recv hKc hPc (ci := 1) (q0 := 0) rfl rfl, fun U hU hW => ⟨rfl, by rw [hU], by rw [hU]; exact hPc, va_K.moved hW.alike hKc, hDc.weaken (fun _ _ _ _ => trivial)⟩⟩ rfl rfl hl.1 rfl (lv_room (Nat.le_of_ble_eq_true rfl)) dX1_knows_2 ⟨Nat.zero_le _, Nat.zero_le _⟩) hS (fun q _ h => hFc q h) hFc (fun r_2 uu_ t H1 locs ht hvm hw hB hz1 hk1 hS => ?_)
  replace hw := hw.symm
  subst hw
  obtain ⟨hP1, -, hD1⟩ := hB
  rw [ht] at hP1
  obtain ⟨hP, hD⟩ := va_join (wr := []) (w1 := (wX1 cy h q2 q3 q6 q7 q10 c0 c1 c2 c3 c4 c5 c6 c7 c8 c9 c10)) hP hD [0, 1, 2, 3, 4, 5] [] rfl rfl (by decide) (by decide) hk1 hFc hP1 hD1
  clear hk1 hz1 hP1 hD1 ht hPc hDc hFc
  generalize H1 = H at hP hS ⊢
  have hP : va_P (dC, dI) vwCl (wX1 cy h q2 q3 q6 q7 q10 c0 c1 c2 c3 c4 c5 c6 c7 c8 c9 c10) H := hP
  have hD : va_D A (wX1 cy h q2 q3 q6 q7 q10 c0 c1 c2 c3 c4 c5 c6 c7 c8 c9 c10) := hD
  refine lv_if_ne (tgt := 10) hx hb dX1_knows_5 (by decide) (fun c_5 => ?_) (fun c_5 => ?_)
  · replace hf := (if_neg c_5).symm.trans hf
    refine lv_aload_n hx hb dX1_knows_10 rfl (lv_at hl 0 rfl) ?_
    refine va_get (D := (dC, dI)) (ci := 1) (v := .ref q3) (C := RX1) (T := TX1) (N := 11) hx hb hts (by decide +kernel) hown hK hP 0 rfl rfl 3 (by decide) (hts (.fieldLink RX1 20 "GiftLotsModel" "hand" "[I") (by decide +kernel)) (fun _ h9 => h9) rfl dX1_knows_11 ?_
    refine lv_iload_n hx hb dX1_knows_14 rfl (lv_at hl 1 rfl) ?_
    obtain ⟨hi15, hf⟩ := z_gx_some hf
    refine va_iald hx hb hK hP 2 0 rfl rfl hi15 dX1_knows_15 ?_
    refine lv_if_ge (tgt := 24) hx hb dX1_knows_16 (by decide) (fun c_16 => ?_) (fun c_16 => ?_)
    · replace hf := (if_pos c_16).symm.trans hf
      refine lv_aload_n hx hb dX1_knows_24 rfl (lv_at hl 0 rfl) ?_
      refine lv_iload_n hx hb dX1_knows_25 rfl (lv_at hl 1 rfl) ?_
      refine lv_aload_n hx hb dX1_knows_26 rfl (lv_at hl 0 rfl) ?_
      refine va_get (D := (dC, dI)) (ci := 1) (v := .ref q3) (C := RX1) (T := TX1) (N := 11) hx hb hts (by decide +kernel) hown hK hP 0 rfl rfl 3 (by decide) (hts (.fieldLink RX1 20 "GiftLotsModel" "hand" "[I") (by decide +kernel)) (fun _ h9 => h9) rfl dX1_knows_27 ?_
      refine lv_iload_n hx hb dX1_knows_30 rfl (lv_at hl 1 rfl) ?_
      obtain ⟨hi31, hf⟩ := z_gx_some hf
      refine va_iald hx hb hK hP 2 0 rfl rfl hi31 dX1_knows_31 ?_
      obtain ⟨u32, hu32, hf⟩ := z_ob_some hf
      have hPc := hP.sub (ws' := (wX1 cy h q2 q3 q6 q7 q10 c0 c1 c2 c3 c4 c5 c6 c7 c8 c9 c10)) [0, 1, 2, 3, 4, 5] rfl
      have hDc := hD.sub (ws' := (wX1 cy h q2 q3 q6 q7 q10 c0 c1 c2 c3 c4 c5 c6 c7 c8 c9 c10)) [0, 1, 2, 3, 4, 5] (by decide) rfl
      have hKc := hK.sub (tys' := [(cy, .int)]) [0] rfl
      have hFc := va_free (wc := (wX1 cy h q2 q3 q6 q7 q10 c0 c1 c2 c3 c4 c5 c6 c7 c8 c9 c10)) hD hS hA [0, 1, 2, 3, 4, 5] rfl
      refine va_calli (va_runV (As := [.int a1, .int (c3 (a1).toNatClampNeg)]) (rest := []) ⟨hx, hb, hml, hown, hts⟩ (c_X1_waysWith N l dC dI cy h q2 q3 q6 q7 q10 H.size c0 c1 c2 c3 c4 c5 c6 c7 c8 c9 c10 a1 (c3 (a1).toNatClampNeg) u32 hu32) (cwV 2 hts gX1_knows_X1_waysWith rfl rfl rfl (by decide +kernel) ⟨Nat.le_of_ble_eq_true rfl, Nat.le_of_ble_eq_true rfl⟩) ⟨fun a U g mk q => by obtain ⟨q0, q1, qP, qK, qD⟩ := q; exact ⟨q0, q1, qP, va_K.moved (u := U) (U := U.calling g mk a) (Vm.Alike.refl U.vm) qK, qD⟩, va_recv hKc hPc (ci := 1) (q0 := 0) rfl rfl, fun U hU hW => ⟨rfl, by rw [hU], by rw [hU]; exact hPc, va_K.moved hW.alike hKc, hDc.weaken (fun _ _ _ _ => trivial)⟩⟩ rfl rfl hl.1 rfl (lv_room (Nat.le_of_ble_eq_true rfl)) dX1_knows_32 ⟨Nat.zero_le _, Nat.zero_le _⟩) hS (fun q _ h => hFc q h) hFc (fun r_32 uu_ t H1 locs ht hvm hw hB hz1 hk1 hS => ?_)
      replace hw := hw.symm
      subst hw
      obtain ⟨hP1, -, hD1⟩ := hB
      rw [ht] at hP1
      obtain ⟨hP, hD⟩ := va_join (wr := []) (w1 := (wX1 cy h q2 q3 q6 q7 q10 c0 c1 c2 c3 u32.2.1 u32.2.2.1 u32.2.2.2 c7 c8 c9 c10)) hP hD [0, 1, 2, 3, 4, 5] [] rfl rfl (by decide) (by decide) hk1 hFc hP1 hD1
      clear hk1 hz1 hP1 hD1 ht hPc hDc hFc
      generalize H1 = H at hP hS ⊢
      have hP : va_P (dC, dI) vwCl (wX1 cy h q2 q3 q6 q7 q10 c0 c1 c2 c3 u32.2.1 u32.2.2.1 u32.2.2.2 c7 c8 c9 c10) H := hP
      have hD : va_D A (wX1 cy h q2 q3 q6 q7 q10 c0 c1 c2 c3 u32.2.1 u32.2.2.1 u32.2.2.2 c7 c8 c9 c10) := hD
      have hres := Option.some.inj hf
      subst hres
      have hP9 := hP.sub (ws' := (wX1 cy h q2 q3 q6 q7 q10 c0 c1 c2 c3 u32.2.1 u32.2.2.1 u32.2.2.2 c7 c8 c9 c10)) [0, 1, 2, 3, 4, 5] rfl
      have hD9 := hD.sub (ws' := (wX1 cy h q2 q3 q6 q7 q10 c0 c1 c2 c3 u32.2.1 u32.2.2.1 u32.2.2.2 c7 c8 c9 c10)) [0, 1, 2, 3, 4, 5] (by decide) rfl
      have hK9 := hK.sub (tys' := [(cy, .int)]) [0] rfl
      exact W.iret (v := u32.1) hx hb hr (fun t ht hW => ⟨⟨u32.1, (), rfl, rfl, by rw [ht]; exact hP9, va_K.moved hW.alike hK9, hD9⟩, hS.F ht⟩) hS.2.2 dX1_knows_35
    · replace hf := (if_neg c_16).symm.trans hf
      refine lv_bipush (v := (-3 : Int32)) hx hb dX1_knows_19 (by decide) ?_
      refine lv_goto (tgt := 35) hx hb dX1_knows_21 (by decide) ?_
      have hres := Option.some.inj hf
      subst hres
      have hP9 := hP.sub (ws' := (wX1 cy h q2 q3 q6 q7 q10 c0 c1 c2 c3 c4 c5 c6 c7 c8 c9 c10)) [0, 1, 2, 3, 4, 5] rfl
      have hD9 := hD.sub (ws' := (wX1 cy h q2 q3 q6 q7 q10 c0 c1 c2 c3 c4 c5 c6 c7 c8 c9 c10)) [0, 1, 2, 3, 4, 5] (by decide) rfl
      have hK9 := hK.sub (tys' := [(cy, .int)]) [0] rfl
      exact W.iret (v := (-3 : Int32)) hx hb hr (fun t ht hW => ⟨⟨(-3 : Int32), (), rfl, rfl, by rw [ht]; exact hP9, va_K.moved hW.alike hK9, hD9⟩, hS.F ht⟩) hS.2.2 dX1_knows_35
  · replace hf := (if_pos c_5).symm.trans hf
    refine lv_iconst (v := (-1 : Int32)) hx hb dX1_knows_8 (by decide) ?_
    have hres := Option.some.inj hf
    subst hres
    have hP9 := hP.sub (ws' := (wX1 cy h q2 q3 q6 q7 q10 c0 c1 c2 c3 c4 c5 c6 c7 c8 c9 c10)) [0, 1, 2, 3, 4, 5] rfl
    have hD9 := hD.sub (ws' := (wX1 cy h q2 q3 q6 q7 q10 c0 c1 c2 c3 c4 c5 c6 c7 c8 c9 c10)) [0, 1, 2, 3, 4, 5] (by decide) rfl
    have hK9 := hK.sub (tys' := [(cy, .int)]) [0] rfl
    exact W.iret (v := (-1 : Int32)) hx hb hr (fun t ht hW => ⟨⟨(-1 : Int32), (), rfl, rfl, by rw [ht]; exact hP9, va_K.moved hW.alike hK9, hD9⟩, hS.F ht⟩) hS.2.2 dX1_knows_9

set_option maxRecDepth 20000 in
theorem ggX1_sure_X1_isOne : GoodIn wsX1_sure wsX1_isOne := goodIn_r _ [7, 8, 9, 10, 6, 11, 44, 45, 46, 47, 48, 49, 50, 51, 52, 53, 54] (by decide +kernel) (by decide +kernel)
set_option maxRecDepth 20000 in
theorem gX1_sure_X1_isOne : GoodIn wsX1_sure (wsV RX1 39 RX1 yX1_isOne wsX1_isOne) := goodIn_app (goodIn_of _ (by decide +kernel)) ggX1_sure_X1_isOne
set_option maxRecDepth 20000 in
theorem ggX1_sure_X1_all : GoodIn wsX1_sure wsX1_all := goodIn_r _ [15, 8, 44, 45, 46, 47, 48, 49, 50, 51, 52, 53, 54] (by decide +kernel) (by decide +kernel)
set_option maxRecDepth 20000 in
theorem gX1_sure_X1_all : GoodIn wsX1_sure (wsV RX1 69 RX1 yX1_all wsX1_all) := goodIn_app (goodIn_of _ (by decide +kernel)) ggX1_sure_X1_all
set_option maxRecDepth 20000 in
theorem ggX1_sure_X1_start : GoodIn wsX1_sure wsX1_start := goodIn_r _ [19, 20, 21, 2, 44, 45, 46, 47, 48, 49, 50, 51, 52, 53, 54] (by decide +kernel) (by decide +kernel)
set_option maxRecDepth 20000 in
theorem gX1_sure_X1_start : GoodIn wsX1_sure (wsV RX1 72 RX1 yX1_start wsX1_start) := goodIn_app (goodIn_of _ (by decide +kernel)) ggX1_sure_X1_start
set_option maxRecDepth 20000 in
theorem ggX1_sure_X1_next : GoodIn wsX1_sure wsX1_next := goodIn_r _ [25, 8, 2, 26, 20, 21, 27, 28, 29, 6, 30, 9, 10, 11, 31, 32, 33, 34, 35, 36, 37, 38, 39, 40, 41, 42, 43, 44, 45, 46, 47, 48, 49, 50, 51, 52, 53, 54] (by decide +kernel) (by decide +kernel)
set_option maxRecDepth 20000 in
theorem gX1_sure_X1_next : GoodIn wsX1_sure (wsV RX1 76 RX1 yX1_next wsX1_next) := goodIn_app (goodIn_of _ (by decide +kernel)) ggX1_sure_X1_next
theorem dX1_sure_0 : decode cX1_sure 0 = .ok (.aload_n 0, 1) := by decide +kernel
theorem dX1_sure_1 : decode cX1_sure 1 = .ok (.iload_n 1, 1) := by decide +kernel
theorem dX1_sure_2 : decode cX1_sure 2 = .ok (.invokevirtual 39, 3) := by decide +kernel
theorem dX1_sure_5 : decode cX1_sure 5 = .ok (.ifCond .eq 11, 3) := by decide +kernel
theorem dX1_sure_8 : decode cX1_sure 8 = .ok (.aload_n 0, 1) := by decide +kernel
theorem dX1_sure_9 : decode cX1_sure 9 = .ok (.iload_n 2, 1) := by decide +kernel
theorem dX1_sure_10 : decode cX1_sure 10 = .ok (.invokevirtual 39, 3) := by decide +kernel
theorem dX1_sure_13 : decode cX1_sure 13 = .ok (.ifCond .ne 5, 3) := by decide +kernel
theorem dX1_sure_16 : decode cX1_sure 16 = .ok (.iconst (-1), 1) := by decide +kernel
theorem dX1_sure_17 : decode cX1_sure 17 = .ok (.ireturn, 1) := by decide +kernel
theorem dX1_sure_18 : decode cX1_sure 18 = .ok (.aload_n 0, 1) := by decide +kernel
theorem dX1_sure_19 : decode cX1_sure 19 = .ok (.getfield 20, 3) := by decide +kernel
theorem dX1_sure_22 : decode cX1_sure 22 = .ok (.iload_n 1, 1) := by decide +kernel
theorem dX1_sure_23 : decode cX1_sure 23 = .ok (.iaload, 1) := by decide +kernel
theorem dX1_sure_24 : decode cX1_sure 24 = .ok (.ifCond .ge 6, 3) := by decide +kernel
theorem dX1_sure_27 : decode cX1_sure 27 = .ok (.bipush (-3), 2) := by decide +kernel
theorem dX1_sure_29 : decode cX1_sure 29 = .ok (.ireturn, 1) := by decide +kernel
theorem dX1_sure_30 : decode cX1_sure 30 = .ok (.aload_n 0, 1) := by decide +kernel
theorem dX1_sure_31 : decode cX1_sure 31 = .ok (.aload_n 0, 1) := by decide +kernel
theorem dX1_sure_32 : decode cX1_sure 32 = .ok (.invokevirtual 69, 3) := by decide +kernel
theorem dX1_sure_35 : decode cX1_sure 35 = .ok (.iconst 0, 1) := by decide +kernel
theorem dX1_sure_36 : decode cX1_sure 36 = .ok (.invokevirtual 72, 3) := by decide +kernel
theorem dX1_sure_39 : decode cX1_sure 39 = .ok (.bipush (-6), 2) := by decide +kernel
theorem dX1_sure_41 : decode cX1_sure 41 = .ok (.istore_n 3, 1) := by decide +kernel
theorem dX1_sure_42 : decode cX1_sure 42 = .ok (.iconst 1, 1) := by decide +kernel
theorem dX1_sure_43 : decode cX1_sure 43 = .ok (.istore 4, 2) := by decide +kernel
theorem dX1_sure_45 : decode cX1_sure 45 = .ok (.aload_n 0, 1) := by decide +kernel
theorem dX1_sure_46 : decode cX1_sure 46 = .ok (.invokevirtual 76, 3) := by decide +kernel
theorem dX1_sure_49 : decode cX1_sure 49 = .ok (.ifCond .eq 56, 3) := by decide +kernel
theorem dX1_sure_52 : decode cX1_sure 52 = .ok (.aload_n 0, 1) := by decide +kernel
theorem dX1_sure_53 : decode cX1_sure 53 = .ok (.getfield 23, 3) := by decide +kernel
theorem dX1_sure_56 : decode cX1_sure 56 = .ok (.iload_n 1, 1) := by decide +kernel
theorem dX1_sure_57 : decode cX1_sure 57 = .ok (.iaload, 1) := by decide +kernel
theorem dX1_sure_58 : decode cX1_sure 58 = .ok (.aload_n 0, 1) := by decide +kernel
theorem dX1_sure_59 : decode cX1_sure 59 = .ok (.getfield 20, 3) := by decide +kernel
theorem dX1_sure_62 : decode cX1_sure 62 = .ok (.iload_n 1, 1) := by decide +kernel
theorem dX1_sure_63 : decode cX1_sure 63 = .ok (.iaload, 1) := by decide +kernel
theorem dX1_sure_64 : decode cX1_sure 64 = .ok (.if_icmp .ne (-19), 3) := by decide +kernel
theorem dX1_sure_67 : decode cX1_sure 67 = .ok (.iload 4, 2) := by decide +kernel
theorem dX1_sure_69 : decode cX1_sure 69 = .ok (.ifCond .eq 23, 3) := by decide +kernel
theorem dX1_sure_72 : decode cX1_sure 72 = .ok (.iload_n 3, 1) := by decide +kernel
theorem dX1_sure_73 : decode cX1_sure 73 = .ok (.bipush (-6), 2) := by decide +kernel
theorem dX1_sure_75 : decode cX1_sure 75 = .ok (.if_icmp .eq 13, 3) := by decide +kernel
theorem dX1_sure_78 : decode cX1_sure 78 = .ok (.iload_n 3, 1) := by decide +kernel
theorem dX1_sure_79 : decode cX1_sure 79 = .ok (.aload_n 0, 1) := by decide +kernel
theorem dX1_sure_80 : decode cX1_sure 80 = .ok (.getfield 23, 3) := by decide +kernel
theorem dX1_sure_83 : decode cX1_sure 83 = .ok (.iload_n 2, 1) := by decide +kernel
theorem dX1_sure_84 : decode cX1_sure 84 = .ok (.iaload, 1) := by decide +kernel
theorem dX1_sure_85 : decode cX1_sure 85 = .ok (.if_icmp .ne 7, 3) := by decide +kernel
theorem dX1_sure_88 : decode cX1_sure 88 = .ok (.iconst 1, 1) := by decide +kernel
theorem dX1_sure_89 : decode cX1_sure 89 = .ok (.goto 4, 3) := by decide +kernel
theorem dX1_sure_92 : decode cX1_sure 92 = .ok (.iconst 0, 1) := by decide +kernel
theorem dX1_sure_93 : decode cX1_sure 93 = .ok (.istore 4, 2) := by decide +kernel
theorem dX1_sure_95 : decode cX1_sure 95 = .ok (.aload_n 0, 1) := by decide +kernel
theorem dX1_sure_96 : decode cX1_sure 96 = .ok (.getfield 23, 3) := by decide +kernel
theorem dX1_sure_99 : decode cX1_sure 99 = .ok (.iload_n 2, 1) := by decide +kernel
theorem dX1_sure_100 : decode cX1_sure 100 = .ok (.iaload, 1) := by decide +kernel
theorem dX1_sure_101 : decode cX1_sure 101 = .ok (.istore_n 3, 1) := by decide +kernel
theorem dX1_sure_102 : decode cX1_sure 102 = .ok (.goto (-57), 3) := by decide +kernel
theorem dX1_sure_105 : decode cX1_sure 105 = .ok (.iload_n 3, 1) := by decide +kernel
theorem dX1_sure_106 : decode cX1_sure 106 = .ok (.bipush (-6), 2) := by decide +kernel
theorem dX1_sure_108 : decode cX1_sure 108 = .ok (.if_icmp .ne 8, 3) := by decide +kernel
theorem dX1_sure_111 : decode cX1_sure 111 = .ok (.bipush (-5), 2) := by decide +kernel
theorem dX1_sure_113 : decode cX1_sure 113 = .ok (.goto 13, 3) := by decide +kernel
theorem dX1_sure_116 : decode cX1_sure 116 = .ok (.iload 4, 2) := by decide +kernel
theorem dX1_sure_118 : decode cX1_sure 118 = .ok (.ifCond .eq 7, 3) := by decide +kernel
theorem dX1_sure_121 : decode cX1_sure 121 = .ok (.iconst 1, 1) := by decide +kernel
theorem dX1_sure_122 : decode cX1_sure 122 = .ok (.goto 4, 3) := by decide +kernel
theorem dX1_sure_125 : decode cX1_sure 125 = .ok (.iconst 0, 1) := by decide +kernel
theorem dX1_sure_126 : decode cX1_sure 126 = .ok (.ireturn, 1) := by decide +kernel
abbrev rm_X1_sure : Room := { frames := 3, cells := 0, slots := 0, locals := 70 }
set_option maxHeartbeats 4000000 in
set_option maxRecDepth 100000 in
theorem c_X1_sure (N : Nat) (l : Launch) (dC : Nat → ClassId) (dI : Nat → Nat → Nat) (cy : ClassId) (h q2 q3 q6 q7 q10 : Nat) (sz : Nat) (c0 : Int32) (c1 : Int32) (c2 : Nat → Int32) (c3 : Nat → Int32) (c4 : Int32) (c5 : Int32) (c6 : Nat → Int32) (c7 : Nat → Int32) (c8 : Int32) (c9 : Int32) (c10 : Nat → Int32) (a1 a2 : Int32) (res : Int32 × Int32 × Int32 × (Nat → Int32)) (hf : f_X1_sure N a1 a2 c0 c1 c2 c3 c4 c5 c6 = some res) : Met l yX1_sure wsX1_sure rm_X1_sure (va_Pc [.ref h, .int a1, .int a2] (fun U => U.heap.size = sz ∧ va_P (dC, dI) vwCl (wX1 cy h q2 q3 q6 q7 q10 c0 c1 c2 c3 c4 c5 c6 c7 c8 c9 c10) U.heap ∧ va_K (dC, dI) vwCl [(cy, .int)] U ∧ va_D (fun _ => True) (wX1 cy h q2 q3 q6 q7 q10 c0 c1 c2 c3 c4 c5 c6 c7 c8 c9 c10))) (z_qI dC dI cy res.1 (wX1 cy h q2 q3 q6 q7 q10 c0 c1 c2 c3 res.2.1 res.2.2.1 res.2.2.2 c7 c8 c9 c10) (va_A (wX1 cy h q2 q3 q6 q7 q10 c0 c1 c2 c3 c4 c5 c6 c7 c8 c9 c10) sz)) 0 0 (va_A (wX1 cy h q2 q3 q6 q7 q10 c0 c1 c2 c3 c4 c5 c6 c7 c8 c9 c10) sz) := by
  refine Met.ofW (cc := cX1_sure) (maxL := 5) (ret := (some .int)) (by decide) rfl ?_
  intro p e s m args below meth c s₁ B hml hv
  obtain ⟨rfl, hsz, hP, hK, hD0⟩ := hv
  have hx := B.exec
  have hb := B.bytes
  have hr := B.returns
  have hts := atoms_spec (ws := wsX1_sure) B.pre
  have hown : s.vm.findClass RX1 = some m.cls := findClass_of_methodNamed B.named
  have hlocks := B.notSynchronized
  subst hsz
  have hD := hD0.self (sz := s.heap.size)
  generalize hAe : va_A (wX1 cy h q2 q3 q6 q7 q10 c0 c1 c2 c3 c4 c5 c6 c7 c8 c9 c10) s.heap.size = A at hD ⊢
  have hA : ∀ q : Nat, s.heap.size ≤ q → A q := fun q h => by rw [← hAe]; exact Or.inr h
  have hS : va_S A s.heap s.heap [] := va_S.rf
  have hP : va_P (dC, dI) vwCl (wX1 cy h q2 q3 q6 q7 q10 c0 c1 c2 c3 c4 c5 c6 c7 c8 c9 c10) s.heap := hP
  have hl := lv_entry ([.ref h, .int a1, .int a2]) (n := 5) (Nat.le_of_ble_eq_true rfl)
  rw [lg_entry_eq]
  generalize (lg_sl ([.ref h, .int a1, .int a2]) ++ List.replicate (5 - (lg_sl ([.ref h, .int a1, .int a2])).length) Slot.unset).toArray = ls at hl ⊢
  have hl : lv_has ls 5 [(0, .ref h), (1, .int a1), (2, .int a2)] := hl
  have B93 : ∀ (r45 : Int32 → Int32 → Int32 → Int32 → Int32 → Int32 → (Nat → Int32) → Option (Int32 × Int32 × Int32 × (Nat → Int32))), (∀ (x1 x2 x3 x4 : Int32) (c4 : Int32) (c5 : Int32) (c6 : Nat → Int32) (H : Heap) (locs : List Loc) (ls : Array Slot), r45 x1 x2 x3 x4 c4 c5 c6 = some res → va_P (dC, dI) vwCl (wX1 cy h q2 q3 q6 q7 q10 c0 c1 c2 c3 c4 c5 c6 c7 c8 c9 c10) H → va_D A (wX1 cy h q2 q3 q6 q7 q10 c0 c1 c2 c3 c4 c5 c6 c7 c8 c9 c10) → va_S A s.heap H locs → lv_has ls 5 [(0, .ref h), (1, .int x1), (2, .int x2), (3, .int x3), (4, .int x4)] → W p l e rm_X1_sure s m ([.ref h, .int a1, .int a2] : List Value).toArray below meth c H locs 0 0 (MQ below (z_qI dC dI cy res.1 (wX1 cy h q2 q3 q6 q7 q10 c0 c1 c2 c3 res.2.1 res.2.2.1 res.2.2.2 c7 c8 c9 c10) A) ([.ref h, .int a1, .int a2] : List Value).toArray s 0 0 A) (F0 m 45 ls [])) → ∀ (x1 x2 t0 : Int32) (c4 : Int32) (c5 : Int32) (c6 : Nat → Int32) (H : Heap) (locs : List Loc) (ls : Array Slot), f_X1_sure_b93 N c0 c1 c2 c3 r45 x1 x2 t0 c4 c5 c6 = some res → va_P (dC, dI) vwCl (wX1 cy h q2 q3 q6 q7 q10 c0 c1 c2 c3 c4 c5 c6 c7 c8 c9 c10) H → va_D A (wX1 cy h q2 q3 q6 q7 q10 c0 c1 c2 c3 c4 c5 c6 c7 c8 c9 c10) → va_S A s.heap H locs → lv_has ls 5 [(0, .ref h), (1, .int x1), (2, .int x2)] → W p l e rm_X1_sure s m ([.ref h, .int a1, .int a2] : List Value).toArray below meth c H locs 0 0 (MQ below (z_qI dC dI cy res.1 (wX1 cy h q2 q3 q6 q7 q10 c0 c1 c2 c3 res.2.1 res.2.2.1 res.2.2.2 c7 c8 c9 c10) A) ([.ref h, .int a1, .int a2] : List Value).toArray s 0 0 A) (F0 m 93 ls [.int t0]) := by
    clear hf hl hP hD hS
    intro r45 hr45
    intro x1 x2 t0 c4 c5 c6 H locs ls hf hP hD hS hl
    unfold f_X1_sure_b93 at hf
    refine lv_istore (lv' := [(4, .int t0), (0, .ref h), (1, .int x1), (2, .int x2)]) hx hb dX1_sure_93 hl (by decide) rfl (fun ls hl => ?_)
    refine lv_aload_n hx hb dX1_sure_95 rfl (lv_at hl 1 rfl) ?_
    refine va_get (D := (dC, dI)) (ci := 1) (v := .ref q6) (C := RX1) (T := TX1) (N := 11) hx hb hts (by decide +kernel) hown hK hP 0 rfl rfl 6 (by decide) (hts (.fieldLink RX1 23 "GiftLotsModel" "gives" "[I") (by decide +kernel)) (fun _ h9 => h9) rfl dX1_sure_96 ?_
    refine lv_iload_n hx hb dX1_sure_99 rfl (lv_at hl 3 rfl) ?_
    obtain ⟨hi100, hf⟩ := z_gx_some hf
    refine va_iald hx hb hK hP 3 0 rfl rfl hi100 dX1_sure_100 ?_
    refine lv_istore_n (lv' := [(3, .int (c6 (x2).toNatClampNeg)), (4, .int t0), (0, .ref h), (1, .int x1), (2, .int x2)]) hx hb dX1_sure_101 rfl hl (by decide) rfl (fun ls hl => ?_)
    refine lv_goto (tgt := 45) hx hb dX1_sure_102 (by decide) ?_
    exact hr45 x1 x2 (c6 (x2).toNatClampNeg) t0 c4 c5 c6 _ _ _ hf hP hD hS (lv_sub hl [2, 3, 4, 0, 1] rfl)
  have B92 : ∀ (r45 : Int32 → Int32 → Int32 → Int32 → Int32 → Int32 → (Nat → Int32) → Option (Int32 × Int32 × Int32 × (Nat → Int32))), (∀ (x1 x2 x3 x4 : Int32) (c4 : Int32) (c5 : Int32) (c6 : Nat → Int32) (H : Heap) (locs : List Loc) (ls : Array Slot), r45 x1 x2 x3 x4 c4 c5 c6 = some res → va_P (dC, dI) vwCl (wX1 cy h q2 q3 q6 q7 q10 c0 c1 c2 c3 c4 c5 c6 c7 c8 c9 c10) H → va_D A (wX1 cy h q2 q3 q6 q7 q10 c0 c1 c2 c3 c4 c5 c6 c7 c8 c9 c10) → va_S A s.heap H locs → lv_has ls 5 [(0, .ref h), (1, .int x1), (2, .int x2), (3, .int x3), (4, .int x4)] → W p l e rm_X1_sure s m ([.ref h, .int a1, .int a2] : List Value).toArray below meth c H locs 0 0 (MQ below (z_qI dC dI cy res.1 (wX1 cy h q2 q3 q6 q7 q10 c0 c1 c2 c3 res.2.1 res.2.2.1 res.2.2.2 c7 c8 c9 c10) A) ([.ref h, .int a1, .int a2] : List Value).toArray s 0 0 A) (F0 m 45 ls [])) → ∀ (x1 x2 : Int32) (c4 : Int32) (c5 : Int32) (c6 : Nat → Int32) (H : Heap) (locs : List Loc) (ls : Array Slot), f_X1_sure_b92 N c0 c1 c2 c3 r45 x1 x2 c4 c5 c6 = some res → va_P (dC, dI) vwCl (wX1 cy h q2 q3 q6 q7 q10 c0 c1 c2 c3 c4 c5 c6 c7 c8 c9 c10) H → va_D A (wX1 cy h q2 q3 q6 q7 q10 c0 c1 c2 c3 c4 c5 c6 c7 c8 c9 c10) → va_S A s.heap H locs → lv_has ls 5 [(0, .ref h), (1, .int x1), (2, .int x2)] → W p l e rm_X1_sure s m ([.ref h, .int a1, .int a2] : List Value).toArray below meth c H locs 0 0 (MQ below (z_qI dC dI cy res.1 (wX1 cy h q2 q3 q6 q7 q10 c0 c1 c2 c3 res.2.1 res.2.2.1 res.2.2.2 c7 c8 c9 c10) A) ([.ref h, .int a1, .int a2] : List Value).toArray s 0 0 A) (F0 m 92 ls []) := by
    clear hf hl hP hD hS
    intro r45 hr45
    intro x1 x2 c4 c5 c6 H locs ls hf hP hD hS hl
    unfold f_X1_sure_b92 at hf
    refine lv_iconst (v := (0 : Int32)) hx hb dX1_sure_92 (by decide) ?_
    exact B93 r45 hr45 x1 x2 (0 : Int32) c4 c5 c6 _ _ _ hf hP hD hS (lv_sub hl [0, 1, 2] rfl)
  have B88 : ∀ (r45 : Int32 → Int32 → Int32 → Int32 → Int32 → Int32 → (Nat → Int32) → Option (Int32 × Int32 × Int32 × (Nat → Int32))), (∀ (x1 x2 x3 x4 : Int32) (c4 : Int32) (c5 : Int32) (c6 : Nat → Int32) (H : Heap) (locs : List Loc) (ls : Array Slot), r45 x1 x2 x3 x4 c4 c5 c6 = some res → va_P (dC, dI) vwCl (wX1 cy h q2 q3 q6 q7 q10 c0 c1 c2 c3 c4 c5 c6 c7 c8 c9 c10) H → va_D A (wX1 cy h q2 q3 q6 q7 q10 c0 c1 c2 c3 c4 c5 c6 c7 c8 c9 c10) → va_S A s.heap H locs → lv_has ls 5 [(0, .ref h), (1, .int x1), (2, .int x2), (3, .int x3), (4, .int x4)] → W p l e rm_X1_sure s m ([.ref h, .int a1, .int a2] : List Value).toArray below meth c H locs 0 0 (MQ below (z_qI dC dI cy res.1 (wX1 cy h q2 q3 q6 q7 q10 c0 c1 c2 c3 res.2.1 res.2.2.1 res.2.2.2 c7 c8 c9 c10) A) ([.ref h, .int a1, .int a2] : List Value).toArray s 0 0 A) (F0 m 45 ls [])) → ∀ (x1 x2 : Int32) (c4 : Int32) (c5 : Int32) (c6 : Nat → Int32) (H : Heap) (locs : List Loc) (ls : Array Slot), f_X1_sure_b88 N c0 c1 c2 c3 r45 x1 x2 c4 c5 c6 = some res → va_P (dC, dI) vwCl (wX1 cy h q2 q3 q6 q7 q10 c0 c1 c2 c3 c4 c5 c6 c7 c8 c9 c10) H → va_D A (wX1 cy h q2 q3 q6 q7 q10 c0 c1 c2 c3 c4 c5 c6 c7 c8 c9 c10) → va_S A s.heap H locs → lv_has ls 5 [(0, .ref h), (1, .int x1), (2, .int x2)] → W p l e rm_X1_sure s m ([.ref h, .int a1, .int a2] : List Value).toArray below meth c H locs 0 0 (MQ below (z_qI dC dI cy res.1 (wX1 cy h q2 q3 q6 q7 q10 c0 c1 c2 c3 res.2.1 res.2.2.1 res.2.2.2 c7 c8 c9 c10) A) ([.ref h, .int a1, .int a2] : List Value).toArray s 0 0 A) (F0 m 88 ls []) := by
    clear hf hl hP hD hS
    intro r45 hr45
    intro x1 x2 c4 c5 c6 H locs ls hf hP hD hS hl
    unfold f_X1_sure_b88 at hf
    refine lv_iconst (v := (1 : Int32)) hx hb dX1_sure_88 (by decide) ?_
    refine lv_goto (tgt := 93) hx hb dX1_sure_89 (by decide) ?_
    exact B93 r45 hr45 x1 x2 (1 : Int32) c4 c5 c6 _ _ _ hf hP hD hS (lv_sub hl [0, 1, 2] rfl)
  have B45 : ∀ n : Nat, ∀ (x1 x2 x3 x4 : Int32) (c4 : Int32) (c5 : Int32) (c6 : Nat → Int32) (H : Heap) (locs : List Loc) (ls : Array Slot), f_X1_sure_b45 N c0 c1 c2 c3 n x1 x2 x3 x4 c4 c5 c6 = some res → va_P (dC, dI) vwCl (wX1 cy h q2 q3 q6 q7 q10 c0 c1 c2 c3 c4 c5 c6 c7 c8 c9 c10) H → va_D A (wX1 cy h q2 q3 q6 q7 q10 c0 c1 c2 c3 c4 c5 c6 c7 c8 c9 c10) → va_S A s.heap H locs → lv_has ls 5 [(0, .ref h), (1, .int x1), (2, .int x2), (3, .int x3), (4, .int x4)] → W p l e rm_X1_sure s m ([.ref h, .int a1, .int a2] : List Value).toArray below meth c H locs 0 0 (MQ below (z_qI dC dI cy res.1 (wX1 cy h q2 q3 q6 q7 q10 c0 c1 c2 c3 res.2.1 res.2.2.1 res.2.2.2 c7 c8 c9 c10) A) ([.ref h, .int a1, .int a2] : List Value).toArray s 0 0 A) (F0 m 45 ls []) := by
    clear hf hl hP hD hS
    intro n
    induction n with
    | zero =>
      intro x1 x2 x3 x4 c4 c5 c6 H locs ls hf hP hD hS hl
      rw [f_X1_sure_b45] at hf
      cases hf
    | succ n ih =>
      intro x1 x2 x3 x4 c4 c5 c6 H locs ls hf hP hD hS hl
      rw [f_X1_sure_b45] at hf
      refine lv_aload_n hx hb dX1_sure_45 rfl (lv_at hl 0 rfl) ?_
      obtain ⟨u46, hu46, hf⟩ := z_ob_some hf
      have hPc := hP.sub (ws' := (wX1 cy h q2 q3 q6 q7 q10 c0 c1 c2 c3 c4 c5 c6 c7 c8 c9 c10)) [0, 1, 2, 3, 4, 5] rfl
      have hDc := hD.sub (ws' := (wX1 cy h q2 q3 q6 q7 q10 c0 c1 c2 c3 c4 c5 c6 c7 c8 c9 c10)) [0, 1, 2, 3, 4, 5] (by decide) rfl
      have hKc := hK.sub (tys' := [(cy, .int)]) [0] rfl
      have hFc := va_free (wc := (wX1 cy h q2 q3 q6 q7 q10 c0 c1 c2 c3 c4 c5 c6 c7 c8 c9 c10)) hD hS hA [0, 1, 2, 3, 4, 5] rfl
      refine va_calli (va_runV (As := []) (rest := []) ⟨hx, hb, hml, hown, hts⟩ (c_X1_next N l dC dI cy h q2 q3 q6 q7 q10 H.size c0 c1 c2 c3 c4 c5 c6 c7 c8 c9 c10 u46 hu46) (cwV 0 hts gX1_sure_X1_next rfl rfl rfl (by decide +kernel) ⟨Nat.le_of_ble_eq_true rfl, Nat.le_of_ble_eq_true rfl⟩) ⟨fun a U g mk q => by obtain ⟨q0, q1, qP, qK, qD⟩ := q; exact ⟨q0, q1, qP, va_K.moved (u := U) (U := U.calling g mk a) (Vm.Alike.refl U.vm) qK, qD⟩, va_recv hKc hPc (ci := 1) (q0 := 0) rfl rfl, fun U hU hW => ⟨rfl, by rw [hU], by rw [hU]; exact hPc, va_K.moved hW.alike hKc, hDc.weaken (fun _ _ _ _ => trivial)⟩⟩ rfl rfl hl.1 rfl (lv_room (Nat.le_of_ble_eq_true rfl)) dX1_sure_46 ⟨Nat.zero_le _, Nat.zero_le _⟩) hS (fun q _ h => hFc q h) hFc (fun r_46 uu_ t H1 locs ht hvm hw hB hz1 hk1 hS => ?_)
      replace hw := hw.symm
      subst hw
      obtain ⟨hP1, -, hD1⟩ := hB
      rw [ht] at hP1
      obtain ⟨hP, hD⟩ := va_join (wr := []) (w1 := (wX1 cy h q2 q3 q6 q7 q10 c0 c1 c2 c3 c4 c5 u46.2 c7 c8 c9 c10)) hP hD [0, 1, 2, 3, 4, 5] [] rfl rfl (by decide) (by decide) hk1 hFc hP1 hD1
      clear hk1 hz1 hP1 hD1 ht hPc hDc hFc
      generalize H1 = H at hP hS ⊢
      have hP : va_P (dC, dI) vwCl (wX1 cy h q2 q3 q6 q7 q10 c0 c1 c2 c3 c4 c5 u46.2 c7 c8 c9 c10) H := hP
      have hD : va_D A (wX1 cy h q2 q3 q6 q7 q10 c0 c1 c2 c3 c4 c5 u46.2 c7 c8 c9 c10) := hD
      refine lv_if_eq (tgt := 105) hx hb dX1_sure_49 (by decide) (fun c_49 => ?_) (fun c_49 => ?_)
      · replace hf := (if_pos c_49).symm.trans hf
        refine lv_iload_n hx hb dX1_sure_105 rfl (lv_at hl 3 rfl) ?_
        refine lv_bipush (v := (-6 : Int32)) hx hb dX1_sure_106 (by decide) ?_
        refine lv_icmp_ne (tgt := 116) hx hb dX1_sure_108 (by decide) (fun c_108 => ?_) (fun c_108 => ?_)
        · replace hf := (if_neg c_108).symm.trans hf
          refine lv_iload hx hb dX1_sure_116 (lv_at hl 4 rfl) ?_
          refine lv_if_eq (tgt := 125) hx hb dX1_sure_118 (by decide) (fun c_118 => ?_) (fun c_118 => ?_)
          · replace hf := (if_pos c_118).symm.trans hf
            refine lv_iconst (v := (0 : Int32)) hx hb dX1_sure_125 (by decide) ?_
            have hres := Option.some.inj hf
            subst hres
            have hP9 := hP.sub (ws' := (wX1 cy h q2 q3 q6 q7 q10 c0 c1 c2 c3 c4 c5 u46.2 c7 c8 c9 c10)) [0, 1, 2, 3, 4, 5] rfl
            have hD9 := hD.sub (ws' := (wX1 cy h q2 q3 q6 q7 q10 c0 c1 c2 c3 c4 c5 u46.2 c7 c8 c9 c10)) [0, 1, 2, 3, 4, 5] (by decide) rfl
            have hK9 := hK.sub (tys' := [(cy, .int)]) [0] rfl
            exact W.iret (v := (0 : Int32)) hx hb hr (fun t ht hW => ⟨⟨(0 : Int32), (), rfl, rfl, by rw [ht]; exact hP9, va_K.moved hW.alike hK9, hD9⟩, hS.F ht⟩) hS.2.2 dX1_sure_126
          · replace hf := (if_neg c_118).symm.trans hf
            refine lv_iconst (v := (1 : Int32)) hx hb dX1_sure_121 (by decide) ?_
            refine lv_goto (tgt := 126) hx hb dX1_sure_122 (by decide) ?_
            have hres := Option.some.inj hf
            subst hres
            have hP9 := hP.sub (ws' := (wX1 cy h q2 q3 q6 q7 q10 c0 c1 c2 c3 c4 c5 u46.2 c7 c8 c9 c10)) [0, 1, 2, 3, 4, 5] rfl
            have hD9 := hD.sub (ws' := (wX1 cy h q2 q3 q6 q7 q10 c0 c1 c2 c3 c4 c5 u46.2 c7 c8 c9 c10)) [0, 1, 2, 3, 4, 5] (by decide) rfl
            have hK9 := hK.sub (tys' := [(cy, .int)]) [0] rfl
            exact W.iret (v := (1 : Int32)) hx hb hr (fun t ht hW => ⟨⟨(1 : Int32), (), rfl, rfl, by rw [ht]; exact hP9, va_K.moved hW.alike hK9, hD9⟩, hS.F ht⟩) hS.2.2 dX1_sure_126
        · replace hf := (if_pos c_108).symm.trans hf
          refine lv_bipush (v := (-5 : Int32)) hx hb dX1_sure_111 (by decide) ?_
          refine lv_goto (tgt := 126) hx hb dX1_sure_113 (by decide) ?_
          have hres := Option.some.inj hf
          subst hres
          have hP9 := hP.sub (ws' := (wX1 cy h q2 q3 q6 q7 q10 c0 c1 c2 c3 c4 c5 u46.2 c7 c8 c9 c10)) [0, 1, 2, 3, 4, 5] rfl
          have hD9 := hD.sub (ws' := (wX1 cy h q2 q3 q6 q7 q10 c0 c1 c2 c3 c4 c5 u46.2 c7 c8 c9 c10)) [0, 1, 2, 3, 4, 5] (by decide) rfl
          have hK9 := hK.sub (tys' := [(cy, .int)]) [0] rfl
          exact W.iret (v := (-5 : Int32)) hx hb hr (fun t ht hW => ⟨⟨(-5 : Int32), (), rfl, rfl, by rw [ht]; exact hP9, va_K.moved hW.alike hK9, hD9⟩, hS.F ht⟩) hS.2.2 dX1_sure_126
      · replace hf := (if_neg c_49).symm.trans hf
        refine lv_aload_n hx hb dX1_sure_52 rfl (lv_at hl 0 rfl) ?_
        refine va_get (D := (dC, dI)) (ci := 1) (v := .ref q6) (C := RX1) (T := TX1) (N := 11) hx hb hts (by decide +kernel) hown hK hP 0 rfl rfl 6 (by decide) (hts (.fieldLink RX1 23 "GiftLotsModel" "gives" "[I") (by decide +kernel)) (fun _ h9 => h9) rfl dX1_sure_53 ?_
        refine lv_iload_n hx hb dX1_sure_56 rfl (lv_at hl 1 rfl) ?_
        obtain ⟨hi57, hf⟩ := z_gx_some hf
        refine va_iald hx hb hK hP 3 0 rfl rfl hi57 dX1_sure_57 ?_
        refine lv_aload_n hx hb dX1_sure_58 rfl (lv_at hl 0 rfl) ?_
        refine va_get (D := (dC, dI)) (ci := 1) (v := .ref q3) (C := RX1) (T := TX1) (N := 11) hx hb hts (by decide +kernel) hown hK hP 0 rfl rfl 3 (by decide) (hts (.fieldLink RX1 20 "GiftLotsModel" "hand" "[I") (by decide +kernel)) (fun _ h9 => h9) rfl dX1_sure_59 ?_
        refine lv_iload_n hx hb dX1_sure_62 rfl (lv_at hl 1 rfl) ?_
        obtain ⟨hi63, hf⟩ := z_gx_some hf
        refine va_iald hx hb hK hP 2 0 rfl rfl hi63 dX1_sure_63 ?_
        refine lv_icmp_ne (tgt := 45) hx hb dX1_sure_64 (by decide) (fun c_64 => ?_) (fun c_64 => ?_)
        · replace hf := (if_neg c_64).symm.trans hf
          exact ih x1 x2 x3 x4 c4 c5 u46.2 _ _ _ hf hP hD hS (lv_sub hl [0, 1, 2, 3, 4] rfl)
        · replace hf := (if_pos c_64).symm.trans hf
          refine lv_iload hx hb dX1_sure_67 (lv_at hl 4 rfl) ?_
          refine lv_if_eq (tgt := 92) hx hb dX1_sure_69 (by decide) (fun c_69 => ?_) (fun c_69 => ?_)
          · replace hf := (if_pos c_69).symm.trans hf
            exact B92 (f_X1_sure_b45 N c0 c1 c2 c3 n) ih x1 x2 c4 c5 u46.2 _ _ _ hf hP hD hS (lv_sub hl [0, 1, 2] rfl)
          · replace hf := (if_neg c_69).symm.trans hf
            refine lv_iload_n hx hb dX1_sure_72 rfl (lv_at hl 3 rfl) ?_
            refine lv_bipush (v := (-6 : Int32)) hx hb dX1_sure_73 (by decide) ?_
            refine lv_icmp_eq (tgt := 88) hx hb dX1_sure_75 (by decide) (fun c_75 => ?_) (fun c_75 => ?_)
            · replace hf := (if_pos c_75).symm.trans hf
              exact B88 (f_X1_sure_b45 N c0 c1 c2 c3 n) ih x1 x2 c4 c5 u46.2 _ _ _ hf hP hD hS (lv_sub hl [0, 1, 2] rfl)
            · replace hf := (if_neg c_75).symm.trans hf
              refine lv_iload_n hx hb dX1_sure_78 rfl (lv_at hl 3 rfl) ?_
              refine lv_aload_n hx hb dX1_sure_79 rfl (lv_at hl 0 rfl) ?_
              refine va_get (D := (dC, dI)) (ci := 1) (v := .ref q6) (C := RX1) (T := TX1) (N := 11) hx hb hts (by decide +kernel) hown hK hP 0 rfl rfl 6 (by decide) (hts (.fieldLink RX1 23 "GiftLotsModel" "gives" "[I") (by decide +kernel)) (fun _ h9 => h9) rfl dX1_sure_80 ?_
              refine lv_iload_n hx hb dX1_sure_83 rfl (lv_at hl 2 rfl) ?_
              obtain ⟨hi84, hf⟩ := z_gx_some hf
              refine va_iald hx hb hK hP 3 0 rfl rfl hi84 dX1_sure_84 ?_
              refine lv_icmp_ne (tgt := 92) hx hb dX1_sure_85 (by decide) (fun c_85 => ?_) (fun c_85 => ?_)
              · replace hf := (if_neg c_85).symm.trans hf
                exact B92 (f_X1_sure_b45 N c0 c1 c2 c3 n) ih x1 x2 c4 c5 u46.2 _ _ _ hf hP hD hS (lv_sub hl [0, 1, 2] rfl)
              · replace hf := (if_pos c_85).symm.trans hf
                exact B88 (f_X1_sure_b45 N c0 c1 c2 c3 n) ih x1 x2 c4 c5 u46.2 _ _ _ hf hP hD hS (lv_sub hl [0, 1, 2] rfl)
  unfold f_X1_sure at hf
  refine lv_aload_n hx hb dX1_sure_0 rfl (lv_at hl 0 rfl) ?_
  refine lv_iload_n hx hb dX1_sure_1 rfl (lv_at hl 1 rfl) ?_
  obtain ⟨u2, hu2, hf⟩ := z_ob_some hf
  have hPc := hP.sub (ws' := (wX1 cy h q2 q3 q6 q7 q10 c0 c1 c2 c3 c4 c5 c6 c7 c8 c9 c10)) [0, 1, 2, 3, 4, 5] rfl
  have hDc := hD.sub (ws' := (wX1 cy h q2 q3 q6 q7 q10 c0 c1 c2 c3 c4 c5 c6 c7 c8 c9 c10)) [0, 1, 2, 3, 4, 5] (by decide) rfl
  have hKc := hK.sub (tys' := [(cy, .int)]) [0] rfl
  have hFc := va_free (wc := (wX1 cy h q2 q3 q6 q7 q10 c0 c1 c2 c3 c4 c5 c6 c7 c8 c9 c10)) hD hS hA [0, 1, 2, 3, 4, 5] rfl
  refine va_calli (va_runV (As := [.int a1]) (rest := []) ⟨hx, hb, hml, hown, hts⟩ (c_X1_isOne N l dC dI cy h q2 q3 q6 q7 q10 s.heap.size c0 c1 c2 c3 c4 c5 c6 c7 c8 c9 c10 a1 u2 hu2) (cwV 1 hts gX1_sure_X1_isOne rfl rfl rfl (by decide +kernel) ⟨Nat.le_of_ble_eq_true rfl, Nat.le_of_ble_eq_true rfl⟩) ⟨fun a U g mk q => by obtain ⟨q0, q1, qP, qK, qD⟩ := q; exact ⟨q0, q1, qP, va_K.moved (u := U) (U := U.calling g mk a) (Vm.Alike.refl U.vm) qK, qD⟩, va_recv hKc hPc (ci := 1) (q0 := 0) rfl rfl, fun U hU hW => ⟨rfl, by rw [hU], by rw [hU]; exact hPc, va_K.moved hW.alike hKc, hDc.weaken (fun _ _ _ _ => trivial)⟩⟩ rfl rfl hl.1 rfl (lv_room (Nat.le_of_ble_eq_true rfl)) dX1_sure_2 ⟨Nat.zero_le _, Nat.zero_le _⟩) hS (fun q _ h => hFc q h) hFc (fun r_2 uu_ t H1 locs ht hvm hw hB hz1 hk1 hS => ?_)
  replace hw := hw.symm
  subst hw
  obtain ⟨hP1, -, hD1⟩ := hB
  rw [ht] at hP1
  obtain ⟨hP, hD⟩ := va_join (wr := []) (w1 := (wX1 cy h q2 q3 q6 q7 q10 c0 c1 c2 c3 c4 c5 c6 c7 c8 c9 c10)) hP hD [0, 1, 2, 3, 4, 5] [] rfl rfl (by decide) (by decide) hk1 hFc hP1 hD1
  clear hk1 hz1 hP1 hD1 ht hPc hDc hFc
  generalize H1 = H at hP hS ⊢
  have hP : va_P (dC, dI) vwCl (wX1 cy h q2 q3 q6 q7 q10 c0 c1 c2 c3 c4 c5 c6 c7 c8 c9 c10) H := hP
  have hD : va_D A (wX1 cy h q2 q3 q6 q7 q10 c0 c1 c2 c3 c4 c5 c6 c7 c8 c9 c10) := hD
  refine lv_if_eq (tgt := 16) hx hb dX1_sure_5 (by decide) (fun c_5 => ?_) (fun c_5 => ?_)
  · replace hf := (if_pos c_5).symm.trans hf
    refine lv_iconst (v := (-1 : Int32)) hx hb dX1_sure_16 (by decide) ?_
    have hres := Option.some.inj hf
    subst hres
    have hP9 := hP.sub (ws' := (wX1 cy h q2 q3 q6 q7 q10 c0 c1 c2 c3 c4 c5 c6 c7 c8 c9 c10)) [0, 1, 2, 3, 4, 5] rfl
    have hD9 := hD.sub (ws' := (wX1 cy h q2 q3 q6 q7 q10 c0 c1 c2 c3 c4 c5 c6 c7 c8 c9 c10)) [0, 1, 2, 3, 4, 5] (by decide) rfl
    have hK9 := hK.sub (tys' := [(cy, .int)]) [0] rfl
    exact W.iret (v := (-1 : Int32)) hx hb hr (fun t ht hW => ⟨⟨(-1 : Int32), (), rfl, rfl, by rw [ht]; exact hP9, va_K.moved hW.alike hK9, hD9⟩, hS.F ht⟩) hS.2.2 dX1_sure_17
  · replace hf := (if_neg c_5).symm.trans hf
    refine lv_aload_n hx hb dX1_sure_8 rfl (lv_at hl 0 rfl) ?_
    refine lv_iload_n hx hb dX1_sure_9 rfl (lv_at hl 2 rfl) ?_
    obtain ⟨u10, hu10, hf⟩ := z_ob_some hf
    have hPc := hP.sub (ws' := (wX1 cy h q2 q3 q6 q7 q10 c0 c1 c2 c3 c4 c5 c6 c7 c8 c9 c10)) [0, 1, 2, 3, 4, 5] rfl
    have hDc := hD.sub (ws' := (wX1 cy h q2 q3 q6 q7 q10 c0 c1 c2 c3 c4 c5 c6 c7 c8 c9 c10)) [0, 1, 2, 3, 4, 5] (by decide) rfl
    have hKc := hK.sub (tys' := [(cy, .int)]) [0] rfl
    have hFc := va_free (wc := (wX1 cy h q2 q3 q6 q7 q10 c0 c1 c2 c3 c4 c5 c6 c7 c8 c9 c10)) hD hS hA [0, 1, 2, 3, 4, 5] rfl
    refine va_calli (va_runV (As := [.int a2]) (rest := []) ⟨hx, hb, hml, hown, hts⟩ (c_X1_isOne N l dC dI cy h q2 q3 q6 q7 q10 H.size c0 c1 c2 c3 c4 c5 c6 c7 c8 c9 c10 a2 u10 hu10) (cwV 1 hts gX1_sure_X1_isOne rfl rfl rfl (by decide +kernel) ⟨Nat.le_of_ble_eq_true rfl, Nat.le_of_ble_eq_true rfl⟩) ⟨fun a U g mk q => by obtain ⟨q0, q1, qP, qK, qD⟩ := q; exact ⟨q0, q1, qP, va_K.moved (u := U) (U := U.calling g mk a) (Vm.Alike.refl U.vm) qK, qD⟩, va_recv hKc hPc (ci := 1) (q0 := 0) rfl rfl, fun U hU hW => ⟨rfl, by rw [hU], by rw [hU]; exact hPc, va_K.moved hW.alike hKc, hDc.weaken (fun _ _ _ _ => trivial)⟩⟩ rfl rfl hl.1 rfl (lv_room (Nat.le_of_ble_eq_true rfl)) dX1_sure_10 ⟨Nat.zero_le _, Nat.zero_le _⟩) hS (fun q _ h => hFc q h) hFc (fun r_10 uu_ t H1 locs ht hvm hw hB hz1 hk1 hS => ?_)
    replace hw := hw.symm
    subst hw
    obtain ⟨hP1, -, hD1⟩ := hB
    rw [ht] at hP1
    obtain ⟨hP, hD⟩ := va_join (wr := []) (w1 := (wX1 cy h q2 q3 q6 q7 q10 c0 c1 c2 c3 c4 c5 c6 c7 c8 c9 c10)) hP hD [0, 1, 2, 3, 4, 5] [] rfl rfl (by decide) (by decide) hk1 hFc hP1 hD1
    clear hk1 hz1 hP1 hD1 ht hPc hDc hFc
    generalize H1 = H at hP hS ⊢
    have hP : va_P (dC, dI) vwCl (wX1 cy h q2 q3 q6 q7 q10 c0 c1 c2 c3 c4 c5 c6 c7 c8 c9 c10) H := hP
    have hD : va_D A (wX1 cy h q2 q3 q6 q7 q10 c0 c1 c2 c3 c4 c5 c6 c7 c8 c9 c10) := hD
    refine lv_if_ne (tgt := 18) hx hb dX1_sure_13 (by decide) (fun c_13 => ?_) (fun c_13 => ?_)
    · replace hf := (if_neg c_13).symm.trans hf
      refine lv_aload_n hx hb dX1_sure_18 rfl (lv_at hl 0 rfl) ?_
      refine va_get (D := (dC, dI)) (ci := 1) (v := .ref q3) (C := RX1) (T := TX1) (N := 11) hx hb hts (by decide +kernel) hown hK hP 0 rfl rfl 3 (by decide) (hts (.fieldLink RX1 20 "GiftLotsModel" "hand" "[I") (by decide +kernel)) (fun _ h9 => h9) rfl dX1_sure_19 ?_
      refine lv_iload_n hx hb dX1_sure_22 rfl (lv_at hl 1 rfl) ?_
      obtain ⟨hi23, hf⟩ := z_gx_some hf
      refine va_iald hx hb hK hP 2 0 rfl rfl hi23 dX1_sure_23 ?_
      refine lv_if_ge (tgt := 30) hx hb dX1_sure_24 (by decide) (fun c_24 => ?_) (fun c_24 => ?_)
      · replace hf := (if_pos c_24).symm.trans hf
        refine lv_aload_n hx hb dX1_sure_30 rfl (lv_at hl 0 rfl) ?_
        refine lv_aload_n hx hb dX1_sure_31 rfl (lv_at hl 0 rfl) ?_
        obtain ⟨u32, hu32, hf⟩ := z_ob_some hf
        have hPc := hP.sub (ws' := (wX1 cy h q2 q3 q6 q7 q10 c0 c1 c2 c3 c4 c5 c6 c7 c8 c9 c10)) [0, 1, 2, 3, 4, 5] rfl
        have hDc := hD.sub (ws' := (wX1 cy h q2 q3 q6 q7 q10 c0 c1 c2 c3 c4 c5 c6 c7 c8 c9 c10)) [0, 1, 2, 3, 4, 5] (by decide) rfl
        have hKc := hK.sub (tys' := [(cy, .int)]) [0] rfl
        have hFc := va_free (wc := (wX1 cy h q2 q3 q6 q7 q10 c0 c1 c2 c3 c4 c5 c6 c7 c8 c9 c10)) hD hS hA [0, 1, 2, 3, 4, 5] rfl
        refine va_calli (va_runV (As := []) (rest := [.ref h]) ⟨hx, hb, hml, hown, hts⟩ (c_X1_all N l dC dI cy h q2 q3 q6 q7 q10 H.size c0 c1 c2 c3 c4 c5 c6 c7 c8 c9 c10 u32 hu32) (cwV 0 hts gX1_sure_X1_all rfl rfl rfl (by decide +kernel) ⟨Nat.le_of_ble_eq_true rfl, Nat.le_of_ble_eq_true rfl⟩) ⟨fun a U g mk q => by obtain ⟨q0, q1, qP, qK, qD⟩ := q; exact ⟨q0, q1, qP, va_K.moved (u := U) (U := U.calling g mk a) (Vm.Alike.refl U.vm) qK, qD⟩, va_recv hKc hPc (ci := 1) (q0 := 0) rfl rfl, fun U hU hW => ⟨rfl, by rw [hU], by rw [hU]; exact hPc, va_K.moved hW.alike hKc, hDc.weaken (fun _ _ _ _ => trivial)⟩⟩ rfl rfl hl.1 rfl (lv_room (Nat.le_of_ble_eq_true rfl)) dX1_sure_32 ⟨Nat.zero_le _, Nat.zero_le _⟩) hS (fun q _ h => hFc q h) hFc (fun r_32 uu_ t H1 locs ht hvm hw hB hz1 hk1 hS => ?_)
        replace hw := hw.symm
        subst hw
        obtain ⟨hP1, -, hD1⟩ := hB
        rw [ht] at hP1
        obtain ⟨hP, hD⟩ := va_join (wr := []) (w1 := (wX1 cy h q2 q3 q6 q7 q10 c0 c1 c2 c3 c4 c5 c6 c7 c8 c9 c10)) hP hD [0, 1, 2, 3, 4, 5] [] rfl rfl (by decide) (by decide) hk1 hFc hP1 hD1
        clear hk1 hz1 hP1 hD1 ht hPc hDc hFc
        generalize H1 = H at hP hS ⊢
        have hP : va_P (dC, dI) vwCl (wX1 cy h q2 q3 q6 q7 q10 c0 c1 c2 c3 c4 c5 c6 c7 c8 c9 c10) H := hP
        have hD : va_D A (wX1 cy h q2 q3 q6 q7 q10 c0 c1 c2 c3 c4 c5 c6 c7 c8 c9 c10) := hD
        refine lv_iconst (v := (0 : Int32)) hx hb dX1_sure_35 (by decide) ?_
        obtain ⟨u36, hu36, hf⟩ := z_ob_some hf
        have hPc := hP.sub (ws' := (wX1 cy h q2 q3 q6 q7 q10 c0 c1 c2 c3 c4 c5 c6 c7 c8 c9 c10)) [0, 1, 2, 3, 4, 5] rfl
        have hDc := hD.sub (ws' := (wX1 cy h q2 q3 q6 q7 q10 c0 c1 c2 c3 c4 c5 c6 c7 c8 c9 c10)) [0, 1, 2, 3, 4, 5] (by decide) rfl
        have hKc := hK.sub (tys' := [(cy, .int)]) [0] rfl
        have hFc := va_free (wc := (wX1 cy h q2 q3 q6 q7 q10 c0 c1 c2 c3 c4 c5 c6 c7 c8 c9 c10)) hD hS hA [0, 1, 2, 3, 4, 5] rfl
        refine va_callv (va_runV (As := [.int u32, .int (0 : Int32)]) (rest := []) ⟨hx, hb, hml, hown, hts⟩ (c_X1_start N l dC dI cy h q2 q3 q6 q7 q10 H.size c0 c1 c2 c3 c4 c5 c6 c7 c8 c9 c10 u32 (0 : Int32) u36 hu36) (cwV 2 hts gX1_sure_X1_start rfl rfl rfl (by decide +kernel) ⟨Nat.le_of_ble_eq_true rfl, Nat.le_of_ble_eq_true rfl⟩) ⟨fun a U g mk q => by obtain ⟨q0, q1, qP, qK, qD⟩ := q; exact ⟨q0, q1, qP, va_K.moved (u := U) (U := U.calling g mk a) (Vm.Alike.refl U.vm) qK, qD⟩, va_recv hKc hPc (ci := 1) (q0 := 0) rfl rfl, fun U hU hW => ⟨rfl, by rw [hU], by rw [hU]; exact hPc, va_K.moved hW.alike hKc, hDc.weaken (fun _ _ _ _ => trivial)⟩⟩ rfl rfl hl.1 rfl (lv_room (Nat.le_of_ble_eq_true rfl)) dX1_sure_36 ⟨Nat.zero_le _, Nat.zero_le _⟩) hS (fun q _ h => hFc q h) hFc (fun uu_ t H1 locs ht hvm hw hB hz1 hk1 hS => ?_)
        obtain ⟨hP1, -, hD1⟩ := hB
        rw [ht] at hP1
        obtain ⟨hP, hD⟩ := va_join (wr := []) (w1 := (wX1 cy h q2 q3 q6 q7 q10 c0 c1 c2 c3 u36.1 u36.2.1 u36.2.2 c7 c8 c9 c10)) hP hD [0, 1, 2, 3, 4, 5] [] rfl rfl (by decide) (by decide) hk1 hFc hP1 hD1
        clear hk1 hz1 hP1 hD1 ht hPc hDc hFc
        generalize H1 = H at hP hS ⊢
        have hP : va_P (dC, dI) vwCl (wX1 cy h q2 q3 q6 q7 q10 c0 c1 c2 c3 u36.1 u36.2.1 u36.2.2 c7 c8 c9 c10) H := hP
        have hD : va_D A (wX1 cy h q2 q3 q6 q7 q10 c0 c1 c2 c3 u36.1 u36.2.1 u36.2.2 c7 c8 c9 c10) := hD
        refine lv_bipush (v := (-6 : Int32)) hx hb dX1_sure_39 (by decide) ?_
        refine lv_istore_n (lv' := [(3, .int (-6 : Int32)), (0, .ref h), (1, .int a1), (2, .int a2)]) hx hb dX1_sure_41 rfl hl (by decide) rfl (fun ls hl => ?_)
        refine lv_iconst (v := (1 : Int32)) hx hb dX1_sure_42 (by decide) ?_
        refine lv_istore (lv' := [(4, .int (1 : Int32)), (3, .int (-6 : Int32)), (0, .ref h), (1, .int a1), (2, .int a2)]) hx hb dX1_sure_43 hl (by decide) rfl (fun ls hl => ?_)
        exact B45 N a1 a2 (-6 : Int32) (1 : Int32) u36.1 u36.2.1 u36.2.2 _ _ _ hf hP hD hS (lv_sub hl [2, 3, 4, 1, 0] rfl)
      · replace hf := (if_neg c_24).symm.trans hf
        refine lv_bipush (v := (-3 : Int32)) hx hb dX1_sure_27 (by decide) ?_
        have hres := Option.some.inj hf
        subst hres
        have hP9 := hP.sub (ws' := (wX1 cy h q2 q3 q6 q7 q10 c0 c1 c2 c3 c4 c5 c6 c7 c8 c9 c10)) [0, 1, 2, 3, 4, 5] rfl
        have hD9 := hD.sub (ws' := (wX1 cy h q2 q3 q6 q7 q10 c0 c1 c2 c3 c4 c5 c6 c7 c8 c9 c10)) [0, 1, 2, 3, 4, 5] (by decide) rfl
        have hK9 := hK.sub (tys' := [(cy, .int)]) [0] rfl
        exact W.iret (v := (-3 : Int32)) hx hb hr (fun t ht hW => ⟨⟨(-3 : Int32), (), rfl, rfl, by rw [ht]; exact hP9, va_K.moved hW.alike hK9, hD9⟩, hS.F ht⟩) hS.2.2 dX1_sure_29
    · replace hf := (if_pos c_13).symm.trans hf
      refine lv_iconst (v := (-1 : Int32)) hx hb dX1_sure_16 (by decide) ?_
      have hres := Option.some.inj hf
      subst hres
      have hP9 := hP.sub (ws' := (wX1 cy h q2 q3 q6 q7 q10 c0 c1 c2 c3 c4 c5 c6 c7 c8 c9 c10)) [0, 1, 2, 3, 4, 5] rfl
      have hD9 := hD.sub (ws' := (wX1 cy h q2 q3 q6 q7 q10 c0 c1 c2 c3 c4 c5 c6 c7 c8 c9 c10)) [0, 1, 2, 3, 4, 5] (by decide) rfl
      have hK9 := hK.sub (tys' := [(cy, .int)]) [0] rfl
      exact W.iret (v := (-1 : Int32)) hx hb hr (fun t ht hW => ⟨⟨(-1 : Int32), (), rfl, rfl, by rw [ht]; exact hP9, va_K.moved hW.alike hK9, hD9⟩, hS.F ht⟩) hS.2.2 dX1_sure_17

set_option maxRecDepth 20000 in
theorem ggX1_mendAll_X1_isOne : GoodIn wsX1_mendAll wsX1_isOne := goodIn_r _ [11, 3, 12, 13, 10, 14, 59, 60, 61, 62, 63, 64, 65, 66, 67, 68, 69] (by decide +kernel) (by decide +kernel)
set_option maxRecDepth 20000 in
theorem gX1_mendAll_X1_isOne : GoodIn wsX1_mendAll (wsV RX1 39 RX1 yX1_isOne wsX1_isOne) := goodIn_app (goodIn_of _ (by decide +kernel)) ggX1_mendAll_X1_isOne
set_option maxRecDepth 20000 in
theorem ggX1_mendAll_X1_rank : GoodIn wsX1_mendAll wsX1_rank := goodIn_r _ [18, 3, 19, 20, 21, 10, 22, 5, 23, 24, 25, 26, 27, 28, 29, 30, 31, 32, 4, 33, 34, 35, 36, 37, 38, 39, 40, 41, 12, 13, 14, 42, 43, 44, 45, 46, 47, 48, 49, 50, 51, 52, 53, 54, 55, 56, 57, 58, 59, 60, 61, 62, 63, 64, 65, 66, 67, 68, 69] (by decide +kernel) (by decide +kernel)
set_option maxRecDepth 20000 in
theorem gX1_mendAll_X1_rank : GoodIn wsX1_mendAll (wsV RX1 97 RX1 yX1_rank wsX1_rank) := goodIn_app (goodIn_of _ (by decide +kernel)) ggX1_mendAll_X1_rank
set_option maxRecDepth 20000 in
theorem ggX1_mendAll_X1_all : GoodIn wsX1_mendAll wsX1_all := goodIn_r _ [26, 3, 59, 60, 61, 62, 63, 64, 65, 66, 67, 68, 69] (by decide +kernel) (by decide +kernel)
set_option maxRecDepth 20000 in
theorem gX1_mendAll_X1_all : GoodIn wsX1_mendAll (wsV RX1 69 RX1 yX1_all wsX1_all) := goodIn_app (goodIn_of _ (by decide +kernel)) ggX1_mendAll_X1_all
set_option maxRecDepth 20000 in
theorem ggX1_mendAll_X1_start : GoodIn wsX1_mendAll wsX1_start := goodIn_r _ [30, 31, 32, 4, 59, 60, 61, 62, 63, 64, 65, 66, 67, 68, 69] (by decide +kernel) (by decide +kernel)
set_option maxRecDepth 20000 in
theorem gX1_mendAll_X1_start : GoodIn wsX1_mendAll (wsV RX1 72 RX1 yX1_start wsX1_start) := goodIn_app (goodIn_of _ (by decide +kernel)) ggX1_mendAll_X1_start
set_option maxRecDepth 20000 in
theorem ggX1_mendAll_X1_next : GoodIn wsX1_mendAll wsX1_next := goodIn_r _ [36, 3, 4, 37, 31, 32, 38, 39, 40, 10, 41, 12, 13, 14, 42, 43, 44, 45, 46, 47, 48, 49, 50, 51, 52, 53, 54, 59, 60, 61, 62, 63, 64, 65, 66, 67, 68, 69] (by decide +kernel) (by decide +kernel)
set_option maxRecDepth 20000 in
theorem gX1_mendAll_X1_next : GoodIn wsX1_mendAll (wsV RX1 76 RX1 yX1_next wsX1_next) := goodIn_app (goodIn_of _ (by decide +kernel)) ggX1_mendAll_X1_next
theorem dX1_mendAll_0 : decode cX1_mendAll 0 = .ok (.aload_n 0, 1) := by decide +kernel
theorem dX1_mendAll_1 : decode cX1_mendAll 1 = .ok (.iload_n 1, 1) := by decide +kernel
theorem dX1_mendAll_2 : decode cX1_mendAll 2 = .ok (.invokevirtual 39, 3) := by decide +kernel
theorem dX1_mendAll_5 : decode cX1_mendAll 5 = .ok (.ifCond .ne 5, 3) := by decide +kernel
theorem dX1_mendAll_8 : decode cX1_mendAll 8 = .ok (.iconst (-1), 1) := by decide +kernel
theorem dX1_mendAll_9 : decode cX1_mendAll 9 = .ok (.ireturn, 1) := by decide +kernel
theorem dX1_mendAll_10 : decode cX1_mendAll 10 = .ok (.aload_n 0, 1) := by decide +kernel
theorem dX1_mendAll_11 : decode cX1_mendAll 11 = .ok (.invokevirtual 97, 3) := by decide +kernel
theorem dX1_mendAll_14 : decode cX1_mendAll 14 = .ok (.istore_n 2, 1) := by decide +kernel
theorem dX1_mendAll_15 : decode cX1_mendAll 15 = .ok (.iload_n 2, 1) := by decide +kernel
theorem dX1_mendAll_16 : decode cX1_mendAll 16 = .ok (.ifCond .ge 5, 3) := by decide +kernel
theorem dX1_mendAll_19 : decode cX1_mendAll 19 = .ok (.iload_n 2, 1) := by decide +kernel
theorem dX1_mendAll_20 : decode cX1_mendAll 20 = .ok (.ireturn, 1) := by decide +kernel
theorem dX1_mendAll_21 : decode cX1_mendAll 21 = .ok (.aload_n 0, 1) := by decide +kernel
theorem dX1_mendAll_22 : decode cX1_mendAll 22 = .ok (.bipush (-6), 2) := by decide +kernel
theorem dX1_mendAll_24 : decode cX1_mendAll 24 = .ok (.putfield 100, 3) := by decide +kernel
theorem dX1_mendAll_27 : decode cX1_mendAll 27 = .ok (.aload_n 0, 1) := by decide +kernel
theorem dX1_mendAll_28 : decode cX1_mendAll 28 = .ok (.iconst 0, 1) := by decide +kernel
theorem dX1_mendAll_29 : decode cX1_mendAll 29 = .ok (.putfield 103, 3) := by decide +kernel
theorem dX1_mendAll_32 : decode cX1_mendAll 32 = .ok (.aload_n 0, 1) := by decide +kernel
theorem dX1_mendAll_33 : decode cX1_mendAll 33 = .ok (.aload_n 0, 1) := by decide +kernel
theorem dX1_mendAll_34 : decode cX1_mendAll 34 = .ok (.invokevirtual 69, 3) := by decide +kernel
theorem dX1_mendAll_37 : decode cX1_mendAll 37 = .ok (.iconst 1, 1) := by decide +kernel
theorem dX1_mendAll_38 : decode cX1_mendAll 38 = .ok (.iload_n 1, 1) := by decide +kernel
theorem dX1_mendAll_39 : decode cX1_mendAll 39 = .ok (.ishl, 1) := by decide +kernel
theorem dX1_mendAll_40 : decode cX1_mendAll 40 = .ok (.iconst (-1), 1) := by decide +kernel
theorem dX1_mendAll_41 : decode cX1_mendAll 41 = .ok (.ixor, 1) := by decide +kernel
theorem dX1_mendAll_42 : decode cX1_mendAll 42 = .ok (.iand, 1) := by decide +kernel
theorem dX1_mendAll_43 : decode cX1_mendAll 43 = .ok (.iconst 0, 1) := by decide +kernel
theorem dX1_mendAll_44 : decode cX1_mendAll 44 = .ok (.invokevirtual 72, 3) := by decide +kernel
theorem dX1_mendAll_47 : decode cX1_mendAll 47 = .ok (.aload_n 0, 1) := by decide +kernel
theorem dX1_mendAll_48 : decode cX1_mendAll 48 = .ok (.invokevirtual 76, 3) := by decide +kernel
theorem dX1_mendAll_51 : decode cX1_mendAll 51 = .ok (.ifCond .eq 136, 3) := by decide +kernel
theorem dX1_mendAll_54 : decode cX1_mendAll 54 = .ok (.iconst 0, 1) := by decide +kernel
theorem dX1_mendAll_55 : decode cX1_mendAll 55 = .ok (.istore_n 3, 1) := by decide +kernel
theorem dX1_mendAll_56 : decode cX1_mendAll 56 = .ok (.iconst 0, 1) := by decide +kernel
theorem dX1_mendAll_57 : decode cX1_mendAll 57 = .ok (.istore 4, 2) := by decide +kernel
theorem dX1_mendAll_59 : decode cX1_mendAll 59 = .ok (.iload 4, 2) := by decide +kernel
theorem dX1_mendAll_61 : decode cX1_mendAll 61 = .ok (.aload_n 0, 1) := by decide +kernel
theorem dX1_mendAll_62 : decode cX1_mendAll 62 = .ok (.getfield 7, 3) := by decide +kernel
theorem dX1_mendAll_65 : decode cX1_mendAll 65 = .ok (.if_icmp .ge 40, 3) := by decide +kernel
theorem dX1_mendAll_68 : decode cX1_mendAll 68 = .ok (.iload_n 3, 1) := by decide +kernel
theorem dX1_mendAll_69 : decode cX1_mendAll 69 = .ok (.iload 4, 2) := by decide +kernel
theorem dX1_mendAll_71 : decode cX1_mendAll 71 = .ok (.iload_n 1, 1) := by decide +kernel
theorem dX1_mendAll_72 : decode cX1_mendAll 72 = .ok (.if_icmp .eq 24, 3) := by decide +kernel
theorem dX1_mendAll_75 : decode cX1_mendAll 75 = .ok (.aload_n 0, 1) := by decide +kernel
theorem dX1_mendAll_76 : decode cX1_mendAll 76 = .ok (.getfield 23, 3) := by decide +kernel
theorem dX1_mendAll_79 : decode cX1_mendAll 79 = .ok (.iload 4, 2) := by decide +kernel
theorem dX1_mendAll_81 : decode cX1_mendAll 81 = .ok (.iaload, 1) := by decide +kernel
theorem dX1_mendAll_82 : decode cX1_mendAll 82 = .ok (.aload_n 0, 1) := by decide +kernel
theorem dX1_mendAll_83 : decode cX1_mendAll 83 = .ok (.getfield 20, 3) := by decide +kernel
theorem dX1_mendAll_86 : decode cX1_mendAll 86 = .ok (.iload 4, 2) := by decide +kernel
theorem dX1_mendAll_88 : decode cX1_mendAll 88 = .ok (.iaload, 1) := by decide +kernel
theorem dX1_mendAll_89 : decode cX1_mendAll 89 = .ok (.if_icmp .eq 7, 3) := by decide +kernel
theorem dX1_mendAll_92 : decode cX1_mendAll 92 = .ok (.iconst 1, 1) := by decide +kernel
theorem dX1_mendAll_93 : decode cX1_mendAll 93 = .ok (.goto 4, 3) := by decide +kernel
theorem dX1_mendAll_96 : decode cX1_mendAll 96 = .ok (.iconst 0, 1) := by decide +kernel
theorem dX1_mendAll_97 : decode cX1_mendAll 97 = .ok (.iadd, 1) := by decide +kernel
theorem dX1_mendAll_98 : decode cX1_mendAll 98 = .ok (.istore_n 3, 1) := by decide +kernel
theorem dX1_mendAll_99 : decode cX1_mendAll 99 = .ok (.iinc 4 1, 3) := by decide +kernel
theorem dX1_mendAll_102 : decode cX1_mendAll 102 = .ok (.goto (-43), 3) := by decide +kernel
theorem dX1_mendAll_105 : decode cX1_mendAll 105 = .ok (.aload_n 0, 1) := by decide +kernel
theorem dX1_mendAll_106 : decode cX1_mendAll 106 = .ok (.getfield 100, 3) := by decide +kernel
theorem dX1_mendAll_109 : decode cX1_mendAll 109 = .ok (.ifCond .lt 11, 3) := by decide +kernel
theorem dX1_mendAll_112 : decode cX1_mendAll 112 = .ok (.iload_n 3, 1) := by decide +kernel
theorem dX1_mendAll_113 : decode cX1_mendAll 113 = .ok (.aload_n 0, 1) := by decide +kernel
theorem dX1_mendAll_114 : decode cX1_mendAll 114 = .ok (.getfield 100, 3) := by decide +kernel
theorem dX1_mendAll_117 : decode cX1_mendAll 117 = .ok (.if_icmp .ge 45, 3) := by decide +kernel
theorem dX1_mendAll_120 : decode cX1_mendAll 120 = .ok (.aload_n 0, 1) := by decide +kernel
theorem dX1_mendAll_121 : decode cX1_mendAll 121 = .ok (.iload_n 3, 1) := by decide +kernel
theorem dX1_mendAll_122 : decode cX1_mendAll 122 = .ok (.putfield 100, 3) := by decide +kernel
theorem dX1_mendAll_125 : decode cX1_mendAll 125 = .ok (.aload_n 0, 1) := by decide +kernel
theorem dX1_mendAll_126 : decode cX1_mendAll 126 = .ok (.iconst 0, 1) := by decide +kernel
theorem dX1_mendAll_127 : decode cX1_mendAll 127 = .ok (.putfield 103, 3) := by decide +kernel
theorem dX1_mendAll_130 : decode cX1_mendAll 130 = .ok (.iconst 0, 1) := by decide +kernel
theorem dX1_mendAll_131 : decode cX1_mendAll 131 = .ok (.istore 4, 2) := by decide +kernel
theorem dX1_mendAll_133 : decode cX1_mendAll 133 = .ok (.iload 4, 2) := by decide +kernel
theorem dX1_mendAll_135 : decode cX1_mendAll 135 = .ok (.aload_n 0, 1) := by decide +kernel
theorem dX1_mendAll_136 : decode cX1_mendAll 136 = .ok (.getfield 7, 3) := by decide +kernel
theorem dX1_mendAll_139 : decode cX1_mendAll 139 = .ok (.if_icmp .ge 23, 3) := by decide +kernel
theorem dX1_mendAll_142 : decode cX1_mendAll 142 = .ok (.aload_n 0, 1) := by decide +kernel
theorem dX1_mendAll_143 : decode cX1_mendAll 143 = .ok (.getfield 29, 3) := by decide +kernel
theorem dX1_mendAll_146 : decode cX1_mendAll 146 = .ok (.iload 4, 2) := by decide +kernel
theorem dX1_mendAll_148 : decode cX1_mendAll 148 = .ok (.aload_n 0, 1) := by decide +kernel
theorem dX1_mendAll_149 : decode cX1_mendAll 149 = .ok (.getfield 23, 3) := by decide +kernel
theorem dX1_mendAll_152 : decode cX1_mendAll 152 = .ok (.iload 4, 2) := by decide +kernel
theorem dX1_mendAll_154 : decode cX1_mendAll 154 = .ok (.iaload, 1) := by decide +kernel
theorem dX1_mendAll_155 : decode cX1_mendAll 155 = .ok (.iastore, 1) := by decide +kernel
theorem dX1_mendAll_156 : decode cX1_mendAll 156 = .ok (.iinc 4 1, 3) := by decide +kernel
theorem dX1_mendAll_159 : decode cX1_mendAll 159 = .ok (.goto (-26), 3) := by decide +kernel
theorem dX1_mendAll_162 : decode cX1_mendAll 162 = .ok (.aload_n 0, 1) := by decide +kernel
theorem dX1_mendAll_163 : decode cX1_mendAll 163 = .ok (.dup, 1) := by decide +kernel
theorem dX1_mendAll_164 : decode cX1_mendAll 164 = .ok (.getfield 103, 3) := by decide +kernel
theorem dX1_mendAll_167 : decode cX1_mendAll 167 = .ok (.iload_n 3, 1) := by decide +kernel
theorem dX1_mendAll_168 : decode cX1_mendAll 168 = .ok (.aload_n 0, 1) := by decide +kernel
theorem dX1_mendAll_169 : decode cX1_mendAll 169 = .ok (.getfield 100, 3) := by decide +kernel
theorem dX1_mendAll_172 : decode cX1_mendAll 172 = .ok (.if_icmp .ne 7, 3) := by decide +kernel
theorem dX1_mendAll_175 : decode cX1_mendAll 175 = .ok (.iconst 1, 1) := by decide +kernel
theorem dX1_mendAll_176 : decode cX1_mendAll 176 = .ok (.goto 4, 3) := by decide +kernel
theorem dX1_mendAll_179 : decode cX1_mendAll 179 = .ok (.iconst 0, 1) := by decide +kernel
theorem dX1_mendAll_180 : decode cX1_mendAll 180 = .ok (.iadd, 1) := by decide +kernel
theorem dX1_mendAll_181 : decode cX1_mendAll 181 = .ok (.putfield 103, 3) := by decide +kernel
theorem dX1_mendAll_184 : decode cX1_mendAll 184 = .ok (.goto (-137), 3) := by decide +kernel
theorem dX1_mendAll_187 : decode cX1_mendAll 187 = .ok (.iconst 0, 1) := by decide +kernel
theorem dX1_mendAll_188 : decode cX1_mendAll 188 = .ok (.ireturn, 1) := by decide +kernel
abbrev rm_X1_mendAll : Room := { frames := 4, cells := 0, slots := 0, locals := 91 }
set_option maxHeartbeats 4000000 in
set_option maxRecDepth 100000 in
theorem c_X1_mendAll (N : Nat) (l : Launch) (dC : Nat → ClassId) (dI : Nat → Nat → Nat) (cy : ClassId) (h q2 q3 q6 q7 q10 : Nat) (sz : Nat) (c0 : Int32) (c1 : Int32) (c2 : Nat → Int32) (c3 : Nat → Int32) (c4 : Int32) (c5 : Int32) (c6 : Nat → Int32) (c7 : Nat → Int32) (c8 : Int32) (c9 : Int32) (c10 : Nat → Int32) (a1 : Int32) (res : Int32 × Int32 × Int32 × (Nat → Int32) × Int32 × Int32 × (Nat → Int32)) (hf : f_X1_mendAll N a1 c0 c1 c2 c3 c4 c5 c6 c8 c9 c10 = some res) : Met l yX1_mendAll wsX1_mendAll rm_X1_mendAll (va_Pc [.ref h, .int a1] (fun U => U.heap.size = sz ∧ va_P (dC, dI) vwCl (wX1 cy h q2 q3 q6 q7 q10 c0 c1 c2 c3 c4 c5 c6 c7 c8 c9 c10) U.heap ∧ va_K (dC, dI) vwCl [(cy, .int)] U ∧ va_D (fun _ => True) (wX1 cy h q2 q3 q6 q7 q10 c0 c1 c2 c3 c4 c5 c6 c7 c8 c9 c10))) (z_qI dC dI cy res.1 (wX1 cy h q2 q3 q6 q7 q10 c0 c1 c2 c3 res.2.1 res.2.2.1 res.2.2.2.1 c7 res.2.2.2.2.1 res.2.2.2.2.2.1 res.2.2.2.2.2.2) (va_A (wX1 cy h q2 q3 q6 q7 q10 c0 c1 c2 c3 c4 c5 c6 c7 c8 c9 c10) sz)) 0 0 (va_A (wX1 cy h q2 q3 q6 q7 q10 c0 c1 c2 c3 c4 c5 c6 c7 c8 c9 c10) sz) := by
  refine Met.ofW (cc := cX1_mendAll) (maxL := 5) (ret := (some .int)) (by decide) rfl ?_
  intro p e s m args below meth c s₁ B hml hv
  obtain ⟨rfl, hsz, hP, hK, hD0⟩ := hv
  have hx := B.exec
  have hb := B.bytes
  have hr := B.returns
  have hts := atoms_spec (ws := wsX1_mendAll) B.pre
  have hown : s.vm.findClass RX1 = some m.cls := findClass_of_methodNamed B.named
  have hlocks := B.notSynchronized
  subst hsz
  have hD := hD0.self (sz := s.heap.size)
  generalize hAe : va_A (wX1 cy h q2 q3 q6 q7 q10 c0 c1 c2 c3 c4 c5 c6 c7 c8 c9 c10) s.heap.size = A at hD ⊢
  have hA : ∀ q : Nat, s.heap.size ≤ q → A q := fun q h => by rw [← hAe]; exact Or.inr h
  have hS : va_S A s.heap s.heap [] := va_S.rf
  have hP : va_P (dC, dI) vwCl (wX1 cy h q2 q3 q6 q7 q10 c0 c1 c2 c3 c4 c5 c6 c7 c8 c9 c10) s.heap := hP
  have hl := lv_entry ([.ref h, .int a1]) (n := 5) (Nat.le_of_ble_eq_true rfl)
  rw [lg_entry_eq]
  generalize (lg_sl ([.ref h, .int a1]) ++ List.replicate (5 - (lg_sl ([.ref h, .int a1])).length) Slot.unset).toArray = ls at hl ⊢
  have hl : lv_has ls 5 [(0, .ref h), (1, .int a1)] := hl
  have B180 : ∀ (r47 : Int32 → Int32 → Int32 → (Nat → Int32) → Int32 → Int32 → (Nat → Int32) → Option (Int32 × Int32 × Int32 × (Nat → Int32) × Int32 × Int32 × (Nat → Int32))), (∀ (x1 : Int32) (c4 : Int32) (c5 : Int32) (c6 : Nat → Int32) (c8 : Int32) (c9 : Int32) (c10 : Nat → Int32) (H : Heap) (locs : List Loc) (ls : Array Slot), r47 x1 c4 c5 c6 c8 c9 c10 = some res → va_P (dC, dI) vwCl (wX1 cy h q2 q3 q6 q7 q10 c0 c1 c2 c3 c4 c5 c6 c7 c8 c9 c10) H → va_D A (wX1 cy h q2 q3 q6 q7 q10 c0 c1 c2 c3 c4 c5 c6 c7 c8 c9 c10) → va_S A s.heap H locs → lv_has ls 5 [(0, .ref h), (1, .int x1)] → W p l e rm_X1_mendAll s m ([.ref h, .int a1] : List Value).toArray below meth c H locs 0 0 (MQ below (z_qI dC dI cy res.1 (wX1 cy h q2 q3 q6 q7 q10 c0 c1 c2 c3 res.2.1 res.2.2.1 res.2.2.2.1 c7 res.2.2.2.2.1 res.2.2.2.2.2.1 res.2.2.2.2.2.2) A) ([.ref h, .int a1] : List Value).toArray s 0 0 A) (F0 m 47 ls [])) → ∀ (x1 t1 t2 : Int32) (c4 : Int32) (c5 : Int32) (c6 : Nat → Int32) (c8 : Int32) (c9 : Int32) (c10 : Nat → Int32) (H : Heap) (locs : List Loc) (ls : Array Slot), f_X1_mendAll_b180 N c0 c1 c2 c3 r47 x1 t1 t2 c4 c5 c6 c8 c9 c10 = some res → va_P (dC, dI) vwCl (wX1 cy h q2 q3 q6 q7 q10 c0 c1 c2 c3 c4 c5 c6 c7 c8 c9 c10) H → va_D A (wX1 cy h q2 q3 q6 q7 q10 c0 c1 c2 c3 c4 c5 c6 c7 c8 c9 c10) → va_S A s.heap H locs → lv_has ls 5 [(0, .ref h), (1, .int x1)] → W p l e rm_X1_mendAll s m ([.ref h, .int a1] : List Value).toArray below meth c H locs 0 0 (MQ below (z_qI dC dI cy res.1 (wX1 cy h q2 q3 q6 q7 q10 c0 c1 c2 c3 res.2.1 res.2.2.1 res.2.2.2.1 c7 res.2.2.2.2.1 res.2.2.2.2.2.1 res.2.2.2.2.2.2) A) ([.ref h, .int a1] : List Value).toArray s 0 0 A) (F0 m 180 ls [.int t2, .int t1, .ref h]) := by
    clear hf hl hP hD hS
    intro r47 hr47
    intro x1 t1 t2 c4 c5 c6 c8 c9 c10 H locs ls hf hP hD hS hl
    unfold f_X1_mendAll_b180 at hf
    refine lv_iadd hx hb dX1_mendAll_180 ?_
    refine va_put (D := (dC, dI)) (ci := 1) (v := .int (t1 + t2)) (ty := .int) (C := RX1) (T := TX1) (N := 11) hx hb hts (by decide +kernel) tyX1 tyX1_ok nmX1 hown hK hP hD hS 0 rfl rfl 9 (by decide) (hts (.fieldLink RX1 103 "GiftLotsModel" "many" "I") (by decide +kernel)) (fun _ h9 => h9) rfl (by decide +kernel) rfl rfl (Nat.le_of_ble_eq_true rfl) dX1_mendAll_181 (fun H locs hP hD hS => ?_)
    have hP : va_P (dC, dI) vwCl (wX1 cy h q2 q3 q6 q7 q10 c0 c1 c2 c3 c4 c5 c6 c7 c8 (t1 + t2) c10) H := hP
    have hD : va_D A (wX1 cy h q2 q3 q6 q7 q10 c0 c1 c2 c3 c4 c5 c6 c7 c8 (t1 + t2) c10) := hD
    refine lv_goto (tgt := 47) hx hb dX1_mendAll_184 (by decide) ?_
    exact hr47 x1 c4 c5 c6 c8 (t1 + t2) c10 _ _ _ hf hP hD hS (lv_sub hl [0, 1] rfl)
  have B162 : ∀ (r47 : Int32 → Int32 → Int32 → (Nat → Int32) → Int32 → Int32 → (Nat → Int32) → Option (Int32 × Int32 × Int32 × (Nat → Int32) × Int32 × Int32 × (Nat → Int32))), (∀ (x1 : Int32) (c4 : Int32) (c5 : Int32) (c6 : Nat → Int32) (c8 : Int32) (c9 : Int32) (c10 : Nat → Int32) (H : Heap) (locs : List Loc) (ls : Array Slot), r47 x1 c4 c5 c6 c8 c9 c10 = some res → va_P (dC, dI) vwCl (wX1 cy h q2 q3 q6 q7 q10 c0 c1 c2 c3 c4 c5 c6 c7 c8 c9 c10) H → va_D A (wX1 cy h q2 q3 q6 q7 q10 c0 c1 c2 c3 c4 c5 c6 c7 c8 c9 c10) → va_S A s.heap H locs → lv_has ls 5 [(0, .ref h), (1, .int x1)] → W p l e rm_X1_mendAll s m ([.ref h, .int a1] : List Value).toArray below meth c H locs 0 0 (MQ below (z_qI dC dI cy res.1 (wX1 cy h q2 q3 q6 q7 q10 c0 c1 c2 c3 res.2.1 res.2.2.1 res.2.2.2.1 c7 res.2.2.2.2.1 res.2.2.2.2.2.1 res.2.2.2.2.2.2) A) ([.ref h, .int a1] : List Value).toArray s 0 0 A) (F0 m 47 ls [])) → ∀ (x1 x3 : Int32) (c4 : Int32) (c5 : Int32) (c6 : Nat → Int32) (c8 : Int32) (c9 : Int32) (c10 : Nat → Int32) (H : Heap) (locs : List Loc) (ls : Array Slot), f_X1_mendAll_b162 N c0 c1 c2 c3 r47 x1 x3 c4 c5 c6 c8 c9 c10 = some res → va_P (dC, dI) vwCl (wX1 cy h q2 q3 q6 q7 q10 c0 c1 c2 c3 c4 c5 c6 c7 c8 c9 c10) H → va_D A (wX1 cy h q2 q3 q6 q7 q10 c0 c1 c2 c3 c4 c5 c6 c7 c8 c9 c10) → va_S A s.heap H locs → lv_has ls 5 [(0, .ref h), (1, .int x1), (3, .int x3)] → W p l e rm_X1_mendAll s m ([.ref h, .int a1] : List Value).toArray below meth c H locs 0 0 (MQ below (z_qI dC dI cy res.1 (wX1 cy h q2 q3 q6 q7 q10 c0 c1 c2 c3 res.2.1 res.2.2.1 res.2.2.2.1 c7 res.2.2.2.2.1 res.2.2.2.2.2.1 res.2.2.2.2.2.2) A) ([.ref h, .int a1] : List Value).toArray s 0 0 A) (F0 m 162 ls []) := by
    clear hf hl hP hD hS
    intro r47 hr47
    intro x1 x3 c4 c5 c6 c8 c9 c10 H locs ls hf hP hD hS hl
    unfold f_X1_mendAll_b162 at hf
    refine lv_aload_n hx hb dX1_mendAll_162 rfl (lv_at hl 0 rfl) ?_
    refine lv_dup hx hb dX1_mendAll_163 rfl ?_
    refine va_get (D := (dC, dI)) (ci := 1) (v := .int c9) (C := RX1) (T := TX1) (N := 11) hx hb hts (by decide +kernel) hown hK hP 0 rfl rfl 9 (by decide) (hts (.fieldLink RX1 103 "GiftLotsModel" "many" "I") (by decide +kernel)) (fun _ h9 => h9) rfl dX1_mendAll_164 ?_
    refine lv_iload_n hx hb dX1_mendAll_167 rfl (lv_at hl 2 rfl) ?_
    refine lv_aload_n hx hb dX1_mendAll_168 rfl (lv_at hl 0 rfl) ?_
    refine va_get (D := (dC, dI)) (ci := 1) (v := .int c8) (C := RX1) (T := TX1) (N := 11) hx hb hts (by decide +kernel) hown hK hP 0 rfl rfl 8 (by decide) (hts (.fieldLink RX1 100 "GiftLotsModel" "fewest" "I") (by decide +kernel)) (fun _ h9 => h9) rfl dX1_mendAll_169 ?_
    refine lv_icmp_ne (tgt := 179) hx hb dX1_mendAll_172 (by decide) (fun c_172 => ?_) (fun c_172 => ?_)
    · replace hf := (if_neg c_172).symm.trans hf
      refine lv_iconst (v := (0 : Int32)) hx hb dX1_mendAll_179 (by decide) ?_
      exact B180 r47 hr47 x1 c9 (0 : Int32) c4 c5 c6 c8 c9 c10 _ _ _ hf hP hD hS (lv_sub hl [0, 1] rfl)
    · replace hf := (if_pos c_172).symm.trans hf
      refine lv_iconst (v := (1 : Int32)) hx hb dX1_mendAll_175 (by decide) ?_
      refine lv_goto (tgt := 180) hx hb dX1_mendAll_176 (by decide) ?_
      exact B180 r47 hr47 x1 c9 (1 : Int32) c4 c5 c6 c8 c9 c10 _ _ _ hf hP hD hS (lv_sub hl [0, 1] rfl)
  have B133 : ∀ (r47 : Int32 → Int32 → Int32 → (Nat → Int32) → Int32 → Int32 → (Nat → Int32) → Option (Int32 × Int32 × Int32 × (Nat → Int32) × Int32 × Int32 × (Nat → Int32))), (∀ (x1 : Int32) (c4 : Int32) (c5 : Int32) (c6 : Nat → Int32) (c8 : Int32) (c9 : Int32) (c10 : Nat → Int32) (H : Heap) (locs : List Loc) (ls : Array Slot), r47 x1 c4 c5 c6 c8 c9 c10 = some res → va_P (dC, dI) vwCl (wX1 cy h q2 q3 q6 q7 q10 c0 c1 c2 c3 c4 c5 c6 c7 c8 c9 c10) H → va_D A (wX1 cy h q2 q3 q6 q7 q10 c0 c1 c2 c3 c4 c5 c6 c7 c8 c9 c10) → va_S A s.heap H locs → lv_has ls 5 [(0, .ref h), (1, .int x1)] → W p l e rm_X1_mendAll s m ([.ref h, .int a1] : List Value).toArray below meth c H locs 0 0 (MQ below (z_qI dC dI cy res.1 (wX1 cy h q2 q3 q6 q7 q10 c0 c1 c2 c3 res.2.1 res.2.2.1 res.2.2.2.1 c7 res.2.2.2.2.1 res.2.2.2.2.2.1 res.2.2.2.2.2.2) A) ([.ref h, .int a1] : List Value).toArray s 0 0 A) (F0 m 47 ls [])) → ∀ n : Nat, ∀ (x1 x3 x4 : Int32) (c4 : Int32) (c5 : Int32) (c6 : Nat → Int32) (c8 : Int32) (c9 : Int32) (c10 : Nat → Int32) (H : Heap) (locs : List Loc) (ls : Array Slot), f_X1_mendAll_b133 N c0 c1 c2 c3 r47 n x1 x3 x4 c4 c5 c6 c8 c9 c10 = some res → va_P (dC, dI) vwCl (wX1 cy h q2 q3 q6 q7 q10 c0 c1 c2 c3 c4 c5 c6 c7 c8 c9 c10) H → va_D A (wX1 cy h q2 q3 q6 q7 q10 c0 c1 c2 c3 c4 c5 c6 c7 c8 c9 c10) → va_S A s.heap H locs → lv_has ls 5 [(0, .ref h), (1, .int x1), (3, .int x3), (4, .int x4)] → W p l e rm_X1_mendAll s m ([.ref h, .int a1] : List Value).toArray below meth c H locs 0 0 (MQ below (z_qI dC dI cy res.1 (wX1 cy h q2 q3 q6 q7 q10 c0 c1 c2 c3 res.2.1 res.2.2.1 res.2.2.2.1 c7 res.2.2.2.2.1 res.2.2.2.2.2.1 res.2.2.2.2.2.2) A) ([.ref h, .int a1] : List Value).toArray s 0 0 A) (F0 m 133 ls []) := by
    clear hf hl hP hD hS
    intro r47 hr47
    intro n
    induction n with
    | zero =>
      intro x1 x3 x4 c4 c5 c6 c8 c9 c10 H locs ls hf hP hD hS hl
      rw [f_X1_mendAll_b133] at hf
      cases hf
    | succ n ih =>
      intro x1 x3 x4 c4 c5 c6 c8 c9 c10 H locs ls hf hP hD hS hl
      rw [f_X1_mendAll_b133] at hf
      refine lv_iload hx hb dX1_mendAll_133 (lv_at hl 3 rfl) ?_
      refine lv_aload_n hx hb dX1_mendAll_135 rfl (lv_at hl 0 rfl) ?_
      refine va_get (D := (dC, dI)) (ci := 1) (v := .int c0) (C := RX1) (T := TX1) (N := 11) hx hb hts (by decide +kernel) hown hK hP 0 rfl rfl 0 (by decide) (hts (.fieldLink RX1 7 "GiftLotsModel" "ones" "I") (by decide +kernel)) (fun _ h9 => h9) rfl dX1_mendAll_136 ?_
      refine lv_icmp_ge (tgt := 162) hx hb dX1_mendAll_139 (by decide) (fun c_139 => ?_) (fun c_139 => ?_)
      · replace hf := (if_pos c_139).symm.trans hf
        exact B162 r47 hr47 x1 x3 c4 c5 c6 c8 c9 c10 _ _ _ hf hP hD hS (lv_sub hl [0, 1, 2] rfl)
      · replace hf := (if_neg c_139).symm.trans hf
        refine lv_aload_n hx hb dX1_mendAll_142 rfl (lv_at hl 0 rfl) ?_
        refine va_get (D := (dC, dI)) (ci := 1) (v := .ref q10) (C := RX1) (T := TX1) (N := 11) hx hb hts (by decide +kernel) hown hK hP 0 rfl rfl 10 (by decide) (hts (.fieldLink RX1 29 "GiftLotsModel" "first" "[I") (by decide +kernel)) (fun _ h9 => h9) rfl dX1_mendAll_143 ?_
        refine lv_iload hx hb dX1_mendAll_146 (lv_at hl 3 rfl) ?_
        refine lv_aload_n hx hb dX1_mendAll_148 rfl (lv_at hl 0 rfl) ?_
        refine va_get (D := (dC, dI)) (ci := 1) (v := .ref q6) (C := RX1) (T := TX1) (N := 11) hx hb hts (by decide +kernel) hown hK hP 0 rfl rfl 6 (by decide) (hts (.fieldLink RX1 23 "GiftLotsModel" "gives" "[I") (by decide +kernel)) (fun _ h9 => h9) rfl dX1_mendAll_149 ?_
        refine lv_iload hx hb dX1_mendAll_152 (lv_at hl 3 rfl) ?_
        obtain ⟨hi154, hf⟩ := z_gx_some hf
        refine va_iald hx hb hK hP 3 0 rfl rfl hi154 dX1_mendAll_154 ?_
        obtain ⟨hi155, hf⟩ := z_gx_some hf
        refine va_iast hx hb hK hP hD hS 5 0 rfl rfl hi155 dX1_mendAll_155 (fun H locs hP hD hS => ?_)
        have hP : va_P (dC, dI) vwCl (wX1 cy h q2 q3 q6 q7 q10 c0 c1 c2 c3 c4 c5 c6 c7 c8 c9 (upd c10 (x4).toNatClampNeg (c6 (x4).toNatClampNeg))) H := hP
        have hD : va_D A (wX1 cy h q2 q3 q6 q7 q10 c0 c1 c2 c3 c4 c5 c6 c7 c8 c9 (upd c10 (x4).toNatClampNeg (c6 (x4).toNatClampNeg))) := hD
        refine lv_iinc (v := x4 + (1 : Int32)) (lv' := [(4, .int (x4 + (1 : Int32))), (0, .ref h), (1, .int x1), (3, .int x3)]) hx hb dX1_mendAll_156 hl (k := 3) rfl rfl (by decide) rfl (fun ls hl => ?_)
        refine lv_goto (tgt := 133) hx hb dX1_mendAll_159 (by decide) ?_
        exact ih x1 x3 (x4 + (1 : Int32)) c4 c5 c6 c8 c9 (upd c10 (x4).toNatClampNeg (c6 (x4).toNatClampNeg)) _ _ _ hf hP hD hS (lv_sub hl [1, 2, 3, 0] rfl)
  have B120 : ∀ (r47 : Int32 → Int32 → Int32 → (Nat → Int32) → Int32 → Int32 → (Nat → Int32) → Option (Int32 × Int32 × Int32 × (Nat → Int32) × Int32 × Int32 × (Nat → Int32))), (∀ (x1 : Int32) (c4 : Int32) (c5 : Int32) (c6 : Nat → Int32) (c8 : Int32) (c9 : Int32) (c10 : Nat → Int32) (H : Heap) (locs : List Loc) (ls : Array Slot), r47 x1 c4 c5 c6 c8 c9 c10 = some res → va_P (dC, dI) vwCl (wX1 cy h q2 q3 q6 q7 q10 c0 c1 c2 c3 c4 c5 c6 c7 c8 c9 c10) H → va_D A (wX1 cy h q2 q3 q6 q7 q10 c0 c1 c2 c3 c4 c5 c6 c7 c8 c9 c10) → va_S A s.heap H locs → lv_has ls 5 [(0, .ref h), (1, .int x1)] → W p l e rm_X1_mendAll s m ([.ref h, .int a1] : List Value).toArray below meth c H locs 0 0 (MQ below (z_qI dC dI cy res.1 (wX1 cy h q2 q3 q6 q7 q10 c0 c1 c2 c3 res.2.1 res.2.2.1 res.2.2.2.1 c7 res.2.2.2.2.1 res.2.2.2.2.2.1 res.2.2.2.2.2.2) A) ([.ref h, .int a1] : List Value).toArray s 0 0 A) (F0 m 47 ls [])) → ∀ (x1 x3 : Int32) (c4 : Int32) (c5 : Int32) (c6 : Nat → Int32) (c8 : Int32) (c9 : Int32) (c10 : Nat → Int32) (H : Heap) (locs : List Loc) (ls : Array Slot), f_X1_mendAll_b120 N c0 c1 c2 c3 r47 x1 x3 c4 c5 c6 c8 c9 c10 = some res → va_P (dC, dI) vwCl (wX1 cy h q2 q3 q6 q7 q10 c0 c1 c2 c3 c4 c5 c6 c7 c8 c9 c10) H → va_D A (wX1 cy h q2 q3 q6 q7 q10 c0 c1 c2 c3 c4 c5 c6 c7 c8 c9 c10) → va_S A s.heap H locs → lv_has ls 5 [(0, .ref h), (1, .int x1), (3, .int x3)] → W p l e rm_X1_mendAll s m ([.ref h, .int a1] : List Value).toArray below meth c H locs 0 0 (MQ below (z_qI dC dI cy res.1 (wX1 cy h q2 q3 q6 q7 q10 c0 c1 c2 c3 res.2.1 res.2.2.1 res.2.2.2.1 c7 res.2.2.2.2.1 res.2.2.2.2.2.1 res.2.2.2.2.2.2) A) ([.ref h, .int a1] : List Value).toArray s 0 0 A) (F0 m 120 ls []) := by
    clear hf hl hP hD hS
    intro r47 hr47
    intro x1 x3 c4 c5 c6 c8 c9 c10 H locs ls hf hP hD hS hl
    unfold f_X1_mendAll_b120 at hf
    refine lv_aload_n hx hb dX1_mendAll_120 rfl (lv_at hl 0 rfl) ?_
    refine lv_iload_n hx hb dX1_mendAll_121 rfl (lv_at hl 2 rfl) ?_
    refine va_put (D := (dC, dI)) (ci := 1) (v := .int x3) (ty := .int) (C := RX1) (T := TX1) (N := 11) hx hb hts (by decide +kernel) tyX1 tyX1_ok nmX1 hown hK hP hD hS 0 rfl rfl 8 (by decide) (hts (.fieldLink RX1 100 "GiftLotsModel" "fewest" "I") (by decide +kernel)) (fun _ h9 => h9) rfl (by decide +kernel) rfl rfl (Nat.le_of_ble_eq_true rfl) dX1_mendAll_122 (fun H locs hP hD hS => ?_)
    have hP : va_P (dC, dI) vwCl (wX1 cy h q2 q3 q6 q7 q10 c0 c1 c2 c3 c4 c5 c6 c7 x3 c9 c10) H := hP
    have hD : va_D A (wX1 cy h q2 q3 q6 q7 q10 c0 c1 c2 c3 c4 c5 c6 c7 x3 c9 c10) := hD
    refine lv_aload_n hx hb dX1_mendAll_125 rfl (lv_at hl 0 rfl) ?_
    refine lv_iconst (v := (0 : Int32)) hx hb dX1_mendAll_126 (by decide) ?_
    refine va_put (D := (dC, dI)) (ci := 1) (v := .int (0 : Int32)) (ty := .int) (C := RX1) (T := TX1) (N := 11) hx hb hts (by decide +kernel) tyX1 tyX1_ok nmX1 hown hK hP hD hS 0 rfl rfl 9 (by decide) (hts (.fieldLink RX1 103 "GiftLotsModel" "many" "I") (by decide +kernel)) (fun _ h9 => h9) rfl (by decide +kernel) rfl rfl (Nat.le_of_ble_eq_true rfl) dX1_mendAll_127 (fun H locs hP hD hS => ?_)
    have hP : va_P (dC, dI) vwCl (wX1 cy h q2 q3 q6 q7 q10 c0 c1 c2 c3 c4 c5 c6 c7 x3 (0 : Int32) c10) H := hP
    have hD : va_D A (wX1 cy h q2 q3 q6 q7 q10 c0 c1 c2 c3 c4 c5 c6 c7 x3 (0 : Int32) c10) := hD
    refine lv_iconst (v := (0 : Int32)) hx hb dX1_mendAll_130 (by decide) ?_
    refine lv_istore (lv' := [(4, .int (0 : Int32)), (0, .ref h), (1, .int x1), (3, .int x3)]) hx hb dX1_mendAll_131 hl (by decide) rfl (fun ls hl => ?_)
    exact B133 r47 hr47 N x1 x3 (0 : Int32) c4 c5 c6 x3 (0 : Int32) c10 _ _ _ hf hP hD hS (lv_sub hl [1, 2, 3, 0] rfl)
  have B97 : ∀ (r47 : Int32 → Int32 → Int32 → (Nat → Int32) → Int32 → Int32 → (Nat → Int32) → Option (Int32 × Int32 × Int32 × (Nat → Int32) × Int32 × Int32 × (Nat → Int32))), (∀ (x1 : Int32) (c4 : Int32) (c5 : Int32) (c6 : Nat → Int32) (c8 : Int32) (c9 : Int32) (c10 : Nat → Int32) (H : Heap) (locs : List Loc) (ls : Array Slot), r47 x1 c4 c5 c6 c8 c9 c10 = some res → va_P (dC, dI) vwCl (wX1 cy h q2 q3 q6 q7 q10 c0 c1 c2 c3 c4 c5 c6 c7 c8 c9 c10) H → va_D A (wX1 cy h q2 q3 q6 q7 q10 c0 c1 c2 c3 c4 c5 c6 c7 c8 c9 c10) → va_S A s.heap H locs → lv_has ls 5 [(0, .ref h), (1, .int x1)] → W p l e rm_X1_mendAll s m ([.ref h, .int a1] : List Value).toArray below meth c H locs 0 0 (MQ below (z_qI dC dI cy res.1 (wX1 cy h q2 q3 q6 q7 q10 c0 c1 c2 c3 res.2.1 res.2.2.1 res.2.2.2.1 c7 res.2.2.2.2.1 res.2.2.2.2.2.1 res.2.2.2.2.2.2) A) ([.ref h, .int a1] : List Value).toArray s 0 0 A) (F0 m 47 ls [])) → ∀ (r59 : Int32 → Int32 → Int32 → Int32 → Int32 → (Nat → Int32) → Int32 → Int32 → (Nat → Int32) → Option (Int32 × Int32 × Int32 × (Nat → Int32) × Int32 × Int32 × (Nat → Int32))), (∀ (x1 x3 x4 : Int32) (c4 : Int32) (c5 : Int32) (c6 : Nat → Int32) (c8 : Int32) (c9 : Int32) (c10 : Nat → Int32) (H : Heap) (locs : List Loc) (ls : Array Slot), r59 x1 x3 x4 c4 c5 c6 c8 c9 c10 = some res → va_P (dC, dI) vwCl (wX1 cy h q2 q3 q6 q7 q10 c0 c1 c2 c3 c4 c5 c6 c7 c8 c9 c10) H → va_D A (wX1 cy h q2 q3 q6 q7 q10 c0 c1 c2 c3 c4 c5 c6 c7 c8 c9 c10) → va_S A s.heap H locs → lv_has ls 5 [(0, .ref h), (1, .int x1), (3, .int x3), (4, .int x4)] → W p l e rm_X1_mendAll s m ([.ref h, .int a1] : List Value).toArray below meth c H locs 0 0 (MQ below (z_qI dC dI cy res.1 (wX1 cy h q2 q3 q6 q7 q10 c0 c1 c2 c3 res.2.1 res.2.2.1 res.2.2.2.1 c7 res.2.2.2.2.1 res.2.2.2.2.2.1 res.2.2.2.2.2.2) A) ([.ref h, .int a1] : List Value).toArray s 0 0 A) (F0 m 59 ls [])) → ∀ (x1 x4 t0 t1 : Int32) (c4 : Int32) (c5 : Int32) (c6 : Nat → Int32) (c8 : Int32) (c9 : Int32) (c10 : Nat → Int32) (H : Heap) (locs : List Loc) (ls : Array Slot), f_X1_mendAll_b97 N c0 c1 c2 c3 r47 r59 x1 x4 t0 t1 c4 c5 c6 c8 c9 c10 = some res → va_P (dC, dI) vwCl (wX1 cy h q2 q3 q6 q7 q10 c0 c1 c2 c3 c4 c5 c6 c7 c8 c9 c10) H → va_D A (wX1 cy h q2 q3 q6 q7 q10 c0 c1 c2 c3 c4 c5 c6 c7 c8 c9 c10) → va_S A s.heap H locs → lv_has ls 5 [(0, .ref h), (1, .int x1), (4, .int x4)] → W p l e rm_X1_mendAll s m ([.ref h, .int a1] : List Value).toArray below meth c H locs 0 0 (MQ below (z_qI dC dI cy res.1 (wX1 cy h q2 q3 q6 q7 q10 c0 c1 c2 c3 res.2.1 res.2.2.1 res.2.2.2.1 c7 res.2.2.2.2.1 res.2.2.2.2.2.1 res.2.2.2.2.2.2) A) ([.ref h, .int a1] : List Value).toArray s 0 0 A) (F0 m 97 ls [.int t1, .int t0]) := by
    clear hf hl hP hD hS
    intro r47 hr47 r59 hr59
    intro x1 x4 t0 t1 c4 c5 c6 c8 c9 c10 H locs ls hf hP hD hS hl
    unfold f_X1_mendAll_b97 at hf
    refine lv_iadd hx hb dX1_mendAll_97 ?_
    refine lv_istore_n (lv' := [(3, .int (t0 + t1)), (0, .ref h), (1, .int x1), (4, .int x4)]) hx hb dX1_mendAll_98 rfl hl (by decide) rfl (fun ls hl => ?_)
    refine lv_iinc (v := x4 + (1 : Int32)) (lv' := [(4, .int (x4 + (1 : Int32))), (3, .int (t0 + t1)), (0, .ref h), (1, .int x1)]) hx hb dX1_mendAll_99 hl (k := 3) rfl rfl (by decide) rfl (fun ls hl => ?_)
    refine lv_goto (tgt := 59) hx hb dX1_mendAll_102 (by decide) ?_
    exact hr59 x1 (t0 + t1) (x4 + (1 : Int32)) c4 c5 c6 c8 c9 c10 _ _ _ hf hP hD hS (lv_sub hl [2, 3, 1, 0] rfl)
  have B96 : ∀ (r47 : Int32 → Int32 → Int32 → (Nat → Int32) → Int32 → Int32 → (Nat → Int32) → Option (Int32 × Int32 × Int32 × (Nat → Int32) × Int32 × Int32 × (Nat → Int32))), (∀ (x1 : Int32) (c4 : Int32) (c5 : Int32) (c6 : Nat → Int32) (c8 : Int32) (c9 : Int32) (c10 : Nat → Int32) (H : Heap) (locs : List Loc) (ls : Array Slot), r47 x1 c4 c5 c6 c8 c9 c10 = some res → va_P (dC, dI) vwCl (wX1 cy h q2 q3 q6 q7 q10 c0 c1 c2 c3 c4 c5 c6 c7 c8 c9 c10) H → va_D A (wX1 cy h q2 q3 q6 q7 q10 c0 c1 c2 c3 c4 c5 c6 c7 c8 c9 c10) → va_S A s.heap H locs → lv_has ls 5 [(0, .ref h), (1, .int x1)] → W p l e rm_X1_mendAll s m ([.ref h, .int a1] : List Value).toArray below meth c H locs 0 0 (MQ below (z_qI dC dI cy res.1 (wX1 cy h q2 q3 q6 q7 q10 c0 c1 c2 c3 res.2.1 res.2.2.1 res.2.2.2.1 c7 res.2.2.2.2.1 res.2.2.2.2.2.1 res.2.2.2.2.2.2) A) ([.ref h, .int a1] : List Value).toArray s 0 0 A) (F0 m 47 ls [])) → ∀ (r59 : Int32 → Int32 → Int32 → Int32 → Int32 → (Nat → Int32) → Int32 → Int32 → (Nat → Int32) → Option (Int32 × Int32 × Int32 × (Nat → Int32) × Int32 × Int32 × (Nat → Int32))), (∀ (x1 x3 x4 : Int32) (c4 : Int32) (c5 : Int32) (c6 : Nat → Int32) (c8 : Int32) (c9 : Int32) (c10 : Nat → Int32) (H : Heap) (locs : List Loc) (ls : Array Slot), r59 x1 x3 x4 c4 c5 c6 c8 c9 c10 = some res → va_P (dC, dI) vwCl (wX1 cy h q2 q3 q6 q7 q10 c0 c1 c2 c3 c4 c5 c6 c7 c8 c9 c10) H → va_D A (wX1 cy h q2 q3 q6 q7 q10 c0 c1 c2 c3 c4 c5 c6 c7 c8 c9 c10) → va_S A s.heap H locs → lv_has ls 5 [(0, .ref h), (1, .int x1), (3, .int x3), (4, .int x4)] → W p l e rm_X1_mendAll s m ([.ref h, .int a1] : List Value).toArray below meth c H locs 0 0 (MQ below (z_qI dC dI cy res.1 (wX1 cy h q2 q3 q6 q7 q10 c0 c1 c2 c3 res.2.1 res.2.2.1 res.2.2.2.1 c7 res.2.2.2.2.1 res.2.2.2.2.2.1 res.2.2.2.2.2.2) A) ([.ref h, .int a1] : List Value).toArray s 0 0 A) (F0 m 59 ls [])) → ∀ (x1 x4 t0 : Int32) (c4 : Int32) (c5 : Int32) (c6 : Nat → Int32) (c8 : Int32) (c9 : Int32) (c10 : Nat → Int32) (H : Heap) (locs : List Loc) (ls : Array Slot), f_X1_mendAll_b96 N c0 c1 c2 c3 r47 r59 x1 x4 t0 c4 c5 c6 c8 c9 c10 = some res → va_P (dC, dI) vwCl (wX1 cy h q2 q3 q6 q7 q10 c0 c1 c2 c3 c4 c5 c6 c7 c8 c9 c10) H → va_D A (wX1 cy h q2 q3 q6 q7 q10 c0 c1 c2 c3 c4 c5 c6 c7 c8 c9 c10) → va_S A s.heap H locs → lv_has ls 5 [(0, .ref h), (1, .int x1), (4, .int x4)] → W p l e rm_X1_mendAll s m ([.ref h, .int a1] : List Value).toArray below meth c H locs 0 0 (MQ below (z_qI dC dI cy res.1 (wX1 cy h q2 q3 q6 q7 q10 c0 c1 c2 c3 res.2.1 res.2.2.1 res.2.2.2.1 c7 res.2.2.2.2.1 res.2.2.2.2.2.1 res.2.2.2.2.2.2) A) ([.ref h, .int a1] : List Value).toArray s 0 0 A) (F0 m 96 ls [.int t0]) := by
    clear hf hl hP hD hS
    intro r47 hr47 r59 hr59
    intro x1 x4 t0 c4 c5 c6 c8 c9 c10 H locs ls hf hP hD hS hl
    unfold f_X1_mendAll_b96 at hf
    refine lv_iconst (v := (0 : Int32)) hx hb dX1_mendAll_96 (by decide) ?_
    exact B97 r47 hr47 r59 hr59 x1 x4 t0 (0 : Int32) c4 c5 c6 c8 c9 c10 _ _ _ hf hP hD hS (lv_sub hl [0, 1, 2] rfl)
  have B59 : ∀ (r47 : Int32 → Int32 → Int32 → (Nat → Int32) → Int32 → Int32 → (Nat → Int32) → Option (Int32 × Int32 × Int32 × (Nat → Int32) × Int32 × Int32 × (Nat → Int32))), (∀ (x1 : Int32) (c4 : Int32) (c5 : Int32) (c6 : Nat → Int32) (c8 : Int32) (c9 : Int32) (c10 : Nat → Int32) (H : Heap) (locs : List Loc) (ls : Array Slot), r47 x1 c4 c5 c6 c8 c9 c10 = some res → va_P (dC, dI) vwCl (wX1 cy h q2 q3 q6 q7 q10 c0 c1 c2 c3 c4 c5 c6 c7 c8 c9 c10) H → va_D A (wX1 cy h q2 q3 q6 q7 q10 c0 c1 c2 c3 c4 c5 c6 c7 c8 c9 c10) → va_S A s.heap H locs → lv_has ls 5 [(0, .ref h), (1, .int x1)] → W p l e rm_X1_mendAll s m ([.ref h, .int a1] : List Value).toArray below meth c H locs 0 0 (MQ below (z_qI dC dI cy res.1 (wX1 cy h q2 q3 q6 q7 q10 c0 c1 c2 c3 res.2.1 res.2.2.1 res.2.2.2.1 c7 res.2.2.2.2.1 res.2.2.2.2.2.1 res.2.2.2.2.2.2) A) ([.ref h, .int a1] : List Value).toArray s 0 0 A) (F0 m 47 ls [])) → ∀ n : Nat, ∀ (x1 x3 x4 : Int32) (c4 : Int32) (c5 : Int32) (c6 : Nat → Int32) (c8 : Int32) (c9 : Int32) (c10 : Nat → Int32) (H : Heap) (locs : List Loc) (ls : Array Slot), f_X1_mendAll_b59 N c0 c1 c2 c3 r47 n x1 x3 x4 c4 c5 c6 c8 c9 c10 = some res → va_P (dC, dI) vwCl (wX1 cy h q2 q3 q6 q7 q10 c0 c1 c2 c3 c4 c5 c6 c7 c8 c9 c10) H → va_D A (wX1 cy h q2 q3 q6 q7 q10 c0 c1 c2 c3 c4 c5 c6 c7 c8 c9 c10) → va_S A s.heap H locs → lv_has ls 5 [(0, .ref h), (1, .int x1), (3, .int x3), (4, .int x4)] → W p l e rm_X1_mendAll s m ([.ref h, .int a1] : List Value).toArray below meth c H locs 0 0 (MQ below (z_qI dC dI cy res.1 (wX1 cy h q2 q3 q6 q7 q10 c0 c1 c2 c3 res.2.1 res.2.2.1 res.2.2.2.1 c7 res.2.2.2.2.1 res.2.2.2.2.2.1 res.2.2.2.2.2.2) A) ([.ref h, .int a1] : List Value).toArray s 0 0 A) (F0 m 59 ls []) := by
    clear hf hl hP hD hS
    intro r47 hr47
    intro n
    induction n with
    | zero =>
      intro x1 x3 x4 c4 c5 c6 c8 c9 c10 H locs ls hf hP hD hS hl
      rw [f_X1_mendAll_b59] at hf
      cases hf
    | succ n ih =>
      intro x1 x3 x4 c4 c5 c6 c8 c9 c10 H locs ls hf hP hD hS hl
      rw [f_X1_mendAll_b59] at hf
      refine lv_iload hx hb dX1_mendAll_59 (lv_at hl 3 rfl) ?_
      refine lv_aload_n hx hb dX1_mendAll_61 rfl (lv_at hl 0 rfl) ?_
      refine va_get (D := (dC, dI)) (ci := 1) (v := .int c0) (C := RX1) (T := TX1) (N := 11) hx hb hts (by decide +kernel) hown hK hP 0 rfl rfl 0 (by decide) (hts (.fieldLink RX1 7 "GiftLotsModel" "ones" "I") (by decide +kernel)) (fun _ h9 => h9) rfl dX1_mendAll_62 ?_
      refine lv_icmp_ge (tgt := 105) hx hb dX1_mendAll_65 (by decide) (fun c_65 => ?_) (fun c_65 => ?_)
      · replace hf := (if_pos c_65).symm.trans hf
        refine lv_aload_n hx hb dX1_mendAll_105 rfl (lv_at hl 0 rfl) ?_
        refine va_get (D := (dC, dI)) (ci := 1) (v := .int c8) (C := RX1) (T := TX1) (N := 11) hx hb hts (by decide +kernel) hown hK hP 0 rfl rfl 8 (by decide) (hts (.fieldLink RX1 100 "GiftLotsModel" "fewest" "I") (by decide +kernel)) (fun _ h9 => h9) rfl dX1_mendAll_106 ?_
        refine lv_if_lt (tgt := 120) hx hb dX1_mendAll_109 (by decide) (fun c_109 => ?_) (fun c_109 => ?_)
        · replace hf := (if_pos c_109).symm.trans hf
          exact B120 r47 hr47 x1 x3 c4 c5 c6 c8 c9 c10 _ _ _ hf hP hD hS (lv_sub hl [0, 1, 2] rfl)
        · replace hf := (if_neg c_109).symm.trans hf
          refine lv_iload_n hx hb dX1_mendAll_112 rfl (lv_at hl 2 rfl) ?_
          refine lv_aload_n hx hb dX1_mendAll_113 rfl (lv_at hl 0 rfl) ?_
          refine va_get (D := (dC, dI)) (ci := 1) (v := .int c8) (C := RX1) (T := TX1) (N := 11) hx hb hts (by decide +kernel) hown hK hP 0 rfl rfl 8 (by decide) (hts (.fieldLink RX1 100 "GiftLotsModel" "fewest" "I") (by decide +kernel)) (fun _ h9 => h9) rfl dX1_mendAll_114 ?_
          refine lv_icmp_ge (tgt := 162) hx hb dX1_mendAll_117 (by decide) (fun c_117 => ?_) (fun c_117 => ?_)
          · replace hf := (if_pos c_117).symm.trans hf
            exact B162 r47 hr47 x1 x3 c4 c5 c6 c8 c9 c10 _ _ _ hf hP hD hS (lv_sub hl [0, 1, 2] rfl)
          · replace hf := (if_neg c_117).symm.trans hf
            exact B120 r47 hr47 x1 x3 c4 c5 c6 c8 c9 c10 _ _ _ hf hP hD hS (lv_sub hl [0, 1, 2] rfl)
      · replace hf := (if_neg c_65).symm.trans hf
        refine lv_iload_n hx hb dX1_mendAll_68 rfl (lv_at hl 2 rfl) ?_
        refine lv_iload hx hb dX1_mendAll_69 (lv_at hl 3 rfl) ?_
        refine lv_iload_n hx hb dX1_mendAll_71 rfl (lv_at hl 1 rfl) ?_
        refine lv_icmp_eq (tgt := 96) hx hb dX1_mendAll_72 (by decide) (fun c_72 => ?_) (fun c_72 => ?_)
        · replace hf := (if_pos c_72).symm.trans hf
          exact B96 r47 hr47 (f_X1_mendAll_b59 N c0 c1 c2 c3 r47 n) ih x1 x4 x3 c4 c5 c6 c8 c9 c10 _ _ _ hf hP hD hS (lv_sub hl [0, 1, 3] rfl)
        · replace hf := (if_neg c_72).symm.trans hf
          refine lv_aload_n hx hb dX1_mendAll_75 rfl (lv_at hl 0 rfl) ?_
          refine va_get (D := (dC, dI)) (ci := 1) (v := .ref q6) (C := RX1) (T := TX1) (N := 11) hx hb hts (by decide +kernel) hown hK hP 0 rfl rfl 6 (by decide) (hts (.fieldLink RX1 23 "GiftLotsModel" "gives" "[I") (by decide +kernel)) (fun _ h9 => h9) rfl dX1_mendAll_76 ?_
          refine lv_iload hx hb dX1_mendAll_79 (lv_at hl 3 rfl) ?_
          obtain ⟨hi81, hf⟩ := z_gx_some hf
          refine va_iald hx hb hK hP 3 0 rfl rfl hi81 dX1_mendAll_81 ?_
          refine lv_aload_n hx hb dX1_mendAll_82 rfl (lv_at hl 0 rfl) ?_
          refine va_get (D := (dC, dI)) (ci := 1) (v := .ref q3) (C := RX1) (T := TX1) (N := 11) hx hb hts (by decide +kernel) hown hK hP 0 rfl rfl 3 (by decide) (hts (.fieldLink RX1 20 "GiftLotsModel" "hand" "[I") (by decide +kernel)) (fun _ h9 => h9) rfl dX1_mendAll_83 ?_
          refine lv_iload hx hb dX1_mendAll_86 (lv_at hl 3 rfl) ?_
          obtain ⟨hi88, hf⟩ := z_gx_some hf
          refine va_iald hx hb hK hP 2 0 rfl rfl hi88 dX1_mendAll_88 ?_
          refine lv_icmp_eq (tgt := 96) hx hb dX1_mendAll_89 (by decide) (fun c_89 => ?_) (fun c_89 => ?_)
          · replace hf := (if_pos c_89).symm.trans hf
            exact B96 r47 hr47 (f_X1_mendAll_b59 N c0 c1 c2 c3 r47 n) ih x1 x4 x3 c4 c5 c6 c8 c9 c10 _ _ _ hf hP hD hS (lv_sub hl [0, 1, 3] rfl)
          · replace hf := (if_neg c_89).symm.trans hf
            refine lv_iconst (v := (1 : Int32)) hx hb dX1_mendAll_92 (by decide) ?_
            refine lv_goto (tgt := 97) hx hb dX1_mendAll_93 (by decide) ?_
            exact B97 r47 hr47 (f_X1_mendAll_b59 N c0 c1 c2 c3 r47 n) ih x1 x4 x3 (1 : Int32) c4 c5 c6 c8 c9 c10 _ _ _ hf hP hD hS (lv_sub hl [0, 1, 3] rfl)
  have B47 : ∀ n : Nat, ∀ (x1 : Int32) (c4 : Int32) (c5 : Int32) (c6 : Nat → Int32) (c8 : Int32) (c9 : Int32) (c10 : Nat → Int32) (H : Heap) (locs : List Loc) (ls : Array Slot), f_X1_mendAll_b47 N c0 c1 c2 c3 n x1 c4 c5 c6 c8 c9 c10 = some res → va_P (dC, dI) vwCl (wX1 cy h q2 q3 q6 q7 q10 c0 c1 c2 c3 c4 c5 c6 c7 c8 c9 c10) H → va_D A (wX1 cy h q2 q3 q6 q7 q10 c0 c1 c2 c3 c4 c5 c6 c7 c8 c9 c10) → va_S A s.heap H locs → lv_has ls 5 [(0, .ref h), (1, .int x1)] → W p l e rm_X1_mendAll s m ([.ref h, .int a1] : List Value).toArray below meth c H locs 0 0 (MQ below (z_qI dC dI cy res.1 (wX1 cy h q2 q3 q6 q7 q10 c0 c1 c2 c3 res.2.1 res.2.2.1 res.2.2.2.1 c7 res.2.2.2.2.1 res.2.2.2.2.2.1 res.2.2.2.2.2.2) A) ([.ref h, .int a1] : List Value).toArray s 0 0 A) (F0 m 47 ls []) := by
    clear hf hl hP hD hS
    intro n
    induction n with
    | zero =>
      intro x1 c4 c5 c6 c8 c9 c10 H locs ls hf hP hD hS hl
      rw [f_X1_mendAll_b47] at hf
      cases hf
    | succ n ih =>
      intro x1 c4 c5 c6 c8 c9 c10 H locs ls hf hP hD hS hl
      rw [f_X1_mendAll_b47] at hf
      refine lv_aload_n hx hb dX1_mendAll_47 rfl (lv_at hl 0 rfl) ?_
      obtain ⟨u48, hu48, hf⟩ := z_ob_some hf
      have hPc := hP.sub (ws' := (wX1 cy h q2 q3 q6 q7 q10 c0 c1 c2 c3 c4 c5 c6 c7 c8 c9 c10)) [0, 1, 2, 3, 4, 5] rfl
      have hDc := hD.sub (ws' := (wX1 cy h q2 q3 q6 q7 q10 c0 c1 c2 c3 c4 c5 c6 c7 c8 c9 c10)) [0, 1, 2, 3, 4, 5] (by decide) rfl
      have hKc := hK.sub (tys' := [(cy, .int)]) [0] rfl
      have hFc := va_free (wc := (wX1 cy h q2 q3 q6 q7 q10 c0 c1 c2 c3 c4 c5 c6 c7 c8 c9 c10)) hD hS hA [0, 1, 2, 3, 4, 5] rfl
      refine va_calli (va_runV (As := []) (rest := []) ⟨hx, hb, hml, hown, hts⟩ (c_X1_next N l dC dI cy h q2 q3 q6 q7 q10 H.size c0 c1 c2 c3 c4 c5 c6 c7 c8 c9 c10 u48 hu48) (cwV 0 hts gX1_mendAll_X1_next rfl rfl rfl (by decide +kernel) ⟨Nat.le_of_ble_eq_true rfl, Nat.le_of_ble_eq_true rfl⟩) ⟨fun a U g mk q => by obtain ⟨q0, q1, qP, qK, qD⟩ := q; exact ⟨q0, q1, qP, va_K.moved (u := U) (U := U.calling g mk a) (Vm.Alike.refl U.vm) qK, qD⟩, va_recv hKc hPc (ci := 1) (q0 := 0) rfl rfl, fun U hU hW => ⟨rfl, by rw [hU], by rw [hU]; exact hPc, va_K.moved hW.alike hKc, hDc.weaken (fun _ _ _ _ => trivial)⟩⟩ rfl rfl hl.1 rfl (lv_room (Nat.le_of_ble_eq_true rfl)) dX1_mendAll_48 ⟨Nat.zero_le _, Nat.zero_le _⟩) hS (fun q _ h => hFc q h) hFc (fun r_48 uu_ t H1 locs ht hvm hw hB hz1 hk1 hS => ?_)
      replace hw := hw.symm
      subst hw
      obtain ⟨hP1, -, hD1⟩ := hB
      rw [ht] at hP1
      obtain ⟨hP, hD⟩ := va_join (wr := []) (w1 := (wX1 cy h q2 q3 q6 q7 q10 c0 c1 c2 c3 c4 c5 u48.2 c7 c8 c9 c10)) hP hD [0, 1, 2, 3, 4, 5] [] rfl rfl (by decide) (by decide) hk1 hFc hP1 hD1
      clear hk1 hz1 hP1 hD1 ht hPc hDc hFc
      generalize H1 = H at hP hS ⊢
      have hP : va_P (dC, dI) vwCl (wX1 cy h q2 q3 q6 q7 q10 c0 c1 c2 c3 c4 c5 u48.2 c7 c8 c9 c10) H := hP
      have hD : va_D A (wX1 cy h q2 q3 q6 q7 q10 c0 c1 c2 c3 c4 c5 u48.2 c7 c8 c9 c10) := hD
      refine lv_if_eq (tgt := 187) hx hb dX1_mendAll_51 (by decide) (fun c_51 => ?_) (fun c_51 => ?_)
      · replace hf := (if_pos c_51).symm.trans hf
        refine lv_iconst (v := (0 : Int32)) hx hb dX1_mendAll_187 (by decide) ?_
        have hres := Option.some.inj hf
        subst hres
        have hP9 := hP.sub (ws' := (wX1 cy h q2 q3 q6 q7 q10 c0 c1 c2 c3 c4 c5 u48.2 c7 c8 c9 c10)) [0, 1, 2, 3, 4, 5] rfl
        have hD9 := hD.sub (ws' := (wX1 cy h q2 q3 q6 q7 q10 c0 c1 c2 c3 c4 c5 u48.2 c7 c8 c9 c10)) [0, 1, 2, 3, 4, 5] (by decide) rfl
        have hK9 := hK.sub (tys' := [(cy, .int)]) [0] rfl
        exact W.iret (v := (0 : Int32)) hx hb hr (fun t ht hW => ⟨⟨(0 : Int32), (), rfl, rfl, by rw [ht]; exact hP9, va_K.moved hW.alike hK9, hD9⟩, hS.F ht⟩) hS.2.2 dX1_mendAll_188
      · replace hf := (if_neg c_51).symm.trans hf
        refine lv_iconst (v := (0 : Int32)) hx hb dX1_mendAll_54 (by decide) ?_
        refine lv_istore_n (lv' := [(3, .int (0 : Int32)), (0, .ref h), (1, .int x1)]) hx hb dX1_mendAll_55 rfl hl (by decide) rfl (fun ls hl => ?_)
        refine lv_iconst (v := (0 : Int32)) hx hb dX1_mendAll_56 (by decide) ?_
        refine lv_istore (lv' := [(4, .int (0 : Int32)), (3, .int (0 : Int32)), (0, .ref h), (1, .int x1)]) hx hb dX1_mendAll_57 hl (by decide) rfl (fun ls hl => ?_)
        exact B59 (f_X1_mendAll_b47 N c0 c1 c2 c3 n) ih N x1 (0 : Int32) (0 : Int32) c4 c5 u48.2 c8 c9 c10 _ _ _ hf hP hD hS (lv_sub hl [2, 3, 1, 0] rfl)
  unfold f_X1_mendAll at hf
  refine lv_aload_n hx hb dX1_mendAll_0 rfl (lv_at hl 0 rfl) ?_
  refine lv_iload_n hx hb dX1_mendAll_1 rfl (lv_at hl 1 rfl) ?_
  obtain ⟨u2, hu2, hf⟩ := z_ob_some hf
  have hPc := hP.sub (ws' := (wX1 cy h q2 q3 q6 q7 q10 c0 c1 c2 c3 c4 c5 c6 c7 c8 c9 c10)) [0, 1, 2, 3, 4, 5] rfl
  have hDc := hD.sub (ws' := (wX1 cy h q2 q3 q6 q7 q10 c0 c1 c2 c3 c4 c5 c6 c7 c8 c9 c10)) [0, 1, 2, 3, 4, 5] (by decide) rfl
  have hKc := hK.sub (tys' := [(cy, .int)]) [0] rfl
  have hFc := va_free (wc := (wX1 cy h q2 q3 q6 q7 q10 c0 c1 c2 c3 c4 c5 c6 c7 c8 c9 c10)) hD hS hA [0, 1, 2, 3, 4, 5] rfl
  refine va_calli (va_runV (As := [.int a1]) (rest := []) ⟨hx, hb, hml, hown, hts⟩ (c_X1_isOne N l dC dI cy h q2 q3 q6 q7 q10 s.heap.size c0 c1 c2 c3 c4 c5 c6 c7 c8 c9 c10 a1 u2 hu2) (cwV 1 hts gX1_mendAll_X1_isOne rfl rfl rfl (by decide +kernel) ⟨Nat.le_of_ble_eq_true rfl, Nat.le_of_ble_eq_true rfl⟩) ⟨fun a U g mk q => by obtain ⟨q0, q1, qP, qK, qD⟩ := q; exact ⟨q0, q1, qP, va_K.moved (u := U) (U := U.calling g mk a) (Vm.Alike.refl U.vm) qK, qD⟩, va_recv hKc hPc (ci := 1) (q0 := 0) rfl rfl, fun U hU hW => ⟨rfl, by rw [hU], by rw [hU]; exact hPc, va_K.moved hW.alike hKc, hDc.weaken (fun _ _ _ _ => trivial)⟩⟩ rfl rfl hl.1 rfl (lv_room (Nat.le_of_ble_eq_true rfl)) dX1_mendAll_2 ⟨Nat.zero_le _, Nat.zero_le _⟩) hS (fun q _ h => hFc q h) hFc (fun r_2 uu_ t H1 locs ht hvm hw hB hz1 hk1 hS => ?_)
  replace hw := hw.symm
  subst hw
  obtain ⟨hP1, -, hD1⟩ := hB
  rw [ht] at hP1
  obtain ⟨hP, hD⟩ := va_join (wr := []) (w1 := (wX1 cy h q2 q3 q6 q7 q10 c0 c1 c2 c3 c4 c5 c6 c7 c8 c9 c10)) hP hD [0, 1, 2, 3, 4, 5] [] rfl rfl (by decide) (by decide) hk1 hFc hP1 hD1
  clear hk1 hz1 hP1 hD1 ht hPc hDc hFc
  generalize H1 = H at hP hS ⊢
  have hP : va_P (dC, dI) vwCl (wX1 cy h q2 q3 q6 q7 q10 c0 c1 c2 c3 c4 c5 c6 c7 c8 c9 c10) H := hP
  have hD : va_D A (wX1 cy h q2 q3 q6 q7 q10 c0 c1 c2 c3 c4 c5 c6 c7 c8 c9 c10) := hD
  refine lv_if_ne (tgt := 10) hx hb dX1_mendAll_5 (by decide) (fun c_5 => ?_) (fun c_5 => ?_)
  · replace hf := (if_neg c_5).symm.trans hf
    refine lv_aload_n hx hb dX1_mendAll_10 rfl (lv_at hl 0 rfl) ?_
    obtain ⟨u11, hu11, hf⟩ := z_ob_some hf
    have hPc := hP.sub (ws' := (wX1 cy h q2 q3 q6 q7 q10 c0 c1 c2 c3 c4 c5 c6 c7 c8 c9 c10)) [0, 1, 2, 3, 4, 5] rfl
    have hDc := hD.sub (ws' := (wX1 cy h q2 q3 q6 q7 q10 c0 c1 c2 c3 c4 c5 c6 c7 c8 c9 c10)) [0, 1, 2, 3, 4, 5] (by decide) rfl
    have hKc := hK.sub (tys' := [(cy, .int)]) [0] rfl
    have hFc := va_free (wc := (wX1 cy h q2 q3 q6 q7 q10 c0 c1 c2 c3 c4 c5 c6 c7 c8 c9 c10)) hD hS hA [0, 1, 2, 3, 4, 5] rfl
    refine va_calli (va_runV (As := []) (rest := []) ⟨hx, hb, hml, hown, hts⟩ (c_X1_rank N l dC dI cy h q2 q3 q6 q7 q10 H.size c0 c1 c2 c3 c4 c5 c6 c7 c8 c9 c10 u11 hu11) (cwV 0 hts gX1_mendAll_X1_rank rfl rfl rfl (by decide +kernel) ⟨Nat.le_of_ble_eq_true rfl, Nat.le_of_ble_eq_true rfl⟩) ⟨fun a U g mk q => by obtain ⟨q0, q1, qP, qK, qD⟩ := q; exact ⟨q0, q1, qP, va_K.moved (u := U) (U := U.calling g mk a) (Vm.Alike.refl U.vm) qK, qD⟩, va_recv hKc hPc (ci := 1) (q0 := 0) rfl rfl, fun U hU hW => ⟨rfl, by rw [hU], by rw [hU]; exact hPc, va_K.moved hW.alike hKc, hDc.weaken (fun _ _ _ _ => trivial)⟩⟩ rfl rfl hl.1 rfl (lv_room (Nat.le_of_ble_eq_true rfl)) dX1_mendAll_11 ⟨Nat.zero_le _, Nat.zero_le _⟩) hS (fun q _ h => hFc q h) hFc (fun r_11 uu_ t H1 locs ht hvm hw hB hz1 hk1 hS => ?_)
    replace hw := hw.symm
    subst hw
    obtain ⟨hP1, -, hD1⟩ := hB
    rw [ht] at hP1
    obtain ⟨hP, hD⟩ := va_join (wr := []) (w1 := (wX1 cy h q2 q3 q6 q7 q10 c0 c1 c2 c3 u11.2.1 u11.2.2.1 u11.2.2.2 c7 c8 c9 c10)) hP hD [0, 1, 2, 3, 4, 5] [] rfl rfl (by decide) (by decide) hk1 hFc hP1 hD1
    clear hk1 hz1 hP1 hD1 ht hPc hDc hFc
    generalize H1 = H at hP hS ⊢
    have hP : va_P (dC, dI) vwCl (wX1 cy h q2 q3 q6 q7 q10 c0 c1 c2 c3 u11.2.1 u11.2.2.1 u11.2.2.2 c7 c8 c9 c10) H := hP
    have hD : va_D A (wX1 cy h q2 q3 q6 q7 q10 c0 c1 c2 c3 u11.2.1 u11.2.2.1 u11.2.2.2 c7 c8 c9 c10) := hD
    refine lv_istore_n (lv' := [(2, .int u11.1), (0, .ref h), (1, .int a1)]) hx hb dX1_mendAll_14 rfl hl (by decide) rfl (fun ls hl => ?_)
    refine lv_iload_n hx hb dX1_mendAll_15 rfl (lv_at hl 0 rfl) ?_
    refine lv_if_ge (tgt := 21) hx hb dX1_mendAll_16 (by decide) (fun c_16 => ?_) (fun c_16 => ?_)
    · replace hf := (if_pos c_16).symm.trans hf
      refine lv_aload_n hx hb dX1_mendAll_21 rfl (lv_at hl 1 rfl) ?_
      refine lv_bipush (v := (-6 : Int32)) hx hb dX1_mendAll_22 (by decide) ?_
      refine va_put (D := (dC, dI)) (ci := 1) (v := .int (-6 : Int32)) (ty := .int) (C := RX1) (T := TX1) (N := 11) hx hb hts (by decide +kernel) tyX1 tyX1_ok nmX1 hown hK hP hD hS 0 rfl rfl 8 (by decide) (hts (.fieldLink RX1 100 "GiftLotsModel" "fewest" "I") (by decide +kernel)) (fun _ h9 => h9) rfl (by decide +kernel) rfl rfl (Nat.le_of_ble_eq_true rfl) dX1_mendAll_24 (fun H locs hP hD hS => ?_)
      have hP : va_P (dC, dI) vwCl (wX1 cy h q2 q3 q6 q7 q10 c0 c1 c2 c3 u11.2.1 u11.2.2.1 u11.2.2.2 c7 (-6 : Int32) c9 c10) H := hP
      have hD : va_D A (wX1 cy h q2 q3 q6 q7 q10 c0 c1 c2 c3 u11.2.1 u11.2.2.1 u11.2.2.2 c7 (-6 : Int32) c9 c10) := hD
      refine lv_aload_n hx hb dX1_mendAll_27 rfl (lv_at hl 1 rfl) ?_
      refine lv_iconst (v := (0 : Int32)) hx hb dX1_mendAll_28 (by decide) ?_
      refine va_put (D := (dC, dI)) (ci := 1) (v := .int (0 : Int32)) (ty := .int) (C := RX1) (T := TX1) (N := 11) hx hb hts (by decide +kernel) tyX1 tyX1_ok nmX1 hown hK hP hD hS 0 rfl rfl 9 (by decide) (hts (.fieldLink RX1 103 "GiftLotsModel" "many" "I") (by decide +kernel)) (fun _ h9 => h9) rfl (by decide +kernel) rfl rfl (Nat.le_of_ble_eq_true rfl) dX1_mendAll_29 (fun H locs hP hD hS => ?_)
      have hP : va_P (dC, dI) vwCl (wX1 cy h q2 q3 q6 q7 q10 c0 c1 c2 c3 u11.2.1 u11.2.2.1 u11.2.2.2 c7 (-6 : Int32) (0 : Int32) c10) H := hP
      have hD : va_D A (wX1 cy h q2 q3 q6 q7 q10 c0 c1 c2 c3 u11.2.1 u11.2.2.1 u11.2.2.2 c7 (-6 : Int32) (0 : Int32) c10) := hD
      refine lv_aload_n hx hb dX1_mendAll_32 rfl (lv_at hl 1 rfl) ?_
      refine lv_aload_n hx hb dX1_mendAll_33 rfl (lv_at hl 1 rfl) ?_
      obtain ⟨u34, hu34, hf⟩ := z_ob_some hf
      have hPc := hP.sub (ws' := (wX1 cy h q2 q3 q6 q7 q10 c0 c1 c2 c3 u11.2.1 u11.2.2.1 u11.2.2.2 c7 (-6 : Int32) (0 : Int32) c10)) [0, 1, 2, 3, 4, 5] rfl
      have hDc := hD.sub (ws' := (wX1 cy h q2 q3 q6 q7 q10 c0 c1 c2 c3 u11.2.1 u11.2.2.1 u11.2.2.2 c7 (-6 : Int32) (0 : Int32) c10)) [0, 1, 2, 3, 4, 5] (by decide) rfl
      have hKc := hK.sub (tys' := [(cy, .int)]) [0] rfl
      have hFc := va_free (wc := (wX1 cy h q2 q3 q6 q7 q10 c0 c1 c2 c3 u11.2.1 u11.2.2.1 u11.2.2.2 c7 (-6 : Int32) (0 : Int32) c10)) hD hS hA [0, 1, 2, 3, 4, 5] rfl
      refine va_calli (va_runV (As := []) (rest := [.ref h]) ⟨hx, hb, hml, hown, hts⟩ (c_X1_all N l dC dI cy h q2 q3 q6 q7 q10 H.size c0 c1 c2 c3 u11.2.1 u11.2.2.1 u11.2.2.2 c7 (-6 : Int32) (0 : Int32) c10 u34 hu34) (cwV 0 hts gX1_mendAll_X1_all rfl rfl rfl (by decide +kernel) ⟨Nat.le_of_ble_eq_true rfl, Nat.le_of_ble_eq_true rfl⟩) ⟨fun a U g mk q => by obtain ⟨q0, q1, qP, qK, qD⟩ := q; exact ⟨q0, q1, qP, va_K.moved (u := U) (U := U.calling g mk a) (Vm.Alike.refl U.vm) qK, qD⟩, va_recv hKc hPc (ci := 1) (q0 := 0) rfl rfl, fun U hU hW => ⟨rfl, by rw [hU], by rw [hU]; exact hPc, va_K.moved hW.alike hKc, hDc.weaken (fun _ _ _ _ => trivial)⟩⟩ rfl rfl hl.1 rfl (lv_room (Nat.le_of_ble_eq_true rfl)) dX1_mendAll_34 ⟨Nat.zero_le _, Nat.zero_le _⟩) hS (fun q _ h => hFc q h) hFc (fun r_34 uu_ t H1 locs ht hvm hw hB hz1 hk1 hS => ?_)
      replace hw := hw.symm
      subst hw
      obtain ⟨hP1, -, hD1⟩ := hB
      rw [ht] at hP1
      obtain ⟨hP, hD⟩ := va_join (wr := []) (w1 := (wX1 cy h q2 q3 q6 q7 q10 c0 c1 c2 c3 u11.2.1 u11.2.2.1 u11.2.2.2 c7 (-6 : Int32) (0 : Int32) c10)) hP hD [0, 1, 2, 3, 4, 5] [] rfl rfl (by decide) (by decide) hk1 hFc hP1 hD1
      clear hk1 hz1 hP1 hD1 ht hPc hDc hFc
      generalize H1 = H at hP hS ⊢
      have hP : va_P (dC, dI) vwCl (wX1 cy h q2 q3 q6 q7 q10 c0 c1 c2 c3 u11.2.1 u11.2.2.1 u11.2.2.2 c7 (-6 : Int32) (0 : Int32) c10) H := hP
      have hD : va_D A (wX1 cy h q2 q3 q6 q7 q10 c0 c1 c2 c3 u11.2.1 u11.2.2.1 u11.2.2.2 c7 (-6 : Int32) (0 : Int32) c10) := hD
      refine lv_iconst (v := (1 : Int32)) hx hb dX1_mendAll_37 (by decide) ?_
      refine lv_iload_n hx hb dX1_mendAll_38 rfl (lv_at hl 2 rfl) ?_
      refine lv_ishl hx hb dX1_mendAll_39 ?_
      refine lv_iconst (v := (-1 : Int32)) hx hb dX1_mendAll_40 (by decide) ?_
      refine lv_ixor hx hb dX1_mendAll_41 ?_
      refine lv_iand hx hb dX1_mendAll_42 ?_
      refine lv_iconst (v := (0 : Int32)) hx hb dX1_mendAll_43 (by decide) ?_
      obtain ⟨u44, hu44, hf⟩ := z_ob_some hf
      have hPc := hP.sub (ws' := (wX1 cy h q2 q3 q6 q7 q10 c0 c1 c2 c3 u11.2.1 u11.2.2.1 u11.2.2.2 c7 (-6 : Int32) (0 : Int32) c10)) [0, 1, 2, 3, 4, 5] rfl
      have hDc := hD.sub (ws' := (wX1 cy h q2 q3 q6 q7 q10 c0 c1 c2 c3 u11.2.1 u11.2.2.1 u11.2.2.2 c7 (-6 : Int32) (0 : Int32) c10)) [0, 1, 2, 3, 4, 5] (by decide) rfl
      have hKc := hK.sub (tys' := [(cy, .int)]) [0] rfl
      have hFc := va_free (wc := (wX1 cy h q2 q3 q6 q7 q10 c0 c1 c2 c3 u11.2.1 u11.2.2.1 u11.2.2.2 c7 (-6 : Int32) (0 : Int32) c10)) hD hS hA [0, 1, 2, 3, 4, 5] rfl
      refine va_callv (va_runV (As := [.int (u34 &&& (((1 : Int32) <<< (a1 &&& 31)) ^^^ (-1 : Int32))), .int (0 : Int32)]) (rest := []) ⟨hx, hb, hml, hown, hts⟩ (c_X1_start N l dC dI cy h q2 q3 q6 q7 q10 H.size c0 c1 c2 c3 u11.2.1 u11.2.2.1 u11.2.2.2 c7 (-6 : Int32) (0 : Int32) c10 (u34 &&& (((1 : Int32) <<< (a1 &&& 31)) ^^^ (-1 : Int32))) (0 : Int32) u44 hu44) (cwV 2 hts gX1_mendAll_X1_start rfl rfl rfl (by decide +kernel) ⟨Nat.le_of_ble_eq_true rfl, Nat.le_of_ble_eq_true rfl⟩) ⟨fun a U g mk q => by obtain ⟨q0, q1, qP, qK, qD⟩ := q; exact ⟨q0, q1, qP, va_K.moved (u := U) (U := U.calling g mk a) (Vm.Alike.refl U.vm) qK, qD⟩, va_recv hKc hPc (ci := 1) (q0 := 0) rfl rfl, fun U hU hW => ⟨rfl, by rw [hU], by rw [hU]; exact hPc, va_K.moved hW.alike hKc, hDc.weaken (fun _ _ _ _ => trivial)⟩⟩ rfl rfl hl.1 rfl (lv_room (Nat.le_of_ble_eq_true rfl)) dX1_mendAll_44 ⟨Nat.zero_le _, Nat.zero_le _⟩) hS (fun q _ h => hFc q h) hFc (fun uu_ t H1 locs ht hvm hw hB hz1 hk1 hS => ?_)
      obtain ⟨hP1, -, hD1⟩ := hB
      rw [ht] at hP1
      obtain ⟨hP, hD⟩ := va_join (wr := []) (w1 := (wX1 cy h q2 q3 q6 q7 q10 c0 c1 c2 c3 u44.1 u44.2.1 u44.2.2 c7 (-6 : Int32) (0 : Int32) c10)) hP hD [0, 1, 2, 3, 4, 5] [] rfl rfl (by decide) (by decide) hk1 hFc hP1 hD1
      clear hk1 hz1 hP1 hD1 ht hPc hDc hFc
      generalize H1 = H at hP hS ⊢
      have hP : va_P (dC, dI) vwCl (wX1 cy h q2 q3 q6 q7 q10 c0 c1 c2 c3 u44.1 u44.2.1 u44.2.2 c7 (-6 : Int32) (0 : Int32) c10) H := hP
      have hD : va_D A (wX1 cy h q2 q3 q6 q7 q10 c0 c1 c2 c3 u44.1 u44.2.1 u44.2.2 c7 (-6 : Int32) (0 : Int32) c10) := hD
      exact B47 N a1 u44.1 u44.2.1 u44.2.2 (-6 : Int32) (0 : Int32) c10 _ _ _ hf hP hD hS (lv_sub hl [1, 2] rfl)
    · replace hf := (if_neg c_16).symm.trans hf
      refine lv_iload_n hx hb dX1_mendAll_19 rfl (lv_at hl 0 rfl) ?_
      have hres := Option.some.inj hf
      subst hres
      have hP9 := hP.sub (ws' := (wX1 cy h q2 q3 q6 q7 q10 c0 c1 c2 c3 u11.2.1 u11.2.2.1 u11.2.2.2 c7 c8 c9 c10)) [0, 1, 2, 3, 4, 5] rfl
      have hD9 := hD.sub (ws' := (wX1 cy h q2 q3 q6 q7 q10 c0 c1 c2 c3 u11.2.1 u11.2.2.1 u11.2.2.2 c7 c8 c9 c10)) [0, 1, 2, 3, 4, 5] (by decide) rfl
      have hK9 := hK.sub (tys' := [(cy, .int)]) [0] rfl
      exact W.iret (v := u11.1) hx hb hr (fun t ht hW => ⟨⟨u11.1, (), rfl, rfl, by rw [ht]; exact hP9, va_K.moved hW.alike hK9, hD9⟩, hS.F ht⟩) hS.2.2 dX1_mendAll_20
  · replace hf := (if_pos c_5).symm.trans hf
    refine lv_iconst (v := (-1 : Int32)) hx hb dX1_mendAll_8 (by decide) ?_
    have hres := Option.some.inj hf
    subst hres
    have hP9 := hP.sub (ws' := (wX1 cy h q2 q3 q6 q7 q10 c0 c1 c2 c3 c4 c5 c6 c7 c8 c9 c10)) [0, 1, 2, 3, 4, 5] rfl
    have hD9 := hD.sub (ws' := (wX1 cy h q2 q3 q6 q7 q10 c0 c1 c2 c3 c4 c5 c6 c7 c8 c9 c10)) [0, 1, 2, 3, 4, 5] (by decide) rfl
    have hK9 := hK.sub (tys' := [(cy, .int)]) [0] rfl
    exact W.iret (v := (-1 : Int32)) hx hb hr (fun t ht hW => ⟨⟨(-1 : Int32), (), rfl, rfl, by rw [ht]; exact hP9, va_K.moved hW.alike hK9, hD9⟩, hS.F ht⟩) hS.2.2 dX1_mendAll_9

set_option maxRecDepth 20000 in
theorem ggX1_changes_X1_mendAll : GoodIn wsX1_changes wsX1_mendAll := goodIn_r _ [6, 1, 7, 8, 9, 10, 11, 12, 13, 14, 5, 15, 16, 17, 18, 19, 20, 21, 22, 23, 24, 25, 26, 27, 28, 29, 30, 31, 32, 33, 34, 35, 36, 37, 38, 39, 40, 41, 42, 43, 44, 45, 46, 47, 48, 49, 50, 51, 52, 53, 54, 55, 56, 57, 58, 59, 60, 61, 62, 63, 64, 65, 66, 67, 68, 69, 70, 71, 72, 73] (by decide +kernel) (by decide +kernel)
set_option maxRecDepth 20000 in
theorem gX1_changes_X1_mendAll : GoodIn wsX1_changes (wsV RX1 106 RX1 yX1_mendAll wsX1_mendAll) := goodIn_app (goodIn_of _ (by decide +kernel)) ggX1_changes_X1_mendAll
theorem dX1_changes_0 : decode cX1_changes 0 = .ok (.aload_n 0, 1) := by decide +kernel
theorem dX1_changes_1 : decode cX1_changes 1 = .ok (.iload_n 1, 1) := by decide +kernel
theorem dX1_changes_2 : decode cX1_changes 2 = .ok (.invokevirtual 106, 3) := by decide +kernel
theorem dX1_changes_5 : decode cX1_changes 5 = .ok (.istore_n 2, 1) := by decide +kernel
theorem dX1_changes_6 : decode cX1_changes 6 = .ok (.iload_n 2, 1) := by decide +kernel
theorem dX1_changes_7 : decode cX1_changes 7 = .ok (.ifCond .ge 7, 3) := by decide +kernel
theorem dX1_changes_10 : decode cX1_changes 10 = .ok (.iload_n 2, 1) := by decide +kernel
theorem dX1_changes_11 : decode cX1_changes 11 = .ok (.goto 7, 3) := by decide +kernel
theorem dX1_changes_14 : decode cX1_changes 14 = .ok (.aload_n 0, 1) := by decide +kernel
theorem dX1_changes_15 : decode cX1_changes 15 = .ok (.getfield 100, 3) := by decide +kernel
theorem dX1_changes_18 : decode cX1_changes 18 = .ok (.ireturn, 1) := by decide +kernel
abbrev rm_X1_changes : Room := { frames := 5, cells := 0, slots := 0, locals := 115 }
set_option maxHeartbeats 4000000 in
set_option maxRecDepth 100000 in
theorem c_X1_changes (N : Nat) (l : Launch) (dC : Nat → ClassId) (dI : Nat → Nat → Nat) (cy : ClassId) (h q2 q3 q6 q7 q10 : Nat) (sz : Nat) (c0 : Int32) (c1 : Int32) (c2 : Nat → Int32) (c3 : Nat → Int32) (c4 : Int32) (c5 : Int32) (c6 : Nat → Int32) (c7 : Nat → Int32) (c8 : Int32) (c9 : Int32) (c10 : Nat → Int32) (a1 : Int32) (res : Int32 × Int32 × Int32 × (Nat → Int32) × Int32 × Int32 × (Nat → Int32)) (hf : f_X1_changes N a1 c0 c1 c2 c3 c4 c5 c6 c8 c9 c10 = some res) : Met l yX1_changes wsX1_changes rm_X1_changes (va_Pc [.ref h, .int a1] (fun U => U.heap.size = sz ∧ va_P (dC, dI) vwCl (wX1 cy h q2 q3 q6 q7 q10 c0 c1 c2 c3 c4 c5 c6 c7 c8 c9 c10) U.heap ∧ va_K (dC, dI) vwCl [(cy, .int)] U ∧ va_D (fun _ => True) (wX1 cy h q2 q3 q6 q7 q10 c0 c1 c2 c3 c4 c5 c6 c7 c8 c9 c10))) (z_qI dC dI cy res.1 (wX1 cy h q2 q3 q6 q7 q10 c0 c1 c2 c3 res.2.1 res.2.2.1 res.2.2.2.1 c7 res.2.2.2.2.1 res.2.2.2.2.2.1 res.2.2.2.2.2.2) (va_A (wX1 cy h q2 q3 q6 q7 q10 c0 c1 c2 c3 c4 c5 c6 c7 c8 c9 c10) sz)) 0 0 (va_A (wX1 cy h q2 q3 q6 q7 q10 c0 c1 c2 c3 c4 c5 c6 c7 c8 c9 c10) sz) := by
  refine Met.ofW (cc := cX1_changes) (maxL := 3) (ret := (some .int)) (by decide) rfl ?_
  intro p e s m args below meth c s₁ B hml hv
  obtain ⟨rfl, hsz, hP, hK, hD0⟩ := hv
  have hx := B.exec
  have hb := B.bytes
  have hr := B.returns
  have hts := atoms_spec (ws := wsX1_changes) B.pre
  have hown : s.vm.findClass RX1 = some m.cls := findClass_of_methodNamed B.named
  have hlocks := B.notSynchronized
  subst hsz
  have hD := hD0.self (sz := s.heap.size)
  generalize hAe : va_A (wX1 cy h q2 q3 q6 q7 q10 c0 c1 c2 c3 c4 c5 c6 c7 c8 c9 c10) s.heap.size = A at hD ⊢
  have hA : ∀ q : Nat, s.heap.size ≤ q → A q := fun q h => by rw [← hAe]; exact Or.inr h
  have hS : va_S A s.heap s.heap [] := va_S.rf
  have hP : va_P (dC, dI) vwCl (wX1 cy h q2 q3 q6 q7 q10 c0 c1 c2 c3 c4 c5 c6 c7 c8 c9 c10) s.heap := hP
  have hl := lv_entry ([.ref h, .int a1]) (n := 3) (Nat.le_of_ble_eq_true rfl)
  rw [lg_entry_eq]
  generalize (lg_sl ([.ref h, .int a1]) ++ List.replicate (3 - (lg_sl ([.ref h, .int a1])).length) Slot.unset).toArray = ls at hl ⊢
  have hl : lv_has ls 3 [(0, .ref h), (1, .int a1)] := hl
  unfold f_X1_changes at hf
  refine lv_aload_n hx hb dX1_changes_0 rfl (lv_at hl 0 rfl) ?_
  refine lv_iload_n hx hb dX1_changes_1 rfl (lv_at hl 1 rfl) ?_
  obtain ⟨u2, hu2, hf⟩ := z_ob_some hf
  have hPc := hP.sub (ws' := (wX1 cy h q2 q3 q6 q7 q10 c0 c1 c2 c3 c4 c5 c6 c7 c8 c9 c10)) [0, 1, 2, 3, 4, 5] rfl
  have hDc := hD.sub (ws' := (wX1 cy h q2 q3 q6 q7 q10 c0 c1 c2 c3 c4 c5 c6 c7 c8 c9 c10)) [0, 1, 2, 3, 4, 5] (by decide) rfl
  have hKc := hK.sub (tys' := [(cy, .int)]) [0] rfl
  have hFc := va_free (wc := (wX1 cy h q2 q3 q6 q7 q10 c0 c1 c2 c3 c4 c5 c6 c7 c8 c9 c10)) hD hS hA [0, 1, 2, 3, 4, 5] rfl
  refine va_calli (va_runV (As := [.int a1]) (rest := []) ⟨hx, hb, hml, hown, hts⟩ (c_X1_mendAll N l dC dI cy h q2 q3 q6 q7 q10 s.heap.size c0 c1 c2 c3 c4 c5 c6 c7 c8 c9 c10 a1 u2 hu2) (cwV 1 hts gX1_changes_X1_mendAll rfl rfl rfl (by decide +kernel) ⟨Nat.le_of_ble_eq_true rfl, Nat.le_of_ble_eq_true rfl⟩) ⟨fun a U g mk q => by obtain ⟨q0, q1, qP, qK, qD⟩ := q; exact ⟨q0, q1, qP, va_K.moved (u := U) (U := U.calling g mk a) (Vm.Alike.refl U.vm) qK, qD⟩, va_recv hKc hPc (ci := 1) (q0 := 0) rfl rfl, fun U hU hW => ⟨rfl, by rw [hU], by rw [hU]; exact hPc, va_K.moved hW.alike hKc, hDc.weaken (fun _ _ _ _ => trivial)⟩⟩ rfl rfl hl.1 rfl (lv_room (Nat.le_of_ble_eq_true rfl)) dX1_changes_2 ⟨Nat.zero_le _, Nat.zero_le _⟩) hS (fun q _ h => hFc q h) hFc (fun r_2 uu_ t H1 locs ht hvm hw hB hz1 hk1 hS => ?_)
  replace hw := hw.symm
  subst hw
  obtain ⟨hP1, -, hD1⟩ := hB
  rw [ht] at hP1
  obtain ⟨hP, hD⟩ := va_join (wr := []) (w1 := (wX1 cy h q2 q3 q6 q7 q10 c0 c1 c2 c3 u2.2.1 u2.2.2.1 u2.2.2.2.1 c7 u2.2.2.2.2.1 u2.2.2.2.2.2.1 u2.2.2.2.2.2.2)) hP hD [0, 1, 2, 3, 4, 5] [] rfl rfl (by decide) (by decide) hk1 hFc hP1 hD1
  clear hk1 hz1 hP1 hD1 ht hPc hDc hFc
  generalize H1 = H at hP hS ⊢
  have hP : va_P (dC, dI) vwCl (wX1 cy h q2 q3 q6 q7 q10 c0 c1 c2 c3 u2.2.1 u2.2.2.1 u2.2.2.2.1 c7 u2.2.2.2.2.1 u2.2.2.2.2.2.1 u2.2.2.2.2.2.2) H := hP
  have hD : va_D A (wX1 cy h q2 q3 q6 q7 q10 c0 c1 c2 c3 u2.2.1 u2.2.2.1 u2.2.2.2.1 c7 u2.2.2.2.2.1 u2.2.2.2.2.2.1 u2.2.2.2.2.2.2) := hD
  refine lv_istore_n (lv' := [(2, .int u2.1), (0, .ref h), (1, .int a1)]) hx hb dX1_changes_5 rfl hl (by decide) rfl (fun ls hl => ?_)
  refine lv_iload_n hx hb dX1_changes_6 rfl (lv_at hl 0 rfl) ?_
  refine lv_if_ge (tgt := 14) hx hb dX1_changes_7 (by decide) (fun c_7 => ?_) (fun c_7 => ?_)
  · replace hf := (if_pos c_7).symm.trans hf
    refine lv_aload_n hx hb dX1_changes_14 rfl (lv_at hl 1 rfl) ?_
    refine va_get (D := (dC, dI)) (ci := 1) (v := .int u2.2.2.2.2.1) (C := RX1) (T := TX1) (N := 11) hx hb hts (by decide +kernel) hown hK hP 0 rfl rfl 8 (by decide) (hts (.fieldLink RX1 100 "GiftLotsModel" "fewest" "I") (by decide +kernel)) (fun _ h9 => h9) rfl dX1_changes_15 ?_
    have hres := Option.some.inj hf
    subst hres
    have hP9 := hP.sub (ws' := (wX1 cy h q2 q3 q6 q7 q10 c0 c1 c2 c3 u2.2.1 u2.2.2.1 u2.2.2.2.1 c7 u2.2.2.2.2.1 u2.2.2.2.2.2.1 u2.2.2.2.2.2.2)) [0, 1, 2, 3, 4, 5] rfl
    have hD9 := hD.sub (ws' := (wX1 cy h q2 q3 q6 q7 q10 c0 c1 c2 c3 u2.2.1 u2.2.2.1 u2.2.2.2.1 c7 u2.2.2.2.2.1 u2.2.2.2.2.2.1 u2.2.2.2.2.2.2)) [0, 1, 2, 3, 4, 5] (by decide) rfl
    have hK9 := hK.sub (tys' := [(cy, .int)]) [0] rfl
    exact W.iret (v := u2.2.2.2.2.1) hx hb hr (fun t ht hW => ⟨⟨u2.2.2.2.2.1, (), rfl, rfl, by rw [ht]; exact hP9, va_K.moved hW.alike hK9, hD9⟩, hS.F ht⟩) hS.2.2 dX1_changes_18
  · replace hf := (if_neg c_7).symm.trans hf
    refine lv_iload_n hx hb dX1_changes_10 rfl (lv_at hl 0 rfl) ?_
    refine lv_goto (tgt := 18) hx hb dX1_changes_11 (by decide) ?_
    have hres := Option.some.inj hf
    subst hres
    have hP9 := hP.sub (ws' := (wX1 cy h q2 q3 q6 q7 q10 c0 c1 c2 c3 u2.2.1 u2.2.2.1 u2.2.2.2.1 c7 u2.2.2.2.2.1 u2.2.2.2.2.2.1 u2.2.2.2.2.2.2)) [0, 1, 2, 3, 4, 5] rfl
    have hD9 := hD.sub (ws' := (wX1 cy h q2 q3 q6 q7 q10 c0 c1 c2 c3 u2.2.1 u2.2.2.1 u2.2.2.2.1 c7 u2.2.2.2.2.1 u2.2.2.2.2.2.1 u2.2.2.2.2.2.2)) [0, 1, 2, 3, 4, 5] (by decide) rfl
    have hK9 := hK.sub (tys' := [(cy, .int)]) [0] rfl
    exact W.iret (v := u2.1) hx hb hr (fun t ht hW => ⟨⟨u2.1, (), rfl, rfl, by rw [ht]; exact hP9, va_K.moved hW.alike hK9, hD9⟩, hS.F ht⟩) hS.2.2 dX1_changes_18

set_option maxRecDepth 20000 in
theorem ggX1_mends_X1_mendAll : GoodIn wsX1_mends wsX1_mendAll := goodIn_r _ [6, 7, 1, 8, 9, 10, 11, 12, 13, 14, 5, 15, 16, 17, 18, 19, 20, 21, 22, 23, 24, 25, 26, 27, 28, 29, 30, 31, 32, 33, 34, 35, 36, 37, 38, 39, 40, 41, 42, 43, 44, 45, 46, 47, 48, 49, 50, 51, 52, 53, 54, 55, 56, 57, 58, 59, 60, 61, 62, 63, 64, 65, 66, 67, 68, 69, 70, 71, 72, 73] (by decide +kernel) (by decide +kernel)
set_option maxRecDepth 20000 in
theorem gX1_mends_X1_mendAll : GoodIn wsX1_mends (wsV RX1 106 RX1 yX1_mendAll wsX1_mendAll) := goodIn_app (goodIn_of _ (by decide +kernel)) ggX1_mends_X1_mendAll
theorem dX1_mends_0 : decode cX1_mends 0 = .ok (.aload_n 0, 1) := by decide +kernel
theorem dX1_mends_1 : decode cX1_mends 1 = .ok (.iload_n 1, 1) := by decide +kernel
theorem dX1_mends_2 : decode cX1_mends 2 = .ok (.invokevirtual 106, 3) := by decide +kernel
theorem dX1_mends_5 : decode cX1_mends 5 = .ok (.istore_n 2, 1) := by decide +kernel
theorem dX1_mends_6 : decode cX1_mends 6 = .ok (.iload_n 2, 1) := by decide +kernel
theorem dX1_mends_7 : decode cX1_mends 7 = .ok (.ifCond .ge 7, 3) := by decide +kernel
theorem dX1_mends_10 : decode cX1_mends 10 = .ok (.iload_n 2, 1) := by decide +kernel
theorem dX1_mends_11 : decode cX1_mends 11 = .ok (.goto 7, 3) := by decide +kernel
theorem dX1_mends_14 : decode cX1_mends 14 = .ok (.aload_n 0, 1) := by decide +kernel
theorem dX1_mends_15 : decode cX1_mends 15 = .ok (.getfield 103, 3) := by decide +kernel
theorem dX1_mends_18 : decode cX1_mends 18 = .ok (.ireturn, 1) := by decide +kernel
abbrev rm_X1_mends : Room := { frames := 5, cells := 0, slots := 0, locals := 115 }
set_option maxHeartbeats 4000000 in
set_option maxRecDepth 100000 in
theorem c_X1_mends (N : Nat) (l : Launch) (dC : Nat → ClassId) (dI : Nat → Nat → Nat) (cy : ClassId) (h q2 q3 q6 q7 q10 : Nat) (sz : Nat) (c0 : Int32) (c1 : Int32) (c2 : Nat → Int32) (c3 : Nat → Int32) (c4 : Int32) (c5 : Int32) (c6 : Nat → Int32) (c7 : Nat → Int32) (c8 : Int32) (c9 : Int32) (c10 : Nat → Int32) (a1 : Int32) (res : Int32 × Int32 × Int32 × (Nat → Int32) × Int32 × Int32 × (Nat → Int32)) (hf : f_X1_mends N a1 c0 c1 c2 c3 c4 c5 c6 c8 c9 c10 = some res) : Met l yX1_mends wsX1_mends rm_X1_mends (va_Pc [.ref h, .int a1] (fun U => U.heap.size = sz ∧ va_P (dC, dI) vwCl (wX1 cy h q2 q3 q6 q7 q10 c0 c1 c2 c3 c4 c5 c6 c7 c8 c9 c10) U.heap ∧ va_K (dC, dI) vwCl [(cy, .int)] U ∧ va_D (fun _ => True) (wX1 cy h q2 q3 q6 q7 q10 c0 c1 c2 c3 c4 c5 c6 c7 c8 c9 c10))) (z_qI dC dI cy res.1 (wX1 cy h q2 q3 q6 q7 q10 c0 c1 c2 c3 res.2.1 res.2.2.1 res.2.2.2.1 c7 res.2.2.2.2.1 res.2.2.2.2.2.1 res.2.2.2.2.2.2) (va_A (wX1 cy h q2 q3 q6 q7 q10 c0 c1 c2 c3 c4 c5 c6 c7 c8 c9 c10) sz)) 0 0 (va_A (wX1 cy h q2 q3 q6 q7 q10 c0 c1 c2 c3 c4 c5 c6 c7 c8 c9 c10) sz) := by
  refine Met.ofW (cc := cX1_mends) (maxL := 3) (ret := (some .int)) (by decide) rfl ?_
  intro p e s m args below meth c s₁ B hml hv
  obtain ⟨rfl, hsz, hP, hK, hD0⟩ := hv
  have hx := B.exec
  have hb := B.bytes
  have hr := B.returns
  have hts := atoms_spec (ws := wsX1_mends) B.pre
  have hown : s.vm.findClass RX1 = some m.cls := findClass_of_methodNamed B.named
  have hlocks := B.notSynchronized
  subst hsz
  have hD := hD0.self (sz := s.heap.size)
  generalize hAe : va_A (wX1 cy h q2 q3 q6 q7 q10 c0 c1 c2 c3 c4 c5 c6 c7 c8 c9 c10) s.heap.size = A at hD ⊢
  have hA : ∀ q : Nat, s.heap.size ≤ q → A q := fun q h => by rw [← hAe]; exact Or.inr h
  have hS : va_S A s.heap s.heap [] := va_S.rf
  have hP : va_P (dC, dI) vwCl (wX1 cy h q2 q3 q6 q7 q10 c0 c1 c2 c3 c4 c5 c6 c7 c8 c9 c10) s.heap := hP
  have hl := lv_entry ([.ref h, .int a1]) (n := 3) (Nat.le_of_ble_eq_true rfl)
  rw [lg_entry_eq]
  generalize (lg_sl ([.ref h, .int a1]) ++ List.replicate (3 - (lg_sl ([.ref h, .int a1])).length) Slot.unset).toArray = ls at hl ⊢
  have hl : lv_has ls 3 [(0, .ref h), (1, .int a1)] := hl
  unfold f_X1_mends at hf
  refine lv_aload_n hx hb dX1_mends_0 rfl (lv_at hl 0 rfl) ?_
  refine lv_iload_n hx hb dX1_mends_1 rfl (lv_at hl 1 rfl) ?_
  obtain ⟨u2, hu2, hf⟩ := z_ob_some hf
  have hPc := hP.sub (ws' := (wX1 cy h q2 q3 q6 q7 q10 c0 c1 c2 c3 c4 c5 c6 c7 c8 c9 c10)) [0, 1, 2, 3, 4, 5] rfl
  have hDc := hD.sub (ws' := (wX1 cy h q2 q3 q6 q7 q10 c0 c1 c2 c3 c4 c5 c6 c7 c8 c9 c10)) [0, 1, 2, 3, 4, 5] (by decide) rfl
  have hKc := hK.sub (tys' := [(cy, .int)]) [0] rfl
  have hFc := va_free (wc := (wX1 cy h q2 q3 q6 q7 q10 c0 c1 c2 c3 c4 c5 c6 c7 c8 c9 c10)) hD hS hA [0, 1, 2, 3, 4, 5] rfl
  refine va_calli (va_runV (As := [.int a1]) (rest := []) ⟨hx, hb, hml, hown, hts⟩ (c_X1_mendAll N l dC dI cy h q2 q3 q6 q7 q10 s.heap.size c0 c1 c2 c3 c4 c5 c6 c7 c8 c9 c10 a1 u2 hu2) (cwV 1 hts gX1_mends_X1_mendAll rfl rfl rfl (by decide +kernel) ⟨Nat.le_of_ble_eq_true rfl, Nat.le_of_ble_eq_true rfl⟩) ⟨fun a U g mk q => by obtain ⟨q0, q1, qP, qK, qD⟩ := q; exact ⟨q0, q1, qP, va_K.moved (u := U) (U := U.calling g mk a) (Vm.Alike.refl U.vm) qK, qD⟩, va_recv hKc hPc (ci := 1) (q0 := 0) rfl rfl, fun U hU hW => ⟨rfl, by rw [hU], by rw [hU]; exact hPc, va_K.moved hW.alike hKc, hDc.weaken (fun _ _ _ _ => trivial)⟩⟩ rfl rfl hl.1 rfl (lv_room (Nat.le_of_ble_eq_true rfl)) dX1_mends_2 ⟨Nat.zero_le _, Nat.zero_le _⟩) hS (fun q _ h => hFc q h) hFc (fun r_2 uu_ t H1 locs ht hvm hw hB hz1 hk1 hS => ?_)
  replace hw := hw.symm
  subst hw
  obtain ⟨hP1, -, hD1⟩ := hB
  rw [ht] at hP1
  obtain ⟨hP, hD⟩ := va_join (wr := []) (w1 := (wX1 cy h q2 q3 q6 q7 q10 c0 c1 c2 c3 u2.2.1 u2.2.2.1 u2.2.2.2.1 c7 u2.2.2.2.2.1 u2.2.2.2.2.2.1 u2.2.2.2.2.2.2)) hP hD [0, 1, 2, 3, 4, 5] [] rfl rfl (by decide) (by decide) hk1 hFc hP1 hD1
  clear hk1 hz1 hP1 hD1 ht hPc hDc hFc
  generalize H1 = H at hP hS ⊢
  have hP : va_P (dC, dI) vwCl (wX1 cy h q2 q3 q6 q7 q10 c0 c1 c2 c3 u2.2.1 u2.2.2.1 u2.2.2.2.1 c7 u2.2.2.2.2.1 u2.2.2.2.2.2.1 u2.2.2.2.2.2.2) H := hP
  have hD : va_D A (wX1 cy h q2 q3 q6 q7 q10 c0 c1 c2 c3 u2.2.1 u2.2.2.1 u2.2.2.2.1 c7 u2.2.2.2.2.1 u2.2.2.2.2.2.1 u2.2.2.2.2.2.2) := hD
  refine lv_istore_n (lv' := [(2, .int u2.1), (0, .ref h), (1, .int a1)]) hx hb dX1_mends_5 rfl hl (by decide) rfl (fun ls hl => ?_)
  refine lv_iload_n hx hb dX1_mends_6 rfl (lv_at hl 0 rfl) ?_
  refine lv_if_ge (tgt := 14) hx hb dX1_mends_7 (by decide) (fun c_7 => ?_) (fun c_7 => ?_)
  · replace hf := (if_pos c_7).symm.trans hf
    refine lv_aload_n hx hb dX1_mends_14 rfl (lv_at hl 1 rfl) ?_
    refine va_get (D := (dC, dI)) (ci := 1) (v := .int u2.2.2.2.2.2.1) (C := RX1) (T := TX1) (N := 11) hx hb hts (by decide +kernel) hown hK hP 0 rfl rfl 9 (by decide) (hts (.fieldLink RX1 103 "GiftLotsModel" "many" "I") (by decide +kernel)) (fun _ h9 => h9) rfl dX1_mends_15 ?_
    have hres := Option.some.inj hf
    subst hres
    have hP9 := hP.sub (ws' := (wX1 cy h q2 q3 q6 q7 q10 c0 c1 c2 c3 u2.2.1 u2.2.2.1 u2.2.2.2.1 c7 u2.2.2.2.2.1 u2.2.2.2.2.2.1 u2.2.2.2.2.2.2)) [0, 1, 2, 3, 4, 5] rfl
    have hD9 := hD.sub (ws' := (wX1 cy h q2 q3 q6 q7 q10 c0 c1 c2 c3 u2.2.1 u2.2.2.1 u2.2.2.2.1 c7 u2.2.2.2.2.1 u2.2.2.2.2.2.1 u2.2.2.2.2.2.2)) [0, 1, 2, 3, 4, 5] (by decide) rfl
    have hK9 := hK.sub (tys' := [(cy, .int)]) [0] rfl
    exact W.iret (v := u2.2.2.2.2.2.1) hx hb hr (fun t ht hW => ⟨⟨u2.2.2.2.2.2.1, (), rfl, rfl, by rw [ht]; exact hP9, va_K.moved hW.alike hK9, hD9⟩, hS.F ht⟩) hS.2.2 dX1_mends_18
  · replace hf := (if_neg c_7).symm.trans hf
    refine lv_iload_n hx hb dX1_mends_10 rfl (lv_at hl 0 rfl) ?_
    refine lv_goto (tgt := 18) hx hb dX1_mends_11 (by decide) ?_
    have hres := Option.some.inj hf
    subst hres
    have hP9 := hP.sub (ws' := (wX1 cy h q2 q3 q6 q7 q10 c0 c1 c2 c3 u2.2.1 u2.2.2.1 u2.2.2.2.1 c7 u2.2.2.2.2.1 u2.2.2.2.2.2.1 u2.2.2.2.2.2.2)) [0, 1, 2, 3, 4, 5] rfl
    have hD9 := hD.sub (ws' := (wX1 cy h q2 q3 q6 q7 q10 c0 c1 c2 c3 u2.2.1 u2.2.2.1 u2.2.2.2.1 c7 u2.2.2.2.2.1 u2.2.2.2.2.2.1 u2.2.2.2.2.2.2)) [0, 1, 2, 3, 4, 5] (by decide) rfl
    have hK9 := hK.sub (tys' := [(cy, .int)]) [0] rfl
    exact W.iret (v := u2.1) hx hb hr (fun t ht hW => ⟨⟨u2.1, (), rfl, rfl, by rw [ht]; exact hP9, va_K.moved hW.alike hK9, hD9⟩, hS.F ht⟩) hS.2.2 dX1_mends_18

set_option maxRecDepth 20000 in
theorem ggX1_mend_X1_isOne : GoodIn wsX1_mend wsX1_isOne := goodIn_r _ [7, 8, 9, 10, 6, 11, 63, 64, 65, 66, 67, 68, 69, 70, 71, 72, 73] (by decide +kernel) (by decide +kernel)
set_option maxRecDepth 20000 in
theorem gX1_mend_X1_isOne : GoodIn wsX1_mend (wsV RX1 39 RX1 yX1_isOne wsX1_isOne) := goodIn_app (goodIn_of _ (by decide +kernel)) ggX1_mend_X1_isOne
set_option maxRecDepth 20000 in
theorem ggX1_mend_X1_mendAll : GoodIn wsX1_mend wsX1_mendAll := goodIn_r _ [15, 1, 16, 8, 17, 18, 2, 3, 4, 5, 6, 7, 9, 10, 11, 19, 20, 21, 22, 23, 24, 25, 26, 27, 28, 29, 30, 31, 32, 33, 34, 35, 36, 37, 38, 39, 40, 41, 42, 43, 44, 45, 46, 47, 48, 49, 50, 51, 52, 53, 54, 55, 56, 57, 58, 59, 60, 61, 62, 63, 64, 65, 66, 67, 68, 69, 70, 71, 72, 73] (by decide +kernel) (by decide +kernel)
set_option maxRecDepth 20000 in
theorem gX1_mend_X1_mendAll : GoodIn wsX1_mend (wsV RX1 106 RX1 yX1_mendAll wsX1_mendAll) := goodIn_app (goodIn_of _ (by decide +kernel)) ggX1_mend_X1_mendAll
theorem dX1_mend_0 : decode cX1_mend 0 = .ok (.aload_n 0, 1) := by decide +kernel
theorem dX1_mend_1 : decode cX1_mend 1 = .ok (.iload_n 1, 1) := by decide +kernel
theorem dX1_mend_2 : decode cX1_mend 2 = .ok (.invokevirtual 39, 3) := by decide +kernel
theorem dX1_mend_5 : decode cX1_mend 5 = .ok (.ifCond .eq 16, 3) := by decide +kernel
theorem dX1_mend_8 : decode cX1_mend 8 = .ok (.aload_n 0, 1) := by decide +kernel
theorem dX1_mend_9 : decode cX1_mend 9 = .ok (.iload_n 2, 1) := by decide +kernel
theorem dX1_mend_10 : decode cX1_mend 10 = .ok (.invokevirtual 39, 3) := by decide +kernel
theorem dX1_mend_13 : decode cX1_mend 13 = .ok (.ifCond .eq 8, 3) := by decide +kernel
theorem dX1_mend_16 : decode cX1_mend 16 = .ok (.iload_n 1, 1) := by decide +kernel
theorem dX1_mend_17 : decode cX1_mend 17 = .ok (.iload_n 2, 1) := by decide +kernel
theorem dX1_mend_18 : decode cX1_mend 18 = .ok (.if_icmp .ne 5, 3) := by decide +kernel
theorem dX1_mend_21 : decode cX1_mend 21 = .ok (.iconst (-1), 1) := by decide +kernel
theorem dX1_mend_22 : decode cX1_mend 22 = .ok (.ireturn, 1) := by decide +kernel
theorem dX1_mend_23 : decode cX1_mend 23 = .ok (.aload_n 0, 1) := by decide +kernel
theorem dX1_mend_24 : decode cX1_mend 24 = .ok (.iload_n 1, 1) := by decide +kernel
theorem dX1_mend_25 : decode cX1_mend 25 = .ok (.invokevirtual 106, 3) := by decide +kernel
theorem dX1_mend_28 : decode cX1_mend 28 = .ok (.istore_n 3, 1) := by decide +kernel
theorem dX1_mend_29 : decode cX1_mend 29 = .ok (.iload_n 3, 1) := by decide +kernel
theorem dX1_mend_30 : decode cX1_mend 30 = .ok (.ifCond .ge 7, 3) := by decide +kernel
theorem dX1_mend_33 : decode cX1_mend 33 = .ok (.iload_n 3, 1) := by decide +kernel
theorem dX1_mend_34 : decode cX1_mend 34 = .ok (.goto 21, 3) := by decide +kernel
theorem dX1_mend_37 : decode cX1_mend 37 = .ok (.aload_n 0, 1) := by decide +kernel
theorem dX1_mend_38 : decode cX1_mend 38 = .ok (.getfield 100, 3) := by decide +kernel
theorem dX1_mend_41 : decode cX1_mend 41 = .ok (.ifCond .ge 8, 3) := by decide +kernel
theorem dX1_mend_44 : decode cX1_mend 44 = .ok (.bipush (-6), 2) := by decide +kernel
theorem dX1_mend_46 : decode cX1_mend 46 = .ok (.goto 9, 3) := by decide +kernel
theorem dX1_mend_49 : decode cX1_mend 49 = .ok (.aload_n 0, 1) := by decide +kernel
theorem dX1_mend_50 : decode cX1_mend 50 = .ok (.getfield 29, 3) := by decide +kernel
theorem dX1_mend_53 : decode cX1_mend 53 = .ok (.iload_n 2, 1) := by decide +kernel
theorem dX1_mend_54 : decode cX1_mend 54 = .ok (.iaload, 1) := by decide +kernel
theorem dX1_mend_55 : decode cX1_mend 55 = .ok (.ireturn, 1) := by decide +kernel
abbrev rm_X1_mend : Room := { frames := 5, cells := 0, slots := 0, locals := 115 }
set_option maxHeartbeats 4000000 in
set_option maxRecDepth 100000 in
theorem c_X1_mend (N : Nat) (l : Launch) (dC : Nat → ClassId) (dI : Nat → Nat → Nat) (cy : ClassId) (h q2 q3 q6 q7 q10 : Nat) (sz : Nat) (c0 : Int32) (c1 : Int32) (c2 : Nat → Int32) (c3 : Nat → Int32) (c4 : Int32) (c5 : Int32) (c6 : Nat → Int32) (c7 : Nat → Int32) (c8 : Int32) (c9 : Int32) (c10 : Nat → Int32) (a1 a2 : Int32) (res : Int32 × Int32 × Int32 × (Nat → Int32) × Int32 × Int32 × (Nat → Int32)) (hf : f_X1_mend N a1 a2 c0 c1 c2 c3 c4 c5 c6 c8 c9 c10 = some res) : Met l yX1_mend wsX1_mend rm_X1_mend (va_Pc [.ref h, .int a1, .int a2] (fun U => U.heap.size = sz ∧ va_P (dC, dI) vwCl (wX1 cy h q2 q3 q6 q7 q10 c0 c1 c2 c3 c4 c5 c6 c7 c8 c9 c10) U.heap ∧ va_K (dC, dI) vwCl [(cy, .int)] U ∧ va_D (fun _ => True) (wX1 cy h q2 q3 q6 q7 q10 c0 c1 c2 c3 c4 c5 c6 c7 c8 c9 c10))) (z_qI dC dI cy res.1 (wX1 cy h q2 q3 q6 q7 q10 c0 c1 c2 c3 res.2.1 res.2.2.1 res.2.2.2.1 c7 res.2.2.2.2.1 res.2.2.2.2.2.1 res.2.2.2.2.2.2) (va_A (wX1 cy h q2 q3 q6 q7 q10 c0 c1 c2 c3 c4 c5 c6 c7 c8 c9 c10) sz)) 0 0 (va_A (wX1 cy h q2 q3 q6 q7 q10 c0 c1 c2 c3 c4 c5 c6 c7 c8 c9 c10) sz) := by
  refine Met.ofW (cc := cX1_mend) (maxL := 4) (ret := (some .int)) (by decide) rfl ?_
  intro p e s m args below meth c s₁ B hml hv
  obtain ⟨rfl, hsz, hP, hK, hD0⟩ := hv
  have hx := B.exec
  have hb := B.bytes
  have hr := B.returns
  have hts := atoms_spec (ws := wsX1_mend) B.pre
  have hown : s.vm.findClass RX1 = some m.cls := findClass_of_methodNamed B.named
  have hlocks := B.notSynchronized
  subst hsz
  have hD := hD0.self (sz := s.heap.size)
  generalize hAe : va_A (wX1 cy h q2 q3 q6 q7 q10 c0 c1 c2 c3 c4 c5 c6 c7 c8 c9 c10) s.heap.size = A at hD ⊢
  have hA : ∀ q : Nat, s.heap.size ≤ q → A q := fun q h => by rw [← hAe]; exact Or.inr h
  have hS : va_S A s.heap s.heap [] := va_S.rf
  have hP : va_P (dC, dI) vwCl (wX1 cy h q2 q3 q6 q7 q10 c0 c1 c2 c3 c4 c5 c6 c7 c8 c9 c10) s.heap := hP
  have hl := lv_entry ([.ref h, .int a1, .int a2]) (n := 4) (Nat.le_of_ble_eq_true rfl)
  rw [lg_entry_eq]
  generalize (lg_sl ([.ref h, .int a1, .int a2]) ++ List.replicate (4 - (lg_sl ([.ref h, .int a1, .int a2])).length) Slot.unset).toArray = ls at hl ⊢
  have hl : lv_has ls 4 [(0, .ref h), (1, .int a1), (2, .int a2)] := hl
  unfold f_X1_mend at hf
  refine lv_aload_n hx hb dX1_mend_0 rfl (lv_at hl 0 rfl) ?_
  refine lv_iload_n hx hb dX1_mend_1 rfl (lv_at hl 1 rfl) ?_
  obtain ⟨u2, hu2, hf⟩ := z_ob_some hf
  have hPc := hP.sub (ws' := (wX1 cy h q2 q3 q6 q7 q10 c0 c1 c2 c3 c4 c5 c6 c7 c8 c9 c10)) [0, 1, 2, 3, 4, 5] rfl
  have hDc := hD.sub (ws' := (wX1 cy h q2 q3 q6 q7 q10 c0 c1 c2 c3 c4 c5 c6 c7 c8 c9 c10)) [0, 1, 2, 3, 4, 5] (by decide) rfl
  have hKc := hK.sub (tys' := [(cy, .int)]) [0] rfl
  have hFc := va_free (wc := (wX1 cy h q2 q3 q6 q7 q10 c0 c1 c2 c3 c4 c5 c6 c7 c8 c9 c10)) hD hS hA [0, 1, 2, 3, 4, 5] rfl
  refine va_calli (va_runV (As := [.int a1]) (rest := []) ⟨hx, hb, hml, hown, hts⟩ (c_X1_isOne N l dC dI cy h q2 q3 q6 q7 q10 s.heap.size c0 c1 c2 c3 c4 c5 c6 c7 c8 c9 c10 a1 u2 hu2) (cwV 1 hts gX1_mend_X1_isOne rfl rfl rfl (by decide +kernel) ⟨Nat.le_of_ble_eq_true rfl, Nat.le_of_ble_eq_true rfl⟩) ⟨fun a U g mk q => by obtain ⟨q0, q1, qP, qK, qD⟩ := q; exact ⟨q0, q1, qP, va_K.moved (u := U) (U := U.calling g mk a) (Vm.Alike.refl U.vm) qK, qD⟩, va_recv hKc hPc (ci := 1) (q0 := 0) rfl rfl, fun U hU hW => ⟨rfl, by rw [hU], by rw [hU]; exact hPc, va_K.moved hW.alike hKc, hDc.weaken (fun _ _ _ _ => trivial)⟩⟩ rfl rfl hl.1 rfl (lv_room (Nat.le_of_ble_eq_true rfl)) dX1_mend_2 ⟨Nat.zero_le _, Nat.zero_le _⟩) hS (fun q _ h => hFc q h) hFc (fun r_2 uu_ t H1 locs ht hvm hw hB hz1 hk1 hS => ?_)
  replace hw := hw.symm
  subst hw
  obtain ⟨hP1, -, hD1⟩ := hB
  rw [ht] at hP1
  obtain ⟨hP, hD⟩ := va_join (wr := []) (w1 := (wX1 cy h q2 q3 q6 q7 q10 c0 c1 c2 c3 c4 c5 c6 c7 c8 c9 c10)) hP hD [0, 1, 2, 3, 4, 5] [] rfl rfl (by decide) (by decide) hk1 hFc hP1 hD1
  clear hk1 hz1 hP1 hD1 ht hPc hDc hFc
  generalize H1 = H at hP hS ⊢
  have hP : va_P (dC, dI) vwCl (wX1 cy h q2 q3 q6 q7 q10 c0 c1 c2 c3 c4 c5 c6 c7 c8 c9 c10) H := hP
  have hD : va_D A (wX1 cy h q2 q3 q6 q7 q10 c0 c1 c2 c3 c4 c5 c6 c7 c8 c9 c10) := hD
  refine lv_if_eq (tgt := 21) hx hb dX1_mend_5 (by decide) (fun c_5 => ?_) (fun c_5 => ?_)
  · replace hf := (if_pos c_5).symm.trans hf
    refine lv_iconst (v := (-1 : Int32)) hx hb dX1_mend_21 (by decide) ?_
    have hres := Option.some.inj hf
    subst hres
    have hP9 := hP.sub (ws' := (wX1 cy h q2 q3 q6 q7 q10 c0 c1 c2 c3 c4 c5 c6 c7 c8 c9 c10)) [0, 1, 2, 3, 4, 5] rfl
    have hD9 := hD.sub (ws' := (wX1 cy h q2 q3 q6 q7 q10 c0 c1 c2 c3 c4 c5 c6 c7 c8 c9 c10)) [0, 1, 2, 3, 4, 5] (by decide) rfl
    have hK9 := hK.sub (tys' := [(cy, .int)]) [0] rfl
    exact W.iret (v := (-1 : Int32)) hx hb hr (fun t ht hW => ⟨⟨(-1 : Int32), (), rfl, rfl, by rw [ht]; exact hP9, va_K.moved hW.alike hK9, hD9⟩, hS.F ht⟩) hS.2.2 dX1_mend_22
  · replace hf := (if_neg c_5).symm.trans hf
    refine lv_aload_n hx hb dX1_mend_8 rfl (lv_at hl 0 rfl) ?_
    refine lv_iload_n hx hb dX1_mend_9 rfl (lv_at hl 2 rfl) ?_
    obtain ⟨u10, hu10, hf⟩ := z_ob_some hf
    have hPc := hP.sub (ws' := (wX1 cy h q2 q3 q6 q7 q10 c0 c1 c2 c3 c4 c5 c6 c7 c8 c9 c10)) [0, 1, 2, 3, 4, 5] rfl
    have hDc := hD.sub (ws' := (wX1 cy h q2 q3 q6 q7 q10 c0 c1 c2 c3 c4 c5 c6 c7 c8 c9 c10)) [0, 1, 2, 3, 4, 5] (by decide) rfl
    have hKc := hK.sub (tys' := [(cy, .int)]) [0] rfl
    have hFc := va_free (wc := (wX1 cy h q2 q3 q6 q7 q10 c0 c1 c2 c3 c4 c5 c6 c7 c8 c9 c10)) hD hS hA [0, 1, 2, 3, 4, 5] rfl
    refine va_calli (va_runV (As := [.int a2]) (rest := []) ⟨hx, hb, hml, hown, hts⟩ (c_X1_isOne N l dC dI cy h q2 q3 q6 q7 q10 H.size c0 c1 c2 c3 c4 c5 c6 c7 c8 c9 c10 a2 u10 hu10) (cwV 1 hts gX1_mend_X1_isOne rfl rfl rfl (by decide +kernel) ⟨Nat.le_of_ble_eq_true rfl, Nat.le_of_ble_eq_true rfl⟩) ⟨fun a U g mk q => by obtain ⟨q0, q1, qP, qK, qD⟩ := q; exact ⟨q0, q1, qP, va_K.moved (u := U) (U := U.calling g mk a) (Vm.Alike.refl U.vm) qK, qD⟩, va_recv hKc hPc (ci := 1) (q0 := 0) rfl rfl, fun U hU hW => ⟨rfl, by rw [hU], by rw [hU]; exact hPc, va_K.moved hW.alike hKc, hDc.weaken (fun _ _ _ _ => trivial)⟩⟩ rfl rfl hl.1 rfl (lv_room (Nat.le_of_ble_eq_true rfl)) dX1_mend_10 ⟨Nat.zero_le _, Nat.zero_le _⟩) hS (fun q _ h => hFc q h) hFc (fun r_10 uu_ t H1 locs ht hvm hw hB hz1 hk1 hS => ?_)
    replace hw := hw.symm
    subst hw
    obtain ⟨hP1, -, hD1⟩ := hB
    rw [ht] at hP1
    obtain ⟨hP, hD⟩ := va_join (wr := []) (w1 := (wX1 cy h q2 q3 q6 q7 q10 c0 c1 c2 c3 c4 c5 c6 c7 c8 c9 c10)) hP hD [0, 1, 2, 3, 4, 5] [] rfl rfl (by decide) (by decide) hk1 hFc hP1 hD1
    clear hk1 hz1 hP1 hD1 ht hPc hDc hFc
    generalize H1 = H at hP hS ⊢
    have hP : va_P (dC, dI) vwCl (wX1 cy h q2 q3 q6 q7 q10 c0 c1 c2 c3 c4 c5 c6 c7 c8 c9 c10) H := hP
    have hD : va_D A (wX1 cy h q2 q3 q6 q7 q10 c0 c1 c2 c3 c4 c5 c6 c7 c8 c9 c10) := hD
    refine lv_if_eq (tgt := 21) hx hb dX1_mend_13 (by decide) (fun c_13 => ?_) (fun c_13 => ?_)
    · replace hf := (if_pos c_13).symm.trans hf
      refine lv_iconst (v := (-1 : Int32)) hx hb dX1_mend_21 (by decide) ?_
      have hres := Option.some.inj hf
      subst hres
      have hP9 := hP.sub (ws' := (wX1 cy h q2 q3 q6 q7 q10 c0 c1 c2 c3 c4 c5 c6 c7 c8 c9 c10)) [0, 1, 2, 3, 4, 5] rfl
      have hD9 := hD.sub (ws' := (wX1 cy h q2 q3 q6 q7 q10 c0 c1 c2 c3 c4 c5 c6 c7 c8 c9 c10)) [0, 1, 2, 3, 4, 5] (by decide) rfl
      have hK9 := hK.sub (tys' := [(cy, .int)]) [0] rfl
      exact W.iret (v := (-1 : Int32)) hx hb hr (fun t ht hW => ⟨⟨(-1 : Int32), (), rfl, rfl, by rw [ht]; exact hP9, va_K.moved hW.alike hK9, hD9⟩, hS.F ht⟩) hS.2.2 dX1_mend_22
    · replace hf := (if_neg c_13).symm.trans hf
      refine lv_iload_n hx hb dX1_mend_16 rfl (lv_at hl 1 rfl) ?_
      refine lv_iload_n hx hb dX1_mend_17 rfl (lv_at hl 2 rfl) ?_
      refine lv_icmp_ne (tgt := 23) hx hb dX1_mend_18 (by decide) (fun c_18 => ?_) (fun c_18 => ?_)
      · replace hf := (if_neg c_18).symm.trans hf
        refine lv_aload_n hx hb dX1_mend_23 rfl (lv_at hl 0 rfl) ?_
        refine lv_iload_n hx hb dX1_mend_24 rfl (lv_at hl 1 rfl) ?_
        obtain ⟨u25, hu25, hf⟩ := z_ob_some hf
        have hPc := hP.sub (ws' := (wX1 cy h q2 q3 q6 q7 q10 c0 c1 c2 c3 c4 c5 c6 c7 c8 c9 c10)) [0, 1, 2, 3, 4, 5] rfl
        have hDc := hD.sub (ws' := (wX1 cy h q2 q3 q6 q7 q10 c0 c1 c2 c3 c4 c5 c6 c7 c8 c9 c10)) [0, 1, 2, 3, 4, 5] (by decide) rfl
        have hKc := hK.sub (tys' := [(cy, .int)]) [0] rfl
        have hFc := va_free (wc := (wX1 cy h q2 q3 q6 q7 q10 c0 c1 c2 c3 c4 c5 c6 c7 c8 c9 c10)) hD hS hA [0, 1, 2, 3, 4, 5] rfl
        refine va_calli (va_runV (As := [.int a1]) (rest := []) ⟨hx, hb, hml, hown, hts⟩ (c_X1_mendAll N l dC dI cy h q2 q3 q6 q7 q10 H.size c0 c1 c2 c3 c4 c5 c6 c7 c8 c9 c10 a1 u25 hu25) (cwV 1 hts gX1_mend_X1_mendAll rfl rfl rfl (by decide +kernel) ⟨Nat.le_of_ble_eq_true rfl, Nat.le_of_ble_eq_true rfl⟩) ⟨fun a U g mk q => by obtain ⟨q0, q1, qP, qK, qD⟩ := q; exact ⟨q0, q1, qP, va_K.moved (u := U) (U := U.calling g mk a) (Vm.Alike.refl U.vm) qK, qD⟩, va_recv hKc hPc (ci := 1) (q0 := 0) rfl rfl, fun U hU hW => ⟨rfl, by rw [hU], by rw [hU]; exact hPc, va_K.moved hW.alike hKc, hDc.weaken (fun _ _ _ _ => trivial)⟩⟩ rfl rfl hl.1 rfl (lv_room (Nat.le_of_ble_eq_true rfl)) dX1_mend_25 ⟨Nat.zero_le _, Nat.zero_le _⟩) hS (fun q _ h => hFc q h) hFc (fun r_25 uu_ t H1 locs ht hvm hw hB hz1 hk1 hS => ?_)
        replace hw := hw.symm
        subst hw
        obtain ⟨hP1, -, hD1⟩ := hB
        rw [ht] at hP1
        obtain ⟨hP, hD⟩ := va_join (wr := []) (w1 := (wX1 cy h q2 q3 q6 q7 q10 c0 c1 c2 c3 u25.2.1 u25.2.2.1 u25.2.2.2.1 c7 u25.2.2.2.2.1 u25.2.2.2.2.2.1 u25.2.2.2.2.2.2)) hP hD [0, 1, 2, 3, 4, 5] [] rfl rfl (by decide) (by decide) hk1 hFc hP1 hD1
        clear hk1 hz1 hP1 hD1 ht hPc hDc hFc
        generalize H1 = H at hP hS ⊢
        have hP : va_P (dC, dI) vwCl (wX1 cy h q2 q3 q6 q7 q10 c0 c1 c2 c3 u25.2.1 u25.2.2.1 u25.2.2.2.1 c7 u25.2.2.2.2.1 u25.2.2.2.2.2.1 u25.2.2.2.2.2.2) H := hP
        have hD : va_D A (wX1 cy h q2 q3 q6 q7 q10 c0 c1 c2 c3 u25.2.1 u25.2.2.1 u25.2.2.2.1 c7 u25.2.2.2.2.1 u25.2.2.2.2.2.1 u25.2.2.2.2.2.2) := hD
        refine lv_istore_n (lv' := [(3, .int u25.1), (0, .ref h), (1, .int a1), (2, .int a2)]) hx hb dX1_mend_28 rfl hl (by decide) rfl (fun ls hl => ?_)
        refine lv_iload_n hx hb dX1_mend_29 rfl (lv_at hl 0 rfl) ?_
        refine lv_if_ge (tgt := 37) hx hb dX1_mend_30 (by decide) (fun c_30 => ?_) (fun c_30 => ?_)
        · replace hf := (if_pos c_30).symm.trans hf
          refine lv_aload_n hx hb dX1_mend_37 rfl (lv_at hl 1 rfl) ?_
          refine va_get (D := (dC, dI)) (ci := 1) (v := .int u25.2.2.2.2.1) (C := RX1) (T := TX1) (N := 11) hx hb hts (by decide +kernel) hown hK hP 0 rfl rfl 8 (by decide) (hts (.fieldLink RX1 100 "GiftLotsModel" "fewest" "I") (by decide +kernel)) (fun _ h9 => h9) rfl dX1_mend_38 ?_
          refine lv_if_ge (tgt := 49) hx hb dX1_mend_41 (by decide) (fun c_41 => ?_) (fun c_41 => ?_)
          · replace hf := (if_pos c_41).symm.trans hf
            refine lv_aload_n hx hb dX1_mend_49 rfl (lv_at hl 1 rfl) ?_
            refine va_get (D := (dC, dI)) (ci := 1) (v := .ref q10) (C := RX1) (T := TX1) (N := 11) hx hb hts (by decide +kernel) hown hK hP 0 rfl rfl 10 (by decide) (hts (.fieldLink RX1 29 "GiftLotsModel" "first" "[I") (by decide +kernel)) (fun _ h9 => h9) rfl dX1_mend_50 ?_
            refine lv_iload_n hx hb dX1_mend_53 rfl (lv_at hl 3 rfl) ?_
            obtain ⟨hi54, hf⟩ := z_gx_some hf
            refine va_iald hx hb hK hP 5 0 rfl rfl hi54 dX1_mend_54 ?_
            have hres := Option.some.inj hf
            subst hres
            have hP9 := hP.sub (ws' := (wX1 cy h q2 q3 q6 q7 q10 c0 c1 c2 c3 u25.2.1 u25.2.2.1 u25.2.2.2.1 c7 u25.2.2.2.2.1 u25.2.2.2.2.2.1 u25.2.2.2.2.2.2)) [0, 1, 2, 3, 4, 5] rfl
            have hD9 := hD.sub (ws' := (wX1 cy h q2 q3 q6 q7 q10 c0 c1 c2 c3 u25.2.1 u25.2.2.1 u25.2.2.2.1 c7 u25.2.2.2.2.1 u25.2.2.2.2.2.1 u25.2.2.2.2.2.2)) [0, 1, 2, 3, 4, 5] (by decide) rfl
            have hK9 := hK.sub (tys' := [(cy, .int)]) [0] rfl
            exact W.iret (v := u25.2.2.2.2.2.2 (a2).toNatClampNeg) hx hb hr (fun t ht hW => ⟨⟨u25.2.2.2.2.2.2 (a2).toNatClampNeg, (), rfl, rfl, by rw [ht]; exact hP9, va_K.moved hW.alike hK9, hD9⟩, hS.F ht⟩) hS.2.2 dX1_mend_55
          · replace hf := (if_neg c_41).symm.trans hf
            refine lv_bipush (v := (-6 : Int32)) hx hb dX1_mend_44 (by decide) ?_
            refine lv_goto (tgt := 55) hx hb dX1_mend_46 (by decide) ?_
            have hres := Option.some.inj hf
            subst hres
            have hP9 := hP.sub (ws' := (wX1 cy h q2 q3 q6 q7 q10 c0 c1 c2 c3 u25.2.1 u25.2.2.1 u25.2.2.2.1 c7 u25.2.2.2.2.1 u25.2.2.2.2.2.1 u25.2.2.2.2.2.2)) [0, 1, 2, 3, 4, 5] rfl
            have hD9 := hD.sub (ws' := (wX1 cy h q2 q3 q6 q7 q10 c0 c1 c2 c3 u25.2.1 u25.2.2.1 u25.2.2.2.1 c7 u25.2.2.2.2.1 u25.2.2.2.2.2.1 u25.2.2.2.2.2.2)) [0, 1, 2, 3, 4, 5] (by decide) rfl
            have hK9 := hK.sub (tys' := [(cy, .int)]) [0] rfl
            exact W.iret (v := (-6 : Int32)) hx hb hr (fun t ht hW => ⟨⟨(-6 : Int32), (), rfl, rfl, by rw [ht]; exact hP9, va_K.moved hW.alike hK9, hD9⟩, hS.F ht⟩) hS.2.2 dX1_mend_55
        · replace hf := (if_neg c_30).symm.trans hf
          refine lv_iload_n hx hb dX1_mend_33 rfl (lv_at hl 0 rfl) ?_
          refine lv_goto (tgt := 55) hx hb dX1_mend_34 (by decide) ?_
          have hres := Option.some.inj hf
          subst hres
          have hP9 := hP.sub (ws' := (wX1 cy h q2 q3 q6 q7 q10 c0 c1 c2 c3 u25.2.1 u25.2.2.1 u25.2.2.2.1 c7 u25.2.2.2.2.1 u25.2.2.2.2.2.1 u25.2.2.2.2.2.2)) [0, 1, 2, 3, 4, 5] rfl
          have hD9 := hD.sub (ws' := (wX1 cy h q2 q3 q6 q7 q10 c0 c1 c2 c3 u25.2.1 u25.2.2.1 u25.2.2.2.1 c7 u25.2.2.2.2.1 u25.2.2.2.2.2.1 u25.2.2.2.2.2.2)) [0, 1, 2, 3, 4, 5] (by decide) rfl
          have hK9 := hK.sub (tys' := [(cy, .int)]) [0] rfl
          exact W.iret (v := u25.1) hx hb hr (fun t ht hW => ⟨⟨u25.1, (), rfl, rfl, by rw [ht]; exact hP9, va_K.moved hW.alike hK9, hD9⟩, hS.F ht⟩) hS.2.2 dX1_mend_55
      · replace hf := (if_pos c_18).symm.trans hf
        refine lv_iconst (v := (-1 : Int32)) hx hb dX1_mend_21 (by decide) ?_
        have hres := Option.some.inj hf
        subst hres
        have hP9 := hP.sub (ws' := (wX1 cy h q2 q3 q6 q7 q10 c0 c1 c2 c3 c4 c5 c6 c7 c8 c9 c10)) [0, 1, 2, 3, 4, 5] rfl
        have hD9 := hD.sub (ws' := (wX1 cy h q2 q3 q6 q7 q10 c0 c1 c2 c3 c4 c5 c6 c7 c8 c9 c10)) [0, 1, 2, 3, 4, 5] (by decide) rfl
        have hK9 := hK.sub (tys' := [(cy, .int)]) [0] rfl
        exact W.iret (v := (-1 : Int32)) hx hb hr (fun t ht hW => ⟨⟨(-1 : Int32), (), rfl, rfl, by rw [ht]; exact hP9, va_K.moved hW.alike hK9, hD9⟩, hS.F ht⟩) hS.2.2 dX1_mend_22

set_option maxRecDepth 20000 in
theorem ggX1_told_X1_bits : GoodIn wsX1_told wsX1_bits := goodIn_r _ [7] (by decide +kernel) (by decide +kernel)
set_option maxRecDepth 20000 in
theorem gX1_told_X1_bits : GoodIn wsX1_told (va_wsS RX1 88 yX1_bits wsX1_bits) := goodIn_app (goodIn_of _ (by decide +kernel)) ggX1_told_X1_bits
set_option maxRecDepth 20000 in
theorem ggX1_told_X1_handMany : GoodIn wsX1_told wsX1_handMany := goodIn_r _ [11, 1, 12, 13, 14, 15, 16, 17, 18, 19, 20, 21, 22, 23] (by decide +kernel) (by decide +kernel)
set_option maxRecDepth 20000 in
theorem gX1_told_X1_handMany : GoodIn wsX1_told (wsV RX1 91 RX1 yX1_handMany wsX1_handMany) := goodIn_app (goodIn_of _ (by decide +kernel)) ggX1_told_X1_handMany
theorem dX1_told_0 : decode cX1_told 0 = .ok (.iload_n 1, 1) := by decide +kernel
theorem dX1_told_1 : decode cX1_told 1 = .ok (.tableswitch 78 0 3 #[31, 36, 41, 73], 31) := by decide +kernel
theorem dX1_told_32 : decode cX1_told 32 = .ok (.aload_n 0, 1) := by decide +kernel
theorem dX1_told_33 : decode cX1_told 33 = .ok (.getfield 7, 3) := by decide +kernel
theorem dX1_told_36 : decode cX1_told 36 = .ok (.ireturn, 1) := by decide +kernel
theorem dX1_told_37 : decode cX1_told 37 = .ok (.aload_n 0, 1) := by decide +kernel
theorem dX1_told_38 : decode cX1_told 38 = .ok (.getfield 13, 3) := by decide +kernel
theorem dX1_told_41 : decode cX1_told 41 = .ok (.ireturn, 1) := by decide +kernel
theorem dX1_told_42 : decode cX1_told 42 = .ok (.iconst 0, 1) := by decide +kernel
theorem dX1_told_43 : decode cX1_told 43 = .ok (.istore_n 2, 1) := by decide +kernel
theorem dX1_told_44 : decode cX1_told 44 = .ok (.iconst 0, 1) := by decide +kernel
theorem dX1_told_45 : decode cX1_told 45 = .ok (.istore_n 3, 1) := by decide +kernel
theorem dX1_told_46 : decode cX1_told 46 = .ok (.iload_n 3, 1) := by decide +kernel
theorem dX1_told_47 : decode cX1_told 47 = .ok (.aload_n 0, 1) := by decide +kernel
theorem dX1_told_48 : decode cX1_told 48 = .ok (.getfield 7, 3) := by decide +kernel
theorem dX1_told_51 : decode cX1_told 51 = .ok (.if_icmp .ge 21, 3) := by decide +kernel
theorem dX1_told_54 : decode cX1_told 54 = .ok (.iload_n 2, 1) := by decide +kernel
theorem dX1_told_55 : decode cX1_told 55 = .ok (.aload_n 0, 1) := by decide +kernel
theorem dX1_told_56 : decode cX1_told 56 = .ok (.getfield 16, 3) := by decide +kernel
theorem dX1_told_59 : decode cX1_told 59 = .ok (.iload_n 3, 1) := by decide +kernel
theorem dX1_told_60 : decode cX1_told 60 = .ok (.iaload, 1) := by decide +kernel
theorem dX1_told_61 : decode cX1_told 61 = .ok (.invokestatic 88, 3) := by decide +kernel
theorem dX1_told_64 : decode cX1_told 64 = .ok (.iadd, 1) := by decide +kernel
theorem dX1_told_65 : decode cX1_told 65 = .ok (.istore_n 2, 1) := by decide +kernel
theorem dX1_told_66 : decode cX1_told 66 = .ok (.iinc 3 1, 3) := by decide +kernel
theorem dX1_told_69 : decode cX1_told 69 = .ok (.goto (-23), 3) := by decide +kernel
theorem dX1_told_72 : decode cX1_told 72 = .ok (.iload_n 2, 1) := by decide +kernel
theorem dX1_told_73 : decode cX1_told 73 = .ok (.ireturn, 1) := by decide +kernel
theorem dX1_told_74 : decode cX1_told 74 = .ok (.aload_n 0, 1) := by decide +kernel
theorem dX1_told_75 : decode cX1_told 75 = .ok (.invokevirtual 91, 3) := by decide +kernel
theorem dX1_told_78 : decode cX1_told 78 = .ok (.ireturn, 1) := by decide +kernel
theorem dX1_told_79 : decode cX1_told 79 = .ok (.bipush (-2), 2) := by decide +kernel
theorem dX1_told_81 : decode cX1_told 81 = .ok (.ireturn, 1) := by decide +kernel
abbrev rm_X1_told : Room := { frames := 1, cells := 0, slots := 0, locals := 22 }
set_option maxHeartbeats 4000000 in
set_option maxRecDepth 100000 in
theorem c_X1_told (N : Nat) (l : Launch) (dC : Nat → ClassId) (dI : Nat → Nat → Nat) (cy : ClassId) (h q2 q3 q6 q7 q10 : Nat) (sz : Nat) (c0 : Int32) (c1 : Int32) (c2 : Nat → Int32) (c3 : Nat → Int32) (c4 : Int32) (c5 : Int32) (c6 : Nat → Int32) (c7 : Nat → Int32) (c8 : Int32) (c9 : Int32) (c10 : Nat → Int32) (a1 : Int32) (res : Int32) (hf : f_X1_told N a1 c0 c1 c2 c3 = some res) : Met l yX1_told wsX1_told rm_X1_told (va_Pc [.ref h, .int a1] (fun U => U.heap.size = sz ∧ va_P (dC, dI) vwCl (wX1 cy h q2 q3 q6 q7 q10 c0 c1 c2 c3 c4 c5 c6 c7 c8 c9 c10) U.heap ∧ va_K (dC, dI) vwCl [(cy, .int)] U ∧ va_D (fun _ => True) (wX1 cy h q2 q3 q6 q7 q10 c0 c1 c2 c3 c4 c5 c6 c7 c8 c9 c10))) (z_qI dC dI cy res (wX1 cy h q2 q3 q6 q7 q10 c0 c1 c2 c3 c4 c5 c6 c7 c8 c9 c10) (va_A (wX1 cy h q2 q3 q6 q7 q10 c0 c1 c2 c3 c4 c5 c6 c7 c8 c9 c10) sz)) 0 0 (va_A (wX1 cy h q2 q3 q6 q7 q10 c0 c1 c2 c3 c4 c5 c6 c7 c8 c9 c10) sz) := by
  refine Met.ofW (cc := cX1_told) (maxL := 4) (ret := (some .int)) (by decide) rfl ?_
  intro p e s m args below meth c s₁ B hml hv
  obtain ⟨rfl, hsz, hP, hK, hD0⟩ := hv
  have hx := B.exec
  have hb := B.bytes
  have hr := B.returns
  have hts := atoms_spec (ws := wsX1_told) B.pre
  have hown : s.vm.findClass RX1 = some m.cls := findClass_of_methodNamed B.named
  have hlocks := B.notSynchronized
  subst hsz
  have hD := hD0.self (sz := s.heap.size)
  generalize hAe : va_A (wX1 cy h q2 q3 q6 q7 q10 c0 c1 c2 c3 c4 c5 c6 c7 c8 c9 c10) s.heap.size = A at hD ⊢
  have hA : ∀ q : Nat, s.heap.size ≤ q → A q := fun q h => by rw [← hAe]; exact Or.inr h
  have hS : va_S A s.heap s.heap [] := va_S.rf
  have hP : va_P (dC, dI) vwCl (wX1 cy h q2 q3 q6 q7 q10 c0 c1 c2 c3 c4 c5 c6 c7 c8 c9 c10) s.heap := hP
  have hl := lv_entry ([.ref h, .int a1]) (n := 4) (Nat.le_of_ble_eq_true rfl)
  rw [lg_entry_eq]
  generalize (lg_sl ([.ref h, .int a1]) ++ List.replicate (4 - (lg_sl ([.ref h, .int a1])).length) Slot.unset).toArray = ls at hl ⊢
  have hl : lv_has ls 4 [(0, .ref h), (1, .int a1)] := hl
  have B46 : ∀ n : Nat, ∀ (x2 x3 : Int32) (H : Heap) (locs : List Loc) (ls : Array Slot), f_X1_told_b46 N c0 c1 c2 c3 n x2 x3 = some res → va_P (dC, dI) vwCl (wX1 cy h q2 q3 q6 q7 q10 c0 c1 c2 c3 c4 c5 c6 c7 c8 c9 c10) H → va_D A (wX1 cy h q2 q3 q6 q7 q10 c0 c1 c2 c3 c4 c5 c6 c7 c8 c9 c10) → va_S A s.heap H locs → lv_has ls 4 [(0, .ref h), (2, .int x2), (3, .int x3)] → W p l e rm_X1_told s m ([.ref h, .int a1] : List Value).toArray below meth c H locs 0 0 (MQ below (z_qI dC dI cy res (wX1 cy h q2 q3 q6 q7 q10 c0 c1 c2 c3 c4 c5 c6 c7 c8 c9 c10) A) ([.ref h, .int a1] : List Value).toArray s 0 0 A) (F0 m 46 ls []) := by
    clear hf hl hP hD hS
    intro n
    induction n with
    | zero =>
      intro x2 x3 H locs ls hf hP hD hS hl
      rw [f_X1_told_b46] at hf
      cases hf
    | succ n ih =>
      intro x2 x3 H locs ls hf hP hD hS hl
      rw [f_X1_told_b46] at hf
      refine lv_iload_n hx hb dX1_told_46 rfl (lv_at hl 2 rfl) ?_
      refine lv_aload_n hx hb dX1_told_47 rfl (lv_at hl 0 rfl) ?_
      refine va_get (D := (dC, dI)) (ci := 1) (v := .int c0) (C := RX1) (T := TX1) (N := 11) hx hb hts (by decide +kernel) hown hK hP 0 rfl rfl 0 (by decide) (hts (.fieldLink RX1 7 "GiftLotsModel" "ones" "I") (by decide +kernel)) (fun _ h9 => h9) rfl dX1_told_48 ?_
      refine lv_icmp_ge (tgt := 72) hx hb dX1_told_51 (by decide) (fun c_51 => ?_) (fun c_51 => ?_)
      · replace hf := (if_pos c_51).symm.trans hf
        refine lv_iload_n hx hb dX1_told_72 rfl (lv_at hl 1 rfl) ?_
        have hres := Option.some.inj hf
        subst hres
        have hP9 := hP.sub (ws' := (wX1 cy h q2 q3 q6 q7 q10 c0 c1 c2 c3 c4 c5 c6 c7 c8 c9 c10)) [0, 1, 2, 3, 4, 5] rfl
        have hD9 := hD.sub (ws' := (wX1 cy h q2 q3 q6 q7 q10 c0 c1 c2 c3 c4 c5 c6 c7 c8 c9 c10)) [0, 1, 2, 3, 4, 5] (by decide) rfl
        have hK9 := hK.sub (tys' := [(cy, .int)]) [0] rfl
        exact W.iret (v := x2) hx hb hr (fun t ht hW => ⟨⟨x2, (), rfl, rfl, by rw [ht]; exact hP9, va_K.moved hW.alike hK9, hD9⟩, hS.F ht⟩) hS.2.2 dX1_told_73
      · replace hf := (if_neg c_51).symm.trans hf
        refine lv_iload_n hx hb dX1_told_54 rfl (lv_at hl 1 rfl) ?_
        refine lv_aload_n hx hb dX1_told_55 rfl (lv_at hl 0 rfl) ?_
        refine va_get (D := (dC, dI)) (ci := 1) (v := .ref q2) (C := RX1) (T := TX1) (N := 11) hx hb hts (by decide +kernel) hown hK hP 0 rfl rfl 2 (by decide) (hts (.fieldLink RX1 16 "GiftLotsModel" "may" "[I") (by decide +kernel)) (fun _ h9 => h9) rfl dX1_told_56 ?_
        refine lv_iload_n hx hb dX1_told_59 rfl (lv_at hl 2 rfl) ?_
        obtain ⟨hi60, hf⟩ := z_gx_some hf
        refine va_iald hx hb hK hP 1 0 rfl rfl hi60 dX1_told_60 ?_
        obtain ⟨u61, hu61, hf⟩ := z_ob_some hf
        have hPc := hP.sub (ws' := ([] : va_W)) [] rfl
        have hDc := hD.sub (ws' := ([] : va_W)) [] (by decide) rfl
        have hKc := hK.sub (tys' := [(cy, .int)]) [0] rfl
        have hFc := va_free (wc := ([] : va_W)) hD hS hA [] rfl
        refine va_calli (va_runS (As := [.int (c2 (x3).toNatClampNeg)]) (rest := [.int x2]) ⟨hx, hb, hml, hown, hts⟩ (c_X1_bits N l dC dI cy H.size (c2 (x3).toNatClampNeg) u61 hu61) (va_cwS 1 hts gX1_told_X1_bits rfl rfl rfl (by decide +kernel) ⟨Nat.le_of_ble_eq_true rfl, Nat.le_of_ble_eq_true rfl⟩) ⟨fun a U g mk q => by obtain ⟨q0, q1, qP, qK, qD⟩ := q; exact ⟨q0, q1, qP, va_K.moved (u := U) (U := U.calling g mk a) (Vm.Alike.refl U.vm) qK, qD⟩, fun U hU hW => ⟨rfl, by rw [hU], by rw [hU]; exact hPc, va_K.moved hW.alike hKc, hDc.weaken (fun _ _ _ _ => trivial)⟩⟩ rfl rfl hl.1 rfl (lv_room (Nat.le_of_ble_eq_true rfl)) dX1_told_61 ⟨Nat.zero_le _, Nat.zero_le _⟩) hS (fun q _ h => hFc q h) hFc (fun r_61 uu_ t H1 locs ht hvm hw hB hz1 hk1 hS => ?_)
        replace hw := hw.symm
        subst hw
        obtain ⟨hP1, -, hD1⟩ := hB
        rw [ht] at hP1
        obtain ⟨hP, hD⟩ := va_join (wr := (wX1 cy h q2 q3 q6 q7 q10 c0 c1 c2 c3 c4 c5 c6 c7 c8 c9 c10)) (w1 := ([] : va_W)) hP hD [] [0, 1, 2, 3, 4, 5] rfl rfl (by decide) (by decide) hk1 hFc hP1 hD1
        clear hk1 hz1 hP1 hD1 ht hPc hDc hFc
        generalize H1 = H at hP hS ⊢
        have hP : va_P (dC, dI) vwCl (wX1 cy h q2 q3 q6 q7 q10 c0 c1 c2 c3 c4 c5 c6 c7 c8 c9 c10) H := hP
        have hD : va_D A (wX1 cy h q2 q3 q6 q7 q10 c0 c1 c2 c3 c4 c5 c6 c7 c8 c9 c10) := hD
        refine lv_iadd hx hb dX1_told_64 ?_
        refine lv_istore_n (lv' := [(2, .int (x2 + u61)), (0, .ref h), (3, .int x3)]) hx hb dX1_told_65 rfl hl (by decide) rfl (fun ls hl => ?_)
        refine lv_iinc (v := x3 + (1 : Int32)) (lv' := [(3, .int (x3 + (1 : Int32))), (2, .int (x2 + u61)), (0, .ref h)]) hx hb dX1_told_66 hl (k := 2) rfl rfl (by decide) rfl (fun ls hl => ?_)
        refine lv_goto (tgt := 46) hx hb dX1_told_69 (by decide) ?_
        exact ih (x2 + u61) (x3 + (1 : Int32)) _ _ _ hf hP hD hS (lv_sub hl [2, 1, 0] rfl)
  unfold f_X1_told at hf
  refine lv_iload_n hx hb dX1_told_0 rfl (lv_at hl 1 rfl) ?_
  by_cases c_1_0 : a1 = (0 : Int32)
  · replace hf := (if_pos c_1_0).symm.trans hf
    refine lv_tableIn (tgt := 32) hx hb dX1_told_1 (by rw [c_1_0]; decide) (by rw [c_1_0]; decide) (by rw [c_1_0]; rfl) (by decide) ?_
    refine lv_aload_n hx hb dX1_told_32 rfl (lv_at hl 0 rfl) ?_
    refine va_get (D := (dC, dI)) (ci := 1) (v := .int c0) (C := RX1) (T := TX1) (N := 11) hx hb hts (by decide +kernel) hown hK hP 0 rfl rfl 0 (by decide) (hts (.fieldLink RX1 7 "GiftLotsModel" "ones" "I") (by decide +kernel)) (fun _ h9 => h9) rfl dX1_told_33 ?_
    have hres := Option.some.inj hf
    subst hres
    have hP9 := hP.sub (ws' := (wX1 cy h q2 q3 q6 q7 q10 c0 c1 c2 c3 c4 c5 c6 c7 c8 c9 c10)) [0, 1, 2, 3, 4, 5] rfl
    have hD9 := hD.sub (ws' := (wX1 cy h q2 q3 q6 q7 q10 c0 c1 c2 c3 c4 c5 c6 c7 c8 c9 c10)) [0, 1, 2, 3, 4, 5] (by decide) rfl
    have hK9 := hK.sub (tys' := [(cy, .int)]) [0] rfl
    exact W.iret (v := c0) hx hb hr (fun t ht hW => ⟨⟨c0, (), rfl, rfl, by rw [ht]; exact hP9, va_K.moved hW.alike hK9, hD9⟩, hS.F ht⟩) hS.2.2 dX1_told_36
  replace hf := (if_neg c_1_0).symm.trans hf
  by_cases c_1_1 : a1 = (1 : Int32)
  · replace hf := (if_pos c_1_1).symm.trans hf
    refine lv_tableIn (tgt := 37) hx hb dX1_told_1 (by rw [c_1_1]; decide) (by rw [c_1_1]; decide) (by rw [c_1_1]; rfl) (by decide) ?_
    refine lv_aload_n hx hb dX1_told_37 rfl (lv_at hl 0 rfl) ?_
    refine va_get (D := (dC, dI)) (ci := 1) (v := .int c1) (C := RX1) (T := TX1) (N := 11) hx hb hts (by decide +kernel) hown hK hP 0 rfl rfl 1 (by decide) (hts (.fieldLink RX1 13 "GiftLotsModel" "least" "I") (by decide +kernel)) (fun _ h9 => h9) rfl dX1_told_38 ?_
    have hres := Option.some.inj hf
    subst hres
    have hP9 := hP.sub (ws' := (wX1 cy h q2 q3 q6 q7 q10 c0 c1 c2 c3 c4 c5 c6 c7 c8 c9 c10)) [0, 1, 2, 3, 4, 5] rfl
    have hD9 := hD.sub (ws' := (wX1 cy h q2 q3 q6 q7 q10 c0 c1 c2 c3 c4 c5 c6 c7 c8 c9 c10)) [0, 1, 2, 3, 4, 5] (by decide) rfl
    have hK9 := hK.sub (tys' := [(cy, .int)]) [0] rfl
    exact W.iret (v := c1) hx hb hr (fun t ht hW => ⟨⟨c1, (), rfl, rfl, by rw [ht]; exact hP9, va_K.moved hW.alike hK9, hD9⟩, hS.F ht⟩) hS.2.2 dX1_told_41
  replace hf := (if_neg c_1_1).symm.trans hf
  by_cases c_1_2 : a1 = (2 : Int32)
  · replace hf := (if_pos c_1_2).symm.trans hf
    refine lv_tableIn (tgt := 42) hx hb dX1_told_1 (by rw [c_1_2]; decide) (by rw [c_1_2]; decide) (by rw [c_1_2]; rfl) (by decide) ?_
    refine lv_iconst (v := (0 : Int32)) hx hb dX1_told_42 (by decide) ?_
    refine lv_istore_n (lv' := [(2, .int (0 : Int32)), (0, .ref h), (1, .int a1)]) hx hb dX1_told_43 rfl hl (by decide) rfl (fun ls hl => ?_)
    refine lv_iconst (v := (0 : Int32)) hx hb dX1_told_44 (by decide) ?_
    refine lv_istore_n (lv' := [(3, .int (0 : Int32)), (2, .int (0 : Int32)), (0, .ref h), (1, .int a1)]) hx hb dX1_told_45 rfl hl (by decide) rfl (fun ls hl => ?_)
    exact B46 N (0 : Int32) (0 : Int32) _ _ _ hf hP hD hS (lv_sub hl [2, 1, 0] rfl)
  replace hf := (if_neg c_1_2).symm.trans hf
  by_cases c_1_3 : a1 = (3 : Int32)
  · replace hf := (if_pos c_1_3).symm.trans hf
    refine lv_tableIn (tgt := 74) hx hb dX1_told_1 (by rw [c_1_3]; decide) (by rw [c_1_3]; decide) (by rw [c_1_3]; rfl) (by decide) ?_
    refine lv_aload_n hx hb dX1_told_74 rfl (lv_at hl 0 rfl) ?_
    obtain ⟨u75, hu75, hf⟩ := z_ob_some hf
    have hPc := hP.sub (ws' := (wX1 cy h q2 q3 q6 q7 q10 c0 c1 c2 c3 c4 c5 c6 c7 c8 c9 c10)) [0, 1, 2, 3, 4, 5] rfl
    have hDc := hD.sub (ws' := (wX1 cy h q2 q3 q6 q7 q10 c0 c1 c2 c3 c4 c5 c6 c7 c8 c9 c10)) [0, 1, 2, 3, 4, 5] (by decide) rfl
    have hKc := hK.sub (tys' := [(cy, .int)]) [0] rfl
    have hFc := va_free (wc := (wX1 cy h q2 q3 q6 q7 q10 c0 c1 c2 c3 c4 c5 c6 c7 c8 c9 c10)) hD hS hA [0, 1, 2, 3, 4, 5] rfl
    refine va_calli (va_runV (As := []) (rest := []) ⟨hx, hb, hml, hown, hts⟩ (c_X1_handMany N l dC dI cy h q2 q3 q6 q7 q10 s.heap.size c0 c1 c2 c3 c4 c5 c6 c7 c8 c9 c10 u75 hu75) (cwV 0 hts gX1_told_X1_handMany rfl rfl rfl (by decide +kernel) ⟨Nat.le_of_ble_eq_true rfl, Nat.le_of_ble_eq_true rfl⟩) ⟨fun a U g mk q => by obtain ⟨q0, q1, qP, qK, qD⟩ := q; exact ⟨q0, q1, qP, va_K.moved (u := U) (U := U.calling g mk a) (Vm.Alike.refl U.vm) qK, qD⟩, va_recv hKc hPc (ci := 1) (q0 := 0) rfl rfl, fun U hU hW => ⟨rfl, by rw [hU], by rw [hU]; exact hPc, va_K.moved hW.alike hKc, hDc.weaken (fun _ _ _ _ => trivial)⟩⟩ rfl rfl hl.1 rfl (lv_room (Nat.le_of_ble_eq_true rfl)) dX1_told_75 ⟨Nat.zero_le _, Nat.zero_le _⟩) hS (fun q _ h => hFc q h) hFc (fun r_75 uu_ t H1 locs ht hvm hw hB hz1 hk1 hS => ?_)
    replace hw := hw.symm
    subst hw
    obtain ⟨hP1, -, hD1⟩ := hB
    rw [ht] at hP1
    obtain ⟨hP, hD⟩ := va_join (wr := []) (w1 := (wX1 cy h q2 q3 q6 q7 q10 c0 c1 c2 c3 c4 c5 c6 c7 c8 c9 c10)) hP hD [0, 1, 2, 3, 4, 5] [] rfl rfl (by decide) (by decide) hk1 hFc hP1 hD1
    clear hk1 hz1 hP1 hD1 ht hPc hDc hFc
    generalize H1 = H at hP hS ⊢
    have hP : va_P (dC, dI) vwCl (wX1 cy h q2 q3 q6 q7 q10 c0 c1 c2 c3 c4 c5 c6 c7 c8 c9 c10) H := hP
    have hD : va_D A (wX1 cy h q2 q3 q6 q7 q10 c0 c1 c2 c3 c4 c5 c6 c7 c8 c9 c10) := hD
    have hres := Option.some.inj hf
    subst hres
    have hP9 := hP.sub (ws' := (wX1 cy h q2 q3 q6 q7 q10 c0 c1 c2 c3 c4 c5 c6 c7 c8 c9 c10)) [0, 1, 2, 3, 4, 5] rfl
    have hD9 := hD.sub (ws' := (wX1 cy h q2 q3 q6 q7 q10 c0 c1 c2 c3 c4 c5 c6 c7 c8 c9 c10)) [0, 1, 2, 3, 4, 5] (by decide) rfl
    have hK9 := hK.sub (tys' := [(cy, .int)]) [0] rfl
    exact W.iret (v := u75) hx hb hr (fun t ht hW => ⟨⟨u75, (), rfl, rfl, by rw [ht]; exact hP9, va_K.moved hW.alike hK9, hD9⟩, hS.F ht⟩) hS.2.2 dX1_told_78
  replace hf := (if_neg c_1_3).symm.trans hf
  refine lv_tableOut (tgt := 79) hx hb dX1_told_1 (z_sw3 c_1_0 c_1_1 c_1_2 c_1_3) (by decide) ?_
  refine lv_bipush (v := (-2 : Int32)) hx hb dX1_told_79 (by decide) ?_
  have hres := Option.some.inj hf
  subst hres
  have hP9 := hP.sub (ws' := (wX1 cy h q2 q3 q6 q7 q10 c0 c1 c2 c3 c4 c5 c6 c7 c8 c9 c10)) [0, 1, 2, 3, 4, 5] rfl
  have hD9 := hD.sub (ws' := (wX1 cy h q2 q3 q6 q7 q10 c0 c1 c2 c3 c4 c5 c6 c7 c8 c9 c10)) [0, 1, 2, 3, 4, 5] (by decide) rfl
  have hK9 := hK.sub (tys' := [(cy, .int)]) [0] rfl
  exact W.iret (v := (-2 : Int32)) hx hb hr (fun t ht hW => ⟨⟨(-2 : Int32), (), rfl, rfl, by rw [ht]; exact hP9, va_K.moved hW.alike hK9, hD9⟩, hS.F ht⟩) hS.2.2 dX1_told_81

