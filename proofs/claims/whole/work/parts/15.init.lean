set_option maxRecDepth 20000 in
theorem ggX0_init_X0_begin : GoodIn wsX0_init wsX0_begin := goodIn_r _ [17, 18, 19, 5, 6, 20, 21, 22, 16, 23, 24, 25, 26, 27, 28, 29, 30, 31, 32, 33, 34, 35, 36, 37, 38] (by decide +kernel) (by decide +kernel)
set_option maxRecDepth 20000 in
theorem gX0_init_X0_begin : GoodIn wsX0_init (wsV RX0 34 RX0 yX0_begin wsX0_begin) := goodIn_app (goodIn_of _ (by decide +kernel)) ggX0_init_X0_begin
theorem dX0_init_0 : decode cX0_init 0 = .ok (.aload_n 0, 1) := by decide +kernel
theorem dX0_init_1 : decode cX0_init 1 = .ok (.invokespecial 3, 3) := by decide +kernel
theorem dX0_init_4 : decode cX0_init 4 = .ok (.aload_n 0, 1) := by decide +kernel
theorem dX0_init_5 : decode cX0_init 5 = .ok (.bipush 8, 2) := by decide +kernel
theorem dX0_init_7 : decode cX0_init 7 = .ok (.newarray .int, 2) := by decide +kernel
theorem dX0_init_9 : decode cX0_init 9 = .ok (.putfield 9, 3) := by decide +kernel
theorem dX0_init_12 : decode cX0_init 12 = .ok (.aload_n 0, 1) := by decide +kernel
theorem dX0_init_13 : decode cX0_init 13 = .ok (.bipush 8, 2) := by decide +kernel
theorem dX0_init_15 : decode cX0_init 15 = .ok (.newarray .int, 2) := by decide +kernel
theorem dX0_init_17 : decode cX0_init 17 = .ok (.putfield 13, 3) := by decide +kernel
theorem dX0_init_20 : decode cX0_init 20 = .ok (.aload_n 0, 1) := by decide +kernel
theorem dX0_init_21 : decode cX0_init 21 = .ok (.bipush 8, 2) := by decide +kernel
theorem dX0_init_23 : decode cX0_init 23 = .ok (.newarray .int, 2) := by decide +kernel
theorem dX0_init_25 : decode cX0_init 25 = .ok (.putfield 16, 3) := by decide +kernel
theorem dX0_init_28 : decode cX0_init 28 = .ok (.aload_n 0, 1) := by decide +kernel
theorem dX0_init_29 : decode cX0_init 29 = .ok (.sipush 2048, 3) := by decide +kernel
theorem dX0_init_32 : decode cX0_init 32 = .ok (.newarray .int, 2) := by decide +kernel
theorem dX0_init_34 : decode cX0_init 34 = .ok (.putfield 19, 3) := by decide +kernel
theorem dX0_init_37 : decode cX0_init 37 = .ok (.aload_n 0, 1) := by decide +kernel
theorem dX0_init_38 : decode cX0_init 38 = .ok (.sipush 256, 3) := by decide +kernel
theorem dX0_init_41 : decode cX0_init 41 = .ok (.newarray .int, 2) := by decide +kernel
theorem dX0_init_43 : decode cX0_init 43 = .ok (.putfield 22, 3) := by decide +kernel
theorem dX0_init_46 : decode cX0_init 46 = .ok (.aload_n 0, 1) := by decide +kernel
theorem dX0_init_47 : decode cX0_init 47 = .ok (.sipush 256, 3) := by decide +kernel
theorem dX0_init_50 : decode cX0_init 50 = .ok (.newarray .int, 2) := by decide +kernel
theorem dX0_init_52 : decode cX0_init 52 = .ok (.putfield 25, 3) := by decide +kernel
theorem dX0_init_55 : decode cX0_init 55 = .ok (.aload_n 0, 1) := by decide +kernel
theorem dX0_init_56 : decode cX0_init 56 = .ok (.bipush 8, 2) := by decide +kernel
theorem dX0_init_58 : decode cX0_init 58 = .ok (.newarray .int, 2) := by decide +kernel
theorem dX0_init_60 : decode cX0_init 60 = .ok (.putfield 28, 3) := by decide +kernel
theorem dX0_init_63 : decode cX0_init 63 = .ok (.aload_n 0, 1) := by decide +kernel
theorem dX0_init_64 : decode cX0_init 64 = .ok (.bipush 8, 2) := by decide +kernel
theorem dX0_init_66 : decode cX0_init 66 = .ok (.newarray .int, 2) := by decide +kernel
theorem dX0_init_68 : decode cX0_init 68 = .ok (.putfield 31, 3) := by decide +kernel
theorem dX0_init_71 : decode cX0_init 71 = .ok (.aload_n 0, 1) := by decide +kernel
theorem dX0_init_72 : decode cX0_init 72 = .ok (.iconst 4, 1) := by decide +kernel
theorem dX0_init_73 : decode cX0_init 73 = .ok (.invokevirtual 34, 3) := by decide +kernel
theorem dX0_init_76 : decode cX0_init 76 = .ok (.return_, 1) := by decide +kernel
abbrev rm_X0_init : Room := { frames := 2, cells := 8, slots := 2600, locals := 42 }
set_option maxHeartbeats 4000000 in
set_option maxRecDepth 100000 in
theorem c_X0_init (N : Nat) (l : Launch) (dC : Nat → ClassId) (dI : Nat → Nat → Nat) (h : Nat) (sz : Nat) (res : Int32 × Int32 × (Nat → Int32) × (Nat → Int32)) (hf : f_X0_begin N 4 0 0 (fun _ => 0) (fun _ => 0) = some res) : Met l yX0_init wsX0_init rm_X0_init (va_Pc [.ref h] (fun U => U.heap.size = sz ∧ va_P (dC, dI) vwCl [(h, .inr (0, [.int 0, .int 0, .null, .null, .null, .null, .null, .null, .null, .null, .int 0, .int 0]))] U.heap ∧ va_K (dC, dI) vwCl [] U ∧ va_D (fun _ => True) [(h, .inr (0, [.int 0, .int 0, .null, .null, .null, .null, .null, .null, .null, .null, .int 0, .int 0]))])) (va_Qv (fun (_ : Unit) => True) (fun _ t => ∃ (cy : ClassId) (q2 q3 q4 q5 q6 q7 q8 q9 : Nat), va_P (dC, dI) vwCl (wX0 cy h q2 q3 q4 q5 q6 q7 q8 q9 res.1 res.2.1 res.2.2.1 res.2.2.2 (fun _ => 0) (fun _ => 0) (fun _ => 0) (fun _ => 0) (fun _ => 0) (fun _ => 0) 0 0) t.heap ∧ va_K (dC, dI) vwCl [(cy, .int)] t ∧ va_D (va_A [(h, .inr (0, [.int 0, .int 0, .null, .null, .null, .null, .null, .null, .null, .null, .int 0, .int 0]))] sz) (wX0 cy h q2 q3 q4 q5 q6 q7 q8 q9 res.1 res.2.1 res.2.2.1 res.2.2.2 (fun _ => 0) (fun _ => 0) (fun _ => 0) (fun _ => 0) (fun _ => 0) (fun _ => 0) 0 0)) (va_A [(h, .inr (0, [.int 0, .int 0, .null, .null, .null, .null, .null, .null, .null, .null, .int 0, .int 0]))] sz)) 8 2600 (va_A [(h, .inr (0, [.int 0, .int 0, .null, .null, .null, .null, .null, .null, .null, .null, .int 0, .int 0]))] sz) := by
  refine Met.ofW (cc := cX0_init) (maxL := 1) (ret := none) (by decide) rfl ?_
  intro p e s m args below meth c s₁ B hml hv
  obtain ⟨rfl, hsz, hP, hK, hD0⟩ := hv
  have hx := B.exec
  have hb := B.bytes
  have hr := B.returns
  have hts := atoms_spec (ws := wsX0_init) B.pre
  have hown : s.vm.findClass RX0 = some m.cls := findClass_of_methodNamed B.named
  have hlocks := B.notSynchronized
  have hin : meth.name = "<init>" := (name_of_methodNamed B.named B.method).1
  subst hsz
  have hD := hD0.self (sz := s.heap.size)
  generalize hAe : va_A [(h, .inr (0, [.int 0, .int 0, .null, .null, .null, .null, .null, .null, .null, .null, .int 0, .int 0]))] s.heap.size = A at hD ⊢
  have hA : ∀ q : Nat, s.heap.size ≤ q → A q := fun q h => by rw [← hAe]; exact Or.inr h
  have hS : va_S A s.heap s.heap [] := va_S.rf
  have hP : va_P (dC, dI) vwCl [(h, .inr (0, [.int 0, .int 0, .null, .null, .null, .null, .null, .null, .null, .null, .int 0, .int 0]))] s.heap := hP
  have hl := lv_entry ([.ref h]) (n := 1) (Nat.le_of_ble_eq_true rfl)
  rw [lg_entry_eq]
  generalize (lg_sl ([.ref h]) ++ List.replicate (1 - (lg_sl ([.ref h])).length) Slot.unset).toArray = ls at hl ⊢
  have hl : lv_has ls 1 [(0, .ref h)] := hl
  refine lv_aload_n hx hb dX0_init_0 rfl (lv_at hl 0 rfl) ?_
  refine W.objInit hx hb hown (hts (.methodLink RX0 3 objectInit) (by decide +kernel)) (hts (.instanceMethod objectInit) (by decide +kernel)) (hts (.code objectInit ⟨#[0xb1]⟩ 1 none) (by decide +kernel)) rfl (by rw [hml]; exact hl.1) rfl dX0_init_1 (Nat.le_of_ble_eq_true rfl) (Nat.le_of_ble_eq_true rfl) ?_
  refine W.eq (g2 := F0 m 4 ls []) rfl ?_
  refine lv_aload_n hx hb dX0_init_4 rfl (lv_at hl 0 rfl) ?_
  refine lv_bipush (v := (8 : Int32)) hx hb dX0_init_5 (by decide) ?_
  refine va_newa (atype := .int) (ty := .int) (N' := 8) (a0 := (8, .inl (fun _ => 0))) hx hb (hts (.arrayClass .int) (by decide +kernel)) rfl hK hP hD hS hA (fun _ => rfl) (by decide) rfl (by decide) (Nat.le_of_ble_eq_true rfl) (Nat.le_of_ble_eq_true rfl) dX0_init_7 (fun q2 cy H hK hP hD hS => ?_)
  have hK : va_K (dC, dI) vwCl [(cy, .int)] s := hK
  have hP : va_P (dC, dI) vwCl [(h, .inr (0, [.int 0, .int 0, .null, .null, .null, .null, .null, .null, .null, .null, .int 0, .int 0])), (q2, .inl (cy, 8, .inl (fun _ => 0)))] H := hP
  have hD : va_D A [(h, .inr (0, [.int 0, .int 0, .null, .null, .null, .null, .null, .null, .null, .null, .int 0, .int 0])), (q2, .inl (cy, 8, .inl (fun _ => 0)))] := hD
  refine va_putF (D := (dC, dI)) (ci := 0) (v := .ref q2) (ty := (.array .int)) (C := RX0) (T := TX0) (N := 12) hx hb hts (by decide +kernel) tyX0 tyX0_ok nmX0 hown hK hP hD hS 0 rfl rfl 2 (by decide) (hts (.fieldLink RX0 9 "GiftLots" "board" "[I") (by decide +kernel)) (fun _ h9 => h9) rfl hin rfl (by decide +kernel) rfl rfl (Nat.le_of_ble_eq_true rfl) dX0_init_9 (fun H locs hP hD hS => ?_)
  have hP : va_P (dC, dI) vwCl [(h, .inr (0, [.int 0, .int 0, .ref q2, .null, .null, .null, .null, .null, .null, .null, .int 0, .int 0])), (q2, .inl (cy, 8, .inl (fun _ => 0)))] H := hP
  have hD : va_D A [(h, .inr (0, [.int 0, .int 0, .ref q2, .null, .null, .null, .null, .null, .null, .null, .int 0, .int 0])), (q2, .inl (cy, 8, .inl (fun _ => 0)))] := hD
  refine lv_aload_n hx hb dX0_init_12 rfl (lv_at hl 0 rfl) ?_
  refine lv_bipush (v := (8 : Int32)) hx hb dX0_init_13 (by decide) ?_
  refine va_newa (atype := .int) (ty := .int) (N' := 8) (a0 := (8, .inl (fun _ => 0))) hx hb (hts (.arrayClass .int) (by decide +kernel)) rfl hK hP hD hS hA (fun _ => rfl) (by decide) rfl (by decide) (Nat.le_of_ble_eq_true rfl) (Nat.le_of_ble_eq_true rfl) dX0_init_15 (fun q3 cy3 H hK hP hD hS => ?_)
  obtain rfl : cy = cy3 := by
    have e1 : s.vm.findClass ("[" ++ FieldType.int.toString) = some cy := (hK.2 0 _ rfl).2
    have e2 : s.vm.findClass ("[" ++ FieldType.int.toString) = some cy3 := (hK.2 1 _ rfl).2
    exact Option.some.inj (e1.symm.trans e2)
  have hK := hK.sub (tys' := [(cy, .int)]) [0] rfl
  have hP : va_P (dC, dI) vwCl [(h, .inr (0, [.int 0, .int 0, .ref q2, .null, .null, .null, .null, .null, .null, .null, .int 0, .int 0])), (q2, .inl (cy, 8, .inl (fun _ => 0))), (q3, .inl (cy, 8, .inl (fun _ => 0)))] H := hP
  have hD : va_D A [(h, .inr (0, [.int 0, .int 0, .ref q2, .null, .null, .null, .null, .null, .null, .null, .int 0, .int 0])), (q2, .inl (cy, 8, .inl (fun _ => 0))), (q3, .inl (cy, 8, .inl (fun _ => 0)))] := hD
  refine va_putF (D := (dC, dI)) (ci := 0) (v := .ref q3) (ty := (.array .int)) (C := RX0) (T := TX0) (N := 12) hx hb hts (by decide +kernel) tyX0 tyX0_ok nmX0 hown hK hP hD hS 0 rfl rfl 3 (by decide) (hts (.fieldLink RX0 13 "GiftLots" "hand" "[I") (by decide +kernel)) (fun _ h9 => h9) rfl hin rfl (by decide +kernel) rfl rfl (Nat.le_of_ble_eq_true rfl) dX0_init_17 (fun H locs hP hD hS => ?_)
  have hP : va_P (dC, dI) vwCl [(h, .inr (0, [.int 0, .int 0, .ref q2, .ref q3, .null, .null, .null, .null, .null, .null, .int 0, .int 0])), (q2, .inl (cy, 8, .inl (fun _ => 0))), (q3, .inl (cy, 8, .inl (fun _ => 0)))] H := hP
  have hD : va_D A [(h, .inr (0, [.int 0, .int 0, .ref q2, .ref q3, .null, .null, .null, .null, .null, .null, .int 0, .int 0])), (q2, .inl (cy, 8, .inl (fun _ => 0))), (q3, .inl (cy, 8, .inl (fun _ => 0)))] := hD
  refine lv_aload_n hx hb dX0_init_20 rfl (lv_at hl 0 rfl) ?_
  refine lv_bipush (v := (8 : Int32)) hx hb dX0_init_21 (by decide) ?_
  refine va_newa (atype := .int) (ty := .int) (N' := 8) (a0 := (8, .inl (fun _ => 0))) hx hb (hts (.arrayClass .int) (by decide +kernel)) rfl hK hP hD hS hA (fun _ => rfl) (by decide) rfl (by decide) (Nat.le_of_ble_eq_true rfl) (Nat.le_of_ble_eq_true rfl) dX0_init_23 (fun q4 cy4 H hK hP hD hS => ?_)
  obtain rfl : cy = cy4 := by
    have e1 : s.vm.findClass ("[" ++ FieldType.int.toString) = some cy := (hK.2 0 _ rfl).2
    have e2 : s.vm.findClass ("[" ++ FieldType.int.toString) = some cy4 := (hK.2 1 _ rfl).2
    exact Option.some.inj (e1.symm.trans e2)
  have hK := hK.sub (tys' := [(cy, .int)]) [0] rfl
  have hP : va_P (dC, dI) vwCl [(h, .inr (0, [.int 0, .int 0, .ref q2, .ref q3, .null, .null, .null, .null, .null, .null, .int 0, .int 0])), (q2, .inl (cy, 8, .inl (fun _ => 0))), (q3, .inl (cy, 8, .inl (fun _ => 0))), (q4, .inl (cy, 8, .inl (fun _ => 0)))] H := hP
  have hD : va_D A [(h, .inr (0, [.int 0, .int 0, .ref q2, .ref q3, .null, .null, .null, .null, .null, .null, .int 0, .int 0])), (q2, .inl (cy, 8, .inl (fun _ => 0))), (q3, .inl (cy, 8, .inl (fun _ => 0))), (q4, .inl (cy, 8, .inl (fun _ => 0)))] := hD
  refine va_putF (D := (dC, dI)) (ci := 0) (v := .ref q4) (ty := (.array .int)) (C := RX0) (T := TX0) (N := 12) hx hb hts (by decide +kernel) tyX0 tyX0_ok nmX0 hown hK hP hD hS 0 rfl rfl 4 (by decide) (hts (.fieldLink RX0 16 "GiftLots" "rows" "[I") (by decide +kernel)) (fun _ h9 => h9) rfl hin rfl (by decide +kernel) rfl rfl (Nat.le_of_ble_eq_true rfl) dX0_init_25 (fun H locs hP hD hS => ?_)
  have hP : va_P (dC, dI) vwCl [(h, .inr (0, [.int 0, .int 0, .ref q2, .ref q3, .ref q4, .null, .null, .null, .null, .null, .int 0, .int 0])), (q2, .inl (cy, 8, .inl (fun _ => 0))), (q3, .inl (cy, 8, .inl (fun _ => 0))), (q4, .inl (cy, 8, .inl (fun _ => 0)))] H := hP
  have hD : va_D A [(h, .inr (0, [.int 0, .int 0, .ref q2, .ref q3, .ref q4, .null, .null, .null, .null, .null, .int 0, .int 0])), (q2, .inl (cy, 8, .inl (fun _ => 0))), (q3, .inl (cy, 8, .inl (fun _ => 0))), (q4, .inl (cy, 8, .inl (fun _ => 0)))] := hD
  refine lv_aload_n hx hb dX0_init_28 rfl (lv_at hl 0 rfl) ?_
  refine lv_sipush (v := (2048 : Int32)) hx hb dX0_init_29 (by decide) ?_
  refine va_newa (atype := .int) (ty := .int) (N' := 2048) (a0 := (2048, .inl (fun _ => 0))) hx hb (hts (.arrayClass .int) (by decide +kernel)) rfl hK hP hD hS hA (fun _ => rfl) (by decide) rfl (by decide) (Nat.le_of_ble_eq_true rfl) (Nat.le_of_ble_eq_true rfl) dX0_init_32 (fun q5 cy5 H hK hP hD hS => ?_)
  obtain rfl : cy = cy5 := by
    have e1 : s.vm.findClass ("[" ++ FieldType.int.toString) = some cy := (hK.2 0 _ rfl).2
    have e2 : s.vm.findClass ("[" ++ FieldType.int.toString) = some cy5 := (hK.2 1 _ rfl).2
    exact Option.some.inj (e1.symm.trans e2)
  have hK := hK.sub (tys' := [(cy, .int)]) [0] rfl
  have hP : va_P (dC, dI) vwCl [(h, .inr (0, [.int 0, .int 0, .ref q2, .ref q3, .ref q4, .null, .null, .null, .null, .null, .int 0, .int 0])), (q2, .inl (cy, 8, .inl (fun _ => 0))), (q3, .inl (cy, 8, .inl (fun _ => 0))), (q4, .inl (cy, 8, .inl (fun _ => 0))), (q5, .inl (cy, 2048, .inl (fun _ => 0)))] H := hP
  have hD : va_D A [(h, .inr (0, [.int 0, .int 0, .ref q2, .ref q3, .ref q4, .null, .null, .null, .null, .null, .int 0, .int 0])), (q2, .inl (cy, 8, .inl (fun _ => 0))), (q3, .inl (cy, 8, .inl (fun _ => 0))), (q4, .inl (cy, 8, .inl (fun _ => 0))), (q5, .inl (cy, 2048, .inl (fun _ => 0)))] := hD
  refine va_putF (D := (dC, dI)) (ci := 0) (v := .ref q5) (ty := (.array .int)) (C := RX0) (T := TX0) (N := 12) hx hb hts (by decide +kernel) tyX0 tyX0_ok nmX0 hown hK hP hD hS 0 rfl rfl 5 (by decide) (hts (.fieldLink RX0 19 "GiftLots" "chains" "[I") (by decide +kernel)) (fun _ h9 => h9) rfl hin rfl (by decide +kernel) rfl rfl (Nat.le_of_ble_eq_true rfl) dX0_init_34 (fun H locs hP hD hS => ?_)
  have hP : va_P (dC, dI) vwCl [(h, .inr (0, [.int 0, .int 0, .ref q2, .ref q3, .ref q4, .ref q5, .null, .null, .null, .null, .int 0, .int 0])), (q2, .inl (cy, 8, .inl (fun _ => 0))), (q3, .inl (cy, 8, .inl (fun _ => 0))), (q4, .inl (cy, 8, .inl (fun _ => 0))), (q5, .inl (cy, 2048, .inl (fun _ => 0)))] H := hP
  have hD : va_D A [(h, .inr (0, [.int 0, .int 0, .ref q2, .ref q3, .ref q4, .ref q5, .null, .null, .null, .null, .int 0, .int 0])), (q2, .inl (cy, 8, .inl (fun _ => 0))), (q3, .inl (cy, 8, .inl (fun _ => 0))), (q4, .inl (cy, 8, .inl (fun _ => 0))), (q5, .inl (cy, 2048, .inl (fun _ => 0)))] := hD
  refine lv_aload_n hx hb dX0_init_37 rfl (lv_at hl 0 rfl) ?_
  refine lv_sipush (v := (256 : Int32)) hx hb dX0_init_38 (by decide) ?_
  refine va_newa (atype := .int) (ty := .int) (N' := 256) (a0 := (256, .inl (fun _ => 0))) hx hb (hts (.arrayClass .int) (by decide +kernel)) rfl hK hP hD hS hA (fun _ => rfl) (by decide) rfl (by decide) (Nat.le_of_ble_eq_true rfl) (Nat.le_of_ble_eq_true rfl) dX0_init_41 (fun q6 cy6 H hK hP hD hS => ?_)
  obtain rfl : cy = cy6 := by
    have e1 : s.vm.findClass ("[" ++ FieldType.int.toString) = some cy := (hK.2 0 _ rfl).2
    have e2 : s.vm.findClass ("[" ++ FieldType.int.toString) = some cy6 := (hK.2 1 _ rfl).2
    exact Option.some.inj (e1.symm.trans e2)
  have hK := hK.sub (tys' := [(cy, .int)]) [0] rfl
  have hP : va_P (dC, dI) vwCl [(h, .inr (0, [.int 0, .int 0, .ref q2, .ref q3, .ref q4, .ref q5, .null, .null, .null, .null, .int 0, .int 0])), (q2, .inl (cy, 8, .inl (fun _ => 0))), (q3, .inl (cy, 8, .inl (fun _ => 0))), (q4, .inl (cy, 8, .inl (fun _ => 0))), (q5, .inl (cy, 2048, .inl (fun _ => 0))), (q6, .inl (cy, 256, .inl (fun _ => 0)))] H := hP
  have hD : va_D A [(h, .inr (0, [.int 0, .int 0, .ref q2, .ref q3, .ref q4, .ref q5, .null, .null, .null, .null, .int 0, .int 0])), (q2, .inl (cy, 8, .inl (fun _ => 0))), (q3, .inl (cy, 8, .inl (fun _ => 0))), (q4, .inl (cy, 8, .inl (fun _ => 0))), (q5, .inl (cy, 2048, .inl (fun _ => 0))), (q6, .inl (cy, 256, .inl (fun _ => 0)))] := hD
  refine va_putF (D := (dC, dI)) (ci := 0) (v := .ref q6) (ty := (.array .int)) (C := RX0) (T := TX0) (N := 12) hx hb hts (by decide +kernel) tyX0 tyX0_ok nmX0 hown hK hP hD hS 0 rfl rfl 6 (by decide) (hts (.fieldLink RX0 22 "GiftLots" "closed" "[I") (by decide +kernel)) (fun _ h9 => h9) rfl hin rfl (by decide +kernel) rfl rfl (Nat.le_of_ble_eq_true rfl) dX0_init_43 (fun H locs hP hD hS => ?_)
  have hP : va_P (dC, dI) vwCl [(h, .inr (0, [.int 0, .int 0, .ref q2, .ref q3, .ref q4, .ref q5, .ref q6, .null, .null, .null, .int 0, .int 0])), (q2, .inl (cy, 8, .inl (fun _ => 0))), (q3, .inl (cy, 8, .inl (fun _ => 0))), (q4, .inl (cy, 8, .inl (fun _ => 0))), (q5, .inl (cy, 2048, .inl (fun _ => 0))), (q6, .inl (cy, 256, .inl (fun _ => 0)))] H := hP
  have hD : va_D A [(h, .inr (0, [.int 0, .int 0, .ref q2, .ref q3, .ref q4, .ref q5, .ref q6, .null, .null, .null, .int 0, .int 0])), (q2, .inl (cy, 8, .inl (fun _ => 0))), (q3, .inl (cy, 8, .inl (fun _ => 0))), (q4, .inl (cy, 8, .inl (fun _ => 0))), (q5, .inl (cy, 2048, .inl (fun _ => 0))), (q6, .inl (cy, 256, .inl (fun _ => 0)))] := hD
  refine lv_aload_n hx hb dX0_init_46 rfl (lv_at hl 0 rfl) ?_
  refine lv_sipush (v := (256 : Int32)) hx hb dX0_init_47 (by decide) ?_
  refine va_newa (atype := .int) (ty := .int) (N' := 256) (a0 := (256, .inl (fun _ => 0))) hx hb (hts (.arrayClass .int) (by decide +kernel)) rfl hK hP hD hS hA (fun _ => rfl) (by decide) rfl (by decide) (Nat.le_of_ble_eq_true rfl) (Nat.le_of_ble_eq_true rfl) dX0_init_50 (fun q7 cy7 H hK hP hD hS => ?_)
  obtain rfl : cy = cy7 := by
    have e1 : s.vm.findClass ("[" ++ FieldType.int.toString) = some cy := (hK.2 0 _ rfl).2
    have e2 : s.vm.findClass ("[" ++ FieldType.int.toString) = some cy7 := (hK.2 1 _ rfl).2
    exact Option.some.inj (e1.symm.trans e2)
  have hK := hK.sub (tys' := [(cy, .int)]) [0] rfl
  have hP : va_P (dC, dI) vwCl [(h, .inr (0, [.int 0, .int 0, .ref q2, .ref q3, .ref q4, .ref q5, .ref q6, .null, .null, .null, .int 0, .int 0])), (q2, .inl (cy, 8, .inl (fun _ => 0))), (q3, .inl (cy, 8, .inl (fun _ => 0))), (q4, .inl (cy, 8, .inl (fun _ => 0))), (q5, .inl (cy, 2048, .inl (fun _ => 0))), (q6, .inl (cy, 256, .inl (fun _ => 0))), (q7, .inl (cy, 256, .inl (fun _ => 0)))] H := hP
  have hD : va_D A [(h, .inr (0, [.int 0, .int 0, .ref q2, .ref q3, .ref q4, .ref q5, .ref q6, .null, .null, .null, .int 0, .int 0])), (q2, .inl (cy, 8, .inl (fun _ => 0))), (q3, .inl (cy, 8, .inl (fun _ => 0))), (q4, .inl (cy, 8, .inl (fun _ => 0))), (q5, .inl (cy, 2048, .inl (fun _ => 0))), (q6, .inl (cy, 256, .inl (fun _ => 0))), (q7, .inl (cy, 256, .inl (fun _ => 0)))] := hD
  refine va_putF (D := (dC, dI)) (ci := 0) (v := .ref q7) (ty := (.array .int)) (C := RX0) (T := TX0) (N := 12) hx hb hts (by decide +kernel) tyX0 tyX0_ok nmX0 hown hK hP hD hS 0 rfl rfl 7 (by decide) (hts (.fieldLink RX0 25 "GiftLots" "splits" "[I") (by decide +kernel)) (fun _ h9 => h9) rfl hin rfl (by decide +kernel) rfl rfl (Nat.le_of_ble_eq_true rfl) dX0_init_52 (fun H locs hP hD hS => ?_)
  have hP : va_P (dC, dI) vwCl [(h, .inr (0, [.int 0, .int 0, .ref q2, .ref q3, .ref q4, .ref q5, .ref q6, .ref q7, .null, .null, .int 0, .int 0])), (q2, .inl (cy, 8, .inl (fun _ => 0))), (q3, .inl (cy, 8, .inl (fun _ => 0))), (q4, .inl (cy, 8, .inl (fun _ => 0))), (q5, .inl (cy, 2048, .inl (fun _ => 0))), (q6, .inl (cy, 256, .inl (fun _ => 0))), (q7, .inl (cy, 256, .inl (fun _ => 0)))] H := hP
  have hD : va_D A [(h, .inr (0, [.int 0, .int 0, .ref q2, .ref q3, .ref q4, .ref q5, .ref q6, .ref q7, .null, .null, .int 0, .int 0])), (q2, .inl (cy, 8, .inl (fun _ => 0))), (q3, .inl (cy, 8, .inl (fun _ => 0))), (q4, .inl (cy, 8, .inl (fun _ => 0))), (q5, .inl (cy, 2048, .inl (fun _ => 0))), (q6, .inl (cy, 256, .inl (fun _ => 0))), (q7, .inl (cy, 256, .inl (fun _ => 0)))] := hD
  refine lv_aload_n hx hb dX0_init_55 rfl (lv_at hl 0 rfl) ?_
  refine lv_bipush (v := (8 : Int32)) hx hb dX0_init_56 (by decide) ?_
  refine va_newa (atype := .int) (ty := .int) (N' := 8) (a0 := (8, .inl (fun _ => 0))) hx hb (hts (.arrayClass .int) (by decide +kernel)) rfl hK hP hD hS hA (fun _ => rfl) (by decide) rfl (by decide) (Nat.le_of_ble_eq_true rfl) (Nat.le_of_ble_eq_true rfl) dX0_init_58 (fun q8 cy8 H hK hP hD hS => ?_)
  obtain rfl : cy = cy8 := by
    have e1 : s.vm.findClass ("[" ++ FieldType.int.toString) = some cy := (hK.2 0 _ rfl).2
    have e2 : s.vm.findClass ("[" ++ FieldType.int.toString) = some cy8 := (hK.2 1 _ rfl).2
    exact Option.some.inj (e1.symm.trans e2)
  have hK := hK.sub (tys' := [(cy, .int)]) [0] rfl
  have hP : va_P (dC, dI) vwCl [(h, .inr (0, [.int 0, .int 0, .ref q2, .ref q3, .ref q4, .ref q5, .ref q6, .ref q7, .null, .null, .int 0, .int 0])), (q2, .inl (cy, 8, .inl (fun _ => 0))), (q3, .inl (cy, 8, .inl (fun _ => 0))), (q4, .inl (cy, 8, .inl (fun _ => 0))), (q5, .inl (cy, 2048, .inl (fun _ => 0))), (q6, .inl (cy, 256, .inl (fun _ => 0))), (q7, .inl (cy, 256, .inl (fun _ => 0))), (q8, .inl (cy, 8, .inl (fun _ => 0)))] H := hP
  have hD : va_D A [(h, .inr (0, [.int 0, .int 0, .ref q2, .ref q3, .ref q4, .ref q5, .ref q6, .ref q7, .null, .null, .int 0, .int 0])), (q2, .inl (cy, 8, .inl (fun _ => 0))), (q3, .inl (cy, 8, .inl (fun _ => 0))), (q4, .inl (cy, 8, .inl (fun _ => 0))), (q5, .inl (cy, 2048, .inl (fun _ => 0))), (q6, .inl (cy, 256, .inl (fun _ => 0))), (q7, .inl (cy, 256, .inl (fun _ => 0))), (q8, .inl (cy, 8, .inl (fun _ => 0)))] := hD
  refine va_putF (D := (dC, dI)) (ci := 0) (v := .ref q8) (ty := (.array .int)) (C := RX0) (T := TX0) (N := 12) hx hb hts (by decide +kernel) tyX0 tyX0_ok nmX0 hown hK hP hD hS 0 rfl rfl 8 (by decide) (hts (.fieldLink RX0 28 "GiftLots" "trial" "[I") (by decide +kernel)) (fun _ h9 => h9) rfl hin rfl (by decide +kernel) rfl rfl (Nat.le_of_ble_eq_true rfl) dX0_init_60 (fun H locs hP hD hS => ?_)
  have hP : va_P (dC, dI) vwCl [(h, .inr (0, [.int 0, .int 0, .ref q2, .ref q3, .ref q4, .ref q5, .ref q6, .ref q7, .ref q8, .null, .int 0, .int 0])), (q2, .inl (cy, 8, .inl (fun _ => 0))), (q3, .inl (cy, 8, .inl (fun _ => 0))), (q4, .inl (cy, 8, .inl (fun _ => 0))), (q5, .inl (cy, 2048, .inl (fun _ => 0))), (q6, .inl (cy, 256, .inl (fun _ => 0))), (q7, .inl (cy, 256, .inl (fun _ => 0))), (q8, .inl (cy, 8, .inl (fun _ => 0)))] H := hP
  have hD : va_D A [(h, .inr (0, [.int 0, .int 0, .ref q2, .ref q3, .ref q4, .ref q5, .ref q6, .ref q7, .ref q8, .null, .int 0, .int 0])), (q2, .inl (cy, 8, .inl (fun _ => 0))), (q3, .inl (cy, 8, .inl (fun _ => 0))), (q4, .inl (cy, 8, .inl (fun _ => 0))), (q5, .inl (cy, 2048, .inl (fun _ => 0))), (q6, .inl (cy, 256, .inl (fun _ => 0))), (q7, .inl (cy, 256, .inl (fun _ => 0))), (q8, .inl (cy, 8, .inl (fun _ => 0)))] := hD
  refine lv_aload_n hx hb dX0_init_63 rfl (lv_at hl 0 rfl) ?_
  refine lv_bipush (v := (8 : Int32)) hx hb dX0_init_64 (by decide) ?_
  refine va_newa (atype := .int) (ty := .int) (N' := 8) (a0 := (8, .inl (fun _ => 0))) hx hb (hts (.arrayClass .int) (by decide +kernel)) rfl hK hP hD hS hA (fun _ => rfl) (by decide) rfl (by decide) (Nat.le_of_ble_eq_true rfl) (Nat.le_of_ble_eq_true rfl) dX0_init_66 (fun q9 cy9 H hK hP hD hS => ?_)
  obtain rfl : cy = cy9 := by
    have e1 : s.vm.findClass ("[" ++ FieldType.int.toString) = some cy := (hK.2 0 _ rfl).2
    have e2 : s.vm.findClass ("[" ++ FieldType.int.toString) = some cy9 := (hK.2 1 _ rfl).2
    exact Option.some.inj (e1.symm.trans e2)
  have hK := hK.sub (tys' := [(cy, .int)]) [0] rfl
  have hP : va_P (dC, dI) vwCl [(h, .inr (0, [.int 0, .int 0, .ref q2, .ref q3, .ref q4, .ref q5, .ref q6, .ref q7, .ref q8, .null, .int 0, .int 0])), (q2, .inl (cy, 8, .inl (fun _ => 0))), (q3, .inl (cy, 8, .inl (fun _ => 0))), (q4, .inl (cy, 8, .inl (fun _ => 0))), (q5, .inl (cy, 2048, .inl (fun _ => 0))), (q6, .inl (cy, 256, .inl (fun _ => 0))), (q7, .inl (cy, 256, .inl (fun _ => 0))), (q8, .inl (cy, 8, .inl (fun _ => 0))), (q9, .inl (cy, 8, .inl (fun _ => 0)))] H := hP
  have hD : va_D A [(h, .inr (0, [.int 0, .int 0, .ref q2, .ref q3, .ref q4, .ref q5, .ref q6, .ref q7, .ref q8, .null, .int 0, .int 0])), (q2, .inl (cy, 8, .inl (fun _ => 0))), (q3, .inl (cy, 8, .inl (fun _ => 0))), (q4, .inl (cy, 8, .inl (fun _ => 0))), (q5, .inl (cy, 2048, .inl (fun _ => 0))), (q6, .inl (cy, 256, .inl (fun _ => 0))), (q7, .inl (cy, 256, .inl (fun _ => 0))), (q8, .inl (cy, 8, .inl (fun _ => 0))), (q9, .inl (cy, 8, .inl (fun _ => 0)))] := hD
  refine va_putF (D := (dC, dI)) (ci := 0) (v := .ref q9) (ty := (.array .int)) (C := RX0) (T := TX0) (N := 12) hx hb hts (by decide +kernel) tyX0 tyX0_ok nmX0 hown hK hP hD hS 0 rfl rfl 9 (by decide) (hts (.fieldLink RX0 31 "GiftLots" "firstMend" "[I") (by decide +kernel)) (fun _ h9 => h9) rfl hin rfl (by decide +kernel) rfl rfl (Nat.le_of_ble_eq_true rfl) dX0_init_68 (fun H locs hP hD hS => ?_)
  have hP : va_P (dC, dI) vwCl [(h, .inr (0, [.int 0, .int 0, .ref q2, .ref q3, .ref q4, .ref q5, .ref q6, .ref q7, .ref q8, .ref q9, .int 0, .int 0])), (q2, .inl (cy, 8, .inl (fun _ => 0))), (q3, .inl (cy, 8, .inl (fun _ => 0))), (q4, .inl (cy, 8, .inl (fun _ => 0))), (q5, .inl (cy, 2048, .inl (fun _ => 0))), (q6, .inl (cy, 256, .inl (fun _ => 0))), (q7, .inl (cy, 256, .inl (fun _ => 0))), (q8, .inl (cy, 8, .inl (fun _ => 0))), (q9, .inl (cy, 8, .inl (fun _ => 0)))] H := hP
  have hD : va_D A [(h, .inr (0, [.int 0, .int 0, .ref q2, .ref q3, .ref q4, .ref q5, .ref q6, .ref q7, .ref q8, .ref q9, .int 0, .int 0])), (q2, .inl (cy, 8, .inl (fun _ => 0))), (q3, .inl (cy, 8, .inl (fun _ => 0))), (q4, .inl (cy, 8, .inl (fun _ => 0))), (q5, .inl (cy, 2048, .inl (fun _ => 0))), (q6, .inl (cy, 256, .inl (fun _ => 0))), (q7, .inl (cy, 256, .inl (fun _ => 0))), (q8, .inl (cy, 8, .inl (fun _ => 0))), (q9, .inl (cy, 8, .inl (fun _ => 0)))] := hD
  refine lv_aload_n hx hb dX0_init_71 rfl (lv_at hl 0 rfl) ?_
  refine lv_iconst (v := (4 : Int32)) hx hb dX0_init_72 (by decide) ?_
  have hPc := hP.sub (ws' := (wX0 cy h q2 q3 q4 q5 q6 q7 q8 q9 0 0 (fun _ => 0) (fun _ => 0) (fun _ => 0) (fun _ => 0) (fun _ => 0) (fun _ => 0) (fun _ => 0) (fun _ => 0) 0 0)) [0, 1, 2, 3, 4, 5, 6, 7, 8] rfl
  have hDc := hD.sub (ws' := (wX0 cy h q2 q3 q4 q5 q6 q7 q8 q9 0 0 (fun _ => 0) (fun _ => 0) (fun _ => 0) (fun _ => 0) (fun _ => 0) (fun _ => 0) (fun _ => 0) (fun _ => 0) 0 0)) [0, 1, 2, 3, 4, 5, 6, 7, 8] (by decide) rfl
  have hKc := hK.sub (tys' := [(cy, .int)]) [0] rfl
  have hFc := va_free (wc := (wX0 cy h q2 q3 q4 q5 q6 q7 q8 q9 0 0 (fun _ => 0) (fun _ => 0) (fun _ => 0) (fun _ => 0) (fun _ => 0) (fun _ => 0) (fun _ => 0) (fun _ => 0) 0 0)) hD hS hA [0, 1, 2, 3, 4, 5, 6, 7, 8] rfl
  refine va_callv (va_runV (As := [.int 4]) (rest := []) ⟨hx, hb, hml, hown, hts⟩ (c_X0_begin N l dC dI cy h q2 q3 q4 q5 q6 q7 q8 q9 H.size 0 0 (fun _ => 0) (fun _ => 0) (fun _ => 0) (fun _ => 0) (fun _ => 0) (fun _ => 0) (fun _ => 0) (fun _ => 0) 0 0 4 res hf) (cwV 1 hts gX0_init_X0_begin rfl rfl rfl (by decide +kernel) ⟨Nat.le_of_ble_eq_true rfl, Nat.le_of_ble_eq_true rfl⟩) ⟨fun a U g mk q => by obtain ⟨q0, q1, qP, qK, qD⟩ := q; exact ⟨q0, q1, qP, va_K.moved (u := U) (U := U.calling g mk a) (Vm.Alike.refl U.vm) qK, qD⟩, va_recv hKc hPc (ci := 0) (q0 := 0) rfl rfl, fun U hU hW => ⟨rfl, by rw [hU], by rw [hU]; exact hPc, va_K.moved hW.alike hKc, hDc.weaken (fun _ _ _ _ => trivial)⟩⟩ rfl rfl hl.1 rfl (lv_room (Nat.le_of_ble_eq_true rfl)) dX0_init_73 ⟨Nat.le_of_ble_eq_true rfl, Nat.le_of_ble_eq_true rfl⟩) hS (fun q _ h => hFc q h) hFc (fun uu_ t H1 locs ht hvm hw hB hz1 hk1 hS => ?_)
  obtain ⟨hP1, -, hD1⟩ := hB
  rw [ht] at hP1
  obtain ⟨hP, hD⟩ := va_join (wr := []) (w1 := (wX0 cy h q2 q3 q4 q5 q6 q7 q8 q9 res.1 res.2.1 res.2.2.1 res.2.2.2 (fun _ => 0) (fun _ => 0) (fun _ => 0) (fun _ => 0) (fun _ => 0) (fun _ => 0) 0 0)) hP hD [0, 1, 2, 3, 4, 5, 6, 7, 8] [] rfl rfl (by decide) (by decide) hk1 hFc hP1 hD1
  generalize H1 = H at hP hS ⊢
  have hP : va_P (dC, dI) vwCl (wX0 cy h q2 q3 q4 q5 q6 q7 q8 q9 res.1 res.2.1 res.2.2.1 res.2.2.2 (fun _ => 0) (fun _ => 0) (fun _ => 0) (fun _ => 0) (fun _ => 0) (fun _ => 0) 0 0) H := hP
  have hD : va_D A (wX0 cy h q2 q3 q4 q5 q6 q7 q8 q9 res.1 res.2.1 res.2.2.1 res.2.2.2 (fun _ => 0) (fun _ => 0) (fun _ => 0) (fun _ => 0) (fun _ => 0) (fun _ => 0) 0 0) := hD
  exact W.vret hx hb hr (fun t ht hW => ⟨⟨(), rfl, trivial, cy, q2, q3, q4, q5, q6, q7, q8, q9, by rw [ht]; exact hP, va_K.moved hW.alike hK, hD⟩, hS.F ht⟩) hS.2.2 dX0_init_76

set_option maxRecDepth 20000 in
theorem ggX1_init_X1_begin : GoodIn wsX1_init wsX1_begin := goodIn_r _ [16, 5, 7, 4, 8, 17, 18, 19, 20, 21, 22, 23, 24, 25, 26, 27] (by decide +kernel) (by decide +kernel)
set_option maxRecDepth 20000 in
theorem gX1_init_X1_begin : GoodIn wsX1_init (wsV RX1 32 RX1 yX1_begin wsX1_begin) := goodIn_app (goodIn_of _ (by decide +kernel)) ggX1_init_X1_begin
theorem dX1_init_0 : decode cX1_init 0 = .ok (.aload_n 0, 1) := by decide +kernel
theorem dX1_init_1 : decode cX1_init 1 = .ok (.invokespecial 1, 3) := by decide +kernel
theorem dX1_init_4 : decode cX1_init 4 = .ok (.aload_n 0, 1) := by decide +kernel
theorem dX1_init_5 : decode cX1_init 5 = .ok (.iconst 4, 1) := by decide +kernel
theorem dX1_init_6 : decode cX1_init 6 = .ok (.putfield 7, 3) := by decide +kernel
theorem dX1_init_9 : decode cX1_init 9 = .ok (.aload_n 0, 1) := by decide +kernel
theorem dX1_init_10 : decode cX1_init 10 = .ok (.iconst 2, 1) := by decide +kernel
theorem dX1_init_11 : decode cX1_init 11 = .ok (.putfield 13, 3) := by decide +kernel
theorem dX1_init_14 : decode cX1_init 14 = .ok (.aload_n 0, 1) := by decide +kernel
theorem dX1_init_15 : decode cX1_init 15 = .ok (.bipush 8, 2) := by decide +kernel
theorem dX1_init_17 : decode cX1_init 17 = .ok (.newarray .int, 2) := by decide +kernel
theorem dX1_init_19 : decode cX1_init 19 = .ok (.putfield 16, 3) := by decide +kernel
theorem dX1_init_22 : decode cX1_init 22 = .ok (.aload_n 0, 1) := by decide +kernel
theorem dX1_init_23 : decode cX1_init 23 = .ok (.bipush 8, 2) := by decide +kernel
theorem dX1_init_25 : decode cX1_init 25 = .ok (.newarray .int, 2) := by decide +kernel
theorem dX1_init_27 : decode cX1_init 27 = .ok (.putfield 20, 3) := by decide +kernel
theorem dX1_init_30 : decode cX1_init 30 = .ok (.aload_n 0, 1) := by decide +kernel
theorem dX1_init_31 : decode cX1_init 31 = .ok (.bipush 8, 2) := by decide +kernel
theorem dX1_init_33 : decode cX1_init 33 = .ok (.newarray .int, 2) := by decide +kernel
theorem dX1_init_35 : decode cX1_init 35 = .ok (.putfield 23, 3) := by decide +kernel
theorem dX1_init_38 : decode cX1_init 38 = .ok (.aload_n 0, 1) := by decide +kernel
theorem dX1_init_39 : decode cX1_init 39 = .ok (.sipush 256, 3) := by decide +kernel
theorem dX1_init_42 : decode cX1_init 42 = .ok (.newarray .int, 2) := by decide +kernel
theorem dX1_init_44 : decode cX1_init 44 = .ok (.putfield 26, 3) := by decide +kernel
theorem dX1_init_47 : decode cX1_init 47 = .ok (.aload_n 0, 1) := by decide +kernel
theorem dX1_init_48 : decode cX1_init 48 = .ok (.bipush 8, 2) := by decide +kernel
theorem dX1_init_50 : decode cX1_init 50 = .ok (.newarray .int, 2) := by decide +kernel
theorem dX1_init_52 : decode cX1_init 52 = .ok (.putfield 29, 3) := by decide +kernel
theorem dX1_init_55 : decode cX1_init 55 = .ok (.aload_n 0, 1) := by decide +kernel
theorem dX1_init_56 : decode cX1_init 56 = .ok (.invokevirtual 32, 3) := by decide +kernel
theorem dX1_init_59 : decode cX1_init 59 = .ok (.return_, 1) := by decide +kernel
abbrev rm_X1_init : Room := { frames := 1, cells := 5, slots := 288, locals := 21 }
set_option maxHeartbeats 4000000 in
set_option maxRecDepth 100000 in
theorem c_X1_init (N : Nat) (l : Launch) (dC : Nat → ClassId) (dI : Nat → Nat → Nat) (h : Nat) (sz : Nat) (res : Int32 × (Nat → Int32) × (Nat → Int32)) (hf : f_X1_begin N 4 2 (fun _ => 0) (fun _ => 0) = some res) : Met l yX1_init wsX1_init rm_X1_init (va_Pc [.ref h] (fun U => U.heap.size = sz ∧ va_P (dC, dI) vwCl [(h, .inr (1, [.int 0, .int 0, .null, .null, .int 0, .int 0, .null, .null, .int 0, .int 0, .null]))] U.heap ∧ va_K (dC, dI) vwCl [] U ∧ va_D (fun _ => True) [(h, .inr (1, [.int 0, .int 0, .null, .null, .int 0, .int 0, .null, .null, .int 0, .int 0, .null]))])) (va_Qv (fun (_ : Unit) => True) (fun _ t => ∃ (cy : ClassId) (q2 q3 q6 q7 q10 : Nat), va_P (dC, dI) vwCl (wX1 cy h q2 q3 q6 q7 q10 4 res.1 res.2.1 res.2.2 0 0 (fun _ => 0) (fun _ => 0) 0 0 (fun _ => 0)) t.heap ∧ va_K (dC, dI) vwCl [(cy, .int)] t ∧ va_D (va_A [(h, .inr (1, [.int 0, .int 0, .null, .null, .int 0, .int 0, .null, .null, .int 0, .int 0, .null]))] sz) (wX1 cy h q2 q3 q6 q7 q10 4 res.1 res.2.1 res.2.2 0 0 (fun _ => 0) (fun _ => 0) 0 0 (fun _ => 0))) (va_A [(h, .inr (1, [.int 0, .int 0, .null, .null, .int 0, .int 0, .null, .null, .int 0, .int 0, .null]))] sz)) 5 288 (va_A [(h, .inr (1, [.int 0, .int 0, .null, .null, .int 0, .int 0, .null, .null, .int 0, .int 0, .null]))] sz) := by
  refine Met.ofW (cc := cX1_init) (maxL := 1) (ret := none) (by decide) rfl ?_
  intro p e s m args below meth c s₁ B hml hv
  obtain ⟨rfl, hsz, hP, hK, hD0⟩ := hv
  have hx := B.exec
  have hb := B.bytes
  have hr := B.returns
  have hts := atoms_spec (ws := wsX1_init) B.pre
  have hown : s.vm.findClass RX1 = some m.cls := findClass_of_methodNamed B.named
  have hlocks := B.notSynchronized
  have hin : meth.name = "<init>" := (name_of_methodNamed B.named B.method).1
  subst hsz
  have hD := hD0.self (sz := s.heap.size)
  generalize hAe : va_A [(h, .inr (1, [.int 0, .int 0, .null, .null, .int 0, .int 0, .null, .null, .int 0, .int 0, .null]))] s.heap.size = A at hD ⊢
  have hA : ∀ q : Nat, s.heap.size ≤ q → A q := fun q h => by rw [← hAe]; exact Or.inr h
  have hS : va_S A s.heap s.heap [] := va_S.rf
  have hP : va_P (dC, dI) vwCl [(h, .inr (1, [.int 0, .int 0, .null, .null, .int 0, .int 0, .null, .null, .int 0, .int 0, .null]))] s.heap := hP
  have hl := lv_entry ([.ref h]) (n := 1) (Nat.le_of_ble_eq_true rfl)
  rw [lg_entry_eq]
  generalize (lg_sl ([.ref h]) ++ List.replicate (1 - (lg_sl ([.ref h])).length) Slot.unset).toArray = ls at hl ⊢
  have hl : lv_has ls 1 [(0, .ref h)] := hl
  refine lv_aload_n hx hb dX1_init_0 rfl (lv_at hl 0 rfl) ?_
  refine W.objInit hx hb hown (hts (.methodLink RX1 1 objectInit) (by decide +kernel)) (hts (.instanceMethod objectInit) (by decide +kernel)) (hts (.code objectInit ⟨#[0xb1]⟩ 1 none) (by decide +kernel)) rfl (by rw [hml]; exact hl.1) rfl dX1_init_1 (Nat.le_of_ble_eq_true rfl) (Nat.le_of_ble_eq_true rfl) ?_
  refine W.eq (g2 := F0 m 4 ls []) rfl ?_
  refine lv_aload_n hx hb dX1_init_4 rfl (lv_at hl 0 rfl) ?_
  refine lv_iconst (v := (4 : Int32)) hx hb dX1_init_5 (by decide) ?_
  refine va_put (D := (dC, dI)) (ci := 1) (v := .int (4 : Int32)) (ty := .int) (C := RX1) (T := TX1) (N := 11) hx hb hts (by decide +kernel) tyX1 tyX1_ok nmX1 hown hK hP hD hS 0 rfl rfl 0 (by decide) (hts (.fieldLink RX1 7 "GiftLotsModel" "ones" "I") (by decide +kernel)) (fun _ h9 => h9) rfl (by decide +kernel) rfl rfl (Nat.le_of_ble_eq_true rfl) dX1_init_6 (fun H locs hP hD hS => ?_)
  have hP : va_P (dC, dI) vwCl [(h, .inr (1, [.int 4, .int 0, .null, .null, .int 0, .int 0, .null, .null, .int 0, .int 0, .null]))] H := hP
  have hD : va_D A [(h, .inr (1, [.int 4, .int 0, .null, .null, .int 0, .int 0, .null, .null, .int 0, .int 0, .null]))] := hD
  refine lv_aload_n hx hb dX1_init_9 rfl (lv_at hl 0 rfl) ?_
  refine lv_iconst (v := (2 : Int32)) hx hb dX1_init_10 (by decide) ?_
  refine va_put (D := (dC, dI)) (ci := 1) (v := .int (2 : Int32)) (ty := .int) (C := RX1) (T := TX1) (N := 11) hx hb hts (by decide +kernel) tyX1 tyX1_ok nmX1 hown hK hP hD hS 0 rfl rfl 1 (by decide) (hts (.fieldLink RX1 13 "GiftLotsModel" "least" "I") (by decide +kernel)) (fun _ h9 => h9) rfl (by decide +kernel) rfl rfl (Nat.le_of_ble_eq_true rfl) dX1_init_11 (fun H locs hP hD hS => ?_)
  have hP : va_P (dC, dI) vwCl [(h, .inr (1, [.int 4, .int 2, .null, .null, .int 0, .int 0, .null, .null, .int 0, .int 0, .null]))] H := hP
  have hD : va_D A [(h, .inr (1, [.int 4, .int 2, .null, .null, .int 0, .int 0, .null, .null, .int 0, .int 0, .null]))] := hD
  refine lv_aload_n hx hb dX1_init_14 rfl (lv_at hl 0 rfl) ?_
  refine lv_bipush (v := (8 : Int32)) hx hb dX1_init_15 (by decide) ?_
  refine va_newa (atype := .int) (ty := .int) (N' := 8) (a0 := (8, .inl (fun _ => 0))) hx hb (hts (.arrayClass .int) (by decide +kernel)) rfl hK hP hD hS hA (fun _ => rfl) (by decide) rfl (by decide) (Nat.le_of_ble_eq_true rfl) (Nat.le_of_ble_eq_true rfl) dX1_init_17 (fun q2 cy H hK hP hD hS => ?_)
  have hK : va_K (dC, dI) vwCl [(cy, .int)] s := hK
  have hP : va_P (dC, dI) vwCl [(h, .inr (1, [.int 4, .int 2, .null, .null, .int 0, .int 0, .null, .null, .int 0, .int 0, .null])), (q2, .inl (cy, 8, .inl (fun _ => 0)))] H := hP
  have hD : va_D A [(h, .inr (1, [.int 4, .int 2, .null, .null, .int 0, .int 0, .null, .null, .int 0, .int 0, .null])), (q2, .inl (cy, 8, .inl (fun _ => 0)))] := hD
  refine va_putF (D := (dC, dI)) (ci := 1) (v := .ref q2) (ty := (.array .int)) (C := RX1) (T := TX1) (N := 11) hx hb hts (by decide +kernel) tyX1 tyX1_ok nmX1 hown hK hP hD hS 0 rfl rfl 2 (by decide) (hts (.fieldLink RX1 16 "GiftLotsModel" "may" "[I") (by decide +kernel)) (fun _ h9 => h9) rfl hin rfl (by decide +kernel) rfl rfl (Nat.le_of_ble_eq_true rfl) dX1_init_19 (fun H locs hP hD hS => ?_)
  have hP : va_P (dC, dI) vwCl [(h, .inr (1, [.int 4, .int 2, .ref q2, .null, .int 0, .int 0, .null, .null, .int 0, .int 0, .null])), (q2, .inl (cy, 8, .inl (fun _ => 0)))] H := hP
  have hD : va_D A [(h, .inr (1, [.int 4, .int 2, .ref q2, .null, .int 0, .int 0, .null, .null, .int 0, .int 0, .null])), (q2, .inl (cy, 8, .inl (fun _ => 0)))] := hD
  refine lv_aload_n hx hb dX1_init_22 rfl (lv_at hl 0 rfl) ?_
  refine lv_bipush (v := (8 : Int32)) hx hb dX1_init_23 (by decide) ?_
  refine va_newa (atype := .int) (ty := .int) (N' := 8) (a0 := (8, .inl (fun _ => 0))) hx hb (hts (.arrayClass .int) (by decide +kernel)) rfl hK hP hD hS hA (fun _ => rfl) (by decide) rfl (by decide) (Nat.le_of_ble_eq_true rfl) (Nat.le_of_ble_eq_true rfl) dX1_init_25 (fun q3 cy3 H hK hP hD hS => ?_)
  obtain rfl : cy = cy3 := by
    have e1 : s.vm.findClass ("[" ++ FieldType.int.toString) = some cy := (hK.2 0 _ rfl).2
    have e2 : s.vm.findClass ("[" ++ FieldType.int.toString) = some cy3 := (hK.2 1 _ rfl).2
    exact Option.some.inj (e1.symm.trans e2)
  have hK := hK.sub (tys' := [(cy, .int)]) [0] rfl
  have hP : va_P (dC, dI) vwCl [(h, .inr (1, [.int 4, .int 2, .ref q2, .null, .int 0, .int 0, .null, .null, .int 0, .int 0, .null])), (q2, .inl (cy, 8, .inl (fun _ => 0))), (q3, .inl (cy, 8, .inl (fun _ => 0)))] H := hP
  have hD : va_D A [(h, .inr (1, [.int 4, .int 2, .ref q2, .null, .int 0, .int 0, .null, .null, .int 0, .int 0, .null])), (q2, .inl (cy, 8, .inl (fun _ => 0))), (q3, .inl (cy, 8, .inl (fun _ => 0)))] := hD
  refine va_putF (D := (dC, dI)) (ci := 1) (v := .ref q3) (ty := (.array .int)) (C := RX1) (T := TX1) (N := 11) hx hb hts (by decide +kernel) tyX1 tyX1_ok nmX1 hown hK hP hD hS 0 rfl rfl 3 (by decide) (hts (.fieldLink RX1 20 "GiftLotsModel" "hand" "[I") (by decide +kernel)) (fun _ h9 => h9) rfl hin rfl (by decide +kernel) rfl rfl (Nat.le_of_ble_eq_true rfl) dX1_init_27 (fun H locs hP hD hS => ?_)
  have hP : va_P (dC, dI) vwCl [(h, .inr (1, [.int 4, .int 2, .ref q2, .ref q3, .int 0, .int 0, .null, .null, .int 0, .int 0, .null])), (q2, .inl (cy, 8, .inl (fun _ => 0))), (q3, .inl (cy, 8, .inl (fun _ => 0)))] H := hP
  have hD : va_D A [(h, .inr (1, [.int 4, .int 2, .ref q2, .ref q3, .int 0, .int 0, .null, .null, .int 0, .int 0, .null])), (q2, .inl (cy, 8, .inl (fun _ => 0))), (q3, .inl (cy, 8, .inl (fun _ => 0)))] := hD
  refine lv_aload_n hx hb dX1_init_30 rfl (lv_at hl 0 rfl) ?_
  refine lv_bipush (v := (8 : Int32)) hx hb dX1_init_31 (by decide) ?_
  refine va_newa (atype := .int) (ty := .int) (N' := 8) (a0 := (8, .inl (fun _ => 0))) hx hb (hts (.arrayClass .int) (by decide +kernel)) rfl hK hP hD hS hA (fun _ => rfl) (by decide) rfl (by decide) (Nat.le_of_ble_eq_true rfl) (Nat.le_of_ble_eq_true rfl) dX1_init_33 (fun q6 cy6 H hK hP hD hS => ?_)
  obtain rfl : cy = cy6 := by
    have e1 : s.vm.findClass ("[" ++ FieldType.int.toString) = some cy := (hK.2 0 _ rfl).2
    have e2 : s.vm.findClass ("[" ++ FieldType.int.toString) = some cy6 := (hK.2 1 _ rfl).2
    exact Option.some.inj (e1.symm.trans e2)
  have hK := hK.sub (tys' := [(cy, .int)]) [0] rfl
  have hP : va_P (dC, dI) vwCl [(h, .inr (1, [.int 4, .int 2, .ref q2, .ref q3, .int 0, .int 0, .null, .null, .int 0, .int 0, .null])), (q2, .inl (cy, 8, .inl (fun _ => 0))), (q3, .inl (cy, 8, .inl (fun _ => 0))), (q6, .inl (cy, 8, .inl (fun _ => 0)))] H := hP
  have hD : va_D A [(h, .inr (1, [.int 4, .int 2, .ref q2, .ref q3, .int 0, .int 0, .null, .null, .int 0, .int 0, .null])), (q2, .inl (cy, 8, .inl (fun _ => 0))), (q3, .inl (cy, 8, .inl (fun _ => 0))), (q6, .inl (cy, 8, .inl (fun _ => 0)))] := hD
  refine va_putF (D := (dC, dI)) (ci := 1) (v := .ref q6) (ty := (.array .int)) (C := RX1) (T := TX1) (N := 11) hx hb hts (by decide +kernel) tyX1 tyX1_ok nmX1 hown hK hP hD hS 0 rfl rfl 6 (by decide) (hts (.fieldLink RX1 23 "GiftLotsModel" "gives" "[I") (by decide +kernel)) (fun _ h9 => h9) rfl hin rfl (by decide +kernel) rfl rfl (Nat.le_of_ble_eq_true rfl) dX1_init_35 (fun H locs hP hD hS => ?_)
  have hP : va_P (dC, dI) vwCl [(h, .inr (1, [.int 4, .int 2, .ref q2, .ref q3, .int 0, .int 0, .ref q6, .null, .int 0, .int 0, .null])), (q2, .inl (cy, 8, .inl (fun _ => 0))), (q3, .inl (cy, 8, .inl (fun _ => 0))), (q6, .inl (cy, 8, .inl (fun _ => 0)))] H := hP
  have hD : va_D A [(h, .inr (1, [.int 4, .int 2, .ref q2, .ref q3, .int 0, .int 0, .ref q6, .null, .int 0, .int 0, .null])), (q2, .inl (cy, 8, .inl (fun _ => 0))), (q3, .inl (cy, 8, .inl (fun _ => 0))), (q6, .inl (cy, 8, .inl (fun _ => 0)))] := hD
  refine lv_aload_n hx hb dX1_init_38 rfl (lv_at hl 0 rfl) ?_
  refine lv_sipush (v := (256 : Int32)) hx hb dX1_init_39 (by decide) ?_
  refine va_newa (atype := .int) (ty := .int) (N' := 256) (a0 := (256, .inl (fun _ => 0))) hx hb (hts (.arrayClass .int) (by decide +kernel)) rfl hK hP hD hS hA (fun _ => rfl) (by decide) rfl (by decide) (Nat.le_of_ble_eq_true rfl) (Nat.le_of_ble_eq_true rfl) dX1_init_42 (fun q7 cy7 H hK hP hD hS => ?_)
  obtain rfl : cy = cy7 := by
    have e1 : s.vm.findClass ("[" ++ FieldType.int.toString) = some cy := (hK.2 0 _ rfl).2
    have e2 : s.vm.findClass ("[" ++ FieldType.int.toString) = some cy7 := (hK.2 1 _ rfl).2
    exact Option.some.inj (e1.symm.trans e2)
  have hK := hK.sub (tys' := [(cy, .int)]) [0] rfl
  have hP : va_P (dC, dI) vwCl [(h, .inr (1, [.int 4, .int 2, .ref q2, .ref q3, .int 0, .int 0, .ref q6, .null, .int 0, .int 0, .null])), (q2, .inl (cy, 8, .inl (fun _ => 0))), (q3, .inl (cy, 8, .inl (fun _ => 0))), (q6, .inl (cy, 8, .inl (fun _ => 0))), (q7, .inl (cy, 256, .inl (fun _ => 0)))] H := hP
  have hD : va_D A [(h, .inr (1, [.int 4, .int 2, .ref q2, .ref q3, .int 0, .int 0, .ref q6, .null, .int 0, .int 0, .null])), (q2, .inl (cy, 8, .inl (fun _ => 0))), (q3, .inl (cy, 8, .inl (fun _ => 0))), (q6, .inl (cy, 8, .inl (fun _ => 0))), (q7, .inl (cy, 256, .inl (fun _ => 0)))] := hD
  refine va_putF (D := (dC, dI)) (ci := 1) (v := .ref q7) (ty := (.array .int)) (C := RX1) (T := TX1) (N := 11) hx hb hts (by decide +kernel) tyX1 tyX1_ok nmX1 hown hK hP hD hS 0 rfl rfl 7 (by decide) (hts (.fieldLink RX1 26 "GiftLotsModel" "put" "[I") (by decide +kernel)) (fun _ h9 => h9) rfl hin rfl (by decide +kernel) rfl rfl (Nat.le_of_ble_eq_true rfl) dX1_init_44 (fun H locs hP hD hS => ?_)
  have hP : va_P (dC, dI) vwCl [(h, .inr (1, [.int 4, .int 2, .ref q2, .ref q3, .int 0, .int 0, .ref q6, .ref q7, .int 0, .int 0, .null])), (q2, .inl (cy, 8, .inl (fun _ => 0))), (q3, .inl (cy, 8, .inl (fun _ => 0))), (q6, .inl (cy, 8, .inl (fun _ => 0))), (q7, .inl (cy, 256, .inl (fun _ => 0)))] H := hP
  have hD : va_D A [(h, .inr (1, [.int 4, .int 2, .ref q2, .ref q3, .int 0, .int 0, .ref q6, .ref q7, .int 0, .int 0, .null])), (q2, .inl (cy, 8, .inl (fun _ => 0))), (q3, .inl (cy, 8, .inl (fun _ => 0))), (q6, .inl (cy, 8, .inl (fun _ => 0))), (q7, .inl (cy, 256, .inl (fun _ => 0)))] := hD
  refine lv_aload_n hx hb dX1_init_47 rfl (lv_at hl 0 rfl) ?_
  refine lv_bipush (v := (8 : Int32)) hx hb dX1_init_48 (by decide) ?_
  refine va_newa (atype := .int) (ty := .int) (N' := 8) (a0 := (8, .inl (fun _ => 0))) hx hb (hts (.arrayClass .int) (by decide +kernel)) rfl hK hP hD hS hA (fun _ => rfl) (by decide) rfl (by decide) (Nat.le_of_ble_eq_true rfl) (Nat.le_of_ble_eq_true rfl) dX1_init_50 (fun q10 cy10 H hK hP hD hS => ?_)
  obtain rfl : cy = cy10 := by
    have e1 : s.vm.findClass ("[" ++ FieldType.int.toString) = some cy := (hK.2 0 _ rfl).2
    have e2 : s.vm.findClass ("[" ++ FieldType.int.toString) = some cy10 := (hK.2 1 _ rfl).2
    exact Option.some.inj (e1.symm.trans e2)
  have hK := hK.sub (tys' := [(cy, .int)]) [0] rfl
  have hP : va_P (dC, dI) vwCl [(h, .inr (1, [.int 4, .int 2, .ref q2, .ref q3, .int 0, .int 0, .ref q6, .ref q7, .int 0, .int 0, .null])), (q2, .inl (cy, 8, .inl (fun _ => 0))), (q3, .inl (cy, 8, .inl (fun _ => 0))), (q6, .inl (cy, 8, .inl (fun _ => 0))), (q7, .inl (cy, 256, .inl (fun _ => 0))), (q10, .inl (cy, 8, .inl (fun _ => 0)))] H := hP
  have hD : va_D A [(h, .inr (1, [.int 4, .int 2, .ref q2, .ref q3, .int 0, .int 0, .ref q6, .ref q7, .int 0, .int 0, .null])), (q2, .inl (cy, 8, .inl (fun _ => 0))), (q3, .inl (cy, 8, .inl (fun _ => 0))), (q6, .inl (cy, 8, .inl (fun _ => 0))), (q7, .inl (cy, 256, .inl (fun _ => 0))), (q10, .inl (cy, 8, .inl (fun _ => 0)))] := hD
  refine va_putF (D := (dC, dI)) (ci := 1) (v := .ref q10) (ty := (.array .int)) (C := RX1) (T := TX1) (N := 11) hx hb hts (by decide +kernel) tyX1 tyX1_ok nmX1 hown hK hP hD hS 0 rfl rfl 10 (by decide) (hts (.fieldLink RX1 29 "GiftLotsModel" "first" "[I") (by decide +kernel)) (fun _ h9 => h9) rfl hin rfl (by decide +kernel) rfl rfl (Nat.le_of_ble_eq_true rfl) dX1_init_52 (fun H locs hP hD hS => ?_)
  have hP : va_P (dC, dI) vwCl [(h, .inr (1, [.int 4, .int 2, .ref q2, .ref q3, .int 0, .int 0, .ref q6, .ref q7, .int 0, .int 0, .ref q10])), (q2, .inl (cy, 8, .inl (fun _ => 0))), (q3, .inl (cy, 8, .inl (fun _ => 0))), (q6, .inl (cy, 8, .inl (fun _ => 0))), (q7, .inl (cy, 256, .inl (fun _ => 0))), (q10, .inl (cy, 8, .inl (fun _ => 0)))] H := hP
  have hD : va_D A [(h, .inr (1, [.int 4, .int 2, .ref q2, .ref q3, .int 0, .int 0, .ref q6, .ref q7, .int 0, .int 0, .ref q10])), (q2, .inl (cy, 8, .inl (fun _ => 0))), (q3, .inl (cy, 8, .inl (fun _ => 0))), (q6, .inl (cy, 8, .inl (fun _ => 0))), (q7, .inl (cy, 256, .inl (fun _ => 0))), (q10, .inl (cy, 8, .inl (fun _ => 0)))] := hD
  refine lv_aload_n hx hb dX1_init_55 rfl (lv_at hl 0 rfl) ?_
  have hPc := hP.sub (ws' := (wX1 cy h q2 q3 q6 q7 q10 4 2 (fun _ => 0) (fun _ => 0) 0 0 (fun _ => 0) (fun _ => 0) 0 0 (fun _ => 0))) [0, 1, 2, 3, 4, 5] rfl
  have hDc := hD.sub (ws' := (wX1 cy h q2 q3 q6 q7 q10 4 2 (fun _ => 0) (fun _ => 0) 0 0 (fun _ => 0) (fun _ => 0) 0 0 (fun _ => 0))) [0, 1, 2, 3, 4, 5] (by decide) rfl
  have hKc := hK.sub (tys' := [(cy, .int)]) [0] rfl
  have hFc := va_free (wc := (wX1 cy h q2 q3 q6 q7 q10 4 2 (fun _ => 0) (fun _ => 0) 0 0 (fun _ => 0) (fun _ => 0) 0 0 (fun _ => 0))) hD hS hA [0, 1, 2, 3, 4, 5] rfl
  refine va_callv (va_runV (As := []) (rest := []) ⟨hx, hb, hml, hown, hts⟩ (c_X1_begin N l dC dI cy h q2 q3 q6 q7 q10 H.size 4 2 (fun _ => 0) (fun _ => 0) 0 0 (fun _ => 0) (fun _ => 0) 0 0 (fun _ => 0)  res hf) (cwV 0 hts gX1_init_X1_begin rfl rfl rfl (by decide +kernel) ⟨Nat.le_of_ble_eq_true rfl, Nat.le_of_ble_eq_true rfl⟩) ⟨fun a U g mk q => by obtain ⟨q0, q1, qP, qK, qD⟩ := q; exact ⟨q0, q1, qP, va_K.moved (u := U) (U := U.calling g mk a) (Vm.Alike.refl U.vm) qK, qD⟩, va_recv hKc hPc (ci := 1) (q0 := 0) rfl rfl, fun U hU hW => ⟨rfl, by rw [hU], by rw [hU]; exact hPc, va_K.moved hW.alike hKc, hDc.weaken (fun _ _ _ _ => trivial)⟩⟩ rfl rfl hl.1 rfl (lv_room (Nat.le_of_ble_eq_true rfl)) dX1_init_56 ⟨Nat.le_of_ble_eq_true rfl, Nat.le_of_ble_eq_true rfl⟩) hS (fun q _ h => hFc q h) hFc (fun uu_ t H1 locs ht hvm hw hB hz1 hk1 hS => ?_)
  obtain ⟨hP1, -, hD1⟩ := hB
  rw [ht] at hP1
  obtain ⟨hP, hD⟩ := va_join (wr := []) (w1 := (wX1 cy h q2 q3 q6 q7 q10 4 res.1 res.2.1 res.2.2 0 0 (fun _ => 0) (fun _ => 0) 0 0 (fun _ => 0))) hP hD [0, 1, 2, 3, 4, 5] [] rfl rfl (by decide) (by decide) hk1 hFc hP1 hD1
  generalize H1 = H at hP hS ⊢
  have hP : va_P (dC, dI) vwCl (wX1 cy h q2 q3 q6 q7 q10 4 res.1 res.2.1 res.2.2 0 0 (fun _ => 0) (fun _ => 0) 0 0 (fun _ => 0)) H := hP
  have hD : va_D A (wX1 cy h q2 q3 q6 q7 q10 4 res.1 res.2.1 res.2.2 0 0 (fun _ => 0) (fun _ => 0) 0 0 (fun _ => 0)) := hD
  exact W.vret hx hb hr (fun t ht hW => ⟨⟨(), rfl, trivial, cy, q2, q3, q6, q7, q10, by rw [ht]; exact hP, va_K.moved hW.alike hK, hD⟩, hS.F ht⟩) hS.2.2 dX1_init_59

