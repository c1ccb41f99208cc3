/-! the words of the pictures: guards, worlds, ends; the two methods of the JDK -/
def z_gx {α : Type} (i : Int32) (n : Nat) (k : Option α) : Option α := if (¬ (i < 0 ∨ n ≤ i.toNatClampNeg)) then k else none
theorem z_gx_some {α : Type} {i : Int32} {n : Nat} {k : Option α} {r : α} (h : z_gx i n k = some r) : vp_in i n ∧ k = some r := by
  unfold z_gx at h
  by_cases c : ¬ (i < 0 ∨ n ≤ i.toNatClampNeg)
  · rw [if_pos c] at h
    exact ⟨c, h⟩
  · rw [if_neg c] at h
    cases h
theorem z_gx_in {α : Type} {i : Int32} {n : Nat} {k : Option α} (h : vp_in i n) : z_gx i n k = k := if_pos h
def z_gb {α : Type} (v : Int32) (k : Option α) : Option α := if (v = 0 ∨ v = 1) then k else none
theorem z_gb_some {α : Type} {v : Int32} {k : Option α} {r : α} (h : z_gb v k = some r) : (v = 0 ∨ v = 1) ∧ k = some r := by
  unfold z_gb at h
  by_cases c : v = 0 ∨ v = 1
  · rw [if_pos c] at h
    exact ⟨c, h⟩
  · rw [if_neg c] at h
    cases h
theorem z_gb_in {α : Type} {v : Int32} {k : Option α} (h : v = 0 ∨ v = 1) : z_gb v k = k := if_pos h
theorem z_gb_nar {v : Int32} (h : v = 0 ∨ v = 1) : narrow .boolean (.int v) = .int v := by
  rcases h with rfl | rfl <;> rfl
theorem z_gb_fit {v : Int32} (h : v = 0 ∨ v = 1) : fits .boolean (.int v) = true := by
  rcases h with rfl | rfl <;> rfl
def z_gc {α : Type} (i : Int32) (n : Nat) (k : Option α) : Option α := if (¬ i < 0 ∧ i.toNatClampNeg ≤ n) then k else none
theorem z_gc_some {α : Type} {i : Int32} {n : Nat} {k : Option α} {r : α} (h : z_gc i n k = some r) : ¬ i < 0 ∧ i.toNatClampNeg ≤ n ∧ k = some r := by
  unfold z_gc at h
  by_cases c : ¬ i < 0 ∧ i.toNatClampNeg ≤ n
  · rw [if_pos c] at h
    exact ⟨c.1, c.2, h⟩
  · rw [if_neg c] at h
    cases h
theorem z_gc_in {α : Type} {i : Int32} {n : Nat} {k : Option α} (h : ¬ i < 0 ∧ i.toNatClampNeg ≤ n) : z_gc i n k = k := if_pos h
theorem z_gc_le {i : Int32} {n : Nat} (h : i.toNatClampNeg ≤ n) : (0 : Int32).toNatClampNeg + i.toNatClampNeg ≤ n := by
  rw [sb_cl0]
  omega
theorem z_ob_some {α β : Type} {x : Option α} {k : α → Option β} {r : β} (h : Option.bind x k = some r) : ∃ u : α, x = some u ∧ k u = some r := by
  cases x with
  | none => cases h
  | some u => exact ⟨u, rfl, h⟩
def z_fl (n : Nat) (f : Nat → Int32) (v : Int32) : Nat → Int32 := fun j => if j < n then v else f j
abbrev z_qI (dC : Nat → ClassId) (dI : Nat → Nat → Nat) (cy : ClassId) (r0 : Int32) (w : va_W) (A : Nat → Prop) : Array Value → State → Outcome → State → Prop := va_Qi (fun (r : Int32) (_ : Unit) => r = r0) (fun _ t => va_P (dC, dI) vwCl w t.heap ∧ va_K (dC, dI) vwCl [(cy, .int)] t ∧ va_D A w) A
abbrev z_qV (dC : Nat → ClassId) (dI : Nat → Nat → Nat) (cy : ClassId) (w : va_W) (A : Nat → Prop) : Array Value → State → Outcome → State → Prop := va_Qv (fun (_ : Unit) => True) (fun _ t => va_P (dC, dI) vwCl w t.heap ∧ va_K (dC, dI) vwCl [(cy, .int)] t ∧ va_D A w) A
/-- the cells of a GiftLots -/
abbrev wX0 (cy : ClassId) (h q2 q3 q4 q5 q6 q7 q8 q9 : Nat) (c0 c1 : Int32) (c2 c3 c4 c5 c6 c7 c8 c9 : Nat → Int32) (c10 c11 : Int32) : va_W := [(h, .inr (0, [.int c0, .int c1, .ref q2, .ref q3, .ref q4, .ref q5, .ref q6, .ref q7, .ref q8, .ref q9, .int c10, .int c11])), (q2, .inl (cy, 8, .inl c2)), (q3, .inl (cy, 8, .inl c3)), (q4, .inl (cy, 8, .inl c4)), (q5, .inl (cy, 2048, .inl c5)), (q6, .inl (cy, 256, .inl c6)), (q7, .inl (cy, 256, .inl c7)), (q8, .inl (cy, 8, .inl c8)), (q9, .inl (cy, 8, .inl c9))]
/-- the cells of a GiftLotsModel -/
abbrev wX1 (cy : ClassId) (h q2 q3 q6 q7 q10 : Nat) (c0 c1 : Int32) (c2 c3 : Nat → Int32) (c4 c5 : Int32) (c6 c7 : Nat → Int32) (c8 c9 : Int32) (c10 : Nat → Int32) : va_W := [(h, .inr (1, [.int c0, .int c1, .ref q2, .ref q3, .int c4, .int c5, .ref q6, .ref q7, .int c8, .int c9, .ref q10])), (q2, .inl (cy, 8, .inl c2)), (q3, .inl (cy, 8, .inl c3)), (q6, .inl (cy, 8, .inl c6)), (q7, .inl (cy, 256, .inl c7)), (q10, .inl (cy, 8, .inl c10))]
theorem z_sw3 {x : Int32} (h0 : ¬ x = 0) (h1 : ¬ x = 1) (h2 : ¬ x = 2) (h3 : ¬ x = 3) : x.toInt < 0 ∨ 3 < x.toInt := by
  by_cases c : x.toInt < 0
  · exact Or.inl c
  · refine Or.inr (Int.not_le.mp fun c2 => ?_)
    obtain ⟨j, hj, rfl⟩ := nI_of2 (x := x) (M := 3) (n := 3) rfl (by rw [Int32.lt_iff_toInt_lt]; exact c) (by rw [Int32.le_iff_toInt_le]; exact c2)
    rcases (show j = 0 ∨ j = 1 ∨ j = 2 ∨ j = 3 by omega) with rfl | rfl | rfl | rfl
    · exact h0 rfl
    · exact h1 rfl
    · exact h2 rfl
    · exact h3 rfl
def z_us (x y : Int32) : Int32 := (x.toUInt32 >>> (y.toUInt32 &&& Int32.toUInt32 31)).toInt32
def z_b1 (x : Int32) : Int32 := x - ((z_us x 1) &&& 1431655765)
def z_b2 (x : Int32) : Int32 := (x &&& 858993459) + ((z_us x 2) &&& 858993459)
def z_b3 (x : Int32) : Int32 := (x + z_us x 4) &&& 252645135
def z_b4 (x : Int32) : Int32 := x + z_us x 8
def z_b5 (x : Int32) : Int32 := x + z_us x 16
def z_bc (x : Int32) : Int32 := z_b5 (z_b4 (z_b3 (z_b2 (z_b1 x)))) &&& 63
def z_bitCount (x : Int32) : Option Int32 := some (z_bc x)
abbrev rm_jdk : Room := { frames := 0, cells := 0, slots := 0, locals := 0 }
set_option maxHeartbeats 4000000 in
set_option maxRecDepth 100000 in
theorem c_bitCount (l : Launch) (dC : Nat → ClassId) (dI : Nat → Nat → Nat) (cy : ClassId) (sz : Nat) (x0 : Int32) (res : Int32) (hf : z_bitCount x0 = some res) : Met l yJ6_bitCount_0f7a4 wsJ6_bitCount_0f7a4 rm_jdk (va_Pc [.int x0] (fun U => U.heap.size = sz ∧ va_P (dC, dI) vwCl ([] : va_W) U.heap ∧ va_K (dC, dI) vwCl [(cy, .int)] U ∧ va_D (fun _ => True) ([] : va_W))) (z_qI dC dI cy res ([] : va_W) (va_A ([] : va_W) sz)) 0 0 (va_A ([] : va_W) sz) := by
  refine Met.ofW (cc := cJ6_bitCount_0f7a4) (maxL := 1) (ret := (some .int)) (by decide) rfl ?_
  intro p e s m args below meth c s₁ B hml hv
  obtain ⟨rfl, hsz, hP, hK, hD0⟩ := hv
  have hx := B.exec
  have hb := B.bytes
  have hr := B.returns
  have hts := atoms_spec (ws := wsJ6_bitCount_0f7a4) B.pre
  have hown : s.vm.findClass RJ6 = some m.cls := findClass_of_methodNamed B.named
  have hlocks := B.notSynchronized
  subst hsz
  have hD := hD0.self (sz := s.heap.size)
  generalize hAe : va_A ([] : va_W) s.heap.size = A at hD ⊢
  have hA : ∀ q : Nat, s.heap.size ≤ q → A q := fun q h => by rw [← hAe]; exact Or.inr h
  have hS : va_S A s.heap s.heap [] := va_S.rf
  have hl := lv_entry ([.int x0]) (n := 1) (Nat.le_of_ble_eq_true rfl)
  rw [lg_entry_eq]
  generalize (lg_sl ([.int x0]) ++ List.replicate (1 - (lg_sl ([.int x0])).length) Slot.unset).toArray = ls at hl ⊢
  have hl : lv_has ls 1 [(0, .int x0)] := hl
  refine lv_iload_n hx hb dJ6_bitCount_0f7a4_0 rfl (lv_at hl 0 rfl) ?_
  refine lv_iload_n hx hb dJ6_bitCount_0f7a4_1 rfl (lv_at hl 0 rfl) ?_
  refine lv_iconst (v := 1) hx hb dJ6_bitCount_0f7a4_2 (by decide) ?_
  refine lv_iushr (v := z_us x0 1) hx hb dJ6_bitCount_0f7a4_3 rfl ?_
  refine lv_ldcw hx hb hown (hts (.constant RJ6 265 (1431655765)) (by decide +kernel)) dJ6_bitCount_0f7a4_4 ?_
  refine lv_iand hx hb dJ6_bitCount_0f7a4_7 ?_
  refine lv_isub hx hb dJ6_bitCount_0f7a4_8 ?_
  refine lv_topi (fun y1 e1 => ?_)
  refine lv_istore_n (lv' := [(0, .int y1)]) hx hb dJ6_bitCount_0f7a4_9 rfl hl (by decide) rfl (fun ls hl => ?_)
  refine lv_iload_n hx hb dJ6_bitCount_0f7a4_10 rfl (lv_at hl 0 rfl) ?_
  refine lv_ldcw hx hb hown (hts (.constant RJ6 266 (858993459)) (by decide +kernel)) dJ6_bitCount_0f7a4_11 ?_
  refine lv_iand hx hb dJ6_bitCount_0f7a4_14 ?_
  refine lv_iload_n hx hb dJ6_bitCount_0f7a4_15 rfl (lv_at hl 0 rfl) ?_
  refine lv_iconst (v := 2) hx hb dJ6_bitCount_0f7a4_16 (by decide) ?_
  refine lv_iushr (v := z_us y1 2) hx hb dJ6_bitCount_0f7a4_17 rfl ?_
  refine lv_ldcw hx hb hown (hts (.constant RJ6 266 (858993459)) (by decide +kernel)) dJ6_bitCount_0f7a4_18 ?_
  refine lv_iand hx hb dJ6_bitCount_0f7a4_21 ?_
  refine lv_iadd hx hb dJ6_bitCount_0f7a4_22 ?_
  refine lv_topi (fun y2 e2 => ?_)
  refine lv_istore_n (lv' := [(0, .int y2)]) hx hb dJ6_bitCount_0f7a4_23 rfl hl (by decide) rfl (fun ls hl => ?_)
  refine lv_iload_n hx hb dJ6_bitCount_0f7a4_24 rfl (lv_at hl 0 rfl) ?_
  refine lv_iload_n hx hb dJ6_bitCount_0f7a4_25 rfl (lv_at hl 0 rfl) ?_
  refine lv_iconst (v := 4) hx hb dJ6_bitCount_0f7a4_26 (by decide) ?_
  refine lv_iushr (v := z_us y2 4) hx hb dJ6_bitCount_0f7a4_27 rfl ?_
  refine lv_iadd hx hb dJ6_bitCount_0f7a4_28 ?_
  refine lv_ldcw hx hb hown (hts (.constant RJ6 267 (252645135)) (by decide +kernel)) dJ6_bitCount_0f7a4_29 ?_
  refine lv_iand hx hb dJ6_bitCount_0f7a4_32 ?_
  refine lv_topi (fun y3 e3 => ?_)
  refine lv_istore_n (lv' := [(0, .int y3)]) hx hb dJ6_bitCount_0f7a4_33 rfl hl (by decide) rfl (fun ls hl => ?_)
  refine lv_iload_n hx hb dJ6_bitCount_0f7a4_34 rfl (lv_at hl 0 rfl) ?_
  refine lv_iload_n hx hb dJ6_bitCount_0f7a4_35 rfl (lv_at hl 0 rfl) ?_
  refine lv_bipush (v := 8) hx hb dJ6_bitCount_0f7a4_36 (by decide) ?_
  refine lv_iushr (v := z_us y3 8) hx hb dJ6_bitCount_0f7a4_38 rfl ?_
  refine lv_iadd hx hb dJ6_bitCount_0f7a4_39 ?_
  refine lv_topi (fun y4 e4 => ?_)
  refine lv_istore_n (lv' := [(0, .int y4)]) hx hb dJ6_bitCount_0f7a4_40 rfl hl (by decide) rfl (fun ls hl => ?_)
  refine lv_iload_n hx hb dJ6_bitCount_0f7a4_41 rfl (lv_at hl 0 rfl) ?_
  refine lv_iload_n hx hb dJ6_bitCount_0f7a4_42 rfl (lv_at hl 0 rfl) ?_
  refine lv_bipush (v := 16) hx hb dJ6_bitCount_0f7a4_43 (by decide) ?_
  refine lv_iushr (v := z_us y4 16) hx hb dJ6_bitCount_0f7a4_45 rfl ?_
  refine lv_iadd hx hb dJ6_bitCount_0f7a4_46 ?_
  refine lv_topi (fun y5 e5 => ?_)
  refine lv_istore_n (lv' := [(0, .int y5)]) hx hb dJ6_bitCount_0f7a4_47 rfl hl (by decide) rfl (fun ls hl => ?_)
  refine lv_iload_n hx hb dJ6_bitCount_0f7a4_48 rfl (lv_at hl 0 rfl) ?_
  refine lv_bipush (v := 63) hx hb dJ6_bitCount_0f7a4_49 (by decide) ?_
  refine lv_iand hx hb dJ6_bitCount_0f7a4_51 ?_
  have hres := Option.some.inj hf
  have hP9 := hP.sub (ws' := ([] : va_W)) [] rfl
  have hD9 := hD.sub (ws' := ([] : va_W)) [] (by decide) rfl
  have hK9 := hK.sub (tys' := [(cy, .int)]) [0] rfl
  exact W.iret (v := y5 &&& 63) hx hb hr (fun t ht hW => ⟨⟨y5 &&& 63, (), rfl, by rw [← hres, e5, e4, e3, e2, e1]; rfl, by rw [ht]; exact hP9, va_K.moved hW.alike hK9, hD9⟩, hS.F ht⟩) hS.2.2 dJ6_bitCount_0f7a4_52
theorem z_fl_step (k : Nat) (f : Nat → Int32) (v : Int32) (hk : k < 2 ^ 31) : upd (z_fl k f v) (nI k).toNatClampNeg v = z_fl (k + 1) f v := by
  rw [nI_clamp hk]
  funext j
  by_cases e : j = k
  · subst e
    rw [pk_us]
    exact (if_pos (Nat.lt_succ_self j)).symm
  · rw [pk_un e]
    show (if j < k then v else f j) = (if j < k + 1 then v else f j)
    by_cases c : j < k
    · rw [if_pos c, if_pos (by omega)]
    · rw [if_neg c, if_neg (by omega)]
theorem z_fl_0 (f : Nat → Int32) (v : Int32) : z_fl 0 f v = f := by
  funext j
  exact if_neg (Nat.not_lt_zero j)
set_option maxHeartbeats 4000000 in
set_option maxRecDepth 100000 in
theorem c_fill (l : Launch) (dC : Nat → ClassId) (dI : Nat → Nat → Nat) (cy : ClassId) (q0 n : Nat) (hn : n < 2 ^ 31) (sz : Nat) (f : Nat → Int32) (v : Int32) : Met l yJ7_fill_53178 wsJ7_fill_53178 rm_jdk (va_Pc [.ref q0, .int v] (fun U => U.heap.size = sz ∧ va_P (dC, dI) vwCl [(q0, .inl (cy, n, .inl f))] U.heap ∧ va_K (dC, dI) vwCl [(cy, .int)] U ∧ va_D (fun _ => True) [(q0, .inl (cy, n, .inl f))])) (z_qV dC dI cy [(q0, .inl (cy, n, .inl (z_fl n f v)))] (va_A [(q0, .inl (cy, n, .inl f))] sz)) 0 0 (va_A [(q0, .inl (cy, n, .inl f))] sz) := by
  refine Met.ofW (cc := cJ7_fill_53178) (maxL := 4) (ret := none) (by decide) rfl ?_
  intro p e s m args below meth c s₁ B hml hv
  obtain ⟨rfl, hsz, hP, hK, hD0⟩ := hv
  have hx := B.exec
  have hb := B.bytes
  have hr := B.returns
  have hts := atoms_spec (ws := wsJ7_fill_53178) B.pre
  have hown : s.vm.findClass RJ7 = some m.cls := findClass_of_methodNamed B.named
  have hlocks := B.notSynchronized
  subst hsz
  have hD := hD0.self (sz := s.heap.size)
  generalize hAe : va_A [(q0, .inl (cy, n, .inl f))] s.heap.size = A at hD ⊢
  have hA : ∀ q : Nat, s.heap.size ≤ q → A q := fun q h => by rw [← hAe]; exact Or.inr h
  have hS : va_S A s.heap s.heap [] := va_S.rf
  have hP : va_P (dC, dI) vwCl [(q0, .inl (cy, n, .inl f))] s.heap := hP
  have hl := lv_entry ([.ref q0, .int v]) (n := 4) (Nat.le_of_ble_eq_true rfl)
  rw [lg_entry_eq]
  generalize (lg_sl ([.ref q0, .int v]) ++ List.replicate (4 - (lg_sl ([.ref q0, .int v])).length) Slot.unset).toArray = ls at hl ⊢
  have hl : lv_has ls 4 [(0, .ref q0), (1, .int v)] := hl
  have B5 : ∀ (d k : Nat), k + d = n → ∀ (H : Heap) (locs : List Loc) (ls : Array Slot), va_P (dC, dI) vwCl [(q0, .inl (cy, n, .inl (z_fl k f v)))] H → va_D A [(q0, .inl (cy, n, .inl (z_fl k f v)))] → va_S A s.heap H locs → lv_has ls 4 [(0, .ref q0), (1, .int v), (2, .int (nI k)), (3, .int (nI n))] → W p l e rm_jdk s m ([.ref q0, .int v] : List Value).toArray below meth c H locs 0 0 (MQ below (z_qV dC dI cy [(q0, .inl (cy, n, .inl (z_fl n f v)))] A) ([.ref q0, .int v] : List Value).toArray s 0 0 A) (F0 m 5 ls []) := by
    clear hl hP hD hS
    intro d
    induction d with
    | zero =>
      intro k hk H locs ls hP hD hS hl
      obtain rfl : k = n := by omega
      refine lv_iload_n hx hb dJ7_fill_53178_5 rfl (lv_at hl 2 rfl) ?_
      refine lv_iload_n hx hb dJ7_fill_53178_6 rfl (lv_at hl 3 rfl) ?_
      refine lv_icmp_ge (tgt := 20) hx hb dJ7_fill_53178_7 (by decide) (fun c_7 => ?_) (fun c_7 => ?_)
      · have hK9 := hK.sub (tys' := [(cy, .int)]) [0] rfl
        exact W.vret hx hb hr (fun t ht hW => ⟨⟨(), rfl, trivial, by rw [ht]; exact hP, va_K.moved hW.alike hK9, hD⟩, hS.F ht⟩) hS.2.2 dJ7_fill_53178_20
      · exact absurd (nI_le (Nat.le_refl k) hn) c_7
    | succ d ih =>
      intro k hk H locs ls hP hD hS hl
      refine lv_iload_n hx hb dJ7_fill_53178_5 rfl (lv_at hl 2 rfl) ?_
      refine lv_iload_n hx hb dJ7_fill_53178_6 rfl (lv_at hl 3 rfl) ?_
      refine lv_icmp_ge (tgt := 20) hx hb dJ7_fill_53178_7 (by decide) (fun c_7 => ?_) (fun c_7 => ?_)
      · exact absurd c_7 (nI_ge (show k < n by omega) hn)
      · refine lv_aload_n hx hb dJ7_fill_53178_10 rfl (lv_at hl 0 rfl) ?_
        refine lv_iload_n hx hb dJ7_fill_53178_11 rfl (lv_at hl 2 rfl) ?_
        refine lv_iload_n hx hb dJ7_fill_53178_12 rfl (lv_at hl 1 rfl) ?_
        refine va_iast hx hb hK hP hD hS 0 0 rfl rfl (vp_in_nI (show k < n by omega) hn) dJ7_fill_53178_13 (fun H locs hP hD hS => ?_)
        rw [z_fl_step k f v (by omega)] at hP hD
        refine lv_iinc (v := nI (k + 1)) (lv' := [(2, .int (nI (k + 1))), (0, .ref q0), (1, .int v), (3, .int (nI n))]) hx hb dJ7_fill_53178_14 hl (k := 2) rfl (nI_1 k) (by decide) rfl (fun ls hl => ?_)
        refine lv_goto (tgt := 5) hx hb dJ7_fill_53178_17 (by decide) ?_
        exact ih (k + 1) (by omega) _ _ _ hP hD hS (lv_sub hl [1, 2, 0, 3] rfl)
  refine lv_iconst (v := 0) hx hb dJ7_fill_53178_0 (by decide) ?_
  refine lv_istore_n (lv' := [(2, .int 0), (0, .ref q0), (1, .int v)]) hx hb dJ7_fill_53178_1 rfl hl (by decide) rfl (fun ls hl => ?_)
  refine lv_aload_n hx hb dJ7_fill_53178_2 rfl (lv_at hl 1 rfl) ?_
  refine va_alen hx hb hK hP 0 0 rfl rfl (v := nI n) rfl dJ7_fill_53178_3 ?_
  refine lv_istore_n (lv' := [(3, .int (nI n)), (2, .int 0), (0, .ref q0), (1, .int v)]) hx hb dJ7_fill_53178_4 rfl hl (by decide) rfl (fun ls hl => ?_)
  exact B5 n 0 (by omega) _ _ _ (by rw [z_fl_0]; exact hP) (by rw [z_fl_0]; exact hD) hS (lv_sub hl [2, 3, 1, 0] rfl)
