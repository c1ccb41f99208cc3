set_option maxHeartbeats 4000000 in
set_option maxRecDepth 100000 in
theorem lk_ones {p : Program} {l : Launch} {e : Env} {s : State} {m : MethodId} {below : List Frame} {meth : Method} {c : Code} {dC : Nat → ClassId} {dI : Nat → Nat → Nat} {b L : Nat} {xs : Nat → Int32} (hL : L ≤ 2048) (C0 : lw_At p s m meth c b L xs) {R : z_XS → z_MS → Prop} (hop : zo_ones R) (cy : ClassId) (hK : va_K (dC, dI) vwCl [(cy, .int)] s) (h q2 q3 q4 q5 q6 q7 q8 q9 g p2 p3 p6 p7 p10 : Nat) (a : Nat) (ha : a + 4 ≤ L) (hnext : ∀ (c0 : Int32) (c1 : Int32) (c2 : Nat → Int32) (c3 : Nat → Int32) (c4 : Nat → Int32) (c5 : Nat → Int32) (c6 : Nat → Int32) (c7 : Nat → Int32) (c8 : Nat → Int32) (c9 : Nat → Int32) (c10 : Int32) (c11 : Int32) (d0 : Int32) (d1 : Int32) (d2 : Nat → Int32) (d3 : Nat → Int32) (d4 : Int32) (d5 : Int32) (d6 : Nat → Int32) (d7 : Nat → Int32) (d8 : Int32) (d9 : Int32) (d10 : Nat → Int32), R (c0, c1, c2, c3, c4, c5, c6, c7, c8, c9, c10, c11) (d0, d1, d2, d3, d4, d5, d6, d7, d8, d9, d10) → ∀ (H : Heap) (locs : List Loc) (ls : Array Slot), va_P (dC, dI) vwCl ((wX0 cy h q2 q3 q4 q5 q6 q7 q8 q9 c0 c1 c2 c3 c4 c5 c6 c7 c8 c9 c10 c11) ++ (wX1 cy g p2 p3 p6 p7 p10 d0 d1 d2 d3 d4 d5 d6 d7 d8 d9 d10)) H → va_D (fun q : Nat => s.heap.size ≤ q) ((wX0 cy h q2 q3 q4 q5 q6 q7 q8 q9 c0 c1 c2 c3 c4 c5 c6 c7 c8 c9 c10 c11) ++ (wX1 cy g p2 p3 p6 p7 p10 d0 d1 d2 d3 d4 d5 d6 d7 d8 d9 d10)) → va_S (fun q : Nat => s.heap.size ≤ q) s.heap H locs → lv_has ls 4 [(0, .ref b), (1, .ref h), (2, .ref g), (3, .int (nI a))] → W p l e room_1 s m #[Value.ref b] below meth c H locs 15 2911 (lw_Z below #[Value.ref b] s) (F0 m 725 ls [])) : ∀ (c0 : Int32) (c1 : Int32) (c2 : Nat → Int32) (c3 : Nat → Int32) (c4 : Nat → Int32) (c5 : Nat → Int32) (c6 : Nat → Int32) (c7 : Nat → Int32) (c8 : Nat → Int32) (c9 : Nat → Int32) (c10 : Int32) (c11 : Int32) (d0 : Int32) (d1 : Int32) (d2 : Nat → Int32) (d3 : Nat → Int32) (d4 : Int32) (d5 : Int32) (d6 : Nat → Int32) (d7 : Nat → Int32) (d8 : Int32) (d9 : Int32) (d10 : Nat → Int32) (hR : R (c0, c1, c2, c3, c4, c5, c6, c7, c8, c9, c10, c11) (d0, d1, d2, d3, d4, d5, d6, d7, d8, d9, d10)) (H : Heap) (locs : List Loc) (ls : Array Slot) (hP : va_P (dC, dI) vwCl ((wX0 cy h q2 q3 q4 q5 q6 q7 q8 q9 c0 c1 c2 c3 c4 c5 c6 c7 c8 c9 c10 c11) ++ (wX1 cy g p2 p3 p6 p7 p10 d0 d1 d2 d3 d4 d5 d6 d7 d8 d9 d10)) H) (hD : va_D (fun q : Nat => s.heap.size ≤ q) ((wX0 cy h q2 q3 q4 q5 q6 q7 q8 q9 c0 c1 c2 c3 c4 c5 c6 c7 c8 c9 c10 c11) ++ (wX1 cy g p2 p3 p6 p7 p10 d0 d1 d2 d3 d4 d5 d6 d7 d8 d9 d10))) (hS : va_S (fun q : Nat => s.heap.size ≤ q) s.heap H locs) (hl : lv_has ls 4 [(0, .ref b), (1, .ref h), (2, .ref g), (3, .int (nI a))]), W p l e room_1 s m #[Value.ref b] below meth c H locs 15 2911 (lw_Z below #[Value.ref b] s) (F0 m 140 ls []) := by
  intro c0 c1 c2 c3 c4 c5 c6 c7 c8 c9 c10 c11 d0 d1 d2 d3 d4 d5 d6 d7 d8 d9 d10 hR H locs ls hP hD hS hl
  obtain ⟨hx, hb, hr, hml, hown, hts, hX, hbl, hlocks, hgv⟩ := C0
  have hts := fun w h => hts w (wsL_law_in w h)
  have hA : ∀ q : Nat, s.heap.size ≤ q → (fun q : Nat => s.heap.size ≤ q) q := fun _ h => h
  have hbA : ¬ (fun q : Nat => s.heap.size ≤ q) b := Nat.not_le.mpr hbl
  have hi1 : vp_in (nI a + (1 : Int32)) L := by rw [show nI a + (1 : Int32) = nI (a + 1) from nI_add a 1]; exact vp_in_nI (by omega) (by omega)
  have hi2 : vp_in (nI a + (2 : Int32)) L := by rw [show nI a + (2 : Int32) = nI (a + 2) from nI_add a 2]; exact vp_in_nI (by omega) (by omega)
  have hi3 : vp_in (nI a + (3 : Int32)) L := by rw [show nI a + (3 : Int32) = nI (a + 3) from nI_add a 3]; exact vp_in_nI (by omega) (by omega)
  refine lv_aload_n hx hb dL_law_140 rfl (lv_at hl 1 rfl) ?_
  refine lv_aload_n hx hb dL_law_141 rfl (lv_at hl 0 rfl) ?_
  refine lv_iload_n hx hb dL_law_142 rfl (lv_at hl 3 rfl) ?_
  refine lv_iconst (v := (1 : Int32)) hx hb dL_law_143 (by decide) ?_
  refine lv_iadd hx hb dL_law_144 ?_
  refine va_sld hx hb hX hbl hbA hS hi1 dL_law_145 ?_
  obtain ⟨N1, r1, N2, r2, hf1, hf2, he, hR2⟩ := hop c0 c1 c2 c3 c4 c5 c6 c7 c8 c9 c10 c11 d0 d1 d2 d3 d4 d5 d6 d7 d8 d9 d10 (xs ((nI a) + (1 : Int32)).toNatClampNeg) hR
  have hPc := hP.sub (ws' := (wX0 cy h q2 q3 q4 q5 q6 q7 q8 q9 c0 c1 c2 c3 c4 c5 c6 c7 c8 c9 c10 c11)) [0, 1, 2, 3, 4, 5, 6, 7, 8] rfl
  have hDc := hD.sub (ws' := (wX0 cy h q2 q3 q4 q5 q6 q7 q8 q9 c0 c1 c2 c3 c4 c5 c6 c7 c8 c9 c10 c11)) [0, 1, 2, 3, 4, 5, 6, 7, 8] (by decide) rfl
  have hKc := hK.sub (tys' := [(cy, .int)]) [0] rfl
  have hFc := va_free (wc := (wX0 cy h q2 q3 q4 q5 q6 q7 q8 q9 c0 c1 c2 c3 c4 c5 c6 c7 c8 c9 c10 c11)) hD hS hA [0, 1, 2, 3, 4, 5, 6, 7, 8] rfl
  refine va_calli (va_runV (As := [.int (xs ((nI a) + (1 : Int32)).toNatClampNeg)]) (rest := []) ⟨hx, hb, hml, hown, hts⟩ (c_X0_ones N1 l dC dI cy h q2 q3 q4 q5 q6 q7 q8 q9 H.size c0 c1 c2 c3 c4 c5 c6 c7 c8 c9 c10 c11 (xs ((nI a) + (1 : Int32)).toNatClampNeg) r1 hf1) (cwV 1 hts gL_law_X0_ones rfl rfl rfl (by decide +kernel) ⟨Nat.le_of_ble_eq_true rfl, Nat.le_of_ble_eq_true rfl⟩) ⟨fun a U g mk q => by obtain ⟨q0, q1, qP, qK, qD⟩ := q; exact ⟨q0, q1, qP, va_K.moved (u := U) (U := U.calling g mk a) (Vm.Alike.refl U.vm) qK, qD⟩, va_recv hKc hPc (ci := 0) (q0 := 0) rfl rfl, fun U hU hW => ⟨rfl, by rw [hU], by rw [hU]; exact hPc, va_K.moved hW.alike hKc, hDc.weaken (fun _ _ _ _ => trivial)⟩⟩ rfl rfl hl.1 rfl (lv_room (Nat.le_of_ble_eq_true rfl)) dL_law_146 ⟨Nat.le_of_ble_eq_true rfl, Nat.le_of_ble_eq_true rfl⟩) hS (fun q _ h => hFc q h) hFc (fun rr uu_ t H1 locs ht hvm hw hB hz1 hk1 hS => ?_)
  replace hw := hw.symm
  subst hw
  obtain ⟨hP1, -, hD1⟩ := hB
  rw [ht] at hP1
  obtain ⟨hP, hD⟩ := va_join (wr := (wX1 cy g p2 p3 p6 p7 p10 d0 d1 d2 d3 d4 d5 d6 d7 d8 d9 d10)) (w1 := (wX0 cy h q2 q3 q4 q5 q6 q7 q8 q9 r1.2.1 r1.2.2.1 r1.2.2.2.1 r1.2.2.2.2 c4 c5 c6 c7 c8 c9 c10 c11)) hP hD [0, 1, 2, 3, 4, 5, 6, 7, 8] [9, 10, 11, 12, 13, 14] rfl rfl (by decide) (by decide) hk1 hFc hP1 hD1
  clear hk1 hz1 hP1 hD1 ht hPc hDc hFc
  generalize H1 = H at hP hS ⊢
  have hP := hP.sub (ws' := ((wX0 cy h q2 q3 q4 q5 q6 q7 q8 q9 r1.2.1 r1.2.2.1 r1.2.2.2.1 r1.2.2.2.2 c4 c5 c6 c7 c8 c9 c10 c11) ++ (wX1 cy g p2 p3 p6 p7 p10 d0 d1 d2 d3 d4 d5 d6 d7 d8 d9 d10))) [6, 7, 8, 9, 10, 11, 12, 13, 14, 0, 1, 2, 3, 4, 5] rfl
  have hD := hD.sub (ws' := ((wX0 cy h q2 q3 q4 q5 q6 q7 q8 q9 r1.2.1 r1.2.2.1 r1.2.2.2.1 r1.2.2.2.2 c4 c5 c6 c7 c8 c9 c10 c11) ++ (wX1 cy g p2 p3 p6 p7 p10 d0 d1 d2 d3 d4 d5 d6 d7 d8 d9 d10))) [6, 7, 8, 9, 10, 11, 12, 13, 14, 0, 1, 2, 3, 4, 5] (by decide) rfl
  refine lv_aload_n hx hb dL_law_149 rfl (lv_at hl 2 rfl) ?_
  refine lv_aload_n hx hb dL_law_150 rfl (lv_at hl 0 rfl) ?_
  refine lv_iload_n hx hb dL_law_151 rfl (lv_at hl 3 rfl) ?_
  refine lv_iconst (v := (1 : Int32)) hx hb dL_law_152 (by decide) ?_
  refine lv_iadd hx hb dL_law_153 ?_
  refine va_sld hx hb hX hbl hbA hS hi1 dL_law_154 ?_
  have hPc := hP.sub (ws' := (wX1 cy g p2 p3 p6 p7 p10 d0 d1 d2 d3 d4 d5 d6 d7 d8 d9 d10)) [9, 10, 11, 12, 13, 14] rfl
  have hDc := hD.sub (ws' := (wX1 cy g p2 p3 p6 p7 p10 d0 d1 d2 d3 d4 d5 d6 d7 d8 d9 d10)) [9, 10, 11, 12, 13, 14] (by decide) rfl
  have hKc := hK.sub (tys' := [(cy, .int)]) [0] rfl
  have hFc := va_free (wc := (wX1 cy g p2 p3 p6 p7 p10 d0 d1 d2 d3 d4 d5 d6 d7 d8 d9 d10)) hD hS hA [9, 10, 11, 12, 13, 14] rfl
  refine va_calli (va_runV (As := [.int (xs ((nI a) + (1 : Int32)).toNatClampNeg)]) (rest := [.int r1.1]) ⟨hx, hb, hml, hown, hts⟩ (c_X1_ones N2 l dC dI cy g p2 p3 p6 p7 p10 H.size d0 d1 d2 d3 d4 d5 d6 d7 d8 d9 d10 (xs ((nI a) + (1 : Int32)).toNatClampNeg) r2 hf2) (cwV 1 hts gL_law_X1_ones rfl rfl rfl (by decide +kernel) ⟨Nat.le_of_ble_eq_true rfl, Nat.le_of_ble_eq_true rfl⟩) ⟨fun a U g mk q => by obtain ⟨q0, q1, qP, qK, qD⟩ := q; exact ⟨q0, q1, qP, va_K.moved (u := U) (U := U.calling g mk a) (Vm.Alike.refl U.vm) qK, qD⟩, va_recv hKc hPc (ci := 1) (q0 := 0) rfl rfl, fun U hU hW => ⟨rfl, by rw [hU], by rw [hU]; exact hPc, va_K.moved hW.alike hKc, hDc.weaken (fun _ _ _ _ => trivial)⟩⟩ rfl rfl hl.1 rfl (lv_room (Nat.le_of_ble_eq_true rfl)) dL_law_155 ⟨Nat.le_of_ble_eq_true rfl, Nat.le_of_ble_eq_true rfl⟩) hS (fun q _ h => hFc q h) hFc (fun rr uu_ t H1 locs ht hvm hw hB hz1 hk1 hS => ?_)
  replace hw := hw.symm
  subst hw
  obtain ⟨hP1, -, hD1⟩ := hB
  rw [ht] at hP1
  obtain ⟨hP, hD⟩ := va_join (wr := (wX0 cy h q2 q3 q4 q5 q6 q7 q8 q9 r1.2.1 r1.2.2.1 r1.2.2.2.1 r1.2.2.2.2 c4 c5 c6 c7 c8 c9 c10 c11)) (w1 := (wX1 cy g p2 p3 p6 p7 p10 r2.2.1 r2.2.2.1 r2.2.2.2.1 r2.2.2.2.2 d4 d5 d6 d7 d8 d9 d10)) hP hD [9, 10, 11, 12, 13, 14] [0, 1, 2, 3, 4, 5, 6, 7, 8] rfl rfl (by decide) (by decide) hk1 hFc hP1 hD1
  clear hk1 hz1 hP1 hD1 ht hPc hDc hFc
  generalize H1 = H at hP hS ⊢
  have hP := hP.sub (ws' := ((wX0 cy h q2 q3 q4 q5 q6 q7 q8 q9 r1.2.1 r1.2.2.1 r1.2.2.2.1 r1.2.2.2.2 c4 c5 c6 c7 c8 c9 c10 c11) ++ (wX1 cy g p2 p3 p6 p7 p10 r2.2.1 r2.2.2.1 r2.2.2.2.1 r2.2.2.2.2 d4 d5 d6 d7 d8 d9 d10))) [0, 1, 2, 3, 4, 5, 6, 7, 8, 9, 10, 11, 12, 13, 14] rfl
  have hD := hD.sub (ws' := ((wX0 cy h q2 q3 q4 q5 q6 q7 q8 q9 r1.2.1 r1.2.2.1 r1.2.2.2.1 r1.2.2.2.2 c4 c5 c6 c7 c8 c9 c10 c11) ++ (wX1 cy g p2 p3 p6 p7 p10 r2.2.1 r2.2.2.1 r2.2.2.2.1 r2.2.2.2.2 d4 d5 d6 d7 d8 d9 d10))) [0, 1, 2, 3, 4, 5, 6, 7, 8, 9, 10, 11, 12, 13, 14] (by decide) rfl
  refine lv_icmp_eq (tgt := 725) hx hb dL_law_158 (by decide) (fun c_9 => ?_) (fun c_9 => ?_)
  · exact hnext r1.2.1 r1.2.2.1 r1.2.2.2.1 r1.2.2.2.2 c4 c5 c6 c7 c8 c9 c10 c11 r2.2.1 r2.2.2.1 r2.2.2.2.1 r2.2.2.2.2 d4 d5 d6 d7 d8 d9 d10 hR2 _ _ _ hP hD hS hl
  · exact absurd he c_9

set_option maxHeartbeats 4000000 in
set_option maxRecDepth 100000 in
theorem lk_may {p : Program} {l : Launch} {e : Env} {s : State} {m : MethodId} {below : List Frame} {meth : Method} {c : Code} {dC : Nat → ClassId} {dI : Nat → Nat → Nat} {b L : Nat} {xs : Nat → Int32} (hL : L ≤ 2048) (C0 : lw_At p s m meth c b L xs) {R : z_XS → z_MS → Prop} (hop : zo_may R) (cy : ClassId) (hK : va_K (dC, dI) vwCl [(cy, .int)] s) (h q2 q3 q4 q5 q6 q7 q8 q9 g p2 p3 p6 p7 p10 : Nat) (a : Nat) (ha : a + 4 ≤ L) (hnext : ∀ (c0 : Int32) (c1 : Int32) (c2 : Nat → Int32) (c3 : Nat → Int32) (c4 : Nat → Int32) (c5 : Nat → Int32) (c6 : Nat → Int32) (c7 : Nat → Int32) (c8 : Nat → Int32) (c9 : Nat → Int32) (c10 : Int32) (c11 : Int32) (d0 : Int32) (d1 : Int32) (d2 : Nat → Int32) (d3 : Nat → Int32) (d4 : Int32) (d5 : Int32) (d6 : Nat → Int32) (d7 : Nat → Int32) (d8 : Int32) (d9 : Int32) (d10 : Nat → Int32), R (c0, c1, c2, c3, c4, c5, c6, c7, c8, c9, c10, c11) (d0, d1, d2, d3, d4, d5, d6, d7, d8, d9, d10) → ∀ (H : Heap) (locs : List Loc) (ls : Array Slot), va_P (dC, dI) vwCl ((wX0 cy h q2 q3 q4 q5 q6 q7 q8 q9 c0 c1 c2 c3 c4 c5 c6 c7 c8 c9 c10 c11) ++ (wX1 cy g p2 p3 p6 p7 p10 d0 d1 d2 d3 d4 d5 d6 d7 d8 d9 d10)) H → va_D (fun q : Nat => s.heap.size ≤ q) ((wX0 cy h q2 q3 q4 q5 q6 q7 q8 q9 c0 c1 c2 c3 c4 c5 c6 c7 c8 c9 c10 c11) ++ (wX1 cy g p2 p3 p6 p7 p10 d0 d1 d2 d3 d4 d5 d6 d7 d8 d9 d10)) → va_S (fun q : Nat => s.heap.size ≤ q) s.heap H locs → lv_has ls 4 [(0, .ref b), (1, .ref h), (2, .ref g), (3, .int (nI a))] → W p l e room_1 s m #[Value.ref b] below meth c H locs 15 2911 (lw_Z below #[Value.ref b] s) (F0 m 725 ls [])) : ∀ (c0 : Int32) (c1 : Int32) (c2 : Nat → Int32) (c3 : Nat → Int32) (c4 : Nat → Int32) (c5 : Nat → Int32) (c6 : Nat → Int32) (c7 : Nat → Int32) (c8 : Nat → Int32) (c9 : Nat → Int32) (c10 : Int32) (c11 : Int32) (d0 : Int32) (d1 : Int32) (d2 : Nat → Int32) (d3 : Nat → Int32) (d4 : Int32) (d5 : Int32) (d6 : Nat → Int32) (d7 : Nat → Int32) (d8 : Int32) (d9 : Int32) (d10 : Nat → Int32) (hR : R (c0, c1, c2, c3, c4, c5, c6, c7, c8, c9, c10, c11) (d0, d1, d2, d3, d4, d5, d6, d7, d8, d9, d10)) (H : Heap) (locs : List Loc) (ls : Array Slot) (hP : va_P (dC, dI) vwCl ((wX0 cy h q2 q3 q4 q5 q6 q7 q8 q9 c0 c1 c2 c3 c4 c5 c6 c7 c8 c9 c10 c11) ++ (wX1 cy g p2 p3 p6 p7 p10 d0 d1 d2 d3 d4 d5 d6 d7 d8 d9 d10)) H) (hD : va_D (fun q : Nat => s.heap.size ≤ q) ((wX0 cy h q2 q3 q4 q5 q6 q7 q8 q9 c0 c1 c2 c3 c4 c5 c6 c7 c8 c9 c10 c11) ++ (wX1 cy g p2 p3 p6 p7 p10 d0 d1 d2 d3 d4 d5 d6 d7 d8 d9 d10))) (hS : va_S (fun q : Nat => s.heap.size ≤ q) s.heap H locs) (hl : lv_has ls 4 [(0, .ref b), (1, .ref h), (2, .ref g), (3, .int (nI a))]), W p l e room_1 s m #[Value.ref b] below meth c H locs 15 2911 (lw_Z below #[Value.ref b] s) (F0 m 163 ls []) := by
  intro c0 c1 c2 c3 c4 c5 c6 c7 c8 c9 c10 c11 d0 d1 d2 d3 d4 d5 d6 d7 d8 d9 d10 hR H locs ls hP hD hS hl
  obtain ⟨hx, hb, hr, hml, hown, hts, hX, hbl, hlocks, hgv⟩ := C0
  have hts := fun w h => hts w (wsL_law_in w h)
  have hA : ∀ q : Nat, s.heap.size ≤ q → (fun q : Nat => s.heap.size ≤ q) q := fun _ h => h
  have hbA : ¬ (fun q : Nat => s.heap.size ≤ q) b := Nat.not_le.mpr hbl
  have hi1 : vp_in (nI a + (1 : Int32)) L := by rw [show nI a + (1 : Int32) = nI (a + 1) from nI_add a 1]; exact vp_in_nI (by omega) (by omega)
  have hi2 : vp_in (nI a + (2 : Int32)) L := by rw [show nI a + (2 : Int32) = nI (a + 2) from nI_add a 2]; exact vp_in_nI (by omega) (by omega)
  have hi3 : vp_in (nI a + (3 : Int32)) L := by rw [show nI a + (3 : Int32) = nI (a + 3) from nI_add a 3]; exact vp_in_nI (by omega) (by omega)
  refine lv_aload_n hx hb dL_law_163 rfl (lv_at hl 1 rfl) ?_
  refine lv_aload_n hx hb dL_law_164 rfl (lv_at hl 0 rfl) ?_
  refine lv_iload_n hx hb dL_law_165 rfl (lv_at hl 3 rfl) ?_
  refine lv_iconst (v := (1 : Int32)) hx hb dL_law_166 (by decide) ?_
  refine lv_iadd hx hb dL_law_167 ?_
  refine va_sld hx hb hX hbl hbA hS hi1 dL_law_168 ?_
  refine lv_aload_n hx hb dL_law_169 rfl (lv_at hl 0 rfl) ?_
  refine lv_iload_n hx hb dL_law_170 rfl (lv_at hl 3 rfl) ?_
  refine lv_iconst (v := (2 : Int32)) hx hb dL_law_171 (by decide) ?_
  refine lv_iadd hx hb dL_law_172 ?_
  refine va_sld hx hb hX hbl hbA hS hi2 dL_law_173 ?_
  refine lv_aload_n hx hb dL_law_174 rfl (lv_at hl 0 rfl) ?_
  refine lv_iload_n hx hb dL_law_175 rfl (lv_at hl 3 rfl) ?_
  refine lv_iconst (v := (3 : Int32)) hx hb dL_law_176 (by decide) ?_
  refine lv_iadd hx hb dL_law_177 ?_
  refine va_sld hx hb hX hbl hbA hS hi3 dL_law_178 ?_
  refine lv_if_eq (tgt := 186) hx hb dL_law_179 (by decide) (fun c_1 => ?_) (fun c_1 => ?_)
  · refine lv_iconst (v := (0 : Int32)) hx hb dL_law_186 (by decide) ?_
    obtain ⟨N1, r1, N2, r2, hf1, hf2, he, hR2⟩ := hop c0 c1 c2 c3 c4 c5 c6 c7 c8 c9 c10 c11 d0 d1 d2 d3 d4 d5 d6 d7 d8 d9 d10 (xs ((nI a) + (1 : Int32)).toNatClampNeg) (xs ((nI a) + (2 : Int32)).toNatClampNeg) (0 : Int32) (Or.inl rfl) hR
    have hPc := hP.sub (ws' := (wX0 cy h q2 q3 q4 q5 q6 q7 q8 q9 c0 c1 c2 c3 c4 c5 c6 c7 c8 c9 c10 c11)) [0, 1, 2, 3, 4, 5, 6, 7, 8] rfl
    have hDc := hD.sub (ws' := (wX0 cy h q2 q3 q4 q5 q6 q7 q8 q9 c0 c1 c2 c3 c4 c5 c6 c7 c8 c9 c10 c11)) [0, 1, 2, 3, 4, 5, 6, 7, 8] (by decide) rfl
    have hKc := hK.sub (tys' := [(cy, .int)]) [0] rfl
    have hFc := va_free (wc := (wX0 cy h q2 q3 q4 q5 q6 q7 q8 q9 c0 c1 c2 c3 c4 c5 c6 c7 c8 c9 c10 c11)) hD hS hA [0, 1, 2, 3, 4, 5, 6, 7, 8] rfl
    refine va_calli (va_runV (As := [.int (xs ((nI a) + (1 : Int32)).toNatClampNeg), .int (xs ((nI a) + (2 : Int32)).toNatClampNeg), .int (0 : Int32)]) (rest := []) ⟨hx, hb, hml, hown, hts⟩ (c_X0_may N1 l dC dI cy h q2 q3 q4 q5 q6 q7 q8 q9 H.size c0 c1 c2 c3 c4 c5 c6 c7 c8 c9 c10 c11 (xs ((nI a) + (1 : Int32)).toNatClampNeg) (xs ((nI a) + (2 : Int32)).toNatClampNeg) (0 : Int32) r1 hf1) (cwV 3 hts gL_law_X0_may rfl rfl rfl (by decide +kernel) ⟨Nat.le_of_ble_eq_true rfl, Nat.le_of_ble_eq_true rfl⟩) ⟨fun a U g mk q => by obtain ⟨q0, q1, qP, qK, qD⟩ := q; exact ⟨q0, q1, qP, va_K.moved (u := U) (U := U.calling g mk a) (Vm.Alike.refl U.vm) qK, qD⟩, va_recv hKc hPc (ci := 0) (q0 := 0) rfl rfl, fun U hU hW => ⟨rfl, by rw [hU], by rw [hU]; exact hPc, va_K.moved hW.alike hKc, hDc.weaken (fun _ _ _ _ => trivial)⟩⟩ rfl rfl hl.1 rfl (lv_room (Nat.le_of_ble_eq_true rfl)) dL_law_187 ⟨Nat.le_of_ble_eq_true rfl, Nat.le_of_ble_eq_true rfl⟩) hS (fun q _ h => hFc q h) hFc (fun rr uu_ t H1 locs ht hvm hw hB hz1 hk1 hS => ?_)
    replace hw := hw.symm
    subst hw
    obtain ⟨hP1, -, hD1⟩ := hB
    rw [ht] at hP1
    obtain ⟨hP, hD⟩ := va_join (wr := (wX1 cy g p2 p3 p6 p7 p10 d0 d1 d2 d3 d4 d5 d6 d7 d8 d9 d10)) (w1 := (wX0 cy h q2 q3 q4 q5 q6 q7 q8 q9 c0 c1 r1.2 c3 c4 c5 c6 c7 c8 c9 c10 c11)) hP hD [0, 1, 2, 3, 4, 5, 6, 7, 8] [9, 10, 11, 12, 13, 14] rfl rfl (by decide) (by decide) hk1 hFc hP1 hD1
    clear hk1 hz1 hP1 hD1 ht hPc hDc hFc
    generalize H1 = H at hP hS ⊢
    have hP := hP.sub (ws' := ((wX0 cy h q2 q3 q4 q5 q6 q7 q8 q9 c0 c1 r1.2 c3 c4 c5 c6 c7 c8 c9 c10 c11) ++ (wX1 cy g p2 p3 p6 p7 p10 d0 d1 d2 d3 d4 d5 d6 d7 d8 d9 d10))) [6, 7, 8, 9, 10, 11, 12, 13, 14, 0, 1, 2, 3, 4, 5] rfl
    have hD := hD.sub (ws' := ((wX0 cy h q2 q3 q4 q5 q6 q7 q8 q9 c0 c1 r1.2 c3 c4 c5 c6 c7 c8 c9 c10 c11) ++ (wX1 cy g p2 p3 p6 p7 p10 d0 d1 d2 d3 d4 d5 d6 d7 d8 d9 d10))) [6, 7, 8, 9, 10, 11, 12, 13, 14, 0, 1, 2, 3, 4, 5] (by decide) rfl
    refine lv_aload_n hx hb dL_law_190 rfl (lv_at hl 2 rfl) ?_
    refine lv_aload_n hx hb dL_law_191 rfl (lv_at hl 0 rfl) ?_
    refine lv_iload_n hx hb dL_law_192 rfl (lv_at hl 3 rfl) ?_
    refine lv_iconst (v := (1 : Int32)) hx hb dL_law_193 (by decide) ?_
    refine lv_iadd hx hb dL_law_194 ?_
    refine va_sld hx hb hX hbl hbA hS hi1 dL_law_195 ?_
    refine lv_aload_n hx hb dL_law_196 rfl (lv_at hl 0 rfl) ?_
    refine lv_iload_n hx hb dL_law_197 rfl (lv_at hl 3 rfl) ?_
    refine lv_iconst (v := (2 : Int32)) hx hb dL_law_198 (by decide) ?_
    refine lv_iadd hx hb dL_law_199 ?_
    refine va_sld hx hb hX hbl hbA hS hi2 dL_law_200 ?_
    refine lv_aload_n hx hb dL_law_201 rfl (lv_at hl 0 rfl) ?_
    refine lv_iload_n hx hb dL_law_202 rfl (lv_at hl 3 rfl) ?_
    refine lv_iconst (v := (3 : Int32)) hx hb dL_law_203 (by decide) ?_
    refine lv_iadd hx hb dL_law_204 ?_
    refine va_sld hx hb hX hbl hbA hS hi3 dL_law_205 ?_
    refine lv_if_eq (tgt := 213) hx hb dL_law_206 (by decide) (fun c_2 => ?_) (fun c_2 => ?_)
    · refine lv_iconst (v := (0 : Int32)) hx hb dL_law_213 (by decide) ?_
      have hPc := hP.sub (ws' := (wX1 cy g p2 p3 p6 p7 p10 d0 d1 d2 d3 d4 d5 d6 d7 d8 d9 d10)) [9, 10, 11, 12, 13, 14] rfl
      have hDc := hD.sub (ws' := (wX1 cy g p2 p3 p6 p7 p10 d0 d1 d2 d3 d4 d5 d6 d7 d8 d9 d10)) [9, 10, 11, 12, 13, 14] (by decide) rfl
      have hKc := hK.sub (tys' := [(cy, .int)]) [0] rfl
      have hFc := va_free (wc := (wX1 cy g p2 p3 p6 p7 p10 d0 d1 d2 d3 d4 d5 d6 d7 d8 d9 d10)) hD hS hA [9, 10, 11, 12, 13, 14] rfl
      refine va_calli (va_runV (As := [.int (xs ((nI a) + (1 : Int32)).toNatClampNeg), .int (xs ((nI a) + (2 : Int32)).toNatClampNeg), .int (0 : Int32)]) (rest := [.int r1.1]) ⟨hx, hb, hml, hown, hts⟩ (c_X1_may N2 l dC dI cy g p2 p3 p6 p7 p10 H.size d0 d1 d2 d3 d4 d5 d6 d7 d8 d9 d10 (xs ((nI a) + (1 : Int32)).toNatClampNeg) (xs ((nI a) + (2 : Int32)).toNatClampNeg) (0 : Int32) r2 hf2) (cwV 3 hts gL_law_X1_may rfl rfl rfl (by decide +kernel) ⟨Nat.le_of_ble_eq_true rfl, Nat.le_of_ble_eq_true rfl⟩) ⟨fun a U g mk q => by obtain ⟨q0, q1, qP, qK, qD⟩ := q; exact ⟨q0, q1, qP, va_K.moved (u := U) (U := U.calling g mk a) (Vm.Alike.refl U.vm) qK, qD⟩, va_recv hKc hPc (ci := 1) (q0 := 0) rfl rfl, fun U hU hW => ⟨rfl, by rw [hU], by rw [hU]; exact hPc, va_K.moved hW.alike hKc, hDc.weaken (fun _ _ _ _ => trivial)⟩⟩ rfl rfl hl.1 rfl (lv_room (Nat.le_of_ble_eq_true rfl)) dL_law_214 ⟨Nat.le_of_ble_eq_true rfl, Nat.le_of_ble_eq_true rfl⟩) hS (fun q _ h => hFc q h) hFc (fun rr uu_ t H1 locs ht hvm hw hB hz1 hk1 hS => ?_)
      replace hw := hw.symm
      subst hw
      obtain ⟨hP1, -, hD1⟩ := hB
      rw [ht] at hP1
      obtain ⟨hP, hD⟩ := va_join (wr := (wX0 cy h q2 q3 q4 q5 q6 q7 q8 q9 c0 c1 r1.2 c3 c4 c5 c6 c7 c8 c9 c10 c11)) (w1 := (wX1 cy g p2 p3 p6 p7 p10 d0 d1 r2.2 d3 d4 d5 d6 d7 d8 d9 d10)) hP hD [9, 10, 11, 12, 13, 14] [0, 1, 2, 3, 4, 5, 6, 7, 8] rfl rfl (by decide) (by decide) hk1 hFc hP1 hD1
      clear hk1 hz1 hP1 hD1 ht hPc hDc hFc
      generalize H1 = H at hP hS ⊢
      have hP := hP.sub (ws' := ((wX0 cy h q2 q3 q4 q5 q6 q7 q8 q9 c0 c1 r1.2 c3 c4 c5 c6 c7 c8 c9 c10 c11) ++ (wX1 cy g p2 p3 p6 p7 p10 d0 d1 r2.2 d3 d4 d5 d6 d7 d8 d9 d10))) [0, 1, 2, 3, 4, 5, 6, 7, 8, 9, 10, 11, 12, 13, 14] rfl
      have hD := hD.sub (ws' := ((wX0 cy h q2 q3 q4 q5 q6 q7 q8 q9 c0 c1 r1.2 c3 c4 c5 c6 c7 c8 c9 c10 c11) ++ (wX1 cy g p2 p3 p6 p7 p10 d0 d1 r2.2 d3 d4 d5 d6 d7 d8 d9 d10))) [0, 1, 2, 3, 4, 5, 6, 7, 8, 9, 10, 11, 12, 13, 14] (by decide) rfl
      refine lv_icmp_eq (tgt := 725) hx hb dL_law_217 (by decide) (fun c_9 => ?_) (fun c_9 => ?_)
      · exact hnext c0 c1 r1.2 c3 c4 c5 c6 c7 c8 c9 c10 c11 d0 d1 r2.2 d3 d4 d5 d6 d7 d8 d9 d10 hR2 _ _ _ hP hD hS hl
      · exact absurd he c_9
    · exact absurd c_1 c_2
  · refine lv_iconst (v := (1 : Int32)) hx hb dL_law_182 (by decide) ?_
    refine lv_goto (tgt := 187) hx hb dL_law_183 (by decide) ?_
    obtain ⟨N1, r1, N2, r2, hf1, hf2, he, hR2⟩ := hop c0 c1 c2 c3 c4 c5 c6 c7 c8 c9 c10 c11 d0 d1 d2 d3 d4 d5 d6 d7 d8 d9 d10 (xs ((nI a) + (1 : Int32)).toNatClampNeg) (xs ((nI a) + (2 : Int32)).toNatClampNeg) (1 : Int32) (Or.inr rfl) hR
    have hPc := hP.sub (ws' := (wX0 cy h q2 q3 q4 q5 q6 q7 q8 q9 c0 c1 c2 c3 c4 c5 c6 c7 c8 c9 c10 c11)) [0, 1, 2, 3, 4, 5, 6, 7, 8] rfl
    have hDc := hD.sub (ws' := (wX0 cy h q2 q3 q4 q5 q6 q7 q8 q9 c0 c1 c2 c3 c4 c5 c6 c7 c8 c9 c10 c11)) [0, 1, 2, 3, 4, 5, 6, 7, 8] (by decide) rfl
    have hKc := hK.sub (tys' := [(cy, .int)]) [0] rfl
    have hFc := va_free (wc := (wX0 cy h q2 q3 q4 q5 q6 q7 q8 q9 c0 c1 c2 c3 c4 c5 c6 c7 c8 c9 c10 c11)) hD hS hA [0, 1, 2, 3, 4, 5, 6, 7, 8] rfl
    refine va_calli (va_runV (As := [.int (xs ((nI a) + (1 : Int32)).toNatClampNeg), .int (xs ((nI a) + (2 : Int32)).toNatClampNeg), .int (1 : Int32)]) (rest := []) ⟨hx, hb, hml, hown, hts⟩ (c_X0_may N1 l dC dI cy h q2 q3 q4 q5 q6 q7 q8 q9 H.size c0 c1 c2 c3 c4 c5 c6 c7 c8 c9 c10 c11 (xs ((nI a) + (1 : Int32)).toNatClampNeg) (xs ((nI a) + (2 : Int32)).toNatClampNeg) (1 : Int32) r1 hf1) (cwV 3 hts gL_law_X0_may rfl rfl rfl (by decide +kernel) ⟨Nat.le_of_ble_eq_true rfl, Nat.le_of_ble_eq_true rfl⟩) ⟨fun a U g mk q => by obtain ⟨q0, q1, qP, qK, qD⟩ := q; exact ⟨q0, q1, qP, va_K.moved (u := U) (U := U.calling g mk a) (Vm.Alike.refl U.vm) qK, qD⟩, va_recv hKc hPc (ci := 0) (q0 := 0) rfl rfl, fun U hU hW => ⟨rfl, by rw [hU], by rw [hU]; exact hPc, va_K.moved hW.alike hKc, hDc.weaken (fun _ _ _ _ => trivial)⟩⟩ rfl rfl hl.1 rfl (lv_room (Nat.le_of_ble_eq_true rfl)) dL_law_187 ⟨Nat.le_of_ble_eq_true rfl, Nat.le_of_ble_eq_true rfl⟩) hS (fun q _ h => hFc q h) hFc (fun rr uu_ t H1 locs ht hvm hw hB hz1 hk1 hS => ?_)
    replace hw := hw.symm
    subst hw
    obtain ⟨hP1, -, hD1⟩ := hB
    rw [ht] at hP1
    obtain ⟨hP, hD⟩ := va_join (wr := (wX1 cy g p2 p3 p6 p7 p10 d0 d1 d2 d3 d4 d5 d6 d7 d8 d9 d10)) (w1 := (wX0 cy h q2 q3 q4 q5 q6 q7 q8 q9 c0 c1 r1.2 c3 c4 c5 c6 c7 c8 c9 c10 c11)) hP hD [0, 1, 2, 3, 4, 5, 6, 7, 8] [9, 10, 11, 12, 13, 14] rfl rfl (by decide) (by decide) hk1 hFc hP1 hD1
    clear hk1 hz1 hP1 hD1 ht hPc hDc hFc
    generalize H1 = H at hP hS ⊢
    have hP := hP.sub (ws' := ((wX0 cy h q2 q3 q4 q5 q6 q7 q8 q9 c0 c1 r1.2 c3 c4 c5 c6 c7 c8 c9 c10 c11) ++ (wX1 cy g p2 p3 p6 p7 p10 d0 d1 d2 d3 d4 d5 d6 d7 d8 d9 d10))) [6, 7, 8, 9, 10, 11, 12, 13, 14, 0, 1, 2, 3, 4, 5] rfl
    have hD := hD.sub (ws' := ((wX0 cy h q2 q3 q4 q5 q6 q7 q8 q9 c0 c1 r1.2 c3 c4 c5 c6 c7 c8 c9 c10 c11) ++ (wX1 cy g p2 p3 p6 p7 p10 d0 d1 d2 d3 d4 d5 d6 d7 d8 d9 d10))) [6, 7, 8, 9, 10, 11, 12, 13, 14, 0, 1, 2, 3, 4, 5] (by decide) rfl
    refine lv_aload_n hx hb dL_law_190 rfl (lv_at hl 2 rfl) ?_
    refine lv_aload_n hx hb dL_law_191 rfl (lv_at hl 0 rfl) ?_
    refine lv_iload_n hx hb dL_law_192 rfl (lv_at hl 3 rfl) ?_
    refine lv_iconst (v := (1 : Int32)) hx hb dL_law_193 (by decide) ?_
    refine lv_iadd hx hb dL_law_194 ?_
    refine va_sld hx hb hX hbl hbA hS hi1 dL_law_195 ?_
    refine lv_aload_n hx hb dL_law_196 rfl (lv_at hl 0 rfl) ?_
    refine lv_iload_n hx hb dL_law_197 rfl (lv_at hl 3 rfl) ?_
    refine lv_iconst (v := (2 : Int32)) hx hb dL_law_198 (by decide) ?_
    refine lv_iadd hx hb dL_law_199 ?_
    refine va_sld hx hb hX hbl hbA hS hi2 dL_law_200 ?_
    refine lv_aload_n hx hb dL_law_201 rfl (lv_at hl 0 rfl) ?_
    refine lv_iload_n hx hb dL_law_202 rfl (lv_at hl 3 rfl) ?_
    refine lv_iconst (v := (3 : Int32)) hx hb dL_law_203 (by decide) ?_
    refine lv_iadd hx hb dL_law_204 ?_
    refine va_sld hx hb hX hbl hbA hS hi3 dL_law_205 ?_
    refine lv_if_eq (tgt := 213) hx hb dL_law_206 (by decide) (fun c_2 => ?_) (fun c_2 => ?_)
    · exact absurd c_2 c_1
    · refine lv_iconst (v := (1 : Int32)) hx hb dL_law_209 (by decide) ?_
      refine lv_goto (tgt := 214) hx hb dL_law_210 (by decide) ?_
      have hPc := hP.sub (ws' := (wX1 cy g p2 p3 p6 p7 p10 d0 d1 d2 d3 d4 d5 d6 d7 d8 d9 d10)) [9, 10, 11, 12, 13, 14] rfl
      have hDc := hD.sub (ws' := (wX1 cy g p2 p3 p6 p7 p10 d0 d1 d2 d3 d4 d5 d6 d7 d8 d9 d10)) [9, 10, 11, 12, 13, 14] (by decide) rfl
      have hKc := hK.sub (tys' := [(cy, .int)]) [0] rfl
      have hFc := va_free (wc := (wX1 cy g p2 p3 p6 p7 p10 d0 d1 d2 d3 d4 d5 d6 d7 d8 d9 d10)) hD hS hA [9, 10, 11, 12, 13, 14] rfl
      refine va_calli (va_runV (As := [.int (xs ((nI a) + (1 : Int32)).toNatClampNeg), .int (xs ((nI a) + (2 : Int32)).toNatClampNeg), .int (1 : Int32)]) (rest := [.int r1.1]) ⟨hx, hb, hml, hown, hts⟩ (c_X1_may N2 l dC dI cy g p2 p3 p6 p7 p10 H.size d0 d1 d2 d3 d4 d5 d6 d7 d8 d9 d10 (xs ((nI a) + (1 : Int32)).toNatClampNeg) (xs ((nI a) + (2 : Int32)).toNatClampNeg) (1 : Int32) r2 hf2) (cwV 3 hts gL_law_X1_may rfl rfl rfl (by decide +kernel) ⟨Nat.le_of_ble_eq_true rfl, Nat.le_of_ble_eq_true rfl⟩) ⟨fun a U g mk q => by obtain ⟨q0, q1, qP, qK, qD⟩ := q; exact ⟨q0, q1, qP, va_K.moved (u := U) (U := U.calling g mk a) (Vm.Alike.refl U.vm) qK, qD⟩, va_recv hKc hPc (ci := 1) (q0 := 0) rfl rfl, fun U hU hW => ⟨rfl, by rw [hU], by rw [hU]; exact hPc, va_K.moved hW.alike hKc, hDc.weaken (fun _ _ _ _ => trivial)⟩⟩ rfl rfl hl.1 rfl (lv_room (Nat.le_of_ble_eq_true rfl)) dL_law_214 ⟨Nat.le_of_ble_eq_true rfl, Nat.le_of_ble_eq_true rfl⟩) hS (fun q _ h => hFc q h) hFc (fun rr uu_ t H1 locs ht hvm hw hB hz1 hk1 hS => ?_)
      replace hw := hw.symm
      subst hw
      obtain ⟨hP1, -, hD1⟩ := hB
      rw [ht] at hP1
      obtain ⟨hP, hD⟩ := va_join (wr := (wX0 cy h q2 q3 q4 q5 q6 q7 q8 q9 c0 c1 r1.2 c3 c4 c5 c6 c7 c8 c9 c10 c11)) (w1 := (wX1 cy g p2 p3 p6 p7 p10 d0 d1 r2.2 d3 d4 d5 d6 d7 d8 d9 d10)) hP hD [9, 10, 11, 12, 13, 14] [0, 1, 2, 3, 4, 5, 6, 7, 8] rfl rfl (by decide) (by decide) hk1 hFc hP1 hD1
      clear hk1 hz1 hP1 hD1 ht hPc hDc hFc
      generalize H1 = H at hP hS ⊢
      have hP := hP.sub (ws' := ((wX0 cy h q2 q3 q4 q5 q6 q7 q8 q9 c0 c1 r1.2 c3 c4 c5 c6 c7 c8 c9 c10 c11) ++ (wX1 cy g p2 p3 p6 p7 p10 d0 d1 r2.2 d3 d4 d5 d6 d7 d8 d9 d10))) [0, 1, 2, 3, 4, 5, 6, 7, 8, 9, 10, 11, 12, 13, 14] rfl
      have hD := hD.sub (ws' := ((wX0 cy h q2 q3 q4 q5 q6 q7 q8 q9 c0 c1 r1.2 c3 c4 c5 c6 c7 c8 c9 c10 c11) ++ (wX1 cy g p2 p3 p6 p7 p10 d0 d1 r2.2 d3 d4 d5 d6 d7 d8 d9 d10))) [0, 1, 2, 3, 4, 5, 6, 7, 8, 9, 10, 11, 12, 13, 14] (by decide) rfl
      refine lv_icmp_eq (tgt := 725) hx hb dL_law_217 (by decide) (fun c_9 => ?_) (fun c_9 => ?_)
      · exact hnext c0 c1 r1.2 c3 c4 c5 c6 c7 c8 c9 c10 c11 d0 d1 r2.2 d3 d4 d5 d6 d7 d8 d9 d10 hR2 _ _ _ hP hD hS hl
      · exact absurd he c_9

set_option maxHeartbeats 4000000 in
set_option maxRecDepth 100000 in
theorem lk_couple {p : Program} {l : Launch} {e : Env} {s : State} {m : MethodId} {below : List Frame} {meth : Method} {c : Code} {dC : Nat → ClassId} {dI : Nat → Nat → Nat} {b L : Nat} {xs : Nat → Int32} (hL : L ≤ 2048) (C0 : lw_At p s m meth c b L xs) {R : z_XS → z_MS → Prop} (hop : zo_couple R) (cy : ClassId) (hK : va_K (dC, dI) vwCl [(cy, .int)] s) (h q2 q3 q4 q5 q6 q7 q8 q9 g p2 p3 p6 p7 p10 : Nat) (a : Nat) (ha : a + 4 ≤ L) (hnext : ∀ (c0 : Int32) (c1 : Int32) (c2 : Nat → Int32) (c3 : Nat → Int32) (c4 : Nat → Int32) (c5 : Nat → Int32) (c6 : Nat → Int32) (c7 : Nat → Int32) (c8 : Nat → Int32) (c9 : Nat → Int32) (c10 : Int32) (c11 : Int32) (d0 : Int32) (d1 : Int32) (d2 : Nat → Int32) (d3 : Nat → Int32) (d4 : Int32) (d5 : Int32) (d6 : Nat → Int32) (d7 : Nat → Int32) (d8 : Int32) (d9 : Int32) (d10 : Nat → Int32), R (c0, c1, c2, c3, c4, c5, c6, c7, c8, c9, c10, c11) (d0, d1, d2, d3, d4, d5, d6, d7, d8, d9, d10) → ∀ (H : Heap) (locs : List Loc) (ls : Array Slot), va_P (dC, dI) vwCl ((wX0 cy h q2 q3 q4 q5 q6 q7 q8 q9 c0 c1 c2 c3 c4 c5 c6 c7 c8 c9 c10 c11) ++ (wX1 cy g p2 p3 p6 p7 p10 d0 d1 d2 d3 d4 d5 d6 d7 d8 d9 d10)) H → va_D (fun q : Nat => s.heap.size ≤ q) ((wX0 cy h q2 q3 q4 q5 q6 q7 q8 q9 c0 c1 c2 c3 c4 c5 c6 c7 c8 c9 c10 c11) ++ (wX1 cy g p2 p3 p6 p7 p10 d0 d1 d2 d3 d4 d5 d6 d7 d8 d9 d10)) → va_S (fun q : Nat => s.heap.size ≤ q) s.heap H locs → lv_has ls 4 [(0, .ref b), (1, .ref h), (2, .ref g), (3, .int (nI a))] → W p l e room_1 s m #[Value.ref b] below meth c H locs 15 2911 (lw_Z below #[Value.ref b] s) (F0 m 725 ls [])) : ∀ (c0 : Int32) (c1 : Int32) (c2 : Nat → Int32) (c3 : Nat → Int32) (c4 : Nat → Int32) (c5 : Nat → Int32) (c6 : Nat → Int32) (c7 : Nat → Int32) (c8 : Nat → Int32) (c9 : Nat → Int32) (c10 : Int32) (c11 : Int32) (d0 : Int32) (d1 : Int32) (d2 : Nat → Int32) (d3 : Nat → Int32) (d4 : Int32) (d5 : Int32) (d6 : Nat → Int32) (d7 : Nat → Int32) (d8 : Int32) (d9 : Int32) (d10 : Nat → Int32) (hR : R (c0, c1, c2, c3, c4, c5, c6, c7, c8, c9, c10, c11) (d0, d1, d2, d3, d4, d5, d6, d7, d8, d9, d10)) (H : Heap) (locs : List Loc) (ls : Array Slot) (hP : va_P (dC, dI) vwCl ((wX0 cy h q2 q3 q4 q5 q6 q7 q8 q9 c0 c1 c2 c3 c4 c5 c6 c7 c8 c9 c10 c11) ++ (wX1 cy g p2 p3 p6 p7 p10 d0 d1 d2 d3 d4 d5 d6 d7 d8 d9 d10)) H) (hD : va_D (fun q : Nat => s.heap.size ≤ q) ((wX0 cy h q2 q3 q4 q5 q6 q7 q8 q9 c0 c1 c2 c3 c4 c5 c6 c7 c8 c9 c10 c11) ++ (wX1 cy g p2 p3 p6 p7 p10 d0 d1 d2 d3 d4 d5 d6 d7 d8 d9 d10))) (hS : va_S (fun q : Nat => s.heap.size ≤ q) s.heap H locs) (hl : lv_has ls 4 [(0, .ref b), (1, .ref h), (2, .ref g), (3, .int (nI a))]), W p l e room_1 s m #[Value.ref b] below meth c H locs 15 2911 (lw_Z below #[Value.ref b] s) (F0 m 222 ls []) := by
  intro c0 c1 c2 c3 c4 c5 c6 c7 c8 c9 c10 c11 d0 d1 d2 d3 d4 d5 d6 d7 d8 d9 d10 hR H locs ls hP hD hS hl
  obtain ⟨hx, hb, hr, hml, hown, hts, hX, hbl, hlocks, hgv⟩ := C0
  have hts := fun w h => hts w (wsL_law_in w h)
  have hA : ∀ q : Nat, s.heap.size ≤ q → (fun q : Nat => s.heap.size ≤ q) q := fun _ h => h
  have hbA : ¬ (fun q : Nat => s.heap.size ≤ q) b := Nat.not_le.mpr hbl
  have hi1 : vp_in (nI a + (1 : Int32)) L := by rw [show nI a + (1 : Int32) = nI (a + 1) from nI_add a 1]; exact vp_in_nI (by omega) (by omega)
  have hi2 : vp_in (nI a + (2 : Int32)) L := by rw [show nI a + (2 : Int32) = nI (a + 2) from nI_add a 2]; exact vp_in_nI (by omega) (by omega)
  have hi3 : vp_in (nI a + (3 : Int32)) L := by rw [show nI a + (3 : Int32) = nI (a + 3) from nI_add a 3]; exact vp_in_nI (by omega) (by omega)
  refine lv_aload_n hx hb dL_law_222 rfl (lv_at hl 1 rfl) ?_
  refine lv_aload_n hx hb dL_law_223 rfl (lv_at hl 0 rfl) ?_
  refine lv_iload_n hx hb dL_law_224 rfl (lv_at hl 3 rfl) ?_
  refine lv_iconst (v := (1 : Int32)) hx hb dL_law_225 (by decide) ?_
  refine lv_iadd hx hb dL_law_226 ?_
  refine va_sld hx hb hX hbl hbA hS hi1 dL_law_227 ?_
  refine lv_aload_n hx hb dL_law_228 rfl (lv_at hl 0 rfl) ?_
  refine lv_iload_n hx hb dL_law_229 rfl (lv_at hl 3 rfl) ?_
  refine lv_iconst (v := (2 : Int32)) hx hb dL_law_230 (by decide) ?_
  refine lv_iadd hx hb dL_law_231 ?_
  refine va_sld hx hb hX hbl hbA hS hi2 dL_law_232 ?_
  obtain ⟨N1, r1, N2, r2, hf1, hf2, he, hR2⟩ := hop c0 c1 c2 c3 c4 c5 c6 c7 c8 c9 c10 c11 d0 d1 d2 d3 d4 d5 d6 d7 d8 d9 d10 (xs ((nI a) + (1 : Int32)).toNatClampNeg) (xs ((nI a) + (2 : Int32)).toNatClampNeg) hR
  have hPc := hP.sub (ws' := (wX0 cy h q2 q3 q4 q5 q6 q7 q8 q9 c0 c1 c2 c3 c4 c5 c6 c7 c8 c9 c10 c11)) [0, 1, 2, 3, 4, 5, 6, 7, 8] rfl
  have hDc := hD.sub (ws' := (wX0 cy h q2 q3 q4 q5 q6 q7 q8 q9 c0 c1 c2 c3 c4 c5 c6 c7 c8 c9 c10 c11)) [0, 1, 2, 3, 4, 5, 6, 7, 8] (by decide) rfl
  have hKc := hK.sub (tys' := [(cy, .int)]) [0] rfl
  have hFc := va_free (wc := (wX0 cy h q2 q3 q4 q5 q6 q7 q8 q9 c0 c1 c2 c3 c4 c5 c6 c7 c8 c9 c10 c11)) hD hS hA [0, 1, 2, 3, 4, 5, 6, 7, 8] rfl
  refine va_calli (va_runV (As := [.int (xs ((nI a) + (1 : Int32)).toNatClampNeg), .int (xs ((nI a) + (2 : Int32)).toNatClampNeg)]) (rest := []) ⟨hx, hb, hml, hown, hts⟩ (c_X0_couple N1 l dC dI cy h q2 q3 q4 q5 q6 q7 q8 q9 H.size c0 c1 c2 c3 c4 c5 c6 c7 c8 c9 c10 c11 (xs ((nI a) + (1 : Int32)).toNatClampNeg) (xs ((nI a) + (2 : Int32)).toNatClampNeg) r1 hf1) (cwV 2 hts gL_law_X0_couple rfl rfl rfl (by decide +kernel) ⟨Nat.le_of_ble_eq_true rfl, Nat.le_of_ble_eq_true rfl⟩) ⟨fun a U g mk q => by obtain ⟨q0, q1, qP, qK, qD⟩ := q; exact ⟨q0, q1, qP, va_K.moved (u := U) (U := U.calling g mk a) (Vm.Alike.refl U.vm) qK, qD⟩, va_recv hKc hPc (ci := 0) (q0 := 0) rfl rfl, fun U hU hW => ⟨rfl, by rw [hU], by rw [hU]; exact hPc, va_K.moved hW.alike hKc, hDc.weaken (fun _ _ _ _ => trivial)⟩⟩ rfl rfl hl.1 rfl (lv_room (Nat.le_of_ble_eq_true rfl)) dL_law_233 ⟨Nat.le_of_ble_eq_true rfl, Nat.le_of_ble_eq_true rfl⟩) hS (fun q _ h => hFc q h) hFc (fun rr uu_ t H1 locs ht hvm hw hB hz1 hk1 hS => ?_)
  replace hw := hw.symm
  subst hw
  obtain ⟨hP1, -, hD1⟩ := hB
  rw [ht] at hP1
  obtain ⟨hP, hD⟩ := va_join (wr := (wX1 cy g p2 p3 p6 p7 p10 d0 d1 d2 d3 d4 d5 d6 d7 d8 d9 d10)) (w1 := (wX0 cy h q2 q3 q4 q5 q6 q7 q8 q9 c0 c1 r1.2 c3 c4 c5 c6 c7 c8 c9 c10 c11)) hP hD [0, 1, 2, 3, 4, 5, 6, 7, 8] [9, 10, 11, 12, 13, 14] rfl rfl (by decide) (by decide) hk1 hFc hP1 hD1
  clear hk1 hz1 hP1 hD1 ht hPc hDc hFc
  generalize H1 = H at hP hS ⊢
  have hP := hP.sub (ws' := ((wX0 cy h q2 q3 q4 q5 q6 q7 q8 q9 c0 c1 r1.2 c3 c4 c5 c6 c7 c8 c9 c10 c11) ++ (wX1 cy g p2 p3 p6 p7 p10 d0 d1 d2 d3 d4 d5 d6 d7 d8 d9 d10))) [6, 7, 8, 9, 10, 11, 12, 13, 14, 0, 1, 2, 3, 4, 5] rfl
  have hD := hD.sub (ws' := ((wX0 cy h q2 q3 q4 q5 q6 q7 q8 q9 c0 c1 r1.2 c3 c4 c5 c6 c7 c8 c9 c10 c11) ++ (wX1 cy g p2 p3 p6 p7 p10 d0 d1 d2 d3 d4 d5 d6 d7 d8 d9 d10))) [6, 7, 8, 9, 10, 11, 12, 13, 14, 0, 1, 2, 3, 4, 5] (by decide) rfl
  refine lv_aload_n hx hb dL_law_236 rfl (lv_at hl 2 rfl) ?_
  refine lv_aload_n hx hb dL_law_237 rfl (lv_at hl 0 rfl) ?_
  refine lv_iload_n hx hb dL_law_238 rfl (lv_at hl 3 rfl) ?_
  refine lv_iconst (v := (1 : Int32)) hx hb dL_law_239 (by decide) ?_
  refine lv_iadd hx hb dL_law_240 ?_
  refine va_sld hx hb hX hbl hbA hS hi1 dL_law_241 ?_
  refine lv_aload_n hx hb dL_law_242 rfl (lv_at hl 0 rfl) ?_
  refine lv_iload_n hx hb dL_law_243 rfl (lv_at hl 3 rfl) ?_
  refine lv_iconst (v := (2 : Int32)) hx hb dL_law_244 (by decide) ?_
  refine lv_iadd hx hb dL_law_245 ?_
  refine va_sld hx hb hX hbl hbA hS hi2 dL_law_246 ?_
  have hPc := hP.sub (ws' := (wX1 cy g p2 p3 p6 p7 p10 d0 d1 d2 d3 d4 d5 d6 d7 d8 d9 d10)) [9, 10, 11, 12, 13, 14] rfl
  have hDc := hD.sub (ws' := (wX1 cy g p2 p3 p6 p7 p10 d0 d1 d2 d3 d4 d5 d6 d7 d8 d9 d10)) [9, 10, 11, 12, 13, 14] (by decide) rfl
  have hKc := hK.sub (tys' := [(cy, .int)]) [0] rfl
  have hFc := va_free (wc := (wX1 cy g p2 p3 p6 p7 p10 d0 d1 d2 d3 d4 d5 d6 d7 d8 d9 d10)) hD hS hA [9, 10, 11, 12, 13, 14] rfl
  refine va_calli (va_runV (As := [.int (xs ((nI a) + (1 : Int32)).toNatClampNeg), .int (xs ((nI a) + (2 : Int32)).toNatClampNeg)]) (rest := [.int r1.1]) ⟨hx, hb, hml, hown, hts⟩ (c_X1_couple N2 l dC dI cy g p2 p3 p6 p7 p10 H.size d0 d1 d2 d3 d4 d5 d6 d7 d8 d9 d10 (xs ((nI a) + (1 : Int32)).toNatClampNeg) (xs ((nI a) + (2 : Int32)).toNatClampNeg) r2 hf2) (cwV 2 hts gL_law_X1_couple rfl rfl rfl (by decide +kernel) ⟨Nat.le_of_ble_eq_true rfl, Nat.le_of_ble_eq_true rfl⟩) ⟨fun a U g mk q => by obtain ⟨q0, q1, qP, qK, qD⟩ := q; exact ⟨q0, q1, qP, va_K.moved (u := U) (U := U.calling g mk a) (Vm.Alike.refl U.vm) qK, qD⟩, va_recv hKc hPc (ci := 1) (q0 := 0) rfl rfl, fun U hU hW => ⟨rfl, by rw [hU], by rw [hU]; exact hPc, va_K.moved hW.alike hKc, hDc.weaken (fun _ _ _ _ => trivial)⟩⟩ rfl rfl hl.1 rfl (lv_room (Nat.le_of_ble_eq_true rfl)) dL_law_247 ⟨Nat.le_of_ble_eq_true rfl, Nat.le_of_ble_eq_true rfl⟩) hS (fun q _ h => hFc q h) hFc (fun rr uu_ t H1 locs ht hvm hw hB hz1 hk1 hS => ?_)
  replace hw := hw.symm
  subst hw
  obtain ⟨hP1, -, hD1⟩ := hB
  rw [ht] at hP1
  obtain ⟨hP, hD⟩ := va_join (wr := (wX0 cy h q2 q3 q4 q5 q6 q7 q8 q9 c0 c1 r1.2 c3 c4 c5 c6 c7 c8 c9 c10 c11)) (w1 := (wX1 cy g p2 p3 p6 p7 p10 d0 d1 r2.2 d3 d4 d5 d6 d7 d8 d9 d10)) hP hD [9, 10, 11, 12, 13, 14] [0, 1, 2, 3, 4, 5, 6, 7, 8] rfl rfl (by decide) (by decide) hk1 hFc hP1 hD1
  clear hk1 hz1 hP1 hD1 ht hPc hDc hFc
  generalize H1 = H at hP hS ⊢
  have hP := hP.sub (ws' := ((wX0 cy h q2 q3 q4 q5 q6 q7 q8 q9 c0 c1 r1.2 c3 c4 c5 c6 c7 c8 c9 c10 c11) ++ (wX1 cy g p2 p3 p6 p7 p10 d0 d1 r2.2 d3 d4 d5 d6 d7 d8 d9 d10))) [0, 1, 2, 3, 4, 5, 6, 7, 8, 9, 10, 11, 12, 13, 14] rfl
  have hD := hD.sub (ws' := ((wX0 cy h q2 q3 q4 q5 q6 q7 q8 q9 c0 c1 r1.2 c3 c4 c5 c6 c7 c8 c9 c10 c11) ++ (wX1 cy g p2 p3 p6 p7 p10 d0 d1 r2.2 d3 d4 d5 d6 d7 d8 d9 d10))) [0, 1, 2, 3, 4, 5, 6, 7, 8, 9, 10, 11, 12, 13, 14] (by decide) rfl
  refine lv_icmp_eq (tgt := 725) hx hb dL_law_250 (by decide) (fun c_9 => ?_) (fun c_9 => ?_)
  · exact hnext c0 c1 r1.2 c3 c4 c5 c6 c7 c8 c9 c10 c11 d0 d1 r2.2 d3 d4 d5 d6 d7 d8 d9 d10 hR2 _ _ _ hP hD hS hl
  · exact absurd he c_9

set_option maxHeartbeats 4000000 in
set_option maxRecDepth 100000 in
theorem lk_bar {p : Program} {l : Launch} {e : Env} {s : State} {m : MethodId} {below : List Frame} {meth : Method} {c : Code} {dC : Nat → ClassId} {dI : Nat → Nat → Nat} {b L : Nat} {xs : Nat → Int32} (hL : L ≤ 2048) (C0 : lw_At p s m meth c b L xs) {R : z_XS → z_MS → Prop} (hop : zo_bar R) (cy : ClassId) (hK : va_K (dC, dI) vwCl [(cy, .int)] s) (h q2 q3 q4 q5 q6 q7 q8 q9 g p2 p3 p6 p7 p10 : Nat) (a : Nat) (ha : a + 4 ≤ L) (hnext : ∀ (c0 : Int32) (c1 : Int32) (c2 : Nat → Int32) (c3 : Nat → Int32) (c4 : Nat → Int32) (c5 : Nat → Int32) (c6 : Nat → Int32) (c7 : Nat → Int32) (c8 : Nat → Int32) (c9 : Nat → Int32) (c10 : Int32) (c11 : Int32) (d0 : Int32) (d1 : Int32) (d2 : Nat → Int32) (d3 : Nat → Int32) (d4 : Int32) (d5 : Int32) (d6 : Nat → Int32) (d7 : Nat → Int32) (d8 : Int32) (d9 : Int32) (d10 : Nat → Int32), R (c0, c1, c2, c3, c4, c5, c6, c7, c8, c9, c10, c11) (d0, d1, d2, d3, d4, d5, d6, d7, d8, d9, d10) → ∀ (H : Heap) (locs : List Loc) (ls : Array Slot), va_P (dC, dI) vwCl ((wX0 cy h q2 q3 q4 q5 q6 q7 q8 q9 c0 c1 c2 c3 c4 c5 c6 c7 c8 c9 c10 c11) ++ (wX1 cy g p2 p3 p6 p7 p10 d0 d1 d2 d3 d4 d5 d6 d7 d8 d9 d10)) H → va_D (fun q : Nat => s.heap.size ≤ q) ((wX0 cy h q2 q3 q4 q5 q6 q7 q8 q9 c0 c1 c2 c3 c4 c5 c6 c7 c8 c9 c10 c11) ++ (wX1 cy g p2 p3 p6 p7 p10 d0 d1 d2 d3 d4 d5 d6 d7 d8 d9 d10)) → va_S (fun q : Nat => s.heap.size ≤ q) s.heap H locs → lv_has ls 4 [(0, .ref b), (1, .ref h), (2, .ref g), (3, .int (nI a))] → W p l e room_1 s m #[Value.ref b] below meth c H locs 15 2911 (lw_Z below #[Value.ref b] s) (F0 m 725 ls [])) : ∀ (c0 : Int32) (c1 : Int32) (c2 : Nat → Int32) (c3 : Nat → Int32) (c4 : Nat → Int32) (c5 : Nat → Int32) (c6 : Nat → Int32) (c7 : Nat → Int32) (c8 : Nat → Int32) (c9 : Nat → Int32) (c10 : Int32) (c11 : Int32) (d0 : Int32) (d1 : Int32) (d2 : Nat → Int32) (d3 : Nat → Int32) (d4 : Int32) (d5 : Int32) (d6 : Nat → Int32) (d7 : Nat → Int32) (d8 : Int32) (d9 : Int32) (d10 : Nat → Int32) (hR : R (c0, c1, c2, c3, c4, c5, c6, c7, c8, c9, c10, c11) (d0, d1, d2, d3, d4, d5, d6, d7, d8, d9, d10)) (H : Heap) (locs : List Loc) (ls : Array Slot) (hP : va_P (dC, dI) vwCl ((wX0 cy h q2 q3 q4 q5 q6 q7 q8 q9 c0 c1 c2 c3 c4 c5 c6 c7 c8 c9 c10 c11) ++ (wX1 cy g p2 p3 p6 p7 p10 d0 d1 d2 d3 d4 d5 d6 d7 d8 d9 d10)) H) (hD : va_D (fun q : Nat => s.heap.size ≤ q) ((wX0 cy h q2 q3 q4 q5 q6 q7 q8 q9 c0 c1 c2 c3 c4 c5 c6 c7 c8 c9 c10 c11) ++ (wX1 cy g p2 p3 p6 p7 p10 d0 d1 d2 d3 d4 d5 d6 d7 d8 d9 d10))) (hS : va_S (fun q : Nat => s.heap.size ≤ q) s.heap H locs) (hl : lv_has ls 4 [(0, .ref b), (1, .ref h), (2, .ref g), (3, .int (nI a))]), W p l e room_1 s m #[Value.ref b] below meth c H locs 15 2911 (lw_Z below #[Value.ref b] s) (F0 m 255 ls []) := by
  intro c0 c1 c2 c3 c4 c5 c6 c7 c8 c9 c10 c11 d0 d1 d2 d3 d4 d5 d6 d7 d8 d9 d10 hR H locs ls hP hD hS hl
  obtain ⟨hx, hb, hr, hml, hown, hts, hX, hbl, hlocks, hgv⟩ := C0
  have hts := fun w h => hts w (wsL_law_in w h)
  have hA : ∀ q : Nat, s.heap.size ≤ q → (fun q : Nat => s.heap.size ≤ q) q := fun _ h => h
  have hbA : ¬ (fun q : Nat => s.heap.size ≤ q) b := Nat.not_le.mpr hbl
  have hi1 : vp_in (nI a + (1 : Int32)) L := by rw [show nI a + (1 : Int32) = nI (a + 1) from nI_add a 1]; exact vp_in_nI (by omega) (by omega)
  have hi2 : vp_in (nI a + (2 : Int32)) L := by rw [show nI a + (2 : Int32) = nI (a + 2) from nI_add a 2]; exact vp_in_nI (by omega) (by omega)
  have hi3 : vp_in (nI a + (3 : Int32)) L := by rw [show nI a + (3 : Int32) = nI (a + 3) from nI_add a 3]; exact vp_in_nI (by omega) (by omega)
  refine lv_aload_n hx hb dL_law_255 rfl (lv_at hl 1 rfl) ?_
  obtain ⟨N1, r1, N2, r2, hf1, hf2, he, hR2⟩ := hop c0 c1 c2 c3 c4 c5 c6 c7 c8 c9 c10 c11 d0 d1 d2 d3 d4 d5 d6 d7 d8 d9 d10  hR
  have hPc := hP.sub (ws' := (wX0 cy h q2 q3 q4 q5 q6 q7 q8 q9 c0 c1 c2 c3 c4 c5 c6 c7 c8 c9 c10 c11)) [0, 1, 2, 3, 4, 5, 6, 7, 8] rfl
  have hDc := hD.sub (ws' := (wX0 cy h q2 q3 q4 q5 q6 q7 q8 q9 c0 c1 c2 c3 c4 c5 c6 c7 c8 c9 c10 c11)) [0, 1, 2, 3, 4, 5, 6, 7, 8] (by decide) rfl
  have hKc := hK.sub (tys' := [(cy, .int)]) [0] rfl
  have hFc := va_free (wc := (wX0 cy h q2 q3 q4 q5 q6 q7 q8 q9 c0 c1 c2 c3 c4 c5 c6 c7 c8 c9 c10 c11)) hD hS hA [0, 1, 2, 3, 4, 5, 6, 7, 8] rfl
  refine va_calli (va_runV (As := []) (rest := []) ⟨hx, hb, hml, hown, hts⟩ (c_X0_bar N1 l dC dI cy h q2 q3 q4 q5 q6 q7 q8 q9 H.size c0 c1 c2 c3 c4 c5 c6 c7 c8 c9 c10 c11  r1 hf1) (cwV 0 hts gL_law_X0_bar rfl rfl rfl (by decide +kernel) ⟨Nat.le_of_ble_eq_true rfl, Nat.le_of_ble_eq_true rfl⟩) ⟨fun a U g mk q => by obtain ⟨q0, q1, qP, qK, qD⟩ := q; exact ⟨q0, q1, qP, va_K.moved (u := U) (U := U.calling g mk a) (Vm.Alike.refl U.vm) qK, qD⟩, va_recv hKc hPc (ci := 0) (q0 := 0) rfl rfl, fun U hU hW => ⟨rfl, by rw [hU], by rw [hU]; exact hPc, va_K.moved hW.alike hKc, hDc.weaken (fun _ _ _ _ => trivial)⟩⟩ rfl rfl hl.1 rfl (lv_room (Nat.le_of_ble_eq_true rfl)) dL_law_256 ⟨Nat.le_of_ble_eq_true rfl, Nat.le_of_ble_eq_true rfl⟩) hS (fun q _ h => hFc q h) hFc (fun rr uu_ t H1 locs ht hvm hw hB hz1 hk1 hS => ?_)
  replace hw := hw.symm
  subst hw
  obtain ⟨hP1, -, hD1⟩ := hB
  rw [ht] at hP1
  obtain ⟨hP, hD⟩ := va_join (wr := (wX1 cy g p2 p3 p6 p7 p10 d0 d1 d2 d3 d4 d5 d6 d7 d8 d9 d10)) (w1 := (wX0 cy h q2 q3 q4 q5 q6 q7 q8 q9 c0 c1 r1.2 c3 c4 c5 c6 c7 c8 c9 c10 c11)) hP hD [0, 1, 2, 3, 4, 5, 6, 7, 8] [9, 10, 11, 12, 13, 14] rfl rfl (by decide) (by decide) hk1 hFc hP1 hD1
  clear hk1 hz1 hP1 hD1 ht hPc hDc hFc
  generalize H1 = H at hP hS ⊢
  have hP := hP.sub (ws' := ((wX0 cy h q2 q3 q4 q5 q6 q7 q8 q9 c0 c1 r1.2 c3 c4 c5 c6 c7 c8 c9 c10 c11) ++ (wX1 cy g p2 p3 p6 p7 p10 d0 d1 d2 d3 d4 d5 d6 d7 d8 d9 d10))) [6, 7, 8, 9, 10, 11, 12, 13, 14, 0, 1, 2, 3, 4, 5] rfl
  have hD := hD.sub (ws' := ((wX0 cy h q2 q3 q4 q5 q6 q7 q8 q9 c0 c1 r1.2 c3 c4 c5 c6 c7 c8 c9 c10 c11) ++ (wX1 cy g p2 p3 p6 p7 p10 d0 d1 d2 d3 d4 d5 d6 d7 d8 d9 d10))) [6, 7, 8, 9, 10, 11, 12, 13, 14, 0, 1, 2, 3, 4, 5] (by decide) rfl
  refine lv_aload_n hx hb dL_law_259 rfl (lv_at hl 2 rfl) ?_
  have hPc := hP.sub (ws' := (wX1 cy g p2 p3 p6 p7 p10 d0 d1 d2 d3 d4 d5 d6 d7 d8 d9 d10)) [9, 10, 11, 12, 13, 14] rfl
  have hDc := hD.sub (ws' := (wX1 cy g p2 p3 p6 p7 p10 d0 d1 d2 d3 d4 d5 d6 d7 d8 d9 d10)) [9, 10, 11, 12, 13, 14] (by decide) rfl
  have hKc := hK.sub (tys' := [(cy, .int)]) [0] rfl
  have hFc := va_free (wc := (wX1 cy g p2 p3 p6 p7 p10 d0 d1 d2 d3 d4 d5 d6 d7 d8 d9 d10)) hD hS hA [9, 10, 11, 12, 13, 14] rfl
  refine va_calli (va_runV (As := []) (rest := [.int r1.1]) ⟨hx, hb, hml, hown, hts⟩ (c_X1_bar N2 l dC dI cy g p2 p3 p6 p7 p10 H.size d0 d1 d2 d3 d4 d5 d6 d7 d8 d9 d10  r2 hf2) (cwV 0 hts gL_law_X1_bar rfl rfl rfl (by decide +kernel) ⟨Nat.le_of_ble_eq_true rfl, Nat.le_of_ble_eq_true rfl⟩) ⟨fun a U g mk q => by obtain ⟨q0, q1, qP, qK, qD⟩ := q; exact ⟨q0, q1, qP, va_K.moved (u := U) (U := U.calling g mk a) (Vm.Alike.refl U.vm) qK, qD⟩, va_recv hKc hPc (ci := 1) (q0 := 0) rfl rfl, fun U hU hW => ⟨rfl, by rw [hU], by rw [hU]; exact hPc, va_K.moved hW.alike hKc, hDc.weaken (fun _ _ _ _ => trivial)⟩⟩ rfl rfl hl.1 rfl (lv_room (Nat.le_of_ble_eq_true rfl)) dL_law_260 ⟨Nat.le_of_ble_eq_true rfl, Nat.le_of_ble_eq_true rfl⟩) hS (fun q _ h => hFc q h) hFc (fun rr uu_ t H1 locs ht hvm hw hB hz1 hk1 hS => ?_)
  replace hw := hw.symm
  subst hw
  obtain ⟨hP1, -, hD1⟩ := hB
  rw [ht] at hP1
  obtain ⟨hP, hD⟩ := va_join (wr := (wX0 cy h q2 q3 q4 q5 q6 q7 q8 q9 c0 c1 r1.2 c3 c4 c5 c6 c7 c8 c9 c10 c11)) (w1 := (wX1 cy g p2 p3 p6 p7 p10 d0 d1 r2.2 d3 d4 d5 d6 d7 d8 d9 d10)) hP hD [9, 10, 11, 12, 13, 14] [0, 1, 2, 3, 4, 5, 6, 7, 8] rfl rfl (by decide) (by decide) hk1 hFc hP1 hD1
  clear hk1 hz1 hP1 hD1 ht hPc hDc hFc
  generalize H1 = H at hP hS ⊢
  have hP := hP.sub (ws' := ((wX0 cy h q2 q3 q4 q5 q6 q7 q8 q9 c0 c1 r1.2 c3 c4 c5 c6 c7 c8 c9 c10 c11) ++ (wX1 cy g p2 p3 p6 p7 p10 d0 d1 r2.2 d3 d4 d5 d6 d7 d8 d9 d10))) [0, 1, 2, 3, 4, 5, 6, 7, 8, 9, 10, 11, 12, 13, 14] rfl
  have hD := hD.sub (ws' := ((wX0 cy h q2 q3 q4 q5 q6 q7 q8 q9 c0 c1 r1.2 c3 c4 c5 c6 c7 c8 c9 c10 c11) ++ (wX1 cy g p2 p3 p6 p7 p10 d0 d1 r2.2 d3 d4 d5 d6 d7 d8 d9 d10))) [0, 1, 2, 3, 4, 5, 6, 7, 8, 9, 10, 11, 12, 13, 14] (by decide) rfl
  refine lv_icmp_eq (tgt := 725) hx hb dL_law_263 (by decide) (fun c_9 => ?_) (fun c_9 => ?_)
  · exact hnext c0 c1 r1.2 c3 c4 c5 c6 c7 c8 c9 c10 c11 d0 d1 r2.2 d3 d4 d5 d6 d7 d8 d9 d10 hR2 _ _ _ hP hD hS hl
  · exact absurd he c_9

set_option maxHeartbeats 4000000 in
set_option maxRecDepth 100000 in
theorem lk_least {p : Program} {l : Launch} {e : Env} {s : State} {m : MethodId} {below : List Frame} {meth : Method} {c : Code} {dC : Nat → ClassId} {dI : Nat → Nat → Nat} {b L : Nat} {xs : Nat → Int32} (hL : L ≤ 2048) (C0 : lw_At p s m meth c b L xs) {R : z_XS → z_MS → Prop} (hop : zo_least R) (cy : ClassId) (hK : va_K (dC, dI) vwCl [(cy, .int)] s) (h q2 q3 q4 q5 q6 q7 q8 q9 g p2 p3 p6 p7 p10 : Nat) (a : Nat) (ha : a + 4 ≤ L) (hnext : ∀ (c0 : Int32) (c1 : Int32) (c2 : Nat → Int32) (c3 : Nat → Int32) (c4 : Nat → Int32) (c5 : Nat → Int32) (c6 : Nat → Int32) (c7 : Nat → Int32) (c8 : Nat → Int32) (c9 : Nat → Int32) (c10 : Int32) (c11 : Int32) (d0 : Int32) (d1 : Int32) (d2 : Nat → Int32) (d3 : Nat → Int32) (d4 : Int32) (d5 : Int32) (d6 : Nat → Int32) (d7 : Nat → Int32) (d8 : Int32) (d9 : Int32) (d10 : Nat → Int32), R (c0, c1, c2, c3, c4, c5, c6, c7, c8, c9, c10, c11) (d0, d1, d2, d3, d4, d5, d6, d7, d8, d9, d10) → ∀ (H : Heap) (locs : List Loc) (ls : Array Slot), va_P (dC, dI) vwCl ((wX0 cy h q2 q3 q4 q5 q6 q7 q8 q9 c0 c1 c2 c3 c4 c5 c6 c7 c8 c9 c10 c11) ++ (wX1 cy g p2 p3 p6 p7 p10 d0 d1 d2 d3 d4 d5 d6 d7 d8 d9 d10)) H → va_D (fun q : Nat => s.heap.size ≤ q) ((wX0 cy h q2 q3 q4 q5 q6 q7 q8 q9 c0 c1 c2 c3 c4 c5 c6 c7 c8 c9 c10 c11) ++ (wX1 cy g p2 p3 p6 p7 p10 d0 d1 d2 d3 d4 d5 d6 d7 d8 d9 d10)) → va_S (fun q : Nat => s.heap.size ≤ q) s.heap H locs → lv_has ls 4 [(0, .ref b), (1, .ref h), (2, .ref g), (3, .int (nI a))] → W p l e room_1 s m #[Value.ref b] below meth c H locs 15 2911 (lw_Z below #[Value.ref b] s) (F0 m 725 ls [])) : ∀ (c0 : Int32) (c1 : Int32) (c2 : Nat → Int32) (c3 : Nat → Int32) (c4 : Nat → Int32) (c5 : Nat → Int32) (c6 : Nat → Int32) (c7 : Nat → Int32) (c8 : Nat → Int32) (c9 : Nat → Int32) (c10 : Int32) (c11 : Int32) (d0 : Int32) (d1 : Int32) (d2 : Nat → Int32) (d3 : Nat → Int32) (d4 : Int32) (d5 : Int32) (d6 : Nat → Int32) (d7 : Nat → Int32) (d8 : Int32) (d9 : Int32) (d10 : Nat → Int32) (hR : R (c0, c1, c2, c3, c4, c5, c6, c7, c8, c9, c10, c11) (d0, d1, d2, d3, d4, d5, d6, d7, d8, d9, d10)) (H : Heap) (locs : List Loc) (ls : Array Slot) (hP : va_P (dC, dI) vwCl ((wX0 cy h q2 q3 q4 q5 q6 q7 q8 q9 c0 c1 c2 c3 c4 c5 c6 c7 c8 c9 c10 c11) ++ (wX1 cy g p2 p3 p6 p7 p10 d0 d1 d2 d3 d4 d5 d6 d7 d8 d9 d10)) H) (hD : va_D (fun q : Nat => s.heap.size ≤ q) ((wX0 cy h q2 q3 q4 q5 q6 q7 q8 q9 c0 c1 c2 c3 c4 c5 c6 c7 c8 c9 c10 c11) ++ (wX1 cy g p2 p3 p6 p7 p10 d0 d1 d2 d3 d4 d5 d6 d7 d8 d9 d10))) (hS : va_S (fun q : Nat => s.heap.size ≤ q) s.heap H locs) (hl : lv_has ls 4 [(0, .ref b), (1, .ref h), (2, .ref g), (3, .int (nI a))]), W p l e room_1 s m #[Value.ref b] below meth c H locs 15 2911 (lw_Z below #[Value.ref b] s) (F0 m 268 ls []) := by
  intro c0 c1 c2 c3 c4 c5 c6 c7 c8 c9 c10 c11 d0 d1 d2 d3 d4 d5 d6 d7 d8 d9 d10 hR H locs ls hP hD hS hl
  obtain ⟨hx, hb, hr, hml, hown, hts, hX, hbl, hlocks, hgv⟩ := C0
  have hts := fun w h => hts w (wsL_law_in w h)
  have hA : ∀ q : Nat, s.heap.size ≤ q → (fun q : Nat => s.heap.size ≤ q) q := fun _ h => h
  have hbA : ¬ (fun q : Nat => s.heap.size ≤ q) b := Nat.not_le.mpr hbl
  have hi1 : vp_in (nI a + (1 : Int32)) L := by rw [show nI a + (1 : Int32) = nI (a + 1) from nI_add a 1]; exact vp_in_nI (by omega) (by omega)
  have hi2 : vp_in (nI a + (2 : Int32)) L := by rw [show nI a + (2 : Int32) = nI (a + 2) from nI_add a 2]; exact vp_in_nI (by omega) (by omega)
  have hi3 : vp_in (nI a + (3 : Int32)) L := by rw [show nI a + (3 : Int32) = nI (a + 3) from nI_add a 3]; exact vp_in_nI (by omega) (by omega)
  refine lv_aload_n hx hb dL_law_268 rfl (lv_at hl 1 rfl) ?_
  refine lv_aload_n hx hb dL_law_269 rfl (lv_at hl 0 rfl) ?_
  refine lv_iload_n hx hb dL_law_270 rfl (lv_at hl 3 rfl) ?_
  refine lv_iconst (v := (1 : Int32)) hx hb dL_law_271 (by decide) ?_
  refine lv_iadd hx hb dL_law_272 ?_
  refine va_sld hx hb hX hbl hbA hS hi1 dL_law_273 ?_
  obtain ⟨N1, r1, N2, r2, hf1, hf2, he, hR2⟩ := hop c0 c1 c2 c3 c4 c5 c6 c7 c8 c9 c10 c11 d0 d1 d2 d3 d4 d5 d6 d7 d8 d9 d10 (xs ((nI a) + (1 : Int32)).toNatClampNeg) hR
  have hPc := hP.sub (ws' := (wX0 cy h q2 q3 q4 q5 q6 q7 q8 q9 c0 c1 c2 c3 c4 c5 c6 c7 c8 c9 c10 c11)) [0, 1, 2, 3, 4, 5, 6, 7, 8] rfl
  have hDc := hD.sub (ws' := (wX0 cy h q2 q3 q4 q5 q6 q7 q8 q9 c0 c1 c2 c3 c4 c5 c6 c7 c8 c9 c10 c11)) [0, 1, 2, 3, 4, 5, 6, 7, 8] (by decide) rfl
  have hKc := hK.sub (tys' := [(cy, .int)]) [0] rfl
  have hFc := va_free (wc := (wX0 cy h q2 q3 q4 q5 q6 q7 q8 q9 c0 c1 c2 c3 c4 c5 c6 c7 c8 c9 c10 c11)) hD hS hA [0, 1, 2, 3, 4, 5, 6, 7, 8] rfl
  refine va_calli (va_runV (As := [.int (xs ((nI a) + (1 : Int32)).toNatClampNeg)]) (rest := []) ⟨hx, hb, hml, hown, hts⟩ (c_X0_least N1 l dC dI cy h q2 q3 q4 q5 q6 q7 q8 q9 H.size c0 c1 c2 c3 c4 c5 c6 c7 c8 c9 c10 c11 (xs ((nI a) + (1 : Int32)).toNatClampNeg) r1 hf1) (cwV 1 hts gL_law_X0_least rfl rfl rfl (by decide +kernel) ⟨Nat.le_of_ble_eq_true rfl, Nat.le_of_ble_eq_true rfl⟩) ⟨fun a U g mk q => by obtain ⟨q0, q1, qP, qK, qD⟩ := q; exact ⟨q0, q1, qP, va_K.moved (u := U) (U := U.calling g mk a) (Vm.Alike.refl U.vm) qK, qD⟩, va_recv hKc hPc (ci := 0) (q0 := 0) rfl rfl, fun U hU hW => ⟨rfl, by rw [hU], by rw [hU]; exact hPc, va_K.moved hW.alike hKc, hDc.weaken (fun _ _ _ _ => trivial)⟩⟩ rfl rfl hl.1 rfl (lv_room (Nat.le_of_ble_eq_true rfl)) dL_law_274 ⟨Nat.le_of_ble_eq_true rfl, Nat.le_of_ble_eq_true rfl⟩) hS (fun q _ h => hFc q h) hFc (fun rr uu_ t H1 locs ht hvm hw hB hz1 hk1 hS => ?_)
  replace hw := hw.symm
  subst hw
  obtain ⟨hP1, -, hD1⟩ := hB
  rw [ht] at hP1
  obtain ⟨hP, hD⟩ := va_join (wr := (wX1 cy g p2 p3 p6 p7 p10 d0 d1 d2 d3 d4 d5 d6 d7 d8 d9 d10)) (w1 := (wX0 cy h q2 q3 q4 q5 q6 q7 q8 q9 c0 r1.2 c2 c3 c4 c5 c6 c7 c8 c9 c10 c11)) hP hD [0, 1, 2, 3, 4, 5, 6, 7, 8] [9, 10, 11, 12, 13, 14] rfl rfl (by decide) (by decide) hk1 hFc hP1 hD1
  clear hk1 hz1 hP1 hD1 ht hPc hDc hFc
  generalize H1 = H at hP hS ⊢
  have hP := hP.sub (ws' := ((wX0 cy h q2 q3 q4 q5 q6 q7 q8 q9 c0 r1.2 c2 c3 c4 c5 c6 c7 c8 c9 c10 c11) ++ (wX1 cy g p2 p3 p6 p7 p10 d0 d1 d2 d3 d4 d5 d6 d7 d8 d9 d10))) [6, 7, 8, 9, 10, 11, 12, 13, 14, 0, 1, 2, 3, 4, 5] rfl
  have hD := hD.sub (ws' := ((wX0 cy h q2 q3 q4 q5 q6 q7 q8 q9 c0 r1.2 c2 c3 c4 c5 c6 c7 c8 c9 c10 c11) ++ (wX1 cy g p2 p3 p6 p7 p10 d0 d1 d2 d3 d4 d5 d6 d7 d8 d9 d10))) [6, 7, 8, 9, 10, 11, 12, 13, 14, 0, 1, 2, 3, 4, 5] (by decide) rfl
  refine lv_aload_n hx hb dL_law_277 rfl (lv_at hl 2 rfl) ?_
  refine lv_aload_n hx hb dL_law_278 rfl (lv_at hl 0 rfl) ?_
  refine lv_iload_n hx hb dL_law_279 rfl (lv_at hl 3 rfl) ?_
  refine lv_iconst (v := (1 : Int32)) hx hb dL_law_280 (by decide) ?_
  refine lv_iadd hx hb dL_law_281 ?_
  refine va_sld hx hb hX hbl hbA hS hi1 dL_law_282 ?_
  have hPc := hP.sub (ws' := (wX1 cy g p2 p3 p6 p7 p10 d0 d1 d2 d3 d4 d5 d6 d7 d8 d9 d10)) [9, 10, 11, 12, 13, 14] rfl
  have hDc := hD.sub (ws' := (wX1 cy g p2 p3 p6 p7 p10 d0 d1 d2 d3 d4 d5 d6 d7 d8 d9 d10)) [9, 10, 11, 12, 13, 14] (by decide) rfl
  have hKc := hK.sub (tys' := [(cy, .int)]) [0] rfl
  have hFc := va_free (wc := (wX1 cy g p2 p3 p6 p7 p10 d0 d1 d2 d3 d4 d5 d6 d7 d8 d9 d10)) hD hS hA [9, 10, 11, 12, 13, 14] rfl
  refine va_calli (va_runV (As := [.int (xs ((nI a) + (1 : Int32)).toNatClampNeg)]) (rest := [.int r1.1]) ⟨hx, hb, hml, hown, hts⟩ (c_X1_least N2 l dC dI cy g p2 p3 p6 p7 p10 H.size d0 d1 d2 d3 d4 d5 d6 d7 d8 d9 d10 (xs ((nI a) + (1 : Int32)).toNatClampNeg) r2 hf2) (cwV 1 hts gL_law_X1_least rfl rfl rfl (by decide +kernel) ⟨Nat.le_of_ble_eq_true rfl, Nat.le_of_ble_eq_true rfl⟩) ⟨fun a U g mk q => by obtain ⟨q0, q1, qP, qK, qD⟩ := q; exact ⟨q0, q1, qP, va_K.moved (u := U) (U := U.calling g mk a) (Vm.Alike.refl U.vm) qK, qD⟩, va_recv hKc hPc (ci := 1) (q0 := 0) rfl rfl, fun U hU hW => ⟨rfl, by rw [hU], by rw [hU]; exact hPc, va_K.moved hW.alike hKc, hDc.weaken (fun _ _ _ _ => trivial)⟩⟩ rfl rfl hl.1 rfl (lv_room (Nat.le_of_ble_eq_true rfl)) dL_law_283 ⟨Nat.le_of_ble_eq_true rfl, Nat.le_of_ble_eq_true rfl⟩) hS (fun q _ h => hFc q h) hFc (fun rr uu_ t H1 locs ht hvm hw hB hz1 hk1 hS => ?_)
  replace hw := hw.symm
  subst hw
  obtain ⟨hP1, -, hD1⟩ := hB
  rw [ht] at hP1
  obtain ⟨hP, hD⟩ := va_join (wr := (wX0 cy h q2 q3 q4 q5 q6 q7 q8 q9 c0 r1.2 c2 c3 c4 c5 c6 c7 c8 c9 c10 c11)) (w1 := (wX1 cy g p2 p3 p6 p7 p10 d0 r2.2 d2 d3 d4 d5 d6 d7 d8 d9 d10)) hP hD [9, 10, 11, 12, 13, 14] [0, 1, 2, 3, 4, 5, 6, 7, 8] rfl rfl (by decide) (by decide) hk1 hFc hP1 hD1
  clear hk1 hz1 hP1 hD1 ht hPc hDc hFc
  generalize H1 = H at hP hS ⊢
  have hP := hP.sub (ws' := ((wX0 cy h q2 q3 q4 q5 q6 q7 q8 q9 c0 r1.2 c2 c3 c4 c5 c6 c7 c8 c9 c10 c11) ++ (wX1 cy g p2 p3 p6 p7 p10 d0 r2.2 d2 d3 d4 d5 d6 d7 d8 d9 d10))) [0, 1, 2, 3, 4, 5, 6, 7, 8, 9, 10, 11, 12, 13, 14] rfl
  have hD := hD.sub (ws' := ((wX0 cy h q2 q3 q4 q5 q6 q7 q8 q9 c0 r1.2 c2 c3 c4 c5 c6 c7 c8 c9 c10 c11) ++ (wX1 cy g p2 p3 p6 p7 p10 d0 r2.2 d2 d3 d4 d5 d6 d7 d8 d9 d10))) [0, 1, 2, 3, 4, 5, 6, 7, 8, 9, 10, 11, 12, 13, 14] (by decide) rfl
  refine lv_icmp_eq (tgt := 725) hx hb dL_law_286 (by decide) (fun c_9 => ?_) (fun c_9 => ?_)
  · exact hnext c0 r1.2 c2 c3 c4 c5 c6 c7 c8 c9 c10 c11 d0 r2.2 d2 d3 d4 d5 d6 d7 d8 d9 d10 hR2 _ _ _ hP hD hS hl
  · exact absurd he c_9

set_option maxHeartbeats 4000000 in
set_option maxRecDepth 100000 in
theorem lk_ways {p : Program} {l : Launch} {e : Env} {s : State} {m : MethodId} {below : List Frame} {meth : Method} {c : Code} {dC : Nat → ClassId} {dI : Nat → Nat → Nat} {b L : Nat} {xs : Nat → Int32} (hL : L ≤ 2048) (C0 : lw_At p s m meth c b L xs) {R : z_XS → z_MS → Prop} (hop : zo_ways R) (cy : ClassId) (hK : va_K (dC, dI) vwCl [(cy, .int)] s) (h q2 q3 q4 q5 q6 q7 q8 q9 g p2 p3 p6 p7 p10 : Nat) (a : Nat) (ha : a + 4 ≤ L) (hnext : ∀ (c0 : Int32) (c1 : Int32) (c2 : Nat → Int32) (c3 : Nat → Int32) (c4 : Nat → Int32) (c5 : Nat → Int32) (c6 : Nat → Int32) (c7 : Nat → Int32) (c8 : Nat → Int32) (c9 : Nat → Int32) (c10 : Int32) (c11 : Int32) (d0 : Int32) (d1 : Int32) (d2 : Nat → Int32) (d3 : Nat → Int32) (d4 : Int32) (d5 : Int32) (d6 : Nat → Int32) (d7 : Nat → Int32) (d8 : Int32) (d9 : Int32) (d10 : Nat → Int32), R (c0, c1, c2, c3, c4, c5, c6, c7, c8, c9, c10, c11) (d0, d1, d2, d3, d4, d5, d6, d7, d8, d9, d10) → ∀ (H : Heap) (locs : List Loc) (ls : Array Slot), va_P (dC, dI) vwCl ((wX0 cy h q2 q3 q4 q5 q6 q7 q8 q9 c0 c1 c2 c3 c4 c5 c6 c7 c8 c9 c10 c11) ++ (wX1 cy g p2 p3 p6 p7 p10 d0 d1 d2 d3 d4 d5 d6 d7 d8 d9 d10)) H → va_D (fun q : Nat => s.heap.size ≤ q) ((wX0 cy h q2 q3 q4 q5 q6 q7 q8 q9 c0 c1 c2 c3 c4 c5 c6 c7 c8 c9 c10 c11) ++ (wX1 cy g p2 p3 p6 p7 p10 d0 d1 d2 d3 d4 d5 d6 d7 d8 d9 d10)) → va_S (fun q : Nat => s.heap.size ≤ q) s.heap H locs → lv_has ls 4 [(0, .ref b), (1, .ref h), (2, .ref g), (3, .int (nI a))] → W p l e room_1 s m #[Value.ref b] below meth c H locs 15 2911 (lw_Z below #[Value.ref b] s) (F0 m 725 ls [])) : ∀ (c0 : Int32) (c1 : Int32) (c2 : Nat → Int32) (c3 : Nat → Int32) (c4 : Nat → Int32) (c5 : Nat → Int32) (c6 : Nat → Int32) (c7 : Nat → Int32) (c8 : Nat → Int32) (c9 : Nat → Int32) (c10 : Int32) (c11 : Int32) (d0 : Int32) (d1 : Int32) (d2 : Nat → Int32) (d3 : Nat → Int32) (d4 : Int32) (d5 : Int32) (d6 : Nat → Int32) (d7 : Nat → Int32) (d8 : Int32) (d9 : Int32) (d10 : Nat → Int32) (hR : R (c0, c1, c2, c3, c4, c5, c6, c7, c8, c9, c10, c11) (d0, d1, d2, d3, d4, d5, d6, d7, d8, d9, d10)) (H : Heap) (locs : List Loc) (ls : Array Slot) (hP : va_P (dC, dI) vwCl ((wX0 cy h q2 q3 q4 q5 q6 q7 q8 q9 c0 c1 c2 c3 c4 c5 c6 c7 c8 c9 c10 c11) ++ (wX1 cy g p2 p3 p6 p7 p10 d0 d1 d2 d3 d4 d5 d6 d7 d8 d9 d10)) H) (hD : va_D (fun q : Nat => s.heap.size ≤ q) ((wX0 cy h q2 q3 q4 q5 q6 q7 q8 q9 c0 c1 c2 c3 c4 c5 c6 c7 c8 c9 c10 c11) ++ (wX1 cy g p2 p3 p6 p7 p10 d0 d1 d2 d3 d4 d5 d6 d7 d8 d9 d10))) (hS : va_S (fun q : Nat => s.heap.size ≤ q) s.heap H locs) (hl : lv_has ls 4 [(0, .ref b), (1, .ref h), (2, .ref g), (3, .int (nI a))]), W p l e room_1 s m #[Value.ref b] below meth c H locs 15 2911 (lw_Z below #[Value.ref b] s) (F0 m 291 ls []) := by
  intro c0 c1 c2 c3 c4 c5 c6 c7 c8 c9 c10 c11 d0 d1 d2 d3 d4 d5 d6 d7 d8 d9 d10 hR H locs ls hP hD hS hl
  obtain ⟨hx, hb, hr, hml, hown, hts, hX, hbl, hlocks, hgv⟩ := C0
  have hts := fun w h => hts w (wsL_law_in w h)
  have hA : ∀ q : Nat, s.heap.size ≤ q → (fun q : Nat => s.heap.size ≤ q) q := fun _ h => h
  have hbA : ¬ (fun q : Nat => s.heap.size ≤ q) b := Nat.not_le.mpr hbl
  have hi1 : vp_in (nI a + (1 : Int32)) L := by rw [show nI a + (1 : Int32) = nI (a + 1) from nI_add a 1]; exact vp_in_nI (by omega) (by omega)
  have hi2 : vp_in (nI a + (2 : Int32)) L := by rw [show nI a + (2 : Int32) = nI (a + 2) from nI_add a 2]; exact vp_in_nI (by omega) (by omega)
  have hi3 : vp_in (nI a + (3 : Int32)) L := by rw [show nI a + (3 : Int32) = nI (a + 3) from nI_add a 3]; exact vp_in_nI (by omega) (by omega)
  refine lv_aload_n hx hb dL_law_291 rfl (lv_at hl 1 rfl) ?_
  obtain ⟨N1, r1, N2, r2, hf1, hf2, he, hR2⟩ := hop c0 c1 c2 c3 c4 c5 c6 c7 c8 c9 c10 c11 d0 d1 d2 d3 d4 d5 d6 d7 d8 d9 d10  hR
  have hPc := hP.sub (ws' := (wX0 cy h q2 q3 q4 q5 q6 q7 q8 q9 c0 c1 c2 c3 c4 c5 c6 c7 c8 c9 c10 c11)) [0, 1, 2, 3, 4, 5, 6, 7, 8] rfl
  have hDc := hD.sub (ws' := (wX0 cy h q2 q3 q4 q5 q6 q7 q8 q9 c0 c1 c2 c3 c4 c5 c6 c7 c8 c9 c10 c11)) [0, 1, 2, 3, 4, 5, 6, 7, 8] (by decide) rfl
  have hKc := hK.sub (tys' := [(cy, .int)]) [0] rfl
  have hFc := va_free (wc := (wX0 cy h q2 q3 q4 q5 q6 q7 q8 q9 c0 c1 c2 c3 c4 c5 c6 c7 c8 c9 c10 c11)) hD hS hA [0, 1, 2, 3, 4, 5, 6, 7, 8] rfl
  refine va_calli (va_runV (As := []) (rest := []) ⟨hx, hb, hml, hown, hts⟩ (c_X0_ways N1 l dC dI cy h q2 q3 q4 q5 q6 q7 q8 q9 H.size c0 c1 c2 c3 c4 c5 c6 c7 c8 c9 c10 c11  r1 hf1) (cwV 0 hts gL_law_X0_ways rfl rfl rfl (by decide +kernel) ⟨Nat.le_of_ble_eq_true rfl, Nat.le_of_ble_eq_true rfl⟩) ⟨fun a U g mk q => by obtain ⟨q0, q1, qP, qK, qD⟩ := q; exact ⟨q0, q1, qP, va_K.moved (u := U) (U := U.calling g mk a) (Vm.Alike.refl U.vm) qK, qD⟩, va_recv hKc hPc (ci := 0) (q0 := 0) rfl rfl, fun U hU hW => ⟨rfl, by rw [hU], by rw [hU]; exact hPc, va_K.moved hW.alike hKc, hDc.weaken (fun _ _ _ _ => trivial)⟩⟩ rfl rfl hl.1 rfl (lv_room (Nat.le_of_ble_eq_true rfl)) dL_law_292 ⟨Nat.le_of_ble_eq_true rfl, Nat.le_of_ble_eq_true rfl⟩) hS (fun q _ h => hFc q h) hFc (fun rr uu_ t H1 locs ht hvm hw hB hz1 hk1 hS => ?_)
  replace hw := hw.symm
  subst hw
  obtain ⟨hP1, -, hD1⟩ := hB
  rw [ht] at hP1
  obtain ⟨hP, hD⟩ := va_join (wr := (wX1 cy g p2 p3 p6 p7 p10 d0 d1 d2 d3 d4 d5 d6 d7 d8 d9 d10)) (w1 := (wX0 cy h q2 q3 q4 q5 q6 q7 q8 q9 c0 c1 c2 c3 r1.2.1 r1.2.2.1 r1.2.2.2.1 r1.2.2.2.2 c8 c9 c10 c11)) hP hD [0, 1, 2, 3, 4, 5, 6, 7, 8] [9, 10, 11, 12, 13, 14] rfl rfl (by decide) (by decide) hk1 hFc hP1 hD1
  clear hk1 hz1 hP1 hD1 ht hPc hDc hFc
  generalize H1 = H at hP hS ⊢
  have hP := hP.sub (ws' := ((wX0 cy h q2 q3 q4 q5 q6 q7 q8 q9 c0 c1 c2 c3 r1.2.1 r1.2.2.1 r1.2.2.2.1 r1.2.2.2.2 c8 c9 c10 c11) ++ (wX1 cy g p2 p3 p6 p7 p10 d0 d1 d2 d3 d4 d5 d6 d7 d8 d9 d10))) [6, 7, 8, 9, 10, 11, 12, 13, 14, 0, 1, 2, 3, 4, 5] rfl
  have hD := hD.sub (ws' := ((wX0 cy h q2 q3 q4 q5 q6 q7 q8 q9 c0 c1 c2 c3 r1.2.1 r1.2.2.1 r1.2.2.2.1 r1.2.2.2.2 c8 c9 c10 c11) ++ (wX1 cy g p2 p3 p6 p7 p10 d0 d1 d2 d3 d4 d5 d6 d7 d8 d9 d10))) [6, 7, 8, 9, 10, 11, 12, 13, 14, 0, 1, 2, 3, 4, 5] (by decide) rfl
  refine lv_aload_n hx hb dL_law_295 rfl (lv_at hl 2 rfl) ?_
  have hPc := hP.sub (ws' := (wX1 cy g p2 p3 p6 p7 p10 d0 d1 d2 d3 d4 d5 d6 d7 d8 d9 d10)) [9, 10, 11, 12, 13, 14] rfl
  have hDc := hD.sub (ws' := (wX1 cy g p2 p3 p6 p7 p10 d0 d1 d2 d3 d4 d5 d6 d7 d8 d9 d10)) [9, 10, 11, 12, 13, 14] (by decide) rfl
  have hKc := hK.sub (tys' := [(cy, .int)]) [0] rfl
  have hFc := va_free (wc := (wX1 cy g p2 p3 p6 p7 p10 d0 d1 d2 d3 d4 d5 d6 d7 d8 d9 d10)) hD hS hA [9, 10, 11, 12, 13, 14] rfl
  refine va_calli (va_runV (As := []) (rest := [.int r1.1]) ⟨hx, hb, hml, hown, hts⟩ (c_X1_ways N2 l dC dI cy g p2 p3 p6 p7 p10 H.size d0 d1 d2 d3 d4 d5 d6 d7 d8 d9 d10  r2 hf2) (cwV 0 hts gL_law_X1_ways rfl rfl rfl (by decide +kernel) ⟨Nat.le_of_ble_eq_true rfl, Nat.le_of_ble_eq_true rfl⟩) ⟨fun a U g mk q => by obtain ⟨q0, q1, qP, qK, qD⟩ := q; exact ⟨q0, q1, qP, va_K.moved (u := U) (U := U.calling g mk a) (Vm.Alike.refl U.vm) qK, qD⟩, va_recv hKc hPc (ci := 1) (q0 := 0) rfl rfl, fun U hU hW => ⟨rfl, by rw [hU], by rw [hU]; exact hPc, va_K.moved hW.alike hKc, hDc.weaken (fun _ _ _ _ => trivial)⟩⟩ rfl rfl hl.1 rfl (lv_room (Nat.le_of_ble_eq_true rfl)) dL_law_296 ⟨Nat.le_of_ble_eq_true rfl, Nat.le_of_ble_eq_true rfl⟩) hS (fun q _ h => hFc q h) hFc (fun rr uu_ t H1 locs ht hvm hw hB hz1 hk1 hS => ?_)
  replace hw := hw.symm
  subst hw
  obtain ⟨hP1, -, hD1⟩ := hB
  rw [ht] at hP1
  obtain ⟨hP, hD⟩ := va_join (wr := (wX0 cy h q2 q3 q4 q5 q6 q7 q8 q9 c0 c1 c2 c3 r1.2.1 r1.2.2.1 r1.2.2.2.1 r1.2.2.2.2 c8 c9 c10 c11)) (w1 := (wX1 cy g p2 p3 p6 p7 p10 d0 d1 d2 d3 r2.2.1 r2.2.2.1 r2.2.2.2 d7 d8 d9 d10)) hP hD [9, 10, 11, 12, 13, 14] [0, 1, 2, 3, 4, 5, 6, 7, 8] rfl rfl (by decide) (by decide) hk1 hFc hP1 hD1
  clear hk1 hz1 hP1 hD1 ht hPc hDc hFc
  generalize H1 = H at hP hS ⊢
  have hP := hP.sub (ws' := ((wX0 cy h q2 q3 q4 q5 q6 q7 q8 q9 c0 c1 c2 c3 r1.2.1 r1.2.2.1 r1.2.2.2.1 r1.2.2.2.2 c8 c9 c10 c11) ++ (wX1 cy g p2 p3 p6 p7 p10 d0 d1 d2 d3 r2.2.1 r2.2.2.1 r2.2.2.2 d7 d8 d9 d10))) [0, 1, 2, 3, 4, 5, 6, 7, 8, 9, 10, 11, 12, 13, 14] rfl
  have hD := hD.sub (ws' := ((wX0 cy h q2 q3 q4 q5 q6 q7 q8 q9 c0 c1 c2 c3 r1.2.1 r1.2.2.1 r1.2.2.2.1 r1.2.2.2.2 c8 c9 c10 c11) ++ (wX1 cy g p2 p3 p6 p7 p10 d0 d1 d2 d3 r2.2.1 r2.2.2.1 r2.2.2.2 d7 d8 d9 d10))) [0, 1, 2, 3, 4, 5, 6, 7, 8, 9, 10, 11, 12, 13, 14] (by decide) rfl
  refine lv_icmp_eq (tgt := 725) hx hb dL_law_299 (by decide) (fun c_9 => ?_) (fun c_9 => ?_)
  · exact hnext c0 c1 c2 c3 r1.2.1 r1.2.2.1 r1.2.2.2.1 r1.2.2.2.2 c8 c9 c10 c11 d0 d1 d2 d3 r2.2.1 r2.2.2.1 r2.2.2.2 d7 d8 d9 d10 hR2 _ _ _ hP hD hS hl
  · exact absurd he c_9

set_option maxHeartbeats 4000000 in
set_option maxRecDepth 100000 in
theorem lk_free {p : Program} {l : Launch} {e : Env} {s : State} {m : MethodId} {below : List Frame} {meth : Method} {c : Code} {dC : Nat → ClassId} {dI : Nat → Nat → Nat} {b L : Nat} {xs : Nat → Int32} (hL : L ≤ 2048) (C0 : lw_At p s m meth c b L xs) {R : z_XS → z_MS → Prop} (hop : zo_free R) (cy : ClassId) (hK : va_K (dC, dI) vwCl [(cy, .int)] s) (h q2 q3 q4 q5 q6 q7 q8 q9 g p2 p3 p6 p7 p10 : Nat) (a : Nat) (ha : a + 4 ≤ L) (hnext : ∀ (c0 : Int32) (c1 : Int32) (c2 : Nat → Int32) (c3 : Nat → Int32) (c4 : Nat → Int32) (c5 : Nat → Int32) (c6 : Nat → Int32) (c7 : Nat → Int32) (c8 : Nat → Int32) (c9 : Nat → Int32) (c10 : Int32) (c11 : Int32) (d0 : Int32) (d1 : Int32) (d2 : Nat → Int32) (d3 : Nat → Int32) (d4 : Int32) (d5 : Int32) (d6 : Nat → Int32) (d7 : Nat → Int32) (d8 : Int32) (d9 : Int32) (d10 : Nat → Int32), R (c0, c1, c2, c3, c4, c5, c6, c7, c8, c9, c10, c11) (d0, d1, d2, d3, d4, d5, d6, d7, d8, d9, d10) → ∀ (H : Heap) (locs : List Loc) (ls : Array Slot), va_P (dC, dI) vwCl ((wX0 cy h q2 q3 q4 q5 q6 q7 q8 q9 c0 c1 c2 c3 c4 c5 c6 c7 c8 c9 c10 c11) ++ (wX1 cy g p2 p3 p6 p7 p10 d0 d1 d2 d3 d4 d5 d6 d7 d8 d9 d10)) H → va_D (fun q : Nat => s.heap.size ≤ q) ((wX0 cy h q2 q3 q4 q5 q6 q7 q8 q9 c0 c1 c2 c3 c4 c5 c6 c7 c8 c9 c10 c11) ++ (wX1 cy g p2 p3 p6 p7 p10 d0 d1 d2 d3 d4 d5 d6 d7 d8 d9 d10)) → va_S (fun q : Nat => s.heap.size ≤ q) s.heap H locs → lv_has ls 4 [(0, .ref b), (1, .ref h), (2, .ref g), (3, .int (nI a))] → W p l e room_1 s m #[Value.ref b] below meth c H locs 15 2911 (lw_Z below #[Value.ref b] s) (F0 m 725 ls [])) : ∀ (c0 : Int32) (c1 : Int32) (c2 : Nat → Int32) (c3 : Nat → Int32) (c4 : Nat → Int32) (c5 : Nat → Int32) (c6 : Nat → Int32) (c7 : Nat → Int32) (c8 : Nat → Int32) (c9 : Nat → Int32) (c10 : Int32) (c11 : Int32) (d0 : Int32) (d1 : Int32) (d2 : Nat → Int32) (d3 : Nat → Int32) (d4 : Int32) (d5 : Int32) (d6 : Nat → Int32) (d7 : Nat → Int32) (d8 : Int32) (d9 : Int32) (d10 : Nat → Int32) (hR : R (c0, c1, c2, c3, c4, c5, c6, c7, c8, c9, c10, c11) (d0, d1, d2, d3, d4, d5, d6, d7, d8, d9, d10)) (H : Heap) (locs : List Loc) (ls : Array Slot) (hP : va_P (dC, dI) vwCl ((wX0 cy h q2 q3 q4 q5 q6 q7 q8 q9 c0 c1 c2 c3 c4 c5 c6 c7 c8 c9 c10 c11) ++ (wX1 cy g p2 p3 p6 p7 p10 d0 d1 d2 d3 d4 d5 d6 d7 d8 d9 d10)) H) (hD : va_D (fun q : Nat => s.heap.size ≤ q) ((wX0 cy h q2 q3 q4 q5 q6 q7 q8 q9 c0 c1 c2 c3 c4 c5 c6 c7 c8 c9 c10 c11) ++ (wX1 cy g p2 p3 p6 p7 p10 d0 d1 d2 d3 d4 d5 d6 d7 d8 d9 d10))) (hS : va_S (fun q : Nat => s.heap.size ≤ q) s.heap H locs) (hl : lv_has ls 4 [(0, .ref b), (1, .ref h), (2, .ref g), (3, .int (nI a))]), W p l e room_1 s m #[Value.ref b] below meth c H locs 15 2911 (lw_Z below #[Value.ref b] s) (F0 m 304 ls []) := by
  intro c0 c1 c2 c3 c4 c5 c6 c7 c8 c9 c10 c11 d0 d1 d2 d3 d4 d5 d6 d7 d8 d9 d10 hR H locs ls hP hD hS hl
  obtain ⟨hx, hb, hr, hml, hown, hts, hX, hbl, hlocks, hgv⟩ := C0
  have hts := fun w h => hts w (wsL_law_in w h)
  have hA : ∀ q : Nat, s.heap.size ≤ q → (fun q : Nat => s.heap.size ≤ q) q := fun _ h => h
  have hbA : ¬ (fun q : Nat => s.heap.size ≤ q) b := Nat.not_le.mpr hbl
  have hi1 : vp_in (nI a + (1 : Int32)) L := by rw [show nI a + (1 : Int32) = nI (a + 1) from nI_add a 1]; exact vp_in_nI (by omega) (by omega)
  have hi2 : vp_in (nI a + (2 : Int32)) L := by rw [show nI a + (2 : Int32) = nI (a + 2) from nI_add a 2]; exact vp_in_nI (by omega) (by omega)
  have hi3 : vp_in (nI a + (3 : Int32)) L := by rw [show nI a + (3 : Int32) = nI (a + 3) from nI_add a 3]; exact vp_in_nI (by omega) (by omega)
  refine lv_aload_n hx hb dL_law_304 rfl (lv_at hl 1 rfl) ?_
  obtain ⟨N1, r1, N2, r2, hf1, hf2, he, hR2⟩ := hop c0 c1 c2 c3 c4 c5 c6 c7 c8 c9 c10 c11 d0 d1 d2 d3 d4 d5 d6 d7 d8 d9 d10  hR
  have hPc := hP.sub (ws' := (wX0 cy h q2 q3 q4 q5 q6 q7 q8 q9 c0 c1 c2 c3 c4 c5 c6 c7 c8 c9 c10 c11)) [0, 1, 2, 3, 4, 5, 6, 7, 8] rfl
  have hDc := hD.sub (ws' := (wX0 cy h q2 q3 q4 q5 q6 q7 q8 q9 c0 c1 c2 c3 c4 c5 c6 c7 c8 c9 c10 c11)) [0, 1, 2, 3, 4, 5, 6, 7, 8] (by decide) rfl
  have hKc := hK.sub (tys' := [(cy, .int)]) [0] rfl
  have hFc := va_free (wc := (wX0 cy h q2 q3 q4 q5 q6 q7 q8 q9 c0 c1 c2 c3 c4 c5 c6 c7 c8 c9 c10 c11)) hD hS hA [0, 1, 2, 3, 4, 5, 6, 7, 8] rfl
  refine va_calli (va_runV (As := []) (rest := []) ⟨hx, hb, hml, hown, hts⟩ (c_X0_free N1 l dC dI cy h q2 q3 q4 q5 q6 q7 q8 q9 H.size c0 c1 c2 c3 c4 c5 c6 c7 c8 c9 c10 c11  r1 hf1) (cwV 0 hts gL_law_X0_free rfl rfl rfl (by decide +kernel) ⟨Nat.le_of_ble_eq_true rfl, Nat.le_of_ble_eq_true rfl⟩) ⟨fun a U g mk q => by obtain ⟨q0, q1, qP, qK, qD⟩ := q; exact ⟨q0, q1, qP, va_K.moved (u := U) (U := U.calling g mk a) (Vm.Alike.refl U.vm) qK, qD⟩, va_recv hKc hPc (ci := 0) (q0 := 0) rfl rfl, fun U hU hW => ⟨rfl, by rw [hU], by rw [hU]; exact hPc, va_K.moved hW.alike hKc, hDc.weaken (fun _ _ _ _ => trivial)⟩⟩ rfl rfl hl.1 rfl (lv_room (Nat.le_of_ble_eq_true rfl)) dL_law_305 ⟨Nat.le_of_ble_eq_true rfl, Nat.le_of_ble_eq_true rfl⟩) hS (fun q _ h => hFc q h) hFc (fun rr uu_ t H1 locs ht hvm hw hB hz1 hk1 hS => ?_)
  replace hw := hw.symm
  subst hw
  obtain ⟨hP1, -, hD1⟩ := hB
  rw [ht] at hP1
  obtain ⟨hP, hD⟩ := va_join (wr := (wX1 cy g p2 p3 p6 p7 p10 d0 d1 d2 d3 d4 d5 d6 d7 d8 d9 d10)) (w1 := (wX0 cy h q2 q3 q4 q5 q6 q7 q8 q9 c0 c1 c2 c3 r1.2.1 r1.2.2.1 r1.2.2.2.1 r1.2.2.2.2 c8 c9 c10 c11)) hP hD [0, 1, 2, 3, 4, 5, 6, 7, 8] [9, 10, 11, 12, 13, 14] rfl rfl (by decide) (by decide) hk1 hFc hP1 hD1
  clear hk1 hz1 hP1 hD1 ht hPc hDc hFc
  generalize H1 = H at hP hS ⊢
  have hP := hP.sub (ws' := ((wX0 cy h q2 q3 q4 q5 q6 q7 q8 q9 c0 c1 c2 c3 r1.2.1 r1.2.2.1 r1.2.2.2.1 r1.2.2.2.2 c8 c9 c10 c11) ++ (wX1 cy g p2 p3 p6 p7 p10 d0 d1 d2 d3 d4 d5 d6 d7 d8 d9 d10))) [6, 7, 8, 9, 10, 11, 12, 13, 14, 0, 1, 2, 3, 4, 5] rfl
  have hD := hD.sub (ws' := ((wX0 cy h q2 q3 q4 q5 q6 q7 q8 q9 c0 c1 c2 c3 r1.2.1 r1.2.2.1 r1.2.2.2.1 r1.2.2.2.2 c8 c9 c10 c11) ++ (wX1 cy g p2 p3 p6 p7 p10 d0 d1 d2 d3 d4 d5 d6 d7 d8 d9 d10))) [6, 7, 8, 9, 10, 11, 12, 13, 14, 0, 1, 2, 3, 4, 5] (by decide) rfl
  refine lv_aload_n hx hb dL_law_308 rfl (lv_at hl 2 rfl) ?_
  have hPc := hP.sub (ws' := (wX1 cy g p2 p3 p6 p7 p10 d0 d1 d2 d3 d4 d5 d6 d7 d8 d9 d10)) [9, 10, 11, 12, 13, 14] rfl
  have hDc := hD.sub (ws' := (wX1 cy g p2 p3 p6 p7 p10 d0 d1 d2 d3 d4 d5 d6 d7 d8 d9 d10)) [9, 10, 11, 12, 13, 14] (by decide) rfl
  have hKc := hK.sub (tys' := [(cy, .int)]) [0] rfl
  have hFc := va_free (wc := (wX1 cy g p2 p3 p6 p7 p10 d0 d1 d2 d3 d4 d5 d6 d7 d8 d9 d10)) hD hS hA [9, 10, 11, 12, 13, 14] rfl
  refine va_calli (va_runV (As := []) (rest := [.int r1.1]) ⟨hx, hb, hml, hown, hts⟩ (c_X1_free N2 l dC dI cy g p2 p3 p6 p7 p10 H.size d0 d1 d2 d3 d4 d5 d6 d7 d8 d9 d10  r2 hf2) (cwV 0 hts gL_law_X1_free rfl rfl rfl (by decide +kernel) ⟨Nat.le_of_ble_eq_true rfl, Nat.le_of_ble_eq_true rfl⟩) ⟨fun a U g mk q => by obtain ⟨q0, q1, qP, qK, qD⟩ := q; exact ⟨q0, q1, qP, va_K.moved (u := U) (U := U.calling g mk a) (Vm.Alike.refl U.vm) qK, qD⟩, va_recv hKc hPc (ci := 1) (q0 := 0) rfl rfl, fun U hU hW => ⟨rfl, by rw [hU], by rw [hU]; exact hPc, va_K.moved hW.alike hKc, hDc.weaken (fun _ _ _ _ => trivial)⟩⟩ rfl rfl hl.1 rfl (lv_room (Nat.le_of_ble_eq_true rfl)) dL_law_309 ⟨Nat.le_of_ble_eq_true rfl, Nat.le_of_ble_eq_true rfl⟩) hS (fun q _ h => hFc q h) hFc (fun rr uu_ t H1 locs ht hvm hw hB hz1 hk1 hS => ?_)
  replace hw := hw.symm
  subst hw
  obtain ⟨hP1, -, hD1⟩ := hB
  rw [ht] at hP1
  obtain ⟨hP, hD⟩ := va_join (wr := (wX0 cy h q2 q3 q4 q5 q6 q7 q8 q9 c0 c1 c2 c3 r1.2.1 r1.2.2.1 r1.2.2.2.1 r1.2.2.2.2 c8 c9 c10 c11)) (w1 := (wX1 cy g p2 p3 p6 p7 p10 d0 d1 d2 d3 r2.2.1 r2.2.2.1 r2.2.2.2 d7 d8 d9 d10)) hP hD [9, 10, 11, 12, 13, 14] [0, 1, 2, 3, 4, 5, 6, 7, 8] rfl rfl (by decide) (by decide) hk1 hFc hP1 hD1
  clear hk1 hz1 hP1 hD1 ht hPc hDc hFc
  generalize H1 = H at hP hS ⊢
  have hP := hP.sub (ws' := ((wX0 cy h q2 q3 q4 q5 q6 q7 q8 q9 c0 c1 c2 c3 r1.2.1 r1.2.2.1 r1.2.2.2.1 r1.2.2.2.2 c8 c9 c10 c11) ++ (wX1 cy g p2 p3 p6 p7 p10 d0 d1 d2 d3 r2.2.1 r2.2.2.1 r2.2.2.2 d7 d8 d9 d10))) [0, 1, 2, 3, 4, 5, 6, 7, 8, 9, 10, 11, 12, 13, 14] rfl
  have hD := hD.sub (ws' := ((wX0 cy h q2 q3 q4 q5 q6 q7 q8 q9 c0 c1 c2 c3 r1.2.1 r1.2.2.1 r1.2.2.2.1 r1.2.2.2.2 c8 c9 c10 c11) ++ (wX1 cy g p2 p3 p6 p7 p10 d0 d1 d2 d3 r2.2.1 r2.2.2.1 r2.2.2.2 d7 d8 d9 d10))) [0, 1, 2, 3, 4, 5, 6, 7, 8, 9, 10, 11, 12, 13, 14] (by decide) rfl
  refine lv_icmp_eq (tgt := 725) hx hb dL_law_312 (by decide) (fun c_9 => ?_) (fun c_9 => ?_)
  · exact hnext c0 c1 c2 c3 r1.2.1 r1.2.2.1 r1.2.2.2.1 r1.2.2.2.2 c8 c9 c10 c11 d0 d1 d2 d3 r2.2.1 r2.2.2.1 r2.2.2.2 d7 d8 d9 d10 hR2 _ _ _ hP hD hS hl
  · exact absurd he c_9

set_option maxHeartbeats 4000000 in
set_option maxRecDepth 100000 in
theorem lk_way {p : Program} {l : Launch} {e : Env} {s : State} {m : MethodId} {below : List Frame} {meth : Method} {c : Code} {dC : Nat → ClassId} {dI : Nat → Nat → Nat} {b L : Nat} {xs : Nat → Int32} (hL : L ≤ 2048) (C0 : lw_At p s m meth c b L xs) {R : z_XS → z_MS → Prop} (hop : zo_way R) (cy : ClassId) (hK : va_K (dC, dI) vwCl [(cy, .int)] s) (h q2 q3 q4 q5 q6 q7 q8 q9 g p2 p3 p6 p7 p10 : Nat) (a : Nat) (ha : a + 4 ≤ L) (hnext : ∀ (c0 : Int32) (c1 : Int32) (c2 : Nat → Int32) (c3 : Nat → Int32) (c4 : Nat → Int32) (c5 : Nat → Int32) (c6 : Nat → Int32) (c7 : Nat → Int32) (c8 : Nat → Int32) (c9 : Nat → Int32) (c10 : Int32) (c11 : Int32) (d0 : Int32) (d1 : Int32) (d2 : Nat → Int32) (d3 : Nat → Int32) (d4 : Int32) (d5 : Int32) (d6 : Nat → Int32) (d7 : Nat → Int32) (d8 : Int32) (d9 : Int32) (d10 : Nat → Int32), R (c0, c1, c2, c3, c4, c5, c6, c7, c8, c9, c10, c11) (d0, d1, d2, d3, d4, d5, d6, d7, d8, d9, d10) → ∀ (H : Heap) (locs : List Loc) (ls : Array Slot), va_P (dC, dI) vwCl ((wX0 cy h q2 q3 q4 q5 q6 q7 q8 q9 c0 c1 c2 c3 c4 c5 c6 c7 c8 c9 c10 c11) ++ (wX1 cy g p2 p3 p6 p7 p10 d0 d1 d2 d3 d4 d5 d6 d7 d8 d9 d10)) H → va_D (fun q : Nat => s.heap.size ≤ q) ((wX0 cy h q2 q3 q4 q5 q6 q7 q8 q9 c0 c1 c2 c3 c4 c5 c6 c7 c8 c9 c10 c11) ++ (wX1 cy g p2 p3 p6 p7 p10 d0 d1 d2 d3 d4 d5 d6 d7 d8 d9 d10)) → va_S (fun q : Nat => s.heap.size ≤ q) s.heap H locs → lv_has ls 4 [(0, .ref b), (1, .ref h), (2, .ref g), (3, .int (nI a))] → W p l e room_1 s m #[Value.ref b] below meth c H locs 15 2911 (lw_Z below #[Value.ref b] s) (F0 m 725 ls [])) : ∀ (c0 : Int32) (c1 : Int32) (c2 : Nat → Int32) (c3 : Nat → Int32) (c4 : Nat → Int32) (c5 : Nat → Int32) (c6 : Nat → Int32) (c7 : Nat → Int32) (c8 : Nat → Int32) (c9 : Nat → Int32) (c10 : Int32) (c11 : Int32) (d0 : Int32) (d1 : Int32) (d2 : Nat → Int32) (d3 : Nat → Int32) (d4 : Int32) (d5 : Int32) (d6 : Nat → Int32) (d7 : Nat → Int32) (d8 : Int32) (d9 : Int32) (d10 : Nat → Int32) (hR : R (c0, c1, c2, c3, c4, c5, c6, c7, c8, c9, c10, c11) (d0, d1, d2, d3, d4, d5, d6, d7, d8, d9, d10)) (H : Heap) (locs : List Loc) (ls : Array Slot) (hP : va_P (dC, dI) vwCl ((wX0 cy h q2 q3 q4 q5 q6 q7 q8 q9 c0 c1 c2 c3 c4 c5 c6 c7 c8 c9 c10 c11) ++ (wX1 cy g p2 p3 p6 p7 p10 d0 d1 d2 d3 d4 d5 d6 d7 d8 d9 d10)) H) (hD : va_D (fun q : Nat => s.heap.size ≤ q) ((wX0 cy h q2 q3 q4 q5 q6 q7 q8 q9 c0 c1 c2 c3 c4 c5 c6 c7 c8 c9 c10 c11) ++ (wX1 cy g p2 p3 p6 p7 p10 d0 d1 d2 d3 d4 d5 d6 d7 d8 d9 d10))) (hS : va_S (fun q : Nat => s.heap.size ≤ q) s.heap H locs) (hl : lv_has ls 4 [(0, .ref b), (1, .ref h), (2, .ref g), (3, .int (nI a))]), W p l e room_1 s m #[Value.ref b] below meth c H locs 15 2911 (lw_Z below #[Value.ref b] s) (F0 m 317 ls []) := by
  intro c0 c1 c2 c3 c4 c5 c6 c7 c8 c9 c10 c11 d0 d1 d2 d3 d4 d5 d6 d7 d8 d9 d10 hR H locs ls hP hD hS hl
  obtain ⟨hx, hb, hr, hml, hown, hts, hX, hbl, hlocks, hgv⟩ := C0
  have hts := fun w h => hts w (wsL_law_in w h)
  have hA : ∀ q : Nat, s.heap.size ≤ q → (fun q : Nat => s.heap.size ≤ q) q := fun _ h => h
  have hbA : ¬ (fun q : Nat => s.heap.size ≤ q) b := Nat.not_le.mpr hbl
  have hi1 : vp_in (nI a + (1 : Int32)) L := by rw [show nI a + (1 : Int32) = nI (a + 1) from nI_add a 1]; exact vp_in_nI (by omega) (by omega)
  have hi2 : vp_in (nI a + (2 : Int32)) L := by rw [show nI a + (2 : Int32) = nI (a + 2) from nI_add a 2]; exact vp_in_nI (by omega) (by omega)
  have hi3 : vp_in (nI a + (3 : Int32)) L := by rw [show nI a + (3 : Int32) = nI (a + 3) from nI_add a 3]; exact vp_in_nI (by omega) (by omega)
  refine lv_aload_n hx hb dL_law_317 rfl (lv_at hl 1 rfl) ?_
  refine lv_aload_n hx hb dL_law_318 rfl (lv_at hl 0 rfl) ?_
  refine lv_iload_n hx hb dL_law_319 rfl (lv_at hl 3 rfl) ?_
  refine lv_iconst (v := (1 : Int32)) hx hb dL_law_320 (by decide) ?_
  refine lv_iadd hx hb dL_law_321 ?_
  refine va_sld hx hb hX hbl hbA hS hi1 dL_law_322 ?_
  refine lv_aload_n hx hb dL_law_323 rfl (lv_at hl 0 rfl) ?_
  refine lv_iload_n hx hb dL_law_324 rfl (lv_at hl 3 rfl) ?_
  refine lv_iconst (v := (2 : Int32)) hx hb dL_law_325 (by decide) ?_
  refine lv_iadd hx hb dL_law_326 ?_
  refine va_sld hx hb hX hbl hbA hS hi2 dL_law_327 ?_
  obtain ⟨N1, r1, N2, r2, hf1, hf2, he, hR2⟩ := hop c0 c1 c2 c3 c4 c5 c6 c7 c8 c9 c10 c11 d0 d1 d2 d3 d4 d5 d6 d7 d8 d9 d10 (xs ((nI a) + (1 : Int32)).toNatClampNeg) (xs ((nI a) + (2 : Int32)).toNatClampNeg) hR
  have hPc := hP.sub (ws' := (wX0 cy h q2 q3 q4 q5 q6 q7 q8 q9 c0 c1 c2 c3 c4 c5 c6 c7 c8 c9 c10 c11)) [0, 1, 2, 3, 4, 5, 6, 7, 8] rfl
  have hDc := hD.sub (ws' := (wX0 cy h q2 q3 q4 q5 q6 q7 q8 q9 c0 c1 c2 c3 c4 c5 c6 c7 c8 c9 c10 c11)) [0, 1, 2, 3, 4, 5, 6, 7, 8] (by decide) rfl
  have hKc := hK.sub (tys' := [(cy, .int)]) [0] rfl
  have hFc := va_free (wc := (wX0 cy h q2 q3 q4 q5 q6 q7 q8 q9 c0 c1 c2 c3 c4 c5 c6 c7 c8 c9 c10 c11)) hD hS hA [0, 1, 2, 3, 4, 5, 6, 7, 8] rfl
  refine va_calli (va_runV (As := [.int (xs ((nI a) + (1 : Int32)).toNatClampNeg), .int (xs ((nI a) + (2 : Int32)).toNatClampNeg)]) (rest := []) ⟨hx, hb, hml, hown, hts⟩ (c_X0_way N1 l dC dI cy h q2 q3 q4 q5 q6 q7 q8 q9 H.size c0 c1 c2 c3 c4 c5 c6 c7 c8 c9 c10 c11 (xs ((nI a) + (1 : Int32)).toNatClampNeg) (xs ((nI a) + (2 : Int32)).toNatClampNeg) r1 hf1) (cwV 2 hts gL_law_X0_way rfl rfl rfl (by decide +kernel) ⟨Nat.le_of_ble_eq_true rfl, Nat.le_of_ble_eq_true rfl⟩) ⟨fun a U g mk q => by obtain ⟨q0, q1, qP, qK, qD⟩ := q; exact ⟨q0, q1, qP, va_K.moved (u := U) (U := U.calling g mk a) (Vm.Alike.refl U.vm) qK, qD⟩, va_recv hKc hPc (ci := 0) (q0 := 0) rfl rfl, fun U hU hW => ⟨rfl, by rw [hU], by rw [hU]; exact hPc, va_K.moved hW.alike hKc, hDc.weaken (fun _ _ _ _ => trivial)⟩⟩ rfl rfl hl.1 rfl (lv_room (Nat.le_of_ble_eq_true rfl)) dL_law_328 ⟨Nat.le_of_ble_eq_true rfl, Nat.le_of_ble_eq_true rfl⟩) hS (fun q _ h => hFc q h) hFc (fun rr uu_ t H1 locs ht hvm hw hB hz1 hk1 hS => ?_)
  replace hw := hw.symm
  subst hw
  obtain ⟨hP1, -, hD1⟩ := hB
  rw [ht] at hP1
  obtain ⟨hP, hD⟩ := va_join (wr := (wX1 cy g p2 p3 p6 p7 p10 d0 d1 d2 d3 d4 d5 d6 d7 d8 d9 d10)) (w1 := (wX0 cy h q2 q3 q4 q5 q6 q7 q8 q9 c0 c1 c2 c3 r1.2.1 r1.2.2.1 r1.2.2.2.1 r1.2.2.2.2.1 r1.2.2.2.2.2 c9 c10 c11)) hP hD [0, 1, 2, 3, 4, 5, 6, 7, 8] [9, 10, 11, 12, 13, 14] rfl rfl (by decide) (by decide) hk1 hFc hP1 hD1
  clear hk1 hz1 hP1 hD1 ht hPc hDc hFc
  generalize H1 = H at hP hS ⊢
  have hP := hP.sub (ws' := ((wX0 cy h q2 q3 q4 q5 q6 q7 q8 q9 c0 c1 c2 c3 r1.2.1 r1.2.2.1 r1.2.2.2.1 r1.2.2.2.2.1 r1.2.2.2.2.2 c9 c10 c11) ++ (wX1 cy g p2 p3 p6 p7 p10 d0 d1 d2 d3 d4 d5 d6 d7 d8 d9 d10))) [6, 7, 8, 9, 10, 11, 12, 13, 14, 0, 1, 2, 3, 4, 5] rfl
  have hD := hD.sub (ws' := ((wX0 cy h q2 q3 q4 q5 q6 q7 q8 q9 c0 c1 c2 c3 r1.2.1 r1.2.2.1 r1.2.2.2.1 r1.2.2.2.2.1 r1.2.2.2.2.2 c9 c10 c11) ++ (wX1 cy g p2 p3 p6 p7 p10 d0 d1 d2 d3 d4 d5 d6 d7 d8 d9 d10))) [6, 7, 8, 9, 10, 11, 12, 13, 14, 0, 1, 2, 3, 4, 5] (by decide) rfl
  refine lv_aload_n hx hb dL_law_331 rfl (lv_at hl 2 rfl) ?_
  refine lv_aload_n hx hb dL_law_332 rfl (lv_at hl 0 rfl) ?_
  refine lv_iload_n hx hb dL_law_333 rfl (lv_at hl 3 rfl) ?_
  refine lv_iconst (v := (1 : Int32)) hx hb dL_law_334 (by decide) ?_
  refine lv_iadd hx hb dL_law_335 ?_
  refine va_sld hx hb hX hbl hbA hS hi1 dL_law_336 ?_
  refine lv_aload_n hx hb dL_law_337 rfl (lv_at hl 0 rfl) ?_
  refine lv_iload_n hx hb dL_law_338 rfl (lv_at hl 3 rfl) ?_
  refine lv_iconst (v := (2 : Int32)) hx hb dL_law_339 (by decide) ?_
  refine lv_iadd hx hb dL_law_340 ?_
  refine va_sld hx hb hX hbl hbA hS hi2 dL_law_341 ?_
  have hPc := hP.sub (ws' := (wX1 cy g p2 p3 p6 p7 p10 d0 d1 d2 d3 d4 d5 d6 d7 d8 d9 d10)) [9, 10, 11, 12, 13, 14] rfl
  have hDc := hD.sub (ws' := (wX1 cy g p2 p3 p6 p7 p10 d0 d1 d2 d3 d4 d5 d6 d7 d8 d9 d10)) [9, 10, 11, 12, 13, 14] (by decide) rfl
  have hKc := hK.sub (tys' := [(cy, .int)]) [0] rfl
  have hFc := va_free (wc := (wX1 cy g p2 p3 p6 p7 p10 d0 d1 d2 d3 d4 d5 d6 d7 d8 d9 d10)) hD hS hA [9, 10, 11, 12, 13, 14] rfl
  refine va_calli (va_runV (As := [.int (xs ((nI a) + (1 : Int32)).toNatClampNeg), .int (xs ((nI a) + (2 : Int32)).toNatClampNeg)]) (rest := [.int r1.1]) ⟨hx, hb, hml, hown, hts⟩ (c_X1_way N2 l dC dI cy g p2 p3 p6 p7 p10 H.size d0 d1 d2 d3 d4 d5 d6 d7 d8 d9 d10 (xs ((nI a) + (1 : Int32)).toNatClampNeg) (xs ((nI a) + (2 : Int32)).toNatClampNeg) r2 hf2) (cwV 2 hts gL_law_X1_way rfl rfl rfl (by decide +kernel) ⟨Nat.le_of_ble_eq_true rfl, Nat.le_of_ble_eq_true rfl⟩) ⟨fun a U g mk q => by obtain ⟨q0, q1, qP, qK, qD⟩ := q; exact ⟨q0, q1, qP, va_K.moved (u := U) (U := U.calling g mk a) (Vm.Alike.refl U.vm) qK, qD⟩, va_recv hKc hPc (ci := 1) (q0 := 0) rfl rfl, fun U hU hW => ⟨rfl, by rw [hU], by rw [hU]; exact hPc, va_K.moved hW.alike hKc, hDc.weaken (fun _ _ _ _ => trivial)⟩⟩ rfl rfl hl.1 rfl (lv_room (Nat.le_of_ble_eq_true rfl)) dL_law_342 ⟨Nat.le_of_ble_eq_true rfl, Nat.le_of_ble_eq_true rfl⟩) hS (fun q _ h => hFc q h) hFc (fun rr uu_ t H1 locs ht hvm hw hB hz1 hk1 hS => ?_)
  replace hw := hw.symm
  subst hw
  obtain ⟨hP1, -, hD1⟩ := hB
  rw [ht] at hP1
  obtain ⟨hP, hD⟩ := va_join (wr := (wX0 cy h q2 q3 q4 q5 q6 q7 q8 q9 c0 c1 c2 c3 r1.2.1 r1.2.2.1 r1.2.2.2.1 r1.2.2.2.2.1 r1.2.2.2.2.2 c9 c10 c11)) (w1 := (wX1 cy g p2 p3 p6 p7 p10 d0 d1 d2 d3 r2.2.1 r2.2.2.1 r2.2.2.2 d7 d8 d9 d10)) hP hD [9, 10, 11, 12, 13, 14] [0, 1, 2, 3, 4, 5, 6, 7, 8] rfl rfl (by decide) (by decide) hk1 hFc hP1 hD1
  clear hk1 hz1 hP1 hD1 ht hPc hDc hFc
  generalize H1 = H at hP hS ⊢
  have hP := hP.sub (ws' := ((wX0 cy h q2 q3 q4 q5 q6 q7 q8 q9 c0 c1 c2 c3 r1.2.1 r1.2.2.1 r1.2.2.2.1 r1.2.2.2.2.1 r1.2.2.2.2.2 c9 c10 c11) ++ (wX1 cy g p2 p3 p6 p7 p10 d0 d1 d2 d3 r2.2.1 r2.2.2.1 r2.2.2.2 d7 d8 d9 d10))) [0, 1, 2, 3, 4, 5, 6, 7, 8, 9, 10, 11, 12, 13, 14] rfl
  have hD := hD.sub (ws' := ((wX0 cy h q2 q3 q4 q5 q6 q7 q8 q9 c0 c1 c2 c3 r1.2.1 r1.2.2.1 r1.2.2.2.1 r1.2.2.2.2.1 r1.2.2.2.2.2 c9 c10 c11) ++ (wX1 cy g p2 p3 p6 p7 p10 d0 d1 d2 d3 r2.2.1 r2.2.2.1 r2.2.2.2 d7 d8 d9 d10))) [0, 1, 2, 3, 4, 5, 6, 7, 8, 9, 10, 11, 12, 13, 14] (by decide) rfl
  refine lv_icmp_eq (tgt := 725) hx hb dL_law_345 (by decide) (fun c_9 => ?_) (fun c_9 => ?_)
  · exact hnext c0 c1 c2 c3 r1.2.1 r1.2.2.1 r1.2.2.2.1 r1.2.2.2.2.1 r1.2.2.2.2.2 c9 c10 c11 d0 d1 d2 d3 r2.2.1 r2.2.2.1 r2.2.2.2 d7 d8 d9 d10 hR2 _ _ _ hP hD hS hl
  · exact absurd he c_9

set_option maxHeartbeats 4000000 in
set_option maxRecDepth 100000 in
theorem lk_rounds {p : Program} {l : Launch} {e : Env} {s : State} {m : MethodId} {below : List Frame} {meth : Method} {c : Code} {dC : Nat → ClassId} {dI : Nat → Nat → Nat} {b L : Nat} {xs : Nat → Int32} (hL : L ≤ 2048) (C0 : lw_At p s m meth c b L xs) {R : z_XS → z_MS → Prop} (hop : zo_rounds R) (cy : ClassId) (hK : va_K (dC, dI) vwCl [(cy, .int)] s) (h q2 q3 q4 q5 q6 q7 q8 q9 g p2 p3 p6 p7 p10 : Nat) (a : Nat) (ha : a + 4 ≤ L) (hnext : ∀ (c0 : Int32) (c1 : Int32) (c2 : Nat → Int32) (c3 : Nat → Int32) (c4 : Nat → Int32) (c5 : Nat → Int32) (c6 : Nat → Int32) (c7 : Nat → Int32) (c8 : Nat → Int32) (c9 : Nat → Int32) (c10 : Int32) (c11 : Int32) (d0 : Int32) (d1 : Int32) (d2 : Nat → Int32) (d3 : Nat → Int32) (d4 : Int32) (d5 : Int32) (d6 : Nat → Int32) (d7 : Nat → Int32) (d8 : Int32) (d9 : Int32) (d10 : Nat → Int32), R (c0, c1, c2, c3, c4, c5, c6, c7, c8, c9, c10, c11) (d0, d1, d2, d3, d4, d5, d6, d7, d8, d9, d10) → ∀ (H : Heap) (locs : List Loc) (ls : Array Slot), va_P (dC, dI) vwCl ((wX0 cy h q2 q3 q4 q5 q6 q7 q8 q9 c0 c1 c2 c3 c4 c5 c6 c7 c8 c9 c10 c11) ++ (wX1 cy g p2 p3 p6 p7 p10 d0 d1 d2 d3 d4 d5 d6 d7 d8 d9 d10)) H → va_D (fun q : Nat => s.heap.size ≤ q) ((wX0 cy h q2 q3 q4 q5 q6 q7 q8 q9 c0 c1 c2 c3 c4 c5 c6 c7 c8 c9 c10 c11) ++ (wX1 cy g p2 p3 p6 p7 p10 d0 d1 d2 d3 d4 d5 d6 d7 d8 d9 d10)) → va_S (fun q : Nat => s.heap.size ≤ q) s.heap H locs → lv_has ls 4 [(0, .ref b), (1, .ref h), (2, .ref g), (3, .int (nI a))] → W p l e room_1 s m #[Value.ref b] below meth c H locs 15 2911 (lw_Z below #[Value.ref b] s) (F0 m 725 ls [])) : ∀ (c0 : Int32) (c1 : Int32) (c2 : Nat → Int32) (c3 : Nat → Int32) (c4 : Nat → Int32) (c5 : Nat → Int32) (c6 : Nat → Int32) (c7 : Nat → Int32) (c8 : Nat → Int32) (c9 : Nat → Int32) (c10 : Int32) (c11 : Int32) (d0 : Int32) (d1 : Int32) (d2 : Nat → Int32) (d3 : Nat → Int32) (d4 : Int32) (d5 : Int32) (d6 : Nat → Int32) (d7 : Nat → Int32) (d8 : Int32) (d9 : Int32) (d10 : Nat → Int32) (hR : R (c0, c1, c2, c3, c4, c5, c6, c7, c8, c9, c10, c11) (d0, d1, d2, d3, d4, d5, d6, d7, d8, d9, d10)) (H : Heap) (locs : List Loc) (ls : Array Slot) (hP : va_P (dC, dI) vwCl ((wX0 cy h q2 q3 q4 q5 q6 q7 q8 q9 c0 c1 c2 c3 c4 c5 c6 c7 c8 c9 c10 c11) ++ (wX1 cy g p2 p3 p6 p7 p10 d0 d1 d2 d3 d4 d5 d6 d7 d8 d9 d10)) H) (hD : va_D (fun q : Nat => s.heap.size ≤ q) ((wX0 cy h q2 q3 q4 q5 q6 q7 q8 q9 c0 c1 c2 c3 c4 c5 c6 c7 c8 c9 c10 c11) ++ (wX1 cy g p2 p3 p6 p7 p10 d0 d1 d2 d3 d4 d5 d6 d7 d8 d9 d10))) (hS : va_S (fun q : Nat => s.heap.size ≤ q) s.heap H locs) (hl : lv_has ls 4 [(0, .ref b), (1, .ref h), (2, .ref g), (3, .int (nI a))]), W p l e room_1 s m #[Value.ref b] below meth c H locs 15 2911 (lw_Z below #[Value.ref b] s) (F0 m 350 ls []) := by
  intro c0 c1 c2 c3 c4 c5 c6 c7 c8 c9 c10 c11 d0 d1 d2 d3 d4 d5 d6 d7 d8 d9 d10 hR H locs ls hP hD hS hl
  obtain ⟨hx, hb, hr, hml, hown, hts, hX, hbl, hlocks, hgv⟩ := C0
  have hts := fun w h => hts w (wsL_law_in w h)
  have hA : ∀ q : Nat, s.heap.size ≤ q → (fun q : Nat => s.heap.size ≤ q) q := fun _ h => h
  have hbA : ¬ (fun q : Nat => s.heap.size ≤ q) b := Nat.not_le.mpr hbl
  have hi1 : vp_in (nI a + (1 : Int32)) L := by rw [show nI a + (1 : Int32) = nI (a + 1) from nI_add a 1]; exact vp_in_nI (by omega) (by omega)
  have hi2 : vp_in (nI a + (2 : Int32)) L := by rw [show nI a + (2 : Int32) = nI (a + 2) from nI_add a 2]; exact vp_in_nI (by omega) (by omega)
  have hi3 : vp_in (nI a + (3 : Int32)) L := by rw [show nI a + (3 : Int32) = nI (a + 3) from nI_add a 3]; exact vp_in_nI (by omega) (by omega)
  refine lv_aload_n hx hb dL_law_350 rfl (lv_at hl 1 rfl) ?_
  refine lv_aload_n hx hb dL_law_351 rfl (lv_at hl 0 rfl) ?_
  refine lv_iload_n hx hb dL_law_352 rfl (lv_at hl 3 rfl) ?_
  refine lv_iconst (v := (1 : Int32)) hx hb dL_law_353 (by decide) ?_
  refine lv_iadd hx hb dL_law_354 ?_
  refine va_sld hx hb hX hbl hbA hS hi1 dL_law_355 ?_
  obtain ⟨N1, r1, N2, r2, hf1, hf2, he, hR2⟩ := hop c0 c1 c2 c3 c4 c5 c6 c7 c8 c9 c10 c11 d0 d1 d2 d3 d4 d5 d6 d7 d8 d9 d10 (xs ((nI a) + (1 : Int32)).toNatClampNeg) hR
  have hPc := hP.sub (ws' := (wX0 cy h q2 q3 q4 q5 q6 q7 q8 q9 c0 c1 c2 c3 c4 c5 c6 c7 c8 c9 c10 c11)) [0, 1, 2, 3, 4, 5, 6, 7, 8] rfl
  have hDc := hD.sub (ws' := (wX0 cy h q2 q3 q4 q5 q6 q7 q8 q9 c0 c1 c2 c3 c4 c5 c6 c7 c8 c9 c10 c11)) [0, 1, 2, 3, 4, 5, 6, 7, 8] (by decide) rfl
  have hKc := hK.sub (tys' := [(cy, .int)]) [0] rfl
  have hFc := va_free (wc := (wX0 cy h q2 q3 q4 q5 q6 q7 q8 q9 c0 c1 c2 c3 c4 c5 c6 c7 c8 c9 c10 c11)) hD hS hA [0, 1, 2, 3, 4, 5, 6, 7, 8] rfl
  refine va_calli (va_runV (As := [.int (xs ((nI a) + (1 : Int32)).toNatClampNeg)]) (rest := []) ⟨hx, hb, hml, hown, hts⟩ (c_X0_rounds N1 l dC dI cy h q2 q3 q4 q5 q6 q7 q8 q9 H.size c0 c1 c2 c3 c4 c5 c6 c7 c8 c9 c10 c11 (xs ((nI a) + (1 : Int32)).toNatClampNeg) r1 hf1) (cwV 1 hts gL_law_X0_rounds rfl rfl rfl (by decide +kernel) ⟨Nat.le_of_ble_eq_true rfl, Nat.le_of_ble_eq_true rfl⟩) ⟨fun a U g mk q => by obtain ⟨q0, q1, qP, qK, qD⟩ := q; exact ⟨q0, q1, qP, va_K.moved (u := U) (U := U.calling g mk a) (Vm.Alike.refl U.vm) qK, qD⟩, va_recv hKc hPc (ci := 0) (q0 := 0) rfl rfl, fun U hU hW => ⟨rfl, by rw [hU], by rw [hU]; exact hPc, va_K.moved hW.alike hKc, hDc.weaken (fun _ _ _ _ => trivial)⟩⟩ rfl rfl hl.1 rfl (lv_room (Nat.le_of_ble_eq_true rfl)) dL_law_356 ⟨Nat.le_of_ble_eq_true rfl, Nat.le_of_ble_eq_true rfl⟩) hS (fun q _ h => hFc q h) hFc (fun rr uu_ t H1 locs ht hvm hw hB hz1 hk1 hS => ?_)
  replace hw := hw.symm
  subst hw
  obtain ⟨hP1, -, hD1⟩ := hB
  rw [ht] at hP1
  obtain ⟨hP, hD⟩ := va_join (wr := (wX1 cy g p2 p3 p6 p7 p10 d0 d1 d2 d3 d4 d5 d6 d7 d8 d9 d10)) (w1 := (wX0 cy h q2 q3 q4 q5 q6 q7 q8 q9 c0 c1 c2 c3 r1.2.1 r1.2.2.1 r1.2.2.2.1 r1.2.2.2.2 c8 c9 c10 c11)) hP hD [0, 1, 2, 3, 4, 5, 6, 7, 8] [9, 10, 11, 12, 13, 14] rfl rfl (by decide) (by decide) hk1 hFc hP1 hD1
  clear hk1 hz1 hP1 hD1 ht hPc hDc hFc
  generalize H1 = H at hP hS ⊢
  have hP := hP.sub (ws' := ((wX0 cy h q2 q3 q4 q5 q6 q7 q8 q9 c0 c1 c2 c3 r1.2.1 r1.2.2.1 r1.2.2.2.1 r1.2.2.2.2 c8 c9 c10 c11) ++ (wX1 cy g p2 p3 p6 p7 p10 d0 d1 d2 d3 d4 d5 d6 d7 d8 d9 d10))) [6, 7, 8, 9, 10, 11, 12, 13, 14, 0, 1, 2, 3, 4, 5] rfl
  have hD := hD.sub (ws' := ((wX0 cy h q2 q3 q4 q5 q6 q7 q8 q9 c0 c1 c2 c3 r1.2.1 r1.2.2.1 r1.2.2.2.1 r1.2.2.2.2 c8 c9 c10 c11) ++ (wX1 cy g p2 p3 p6 p7 p10 d0 d1 d2 d3 d4 d5 d6 d7 d8 d9 d10))) [6, 7, 8, 9, 10, 11, 12, 13, 14, 0, 1, 2, 3, 4, 5] (by decide) rfl
  refine lv_aload_n hx hb dL_law_359 rfl (lv_at hl 2 rfl) ?_
  refine lv_aload_n hx hb dL_law_360 rfl (lv_at hl 0 rfl) ?_
  refine lv_iload_n hx hb dL_law_361 rfl (lv_at hl 3 rfl) ?_
  refine lv_iconst (v := (1 : Int32)) hx hb dL_law_362 (by decide) ?_
  refine lv_iadd hx hb dL_law_363 ?_
  refine va_sld hx hb hX hbl hbA hS hi1 dL_law_364 ?_
  have hPc := hP.sub (ws' := (wX1 cy g p2 p3 p6 p7 p10 d0 d1 d2 d3 d4 d5 d6 d7 d8 d9 d10)) [9, 10, 11, 12, 13, 14] rfl
  have hDc := hD.sub (ws' := (wX1 cy g p2 p3 p6 p7 p10 d0 d1 d2 d3 d4 d5 d6 d7 d8 d9 d10)) [9, 10, 11, 12, 13, 14] (by decide) rfl
  have hKc := hK.sub (tys' := [(cy, .int)]) [0] rfl
  have hFc := va_free (wc := (wX1 cy g p2 p3 p6 p7 p10 d0 d1 d2 d3 d4 d5 d6 d7 d8 d9 d10)) hD hS hA [9, 10, 11, 12, 13, 14] rfl
  refine va_calli (va_runV (As := [.int (xs ((nI a) + (1 : Int32)).toNatClampNeg)]) (rest := [.int r1.1]) ⟨hx, hb, hml, hown, hts⟩ (c_X1_rounds N2 l dC dI cy g p2 p3 p6 p7 p10 H.size d0 d1 d2 d3 d4 d5 d6 d7 d8 d9 d10 (xs ((nI a) + (1 : Int32)).toNatClampNeg) r2 hf2) (cwV 1 hts gL_law_X1_rounds rfl rfl rfl (by decide +kernel) ⟨Nat.le_of_ble_eq_true rfl, Nat.le_of_ble_eq_true rfl⟩) ⟨fun a U g mk q => by obtain ⟨q0, q1, qP, qK, qD⟩ := q; exact ⟨q0, q1, qP, va_K.moved (u := U) (U := U.calling g mk a) (Vm.Alike.refl U.vm) qK, qD⟩, va_recv hKc hPc (ci := 1) (q0 := 0) rfl rfl, fun U hU hW => ⟨rfl, by rw [hU], by rw [hU]; exact hPc, va_K.moved hW.alike hKc, hDc.weaken (fun _ _ _ _ => trivial)⟩⟩ rfl rfl hl.1 rfl (lv_room (Nat.le_of_ble_eq_true rfl)) dL_law_365 ⟨Nat.le_of_ble_eq_true rfl, Nat.le_of_ble_eq_true rfl⟩) hS (fun q _ h => hFc q h) hFc (fun rr uu_ t H1 locs ht hvm hw hB hz1 hk1 hS => ?_)
  replace hw := hw.symm
  subst hw
  obtain ⟨hP1, -, hD1⟩ := hB
  rw [ht] at hP1
  obtain ⟨hP, hD⟩ := va_join (wr := (wX0 cy h q2 q3 q4 q5 q6 q7 q8 q9 c0 c1 c2 c3 r1.2.1 r1.2.2.1 r1.2.2.2.1 r1.2.2.2.2 c8 c9 c10 c11)) (w1 := (wX1 cy g p2 p3 p6 p7 p10 d0 d1 d2 d3 r2.2.1 r2.2.2.1 r2.2.2.2 d7 d8 d9 d10)) hP hD [9, 10, 11, 12, 13, 14] [0, 1, 2, 3, 4, 5, 6, 7, 8] rfl rfl (by decide) (by decide) hk1 hFc hP1 hD1
  clear hk1 hz1 hP1 hD1 ht hPc hDc hFc
  generalize H1 = H at hP hS ⊢
  have hP := hP.sub (ws' := ((wX0 cy h q2 q3 q4 q5 q6 q7 q8 q9 c0 c1 c2 c3 r1.2.1 r1.2.2.1 r1.2.2.2.1 r1.2.2.2.2 c8 c9 c10 c11) ++ (wX1 cy g p2 p3 p6 p7 p10 d0 d1 d2 d3 r2.2.1 r2.2.2.1 r2.2.2.2 d7 d8 d9 d10))) [0, 1, 2, 3, 4, 5, 6, 7, 8, 9, 10, 11, 12, 13, 14] rfl
  have hD := hD.sub (ws' := ((wX0 cy h q2 q3 q4 q5 q6 q7 q8 q9 c0 c1 c2 c3 r1.2.1 r1.2.2.1 r1.2.2.2.1 r1.2.2.2.2 c8 c9 c10 c11) ++ (wX1 cy g p2 p3 p6 p7 p10 d0 d1 d2 d3 r2.2.1 r2.2.2.1 r2.2.2.2 d7 d8 d9 d10))) [0, 1, 2, 3, 4, 5, 6, 7, 8, 9, 10, 11, 12, 13, 14] (by decide) rfl
  refine lv_icmp_eq (tgt := 725) hx hb dL_law_368 (by decide) (fun c_9 => ?_) (fun c_9 => ?_)
  · exact hnext c0 c1 c2 c3 r1.2.1 r1.2.2.1 r1.2.2.2.1 r1.2.2.2.2 c8 c9 c10 c11 d0 d1 d2 d3 r2.2.1 r2.2.2.1 r2.2.2.2 d7 d8 d9 d10 hR2 _ _ _ hP hD hS hl
  · exact absurd he c_9

set_option maxHeartbeats 4000000 in
set_option maxRecDepth 100000 in
theorem lk_both {p : Program} {l : Launch} {e : Env} {s : State} {m : MethodId} {below : List Frame} {meth : Method} {c : Code} {dC : Nat → ClassId} {dI : Nat → Nat → Nat} {b L : Nat} {xs : Nat → Int32} (hL : L ≤ 2048) (C0 : lw_At p s m meth c b L xs) {R : z_XS → z_MS → Prop} (hop : zo_both R) (cy : ClassId) (hK : va_K (dC, dI) vwCl [(cy, .int)] s) (h q2 q3 q4 q5 q6 q7 q8 q9 g p2 p3 p6 p7 p10 : Nat) (a : Nat) (ha : a + 4 ≤ L) (hnext : ∀ (c0 : Int32) (c1 : Int32) (c2 : Nat → Int32) (c3 : Nat → Int32) (c4 : Nat → Int32) (c5 : Nat → Int32) (c6 : Nat → Int32) (c7 : Nat → Int32) (c8 : Nat → Int32) (c9 : Nat → Int32) (c10 : Int32) (c11 : Int32) (d0 : Int32) (d1 : Int32) (d2 : Nat → Int32) (d3 : Nat → Int32) (d4 : Int32) (d5 : Int32) (d6 : Nat → Int32) (d7 : Nat → Int32) (d8 : Int32) (d9 : Int32) (d10 : Nat → Int32), R (c0, c1, c2, c3, c4, c5, c6, c7, c8, c9, c10, c11) (d0, d1, d2, d3, d4, d5, d6, d7, d8, d9, d10) → ∀ (H : Heap) (locs : List Loc) (ls : Array Slot), va_P (dC, dI) vwCl ((wX0 cy h q2 q3 q4 q5 q6 q7 q8 q9 c0 c1 c2 c3 c4 c5 c6 c7 c8 c9 c10 c11) ++ (wX1 cy g p2 p3 p6 p7 p10 d0 d1 d2 d3 d4 d5 d6 d7 d8 d9 d10)) H → va_D (fun q : Nat => s.heap.size ≤ q) ((wX0 cy h q2 q3 q4 q5 q6 q7 q8 q9 c0 c1 c2 c3 c4 c5 c6 c7 c8 c9 c10 c11) ++ (wX1 cy g p2 p3 p6 p7 p10 d0 d1 d2 d3 d4 d5 d6 d7 d8 d9 d10)) → va_S (fun q : Nat => s.heap.size ≤ q) s.heap H locs → lv_has ls 4 [(0, .ref b), (1, .ref h), (2, .ref g), (3, .int (nI a))] → W p l e room_1 s m #[Value.ref b] below meth c H locs 15 2911 (lw_Z below #[Value.ref b] s) (F0 m 725 ls [])) : ∀ (c0 : Int32) (c1 : Int32) (c2 : Nat → Int32) (c3 : Nat → Int32) (c4 : Nat → Int32) (c5 : Nat → Int32) (c6 : Nat → Int32) (c7 : Nat → Int32) (c8 : Nat → Int32) (c9 : Nat → Int32) (c10 : Int32) (c11 : Int32) (d0 : Int32) (d1 : Int32) (d2 : Nat → Int32) (d3 : Nat → Int32) (d4 : Int32) (d5 : Int32) (d6 : Nat → Int32) (d7 : Nat → Int32) (d8 : Int32) (d9 : Int32) (d10 : Nat → Int32) (hR : R (c0, c1, c2, c3, c4, c5, c6, c7, c8, c9, c10, c11) (d0, d1, d2, d3, d4, d5, d6, d7, d8, d9, d10)) (H : Heap) (locs : List Loc) (ls : Array Slot) (hP : va_P (dC, dI) vwCl ((wX0 cy h q2 q3 q4 q5 q6 q7 q8 q9 c0 c1 c2 c3 c4 c5 c6 c7 c8 c9 c10 c11) ++ (wX1 cy g p2 p3 p6 p7 p10 d0 d1 d2 d3 d4 d5 d6 d7 d8 d9 d10)) H) (hD : va_D (fun q : Nat => s.heap.size ≤ q) ((wX0 cy h q2 q3 q4 q5 q6 q7 q8 q9 c0 c1 c2 c3 c4 c5 c6 c7 c8 c9 c10 c11) ++ (wX1 cy g p2 p3 p6 p7 p10 d0 d1 d2 d3 d4 d5 d6 d7 d8 d9 d10))) (hS : va_S (fun q : Nat => s.heap.size ≤ q) s.heap H locs) (hl : lv_has ls 4 [(0, .ref b), (1, .ref h), (2, .ref g), (3, .int (nI a))]), W p l e room_1 s m #[Value.ref b] below meth c H locs 15 2911 (lw_Z below #[Value.ref b] s) (F0 m 373 ls []) := by
  intro c0 c1 c2 c3 c4 c5 c6 c7 c8 c9 c10 c11 d0 d1 d2 d3 d4 d5 d6 d7 d8 d9 d10 hR H locs ls hP hD hS hl
  obtain ⟨hx, hb, hr, hml, hown, hts, hX, hbl, hlocks, hgv⟩ := C0
  have hts := fun w h => hts w (wsL_law_in w h)
  have hA : ∀ q : Nat, s.heap.size ≤ q → (fun q : Nat => s.heap.size ≤ q) q := fun _ h => h
  have hbA : ¬ (fun q : Nat => s.heap.size ≤ q) b := Nat.not_le.mpr hbl
  have hi1 : vp_in (nI a + (1 : Int32)) L := by rw [show nI a + (1 : Int32) = nI (a + 1) from nI_add a 1]; exact vp_in_nI (by omega) (by omega)
  have hi2 : vp_in (nI a + (2 : Int32)) L := by rw [show nI a + (2 : Int32) = nI (a + 2) from nI_add a 2]; exact vp_in_nI (by omega) (by omega)
  have hi3 : vp_in (nI a + (3 : Int32)) L := by rw [show nI a + (3 : Int32) = nI (a + 3) from nI_add a 3]; exact vp_in_nI (by omega) (by omega)
  refine lv_aload_n hx hb dL_law_373 rfl (lv_at hl 1 rfl) ?_
  refine lv_aload_n hx hb dL_law_374 rfl (lv_at hl 0 rfl) ?_
  refine lv_iload_n hx hb dL_law_375 rfl (lv_at hl 3 rfl) ?_
  refine lv_iconst (v := (1 : Int32)) hx hb dL_law_376 (by decide) ?_
  refine lv_iadd hx hb dL_law_377 ?_
  refine va_sld hx hb hX hbl hbA hS hi1 dL_law_378 ?_
  refine lv_aload_n hx hb dL_law_379 rfl (lv_at hl 0 rfl) ?_
  refine lv_iload_n hx hb dL_law_380 rfl (lv_at hl 3 rfl) ?_
  refine lv_iconst (v := (2 : Int32)) hx hb dL_law_381 (by decide) ?_
  refine lv_iadd hx hb dL_law_382 ?_
  refine va_sld hx hb hX hbl hbA hS hi2 dL_law_383 ?_
  obtain ⟨N1, r1, N2, r2, hf1, hf2, he, hR2⟩ := hop c0 c1 c2 c3 c4 c5 c6 c7 c8 c9 c10 c11 d0 d1 d2 d3 d4 d5 d6 d7 d8 d9 d10 (xs ((nI a) + (1 : Int32)).toNatClampNeg) (xs ((nI a) + (2 : Int32)).toNatClampNeg) hR
  have hPc := hP.sub (ws' := (wX0 cy h q2 q3 q4 q5 q6 q7 q8 q9 c0 c1 c2 c3 c4 c5 c6 c7 c8 c9 c10 c11)) [0, 1, 2, 3, 4, 5, 6, 7, 8] rfl
  have hDc := hD.sub (ws' := (wX0 cy h q2 q3 q4 q5 q6 q7 q8 q9 c0 c1 c2 c3 c4 c5 c6 c7 c8 c9 c10 c11)) [0, 1, 2, 3, 4, 5, 6, 7, 8] (by decide) rfl
  have hKc := hK.sub (tys' := [(cy, .int)]) [0] rfl
  have hFc := va_free (wc := (wX0 cy h q2 q3 q4 q5 q6 q7 q8 q9 c0 c1 c2 c3 c4 c5 c6 c7 c8 c9 c10 c11)) hD hS hA [0, 1, 2, 3, 4, 5, 6, 7, 8] rfl
  refine va_calli (va_runV (As := [.int (xs ((nI a) + (1 : Int32)).toNatClampNeg), .int (xs ((nI a) + (2 : Int32)).toNatClampNeg)]) (rest := []) ⟨hx, hb, hml, hown, hts⟩ (c_X0_both N1 l dC dI cy h q2 q3 q4 q5 q6 q7 q8 q9 H.size c0 c1 c2 c3 c4 c5 c6 c7 c8 c9 c10 c11 (xs ((nI a) + (1 : Int32)).toNatClampNeg) (xs ((nI a) + (2 : Int32)).toNatClampNeg) r1 hf1) (cwV 2 hts gL_law_X0_both rfl rfl rfl (by decide +kernel) ⟨Nat.le_of_ble_eq_true rfl, Nat.le_of_ble_eq_true rfl⟩) ⟨fun a U g mk q => by obtain ⟨q0, q1, qP, qK, qD⟩ := q; exact ⟨q0, q1, qP, va_K.moved (u := U) (U := U.calling g mk a) (Vm.Alike.refl U.vm) qK, qD⟩, va_recv hKc hPc (ci := 0) (q0 := 0) rfl rfl, fun U hU hW => ⟨rfl, by rw [hU], by rw [hU]; exact hPc, va_K.moved hW.alike hKc, hDc.weaken (fun _ _ _ _ => trivial)⟩⟩ rfl rfl hl.1 rfl (lv_room (Nat.le_of_ble_eq_true rfl)) dL_law_384 ⟨Nat.le_of_ble_eq_true rfl, Nat.le_of_ble_eq_true rfl⟩) hS (fun q _ h => hFc q h) hFc (fun rr uu_ t H1 locs ht hvm hw hB hz1 hk1 hS => ?_)
  replace hw := hw.symm
  subst hw
  obtain ⟨hP1, -, hD1⟩ := hB
  rw [ht] at hP1
  obtain ⟨hP, hD⟩ := va_join (wr := (wX1 cy g p2 p3 p6 p7 p10 d0 d1 d2 d3 d4 d5 d6 d7 d8 d9 d10)) (w1 := (wX0 cy h q2 q3 q4 q5 q6 q7 q8 q9 c0 c1 c2 c3 r1.2.1 r1.2.2.1 r1.2.2.2.1 r1.2.2.2.2 c8 c9 c10 c11)) hP hD [0, 1, 2, 3, 4, 5, 6, 7, 8] [9, 10, 11, 12, 13, 14] rfl rfl (by decide) (by decide) hk1 hFc hP1 hD1
  clear hk1 hz1 hP1 hD1 ht hPc hDc hFc
  generalize H1 = H at hP hS ⊢
  have hP := hP.sub (ws' := ((wX0 cy h q2 q3 q4 q5 q6 q7 q8 q9 c0 c1 c2 c3 r1.2.1 r1.2.2.1 r1.2.2.2.1 r1.2.2.2.2 c8 c9 c10 c11) ++ (wX1 cy g p2 p3 p6 p7 p10 d0 d1 d2 d3 d4 d5 d6 d7 d8 d9 d10))) [6, 7, 8, 9, 10, 11, 12, 13, 14, 0, 1, 2, 3, 4, 5] rfl
  have hD := hD.sub (ws' := ((wX0 cy h q2 q3 q4 q5 q6 q7 q8 q9 c0 c1 c2 c3 r1.2.1 r1.2.2.1 r1.2.2.2.1 r1.2.2.2.2 c8 c9 c10 c11) ++ (wX1 cy g p2 p3 p6 p7 p10 d0 d1 d2 d3 d4 d5 d6 d7 d8 d9 d10))) [6, 7, 8, 9, 10, 11, 12, 13, 14, 0, 1, 2, 3, 4, 5] (by decide) rfl
  refine lv_aload_n hx hb dL_law_387 rfl (lv_at hl 2 rfl) ?_
  refine lv_aload_n hx hb dL_law_388 rfl (lv_at hl 0 rfl) ?_
  refine lv_iload_n hx hb dL_law_389 rfl (lv_at hl 3 rfl) ?_
  refine lv_iconst (v := (1 : Int32)) hx hb dL_law_390 (by decide) ?_
  refine lv_iadd hx hb dL_law_391 ?_
  refine va_sld hx hb hX hbl hbA hS hi1 dL_law_392 ?_
  refine lv_aload_n hx hb dL_law_393 rfl (lv_at hl 0 rfl) ?_
  refine lv_iload_n hx hb dL_law_394 rfl (lv_at hl 3 rfl) ?_
  refine lv_iconst (v := (2 : Int32)) hx hb dL_law_395 (by decide) ?_
  refine lv_iadd hx hb dL_law_396 ?_
  refine va_sld hx hb hX hbl hbA hS hi2 dL_law_397 ?_
  have hPc := hP.sub (ws' := (wX1 cy g p2 p3 p6 p7 p10 d0 d1 d2 d3 d4 d5 d6 d7 d8 d9 d10)) [9, 10, 11, 12, 13, 14] rfl
  have hDc := hD.sub (ws' := (wX1 cy g p2 p3 p6 p7 p10 d0 d1 d2 d3 d4 d5 d6 d7 d8 d9 d10)) [9, 10, 11, 12, 13, 14] (by decide) rfl
  have hKc := hK.sub (tys' := [(cy, .int)]) [0] rfl
  have hFc := va_free (wc := (wX1 cy g p2 p3 p6 p7 p10 d0 d1 d2 d3 d4 d5 d6 d7 d8 d9 d10)) hD hS hA [9, 10, 11, 12, 13, 14] rfl
  refine va_calli (va_runV (As := [.int (xs ((nI a) + (1 : Int32)).toNatClampNeg), .int (xs ((nI a) + (2 : Int32)).toNatClampNeg)]) (rest := [.int r1.1]) ⟨hx, hb, hml, hown, hts⟩ (c_X1_both N2 l dC dI cy g p2 p3 p6 p7 p10 H.size d0 d1 d2 d3 d4 d5 d6 d7 d8 d9 d10 (xs ((nI a) + (1 : Int32)).toNatClampNeg) (xs ((nI a) + (2 : Int32)).toNatClampNeg) r2 hf2) (cwV 2 hts gL_law_X1_both rfl rfl rfl (by decide +kernel) ⟨Nat.le_of_ble_eq_true rfl, Nat.le_of_ble_eq_true rfl⟩) ⟨fun a U g mk q => by obtain ⟨q0, q1, qP, qK, qD⟩ := q; exact ⟨q0, q1, qP, va_K.moved (u := U) (U := U.calling g mk a) (Vm.Alike.refl U.vm) qK, qD⟩, va_recv hKc hPc (ci := 1) (q0 := 0) rfl rfl, fun U hU hW => ⟨rfl, by rw [hU], by rw [hU]; exact hPc, va_K.moved hW.alike hKc, hDc.weaken (fun _ _ _ _ => trivial)⟩⟩ rfl rfl hl.1 rfl (lv_room (Nat.le_of_ble_eq_true rfl)) dL_law_398 ⟨Nat.le_of_ble_eq_true rfl, Nat.le_of_ble_eq_true rfl⟩) hS (fun q _ h => hFc q h) hFc (fun rr uu_ t H1 locs ht hvm hw hB hz1 hk1 hS => ?_)
  replace hw := hw.symm
  subst hw
  obtain ⟨hP1, -, hD1⟩ := hB
  rw [ht] at hP1
  obtain ⟨hP, hD⟩ := va_join (wr := (wX0 cy h q2 q3 q4 q5 q6 q7 q8 q9 c0 c1 c2 c3 r1.2.1 r1.2.2.1 r1.2.2.2.1 r1.2.2.2.2 c8 c9 c10 c11)) (w1 := (wX1 cy g p2 p3 p6 p7 p10 d0 d1 d2 d3 r2.2.1 r2.2.2.1 r2.2.2.2 d7 d8 d9 d10)) hP hD [9, 10, 11, 12, 13, 14] [0, 1, 2, 3, 4, 5, 6, 7, 8] rfl rfl (by decide) (by decide) hk1 hFc hP1 hD1
  clear hk1 hz1 hP1 hD1 ht hPc hDc hFc
  generalize H1 = H at hP hS ⊢
  have hP := hP.sub (ws' := ((wX0 cy h q2 q3 q4 q5 q6 q7 q8 q9 c0 c1 c2 c3 r1.2.1 r1.2.2.1 r1.2.2.2.1 r1.2.2.2.2 c8 c9 c10 c11) ++ (wX1 cy g p2 p3 p6 p7 p10 d0 d1 d2 d3 r2.2.1 r2.2.2.1 r2.2.2.2 d7 d8 d9 d10))) [0, 1, 2, 3, 4, 5, 6, 7, 8, 9, 10, 11, 12, 13, 14] rfl
  have hD := hD.sub (ws' := ((wX0 cy h q2 q3 q4 q5 q6 q7 q8 q9 c0 c1 c2 c3 r1.2.1 r1.2.2.1 r1.2.2.2.1 r1.2.2.2.2 c8 c9 c10 c11) ++ (wX1 cy g p2 p3 p6 p7 p10 d0 d1 d2 d3 r2.2.1 r2.2.2.1 r2.2.2.2 d7 d8 d9 d10))) [0, 1, 2, 3, 4, 5, 6, 7, 8, 9, 10, 11, 12, 13, 14] (by decide) rfl
  refine lv_icmp_eq (tgt := 725) hx hb dL_law_401 (by decide) (fun c_9 => ?_) (fun c_9 => ?_)
  · exact hnext c0 c1 c2 c3 r1.2.1 r1.2.2.1 r1.2.2.2.1 r1.2.2.2.2 c8 c9 c10 c11 d0 d1 d2 d3 r2.2.1 r2.2.2.1 r2.2.2.2 d7 d8 d9 d10 hR2 _ _ _ hP hD hS hl
  · exact absurd he c_9

set_option maxHeartbeats 4000000 in
set_option maxRecDepth 100000 in
theorem lk_rooks {p : Program} {l : Launch} {e : Env} {s : State} {m : MethodId} {below : List Frame} {meth : Method} {c : Code} {dC : Nat → ClassId} {dI : Nat → Nat → Nat} {b L : Nat} {xs : Nat → Int32} (hL : L ≤ 2048) (C0 : lw_At p s m meth c b L xs) {R : z_XS → z_MS → Prop} (hop : zo_rooks R) (cy : ClassId) (hK : va_K (dC, dI) vwCl [(cy, .int)] s) (h q2 q3 q4 q5 q6 q7 q8 q9 g p2 p3 p6 p7 p10 : Nat) (a : Nat) (ha : a + 4 ≤ L) (hnext : ∀ (c0 : Int32) (c1 : Int32) (c2 : Nat → Int32) (c3 : Nat → Int32) (c4 : Nat → Int32) (c5 : Nat → Int32) (c6 : Nat → Int32) (c7 : Nat → Int32) (c8 : Nat → Int32) (c9 : Nat → Int32) (c10 : Int32) (c11 : Int32) (d0 : Int32) (d1 : Int32) (d2 : Nat → Int32) (d3 : Nat → Int32) (d4 : Int32) (d5 : Int32) (d6 : Nat → Int32) (d7 : Nat → Int32) (d8 : Int32) (d9 : Int32) (d10 : Nat → Int32), R (c0, c1, c2, c3, c4, c5, c6, c7, c8, c9, c10, c11) (d0, d1, d2, d3, d4, d5, d6, d7, d8, d9, d10) → ∀ (H : Heap) (locs : List Loc) (ls : Array Slot), va_P (dC, dI) vwCl ((wX0 cy h q2 q3 q4 q5 q6 q7 q8 q9 c0 c1 c2 c3 c4 c5 c6 c7 c8 c9 c10 c11) ++ (wX1 cy g p2 p3 p6 p7 p10 d0 d1 d2 d3 d4 d5 d6 d7 d8 d9 d10)) H → va_D (fun q : Nat => s.heap.size ≤ q) ((wX0 cy h q2 q3 q4 q5 q6 q7 q8 q9 c0 c1 c2 c3 c4 c5 c6 c7 c8 c9 c10 c11) ++ (wX1 cy g p2 p3 p6 p7 p10 d0 d1 d2 d3 d4 d5 d6 d7 d8 d9 d10)) → va_S (fun q : Nat => s.heap.size ≤ q) s.heap H locs → lv_has ls 4 [(0, .ref b), (1, .ref h), (2, .ref g), (3, .int (nI a))] → W p l e room_1 s m #[Value.ref b] below meth c H locs 15 2911 (lw_Z below #[Value.ref b] s) (F0 m 725 ls [])) : ∀ (c0 : Int32) (c1 : Int32) (c2 : Nat → Int32) (c3 : Nat → Int32) (c4 : Nat → Int32) (c5 : Nat → Int32) (c6 : Nat → Int32) (c7 : Nat → Int32) (c8 : Nat → Int32) (c9 : Nat → Int32) (c10 : Int32) (c11 : Int32) (d0 : Int32) (d1 : Int32) (d2 : Nat → Int32) (d3 : Nat → Int32) (d4 : Int32) (d5 : Int32) (d6 : Nat → Int32) (d7 : Nat → Int32) (d8 : Int32) (d9 : Int32) (d10 : Nat → Int32) (hR : R (c0, c1, c2, c3, c4, c5, c6, c7, c8, c9, c10, c11) (d0, d1, d2, d3, d4, d5, d6, d7, d8, d9, d10)) (H : Heap) (locs : List Loc) (ls : Array Slot) (hP : va_P (dC, dI) vwCl ((wX0 cy h q2 q3 q4 q5 q6 q7 q8 q9 c0 c1 c2 c3 c4 c5 c6 c7 c8 c9 c10 c11) ++ (wX1 cy g p2 p3 p6 p7 p10 d0 d1 d2 d3 d4 d5 d6 d7 d8 d9 d10)) H) (hD : va_D (fun q : Nat => s.heap.size ≤ q) ((wX0 cy h q2 q3 q4 q5 q6 q7 q8 q9 c0 c1 c2 c3 c4 c5 c6 c7 c8 c9 c10 c11) ++ (wX1 cy g p2 p3 p6 p7 p10 d0 d1 d2 d3 d4 d5 d6 d7 d8 d9 d10))) (hS : va_S (fun q : Nat => s.heap.size ≤ q) s.heap H locs) (hl : lv_has ls 4 [(0, .ref b), (1, .ref h), (2, .ref g), (3, .int (nI a))]), W p l e room_1 s m #[Value.ref b] below meth c H locs 15 2911 (lw_Z below #[Value.ref b] s) (F0 m 406 ls []) := by
  intro c0 c1 c2 c3 c4 c5 c6 c7 c8 c9 c10 c11 d0 d1 d2 d3 d4 d5 d6 d7 d8 d9 d10 hR H locs ls hP hD hS hl
  obtain ⟨hx, hb, hr, hml, hown, hts, hX, hbl, hlocks, hgv⟩ := C0
  have hts := fun w h => hts w (wsL_law_in w h)
  have hA : ∀ q : Nat, s.heap.size ≤ q → (fun q : Nat => s.heap.size ≤ q) q := fun _ h => h
  have hbA : ¬ (fun q : Nat => s.heap.size ≤ q) b := Nat.not_le.mpr hbl
  have hi1 : vp_in (nI a + (1 : Int32)) L := by rw [show nI a + (1 : Int32) = nI (a + 1) from nI_add a 1]; exact vp_in_nI (by omega) (by omega)
  have hi2 : vp_in (nI a + (2 : Int32)) L := by rw [show nI a + (2 : Int32) = nI (a + 2) from nI_add a 2]; exact vp_in_nI (by omega) (by omega)
  have hi3 : vp_in (nI a + (3 : Int32)) L := by rw [show nI a + (3 : Int32) = nI (a + 3) from nI_add a 3]; exact vp_in_nI (by omega) (by omega)
  refine lv_aload_n hx hb dL_law_406 rfl (lv_at hl 1 rfl) ?_
  refine lv_aload_n hx hb dL_law_407 rfl (lv_at hl 0 rfl) ?_
  refine lv_iload_n hx hb dL_law_408 rfl (lv_at hl 3 rfl) ?_
  refine lv_iconst (v := (1 : Int32)) hx hb dL_law_409 (by decide) ?_
  refine lv_iadd hx hb dL_law_410 ?_
  refine va_sld hx hb hX hbl hbA hS hi1 dL_law_411 ?_
  obtain ⟨N1, r1, N2, r2, hf1, hf2, he, hR2⟩ := hop c0 c1 c2 c3 c4 c5 c6 c7 c8 c9 c10 c11 d0 d1 d2 d3 d4 d5 d6 d7 d8 d9 d10 (xs ((nI a) + (1 : Int32)).toNatClampNeg) hR
  have hPc := hP.sub (ws' := (wX0 cy h q2 q3 q4 q5 q6 q7 q8 q9 c0 c1 c2 c3 c4 c5 c6 c7 c8 c9 c10 c11)) [0, 1, 2, 3, 4, 5, 6, 7, 8] rfl
  have hDc := hD.sub (ws' := (wX0 cy h q2 q3 q4 q5 q6 q7 q8 q9 c0 c1 c2 c3 c4 c5 c6 c7 c8 c9 c10 c11)) [0, 1, 2, 3, 4, 5, 6, 7, 8] (by decide) rfl
  have hKc := hK.sub (tys' := [(cy, .int)]) [0] rfl
  have hFc := va_free (wc := (wX0 cy h q2 q3 q4 q5 q6 q7 q8 q9 c0 c1 c2 c3 c4 c5 c6 c7 c8 c9 c10 c11)) hD hS hA [0, 1, 2, 3, 4, 5, 6, 7, 8] rfl
  refine va_calli (va_runV (As := [.int (xs ((nI a) + (1 : Int32)).toNatClampNeg)]) (rest := []) ⟨hx, hb, hml, hown, hts⟩ (c_X0_rooks N1 l dC dI cy h q2 q3 q4 q5 q6 q7 q8 q9 H.size c0 c1 c2 c3 c4 c5 c6 c7 c8 c9 c10 c11 (xs ((nI a) + (1 : Int32)).toNatClampNeg) r1 hf1) (cwV 1 hts gL_law_X0_rooks rfl rfl rfl (by decide +kernel) ⟨Nat.le_of_ble_eq_true rfl, Nat.le_of_ble_eq_true rfl⟩) ⟨fun a U g mk q => by obtain ⟨q0, q1, qP, qK, qD⟩ := q; exact ⟨q0, q1, qP, va_K.moved (u := U) (U := U.calling g mk a) (Vm.Alike.refl U.vm) qK, qD⟩, va_recv hKc hPc (ci := 0) (q0 := 0) rfl rfl, fun U hU hW => ⟨rfl, by rw [hU], by rw [hU]; exact hPc, va_K.moved hW.alike hKc, hDc.weaken (fun _ _ _ _ => trivial)⟩⟩ rfl rfl hl.1 rfl (lv_room (Nat.le_of_ble_eq_true rfl)) dL_law_412 ⟨Nat.le_of_ble_eq_true rfl, Nat.le_of_ble_eq_true rfl⟩) hS (fun q _ h => hFc q h) hFc (fun rr uu_ t H1 locs ht hvm hw hB hz1 hk1 hS => ?_)
  replace hw := hw.symm
  subst hw
  obtain ⟨hP1, -, hD1⟩ := hB
  rw [ht] at hP1
  obtain ⟨hP, hD⟩ := va_join (wr := (wX1 cy g p2 p3 p6 p7 p10 d0 d1 d2 d3 d4 d5 d6 d7 d8 d9 d10)) (w1 := (wX0 cy h q2 q3 q4 q5 q6 q7 q8 q9 c0 c1 c2 c3 c4 c5 c6 r1.2 c8 c9 c10 c11)) hP hD [0, 1, 2, 3, 4, 5, 6, 7, 8] [9, 10, 11, 12, 13, 14] rfl rfl (by decide) (by decide) hk1 hFc hP1 hD1
  clear hk1 hz1 hP1 hD1 ht hPc hDc hFc
  generalize H1 = H at hP hS ⊢
  have hP := hP.sub (ws' := ((wX0 cy h q2 q3 q4 q5 q6 q7 q8 q9 c0 c1 c2 c3 c4 c5 c6 r1.2 c8 c9 c10 c11) ++ (wX1 cy g p2 p3 p6 p7 p10 d0 d1 d2 d3 d4 d5 d6 d7 d8 d9 d10))) [6, 7, 8, 9, 10, 11, 12, 13, 14, 0, 1, 2, 3, 4, 5] rfl
  have hD := hD.sub (ws' := ((wX0 cy h q2 q3 q4 q5 q6 q7 q8 q9 c0 c1 c2 c3 c4 c5 c6 r1.2 c8 c9 c10 c11) ++ (wX1 cy g p2 p3 p6 p7 p10 d0 d1 d2 d3 d4 d5 d6 d7 d8 d9 d10))) [6, 7, 8, 9, 10, 11, 12, 13, 14, 0, 1, 2, 3, 4, 5] (by decide) rfl
  refine lv_aload_n hx hb dL_law_415 rfl (lv_at hl 2 rfl) ?_
  refine lv_aload_n hx hb dL_law_416 rfl (lv_at hl 0 rfl) ?_
  refine lv_iload_n hx hb dL_law_417 rfl (lv_at hl 3 rfl) ?_
  refine lv_iconst (v := (1 : Int32)) hx hb dL_law_418 (by decide) ?_
  refine lv_iadd hx hb dL_law_419 ?_
  refine va_sld hx hb hX hbl hbA hS hi1 dL_law_420 ?_
  have hPc := hP.sub (ws' := (wX1 cy g p2 p3 p6 p7 p10 d0 d1 d2 d3 d4 d5 d6 d7 d8 d9 d10)) [9, 10, 11, 12, 13, 14] rfl
  have hDc := hD.sub (ws' := (wX1 cy g p2 p3 p6 p7 p10 d0 d1 d2 d3 d4 d5 d6 d7 d8 d9 d10)) [9, 10, 11, 12, 13, 14] (by decide) rfl
  have hKc := hK.sub (tys' := [(cy, .int)]) [0] rfl
  have hFc := va_free (wc := (wX1 cy g p2 p3 p6 p7 p10 d0 d1 d2 d3 d4 d5 d6 d7 d8 d9 d10)) hD hS hA [9, 10, 11, 12, 13, 14] rfl
  refine va_calli (va_runV (As := [.int (xs ((nI a) + (1 : Int32)).toNatClampNeg)]) (rest := [.int r1.1]) ⟨hx, hb, hml, hown, hts⟩ (c_X1_rooks N2 l dC dI cy g p2 p3 p6 p7 p10 H.size d0 d1 d2 d3 d4 d5 d6 d7 d8 d9 d10 (xs ((nI a) + (1 : Int32)).toNatClampNeg) r2 hf2) (cwV 1 hts gL_law_X1_rooks rfl rfl rfl (by decide +kernel) ⟨Nat.le_of_ble_eq_true rfl, Nat.le_of_ble_eq_true rfl⟩) ⟨fun a U g mk q => by obtain ⟨q0, q1, qP, qK, qD⟩ := q; exact ⟨q0, q1, qP, va_K.moved (u := U) (U := U.calling g mk a) (Vm.Alike.refl U.vm) qK, qD⟩, va_recv hKc hPc (ci := 1) (q0 := 0) rfl rfl, fun U hU hW => ⟨rfl, by rw [hU], by rw [hU]; exact hPc, va_K.moved hW.alike hKc, hDc.weaken (fun _ _ _ _ => trivial)⟩⟩ rfl rfl hl.1 rfl (lv_room (Nat.le_of_ble_eq_true rfl)) dL_law_421 ⟨Nat.le_of_ble_eq_true rfl, Nat.le_of_ble_eq_true rfl⟩) hS (fun q _ h => hFc q h) hFc (fun rr uu_ t H1 locs ht hvm hw hB hz1 hk1 hS => ?_)
  replace hw := hw.symm
  subst hw
  obtain ⟨hP1, -, hD1⟩ := hB
  rw [ht] at hP1
  obtain ⟨hP, hD⟩ := va_join (wr := (wX0 cy h q2 q3 q4 q5 q6 q7 q8 q9 c0 c1 c2 c3 c4 c5 c6 r1.2 c8 c9 c10 c11)) (w1 := (wX1 cy g p2 p3 p6 p7 p10 d0 d1 d2 d3 d4 d5 d6 r2.2 d8 d9 d10)) hP hD [9, 10, 11, 12, 13, 14] [0, 1, 2, 3, 4, 5, 6, 7, 8] rfl rfl (by decide) (by decide) hk1 hFc hP1 hD1
  clear hk1 hz1 hP1 hD1 ht hPc hDc hFc
  generalize H1 = H at hP hS ⊢
  have hP := hP.sub (ws' := ((wX0 cy h q2 q3 q4 q5 q6 q7 q8 q9 c0 c1 c2 c3 c4 c5 c6 r1.2 c8 c9 c10 c11) ++ (wX1 cy g p2 p3 p6 p7 p10 d0 d1 d2 d3 d4 d5 d6 r2.2 d8 d9 d10))) [0, 1, 2, 3, 4, 5, 6, 7, 8, 9, 10, 11, 12, 13, 14] rfl
  have hD := hD.sub (ws' := ((wX0 cy h q2 q3 q4 q5 q6 q7 q8 q9 c0 c1 c2 c3 c4 c5 c6 r1.2 c8 c9 c10 c11) ++ (wX1 cy g p2 p3 p6 p7 p10 d0 d1 d2 d3 d4 d5 d6 r2.2 d8 d9 d10))) [0, 1, 2, 3, 4, 5, 6, 7, 8, 9, 10, 11, 12, 13, 14] (by decide) rfl
  refine lv_icmp_eq (tgt := 725) hx hb dL_law_424 (by decide) (fun c_9 => ?_) (fun c_9 => ?_)
  · exact hnext c0 c1 c2 c3 c4 c5 c6 r1.2 c8 c9 c10 c11 d0 d1 d2 d3 d4 d5 d6 r2.2 d8 d9 d10 hR2 _ _ _ hP hD hS hl
  · exact absurd he c_9

set_option maxHeartbeats 4000000 in
set_option maxRecDepth 100000 in
theorem lk_heap {p : Program} {l : Launch} {e : Env} {s : State} {m : MethodId} {below : List Frame} {meth : Method} {c : Code} {dC : Nat → ClassId} {dI : Nat → Nat → Nat} {b L : Nat} {xs : Nat → Int32} (hL : L ≤ 2048) (C0 : lw_At p s m meth c b L xs) {R : z_XS → z_MS → Prop} (hop : zo_heap R) (cy : ClassId) (hK : va_K (dC, dI) vwCl [(cy, .int)] s) (h q2 q3 q4 q5 q6 q7 q8 q9 g p2 p3 p6 p7 p10 : Nat) (a : Nat) (ha : a + 4 ≤ L) (hnext : ∀ (c0 : Int32) (c1 : Int32) (c2 : Nat → Int32) (c3 : Nat → Int32) (c4 : Nat → Int32) (c5 : Nat → Int32) (c6 : Nat → Int32) (c7 : Nat → Int32) (c8 : Nat → Int32) (c9 : Nat → Int32) (c10 : Int32) (c11 : Int32) (d0 : Int32) (d1 : Int32) (d2 : Nat → Int32) (d3 : Nat → Int32) (d4 : Int32) (d5 : Int32) (d6 : Nat → Int32) (d7 : Nat → Int32) (d8 : Int32) (d9 : Int32) (d10 : Nat → Int32), R (c0, c1, c2, c3, c4, c5, c6, c7, c8, c9, c10, c11) (d0, d1, d2, d3, d4, d5, d6, d7, d8, d9, d10) → ∀ (H : Heap) (locs : List Loc) (ls : Array Slot), va_P (dC, dI) vwCl ((wX0 cy h q2 q3 q4 q5 q6 q7 q8 q9 c0 c1 c2 c3 c4 c5 c6 c7 c8 c9 c10 c11) ++ (wX1 cy g p2 p3 p6 p7 p10 d0 d1 d2 d3 d4 d5 d6 d7 d8 d9 d10)) H → va_D (fun q : Nat => s.heap.size ≤ q) ((wX0 cy h q2 q3 q4 q5 q6 q7 q8 q9 c0 c1 c2 c3 c4 c5 c6 c7 c8 c9 c10 c11) ++ (wX1 cy g p2 p3 p6 p7 p10 d0 d1 d2 d3 d4 d5 d6 d7 d8 d9 d10)) → va_S (fun q : Nat => s.heap.size ≤ q) s.heap H locs → lv_has ls 4 [(0, .ref b), (1, .ref h), (2, .ref g), (3, .int (nI a))] → W p l e room_1 s m #[Value.ref b] below meth c H locs 15 2911 (lw_Z below #[Value.ref b] s) (F0 m 725 ls [])) : ∀ (c0 : Int32) (c1 : Int32) (c2 : Nat → Int32) (c3 : Nat → Int32) (c4 : Nat → Int32) (c5 : Nat → Int32) (c6 : Nat → Int32) (c7 : Nat → Int32) (c8 : Nat → Int32) (c9 : Nat → Int32) (c10 : Int32) (c11 : Int32) (d0 : Int32) (d1 : Int32) (d2 : Nat → Int32) (d3 : Nat → Int32) (d4 : Int32) (d5 : Int32) (d6 : Nat → Int32) (d7 : Nat → Int32) (d8 : Int32) (d9 : Int32) (d10 : Nat → Int32) (hR : R (c0, c1, c2, c3, c4, c5, c6, c7, c8, c9, c10, c11) (d0, d1, d2, d3, d4, d5, d6, d7, d8, d9, d10)) (H : Heap) (locs : List Loc) (ls : Array Slot) (hP : va_P (dC, dI) vwCl ((wX0 cy h q2 q3 q4 q5 q6 q7 q8 q9 c0 c1 c2 c3 c4 c5 c6 c7 c8 c9 c10 c11) ++ (wX1 cy g p2 p3 p6 p7 p10 d0 d1 d2 d3 d4 d5 d6 d7 d8 d9 d10)) H) (hD : va_D (fun q : Nat => s.heap.size ≤ q) ((wX0 cy h q2 q3 q4 q5 q6 q7 q8 q9 c0 c1 c2 c3 c4 c5 c6 c7 c8 c9 c10 c11) ++ (wX1 cy g p2 p3 p6 p7 p10 d0 d1 d2 d3 d4 d5 d6 d7 d8 d9 d10))) (hS : va_S (fun q : Nat => s.heap.size ≤ q) s.heap H locs) (hl : lv_has ls 4 [(0, .ref b), (1, .ref h), (2, .ref g), (3, .int (nI a))]), W p l e room_1 s m #[Value.ref b] below meth c H locs 15 2911 (lw_Z below #[Value.ref b] s) (F0 m 429 ls []) := by
  intro c0 c1 c2 c3 c4 c5 c6 c7 c8 c9 c10 c11 d0 d1 d2 d3 d4 d5 d6 d7 d8 d9 d10 hR H locs ls hP hD hS hl
  obtain ⟨hx, hb, hr, hml, hown, hts, hX, hbl, hlocks, hgv⟩ := C0
  have hts := fun w h => hts w (wsL_law_in w h)
  have hA : ∀ q : Nat, s.heap.size ≤ q → (fun q : Nat => s.heap.size ≤ q) q := fun _ h => h
  have hbA : ¬ (fun q : Nat => s.heap.size ≤ q) b := Nat.not_le.mpr hbl
  have hi1 : vp_in (nI a + (1 : Int32)) L := by rw [show nI a + (1 : Int32) = nI (a + 1) from nI_add a 1]; exact vp_in_nI (by omega) (by omega)
  have hi2 : vp_in (nI a + (2 : Int32)) L := by rw [show nI a + (2 : Int32) = nI (a + 2) from nI_add a 2]; exact vp_in_nI (by omega) (by omega)
  have hi3 : vp_in (nI a + (3 : Int32)) L := by rw [show nI a + (3 : Int32) = nI (a + 3) from nI_add a 3]; exact vp_in_nI (by omega) (by omega)
  refine lv_aload_n hx hb dL_law_429 rfl (lv_at hl 1 rfl) ?_
  obtain ⟨N1, r1, N2, r2, hf1, hf2, he, hR2⟩ := hop c0 c1 c2 c3 c4 c5 c6 c7 c8 c9 c10 c11 d0 d1 d2 d3 d4 d5 d6 d7 d8 d9 d10  hR
  have hPc := hP.sub (ws' := (wX0 cy h q2 q3 q4 q5 q6 q7 q8 q9 c0 c1 c2 c3 c4 c5 c6 c7 c8 c9 c10 c11)) [0, 1, 2, 3, 4, 5, 6, 7, 8] rfl
  have hDc := hD.sub (ws' := (wX0 cy h q2 q3 q4 q5 q6 q7 q8 q9 c0 c1 c2 c3 c4 c5 c6 c7 c8 c9 c10 c11)) [0, 1, 2, 3, 4, 5, 6, 7, 8] (by decide) rfl
  have hKc := hK.sub (tys' := [(cy, .int)]) [0] rfl
  have hFc := va_free (wc := (wX0 cy h q2 q3 q4 q5 q6 q7 q8 q9 c0 c1 c2 c3 c4 c5 c6 c7 c8 c9 c10 c11)) hD hS hA [0, 1, 2, 3, 4, 5, 6, 7, 8] rfl
  refine va_calli (va_runV (As := []) (rest := []) ⟨hx, hb, hml, hown, hts⟩ (c_X0_heap N1 l dC dI cy h q2 q3 q4 q5 q6 q7 q8 q9 H.size c0 c1 c2 c3 c4 c5 c6 c7 c8 c9 c10 c11  r1 hf1) (cwV 0 hts gL_law_X0_heap rfl rfl rfl (by decide +kernel) ⟨Nat.le_of_ble_eq_true rfl, Nat.le_of_ble_eq_true rfl⟩) ⟨fun a U g mk q => by obtain ⟨q0, q1, qP, qK, qD⟩ := q; exact ⟨q0, q1, qP, va_K.moved (u := U) (U := U.calling g mk a) (Vm.Alike.refl U.vm) qK, qD⟩, va_recv hKc hPc (ci := 0) (q0 := 0) rfl rfl, fun U hU hW => ⟨rfl, by rw [hU], by rw [hU]; exact hPc, va_K.moved hW.alike hKc, hDc.weaken (fun _ _ _ _ => trivial)⟩⟩ rfl rfl hl.1 rfl (lv_room (Nat.le_of_ble_eq_true rfl)) dL_law_430 ⟨Nat.le_of_ble_eq_true rfl, Nat.le_of_ble_eq_true rfl⟩) hS (fun q _ h => hFc q h) hFc (fun rr uu_ t H1 locs ht hvm hw hB hz1 hk1 hS => ?_)
  replace hw := hw.symm
  subst hw
  obtain ⟨hP1, -, hD1⟩ := hB
  rw [ht] at hP1
  obtain ⟨hP, hD⟩ := va_join (wr := (wX1 cy g p2 p3 p6 p7 p10 d0 d1 d2 d3 d4 d5 d6 d7 d8 d9 d10)) (w1 := (wX0 cy h q2 q3 q4 q5 q6 q7 q8 q9 c0 c1 c2 c3 c4 c5 c6 c7 c8 c9 c10 c11)) hP hD [0, 1, 2, 3, 4, 5, 6, 7, 8] [9, 10, 11, 12, 13, 14] rfl rfl (by decide) (by decide) hk1 hFc hP1 hD1
  clear hk1 hz1 hP1 hD1 ht hPc hDc hFc
  generalize H1 = H at hP hS ⊢
  have hP := hP.sub (ws' := ((wX0 cy h q2 q3 q4 q5 q6 q7 q8 q9 c0 c1 c2 c3 c4 c5 c6 c7 c8 c9 c10 c11) ++ (wX1 cy g p2 p3 p6 p7 p10 d0 d1 d2 d3 d4 d5 d6 d7 d8 d9 d10))) [6, 7, 8, 9, 10, 11, 12, 13, 14, 0, 1, 2, 3, 4, 5] rfl
  have hD := hD.sub (ws' := ((wX0 cy h q2 q3 q4 q5 q6 q7 q8 q9 c0 c1 c2 c3 c4 c5 c6 c7 c8 c9 c10 c11) ++ (wX1 cy g p2 p3 p6 p7 p10 d0 d1 d2 d3 d4 d5 d6 d7 d8 d9 d10))) [6, 7, 8, 9, 10, 11, 12, 13, 14, 0, 1, 2, 3, 4, 5] (by decide) rfl
  refine lv_aload_n hx hb dL_law_433 rfl (lv_at hl 2 rfl) ?_
  have hPc := hP.sub (ws' := (wX1 cy g p2 p3 p6 p7 p10 d0 d1 d2 d3 d4 d5 d6 d7 d8 d9 d10)) [9, 10, 11, 12, 13, 14] rfl
  have hDc := hD.sub (ws' := (wX1 cy g p2 p3 p6 p7 p10 d0 d1 d2 d3 d4 d5 d6 d7 d8 d9 d10)) [9, 10, 11, 12, 13, 14] (by decide) rfl
  have hKc := hK.sub (tys' := [(cy, .int)]) [0] rfl
  have hFc := va_free (wc := (wX1 cy g p2 p3 p6 p7 p10 d0 d1 d2 d3 d4 d5 d6 d7 d8 d9 d10)) hD hS hA [9, 10, 11, 12, 13, 14] rfl
  refine va_calli (va_runV (As := []) (rest := [.int r1]) ⟨hx, hb, hml, hown, hts⟩ (c_X1_heap N2 l dC dI cy g p2 p3 p6 p7 p10 H.size d0 d1 d2 d3 d4 d5 d6 d7 d8 d9 d10  r2 hf2) (cwV 0 hts gL_law_X1_heap rfl rfl rfl (by decide +kernel) ⟨Nat.le_of_ble_eq_true rfl, Nat.le_of_ble_eq_true rfl⟩) ⟨fun a U g mk q => by obtain ⟨q0, q1, qP, qK, qD⟩ := q; exact ⟨q0, q1, qP, va_K.moved (u := U) (U := U.calling g mk a) (Vm.Alike.refl U.vm) qK, qD⟩, va_recv hKc hPc (ci := 1) (q0 := 0) rfl rfl, fun U hU hW => ⟨rfl, by rw [hU], by rw [hU]; exact hPc, va_K.moved hW.alike hKc, hDc.weaken (fun _ _ _ _ => trivial)⟩⟩ rfl rfl hl.1 rfl (lv_room (Nat.le_of_ble_eq_true rfl)) dL_law_434 ⟨Nat.le_of_ble_eq_true rfl, Nat.le_of_ble_eq_true rfl⟩) hS (fun q _ h => hFc q h) hFc (fun rr uu_ t H1 locs ht hvm hw hB hz1 hk1 hS => ?_)
  replace hw := hw.symm
  subst hw
  obtain ⟨hP1, -, hD1⟩ := hB
  rw [ht] at hP1
  obtain ⟨hP, hD⟩ := va_join (wr := (wX0 cy h q2 q3 q4 q5 q6 q7 q8 q9 c0 c1 c2 c3 c4 c5 c6 c7 c8 c9 c10 c11)) (w1 := (wX1 cy g p2 p3 p6 p7 p10 d0 d1 d2 d3 d4 d5 d6 d7 d8 d9 d10)) hP hD [9, 10, 11, 12, 13, 14] [0, 1, 2, 3, 4, 5, 6, 7, 8] rfl rfl (by decide) (by decide) hk1 hFc hP1 hD1
  clear hk1 hz1 hP1 hD1 ht hPc hDc hFc
  generalize H1 = H at hP hS ⊢
  have hP := hP.sub (ws' := ((wX0 cy h q2 q3 q4 q5 q6 q7 q8 q9 c0 c1 c2 c3 c4 c5 c6 c7 c8 c9 c10 c11) ++ (wX1 cy g p2 p3 p6 p7 p10 d0 d1 d2 d3 d4 d5 d6 d7 d8 d9 d10))) [0, 1, 2, 3, 4, 5, 6, 7, 8, 9, 10, 11, 12, 13, 14] rfl
  have hD := hD.sub (ws' := ((wX0 cy h q2 q3 q4 q5 q6 q7 q8 q9 c0 c1 c2 c3 c4 c5 c6 c7 c8 c9 c10 c11) ++ (wX1 cy g p2 p3 p6 p7 p10 d0 d1 d2 d3 d4 d5 d6 d7 d8 d9 d10))) [0, 1, 2, 3, 4, 5, 6, 7, 8, 9, 10, 11, 12, 13, 14] (by decide) rfl
  refine lv_icmp_eq (tgt := 725) hx hb dL_law_437 (by decide) (fun c_9 => ?_) (fun c_9 => ?_)
  · exact hnext c0 c1 c2 c3 c4 c5 c6 c7 c8 c9 c10 c11 d0 d1 d2 d3 d4 d5 d6 d7 d8 d9 d10 hR2 _ _ _ hP hD hS hl
  · exact absurd he c_9

set_option maxHeartbeats 4000000 in
set_option maxRecDepth 100000 in
theorem lk_lay {p : Program} {l : Launch} {e : Env} {s : State} {m : MethodId} {below : List Frame} {meth : Method} {c : Code} {dC : Nat → ClassId} {dI : Nat → Nat → Nat} {b L : Nat} {xs : Nat → Int32} (hL : L ≤ 2048) (C0 : lw_At p s m meth c b L xs) {R : z_XS → z_MS → Prop} (hop : zo_lay R) (cy : ClassId) (hK : va_K (dC, dI) vwCl [(cy, .int)] s) (h q2 q3 q4 q5 q6 q7 q8 q9 g p2 p3 p6 p7 p10 : Nat) (a : Nat) (ha : a + 4 ≤ L) (hnext : ∀ (c0 : Int32) (c1 : Int32) (c2 : Nat → Int32) (c3 : Nat → Int32) (c4 : Nat → Int32) (c5 : Nat → Int32) (c6 : Nat → Int32) (c7 : Nat → Int32) (c8 : Nat → Int32) (c9 : Nat → Int32) (c10 : Int32) (c11 : Int32) (d0 : Int32) (d1 : Int32) (d2 : Nat → Int32) (d3 : Nat → Int32) (d4 : Int32) (d5 : Int32) (d6 : Nat → Int32) (d7 : Nat → Int32) (d8 : Int32) (d9 : Int32) (d10 : Nat → Int32), R (c0, c1, c2, c3, c4, c5, c6, c7, c8, c9, c10, c11) (d0, d1, d2, d3, d4, d5, d6, d7, d8, d9, d10) → ∀ (H : Heap) (locs : List Loc) (ls : Array Slot), va_P (dC, dI) vwCl ((wX0 cy h q2 q3 q4 q5 q6 q7 q8 q9 c0 c1 c2 c3 c4 c5 c6 c7 c8 c9 c10 c11) ++ (wX1 cy g p2 p3 p6 p7 p10 d0 d1 d2 d3 d4 d5 d6 d7 d8 d9 d10)) H → va_D (fun q : Nat => s.heap.size ≤ q) ((wX0 cy h q2 q3 q4 q5 q6 q7 q8 q9 c0 c1 c2 c3 c4 c5 c6 c7 c8 c9 c10 c11) ++ (wX1 cy g p2 p3 p6 p7 p10 d0 d1 d2 d3 d4 d5 d6 d7 d8 d9 d10)) → va_S (fun q : Nat => s.heap.size ≤ q) s.heap H locs → lv_has ls 4 [(0, .ref b), (1, .ref h), (2, .ref g), (3, .int (nI a))] → W p l e room_1 s m #[Value.ref b] below meth c H locs 15 2911 (lw_Z below #[Value.ref b] s) (F0 m 725 ls [])) : ∀ (c0 : Int32) (c1 : Int32) (c2 : Nat → Int32) (c3 : Nat → Int32) (c4 : Nat → Int32) (c5 : Nat → Int32) (c6 : Nat → Int32) (c7 : Nat → Int32) (c8 : Nat → Int32) (c9 : Nat → Int32) (c10 : Int32) (c11 : Int32) (d0 : Int32) (d1 : Int32) (d2 : Nat → Int32) (d3 : Nat → Int32) (d4 : Int32) (d5 : Int32) (d6 : Nat → Int32) (d7 : Nat → Int32) (d8 : Int32) (d9 : Int32) (d10 : Nat → Int32) (hR : R (c0, c1, c2, c3, c4, c5, c6, c7, c8, c9, c10, c11) (d0, d1, d2, d3, d4, d5, d6, d7, d8, d9, d10)) (H : Heap) (locs : List Loc) (ls : Array Slot) (hP : va_P (dC, dI) vwCl ((wX0 cy h q2 q3 q4 q5 q6 q7 q8 q9 c0 c1 c2 c3 c4 c5 c6 c7 c8 c9 c10 c11) ++ (wX1 cy g p2 p3 p6 p7 p10 d0 d1 d2 d3 d4 d5 d6 d7 d8 d9 d10)) H) (hD : va_D (fun q : Nat => s.heap.size ≤ q) ((wX0 cy h q2 q3 q4 q5 q6 q7 q8 q9 c0 c1 c2 c3 c4 c5 c6 c7 c8 c9 c10 c11) ++ (wX1 cy g p2 p3 p6 p7 p10 d0 d1 d2 d3 d4 d5 d6 d7 d8 d9 d10))) (hS : va_S (fun q : Nat => s.heap.size ≤ q) s.heap H locs) (hl : lv_has ls 4 [(0, .ref b), (1, .ref h), (2, .ref g), (3, .int (nI a))]), W p l e room_1 s m #[Value.ref b] below meth c H locs 15 2911 (lw_Z below #[Value.ref b] s) (F0 m 442 ls []) := by
  intro c0 c1 c2 c3 c4 c5 c6 c7 c8 c9 c10 c11 d0 d1 d2 d3 d4 d5 d6 d7 d8 d9 d10 hR H locs ls hP hD hS hl
  obtain ⟨hx, hb, hr, hml, hown, hts, hX, hbl, hlocks, hgv⟩ := C0
  have hts := fun w h => hts w (wsL_law_in w h)
  have hA : ∀ q : Nat, s.heap.size ≤ q → (fun q : Nat => s.heap.size ≤ q) q := fun _ h => h
  have hbA : ¬ (fun q : Nat => s.heap.size ≤ q) b := Nat.not_le.mpr hbl
  have hi1 : vp_in (nI a + (1 : Int32)) L := by rw [show nI a + (1 : Int32) = nI (a + 1) from nI_add a 1]; exact vp_in_nI (by omega) (by omega)
  have hi2 : vp_in (nI a + (2 : Int32)) L := by rw [show nI a + (2 : Int32) = nI (a + 2) from nI_add a 2]; exact vp_in_nI (by omega) (by omega)
  have hi3 : vp_in (nI a + (3 : Int32)) L := by rw [show nI a + (3 : Int32) = nI (a + 3) from nI_add a 3]; exact vp_in_nI (by omega) (by omega)
  refine lv_aload_n hx hb dL_law_442 rfl (lv_at hl 1 rfl) ?_
  refine lv_aload_n hx hb dL_law_443 rfl (lv_at hl 0 rfl) ?_
  refine lv_iload_n hx hb dL_law_444 rfl (lv_at hl 3 rfl) ?_
  refine lv_iconst (v := (1 : Int32)) hx hb dL_law_445 (by decide) ?_
  refine lv_iadd hx hb dL_law_446 ?_
  refine va_sld hx hb hX hbl hbA hS hi1 dL_law_447 ?_
  refine lv_aload_n hx hb dL_law_448 rfl (lv_at hl 0 rfl) ?_
  refine lv_iload_n hx hb dL_law_449 rfl (lv_at hl 3 rfl) ?_
  refine lv_iconst (v := (2 : Int32)) hx hb dL_law_450 (by decide) ?_
  refine lv_iadd hx hb dL_law_451 ?_
  refine va_sld hx hb hX hbl hbA hS hi2 dL_law_452 ?_
  obtain ⟨N1, r1, N2, r2, hf1, hf2, he, hR2⟩ := hop c0 c1 c2 c3 c4 c5 c6 c7 c8 c9 c10 c11 d0 d1 d2 d3 d4 d5 d6 d7 d8 d9 d10 (xs ((nI a) + (1 : Int32)).toNatClampNeg) (xs ((nI a) + (2 : Int32)).toNatClampNeg) hR
  have hPc := hP.sub (ws' := (wX0 cy h q2 q3 q4 q5 q6 q7 q8 q9 c0 c1 c2 c3 c4 c5 c6 c7 c8 c9 c10 c11)) [0, 1, 2, 3, 4, 5, 6, 7, 8] rfl
  have hDc := hD.sub (ws' := (wX0 cy h q2 q3 q4 q5 q6 q7 q8 q9 c0 c1 c2 c3 c4 c5 c6 c7 c8 c9 c10 c11)) [0, 1, 2, 3, 4, 5, 6, 7, 8] (by decide) rfl
  have hKc := hK.sub (tys' := [(cy, .int)]) [0] rfl
  have hFc := va_free (wc := (wX0 cy h q2 q3 q4 q5 q6 q7 q8 q9 c0 c1 c2 c3 c4 c5 c6 c7 c8 c9 c10 c11)) hD hS hA [0, 1, 2, 3, 4, 5, 6, 7, 8] rfl
  refine va_calli (va_runV (As := [.int (xs ((nI a) + (1 : Int32)).toNatClampNeg), .int (xs ((nI a) + (2 : Int32)).toNatClampNeg)]) (rest := []) ⟨hx, hb, hml, hown, hts⟩ (c_X0_lay N1 l dC dI cy h q2 q3 q4 q5 q6 q7 q8 q9 H.size c0 c1 c2 c3 c4 c5 c6 c7 c8 c9 c10 c11 (xs ((nI a) + (1 : Int32)).toNatClampNeg) (xs ((nI a) + (2 : Int32)).toNatClampNeg) r1 hf1) (cwV 2 hts gL_law_X0_lay rfl rfl rfl (by decide +kernel) ⟨Nat.le_of_ble_eq_true rfl, Nat.le_of_ble_eq_true rfl⟩) ⟨fun a U g mk q => by obtain ⟨q0, q1, qP, qK, qD⟩ := q; exact ⟨q0, q1, qP, va_K.moved (u := U) (U := U.calling g mk a) (Vm.Alike.refl U.vm) qK, qD⟩, va_recv hKc hPc (ci := 0) (q0 := 0) rfl rfl, fun U hU hW => ⟨rfl, by rw [hU], by rw [hU]; exact hPc, va_K.moved hW.alike hKc, hDc.weaken (fun _ _ _ _ => trivial)⟩⟩ rfl rfl hl.1 rfl (lv_room (Nat.le_of_ble_eq_true rfl)) dL_law_453 ⟨Nat.le_of_ble_eq_true rfl, Nat.le_of_ble_eq_true rfl⟩) hS (fun q _ h => hFc q h) hFc (fun rr uu_ t H1 locs ht hvm hw hB hz1 hk1 hS => ?_)
  replace hw := hw.symm
  subst hw
  obtain ⟨hP1, -, hD1⟩ := hB
  rw [ht] at hP1
  obtain ⟨hP, hD⟩ := va_join (wr := (wX1 cy g p2 p3 p6 p7 p10 d0 d1 d2 d3 d4 d5 d6 d7 d8 d9 d10)) (w1 := (wX0 cy h q2 q3 q4 q5 q6 q7 q8 q9 c0 c1 c2 r1.2 c4 c5 c6 c7 c8 c9 c10 c11)) hP hD [0, 1, 2, 3, 4, 5, 6, 7, 8] [9, 10, 11, 12, 13, 14] rfl rfl (by decide) (by decide) hk1 hFc hP1 hD1
  clear hk1 hz1 hP1 hD1 ht hPc hDc hFc
  generalize H1 = H at hP hS ⊢
  have hP := hP.sub (ws' := ((wX0 cy h q2 q3 q4 q5 q6 q7 q8 q9 c0 c1 c2 r1.2 c4 c5 c6 c7 c8 c9 c10 c11) ++ (wX1 cy g p2 p3 p6 p7 p10 d0 d1 d2 d3 d4 d5 d6 d7 d8 d9 d10))) [6, 7, 8, 9, 10, 11, 12, 13, 14, 0, 1, 2, 3, 4, 5] rfl
  have hD := hD.sub (ws' := ((wX0 cy h q2 q3 q4 q5 q6 q7 q8 q9 c0 c1 c2 r1.2 c4 c5 c6 c7 c8 c9 c10 c11) ++ (wX1 cy g p2 p3 p6 p7 p10 d0 d1 d2 d3 d4 d5 d6 d7 d8 d9 d10))) [6, 7, 8, 9, 10, 11, 12, 13, 14, 0, 1, 2, 3, 4, 5] (by decide) rfl
  refine lv_aload_n hx hb dL_law_456 rfl (lv_at hl 2 rfl) ?_
  refine lv_aload_n hx hb dL_law_457 rfl (lv_at hl 0 rfl) ?_
  refine lv_iload_n hx hb dL_law_458 rfl (lv_at hl 3 rfl) ?_
  refine lv_iconst (v := (1 : Int32)) hx hb dL_law_459 (by decide) ?_
  refine lv_iadd hx hb dL_law_460 ?_
  refine va_sld hx hb hX hbl hbA hS hi1 dL_law_461 ?_
  refine lv_aload_n hx hb dL_law_462 rfl (lv_at hl 0 rfl) ?_
  refine lv_iload_n hx hb dL_law_463 rfl (lv_at hl 3 rfl) ?_
  refine lv_iconst (v := (2 : Int32)) hx hb dL_law_464 (by decide) ?_
  refine lv_iadd hx hb dL_law_465 ?_
  refine va_sld hx hb hX hbl hbA hS hi2 dL_law_466 ?_
  have hPc := hP.sub (ws' := (wX1 cy g p2 p3 p6 p7 p10 d0 d1 d2 d3 d4 d5 d6 d7 d8 d9 d10)) [9, 10, 11, 12, 13, 14] rfl
  have hDc := hD.sub (ws' := (wX1 cy g p2 p3 p6 p7 p10 d0 d1 d2 d3 d4 d5 d6 d7 d8 d9 d10)) [9, 10, 11, 12, 13, 14] (by decide) rfl
  have hKc := hK.sub (tys' := [(cy, .int)]) [0] rfl
  have hFc := va_free (wc := (wX1 cy g p2 p3 p6 p7 p10 d0 d1 d2 d3 d4 d5 d6 d7 d8 d9 d10)) hD hS hA [9, 10, 11, 12, 13, 14] rfl
  refine va_calli (va_runV (As := [.int (xs ((nI a) + (1 : Int32)).toNatClampNeg), .int (xs ((nI a) + (2 : Int32)).toNatClampNeg)]) (rest := [.int r1.1]) ⟨hx, hb, hml, hown, hts⟩ (c_X1_lay N2 l dC dI cy g p2 p3 p6 p7 p10 H.size d0 d1 d2 d3 d4 d5 d6 d7 d8 d9 d10 (xs ((nI a) + (1 : Int32)).toNatClampNeg) (xs ((nI a) + (2 : Int32)).toNatClampNeg) r2 hf2) (cwV 2 hts gL_law_X1_lay rfl rfl rfl (by decide +kernel) ⟨Nat.le_of_ble_eq_true rfl, Nat.le_of_ble_eq_true rfl⟩) ⟨fun a U g mk q => by obtain ⟨q0, q1, qP, qK, qD⟩ := q; exact ⟨q0, q1, qP, va_K.moved (u := U) (U := U.calling g mk a) (Vm.Alike.refl U.vm) qK, qD⟩, va_recv hKc hPc (ci := 1) (q0 := 0) rfl rfl, fun U hU hW => ⟨rfl, by rw [hU], by rw [hU]; exact hPc, va_K.moved hW.alike hKc, hDc.weaken (fun _ _ _ _ => trivial)⟩⟩ rfl rfl hl.1 rfl (lv_room (Nat.le_of_ble_eq_true rfl)) dL_law_467 ⟨Nat.le_of_ble_eq_true rfl, Nat.le_of_ble_eq_true rfl⟩) hS (fun q _ h => hFc q h) hFc (fun rr uu_ t H1 locs ht hvm hw hB hz1 hk1 hS => ?_)
  replace hw := hw.symm
  subst hw
  obtain ⟨hP1, -, hD1⟩ := hB
  rw [ht] at hP1
  obtain ⟨hP, hD⟩ := va_join (wr := (wX0 cy h q2 q3 q4 q5 q6 q7 q8 q9 c0 c1 c2 r1.2 c4 c5 c6 c7 c8 c9 c10 c11)) (w1 := (wX1 cy g p2 p3 p6 p7 p10 d0 d1 d2 r2.2 d4 d5 d6 d7 d8 d9 d10)) hP hD [9, 10, 11, 12, 13, 14] [0, 1, 2, 3, 4, 5, 6, 7, 8] rfl rfl (by decide) (by decide) hk1 hFc hP1 hD1
  clear hk1 hz1 hP1 hD1 ht hPc hDc hFc
  generalize H1 = H at hP hS ⊢
  have hP := hP.sub (ws' := ((wX0 cy h q2 q3 q4 q5 q6 q7 q8 q9 c0 c1 c2 r1.2 c4 c5 c6 c7 c8 c9 c10 c11) ++ (wX1 cy g p2 p3 p6 p7 p10 d0 d1 d2 r2.2 d4 d5 d6 d7 d8 d9 d10))) [0, 1, 2, 3, 4, 5, 6, 7, 8, 9, 10, 11, 12, 13, 14] rfl
  have hD := hD.sub (ws' := ((wX0 cy h q2 q3 q4 q5 q6 q7 q8 q9 c0 c1 c2 r1.2 c4 c5 c6 c7 c8 c9 c10 c11) ++ (wX1 cy g p2 p3 p6 p7 p10 d0 d1 d2 r2.2 d4 d5 d6 d7 d8 d9 d10))) [0, 1, 2, 3, 4, 5, 6, 7, 8, 9, 10, 11, 12, 13, 14] (by decide) rfl
  refine lv_icmp_eq (tgt := 725) hx hb dL_law_470 (by decide) (fun c_9 => ?_) (fun c_9 => ?_)
  · exact hnext c0 c1 c2 r1.2 c4 c5 c6 c7 c8 c9 c10 c11 d0 d1 d2 r2.2 d4 d5 d6 d7 d8 d9 d10 hR2 _ _ _ hP hD hS hl
  · exact absurd he c_9

set_option maxHeartbeats 4000000 in
set_option maxRecDepth 100000 in
theorem lk_laid {p : Program} {l : Launch} {e : Env} {s : State} {m : MethodId} {below : List Frame} {meth : Method} {c : Code} {dC : Nat → ClassId} {dI : Nat → Nat → Nat} {b L : Nat} {xs : Nat → Int32} (hL : L ≤ 2048) (C0 : lw_At p s m meth c b L xs) {R : z_XS → z_MS → Prop} (hop : zo_laid R) (cy : ClassId) (hK : va_K (dC, dI) vwCl [(cy, .int)] s) (h q2 q3 q4 q5 q6 q7 q8 q9 g p2 p3 p6 p7 p10 : Nat) (a : Nat) (ha : a + 4 ≤ L) (hnext : ∀ (c0 : Int32) (c1 : Int32) (c2 : Nat → Int32) (c3 : Nat → Int32) (c4 : Nat → Int32) (c5 : Nat → Int32) (c6 : Nat → Int32) (c7 : Nat → Int32) (c8 : Nat → Int32) (c9 : Nat → Int32) (c10 : Int32) (c11 : Int32) (d0 : Int32) (d1 : Int32) (d2 : Nat → Int32) (d3 : Nat → Int32) (d4 : Int32) (d5 : Int32) (d6 : Nat → Int32) (d7 : Nat → Int32) (d8 : Int32) (d9 : Int32) (d10 : Nat → Int32), R (c0, c1, c2, c3, c4, c5, c6, c7, c8, c9, c10, c11) (d0, d1, d2, d3, d4, d5, d6, d7, d8, d9, d10) → ∀ (H : Heap) (locs : List Loc) (ls : Array Slot), va_P (dC, dI) vwCl ((wX0 cy h q2 q3 q4 q5 q6 q7 q8 q9 c0 c1 c2 c3 c4 c5 c6 c7 c8 c9 c10 c11) ++ (wX1 cy g p2 p3 p6 p7 p10 d0 d1 d2 d3 d4 d5 d6 d7 d8 d9 d10)) H → va_D (fun q : Nat => s.heap.size ≤ q) ((wX0 cy h q2 q3 q4 q5 q6 q7 q8 q9 c0 c1 c2 c3 c4 c5 c6 c7 c8 c9 c10 c11) ++ (wX1 cy g p2 p3 p6 p7 p10 d0 d1 d2 d3 d4 d5 d6 d7 d8 d9 d10)) → va_S (fun q : Nat => s.heap.size ≤ q) s.heap H locs → lv_has ls 4 [(0, .ref b), (1, .ref h), (2, .ref g), (3, .int (nI a))] → W p l e room_1 s m #[Value.ref b] below meth c H locs 15 2911 (lw_Z below #[Value.ref b] s) (F0 m 725 ls [])) : ∀ (c0 : Int32) (c1 : Int32) (c2 : Nat → Int32) (c3 : Nat → Int32) (c4 : Nat → Int32) (c5 : Nat → Int32) (c6 : Nat → Int32) (c7 : Nat → Int32) (c8 : Nat → Int32) (c9 : Nat → Int32) (c10 : Int32) (c11 : Int32) (d0 : Int32) (d1 : Int32) (d2 : Nat → Int32) (d3 : Nat → Int32) (d4 : Int32) (d5 : Int32) (d6 : Nat → Int32) (d7 : Nat → Int32) (d8 : Int32) (d9 : Int32) (d10 : Nat → Int32) (hR : R (c0, c1, c2, c3, c4, c5, c6, c7, c8, c9, c10, c11) (d0, d1, d2, d3, d4, d5, d6, d7, d8, d9, d10)) (H : Heap) (locs : List Loc) (ls : Array Slot) (hP : va_P (dC, dI) vwCl ((wX0 cy h q2 q3 q4 q5 q6 q7 q8 q9 c0 c1 c2 c3 c4 c5 c6 c7 c8 c9 c10 c11) ++ (wX1 cy g p2 p3 p6 p7 p10 d0 d1 d2 d3 d4 d5 d6 d7 d8 d9 d10)) H) (hD : va_D (fun q : Nat => s.heap.size ≤ q) ((wX0 cy h q2 q3 q4 q5 q6 q7 q8 q9 c0 c1 c2 c3 c4 c5 c6 c7 c8 c9 c10 c11) ++ (wX1 cy g p2 p3 p6 p7 p10 d0 d1 d2 d3 d4 d5 d6 d7 d8 d9 d10))) (hS : va_S (fun q : Nat => s.heap.size ≤ q) s.heap H locs) (hl : lv_has ls 4 [(0, .ref b), (1, .ref h), (2, .ref g), (3, .int (nI a))]), W p l e room_1 s m #[Value.ref b] below meth c H locs 15 2911 (lw_Z below #[Value.ref b] s) (F0 m 475 ls []) := by
  intro c0 c1 c2 c3 c4 c5 c6 c7 c8 c9 c10 c11 d0 d1 d2 d3 d4 d5 d6 d7 d8 d9 d10 hR H locs ls hP hD hS hl
  obtain ⟨hx, hb, hr, hml, hown, hts, hX, hbl, hlocks, hgv⟩ := C0
  have hts := fun w h => hts w (wsL_law_in w h)
  have hA : ∀ q : Nat, s.heap.size ≤ q → (fun q : Nat => s.heap.size ≤ q) q := fun _ h => h
  have hbA : ¬ (fun q : Nat => s.heap.size ≤ q) b := Nat.not_le.mpr hbl
  have hi1 : vp_in (nI a + (1 : Int32)) L := by rw [show nI a + (1 : Int32) = nI (a + 1) from nI_add a 1]; exact vp_in_nI (by omega) (by omega)
  have hi2 : vp_in (nI a + (2 : Int32)) L := by rw [show nI a + (2 : Int32) = nI (a + 2) from nI_add a 2]; exact vp_in_nI (by omega) (by omega)
  have hi3 : vp_in (nI a + (3 : Int32)) L := by rw [show nI a + (3 : Int32) = nI (a + 3) from nI_add a 3]; exact vp_in_nI (by omega) (by omega)
  refine lv_aload_n hx hb dL_law_475 rfl (lv_at hl 1 rfl) ?_
  refine lv_aload_n hx hb dL_law_476 rfl (lv_at hl 0 rfl) ?_
  refine lv_iload_n hx hb dL_law_477 rfl (lv_at hl 3 rfl) ?_
  refine lv_iconst (v := (1 : Int32)) hx hb dL_law_478 (by decide) ?_
  refine lv_iadd hx hb dL_law_479 ?_
  refine va_sld hx hb hX hbl hbA hS hi1 dL_law_480 ?_
  obtain ⟨N1, r1, N2, r2, hf1, hf2, he, hR2⟩ := hop c0 c1 c2 c3 c4 c5 c6 c7 c8 c9 c10 c11 d0 d1 d2 d3 d4 d5 d6 d7 d8 d9 d10 (xs ((nI a) + (1 : Int32)).toNatClampNeg) hR
  have hPc := hP.sub (ws' := (wX0 cy h q2 q3 q4 q5 q6 q7 q8 q9 c0 c1 c2 c3 c4 c5 c6 c7 c8 c9 c10 c11)) [0, 1, 2, 3, 4, 5, 6, 7, 8] rfl
  have hDc := hD.sub (ws' := (wX0 cy h q2 q3 q4 q5 q6 q7 q8 q9 c0 c1 c2 c3 c4 c5 c6 c7 c8 c9 c10 c11)) [0, 1, 2, 3, 4, 5, 6, 7, 8] (by decide) rfl
  have hKc := hK.sub (tys' := [(cy, .int)]) [0] rfl
  have hFc := va_free (wc := (wX0 cy h q2 q3 q4 q5 q6 q7 q8 q9 c0 c1 c2 c3 c4 c5 c6 c7 c8 c9 c10 c11)) hD hS hA [0, 1, 2, 3, 4, 5, 6, 7, 8] rfl
  refine va_calli (va_runV (As := [.int (xs ((nI a) + (1 : Int32)).toNatClampNeg)]) (rest := []) ⟨hx, hb, hml, hown, hts⟩ (c_X0_laid N1 l dC dI cy h q2 q3 q4 q5 q6 q7 q8 q9 H.size c0 c1 c2 c3 c4 c5 c6 c7 c8 c9 c10 c11 (xs ((nI a) + (1 : Int32)).toNatClampNeg) r1 hf1) (cwV 1 hts gL_law_X0_laid rfl rfl rfl (by decide +kernel) ⟨Nat.le_of_ble_eq_true rfl, Nat.le_of_ble_eq_true rfl⟩) ⟨fun a U g mk q => by obtain ⟨q0, q1, qP, qK, qD⟩ := q; exact ⟨q0, q1, qP, va_K.moved (u := U) (U := U.calling g mk a) (Vm.Alike.refl U.vm) qK, qD⟩, va_recv hKc hPc (ci := 0) (q0 := 0) rfl rfl, fun U hU hW => ⟨rfl, by rw [hU], by rw [hU]; exact hPc, va_K.moved hW.alike hKc, hDc.weaken (fun _ _ _ _ => trivial)⟩⟩ rfl rfl hl.1 rfl (lv_room (Nat.le_of_ble_eq_true rfl)) dL_law_481 ⟨Nat.le_of_ble_eq_true rfl, Nat.le_of_ble_eq_true rfl⟩) hS (fun q _ h => hFc q h) hFc (fun rr uu_ t H1 locs ht hvm hw hB hz1 hk1 hS => ?_)
  replace hw := hw.symm
  subst hw
  obtain ⟨hP1, -, hD1⟩ := hB
  rw [ht] at hP1
  obtain ⟨hP, hD⟩ := va_join (wr := (wX1 cy g p2 p3 p6 p7 p10 d0 d1 d2 d3 d4 d5 d6 d7 d8 d9 d10)) (w1 := (wX0 cy h q2 q3 q4 q5 q6 q7 q8 q9 c0 c1 c2 c3 c4 c5 c6 c7 c8 c9 c10 c11)) hP hD [0, 1, 2, 3, 4, 5, 6, 7, 8] [9, 10, 11, 12, 13, 14] rfl rfl (by decide) (by decide) hk1 hFc hP1 hD1
  clear hk1 hz1 hP1 hD1 ht hPc hDc hFc
  generalize H1 = H at hP hS ⊢
  have hP := hP.sub (ws' := ((wX0 cy h q2 q3 q4 q5 q6 q7 q8 q9 c0 c1 c2 c3 c4 c5 c6 c7 c8 c9 c10 c11) ++ (wX1 cy g p2 p3 p6 p7 p10 d0 d1 d2 d3 d4 d5 d6 d7 d8 d9 d10))) [6, 7, 8, 9, 10, 11, 12, 13, 14, 0, 1, 2, 3, 4, 5] rfl
  have hD := hD.sub (ws' := ((wX0 cy h q2 q3 q4 q5 q6 q7 q8 q9 c0 c1 c2 c3 c4 c5 c6 c7 c8 c9 c10 c11) ++ (wX1 cy g p2 p3 p6 p7 p10 d0 d1 d2 d3 d4 d5 d6 d7 d8 d9 d10))) [6, 7, 8, 9, 10, 11, 12, 13, 14, 0, 1, 2, 3, 4, 5] (by decide) rfl
  refine lv_aload_n hx hb dL_law_484 rfl (lv_at hl 2 rfl) ?_
  refine lv_aload_n hx hb dL_law_485 rfl (lv_at hl 0 rfl) ?_
  refine lv_iload_n hx hb dL_law_486 rfl (lv_at hl 3 rfl) ?_
  refine lv_iconst (v := (1 : Int32)) hx hb dL_law_487 (by decide) ?_
  refine lv_iadd hx hb dL_law_488 ?_
  refine va_sld hx hb hX hbl hbA hS hi1 dL_law_489 ?_
  have hPc := hP.sub (ws' := (wX1 cy g p2 p3 p6 p7 p10 d0 d1 d2 d3 d4 d5 d6 d7 d8 d9 d10)) [9, 10, 11, 12, 13, 14] rfl
  have hDc := hD.sub (ws' := (wX1 cy g p2 p3 p6 p7 p10 d0 d1 d2 d3 d4 d5 d6 d7 d8 d9 d10)) [9, 10, 11, 12, 13, 14] (by decide) rfl
  have hKc := hK.sub (tys' := [(cy, .int)]) [0] rfl
  have hFc := va_free (wc := (wX1 cy g p2 p3 p6 p7 p10 d0 d1 d2 d3 d4 d5 d6 d7 d8 d9 d10)) hD hS hA [9, 10, 11, 12, 13, 14] rfl
  refine va_calli (va_runV (As := [.int (xs ((nI a) + (1 : Int32)).toNatClampNeg)]) (rest := [.int r1]) ⟨hx, hb, hml, hown, hts⟩ (c_X1_laid N2 l dC dI cy g p2 p3 p6 p7 p10 H.size d0 d1 d2 d3 d4 d5 d6 d7 d8 d9 d10 (xs ((nI a) + (1 : Int32)).toNatClampNeg) r2 hf2) (cwV 1 hts gL_law_X1_laid rfl rfl rfl (by decide +kernel) ⟨Nat.le_of_ble_eq_true rfl, Nat.le_of_ble_eq_true rfl⟩) ⟨fun a U g mk q => by obtain ⟨q0, q1, qP, qK, qD⟩ := q; exact ⟨q0, q1, qP, va_K.moved (u := U) (U := U.calling g mk a) (Vm.Alike.refl U.vm) qK, qD⟩, va_recv hKc hPc (ci := 1) (q0 := 0) rfl rfl, fun U hU hW => ⟨rfl, by rw [hU], by rw [hU]; exact hPc, va_K.moved hW.alike hKc, hDc.weaken (fun _ _ _ _ => trivial)⟩⟩ rfl rfl hl.1 rfl (lv_room (Nat.le_of_ble_eq_true rfl)) dL_law_490 ⟨Nat.le_of_ble_eq_true rfl, Nat.le_of_ble_eq_true rfl⟩) hS (fun q _ h => hFc q h) hFc (fun rr uu_ t H1 locs ht hvm hw hB hz1 hk1 hS => ?_)
  replace hw := hw.symm
  subst hw
  obtain ⟨hP1, -, hD1⟩ := hB
  rw [ht] at hP1
  obtain ⟨hP, hD⟩ := va_join (wr := (wX0 cy h q2 q3 q4 q5 q6 q7 q8 q9 c0 c1 c2 c3 c4 c5 c6 c7 c8 c9 c10 c11)) (w1 := (wX1 cy g p2 p3 p6 p7 p10 d0 d1 d2 d3 d4 d5 d6 d7 d8 d9 d10)) hP hD [9, 10, 11, 12, 13, 14] [0, 1, 2, 3, 4, 5, 6, 7, 8] rfl rfl (by decide) (by decide) hk1 hFc hP1 hD1
  clear hk1 hz1 hP1 hD1 ht hPc hDc hFc
  generalize H1 = H at hP hS ⊢
  have hP := hP.sub (ws' := ((wX0 cy h q2 q3 q4 q5 q6 q7 q8 q9 c0 c1 c2 c3 c4 c5 c6 c7 c8 c9 c10 c11) ++ (wX1 cy g p2 p3 p6 p7 p10 d0 d1 d2 d3 d4 d5 d6 d7 d8 d9 d10))) [0, 1, 2, 3, 4, 5, 6, 7, 8, 9, 10, 11, 12, 13, 14] rfl
  have hD := hD.sub (ws' := ((wX0 cy h q2 q3 q4 q5 q6 q7 q8 q9 c0 c1 c2 c3 c4 c5 c6 c7 c8 c9 c10 c11) ++ (wX1 cy g p2 p3 p6 p7 p10 d0 d1 d2 d3 d4 d5 d6 d7 d8 d9 d10))) [0, 1, 2, 3, 4, 5, 6, 7, 8, 9, 10, 11, 12, 13, 14] (by decide) rfl
  refine lv_icmp_eq (tgt := 725) hx hb dL_law_493 (by decide) (fun c_9 => ?_) (fun c_9 => ?_)
  · exact hnext c0 c1 c2 c3 c4 c5 c6 c7 c8 c9 c10 c11 d0 d1 d2 d3 d4 d5 d6 d7 d8 d9 d10 hR2 _ _ _ hP hD hS hl
  · exact absurd he c_9

set_option maxHeartbeats 4000000 in
set_option maxRecDepth 100000 in
theorem lk_draw {p : Program} {l : Launch} {e : Env} {s : State} {m : MethodId} {below : List Frame} {meth : Method} {c : Code} {dC : Nat → ClassId} {dI : Nat → Nat → Nat} {b L : Nat} {xs : Nat → Int32} (hL : L ≤ 2048) (C0 : lw_At p s m meth c b L xs) {R : z_XS → z_MS → Prop} (hop : zo_draw R) (cy : ClassId) (hK : va_K (dC, dI) vwCl [(cy, .int)] s) (h q2 q3 q4 q5 q6 q7 q8 q9 g p2 p3 p6 p7 p10 : Nat) (a : Nat) (ha : a + 4 ≤ L) (hnext : ∀ (c0 : Int32) (c1 : Int32) (c2 : Nat → Int32) (c3 : Nat → Int32) (c4 : Nat → Int32) (c5 : Nat → Int32) (c6 : Nat → Int32) (c7 : Nat → Int32) (c8 : Nat → Int32) (c9 : Nat → Int32) (c10 : Int32) (c11 : Int32) (d0 : Int32) (d1 : Int32) (d2 : Nat → Int32) (d3 : Nat → Int32) (d4 : Int32) (d5 : Int32) (d6 : Nat → Int32) (d7 : Nat → Int32) (d8 : Int32) (d9 : Int32) (d10 : Nat → Int32), R (c0, c1, c2, c3, c4, c5, c6, c7, c8, c9, c10, c11) (d0, d1, d2, d3, d4, d5, d6, d7, d8, d9, d10) → ∀ (H : Heap) (locs : List Loc) (ls : Array Slot), va_P (dC, dI) vwCl ((wX0 cy h q2 q3 q4 q5 q6 q7 q8 q9 c0 c1 c2 c3 c4 c5 c6 c7 c8 c9 c10 c11) ++ (wX1 cy g p2 p3 p6 p7 p10 d0 d1 d2 d3 d4 d5 d6 d7 d8 d9 d10)) H → va_D (fun q : Nat => s.heap.size ≤ q) ((wX0 cy h q2 q3 q4 q5 q6 q7 q8 q9 c0 c1 c2 c3 c4 c5 c6 c7 c8 c9 c10 c11) ++ (wX1 cy g p2 p3 p6 p7 p10 d0 d1 d2 d3 d4 d5 d6 d7 d8 d9 d10)) → va_S (fun q : Nat => s.heap.size ≤ q) s.heap H locs → lv_has ls 4 [(0, .ref b), (1, .ref h), (2, .ref g), (3, .int (nI a))] → W p l e room_1 s m #[Value.ref b] below meth c H locs 15 2911 (lw_Z below #[Value.ref b] s) (F0 m 725 ls [])) : ∀ (c0 : Int32) (c1 : Int32) (c2 : Nat → Int32) (c3 : Nat → Int32) (c4 : Nat → Int32) (c5 : Nat → Int32) (c6 : Nat → Int32) (c7 : Nat → Int32) (c8 : Nat → Int32) (c9 : Nat → Int32) (c10 : Int32) (c11 : Int32) (d0 : Int32) (d1 : Int32) (d2 : Nat → Int32) (d3 : Nat → Int32) (d4 : Int32) (d5 : Int32) (d6 : Nat → Int32) (d7 : Nat → Int32) (d8 : Int32) (d9 : Int32) (d10 : Nat → Int32) (hR : R (c0, c1, c2, c3, c4, c5, c6, c7, c8, c9, c10, c11) (d0, d1, d2, d3, d4, d5, d6, d7, d8, d9, d10)) (H : Heap) (locs : List Loc) (ls : Array Slot) (hP : va_P (dC, dI) vwCl ((wX0 cy h q2 q3 q4 q5 q6 q7 q8 q9 c0 c1 c2 c3 c4 c5 c6 c7 c8 c9 c10 c11) ++ (wX1 cy g p2 p3 p6 p7 p10 d0 d1 d2 d3 d4 d5 d6 d7 d8 d9 d10)) H) (hD : va_D (fun q : Nat => s.heap.size ≤ q) ((wX0 cy h q2 q3 q4 q5 q6 q7 q8 q9 c0 c1 c2 c3 c4 c5 c6 c7 c8 c9 c10 c11) ++ (wX1 cy g p2 p3 p6 p7 p10 d0 d1 d2 d3 d4 d5 d6 d7 d8 d9 d10))) (hS : va_S (fun q : Nat => s.heap.size ≤ q) s.heap H locs) (hl : lv_has ls 4 [(0, .ref b), (1, .ref h), (2, .ref g), (3, .int (nI a))]), W p l e room_1 s m #[Value.ref b] below meth c H locs 15 2911 (lw_Z below #[Value.ref b] s) (F0 m 498 ls []) := by
  intro c0 c1 c2 c3 c4 c5 c6 c7 c8 c9 c10 c11 d0 d1 d2 d3 d4 d5 d6 d7 d8 d9 d10 hR H locs ls hP hD hS hl
  obtain ⟨hx, hb, hr, hml, hown, hts, hX, hbl, hlocks, hgv⟩ := C0
  have hts := fun w h => hts w (wsL_law_in w h)
  have hA : ∀ q : Nat, s.heap.size ≤ q → (fun q : Nat => s.heap.size ≤ q) q := fun _ h => h
  have hbA : ¬ (fun q : Nat => s.heap.size ≤ q) b := Nat.not_le.mpr hbl
  have hi1 : vp_in (nI a + (1 : Int32)) L := by rw [show nI a + (1 : Int32) = nI (a + 1) from nI_add a 1]; exact vp_in_nI (by omega) (by omega)
  have hi2 : vp_in (nI a + (2 : Int32)) L := by rw [show nI a + (2 : Int32) = nI (a + 2) from nI_add a 2]; exact vp_in_nI (by omega) (by omega)
  have hi3 : vp_in (nI a + (3 : Int32)) L := by rw [show nI a + (3 : Int32) = nI (a + 3) from nI_add a 3]; exact vp_in_nI (by omega) (by omega)
  refine lv_aload_n hx hb dL_law_498 rfl (lv_at hl 1 rfl) ?_
  refine lv_aload_n hx hb dL_law_499 rfl (lv_at hl 0 rfl) ?_
  refine lv_iload_n hx hb dL_law_500 rfl (lv_at hl 3 rfl) ?_
  refine lv_iconst (v := (1 : Int32)) hx hb dL_law_501 (by decide) ?_
  refine lv_iadd hx hb dL_law_502 ?_
  refine va_sld hx hb hX hbl hbA hS hi1 dL_law_503 ?_
  obtain ⟨N1, r1, N2, r2, hf1, hf2, he, hR2⟩ := hop c0 c1 c2 c3 c4 c5 c6 c7 c8 c9 c10 c11 d0 d1 d2 d3 d4 d5 d6 d7 d8 d9 d10 (xs ((nI a) + (1 : Int32)).toNatClampNeg) hR
  have hPc := hP.sub (ws' := (wX0 cy h q2 q3 q4 q5 q6 q7 q8 q9 c0 c1 c2 c3 c4 c5 c6 c7 c8 c9 c10 c11)) [0, 1, 2, 3, 4, 5, 6, 7, 8] rfl
  have hDc := hD.sub (ws' := (wX0 cy h q2 q3 q4 q5 q6 q7 q8 q9 c0 c1 c2 c3 c4 c5 c6 c7 c8 c9 c10 c11)) [0, 1, 2, 3, 4, 5, 6, 7, 8] (by decide) rfl
  have hKc := hK.sub (tys' := [(cy, .int)]) [0] rfl
  have hFc := va_free (wc := (wX0 cy h q2 q3 q4 q5 q6 q7 q8 q9 c0 c1 c2 c3 c4 c5 c6 c7 c8 c9 c10 c11)) hD hS hA [0, 1, 2, 3, 4, 5, 6, 7, 8] rfl
  refine va_calli (va_runV (As := [.int (xs ((nI a) + (1 : Int32)).toNatClampNeg)]) (rest := []) ⟨hx, hb, hml, hown, hts⟩ (c_X0_draw N1 l dC dI cy h q2 q3 q4 q5 q6 q7 q8 q9 H.size c0 c1 c2 c3 c4 c5 c6 c7 c8 c9 c10 c11 (xs ((nI a) + (1 : Int32)).toNatClampNeg) r1 hf1) (cwV 1 hts gL_law_X0_draw rfl rfl rfl (by decide +kernel) ⟨Nat.le_of_ble_eq_true rfl, Nat.le_of_ble_eq_true rfl⟩) ⟨fun a U g mk q => by obtain ⟨q0, q1, qP, qK, qD⟩ := q; exact ⟨q0, q1, qP, va_K.moved (u := U) (U := U.calling g mk a) (Vm.Alike.refl U.vm) qK, qD⟩, va_recv hKc hPc (ci := 0) (q0 := 0) rfl rfl, fun U hU hW => ⟨rfl, by rw [hU], by rw [hU]; exact hPc, va_K.moved hW.alike hKc, hDc.weaken (fun _ _ _ _ => trivial)⟩⟩ rfl rfl hl.1 rfl (lv_room (Nat.le_of_ble_eq_true rfl)) dL_law_504 ⟨Nat.le_of_ble_eq_true rfl, Nat.le_of_ble_eq_true rfl⟩) hS (fun q _ h => hFc q h) hFc (fun rr uu_ t H1 locs ht hvm hw hB hz1 hk1 hS => ?_)
  replace hw := hw.symm
  subst hw
  obtain ⟨hP1, -, hD1⟩ := hB
  rw [ht] at hP1
  obtain ⟨hP, hD⟩ := va_join (wr := (wX1 cy g p2 p3 p6 p7 p10 d0 d1 d2 d3 d4 d5 d6 d7 d8 d9 d10)) (w1 := (wX0 cy h q2 q3 q4 q5 q6 q7 q8 q9 c0 c1 c2 r1.2.1 r1.2.2.1 r1.2.2.2.1 r1.2.2.2.2.1 r1.2.2.2.2.2.1 r1.2.2.2.2.2.2 c9 c10 c11)) hP hD [0, 1, 2, 3, 4, 5, 6, 7, 8] [9, 10, 11, 12, 13, 14] rfl rfl (by decide) (by decide) hk1 hFc hP1 hD1
  clear hk1 hz1 hP1 hD1 ht hPc hDc hFc
  generalize H1 = H at hP hS ⊢
  have hP := hP.sub (ws' := ((wX0 cy h q2 q3 q4 q5 q6 q7 q8 q9 c0 c1 c2 r1.2.1 r1.2.2.1 r1.2.2.2.1 r1.2.2.2.2.1 r1.2.2.2.2.2.1 r1.2.2.2.2.2.2 c9 c10 c11) ++ (wX1 cy g p2 p3 p6 p7 p10 d0 d1 d2 d3 d4 d5 d6 d7 d8 d9 d10))) [6, 7, 8, 9, 10, 11, 12, 13, 14, 0, 1, 2, 3, 4, 5] rfl
  have hD := hD.sub (ws' := ((wX0 cy h q2 q3 q4 q5 q6 q7 q8 q9 c0 c1 c2 r1.2.1 r1.2.2.1 r1.2.2.2.1 r1.2.2.2.2.1 r1.2.2.2.2.2.1 r1.2.2.2.2.2.2 c9 c10 c11) ++ (wX1 cy g p2 p3 p6 p7 p10 d0 d1 d2 d3 d4 d5 d6 d7 d8 d9 d10))) [6, 7, 8, 9, 10, 11, 12, 13, 14, 0, 1, 2, 3, 4, 5] (by decide) rfl
  refine lv_aload_n hx hb dL_law_507 rfl (lv_at hl 2 rfl) ?_
  refine lv_aload_n hx hb dL_law_508 rfl (lv_at hl 0 rfl) ?_
  refine lv_iload_n hx hb dL_law_509 rfl (lv_at hl 3 rfl) ?_
  refine lv_iconst (v := (1 : Int32)) hx hb dL_law_510 (by decide) ?_
  refine lv_iadd hx hb dL_law_511 ?_
  refine va_sld hx hb hX hbl hbA hS hi1 dL_law_512 ?_
  have hPc := hP.sub (ws' := (wX1 cy g p2 p3 p6 p7 p10 d0 d1 d2 d3 d4 d5 d6 d7 d8 d9 d10)) [9, 10, 11, 12, 13, 14] rfl
  have hDc := hD.sub (ws' := (wX1 cy g p2 p3 p6 p7 p10 d0 d1 d2 d3 d4 d5 d6 d7 d8 d9 d10)) [9, 10, 11, 12, 13, 14] (by decide) rfl
  have hKc := hK.sub (tys' := [(cy, .int)]) [0] rfl
  have hFc := va_free (wc := (wX1 cy g p2 p3 p6 p7 p10 d0 d1 d2 d3 d4 d5 d6 d7 d8 d9 d10)) hD hS hA [9, 10, 11, 12, 13, 14] rfl
  refine va_calli (va_runV (As := [.int (xs ((nI a) + (1 : Int32)).toNatClampNeg)]) (rest := [.int r1.1]) ⟨hx, hb, hml, hown, hts⟩ (c_X1_draw N2 l dC dI cy g p2 p3 p6 p7 p10 H.size d0 d1 d2 d3 d4 d5 d6 d7 d8 d9 d10 (xs ((nI a) + (1 : Int32)).toNatClampNeg) r2 hf2) (cwV 1 hts gL_law_X1_draw rfl rfl rfl (by decide +kernel) ⟨Nat.le_of_ble_eq_true rfl, Nat.le_of_ble_eq_true rfl⟩) ⟨fun a U g mk q => by obtain ⟨q0, q1, qP, qK, qD⟩ := q; exact ⟨q0, q1, qP, va_K.moved (u := U) (U := U.calling g mk a) (Vm.Alike.refl U.vm) qK, qD⟩, va_recv hKc hPc (ci := 1) (q0 := 0) rfl rfl, fun U hU hW => ⟨rfl, by rw [hU], by rw [hU]; exact hPc, va_K.moved hW.alike hKc, hDc.weaken (fun _ _ _ _ => trivial)⟩⟩ rfl rfl hl.1 rfl (lv_room (Nat.le_of_ble_eq_true rfl)) dL_law_513 ⟨Nat.le_of_ble_eq_true rfl, Nat.le_of_ble_eq_true rfl⟩) hS (fun q _ h => hFc q h) hFc (fun rr uu_ t H1 locs ht hvm hw hB hz1 hk1 hS => ?_)
  replace hw := hw.symm
  subst hw
  obtain ⟨hP1, -, hD1⟩ := hB
  rw [ht] at hP1
  obtain ⟨hP, hD⟩ := va_join (wr := (wX0 cy h q2 q3 q4 q5 q6 q7 q8 q9 c0 c1 c2 r1.2.1 r1.2.2.1 r1.2.2.2.1 r1.2.2.2.2.1 r1.2.2.2.2.2.1 r1.2.2.2.2.2.2 c9 c10 c11)) (w1 := (wX1 cy g p2 p3 p6 p7 p10 d0 d1 d2 r2.2.1 r2.2.2.1 r2.2.2.2.1 r2.2.2.2.2 d7 d8 d9 d10)) hP hD [9, 10, 11, 12, 13, 14] [0, 1, 2, 3, 4, 5, 6, 7, 8] rfl rfl (by decide) (by decide) hk1 hFc hP1 hD1
  clear hk1 hz1 hP1 hD1 ht hPc hDc hFc
  generalize H1 = H at hP hS ⊢
  have hP := hP.sub (ws' := ((wX0 cy h q2 q3 q4 q5 q6 q7 q8 q9 c0 c1 c2 r1.2.1 r1.2.2.1 r1.2.2.2.1 r1.2.2.2.2.1 r1.2.2.2.2.2.1 r1.2.2.2.2.2.2 c9 c10 c11) ++ (wX1 cy g p2 p3 p6 p7 p10 d0 d1 d2 r2.2.1 r2.2.2.1 r2.2.2.2.1 r2.2.2.2.2 d7 d8 d9 d10))) [0, 1, 2, 3, 4, 5, 6, 7, 8, 9, 10, 11, 12, 13, 14] rfl
  have hD := hD.sub (ws' := ((wX0 cy h q2 q3 q4 q5 q6 q7 q8 q9 c0 c1 c2 r1.2.1 r1.2.2.1 r1.2.2.2.1 r1.2.2.2.2.1 r1.2.2.2.2.2.1 r1.2.2.2.2.2.2 c9 c10 c11) ++ (wX1 cy g p2 p3 p6 p7 p10 d0 d1 d2 r2.2.1 r2.2.2.1 r2.2.2.2.1 r2.2.2.2.2 d7 d8 d9 d10))) [0, 1, 2, 3, 4, 5, 6, 7, 8, 9, 10, 11, 12, 13, 14] (by decide) rfl
  refine lv_icmp_eq (tgt := 725) hx hb dL_law_516 (by decide) (fun c_9 => ?_) (fun c_9 => ?_)
  · exact hnext c0 c1 c2 r1.2.1 r1.2.2.1 r1.2.2.2.1 r1.2.2.2.2.1 r1.2.2.2.2.2.1 r1.2.2.2.2.2.2 c9 c10 c11 d0 d1 d2 r2.2.1 r2.2.2.1 r2.2.2.2.1 r2.2.2.2.2 d7 d8 d9 d10 hR2 _ _ _ hP hD hS hl
  · exact absurd he c_9

set_option maxHeartbeats 4000000 in
set_option maxRecDepth 100000 in
theorem lk_rank {p : Program} {l : Launch} {e : Env} {s : State} {m : MethodId} {below : List Frame} {meth : Method} {c : Code} {dC : Nat → ClassId} {dI : Nat → Nat → Nat} {b L : Nat} {xs : Nat → Int32} (hL : L ≤ 2048) (C0 : lw_At p s m meth c b L xs) {R : z_XS → z_MS → Prop} (hop : zo_rank R) (cy : ClassId) (hK : va_K (dC, dI) vwCl [(cy, .int)] s) (h q2 q3 q4 q5 q6 q7 q8 q9 g p2 p3 p6 p7 p10 : Nat) (a : Nat) (ha : a + 4 ≤ L) (hnext : ∀ (c0 : Int32) (c1 : Int32) (c2 : Nat → Int32) (c3 : Nat → Int32) (c4 : Nat → Int32) (c5 : Nat → Int32) (c6 : Nat → Int32) (c7 : Nat → Int32) (c8 : Nat → Int32) (c9 : Nat → Int32) (c10 : Int32) (c11 : Int32) (d0 : Int32) (d1 : Int32) (d2 : Nat → Int32) (d3 : Nat → Int32) (d4 : Int32) (d5 : Int32) (d6 : Nat → Int32) (d7 : Nat → Int32) (d8 : Int32) (d9 : Int32) (d10 : Nat → Int32), R (c0, c1, c2, c3, c4, c5, c6, c7, c8, c9, c10, c11) (d0, d1, d2, d3, d4, d5, d6, d7, d8, d9, d10) → ∀ (H : Heap) (locs : List Loc) (ls : Array Slot), va_P (dC, dI) vwCl ((wX0 cy h q2 q3 q4 q5 q6 q7 q8 q9 c0 c1 c2 c3 c4 c5 c6 c7 c8 c9 c10 c11) ++ (wX1 cy g p2 p3 p6 p7 p10 d0 d1 d2 d3 d4 d5 d6 d7 d8 d9 d10)) H → va_D (fun q : Nat => s.heap.size ≤ q) ((wX0 cy h q2 q3 q4 q5 q6 q7 q8 q9 c0 c1 c2 c3 c4 c5 c6 c7 c8 c9 c10 c11) ++ (wX1 cy g p2 p3 p6 p7 p10 d0 d1 d2 d3 d4 d5 d6 d7 d8 d9 d10)) → va_S (fun q : Nat => s.heap.size ≤ q) s.heap H locs → lv_has ls 4 [(0, .ref b), (1, .ref h), (2, .ref g), (3, .int (nI a))] → W p l e room_1 s m #[Value.ref b] below meth c H locs 15 2911 (lw_Z below #[Value.ref b] s) (F0 m 725 ls [])) : ∀ (c0 : Int32) (c1 : Int32) (c2 : Nat → Int32) (c3 : Nat → Int32) (c4 : Nat → Int32) (c5 : Nat → Int32) (c6 : Nat → Int32) (c7 : Nat → Int32) (c8 : Nat → Int32) (c9 : Nat → Int32) (c10 : Int32) (c11 : Int32) (d0 : Int32) (d1 : Int32) (d2 : Nat → Int32) (d3 : Nat → Int32) (d4 : Int32) (d5 : Int32) (d6 : Nat → Int32) (d7 : Nat → Int32) (d8 : Int32) (d9 : Int32) (d10 : Nat → Int32) (hR : R (c0, c1, c2, c3, c4, c5, c6, c7, c8, c9, c10, c11) (d0, d1, d2, d3, d4, d5, d6, d7, d8, d9, d10)) (H : Heap) (locs : List Loc) (ls : Array Slot) (hP : va_P (dC, dI) vwCl ((wX0 cy h q2 q3 q4 q5 q6 q7 q8 q9 c0 c1 c2 c3 c4 c5 c6 c7 c8 c9 c10 c11) ++ (wX1 cy g p2 p3 p6 p7 p10 d0 d1 d2 d3 d4 d5 d6 d7 d8 d9 d10)) H) (hD : va_D (fun q : Nat => s.heap.size ≤ q) ((wX0 cy h q2 q3 q4 q5 q6 q7 q8 q9 c0 c1 c2 c3 c4 c5 c6 c7 c8 c9 c10 c11) ++ (wX1 cy g p2 p3 p6 p7 p10 d0 d1 d2 d3 d4 d5 d6 d7 d8 d9 d10))) (hS : va_S (fun q : Nat => s.heap.size ≤ q) s.heap H locs) (hl : lv_has ls 4 [(0, .ref b), (1, .ref h), (2, .ref g), (3, .int (nI a))]), W p l e room_1 s m #[Value.ref b] below meth c H locs 15 2911 (lw_Z below #[Value.ref b] s) (F0 m 521 ls []) := by
  intro c0 c1 c2 c3 c4 c5 c6 c7 c8 c9 c10 c11 d0 d1 d2 d3 d4 d5 d6 d7 d8 d9 d10 hR H locs ls hP hD hS hl
  obtain ⟨hx, hb, hr, hml, hown, hts, hX, hbl, hlocks, hgv⟩ := C0
  have hts := fun w h => hts w (wsL_law_in w h)
  have hA : ∀ q : Nat, s.heap.size ≤ q → (fun q : Nat => s.heap.size ≤ q) q := fun _ h => h
  have hbA : ¬ (fun q : Nat => s.heap.size ≤ q) b := Nat.not_le.mpr hbl
  have hi1 : vp_in (nI a + (1 : Int32)) L := by rw [show nI a + (1 : Int32) = nI (a + 1) from nI_add a 1]; exact vp_in_nI (by omega) (by omega)
  have hi2 : vp_in (nI a + (2 : Int32)) L := by rw [show nI a + (2 : Int32) = nI (a + 2) from nI_add a 2]; exact vp_in_nI (by omega) (by omega)
  have hi3 : vp_in (nI a + (3 : Int32)) L := by rw [show nI a + (3 : Int32) = nI (a + 3) from nI_add a 3]; exact vp_in_nI (by omega) (by omega)
  refine lv_aload_n hx hb dL_law_521 rfl (lv_at hl 1 rfl) ?_
  obtain ⟨N1, r1, N2, r2, hf1, hf2, he, hR2⟩ := hop c0 c1 c2 c3 c4 c5 c6 c7 c8 c9 c10 c11 d0 d1 d2 d3 d4 d5 d6 d7 d8 d9 d10  hR
  have hPc := hP.sub (ws' := (wX0 cy h q2 q3 q4 q5 q6 q7 q8 q9 c0 c1 c2 c3 c4 c5 c6 c7 c8 c9 c10 c11)) [0, 1, 2, 3, 4, 5, 6, 7, 8] rfl
  have hDc := hD.sub (ws' := (wX0 cy h q2 q3 q4 q5 q6 q7 q8 q9 c0 c1 c2 c3 c4 c5 c6 c7 c8 c9 c10 c11)) [0, 1, 2, 3, 4, 5, 6, 7, 8] (by decide) rfl
  have hKc := hK.sub (tys' := [(cy, .int)]) [0] rfl
  have hFc := va_free (wc := (wX0 cy h q2 q3 q4 q5 q6 q7 q8 q9 c0 c1 c2 c3 c4 c5 c6 c7 c8 c9 c10 c11)) hD hS hA [0, 1, 2, 3, 4, 5, 6, 7, 8] rfl
  refine va_calli (va_runV (As := []) (rest := []) ⟨hx, hb, hml, hown, hts⟩ (c_X0_rank N1 l dC dI cy h q2 q3 q4 q5 q6 q7 q8 q9 H.size c0 c1 c2 c3 c4 c5 c6 c7 c8 c9 c10 c11  r1 hf1) (cwV 0 hts gL_law_X0_rank rfl rfl rfl (by decide +kernel) ⟨Nat.le_of_ble_eq_true rfl, Nat.le_of_ble_eq_true rfl⟩) ⟨fun a U g mk q => by obtain ⟨q0, q1, qP, qK, qD⟩ := q; exact ⟨q0, q1, qP, va_K.moved (u := U) (U := U.calling g mk a) (Vm.Alike.refl U.vm) qK, qD⟩, va_recv hKc hPc (ci := 0) (q0 := 0) rfl rfl, fun U hU hW => ⟨rfl, by rw [hU], by rw [hU]; exact hPc, va_K.moved hW.alike hKc, hDc.weaken (fun _ _ _ _ => trivial)⟩⟩ rfl rfl hl.1 rfl (lv_room (Nat.le_of_ble_eq_true rfl)) dL_law_522 ⟨Nat.le_of_ble_eq_true rfl, Nat.le_of_ble_eq_true rfl⟩) hS (fun q _ h => hFc q h) hFc (fun rr uu_ t H1 locs ht hvm hw hB hz1 hk1 hS => ?_)
  replace hw := hw.symm
  subst hw
  obtain ⟨hP1, -, hD1⟩ := hB
  rw [ht] at hP1
  obtain ⟨hP, hD⟩ := va_join (wr := (wX1 cy g p2 p3 p6 p7 p10 d0 d1 d2 d3 d4 d5 d6 d7 d8 d9 d10)) (w1 := (wX0 cy h q2 q3 q4 q5 q6 q7 q8 q9 c0 c1 c2 c3 r1.2.1 r1.2.2.1 r1.2.2.2.1 r1.2.2.2.2 c8 c9 c10 c11)) hP hD [0, 1, 2, 3, 4, 5, 6, 7, 8] [9, 10, 11, 12, 13, 14] rfl rfl (by decide) (by decide) hk1 hFc hP1 hD1
  clear hk1 hz1 hP1 hD1 ht hPc hDc hFc
  generalize H1 = H at hP hS ⊢
  have hP := hP.sub (ws' := ((wX0 cy h q2 q3 q4 q5 q6 q7 q8 q9 c0 c1 c2 c3 r1.2.1 r1.2.2.1 r1.2.2.2.1 r1.2.2.2.2 c8 c9 c10 c11) ++ (wX1 cy g p2 p3 p6 p7 p10 d0 d1 d2 d3 d4 d5 d6 d7 d8 d9 d10))) [6, 7, 8, 9, 10, 11, 12, 13, 14, 0, 1, 2, 3, 4, 5] rfl
  have hD := hD.sub (ws' := ((wX0 cy h q2 q3 q4 q5 q6 q7 q8 q9 c0 c1 c2 c3 r1.2.1 r1.2.2.1 r1.2.2.2.1 r1.2.2.2.2 c8 c9 c10 c11) ++ (wX1 cy g p2 p3 p6 p7 p10 d0 d1 d2 d3 d4 d5 d6 d7 d8 d9 d10))) [6, 7, 8, 9, 10, 11, 12, 13, 14, 0, 1, 2, 3, 4, 5] (by decide) rfl
  refine lv_aload_n hx hb dL_law_525 rfl (lv_at hl 2 rfl) ?_
  have hPc := hP.sub (ws' := (wX1 cy g p2 p3 p6 p7 p10 d0 d1 d2 d3 d4 d5 d6 d7 d8 d9 d10)) [9, 10, 11, 12, 13, 14] rfl
  have hDc := hD.sub (ws' := (wX1 cy g p2 p3 p6 p7 p10 d0 d1 d2 d3 d4 d5 d6 d7 d8 d9 d10)) [9, 10, 11, 12, 13, 14] (by decide) rfl
  have hKc := hK.sub (tys' := [(cy, .int)]) [0] rfl
  have hFc := va_free (wc := (wX1 cy g p2 p3 p6 p7 p10 d0 d1 d2 d3 d4 d5 d6 d7 d8 d9 d10)) hD hS hA [9, 10, 11, 12, 13, 14] rfl
  refine va_calli (va_runV (As := []) (rest := [.int r1.1]) ⟨hx, hb, hml, hown, hts⟩ (c_X1_rank N2 l dC dI cy g p2 p3 p6 p7 p10 H.size d0 d1 d2 d3 d4 d5 d6 d7 d8 d9 d10  r2 hf2) (cwV 0 hts gL_law_X1_rank rfl rfl rfl (by decide +kernel) ⟨Nat.le_of_ble_eq_true rfl, Nat.le_of_ble_eq_true rfl⟩) ⟨fun a U g mk q => by obtain ⟨q0, q1, qP, qK, qD⟩ := q; exact ⟨q0, q1, qP, va_K.moved (u := U) (U := U.calling g mk a) (Vm.Alike.refl U.vm) qK, qD⟩, va_recv hKc hPc (ci := 1) (q0 := 0) rfl rfl, fun U hU hW => ⟨rfl, by rw [hU], by rw [hU]; exact hPc, va_K.moved hW.alike hKc, hDc.weaken (fun _ _ _ _ => trivial)⟩⟩ rfl rfl hl.1 rfl (lv_room (Nat.le_of_ble_eq_true rfl)) dL_law_526 ⟨Nat.le_of_ble_eq_true rfl, Nat.le_of_ble_eq_true rfl⟩) hS (fun q _ h => hFc q h) hFc (fun rr uu_ t H1 locs ht hvm hw hB hz1 hk1 hS => ?_)
  replace hw := hw.symm
  subst hw
  obtain ⟨hP1, -, hD1⟩ := hB
  rw [ht] at hP1
  obtain ⟨hP, hD⟩ := va_join (wr := (wX0 cy h q2 q3 q4 q5 q6 q7 q8 q9 c0 c1 c2 c3 r1.2.1 r1.2.2.1 r1.2.2.2.1 r1.2.2.2.2 c8 c9 c10 c11)) (w1 := (wX1 cy g p2 p3 p6 p7 p10 d0 d1 d2 d3 r2.2.1 r2.2.2.1 r2.2.2.2 d7 d8 d9 d10)) hP hD [9, 10, 11, 12, 13, 14] [0, 1, 2, 3, 4, 5, 6, 7, 8] rfl rfl (by decide) (by decide) hk1 hFc hP1 hD1
  clear hk1 hz1 hP1 hD1 ht hPc hDc hFc
  generalize H1 = H at hP hS ⊢
  have hP := hP.sub (ws' := ((wX0 cy h q2 q3 q4 q5 q6 q7 q8 q9 c0 c1 c2 c3 r1.2.1 r1.2.2.1 r1.2.2.2.1 r1.2.2.2.2 c8 c9 c10 c11) ++ (wX1 cy g p2 p3 p6 p7 p10 d0 d1 d2 d3 r2.2.1 r2.2.2.1 r2.2.2.2 d7 d8 d9 d10))) [0, 1, 2, 3, 4, 5, 6, 7, 8, 9, 10, 11, 12, 13, 14] rfl
  have hD := hD.sub (ws' := ((wX0 cy h q2 q3 q4 q5 q6 q7 q8 q9 c0 c1 c2 c3 r1.2.1 r1.2.2.1 r1.2.2.2.1 r1.2.2.2.2 c8 c9 c10 c11) ++ (wX1 cy g p2 p3 p6 p7 p10 d0 d1 d2 d3 r2.2.1 r2.2.2.1 r2.2.2.2 d7 d8 d9 d10))) [0, 1, 2, 3, 4, 5, 6, 7, 8, 9, 10, 11, 12, 13, 14] (by decide) rfl
  refine lv_icmp_eq (tgt := 725) hx hb dL_law_529 (by decide) (fun c_9 => ?_) (fun c_9 => ?_)
  · exact hnext c0 c1 c2 c3 r1.2.1 r1.2.2.1 r1.2.2.2.1 r1.2.2.2.2 c8 c9 c10 c11 d0 d1 d2 d3 r2.2.1 r2.2.2.1 r2.2.2.2 d7 d8 d9 d10 hR2 _ _ _ hP hD hS hl
  · exact absurd he c_9

set_option maxHeartbeats 4000000 in
set_option maxRecDepth 100000 in
theorem lk_share {p : Program} {l : Launch} {e : Env} {s : State} {m : MethodId} {below : List Frame} {meth : Method} {c : Code} {dC : Nat → ClassId} {dI : Nat → Nat → Nat} {b L : Nat} {xs : Nat → Int32} (hL : L ≤ 2048) (C0 : lw_At p s m meth c b L xs) {R : z_XS → z_MS → Prop} (hop : zo_share R) (cy : ClassId) (hK : va_K (dC, dI) vwCl [(cy, .int)] s) (h q2 q3 q4 q5 q6 q7 q8 q9 g p2 p3 p6 p7 p10 : Nat) (a : Nat) (ha : a + 4 ≤ L) (hnext : ∀ (c0 : Int32) (c1 : Int32) (c2 : Nat → Int32) (c3 : Nat → Int32) (c4 : Nat → Int32) (c5 : Nat → Int32) (c6 : Nat → Int32) (c7 : Nat → Int32) (c8 : Nat → Int32) (c9 : Nat → Int32) (c10 : Int32) (c11 : Int32) (d0 : Int32) (d1 : Int32) (d2 : Nat → Int32) (d3 : Nat → Int32) (d4 : Int32) (d5 : Int32) (d6 : Nat → Int32) (d7 : Nat → Int32) (d8 : Int32) (d9 : Int32) (d10 : Nat → Int32), R (c0, c1, c2, c3, c4, c5, c6, c7, c8, c9, c10, c11) (d0, d1, d2, d3, d4, d5, d6, d7, d8, d9, d10) → ∀ (H : Heap) (locs : List Loc) (ls : Array Slot), va_P (dC, dI) vwCl ((wX0 cy h q2 q3 q4 q5 q6 q7 q8 q9 c0 c1 c2 c3 c4 c5 c6 c7 c8 c9 c10 c11) ++ (wX1 cy g p2 p3 p6 p7 p10 d0 d1 d2 d3 d4 d5 d6 d7 d8 d9 d10)) H → va_D (fun q : Nat => s.heap.size ≤ q) ((wX0 cy h q2 q3 q4 q5 q6 q7 q8 q9 c0 c1 c2 c3 c4 c5 c6 c7 c8 c9 c10 c11) ++ (wX1 cy g p2 p3 p6 p7 p10 d0 d1 d2 d3 d4 d5 d6 d7 d8 d9 d10)) → va_S (fun q : Nat => s.heap.size ≤ q) s.heap H locs → lv_has ls 4 [(0, .ref b), (1, .ref h), (2, .ref g), (3, .int (nI a))] → W p l e room_1 s m #[Value.ref b] below meth c H locs 15 2911 (lw_Z below #[Value.ref b] s) (F0 m 725 ls [])) : ∀ (c0 : Int32) (c1 : Int32) (c2 : Nat → Int32) (c3 : Nat → Int32) (c4 : Nat → Int32) (c5 : Nat → Int32) (c6 : Nat → Int32) (c7 : Nat → Int32) (c8 : Nat → Int32) (c9 : Nat → Int32) (c10 : Int32) (c11 : Int32) (d0 : Int32) (d1 : Int32) (d2 : Nat → Int32) (d3 : Nat → Int32) (d4 : Int32) (d5 : Int32) (d6 : Nat → Int32) (d7 : Nat → Int32) (d8 : Int32) (d9 : Int32) (d10 : Nat → Int32) (hR : R (c0, c1, c2, c3, c4, c5, c6, c7, c8, c9, c10, c11) (d0, d1, d2, d3, d4, d5, d6, d7, d8, d9, d10)) (H : Heap) (locs : List Loc) (ls : Array Slot) (hP : va_P (dC, dI) vwCl ((wX0 cy h q2 q3 q4 q5 q6 q7 q8 q9 c0 c1 c2 c3 c4 c5 c6 c7 c8 c9 c10 c11) ++ (wX1 cy g p2 p3 p6 p7 p10 d0 d1 d2 d3 d4 d5 d6 d7 d8 d9 d10)) H) (hD : va_D (fun q : Nat => s.heap.size ≤ q) ((wX0 cy h q2 q3 q4 q5 q6 q7 q8 q9 c0 c1 c2 c3 c4 c5 c6 c7 c8 c9 c10 c11) ++ (wX1 cy g p2 p3 p6 p7 p10 d0 d1 d2 d3 d4 d5 d6 d7 d8 d9 d10))) (hS : va_S (fun q : Nat => s.heap.size ≤ q) s.heap H locs) (hl : lv_has ls 4 [(0, .ref b), (1, .ref h), (2, .ref g), (3, .int (nI a))]), W p l e room_1 s m #[Value.ref b] below meth c H locs 15 2911 (lw_Z below #[Value.ref b] s) (F0 m 534 ls []) := by
  intro c0 c1 c2 c3 c4 c5 c6 c7 c8 c9 c10 c11 d0 d1 d2 d3 d4 d5 d6 d7 d8 d9 d10 hR H locs ls hP hD hS hl
  obtain ⟨hx, hb, hr, hml, hown, hts, hX, hbl, hlocks, hgv⟩ := C0
  have hts := fun w h => hts w (wsL_law_in w h)
  have hA : ∀ q : Nat, s.heap.size ≤ q → (fun q : Nat => s.heap.size ≤ q) q := fun _ h => h
  have hbA : ¬ (fun q : Nat => s.heap.size ≤ q) b := Nat.not_le.mpr hbl
  have hi1 : vp_in (nI a + (1 : Int32)) L := by rw [show nI a + (1 : Int32) = nI (a + 1) from nI_add a 1]; exact vp_in_nI (by omega) (by omega)
  have hi2 : vp_in (nI a + (2 : Int32)) L := by rw [show nI a + (2 : Int32) = nI (a + 2) from nI_add a 2]; exact vp_in_nI (by omega) (by omega)
  have hi3 : vp_in (nI a + (3 : Int32)) L := by rw [show nI a + (3 : Int32) = nI (a + 3) from nI_add a 3]; exact vp_in_nI (by omega) (by omega)
  refine lv_aload_n hx hb dL_law_534 rfl (lv_at hl 1 rfl) ?_
  refine lv_aload_n hx hb dL_law_535 rfl (lv_at hl 0 rfl) ?_
  refine lv_iload_n hx hb dL_law_536 rfl (lv_at hl 3 rfl) ?_
  refine lv_iconst (v := (1 : Int32)) hx hb dL_law_537 (by decide) ?_
  refine lv_iadd hx hb dL_law_538 ?_
  refine va_sld hx hb hX hbl hbA hS hi1 dL_law_539 ?_
  refine lv_aload_n hx hb dL_law_540 rfl (lv_at hl 0 rfl) ?_
  refine lv_iload_n hx hb dL_law_541 rfl (lv_at hl 3 rfl) ?_
  refine lv_iconst (v := (2 : Int32)) hx hb dL_law_542 (by decide) ?_
  refine lv_iadd hx hb dL_law_543 ?_
  refine va_sld hx hb hX hbl hbA hS hi2 dL_law_544 ?_
  obtain ⟨N1, r1, N2, r2, hf1, hf2, he, hR2⟩ := hop c0 c1 c2 c3 c4 c5 c6 c7 c8 c9 c10 c11 d0 d1 d2 d3 d4 d5 d6 d7 d8 d9 d10 (xs ((nI a) + (1 : Int32)).toNatClampNeg) (xs ((nI a) + (2 : Int32)).toNatClampNeg) hR
  have hPc := hP.sub (ws' := (wX0 cy h q2 q3 q4 q5 q6 q7 q8 q9 c0 c1 c2 c3 c4 c5 c6 c7 c8 c9 c10 c11)) [0, 1, 2, 3, 4, 5, 6, 7, 8] rfl
  have hDc := hD.sub (ws' := (wX0 cy h q2 q3 q4 q5 q6 q7 q8 q9 c0 c1 c2 c3 c4 c5 c6 c7 c8 c9 c10 c11)) [0, 1, 2, 3, 4, 5, 6, 7, 8] (by decide) rfl
  have hKc := hK.sub (tys' := [(cy, .int)]) [0] rfl
  have hFc := va_free (wc := (wX0 cy h q2 q3 q4 q5 q6 q7 q8 q9 c0 c1 c2 c3 c4 c5 c6 c7 c8 c9 c10 c11)) hD hS hA [0, 1, 2, 3, 4, 5, 6, 7, 8] rfl
  refine va_calli (va_runV (As := [.int (xs ((nI a) + (1 : Int32)).toNatClampNeg), .int (xs ((nI a) + (2 : Int32)).toNatClampNeg)]) (rest := []) ⟨hx, hb, hml, hown, hts⟩ (c_X0_share N1 l dC dI cy h q2 q3 q4 q5 q6 q7 q8 q9 H.size c0 c1 c2 c3 c4 c5 c6 c7 c8 c9 c10 c11 (xs ((nI a) + (1 : Int32)).toNatClampNeg) (xs ((nI a) + (2 : Int32)).toNatClampNeg) r1 hf1) (cwV 2 hts gL_law_X0_share rfl rfl rfl (by decide +kernel) ⟨Nat.le_of_ble_eq_true rfl, Nat.le_of_ble_eq_true rfl⟩) ⟨fun a U g mk q => by obtain ⟨q0, q1, qP, qK, qD⟩ := q; exact ⟨q0, q1, qP, va_K.moved (u := U) (U := U.calling g mk a) (Vm.Alike.refl U.vm) qK, qD⟩, va_recv hKc hPc (ci := 0) (q0 := 0) rfl rfl, fun U hU hW => ⟨rfl, by rw [hU], by rw [hU]; exact hPc, va_K.moved hW.alike hKc, hDc.weaken (fun _ _ _ _ => trivial)⟩⟩ rfl rfl hl.1 rfl (lv_room (Nat.le_of_ble_eq_true rfl)) dL_law_545 ⟨Nat.le_of_ble_eq_true rfl, Nat.le_of_ble_eq_true rfl⟩) hS (fun q _ h => hFc q h) hFc (fun rr uu_ t H1 locs ht hvm hw hB hz1 hk1 hS => ?_)
  replace hw := hw.symm
  subst hw
  obtain ⟨hP1, -, hD1⟩ := hB
  rw [ht] at hP1
  obtain ⟨hP, hD⟩ := va_join (wr := (wX1 cy g p2 p3 p6 p7 p10 d0 d1 d2 d3 d4 d5 d6 d7 d8 d9 d10)) (w1 := (wX0 cy h q2 q3 q4 q5 q6 q7 q8 q9 c0 c1 c2 c3 r1.2.1 r1.2.2.1 r1.2.2.2.1 r1.2.2.2.2 c8 c9 c10 c11)) hP hD [0, 1, 2, 3, 4, 5, 6, 7, 8] [9, 10, 11, 12, 13, 14] rfl rfl (by decide) (by decide) hk1 hFc hP1 hD1
  clear hk1 hz1 hP1 hD1 ht hPc hDc hFc
  generalize H1 = H at hP hS ⊢
  have hP := hP.sub (ws' := ((wX0 cy h q2 q3 q4 q5 q6 q7 q8 q9 c0 c1 c2 c3 r1.2.1 r1.2.2.1 r1.2.2.2.1 r1.2.2.2.2 c8 c9 c10 c11) ++ (wX1 cy g p2 p3 p6 p7 p10 d0 d1 d2 d3 d4 d5 d6 d7 d8 d9 d10))) [6, 7, 8, 9, 10, 11, 12, 13, 14, 0, 1, 2, 3, 4, 5] rfl
  have hD := hD.sub (ws' := ((wX0 cy h q2 q3 q4 q5 q6 q7 q8 q9 c0 c1 c2 c3 r1.2.1 r1.2.2.1 r1.2.2.2.1 r1.2.2.2.2 c8 c9 c10 c11) ++ (wX1 cy g p2 p3 p6 p7 p10 d0 d1 d2 d3 d4 d5 d6 d7 d8 d9 d10))) [6, 7, 8, 9, 10, 11, 12, 13, 14, 0, 1, 2, 3, 4, 5] (by decide) rfl
  refine lv_aload_n hx hb dL_law_548 rfl (lv_at hl 2 rfl) ?_
  refine lv_aload_n hx hb dL_law_549 rfl (lv_at hl 0 rfl) ?_
  refine lv_iload_n hx hb dL_law_550 rfl (lv_at hl 3 rfl) ?_
  refine lv_iconst (v := (1 : Int32)) hx hb dL_law_551 (by decide) ?_
  refine lv_iadd hx hb dL_law_552 ?_
  refine va_sld hx hb hX hbl hbA hS hi1 dL_law_553 ?_
  refine lv_aload_n hx hb dL_law_554 rfl (lv_at hl 0 rfl) ?_
  refine lv_iload_n hx hb dL_law_555 rfl (lv_at hl 3 rfl) ?_
  refine lv_iconst (v := (2 : Int32)) hx hb dL_law_556 (by decide) ?_
  refine lv_iadd hx hb dL_law_557 ?_
  refine va_sld hx hb hX hbl hbA hS hi2 dL_law_558 ?_
  have hPc := hP.sub (ws' := (wX1 cy g p2 p3 p6 p7 p10 d0 d1 d2 d3 d4 d5 d6 d7 d8 d9 d10)) [9, 10, 11, 12, 13, 14] rfl
  have hDc := hD.sub (ws' := (wX1 cy g p2 p3 p6 p7 p10 d0 d1 d2 d3 d4 d5 d6 d7 d8 d9 d10)) [9, 10, 11, 12, 13, 14] (by decide) rfl
  have hKc := hK.sub (tys' := [(cy, .int)]) [0] rfl
  have hFc := va_free (wc := (wX1 cy g p2 p3 p6 p7 p10 d0 d1 d2 d3 d4 d5 d6 d7 d8 d9 d10)) hD hS hA [9, 10, 11, 12, 13, 14] rfl
  refine va_calli (va_runV (As := [.int (xs ((nI a) + (1 : Int32)).toNatClampNeg), .int (xs ((nI a) + (2 : Int32)).toNatClampNeg)]) (rest := [.int r1.1]) ⟨hx, hb, hml, hown, hts⟩ (c_X1_share N2 l dC dI cy g p2 p3 p6 p7 p10 H.size d0 d1 d2 d3 d4 d5 d6 d7 d8 d9 d10 (xs ((nI a) + (1 : Int32)).toNatClampNeg) (xs ((nI a) + (2 : Int32)).toNatClampNeg) r2 hf2) (cwV 2 hts gL_law_X1_share rfl rfl rfl (by decide +kernel) ⟨Nat.le_of_ble_eq_true rfl, Nat.le_of_ble_eq_true rfl⟩) ⟨fun a U g mk q => by obtain ⟨q0, q1, qP, qK, qD⟩ := q; exact ⟨q0, q1, qP, va_K.moved (u := U) (U := U.calling g mk a) (Vm.Alike.refl U.vm) qK, qD⟩, va_recv hKc hPc (ci := 1) (q0 := 0) rfl rfl, fun U hU hW => ⟨rfl, by rw [hU], by rw [hU]; exact hPc, va_K.moved hW.alike hKc, hDc.weaken (fun _ _ _ _ => trivial)⟩⟩ rfl rfl hl.1 rfl (lv_room (Nat.le_of_ble_eq_true rfl)) dL_law_559 ⟨Nat.le_of_ble_eq_true rfl, Nat.le_of_ble_eq_true rfl⟩) hS (fun q _ h => hFc q h) hFc (fun rr uu_ t H1 locs ht hvm hw hB hz1 hk1 hS => ?_)
  replace hw := hw.symm
  subst hw
  obtain ⟨hP1, -, hD1⟩ := hB
  rw [ht] at hP1
  obtain ⟨hP, hD⟩ := va_join (wr := (wX0 cy h q2 q3 q4 q5 q6 q7 q8 q9 c0 c1 c2 c3 r1.2.1 r1.2.2.1 r1.2.2.2.1 r1.2.2.2.2 c8 c9 c10 c11)) (w1 := (wX1 cy g p2 p3 p6 p7 p10 d0 d1 d2 d3 r2.2.1 r2.2.2.1 r2.2.2.2 d7 d8 d9 d10)) hP hD [9, 10, 11, 12, 13, 14] [0, 1, 2, 3, 4, 5, 6, 7, 8] rfl rfl (by decide) (by decide) hk1 hFc hP1 hD1
  clear hk1 hz1 hP1 hD1 ht hPc hDc hFc
  generalize H1 = H at hP hS ⊢
  have hP := hP.sub (ws' := ((wX0 cy h q2 q3 q4 q5 q6 q7 q8 q9 c0 c1 c2 c3 r1.2.1 r1.2.2.1 r1.2.2.2.1 r1.2.2.2.2 c8 c9 c10 c11) ++ (wX1 cy g p2 p3 p6 p7 p10 d0 d1 d2 d3 r2.2.1 r2.2.2.1 r2.2.2.2 d7 d8 d9 d10))) [0, 1, 2, 3, 4, 5, 6, 7, 8, 9, 10, 11, 12, 13, 14] rfl
  have hD := hD.sub (ws' := ((wX0 cy h q2 q3 q4 q5 q6 q7 q8 q9 c0 c1 c2 c3 r1.2.1 r1.2.2.1 r1.2.2.2.1 r1.2.2.2.2 c8 c9 c10 c11) ++ (wX1 cy g p2 p3 p6 p7 p10 d0 d1 d2 d3 r2.2.1 r2.2.2.1 r2.2.2.2 d7 d8 d9 d10))) [0, 1, 2, 3, 4, 5, 6, 7, 8, 9, 10, 11, 12, 13, 14] (by decide) rfl
  refine lv_icmp_eq (tgt := 725) hx hb dL_law_562 (by decide) (fun c_9 => ?_) (fun c_9 => ?_)
  · exact hnext c0 c1 c2 c3 r1.2.1 r1.2.2.1 r1.2.2.2.1 r1.2.2.2.2 c8 c9 c10 c11 d0 d1 d2 d3 r2.2.1 r2.2.2.1 r2.2.2.2 d7 d8 d9 d10 hR2 _ _ _ hP hD hS hl
  · exact absurd he c_9

set_option maxHeartbeats 4000000 in
set_option maxRecDepth 100000 in
theorem lk_knows {p : Program} {l : Launch} {e : Env} {s : State} {m : MethodId} {below : List Frame} {meth : Method} {c : Code} {dC : Nat → ClassId} {dI : Nat → Nat → Nat} {b L : Nat} {xs : Nat → Int32} (hL : L ≤ 2048) (C0 : lw_At p s m meth c b L xs) {R : z_XS → z_MS → Prop} (hop : zo_knows R) (cy : ClassId) (hK : va_K (dC, dI) vwCl [(cy, .int)] s) (h q2 q3 q4 q5 q6 q7 q8 q9 g p2 p3 p6 p7 p10 : Nat) (a : Nat) (ha : a + 4 ≤ L) (hnext : ∀ (c0 : Int32) (c1 : Int32) (c2 : Nat → Int32) (c3 : Nat → Int32) (c4 : Nat → Int32) (c5 : Nat → Int32) (c6 : Nat → Int32) (c7 : Nat → Int32) (c8 : Nat → Int32) (c9 : Nat → Int32) (c10 : Int32) (c11 : Int32) (d0 : Int32) (d1 : Int32) (d2 : Nat → Int32) (d3 : Nat → Int32) (d4 : Int32) (d5 : Int32) (d6 : Nat → Int32) (d7 : Nat → Int32) (d8 : Int32) (d9 : Int32) (d10 : Nat → Int32), R (c0, c1, c2, c3, c4, c5, c6, c7, c8, c9, c10, c11) (d0, d1, d2, d3, d4, d5, d6, d7, d8, d9, d10) → ∀ (H : Heap) (locs : List Loc) (ls : Array Slot), va_P (dC, dI) vwCl ((wX0 cy h q2 q3 q4 q5 q6 q7 q8 q9 c0 c1 c2 c3 c4 c5 c6 c7 c8 c9 c10 c11) ++ (wX1 cy g p2 p3 p6 p7 p10 d0 d1 d2 d3 d4 d5 d6 d7 d8 d9 d10)) H → va_D (fun q : Nat => s.heap.size ≤ q) ((wX0 cy h q2 q3 q4 q5 q6 q7 q8 q9 c0 c1 c2 c3 c4 c5 c6 c7 c8 c9 c10 c11) ++ (wX1 cy g p2 p3 p6 p7 p10 d0 d1 d2 d3 d4 d5 d6 d7 d8 d9 d10)) → va_S (fun q : Nat => s.heap.size ≤ q) s.heap H locs → lv_has ls 4 [(0, .ref b), (1, .ref h), (2, .ref g), (3, .int (nI a))] → W p l e room_1 s m #[Value.ref b] below meth c H locs 15 2911 (lw_Z below #[Value.ref b] s) (F0 m 725 ls [])) : ∀ (c0 : Int32) (c1 : Int32) (c2 : Nat → Int32) (c3 : Nat → Int32) (c4 : Nat → Int32) (c5 : Nat → Int32) (c6 : Nat → Int32) (c7 : Nat → Int32) (c8 : Nat → Int32) (c9 : Nat → Int32) (c10 : Int32) (c11 : Int32) (d0 : Int32) (d1 : Int32) (d2 : Nat → Int32) (d3 : Nat → Int32) (d4 : Int32) (d5 : Int32) (d6 : Nat → Int32) (d7 : Nat → Int32) (d8 : Int32) (d9 : Int32) (d10 : Nat → Int32) (hR : R (c0, c1, c2, c3, c4, c5, c6, c7, c8, c9, c10, c11) (d0, d1, d2, d3, d4, d5, d6, d7, d8, d9, d10)) (H : Heap) (locs : List Loc) (ls : Array Slot) (hP : va_P (dC, dI) vwCl ((wX0 cy h q2 q3 q4 q5 q6 q7 q8 q9 c0 c1 c2 c3 c4 c5 c6 c7 c8 c9 c10 c11) ++ (wX1 cy g p2 p3 p6 p7 p10 d0 d1 d2 d3 d4 d5 d6 d7 d8 d9 d10)) H) (hD : va_D (fun q : Nat => s.heap.size ≤ q) ((wX0 cy h q2 q3 q4 q5 q6 q7 q8 q9 c0 c1 c2 c3 c4 c5 c6 c7 c8 c9 c10 c11) ++ (wX1 cy g p2 p3 p6 p7 p10 d0 d1 d2 d3 d4 d5 d6 d7 d8 d9 d10))) (hS : va_S (fun q : Nat => s.heap.size ≤ q) s.heap H locs) (hl : lv_has ls 4 [(0, .ref b), (1, .ref h), (2, .ref g), (3, .int (nI a))]), W p l e room_1 s m #[Value.ref b] below meth c H locs 15 2911 (lw_Z below #[Value.ref b] s) (F0 m 567 ls []) := by
  intro c0 c1 c2 c3 c4 c5 c6 c7 c8 c9 c10 c11 d0 d1 d2 d3 d4 d5 d6 d7 d8 d9 d10 hR H locs ls hP hD hS hl
  obtain ⟨hx, hb, hr, hml, hown, hts, hX, hbl, hlocks, hgv⟩ := C0
  have hts := fun w h => hts w (wsL_law_in w h)
  have hA : ∀ q : Nat, s.heap.size ≤ q → (fun q : Nat => s.heap.size ≤ q) q := fun _ h => h
  have hbA : ¬ (fun q : Nat => s.heap.size ≤ q) b := Nat.not_le.mpr hbl
  have hi1 : vp_in (nI a + (1 : Int32)) L := by rw [show nI a + (1 : Int32) = nI (a + 1) from nI_add a 1]; exact vp_in_nI (by omega) (by omega)
  have hi2 : vp_in (nI a + (2 : Int32)) L := by rw [show nI a + (2 : Int32) = nI (a + 2) from nI_add a 2]; exact vp_in_nI (by omega) (by omega)
  have hi3 : vp_in (nI a + (3 : Int32)) L := by rw [show nI a + (3 : Int32) = nI (a + 3) from nI_add a 3]; exact vp_in_nI (by omega) (by omega)
  refine lv_aload_n hx hb dL_law_567 rfl (lv_at hl 1 rfl) ?_
  refine lv_aload_n hx hb dL_law_568 rfl (lv_at hl 0 rfl) ?_
  refine lv_iload_n hx hb dL_law_569 rfl (lv_at hl 3 rfl) ?_
  refine lv_iconst (v := (1 : Int32)) hx hb dL_law_570 (by decide) ?_
  refine lv_iadd hx hb dL_law_571 ?_
  refine va_sld hx hb hX hbl hbA hS hi1 dL_law_572 ?_
  obtain ⟨N1, r1, N2, r2, hf1, hf2, he, hR2⟩ := hop c0 c1 c2 c3 c4 c5 c6 c7 c8 c9 c10 c11 d0 d1 d2 d3 d4 d5 d6 d7 d8 d9 d10 (xs ((nI a) + (1 : Int32)).toNatClampNeg) hR
  have hPc := hP.sub (ws' := (wX0 cy h q2 q3 q4 q5 q6 q7 q8 q9 c0 c1 c2 c3 c4 c5 c6 c7 c8 c9 c10 c11)) [0, 1, 2, 3, 4, 5, 6, 7, 8] rfl
  have hDc := hD.sub (ws' := (wX0 cy h q2 q3 q4 q5 q6 q7 q8 q9 c0 c1 c2 c3 c4 c5 c6 c7 c8 c9 c10 c11)) [0, 1, 2, 3, 4, 5, 6, 7, 8] (by decide) rfl
  have hKc := hK.sub (tys' := [(cy, .int)]) [0] rfl
  have hFc := va_free (wc := (wX0 cy h q2 q3 q4 q5 q6 q7 q8 q9 c0 c1 c2 c3 c4 c5 c6 c7 c8 c9 c10 c11)) hD hS hA [0, 1, 2, 3, 4, 5, 6, 7, 8] rfl
  refine va_calli (va_runV (As := [.int (xs ((nI a) + (1 : Int32)).toNatClampNeg)]) (rest := []) ⟨hx, hb, hml, hown, hts⟩ (c_X0_knows N1 l dC dI cy h q2 q3 q4 q5 q6 q7 q8 q9 H.size c0 c1 c2 c3 c4 c5 c6 c7 c8 c9 c10 c11 (xs ((nI a) + (1 : Int32)).toNatClampNeg) r1 hf1) (cwV 1 hts gL_law_X0_knows rfl rfl rfl (by decide +kernel) ⟨Nat.le_of_ble_eq_true rfl, Nat.le_of_ble_eq_true rfl⟩) ⟨fun a U g mk q => by obtain ⟨q0, q1, qP, qK, qD⟩ := q; exact ⟨q0, q1, qP, va_K.moved (u := U) (U := U.calling g mk a) (Vm.Alike.refl U.vm) qK, qD⟩, va_recv hKc hPc (ci := 0) (q0 := 0) rfl rfl, fun U hU hW => ⟨rfl, by rw [hU], by rw [hU]; exact hPc, va_K.moved hW.alike hKc, hDc.weaken (fun _ _ _ _ => trivial)⟩⟩ rfl rfl hl.1 rfl (lv_room (Nat.le_of_ble_eq_true rfl)) dL_law_573 ⟨Nat.le_of_ble_eq_true rfl, Nat.le_of_ble_eq_true rfl⟩) hS (fun q _ h => hFc q h) hFc (fun rr uu_ t H1 locs ht hvm hw hB hz1 hk1 hS => ?_)
  replace hw := hw.symm
  subst hw
  obtain ⟨hP1, -, hD1⟩ := hB
  rw [ht] at hP1
  obtain ⟨hP, hD⟩ := va_join (wr := (wX1 cy g p2 p3 p6 p7 p10 d0 d1 d2 d3 d4 d5 d6 d7 d8 d9 d10)) (w1 := (wX0 cy h q2 q3 q4 q5 q6 q7 q8 q9 c0 c1 c2 c3 r1.2.1 r1.2.2.1 r1.2.2.2.1 r1.2.2.2.2 c8 c9 c10 c11)) hP hD [0, 1, 2, 3, 4, 5, 6, 7, 8] [9, 10, 11, 12, 13, 14] rfl rfl (by decide) (by decide) hk1 hFc hP1 hD1
  clear hk1 hz1 hP1 hD1 ht hPc hDc hFc
  generalize H1 = H at hP hS ⊢
  have hP := hP.sub (ws' := ((wX0 cy h q2 q3 q4 q5 q6 q7 q8 q9 c0 c1 c2 c3 r1.2.1 r1.2.2.1 r1.2.2.2.1 r1.2.2.2.2 c8 c9 c10 c11) ++ (wX1 cy g p2 p3 p6 p7 p10 d0 d1 d2 d3 d4 d5 d6 d7 d8 d9 d10))) [6, 7, 8, 9, 10, 11, 12, 13, 14, 0, 1, 2, 3, 4, 5] rfl
  have hD := hD.sub (ws' := ((wX0 cy h q2 q3 q4 q5 q6 q7 q8 q9 c0 c1 c2 c3 r1.2.1 r1.2.2.1 r1.2.2.2.1 r1.2.2.2.2 c8 c9 c10 c11) ++ (wX1 cy g p2 p3 p6 p7 p10 d0 d1 d2 d3 d4 d5 d6 d7 d8 d9 d10))) [6, 7, 8, 9, 10, 11, 12, 13, 14, 0, 1, 2, 3, 4, 5] (by decide) rfl
  refine lv_aload_n hx hb dL_law_576 rfl (lv_at hl 2 rfl) ?_
  refine lv_aload_n hx hb dL_law_577 rfl (lv_at hl 0 rfl) ?_
  refine lv_iload_n hx hb dL_law_578 rfl (lv_at hl 3 rfl) ?_
  refine lv_iconst (v := (1 : Int32)) hx hb dL_law_579 (by decide) ?_
  refine lv_iadd hx hb dL_law_580 ?_
  refine va_sld hx hb hX hbl hbA hS hi1 dL_law_581 ?_
  have hPc := hP.sub (ws' := (wX1 cy g p2 p3 p6 p7 p10 d0 d1 d2 d3 d4 d5 d6 d7 d8 d9 d10)) [9, 10, 11, 12, 13, 14] rfl
  have hDc := hD.sub (ws' := (wX1 cy g p2 p3 p6 p7 p10 d0 d1 d2 d3 d4 d5 d6 d7 d8 d9 d10)) [9, 10, 11, 12, 13, 14] (by decide) rfl
  have hKc := hK.sub (tys' := [(cy, .int)]) [0] rfl
  have hFc := va_free (wc := (wX1 cy g p2 p3 p6 p7 p10 d0 d1 d2 d3 d4 d5 d6 d7 d8 d9 d10)) hD hS hA [9, 10, 11, 12, 13, 14] rfl
  refine va_calli (va_runV (As := [.int (xs ((nI a) + (1 : Int32)).toNatClampNeg)]) (rest := [.int r1.1]) ⟨hx, hb, hml, hown, hts⟩ (c_X1_knows N2 l dC dI cy g p2 p3 p6 p7 p10 H.size d0 d1 d2 d3 d4 d5 d6 d7 d8 d9 d10 (xs ((nI a) + (1 : Int32)).toNatClampNeg) r2 hf2) (cwV 1 hts gL_law_X1_knows rfl rfl rfl (by decide +kernel) ⟨Nat.le_of_ble_eq_true rfl, Nat.le_of_ble_eq_true rfl⟩) ⟨fun a U g mk q => by obtain ⟨q0, q1, qP, qK, qD⟩ := q; exact ⟨q0, q1, qP, va_K.moved (u := U) (U := U.calling g mk a) (Vm.Alike.refl U.vm) qK, qD⟩, va_recv hKc hPc (ci := 1) (q0 := 0) rfl rfl, fun U hU hW => ⟨rfl, by rw [hU], by rw [hU]; exact hPc, va_K.moved hW.alike hKc, hDc.weaken (fun _ _ _ _ => trivial)⟩⟩ rfl rfl hl.1 rfl (lv_room (Nat.le_of_ble_eq_true rfl)) dL_law_582 ⟨Nat.le_of_ble_eq_true rfl, Nat.le_of_ble_eq_true rfl⟩) hS (fun q _ h => hFc q h) hFc (fun rr uu_ t H1 locs ht hvm hw hB hz1 hk1 hS => ?_)
  replace hw := hw.symm
  subst hw
  obtain ⟨hP1, -, hD1⟩ := hB
  rw [ht] at hP1
  obtain ⟨hP, hD⟩ := va_join (wr := (wX0 cy h q2 q3 q4 q5 q6 q7 q8 q9 c0 c1 c2 c3 r1.2.1 r1.2.2.1 r1.2.2.2.1 r1.2.2.2.2 c8 c9 c10 c11)) (w1 := (wX1 cy g p2 p3 p6 p7 p10 d0 d1 d2 d3 r2.2.1 r2.2.2.1 r2.2.2.2 d7 d8 d9 d10)) hP hD [9, 10, 11, 12, 13, 14] [0, 1, 2, 3, 4, 5, 6, 7, 8] rfl rfl (by decide) (by decide) hk1 hFc hP1 hD1
  clear hk1 hz1 hP1 hD1 ht hPc hDc hFc
  generalize H1 = H at hP hS ⊢
  have hP := hP.sub (ws' := ((wX0 cy h q2 q3 q4 q5 q6 q7 q8 q9 c0 c1 c2 c3 r1.2.1 r1.2.2.1 r1.2.2.2.1 r1.2.2.2.2 c8 c9 c10 c11) ++ (wX1 cy g p2 p3 p6 p7 p10 d0 d1 d2 d3 r2.2.1 r2.2.2.1 r2.2.2.2 d7 d8 d9 d10))) [0, 1, 2, 3, 4, 5, 6, 7, 8, 9, 10, 11, 12, 13, 14] rfl
  have hD := hD.sub (ws' := ((wX0 cy h q2 q3 q4 q5 q6 q7 q8 q9 c0 c1 c2 c3 r1.2.1 r1.2.2.1 r1.2.2.2.1 r1.2.2.2.2 c8 c9 c10 c11) ++ (wX1 cy g p2 p3 p6 p7 p10 d0 d1 d2 d3 r2.2.1 r2.2.2.1 r2.2.2.2 d7 d8 d9 d10))) [0, 1, 2, 3, 4, 5, 6, 7, 8, 9, 10, 11, 12, 13, 14] (by decide) rfl
  refine lv_icmp_eq (tgt := 725) hx hb dL_law_585 (by decide) (fun c_9 => ?_) (fun c_9 => ?_)
  · exact hnext c0 c1 c2 c3 r1.2.1 r1.2.2.1 r1.2.2.2.1 r1.2.2.2.2 c8 c9 c10 c11 d0 d1 d2 d3 r2.2.1 r2.2.2.1 r2.2.2.2 d7 d8 d9 d10 hR2 _ _ _ hP hD hS hl
  · exact absurd he c_9

set_option maxHeartbeats 4000000 in
set_option maxRecDepth 100000 in
theorem lk_sure {p : Program} {l : Launch} {e : Env} {s : State} {m : MethodId} {below : List Frame} {meth : Method} {c : Code} {dC : Nat → ClassId} {dI : Nat → Nat → Nat} {b L : Nat} {xs : Nat → Int32} (hL : L ≤ 2048) (C0 : lw_At p s m meth c b L xs) {R : z_XS → z_MS → Prop} (hop : zo_sure R) (cy : ClassId) (hK : va_K (dC, dI) vwCl [(cy, .int)] s) (h q2 q3 q4 q5 q6 q7 q8 q9 g p2 p3 p6 p7 p10 : Nat) (a : Nat) (ha : a + 4 ≤ L) (hnext : ∀ (c0 : Int32) (c1 : Int32) (c2 : Nat → Int32) (c3 : Nat → Int32) (c4 : Nat → Int32) (c5 : Nat → Int32) (c6 : Nat → Int32) (c7 : Nat → Int32) (c8 : Nat → Int32) (c9 : Nat → Int32) (c10 : Int32) (c11 : Int32) (d0 : Int32) (d1 : Int32) (d2 : Nat → Int32) (d3 : Nat → Int32) (d4 : Int32) (d5 : Int32) (d6 : Nat → Int32) (d7 : Nat → Int32) (d8 : Int32) (d9 : Int32) (d10 : Nat → Int32), R (c0, c1, c2, c3, c4, c5, c6, c7, c8, c9, c10, c11) (d0, d1, d2, d3, d4, d5, d6, d7, d8, d9, d10) → ∀ (H : Heap) (locs : List Loc) (ls : Array Slot), va_P (dC, dI) vwCl ((wX0 cy h q2 q3 q4 q5 q6 q7 q8 q9 c0 c1 c2 c3 c4 c5 c6 c7 c8 c9 c10 c11) ++ (wX1 cy g p2 p3 p6 p7 p10 d0 d1 d2 d3 d4 d5 d6 d7 d8 d9 d10)) H → va_D (fun q : Nat => s.heap.size ≤ q) ((wX0 cy h q2 q3 q4 q5 q6 q7 q8 q9 c0 c1 c2 c3 c4 c5 c6 c7 c8 c9 c10 c11) ++ (wX1 cy g p2 p3 p6 p7 p10 d0 d1 d2 d3 d4 d5 d6 d7 d8 d9 d10)) → va_S (fun q : Nat => s.heap.size ≤ q) s.heap H locs → lv_has ls 4 [(0, .ref b), (1, .ref h), (2, .ref g), (3, .int (nI a))] → W p l e room_1 s m #[Value.ref b] below meth c H locs 15 2911 (lw_Z below #[Value.ref b] s) (F0 m 725 ls [])) : ∀ (c0 : Int32) (c1 : Int32) (c2 : Nat → Int32) (c3 : Nat → Int32) (c4 : Nat → Int32) (c5 : Nat → Int32) (c6 : Nat → Int32) (c7 : Nat → Int32) (c8 : Nat → Int32) (c9 : Nat → Int32) (c10 : Int32) (c11 : Int32) (d0 : Int32) (d1 : Int32) (d2 : Nat → Int32) (d3 : Nat → Int32) (d4 : Int32) (d5 : Int32) (d6 : Nat → Int32) (d7 : Nat → Int32) (d8 : Int32) (d9 : Int32) (d10 : Nat → Int32) (hR : R (c0, c1, c2, c3, c4, c5, c6, c7, c8, c9, c10, c11) (d0, d1, d2, d3, d4, d5, d6, d7, d8, d9, d10)) (H : Heap) (locs : List Loc) (ls : Array Slot) (hP : va_P (dC, dI) vwCl ((wX0 cy h q2 q3 q4 q5 q6 q7 q8 q9 c0 c1 c2 c3 c4 c5 c6 c7 c8 c9 c10 c11) ++ (wX1 cy g p2 p3 p6 p7 p10 d0 d1 d2 d3 d4 d5 d6 d7 d8 d9 d10)) H) (hD : va_D (fun q : Nat => s.heap.size ≤ q) ((wX0 cy h q2 q3 q4 q5 q6 q7 q8 q9 c0 c1 c2 c3 c4 c5 c6 c7 c8 c9 c10 c11) ++ (wX1 cy g p2 p3 p6 p7 p10 d0 d1 d2 d3 d4 d5 d6 d7 d8 d9 d10))) (hS : va_S (fun q : Nat => s.heap.size ≤ q) s.heap H locs) (hl : lv_has ls 4 [(0, .ref b), (1, .ref h), (2, .ref g), (3, .int (nI a))]), W p l e room_1 s m #[Value.ref b] below meth c H locs 15 2911 (lw_Z below #[Value.ref b] s) (F0 m 590 ls []) := by
  intro c0 c1 c2 c3 c4 c5 c6 c7 c8 c9 c10 c11 d0 d1 d2 d3 d4 d5 d6 d7 d8 d9 d10 hR H locs ls hP hD hS hl
  obtain ⟨hx, hb, hr, hml, hown, hts, hX, hbl, hlocks, hgv⟩ := C0
  have hts := fun w h => hts w (wsL_law_in w h)
  have hA : ∀ q : Nat, s.heap.size ≤ q → (fun q : Nat => s.heap.size ≤ q) q := fun _ h => h
  have hbA : ¬ (fun q : Nat => s.heap.size ≤ q) b := Nat.not_le.mpr hbl
  have hi1 : vp_in (nI a + (1 : Int32)) L := by rw [show nI a + (1 : Int32) = nI (a + 1) from nI_add a 1]; exact vp_in_nI (by omega) (by omega)
  have hi2 : vp_in (nI a + (2 : Int32)) L := by rw [show nI a + (2 : Int32) = nI (a + 2) from nI_add a 2]; exact vp_in_nI (by omega) (by omega)
  have hi3 : vp_in (nI a + (3 : Int32)) L := by rw [show nI a + (3 : Int32) = nI (a + 3) from nI_add a 3]; exact vp_in_nI (by omega) (by omega)
  refine lv_aload_n hx hb dL_law_590 rfl (lv_at hl 1 rfl) ?_
  refine lv_aload_n hx hb dL_law_591 rfl (lv_at hl 0 rfl) ?_
  refine lv_iload_n hx hb dL_law_592 rfl (lv_at hl 3 rfl) ?_
  refine lv_iconst (v := (1 : Int32)) hx hb dL_law_593 (by decide) ?_
  refine lv_iadd hx hb dL_law_594 ?_
  refine va_sld hx hb hX hbl hbA hS hi1 dL_law_595 ?_
  refine lv_aload_n hx hb dL_law_596 rfl (lv_at hl 0 rfl) ?_
  refine lv_iload_n hx hb dL_law_597 rfl (lv_at hl 3 rfl) ?_
  refine lv_iconst (v := (2 : Int32)) hx hb dL_law_598 (by decide) ?_
  refine lv_iadd hx hb dL_law_599 ?_
  refine va_sld hx hb hX hbl hbA hS hi2 dL_law_600 ?_
  obtain ⟨N1, r1, N2, r2, hf1, hf2, he, hR2⟩ := hop c0 c1 c2 c3 c4 c5 c6 c7 c8 c9 c10 c11 d0 d1 d2 d3 d4 d5 d6 d7 d8 d9 d10 (xs ((nI a) + (1 : Int32)).toNatClampNeg) (xs ((nI a) + (2 : Int32)).toNatClampNeg) hR
  have hPc := hP.sub (ws' := (wX0 cy h q2 q3 q4 q5 q6 q7 q8 q9 c0 c1 c2 c3 c4 c5 c6 c7 c8 c9 c10 c11)) [0, 1, 2, 3, 4, 5, 6, 7, 8] rfl
  have hDc := hD.sub (ws' := (wX0 cy h q2 q3 q4 q5 q6 q7 q8 q9 c0 c1 c2 c3 c4 c5 c6 c7 c8 c9 c10 c11)) [0, 1, 2, 3, 4, 5, 6, 7, 8] (by decide) rfl
  have hKc := hK.sub (tys' := [(cy, .int)]) [0] rfl
  have hFc := va_free (wc := (wX0 cy h q2 q3 q4 q5 q6 q7 q8 q9 c0 c1 c2 c3 c4 c5 c6 c7 c8 c9 c10 c11)) hD hS hA [0, 1, 2, 3, 4, 5, 6, 7, 8] rfl
  refine va_calli (va_runV (As := [.int (xs ((nI a) + (1 : Int32)).toNatClampNeg), .int (xs ((nI a) + (2 : Int32)).toNatClampNeg)]) (rest := []) ⟨hx, hb, hml, hown, hts⟩ (c_X0_sure N1 l dC dI cy h q2 q3 q4 q5 q6 q7 q8 q9 H.size c0 c1 c2 c3 c4 c5 c6 c7 c8 c9 c10 c11 (xs ((nI a) + (1 : Int32)).toNatClampNeg) (xs ((nI a) + (2 : Int32)).toNatClampNeg) r1 hf1) (cwV 2 hts gL_law_X0_sure rfl rfl rfl (by decide +kernel) ⟨Nat.le_of_ble_eq_true rfl, Nat.le_of_ble_eq_true rfl⟩) ⟨fun a U g mk q => by obtain ⟨q0, q1, qP, qK, qD⟩ := q; exact ⟨q0, q1, qP, va_K.moved (u := U) (U := U.calling g mk a) (Vm.Alike.refl U.vm) qK, qD⟩, va_recv hKc hPc (ci := 0) (q0 := 0) rfl rfl, fun U hU hW => ⟨rfl, by rw [hU], by rw [hU]; exact hPc, va_K.moved hW.alike hKc, hDc.weaken (fun _ _ _ _ => trivial)⟩⟩ rfl rfl hl.1 rfl (lv_room (Nat.le_of_ble_eq_true rfl)) dL_law_601 ⟨Nat.le_of_ble_eq_true rfl, Nat.le_of_ble_eq_true rfl⟩) hS (fun q _ h => hFc q h) hFc (fun rr uu_ t H1 locs ht hvm hw hB hz1 hk1 hS => ?_)
  replace hw := hw.symm
  subst hw
  obtain ⟨hP1, -, hD1⟩ := hB
  rw [ht] at hP1
  obtain ⟨hP, hD⟩ := va_join (wr := (wX1 cy g p2 p3 p6 p7 p10 d0 d1 d2 d3 d4 d5 d6 d7 d8 d9 d10)) (w1 := (wX0 cy h q2 q3 q4 q5 q6 q7 q8 q9 c0 c1 c2 c3 r1.2.1 r1.2.2.1 r1.2.2.2.1 r1.2.2.2.2 c8 c9 c10 c11)) hP hD [0, 1, 2, 3, 4, 5, 6, 7, 8] [9, 10, 11, 12, 13, 14] rfl rfl (by decide) (by decide) hk1 hFc hP1 hD1
  clear hk1 hz1 hP1 hD1 ht hPc hDc hFc
  generalize H1 = H at hP hS ⊢
  have hP := hP.sub (ws' := ((wX0 cy h q2 q3 q4 q5 q6 q7 q8 q9 c0 c1 c2 c3 r1.2.1 r1.2.2.1 r1.2.2.2.1 r1.2.2.2.2 c8 c9 c10 c11) ++ (wX1 cy g p2 p3 p6 p7 p10 d0 d1 d2 d3 d4 d5 d6 d7 d8 d9 d10))) [6, 7, 8, 9, 10, 11, 12, 13, 14, 0, 1, 2, 3, 4, 5] rfl
  have hD := hD.sub (ws' := ((wX0 cy h q2 q3 q4 q5 q6 q7 q8 q9 c0 c1 c2 c3 r1.2.1 r1.2.2.1 r1.2.2.2.1 r1.2.2.2.2 c8 c9 c10 c11) ++ (wX1 cy g p2 p3 p6 p7 p10 d0 d1 d2 d3 d4 d5 d6 d7 d8 d9 d10))) [6, 7, 8, 9, 10, 11, 12, 13, 14, 0, 1, 2, 3, 4, 5] (by decide) rfl
  refine lv_aload_n hx hb dL_law_604 rfl (lv_at hl 2 rfl) ?_
  refine lv_aload_n hx hb dL_law_605 rfl (lv_at hl 0 rfl) ?_
  refine lv_iload_n hx hb dL_law_606 rfl (lv_at hl 3 rfl) ?_
  refine lv_iconst (v := (1 : Int32)) hx hb dL_law_607 (by decide) ?_
  refine lv_iadd hx hb dL_law_608 ?_
  refine va_sld hx hb hX hbl hbA hS hi1 dL_law_609 ?_
  refine lv_aload_n hx hb dL_law_610 rfl (lv_at hl 0 rfl) ?_
  refine lv_iload_n hx hb dL_law_611 rfl (lv_at hl 3 rfl) ?_
  refine lv_iconst (v := (2 : Int32)) hx hb dL_law_612 (by decide) ?_
  refine lv_iadd hx hb dL_law_613 ?_
  refine va_sld hx hb hX hbl hbA hS hi2 dL_law_614 ?_
  have hPc := hP.sub (ws' := (wX1 cy g p2 p3 p6 p7 p10 d0 d1 d2 d3 d4 d5 d6 d7 d8 d9 d10)) [9, 10, 11, 12, 13, 14] rfl
  have hDc := hD.sub (ws' := (wX1 cy g p2 p3 p6 p7 p10 d0 d1 d2 d3 d4 d5 d6 d7 d8 d9 d10)) [9, 10, 11, 12, 13, 14] (by decide) rfl
  have hKc := hK.sub (tys' := [(cy, .int)]) [0] rfl
  have hFc := va_free (wc := (wX1 cy g p2 p3 p6 p7 p10 d0 d1 d2 d3 d4 d5 d6 d7 d8 d9 d10)) hD hS hA [9, 10, 11, 12, 13, 14] rfl
  refine va_calli (va_runV (As := [.int (xs ((nI a) + (1 : Int32)).toNatClampNeg), .int (xs ((nI a) + (2 : Int32)).toNatClampNeg)]) (rest := [.int r1.1]) ⟨hx, hb, hml, hown, hts⟩ (c_X1_sure N2 l dC dI cy g p2 p3 p6 p7 p10 H.size d0 d1 d2 d3 d4 d5 d6 d7 d8 d9 d10 (xs ((nI a) + (1 : Int32)).toNatClampNeg) (xs ((nI a) + (2 : Int32)).toNatClampNeg) r2 hf2) (cwV 2 hts gL_law_X1_sure rfl rfl rfl (by decide +kernel) ⟨Nat.le_of_ble_eq_true rfl, Nat.le_of_ble_eq_true rfl⟩) ⟨fun a U g mk q => by obtain ⟨q0, q1, qP, qK, qD⟩ := q; exact ⟨q0, q1, qP, va_K.moved (u := U) (U := U.calling g mk a) (Vm.Alike.refl U.vm) qK, qD⟩, va_recv hKc hPc (ci := 1) (q0 := 0) rfl rfl, fun U hU hW => ⟨rfl, by rw [hU], by rw [hU]; exact hPc, va_K.moved hW.alike hKc, hDc.weaken (fun _ _ _ _ => trivial)⟩⟩ rfl rfl hl.1 rfl (lv_room (Nat.le_of_ble_eq_true rfl)) dL_law_615 ⟨Nat.le_of_ble_eq_true rfl, Nat.le_of_ble_eq_true rfl⟩) hS (fun q _ h => hFc q h) hFc (fun rr uu_ t H1 locs ht hvm hw hB hz1 hk1 hS => ?_)
  replace hw := hw.symm
  subst hw
  obtain ⟨hP1, -, hD1⟩ := hB
  rw [ht] at hP1
  obtain ⟨hP, hD⟩ := va_join (wr := (wX0 cy h q2 q3 q4 q5 q6 q7 q8 q9 c0 c1 c2 c3 r1.2.1 r1.2.2.1 r1.2.2.2.1 r1.2.2.2.2 c8 c9 c10 c11)) (w1 := (wX1 cy g p2 p3 p6 p7 p10 d0 d1 d2 d3 r2.2.1 r2.2.2.1 r2.2.2.2 d7 d8 d9 d10)) hP hD [9, 10, 11, 12, 13, 14] [0, 1, 2, 3, 4, 5, 6, 7, 8] rfl rfl (by decide) (by decide) hk1 hFc hP1 hD1
  clear hk1 hz1 hP1 hD1 ht hPc hDc hFc
  generalize H1 = H at hP hS ⊢
  have hP := hP.sub (ws' := ((wX0 cy h q2 q3 q4 q5 q6 q7 q8 q9 c0 c1 c2 c3 r1.2.1 r1.2.2.1 r1.2.2.2.1 r1.2.2.2.2 c8 c9 c10 c11) ++ (wX1 cy g p2 p3 p6 p7 p10 d0 d1 d2 d3 r2.2.1 r2.2.2.1 r2.2.2.2 d7 d8 d9 d10))) [0, 1, 2, 3, 4, 5, 6, 7, 8, 9, 10, 11, 12, 13, 14] rfl
  have hD := hD.sub (ws' := ((wX0 cy h q2 q3 q4 q5 q6 q7 q8 q9 c0 c1 c2 c3 r1.2.1 r1.2.2.1 r1.2.2.2.1 r1.2.2.2.2 c8 c9 c10 c11) ++ (wX1 cy g p2 p3 p6 p7 p10 d0 d1 d2 d3 r2.2.1 r2.2.2.1 r2.2.2.2 d7 d8 d9 d10))) [0, 1, 2, 3, 4, 5, 6, 7, 8, 9, 10, 11, 12, 13, 14] (by decide) rfl
  refine lv_icmp_eq (tgt := 725) hx hb dL_law_618 (by decide) (fun c_9 => ?_) (fun c_9 => ?_)
  · exact hnext c0 c1 c2 c3 r1.2.1 r1.2.2.1 r1.2.2.2.1 r1.2.2.2.2 c8 c9 c10 c11 d0 d1 d2 d3 r2.2.1 r2.2.2.1 r2.2.2.2 d7 d8 d9 d10 hR2 _ _ _ hP hD hS hl
  · exact absurd he c_9

set_option maxHeartbeats 4000000 in
set_option maxRecDepth 100000 in
theorem lk_changes {p : Program} {l : Launch} {e : Env} {s : State} {m : MethodId} {below : List Frame} {meth : Method} {c : Code} {dC : Nat → ClassId} {dI : Nat → Nat → Nat} {b L : Nat} {xs : Nat → Int32} (hL : L ≤ 2048) (C0 : lw_At p s m meth c b L xs) {R : z_XS → z_MS → Prop} (hop : zo_changes R) (cy : ClassId) (hK : va_K (dC, dI) vwCl [(cy, .int)] s) (h q2 q3 q4 q5 q6 q7 q8 q9 g p2 p3 p6 p7 p10 : Nat) (a : Nat) (ha : a + 4 ≤ L) (hnext : ∀ (c0 : Int32) (c1 : Int32) (c2 : Nat → Int32) (c3 : Nat → Int32) (c4 : Nat → Int32) (c5 : Nat → Int32) (c6 : Nat → Int32) (c7 : Nat → Int32) (c8 : Nat → Int32) (c9 : Nat → Int32) (c10 : Int32) (c11 : Int32) (d0 : Int32) (d1 : Int32) (d2 : Nat → Int32) (d3 : Nat → Int32) (d4 : Int32) (d5 : Int32) (d6 : Nat → Int32) (d7 : Nat → Int32) (d8 : Int32) (d9 : Int32) (d10 : Nat → Int32), R (c0, c1, c2, c3, c4, c5, c6, c7, c8, c9, c10, c11) (d0, d1, d2, d3, d4, d5, d6, d7, d8, d9, d10) → ∀ (H : Heap) (locs : List Loc) (ls : Array Slot), va_P (dC, dI) vwCl ((wX0 cy h q2 q3 q4 q5 q6 q7 q8 q9 c0 c1 c2 c3 c4 c5 c6 c7 c8 c9 c10 c11) ++ (wX1 cy g p2 p3 p6 p7 p10 d0 d1 d2 d3 d4 d5 d6 d7 d8 d9 d10)) H → va_D (fun q : Nat => s.heap.size ≤ q) ((wX0 cy h q2 q3 q4 q5 q6 q7 q8 q9 c0 c1 c2 c3 c4 c5 c6 c7 c8 c9 c10 c11) ++ (wX1 cy g p2 p3 p6 p7 p10 d0 d1 d2 d3 d4 d5 d6 d7 d8 d9 d10)) → va_S (fun q : Nat => s.heap.size ≤ q) s.heap H locs → lv_has ls 4 [(0, .ref b), (1, .ref h), (2, .ref g), (3, .int (nI a))] → W p l e room_1 s m #[Value.ref b] below meth c H locs 15 2911 (lw_Z below #[Value.ref b] s) (F0 m 725 ls [])) : ∀ (c0 : Int32) (c1 : Int32) (c2 : Nat → Int32) (c3 : Nat → Int32) (c4 : Nat → Int32) (c5 : Nat → Int32) (c6 : Nat → Int32) (c7 : Nat → Int32) (c8 : Nat → Int32) (c9 : Nat → Int32) (c10 : Int32) (c11 : Int32) (d0 : Int32) (d1 : Int32) (d2 : Nat → Int32) (d3 : Nat → Int32) (d4 : Int32) (d5 : Int32) (d6 : Nat → Int32) (d7 : Nat → Int32) (d8 : Int32) (d9 : Int32) (d10 : Nat → Int32) (hR : R (c0, c1, c2, c3, c4, c5, c6, c7, c8, c9, c10, c11) (d0, d1, d2, d3, d4, d5, d6, d7, d8, d9, d10)) (H : Heap) (locs : List Loc) (ls : Array Slot) (hP : va_P (dC, dI) vwCl ((wX0 cy h q2 q3 q4 q5 q6 q7 q8 q9 c0 c1 c2 c3 c4 c5 c6 c7 c8 c9 c10 c11) ++ (wX1 cy g p2 p3 p6 p7 p10 d0 d1 d2 d3 d4 d5 d6 d7 d8 d9 d10)) H) (hD : va_D (fun q : Nat => s.heap.size ≤ q) ((wX0 cy h q2 q3 q4 q5 q6 q7 q8 q9 c0 c1 c2 c3 c4 c5 c6 c7 c8 c9 c10 c11) ++ (wX1 cy g p2 p3 p6 p7 p10 d0 d1 d2 d3 d4 d5 d6 d7 d8 d9 d10))) (hS : va_S (fun q : Nat => s.heap.size ≤ q) s.heap H locs) (hl : lv_has ls 4 [(0, .ref b), (1, .ref h), (2, .ref g), (3, .int (nI a))]), W p l e room_1 s m #[Value.ref b] below meth c H locs 15 2911 (lw_Z below #[Value.ref b] s) (F0 m 623 ls []) := by
  intro c0 c1 c2 c3 c4 c5 c6 c7 c8 c9 c10 c11 d0 d1 d2 d3 d4 d5 d6 d7 d8 d9 d10 hR H locs ls hP hD hS hl
  obtain ⟨hx, hb, hr, hml, hown, hts, hX, hbl, hlocks, hgv⟩ := C0
  have hts := fun w h => hts w (wsL_law_in w h)
  have hA : ∀ q : Nat, s.heap.size ≤ q → (fun q : Nat => s.heap.size ≤ q) q := fun _ h => h
  have hbA : ¬ (fun q : Nat => s.heap.size ≤ q) b := Nat.not_le.mpr hbl
  have hi1 : vp_in (nI a + (1 : Int32)) L := by rw [show nI a + (1 : Int32) = nI (a + 1) from nI_add a 1]; exact vp_in_nI (by omega) (by omega)
  have hi2 : vp_in (nI a + (2 : Int32)) L := by rw [show nI a + (2 : Int32) = nI (a + 2) from nI_add a 2]; exact vp_in_nI (by omega) (by omega)
  have hi3 : vp_in (nI a + (3 : Int32)) L := by rw [show nI a + (3 : Int32) = nI (a + 3) from nI_add a 3]; exact vp_in_nI (by omega) (by omega)
  refine lv_aload_n hx hb dL_law_623 rfl (lv_at hl 1 rfl) ?_
  refine lv_aload_n hx hb dL_law_624 rfl (lv_at hl 0 rfl) ?_
  refine lv_iload_n hx hb dL_law_625 rfl (lv_at hl 3 rfl) ?_
  refine lv_iconst (v := (1 : Int32)) hx hb dL_law_626 (by decide) ?_
  refine lv_iadd hx hb dL_law_627 ?_
  refine va_sld hx hb hX hbl hbA hS hi1 dL_law_628 ?_
  obtain ⟨N1, r1, N2, r2, hf1, hf2, he, hR2⟩ := hop c0 c1 c2 c3 c4 c5 c6 c7 c8 c9 c10 c11 d0 d1 d2 d3 d4 d5 d6 d7 d8 d9 d10 (xs ((nI a) + (1 : Int32)).toNatClampNeg) hR
  have hPc := hP.sub (ws' := (wX0 cy h q2 q3 q4 q5 q6 q7 q8 q9 c0 c1 c2 c3 c4 c5 c6 c7 c8 c9 c10 c11)) [0, 1, 2, 3, 4, 5, 6, 7, 8] rfl
  have hDc := hD.sub (ws' := (wX0 cy h q2 q3 q4 q5 q6 q7 q8 q9 c0 c1 c2 c3 c4 c5 c6 c7 c8 c9 c10 c11)) [0, 1, 2, 3, 4, 5, 6, 7, 8] (by decide) rfl
  have hKc := hK.sub (tys' := [(cy, .int)]) [0] rfl
  have hFc := va_free (wc := (wX0 cy h q2 q3 q4 q5 q6 q7 q8 q9 c0 c1 c2 c3 c4 c5 c6 c7 c8 c9 c10 c11)) hD hS hA [0, 1, 2, 3, 4, 5, 6, 7, 8] rfl
  refine va_calli (va_runV (As := [.int (xs ((nI a) + (1 : Int32)).toNatClampNeg)]) (rest := []) ⟨hx, hb, hml, hown, hts⟩ (c_X0_changes N1 l dC dI cy h q2 q3 q4 q5 q6 q7 q8 q9 H.size c0 c1 c2 c3 c4 c5 c6 c7 c8 c9 c10 c11 (xs ((nI a) + (1 : Int32)).toNatClampNeg) r1 hf1) (cwV 1 hts gL_law_X0_changes rfl rfl rfl (by decide +kernel) ⟨Nat.le_of_ble_eq_true rfl, Nat.le_of_ble_eq_true rfl⟩) ⟨fun a U g mk q => by obtain ⟨q0, q1, qP, qK, qD⟩ := q; exact ⟨q0, q1, qP, va_K.moved (u := U) (U := U.calling g mk a) (Vm.Alike.refl U.vm) qK, qD⟩, va_recv hKc hPc (ci := 0) (q0 := 0) rfl rfl, fun U hU hW => ⟨rfl, by rw [hU], by rw [hU]; exact hPc, va_K.moved hW.alike hKc, hDc.weaken (fun _ _ _ _ => trivial)⟩⟩ rfl rfl hl.1 rfl (lv_room (Nat.le_of_ble_eq_true rfl)) dL_law_629 ⟨Nat.le_of_ble_eq_true rfl, Nat.le_of_ble_eq_true rfl⟩) hS (fun q _ h => hFc q h) hFc (fun rr uu_ t H1 locs ht hvm hw hB hz1 hk1 hS => ?_)
  replace hw := hw.symm
  subst hw
  obtain ⟨hP1, -, hD1⟩ := hB
  rw [ht] at hP1
  obtain ⟨hP, hD⟩ := va_join (wr := (wX1 cy g p2 p3 p6 p7 p10 d0 d1 d2 d3 d4 d5 d6 d7 d8 d9 d10)) (w1 := (wX0 cy h q2 q3 q4 q5 q6 q7 q8 q9 c0 c1 c2 c3 r1.2.1 r1.2.2.1 r1.2.2.2.1 r1.2.2.2.2.1 r1.2.2.2.2.2.1 r1.2.2.2.2.2.2.1 r1.2.2.2.2.2.2.2.1 r1.2.2.2.2.2.2.2.2)) hP hD [0, 1, 2, 3, 4, 5, 6, 7, 8] [9, 10, 11, 12, 13, 14] rfl rfl (by decide) (by decide) hk1 hFc hP1 hD1
  clear hk1 hz1 hP1 hD1 ht hPc hDc hFc
  generalize H1 = H at hP hS ⊢
  have hP := hP.sub (ws' := ((wX0 cy h q2 q3 q4 q5 q6 q7 q8 q9 c0 c1 c2 c3 r1.2.1 r1.2.2.1 r1.2.2.2.1 r1.2.2.2.2.1 r1.2.2.2.2.2.1 r1.2.2.2.2.2.2.1 r1.2.2.2.2.2.2.2.1 r1.2.2.2.2.2.2.2.2) ++ (wX1 cy g p2 p3 p6 p7 p10 d0 d1 d2 d3 d4 d5 d6 d7 d8 d9 d10))) [6, 7, 8, 9, 10, 11, 12, 13, 14, 0, 1, 2, 3, 4, 5] rfl
  have hD := hD.sub (ws' := ((wX0 cy h q2 q3 q4 q5 q6 q7 q8 q9 c0 c1 c2 c3 r1.2.1 r1.2.2.1 r1.2.2.2.1 r1.2.2.2.2.1 r1.2.2.2.2.2.1 r1.2.2.2.2.2.2.1 r1.2.2.2.2.2.2.2.1 r1.2.2.2.2.2.2.2.2) ++ (wX1 cy g p2 p3 p6 p7 p10 d0 d1 d2 d3 d4 d5 d6 d7 d8 d9 d10))) [6, 7, 8, 9, 10, 11, 12, 13, 14, 0, 1, 2, 3, 4, 5] (by decide) rfl
  refine lv_aload_n hx hb dL_law_632 rfl (lv_at hl 2 rfl) ?_
  refine lv_aload_n hx hb dL_law_633 rfl (lv_at hl 0 rfl) ?_
  refine lv_iload_n hx hb dL_law_634 rfl (lv_at hl 3 rfl) ?_
  refine lv_iconst (v := (1 : Int32)) hx hb dL_law_635 (by decide) ?_
  refine lv_iadd hx hb dL_law_636 ?_
  refine va_sld hx hb hX hbl hbA hS hi1 dL_law_637 ?_
  have hPc := hP.sub (ws' := (wX1 cy g p2 p3 p6 p7 p10 d0 d1 d2 d3 d4 d5 d6 d7 d8 d9 d10)) [9, 10, 11, 12, 13, 14] rfl
  have hDc := hD.sub (ws' := (wX1 cy g p2 p3 p6 p7 p10 d0 d1 d2 d3 d4 d5 d6 d7 d8 d9 d10)) [9, 10, 11, 12, 13, 14] (by decide) rfl
  have hKc := hK.sub (tys' := [(cy, .int)]) [0] rfl
  have hFc := va_free (wc := (wX1 cy g p2 p3 p6 p7 p10 d0 d1 d2 d3 d4 d5 d6 d7 d8 d9 d10)) hD hS hA [9, 10, 11, 12, 13, 14] rfl
  refine va_calli (va_runV (As := [.int (xs ((nI a) + (1 : Int32)).toNatClampNeg)]) (rest := [.int r1.1]) ⟨hx, hb, hml, hown, hts⟩ (c_X1_changes N2 l dC dI cy g p2 p3 p6 p7 p10 H.size d0 d1 d2 d3 d4 d5 d6 d7 d8 d9 d10 (xs ((nI a) + (1 : Int32)).toNatClampNeg) r2 hf2) (cwV 1 hts gL_law_X1_changes rfl rfl rfl (by decide +kernel) ⟨Nat.le_of_ble_eq_true rfl, Nat.le_of_ble_eq_true rfl⟩) ⟨fun a U g mk q => by obtain ⟨q0, q1, qP, qK, qD⟩ := q; exact ⟨q0, q1, qP, va_K.moved (u := U) (U := U.calling g mk a) (Vm.Alike.refl U.vm) qK, qD⟩, va_recv hKc hPc (ci := 1) (q0 := 0) rfl rfl, fun U hU hW => ⟨rfl, by rw [hU], by rw [hU]; exact hPc, va_K.moved hW.alike hKc, hDc.weaken (fun _ _ _ _ => trivial)⟩⟩ rfl rfl hl.1 rfl (lv_room (Nat.le_of_ble_eq_true rfl)) dL_law_638 ⟨Nat.le_of_ble_eq_true rfl, Nat.le_of_ble_eq_true rfl⟩) hS (fun q _ h => hFc q h) hFc (fun rr uu_ t H1 locs ht hvm hw hB hz1 hk1 hS => ?_)
  replace hw := hw.symm
  subst hw
  obtain ⟨hP1, -, hD1⟩ := hB
  rw [ht] at hP1
  obtain ⟨hP, hD⟩ := va_join (wr := (wX0 cy h q2 q3 q4 q5 q6 q7 q8 q9 c0 c1 c2 c3 r1.2.1 r1.2.2.1 r1.2.2.2.1 r1.2.2.2.2.1 r1.2.2.2.2.2.1 r1.2.2.2.2.2.2.1 r1.2.2.2.2.2.2.2.1 r1.2.2.2.2.2.2.2.2)) (w1 := (wX1 cy g p2 p3 p6 p7 p10 d0 d1 d2 d3 r2.2.1 r2.2.2.1 r2.2.2.2.1 d7 r2.2.2.2.2.1 r2.2.2.2.2.2.1 r2.2.2.2.2.2.2)) hP hD [9, 10, 11, 12, 13, 14] [0, 1, 2, 3, 4, 5, 6, 7, 8] rfl rfl (by decide) (by decide) hk1 hFc hP1 hD1
  clear hk1 hz1 hP1 hD1 ht hPc hDc hFc
  generalize H1 = H at hP hS ⊢
  have hP := hP.sub (ws' := ((wX0 cy h q2 q3 q4 q5 q6 q7 q8 q9 c0 c1 c2 c3 r1.2.1 r1.2.2.1 r1.2.2.2.1 r1.2.2.2.2.1 r1.2.2.2.2.2.1 r1.2.2.2.2.2.2.1 r1.2.2.2.2.2.2.2.1 r1.2.2.2.2.2.2.2.2) ++ (wX1 cy g p2 p3 p6 p7 p10 d0 d1 d2 d3 r2.2.1 r2.2.2.1 r2.2.2.2.1 d7 r2.2.2.2.2.1 r2.2.2.2.2.2.1 r2.2.2.2.2.2.2))) [0, 1, 2, 3, 4, 5, 6, 7, 8, 9, 10, 11, 12, 13, 14] rfl
  have hD := hD.sub (ws' := ((wX0 cy h q2 q3 q4 q5 q6 q7 q8 q9 c0 c1 c2 c3 r1.2.1 r1.2.2.1 r1.2.2.2.1 r1.2.2.2.2.1 r1.2.2.2.2.2.1 r1.2.2.2.2.2.2.1 r1.2.2.2.2.2.2.2.1 r1.2.2.2.2.2.2.2.2) ++ (wX1 cy g p2 p3 p6 p7 p10 d0 d1 d2 d3 r2.2.1 r2.2.2.1 r2.2.2.2.1 d7 r2.2.2.2.2.1 r2.2.2.2.2.2.1 r2.2.2.2.2.2.2))) [0, 1, 2, 3, 4, 5, 6, 7, 8, 9, 10, 11, 12, 13, 14] (by decide) rfl
  refine lv_icmp_eq (tgt := 725) hx hb dL_law_641 (by decide) (fun c_9 => ?_) (fun c_9 => ?_)
  · exact hnext c0 c1 c2 c3 r1.2.1 r1.2.2.1 r1.2.2.2.1 r1.2.2.2.2.1 r1.2.2.2.2.2.1 r1.2.2.2.2.2.2.1 r1.2.2.2.2.2.2.2.1 r1.2.2.2.2.2.2.2.2 d0 d1 d2 d3 r2.2.1 r2.2.2.1 r2.2.2.2.1 d7 r2.2.2.2.2.1 r2.2.2.2.2.2.1 r2.2.2.2.2.2.2 hR2 _ _ _ hP hD hS hl
  · exact absurd he c_9

set_option maxHeartbeats 4000000 in
set_option maxRecDepth 100000 in
theorem lk_mends {p : Program} {l : Launch} {e : Env} {s : State} {m : MethodId} {below : List Frame} {meth : Method} {c : Code} {dC : Nat → ClassId} {dI : Nat → Nat → Nat} {b L : Nat} {xs : Nat → Int32} (hL : L ≤ 2048) (C0 : lw_At p s m meth c b L xs) {R : z_XS → z_MS → Prop} (hop : zo_mends R) (cy : ClassId) (hK : va_K (dC, dI) vwCl [(cy, .int)] s) (h q2 q3 q4 q5 q6 q7 q8 q9 g p2 p3 p6 p7 p10 : Nat) (a : Nat) (ha : a + 4 ≤ L) (hnext : ∀ (c0 : Int32) (c1 : Int32) (c2 : Nat → Int32) (c3 : Nat → Int32) (c4 : Nat → Int32) (c5 : Nat → Int32) (c6 : Nat → Int32) (c7 : Nat → Int32) (c8 : Nat → Int32) (c9 : Nat → Int32) (c10 : Int32) (c11 : Int32) (d0 : Int32) (d1 : Int32) (d2 : Nat → Int32) (d3 : Nat → Int32) (d4 : Int32) (d5 : Int32) (d6 : Nat → Int32) (d7 : Nat → Int32) (d8 : Int32) (d9 : Int32) (d10 : Nat → Int32), R (c0, c1, c2, c3, c4, c5, c6, c7, c8, c9, c10, c11) (d0, d1, d2, d3, d4, d5, d6, d7, d8, d9, d10) → ∀ (H : Heap) (locs : List Loc) (ls : Array Slot), va_P (dC, dI) vwCl ((wX0 cy h q2 q3 q4 q5 q6 q7 q8 q9 c0 c1 c2 c3 c4 c5 c6 c7 c8 c9 c10 c11) ++ (wX1 cy g p2 p3 p6 p7 p10 d0 d1 d2 d3 d4 d5 d6 d7 d8 d9 d10)) H → va_D (fun q : Nat => s.heap.size ≤ q) ((wX0 cy h q2 q3 q4 q5 q6 q7 q8 q9 c0 c1 c2 c3 c4 c5 c6 c7 c8 c9 c10 c11) ++ (wX1 cy g p2 p3 p6 p7 p10 d0 d1 d2 d3 d4 d5 d6 d7 d8 d9 d10)) → va_S (fun q : Nat => s.heap.size ≤ q) s.heap H locs → lv_has ls 4 [(0, .ref b), (1, .ref h), (2, .ref g), (3, .int (nI a))] → W p l e room_1 s m #[Value.ref b] below meth c H locs 15 2911 (lw_Z below #[Value.ref b] s) (F0 m 725 ls [])) : ∀ (c0 : Int32) (c1 : Int32) (c2 : Nat → Int32) (c3 : Nat → Int32) (c4 : Nat → Int32) (c5 : Nat → Int32) (c6 : Nat → Int32) (c7 : Nat → Int32) (c8 : Nat → Int32) (c9 : Nat → Int32) (c10 : Int32) (c11 : Int32) (d0 : Int32) (d1 : Int32) (d2 : Nat → Int32) (d3 : Nat → Int32) (d4 : Int32) (d5 : Int32) (d6 : Nat → Int32) (d7 : Nat → Int32) (d8 : Int32) (d9 : Int32) (d10 : Nat → Int32) (hR : R (c0, c1, c2, c3, c4, c5, c6, c7, c8, c9, c10, c11) (d0, d1, d2, d3, d4, d5, d6, d7, d8, d9, d10)) (H : Heap) (locs : List Loc) (ls : Array Slot) (hP : va_P (dC, dI) vwCl ((wX0 cy h q2 q3 q4 q5 q6 q7 q8 q9 c0 c1 c2 c3 c4 c5 c6 c7 c8 c9 c10 c11) ++ (wX1 cy g p2 p3 p6 p7 p10 d0 d1 d2 d3 d4 d5 d6 d7 d8 d9 d10)) H) (hD : va_D (fun q : Nat => s.heap.size ≤ q) ((wX0 cy h q2 q3 q4 q5 q6 q7 q8 q9 c0 c1 c2 c3 c4 c5 c6 c7 c8 c9 c10 c11) ++ (wX1 cy g p2 p3 p6 p7 p10 d0 d1 d2 d3 d4 d5 d6 d7 d8 d9 d10))) (hS : va_S (fun q : Nat => s.heap.size ≤ q) s.heap H locs) (hl : lv_has ls 4 [(0, .ref b), (1, .ref h), (2, .ref g), (3, .int (nI a))]), W p l e room_1 s m #[Value.ref b] below meth c H locs 15 2911 (lw_Z below #[Value.ref b] s) (F0 m 646 ls []) := by
  intro c0 c1 c2 c3 c4 c5 c6 c7 c8 c9 c10 c11 d0 d1 d2 d3 d4 d5 d6 d7 d8 d9 d10 hR H locs ls hP hD hS hl
  obtain ⟨hx, hb, hr, hml, hown, hts, hX, hbl, hlocks, hgv⟩ := C0
  have hts := fun w h => hts w (wsL_law_in w h)
  have hA : ∀ q : Nat, s.heap.size ≤ q → (fun q : Nat => s.heap.size ≤ q) q := fun _ h => h
  have hbA : ¬ (fun q : Nat => s.heap.size ≤ q) b := Nat.not_le.mpr hbl
  have hi1 : vp_in (nI a + (1 : Int32)) L := by rw [show nI a + (1 : Int32) = nI (a + 1) from nI_add a 1]; exact vp_in_nI (by omega) (by omega)
  have hi2 : vp_in (nI a + (2 : Int32)) L := by rw [show nI a + (2 : Int32) = nI (a + 2) from nI_add a 2]; exact vp_in_nI (by omega) (by omega)
  have hi3 : vp_in (nI a + (3 : Int32)) L := by rw [show nI a + (3 : Int32) = nI (a + 3) from nI_add a 3]; exact vp_in_nI (by omega) (by omega)
  refine lv_aload_n hx hb dL_law_646 rfl (lv_at hl 1 rfl) ?_
  refine lv_aload_n hx hb dL_law_647 rfl (lv_at hl 0 rfl) ?_
  refine lv_iload_n hx hb dL_law_648 rfl (lv_at hl 3 rfl) ?_
  refine lv_iconst (v := (1 : Int32)) hx hb dL_law_649 (by decide) ?_
  refine lv_iadd hx hb dL_law_650 ?_
  refine va_sld hx hb hX hbl hbA hS hi1 dL_law_651 ?_
  obtain ⟨N1, r1, N2, r2, hf1, hf2, he, hR2⟩ := hop c0 c1 c2 c3 c4 c5 c6 c7 c8 c9 c10 c11 d0 d1 d2 d3 d4 d5 d6 d7 d8 d9 d10 (xs ((nI a) + (1 : Int32)).toNatClampNeg) hR
  have hPc := hP.sub (ws' := (wX0 cy h q2 q3 q4 q5 q6 q7 q8 q9 c0 c1 c2 c3 c4 c5 c6 c7 c8 c9 c10 c11)) [0, 1, 2, 3, 4, 5, 6, 7, 8] rfl
  have hDc := hD.sub (ws' := (wX0 cy h q2 q3 q4 q5 q6 q7 q8 q9 c0 c1 c2 c3 c4 c5 c6 c7 c8 c9 c10 c11)) [0, 1, 2, 3, 4, 5, 6, 7, 8] (by decide) rfl
  have hKc := hK.sub (tys' := [(cy, .int)]) [0] rfl
  have hFc := va_free (wc := (wX0 cy h q2 q3 q4 q5 q6 q7 q8 q9 c0 c1 c2 c3 c4 c5 c6 c7 c8 c9 c10 c11)) hD hS hA [0, 1, 2, 3, 4, 5, 6, 7, 8] rfl
  refine va_calli (va_runV (As := [.int (xs ((nI a) + (1 : Int32)).toNatClampNeg)]) (rest := []) ⟨hx, hb, hml, hown, hts⟩ (c_X0_mends N1 l dC dI cy h q2 q3 q4 q5 q6 q7 q8 q9 H.size c0 c1 c2 c3 c4 c5 c6 c7 c8 c9 c10 c11 (xs ((nI a) + (1 : Int32)).toNatClampNeg) r1 hf1) (cwV 1 hts gL_law_X0_mends rfl rfl rfl (by decide +kernel) ⟨Nat.le_of_ble_eq_true rfl, Nat.le_of_ble_eq_true rfl⟩) ⟨fun a U g mk q => by obtain ⟨q0, q1, qP, qK, qD⟩ := q; exact ⟨q0, q1, qP, va_K.moved (u := U) (U := U.calling g mk a) (Vm.Alike.refl U.vm) qK, qD⟩, va_recv hKc hPc (ci := 0) (q0 := 0) rfl rfl, fun U hU hW => ⟨rfl, by rw [hU], by rw [hU]; exact hPc, va_K.moved hW.alike hKc, hDc.weaken (fun _ _ _ _ => trivial)⟩⟩ rfl rfl hl.1 rfl (lv_room (Nat.le_of_ble_eq_true rfl)) dL_law_652 ⟨Nat.le_of_ble_eq_true rfl, Nat.le_of_ble_eq_true rfl⟩) hS (fun q _ h => hFc q h) hFc (fun rr uu_ t H1 locs ht hvm hw hB hz1 hk1 hS => ?_)
  replace hw := hw.symm
  subst hw
  obtain ⟨hP1, -, hD1⟩ := hB
  rw [ht] at hP1
  obtain ⟨hP, hD⟩ := va_join (wr := (wX1 cy g p2 p3 p6 p7 p10 d0 d1 d2 d3 d4 d5 d6 d7 d8 d9 d10)) (w1 := (wX0 cy h q2 q3 q4 q5 q6 q7 q8 q9 c0 c1 c2 c3 r1.2.1 r1.2.2.1 r1.2.2.2.1 r1.2.2.2.2.1 r1.2.2.2.2.2.1 r1.2.2.2.2.2.2.1 r1.2.2.2.2.2.2.2.1 r1.2.2.2.2.2.2.2.2)) hP hD [0, 1, 2, 3, 4, 5, 6, 7, 8] [9, 10, 11, 12, 13, 14] rfl rfl (by decide) (by decide) hk1 hFc hP1 hD1
  clear hk1 hz1 hP1 hD1 ht hPc hDc hFc
  generalize H1 = H at hP hS ⊢
  have hP := hP.sub (ws' := ((wX0 cy h q2 q3 q4 q5 q6 q7 q8 q9 c0 c1 c2 c3 r1.2.1 r1.2.2.1 r1.2.2.2.1 r1.2.2.2.2.1 r1.2.2.2.2.2.1 r1.2.2.2.2.2.2.1 r1.2.2.2.2.2.2.2.1 r1.2.2.2.2.2.2.2.2) ++ (wX1 cy g p2 p3 p6 p7 p10 d0 d1 d2 d3 d4 d5 d6 d7 d8 d9 d10))) [6, 7, 8, 9, 10, 11, 12, 13, 14, 0, 1, 2, 3, 4, 5] rfl
  have hD := hD.sub (ws' := ((wX0 cy h q2 q3 q4 q5 q6 q7 q8 q9 c0 c1 c2 c3 r1.2.1 r1.2.2.1 r1.2.2.2.1 r1.2.2.2.2.1 r1.2.2.2.2.2.1 r1.2.2.2.2.2.2.1 r1.2.2.2.2.2.2.2.1 r1.2.2.2.2.2.2.2.2) ++ (wX1 cy g p2 p3 p6 p7 p10 d0 d1 d2 d3 d4 d5 d6 d7 d8 d9 d10))) [6, 7, 8, 9, 10, 11, 12, 13, 14, 0, 1, 2, 3, 4, 5] (by decide) rfl
  refine lv_aload_n hx hb dL_law_655 rfl (lv_at hl 2 rfl) ?_
  refine lv_aload_n hx hb dL_law_656 rfl (lv_at hl 0 rfl) ?_
  refine lv_iload_n hx hb dL_law_657 rfl (lv_at hl 3 rfl) ?_
  refine lv_iconst (v := (1 : Int32)) hx hb dL_law_658 (by decide) ?_
  refine lv_iadd hx hb dL_law_659 ?_
  refine va_sld hx hb hX hbl hbA hS hi1 dL_law_660 ?_
  have hPc := hP.sub (ws' := (wX1 cy g p2 p3 p6 p7 p10 d0 d1 d2 d3 d4 d5 d6 d7 d8 d9 d10)) [9, 10, 11, 12, 13, 14] rfl
  have hDc := hD.sub (ws' := (wX1 cy g p2 p3 p6 p7 p10 d0 d1 d2 d3 d4 d5 d6 d7 d8 d9 d10)) [9, 10, 11, 12, 13, 14] (by decide) rfl
  have hKc := hK.sub (tys' := [(cy, .int)]) [0] rfl
  have hFc := va_free (wc := (wX1 cy g p2 p3 p6 p7 p10 d0 d1 d2 d3 d4 d5 d6 d7 d8 d9 d10)) hD hS hA [9, 10, 11, 12, 13, 14] rfl
  refine va_calli (va_runV (As := [.int (xs ((nI a) + (1 : Int32)).toNatClampNeg)]) (rest := [.int r1.1]) ⟨hx, hb, hml, hown, hts⟩ (c_X1_mends N2 l dC dI cy g p2 p3 p6 p7 p10 H.size d0 d1 d2 d3 d4 d5 d6 d7 d8 d9 d10 (xs ((nI a) + (1 : Int32)).toNatClampNeg) r2 hf2) (cwV 1 hts gL_law_X1_mends rfl rfl rfl (by decide +kernel) ⟨Nat.le_of_ble_eq_true rfl, Nat.le_of_ble_eq_true rfl⟩) ⟨fun a U g mk q => by obtain ⟨q0, q1, qP, qK, qD⟩ := q; exact ⟨q0, q1, qP, va_K.moved (u := U) (U := U.calling g mk a) (Vm.Alike.refl U.vm) qK, qD⟩, va_recv hKc hPc (ci := 1) (q0 := 0) rfl rfl, fun U hU hW => ⟨rfl, by rw [hU], by rw [hU]; exact hPc, va_K.moved hW.alike hKc, hDc.weaken (fun _ _ _ _ => trivial)⟩⟩ rfl rfl hl.1 rfl (lv_room (Nat.le_of_ble_eq_true rfl)) dL_law_661 ⟨Nat.le_of_ble_eq_true rfl, Nat.le_of_ble_eq_true rfl⟩) hS (fun q _ h => hFc q h) hFc (fun rr uu_ t H1 locs ht hvm hw hB hz1 hk1 hS => ?_)
  replace hw := hw.symm
  subst hw
  obtain ⟨hP1, -, hD1⟩ := hB
  rw [ht] at hP1
  obtain ⟨hP, hD⟩ := va_join (wr := (wX0 cy h q2 q3 q4 q5 q6 q7 q8 q9 c0 c1 c2 c3 r1.2.1 r1.2.2.1 r1.2.2.2.1 r1.2.2.2.2.1 r1.2.2.2.2.2.1 r1.2.2.2.2.2.2.1 r1.2.2.2.2.2.2.2.1 r1.2.2.2.2.2.2.2.2)) (w1 := (wX1 cy g p2 p3 p6 p7 p10 d0 d1 d2 d3 r2.2.1 r2.2.2.1 r2.2.2.2.1 d7 r2.2.2.2.2.1 r2.2.2.2.2.2.1 r2.2.2.2.2.2.2)) hP hD [9, 10, 11, 12, 13, 14] [0, 1, 2, 3, 4, 5, 6, 7, 8] rfl rfl (by decide) (by decide) hk1 hFc hP1 hD1
  clear hk1 hz1 hP1 hD1 ht hPc hDc hFc
  generalize H1 = H at hP hS ⊢
  have hP := hP.sub (ws' := ((wX0 cy h q2 q3 q4 q5 q6 q7 q8 q9 c0 c1 c2 c3 r1.2.1 r1.2.2.1 r1.2.2.2.1 r1.2.2.2.2.1 r1.2.2.2.2.2.1 r1.2.2.2.2.2.2.1 r1.2.2.2.2.2.2.2.1 r1.2.2.2.2.2.2.2.2) ++ (wX1 cy g p2 p3 p6 p7 p10 d0 d1 d2 d3 r2.2.1 r2.2.2.1 r2.2.2.2.1 d7 r2.2.2.2.2.1 r2.2.2.2.2.2.1 r2.2.2.2.2.2.2))) [0, 1, 2, 3, 4, 5, 6, 7, 8, 9, 10, 11, 12, 13, 14] rfl
  have hD := hD.sub (ws' := ((wX0 cy h q2 q3 q4 q5 q6 q7 q8 q9 c0 c1 c2 c3 r1.2.1 r1.2.2.1 r1.2.2.2.1 r1.2.2.2.2.1 r1.2.2.2.2.2.1 r1.2.2.2.2.2.2.1 r1.2.2.2.2.2.2.2.1 r1.2.2.2.2.2.2.2.2) ++ (wX1 cy g p2 p3 p6 p7 p10 d0 d1 d2 d3 r2.2.1 r2.2.2.1 r2.2.2.2.1 d7 r2.2.2.2.2.1 r2.2.2.2.2.2.1 r2.2.2.2.2.2.2))) [0, 1, 2, 3, 4, 5, 6, 7, 8, 9, 10, 11, 12, 13, 14] (by decide) rfl
  refine lv_icmp_eq (tgt := 725) hx hb dL_law_664 (by decide) (fun c_9 => ?_) (fun c_9 => ?_)
  · exact hnext c0 c1 c2 c3 r1.2.1 r1.2.2.1 r1.2.2.2.1 r1.2.2.2.2.1 r1.2.2.2.2.2.1 r1.2.2.2.2.2.2.1 r1.2.2.2.2.2.2.2.1 r1.2.2.2.2.2.2.2.2 d0 d1 d2 d3 r2.2.1 r2.2.2.1 r2.2.2.2.1 d7 r2.2.2.2.2.1 r2.2.2.2.2.2.1 r2.2.2.2.2.2.2 hR2 _ _ _ hP hD hS hl
  · exact absurd he c_9

set_option maxHeartbeats 4000000 in
set_option maxRecDepth 100000 in
theorem lk_mend {p : Program} {l : Launch} {e : Env} {s : State} {m : MethodId} {below : List Frame} {meth : Method} {c : Code} {dC : Nat → ClassId} {dI : Nat → Nat → Nat} {b L : Nat} {xs : Nat → Int32} (hL : L ≤ 2048) (C0 : lw_At p s m meth c b L xs) {R : z_XS → z_MS → Prop} (hop : zo_mend R) (cy : ClassId) (hK : va_K (dC, dI) vwCl [(cy, .int)] s) (h q2 q3 q4 q5 q6 q7 q8 q9 g p2 p3 p6 p7 p10 : Nat) (a : Nat) (ha : a + 4 ≤ L) (hnext : ∀ (c0 : Int32) (c1 : Int32) (c2 : Nat → Int32) (c3 : Nat → Int32) (c4 : Nat → Int32) (c5 : Nat → Int32) (c6 : Nat → Int32) (c7 : Nat → Int32) (c8 : Nat → Int32) (c9 : Nat → Int32) (c10 : Int32) (c11 : Int32) (d0 : Int32) (d1 : Int32) (d2 : Nat → Int32) (d3 : Nat → Int32) (d4 : Int32) (d5 : Int32) (d6 : Nat → Int32) (d7 : Nat → Int32) (d8 : Int32) (d9 : Int32) (d10 : Nat → Int32), R (c0, c1, c2, c3, c4, c5, c6, c7, c8, c9, c10, c11) (d0, d1, d2, d3, d4, d5, d6, d7, d8, d9, d10) → ∀ (H : Heap) (locs : List Loc) (ls : Array Slot), va_P (dC, dI) vwCl ((wX0 cy h q2 q3 q4 q5 q6 q7 q8 q9 c0 c1 c2 c3 c4 c5 c6 c7 c8 c9 c10 c11) ++ (wX1 cy g p2 p3 p6 p7 p10 d0 d1 d2 d3 d4 d5 d6 d7 d8 d9 d10)) H → va_D (fun q : Nat => s.heap.size ≤ q) ((wX0 cy h q2 q3 q4 q5 q6 q7 q8 q9 c0 c1 c2 c3 c4 c5 c6 c7 c8 c9 c10 c11) ++ (wX1 cy g p2 p3 p6 p7 p10 d0 d1 d2 d3 d4 d5 d6 d7 d8 d9 d10)) → va_S (fun q : Nat => s.heap.size ≤ q) s.heap H locs → lv_has ls 4 [(0, .ref b), (1, .ref h), (2, .ref g), (3, .int (nI a))] → W p l e room_1 s m #[Value.ref b] below meth c H locs 15 2911 (lw_Z below #[Value.ref b] s) (F0 m 725 ls [])) : ∀ (c0 : Int32) (c1 : Int32) (c2 : Nat → Int32) (c3 : Nat → Int32) (c4 : Nat → Int32) (c5 : Nat → Int32) (c6 : Nat → Int32) (c7 : Nat → Int32) (c8 : Nat → Int32) (c9 : Nat → Int32) (c10 : Int32) (c11 : Int32) (d0 : Int32) (d1 : Int32) (d2 : Nat → Int32) (d3 : Nat → Int32) (d4 : Int32) (d5 : Int32) (d6 : Nat → Int32) (d7 : Nat → Int32) (d8 : Int32) (d9 : Int32) (d10 : Nat → Int32) (hR : R (c0, c1, c2, c3, c4, c5, c6, c7, c8, c9, c10, c11) (d0, d1, d2, d3, d4, d5, d6, d7, d8, d9, d10)) (H : Heap) (locs : List Loc) (ls : Array Slot) (hP : va_P (dC, dI) vwCl ((wX0 cy h q2 q3 q4 q5 q6 q7 q8 q9 c0 c1 c2 c3 c4 c5 c6 c7 c8 c9 c10 c11) ++ (wX1 cy g p2 p3 p6 p7 p10 d0 d1 d2 d3 d4 d5 d6 d7 d8 d9 d10)) H) (hD : va_D (fun q : Nat => s.heap.size ≤ q) ((wX0 cy h q2 q3 q4 q5 q6 q7 q8 q9 c0 c1 c2 c3 c4 c5 c6 c7 c8 c9 c10 c11) ++ (wX1 cy g p2 p3 p6 p7 p10 d0 d1 d2 d3 d4 d5 d6 d7 d8 d9 d10))) (hS : va_S (fun q : Nat => s.heap.size ≤ q) s.heap H locs) (hl : lv_has ls 4 [(0, .ref b), (1, .ref h), (2, .ref g), (3, .int (nI a))]), W p l e room_1 s m #[Value.ref b] below meth c H locs 15 2911 (lw_Z below #[Value.ref b] s) (F0 m 669 ls []) := by
  intro c0 c1 c2 c3 c4 c5 c6 c7 c8 c9 c10 c11 d0 d1 d2 d3 d4 d5 d6 d7 d8 d9 d10 hR H locs ls hP hD hS hl
  obtain ⟨hx, hb, hr, hml, hown, hts, hX, hbl, hlocks, hgv⟩ := C0
  have hts := fun w h => hts w (wsL_law_in w h)
  have hA : ∀ q : Nat, s.heap.size ≤ q → (fun q : Nat => s.heap.size ≤ q) q := fun _ h => h
  have hbA : ¬ (fun q : Nat => s.heap.size ≤ q) b := Nat.not_le.mpr hbl
  have hi1 : vp_in (nI a + (1 : Int32)) L := by rw [show nI a + (1 : Int32) = nI (a + 1) from nI_add a 1]; exact vp_in_nI (by omega) (by omega)
  have hi2 : vp_in (nI a + (2 : Int32)) L := by rw [show nI a + (2 : Int32) = nI (a + 2) from nI_add a 2]; exact vp_in_nI (by omega) (by omega)
  have hi3 : vp_in (nI a + (3 : Int32)) L := by rw [show nI a + (3 : Int32) = nI (a + 3) from nI_add a 3]; exact vp_in_nI (by omega) (by omega)
  refine lv_aload_n hx hb dL_law_669 rfl (lv_at hl 1 rfl) ?_
  refine lv_aload_n hx hb dL_law_670 rfl (lv_at hl 0 rfl) ?_
  refine lv_iload_n hx hb dL_law_671 rfl (lv_at hl 3 rfl) ?_
  refine lv_iconst (v := (1 : Int32)) hx hb dL_law_672 (by decide) ?_
  refine lv_iadd hx hb dL_law_673 ?_
  refine va_sld hx hb hX hbl hbA hS hi1 dL_law_674 ?_
  refine lv_aload_n hx hb dL_law_675 rfl (lv_at hl 0 rfl) ?_
  refine lv_iload_n hx hb dL_law_676 rfl (lv_at hl 3 rfl) ?_
  refine lv_iconst (v := (2 : Int32)) hx hb dL_law_677 (by decide) ?_
  refine lv_iadd hx hb dL_law_678 ?_
  refine va_sld hx hb hX hbl hbA hS hi2 dL_law_679 ?_
  obtain ⟨N1, r1, N2, r2, hf1, hf2, he, hR2⟩ := hop c0 c1 c2 c3 c4 c5 c6 c7 c8 c9 c10 c11 d0 d1 d2 d3 d4 d5 d6 d7 d8 d9 d10 (xs ((nI a) + (1 : Int32)).toNatClampNeg) (xs ((nI a) + (2 : Int32)).toNatClampNeg) hR
  have hPc := hP.sub (ws' := (wX0 cy h q2 q3 q4 q5 q6 q7 q8 q9 c0 c1 c2 c3 c4 c5 c6 c7 c8 c9 c10 c11)) [0, 1, 2, 3, 4, 5, 6, 7, 8] rfl
  have hDc := hD.sub (ws' := (wX0 cy h q2 q3 q4 q5 q6 q7 q8 q9 c0 c1 c2 c3 c4 c5 c6 c7 c8 c9 c10 c11)) [0, 1, 2, 3, 4, 5, 6, 7, 8] (by decide) rfl
  have hKc := hK.sub (tys' := [(cy, .int)]) [0] rfl
  have hFc := va_free (wc := (wX0 cy h q2 q3 q4 q5 q6 q7 q8 q9 c0 c1 c2 c3 c4 c5 c6 c7 c8 c9 c10 c11)) hD hS hA [0, 1, 2, 3, 4, 5, 6, 7, 8] rfl
  refine va_calli (va_runV (As := [.int (xs ((nI a) + (1 : Int32)).toNatClampNeg), .int (xs ((nI a) + (2 : Int32)).toNatClampNeg)]) (rest := []) ⟨hx, hb, hml, hown, hts⟩ (c_X0_mend N1 l dC dI cy h q2 q3 q4 q5 q6 q7 q8 q9 H.size c0 c1 c2 c3 c4 c5 c6 c7 c8 c9 c10 c11 (xs ((nI a) + (1 : Int32)).toNatClampNeg) (xs ((nI a) + (2 : Int32)).toNatClampNeg) r1 hf1) (cwV 2 hts gL_law_X0_mend rfl rfl rfl (by decide +kernel) ⟨Nat.le_of_ble_eq_true rfl, Nat.le_of_ble_eq_true rfl⟩) ⟨fun a U g mk q => by obtain ⟨q0, q1, qP, qK, qD⟩ := q; exact ⟨q0, q1, qP, va_K.moved (u := U) (U := U.calling g mk a) (Vm.Alike.refl U.vm) qK, qD⟩, va_recv hKc hPc (ci := 0) (q0 := 0) rfl rfl, fun U hU hW => ⟨rfl, by rw [hU], by rw [hU]; exact hPc, va_K.moved hW.alike hKc, hDc.weaken (fun _ _ _ _ => trivial)⟩⟩ rfl rfl hl.1 rfl (lv_room (Nat.le_of_ble_eq_true rfl)) dL_law_680 ⟨Nat.le_of_ble_eq_true rfl, Nat.le_of_ble_eq_true rfl⟩) hS (fun q _ h => hFc q h) hFc (fun rr uu_ t H1 locs ht hvm hw hB hz1 hk1 hS => ?_)
  replace hw := hw.symm
  subst hw
  obtain ⟨hP1, -, hD1⟩ := hB
  rw [ht] at hP1
  obtain ⟨hP, hD⟩ := va_join (wr := (wX1 cy g p2 p3 p6 p7 p10 d0 d1 d2 d3 d4 d5 d6 d7 d8 d9 d10)) (w1 := (wX0 cy h q2 q3 q4 q5 q6 q7 q8 q9 c0 c1 c2 c3 r1.2.1 r1.2.2.1 r1.2.2.2.1 r1.2.2.2.2.1 r1.2.2.2.2.2.1 r1.2.2.2.2.2.2.1 r1.2.2.2.2.2.2.2.1 r1.2.2.2.2.2.2.2.2)) hP hD [0, 1, 2, 3, 4, 5, 6, 7, 8] [9, 10, 11, 12, 13, 14] rfl rfl (by decide) (by decide) hk1 hFc hP1 hD1
  clear hk1 hz1 hP1 hD1 ht hPc hDc hFc
  generalize H1 = H at hP hS ⊢
  have hP := hP.sub (ws' := ((wX0 cy h q2 q3 q4 q5 q6 q7 q8 q9 c0 c1 c2 c3 r1.2.1 r1.2.2.1 r1.2.2.2.1 r1.2.2.2.2.1 r1.2.2.2.2.2.1 r1.2.2.2.2.2.2.1 r1.2.2.2.2.2.2.2.1 r1.2.2.2.2.2.2.2.2) ++ (wX1 cy g p2 p3 p6 p7 p10 d0 d1 d2 d3 d4 d5 d6 d7 d8 d9 d10))) [6, 7, 8, 9, 10, 11, 12, 13, 14, 0, 1, 2, 3, 4, 5] rfl
  have hD := hD.sub (ws' := ((wX0 cy h q2 q3 q4 q5 q6 q7 q8 q9 c0 c1 c2 c3 r1.2.1 r1.2.2.1 r1.2.2.2.1 r1.2.2.2.2.1 r1.2.2.2.2.2.1 r1.2.2.2.2.2.2.1 r1.2.2.2.2.2.2.2.1 r1.2.2.2.2.2.2.2.2) ++ (wX1 cy g p2 p3 p6 p7 p10 d0 d1 d2 d3 d4 d5 d6 d7 d8 d9 d10))) [6, 7, 8, 9, 10, 11, 12, 13, 14, 0, 1, 2, 3, 4, 5] (by decide) rfl
  refine lv_aload_n hx hb dL_law_683 rfl (lv_at hl 2 rfl) ?_
  refine lv_aload_n hx hb dL_law_684 rfl (lv_at hl 0 rfl) ?_
  refine lv_iload_n hx hb dL_law_685 rfl (lv_at hl 3 rfl) ?_
  refine lv_iconst (v := (1 : Int32)) hx hb dL_law_686 (by decide) ?_
  refine lv_iadd hx hb dL_law_687 ?_
  refine va_sld hx hb hX hbl hbA hS hi1 dL_law_688 ?_
  refine lv_aload_n hx hb dL_law_689 rfl (lv_at hl 0 rfl) ?_
  refine lv_iload_n hx hb dL_law_690 rfl (lv_at hl 3 rfl) ?_
  refine lv_iconst (v := (2 : Int32)) hx hb dL_law_691 (by decide) ?_
  refine lv_iadd hx hb dL_law_692 ?_
  refine va_sld hx hb hX hbl hbA hS hi2 dL_law_693 ?_
  have hPc := hP.sub (ws' := (wX1 cy g p2 p3 p6 p7 p10 d0 d1 d2 d3 d4 d5 d6 d7 d8 d9 d10)) [9, 10, 11, 12, 13, 14] rfl
  have hDc := hD.sub (ws' := (wX1 cy g p2 p3 p6 p7 p10 d0 d1 d2 d3 d4 d5 d6 d7 d8 d9 d10)) [9, 10, 11, 12, 13, 14] (by decide) rfl
  have hKc := hK.sub (tys' := [(cy, .int)]) [0] rfl
  have hFc := va_free (wc := (wX1 cy g p2 p3 p6 p7 p10 d0 d1 d2 d3 d4 d5 d6 d7 d8 d9 d10)) hD hS hA [9, 10, 11, 12, 13, 14] rfl
  refine va_calli (va_runV (As := [.int (xs ((nI a) + (1 : Int32)).toNatClampNeg), .int (xs ((nI a) + (2 : Int32)).toNatClampNeg)]) (rest := [.int r1.1]) ⟨hx, hb, hml, hown, hts⟩ (c_X1_mend N2 l dC dI cy g p2 p3 p6 p7 p10 H.size d0 d1 d2 d3 d4 d5 d6 d7 d8 d9 d10 (xs ((nI a) + (1 : Int32)).toNatClampNeg) (xs ((nI a) + (2 : Int32)).toNatClampNeg) r2 hf2) (cwV 2 hts gL_law_X1_mend rfl rfl rfl (by decide +kernel) ⟨Nat.le_of_ble_eq_true rfl, Nat.le_of_ble_eq_true rfl⟩) ⟨fun a U g mk q => by obtain ⟨q0, q1, qP, qK, qD⟩ := q; exact ⟨q0, q1, qP, va_K.moved (u := U) (U := U.calling g mk a) (Vm.Alike.refl U.vm) qK, qD⟩, va_recv hKc hPc (ci := 1) (q0 := 0) rfl rfl, fun U hU hW => ⟨rfl, by rw [hU], by rw [hU]; exact hPc, va_K.moved hW.alike hKc, hDc.weaken (fun _ _ _ _ => trivial)⟩⟩ rfl rfl hl.1 rfl (lv_room (Nat.le_of_ble_eq_true rfl)) dL_law_694 ⟨Nat.le_of_ble_eq_true rfl, Nat.le_of_ble_eq_true rfl⟩) hS (fun q _ h => hFc q h) hFc (fun rr uu_ t H1 locs ht hvm hw hB hz1 hk1 hS => ?_)
  replace hw := hw.symm
  subst hw
  obtain ⟨hP1, -, hD1⟩ := hB
  rw [ht] at hP1
  obtain ⟨hP, hD⟩ := va_join (wr := (wX0 cy h q2 q3 q4 q5 q6 q7 q8 q9 c0 c1 c2 c3 r1.2.1 r1.2.2.1 r1.2.2.2.1 r1.2.2.2.2.1 r1.2.2.2.2.2.1 r1.2.2.2.2.2.2.1 r1.2.2.2.2.2.2.2.1 r1.2.2.2.2.2.2.2.2)) (w1 := (wX1 cy g p2 p3 p6 p7 p10 d0 d1 d2 d3 r2.2.1 r2.2.2.1 r2.2.2.2.1 d7 r2.2.2.2.2.1 r2.2.2.2.2.2.1 r2.2.2.2.2.2.2)) hP hD [9, 10, 11, 12, 13, 14] [0, 1, 2, 3, 4, 5, 6, 7, 8] rfl rfl (by decide) (by decide) hk1 hFc hP1 hD1
  clear hk1 hz1 hP1 hD1 ht hPc hDc hFc
  generalize H1 = H at hP hS ⊢
  have hP := hP.sub (ws' := ((wX0 cy h q2 q3 q4 q5 q6 q7 q8 q9 c0 c1 c2 c3 r1.2.1 r1.2.2.1 r1.2.2.2.1 r1.2.2.2.2.1 r1.2.2.2.2.2.1 r1.2.2.2.2.2.2.1 r1.2.2.2.2.2.2.2.1 r1.2.2.2.2.2.2.2.2) ++ (wX1 cy g p2 p3 p6 p7 p10 d0 d1 d2 d3 r2.2.1 r2.2.2.1 r2.2.2.2.1 d7 r2.2.2.2.2.1 r2.2.2.2.2.2.1 r2.2.2.2.2.2.2))) [0, 1, 2, 3, 4, 5, 6, 7, 8, 9, 10, 11, 12, 13, 14] rfl
  have hD := hD.sub (ws' := ((wX0 cy h q2 q3 q4 q5 q6 q7 q8 q9 c0 c1 c2 c3 r1.2.1 r1.2.2.1 r1.2.2.2.1 r1.2.2.2.2.1 r1.2.2.2.2.2.1 r1.2.2.2.2.2.2.1 r1.2.2.2.2.2.2.2.1 r1.2.2.2.2.2.2.2.2) ++ (wX1 cy g p2 p3 p6 p7 p10 d0 d1 d2 d3 r2.2.1 r2.2.2.1 r2.2.2.2.1 d7 r2.2.2.2.2.1 r2.2.2.2.2.2.1 r2.2.2.2.2.2.2))) [0, 1, 2, 3, 4, 5, 6, 7, 8, 9, 10, 11, 12, 13, 14] (by decide) rfl
  refine lv_icmp_eq (tgt := 725) hx hb dL_law_697 (by decide) (fun c_9 => ?_) (fun c_9 => ?_)
  · exact hnext c0 c1 c2 c3 r1.2.1 r1.2.2.1 r1.2.2.2.1 r1.2.2.2.2.1 r1.2.2.2.2.2.1 r1.2.2.2.2.2.2.1 r1.2.2.2.2.2.2.2.1 r1.2.2.2.2.2.2.2.2 d0 d1 d2 d3 r2.2.1 r2.2.2.1 r2.2.2.2.1 d7 r2.2.2.2.2.1 r2.2.2.2.2.2.1 r2.2.2.2.2.2.2 hR2 _ _ _ hP hD hS hl
  · exact absurd he c_9

set_option maxHeartbeats 4000000 in
set_option maxRecDepth 100000 in
theorem lk_told {p : Program} {l : Launch} {e : Env} {s : State} {m : MethodId} {below : List Frame} {meth : Method} {c : Code} {dC : Nat → ClassId} {dI : Nat → Nat → Nat} {b L : Nat} {xs : Nat → Int32} (hL : L ≤ 2048) (C0 : lw_At p s m meth c b L xs) {R : z_XS → z_MS → Prop} (hop : zo_told R) (cy : ClassId) (hK : va_K (dC, dI) vwCl [(cy, .int)] s) (h q2 q3 q4 q5 q6 q7 q8 q9 g p2 p3 p6 p7 p10 : Nat) (a : Nat) (ha : a + 4 ≤ L) (hnext : ∀ (c0 : Int32) (c1 : Int32) (c2 : Nat → Int32) (c3 : Nat → Int32) (c4 : Nat → Int32) (c5 : Nat → Int32) (c6 : Nat → Int32) (c7 : Nat → Int32) (c8 : Nat → Int32) (c9 : Nat → Int32) (c10 : Int32) (c11 : Int32) (d0 : Int32) (d1 : Int32) (d2 : Nat → Int32) (d3 : Nat → Int32) (d4 : Int32) (d5 : Int32) (d6 : Nat → Int32) (d7 : Nat → Int32) (d8 : Int32) (d9 : Int32) (d10 : Nat → Int32), R (c0, c1, c2, c3, c4, c5, c6, c7, c8, c9, c10, c11) (d0, d1, d2, d3, d4, d5, d6, d7, d8, d9, d10) → ∀ (H : Heap) (locs : List Loc) (ls : Array Slot), va_P (dC, dI) vwCl ((wX0 cy h q2 q3 q4 q5 q6 q7 q8 q9 c0 c1 c2 c3 c4 c5 c6 c7 c8 c9 c10 c11) ++ (wX1 cy g p2 p3 p6 p7 p10 d0 d1 d2 d3 d4 d5 d6 d7 d8 d9 d10)) H → va_D (fun q : Nat => s.heap.size ≤ q) ((wX0 cy h q2 q3 q4 q5 q6 q7 q8 q9 c0 c1 c2 c3 c4 c5 c6 c7 c8 c9 c10 c11) ++ (wX1 cy g p2 p3 p6 p7 p10 d0 d1 d2 d3 d4 d5 d6 d7 d8 d9 d10)) → va_S (fun q : Nat => s.heap.size ≤ q) s.heap H locs → lv_has ls 4 [(0, .ref b), (1, .ref h), (2, .ref g), (3, .int (nI a))] → W p l e room_1 s m #[Value.ref b] below meth c H locs 15 2911 (lw_Z below #[Value.ref b] s) (F0 m 725 ls [])) : ∀ (c0 : Int32) (c1 : Int32) (c2 : Nat → Int32) (c3 : Nat → Int32) (c4 : Nat → Int32) (c5 : Nat → Int32) (c6 : Nat → Int32) (c7 : Nat → Int32) (c8 : Nat → Int32) (c9 : Nat → Int32) (c10 : Int32) (c11 : Int32) (d0 : Int32) (d1 : Int32) (d2 : Nat → Int32) (d3 : Nat → Int32) (d4 : Int32) (d5 : Int32) (d6 : Nat → Int32) (d7 : Nat → Int32) (d8 : Int32) (d9 : Int32) (d10 : Nat → Int32) (hR : R (c0, c1, c2, c3, c4, c5, c6, c7, c8, c9, c10, c11) (d0, d1, d2, d3, d4, d5, d6, d7, d8, d9, d10)) (H : Heap) (locs : List Loc) (ls : Array Slot) (hP : va_P (dC, dI) vwCl ((wX0 cy h q2 q3 q4 q5 q6 q7 q8 q9 c0 c1 c2 c3 c4 c5 c6 c7 c8 c9 c10 c11) ++ (wX1 cy g p2 p3 p6 p7 p10 d0 d1 d2 d3 d4 d5 d6 d7 d8 d9 d10)) H) (hD : va_D (fun q : Nat => s.heap.size ≤ q) ((wX0 cy h q2 q3 q4 q5 q6 q7 q8 q9 c0 c1 c2 c3 c4 c5 c6 c7 c8 c9 c10 c11) ++ (wX1 cy g p2 p3 p6 p7 p10 d0 d1 d2 d3 d4 d5 d6 d7 d8 d9 d10))) (hS : va_S (fun q : Nat => s.heap.size ≤ q) s.heap H locs) (hl : lv_has ls 4 [(0, .ref b), (1, .ref h), (2, .ref g), (3, .int (nI a))]), W p l e room_1 s m #[Value.ref b] below meth c H locs 15 2911 (lw_Z below #[Value.ref b] s) (F0 m 702 ls []) := by
  intro c0 c1 c2 c3 c4 c5 c6 c7 c8 c9 c10 c11 d0 d1 d2 d3 d4 d5 d6 d7 d8 d9 d10 hR H locs ls hP hD hS hl
  obtain ⟨hx, hb, hr, hml, hown, hts, hX, hbl, hlocks, hgv⟩ := C0
  have hts := fun w h => hts w (wsL_law_in w h)
  have hA : ∀ q : Nat, s.heap.size ≤ q → (fun q : Nat => s.heap.size ≤ q) q := fun _ h => h
  have hbA : ¬ (fun q : Nat => s.heap.size ≤ q) b := Nat.not_le.mpr hbl
  have hi1 : vp_in (nI a + (1 : Int32)) L := by rw [show nI a + (1 : Int32) = nI (a + 1) from nI_add a 1]; exact vp_in_nI (by omega) (by omega)
  have hi2 : vp_in (nI a + (2 : Int32)) L := by rw [show nI a + (2 : Int32) = nI (a + 2) from nI_add a 2]; exact vp_in_nI (by omega) (by omega)
  have hi3 : vp_in (nI a + (3 : Int32)) L := by rw [show nI a + (3 : Int32) = nI (a + 3) from nI_add a 3]; exact vp_in_nI (by omega) (by omega)
  refine lv_aload_n hx hb dL_law_702 rfl (lv_at hl 1 rfl) ?_
  refine lv_aload_n hx hb dL_law_703 rfl (lv_at hl 0 rfl) ?_
  refine lv_iload_n hx hb dL_law_704 rfl (lv_at hl 3 rfl) ?_
  refine lv_iconst (v := (1 : Int32)) hx hb dL_law_705 (by decide) ?_
  refine lv_iadd hx hb dL_law_706 ?_
  refine va_sld hx hb hX hbl hbA hS hi1 dL_law_707 ?_
  obtain ⟨N1, r1, N2, r2, hf1, hf2, he, hR2⟩ := hop c0 c1 c2 c3 c4 c5 c6 c7 c8 c9 c10 c11 d0 d1 d2 d3 d4 d5 d6 d7 d8 d9 d10 (xs ((nI a) + (1 : Int32)).toNatClampNeg) hR
  have hPc := hP.sub (ws' := (wX0 cy h q2 q3 q4 q5 q6 q7 q8 q9 c0 c1 c2 c3 c4 c5 c6 c7 c8 c9 c10 c11)) [0, 1, 2, 3, 4, 5, 6, 7, 8] rfl
  have hDc := hD.sub (ws' := (wX0 cy h q2 q3 q4 q5 q6 q7 q8 q9 c0 c1 c2 c3 c4 c5 c6 c7 c8 c9 c10 c11)) [0, 1, 2, 3, 4, 5, 6, 7, 8] (by decide) rfl
  have hKc := hK.sub (tys' := [(cy, .int)]) [0] rfl
  have hFc := va_free (wc := (wX0 cy h q2 q3 q4 q5 q6 q7 q8 q9 c0 c1 c2 c3 c4 c5 c6 c7 c8 c9 c10 c11)) hD hS hA [0, 1, 2, 3, 4, 5, 6, 7, 8] rfl
  refine va_calli (va_runV (As := [.int (xs ((nI a) + (1 : Int32)).toNatClampNeg)]) (rest := []) ⟨hx, hb, hml, hown, hts⟩ (c_X0_told N1 l dC dI cy h q2 q3 q4 q5 q6 q7 q8 q9 H.size c0 c1 c2 c3 c4 c5 c6 c7 c8 c9 c10 c11 (xs ((nI a) + (1 : Int32)).toNatClampNeg) r1 hf1) (cwV 1 hts gL_law_X0_told rfl rfl rfl (by decide +kernel) ⟨Nat.le_of_ble_eq_true rfl, Nat.le_of_ble_eq_true rfl⟩) ⟨fun a U g mk q => by obtain ⟨q0, q1, qP, qK, qD⟩ := q; exact ⟨q0, q1, qP, va_K.moved (u := U) (U := U.calling g mk a) (Vm.Alike.refl U.vm) qK, qD⟩, va_recv hKc hPc (ci := 0) (q0 := 0) rfl rfl, fun U hU hW => ⟨rfl, by rw [hU], by rw [hU]; exact hPc, va_K.moved hW.alike hKc, hDc.weaken (fun _ _ _ _ => trivial)⟩⟩ rfl rfl hl.1 rfl (lv_room (Nat.le_of_ble_eq_true rfl)) dL_law_708 ⟨Nat.le_of_ble_eq_true rfl, Nat.le_of_ble_eq_true rfl⟩) hS (fun q _ h => hFc q h) hFc (fun rr uu_ t H1 locs ht hvm hw hB hz1 hk1 hS => ?_)
  replace hw := hw.symm
  subst hw
  obtain ⟨hP1, -, hD1⟩ := hB
  rw [ht] at hP1
  obtain ⟨hP, hD⟩ := va_join (wr := (wX1 cy g p2 p3 p6 p7 p10 d0 d1 d2 d3 d4 d5 d6 d7 d8 d9 d10)) (w1 := (wX0 cy h q2 q3 q4 q5 q6 q7 q8 q9 c0 c1 c2 c3 c4 c5 c6 c7 c8 c9 c10 c11)) hP hD [0, 1, 2, 3, 4, 5, 6, 7, 8] [9, 10, 11, 12, 13, 14] rfl rfl (by decide) (by decide) hk1 hFc hP1 hD1
  clear hk1 hz1 hP1 hD1 ht hPc hDc hFc
  generalize H1 = H at hP hS ⊢
  have hP := hP.sub (ws' := ((wX0 cy h q2 q3 q4 q5 q6 q7 q8 q9 c0 c1 c2 c3 c4 c5 c6 c7 c8 c9 c10 c11) ++ (wX1 cy g p2 p3 p6 p7 p10 d0 d1 d2 d3 d4 d5 d6 d7 d8 d9 d10))) [6, 7, 8, 9, 10, 11, 12, 13, 14, 0, 1, 2, 3, 4, 5] rfl
  have hD := hD.sub (ws' := ((wX0 cy h q2 q3 q4 q5 q6 q7 q8 q9 c0 c1 c2 c3 c4 c5 c6 c7 c8 c9 c10 c11) ++ (wX1 cy g p2 p3 p6 p7 p10 d0 d1 d2 d3 d4 d5 d6 d7 d8 d9 d10))) [6, 7, 8, 9, 10, 11, 12, 13, 14, 0, 1, 2, 3, 4, 5] (by decide) rfl
  refine lv_aload_n hx hb dL_law_711 rfl (lv_at hl 2 rfl) ?_
  refine lv_aload_n hx hb dL_law_712 rfl (lv_at hl 0 rfl) ?_
  refine lv_iload_n hx hb dL_law_713 rfl (lv_at hl 3 rfl) ?_
  refine lv_iconst (v := (1 : Int32)) hx hb dL_law_714 (by decide) ?_
  refine lv_iadd hx hb dL_law_715 ?_
  refine va_sld hx hb hX hbl hbA hS hi1 dL_law_716 ?_
  have hPc := hP.sub (ws' := (wX1 cy g p2 p3 p6 p7 p10 d0 d1 d2 d3 d4 d5 d6 d7 d8 d9 d10)) [9, 10, 11, 12, 13, 14] rfl
  have hDc := hD.sub (ws' := (wX1 cy g p2 p3 p6 p7 p10 d0 d1 d2 d3 d4 d5 d6 d7 d8 d9 d10)) [9, 10, 11, 12, 13, 14] (by decide) rfl
  have hKc := hK.sub (tys' := [(cy, .int)]) [0] rfl
  have hFc := va_free (wc := (wX1 cy g p2 p3 p6 p7 p10 d0 d1 d2 d3 d4 d5 d6 d7 d8 d9 d10)) hD hS hA [9, 10, 11, 12, 13, 14] rfl
  refine va_calli (va_runV (As := [.int (xs ((nI a) + (1 : Int32)).toNatClampNeg)]) (rest := [.int r1]) ⟨hx, hb, hml, hown, hts⟩ (c_X1_told N2 l dC dI cy g p2 p3 p6 p7 p10 H.size d0 d1 d2 d3 d4 d5 d6 d7 d8 d9 d10 (xs ((nI a) + (1 : Int32)).toNatClampNeg) r2 hf2) (cwV 1 hts gL_law_X1_told rfl rfl rfl (by decide +kernel) ⟨Nat.le_of_ble_eq_true rfl, Nat.le_of_ble_eq_true rfl⟩) ⟨fun a U g mk q => by obtain ⟨q0, q1, qP, qK, qD⟩ := q; exact ⟨q0, q1, qP, va_K.moved (u := U) (U := U.calling g mk a) (Vm.Alike.refl U.vm) qK, qD⟩, va_recv hKc hPc (ci := 1) (q0 := 0) rfl rfl, fun U hU hW => ⟨rfl, by rw [hU], by rw [hU]; exact hPc, va_K.moved hW.alike hKc, hDc.weaken (fun _ _ _ _ => trivial)⟩⟩ rfl rfl hl.1 rfl (lv_room (Nat.le_of_ble_eq_true rfl)) dL_law_717 ⟨Nat.le_of_ble_eq_true rfl, Nat.le_of_ble_eq_true rfl⟩) hS (fun q _ h => hFc q h) hFc (fun rr uu_ t H1 locs ht hvm hw hB hz1 hk1 hS => ?_)
  replace hw := hw.symm
  subst hw
  obtain ⟨hP1, -, hD1⟩ := hB
  rw [ht] at hP1
  obtain ⟨hP, hD⟩ := va_join (wr := (wX0 cy h q2 q3 q4 q5 q6 q7 q8 q9 c0 c1 c2 c3 c4 c5 c6 c7 c8 c9 c10 c11)) (w1 := (wX1 cy g p2 p3 p6 p7 p10 d0 d1 d2 d3 d4 d5 d6 d7 d8 d9 d10)) hP hD [9, 10, 11, 12, 13, 14] [0, 1, 2, 3, 4, 5, 6, 7, 8] rfl rfl (by decide) (by decide) hk1 hFc hP1 hD1
  clear hk1 hz1 hP1 hD1 ht hPc hDc hFc
  generalize H1 = H at hP hS ⊢
  have hP := hP.sub (ws' := ((wX0 cy h q2 q3 q4 q5 q6 q7 q8 q9 c0 c1 c2 c3 c4 c5 c6 c7 c8 c9 c10 c11) ++ (wX1 cy g p2 p3 p6 p7 p10 d0 d1 d2 d3 d4 d5 d6 d7 d8 d9 d10))) [0, 1, 2, 3, 4, 5, 6, 7, 8, 9, 10, 11, 12, 13, 14] rfl
  have hD := hD.sub (ws' := ((wX0 cy h q2 q3 q4 q5 q6 q7 q8 q9 c0 c1 c2 c3 c4 c5 c6 c7 c8 c9 c10 c11) ++ (wX1 cy g p2 p3 p6 p7 p10 d0 d1 d2 d3 d4 d5 d6 d7 d8 d9 d10))) [0, 1, 2, 3, 4, 5, 6, 7, 8, 9, 10, 11, 12, 13, 14] (by decide) rfl
  refine lv_icmp_eq (tgt := 725) hx hb dL_law_720 (by decide) (fun c_9 => ?_) (fun c_9 => ?_)
  · exact hnext c0 c1 c2 c3 c4 c5 c6 c7 c8 c9 c10 c11 d0 d1 d2 d3 d4 d5 d6 d7 d8 d9 d10 hR2 _ _ _ hP hD hS hl
  · exact absurd he c_9

