theorem dL_law_731 : decode cL_law 731 = .ok (.iconst 1, 1) := by decide +kernel
theorem dL_law_732 : decode cL_law 732 = .ok (.ireturn, 1) := by decide +kernel
theorem z_sw22 {x : Int32} (h0 : ¬ x = 0) (h1 : ¬ x = 1) (h2 : ¬ x = 2) (h3 : ¬ x = 3) (h4 : ¬ x = 4) (h5 : ¬ x = 5) (h6 : ¬ x = 6) (h7 : ¬ x = 7) (h8 : ¬ x = 8) (h9 : ¬ x = 9) (h10 : ¬ x = 10) (h11 : ¬ x = 11) (h12 : ¬ x = 12) (h13 : ¬ x = 13) (h14 : ¬ x = 14) (h15 : ¬ x = 15) (h16 : ¬ x = 16) (h17 : ¬ x = 17) (h18 : ¬ x = 18) (h19 : ¬ x = 19) (h20 : ¬ x = 20) (h21 : ¬ x = 21) (h22 : ¬ x = 22) : x.toInt < 0 ∨ 22 < x.toInt := by
  by_cases c : x.toInt < 0
  · exact Or.inl c
  · refine Or.inr (Int.not_le.mp fun c2 => ?_)
    obtain ⟨j, hj, rfl⟩ := nI_of2 (x := x) (M := 22) (n := 22) rfl (by rw [Int32.lt_iff_toInt_lt]; exact c) (by rw [Int32.le_iff_toInt_le]; exact c2)
    rcases (show j = 0 ∨ j = 1 ∨ j = 2 ∨ j = 3 ∨ j = 4 ∨ j = 5 ∨ j = 6 ∨ j = 7 ∨ j = 8 ∨ j = 9 ∨ j = 10 ∨ j = 11 ∨ j = 12 ∨ j = 13 ∨ j = 14 ∨ j = 15 ∨ j = 16 ∨ j = 17 ∨ j = 18 ∨ j = 19 ∨ j = 20 ∨ j = 21 ∨ j = 22 by omega) with rfl | rfl | rfl | rfl | rfl | rfl | rfl | rfl | rfl | rfl | rfl | rfl | rfl | rfl | rfl | rfl | rfl | rfl | rfl | rfl | rfl | rfl | rfl
    · exact h0 rfl
    · exact h1 rfl
    · exact h2 rfl
    · exact h3 rfl
    · exact h4 rfl
    · exact h5 rfl
    · exact h6 rfl
    · exact h7 rfl
    · exact h8 rfl
    · exact h9 rfl
    · exact h10 rfl
    · exact h11 rfl
    · exact h12 rfl
    · exact h13 rfl
    · exact h14 rfl
    · exact h15 rfl
    · exact h16 rfl
    · exact h17 rfl
    · exact h18 rfl
    · exact h19 rfl
    · exact h20 rfl
    · exact h21 rfl
    · exact h22 rfl
set_option maxHeartbeats 4000000 in
set_option maxRecDepth 100000 in
theorem law_loop {p : Program} {l : Launch} {e : Env} {s : State} {m : MethodId} {below : List Frame} {meth : Method} {c : Code} {dC : Nat → ClassId} {dI : Nat → Nat → Nat} {b L : Nat} {xs : Nat → Int32} (hL : L ≤ 2048) (C0 : lw_At p s m meth c b L xs) {R : z_XS → z_MS → Prop} (hall : zo_all R) (cy : ClassId) (hK : va_K (dC, dI) vwCl [(cy, .int)] s) (h q2 q3 q4 q5 q6 q7 q8 q9 g p2 p3 p6 p7 p10 : Nat) : ∀ (n a : Nat), a ≤ L → L + 4 ≤ a + 4 * n → ∀ (c0 : Int32) (c1 : Int32) (c2 : Nat → Int32) (c3 : Nat → Int32) (c4 : Nat → Int32) (c5 : Nat → Int32) (c6 : Nat → Int32) (c7 : Nat → Int32) (c8 : Nat → Int32) (c9 : Nat → Int32) (c10 : Int32) (c11 : Int32) (d0 : Int32) (d1 : Int32) (d2 : Nat → Int32) (d3 : Nat → Int32) (d4 : Int32) (d5 : Int32) (d6 : Nat → Int32) (d7 : Nat → Int32) (d8 : Int32) (d9 : Int32) (d10 : Nat → Int32), R (c0, c1, c2, c3, c4, c5, c6, c7, c8, c9, c10, c11) (d0, d1, d2, d3, d4, d5, d6, d7, d8, d9, d10) → ∀ (H : Heap) (locs : List Loc) (ls : Array Slot), va_P (dC, dI) vwCl ((wX0 cy h q2 q3 q4 q5 q6 q7 q8 q9 c0 c1 c2 c3 c4 c5 c6 c7 c8 c9 c10 c11) ++ (wX1 cy g p2 p3 p6 p7 p10 d0 d1 d2 d3 d4 d5 d6 d7 d8 d9 d10)) H → va_D (fun q : Nat => s.heap.size ≤ q) ((wX0 cy h q2 q3 q4 q5 q6 q7 q8 q9 c0 c1 c2 c3 c4 c5 c6 c7 c8 c9 c10 c11) ++ (wX1 cy g p2 p3 p6 p7 p10 d0 d1 d2 d3 d4 d5 d6 d7 d8 d9 d10)) → va_S (fun q : Nat => s.heap.size ≤ q) s.heap H locs → lv_has ls 4 [(0, .ref b), (1, .ref h), (2, .ref g), (3, .int (nI a))] → W p l e room_1 s m #[Value.ref b] below meth c H locs 15 2911 (lw_Z below #[Value.ref b] s) (F0 m 18 ls []) := by
  have C1 := C0
  obtain ⟨hx, hb, hr, hml, hown, hts, hX, hbl, hlocks, hgv⟩ := C1
  have hbA : ¬ (fun q : Nat => s.heap.size ≤ q) b := Nat.not_le.mpr hbl
  obtain ⟨-, ho0, ho1, ho2, ho3, ho4, ho5, ho6, ho7, ho8, ho9, ho10, ho11, ho12, ho13, ho14, ho15, ho16, ho17, ho18, ho19, ho20, ho21, ho22⟩ := hall
  intro n
  induction n with
  | zero =>
    intro a h1 h2
    exact absurd h2 (by omega)
  | succ n ih =>
    intro a hal han c0 c1 c2 c3 c4 c5 c6 c7 c8 c9 c10 c11 d0 d1 d2 d3 d4 d5 d6 d7 d8 d9 d10 hR H locs ls hP hD hS hl
    refine lv_iload_n hx hb dL_law_18 rfl (lv_at hl 3 rfl) ?_
    refine lv_aload_n hx hb dL_law_19 rfl (lv_at hl 0 rfl) ?_
    refine va_slen hx hb hX hbl hbA hS dL_law_20 ?_
    refine lv_iconst (v := 4) hx hb dL_law_21 (by decide) ?_
    refine lv_isub hx hb dL_law_22 ?_
    have e4 : (Int32.ofNat L - 4 : Int32).toInt = (L : Int) - 4 := pk_sub_toInt (a := L) (b := 4) (by omega) (by omega)
    have ea : (nI a).toInt = (a : Int) := nI_toInt (by omega)
    refine lv_icmp_gt (tgt := 731) hx hb dL_law_23 (by decide) (fun c_23 => ?_) (fun c_23 => ?_)
    · refine lv_iconst (v := 1) hx hb dL_law_731 (by decide) ?_
      refine va_forget (fun q hq => hS.2.2 q hq) ?_
      refine W.widen (k := 600000) (n := 7302250) (Nat.le_of_ble_eq_true rfl) (Nat.le_of_ble_eq_true rfl) ?_
      exact lw_ret hx hb hr hlocks dL_law_732
    · have ha : a + 4 ≤ L := by
        rw [Int32.lt_iff_toInt_lt, e4, ea] at c_23
        omega
      have hi0 : vp_in (nI a) L := vp_in_nI (by omega) (by omega)
      have hnext : ∀ (c0 : Int32) (c1 : Int32) (c2 : Nat → Int32) (c3 : Nat → Int32) (c4 : Nat → Int32) (c5 : Nat → Int32) (c6 : Nat → Int32) (c7 : Nat → Int32) (c8 : Nat → Int32) (c9 : Nat → Int32) (c10 : Int32) (c11 : Int32) (d0 : Int32) (d1 : Int32) (d2 : Nat → Int32) (d3 : Nat → Int32) (d4 : Int32) (d5 : Int32) (d6 : Nat → Int32) (d7 : Nat → Int32) (d8 : Int32) (d9 : Int32) (d10 : Nat → Int32), R (c0, c1, c2, c3, c4, c5, c6, c7, c8, c9, c10, c11) (d0, d1, d2, d3, d4, d5, d6, d7, d8, d9, d10) → ∀ (H : Heap) (locs : List Loc) (ls : Array Slot), va_P (dC, dI) vwCl ((wX0 cy h q2 q3 q4 q5 q6 q7 q8 q9 c0 c1 c2 c3 c4 c5 c6 c7 c8 c9 c10 c11) ++ (wX1 cy g p2 p3 p6 p7 p10 d0 d1 d2 d3 d4 d5 d6 d7 d8 d9 d10)) H → va_D (fun q : Nat => s.heap.size ≤ q) ((wX0 cy h q2 q3 q4 q5 q6 q7 q8 q9 c0 c1 c2 c3 c4 c5 c6 c7 c8 c9 c10 c11) ++ (wX1 cy g p2 p3 p6 p7 p10 d0 d1 d2 d3 d4 d5 d6 d7 d8 d9 d10)) → va_S (fun q : Nat => s.heap.size ≤ q) s.heap H locs → lv_has ls 4 [(0, .ref b), (1, .ref h), (2, .ref g), (3, .int (nI a))] → W p l e room_1 s m #[Value.ref b] below meth c H locs 15 2911 (lw_Z below #[Value.ref b] s) (F0 m 725 ls []) := by
        clear hP hD hS hl hR
        intro c0 c1 c2 c3 c4 c5 c6 c7 c8 c9 c10 c11 d0 d1 d2 d3 d4 d5 d6 d7 d8 d9 d10 hR H locs ls hP hD hS hl
        refine lv_iinc (v := nI (a + 4)) (lv' := [(3, .int (nI (a + 4))), (0, .ref b), (1, .ref h), (2, .ref g)]) hx hb dL_law_725 hl (k := 3) rfl (nI_add a 4) (by decide) rfl (fun ls hl => ?_)
        refine lv_goto (tgt := 18) hx hb dL_law_728 (by decide) ?_
        exact ih (a + 4) (by omega) (by omega) c0 c1 c2 c3 c4 c5 c6 c7 c8 c9 c10 c11 d0 d1 d2 d3 d4 d5 d6 d7 d8 d9 d10 hR _ _ _ hP hD hS (lv_sub hl [1, 2, 3, 0] rfl)
      refine lv_aload_n hx hb dL_law_26 rfl (lv_at hl 0 rfl) ?_
      refine lv_iload_n hx hb dL_law_27 rfl (lv_at hl 3 rfl) ?_
      refine va_sld hx hb hX hbl hbA hS hi0 dL_law_28 ?_
      refine lv_bipush (v := 31) hx hb dL_law_29 (by decide) ?_
      refine lv_iand hx hb dL_law_31 ?_
      refine lv_topi (fun w ew => ?_)
      by_cases c_0 : w = 0
      · refine lv_tableIn (tgt := 140) hx hb dL_law_32 (by rw [c_0]; decide) (by rw [c_0]; decide) (by rw [c_0]; rfl) (by decide) ?_
        exact lk_ones hL C0 ho0 cy hK h q2 q3 q4 q5 q6 q7 q8 q9 g p2 p3 p6 p7 p10 a ha hnext c0 c1 c2 c3 c4 c5 c6 c7 c8 c9 c10 c11 d0 d1 d2 d3 d4 d5 d6 d7 d8 d9 d10 hR _ _ _ hP hD hS hl
      by_cases c_1 : w = 1
      · refine lv_tableIn (tgt := 163) hx hb dL_law_32 (by rw [c_1]; decide) (by rw [c_1]; decide) (by rw [c_1]; rfl) (by decide) ?_
        exact lk_may hL C0 ho1 cy hK h q2 q3 q4 q5 q6 q7 q8 q9 g p2 p3 p6 p7 p10 a ha hnext c0 c1 c2 c3 c4 c5 c6 c7 c8 c9 c10 c11 d0 d1 d2 d3 d4 d5 d6 d7 d8 d9 d10 hR _ _ _ hP hD hS hl
      by_cases c_2 : w = 2
      · refine lv_tableIn (tgt := 222) hx hb dL_law_32 (by rw [c_2]; decide) (by rw [c_2]; decide) (by rw [c_2]; rfl) (by decide) ?_
        exact lk_couple hL C0 ho2 cy hK h q2 q3 q4 q5 q6 q7 q8 q9 g p2 p3 p6 p7 p10 a ha hnext c0 c1 c2 c3 c4 c5 c6 c7 c8 c9 c10 c11 d0 d1 d2 d3 d4 d5 d6 d7 d8 d9 d10 hR _ _ _ hP hD hS hl
      by_cases c_3 : w = 3
      · refine lv_tableIn (tgt := 255) hx hb dL_law_32 (by rw [c_3]; decide) (by rw [c_3]; decide) (by rw [c_3]; rfl) (by decide) ?_
        exact lk_bar hL C0 ho3 cy hK h q2 q3 q4 q5 q6 q7 q8 q9 g p2 p3 p6 p7 p10 a ha hnext c0 c1 c2 c3 c4 c5 c6 c7 c8 c9 c10 c11 d0 d1 d2 d3 d4 d5 d6 d7 d8 d9 d10 hR _ _ _ hP hD hS hl
      by_cases c_4 : w = 4
      · refine lv_tableIn (tgt := 268) hx hb dL_law_32 (by rw [c_4]; decide) (by rw [c_4]; decide) (by rw [c_4]; rfl) (by decide) ?_
        exact lk_least hL C0 ho4 cy hK h q2 q3 q4 q5 q6 q7 q8 q9 g p2 p3 p6 p7 p10 a ha hnext c0 c1 c2 c3 c4 c5 c6 c7 c8 c9 c10 c11 d0 d1 d2 d3 d4 d5 d6 d7 d8 d9 d10 hR _ _ _ hP hD hS hl
      by_cases c_5 : w = 5
      · refine lv_tableIn (tgt := 291) hx hb dL_law_32 (by rw [c_5]; decide) (by rw [c_5]; decide) (by rw [c_5]; rfl) (by decide) ?_
        exact lk_ways hL C0 ho5 cy hK h q2 q3 q4 q5 q6 q7 q8 q9 g p2 p3 p6 p7 p10 a ha hnext c0 c1 c2 c3 c4 c5 c6 c7 c8 c9 c10 c11 d0 d1 d2 d3 d4 d5 d6 d7 d8 d9 d10 hR _ _ _ hP hD hS hl
      by_cases c_6 : w = 6
      · refine lv_tableIn (tgt := 304) hx hb dL_law_32 (by rw [c_6]; decide) (by rw [c_6]; decide) (by rw [c_6]; rfl) (by decide) ?_
        exact lk_free hL C0 ho6 cy hK h q2 q3 q4 q5 q6 q7 q8 q9 g p2 p3 p6 p7 p10 a ha hnext c0 c1 c2 c3 c4 c5 c6 c7 c8 c9 c10 c11 d0 d1 d2 d3 d4 d5 d6 d7 d8 d9 d10 hR _ _ _ hP hD hS hl
      by_cases c_7 : w = 7
      · refine lv_tableIn (tgt := 317) hx hb dL_law_32 (by rw [c_7]; decide) (by rw [c_7]; decide) (by rw [c_7]; rfl) (by decide) ?_
        exact lk_way hL C0 ho7 cy hK h q2 q3 q4 q5 q6 q7 q8 q9 g p2 p3 p6 p7 p10 a ha hnext c0 c1 c2 c3 c4 c5 c6 c7 c8 c9 c10 c11 d0 d1 d2 d3 d4 d5 d6 d7 d8 d9 d10 hR _ _ _ hP hD hS hl
      by_cases c_8 : w = 8
      · refine lv_tableIn (tgt := 350) hx hb dL_law_32 (by rw [c_8]; decide) (by rw [c_8]; decide) (by rw [c_8]; rfl) (by decide) ?_
        exact lk_rounds hL C0 ho8 cy hK h q2 q3 q4 q5 q6 q7 q8 q9 g p2 p3 p6 p7 p10 a ha hnext c0 c1 c2 c3 c4 c5 c6 c7 c8 c9 c10 c11 d0 d1 d2 d3 d4 d5 d6 d7 d8 d9 d10 hR _ _ _ hP hD hS hl
      by_cases c_9 : w = 9
      · refine lv_tableIn (tgt := 373) hx hb dL_law_32 (by rw [c_9]; decide) (by rw [c_9]; decide) (by rw [c_9]; rfl) (by decide) ?_
        exact lk_both hL C0 ho9 cy hK h q2 q3 q4 q5 q6 q7 q8 q9 g p2 p3 p6 p7 p10 a ha hnext c0 c1 c2 c3 c4 c5 c6 c7 c8 c9 c10 c11 d0 d1 d2 d3 d4 d5 d6 d7 d8 d9 d10 hR _ _ _ hP hD hS hl
      by_cases c_10 : w = 10
      · refine lv_tableIn (tgt := 406) hx hb dL_law_32 (by rw [c_10]; decide) (by rw [c_10]; decide) (by rw [c_10]; rfl) (by decide) ?_
        exact lk_rooks hL C0 ho10 cy hK h q2 q3 q4 q5 q6 q7 q8 q9 g p2 p3 p6 p7 p10 a ha hnext c0 c1 c2 c3 c4 c5 c6 c7 c8 c9 c10 c11 d0 d1 d2 d3 d4 d5 d6 d7 d8 d9 d10 hR _ _ _ hP hD hS hl
      by_cases c_11 : w = 11
      · refine lv_tableIn (tgt := 429) hx hb dL_law_32 (by rw [c_11]; decide) (by rw [c_11]; decide) (by rw [c_11]; rfl) (by decide) ?_
        exact lk_heap hL C0 ho11 cy hK h q2 q3 q4 q5 q6 q7 q8 q9 g p2 p3 p6 p7 p10 a ha hnext c0 c1 c2 c3 c4 c5 c6 c7 c8 c9 c10 c11 d0 d1 d2 d3 d4 d5 d6 d7 d8 d9 d10 hR _ _ _ hP hD hS hl
      by_cases c_12 : w = 12
      · refine lv_tableIn (tgt := 442) hx hb dL_law_32 (by rw [c_12]; decide) (by rw [c_12]; decide) (by rw [c_12]; rfl) (by decide) ?_
        exact lk_lay hL C0 ho12 cy hK h q2 q3 q4 q5 q6 q7 q8 q9 g p2 p3 p6 p7 p10 a ha hnext c0 c1 c2 c3 c4 c5 c6 c7 c8 c9 c10 c11 d0 d1 d2 d3 d4 d5 d6 d7 d8 d9 d10 hR _ _ _ hP hD hS hl
      by_cases c_13 : w = 13
      · refine lv_tableIn (tgt := 475) hx hb dL_law_32 (by rw [c_13]; decide) (by rw [c_13]; decide) (by rw [c_13]; rfl) (by decide) ?_
        exact lk_laid hL C0 ho13 cy hK h q2 q3 q4 q5 q6 q7 q8 q9 g p2 p3 p6 p7 p10 a ha hnext c0 c1 c2 c3 c4 c5 c6 c7 c8 c9 c10 c11 d0 d1 d2 d3 d4 d5 d6 d7 d8 d9 d10 hR _ _ _ hP hD hS hl
      by_cases c_14 : w = 14
      · refine lv_tableIn (tgt := 498) hx hb dL_law_32 (by rw [c_14]; decide) (by rw [c_14]; decide) (by rw [c_14]; rfl) (by decide) ?_
        exact lk_draw hL C0 ho14 cy hK h q2 q3 q4 q5 q6 q7 q8 q9 g p2 p3 p6 p7 p10 a ha hnext c0 c1 c2 c3 c4 c5 c6 c7 c8 c9 c10 c11 d0 d1 d2 d3 d4 d5 d6 d7 d8 d9 d10 hR _ _ _ hP hD hS hl
      by_cases c_15 : w = 15
      · refine lv_tableIn (tgt := 521) hx hb dL_law_32 (by rw [c_15]; decide) (by rw [c_15]; decide) (by rw [c_15]; rfl) (by decide) ?_
        exact lk_rank hL C0 ho15 cy hK h q2 q3 q4 q5 q6 q7 q8 q9 g p2 p3 p6 p7 p10 a ha hnext c0 c1 c2 c3 c4 c5 c6 c7 c8 c9 c10 c11 d0 d1 d2 d3 d4 d5 d6 d7 d8 d9 d10 hR _ _ _ hP hD hS hl
      by_cases c_16 : w = 16
      · refine lv_tableIn (tgt := 534) hx hb dL_law_32 (by rw [c_16]; decide) (by rw [c_16]; decide) (by rw [c_16]; rfl) (by decide) ?_
        exact lk_share hL C0 ho16 cy hK h q2 q3 q4 q5 q6 q7 q8 q9 g p2 p3 p6 p7 p10 a ha hnext c0 c1 c2 c3 c4 c5 c6 c7 c8 c9 c10 c11 d0 d1 d2 d3 d4 d5 d6 d7 d8 d9 d10 hR _ _ _ hP hD hS hl
      by_cases c_17 : w = 17
      · refine lv_tableIn (tgt := 567) hx hb dL_law_32 (by rw [c_17]; decide) (by rw [c_17]; decide) (by rw [c_17]; rfl) (by decide) ?_
        exact lk_knows hL C0 ho17 cy hK h q2 q3 q4 q5 q6 q7 q8 q9 g p2 p3 p6 p7 p10 a ha hnext c0 c1 c2 c3 c4 c5 c6 c7 c8 c9 c10 c11 d0 d1 d2 d3 d4 d5 d6 d7 d8 d9 d10 hR _ _ _ hP hD hS hl
      by_cases c_18 : w = 18
      · refine lv_tableIn (tgt := 590) hx hb dL_law_32 (by rw [c_18]; decide) (by rw [c_18]; decide) (by rw [c_18]; rfl) (by decide) ?_
        exact lk_sure hL C0 ho18 cy hK h q2 q3 q4 q5 q6 q7 q8 q9 g p2 p3 p6 p7 p10 a ha hnext c0 c1 c2 c3 c4 c5 c6 c7 c8 c9 c10 c11 d0 d1 d2 d3 d4 d5 d6 d7 d8 d9 d10 hR _ _ _ hP hD hS hl
      by_cases c_19 : w = 19
      · refine lv_tableIn (tgt := 623) hx hb dL_law_32 (by rw [c_19]; decide) (by rw [c_19]; decide) (by rw [c_19]; rfl) (by decide) ?_
        exact lk_changes hL C0 ho19 cy hK h q2 q3 q4 q5 q6 q7 q8 q9 g p2 p3 p6 p7 p10 a ha hnext c0 c1 c2 c3 c4 c5 c6 c7 c8 c9 c10 c11 d0 d1 d2 d3 d4 d5 d6 d7 d8 d9 d10 hR _ _ _ hP hD hS hl
      by_cases c_20 : w = 20
      · refine lv_tableIn (tgt := 646) hx hb dL_law_32 (by rw [c_20]; decide) (by rw [c_20]; decide) (by rw [c_20]; rfl) (by decide) ?_
        exact lk_mends hL C0 ho20 cy hK h q2 q3 q4 q5 q6 q7 q8 q9 g p2 p3 p6 p7 p10 a ha hnext c0 c1 c2 c3 c4 c5 c6 c7 c8 c9 c10 c11 d0 d1 d2 d3 d4 d5 d6 d7 d8 d9 d10 hR _ _ _ hP hD hS hl
      by_cases c_21 : w = 21
      · refine lv_tableIn (tgt := 669) hx hb dL_law_32 (by rw [c_21]; decide) (by rw [c_21]; decide) (by rw [c_21]; rfl) (by decide) ?_
        exact lk_mend hL C0 ho21 cy hK h q2 q3 q4 q5 q6 q7 q8 q9 g p2 p3 p6 p7 p10 a ha hnext c0 c1 c2 c3 c4 c5 c6 c7 c8 c9 c10 c11 d0 d1 d2 d3 d4 d5 d6 d7 d8 d9 d10 hR _ _ _ hP hD hS hl
      by_cases c_22 : w = 22
      · refine lv_tableIn (tgt := 702) hx hb dL_law_32 (by rw [c_22]; decide) (by rw [c_22]; decide) (by rw [c_22]; rfl) (by decide) ?_
        exact lk_told hL C0 ho22 cy hK h q2 q3 q4 q5 q6 q7 q8 q9 g p2 p3 p6 p7 p10 a ha hnext c0 c1 c2 c3 c4 c5 c6 c7 c8 c9 c10 c11 d0 d1 d2 d3 d4 d5 d6 d7 d8 d9 d10 hR _ _ _ hP hD hS hl
      refine lv_tableOut (tgt := 725) hx hb dL_law_32 (z_sw22 c_0 c_1 c_2 c_3 c_4 c_5 c_6 c_7 c_8 c_9 c_10 c_11 c_12 c_13 c_14 c_15 c_16 c_17 c_18 c_19 c_20 c_21 c_22) (by decide) ?_
      exact hnext c0 c1 c2 c3 c4 c5 c6 c7 c8 c9 c10 c11 d0 d1 d2 d3 d4 d5 d6 d7 d8 d9 d10 hR _ _ _ hP hD hS hl
set_option maxHeartbeats 4000000 in
set_option maxRecDepth 100000 in
theorem law_start {p : Program} {e : Env} {s : State} {m : MethodId} {below : List Frame} {meth : Method} {c : Code} (l : Launch) {b L : Nat} {xs : Nat → Int32} (hL : L ≤ 2048) (C0 : lw_At p s m meth c b L xs) {R : z_XS → z_MS → Prop} (hall : zo_all R) : W p l e room_1 s m #[Value.ref b] below meth c s.heap [] 0 0 (lw_Z below #[Value.ref b] s) (entryFrame m ([Value.ref b] : List Value).toArray 4) := by
  have C1 := C0
  obtain ⟨hx, hb, hr, hml, hown, hts, hX, hbl, hlocks, hgv⟩ := C1
  have hown : s.vm.findClass RL = some m.cls := hown
  have hts := fun w h => hts w (wsL_law_in w h)
  obtain ⟨N1, r1, N2, r2, hf1, hf2, hR⟩ := hall.1
  have hA : ∀ q : Nat, s.heap.size ≤ q → (fun q : Nat => s.heap.size ≤ q) q := fun _ h => h
  have hbA : ¬ (fun q : Nat => s.heap.size ≤ q) b := Nat.not_le.mpr hbl
  obtain ⟨i0, iS0, hKn0⟩ := u_known (C := RX0) (T := TX0) (N := 12) (n := 12) hts inlX0 (hts (.instantiable RX0 12) (by decide +kernel))
  obtain ⟨i1, iS1, hKn1⟩ := u_known (C := RX1) (T := TX1) (N := 11) (n := 11) hts inlX1 (hts (.instantiable RX1 11) (by decide +kernel))
  obtain ⟨dC, dI, hKc⟩ : ∃ (dC : Nat → ClassId) (dI : Nat → Nat → Nat), ∀ (k : Nat) (q : vw_C), vwCl[k]? = some q → u_Kn s q.1 q.2.1 q.2.2 (dC k) (dI k) := by
    refine ⟨fun k => if k = 0 then i0 else i1, fun k => if k = 0 then iS0 else iS1, ?_⟩
    intro k q hq
    match k, hq with
    | 0, hq => cases hq; exact hKn0
    | 1, hq => cases hq; exact hKn1
    | k + 2, hq => simp [vwCl] at hq
  have hS : va_S (fun q : Nat => s.heap.size ≤ q) s.heap s.heap [] := va_S.rf
  have hK : va_K (dC, dI) vwCl [] s := ⟨hKc, fun k q h => by simp at h⟩
  have hP : va_P (dC, dI) vwCl [] s.heap := fun k q h => by simp at h
  have hD : va_D (fun q : Nat => s.heap.size ≤ q) [] := ⟨fun i j p q h => by simp at h, fun k q h => by simp at h⟩
  have hl := lv_entry ([.ref b]) (n := 4) (Nat.le_of_ble_eq_true rfl)
  rw [lg_entry_eq]
  generalize (lg_sl ([.ref b]) ++ List.replicate (4 - (lg_sl ([.ref b])).length) Slot.unset).toArray = ls at hl ⊢
  have hl : lv_has ls 4 [(0, .ref b)] := hl
  refine va_new (ci := 0) (fs := [.int 0, .int 0, .null, .null, .null, .null, .null, .null, .null, .null, .int 0, .int 0]) (C := RX0) (T := TX0) (N := 12) hx hb hts inlX0 tyX0 tyX0_ok hown (hts (.classLink RL 7 RX0) (by decide +kernel)) (hts (.instantiable RX0 12) (by decide +kernel)) (hts (.initialized RX0) (by decide +kernel)) hK hP hD hS hA rfl (fun j hj => by rcases (show j = 0 ∨ j = 1 ∨ j = 2 ∨ j = 3 ∨ j = 4 ∨ j = 5 ∨ j = 6 ∨ j = 7 ∨ j = 8 ∨ j = 9 ∨ j = 10 ∨ j = 11 by omega) with rfl | rfl | rfl | rfl | rfl | rfl | rfl | rfl | rfl | rfl | rfl | rfl <;> rfl) (Nat.le_of_ble_eq_true rfl) (Nat.le_of_ble_eq_true rfl) dL_law_0 (fun h H hP hD hS => ?_)
  have hP : va_P (dC, dI) vwCl [(h, .inr (0, [.int 0, .int 0, .null, .null, .null, .null, .null, .null, .null, .null, .int 0, .int 0]))] H := hP
  have hD : va_D (fun q : Nat => s.heap.size ≤ q) [(h, .inr (0, [.int 0, .int 0, .null, .null, .null, .null, .null, .null, .null, .null, .int 0, .int 0]))] := hD
  refine lv_dup hx hb dL_law_3 rfl ?_
  have hPc := hP.sub (ws' := [(h, .inr (0, [.int 0, .int 0, .null, .null, .null, .null, .null, .null, .null, .null, .int 0, .int 0]))]) [0] rfl
  have hDc := hD.sub (ws' := [(h, .inr (0, [.int 0, .int 0, .null, .null, .null, .null, .null, .null, .null, .null, .int 0, .int 0]))]) [0] (by decide) rfl
  have hKc := hK.sub (tys' := []) [] rfl
  have hFc := va_free (wc := [(h, .inr (0, [.int 0, .int 0, .null, .null, .null, .null, .null, .null, .null, .null, .int 0, .int 0]))]) hD hS hA [0] rfl
  refine va_callv (va_runI (As := []) (rest := [.ref h]) ⟨hx, hb, hml, hown, hts⟩ (c_X0_init N1 l dC dI h H.size r1 hf1) (cwI 0 hts gL_law_X0_init rfl rfl rfl (hts (.initialized RX0) (by decide +kernel)) (hts (.methodLink RL 9 yX0_init) (by decide +kernel)) (hts (.instanceMethod yX0_init) (by decide +kernel)) rfl (by decide +kernel) ⟨Nat.le_of_ble_eq_true rfl, Nat.le_of_ble_eq_true rfl⟩) ⟨fun a U g mk q => by obtain ⟨q0, q1, qP, qK, qD⟩ := q; exact ⟨q0, q1, qP, va_K.moved (u := U) (U := U.calling g mk a) (Vm.Alike.refl U.vm) qK, qD⟩, fun U hU hW => ⟨rfl, by rw [hU], by rw [hU]; exact hPc, va_K.moved hW.alike hKc, hDc.weaken (fun _ _ _ _ => trivial)⟩⟩ rfl rfl hl.1 rfl (lv_room (Nat.le_of_ble_eq_true rfl)) dL_law_4 ⟨Nat.le_of_ble_eq_true rfl, Nat.le_of_ble_eq_true rfl⟩) hS (fun q _ h => hFc q h) hFc (fun uu_ t H1 locs ht hvm hw hB hz1 hk1 hS => ?_)
  obtain ⟨cy, q2, q3, q4, q5, q6, q7, q8, q9, hP1, hK1, hD1⟩ := hB
  rw [ht] at hP1
  have hK1 := va_K.moved hvm.symm hK1
  obtain ⟨hP, hD⟩ := va_join (wr := []) (w1 := (wX0 cy h q2 q3 q4 q5 q6 q7 q8 q9 r1.1 r1.2.1 r1.2.2.1 r1.2.2.2 (fun _ => 0) (fun _ => 0) (fun _ => 0) (fun _ => 0) (fun _ => 0) (fun _ => 0) 0 0)) hP hD [0] [] rfl rfl (by decide) (by decide) hk1 hFc hP1 hD1
  clear hk1 hz1 hP1 hD1 ht hPc hDc hFc
  generalize H1 = H at hP hS ⊢
  have hP : va_P (dC, dI) vwCl (wX0 cy h q2 q3 q4 q5 q6 q7 q8 q9 r1.1 r1.2.1 r1.2.2.1 r1.2.2.2 (fun _ => 0) (fun _ => 0) (fun _ => 0) (fun _ => 0) (fun _ => 0) (fun _ => 0) 0 0) H := hP
  have hD : va_D (fun q : Nat => s.heap.size ≤ q) (wX0 cy h q2 q3 q4 q5 q6 q7 q8 q9 r1.1 r1.2.1 r1.2.2.1 r1.2.2.2 (fun _ => 0) (fun _ => 0) (fun _ => 0) (fun _ => 0) (fun _ => 0) (fun _ => 0) 0 0) := hD
  have hK : va_K (dC, dI) vwCl [(cy, .int)] s := hK1
  refine lv_astore_n (lv' := [(1, .ref h), (0, .ref b)]) hx hb dL_law_7 rfl hl (by decide) rfl (fun ls hl => ?_)
  refine va_new (ci := 1) (fs := [.int 0, .int 0, .null, .null, .int 0, .int 0, .null, .null, .int 0, .int 0, .null]) (C := RX1) (T := TX1) (N := 11) hx hb hts inlX1 tyX1 tyX1_ok hown (hts (.classLink RL 10 RX1) (by decide +kernel)) (hts (.instantiable RX1 11) (by decide +kernel)) (hts (.initialized RX1) (by decide +kernel)) hK hP hD hS hA rfl (fun j hj => by rcases (show j = 0 ∨ j = 1 ∨ j = 2 ∨ j = 3 ∨ j = 4 ∨ j = 5 ∨ j = 6 ∨ j = 7 ∨ j = 8 ∨ j = 9 ∨ j = 10 by omega) with rfl | rfl | rfl | rfl | rfl | rfl | rfl | rfl | rfl | rfl | rfl <;> rfl) (Nat.le_of_ble_eq_true rfl) (Nat.le_of_ble_eq_true rfl) dL_law_8 (fun g H hP hD hS => ?_)
  have hP : va_P (dC, dI) vwCl ((wX0 cy h q2 q3 q4 q5 q6 q7 q8 q9 r1.1 r1.2.1 r1.2.2.1 r1.2.2.2 (fun _ => 0) (fun _ => 0) (fun _ => 0) (fun _ => 0) (fun _ => 0) (fun _ => 0) 0 0) ++ [(g, .inr (1, [.int 0, .int 0, .null, .null, .int 0, .int 0, .null, .null, .int 0, .int 0, .null]))]) H := hP
  have hD : va_D (fun q : Nat => s.heap.size ≤ q) ((wX0 cy h q2 q3 q4 q5 q6 q7 q8 q9 r1.1 r1.2.1 r1.2.2.1 r1.2.2.2 (fun _ => 0) (fun _ => 0) (fun _ => 0) (fun _ => 0) (fun _ => 0) (fun _ => 0) 0 0) ++ [(g, .inr (1, [.int 0, .int 0, .null, .null, .int 0, .int 0, .null, .null, .int 0, .int 0, .null]))]) := hD
  refine lv_dup hx hb dL_law_11 rfl ?_
  have hPc := hP.sub (ws' := [(g, .inr (1, [.int 0, .int 0, .null, .null, .int 0, .int 0, .null, .null, .int 0, .int 0, .null]))]) [9] rfl
  have hDc := hD.sub (ws' := [(g, .inr (1, [.int 0, .int 0, .null, .null, .int 0, .int 0, .null, .null, .int 0, .int 0, .null]))]) [9] (by decide) rfl
  have hKc := hK.sub (tys' := []) [] rfl
  have hFc := va_free (wc := [(g, .inr (1, [.int 0, .int 0, .null, .null, .int 0, .int 0, .null, .null, .int 0, .int 0, .null]))]) hD hS hA [9] rfl
  refine va_callv (va_runI (As := []) (rest := [.ref g]) ⟨hx, hb, hml, hown, hts⟩ (c_X1_init N2 l dC dI g H.size r2 hf2) (cwI 0 hts gL_law_X1_init rfl rfl rfl (hts (.initialized RX1) (by decide +kernel)) (hts (.methodLink RL 12 yX1_init) (by decide +kernel)) (hts (.instanceMethod yX1_init) (by decide +kernel)) rfl (by decide +kernel) ⟨Nat.le_of_ble_eq_true rfl, Nat.le_of_ble_eq_true rfl⟩) ⟨fun a U g mk q => by obtain ⟨q0, q1, qP, qK, qD⟩ := q; exact ⟨q0, q1, qP, va_K.moved (u := U) (U := U.calling g mk a) (Vm.Alike.refl U.vm) qK, qD⟩, fun U hU hW => ⟨rfl, by rw [hU], by rw [hU]; exact hPc, va_K.moved hW.alike hKc, hDc.weaken (fun _ _ _ _ => trivial)⟩⟩ rfl rfl hl.1 rfl (lv_room (Nat.le_of_ble_eq_true rfl)) dL_law_12 ⟨Nat.le_of_ble_eq_true rfl, Nat.le_of_ble_eq_true rfl⟩) hS (fun q _ h => hFc q h) hFc (fun uu_ t H1 locs ht hvm hw hB hz1 hk1 hS => ?_)
  obtain ⟨cy2, p2, p3, p6, p7, p10, hP1, hK1, hD1⟩ := hB
  rw [ht] at hP1
  have hK1 := va_K.moved hvm.symm hK1
  obtain rfl : cy = cy2 := by
    have e1 : s.vm.findClass ("[" ++ FieldType.int.toString) = some cy := (hK.2 0 _ rfl).2
    have e2 : s.vm.findClass ("[" ++ FieldType.int.toString) = some cy2 := (hK1.2 0 _ rfl).2
    exact Option.some.inj (e1.symm.trans e2)
  obtain ⟨hP, hD⟩ := va_join (wr := (wX0 cy h q2 q3 q4 q5 q6 q7 q8 q9 r1.1 r1.2.1 r1.2.2.1 r1.2.2.2 (fun _ => 0) (fun _ => 0) (fun _ => 0) (fun _ => 0) (fun _ => 0) (fun _ => 0) 0 0)) (w1 := (wX1 cy g p2 p3 p6 p7 p10 4 r2.1 r2.2.1 r2.2.2 0 0 (fun _ => 0) (fun _ => 0) 0 0 (fun _ => 0))) hP hD [9] [0, 1, 2, 3, 4, 5, 6, 7, 8] rfl rfl (by decide) (by decide) hk1 hFc hP1 hD1
  clear hk1 hz1 hP1 hD1 ht hPc hDc hFc
  generalize H1 = H at hP hS ⊢
  have hP : va_P (dC, dI) vwCl ((wX0 cy h q2 q3 q4 q5 q6 q7 q8 q9 r1.1 r1.2.1 r1.2.2.1 r1.2.2.2 (fun _ => 0) (fun _ => 0) (fun _ => 0) (fun _ => 0) (fun _ => 0) (fun _ => 0) 0 0) ++ (wX1 cy g p2 p3 p6 p7 p10 4 r2.1 r2.2.1 r2.2.2 0 0 (fun _ => 0) (fun _ => 0) 0 0 (fun _ => 0))) H := hP
  have hD : va_D (fun q : Nat => s.heap.size ≤ q) ((wX0 cy h q2 q3 q4 q5 q6 q7 q8 q9 r1.1 r1.2.1 r1.2.2.1 r1.2.2.2 (fun _ => 0) (fun _ => 0) (fun _ => 0) (fun _ => 0) (fun _ => 0) (fun _ => 0) 0 0) ++ (wX1 cy g p2 p3 p6 p7 p10 4 r2.1 r2.2.1 r2.2.2 0 0 (fun _ => 0) (fun _ => 0) 0 0 (fun _ => 0))) := hD
  refine lv_astore_n (lv' := [(2, .ref g), (1, .ref h), (0, .ref b)]) hx hb dL_law_15 rfl hl (by decide) rfl (fun ls hl => ?_)
  refine lv_iconst (v := 0) hx hb dL_law_16 (by decide) ?_
  refine lv_istore_n (lv' := [(3, .int 0), (2, .ref g), (1, .ref h), (0, .ref b)]) hx hb dL_law_17 rfl hl (by decide) rfl (fun ls hl => ?_)
  exact law_loop hL C0 hall cy hK h q2 q3 q4 q5 q6 q7 q8 q9 g p2 p3 p6 p7 p10 (L + 1) 0 (Nat.zero_le L) (by omega) r1.1 r1.2.1 r1.2.2.1 r1.2.2.2 (fun _ => 0) (fun _ => 0) (fun _ => 0) (fun _ => 0) (fun _ => 0) (fun _ => 0) 0 0 4 r2.1 r2.2.1 r2.2.2 0 0 (fun _ => 0) (fun _ => 0) 0 0 (fun _ => 0) hR _ _ _ hP hD hS (lv_sub hl [3, 2, 1, 0] rfl)
