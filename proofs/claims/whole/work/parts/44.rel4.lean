/-- one falls out: what both searches find -/
theorem xy_mends {n L x : Nat} {b w : Nat → Nat} {c2 c3 d2 d3 : Nat → Int32} (hI : zI n L b w) (hb : ∀ i, i < n → c2 i = nI (b i)) (hb' : ∀ i, i < n → d2 i = nI (b i)) (hw : ∀ i, i < n → c3 i = hv (w i)) (hw' : ∀ i, i < n → d3 i = hv (w i)) (hx : x < n) (hall : ∀ j, j < n → w j < 8) (c8 c9 : Nat → Int32) (c10 c11 : Int32) (d4 d5 : Int32) (d6 : Nat → Int32) (d10 : Nat → Int32) : ∃ (s : zSt) (c8' c9' : Nat → Int32) (c10' c11' : Int32) (d4' d5' : Int32) (d6' : Nat → Int32) (d8' d9' : Int32) (d10' : Nat → Int32), zpX n x s c9' c10' c11' ∧ zpM n s d8' d9' d10' ∧ (∀ q c h, s = some (q, c, h) → c < 2 ^ 31 ∧ ∀ i, i < n → i ≠ x → h i < 8) ∧ Yd (fun N => f_X0_findMends N (nI x) (nI n) (nI L) c2 c3 c8 c9 c10 c11) (c8', c9', c10', c11') ∧ Yd (fun N => Option.bind (f_X1_all N (nI n)) (fun u34 => Option.bind (f_X1_start N (u34 &&& (((1 : Int32) <<< (nI x &&& 31)) ^^^ (-1 : Int32))) (0 : Int32) d4 d5 d6) (fun u44 => f_X1_mendAll_b47 N (nI n) (nI L) d2 d3 N (nI x) u44.1 u44.2.1 u44.2.2 (-6 : Int32) (0 : Int32) d10))) (0, d4', d5', d6', d8', d9', d10') := by
  obtain ⟨h2, hn, hL, hL8, _, _⟩ := id hI
  have h0 : 0 < n := by omega
  have h2n := z_2p hn
  have hx8 : x < 8 := by omega
  have h255 : ∀ y, y < 8 → (255 : Nat).testBit y = true := by decide +kernel
  have hm : ∀ i, i < n → (((2 ^ n - 1) &&& (255 ^^^ 2 ^ x)).testBit i = true ↔ i ≠ x) := fun i hi => by
    rw [Nat.testBit_and, Nat.testBit_two_pow_sub_one, Nat.testBit_xor, h255 i (by omega), Nat.testBit_two_pow, decide_eq_true hi, Bool.true_and]
    by_cases e : x = i
    · simp [e]
    · simp [e, Ne.symm e]
  have hm8 : (2 ^ n - 1) &&& (255 ^^^ 2 ^ x) < 256 := Nat.lt_of_le_of_lt Nat.and_le_left (z_all_lt hn)
  have hne : zD n ((2 ^ n - 1) &&& (255 ^^^ 2 ^ x)) ≠ [] := fun e => by
    have key : ∀ y, y < n → y ≠ x → False := fun y h1 h3 => by
      have h4 : y ∈ zD n ((2 ^ n - 1) &&& (255 ^^^ 2 ^ x)) := zD_mem.mpr ⟨h1, (hm y h1).mpr h3⟩
      rw [e] at h4
      cases h4
    by_cases e0 : x = 0
    · exact key 1 (by omega) (by omega)
    · exact key 0 (by omega) (by omega)
  obtain ⟨c8', c9', c10', c11', q1, q2⟩ := x_findMends (L := L) h0 hn hL8 hx hm (z_row_b hI hb) (fun j hj => ⟨hw j hj, hall j hj⟩) c8 c9 c10 c11
  obtain ⟨d61, p1, p2⟩ := y_go (L := L) (bd := b) h0 hn hm8 hL8 (z_row_b hI hb') hne d4 d5 d6
  obtain ⟨d6', d8', d9', d10', p3, p4⟩ := y_mend_loop (c2 := d2) (x := x) hn hx (z_row_w hI hw') (zY n ((2 ^ n - 1) &&& (255 ^^^ 2 ^ x)) L b) none d61 (-6) 0 d10 (fun f hf j => zY_8 hn hf j) p2 ⟨rfl, rfl⟩
  refine ⟨zfo (zch w x n) (zY n ((2 ^ n - 1) &&& (255 ^^^ 2 ^ x)) L b) none, c8', c9', c10', c11', nI ((2 ^ n - 1) &&& (255 ^^^ 2 ^ x)), 0, d6', d8', d9', d10', q1, p3, fun q c h e => ⟨?_, ?_⟩, q2, ?_⟩
  · have h1 := zfo_cn (zch w x n) (zY n ((2 ^ n - 1) &&& (255 ^^^ 2 ^ x)) L b) none
    rw [e] at h1
    have h3 : c ≤ 0 + (zY n ((2 ^ n - 1) &&& (255 ^^^ 2 ^ x)) L b).length := h1
    have h4 : (zY n ((2 ^ n - 1) &&& (255 ^^^ 2 ^ x)) L b).length ≤ (zW n (fun y => b y &&& ((2 ^ n - 1) &&& (255 ^^^ 2 ^ x))) (zD n ((2 ^ n - 1) &&& (255 ^^^ 2 ^ x))) z8).length := List.length_filter_le _ _
    have h5 := zW_length n (fun y => b y &&& ((2 ^ n - 1) &&& (255 ^^^ 2 ^ x))) (zD n ((2 ^ n - 1) &&& (255 ^^^ 2 ^ x))) z8
    have h6 : (zD n ((2 ^ n - 1) &&& (255 ^^^ 2 ^ x))).length ≤ n := by
      have := List.length_filter_le (fun i => ((2 ^ n - 1) &&& (255 ^^^ 2 ^ x)).testBit i) (List.range n)
      rw [List.length_range] at this
      exact this
    have h7 : n ^ (zD n ((2 ^ n - 1) &&& (255 ^^^ 2 ^ x))).length ≤ 8 ^ 8 := Nat.le_trans (Nat.pow_le_pow_left hn _) (Nat.pow_le_pow_right (by decide) (by omega))
    have h8 : 8 ^ 8 < 2 ^ 31 := by decide
    omega
  · refine zfo_mem (zch w x n) (fun h => ∀ i, i < n → i ≠ x → h i < 8) (zY n ((2 ^ n - 1) &&& (255 ^^^ 2 ^ x)) L b) none (fun f hf i hi hix => ?_) (fun _ _ _ e => by cases e) q c h e
    have h1 := (zW_mem n _ (zD n ((2 ^ n - 1) &&& (255 ^^^ 2 ^ x))) z8 (zD_nodup n _) (fun y hy => (zD_mem.mp hy).1) (fun _ _ => hn) f).mp (List.mem_filter.mp hf).1
    have h3 := (h1.2.1 i (zD_mem.mpr ⟨hi, (hm i hi).mpr hix⟩)).1
    omega
  · have hs : (1 : Int32) <<< (nI x &&& 31) = nI (2 ^ x) := z_shl x hx8
    simp only [y_all _ hn, z_bs, hs, z_not (z_all_lt hn) (z_2p8 hx8)]
    exact Yd.bind p1 p4.diag
/-- MENDALL, whole -/
theorem xy_mendAll {n L x : Nat} {b w : Nat → Nat} {c2 c3 d2 d3 : Nat → Int32} (hI : zI n L b w) (hb : ∀ i, i < n → c2 i = nI (b i)) (hb' : ∀ i, i < n → d2 i = nI (b i)) (hw : ∀ i, i < n → c3 i = hv (w i)) (hw' : ∀ i, i < n → d3 i = hv (w i)) (hx : x < n) (c4 c5 c6 c7 c8 c9 : Nat → Int32) (c10 c11 : Int32) (d4 d5 : Int32) (d6 : Nat → Int32) (d8 d9 : Int32) (d10 : Nat → Int32) : ∃ (c4' c5' c6' c7' : Nat → Int32) (d4' d5' : Int32) (d6' : Nat → Int32) (d8' d9' : Int32) (d10' : Nat → Int32), (∃ r : Int32, ¬ r = 0 ∧ ¬ 0 ≤ r ∧ Yd (fun N => f_X0_refuseHand N (nI n) (nI L) c2 c3 c4 c5 c6 c7) (r, c4', c5', c6', c7') ∧ Yd (fun N => f_X1_mendAll N (nI x) (nI n) (nI L) d2 d3 d4 d5 d6 d8 d9 d10) (r, d4', d5', d6', d8', d9', d10')) ∨ (∃ (s : zSt) (c8' c9' : Nat → Int32) (c10' c11' : Int32), zpX n x s c9' c10' c11' ∧ zpM n s d8' d9' d10' ∧ (∀ q c h, s = some (q, c, h) → c < 2 ^ 31 ∧ ∀ i, i < n → i ≠ x → h i < 8) ∧ Yd (fun N => f_X0_refuseHand N (nI n) (nI L) c2 c3 c4 c5 c6 c7) (0, c4', c5', c6', c7') ∧ Yd (fun N => f_X0_findMends N (nI x) (nI n) (nI L) c2 c3 c8 c9 c10 c11) (c8', c9', c10', c11') ∧ Yd (fun N => f_X1_mendAll N (nI x) (nI n) (nI L) d2 d3 d4 d5 d6 d8 d9 d10) (0, d4', d5', d6', d8', d9', d10')) := by
  obtain ⟨h2, hn, hL, hL8, _, _⟩ := id hI
  obtain ⟨c4', c5', c6', c7', d41, d51, d61, h⟩ := xy_hand hI hb hb' hw hw' c4 c5 c6 c7 d4 d5 d6
  rcases h with ⟨r, hr, q1, q2⟩ | ⟨hall, l1, f, l2, hl, _, q1, q2⟩
  · have r1 : ¬ r = 0 := by rcases hr with e | e <;> (rw [e]; decide)
    have r2 : ¬ 0 ≤ r := by rcases hr with e | e <;> (rw [e]; decide)
    refine ⟨c4', c5', c6', c7', d41, d51, d61, d8, d9, d10, Or.inl ⟨r, r1, r2, q1, ?_⟩⟩
    simp only [f_X1_mendAll, y_isOne _ hn hx, z_bs, if_neg (show ¬ (1 : Int32) = 0 by decide)]
    refine Yd.bind q2 ?_
    simp only [if_neg r2]
    exact Yd.pure _
  · obtain ⟨s, c8', c9', c10', c11', d4', d5', d6', d8', d9', d10', p1, p2, p3, p4, p5⟩ := xy_mends hI hb hb' hw hw' hx hall c8 c9 c10 c11 d41 d51 d61 d10
    refine ⟨c4', c5', c6', c7', d4', d5', d6', d8', d9', d10', Or.inr ⟨s, c8', c9', c10', c11', p1, p2, p3, q1, p4, ?_⟩⟩
    have hlen : l1.length < 2 ^ 31 := by
      have h1 := zWy_lt hn L b
      rw [hl, List.length_append] at h1
      omega
    simp only [f_X1_mendAll, y_isOne _ hn hx, z_bs, if_neg (show ¬ (1 : Int32) = 0 by decide)]
    refine Yd.bind q2 ?_
    simp only [if_pos (nI_pos' hlen)]
    exact p5
