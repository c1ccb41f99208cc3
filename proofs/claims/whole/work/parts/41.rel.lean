/-! one state on both sides: the ones, the shortest round, the board and the hand; all else is scratch -/
def zI (n L : Nat) (b w : Nat → Nat) : Prop := 2 ≤ n ∧ n ≤ 8 ∧ 2 ≤ L ∧ L ≤ 8 ∧ (∀ i, i < n → b i < 2 ^ n ∧ (b i).testBit i = false) ∧ (∀ i, i < n → (w i < n ∨ w i = 8) ∧ w i ≠ i)
def zV (n L : Nat) (b w : Nat → Nat) (c0 c1 : Int32) (c2 c3 : Nat → Int32) : Prop := c0 = nI n ∧ c1 = nI L ∧ (∀ i, i < n → c2 i = nI (b i)) ∧ (∀ i, i < n → c3 i = hv (w i))
def zRel (x : z_XS) (y : z_MS) : Prop := ∃ n L b w, zI n L b w ∧ zV n L b w x.1 x.2.1 x.2.2.1 x.2.2.2.1 ∧ zV n L b w y.1 y.2.1 y.2.2.1 y.2.2.2.1
theorem zR_mk {n L : Nat} {b w : Nat → Nat} {x : z_XS} {y : z_MS} (h : zI n L b w) (hx : zV n L b w x.1 x.2.1 x.2.2.1 x.2.2.2.1) (hy : zV n L b w y.1 y.2.1 y.2.2.1 y.2.2.2.1) : zRel x y := ⟨n, L, b, w, h, hx, hy⟩
theorem zR_in {x : z_XS} {y : z_MS} (h : zRel x y) : ∃ n L b w, zI n L b w ∧ zV n L b w x.1 x.2.1 x.2.2.1 x.2.2.2.1 ∧ zV n L b w y.1 y.2.1 y.2.2.1 y.2.2.2.1 := h
theorem zI_b {n L : Nat} {b w : Nat → Nat} (h : zI n L b w) : ∀ i, i < n → b i < 256 := fun i hi => by
  have h1 := (h.2.2.2.2.1 i hi).1
  have h2 := z_2p h.2.1
  omega
theorem zI_w {n L : Nat} {b w : Nat → Nat} (h : zI n L b w) : ∀ i, i < n → w i ≤ 8 := fun i hi => by
  have h1 := (h.2.2.2.2.2 i hi).1
  have h2 := h.2.1
  omega
theorem z_row_b {n : Nat} {b : Nat → Nat} {c2 : Nat → Int32} {w : Nat → Nat} {L : Nat} (h : zI n L b w) (hc : ∀ i, i < n → c2 i = nI (b i)) : ∀ i, i < n → c2 i = nI (b i) ∧ b i < 256 := fun i hi => ⟨hc i hi, zI_b h i hi⟩
theorem z_row_b2 {n : Nat} {b : Nat → Nat} {c2 : Nat → Int32} {w : Nat → Nat} {L : Nat} (h : zI n L b w) (hc : ∀ i, i < n → c2 i = nI (b i)) : ∀ i, i < n → c2 i = nI (b i) ∧ b i < 2 ^ n := fun i hi => ⟨hc i hi, (h.2.2.2.2.1 i hi).1⟩
theorem z_row_w {n : Nat} {b : Nat → Nat} {c3 : Nat → Int32} {w : Nat → Nat} {L : Nat} (h : zI n L b w) (hc : ∀ i, i < n → c3 i = hv (w i)) : ∀ i, i < n → c3 i = hv (w i) ∧ w i ≤ 8 := fun i hi => ⟨hc i hi, zI_w h i hi⟩
theorem zb0_ok {n : Nat} (h2 : 2 ≤ n) (hn : n ≤ 8) : zI n 2 (zb0 n) (fun _ => 8) := by
  have hp := Nat.two_pow_pos n
  refine ⟨h2, hn, Nat.le_refl 2, by decide, fun i hi => ⟨Nat.lt_of_le_of_lt Nat.and_le_left (by omega), ?_⟩, fun i hi => ⟨Or.inr rfl, ?_⟩⟩
  · rw [zb0, Nat.testBit_and, z_clr_self i (by omega), Bool.and_false]
  · intro e
    have e2 : 8 = i := e
    omega
theorem zq_init : zo_init zRel := by
  obtain ⟨c2', c3', q1, q2, q3⟩ := x_begin (n := 4) (by decide) 0 0 (fun _ => 0) (fun _ => 0)
  obtain ⟨d2', d3', p1, p2, p3⟩ := y_begin (n := 4) (by decide) 2 (fun _ => 0) (fun _ => 0)
  obtain ⟨N1, e1⟩ := q3.ex
  obtain ⟨N2, e2⟩ := p3.ex
  exact ⟨N1, (nI 4, 2, c2', c3'), N2, (2, d2', d3'), e1, e2, zR_mk (zb0_ok (n := 4) (by decide) (by decide)) ⟨rfl, rfl, q1, fun i hi => q2 i hi⟩ ⟨rfl, rfl, p1, fun i hi => p2 i hi⟩⟩
theorem zq_ones : zo_ones zRel := by
  intro c0 c1 c2 c3 c4 c5 c6 c7 c8 c9 c10 c11 d0 d1 d2 d3 d4 d5 d6 d7 d8 d9 d10 a1 hR
  obtain ⟨n, L, b, w, hI, hX, hM⟩ := zR_in hR
  have x0 : c0 = nI n := hX.1
  have y0 : d0 = nI n := hM.1
  rcases z_ran a1 with h | ⟨m, m1, m2, rfl⟩
  · refine ⟨0, (-2, c0, c1, c2, c3), 0, (-2, d0, d1, d2, d3), ?_, ?_, rfl, hR⟩
    · rw [f_X0_ones]
      by_cases c : a1 < 2
      · rw [if_pos c]
      · rw [if_neg c, if_neg (fun e => Int32.not_le.mpr (h.resolve_left c) e)]
    · rw [f_X1_ones, y_in2o _ h, z_bs, if_pos rfl]
  · obtain ⟨c2', c3', q1, q2, q3⟩ := x_begin m2 c0 c1 c2 c3
    obtain ⟨d2', d3', p1, p2, p3⟩ := y_begin m2 d1 d2 d3
    have hx : Yd (fun N => f_X0_ones N (nI m) c0 c1 c2 c3) (c0, nI m, 2, c2', c3') := by
      simp only [f_X0_ones, if_neg (show ¬ nI m < (2 : Int32) from nI_nlt (b := 2) m1 (by omega)), if_pos (show nI m ≤ (8 : Int32) from nI_le (b := 8) m2 (by decide))]
      exact Yd.bind q3 (Yd.pure _)
    have hy : Yd (fun N => f_X1_ones N (nI m) d0 d1 d2 d3) (d0, nI m, 2, d2', d3') := by
      have hin : ∀ N, f_X1_in N (nI m) (2 : Int32) (8 : Int32) = some 1 := fun N => y_in2 (lo := 2) (hi := 8) N m1 m2 (by decide)
      simp only [f_X1_ones, hin, z_bs, if_neg (show ¬ (1 : Int32) = 0 by decide)]
      exact Yd.bind p3 (Yd.pure _)
    obtain ⟨N1, e1⟩ := hx.ex
    obtain ⟨N2, e2⟩ := hy.ex
    exact ⟨N1, (c0, nI m, 2, c2', c3'), N2, (d0, nI m, 2, d2', d3'), e1, e2, x0.trans y0.symm, zR_mk (zb0_ok m1 m2) ⟨rfl, rfl, q1, fun i hi => q2 i hi⟩ ⟨rfl, rfl, p1, fun i hi => p2 i hi⟩⟩
/-- one pair's bit changed -/
theorem z_upd_rows {n i v : Nat} {b : Nat → Nat} {c2 c2' : Nat → Int32} (hb : ∀ j, j < n → c2 j = nI (b j)) (h1 : c2' i = nI v) (h2 : ∀ k, k ≠ i → c2' k = c2 k) : ∀ j, j < n → c2' j = nI (zu b i v j) := fun j hj => by
  by_cases e : j = i
  · rw [e, zu_s, h1]
  · rw [zu_n _ _ e, h2 j e, hb j hj]
theorem zI_upd {n L i v : Nat} {b w : Nat → Nat} (h : zI n L b w) (h1 : v < 2 ^ n) (h2 : v.testBit i = false) : zI n L (zu b i v) w := by
  obtain ⟨a1, a2, a3, a4, a5, a6⟩ := h
  refine ⟨a1, a2, a3, a4, fun j hj => ?_, a6⟩
  by_cases e : j = i
  · rw [e, zu_s]; exact ⟨h1, h2⟩
  · rw [zu_n _ _ e]; exact a5 j hj
theorem z_clr_ok {n m i y : Nat} (h : m < 2 ^ n) (h2 : m.testBit i = false) : m &&& y < 2 ^ n ∧ (m &&& y).testBit i = false := ⟨Nat.lt_of_le_of_lt Nat.and_le_left h, by rw [Nat.testBit_and, h2, Bool.false_and]⟩
theorem z_set_ok {n m i j : Nat} (h : m < 2 ^ n) (h2 : m.testBit i = false) (hj : j < n) (hij : i ≠ j) : m ||| 2 ^ j < 2 ^ n ∧ (m ||| 2 ^ j).testBit i = false := by
  refine ⟨Nat.or_lt_two_pow h (Nat.pow_lt_pow_right (by decide) hj), ?_⟩
  rw [Nat.testBit_or, h2, Bool.false_or, Nat.testBit_two_pow]
  exact decide_eq_false (Ne.symm hij)
theorem x_may0 {n : Nat} {a1 a2 a3 : Int32} (N : Nat) (hn : n ≤ 8) (h : (a1 < 0 ∨ nI n ≤ a1) ∨ (a2 < 0 ∨ nI n ≤ a2)) (c2 : Nat → Int32) : f_X0_may N a1 a2 a3 (nI n) c2 = some (-1, c2) := by
  simp only [f_X0_may, x_refuse0 N hn h, z_bs, if_neg (show ¬ (-1 : Int32) = 0 by decide)]
theorem y_may0 {n : Nat} {a1 a2 a3 : Int32} (N : Nat) (h0 : 0 < n) (hn : n ≤ 8) (h : (a1 < 0 ∨ nI n ≤ a1) ∨ (a2 < 0 ∨ nI n ≤ a2)) (c2 : Nat → Int32) : f_X1_may N a1 a2 a3 (nI n) c2 = some (-1, c2) := by
  rw [f_X1_may]
  exact y_ones2 N h0 hn h _ _
theorem zq_may : zo_may zRel := by
  intro c0 c1 c2 c3 c4 c5 c6 c7 c8 c9 c10 c11 d0 d1 d2 d3 d4 d5 d6 d7 d8 d9 d10 a1 a2 a3 _ hR
  obtain ⟨n, L, b, w, hI, hX, hM⟩ := zR_in hR
  obtain ⟨x0, x1, hb, hw⟩ := (show zV n L b w c0 c1 c2 c3 from hX)
  obtain ⟨y0, y1, hb', hw'⟩ := (show zV n L b w d0 d1 d2 d3 from hM)
  have h2 := hI.1
  have hn := hI.2.1
  subst x0 y0
  rcases z_pair n hn a1 a2 with h | ⟨i, j, hi, hj, rfl, rfl⟩
  · exact ⟨0, (-1, c2), 0, (-1, d2), x_may0 0 hn h c2, y_may0 0 (by omega) hn h d2, rfl, hR⟩
  · by_cases hij : i = j
    · refine ⟨0, (-5, c2), 0, (-5, d2), ?_, ?_, rfl, hR⟩
      · simp only [f_X0_may, x_refuse _ hn hi hj, if_pos hij, z_bs, if_neg (show ¬ (-5 : Int32) = 0 by decide)]
      · simp only [f_X1_may, y_isOne _ hn hi, y_isOne _ hn hj, z_bs, if_neg (show ¬ (1 : Int32) = 0 by decide), if_pos (congrArg nI hij)]
    · have hm := zI_b hI i hi
      obtain ⟨c2', q1, q2, q3⟩ := x_may a3 hn hi hj hij (hb i hi) hm
      have p3 := y_may a3 0 hn hi hj hij (hb' i hi) hm
      have hok : (if a3 = 0 then b i &&& (255 ^^^ 2 ^ j) else b i ||| 2 ^ j) < 2 ^ n ∧ (if a3 = 0 then b i &&& (255 ^^^ 2 ^ j) else b i ||| 2 ^ j).testBit i = false := by
        obtain ⟨k1, k2⟩ := hI.2.2.2.2.1 i hi
        by_cases c : a3 = 0
        · rw [if_pos c]; exact z_clr_ok k1 k2
        · rw [if_neg c]; exact z_set_ok k1 k2 hj hij
      exact ⟨0, _, 0, _, q3 0, p3, rfl, zR_mk (zI_upd hI hok.1 hok.2) ⟨rfl, x1, z_upd_rows hb q1 q2, hw⟩ ⟨rfl, y1, z_upd_rows hb' pk_us (fun k hk => pk_un hk), hw'⟩⟩
theorem zq_couple : zo_couple zRel := by
  intro c0 c1 c2 c3 c4 c5 c6 c7 c8 c9 c10 c11 d0 d1 d2 d3 d4 d5 d6 d7 d8 d9 d10 a1 a2 hR
  obtain ⟨n, L, b, w, hI, hX, hM⟩ := zR_in hR
  obtain ⟨x0, x1, hb, hw⟩ := (show zV n L b w c0 c1 c2 c3 from hX)
  obtain ⟨y0, y1, hb', hw'⟩ := (show zV n L b w d0 d1 d2 d3 from hM)
  have h2 := hI.1
  have hn := hI.2.1
  subst x0 y0
  rcases z_pair n hn a1 a2 with h | ⟨i, j, hi, hj, rfl, rfl⟩
  · refine ⟨0, (-1, c2), 0, (-1, d2), ?_, ?_, rfl, hR⟩
    · simp only [f_X0_couple, x_refuse0 _ hn h, z_bs, if_neg (show ¬ (-1 : Int32) = 0 by decide)]
    · rw [f_X1_couple]
      exact y_ones2 0 (by omega) hn h _ _
  · by_cases hij : i = j
    · refine ⟨0, (-5, c2), 0, (-5, d2), ?_, ?_, rfl, hR⟩
      · simp only [f_X0_couple, x_refuse _ hn hi hj, if_pos hij, z_bs, if_neg (show ¬ (-5 : Int32) = 0 by decide)]
      · simp only [f_X1_couple, y_isOne _ hn hi, y_isOne _ hn hj, z_bs, if_neg (show ¬ (1 : Int32) = 0 by decide), if_pos (congrArg nI hij)]
    · have hi8 : i < 8 := by omega
      have hj8 : j < 8 := by omega
      have hmi := zI_b hI i hi
      have hmj := zI_b hI j hj
      have hzi : zb i = 2 ^ i := if_pos hi8
      have hzj : zb j = 2 ^ j := if_pos hj8
      obtain ⟨c21, q1, q2, q3⟩ := x_barPair (y := j) hn hi (by omega) (hb i hi) hmi
      obtain ⟨c22, r1, r2, r3⟩ := x_barPair (c2 := c21) (y := i) hn hj (by omega) (show c21 j = nI (b j) by rw [q2 j (fun e => hij e.symm)]; exact hb j hj) hmj
      rw [hv_in hj8] at q3
      rw [hv_in hi8] at r3
      rw [hzj] at q1
      rw [hzi] at r1
      have hone : ∀ y m, y < 8 → (if y < 8 ∧ Nat.testBit m y = true then (1 : Int32) else 0) = if Nat.testBit m y = true then 1 else 0 := fun y m hy => by
        by_cases c : Nat.testBit m y = true
        · rw [if_pos c, if_pos ⟨hy, c⟩]
        · rw [if_neg c, if_neg (fun e => c e.2)]
      rw [hone j (b i) hj8] at q3
      rw [hone i (b j) hi8] at r3
      have s1 := y_may (c2 := d2) 0 0 hn hi hj hij (hb' i hi) hmi
      rw [if_pos (show (0 : Int32) = 0 from rfl)] at s1
      have s2 := y_may (c2 := upd d2 i (nI (b i &&& (255 ^^^ 2 ^ j)))) 0 0 hn hj hi (fun e => hij e.symm) (show upd d2 i (nI (b i &&& (255 ^^^ 2 ^ j))) j = nI (b j) by rw [pk_un (fun e => hij e.symm)]; exact hb' j hj) hmj
      rw [if_pos (show (0 : Int32) = 0 from rfl)] at s2
      have o1 := hI.2.2.2.2.1 i hi
      have o2 := hI.2.2.2.2.1 j hj
      have I1 := zI_upd hI (z_clr_ok (y := 255 ^^^ 2 ^ j) o1.1 o1.2).1 (z_clr_ok (y := 255 ^^^ 2 ^ j) o1.1 o1.2).2
      have I2 := zI_upd I1 (z_clr_ok (y := 255 ^^^ 2 ^ i) o2.1 o2.2).1 (z_clr_ok (y := 255 ^^^ 2 ^ i) o2.1 o2.2).2
      refine ⟨0, ((if (b i).testBit j = true then 1 else 0) + (if (b j).testBit i = true then 1 else 0), c22), 0, ((if (b i).testBit j = true then 1 else 0) + (if (b j).testBit i = true then 1 else 0), upd (upd d2 i (nI (b i &&& (255 ^^^ 2 ^ j)))) j (nI (b j &&& (255 ^^^ 2 ^ i)))), ?_, ?_, rfl, zR_mk I2 ⟨rfl, x1, z_upd_rows (z_upd_rows hb q1 q2) r1 r2, hw⟩ ⟨rfl, y1, z_upd_rows (z_upd_rows hb' pk_us (fun k hk => pk_un hk)) pk_us (fun k hk => pk_un hk), hw'⟩⟩
      · simp only [f_X0_couple, x_refuse _ hn hi hj, if_neg hij, z_bs, if_true, q3, r3]
      · simp only [f_X1_couple, y_isOne _ hn hi, y_isOne _ hn hj, z_bs, if_neg (show ¬ (1 : Int32) = 0 by decide), if_neg (show ¬ nI i = nI j from fun e => hij ((nI_eq (by omega) (by omega)).mp e)), s1, s2]
theorem zq_bar : zo_bar zRel := by
  intro c0 c1 c2 c3 c4 c5 c6 c7 c8 c9 c10 c11 d0 d1 d2 d3 d4 d5 d6 d7 d8 d9 d10 hR
  obtain ⟨n, L, b, w, hI, hX, hM⟩ := zR_in hR
  obtain ⟨x0, x1, hb, hw⟩ := (show zV n L b w c0 c1 c2 c3 from hX)
  obtain ⟨y0, y1, hb', hw'⟩ := (show zV n L b w d0 d1 d2 d3 from hM)
  have hn := hI.2.1
  subst x0 y0
  obtain ⟨c2', q1, q2⟩ := x_bar hn (z_row_b hI hb) (z_row_w hI hw)
  obtain ⟨d2', p1, p2⟩ := y_bar hn (z_row_b hI hb') (fun j hj => ⟨hw' j hj, hI.2.2.2.2.2 j hj⟩)
  obtain ⟨N1, e1⟩ := q2.ex
  obtain ⟨N2, e2⟩ := p2.ex
  have I1 : zI n L (zbar b w n) w := by
    obtain ⟨a1, a2, a3, a4, a5, a6⟩ := hI
    refine ⟨a1, a2, a3, a4, fun j hj => ?_, a6⟩
    rw [zbar, if_pos hj]
    exact z_clr_ok (a5 j hj).1 (a5 j hj).2
  exact ⟨N1, _, N2, _, e1, e2, rfl, zR_mk I1 ⟨rfl, x1, q1, hw⟩ ⟨rfl, y1, p1, hw'⟩⟩
theorem zq_least : zo_least zRel := by
  intro c0 c1 c2 c3 c4 c5 c6 c7 c8 c9 c10 c11 d0 d1 d2 d3 d4 d5 d6 d7 d8 d9 d10 a1 hR
  obtain ⟨n, L, b, w, hI, hX, hM⟩ := zR_in hR
  obtain ⟨x0, x1, hb, hw⟩ := (show zV n L b w c0 c1 c2 c3 from hX)
  obtain ⟨y0, y1, hb', hw'⟩ := (show zV n L b w d0 d1 d2 d3 from hM)
  rcases z_ran a1 with h | ⟨m, m1, m2, rfl⟩
  · refine ⟨0, (-2, c1), 0, (-2, d1), ?_, ?_, rfl, hR⟩
    · rw [f_X0_least]
      by_cases c : a1 < 2
      · rw [if_pos c]
      · rw [if_neg c, if_neg (fun e => Int32.not_le.mpr (h.resolve_left c) e)]
    · rw [f_X1_least, y_in2o _ h, z_bs, if_pos rfl]
  · have hin : ∀ N, f_X1_in N (nI m) (2 : Int32) (8 : Int32) = some 1 := fun N => y_in2 (lo := 2) (hi := 8) N m1 m2 (by decide)
    refine ⟨0, (c1, nI m), 0, (d1, nI m), ?_, ?_, x1.trans y1.symm, zR_mk (L := m) ⟨hI.1, hI.2.1, m1, m2, hI.2.2.2.2⟩ ⟨x0, rfl, hb, hw⟩ ⟨y0, rfl, hb', hw'⟩⟩
    · rw [f_X0_least, if_neg (show ¬ nI m < (2 : Int32) from nI_nlt (b := 2) m1 (by omega)), if_pos (show nI m ≤ (8 : Int32) from nI_le (b := 8) m2 (by decide))]
    · rw [f_X1_least, hin, z_bs, if_neg (show ¬ (1 : Int32) = 0 by decide)]
theorem zq_ways : zo_ways zRel := by
  intro c0 c1 c2 c3 c4 c5 c6 c7 c8 c9 c10 c11 d0 d1 d2 d3 d4 d5 d6 d7 d8 d9 d10 hR
  obtain ⟨n, L, b, w, hI, hX, hM⟩ := zR_in hR
  obtain ⟨x0, x1, hb, hw⟩ := (show zV n L b w c0 c1 c2 c3 from hX)
  obtain ⟨y0, y1, hb', hw'⟩ := (show zV n L b w d0 d1 d2 d3 from hM)
  obtain ⟨h2, hn, hL, hL8, _, _⟩ := id hI
  subst x0 y0 x1 y1
  obtain ⟨c41, a1, a2⟩ := x_openRows c2 c4
  obtain ⟨c5', c6', c7', q⟩ := x_cw (c4 := c41) (rows := b) (show 0 < n by omega) hn hL hL8 (fun i hi => by rw [a1 i (by omega), hb i hi]) c5 c6 c7
  obtain ⟨d61, p1, p2⟩ := y_go_all (L := L) h2 hn hL8 (z_row_b2 hI hb') d4 d5 d6
  obtain ⟨d6', p3⟩ := y_ways_loop (zWy n L b) d61 0 p2
  rw [Int32.zero_add] at p3
  have hx : Yd (fun N => f_X0_ways N (nI n) (nI L) c2 c4 c5 c6 c7) (nI (zWy n L b).length, c41, c5', c6', c7') := by
    simp only [f_X0_ways, a2, z_bs]
    exact Yd.bind q (Yd.pure _)
  have hy : Yd (fun N => f_X1_ways N (nI n) (nI L) d2 d4 d5 d6) (nI (zWy n L b).length, nI (2 ^ n - 1), 0, d6') := by
    simp only [f_X1_ways, y_all _ hn, z_bs]
    exact Yd.bind p1 p3.diag
  obtain ⟨N1, e1⟩ := hx.ex
  obtain ⟨N2, e2⟩ := hy.ex
  exact ⟨N1, _, N2, _, e1, e2, rfl, zR_mk hI ⟨rfl, rfl, hb, hw⟩ ⟨rfl, rfl, hb', hw'⟩⟩
theorem zq_free : zo_free zRel := by
  intro c0 c1 c2 c3 c4 c5 c6 c7 c8 c9 c10 c11 d0 d1 d2 d3 d4 d5 d6 d7 d8 d9 d10 hR
  obtain ⟨n, L, b, w, hI, hX, hM⟩ := zR_in hR
  obtain ⟨x0, x1, hb, hw⟩ := (show zV n L b w c0 c1 c2 c3 from hX)
  obtain ⟨y0, y1, hb', hw'⟩ := (show zV n L b w d0 d1 d2 d3 from hM)
  obtain ⟨h2, hn, hL, hL8, hbI, _⟩ := id hI
  subst x0 y0 x1 y1
  obtain ⟨c41, a1, a2⟩ := x_openRows c2 c4
  obtain ⟨c5', c6', c7', q⟩ := x_cw (c4 := c41) (L := 2) (rows := b) (show 0 < n by omega) hn (Nat.le_refl 2) (by decide) (fun i hi => by rw [a1 i (by omega), hb i hi]) c5 c6 c7
  obtain ⟨d61, p0, p1⟩ := y_start (2 ^ n - 1) (Or.inr rfl : (1 : Int32) = 0 ∨ (1 : Int32) = 1) d4 d5 d6
  have p2 := y_seq0 (m := 2 ^ n - 1) (L := L) (bd := b) (c2 := d2) (c5 := 1) (ok := fun _ => true) (c6 := d61) (show 0 < n by omega) hn (z_all_lt hn) hL8 (z_row_b hI hb') (Or.inr ⟨by decide, rfl⟩) (z_full_ne h2) (fun i hi => p0 i (by omega))
  have hlist : (zW n (fun x => b x &&& (2 ^ n - 1)) (zD n (2 ^ n - 1)) z8).filter (fun _ => true) = zWy n 2 b := by
    rw [List.filter_eq_self.mpr (fun _ _ => rfl), zD_full, zW_congr n (fun x => b x &&& (2 ^ n - 1)) b (List.range n) z8 (fun x hx => z_bitsall (hbI x (List.mem_range.mp hx)).1), zWy_free hn (fun i hi => (hbI i hi).2)]
  rw [hlist] at p2
  obtain ⟨d6', p3⟩ := y_free_loop (zWy n 2 b) d61 0 p2
  rw [Int32.zero_add] at p3
  have hx : Yd (fun N => f_X0_free N (nI n) c2 c4 c5 c6 c7) (nI (zWy n 2 b).length, c41, c5', c6', c7') := by
    simp only [f_X0_free, a2, z_bs]
    exact Yd.bind q (Yd.pure _)
  have hy : Yd (fun N => f_X1_free N (nI n) (nI L) d2 d4 d5 d6) (nI (zWy n 2 b).length, nI (2 ^ n - 1), 1, d6') := by
    simp only [f_X1_free, y_all _ hn, z_bs]
    exact Yd.bind p1 p3.diag
  obtain ⟨N1, e1⟩ := hx.ex
  obtain ⟨N2, e2⟩ := hy.ex
  exact ⟨N1, _, N2, _, e1, e2, rfl, zR_mk hI ⟨rfl, rfl, hb, hw⟩ ⟨rfl, rfl, hb', hw'⟩⟩
/-- the way of a number on both sides -/
theorem xy_find {n L : Nat} {b w : Nat → Nat} {c2 d2 : Nat → Int32} (hI : zI n L b w) (hb : ∀ i, i < n → c2 i = nI (b i)) (hb' : ∀ i, i < n → d2 i = nI (b i)) (a1 : Int32) (c4 c5 c6 c7 c8 : Nat → Int32) (d4 d5 : Int32) (d6 : Nat → Int32) : (∃ (f : Nat → Nat) (c4' c5' c6' c7' c8' : Nat → Int32) (d4' d5' : Int32) (d6' : Nat → Int32), f ∈ zWy n L b ∧ (∀ j, j < n → c8' j = nI (f j)) ∧ (∀ j, j < n → d6' j = hv (f j)) ∧ Yd (fun N => f_X0_findWay N a1 (nI n) (nI L) c2 c4 c5 c6 c7 c8) (1, c4', c5', c6', c7', c8') ∧ Yd (fun N => f_X1_goTo N a1 (nI n) (nI L) d2 d4 d5 d6) (1, d4', d5', d6')) ∨ (∃ (c4' c5' c6' c7' c8' : Nat → Int32) (d4' d5' : Int32) (d6' : Nat → Int32), Yd (fun N => f_X0_findWay N a1 (nI n) (nI L) c2 c4 c5 c6 c7 c8) (0, c4', c5', c6', c7', c8') ∧ Yd (fun N => f_X1_goTo N a1 (nI n) (nI L) d2 d4 d5 d6) (0, d4', d5', d6')) := by
  obtain ⟨h2, hn, hL, hL8, _, _⟩ := id hI
  obtain ⟨d61, p1, p2⟩ := y_go_all (L := L) h2 hn hL8 (z_row_b2 hI hb') d4 d5 d6
  have hz : nI 0 + (-1 : Int32) = -1 := by decide
  by_cases ca : a1 < 0
  · refine Or.inr ⟨c4, c5, c6, c7, c8, nI (2 ^ n - 1), 0, d61, ?_, ?_⟩
    · simp only [f_X0_findWay, if_neg (show ¬ (0 : Int32) ≤ a1 from Int32.not_le.mpr ca)]
      exact Yd.pure _
    · have hle : a1 ≤ -1 := by
        have h1 := Int32.lt_iff_toInt_lt.mp ca
        rw [Int32.le_iff_toInt_le]
        have e0 : (0 : Int32).toInt = 0 := by decide
        have e1 : (-1 : Int32).toInt = -1 := by decide
        omega
      have hl : Yl (fun N q => f_X1_goTo_b11 N (nI n) (nI L) d2 q a1 (-1) (nI (2 ^ n - 1)) 0 d61) (0, nI (2 ^ n - 1), 0, d61) := by
        refine Yl.step ?_
        simp only [f_X1_goTo_b11, if_pos hle, f_X1_goTo_b29, if_pos ca]
        exact Yl.pure _
      simp only [f_X1_goTo, y_all _ hn, z_bs]
      exact Yd.bind p1 hl.diag
  · obtain ⟨k, hk, rfl⟩ := nI_of ca
    have hy := y_goTo_loop hk (zWy n L b) d61 0 (Nat.zero_le k) p2
    rw [hz, Nat.sub_zero] at hy
    rcases x_findWay (k0 := k) (show 0 < n by omega) hn hL hL8 hb (zI_b hI) hk c4 c5 c6 c7 c8 with ⟨f, c4', c5', c6', c7', c8', q1, q2, q3⟩ | ⟨q1, c4', c5', c6', c7', c8', q2⟩
    · rcases hy with ⟨f', d6', r1, r2, r3⟩ | ⟨r1, _⟩
      · rw [q1] at r1
        obtain rfl : f = f' := Option.some.inj r1
        refine Or.inl ⟨f, c4', c5', c6', c7', c8', nI (2 ^ n - 1), 0, d6', List.mem_of_getElem? q1, q2, r2, q3, ?_⟩
        simp only [f_X1_goTo, y_all _ hn, z_bs]
        exact Yd.bind p1 r3.diag
      · rw [q1] at r1
        cases r1
    · rcases hy with ⟨f', d6', r1, r2, r3⟩ | ⟨r1, d6', r2⟩
      · rw [q1] at r1
        cases r1
      · refine Or.inr ⟨c4', c5', c6', c7', c8', nI (2 ^ n - 1), 0, d6', q2, ?_⟩
        simp only [f_X1_goTo, y_all _ hn, z_bs]
        exact Yd.bind p1 r2.diag
theorem zq_way : zo_way zRel := by
  intro c0 c1 c2 c3 c4 c5 c6 c7 c8 c9 c10 c11 d0 d1 d2 d3 d4 d5 d6 d7 d8 d9 d10 a1 a2 hR
  obtain ⟨n, L, b, w, hI, hX, hM⟩ := zR_in hR
  obtain ⟨x0, x1, hb, hw⟩ := (show zV n L b w c0 c1 c2 c3 from hX)
  obtain ⟨y0, y1, hb', hw'⟩ := (show zV n L b w d0 d1 d2 d3 from hM)
  obtain ⟨h2, hn, hL, hL8, _, _⟩ := id hI
  subst x0 y0 x1 y1
  rcases z_ix a2 (show n < 2 ^ 31 by omega) with ⟨i, hi, rfl⟩ | h
  · rcases xy_find hI hb hb' a1 c4 c5 c6 c7 c8 d4 d5 d6 with ⟨f, c4', c5', c6', c7', c8', d4', d5', d6', q0, q1, q2, q3, q4⟩ | ⟨c4', c5', c6', c7', c8', d4', d5', d6', q3, q4⟩
    · have hf := ((zWy_in hn q0).1 i hi).1
      have hx : Yd (fun N => f_X0_way N a1 (nI i) (nI n) (nI L) c2 c4 c5 c6 c7 c8) (nI (f i), c4', c5', c6', c7', c8') := by
        simp only [f_X0_way, x_isOne _ hn hi, z_bs, if_neg (show ¬ (1 : Int32) = 0 by decide)]
        refine Yd.bind q3 ?_
        simp only [if_neg (show ¬ (1 : Int32) = 0 by decide), z_gxn (show i < 8 by omega) (show 8 < 2 ^ 31 by decide), nI_clamp (show i < 2 ^ 31 by omega), q1 i hi]
        exact Yd.pure _
      have hy : Yd (fun N => f_X1_way N a1 (nI i) (nI n) (nI L) d2 d4 d5 d6) (nI (f i), d4', d5', d6') := by
        simp only [f_X1_way, y_isOne _ hn hi, z_bs, if_neg (show ¬ (1 : Int32) = 0 by decide)]
        refine Yd.bind q4 ?_
        simp only [if_neg (show ¬ (1 : Int32) = 0 by decide), z_gxn (show i < 8 by omega) (show 8 < 2 ^ 31 by decide), nI_clamp (show i < 2 ^ 31 by omega), q2 i hi, hv_in (show f i < 8 by omega)]
        exact Yd.pure _
      obtain ⟨N1, e1⟩ := hx.ex
      obtain ⟨N2, e2⟩ := hy.ex
      exact ⟨N1, _, N2, _, e1, e2, rfl, zR_mk hI ⟨rfl, rfl, hb, hw⟩ ⟨rfl, rfl, hb', hw'⟩⟩
    · have hx : Yd (fun N => f_X0_way N a1 (nI i) (nI n) (nI L) c2 c4 c5 c6 c7 c8) (-5, c4', c5', c6', c7', c8') := by
        simp only [f_X0_way, x_isOne _ hn hi, z_bs, if_neg (show ¬ (1 : Int32) = 0 by decide)]
        refine Yd.bind q3 ?_
        simp only [if_true]
        exact Yd.pure _
      have hy : Yd (fun N => f_X1_way N a1 (nI i) (nI n) (nI L) d2 d4 d5 d6) (-5, d4', d5', d6') := by
        simp only [f_X1_way, y_isOne _ hn hi, z_bs, if_neg (show ¬ (1 : Int32) = 0 by decide)]
        refine Yd.bind q4 ?_
        simp only [if_true]
        exact Yd.pure _
      obtain ⟨N1, e1⟩ := hx.ex
      obtain ⟨N2, e2⟩ := hy.ex
      exact ⟨N1, _, N2, _, e1, e2, rfl, zR_mk hI ⟨rfl, rfl, hb, hw⟩ ⟨rfl, rfl, hb', hw'⟩⟩
  · refine ⟨0, (-1, c4, c5, c6, c7, c8), 0, (-1, d4, d5, d6), ?_, ?_, rfl, hR⟩
    · simp only [f_X0_way, x_isOne0 _ h, z_bs, if_true]
    · simp only [f_X1_way, y_isOne0 _ (show 0 < n by omega) hn h, z_bs, if_true]
theorem zq_draw : zo_draw zRel := by
  intro c0 c1 c2 c3 c4 c5 c6 c7 c8 c9 c10 c11 d0 d1 d2 d3 d4 d5 d6 d7 d8 d9 d10 a1 hR
  obtain ⟨n, L, b, w, hI, hX, hM⟩ := zR_in hR
  obtain ⟨x0, x1, hb, hw⟩ := (show zV n L b w c0 c1 c2 c3 from hX)
  obtain ⟨y0, y1, hb', hw'⟩ := (show zV n L b w d0 d1 d2 d3 from hM)
  obtain ⟨h2, hn, hL, hL8, hbI, hwI⟩ := id hI
  subst x0 y0 x1 y1
  rcases xy_find hI hb hb' a1 c4 c5 c6 c7 c8 d4 d5 d6 with ⟨f, c4', c5', c6', c7', c8', d4', d5', d6', q0, q1, q2, q3, q4⟩ | ⟨c4', c5', c6', c7', c8', d4', d5', d6', q3, q4⟩
  · have hf := (zWy_in hn q0).1
    obtain ⟨d3', r1, r2⟩ := y_draw_loop (c1 := nI L) (c2 := d2) hn d4' d5' d6' n 0 d3 (by omega) (fun i hi => absurd hi (Nat.not_lt_zero i))
    have hx : Yd (fun N => f_X0_draw N a1 (nI n) (nI L) c2 c3 c4 c5 c6 c7 c8) (1, va_cpy c8' c3 0 0 n, c4', c5', c6', c7', c8') := by
      simp only [f_X0_draw]
      refine Yd.bind q3 ?_
      simp only [if_neg (show ¬ (1 : Int32) = 0 by decide), z_gc_in (show ¬ nI n < 0 ∧ (nI n).toNatClampNeg ≤ 8 from ⟨nI_pos (by omega), by rw [nI_clamp (by omega)]; exact hn⟩), nI_clamp (show n < 2 ^ 31 by omega)]
      exact Yd.pure _
    have hy : Yd (fun N => f_X1_draw N a1 (nI n) (nI L) d2 d3 d4 d5 d6) (1, d3', d4', d5', d6') := by
      simp only [f_X1_draw]
      refine Yd.bind q4 ?_
      simp only [if_neg (show ¬ (1 : Int32) = 0 by decide)]
      exact r2.diag
    have I1 : zI n L b f := ⟨h2, hn, hL, hL8, hbI, fun i hi => ⟨Or.inl (hf i hi).1, fun e => by
      have h1 := (hf i hi).2
      rw [e, (hbI i hi).2] at h1
      cases h1⟩⟩
    obtain ⟨N1, e1⟩ := hx.ex
    obtain ⟨N2, e2⟩ := hy.ex
    exact ⟨N1, _, N2, _, e1, e2, rfl, zR_mk I1 ⟨rfl, rfl, hb, fun i hi => by
      show va_cpy c8' c3 0 0 n i = hv (f i)
      rw [pk_cpy_in (Nat.zero_le i) (by omega), Nat.zero_add, Nat.sub_zero, q1 i hi, hv_in (by have := (hf i hi).1; omega)]⟩ ⟨rfl, rfl, hb', fun i hi => (r1 i hi).trans (q2 i hi)⟩⟩
  · have hx : Yd (fun N => f_X0_draw N a1 (nI n) (nI L) c2 c3 c4 c5 c6 c7 c8) (-5, c3, c4', c5', c6', c7', c8') := by
      simp only [f_X0_draw]
      refine Yd.bind q3 ?_
      simp only [if_true]
      exact Yd.pure _
    have hy : Yd (fun N => f_X1_draw N a1 (nI n) (nI L) d2 d3 d4 d5 d6) (-5, d3, d4', d5', d6') := by
      simp only [f_X1_draw]
      refine Yd.bind q4 ?_
      simp only [if_true]
      exact Yd.pure _
    obtain ⟨N1, e1⟩ := hx.ex
    obtain ⟨N2, e2⟩ := hy.ex
    exact ⟨N1, _, N2, _, e1, e2, rfl, zR_mk hI ⟨rfl, rfl, hb, hw⟩ ⟨rfl, rfl, hb', hw'⟩⟩
