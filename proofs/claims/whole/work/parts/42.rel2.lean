theorem zq_rounds : zo_rounds zRel := by
  intro c0 c1 c2 c3 c4 c5 c6 c7 c8 c9 c10 c11 d0 d1 d2 d3 d4 d5 d6 d7 d8 d9 d10 a1 hR
  obtain ⟨n, L, b, w, hI, hX, hM⟩ := zR_in hR
  obtain ⟨x0, x1, hb, hw⟩ := (show zV n L b w c0 c1 c2 c3 from hX)
  obtain ⟨y0, y1, hb', hw'⟩ := (show zV n L b w d0 d1 d2 d3 from hM)
  obtain ⟨h2, hn, hL, hL8, _, _⟩ := id hI
  subst x0 y0 x1 y1
  have h0 : 0 < n := by omega
  obtain ⟨d61, p1, p2⟩ := y_go_all (L := L) h2 hn hL8 (z_row_b2 hI hb') d4 d5 d6
  obtain ⟨d6', p3⟩ := y_rounds_loop (c2 := d2) h0 hn a1 (zWy n L b) d61 0 (fun f hf => z_perW hn (List.mem_filter.mp hf).1) p2
  rw [Int32.zero_add] at p3
  have hy : Yd (fun N => f_X1_rounds N a1 (nI n) (nI L) d2 d4 d5 d6) (nI ((zWy n L b).countP (fun f => decide (nI (zlens n f).length = a1))), nI (2 ^ n - 1), 0, d6') := by
    simp only [f_X1_rounds, y_all _ hn, z_bs]
    exact Yd.bind p1 p3.diag
  obtain ⟨N2, e2⟩ := hy.ex
  have hout : (∀ q, 1 ≤ q → q ≤ 4 → nI q ≠ a1) → (zWy n L b).countP (fun f => decide (nI (zlens n f).length = a1)) = 0 := fun h => List.countP_eq_zero.mpr fun f hf e => by
    obtain ⟨r1, r2⟩ := z_rounds_range h2 hn hL hf
    exact h _ r1 r2 (of_decide_eq_true e)
  by_cases ca : a1 < 1
  · have hz := hout (fun q q1 q2 e => by
      rw [← e] at ca
      exact nI_nlt (b := 1) q1 (by omega) ca)
    rw [hz, nI_0] at e2
    refine ⟨0, (0, c4, c5, c6, c7), N2, _, ?_, e2, rfl, hR⟩
    rw [f_X0_rounds, if_pos ca]
  · by_cases cb : a1 ≤ 4
    · obtain ⟨q, hq, rfl⟩ := nI_of (x := a1) (fun e => ca (Int32.lt_of_lt_of_le e (by decide)))
      have hq1 : 1 ≤ q := by
        rcases Nat.eq_zero_or_pos q with e | e
        · rw [e] at ca
          exact absurd (by decide) ca
        · exact e
      obtain ⟨c41, a1, a2⟩ := x_openRows c2 c4
      obtain ⟨c5', c6', k1, k2, k3⟩ := x_close (c4 := c41) (rows := b) h0 hn hL8 (fun i hi => by rw [a1 i (by omega), hb i hi]) c5 c6
      obtain ⟨c7', k4⟩ := x_countSplits hn hL k1 k2 hq c7
      rw [zF_rounds h0 hn] at k4
      have hsame : (zWy n L b).countP (fun f => decide (nI (zlens n f).length = nI q)) = (zWy n L b).countP (fun f => decide ((zlens n f).length = q)) := List.countP_congr fun f hf => by
        obtain ⟨r1, r2⟩ := z_rounds_range h2 hn hL hf
        rw [decide_eq_true_eq, decide_eq_true_eq, nI_eq (by omega) hq]
      rw [hsame] at e2
      have hx : Yd (fun N => f_X0_rounds N (nI q) (nI n) (nI L) c2 c4 c5 c6 c7) (nI ((zWy n L b).countP (fun f => decide ((zlens n f).length = q))), c41, c5', c6', c7') := by
        simp only [f_X0_rounds, if_neg ca, if_pos cb, a2, z_bs]
        exact Yd.bind k3 (Yd.bind k4 (Yd.pure _))
      obtain ⟨N1, e1⟩ := hx.ex
      exact ⟨N1, _, N2, _, e1, e2, rfl, zR_mk hI ⟨rfl, rfl, hb, hw⟩ ⟨rfl, rfl, hb', hw'⟩⟩
    · have hz := hout (fun q q1 q2 e => by
        rw [← e] at cb
        exact cb (nI_le (b := 4) q2 (by decide)))
      rw [hz, nI_0] at e2
      refine ⟨0, (0, c4, c5, c6, c7), N2, _, ?_, e2, rfl, hR⟩
      rw [f_X0_rounds, if_neg ca, if_neg cb]
/-- how many ways in which i gives to t, on both sides -/
theorem xy_giving {n L i t : Nat} {b w : Nat → Nat} {c2 d2 : Nat → Int32} (hI : zI n L b w) (hb : ∀ i, i < n → c2 i = nI (b i)) (hb' : ∀ i, i < n → d2 i = nI (b i)) (hi : i < n) (ht : t ≤ 8) (c4 c5 c6 c7 : Nat → Int32) (d4 d5 : Int32) (d6 : Nat → Int32) : ∃ (c4' c5' c6' c7' : Nat → Int32) (d4' d5' : Int32) (d6' : Nat → Int32), (∀ j, j < n → c4' j = nI (zu b i (b i &&& zb t) j)) ∧ Yd (fun N => f_X0_countGiving N (nI i) (hv t) (nI n) (nI L) c2 c4 c5 c6 c7) (nI ((zWy n L b).countP (fun f => f i == t)), c4', c5', c6', c7') ∧ Yd (fun N => f_X1_waysWith N (nI i) (hv t) (nI n) (nI L) d2 d4 d5 d6) (nI ((zWy n L b).countP (fun f => f i == t)), d4', d5', d6') := by
  obtain ⟨h2, hn, hL, hL8, _, _⟩ := id hI
  obtain ⟨c4', c5', c6', c7', q1, q2⟩ := x_giving (show 0 < n by omega) hn hL hL8 hb hi ht c4 c5 c6 c7
  obtain ⟨d61, p1, p2⟩ := y_go_all (L := L) h2 hn hL8 (z_row_b2 hI hb') d4 d5 d6
  obtain ⟨d6', p3⟩ := y_waysWith_loop (c2 := d2) hi hn ht (zWy n L b) d61 0 (fun f hf => zWy_8 hn hf i) p2
  rw [Int32.zero_add] at p3
  refine ⟨c4', c5', c6', c7', nI (2 ^ n - 1), 0, d6', q1, q2, ?_⟩
  simp only [f_X1_waysWith, y_all _ hn, z_bs]
  exact Yd.bind p1 p3.diag
theorem zq_both : zo_both zRel := by
  intro c0 c1 c2 c3 c4 c5 c6 c7 c8 c9 c10 c11 d0 d1 d2 d3 d4 d5 d6 d7 d8 d9 d10 a1 a2 hR
  obtain ⟨n, L, b, w, hI, hX, hM⟩ := zR_in hR
  obtain ⟨x0, x1, hb, hw⟩ := (show zV n L b w c0 c1 c2 c3 from hX)
  obtain ⟨y0, y1, hb', hw'⟩ := (show zV n L b w d0 d1 d2 d3 from hM)
  obtain ⟨h2, hn, hL, hL8, _, _⟩ := id hI
  subst x0 y0 x1 y1
  rcases z_pair n hn a1 a2 with h | ⟨i, j, hi, hj, rfl, rfl⟩
  · refine ⟨0, (-1, c4, c5, c6, c7), 0, (-1, d4, d5, d6), ?_, ?_, rfl, hR⟩
    · rw [f_X0_both]
      exact x_ones2 0 hn h _ _
    · rw [f_X1_both]
      exact y_ones2 0 (by omega) hn h _ _
  · obtain ⟨c4', c5', c6', c7', d4', d5', d6', _, q1, q2⟩ := xy_giving hI hb hb' hi (show j ≤ 8 by omega) c4 c5 c6 c7 d4 d5 d6
    rw [hv_in (show j < 8 by omega)] at q1 q2
    have hx : Yd (fun N => f_X0_both N (nI i) (nI j) (nI n) (nI L) c2 c4 c5 c6 c7) (nI ((zWy n L b).countP (fun f => f i == j)), c4', c5', c6', c7') := by
      simp only [f_X0_both, x_isOne _ hn hi, x_isOne _ hn hj, z_bs, if_neg (show ¬ (1 : Int32) = 0 by decide)]
      exact Yd.bind q1 (Yd.pure _)
    have hy : Yd (fun N => f_X1_both N (nI i) (nI j) (nI n) (nI L) d2 d4 d5 d6) (nI ((zWy n L b).countP (fun f => f i == j)), d4', d5', d6') := by
      simp only [f_X1_both, y_isOne _ hn hi, y_isOne _ hn hj, z_bs, if_neg (show ¬ (1 : Int32) = 0 by decide)]
      exact Yd.bind q2 (Yd.pure _)
    obtain ⟨N1, e1⟩ := hx.ex
    obtain ⟨N2, e2⟩ := hy.ex
    exact ⟨N1, _, N2, _, e1, e2, rfl, zR_mk hI ⟨rfl, rfl, hb, hw⟩ ⟨rfl, rfl, hb', hw'⟩⟩
theorem zq_knows : zo_knows zRel := by
  intro c0 c1 c2 c3 c4 c5 c6 c7 c8 c9 c10 c11 d0 d1 d2 d3 d4 d5 d6 d7 d8 d9 d10 a1 hR
  obtain ⟨n, L, b, w, hI, hX, hM⟩ := zR_in hR
  obtain ⟨x0, x1, hb, hw⟩ := (show zV n L b w c0 c1 c2 c3 from hX)
  obtain ⟨y0, y1, hb', hw'⟩ := (show zV n L b w d0 d1 d2 d3 from hM)
  obtain ⟨h2, hn, hL, hL8, _, _⟩ := id hI
  subst x0 y0 x1 y1
  rcases z_ix a1 (show n < 2 ^ 31 by omega) with ⟨i, hi, rfl⟩ | h
  · have hw8 := zI_w hI i hi
    by_cases c : w i < 8
    · obtain ⟨c4', c5', c6', c7', d4', d5', d6', _, q1, q2⟩ := xy_giving hI hb hb' hi hw8 c4 c5 c6 c7 d4 d5 d6
      have hx : Yd (fun N => f_X0_knows N (nI i) (nI n) (nI L) c2 c3 c4 c5 c6 c7) (nI ((zWy n L b).countP (fun f => f i == w i)), c4', c5', c6', c7') := by
        simp only [f_X0_knows, x_isOne _ hn hi, z_bs, if_neg (show ¬ (1 : Int32) = 0 by decide), z_gxn (show i < 8 by omega) (show 8 < 2 ^ 31 by decide), nI_clamp (show i < 2 ^ 31 by omega), hw i hi, if_neg (show ¬ hv (w i) = -6 from fun e => by have := (hv_none hw8).mp e; omega)]
        exact Yd.bind q1 (Yd.pure _)
      have hy : Yd (fun N => f_X1_knows N (nI i) (nI n) (nI L) d2 d3 d4 d5 d6) (nI ((zWy n L b).countP (fun f => f i == w i)), d4', d5', d6') := by
        simp only [f_X1_knows, y_isOne _ hn hi, z_bs, if_neg (show ¬ (1 : Int32) = 0 by decide), z_gxn (show i < 8 by omega) (show 8 < 2 ^ 31 by decide), nI_clamp (show i < 2 ^ 31 by omega), hw' i hi, if_pos (show (0 : Int32) ≤ hv (w i) from (hv_nn hw8).mpr c)]
        exact Yd.bind q2 (Yd.pure _)
      obtain ⟨N1, e1⟩ := hx.ex
      obtain ⟨N2, e2⟩ := hy.ex
      exact ⟨N1, _, N2, _, e1, e2, rfl, zR_mk hI ⟨rfl, rfl, hb, hw⟩ ⟨rfl, rfl, hb', hw'⟩⟩
    · refine ⟨0, (-3, c4, c5, c6, c7), 0, (-3, d4, d5, d6), ?_, ?_, rfl, hR⟩
      · simp only [f_X0_knows, x_isOne _ hn hi, z_bs, if_neg (show ¬ (1 : Int32) = 0 by decide), z_gxn (show i < 8 by omega) (show 8 < 2 ^ 31 by decide), nI_clamp (show i < 2 ^ 31 by omega), hw i hi, if_pos (show hv (w i) = -6 from (hv_none hw8).mpr (by omega))]
      · simp only [f_X1_knows, y_isOne _ hn hi, z_bs, if_neg (show ¬ (1 : Int32) = 0 by decide), z_gxn (show i < 8 by omega) (show 8 < 2 ^ 31 by decide), nI_clamp (show i < 2 ^ 31 by omega), hw' i hi, if_neg (show ¬ (0 : Int32) ≤ hv (w i) from fun e => c ((hv_nn hw8).mp e))]
  · refine ⟨0, (-1, c4, c5, c6, c7), 0, (-1, d4, d5, d6), ?_, ?_, rfl, hR⟩
    · simp only [f_X0_knows, x_isOne0 _ h, z_bs, if_true]
    · simp only [f_X1_knows, y_isOne0 _ (show 0 < n by omega) hn h, z_bs, if_true]
theorem zq_rooks : zo_rooks zRel := by
  intro c0 c1 c2 c3 c4 c5 c6 c7 c8 c9 c10 c11 d0 d1 d2 d3 d4 d5 d6 d7 d8 d9 d10 a1 hR
  obtain ⟨n, L, b, w, hI, hX, hM⟩ := zR_in hR
  obtain ⟨x0, x1, hb, hw⟩ := (show zV n L b w c0 c1 c2 c3 from hX)
  obtain ⟨y0, y1, hb', hw'⟩ := (show zV n L b w d0 d1 d2 d3 from hM)
  obtain ⟨h2, hn, hL, hL8, _, _⟩ := id hI
  subst x0 y0
  by_cases ca : a1 < 0
  · refine ⟨0, (-2, c7), 0, (-2, d7), ?_, ?_, rfl, hR⟩
    · rw [f_X0_rooks, if_pos ca]
    · rw [f_X1_rooks, y_in2o _ (Or.inl ca), z_bs, if_pos rfl]
  · by_cases cb : a1 ≤ 8
    · obtain ⟨q, hq, rfl⟩ := nI_of ca
      have hq8 : q ≤ 8 := (nI_leI (b := 8) hq (by decide)).mp cb
      obtain ⟨c7', q1⟩ := x_rooks hn (z_row_b hI hb) hq8 c7
      obtain ⟨d7', q2⟩ := y_rooks hn (z_row_b hI hb') hq8 d7
      obtain ⟨N1, e1⟩ := q1.ex
      obtain ⟨N2, e2⟩ := q2.ex
      exact ⟨N1, _, N2, _, e1, e2, rfl, zR_mk hI ⟨rfl, x1, hb, hw⟩ ⟨rfl, y1, hb', hw'⟩⟩
    · refine ⟨0, (-2, c7), 0, (-2, d7), ?_, ?_, rfl, hR⟩
      · rw [f_X0_rooks, if_neg ca, if_neg cb]
      · rw [f_X1_rooks, y_in2o _ (Or.inr (Int32.not_le.mp cb)), z_bs, if_pos rfl]
theorem zq_heap : zo_heap zRel := by
  intro c0 c1 c2 c3 c4 c5 c6 c7 c8 c9 c10 c11 d0 d1 d2 d3 d4 d5 d6 d7 d8 d9 d10 hR
  obtain ⟨n, L, b, w, hI, hX, hM⟩ := zR_in hR
  obtain ⟨x0, x1, hb, hw⟩ := (show zV n L b w c0 c1 c2 c3 from hX)
  obtain ⟨y0, y1, hb', hw'⟩ := (show zV n L b w d0 d1 d2 d3 from hM)
  have hn := hI.2.1
  subst x0 y0
  obtain ⟨N1, e1⟩ := (x_heap hn (z_row_b hI hb)).ex
  obtain ⟨N2, e2⟩ := (y_heap hn (z_row_b hI hb')).ex
  exact ⟨N1, _, N2, _, e1, e2, rfl, hR⟩
theorem z_row_wu {n i v : Nat} {w : Nat → Nat} {c3 : Nat → Int32} (hw : ∀ j, j < n → c3 j = hv (w j)) {u : Int32} (h : u = hv v) : ∀ j, j < n → upd c3 i u j = hv (zu w i v j) := fun j hj => by
  by_cases e : j = i
  · rw [e, pk_us, zu_s, h]
  · rw [pk_un e, zu_n _ _ e, hw j hj]
theorem zI_updw {n L i v : Nat} {b w : Nat → Nat} (h : zI n L b w) (h1 : v < n ∨ v = 8) (h2 : v ≠ i) : zI n L b (zu w i v) := by
  obtain ⟨a1, a2, a3, a4, a5, a6⟩ := h
  refine ⟨a1, a2, a3, a4, a5, fun j hj => ?_⟩
  by_cases e : j = i
  · rw [e, zu_s]; exact ⟨h1, h2⟩
  · rw [zu_n _ _ e]; exact a6 j hj
theorem zq_lay : zo_lay zRel := by
  intro c0 c1 c2 c3 c4 c5 c6 c7 c8 c9 c10 c11 d0 d1 d2 d3 d4 d5 d6 d7 d8 d9 d10 a1 a2 hR
  obtain ⟨n, L, b, w, hI, hX, hM⟩ := zR_in hR
  obtain ⟨x0, x1, hb, hw⟩ := (show zV n L b w c0 c1 c2 c3 from hX)
  obtain ⟨y0, y1, hb', hw'⟩ := (show zV n L b w d0 d1 d2 d3 from hM)
  obtain ⟨h2, hn, hL, hL8, _, _⟩ := id hI
  subst x0 y0
  have h0 : 0 < n := by omega
  rcases z_ix a1 (show n < 2 ^ 31 by omega) with ⟨i, hi, rfl⟩ | h
  · have hm1 : ¬ nI i = -1 := fun e => by
      have := nI_pos (n := i) (by omega)
      rw [e] at this
      exact this (by decide)
    by_cases c1 : a2 = -1
    · subst c1
      obtain ⟨N2, e2⟩ := (y_lay0 hn (z_row_w hI hw') hi).ex
      refine ⟨0, (hv (w i), upd c3 i (-6)), N2, (hv (w i), upd d3 i (-6)), ?_, ?_, rfl, zR_mk (zI_updw (i := i) (v := 8) hI (Or.inr rfl) (by omega)) ⟨rfl, x1, hb, z_row_wu hw rfl⟩ ⟨rfl, y1, hb', z_row_wu hw' rfl⟩⟩
      · simp only [f_X0_lay, x_isOne _ hn hi, z_bs, if_neg (show ¬ (1 : Int32) = 0 by decide), if_neg hm1, if_true, f_X0_lay_b28, f_X0_lay_b45, f_X0_lay_b68, z_gxn (show i < 8 by omega) (show 8 < 2 ^ 31 by decide), nI_clamp (show i < 2 ^ 31 by omega), hw i hi]
      · simp only [f_X1_lay, y_isOne _ hn hi, z_bs, if_neg (show ¬ (1 : Int32) = 0 by decide), if_true, f_X1_lay_b21, if_neg hm1]
        exact e2
    · rcases z_ix a2 (show n < 2 ^ 31 by omega) with ⟨j, hj, rfl⟩ | h'
      · by_cases hij : i = j
        · refine ⟨0, (-1, c3), 0, (-1, d3), ?_, ?_, rfl, hR⟩
          · simp only [f_X0_lay, x_isOne _ hn hi, z_bs, if_neg (show ¬ (1 : Int32) = 0 by decide), if_pos (congrArg nI hij)]
          · simp only [f_X1_lay, y_isOne _ hn hi, y_isOne _ hn hj, z_bs, if_neg (show ¬ (1 : Int32) = 0 by decide), if_neg c1, f_X1_lay_b21, if_pos (congrArg nI hij)]
        · have hne : ¬ nI i = nI j := fun e => hij ((nI_eq (by omega) (by omega)).mp e)
          have hx := x_taken (i := i) hn hj (z_row_w hI hw) hi
          have hy := y_lay hn hj (z_row_w hI hw') hi
          by_cases ct : ∃ k, k < n ∧ k ≠ i ∧ w k = j
          · rw [if_pos ct] at hx hy
            have hx2 : Yd (fun N => f_X0_lay N (nI i) (nI j) (nI n) c3) (-3, c3) := by
              simp only [f_X0_lay, x_isOne _ hn hi, x_isOne _ hn hj, z_bs, if_neg (show ¬ (1 : Int32) = 0 by decide), if_neg hne, if_neg c1, f_X0_lay_b28]
              refine Yd.bind hx ?_
              simp only [if_neg (show ¬ (1 : Int32) = 0 by decide)]
              exact Yd.pure _
            have hy2 : Yd (fun N => f_X1_lay N (nI i) (nI j) (nI n) d3) (-3, d3) := by
              simp only [f_X1_lay, y_isOne _ hn hi, y_isOne _ hn hj, z_bs, if_neg (show ¬ (1 : Int32) = 0 by decide), if_neg hne, if_neg c1, f_X1_lay_b21]
              exact hy
            obtain ⟨N1, e1⟩ := hx2.ex
            obtain ⟨N2, e2⟩ := hy2.ex
            exact ⟨N1, _, N2, _, e1, e2, rfl, hR⟩
          · rw [if_neg ct] at hx hy
            have hx2 : Yd (fun N => f_X0_lay N (nI i) (nI j) (nI n) c3) (hv (w i), upd c3 i (nI j)) := by
              simp only [f_X0_lay, x_isOne _ hn hi, x_isOne _ hn hj, z_bs, if_neg (show ¬ (1 : Int32) = 0 by decide), if_neg hne, if_neg c1, f_X0_lay_b28]
              refine Yd.bind hx ?_
              simp only [if_true, f_X0_lay_b45, if_neg c1, f_X0_lay_b68, z_gxn (show i < 8 by omega) (show 8 < 2 ^ 31 by decide), nI_clamp (show i < 2 ^ 31 by omega), hw i hi]
              exact Yd.pure _
            have hy2 : Yd (fun N => f_X1_lay N (nI i) (nI j) (nI n) d3) (hv (w i), upd d3 i (nI j)) := by
              simp only [f_X1_lay, y_isOne _ hn hi, y_isOne _ hn hj, z_bs, if_neg (show ¬ (1 : Int32) = 0 by decide), if_neg hne, if_neg c1, f_X1_lay_b21]
              exact hy
            obtain ⟨N1, e1⟩ := hx2.ex
            obtain ⟨N2, e2⟩ := hy2.ex
            have hjv : nI j = hv j := (hv_in (by omega)).symm
            exact ⟨N1, _, N2, _, e1, e2, rfl, zR_mk (zI_updw (i := i) (v := j) hI (Or.inl hj) (fun e => hij e.symm)) ⟨rfl, x1, hb, z_row_wu hw hjv⟩ ⟨rfl, y1, hb', z_row_wu hw' hjv⟩⟩
      · refine ⟨0, (-1, c3), 0, (-1, d3), ?_, ?_, rfl, hR⟩
        · by_cases e : nI i = a2
          · simp only [f_X0_lay, x_isOne _ hn hi, z_bs, if_neg (show ¬ (1 : Int32) = 0 by decide), if_pos e]
          · simp only [f_X0_lay, x_isOne _ hn hi, x_isOne0 _ h', z_bs, if_neg (show ¬ (1 : Int32) = 0 by decide), if_neg e, if_neg c1, if_true]
        · simp only [f_X1_lay, y_isOne _ hn hi, y_isOne0 _ h0 hn h', z_bs, if_neg (show ¬ (1 : Int32) = 0 by decide), if_neg c1, if_true]
  · refine ⟨0, (-1, c3), 0, (-1, d3), ?_, ?_, rfl, hR⟩
    · simp only [f_X0_lay, x_isOne0 _ h, z_bs, if_true]
    · simp only [f_X1_lay, y_isOne0 _ h0 hn h, z_bs, if_true]
theorem zq_laid : zo_laid zRel := by
  intro c0 c1 c2 c3 c4 c5 c6 c7 c8 c9 c10 c11 d0 d1 d2 d3 d4 d5 d6 d7 d8 d9 d10 a1 hR
  obtain ⟨n, L, b, w, hI, hX, hM⟩ := zR_in hR
  obtain ⟨x0, x1, hb, hw⟩ := (show zV n L b w c0 c1 c2 c3 from hX)
  obtain ⟨y0, y1, hb', hw'⟩ := (show zV n L b w d0 d1 d2 d3 from hM)
  obtain ⟨h2, hn, hL, hL8, _, _⟩ := id hI
  subst x0 y0
  rcases z_ix a1 (show n < 2 ^ 31 by omega) with ⟨i, hi, rfl⟩ | h
  · refine ⟨0, hv (w i), 0, hv (w i), ?_, ?_, rfl, hR⟩
    · simp only [f_X0_laid, x_isOne _ hn hi, z_bs, if_neg (show ¬ (1 : Int32) = 0 by decide), z_gxn (show i < 8 by omega) (show 8 < 2 ^ 31 by decide), nI_clamp (show i < 2 ^ 31 by omega), hw i hi]
    · simp only [f_X1_laid, y_isOne _ hn hi, z_bs, if_neg (show ¬ (1 : Int32) = 0 by decide), z_gxn (show i < 8 by omega) (show 8 < 2 ^ 31 by decide), nI_clamp (show i < 2 ^ 31 by omega), hw' i hi]
  · refine ⟨0, -1, 0, -1, ?_, ?_, rfl, hR⟩
    · simp only [f_X0_laid, x_isOne0 _ h, z_bs, if_true]
    · simp only [f_X1_laid, y_isOne0 _ (show 0 < n by omega) hn h, z_bs, if_true]
theorem zq_told : zo_told zRel := by
  intro c0 c1 c2 c3 c4 c5 c6 c7 c8 c9 c10 c11 d0 d1 d2 d3 d4 d5 d6 d7 d8 d9 d10 a1 hR
  obtain ⟨n, L, b, w, hI, hX, hM⟩ := zR_in hR
  obtain ⟨x0, x1, hb, hw⟩ := (show zV n L b w c0 c1 c2 c3 from hX)
  obtain ⟨y0, y1, hb', hw'⟩ := (show zV n L b w d0 d1 d2 d3 from hM)
  have hn := hI.2.1
  subst x0 y0 x1 y1
  by_cases k0 : a1 = 0
  · refine ⟨0, nI n, 0, nI n, ?_, ?_, rfl, hR⟩
    · rw [f_X0_told, if_pos k0]
    · rw [f_X1_told, if_pos k0]
  · by_cases k1 : a1 = 1
    · refine ⟨0, nI L, 0, nI L, ?_, ?_, rfl, hR⟩
      · rw [f_X0_told, if_neg k0, if_pos k1]
      · rw [f_X1_told, if_neg k0, if_pos k1]
    · by_cases k2 : a1 = 2
      · have hx : Yd (fun N => f_X0_told N a1 (nI n) (nI L) c2 c3) (zs n (fun i => nI (z_pc (b i)))) := by
          simp only [f_X0_told, if_neg k0, if_neg k1, if_pos k2]
          exact Yd.bind (x_pairs hn (z_row_b hI hb)) (Yd.pure _)
        have hy : Yd (fun N => f_X1_told N a1 (nI n) (nI L) d2 d3) (zs n (fun i => nI (z_pc (b i)))) := by
          simp only [f_X1_told, if_neg k0, if_neg k1, if_pos k2]
          exact y_pairs (nI L) d3 hn (z_row_b hI hb')
        obtain ⟨N1, e1⟩ := hx.ex
        obtain ⟨N2, e2⟩ := hy.ex
        exact ⟨N1, _, N2, _, e1, e2, rfl, hR⟩
      · by_cases k3 : a1 = 3
        · have hx : Yd (fun N => f_X0_told N a1 (nI n) (nI L) c2 c3) (nI ((List.range n).countP (fun j => decide (w j < 8)))) := by
            simp only [f_X0_told, if_neg k0, if_neg k1, if_neg k2, if_pos k3]
            exact Yd.bind (x_givers hn (z_row_w hI hw)) (Yd.pure _)
          have hy : Yd (fun N => f_X1_told N a1 (nI n) (nI L) d2 d3) (nI ((List.range n).countP (fun j => decide (w j < 8)))) := by
            simp only [f_X1_told, if_neg k0, if_neg k1, if_neg k2, if_pos k3]
            exact Yd.bind (y_handMany hn (z_row_w hI hw')) (Yd.pure _)
          obtain ⟨N1, e1⟩ := hx.ex
          obtain ⟨N2, e2⟩ := hy.ex
          exact ⟨N1, _, N2, _, e1, e2, rfl, hR⟩
        · refine ⟨0, -2, 0, -2, ?_, ?_, rfl, hR⟩
          · rw [f_X0_told, if_neg k0, if_neg k1, if_neg k2, if_neg k3]
          · rw [f_X1_told, if_neg k0, if_neg k1, if_neg k2, if_neg k3]
