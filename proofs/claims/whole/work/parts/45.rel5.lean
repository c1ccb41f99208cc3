theorem xy_nomend {m : Nat} (h : m ≤ 8) : (0 : Int32) ≤ nI m := nI_pos' (by omega)
/-- the fewest changes, how many ways of mending: what stands in the fields of both sides -/
theorem xy_zp {n x : Nat} {s : zSt} {c9 d10 : Nat → Int32} {c10 c11 d8 d9 : Int32} (hX : zpX n x s c9 c10 c11) (hM : zpM n s d8 d9 d10) (hs : ∀ q c h, s = some (q, c, h) → c < 2 ^ 31 ∧ ∀ i, i < n → i ≠ x → h i < 8) : (c11 = 0 ∧ d8 = -6 ∧ d9 = 0) ∨ (¬ c11 = 0 ∧ 0 ≤ d8 ∧ c10 = d8 ∧ c11 = d9 ∧ ∀ i, i < n → i ≠ x → c9 i = d10 i) := by
  match s, hX, hM, hs with
  | none, hX, hM, _ => exact Or.inl ⟨hX.2, hM.1, hM.2⟩
  | some (m, c, h), hX, hM, hs =>
    obtain ⟨a1, a2, a3, a4, a5⟩ := (show c10 = nI m ∧ c11 = nI c ∧ 1 ≤ c ∧ m ≤ 8 ∧ ∀ i, i < n → i ≠ x → c9 i = nI (h i) from hX)
    obtain ⟨b1, b2, b3, b4⟩ := (show d8 = nI m ∧ d9 = nI c ∧ m ≤ 8 ∧ ∀ i, i < n → d10 i = hv (h i) from hM)
    obtain ⟨e1, e2⟩ := hs m c h rfl
    refine Or.inr ⟨?_, ?_, a1.trans b1.symm, a2.trans b2.symm, fun i hi hix => ?_⟩
    · rw [a2]
      exact nI_ne0 (by omega) e1
    · rw [b1]
      exact xy_nomend a4
    · rw [a5 i hi hix, b4 i hi, hv_in (e2 i hi hix)]
theorem zq_changes : zo_changes zRel := by
  intro c0 c1 c2 c3 c4 c5 c6 c7 c8 c9 c10 c11 d0 d1 d2 d3 d4 d5 d6 d7 d8 d9 d10 a1 hR
  obtain ⟨n, L, b, w, hI, hX, hM⟩ := zR_in hR
  obtain ⟨x0, x1, hb, hw⟩ := (show zV n L b w c0 c1 c2 c3 from hX)
  obtain ⟨y0, y1, hb', hw'⟩ := (show zV n L b w d0 d1 d2 d3 from hM)
  obtain ⟨h2, hn, hL, hL8, _, _⟩ := id hI
  subst x0 y0 x1 y1
  rcases z_ix a1 (show n < 2 ^ 31 by omega) with ⟨x, hx, rfl⟩ | h
  · obtain ⟨c4', c5', c6', c7', d4', d5', d6', d8', d9', d10', hh⟩ := xy_mendAll hI hb hb' hw hw' hx c4 c5 c6 c7 c8 c9 c10 c11 d4 d5 d6 d8 d9 d10
    rcases hh with ⟨r, r1, r2, q1, q2⟩ | ⟨s, c8', c9', c10', c11', s1, s2, s3, q1, q2, q3⟩
    · have hx : Yd (fun N => f_X0_changes N (nI x) (nI n) (nI L) c2 c3 c4 c5 c6 c7 c8 c9 c10 c11) (r, c4', c5', c6', c7', c8, c9, c10, c11) := by
        simp only [f_X0_changes, f_X0_refuseFall, x_isOne _ hn hx, z_bs, if_neg (show ¬ (1 : Int32) = 0 by decide)]
        refine Yd.bind (Yd.bind q1 (Yd.pure _)) ?_
        simp only [if_neg r1]
        exact Yd.pure _
      have hy : Yd (fun N => f_X1_changes N (nI x) (nI n) (nI L) d2 d3 d4 d5 d6 d8 d9 d10) (r, d4', d5', d6', d8', d9', d10') := by
        simp only [f_X1_changes]
        refine Yd.bind q2 ?_
        simp only [if_neg r2]
        exact Yd.pure _
      obtain ⟨N1, e1⟩ := hx.ex
      obtain ⟨N2, e2⟩ := hy.ex
      exact ⟨N1, _, N2, _, e1, e2, rfl, zR_mk hI ⟨rfl, rfl, hb, hw⟩ ⟨rfl, rfl, hb', hw'⟩⟩
    · have hy : Yd (fun N => f_X1_changes N (nI x) (nI n) (nI L) d2 d3 d4 d5 d6 d8 d9 d10) (d8', d4', d5', d6', d8', d9', d10') := by
        simp only [f_X1_changes]
        refine Yd.bind q3 ?_
        simp only [if_pos (show (0 : Int32) ≤ 0 by decide)]
        exact Yd.pure _
      obtain ⟨N2, e2⟩ := hy.ex
      rcases xy_zp s1 s2 s3 with ⟨k1, k2, _⟩ | ⟨k1, _, k3, _, _⟩
      · have hx : Yd (fun N => f_X0_changes N (nI x) (nI n) (nI L) c2 c3 c4 c5 c6 c7 c8 c9 c10 c11) (-6, c4', c5', c6', c7', c8', c9', c10', c11') := by
          simp only [f_X0_changes, f_X0_refuseFall, x_isOne _ hn hx, z_bs, if_neg (show ¬ (1 : Int32) = 0 by decide)]
          refine Yd.bind (Yd.bind q1 (Yd.pure _)) ?_
          simp only [if_true]
          refine Yd.bind q2 ?_
          simp only [if_pos k1]
          exact Yd.pure _
        obtain ⟨N1, e1⟩ := hx.ex
        exact ⟨N1, _, N2, _, e1, e2, k2.symm, zR_mk hI ⟨rfl, rfl, hb, hw⟩ ⟨rfl, rfl, hb', hw'⟩⟩
      · have hx : Yd (fun N => f_X0_changes N (nI x) (nI n) (nI L) c2 c3 c4 c5 c6 c7 c8 c9 c10 c11) (c10', c4', c5', c6', c7', c8', c9', c10', c11') := by
          simp only [f_X0_changes, f_X0_refuseFall, x_isOne _ hn hx, z_bs, if_neg (show ¬ (1 : Int32) = 0 by decide)]
          refine Yd.bind (Yd.bind q1 (Yd.pure _)) ?_
          simp only [if_true]
          refine Yd.bind q2 ?_
          simp only [if_neg k1]
          exact Yd.pure _
        obtain ⟨N1, e1⟩ := hx.ex
        exact ⟨N1, _, N2, _, e1, e2, k3, zR_mk hI ⟨rfl, rfl, hb, hw⟩ ⟨rfl, rfl, hb', hw'⟩⟩
  · refine ⟨0, (-1, c4, c5, c6, c7, c8, c9, c10, c11), 0, (-1, d4, d5, d6, d8, d9, d10), ?_, ?_, rfl, hR⟩
    · simp only [f_X0_changes, f_X0_refuseFall, x_isOne0 _ h, z_bs, if_true, if_neg (show ¬ (-1 : Int32) = 0 by decide)]
    · simp only [f_X1_changes, f_X1_mendAll, y_isOne0 _ (show 0 < n by omega) hn h, z_bs, if_true, if_neg (show ¬ (0 : Int32) ≤ -1 by decide)]
theorem zq_mends : zo_mends zRel := by
  intro c0 c1 c2 c3 c4 c5 c6 c7 c8 c9 c10 c11 d0 d1 d2 d3 d4 d5 d6 d7 d8 d9 d10 a1 hR
  obtain ⟨n, L, b, w, hI, hX, hM⟩ := zR_in hR
  obtain ⟨x0, x1, hb, hw⟩ := (show zV n L b w c0 c1 c2 c3 from hX)
  obtain ⟨y0, y1, hb', hw'⟩ := (show zV n L b w d0 d1 d2 d3 from hM)
  obtain ⟨h2, hn, hL, hL8, _, _⟩ := id hI
  subst x0 y0 x1 y1
  rcases z_ix a1 (show n < 2 ^ 31 by omega) with ⟨x, hx, rfl⟩ | h
  · obtain ⟨c4', c5', c6', c7', d4', d5', d6', d8', d9', d10', hh⟩ := xy_mendAll hI hb hb' hw hw' hx c4 c5 c6 c7 c8 c9 c10 c11 d4 d5 d6 d8 d9 d10
    rcases hh with ⟨r, r1, r2, q1, q2⟩ | ⟨s, c8', c9', c10', c11', s1, s2, s3, q1, q2, q3⟩
    · have hx : Yd (fun N => f_X0_mends N (nI x) (nI n) (nI L) c2 c3 c4 c5 c6 c7 c8 c9 c10 c11) (r, c4', c5', c6', c7', c8, c9, c10, c11) := by
        simp only [f_X0_mends, f_X0_refuseFall, x_isOne _ hn hx, z_bs, if_neg (show ¬ (1 : Int32) = 0 by decide)]
        refine Yd.bind (Yd.bind q1 (Yd.pure _)) ?_
        simp only [if_neg r1]
        exact Yd.pure _
      have hy : Yd (fun N => f_X1_mends N (nI x) (nI n) (nI L) d2 d3 d4 d5 d6 d8 d9 d10) (r, d4', d5', d6', d8', d9', d10') := by
        simp only [f_X1_mends]
        refine Yd.bind q2 ?_
        simp only [if_neg r2]
        exact Yd.pure _
      obtain ⟨N1, e1⟩ := hx.ex
      obtain ⟨N2, e2⟩ := hy.ex
      exact ⟨N1, _, N2, _, e1, e2, rfl, zR_mk hI ⟨rfl, rfl, hb, hw⟩ ⟨rfl, rfl, hb', hw'⟩⟩
    · have hy : Yd (fun N => f_X1_mends N (nI x) (nI n) (nI L) d2 d3 d4 d5 d6 d8 d9 d10) (d9', d4', d5', d6', d8', d9', d10') := by
        simp only [f_X1_mends]
        refine Yd.bind q3 ?_
        simp only [if_pos (show (0 : Int32) ≤ 0 by decide)]
        exact Yd.pure _
      have hx : Yd (fun N => f_X0_mends N (nI x) (nI n) (nI L) c2 c3 c4 c5 c6 c7 c8 c9 c10 c11) (c11', c4', c5', c6', c7', c8', c9', c10', c11') := by
        simp only [f_X0_mends, f_X0_refuseFall, x_isOne _ hn hx, z_bs, if_neg (show ¬ (1 : Int32) = 0 by decide)]
        refine Yd.bind (Yd.bind q1 (Yd.pure _)) ?_
        simp only [if_true]
        exact Yd.bind q2 (Yd.pure _)
      have hr : c11' = d9' := by
        rcases xy_zp s1 s2 s3 with ⟨k1, _, k3⟩ | ⟨_, _, _, k4, _⟩
        · rw [k1, k3]
        · exact k4
      obtain ⟨N1, e1⟩ := hx.ex
      obtain ⟨N2, e2⟩ := hy.ex
      exact ⟨N1, _, N2, _, e1, e2, hr, zR_mk hI ⟨rfl, rfl, hb, hw⟩ ⟨rfl, rfl, hb', hw'⟩⟩
  · refine ⟨0, (-1, c4, c5, c6, c7, c8, c9, c10, c11), 0, (-1, d4, d5, d6, d8, d9, d10), ?_, ?_, rfl, hR⟩
    · simp only [f_X0_mends, f_X0_refuseFall, x_isOne0 _ h, z_bs, if_true, if_neg (show ¬ (-1 : Int32) = 0 by decide)]
    · simp only [f_X1_mends, f_X1_mendAll, y_isOne0 _ (show 0 < n by omega) hn h, z_bs, if_true, if_neg (show ¬ (0 : Int32) ≤ -1 by decide)]
theorem zq_mend : zo_mend zRel := by
  intro c0 c1 c2 c3 c4 c5 c6 c7 c8 c9 c10 c11 d0 d1 d2 d3 d4 d5 d6 d7 d8 d9 d10 a1 a2 hR
  obtain ⟨n, L, b, w, hI, hX, hM⟩ := zR_in hR
  obtain ⟨x0, x1, hb, hw⟩ := (show zV n L b w c0 c1 c2 c3 from hX)
  obtain ⟨y0, y1, hb', hw'⟩ := (show zV n L b w d0 d1 d2 d3 from hM)
  obtain ⟨h2, hn, hL, hL8, _, _⟩ := id hI
  subst x0 y0 x1 y1
  rcases z_pair n hn a1 a2 with h | ⟨x, j, hxn, hj, rfl, rfl⟩
  · refine ⟨0, (-1, c4, c5, c6, c7, c8, c9, c10, c11), 0, (-1, d4, d5, d6, d8, d9, d10), ?_, ?_, rfl, hR⟩
    · rw [f_X0_mend]
      exact x_ones2 0 hn h _ _
    · rw [f_X1_mend]
      exact y_ones2 0 (by omega) hn h _ _
  · by_cases hxj : x = j
    · refine ⟨0, (-1, c4, c5, c6, c7, c8, c9, c10, c11), 0, (-1, d4, d5, d6, d8, d9, d10), ?_, ?_, rfl, hR⟩
      · simp only [f_X0_mend, x_isOne _ hn hxn, x_isOne _ hn hj, z_bs, if_neg (show ¬ (1 : Int32) = 0 by decide), if_pos (congrArg nI hxj)]
      · simp only [f_X1_mend, y_isOne _ hn hxn, y_isOne _ hn hj, z_bs, if_neg (show ¬ (1 : Int32) = 0 by decide), if_pos (congrArg nI hxj)]
    · have hne : ¬ nI x = nI j := fun e => hxj ((nI_eq (by omega) (by omega)).mp e)
      obtain ⟨c4', c5', c6', c7', d4', d5', d6', d8', d9', d10', hh⟩ := xy_mendAll hI hb hb' hw hw' hxn c4 c5 c6 c7 c8 c9 c10 c11 d4 d5 d6 d8 d9 d10
      rcases hh with ⟨r, r1, r2, q1, q2⟩ | ⟨s, c8', c9', c10', c11', s1, s2, s3, q1, q2, q3⟩
      · have hx : Yd (fun N => f_X0_mend N (nI x) (nI j) (nI n) (nI L) c2 c3 c4 c5 c6 c7 c8 c9 c10 c11) (r, c4', c5', c6', c7', c8, c9, c10, c11) := by
          simp only [f_X0_mend, x_isOne _ hn hxn, x_isOne _ hn hj, z_bs, if_neg (show ¬ (1 : Int32) = 0 by decide), if_neg hne]
          refine Yd.bind q1 ?_
          simp only [if_neg r1]
          exact Yd.pure _
        have hy : Yd (fun N => f_X1_mend N (nI x) (nI j) (nI n) (nI L) d2 d3 d4 d5 d6 d8 d9 d10) (r, d4', d5', d6', d8', d9', d10') := by
          simp only [f_X1_mend, y_isOne _ hn hxn, y_isOne _ hn hj, z_bs, if_neg (show ¬ (1 : Int32) = 0 by decide), if_neg hne]
          refine Yd.bind q2 ?_
          simp only [if_neg r2]
          exact Yd.pure _
        obtain ⟨N1, e1⟩ := hx.ex
        obtain ⟨N2, e2⟩ := hy.ex
        exact ⟨N1, _, N2, _, e1, e2, rfl, zR_mk hI ⟨rfl, rfl, hb, hw⟩ ⟨rfl, rfl, hb', hw'⟩⟩
      · have hg : ∀ {α : Type} (u : Option α), z_gx (nI j) 8 u = u := fun u => z_gxn (show j < 8 by omega) (show 8 < 2 ^ 31 by decide)
        rcases xy_zp s1 s2 s3 with ⟨k1, k2, _⟩ | ⟨k1, k2, _, _, k5⟩
        · have hx : Yd (fun N => f_X0_mend N (nI x) (nI j) (nI n) (nI L) c2 c3 c4 c5 c6 c7 c8 c9 c10 c11) (-6, c4', c5', c6', c7', c8', c9', c10', c11') := by
            simp only [f_X0_mend, x_isOne _ hn hxn, x_isOne _ hn hj, z_bs, if_neg (show ¬ (1 : Int32) = 0 by decide), if_neg hne]
            refine Yd.bind q1 ?_
            simp only [if_true]
            refine Yd.bind q2 ?_
            simp only [if_pos k1]
            exact Yd.pure _
          have hy : Yd (fun N => f_X1_mend N (nI x) (nI j) (nI n) (nI L) d2 d3 d4 d5 d6 d8 d9 d10) (-6, d4', d5', d6', d8', d9', d10') := by
            simp only [f_X1_mend, y_isOne _ hn hxn, y_isOne _ hn hj, z_bs, if_neg (show ¬ (1 : Int32) = 0 by decide), if_neg hne]
            refine Yd.bind q3 ?_
            simp only [if_pos (show (0 : Int32) ≤ 0 by decide), if_neg (show ¬ (0 : Int32) ≤ d8' by rw [k2]; decide)]
            exact Yd.pure _
          obtain ⟨N1, e1⟩ := hx.ex
          obtain ⟨N2, e2⟩ := hy.ex
          exact ⟨N1, _, N2, _, e1, e2, rfl, zR_mk hI ⟨rfl, rfl, hb, hw⟩ ⟨rfl, rfl, hb', hw'⟩⟩
        · have hx : Yd (fun N => f_X0_mend N (nI x) (nI j) (nI n) (nI L) c2 c3 c4 c5 c6 c7 c8 c9 c10 c11) (c9' j, c4', c5', c6', c7', c8', c9', c10', c11') := by
            simp only [f_X0_mend, x_isOne _ hn hxn, x_isOne _ hn hj, z_bs, if_neg (show ¬ (1 : Int32) = 0 by decide), if_neg hne]
            refine Yd.bind q1 ?_
            simp only [if_true]
            refine Yd.bind q2 ?_
            simp only [if_neg k1, hg, nI_clamp (show j < 2 ^ 31 by omega)]
            exact Yd.pure _
          have hy : Yd (fun N => f_X1_mend N (nI x) (nI j) (nI n) (nI L) d2 d3 d4 d5 d6 d8 d9 d10) (d10' j, d4', d5', d6', d8', d9', d10') := by
            simp only [f_X1_mend, y_isOne _ hn hxn, y_isOne _ hn hj, z_bs, if_neg (show ¬ (1 : Int32) = 0 by decide), if_neg hne]
            refine Yd.bind q3 ?_
            simp only [if_pos (show (0 : Int32) ≤ 0 by decide), if_pos k2, hg, nI_clamp (show j < 2 ^ 31 by omega)]
            exact Yd.pure _
          obtain ⟨N1, e1⟩ := hx.ex
          obtain ⟨N2, e2⟩ := hy.ex
          exact ⟨N1, _, N2, _, e1, e2, k5 j hj (fun e => hxj e.symm), zR_mk hI ⟨rfl, rfl, hb, hw⟩ ⟨rfl, rfl, hb', hw'⟩⟩
theorem zq_all : zo_all zRel := ⟨zq_init, zq_ones, zq_may, zq_couple, zq_bar, zq_least, zq_ways, zq_free, zq_way, zq_rounds, zq_both, zq_rooks, zq_heap, zq_lay, zq_laid, zq_draw, zq_rank, zq_share, zq_knows, zq_sure, zq_changes, zq_mends, zq_mend, zq_told⟩
