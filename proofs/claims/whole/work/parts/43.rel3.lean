/-- a hand that is to be a way: what both sides say of it, and its place -/
theorem xy_hand {n L : Nat} {b w : Nat → Nat} {c2 c3 d2 d3 : Nat → Int32} (hI : zI n L b w) (hb : ∀ i, i < n → c2 i = nI (b i)) (hb' : ∀ i, i < n → d2 i = nI (b i)) (hw : ∀ i, i < n → c3 i = hv (w i)) (hw' : ∀ i, i < n → d3 i = hv (w i)) (c4 c5 c6 c7 : Nat → Int32) (d4 d5 : Int32) (d6 : Nat → Int32) : ∃ (c4' c5' c6' c7' : Nat → Int32) (d4' d5' : Int32) (d6' : Nat → Int32), (∃ r : Int32, (r = -3 ∨ r = -5) ∧ Yd (fun N => f_X0_refuseHand N (nI n) (nI L) c2 c3 c4 c5 c6 c7) (r, c4', c5', c6', c7') ∧ Yd (fun N => f_X1_rank N (nI n) (nI L) d2 d3 d4 d5 d6) (r, d4', d5', d6')) ∨ ((∀ j, j < n → w j < 8) ∧ ∃ l1 f l2, zWy n L b = l1 ++ f :: l2 ∧ (∀ j, j < n → f j = w j) ∧ Yd (fun N => f_X0_refuseHand N (nI n) (nI L) c2 c3 c4 c5 c6 c7) (0, c4', c5', c6', c7') ∧ Yd (fun N => f_X1_rank N (nI n) (nI L) d2 d3 d4 d5 d6) (nI l1.length, d4', d5', d6')) := by
  obtain ⟨h2, hn, hL, hL8, _, _⟩ := id hI
  obtain ⟨c4', c5', c6', c7', q⟩ := x_refuseHand (show 0 < n by omega) hn hL hL8 hb (z_row_w hI hw) c4 c5 c6 c7
  obtain ⟨d4', d5', d6', p⟩ := y_rank (L := L) h2 hn hL8 (z_row_b2 hI hb') (z_row_w hI hw') d4 d5 d6
  refine ⟨c4', c5', c6', c7', d4', d5', d6', ?_⟩
  rcases p with ⟨p1, p2⟩ | ⟨p1, p2, p3⟩ | ⟨p1, l1, f, l2, p2, p3, p4⟩
  · rw [if_neg p1] at q
    exact Or.inl ⟨-3, Or.inl rfl, q, p2⟩
  · rw [if_pos p1, if_pos p2] at q
    exact Or.inl ⟨-5, Or.inr rfl, q, p3⟩
  · have hpos : ¬ (zWy n L b).countP (fun f => decide (∀ j, j < n → f j = w j)) = 0 := fun e => by
      have hf : f ∈ zWy n L b := by rw [p2]; exact List.mem_append_right _ List.mem_cons_self
      exact List.countP_eq_zero.mp e f hf (decide_eq_true p3)
    rw [if_pos p1, if_neg hpos] at q
    exact Or.inr ⟨p1, l1, f, l2, p2, p3, q, p4⟩
theorem zq_rank : zo_rank zRel := by
  intro c0 c1 c2 c3 c4 c5 c6 c7 c8 c9 c10 c11 d0 d1 d2 d3 d4 d5 d6 d7 d8 d9 d10 hR
  obtain ⟨n, L, b, w, hI, hX, hM⟩ := zR_in hR
  obtain ⟨x0, x1, hb, hw⟩ := (show zV n L b w c0 c1 c2 c3 from hX)
  obtain ⟨y0, y1, hb', hw'⟩ := (show zV n L b w d0 d1 d2 d3 from hM)
  obtain ⟨h2, hn, hL, hL8, _, _⟩ := id hI
  subst x0 y0 x1 y1
  obtain ⟨c4', c5', c6', c7', d4', d5', d6', h⟩ := xy_hand hI hb hb' hw hw' c4 c5 c6 c7 d4 d5 d6
  rcases h with ⟨r, hr, q1, q2⟩ | ⟨hall, l1, f, l2, hl, hf, q1, q2⟩
  · have hr0 : ¬ r = 0 := by rcases hr with e | e <;> (rw [e]; decide)
    have hx : Yd (fun N => f_X0_rank N (nI n) (nI L) c2 c3 c4 c5 c6 c7) (r, c4', c5', c6', c7') := by
      simp only [f_X0_rank]
      refine Yd.bind q1 ?_
      simp only [if_neg hr0]
      exact Yd.pure _
    obtain ⟨N1, e1⟩ := hx.ex
    obtain ⟨N2, e2⟩ := q2.ex
    exact ⟨N1, _, N2, _, e1, e2, rfl, zR_mk hI ⟨rfl, rfl, hb, hw⟩ ⟨rfl, rfl, hb', hw'⟩⟩
  · obtain ⟨c41, a1, a2⟩ := x_openRows c2 c4'
    obtain ⟨c42, c52, c62, c72, q3⟩ := x_rank_loop (c2 := c2) (b := b) (show 0 < n by omega) hn hL hL8 (fun j hj => ⟨hw j hj, hall j hj⟩) n 0 0 c41 c5' c6' c7' (by omega) (fun j hj => by rw [a1 j (by omega), hb j hj, zrow, if_neg (Nat.not_lt_zero j)])
    rw [z_rank_pos hn hl hf, Int32.zero_add] at q3
    have hx : Yd (fun N => f_X0_rank N (nI n) (nI L) c2 c3 c4 c5 c6 c7) (nI l1.length, c42, c52, c62, c72) := by
      simp only [f_X0_rank]
      refine Yd.bind q1 ?_
      simp only [if_true, a2, z_bs]
      exact q3.diag
    obtain ⟨N1, e1⟩ := hx.ex
    obtain ⟨N2, e2⟩ := q2.ex
    exact ⟨N1, _, N2, _, e1, e2, rfl, zR_mk hI ⟨rfl, rfl, hb, hw⟩ ⟨rfl, rfl, hb', hw'⟩⟩
theorem zq_share : zo_share zRel := by
  intro c0 c1 c2 c3 c4 c5 c6 c7 c8 c9 c10 c11 d0 d1 d2 d3 d4 d5 d6 d7 d8 d9 d10 a1 a2 hR
  obtain ⟨n, L, b, w, hI, hX, hM⟩ := zR_in hR
  obtain ⟨x0, x1, hb, hw⟩ := (show zV n L b w c0 c1 c2 c3 from hX)
  obtain ⟨y0, y1, hb', hw'⟩ := (show zV n L b w d0 d1 d2 d3 from hM)
  obtain ⟨h2, hn, hL, hL8, _, _⟩ := id hI
  subst x0 y0 x1 y1
  rcases z_pair n hn a1 a2 with h | ⟨i, j, hi, hj, rfl, rfl⟩
  · refine ⟨0, (-1, c4, c5, c6, c7), 0, (-1, d4, d5, d6), ?_, ?_, rfl, hR⟩
    · rw [f_X0_share]
      exact x_ones2 0 hn h _ _
    · rw [f_X1_share]
      exact y_ones2 0 (by omega) hn h _ _
  · obtain ⟨d4', d5', d6', q2⟩ := y_share (L := L) h2 hn hL8 (z_row_b2 hI hb') (z_row_w hI hw') hi hj d4 d5 d6
    have hg := x_givesBelow hn (Nat.le_of_lt hi) (z_row_w hI hw)
    obtain ⟨N2, e2⟩ := q2.ex
    by_cases c : ∀ q, q < i → w q < 8
    · rw [if_pos c] at hg e2
      obtain ⟨c41, a1, a2⟩ := x_openRows c2 c4
      obtain ⟨c4', c5', c6', c7', q1⟩ := x_share (c2 := c2) (b := b) (show 0 < n by omega) hn hL hL8 hb (z_row_w hI hw) hi hj c5 c6 c7 i 0 c41 (by omega) (fun q hq => by rw [a1 q (by omega), hb q hq, zrow, if_neg (Nat.not_lt_zero q)])
      have hx : Yd (fun N => f_X0_share N (nI i) (nI j) (nI n) (nI L) c2 c3 c4 c5 c6 c7) (nI ((zWy n L b).countP (fun f => decide ((∀ q, q < i → f q = w q) ∧ f i = j))), c4', c5', c6', c7') := by
        simp only [f_X0_share, x_isOne _ hn hi, x_isOne _ hn hj, z_bs, if_neg (show ¬ (1 : Int32) = 0 by decide)]
        refine Yd.bind hg ?_
        simp only [if_neg (show ¬ (1 : Int32) = 0 by decide), a2, z_bs]
        exact q1.diag
      obtain ⟨N1, e1⟩ := hx.ex
      exact ⟨N1, _, N2, _, e1, e2, rfl, zR_mk hI ⟨rfl, rfl, hb, hw⟩ ⟨rfl, rfl, hb', hw'⟩⟩
    · rw [if_neg c] at hg e2
      have hx : Yd (fun N => f_X0_share N (nI i) (nI j) (nI n) (nI L) c2 c3 c4 c5 c6 c7) (-3, c4, c5, c6, c7) := by
        simp only [f_X0_share, x_isOne _ hn hi, x_isOne _ hn hj, z_bs, if_neg (show ¬ (1 : Int32) = 0 by decide)]
        refine Yd.bind hg ?_
        simp only [if_true]
        exact Yd.pure _
      obtain ⟨N1, e1⟩ := hx.ex
      exact ⟨N1, _, N2, _, e1, e2, rfl, zR_mk hI ⟨rfl, rfl, hb, hw⟩ ⟨rfl, rfl, hb', hw'⟩⟩
theorem zq_sure : zo_sure zRel := by
  intro c0 c1 c2 c3 c4 c5 c6 c7 c8 c9 c10 c11 d0 d1 d2 d3 d4 d5 d6 d7 d8 d9 d10 a1 a2 hR
  obtain ⟨n, L, b, w, hI, hX, hM⟩ := zR_in hR
  obtain ⟨x0, x1, hb, hw⟩ := (show zV n L b w c0 c1 c2 c3 from hX)
  obtain ⟨y0, y1, hb', hw'⟩ := (show zV n L b w d0 d1 d2 d3 from hM)
  obtain ⟨h2, hn, hL, hL8, _, _⟩ := id hI
  subst x0 y0 x1 y1
  have h0 : 0 < n := by omega
  rcases z_pair n hn a1 a2 with h | ⟨i, j, hi, hj, rfl, rfl⟩
  · refine ⟨0, (-1, c4, c5, c6, c7), 0, (-1, d4, d5, d6), ?_, ?_, rfl, hR⟩
    · rw [f_X0_sure]
      exact x_ones2 0 hn h _ _
    · rw [f_X1_sure]
      exact y_ones2 0 h0 hn h _ _
  · have hw8 := zI_w hI i hi
    by_cases c : w i < 8
    · obtain ⟨c41, c51, c61, c71, q1, q2⟩ := x_giving h0 hn hL hL8 hb hi hw8 c4 c5 c6 c7
      obtain ⟨d61, p1, p2⟩ := y_go_all (L := L) h2 hn hL8 (z_row_b2 hI hb') d4 d5 d6
      obtain ⟨r, d6', p3, p4⟩ := y_sure_loop (c2 := d2) (t := w i) hn hi hj c (hw' i hi) (zWy n L b) [] d61 (-6) 1 (fun f hf => by
        have h1 := (zWy_in hn (List.nil_append (zWy n L b) ▸ hf)).1
        have h2 := (h1 i hi).1
        have h3 := (h1 j hj).1
        exact ⟨by omega, by omega⟩) p2 (Or.inl ⟨fun f hf => (by cases hf), rfl, rfl⟩)
      rw [List.nil_append] at p3
      have hy : Yd (fun N => f_X1_sure N (nI i) (nI j) (nI n) (nI L) d2 d3 d4 d5 d6) (r, nI (2 ^ n - 1), 0, d6') := by
        simp only [f_X1_sure, y_isOne _ hn hi, y_isOne _ hn hj, z_bs, if_neg (show ¬ (1 : Int32) = 0 by decide), z_gxn (show i < 8 by omega) (show 8 < 2 ^ 31 by decide), nI_clamp (show i < 2 ^ 31 by omega), hw' i hi, if_pos (show (0 : Int32) ≤ hv (w i) from (hv_nn hw8).mpr c), y_all _ hn]
        exact Yd.bind p1 p4.diag
      obtain ⟨N2, e2⟩ := hy.ex
      have hlt : (zWy n L b).countP (fun f => f i == w i) < 2 ^ 31 := Nat.lt_of_le_of_lt List.countP_le_length (zWy_lt hn L b)
      have hpre : ∀ r', Yd (fun N => (if nI ((zWy n L b).countP (fun f => f i == w i)) = 0 then some ((-5 : Int32), c41, c51, c61, c71) else Option.bind (f_X0_givesAlike N (nI j) (nI ((zWy n L b).countP (fun f => f i == w i))) (nI n) (nI L) c41 c51 c61 c71) (fun u54 => (if u54.1 = 0 then some ((0 : Int32), u54.2.1, u54.2.2.1, u54.2.2.2.1, u54.2.2.2.2) else some ((1 : Int32), u54.2.1, u54.2.2.1, u54.2.2.2.1, u54.2.2.2.2))))) r' → Yd (fun N => f_X0_sure N (nI i) (nI j) (nI n) (nI L) c2 c3 c4 c5 c6 c7) r' := by
        intro r' h
        simp only [f_X0_sure, x_isOne _ hn hi, x_isOne _ hn hj, z_bs, if_neg (show ¬ (1 : Int32) = 0 by decide), z_gxn (show i < 8 by omega) (show 8 < 2 ^ 31 by decide), nI_clamp (show i < 2 ^ 31 by omega), hw i hi, if_neg (show ¬ hv (w i) = -6 from fun e => by have := (hv_none hw8).mp e; omega)]
        exact Yd.bind q2 h
      by_cases cz : (zWy n L b).countP (fun f => f i == w i) = 0
      · have hr : r = -5 := by
          rcases p3 with ⟨_, e⟩ | ⟨⟨f, h1, h2⟩, _⟩
          · exact e
          · exact absurd (beq_iff_eq.mpr h2) (List.countP_eq_zero.mp cz f h1)
        have hx : Yd (fun N => f_X0_sure N (nI i) (nI j) (nI n) (nI L) c2 c3 c4 c5 c6 c7) (-5, c41, c51, c61, c71) := by
          apply hpre
          simp only [if_pos (show nI ((zWy n L b).countP (fun f => f i == w i)) = 0 by rw [cz]; exact nI_0)]
          exact Yd.pure _
        obtain ⟨N1, e1⟩ := hx.ex
        exact ⟨N1, _, N2, _, e1, e2, hr.symm, zR_mk hI ⟨rfl, rfl, hb, hw⟩ ⟨rfl, rfl, hb', hw'⟩⟩
      · have hp := Nat.pos_of_ne_zero cz
        obtain ⟨v, c42, c52, c62, c72, s1, s2⟩ := x_alike_loop (c4 := c41) (c5 := c51) (c6 := c61) (c7 := c71) h0 hn hL hL8 hj hw8 hi (zI_b hI) hp n 0 (by omega) (fun x hx _ => q1 x hx) (fun _ _ _ => Nat.zero_le _)
        have hga : Yd (fun N => f_X0_givesAlike N (nI j) (nI ((zWy n L b).countP (fun f => f i == w i))) (nI n) (nI L) c41 c51 c61 c71) (v, c42, c52, c62, c72) := by
          simp only [f_X0_givesAlike, x_isOne _ hn hj, z_bs, if_neg (show ¬ (1 : Int32) = 0 by decide), z_gxn (show j < 8 by omega) (show 8 < 2 ^ 31 by decide), nI_clamp (show j < 2 ^ 31 by omega), q1 j hj]
          exact s2.diag
        have hr : r = v := by
          rcases p3 with ⟨h, _⟩ | ⟨_, h⟩
          · obtain ⟨f, hf, hfi⟩ := List.countP_pos_iff.mp hp
            exact absurd (beq_iff_eq.mp hfi) (h f hf)
          · rcases h with ⟨e, h⟩ | ⟨e, h⟩
            · rcases s1 with ⟨e', _⟩ | ⟨_, h'⟩
              · rw [e, e']
              · exact absurd h h'
            · rcases s1 with ⟨_, h'⟩ | ⟨e', _⟩
              · exact absurd h' h
              · rw [e, e']
        have hx : Yd (fun N => f_X0_sure N (nI i) (nI j) (nI n) (nI L) c2 c3 c4 c5 c6 c7) (v, c42, c52, c62, c72) := by
          apply hpre
          simp only [if_neg (nI_ne0 hp hlt)]
          refine Yd.bind hga ?_
          rcases s1 with ⟨e, _⟩ | ⟨e, _⟩
          · simp only [e, if_neg (show ¬ (1 : Int32) = 0 by decide)]
            exact Yd.pure _
          · simp only [e, if_true]
            exact Yd.pure _
        obtain ⟨N1, e1⟩ := hx.ex
        exact ⟨N1, _, N2, _, e1, e2, hr.symm, zR_mk hI ⟨rfl, rfl, hb, hw⟩ ⟨rfl, rfl, hb', hw'⟩⟩
    · refine ⟨0, (-3, c4, c5, c6, c7), 0, (-3, d4, d5, d6), ?_, ?_, rfl, hR⟩
      · simp only [f_X0_sure, x_isOne _ hn hi, x_isOne _ hn hj, z_bs, if_neg (show ¬ (1 : Int32) = 0 by decide), z_gxn (show i < 8 by omega) (show 8 < 2 ^ 31 by decide), nI_clamp (show i < 2 ^ 31 by omega), hw i hi, if_pos (show hv (w i) = -6 from (hv_none hw8).mpr (by omega))]
      · simp only [f_X1_sure, y_isOne _ hn hi, y_isOne _ hn hj, z_bs, if_neg (show ¬ (1 : Int32) = 0 by decide), z_gxn (show i < 8 by omega) (show 8 < 2 ^ 31 by decide), nI_clamp (show i < 2 ^ 31 by omega), hw' i hi, if_neg (show ¬ (0 : Int32) ≤ hv (w i) from fun e => c ((hv_nn hw8).mp e))]
