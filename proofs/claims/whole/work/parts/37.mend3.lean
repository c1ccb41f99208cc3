/-! the reference's search for mends -/
def zpM (n : Nat) (s : zSt) (c8 c9 : Int32) (c10 : Nat → Int32) : Prop := match s with
  | none => c8 = -6 ∧ c9 = 0
  | some (m, c, h) => c8 = nI m ∧ c9 = nI c ∧ m ≤ 8 ∧ ∀ i, i < n → c10 i = hv (h i)
theorem y_mend_count {n L x : Nat} (hn : n ≤ 8) {w f : Nat → Nat} {c2 c3 c6 : Nat → Int32} (hw : ∀ j, j < n → c3 j = hv (w j) ∧ w j ≤ 8) (hf : ∀ j, j < n → c6 j = hv (f j) ∧ f j ≤ 8) (hx : x < n) (c4 c5 c8 c9 : Int32) (c10 : Nat → Int32) : ∀ (d k : Nat), k + d = n → ∃ K, ∀ N p, K ≤ N → K ≤ p → ∀ r, f_X1_mendAll_b59 N (nI n) (nI L) c2 c3 r p (nI x) (nI (zch w x k f)) (nI k) c4 c5 c6 c8 c9 c10 = (if c8 < 0 then f_X1_mendAll_b120 N (nI n) (nI L) c2 c3 r (nI x) (nI (zch w x n f)) c4 c5 c6 c8 c9 c10 else (if c8 ≤ nI (zch w x n f) then f_X1_mendAll_b162 N (nI n) (nI L) c2 c3 r (nI x) (nI (zch w x n f)) c4 c5 c6 c8 c9 c10 else f_X1_mendAll_b120 N (nI n) (nI L) c2 c3 r (nI x) (nI (zch w x n f)) c4 c5 c6 c8 c9 c10)) := by
  intro d
  induction d with
  | zero =>
    intro k hk
    obtain rfl : k = n := by omega
    refine ⟨1, fun N p _ hp r => ?_⟩
    obtain ⟨p, rfl⟩ : ∃ q, p = q + 1 := ⟨p - 1, by omega⟩
    rw [f_X1_mendAll_b59, if_pos (nI_le (Nat.le_refl k) (by omega))]
  | succ d ih =>
    intro k hk
    have hkn : k < n := by omega
    obtain ⟨K, hK⟩ := ih (k + 1) (by omega)
    refine ⟨K + 1, fun N p hN hp r => ?_⟩
    obtain ⟨p, rfl⟩ : ∃ q, p = q + 1 := ⟨p - 1, by omega⟩
    have h1 := hK N p (by omega) (by omega) r
    rw [zch_succ] at h1
    rw [← h1, f_X1_mendAll_b59, if_neg (nI_ge hkn (by omega))]
    by_cases e : k = x
    · rw [if_pos (congrArg nI e), if_neg (show ¬ (k != x && f k != w k) = true by simp [e])]
      rw [f_X1_mendAll_b96, f_X1_mendAll_b97, Int32.add_zero, nI_1, Nat.add_zero (zch w x k f)]
    · rw [if_neg (show ¬ nI k = nI x from fun q => e ((nI_eq (by omega) (by omega)).mp q)), z_gxn (show k < 8 by omega) (by decide), z_gxn (show k < 8 by omega) (by decide), nI_clamp (show k < 2 ^ 31 by omega), (hw k hkn).1, (hf k hkn).1]
      by_cases c : f k = w k
      · rw [if_pos (congrArg hv c), if_neg (show ¬ (k != x && f k != w k) = true by simp [c]), f_X1_mendAll_b96, f_X1_mendAll_b97, Int32.add_zero, nI_1, Nat.add_zero (zch w x k f)]
      · rw [if_neg (show ¬ hv (f k) = hv (w k) from fun q => c (hv_inj (hf k hkn).2 (hw k hkn).2 q)), if_pos (show (k != x && f k != w k) = true by simp [c, e]), f_X1_mendAll_b97, nI_1, nI_1]
theorem y_mend_copy {n L x : Nat} (hn : n ≤ 8) {c2 c3 c6 : Nat → Int32} (x3 c4 c5 c8 c9 : Int32) : ∀ (d k : Nat) (c10 : Nat → Int32), k + d = n → (∀ i, i < k → c10 i = c6 i) → ∃ c10' : Nat → Int32, (∀ i, i < n → c10' i = c6 i) ∧ ∃ K, ∀ N p, K ≤ N → K ≤ p → ∀ r, f_X1_mendAll_b133 N (nI n) (nI L) c2 c3 r p (nI x) x3 (nI k) c4 c5 c6 c8 c9 c10 = f_X1_mendAll_b162 N (nI n) (nI L) c2 c3 r (nI x) x3 c4 c5 c6 c8 c9 c10' := by
  intro d
  induction d with
  | zero =>
    intro k c10 hk h
    obtain rfl : k = n := by omega
    refine ⟨c10, h, 1, fun N p _ hp r => ?_⟩
    obtain ⟨p, rfl⟩ : ∃ q, p = q + 1 := ⟨p - 1, by omega⟩
    rw [f_X1_mendAll_b133, if_pos (nI_le (Nat.le_refl k) (by omega))]
  | succ d ih =>
    intro k c10 hk h
    have hkn : k < n := by omega
    obtain ⟨c10', h1, K, hK⟩ := ih (k + 1) (upd c10 k (c6 k)) (by omega) (fun i hi => by
      by_cases e : i = k
      · rw [e, pk_us]
      · rw [pk_un e]; exact h i (by omega))
    refine ⟨c10', h1, K + 1, fun N p hN hp r => ?_⟩
    obtain ⟨p, rfl⟩ : ∃ q, p = q + 1 := ⟨p - 1, by omega⟩
    rw [f_X1_mendAll_b133, if_neg (nI_ge hkn (by omega)), z_gxn (show k < 8 by omega) (by decide), z_gxn (show k < 8 by omega) (by decide), nI_clamp (show k < 2 ^ 31 by omega), nI_1]
    exact hK N p (by omega) (by omega) r
theorem y_mend_loop {n m L x : Nat} (hn : n ≤ 8) (hx : x < n) {w : Nat → Nat} {c2 c3 : Nat → Int32} {c5 : Int32} (hw : ∀ j, j < n → c3 j = hv (w j) ∧ w j ≤ 8) : ∀ (l : List (Nat → Nat)) (s : zSt) (c6 : Nat → Int32) (c8 c9 : Int32) (c10 : Nat → Int32), (∀ f, f ∈ l → ∀ j, f j ≤ 8) → zNX n m L c2 c5 l c6 → zpM n s c8 c9 c10 → ∃ (c6' : Nat → Int32) (c8' c9' : Int32) (c10' : Nat → Int32), zpM n (zfo (zch w x n) l s) c8' c9' c10' ∧ Yl (fun N q => f_X1_mendAll_b47 N (nI n) (nI L) c2 c3 q (nI x) (nI m) c5 c6 c8 c9 c10) (0, nI m, c5, c6', c8', c9', c10') := by
  intro l
  induction l with
  | nil =>
    rintro s c6 c8 c9 c10 _ ⟨c', h⟩ hs
    refine ⟨c', c8, c9, c10, hs, Yl.step ?_⟩
    simp only [f_X1_mendAll_b47]
    refine Yl.bind h ?_
    simp only [if_true]
    exact Yl.pure _
  | cons f l ih =>
    rintro s c6 c8 c9 c10 hl ⟨c', h, hc, hr⟩ hs
    have hl' : ∀ f, f ∈ l → ∀ j, f j ≤ 8 := fun f hf => hl f (List.mem_cons_of_mem _ hf)
    have hch8 : zch w x n f ≤ 8 := Nat.le_trans (zch_le w x n f) hn
    obtain ⟨K1, hK1⟩ := y_mend_count (L := L) (c2 := c2) hn hw (fun j hj => ⟨hc j hj, hl f List.mem_cons_self j⟩) hx (nI m) c5 c8 c9 c10 n 0 (by omega)
    obtain ⟨c10r, hcp, K2, hK2⟩ := y_mend_copy (L := L) (x := x) (c2 := c2) (c3 := c3) (c6 := c') hn (nI (zch w x n f)) (nI m) c5 (nI (zch w x n f)) 0 n 0 c10 (by omega) (fun i hi => absurd hi (Nat.not_lt_zero i))
    -- a run up to where the way is judged
    have hgo : ∀ r, Yl (fun N q => (if c8 < 0 then f_X1_mendAll_b120 N (nI n) (nI L) c2 c3 (f_X1_mendAll_b47 N (nI n) (nI L) c2 c3 q) (nI x) (nI (zch w x n f)) (nI m) c5 c' c8 c9 c10 else (if c8 ≤ nI (zch w x n f) then f_X1_mendAll_b162 N (nI n) (nI L) c2 c3 (f_X1_mendAll_b47 N (nI n) (nI L) c2 c3 q) (nI x) (nI (zch w x n f)) (nI m) c5 c' c8 c9 c10 else f_X1_mendAll_b120 N (nI n) (nI L) c2 c3 (f_X1_mendAll_b47 N (nI n) (nI L) c2 c3 q) (nI x) (nI (zch w x n f)) (nI m) c5 c' c8 c9 c10))) r → Yl (fun N q => f_X1_mendAll_b47 N (nI n) (nI L) c2 c3 q (nI x) (nI m) c5 c6 c8 c9 c10) r := by
      intro r hy
      refine Yl.step ?_
      simp only [f_X1_mendAll_b47]
      refine Yl.bind h ?_
      simp only [if_neg (show ¬ (1 : Int32) = 0 by decide)]
      exact Yl.eq ⟨K1, fun N q hN _ => hK1 N N hN hN _⟩ hy
    -- the new fewest
    have hnew : ∃ (c6' : Nat → Int32) (c8' c9' : Int32) (c10' : Nat → Int32), zpM n (zfo (zch w x n) l (some (zch w x n f, 1, f))) c8' c9' c10' ∧ Yl (fun N q => f_X1_mendAll_b120 N (nI n) (nI L) c2 c3 (f_X1_mendAll_b47 N (nI n) (nI L) c2 c3 q) (nI x) (nI (zch w x n f)) (nI m) c5 c' c8 c9 c10) (0, nI m, c5, c6', c8', c9', c10') := by
      obtain ⟨c6', c8', c9', c10', q1, q2⟩ := ih (some (zch w x n f, 1, f)) c' (nI (zch w x n f)) 1 c10r hl' hr ⟨rfl, rfl, hch8, fun i hi => by rw [hcp i hi]; exact hc i hi⟩
      refine ⟨c6', c8', c9', c10', q1, ?_⟩
      simp only [f_X1_mendAll_b120]
      refine Yl.eq ⟨K2, fun N q hN _ => hK2 N N hN hN _⟩ ?_
      simp only [f_X1_mendAll_b162, if_true, f_X1_mendAll_b180, show (0 : Int32) + 1 = 1 from rfl]
      exact q2
    match s, hs with
    | none, hs =>
      obtain ⟨c6', c8', c9', c10', q1, q2⟩ := hnew
      refine ⟨c6', c8', c9', c10', q1, hgo _ ?_⟩
      simp only [hs.1, if_pos (show (-6 : Int32) < 0 by decide)] at q2 ⊢
      exact q2
    | some (m0, c0, h0), hs =>
      obtain ⟨s1, s2, s3, s4⟩ := hs
      have hn0 : ¬ c8 < 0 := by rw [s1]; exact nI_pos (by omega)
      by_cases c : zch w x n f < m0
      · obtain ⟨c6', c8', c9', c10', q1, q2⟩ := hnew
        refine ⟨c6', c8', c9', c10', ?_, hgo _ ?_⟩
        · show zpM n (zfo (zch w x n) l (if zch w x n f < m0 then _ else _)) c8' c9' c10'
          rw [if_pos c]
          exact q1
        · simp only [if_neg hn0, if_neg (show ¬ c8 ≤ nI (zch w x n f) by rw [s1]; exact nI_ge c (by omega))]
          exact q2
      · have hle : c8 ≤ nI (zch w x n f) := by rw [s1]; exact nI_le (by omega) (by omega)
        by_cases ce : zch w x n f = m0
        · obtain ⟨c6', c8', c9', c10', q1, q2⟩ := ih (some (m0, c0 + 1, h0)) c' c8 (c9 + (1 : Int32)) c10 hl' hr ⟨s1, by rw [s2, nI_1], s3, s4⟩
          refine ⟨c6', c8', c9', c10', ?_, hgo _ ?_⟩
          · show zpM n (zfo (zch w x n) l (if zch w x n f < m0 then _ else if zch w x n f = m0 then _ else _)) c8' c9' c10'
            rw [if_neg c, if_pos ce]
            exact q1
          · simp only [if_neg hn0, if_pos hle, f_X1_mendAll_b162, if_pos (show nI (zch w x n f) = c8 by rw [s1, ce]), f_X1_mendAll_b180]
            exact q2
        · obtain ⟨c6', c8', c9', c10', q1, q2⟩ := ih (some (m0, c0, h0)) c' c8 c9 c10 hl' hr ⟨s1, s2, s3, s4⟩
          refine ⟨c6', c8', c9', c10', ?_, hgo _ ?_⟩
          · show zpM n (zfo (zch w x n) l (if zch w x n f < m0 then _ else if zch w x n f = m0 then _ else _)) c8' c9' c10'
            rw [if_neg c, if_neg ce]
            exact q1
          · simp only [if_neg hn0, if_pos hle, f_X1_mendAll_b162, if_neg (show ¬ nI (zch w x n f) = c8 by rw [s1]; exact fun q => ce ((nI_eq (by omega) (by omega)).mp q)), f_X1_mendAll_b180, Int32.add_zero]
            exact q2
/-- SURE, by the reference: the ways one by one -/
theorem y_sure_loop {n m L i j t : Nat} (hn : n ≤ 8) (hi : i < n) (hj : j < n) (ht : t < 8) {c2 c3 : Nat → Int32} {c5 : Int32} (hw : c3 i = hv t) : ∀ (l pre : List (Nat → Nat)) (c6 : Nat → Int32) (x3 x4 : Int32), (∀ f, f ∈ pre ++ l → f i < 8 ∧ f j < 8) → zNX n m L c2 c5 l c6 → (((∀ f, f ∈ pre → f i ≠ t) ∧ x3 = -6 ∧ x4 = 1) ∨ (∃ f, f ∈ pre ∧ f i = t ∧ x3 = hv (f j) ∧ ((x4 = 1 ∧ zAl pre i t j) ∨ (x4 = 0 ∧ ¬ zAl pre i t j)))) → ∃ (r : Int32) (c6' : Nat → Int32), (((∀ f, f ∈ pre ++ l → f i ≠ t) ∧ r = -5) ∨ ((∃ f, f ∈ pre ++ l ∧ f i = t) ∧ ((r = 1 ∧ zAl (pre ++ l) i t j) ∨ (r = 0 ∧ ¬ zAl (pre ++ l) i t j)))) ∧ Yl (fun N q => f_X1_sure_b45 N (nI n) (nI L) c2 c3 q (nI i) (nI j) x3 x4 (nI m) c5 c6) (r, nI m, c5, c6') := by
  intro l
  induction l with
  | nil =>
    rintro pre c6 x3 x4 hall ⟨c', h⟩ hs
    rw [List.append_nil] at hall ⊢
    rcases hs with ⟨h1, h2, h3⟩ | ⟨f, h1, h2, h3, h4⟩
    · refine ⟨-5, c', Or.inl ⟨h1, rfl⟩, Yl.step ?_⟩
      simp only [f_X1_sure_b45]
      refine Yl.bind h ?_
      simp only [if_true, if_pos h2]
      exact Yl.pure _
    · refine ⟨x4, c', Or.inr ⟨⟨f, h1, h2⟩, h4⟩, Yl.step ?_⟩
      have hne : ¬ x3 = -6 := by
        rw [h3]
        intro e
        have := (hv_none (Nat.le_of_lt (hall f h1).2)).mp e
        have := (hall f h1).2
        omega
      simp only [f_X1_sure_b45]
      refine Yl.bind h ?_
      simp only [if_true, if_neg hne]
      rcases h4 with ⟨h4, _⟩ | ⟨h4, _⟩
      · simp only [h4, if_neg (show ¬ (1 : Int32) = 0 by decide)]
        exact Yl.pure _
      · simp only [h4, if_true]
        exact Yl.pure _
  | cons f l ih =>
    rintro pre c6 x3 x4 hall ⟨c', h, hc, hr⟩ hs
    have hf := hall f (List.mem_append_right _ List.mem_cons_self)
    have hall2 : ∀ g, g ∈ (pre ++ [f]) ++ l → g i < 8 ∧ g j < 8 := fun g hg => hall g (by rw [List.append_assoc] at hg; exact hg)
    have happ : pre ++ f :: l = (pre ++ [f]) ++ l := by rw [List.append_assoc]; rfl
    rw [happ]
    have hgo : ∀ (x3' x4' : Int32), (if hv (f i) = hv t then (if x4 = 0 then (x3' = hv (f j) ∧ x4' = 0) else (if x3 = -6 then (x3' = hv (f j) ∧ x4' = 1) else (if x3 = hv (f j) then (x3' = hv (f j) ∧ x4' = 1) else (x3' = hv (f j) ∧ x4' = 0)))) else (x3' = x3 ∧ x4' = x4)) → ∀ r, Yl (fun N q => f_X1_sure_b45 N (nI n) (nI L) c2 c3 q (nI i) (nI j) x3' x4' (nI m) c5 c') r → Yl (fun N q => f_X1_sure_b45 N (nI n) (nI L) c2 c3 q (nI i) (nI j) x3 x4 (nI m) c5 c6) r := by
      intro x3' x4' hx r hy
      refine Yl.step ?_
      simp only [f_X1_sure_b45]
      refine Yl.bind h ?_
      simp only [if_neg (show ¬ (1 : Int32) = 0 by decide), z_gxn (show i < 8 by omega) (show 8 < 2 ^ 31 by decide), z_gxn (show j < 8 by omega) (show 8 < 2 ^ 31 by decide), nI_clamp (show i < 2 ^ 31 by omega), nI_clamp (show j < 2 ^ 31 by omega), hc i hi, hc j hj, hw, f_X1_sure_b92, f_X1_sure_b88, f_X1_sure_b93]
      by_cases c1 : hv (f i) = hv t
      · rw [if_pos c1] at hx
        simp only [if_pos c1]
        by_cases c2 : x4 = 0
        · rw [if_pos c2] at hx
          simp only [if_pos c2]
          rw [hx.1, hx.2] at hy
          exact hy
        · rw [if_neg c2] at hx
          simp only [if_neg c2]
          by_cases c3 : x3 = -6
          · rw [if_pos c3] at hx
            simp only [if_pos c3]
            rw [hx.1, hx.2] at hy
            exact hy
          · rw [if_neg c3] at hx
            simp only [if_neg c3]
            by_cases c4 : x3 = hv (f j)
            · rw [if_pos c4] at hx
              simp only [if_pos c4]
              rw [hx.1, hx.2] at hy
              exact hy
            · rw [if_neg c4] at hx
              simp only [if_neg c4]
              rw [hx.1, hx.2] at hy
              exact hy
      · rw [if_neg c1] at hx
        simp only [if_neg c1]
        rw [hx.1, hx.2] at hy
        exact hy
    have hmem : ∀ g, g ∈ pre ++ [f] ↔ g ∈ pre ∨ g = f := fun g => by rw [List.mem_append, List.mem_singleton]
    by_cases c1 : f i = t
    · have c1' : hv (f i) = hv t := congrArg hv c1
      rcases hs with ⟨h1, h2, h3⟩ | ⟨f0, h1, h2, h3, h4⟩
      · obtain ⟨r, c6', q1, q2⟩ := ih (pre ++ [f]) c' (hv (f j)) 1 hall2 hr (Or.inr ⟨f, (hmem f).mpr (Or.inr rfl), c1, rfl, Or.inl ⟨rfl, fun g hg g' hg' e e' => by
          rcases (hmem g).mp hg with q | q
          · exact absurd e (h1 g q)
          · rcases (hmem g').mp hg' with q' | q'
            · exact absurd e' (h1 g' q')
            · rw [q, q']⟩⟩)
        refine ⟨r, c6', q1, hgo (hv (f j)) 1 ?_ _ q2⟩
        rw [if_pos c1', if_neg (by rw [h3]; decide), if_pos h2]
        exact ⟨rfl, rfl⟩
      · have hf0 := hall f0 (List.mem_append_left _ h1)
        have hne : ¬ x3 = -6 := by
          rw [h3]
          intro e
          have := (hv_none (Nat.le_of_lt hf0.2)).mp e
          omega
        rcases h4 with ⟨h4, h5⟩ | ⟨h4, h5⟩
        · by_cases c4 : f0 j = f j
          · obtain ⟨r, c6', q1, q2⟩ := ih (pre ++ [f]) c' (hv (f j)) 1 hall2 hr (Or.inr ⟨f, (hmem f).mpr (Or.inr rfl), c1, rfl, Or.inl ⟨rfl, fun g hg g' hg' e e' => by
              have key : ∀ g, g ∈ pre ++ [f] → g i = t → g j = f j := fun g hg e => by
                rcases (hmem g).mp hg with q | q
                · rw [← c4]; exact h5 g q f0 h1 e h2
                · rw [q]
              rw [key g hg e, key g' hg' e']⟩⟩)
            refine ⟨r, c6', q1, hgo (hv (f j)) 1 ?_ _ q2⟩
            rw [if_pos c1', if_neg (by rw [h4]; decide), if_neg hne, if_pos (by rw [h3, c4])]
            exact ⟨rfl, rfl⟩
          · obtain ⟨r, c6', q1, q2⟩ := ih (pre ++ [f]) c' (hv (f j)) 0 hall2 hr (Or.inr ⟨f, (hmem f).mpr (Or.inr rfl), c1, rfl, Or.inr ⟨rfl, fun H => c4 (H f0 ((hmem f0).mpr (Or.inl h1)) f ((hmem f).mpr (Or.inr rfl)) h2 c1)⟩⟩)
            refine ⟨r, c6', q1, hgo (hv (f j)) 0 ?_ _ q2⟩
            rw [if_pos c1', if_neg (by rw [h4]; decide), if_neg hne, if_neg (by rw [h3]; exact fun e => c4 (hv_inj (Nat.le_of_lt hf0.2) (Nat.le_of_lt hf.2) e))]
            exact ⟨rfl, rfl⟩
        · obtain ⟨r, c6', q1, q2⟩ := ih (pre ++ [f]) c' (hv (f j)) 0 hall2 hr (Or.inr ⟨f, (hmem f).mpr (Or.inr rfl), c1, rfl, Or.inr ⟨rfl, fun H => h5 fun g hg g' hg' => H g ((hmem g).mpr (Or.inl hg)) g' ((hmem g').mpr (Or.inl hg'))⟩⟩)
          refine ⟨r, c6', q1, hgo (hv (f j)) 0 ?_ _ q2⟩
          rw [if_pos c1', if_pos h4]
          exact ⟨rfl, rfl⟩
    · have c1' : ¬ hv (f i) = hv t := fun e => c1 (hv_inj (Nat.le_of_lt hf.1) (Nat.le_of_lt ht) e)
      have hst : ((∀ g, g ∈ pre ++ [f] → g i ≠ t) ∧ x3 = -6 ∧ x4 = 1) ∨ (∃ g, g ∈ pre ++ [f] ∧ g i = t ∧ x3 = hv (g j) ∧ ((x4 = 1 ∧ zAl (pre ++ [f]) i t j) ∨ (x4 = 0 ∧ ¬ zAl (pre ++ [f]) i t j))) := by
        have hal : zAl (pre ++ [f]) i t j ↔ zAl pre i t j := by
          constructor
          · intro H g hg g' hg'
            exact H g ((hmem g).mpr (Or.inl hg)) g' ((hmem g').mpr (Or.inl hg'))
          · intro H g hg g' hg' e e'
            rcases (hmem g).mp hg with q | q
            · rcases (hmem g').mp hg' with q' | q'
              · exact H g q g' q' e e'
              · rw [q'] at e'; exact absurd e' c1
            · rw [q] at e; exact absurd e c1
        rcases hs with ⟨h1, h2, h3⟩ | ⟨f0, h1, h2, h3, h4⟩
        · refine Or.inl ⟨fun g hg => ?_, h2, h3⟩
          rcases (hmem g).mp hg with q | q
          · exact h1 g q
          · rw [q]; exact c1
        · refine Or.inr ⟨f0, (hmem f0).mpr (Or.inl h1), h2, h3, ?_⟩
          rw [hal]
          exact h4
      obtain ⟨r, c6', q1, q2⟩ := ih (pre ++ [f]) c' x3 x4 hall2 hr hst
      refine ⟨r, c6', q1, hgo x3 x4 ?_ _ q2⟩
      rw [if_neg c1']
      exact ⟨rfl, rfl⟩
