/-! the reference's answers, out of the list of the ways -/
def zY (n m L : Nat) (b : Nat → Nat) : List (Nat → Nat) := (zW n (fun x => b x &&& m) (zD n m) z8).filter (zoks L (zD n m))
theorem zY_8 {n m L : Nat} (hn : n ≤ 8) {b f : Nat → Nat} (h : f ∈ zY n m L b) (i : Nat) : f i ≤ 8 := by
  have h1 := (zW_mem n _ (zD n m) z8 (zD_nodup n m) (fun x hx => (zD_mem.mp hx).1) (fun x _ => hn) f).mp (List.mem_filter.mp h).1
  by_cases c : i ∈ zD n m
  · have := (h1.2.1 i c).1; omega
  · rw [h1.1 i c]; exact Nat.le_refl 8
theorem y_go {n m L : Nat} (h0 : 0 < n) (hn : n ≤ 8) (hm : m < 256) (hL : L ≤ 8) {bd : Nat → Nat} {c2 : Nat → Int32} (hb : ∀ i, i < n → c2 i = nI (bd i) ∧ bd i < 256) (hne : zD n m ≠ []) (c4 c5 : Int32) (c6 : Nat → Int32) : ∃ c6' : Nat → Int32, Yd (fun N => f_X1_start N (nI m) 0 c4 c5 c6) (nI m, 0, c6') ∧ zNX n m L c2 0 (zY n m L bd) c6' := by
  obtain ⟨c6', h1, h2⟩ := y_start m (Or.inl rfl) c4 c5 c6
  exact ⟨c6', h2, y_seq0 h0 hn hm hL hb (Or.inl ⟨rfl, rfl⟩) hne (fun i hi => h1 i (by omega))⟩
theorem y_all {n : Nat} (N : Nat) (hn : n ≤ 8) : f_X1_all N (nI n) = some (nI (2 ^ n - 1)) := by
  rw [f_X1_all, z_shl9 n (by omega)]
theorem Yd.ex {α : Type} {g : Nat → Option α} {r : α} (h : Yd g r) : ∃ N, g N = some r := ⟨_, h.choose_spec _ (Nat.le_refl _)⟩
theorem y_ways_loop {n m L : Nat} {c2 : Nat → Int32} {c5 : Int32} : ∀ (l : List (Nat → Nat)) (c6 : Nat → Int32) (cnt : Int32), zNX n m L c2 c5 l c6 → ∃ c6' : Nat → Int32, Yl (fun N q => f_X1_ways_b11 N (nI n) (nI L) c2 q cnt (nI m) c5 c6) (cnt + nI l.length, nI m, c5, c6') := by
  intro l
  induction l with
  | nil =>
    rintro c6 cnt ⟨c', h⟩
    refine ⟨c', Yl.step ?_⟩
    simp only [f_X1_ways_b11]
    refine Yl.bind h ?_
    simp only [if_true, List.length_nil, nI_0, Int32.add_zero]
    exact Yl.pure _
  | cons f l ih =>
    rintro c6 cnt ⟨c', h, _, hr⟩
    obtain ⟨c6', h2⟩ := ih c' (cnt + (1 : Int32)) hr
    refine ⟨c6', Yl.step ?_⟩
    simp only [f_X1_ways_b11]
    refine Yl.bind h ?_
    simp only [if_neg (show ¬ (1 : Int32) = 0 by decide), List.length_cons, z_cnt]
    exact h2
theorem y_free_loop {n m L : Nat} {c2 : Nat → Int32} {c5 : Int32} : ∀ (l : List (Nat → Nat)) (c6 : Nat → Int32) (cnt : Int32), zNX n m L c2 c5 l c6 → ∃ c6' : Nat → Int32, Yl (fun N q => f_X1_free_b11 N (nI n) (nI L) c2 q cnt (nI m) c5 c6) (cnt + nI l.length, nI m, c5, c6') := by
  intro l
  induction l with
  | nil =>
    rintro c6 cnt ⟨c', h⟩
    refine ⟨c', Yl.step ?_⟩
    simp only [f_X1_free_b11]
    refine Yl.bind h ?_
    simp only [if_true, List.length_nil, nI_0, Int32.add_zero]
    exact Yl.pure _
  | cons f l ih =>
    rintro c6 cnt ⟨c', h, _, hr⟩
    obtain ⟨c6', h2⟩ := ih c' (cnt + (1 : Int32)) hr
    refine ⟨c6', Yl.step ?_⟩
    simp only [f_X1_free_b11]
    refine Yl.bind h ?_
    simp only [if_neg (show ¬ (1 : Int32) = 0 by decide), List.length_cons, z_cnt]
    exact h2
theorem z_cntP {α : Type} (c : Int32) (p : α → Bool) (a : α) (l : List α) : c + nI ((a :: l).countP p) = c + (if p a = true then (1 : Int32) else 0) + nI (l.countP p) := by
  rw [List.countP_cons]
  by_cases h : p a = true
  · rw [if_pos h, if_pos h, z_cnt]
  · rw [if_neg h, if_neg h, Nat.add_zero, Int32.add_zero]
theorem y_waysWith_loop {n m L i t : Nat} (hi : i < n) (hn : n ≤ 8) (ht : t ≤ 8) {c2 : Nat → Int32} {c5 : Int32} : ∀ (l : List (Nat → Nat)) (c6 : Nat → Int32) (cnt : Int32), (∀ f, f ∈ l → f i ≤ 8) → zNX n m L c2 c5 l c6 → ∃ c6' : Nat → Int32, Yl (fun N q => f_X1_waysWith_b11 N (nI n) (nI L) c2 q (nI i) (hv t) cnt (nI m) c5 c6) (cnt + nI (l.countP (fun f => f i == t)), nI m, c5, c6') := by
  intro l
  induction l with
  | nil =>
    rintro c6 cnt _ ⟨c', h⟩
    refine ⟨c', Yl.step ?_⟩
    simp only [f_X1_waysWith_b11]
    refine Yl.bind h ?_
    simp only [if_true, List.countP_nil, nI_0, Int32.add_zero]
    exact Yl.pure _
  | cons f l ih =>
    rintro c6 cnt hl ⟨c', h, hc, hr⟩
    have hl' : ∀ f, f ∈ l → f i ≤ 8 := fun f hf => hl f (List.mem_cons_of_mem _ hf)
    have hf8 := hl f List.mem_cons_self
    obtain ⟨c6', h2⟩ := ih c' (cnt + (if (f i == t) = true then (1 : Int32) else 0)) hl' hr
    refine ⟨c6', Yl.step ?_⟩
    rw [z_cntP]
    simp only [f_X1_waysWith_b11]
    refine Yl.bind h ?_
    simp only [if_neg (show ¬ (1 : Int32) = 0 by decide), z_gxn (show i < 8 by omega) (show 8 < 2 ^ 31 by decide), nI_clamp (show i < 2 ^ 31 by omega), hc i hi, f_X1_waysWith_b34]
    by_cases c : f i = t
    · rw [if_pos (by rw [c]; simp)] at h2 ⊢
      simp only [if_pos (congrArg hv c)]
      exact h2
    · rw [if_neg (by simpa using c)] at h2 ⊢
      simp only [if_neg (show ¬ hv (f i) = hv t from fun e => c (hv_inj hf8 ht e))]
      exact h2
theorem y_agrees {n i : Nat} (hi : i ≤ n) (hn : n ≤ 8) {w f : Nat → Nat} {c3 c6 : Nat → Int32} (hw : ∀ j, j < n → c3 j = hv (w j) ∧ w j ≤ 8) (hf : ∀ j, j < n → c6 j = hv (f j) ∧ f j ≤ 8) : Yd (fun N => f_X1_agrees N (nI i) c3 c6) (if (∀ j, j < i → f j = w j) then 1 else 0) := by
  have loop : ∀ (d k : Nat) (a : Int32), k + d = i → ((a = 1 ∧ ∀ j, j < k → f j = w j) ∨ (a = 0 ∧ ∃ j, j < k ∧ ¬ f j = w j)) → Yl (fun N q => f_X1_agrees_b4 N c3 c6 q (nI i) a (nI k)) (if (∀ j, j < i → f j = w j) then 1 else 0) := by
    intro d
    induction d with
    | zero =>
      intro k a hk ha
      obtain rfl : k = i := by omega
      refine Yl.step ?_
      simp only [f_X1_agrees_b4, if_pos (nI_le (Nat.le_refl k) (show k < 2 ^ 31 by omega))]
      rcases ha with ⟨rfl, ha⟩ | ⟨rfl, j, h1, h2⟩
      · rw [if_pos ha]
        simp only [z_gb_in (show (1 : Int32) = 0 ∨ (1 : Int32) = 1 from Or.inr rfl)]
        exact Yl.pure _
      · rw [if_neg (fun h => h2 (h j h1))]
        simp only [z_gb_in (show (0 : Int32) = 0 ∨ (0 : Int32) = 1 from Or.inl rfl)]
        exact Yl.pure _
    | succ d ih =>
      intro k a hk ha
      have hki : k < i := by omega
      refine Yl.step ?_
      simp only [f_X1_agrees_b4, if_neg (nI_ge hki (show i < 2 ^ 31 by omega)), f_X1_agrees_b32, f_X1_agrees_b33, nI_1, z_gxn (show k < 8 by omega) (show 8 < 2 ^ 31 by decide), nI_clamp (show k < 2 ^ 31 by omega), (hw k (by omega)).1, (hf k (by omega)).1]
      rcases ha with ⟨rfl, ha⟩ | ⟨rfl, j, h1, h2⟩
      · simp only [if_neg (show ¬ (1 : Int32) = 0 by decide)]
        by_cases c : f k = w k
        · simp only [if_pos (congrArg hv c)]
          refine ih (k + 1) 1 (by omega) (Or.inl ⟨rfl, fun j hj => ?_⟩)
          by_cases e : j = k
          · rw [e]; exact c
          · exact ha j (by omega)
        · simp only [if_neg (show ¬ hv (f k) = hv (w k) from fun e => c (hv_inj (hf k (by omega)).2 (hw k (by omega)).2 e))]
          exact ih (k + 1) 0 (by omega) (Or.inr ⟨rfl, k, by omega, c⟩)
      · simp only [if_true]
        exact ih (k + 1) 0 (by omega) (Or.inr ⟨rfl, j, by omega, h2⟩)
  simp only [f_X1_agrees]
  exact (loop i 0 1 (by omega) (Or.inl ⟨rfl, fun j hj => by omega⟩)).diag
theorem y_handMany {n : Nat} (hn : n ≤ 8) {w : Nat → Nat} {c3 : Nat → Int32} (hw : ∀ j, j < n → c3 j = hv (w j) ∧ w j ≤ 8) : Yd (fun N => f_X1_handMany N (nI n) c3) (nI ((List.range n).countP (fun j => decide (w j < 8)))) := by
  have loop : ∀ (d k : Nat), k + d = n → Yl (fun N q => f_X1_handMany_b4 N (nI n) c3 q (nI ((List.range k).countP (fun j => decide (w j < 8)))) (nI k)) (nI ((List.range n).countP (fun j => decide (w j < 8)))) := by
    intro d
    induction d with
    | zero =>
      intro k hk
      obtain rfl : k = n := by omega
      refine Yl.step ?_
      simp only [f_X1_handMany_b4, if_pos (nI_le (Nat.le_refl k) (show k < 2 ^ 31 by omega))]
      exact Yl.pure _
    | succ d ih =>
      intro k hk
      have hkn : k < n := by omega
      have hih := ih (k + 1) (by omega)
      rw [List.range_succ, List.countP_append, List.countP_singleton] at hih
      refine Yl.step ?_
      simp only [f_X1_handMany_b4, if_neg (nI_ge hkn (show n < 2 ^ 31 by omega)), f_X1_handMany_b27, nI_1, z_gxn (show k < 8 by omega) (show 8 < 2 ^ 31 by decide), nI_clamp (show k < 2 ^ 31 by omega), (hw k hkn).1]
      by_cases c : w k < 8
      · rw [if_pos (decide_eq_true c)] at hih
        simp only [if_neg (show ¬ hv (w k) < 0 from fun e => by have := (hv_neg (hw k hkn).2).mp e; omega)]
        exact hih
      · rw [if_neg (fun e => c (of_decide_eq_true e))] at hih
        have e8 : w k = 8 := by have := (hw k hkn).2; omega
        simp only [if_pos (show hv (w k) < 0 from (hv_neg (hw k hkn).2).mpr e8), Int32.add_zero]
        exact hih
  simp only [f_X1_handMany]
  exact (loop n 0 (by omega)).diag
theorem z_many {n : Nat} (w : Nat → Nat) : (List.range n).countP (fun j => decide (w j < 8)) = n ↔ ∀ j, j < n → w j < 8 := by
  have e : (List.range n).countP (fun j => decide (w j < 8)) = (List.range n).length ↔ ∀ j, j ∈ List.range n → decide (w j < 8) = true := List.countP_eq_length
  rw [List.length_range] at e
  rw [e]
  constructor
  · intro h j hj
    exact of_decide_eq_true (h j (List.mem_range.mpr hj))
  · intro h j hj
    exact decide_eq_true (h j (List.mem_range.mp hj))
/-- the number of a way: those ahead of it -/
theorem y_rank_loop {n m L : Nat} (hn : n ≤ 8) {w : Nat → Nat} {c2 c3 : Nat → Int32} {c5 : Int32} (hw : ∀ j, j < n → c3 j = hv (w j) ∧ w j ≤ 8) : ∀ (l : List (Nat → Nat)) (c6 : Nat → Int32) (cnt : Int32), (∀ f, f ∈ l → ∀ j, f j ≤ 8) → zNX n m L c2 c5 l c6 → ((∀ f, f ∈ l → ¬ ∀ j, j < n → f j = w j) ∧ ∃ c6' : Nat → Int32, Yl (fun N q => f_X1_rank_b25 N (nI n) (nI L) c2 c3 q cnt (nI m) c5 c6) (-5, nI m, c5, c6')) ∨ (∃ l1 f l2, l = l1 ++ f :: l2 ∧ (∀ j, j < n → f j = w j) ∧ ∃ c6' : Nat → Int32, Yl (fun N q => f_X1_rank_b25 N (nI n) (nI L) c2 c3 q cnt (nI m) c5 c6) (cnt + nI l1.length, nI m, c5, c6')) := by
  intro l
  induction l with
  | nil =>
    rintro c6 cnt _ ⟨c', h⟩
    refine Or.inl ⟨fun f hf => (by cases hf), c', Yl.step ?_⟩
    simp only [f_X1_rank_b25]
    refine Yl.bind h ?_
    simp only [if_true]
    exact Yl.pure _
  | cons f l ih =>
    rintro c6 cnt hl ⟨c', h, hc, hr⟩
    have hl' : ∀ f, f ∈ l → ∀ j, f j ≤ 8 := fun f hf => hl f (List.mem_cons_of_mem _ hf)
    have hag := y_agrees (Nat.le_refl n) hn hw (fun j hj => ⟨hc j hj, hl f List.mem_cons_self j⟩)
    by_cases ca : ∀ j, j < n → f j = w j
    · refine Or.inr ⟨[], f, l, rfl, ca, c', Yl.step ?_⟩
      rw [if_pos ca] at hag
      simp only [f_X1_rank_b25]
      refine Yl.bind h ?_
      simp only [if_neg (show ¬ (1 : Int32) = 0 by decide)]
      refine Yl.bind hag ?_
      simp only [if_neg (show ¬ (1 : Int32) = 0 by decide), List.length_nil, nI_0, Int32.add_zero]
      exact Yl.pure _
    · rw [if_neg ca] at hag
      have hgo : ∀ r, Yl (fun N q => f_X1_rank_b25 N (nI n) (nI L) c2 c3 q (cnt + (1 : Int32)) (nI m) c5 c') r → Yl (fun N q => f_X1_rank_b25 N (nI n) (nI L) c2 c3 q cnt (nI m) c5 c6) r := by
        intro r hy
        refine Yl.step ?_
        simp only [f_X1_rank_b25]
        refine Yl.bind h ?_
        simp only [if_neg (show ¬ (1 : Int32) = 0 by decide)]
        refine Yl.bind hag ?_
        simp only [if_true]
        exact hy
      rcases ih c' (cnt + (1 : Int32)) hl' hr with ⟨h1, c6', h2⟩ | ⟨l1, f', l2, h1, h2, c6', h3⟩
      · refine Or.inl ⟨fun f' hf' => ?_, c6', hgo _ h2⟩
        rcases List.mem_cons.mp hf' with e | e
        · rw [e]; exact ca
        · exact h1 f' e
      · refine Or.inr ⟨f :: l1, f', l2, by rw [h1]; rfl, h2, c6', ?_⟩
        rw [List.length_cons, z_cnt]
        exact hgo _ h3
theorem y_rounds_loop {n L : Nat} (h0 : 0 < n) (hn : n ≤ 8) {c2 : Nat → Int32} {c5 : Int32} {m : Nat} (a1 : Int32) : ∀ (l : List (Nat → Nat)) (c6 : Nat → Int32) (cnt : Int32), (∀ f, f ∈ l → zper n (fun x => x < n) f) → zNX n m L c2 c5 l c6 → ∃ c6' : Nat → Int32, Yl (fun N q => f_X1_rounds_b11 N (nI n) (nI L) c2 q a1 cnt (nI m) c5 c6) (cnt + nI (l.countP (fun f => decide (nI (zlens n f).length = a1))), nI m, c5, c6') := by
  intro l
  induction l with
  | nil =>
    rintro c6 cnt _ ⟨c', h⟩
    refine ⟨c', Yl.step ?_⟩
    simp only [f_X1_rounds_b11]
    refine Yl.bind h ?_
    simp only [if_true, List.countP_nil, nI_0, Int32.add_zero]
    exact Yl.pure _
  | cons f l ih =>
    rintro c6 cnt hl ⟨c', h, hc, hr⟩
    obtain ⟨c6', h2⟩ := ih c' (cnt + (if decide (nI (zlens n f).length = a1) = true then (1 : Int32) else 0)) (fun f hf => hl f (List.mem_cons_of_mem _ hf)) hr
    refine ⟨c6', Yl.step ?_⟩
    rw [z_cntP]
    simp only [f_X1_rounds_b11]
    refine Yl.bind h ?_
    simp only [if_neg (show ¬ (1 : Int32) = 0 by decide)]
    refine Yl.bind (y_roundsNow h0 hn (hl f List.mem_cons_self) hc) ?_
    simp only [f_X1_rounds_b32]
    by_cases c : nI (zlens n f).length = a1
    · rw [if_pos (decide_eq_true c)] at h2 ⊢
      simp only [if_pos c]
      exact h2
    · rw [if_neg (fun e => c (of_decide_eq_true e))] at h2 ⊢
      simp only [if_neg c]
      exact h2
/-- the way of a number: reference -/
theorem y_goTo_loop {n m L k : Nat} (hk : k < 2 ^ 31) {c2 : Nat → Int32} {c5 : Int32} : ∀ (l : List (Nat → Nat)) (c6 : Nat → Int32) (i : Nat), i ≤ k → zNX n m L c2 c5 l c6 → (∃ (f : Nat → Nat) (c6' : Nat → Int32), l[k - i]? = some f ∧ (∀ j, j < n → c6' j = hv (f j)) ∧ Yl (fun N q => f_X1_goTo_b11 N (nI n) (nI L) c2 q (nI k) (nI i + (-1 : Int32)) (nI m) c5 c6) (1, nI m, c5, c6')) ∨ (l[k - i]? = none ∧ ∃ c6' : Nat → Int32, Yl (fun N q => f_X1_goTo_b11 N (nI n) (nI L) c2 q (nI k) (nI i + (-1 : Int32)) (nI m) c5 c6) (0, nI m, c5, c6')) := by
  intro l
  induction l with
  | nil =>
    rintro c6 i hi ⟨c', h⟩
    refine Or.inr ⟨rfl, c', Yl.step ?_⟩
    have hne : ¬ nI k ≤ nI i + (-1 : Int32) := by
      cases i with
      | zero =>
        intro e
        have h1 := Int32.le_iff_toInt_le.mp e
        rw [nI_toInt hk, show (nI 0 + (-1 : Int32)).toInt = -1 from by decide] at h1
        omega
      | succ p => rw [pk_m1]; exact nI_ge (by omega) hk
    have hne2 : ¬ nI i + (-1 : Int32) = nI k := fun e => hne (by rw [e]; exact Int32.le_refl _)
    simp only [f_X1_goTo_b11, if_neg hne]
    refine Yl.bind h ?_
    simp only [if_true, f_X1_goTo_b29, if_neg (nI_pos hk), if_neg hne2]
    exact Yl.pure _
  | cons f l ih =>
    rintro c6 i hi ⟨c', h, hc, hr⟩
    have hne : ¬ nI k ≤ nI i + (-1 : Int32) := by
      cases i with
      | zero =>
        intro e
        have h1 := Int32.le_iff_toInt_le.mp e
        rw [nI_toInt hk, show (nI 0 + (-1 : Int32)).toInt = -1 from by decide] at h1
        omega
      | succ p => rw [pk_m1]; exact nI_ge (by omega) hk
    have hback : nI i + (-1 : Int32) + (1 : Int32) = nI (i + 1) + (-1 : Int32) := by
      rw [pk_m1, Int32.add_assoc, show (-1 : Int32) + 1 = 0 from by decide, Int32.add_zero]
    have hgo : ∀ r, Yl (fun N q => f_X1_goTo_b11 N (nI n) (nI L) c2 q (nI k) (nI (i + 1) + (-1 : Int32)) (nI m) c5 c') r → Yl (fun N q => f_X1_goTo_b11 N (nI n) (nI L) c2 q (nI k) (nI i + (-1 : Int32)) (nI m) c5 c6) r := by
      intro r hy
      refine Yl.step ?_
      simp only [f_X1_goTo_b11, if_neg hne]
      refine Yl.bind h ?_
      simp only [if_neg (show ¬ (1 : Int32) = 0 by decide), hback]
      exact hy
    rcases Nat.eq_or_lt_of_le hi with e | e
    · subst e
      refine Or.inl ⟨f, c', by rw [Nat.sub_self]; rfl, hc, hgo _ (Yl.step ?_)⟩
      simp only [f_X1_goTo_b11, pk_m1, if_pos (Int32.le_refl (nI i)), f_X1_goTo_b29, if_neg (nI_pos hk), if_true]
      exact Yl.pure _
    · have hg : (f :: l)[k - i]? = l[k - (i + 1)]? := by
        rw [show k - i = (k - (i + 1)) + 1 by omega, List.getElem?_cons_succ]
      rw [hg]
      rcases ih c' (i + 1) (by omega) hr with ⟨f', c6', h1, h2, h3⟩ | ⟨h1, c6', h2⟩
      · exact Or.inl ⟨f', c6', h1, h2, hgo _ h3⟩
      · exact Or.inr ⟨h1, c6', hgo _ h2⟩
