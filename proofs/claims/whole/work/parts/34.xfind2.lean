/-! the way of a number, whole; who is sure of whom -/
theorem x_find_loop {n L k0 : Nat} {b : Nat → Nat} {c2 : Nat → Int32} (h0 : 0 < n) (hn : n ≤ 8) (hL : 2 ≤ L) (hL8 : L ≤ 8) (hb8 : ∀ j, j < n → b j < 256) : ∀ (d k left taken : Nat) (g ro : Nat → Nat) (c4 c5 c6 c7 c8 : Nat → Int32), k + d = n → left < 2 ^ 31 → taken < 256 → (∀ y, y < 8 → (taken.testBit y = true ↔ ∃ j, j < k ∧ g j = y)) → (∀ j, j < k → g j < n) → (∀ j, k ≤ j → g j = 8) → (∀ j, j < k → ∀ y, y < 8 → ((ro j).testBit y = true ↔ (b j).testBit y = true ∧ y = g j)) → (∀ j, k ≤ j → j < n → ro j = b j) → (∀ j, j < n → ro j < 256) → (∀ j, j < n → c4 j = nI (ro j)) → (∀ j, j < k → c8 j = nI (g j)) → (zW n b (List.range' k (n - k)) g).filter (zoks L (List.range n)) = (zWy n L b).filter (fun f => decide (∀ j, j < k → f j = g j)) → ((zW n b (List.range' k (n - k)) g).filter (zoks L (List.range n)))[left]? = (zWy n L b)[k0]? → (k = 0 ∨ (zWy n L b)[k0]? ≠ none) → (∃ (f : Nat → Nat) (c4' c5' c6' c7' c8' : Nat → Int32), (zWy n L b)[k0]? = some f ∧ (∀ j, j < n → c8' j = nI (f j)) ∧ Yl (fun N q => f_X0_findWay_b17 N (nI n) (nI L) c2 q (nI left) (nI taken) (nI k) c4 c5 c6 c7 c8) (1, c4', c5', c6', c7', c8')) ∨ ((zWy n L b)[k0]? = none ∧ ∃ (c4' c5' c6' c7' c8' : Nat → Int32), Yl (fun N q => f_X0_findWay_b17 N (nI n) (nI L) c2 q (nI left) (nI taken) (nI k) c4 c5 c6 c7 c8) (0, c4', c5', c6', c7', c8')) := by
  intro d
  induction d with
  | zero =>
    intro k left taken g ro c4 c5 c6 c7 c8 hk _ _ _ _ _ _ _ _ _ hc8 _ hget hsome
    obtain rfl : k = n := by omega
    rw [Nat.sub_self, List.range'_zero, zW] at hget
    have hne := hsome.resolve_left (by omega)
    rw [← hget] at hne
    have hg : ([g].filter (zoks L (List.range k)))[left]? = some g := by
      by_cases c : zoks L (List.range k) g = true
      · rw [List.filter_cons_of_pos c] at hne ⊢
        cases left with
        | zero => rfl
        | succ q => exact absurd rfl hne
      · rw [List.filter_cons_of_neg c] at hne
        exact absurd rfl hne
    refine Or.inl ⟨g, c4, c5, c6, c7, c8, by rw [← hget]; exact hg, hc8, Yl.step ?_⟩
    simp only [f_X0_findWay_b17, if_pos (nI_le (Nat.le_refl k) (show k < 2 ^ 31 by omega))]
    exact Yl.pure _
  | succ d ih =>
    intro k left taken g ro c4 c5 c6 c7 c8 hk hleft htk htb hgn hg8 hro1 hro2 hro8 hc4 hc8 hS hget hsome
    have hkn : k < n := by omega
    have hk8 : k < 8 := by omega
    have hD : List.range' k (n - k) = k :: List.range' (k + 1) (n - (k + 1)) := by
      rw [show n - k = (n - (k + 1)) + 1 by omega, List.range'_succ]
    have hS' : (zW n b (k :: List.range' (k + 1) (n - (k + 1))) g).filter (zoks L (List.range n)) = (zWy n L b).filter (fun f => decide (∀ j, j < k → f j = g j)) := by rw [← hD]; exact hS
    have hrok : ro k = b k := hro2 k (Nat.le_refl k) hkn
    have hopen : b k &&& (255 ^^^ taken) < 256 := Nat.lt_of_le_of_lt Nat.and_le_left (hb8 k hkn)
    have h255 : ∀ y, y < 8 → (255 : Nat).testBit y = true := by decide +kernel
    have hob : ∀ y, y < 8 → ((b k &&& (255 ^^^ taken)).testBit y = true ↔ (b k).testBit y = true ∧ ∀ j, j < n → g j ≠ y) := fun y hy => by
      rw [Nat.testBit_and, Bool.and_eq_true, Nat.testBit_xor, h255 y hy]
      constructor
      · rintro ⟨a, c⟩
        refine ⟨a, fun j hj e => ?_⟩
        rcases Nat.lt_or_ge j k with q | q
        · rw [(htb y hy).mpr ⟨j, q, e⟩] at c; cases c
        · rw [hg8 j q] at e; omega
      · rintro ⟨a, c⟩
        refine ⟨a, ?_⟩
        rcases e : taken.testBit y with _ | _
        · rfl
        · obtain ⟨j, h1, h2⟩ := (htb y hy).mp e
          exact absurd h2 (c j (by omega))
    have hflat : (zW n b (List.range' k (n - k)) g).filter (zoks L (List.range n)) = (List.range' 0 (n - 0)).flatMap (zT n L b k (List.range' (k + 1) (n - (k + 1))) g) := by
      rw [hD, zT_flat, Nat.sub_zero, List.range_eq_range']
    rw [hflat] at hget
    have hmask : nI (b k) &&& (nI taken ^^^ (-1 : Int32)) = nI (b k &&& (255 ^^^ taken)) := z_not (hb8 k hkn) htk
    have hch := x_choose (ro := ro) h0 hn hL hL8 hkn hD hgn hg8 hopen hob hro1 (fun j h1 h2 => hro2 j (by omega) h2) hb8 hro8 hS' hleft c8 n 0 0 c4 c5 c6 c7 (by omega) (Nat.zero_le _) (fun j hj _ => hc4 j hj)
    rw [Nat.sub_zero left] at hch
    rcases hch with ⟨h1, c4', c5', c6', c7', h2⟩ | ⟨to, i, f, c4', c5', c6', c7', h1, h2, h3, h4, h5, h6, h7, h8⟩
    · refine Or.inr ⟨by rw [← hget]; exact h1, c4', c5', c6', c7', c8, Yl.step ?_⟩
      simp only [f_X0_findWay_b17, if_neg (nI_ge hkn (show n < 2 ^ 31 by omega)), z_gxn hk8 (show 8 < 2 ^ 31 by decide), nI_clamp (show k < 2 ^ 31 by omega), hc4 k hkn, hrok, hmask]
      have hcg : Yd (fun N => f_X0_chooseGetter N (nI k) (nI left) (nI (b k &&& (255 ^^^ taken))) (nI n) (nI L) c4 c5 c6 c7 c8) (-1, c4', c5', c6', c7', c8) := by
        simp only [f_X0_chooseGetter, x_isOne _ hn hkn, z_bs, if_neg (show ¬ (1 : Int32) = 0 by decide)]
        exact h2.diag
      refine Yl.bind hcg ?_
      simp only [if_neg (show ¬ (0 : Int32) ≤ -1 by decide)]
      exact Yl.pure _
    · have hal := (hob to (by omega)).mp h2
      have hgo : ∀ r, Yl (fun N q => f_X0_findWay_b17 N (nI n) (nI L) c2 q (nI i) (nI (taken ||| 2 ^ to)) (nI (k + 1)) c4' c5' c6' c7' (upd c8 k (nI to))) r → Yl (fun N q => f_X0_findWay_b17 N (nI n) (nI L) c2 q (nI left) (nI taken) (nI k) c4 c5 c6 c7 c8) r := by
        intro r hy
        refine Yl.step ?_
        simp only [f_X0_findWay_b17, if_neg (nI_ge hkn (show n < 2 ^ 31 by omega)), z_gxn hk8 (show 8 < 2 ^ 31 by decide), nI_clamp (show k < 2 ^ 31 by omega), hc4 k hkn, hrok, hmask]
        have hcg : Yd (fun N => f_X0_chooseGetter N (nI k) (nI left) (nI (b k &&& (255 ^^^ taken))) (nI n) (nI L) c4 c5 c6 c7 c8) (nI i, c4', c5', c6', c7', upd c8 k (nI to)) := by
          simp only [f_X0_chooseGetter, x_isOne _ hn hkn, z_bs, if_neg (show ¬ (1 : Int32) = 0 by decide)]
          exact h8.diag
        refine Yl.bind hcg ?_
        simp only [if_pos (nI_pos' h3), pk_us, x_bit _ (show to < 8 by omega), z_bs, fa_or, nI_1]
        exact hy
      have hT : zT n L b k (List.range' (k + 1) (n - (k + 1))) g to = (zW n b (List.range' (k + 1) (n - (k + 1))) (zu g k to)).filter (zoks L (List.range n)) := if_pos hal
      have hkD : (k :: List.range' (k + 1) (n - (k + 1))).Nodup := by rw [← hD]; exact List.nodup_range'
      have hkm : ∀ z, z ∈ k :: List.range' (k + 1) (n - (k + 1)) → k ≤ z ∧ z < n := fun z hz => by
        rw [← hD, List.mem_range'_1] at hz
        omega
      have hS2 : (zW n b (List.range' (k + 1) (n - (k + 1))) (zu g k to)).filter (zoks L (List.range n)) = (zWy n L b).filter (fun f => decide (∀ j, j < k + 1 → f j = zu g k to j)) := by
        rw [← hT, ← zT_filter hkD (fun z hz => (hkm z hz).2) (fun z hz => by rw [hg8 z (hkm z hz).1]; exact hn) h1, hS', List.filter_filter]
        apply List.filter_congr
        intro f _
        rw [Bool.eq_iff_iff, Bool.and_eq_true, beq_iff_eq, decide_eq_true_eq, decide_eq_true_eq]
        constructor
        · rintro ⟨a, c⟩ j hj
          by_cases e : j = k
          · rw [e, zu_s]; exact a
          · rw [zu_n _ _ e]; exact c j (by omega)
        · intro c
          refine ⟨by rw [c k (Nat.lt_succ_self k), zu_s], fun j hj => ?_⟩
          have := c j (by omega)
          rwa [zu_n _ _ (show j ≠ k by omega)] at this
      have hget2 : ((zW n b (List.range' (k + 1) (n - (k + 1))) (zu g k to)).filter (zoks L (List.range n)))[i]? = (zWy n L b)[k0]? := by
        rw [← hT, h5, ← hget, ← h4]
      have hsome2 : (zWy n L b)[k0]? ≠ none := by
        rw [← hget, h4]
        exact fun e => by cases e
      have hopk : ∀ y, ((b k &&& (255 ^^^ taken)) &&& 2 ^ to).testBit y = true ↔ y = to := fun y => by
        rw [Nat.testBit_and, Bool.and_eq_true, Nat.testBit_two_pow, decide_eq_true_eq]
        exact ⟨fun h => h.2.symm, fun h => by rw [h]; exact ⟨h2, rfl⟩⟩
      have := ih (k + 1) i (taken ||| 2 ^ to) (zu g k to) (zu ro k ((b k &&& (255 ^^^ taken)) &&& 2 ^ to)) c4' c5' c6' c7' (upd c8 k (nI to)) (by omega) h3 (z_or_lt htk (z_2p8 (by omega))) (fun y hy => by
          rw [Nat.testBit_or, Bool.or_eq_true, htb y hy, Nat.testBit_two_pow, decide_eq_true_eq]
          constructor
          · rintro (⟨j, q1, q2⟩ | q)
            · exact ⟨j, by omega, by rw [zu_n _ _ (show j ≠ k by omega)]; exact q2⟩
            · exact ⟨k, Nat.lt_succ_self k, by rw [zu_s]; exact q⟩
          · rintro ⟨j, q1, q2⟩
            by_cases e : j = k
            · rw [e, zu_s] at q2; exact Or.inr q2
            · rw [zu_n _ _ e] at q2; exact Or.inl ⟨j, by omega, q2⟩)
        (fun j hj => by
          by_cases e : j = k
          · rw [e, zu_s]; exact h1
          · rw [zu_n _ _ e]; exact hgn j (by omega))
        (fun j hj => by rw [zu_n _ _ (show j ≠ k by omega)]; exact hg8 j (by omega))
        (fun j hj y hy => by
          by_cases e : j = k
          · rw [e, zu_s, zu_s, hopk]
            exact ⟨fun q => ⟨by rw [q]; exact hal.1, q⟩, fun q => q.2⟩
          · rw [zu_n _ _ e, zu_n _ _ e]; exact hro1 j (by omega) y hy)
        (fun j h9 h10 => by rw [zu_n _ _ (show j ≠ k by omega)]; exact hro2 j (by omega) h10)
        (fun j hj => by
          by_cases e : j = k
          · rw [e, zu_s]; exact Nat.lt_of_le_of_lt Nat.and_le_left hopen
          · rw [zu_n _ _ e]; exact hro8 j hj)
        (fun j hj => by
          by_cases e : j = k
          · rw [e, zu_s]; exact h7
          · rw [zu_n _ _ e]; exact h6 j hj e)
        (fun j hj => by
          by_cases e : j = k
          · rw [e, pk_us, zu_s]
          · rw [pk_un e, zu_n _ _ e]; exact hc8 j (by omega))
        hS2 hget2 (Or.inr hsome2)
      rcases this with ⟨f', c4'', c5'', c6'', c7'', c8'', a1, a2, a3⟩ | ⟨a1, c4'', c5'', c6'', c7'', c8'', a2⟩
      · exact Or.inl ⟨f', c4'', c5'', c6'', c7'', c8'', a1, a2, hgo _ a3⟩
      · exact Or.inr ⟨a1, c4'', c5'', c6'', c7'', c8'', hgo _ a2⟩
/-- FINDWAY -/
theorem x_findWay {n L k0 : Nat} {b : Nat → Nat} {c2 : Nat → Int32} (h0 : 0 < n) (hn : n ≤ 8) (hL : 2 ≤ L) (hL8 : L ≤ 8) (hb : ∀ i, i < n → c2 i = nI (b i)) (hb8 : ∀ j, j < n → b j < 256) (hk0 : k0 < 2 ^ 31) (c4 c5 c6 c7 c8 : Nat → Int32) : (∃ (f : Nat → Nat) (c4' c5' c6' c7' c8' : Nat → Int32), (zWy n L b)[k0]? = some f ∧ (∀ j, j < n → c8' j = nI (f j)) ∧ Yd (fun N => f_X0_findWay N (nI k0) (nI n) (nI L) c2 c4 c5 c6 c7 c8) (1, c4', c5', c6', c7', c8')) ∨ ((zWy n L b)[k0]? = none ∧ ∃ (c4' c5' c6' c7' c8' : Nat → Int32), Yd (fun N => f_X0_findWay N (nI k0) (nI n) (nI L) c2 c4 c5 c6 c7 c8) (0, c4', c5', c6', c7', c8')) := by
  obtain ⟨c41, a1, a2⟩ := x_openRows c2 c4
  have hr : List.range' 0 (n - 0) = List.range n := by rw [Nat.sub_zero, List.range_eq_range']
  have hgo : ∀ r, Yl (fun N q => f_X0_findWay_b17 N (nI n) (nI L) c2 q (nI k0) (nI 0) (nI 0) c41 c5 c6 c7 c8) r → Yd (fun N => f_X0_findWay N (nI k0) (nI n) (nI L) c2 c4 c5 c6 c7 c8) r := by
    intro r hy
    simp only [f_X0_findWay, if_pos (nI_pos' hk0), a2, z_bs]
    exact hy.diag
  have := x_find_loop (k0 := k0) (c2 := c2) h0 hn hL hL8 hb8 n 0 k0 0 z8 b c41 c5 c6 c7 c8 (by omega) hk0 (by decide) (fun y _ => by
      rw [Nat.zero_testBit]
      exact ⟨fun h => absurd h (by decide), fun ⟨j, hj, _⟩ => absurd hj (Nat.not_lt_zero j)⟩) (fun j hj => absurd hj (Nat.not_lt_zero j)) (fun _ _ => rfl) (fun j hj => absurd hj (Nat.not_lt_zero j)) (fun _ _ _ => rfl) hb8 (fun j hj => by rw [a1 j (by omega), hb j hj]) (fun j hj => absurd hj (Nat.not_lt_zero j)) (by
      rw [hr]
      symm
      exact List.filter_eq_self.mpr fun f _ => decide_eq_true fun j hj => absurd hj (Nat.not_lt_zero j)) (by rw [hr]; rfl) (Or.inl rfl)
  rcases this with ⟨f, c4', c5', c6', c7', c8', q1, q2, q3⟩ | ⟨q1, c4', c5', c6', c7', c8', q2⟩
  · exact Or.inl ⟨f, c4', c5', c6', c7', c8', q1, q2, hgo _ q3⟩
  · exact Or.inr ⟨q1, c4', c5', c6', c7', c8', hgo _ q2⟩
theorem z_cp_le {α : Type} (p q : α → Bool) (l : List α) : l.countP (fun f => p f && q f) ≤ l.countP p := by
  induction l with
  | nil => exact Nat.le_refl _
  | cons f l ih =>
    rw [List.countP_cons, List.countP_cons]
    by_cases c : p f = true
    · rw [if_pos c]
      by_cases c2 : (p f && q f) = true
      · rw [if_pos c2]; omega
      · rw [if_neg c2]; omega
    · rw [if_neg c, if_neg (fun h => c (by rw [Bool.and_eq_true] at h; exact h.1))]
      exact ih
theorem z_cp_all {α : Type} (p q : α → Bool) (l : List α) : l.countP (fun f => p f && q f) = l.countP p → ∀ f, f ∈ l → p f = true → q f = true := by
  induction l with
  | nil => intro _ f hf; cases hf
  | cons f l ih =>
    intro h g hg hp
    rw [List.countP_cons, List.countP_cons] at h
    have hle := z_cp_le p q l
    by_cases c : p f = true
    · rw [if_pos c] at h
      by_cases c2 : (p f && q f) = true
      · rw [if_pos c2] at h
        rcases List.mem_cons.mp hg with e | e
        · rw [e]
          rw [Bool.and_eq_true] at c2
          exact c2.2
        · exact ih (by omega) g e hp
      · rw [if_neg c2] at h
        omega
    · rw [if_neg c, if_neg (fun h => c (by rw [Bool.and_eq_true] at h; exact h.1))] at h
      rcases List.mem_cons.mp hg with e | e
      · rw [e] at hp; exact absurd hp c
      · exact ih h g e hp
/-- all ways of l in which i gives to t are alike in j -/
def zAl (l : List (Nat → Nat)) (i t j : Nat) : Prop := ∀ f, f ∈ l → ∀ g, g ∈ l → f i = t → g i = t → f j = g j
/-- SURE: the program tries j's getters one by one -/
theorem x_alike_loop {n L i j t : Nat} {b : Nat → Nat} (h0 : 0 < n) (hn : n ≤ 8) (hL : 2 ≤ L) (hL8 : L ≤ 8) (hj : j < n) (ht : t ≤ 8) (hi : i < n) (hb8 : ∀ x, x < n → b x < 256) (hp : 0 < (zWy n L b).countP (fun f => f i == t)) : ∀ (d k : Nat) (c4 c5 c6 c7 : Nat → Int32), k + d = n → (∀ x, x < n → x ≠ j → c4 x = nI (zu b i (b i &&& zb t) x)) → (∀ f, f ∈ zWy n L b → f i = t → k ≤ f j) → ∃ (r : Int32) (c4' c5' c6' c7' : Nat → Int32), ((r = 1 ∧ zAl (zWy n L b) i t j) ∨ (r = 0 ∧ ¬ zAl (zWy n L b) i t j)) ∧ Yl (fun N q => f_X0_givesAlike_b20 N (nI n) (nI L) q (nI j) (nI ((zWy n L b).countP (fun f => f i == t))) (nI (zu b i (b i &&& zb t) j)) (nI k) c4 c5 c6 c7) (r, c4', c5', c6', c7') := by
  have hR8 : ∀ x, x < n → zu b i (b i &&& zb t) x < 256 := fun x hx => by
    by_cases e : x = i
    · rw [e, zu_s]; exact Nat.lt_of_le_of_lt Nat.and_le_left (hb8 i hi)
    · rw [zu_n _ _ e]; exact hb8 x hx
  have hRs : ∀ x y, (zu b i (b i &&& zb t) x).testBit y = true → (b x).testBit y = true := fun x y h => by
    by_cases e : x = i
    · rw [e, zu_s] at h; rw [e]; exact z_and_sub h
    · rw [zu_n _ _ e] at h; exact h
  have hRf : ∀ f, f ∈ zWy n L b → ((∀ x, x < n → (zu b i (b i &&& zb t) x).testBit (f x) = true) ↔ f i = t) := fun f hf => by
    have hf1 := (zWy_in hn hf).1
    constructor
    · intro h
      have := h i hi
      rw [zu_s] at this
      exact ((zb_bit ht (by have := (hf1 i hi).1; omega)).mp this).2
    · intro h x hx
      by_cases e : x = i
      · rw [e, zu_s]
        exact (zb_bit ht (by have := (hf1 i hi).1; omega)).mpr ⟨(hf1 i hi).2, h⟩
      · rw [zu_n _ _ e]
        exact (hf1 x hx).2
  intro d
  induction d with
  | zero =>
    intro k c4 c5 c6 c7 hk _ hge
    obtain ⟨f, hf, hfi⟩ := List.countP_pos_iff.mp hp
    have h1 := hge f hf (by simpa using hfi)
    have h2 := ((zWy_in hn hf).1 j hj).1
    omega
  | succ d ih =>
    intro k c4 c5 c6 c7 hk hc4 hge
    have hkn : k < n := by omega
    have hand : zu b i (b i &&& zb t) j &&& 2 ^ k < 256 := Nat.lt_of_le_of_lt Nat.and_le_left (hR8 j hj)
    have hc4' : ∀ v x, x < n → x ≠ j → upd c4 j v x = nI (zu b i (b i &&& zb t) x) := fun v x hx e => by rw [pk_un e]; exact hc4 x hx e
    have hnext : (∀ f, f ∈ zWy n L b → f i = t → f j ≠ k) → ∀ f, f ∈ zWy n L b → f i = t → k + 1 ≤ f j := fun h f hf hfi => by
      have h1 := hge f hf hfi
      have h2 := h f hf hfi
      omega
    by_cases co : (zu b i (b i &&& zb t) j).testBit k = true
    · have hne : ¬ nI (zu b i (b i &&& zb t) j &&& 2 ^ k) = 0 := fun e => by
        rw [z_and2p.mp ((z_eq0 (by omega)).mp e)] at co; cases co
      have hr : ∀ x, x < n → upd c4 j (nI (zu b i (b i &&& zb t) j &&& 2 ^ k)) x = nI (zu (zu b i (b i &&& zb t)) j (zu b i (b i &&& zb t) j &&& 2 ^ k) x) := fun x hx => by
        by_cases e : x = j
        · rw [e, pk_us, zu_s]
        · rw [pk_un e, zu_n _ _ e, hc4 x hx e]
      have hbk : ∀ y, (zu b i (b i &&& zb t) j &&& 2 ^ k).testBit y = true ↔ y = k := fun y => by
        rw [Nat.testBit_and, Bool.and_eq_true, Nat.testBit_two_pow, decide_eq_true_eq]
        exact ⟨fun h => h.2.symm, fun h => by rw [h]; exact ⟨co, rfl⟩⟩
      obtain ⟨c51, c61, c71, h⟩ := x_cwp (b := b) (rows := zu (zu b i (b i &&& zb t)) j (zu b i (b i &&& zb t) j &&& 2 ^ k)) h0 hn hL hL8 hr (fun x hx y h => by
        by_cases e : x = j
        · rw [e, zu_s] at h; rw [e]; exact hRs j y (z_and_sub h)
        · rw [zu_n _ _ e] at h; exact hRs x y h) (fun f => (f i == t) && (f j == k)) (fun f hf => by
        rw [Bool.and_eq_true, beq_iff_eq, beq_iff_eq, ← hRf f hf]
        constructor
        · intro h
          have hj1 := h j hj
          rw [zu_s] at hj1
          refine ⟨fun x hx => ?_, (hbk _).mp hj1⟩
          by_cases e : x = j
          · rw [e]; exact z_and_sub hj1
          · have := h x hx
            rwa [zu_n _ _ e] at this
        · rintro ⟨h1, h2⟩ x hx
          by_cases e : x = j
          · rw [e, zu_s, h2]; exact (hbk k).mpr rfl
          · rw [zu_n _ _ e]; exact h1 x hx) c5 c6 c7
      have hv31 : (zWy n L b).countP (fun f => (f i == t) && (f j == k)) < 2 ^ 31 := Nat.lt_of_le_of_lt List.countP_le_length (zWy_lt hn L b)
      have hp31 : (zWy n L b).countP (fun f => f i == t) < 2 ^ 31 := Nat.lt_of_le_of_lt List.countP_le_length (zWy_lt hn L b)
      have hgo : ∀ r, Yl (fun N q => f_X0_givesAlike_b63 N (nI n) (nI L) (f_X0_givesAlike_b20 N (nI n) (nI L) q) (nI j) (nI ((zWy n L b).countP (fun f => f i == t))) (nI (zu b i (b i &&& zb t) j)) (nI k) (nI ((zWy n L b).countP (fun f => (f i == t) && (f j == k)))) (upd c4 j (nI (zu b i (b i &&& zb t) j &&& 2 ^ k))) c51 c61 c71) r → Yl (fun N q => f_X0_givesAlike_b20 N (nI n) (nI L) q (nI j) (nI ((zWy n L b).countP (fun f => f i == t))) (nI (zu b i (b i &&& zb t) j)) (nI k) c4 c5 c6 c7) r := by
        intro r hy
        refine Yl.step ?_
        simp only [f_X0_givesAlike_b20, if_neg (nI_ge hkn (show n < 2 ^ 31 by omega)), x_bit _ (show k < 8 by omega), z_bs, z_gxn (show j < 8 by omega) (show 8 < 2 ^ 31 by decide), nI_clamp (show j < 2 ^ 31 by omega), fa_and, pk_us, if_neg hne]
        exact Yl.bind h hy
      rcases Nat.eq_zero_or_pos ((zWy n L b).countP (fun f => (f i == t) && (f j == k))) with v0 | v0
      · obtain ⟨r, c4', c5', c6', c7', q1, q2⟩ := ih (k + 1) (upd c4 j (nI (zu b i (b i &&& zb t) j &&& 2 ^ k))) c51 c61 c71 (by omega) (hc4' _) (hnext fun f hf hfi e => List.countP_eq_zero.mp v0 f hf (by rw [hfi, e]; simp))
        refine ⟨r, c4', c5', c6', c7', q1, hgo _ ?_⟩
        simp only [f_X0_givesAlike_b63, v0, if_pos (show nI 0 ≤ 0 by decide), nI_1]
        exact q2
      · obtain ⟨g, hg, hgp⟩ := List.countP_pos_iff.mp v0
        rw [Bool.and_eq_true, beq_iff_eq, beq_iff_eq] at hgp
        by_cases cv : (zWy n L b).countP (fun f => (f i == t) && (f j == k)) = (zWy n L b).countP (fun f => f i == t)
        · have hall := z_cp_all (fun f : Nat → Nat => f i == t) (fun f : Nat → Nat => f j == k) _ cv
          refine ⟨1, upd c4 j (nI (zu b i (b i &&& zb t) j &&& 2 ^ k)), c51, c61, c71, Or.inl ⟨rfl, fun f hf f' hf' e e' => ?_⟩, hgo _ ?_⟩
          · have a1 := hall f hf (by rw [beq_iff_eq]; exact e)
            have a2 := hall f' hf' (by rw [beq_iff_eq]; exact e')
            rw [beq_iff_eq] at a1 a2
            rw [a1, a2]
          · simp only [f_X0_givesAlike_b63, if_neg (nI_nle v0 hv31), if_pos (congrArg nI cv)]
            exact Yl.pure _
        · refine ⟨0, upd c4 j (nI (zu b i (b i &&& zb t) j &&& 2 ^ k)), c51, c61, c71, Or.inr ⟨rfl, fun hal => ?_⟩, hgo _ ?_⟩
          · apply cv
            apply List.countP_congr
            intro f hf
            rw [Bool.and_eq_true, beq_iff_eq, beq_iff_eq]
            exact ⟨fun h => h.1, fun h => ⟨h, by rw [hal f hf g hg h hgp.1]; exact hgp.2⟩⟩
          · simp only [f_X0_givesAlike_b63, if_neg (nI_nle v0 hv31), if_neg (show ¬ nI _ = nI _ from fun e => cv ((nI_eq hv31 hp31).mp e))]
            exact Yl.pure _
    · have co2 : (zu b i (b i &&& zb t) j).testBit k = false := by simpa using co
      have hz : zu b i (b i &&& zb t) j &&& 2 ^ k = 0 := z_and2p.mpr co2
      obtain ⟨r, c4', c5', c6', c7', q1, q2⟩ := ih (k + 1) (upd c4 j (nI (zu b i (b i &&& zb t) j &&& 2 ^ k))) c5 c6 c7 (by omega) (hc4' _) (hnext fun f hf hfi e => by
        have := (hRf f hf).mpr hfi j hj
        rw [e] at this
        exact co this)
      refine ⟨r, c4', c5', c6', c7', q1, Yl.step ?_⟩
      rw [hz] at q2
      simp only [f_X0_givesAlike_b20, if_neg (nI_ge hkn (show n < 2 ^ 31 by omega)), x_bit _ (show k < 8 by omega), z_bs, z_gxn (show j < 8 by omega) (show 8 < 2 ^ 31 by decide), nI_clamp (show j < 2 ^ 31 by omega), fa_and, pk_us, hz, if_pos nI_0, f_X0_givesAlike_b63, if_pos (show (0 : Int32) ≤ 0 by decide), nI_1]
      exact q2
