/-! the program's answers: the number of a way, the way of a number -/
def zlb : List Nat → (Nat → Nat) → (Nat → Nat) → Bool
  | [], _, _ => false
  | x :: D, f, g => decide (f x < g x) || (decide (f x = g x) && zlb D f g)
theorem zlb_iff : ∀ (D : List Nat) (f g : Nat → Nat), zlb D f g = true ↔ zlx D f g := by
  intro D
  induction D with
  | nil => intro f g; exact ⟨fun h => (by cases h), fun h => absurd h id⟩
  | cons x D ih =>
    intro f g
    rw [zlb, zlx, Bool.or_eq_true, Bool.and_eq_true, decide_eq_true_eq, decide_eq_true_eq, ih]
def zq (n : Nat) (w f : Nat → Nat) (k : Nat) : Bool := decide (∀ j, j < k → f j = w j) && zlb (List.range' k (n - k)) f w
theorem zq_iff (n : Nat) (w f : Nat → Nat) (k : Nat) : zq n w f k = true ↔ (∀ j, j < k → f j = w j) ∧ zlx (List.range' k (n - k)) f w := by
  rw [zq, Bool.and_eq_true, decide_eq_true_eq, zlb_iff]
theorem x_rank_loop {n L : Nat} {b w : Nat → Nat} {c2 c3 : Nat → Int32} (h0 : 0 < n) (hn : n ≤ 8) (hL : 2 ≤ L) (hL8 : L ≤ 8) (hw : ∀ j, j < n → c3 j = hv (w j) ∧ w j < 8) : ∀ (d k : Nat) (acc : Int32) (c4 c5 c6 c7 : Nat → Int32), k + d = n → (∀ j, j < n → c4 j = nI (zrow b w k j)) → ∃ (c4' c5' c6' c7' : Nat → Int32), Yl (fun N q => f_X0_rank_b19 N (nI n) (nI L) c2 c3 q acc (nI k) c4 c5 c6 c7) (acc + nI ((zWy n L b).countP (fun f => zq n w f k)), c4', c5', c6', c7') := by
  intro d
  induction d with
  | zero =>
    intro k acc c4 c5 c6 c7 hk _
    obtain rfl : k = n := by omega
    have z : (zWy k L b).countP (fun f => zq k w f k) = 0 := by
      rw [List.countP_eq_zero]
      intro f _ h
      have := ((zq_iff k w f k).mp h).2
      rw [Nat.sub_self] at this
      exact this
    rw [z, nI_0, Int32.add_zero]
    refine ⟨c4, c5, c6, c7, Yl.step ?_⟩
    simp only [f_X0_rank_b19, if_pos (nI_le (Nat.le_refl k) (show k < 2 ^ 31 by omega))]
    exact Yl.pure _
  | succ d ih =>
    intro k acc c4 c5 c6 c7 hk hr
    have hkn : k < n := by omega
    have hwk := (hw k hkn).2
    have h4k : c4 k = nI (b k) := by rw [hr k hkn, zrow_at]
    have hr2 : ∀ j, j < n → upd c4 k (nI (b k &&& (2 ^ w k - 1))) j = nI (zu (zrow b w k) k (b k &&& (2 ^ w k - 1)) j) := fun j hj => by
      by_cases e : j = k
      · rw [e, pk_us, zu_s]
      · rw [pk_un e, zu_n _ _ e, hr j hj]
    have hlow : ∀ y, (b k &&& (2 ^ w k - 1)).testBit y = true ↔ (b k).testBit y = true ∧ y < w k := fun y => by
      rw [Nat.testBit_and, Bool.and_eq_true, Nat.testBit_two_pow_sub_one, decide_eq_true_eq]
    obtain ⟨c51, c61, c71, h⟩ := x_cwp (b := b) (rows := zu (zrow b w k) k (b k &&& (2 ^ w k - 1))) h0 hn hL hL8 hr2 (fun x hx y h => by
      by_cases e : x = k
      · rw [e, zu_s] at h; rw [e]; exact z_and_sub h
      · rw [zu_n _ _ e] at h; exact zrow_sub h) (fun f => decide ((∀ j, j < k → f j = w j) ∧ f k < w k)) (fun f hf => by
      have hf1 := (zWy_in hn hf).1
      rw [decide_eq_true_eq, ← zrow_iff hn (Nat.le_of_lt hkn) (fun j hj => Nat.le_of_lt (hw j hj).2) hf]
      constructor
      · intro h
        have hk1 := h k hkn
        rw [zu_s] at hk1
        refine ⟨fun x hx => ?_, ((hlow _).mp hk1).2⟩
        by_cases e : x = k
        · rw [e, zrow_at]; exact (hf1 k hkn).2
        · have := h x hx
          rwa [zu_n _ _ e] at this
      · rintro ⟨h1, h2⟩ x hx
        by_cases e : x = k
        · rw [e, zu_s]; exact (hlow _).mpr ⟨(hf1 k hkn).2, h2⟩
        · rw [zu_n _ _ e]; exact h1 x hx) c5 c6 c7
    have hr3 : ∀ j, j < n → upd (upd c4 k (nI (b k &&& (2 ^ w k - 1)))) k (nI (b k &&& 2 ^ w k)) j = nI (zrow b w (k + 1) j) := fun j hj => by
      have hz := zrow_upd hkn hr j hj
      rw [zb, if_pos hwk] at hz
      rw [← hz]
      by_cases e : j = k
      · rw [e, pk_us, pk_us]
      · rw [pk_un e, pk_un e, pk_un e]
    obtain ⟨c4', c5', c6', c7', h2⟩ := ih (k + 1) (acc + nI ((zWy n L b).countP (fun f => decide ((∀ j, j < k → f j = w j) ∧ f k < w k)))) _ c51 c61 c71 (by omega) hr3
    refine ⟨c4', c5', c6', c7', Yl.step ?_⟩
    rw [z_rank_split hkn w _ (fun f k => zq n w f k) (fun f k => zq_iff n w f k), ← nI_add, ← Int32.add_assoc]
    simp only [f_X0_rank_b19, if_neg (nI_ge hkn (show n < 2 ^ 31 by omega)), z_gxn (show k < 8 by omega) (show 8 < 2 ^ 31 by decide), nI_clamp (show k < 2 ^ 31 by omega), (hw k hkn).1, hv_in hwk, x_bit _ hwk, z_bs, z_m1 (Nat.two_pow_pos (w k)), h4k, fa_and]
    refine Yl.bind h ?_
    simp only [nI_1]
    exact h2
/-- of a sorted list, those that are less than one of it stand ahead of it -/
theorem z_rank_pos {n L : Nat} (hn : n ≤ 8) {b w : Nat → Nat} {l1 l2 : List (Nat → Nat)} {f : Nat → Nat} (hl : zWy n L b = l1 ++ f :: l2) (hf : ∀ j, j < n → f j = w j) : (zWy n L b).countP (fun g => zq n w g 0) = l1.length := by
  have hs := zWy_sorted hn L b
  have hr : List.range n = List.range' 0 (n - 0) := by rw [Nat.sub_zero, List.range_eq_range']
  have hw : ∀ g, zq n w g 0 = true ↔ zlx (List.range n) g f := fun g => by
    rw [zq_iff, ← hr]
    have key : ∀ (D : List Nat), (∀ x, x ∈ D → x < n) → (zlx D g w ↔ zlx D g f) := by
      intro D
      induction D with
      | nil => intro _; exact Iff.rfl
      | cons x D ih =>
        intro h
        rw [zlx, zlx, ih (fun z hz => h z (List.mem_cons_of_mem _ hz)), hf x (h x List.mem_cons_self)]
    rw [key _ (fun x hx => List.mem_range.mp hx)]
    exact ⟨fun h => h.2, fun h => ⟨fun j hj => absurd hj (Nat.not_lt_zero j), h⟩⟩
  rw [hl] at hs ⊢
  obtain ⟨h1, h2, h3⟩ := List.pairwise_append.mp hs
  obtain ⟨h4, h5⟩ := List.pairwise_cons.mp h2
  rw [List.countP_append, List.countP_cons]
  have e1 : l1.countP (fun g => zq n w g 0) = l1.length := List.countP_eq_length.mpr fun g hg => (hw g).mpr (h3 g hg f List.mem_cons_self)
  have e2 : l2.countP (fun g => zq n w g 0) = 0 := List.countP_eq_zero.mpr fun g hg h => zlx_asym _ _ _ (h4 g hg) ((hw g).mp h)
  rw [e1, e2, if_neg (fun h => zlx_irr _ f f (fun _ _ => rfl) ((hw f).mp h))]
  omega
/-! the way of a number -/
theorem z_flat_single {α : Type} (F : Nat → List α) (n y : Nat) (h : ∀ y', y' < n → y' ≠ y → F y' = []) : (List.range n).flatMap F = if y < n then F y else [] := by
  induction n with
  | zero => rfl
  | succ n ih =>
    rw [List.range_succ, List.flatMap_append, ih (fun y' h1 h2 => h y' (by omega) h2), List.flatMap_cons, List.flatMap_nil, List.append_nil]
    by_cases e : y = n
    · subst e
      rw [if_neg (by omega), if_pos (by omega), List.nil_append]
    · rw [h n (by omega) (fun e2 => e e2.symm), List.append_nil]
      by_cases c : y < n
      · rw [if_pos c, if_pos (by omega)]
      · rw [if_neg c, if_neg (by omega)]
/-- the ways that go on from g by one getter of x -/
def zT (n L : Nat) (b : Nat → Nat) (x : Nat) (D : List Nat) (g : Nat → Nat) (y : Nat) : List (Nat → Nat) := if (b x).testBit y = true ∧ (∀ j, j < n → g j ≠ y) then (zW n b D (zu g x y)).filter (zoks L (List.range n)) else []
theorem zT_flat (n L : Nat) (b : Nat → Nat) (x : Nat) (D : List Nat) (g : Nat → Nat) : (zW n b (x :: D) g).filter (zoks L (List.range n)) = (List.range n).flatMap (zT n L b x D g) := by
  rw [zW, List.filter_flatMap]
  congr 1
  funext y
  rw [zT]
  by_cases c : (b x).testBit y = true ∧ (∀ j, j < n → g j ≠ y)
  · rw [if_pos c, if_pos c]
  · rw [if_neg c, if_neg c]; rfl
theorem zT_filter {n L : Nat} {b : Nat → Nat} {x : Nat} {D : List Nat} {g : Nat → Nat} (hnd : (x :: D).Nodup) (hlt : ∀ z, z ∈ x :: D → z < n) (hge : ∀ z, z ∈ x :: D → n ≤ g z) {y : Nat} (hy : y < n) : ((zW n b (x :: D) g).filter (zoks L (List.range n))).filter (fun f => f x == y) = zT n L b x D g y := by
  obtain ⟨hxD, hnd⟩ := List.nodup_cons.mp hnd
  have hlt' : ∀ x, x ∈ D → x < n := fun z hz => hlt z (List.mem_cons_of_mem _ hz)
  have hge' : ∀ y z, z ∈ D → n ≤ zu g x y z := fun y z hz => by
    rw [zu_n g y (show z ≠ x from fun e => hxD (e ▸ hz))]
    exact hge z (List.mem_cons_of_mem _ hz)
  have hval : ∀ y f, f ∈ zT n L b x D g y → f x = y := by
    intro y f hf
    rw [zT] at hf
    by_cases c : (b x).testBit y = true ∧ (∀ j, j < n → g j ≠ y)
    · rw [if_pos c] at hf
      rw [((zW_mem n b D (zu g x y) hnd hlt' (hge' y) f).mp (List.mem_filter.mp hf).1).1 x hxD, zu_s]
    · rw [if_neg c] at hf
      cases hf
  rw [zT_flat, List.filter_flatMap, z_flat_single _ n y (fun y' _ hne => by
    rw [List.filter_eq_nil_iff]
    intro f hf h
    rw [hval y' f hf] at h
    exact hne (by simpa using h)), if_pos hy, List.filter_eq_self]
  intro f hf
  rw [hval y f hf]
  simp
theorem x_choose {n L k left : Nat} {b g ro : Nat → Nat} {D : List Nat} {open0 : Nat} (h0 : 0 < n) (hn : n ≤ 8) (hL : 2 ≤ L) (hL8 : L ≤ 8) (hk : k < n) (hD : List.range' k (n - k) = k :: D) (hgn : ∀ j, j < k → g j < n) (hg8 : ∀ j, k ≤ j → g j = 8) (hopen : open0 < 256) (hob : ∀ y, y < 8 → (open0.testBit y = true ↔ (b k).testBit y = true ∧ ∀ j, j < n → g j ≠ y)) (hro1 : ∀ j, j < k → ∀ y, y < 8 → ((ro j).testBit y = true ↔ (b j).testBit y = true ∧ y = g j)) (hro2 : ∀ j, k < j → j < n → ro j = b j) (hb8 : ∀ j, j < n → b j < 256) (hro8 : ∀ j, j < n → ro j < 256) (hS : (zW n b (k :: D) g).filter (zoks L (List.range n)) = (zWy n L b).filter (fun f => decide (∀ j, j < k → f j = g j))) (hleft : left < 2 ^ 31) (c8 : Nat → Int32) : ∀ (d t skip : Nat) (c4 c5 c6 c7 : Nat → Int32), t + d = n → skip ≤ left → (∀ j, j < n → j ≠ k → c4 j = nI (ro j)) → (((List.range' t (n - t)).flatMap (zT n L b k D g))[left - skip]? = none ∧ ∃ (c4' c5' c6' c7' : Nat → Int32), Yl (fun N q => f_X0_chooseGetter_b16 N (nI n) (nI L) q (nI k) (nI left) (nI open0) (nI skip) (nI t) c4 c5 c6 c7 c8) (-1, c4', c5', c6', c7', c8)) ∨ (∃ (to i : Nat) (f : Nat → Nat) (c4' c5' c6' c7' : Nat → Int32), to < n ∧ open0.testBit to = true ∧ i < 2 ^ 31 ∧ ((List.range' t (n - t)).flatMap (zT n L b k D g))[left - skip]? = some f ∧ (zT n L b k D g to)[i]? = some f ∧ (∀ j, j < n → j ≠ k → c4' j = nI (ro j)) ∧ c4' k = nI (open0 &&& 2 ^ to) ∧ Yl (fun N q => f_X0_chooseGetter_b16 N (nI n) (nI L) q (nI k) (nI left) (nI open0) (nI skip) (nI t) c4 c5 c6 c7 c8) (nI i, c4', c5', c6', c7', upd c8 k (nI to))) := by
  intro d
  induction d with
  | zero =>
    intro t skip c4 c5 c6 c7 htd _ _
    obtain rfl : t = n := by omega
    refine Or.inl ⟨by rw [Nat.sub_self]; rfl, c4, c5, c6, c7, Yl.step ?_⟩
    simp only [f_X0_chooseGetter_b16, if_pos (nI_le (Nat.le_refl t) (show t < 2 ^ 31 by omega))]
    exact Yl.pure _
  | succ d ih =>
    intro t skip c4 c5 c6 c7 htd hskip hc4
    have htn : t < n := by omega
    have hk8 : k < 8 := by omega
    have hkD : (k :: D).Nodup := by rw [← hD]; exact List.nodup_range'
    have hkm : ∀ z, z ∈ k :: D → k ≤ z ∧ z < n := fun z hz => by
      rw [← hD, List.mem_range'_1] at hz
      omega
    have hRt : (List.range' t (n - t)).flatMap (zT n L b k D g) = zT n L b k D g t ++ (List.range' (t + 1) (n - (t + 1))).flatMap (zT n L b k D g) := by
      rw [show n - t = (n - (t + 1)) + 1 by omega, List.range'_succ, List.flatMap_cons]
    -- how many go on so
    have hcnt : ∃ (v : Nat) (c51 c61 c71 : Nat → Int32), v = (zT n L b k D g t).length ∧ v < 2 ^ 31 ∧ (∀ r, Yl (fun N q => f_X0_chooseGetter_b59 N (nI n) (nI L) (f_X0_chooseGetter_b16 N (nI n) (nI L) q) (nI k) (nI left) (nI open0) (nI skip) (nI t) (nI v) (upd c4 k (nI (open0 &&& 2 ^ t))) c51 c61 c71 c8) r → Yl (fun N q => f_X0_chooseGetter_b16 N (nI n) (nI L) q (nI k) (nI left) (nI open0) (nI skip) (nI t) c4 c5 c6 c7 c8) r) := by
      have hand : open0 &&& 2 ^ t < 256 := Nat.lt_of_le_of_lt Nat.and_le_left hopen
      by_cases co : open0.testBit t = true
      · have hal := (hob t (by omega)).mp co
        have hne : ¬ nI (open0 &&& 2 ^ t) = 0 := fun e => by
          rw [z_and2p.mp ((z_eq0 (by omega)).mp e)] at co; cases co
        have hr : ∀ j, j < n → upd c4 k (nI (open0 &&& 2 ^ t)) j = nI (zu ro k (open0 &&& 2 ^ t) j) := fun j hj => by
          by_cases e : j = k
          · rw [e, pk_us, zu_s]
          · rw [pk_un e, zu_n _ _ e, hc4 j hj e]
        have hbk : ∀ y, (open0 &&& 2 ^ t).testBit y = true ↔ y = t := fun y => by
          rw [Nat.testBit_and, Bool.and_eq_true, Nat.testBit_two_pow, decide_eq_true_eq]
          exact ⟨fun h => h.2.symm, fun h => by rw [h]; exact ⟨co, rfl⟩⟩
        have hlt8 : ∀ j, j < n → ∀ y, (ro j).testBit y = true → y < 8 := fun j hj y hy => z_bit_lt (n := 8) (hro8 j hj) hy
        obtain ⟨c51, c61, c71, h⟩ := x_cwp (b := b) (rows := zu ro k (open0 &&& 2 ^ t)) h0 hn hL hL8 hr (fun x hx y h => by
          by_cases e : x = k
          · rw [e, zu_s] at h
            rw [e, (hbk y).mp h]
            exact hal.1
          · rw [zu_n _ _ e] at h
            rcases Nat.lt_or_ge x k with q | q
            · exact ((hro1 x q y (hlt8 x hx y h)).mp h).1
            · rw [hro2 x (by omega) hx] at h; exact h) (fun f => (f k == t) && decide (∀ j, j < k → f j = g j)) (fun f hf => by
          have hf1 := (zWy_in hn hf).1
          rw [Bool.and_eq_true, beq_iff_eq, decide_eq_true_eq]
          constructor
          · intro h
            have hk1 := h k hk
            rw [zu_s] at hk1
            refine ⟨(hbk _).mp hk1, fun j hj => ?_⟩
            have := h j (by omega)
            rw [zu_n _ _ (show j ≠ k by omega)] at this
            exact ((hro1 j hj (f j) (by have := (hf1 j (by omega)).1; omega)).mp this).2
          · rintro ⟨h1, h2⟩ x hx
            by_cases e : x = k
            · rw [e, zu_s, h1]; exact (hbk t).mpr rfl
            · rw [zu_n _ _ e]
              rcases Nat.lt_or_ge x k with q | q
              · exact (hro1 x q (f x) (by have := (hf1 x hx).1; omega)).mpr ⟨(hf1 x hx).2, h2 x q⟩
              · rw [hro2 x (by omega) hx]; exact (hf1 x hx).2) c5 c6 c7
        have hv : (zWy n L b).countP (fun f => (f k == t) && decide (∀ j, j < k → f j = g j)) = (zT n L b k D g t).length := by
          rw [← zT_filter hkD (fun z hz => (hkm z hz).2) (fun z hz => by rw [hg8 z (hkm z hz).1]; exact hn) htn, hS, List.filter_filter, List.countP_eq_length_filter]
        rw [hv] at h
        refine ⟨_, c51, c61, c71, rfl, ?_, fun r hy => Yl.step ?_⟩
        · rw [← hv]; exact Nat.lt_of_le_of_lt List.countP_le_length (zWy_lt hn L b)
        · simp only [f_X0_chooseGetter_b16, if_neg (nI_ge htn (show n < 2 ^ 31 by omega)), x_bit _ (show t < 8 by omega), z_bs, z_gxn hk8 (show 8 < 2 ^ 31 by decide), nI_clamp (show k < 2 ^ 31 by omega), fa_and, pk_us, if_neg hne]
          exact Yl.bind h hy
      · have co2 : open0.testBit t = false := by simpa using co
        have hz : open0 &&& 2 ^ t = 0 := z_and2p.mpr co2
        refine ⟨0, c5, c6, c7, ?_, by decide, fun r hy => Yl.step ?_⟩
        · rw [zT, if_neg (fun h => co ((hob t (by omega)).mpr h))]; rfl
        · rw [hz] at hy
          simp only [f_X0_chooseGetter_b16, if_neg (nI_ge htn (show n < 2 ^ 31 by omega)), x_bit _ (show t < 8 by omega), z_bs, z_gxn hk8 (show 8 < 2 ^ 31 by decide), nI_clamp (show k < 2 ^ 31 by omega), fa_and, pk_us, hz, if_pos nI_0]
          exact hy
    obtain ⟨v, c51, c61, c71, hv, hv31, hgo⟩ := hcnt
    have hdiff : nI left - nI skip = nI (left - skip) := pk_sub hskip
    have hc4' : ∀ j, j < n → j ≠ k → upd c4 k (nI (open0 &&& 2 ^ t)) j = nI (ro j) := fun j hj e => by rw [pk_un e]; exact hc4 j hj e
    by_cases c : v ≤ left - skip
    · have hgo2 : ∀ r, Yl (fun N q => f_X0_chooseGetter_b16 N (nI n) (nI L) q (nI k) (nI left) (nI open0) (nI (skip + v)) (nI (t + 1)) (upd c4 k (nI (open0 &&& 2 ^ t))) c51 c61 c71 c8) r → Yl (fun N q => f_X0_chooseGetter_b16 N (nI n) (nI L) q (nI k) (nI left) (nI open0) (nI skip) (nI t) c4 c5 c6 c7 c8) r := by
        intro r hy
        apply hgo
        simp only [f_X0_chooseGetter_b59, hdiff, if_pos (nI_le c (show left - skip < 2 ^ 31 by omega)), nI_add, nI_1]
        exact hy
      have hget : ((List.range' t (n - t)).flatMap (zT n L b k D g))[left - skip]? = ((List.range' (t + 1) (n - (t + 1))).flatMap (zT n L b k D g))[left - (skip + v)]? := by
        rw [hRt, List.getElem?_append_right (by omega), show left - skip - (zT n L b k D g t).length = left - (skip + v) by omega]
      rw [hget]
      rcases ih (t + 1) (skip + v) (upd c4 k (nI (open0 &&& 2 ^ t))) c51 c61 c71 (by omega) (by omega) hc4' with ⟨h1, c4', c5', c6', c7', h2⟩ | ⟨to, i, f, c4', c5', c6', c7', h1, h2, h3, h4, h5, h6, h7, h8⟩
      · exact Or.inl ⟨h1, c4', c5', c6', c7', hgo2 _ h2⟩
      · exact Or.inr ⟨to, i, f, c4', c5', c6', c7', h1, h2, h3, h4, h5, h6, h7, hgo2 _ h8⟩
    · have hlt : left - skip < (zT n L b k D g t).length := by omega
      have hget : ((List.range' t (n - t)).flatMap (zT n L b k D g))[left - skip]? = (zT n L b k D g t)[left - skip]? := by
        rw [hRt, List.getElem?_append_left hlt]
      have hco : open0.testBit t = true := by
        rcases h : open0.testBit t with _ | _
        · exfalso
          rw [zT, if_neg (fun h2 => by rw [(hob t (by omega)).mpr h2] at h; cases h)] at hlt
          exact Nat.not_lt_zero _ hlt
        · rfl
      refine Or.inr ⟨t, left - skip, (zT n L b k D g t)[left - skip], upd c4 k (nI (open0 &&& 2 ^ t)), c51, c61, c71, htn, hco, by omega, by rw [hget]; exact List.getElem?_eq_getElem hlt, List.getElem?_eq_getElem hlt, hc4', pk_us, hgo _ ?_⟩
      simp only [f_X0_chooseGetter_b59, hdiff, if_neg (nI_ge (show left - skip < v by omega) hv31), z_gxn hk8 (show 8 < 2 ^ 31 by decide), nI_clamp (show k < 2 ^ 31 by omega)]
      exact Yl.pure _
