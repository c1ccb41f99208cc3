/-! the program's counts, as lengths of lists of ways -/
def zWy (n L : Nat) (b : Nat → Nat) : List (Nat → Nat) := (zW n b (List.range n) z8).filter (zoks L (List.range n))
theorem z_bitsall {n b : Nat} (hb : b < 2 ^ n) : b &&& (2 ^ n - 1) = b := Nat.and_two_pow_sub_one_of_lt_two_pow hb
theorem zD_full {n : Nat} : zD n (2 ^ n - 1) = List.range n := by
  rw [zD, List.filter_eq_self]
  intro i hi
  rw [Nat.testBit_two_pow_sub_one]
  exact decide_eq_true (List.mem_range.mp hi)
theorem zY_full {n L : Nat} {b : Nat → Nat} (hb : ∀ i, i < n → b i < 2 ^ n) : zY n (2 ^ n - 1) L b = zWy n L b := by
  rw [zY, zWy, zD_full, zW_congr n (fun x => b x &&& (2 ^ n - 1)) b (List.range n) z8 (fun x hx => z_bitsall (hb x (List.mem_range.mp hx)))]
theorem z_perW {n : Nat} (hn : n ≤ 8) {rows f : Nat → Nat} (h : f ∈ zW n rows (List.range n) z8) : zper n (fun x => x < n) f := by
  have h1 := ((zall_zW n hn rows).2 f).mp h
  exact ⟨fun x hx => ⟨hx, (h1.2.1 x hx).1⟩, fun x y hx hy => h1.2.2 x y hx hy⟩
theorem zoks_range {n L : Nat} {f : Nat → Nat} : zoks L (List.range n) f = true ↔ ∀ x, x < n → zok L f x = true := by
  rw [zoks, List.all_eq_true]
  exact ⟨fun h x hx => h x (List.mem_range.mpr hx), fun h x hx => h x (List.mem_range.mp hx)⟩
theorem zpsi_ways {n L : Nat} (h0 : 0 < n) (hn : n ≤ 8) (w : Nat → Int32) {f : Nat → Nat} (h : zper n (fun x => x < n) f) : zpsi L w (zlens n f) = if zoks L (List.range n) f = true then w (zlens n f).length else 0 := by
  unfold zpsi
  have e := (z_lens_all (L := L) h0 hn h).symm.trans zoks_range.symm
  by_cases c : zoks L (List.range n) f = true
  · rw [if_pos c, if_pos (e.mpr c)]
  · rw [if_neg c, if_neg (fun h => c (e.mp h))]
theorem zF_ways {n L : Nat} (h0 : 0 < n) (hn : n ≤ 8) (rows : Nat → Nat) : zF n L rows (fun _ => 1) (2 ^ n - 1) = nI (zWy n L rows).length := by
  rw [← zT1_all h0 hn (zall_zW n hn rows) (fun _ => 1), zl_congr (χ := fun f => if zoks L (List.range n) f = true then 1 else 0) (fun f hf => zpsi_ways h0 hn _ (z_perW hn hf)), zl_count, zWy, List.countP_eq_length_filter]
theorem zF_rounds {n L : Nat} (h0 : 0 < n) (hn : n ≤ 8) (rows : Nat → Nat) (q : Nat) : zF n L rows (zwr q) (2 ^ n - 1) = nI ((zWy n L rows).countP (fun f => decide ((zlens n f).length = q))) := by
  rw [← zT1_all h0 hn (zall_zW n hn rows) (zwr q), zl_congr (χ := fun f => if (decide ((zlens n f).length = q) && zoks L (List.range n) f) = true then 1 else 0) (fun f hf => ?_), zl_count, zWy, List.countP_filter]
  rw [zpsi_ways h0 hn _ (z_perW hn hf), zwr]
  by_cases c : zoks L (List.range n) f = true
  · rw [if_pos c, c, Bool.and_true]
    by_cases c2 : (zlens n f).length = q
    · rw [if_pos c2, if_pos (decide_eq_true c2)]
    · rw [if_neg c2, if_neg (fun h => c2 (of_decide_eq_true h))]
  · rw [if_neg c, if_neg]
    intro h
    rw [Bool.and_eq_true] at h
    exact c h.2
/-- COUNTWAYS: how many ways by the rows -/
theorem x_cw {n L : Nat} {rows : Nat → Nat} {c4 : Nat → Int32} (h0 : 0 < n) (hn : n ≤ 8) (hL : 2 ≤ L) (hL8 : L ≤ 8) (hr : ∀ i, i < n → c4 i = nI (rows i)) (c5 c6 c7 : Nat → Int32) : ∃ (c5' c6' c7' : Nat → Int32), Yd (fun N => f_X0_countWays N (nI L) (nI n) c4 c5 c6 c7) (nI (zWy n L rows).length, c5', c6', c7') := by
  obtain ⟨c5', c6', c7', h⟩ := x_countWays h0 hn hL hL8 hr c5 c6 c7
  rw [zF_ways h0 hn] at h
  exact ⟨c5', c6', c7', h⟩
theorem zW_length (n : Nat) (b : Nat → Nat) : ∀ (D : List Nat) (g : Nat → Nat), (zW n b D g).length ≤ n ^ D.length := by
  intro D
  induction D with
  | nil => intro g; exact Nat.le_refl 1
  | cons x D ih =>
    intro g
    rw [zW, List.length_cons, Nat.pow_succ]
    have key : ∀ (l : List Nat), (l.flatMap (fun y => if (b x).testBit y = true ∧ (∀ j, j < n → g j ≠ y) then zW n b D (zu g x y) else [])).length ≤ n ^ D.length * l.length := by
      intro l
      induction l with
      | nil => exact Nat.zero_le _
      | cons y l ihl =>
        rw [List.flatMap_cons, List.length_append, List.length_cons, Nat.mul_succ]
        have : (if (b x).testBit y = true ∧ (∀ j, j < n → g j ≠ y) then zW n b D (zu g x y) else []).length ≤ n ^ D.length := by
          by_cases c : (b x).testBit y = true ∧ (∀ j, j < n → g j ≠ y)
          · rw [if_pos c]; exact ih _
          · rw [if_neg c]; exact Nat.zero_le _
        omega
    have := key (List.range n)
    rwa [List.length_range] at this
theorem zWy_lt {n : Nat} (hn : n ≤ 8) (L : Nat) (b : Nat → Nat) : (zWy n L b).length < 2 ^ 31 := by
  have h1 : (zWy n L b).length ≤ (zW n b (List.range n) z8).length := List.length_filter_le _ _
  have h2 := zW_length n b (List.range n) z8
  rw [List.length_range] at h2
  have h3 : n ^ n ≤ 8 ^ 8 := Nat.le_trans (Nat.pow_le_pow_left hn n) (Nat.pow_le_pow_right (by decide) hn)
  have h4 : 8 ^ 8 < 2 ^ 31 := by decide
  omega
/-- a narrower board's ways, counted among the board's -/
theorem zWy_narrow {n L : Nat} (hn : n ≤ 8) {b b' : Nat → Nat} (hs : ∀ x, x < n → ∀ y, (b' x).testBit y = true → (b x).testBit y = true) (p : (Nat → Nat) → Bool) (hp : ∀ f, f ∈ zWy n L b → ((∀ x, x < n → (b' x).testBit (f x) = true) ↔ p f = true)) : (zWy n L b').length = (zWy n L b).countP p := by
  have h1 : zWy n L b' = (zWy n L b).filter p := by
    rw [zWy, zW_filter n b b' (List.range n) z8 (List.nodup_range (n := n)) (fun x hx => hs x (List.mem_range.mp hx)) (fun x hx => List.mem_range.mp hx) (fun x _ => hn)]
    have h2 : (zWy n L b).filter p = ((zW n b (List.range n) z8).filter (zoks L (List.range n))).filter p := rfl
    rw [h2, List.filter_filter, List.filter_filter]
    apply List.filter_congr
    intro f hf
    by_cases c : zoks L (List.range n) f = true
    · have h3 := hp f (List.mem_filter.mpr ⟨hf, c⟩)
      rw [c, Bool.true_and, Bool.and_true, Bool.eq_iff_iff, ← h3, List.all_eq_true]
      exact ⟨fun h x hx => h x (List.mem_range.mpr hx), fun h x hx => h x (List.mem_range.mp hx)⟩
    · have c2 : zoks L (List.range n) f = false := by simpa using c
      rw [c2, Bool.false_and, Bool.and_false]
  rw [h1, List.countP_eq_length_filter]
theorem zWy_in {n L : Nat} (hn : n ≤ 8) {b f : Nat → Nat} (h : f ∈ zWy n L b) : (∀ i, i < n → f i < n ∧ (b i).testBit (f i) = true) ∧ (∀ i j, i < n → j < n → f i = f j → i = j) ∧ (∀ i, n ≤ i → f i = 8) := by
  have h1 := ((zall_zW n hn b).2 f).mp (List.mem_filter.mp h).1
  exact ⟨h1.2.1, h1.2.2, h1.1⟩
theorem zWy_nodup {n : Nat} (hn : n ≤ 8) (L : Nat) (b : Nat → Nat) : (zWy n L b).Nodup := List.Pairwise.filter _ (zall_zW n hn b).1
/-- without short rounds to forbid, all are ways -/
theorem zWy_free {n : Nat} (hn : n ≤ 8) {b : Nat → Nat} (hb : ∀ i, i < n → (b i).testBit i = false) : zWy n 2 b = zW n b (List.range n) z8 := by
  rw [zWy, List.filter_eq_self]
  intro f hf
  have h1 := ((zall_zW n hn b).2 f).mp hf
  refine zoks_range.mpr fun x hx => zok_iff.mpr fun m h2 h3 e => ?_
  obtain rfl : m = 1 := by omega
  have e2 : f x = x := e
  have := (h1.2.1 x hx).2
  rw [e2, hb x hx] at this
  cases this
