/-! the small calls: both sides, out of one board and one hand -/
theorem z_ran (a : Int32) : (a < 2 ∨ 8 < a) ∨ ∃ n, 2 ≤ n ∧ n ≤ 8 ∧ a = nI n := by
  rcases pk_ix a (show 9 < 2 ^ 31 by decide) with h | h | ⟨j, h, e⟩
  · refine Or.inl (Or.inl ?_)
    rw [Int32.lt_iff_toInt_lt] at h ⊢
    have h0 : (0 : Int32).toInt = 0 := by decide
    have h2 : (2 : Int32).toInt = 2 := by decide
    omega
  · refine Or.inl (Or.inr ?_)
    have h1 := Int32.le_iff_toInt_le.mp h
    rw [Int32.lt_iff_toInt_lt]
    have e9 : (nI 9).toInt = 9 := by decide
    have e8 : (8 : Int32).toInt = 8 := by decide
    omega
  · by_cases c : j < 2
    · exact Or.inl (Or.inl (by rw [e]; exact nI_lt (b := 2) c (by decide)))
    · exact Or.inr ⟨j, by omega, by omega, e⟩
theorem y_in2 {lo n hi : Nat} (N : Nat) (h1 : lo ≤ n) (h2 : n ≤ hi) (h3 : hi < 2 ^ 31) : f_X1_in N (nI n) (nI lo) (nI hi) = some 1 := by
  rw [f_X1_in, if_neg (nI_nlt h1 (by omega)), if_neg (nI_nlt h2 h3)]
theorem y_in2o {lo hi a : Int32} (N : Nat) (h : a < lo ∨ hi < a) : f_X1_in N a lo hi = some 0 := by
  rw [f_X1_in]
  by_cases c : a < lo
  · rw [if_pos c]
  · rw [if_neg c, if_pos (h.resolve_left c)]
/-- the board and the hand at the start -/
def zb0 (n : Nat) : Nat → Nat := fun i => (2 ^ n - 1) &&& (255 ^^^ 2 ^ i)
theorem x_begin {n : Nat} (hn : n ≤ 8) (c0 c1 : Int32) (c2 c3 : Nat → Int32) : ∃ (c2' c3' : Nat → Int32), (∀ i, i < n → c2' i = nI (zb0 n i)) ∧ (∀ i, i < n → c3' i = -6) ∧ Yd (fun N => f_X0_begin N (nI n) c0 c1 c2 c3) (nI n, 2, c2', c3') := by
  have loop : ∀ (d k : Nat) (c2 c3 : Nat → Int32), k + d = 8 → (∀ i, i < k → i < n → c2 i = nI (zb0 n i)) → (∀ i, i < k → c3 i = -6) → ∃ (c2' c3' : Nat → Int32), (∀ i, i < n → c2' i = nI (zb0 n i)) ∧ (∀ i, i < n → c3' i = -6) ∧ Yl (fun N q => f_X0_begin_b12 N q (nI n) (nI k) (nI n) 2 c2 c3) (nI n, 2, c2', c3') := by
    intro d
    induction d with
    | zero =>
      intro k c2 c3 hk h2 h3
      obtain rfl : k = 8 := by omega
      refine ⟨c2, c3, fun i hi => h2 i (by omega) hi, fun i hi => h3 i (by omega), Yl.step ?_⟩
      simp only [f_X0_begin_b12, if_pos (show (8 : Int32) ≤ nI 8 from by decide)]
      exact Yl.pure _
    | succ d ih =>
      intro k c2 c3 hk h2 h3
      have hk8 : k < 8 := by omega
      have h3' : ∀ i, i < k + 1 → upd c3 k (-6) i = -6 := fun i hi => by
        by_cases e : i = k
        · rw [e, pk_us]
        · rw [pk_un e]; exact h3 i (by omega)
      by_cases c : k < n
      · obtain ⟨c2', c3', a1, a2, a3⟩ := ih (k + 1) (upd c2 k (nI (zb0 n k))) (upd c3 k (-6)) (by omega) (fun i hi hin => by
          by_cases e : i = k
          · rw [e, pk_us]
          · rw [pk_un e]; exact h2 i (by omega) hin) h3'
        refine ⟨c2', c3', a1, a2, Yl.step ?_⟩
        simp only [f_X0_begin_b12, if_neg (show ¬ (8 : Int32) ≤ nI k from nI_ge (b := 8) hk8 (by decide)), if_neg (nI_ge c (show n < 2 ^ 31 by omega)), x_everyone _ hn, x_bit _ hk8, z_bs, f_X0_begin_b43, z_gxn hk8 (show 8 < 2 ^ 31 by decide), nI_clamp (show k < 2 ^ 31 by omega), z_not (z_all_lt hn) (z_2p8 hk8), nI_1]
        exact a3
      · obtain ⟨c2', c3', a1, a2, a3⟩ := ih (k + 1) (upd c2 k 0) (upd c3 k (-6)) (by omega) (fun i hi hin => by
          rw [pk_un (show i ≠ k by omega)]; exact h2 i (by omega) hin) h3'
        refine ⟨c2', c3', a1, a2, Yl.step ?_⟩
        simp only [f_X0_begin_b12, if_neg (show ¬ (8 : Int32) ≤ nI k from nI_ge (b := 8) hk8 (by decide)), if_pos (nI_le (show n ≤ k by omega) (show k < 2 ^ 31 by omega)), f_X0_begin_b43, z_gxn hk8 (show 8 < 2 ^ 31 by decide), nI_clamp (show k < 2 ^ 31 by omega), nI_1]
        exact a3
  obtain ⟨c2', c3', a1, a2, a3⟩ := loop 8 0 c2 c3 (by omega) (fun i hi => absurd hi (Nat.not_lt_zero i)) (fun i hi => absurd hi (Nat.not_lt_zero i))
  refine ⟨c2', c3', a1, a2, ?_⟩
  simp only [f_X0_begin]
  exact a3.diag
theorem y_begin {n : Nat} (hn : n ≤ 8) (c1 : Int32) (c2 c3 : Nat → Int32) : ∃ (c2' c3' : Nat → Int32), (∀ i, i < n → c2' i = nI (zb0 n i)) ∧ (∀ i, i < n → c3' i = -6) ∧ Yd (fun N => f_X1_begin N (nI n) c1 c2 c3) (2, c2', c3') := by
  have loop : ∀ (d k : Nat) (c2 c3 : Nat → Int32), k + d = 8 → (∀ i, i < k → c2 i = nI (zb0 n i)) → (∀ i, i < k → c3 i = -6) → ∃ (c2' c3' : Nat → Int32), (∀ i, i < n → c2' i = nI (zb0 n i)) ∧ (∀ i, i < n → c3' i = -6) ∧ Yl (fun N q => f_X1_begin_b7 N (nI n) q (nI k) 2 c2 c3) (2, c2', c3') := by
    intro d
    induction d with
    | zero =>
      intro k c2 c3 hk h2 h3
      obtain rfl : k = 8 := by omega
      refine ⟨c2, c3, fun i hi => h2 i (by omega), fun i hi => h3 i (by omega), Yl.step ?_⟩
      simp only [f_X1_begin_b7, if_pos (show (8 : Int32) ≤ nI 8 from by decide)]
      exact Yl.pure _
    | succ d ih =>
      intro k c2 c3 hk h2 h3
      have hk8 : k < 8 := by omega
      obtain ⟨c2', c3', a1, a2, a3⟩ := ih (k + 1) (upd c2 k (nI (zb0 n k))) (upd c3 k (-6)) (by omega) (fun i hi => by
          by_cases e : i = k
          · rw [e, pk_us]
          · rw [pk_un e]; exact h2 i (by omega)) (fun i hi => by
          by_cases e : i = k
          · rw [e, pk_us]
          · rw [pk_un e]; exact h3 i (by omega))
      refine ⟨c2', c3', a1, a2, Yl.step ?_⟩
      have hv9 : ((1 : Int32) <<< (nI n &&& 31)) - (1 : Int32) = nI (2 ^ n - 1) := z_shl9 n (by omega)
      have hvk : (1 : Int32) <<< (nI k &&& 31) = nI (2 ^ k) := z_shl k hk8
      simp only [f_X1_begin_b7, if_neg (show ¬ (8 : Int32) ≤ nI k from nI_ge (b := 8) hk8 (by decide)), z_gxn hk8 (show 8 < 2 ^ 31 by decide), nI_clamp (show k < 2 ^ 31 by omega), hv9, hvk, z_not (z_all_lt hn) (z_2p8 hk8), nI_1]
      exact a3
  obtain ⟨c2', c3', a1, a2, a3⟩ := loop 8 0 c2 c3 (by omega) (fun i hi => absurd hi (Nat.not_lt_zero i)) (fun i hi => absurd hi (Nat.not_lt_zero i))
  refine ⟨c2', c3', a1, a2, ?_⟩
  simp only [f_X1_begin]
  exact a3.diag
theorem z_clr : ∀ m, m < 256 → ∀ j, j < 8 → m.testBit j = false → m &&& (255 ^^^ 2 ^ j) = m := by decide +kernel
theorem z_clr_lt : ∀ m, m < 256 → ∀ j, j < 8 → m.testBit j = true → m &&& (255 ^^^ 2 ^ j) < m := by decide +kernel
theorem z_clr_self : ∀ i, i < 8 → (255 ^^^ 2 ^ i : Nat).testBit i = false := by decide +kernel
theorem z_and255 {m : Nat} (h : m < 256) : m &&& (255 ^^^ 0) = m := by
  rw [Nat.xor_zero]
  exact Nat.and_two_pow_sub_one_of_lt_two_pow (n := 8) h
theorem zb_lt {y : Nat} (hy : y ≤ 8) : zb y < 256 := by
  unfold zb
  by_cases c : y < 8
  · rw [if_pos c]; exact z_2p8 c
  · rw [if_neg c]; decide
theorem z_clr_no {m y : Nat} (hm : m < 256) (hy : y ≤ 8) (h : ¬ (y < 8 ∧ m.testBit y = true)) : m &&& (255 ^^^ zb y) = m := by
  unfold zb
  by_cases c : y < 8
  · rw [if_pos c]
    exact z_clr m hm y c (by
      rcases e : m.testBit y with _ | _
      · rfl
      · exact absurd ⟨c, e⟩ h)
  · rw [if_neg c]; exact z_and255 hm
theorem x_barPair {n i y m : Nat} {c2 : Nat → Int32} (hn : n ≤ 8) (hi : i < n) (hy : y ≤ 8) (hb : c2 i = nI m) (hm : m < 256) : ∃ c2' : Nat → Int32, c2' i = nI (m &&& (255 ^^^ zb y)) ∧ (∀ k, k ≠ i → c2' k = c2 k) ∧ ∀ N, f_X0_barPair N (nI i) (hv y) (nI n) c2 = some (if y < 8 ∧ m.testBit y = true then 1 else 0, c2') := by
  have hmg : ∀ N, f_X0_mayGive N (nI i) (hv y) (nI n) c2 = some (if y < 8 ∧ m.testBit y = true then 1 else 0) := fun N => x_mayGive (b := fun _ => m) N hn hi hy hb
  by_cases c : y < 8 ∧ m.testBit y = true
  · refine ⟨upd c2 i (nI (m &&& (255 ^^^ zb y))), pk_us, fun k hk => pk_un hk, fun N => ?_⟩
    rw [if_pos c] at hmg ⊢
    simp only [f_X0_barPair, hmg, z_bs, if_neg (show ¬ (1 : Int32) = 0 by decide), z_gxn (show i < 8 by omega) (show 8 < 2 ^ 31 by decide), x_bitz N hy, nI_clamp (show i < 2 ^ 31 by omega), hb, z_not hm (zb_lt hy)]
  · refine ⟨c2, by rw [z_clr_no hm hy c]; exact hb, fun k _ => rfl, fun N => ?_⟩
    rw [if_neg c] at hmg ⊢
    simp only [f_X0_barPair, hmg, z_bs, if_true]
theorem x_may {n i j m : Nat} {c2 : Nat → Int32} (a3 : Int32) (hn : n ≤ 8) (hi : i < n) (hj : j < n) (hij : i ≠ j) (hb : c2 i = nI m) (hm : m < 256) : ∃ c2' : Nat → Int32, c2' i = nI (if a3 = 0 then m &&& (255 ^^^ 2 ^ j) else m ||| 2 ^ j) ∧ (∀ k, k ≠ i → c2' k = c2 k) ∧ ∀ N, f_X0_may N (nI i) (nI j) a3 (nI n) c2 = some (if m.testBit j = true then 1 else 0, c2') := by
  have hj8 : j < 8 := by omega
  have hmg : ∀ N, f_X0_mayGive N (nI i) (nI j) (nI n) c2 = some (if m.testBit j = true then 1 else 0) := fun N => by
    have h1 : f_X0_mayGive N (nI i) (hv j) (nI n) c2 = some (if j < 8 ∧ m.testBit j = true then 1 else 0) := x_mayGive (b := fun _ => m) N hn hi (by omega) hb
    rw [hv_in hj8] at h1
    rw [h1]
    by_cases c : m.testBit j = true
    · rw [if_pos c, if_pos (show j < 8 ∧ m.testBit j = true from ⟨hj8, c⟩)]
    · rw [if_neg c, if_neg (show ¬ (j < 8 ∧ m.testBit j = true) from fun e => c e.2)]
  have hrf : ∀ N, f_X0_refusePair N (nI i) (nI j) (nI n) = some 0 := fun N => by rw [x_refuse N hn hi hj, if_neg hij]
  by_cases ca : a3 = 0
  · obtain ⟨c2', q1, q2, q3⟩ := x_barPair hn hi (show j ≤ 8 by omega) hb hm
    rw [zb, if_pos hj8] at q1
    rw [hv_in hj8] at q3
    refine ⟨c2', by rw [if_pos ca]; exact q1, q2, fun N => ?_⟩
    by_cases c : m.testBit j = true
    · rw [if_pos c] at hmg ⊢
      simp only [f_X0_may, hrf, z_bs, if_true, hmg, if_neg (show ¬ (1 : Int32) = 0 by decide), f_X0_may_b30, if_pos ca, q3, f_X0_may_b59]
    · rw [if_neg c] at hmg ⊢
      simp only [f_X0_may, hrf, z_bs, if_true, hmg, f_X0_may_b30, if_pos ca, q3, f_X0_may_b59]
  · refine ⟨upd c2 i (nI (m ||| 2 ^ j)), by rw [if_neg ca]; exact pk_us, fun k hk => pk_un hk, fun N => ?_⟩
    by_cases c : m.testBit j = true
    · rw [if_pos c] at hmg ⊢
      simp only [f_X0_may, hrf, z_bs, if_true, hmg, if_neg (show ¬ (1 : Int32) = 0 by decide), f_X0_may_b30, if_neg ca, z_gxn (show i < 8 by omega) (show 8 < 2 ^ 31 by decide), x_bit N hj8, nI_clamp (show i < 2 ^ 31 by omega), hb, fa_or, f_X0_may_b59]
    · rw [if_neg c] at hmg ⊢
      simp only [f_X0_may, hrf, z_bs, if_true, hmg, f_X0_may_b30, if_neg ca, z_gxn (show i < 8 by omega) (show 8 < 2 ^ 31 by decide), x_bit N hj8, nI_clamp (show i < 2 ^ 31 by omega), hb, fa_or, f_X0_may_b59]
theorem y_may {n i j m : Nat} {c2 : Nat → Int32} (a3 : Int32) (N : Nat) (hn : n ≤ 8) (hi : i < n) (hj : j < n) (hij : i ≠ j) (hb : c2 i = nI m) (hm : m < 256) : f_X1_may N (nI i) (nI j) a3 (nI n) c2 = some (if m.testBit j = true then 1 else 0, upd c2 i (nI (if a3 = 0 then m &&& (255 ^^^ 2 ^ j) else m ||| 2 ^ j))) := by
  have hj8 : j < 8 := by omega
  have hs1 : (nI m >>> (nI j &&& 31)) &&& (1 : Int32) = if m.testBit j = true then 1 else 0 := z_shbit m hm j hj8
  have hs2 : (1 : Int32) <<< (nI j &&& 31) = nI (2 ^ j) := z_shl j hj8
  have hne : ¬ nI i = nI j := fun e => hij ((nI_eq (by omega) (by omega)).mp e)
  by_cases ca : a3 = 0
  · rw [if_pos ca]
    simp only [f_X1_may, y_isOne N hn hi, y_isOne N hn hj, z_bs, if_neg (show ¬ (1 : Int32) = 0 by decide), if_neg hne, z_gxn (show i < 8 by omega) (show 8 < 2 ^ 31 by decide), nI_clamp (show i < 2 ^ 31 by omega), hb, f_X1_may_b72, hs1, hs2, z_not hm (z_2p8 hj8), if_pos ca]
  · rw [if_neg ca]
    simp only [f_X1_may, y_isOne N hn hi, y_isOne N hn hj, z_bs, if_neg (show ¬ (1 : Int32) = 0 by decide), if_neg hne, z_gxn (show i < 8 by omega) (show 8 < 2 ^ 31 by decide), nI_clamp (show i < 2 ^ 31 by omega), hb, f_X1_may_b72, hs1, hs2, fa_or, if_neg ca]
/-- two that aren't both of the ones, or are one and the same -/
theorem z_pair (n : Nat) (hn : n ≤ 8) (a1 a2 : Int32) : ((a1 < 0 ∨ nI n ≤ a1) ∨ (a2 < 0 ∨ nI n ≤ a2)) ∨ ∃ i j, i < n ∧ j < n ∧ a1 = nI i ∧ a2 = nI j := by
  rcases z_ix a1 (show n < 2 ^ 31 by omega) with ⟨i, hi, e1⟩ | h
  · rcases z_ix a2 (show n < 2 ^ 31 by omega) with ⟨j, hj, e2⟩ | h
    · exact Or.inr ⟨i, j, hi, hj, e1, e2⟩
    · exact Or.inl (Or.inr h)
  · exact Or.inl (Or.inl h)
theorem y_ones2 {n : Nat} {a1 a2 : Int32} {α : Type} (N : Nat) (h0 : 0 < n) (hn : n ≤ 8) (h : (a1 < 0 ∨ nI n ≤ a1) ∨ (a2 < 0 ∨ nI n ≤ a2)) (r : α) (k : Option α) : Option.bind (f_X1_isOne N a1 (nI n)) (fun u2 => (if u2 = 0 then some r else Option.bind (f_X1_isOne N a2 (nI n)) (fun u10 => (if u10 = 0 then some r else k)))) = some r := by
  rcases z_ix a1 (show n < 2 ^ 31 by omega) with ⟨i, hi, e1⟩ | h1
  · have h2 : a2 < 0 ∨ nI n ≤ a2 := by
      rcases h with h | h
      · rw [e1] at h
        rcases h with h | h
        · exact absurd h (nI_pos (by omega))
        · exact absurd h (nI_ge hi (by omega))
      · exact h
    rw [e1]
    simp only [y_isOne N hn hi, z_bs, if_neg (show ¬ (1 : Int32) = 0 by decide), y_isOne0 N h0 hn h2, if_true]
  · simp only [y_isOne0 N h0 hn h1, z_bs, if_true]
theorem x_ones2 {n : Nat} {a1 a2 : Int32} {α : Type} (N : Nat) (hn : n ≤ 8) (h : (a1 < 0 ∨ nI n ≤ a1) ∨ (a2 < 0 ∨ nI n ≤ a2)) (r : α) (k : Option α) : Option.bind (f_X0_isOne N a1 (nI n)) (fun u2 => (if u2 = 0 then some r else Option.bind (f_X0_isOne N a2 (nI n)) (fun u10 => (if u10 = 0 then some r else k)))) = some r := by
  rcases z_ix a1 (show n < 2 ^ 31 by omega) with ⟨i, hi, e1⟩ | h1
  · have h2 : a2 < 0 ∨ nI n ≤ a2 := by
      rcases h with h | h
      · rw [e1] at h
        rcases h with h | h
        · exact absurd h (nI_pos (by omega))
        · exact absurd h (nI_ge hi (by omega))
      · exact h
    rw [e1]
    simp only [x_isOne N hn hi, z_bs, if_neg (show ¬ (1 : Int32) = 0 by decide), x_isOne0 N h2, if_true]
  · simp only [x_isOne0 N h1, z_bs, if_true]
/-- BAR: the board once the hand's pairs below k are barred -/
def zbar (b w : Nat → Nat) (k : Nat) : Nat → Nat := fun x => if x < k then b x &&& (255 ^^^ zb (w x)) else b x
def zbn (b w : Nat → Nat) : Nat → Int32 := fun i => if w i < 8 ∧ (b i).testBit (w i) = true then 1 else 0
theorem zbar_at (b w : Nat → Nat) (k : Nat) : zbar b w k k = b k := if_neg (Nat.lt_irrefl k)
theorem zbar_next {n k : Nat} {b w : Nat → Nat} {c2 c2' : Nat → Int32} (hr : ∀ j, j < n → c2 j = nI (zbar b w k j)) (h1 : c2' k = nI (b k &&& (255 ^^^ zb (w k)))) (h2 : ∀ j, j ≠ k → c2' j = c2 j) : ∀ j, j < n → c2' j = nI (zbar b w (k + 1) j) := fun j hj => by
  by_cases e : j = k
  · rw [e, h1, zbar, if_pos (Nat.lt_succ_self k)]
  · rw [h2 j e, hr j hj, zbar, zbar]
    by_cases c : j < k
    · rw [if_pos c, if_pos (by omega)]
    · rw [if_neg c, if_neg (by omega)]
theorem x_bar {n : Nat} {b w : Nat → Nat} {c2 c3 : Nat → Int32} (hn : n ≤ 8) (hb : ∀ i, i < n → c2 i = nI (b i) ∧ b i < 256) (hw : ∀ j, j < n → c3 j = hv (w j) ∧ w j ≤ 8) : ∃ c2' : Nat → Int32, (∀ i, i < n → c2' i = nI (zbar b w n i)) ∧ Yd (fun N => f_X0_bar N (nI n) c2 c3) (zs n (zbn b w), c2') := by
  have loop : ∀ (d k : Nat) (c2 : Nat → Int32), k + d = n → (∀ j, j < n → c2 j = nI (zbar b w k j)) → ∃ c2' : Nat → Int32, (∀ i, i < n → c2' i = nI (zbar b w n i)) ∧ Yl (fun N q => f_X0_bar_b4 N (nI n) c3 q (zs k (zbn b w)) (nI k) c2) (zs n (zbn b w), c2') := by
    intro d
    induction d with
    | zero =>
      intro k c2 hk hr
      obtain rfl : k = n := by omega
      refine ⟨c2, hr, Yl.step ?_⟩
      simp only [f_X0_bar_b4, if_pos (nI_le (Nat.le_refl k) (show k < 2 ^ 31 by omega))]
      exact Yl.pure _
    | succ d ih =>
      intro k c2 hk hr
      have hkn : k < n := by omega
      obtain ⟨c21, q1, q2, q3⟩ := x_barPair (c2 := c2) hn hkn (hw k hkn).2 (show c2 k = nI (b k) by rw [hr k hkn, zbar_at]) (hb k hkn).2
      obtain ⟨c2', r1, r2⟩ := ih (k + 1) c21 (by omega) (zbar_next hr q1 q2)
      refine ⟨c2', r1, Yl.step ?_⟩
      simp only [f_X0_bar_b4, if_neg (nI_ge hkn (show n < 2 ^ 31 by omega)), z_gxn (show k < 8 by omega) (show 8 < 2 ^ 31 by decide), nI_clamp (show k < 2 ^ 31 by omega), (hw k hkn).1, q3, z_bs, nI_1]
      exact r2
  obtain ⟨c2', r1, r2⟩ := loop n 0 c2 (by omega) (fun j hj => by rw [(hb j hj).1, zbar, if_neg (Nat.not_lt_zero j)])
  refine ⟨c2', r1, ?_⟩
  simp only [f_X0_bar]
  exact r2.diag
theorem y_bar {n : Nat} {b w : Nat → Nat} {c2 c3 : Nat → Int32} (hn : n ≤ 8) (hb : ∀ i, i < n → c2 i = nI (b i) ∧ b i < 256) (hw : ∀ j, j < n → c3 j = hv (w j) ∧ (w j < n ∨ w j = 8) ∧ w j ≠ j) : ∃ c2' : Nat → Int32, (∀ i, i < n → c2' i = nI (zbar b w n i)) ∧ Yd (fun N => f_X1_bar N (nI n) c2 c3) (zs n (zbn b w), c2') := by
  have loop : ∀ (d k : Nat) (c2 : Nat → Int32), k + d = n → (∀ j, j < n → c2 j = nI (zbar b w k j)) → ∃ c2' : Nat → Int32, (∀ i, i < n → c2' i = nI (zbar b w n i)) ∧ Yl (fun N q => f_X1_bar_b4 N (nI n) c3 q (zs k (zbn b w)) (nI k) c2) (zs n (zbn b w), c2') := by
    intro d
    induction d with
    | zero =>
      intro k c2 hk hr
      obtain rfl : k = n := by omega
      refine ⟨c2, hr, Yl.step ?_⟩
      simp only [f_X1_bar_b4, if_pos (nI_le (Nat.le_refl k) (show k < 2 ^ 31 by omega))]
      exact Yl.pure _
    | succ d ih =>
      intro k c2 hk hr
      have hkn : k < n := by omega
      obtain ⟨w1, w2, w3⟩ := hw k hkn
      have hck : c2 k = nI (b k) := by rw [hr k hkn, zbar_at]
      have hbk := (hb k hkn).2
      by_cases c : w k = 8
      · have hz : zb (w k) = 0 := by rw [c]; rfl
        obtain ⟨c2', r1, r2⟩ := ih (k + 1) c2 (by omega) (zbar_next hr (by rw [hz, z_and255 hbk]; exact hck) (fun _ _ => rfl))
        refine ⟨c2', r1, Yl.step ?_⟩
        have hφ : zs (k + 1) (zbn b w) = zs k (zbn b w) + 0 := by
          show zs k (zbn b w) + zbn b w k = _
          rw [zbn, if_neg (show ¬ (w k < 8 ∧ (b k).testBit (w k) = true) from fun e => by omega)]
        rw [hφ] at r2
        simp only [f_X1_bar_b4, if_neg (nI_ge hkn (show n < 2 ^ 31 by omega)), z_gxn (show k < 8 by omega) (show 8 < 2 ^ 31 by decide), nI_clamp (show k < 2 ^ 31 by omega), w1, if_pos (show hv (w k) < 0 from (hv_neg (by omega)).mpr c), f_X1_bar_b38, nI_1]
        exact r2
      · have hwn : w k < n := w2.resolve_right c
        have hz : zb (w k) = 2 ^ (w k) := if_pos (by omega)
        have hm := fun N => y_may (c2 := c2) 0 N hn hkn hwn (Ne.symm w3) hck hbk
        rw [if_pos (show (0 : Int32) = 0 from rfl)] at hm
        obtain ⟨c2', r1, r2⟩ := ih (k + 1) (upd c2 k (nI (b k &&& (255 ^^^ 2 ^ (w k))))) (by omega) (zbar_next hr (by rw [hz]; exact pk_us) (fun _ h => pk_un h))
        refine ⟨c2', r1, Yl.step ?_⟩
        have hφ : zs (k + 1) (zbn b w) = zs k (zbn b w) + (if (b k).testBit (w k) = true then 1 else 0) := by
          show zs k (zbn b w) + zbn b w k = _
          congr 1
          rw [zbn]
          by_cases cb : (b k).testBit (w k) = true
          · rw [if_pos cb, if_pos (show w k < 8 ∧ (b k).testBit (w k) = true from ⟨by omega, cb⟩)]
          · rw [if_neg cb, if_neg (show ¬ (w k < 8 ∧ (b k).testBit (w k) = true) from fun e => cb e.2)]
        rw [hφ] at r2
        simp only [f_X1_bar_b4, if_neg (nI_ge hkn (show n < 2 ^ 31 by omega)), z_gxn (show k < 8 by omega) (show 8 < 2 ^ 31 by decide), nI_clamp (show k < 2 ^ 31 by omega), w1, if_neg (show ¬ hv (w k) < 0 from fun e => c ((hv_neg (by omega)).mp e)), hv_in (show w k < 8 by omega), if_neg (nI_pos (show w k < 2 ^ 31 by omega)), hm, z_bs, f_X1_bar_b38, nI_1]
        exact r2
  obtain ⟨c2', r1, r2⟩ := loop n 0 c2 (by omega) (fun j hj => by rw [(hb j hj).1, zbar, if_neg (Nat.not_lt_zero j)])
  refine ⟨c2', r1, ?_⟩
  simp only [f_X1_bar]
  exact r2.diag
/-- LAY: whether another gives to this one already -/
theorem x_taken {n i j : Nat} {w : Nat → Nat} {c3 : Nat → Int32} (hn : n ≤ 8) (hj : j < n) (hw : ∀ j, j < n → c3 j = hv (w j) ∧ w j ≤ 8) (hi : i < n) : Yd (fun N => f_X0_isTakenFromOther N (nI i) (nI j) (nI n) c3) (if (∃ k, k < n ∧ k ≠ i ∧ w k = j) then 1 else 0) := by
  have loop : ∀ (d k : Nat), k + d = n → (∀ q, q < k → q ≠ i → w q ≠ j) → Yl (fun N q => f_X0_isTakenFromOther_b2 N (nI n) c3 q (nI i) (nI j) (nI k)) (if (∃ k, k < n ∧ k ≠ i ∧ w k = j) then 1 else 0) := by
    intro d
    induction d with
    | zero =>
      intro k hk h
      obtain rfl : k = n := by omega
      refine Yl.step ?_
      rw [if_neg (fun ⟨q, h1, h2, h3⟩ => h q h1 h2 h3)]
      simp only [f_X0_isTakenFromOther_b2, if_pos (nI_le (Nat.le_refl k) (show k < 2 ^ 31 by omega))]
      exact Yl.pure _
    | succ d ih =>
      intro k hk h
      have hkn : k < n := by omega
      refine Yl.step ?_
      by_cases e : k = i
      · simp only [f_X0_isTakenFromOther_b2, if_neg (nI_ge hkn (show n < 2 ^ 31 by omega)), if_pos (congrArg nI e), f_X0_isTakenFromOther_b27, nI_1]
        exact ih (k + 1) (by omega) (fun q h1 h2 => h q (by omega) h2)
      · simp only [f_X0_isTakenFromOther_b2, if_neg (nI_ge hkn (show n < 2 ^ 31 by omega)), if_neg (show ¬ nI k = nI i from fun q => e ((nI_eq (by omega) (by omega)).mp q)), z_gxn (show k < 8 by omega) (show 8 < 2 ^ 31 by decide), nI_clamp (show k < 2 ^ 31 by omega), (hw k hkn).1, f_X0_isTakenFromOther_b27, nI_1]
        by_cases c : w k = j
        · rw [if_pos (show ∃ k, k < n ∧ k ≠ i ∧ w k = j from ⟨k, hkn, e, c⟩)]
          simp only [if_pos (show hv (w k) = nI j by rw [c, hv_in (by omega)])]
          exact Yl.pure _
        · simp only [if_neg (show ¬ hv (w k) = nI j from fun q => c (hv_inj (hw k hkn).2 (by omega) (by rw [q, hv_in (by omega)])))]
          refine ih (k + 1) (by omega) (fun q h1 h2 => ?_)
          by_cases e2 : q = k
          · rw [e2]; exact c
          · exact h q (by omega) h2
  simp only [f_X0_isTakenFromOther]
  exact (loop n 0 (by omega) (fun q h1 => absurd h1 (Nat.not_lt_zero q))).diag
theorem y_lay {n i j : Nat} {w : Nat → Nat} {c3 : Nat → Int32} (hn : n ≤ 8) (hj : j < n) (hw : ∀ j, j < n → c3 j = hv (w j) ∧ w j ≤ 8) (hi : i < n) : Yd (fun N => f_X1_lay_b30 N (nI n) N (nI i) (nI j) 0 c3) (if (∃ k, k < n ∧ k ≠ i ∧ w k = j) then (-3, c3) else (hv (w i), upd c3 i (nI j))) := by
  have loop : ∀ (d k : Nat), k + d = n → (∀ q, q < k → q ≠ i → w q ≠ j) → Yl (fun N q => f_X1_lay_b30 N (nI n) q (nI i) (nI j) (nI k) c3) (if (∃ k, k < n ∧ k ≠ i ∧ w k = j) then (-3, c3) else (hv (w i), upd c3 i (nI j))) := by
    intro d
    induction d with
    | zero =>
      intro k hk h
      obtain rfl : k = n := by omega
      refine Yl.step ?_
      rw [if_neg (fun ⟨q, h1, h2, h3⟩ => h q h1 h2 h3)]
      have hne : ¬ nI j = -1 := fun e => by
        have := nI_pos (n := j) (by omega)
        rw [e] at this
        exact this (by decide)
      simp only [f_X1_lay_b30, if_pos (nI_le (Nat.le_refl k) (show k < 2 ^ 31 by omega)), z_gxn (show i < 8 by omega) (show 8 < 2 ^ 31 by decide), nI_clamp (show i < 2 ^ 31 by omega), (hw i hi).1, if_neg hne, f_X1_lay_b89]
      exact Yl.pure _
    | succ d ih =>
      intro k hk h
      have hkn : k < n := by omega
      refine Yl.step ?_
      by_cases e : k = i
      · simp only [f_X1_lay_b30, if_neg (nI_ge hkn (show n < 2 ^ 31 by omega)), if_pos (congrArg nI e), f_X1_lay_b60, nI_1]
        exact ih (k + 1) (by omega) (fun q h1 h2 => h q (by omega) h2)
      · simp only [f_X1_lay_b30, if_neg (nI_ge hkn (show n < 2 ^ 31 by omega)), if_neg (show ¬ nI k = nI i from fun q => e ((nI_eq (by omega) (by omega)).mp q)), if_neg (nI_pos (show j < 2 ^ 31 by omega)), z_gxn (show k < 8 by omega) (show 8 < 2 ^ 31 by decide), nI_clamp (show k < 2 ^ 31 by omega), (hw k hkn).1, f_X1_lay_b60, nI_1]
        by_cases c : w k = j
        · rw [if_pos (show ∃ k, k < n ∧ k ≠ i ∧ w k = j from ⟨k, hkn, e, c⟩)]
          simp only [if_pos (show hv (w k) = nI j by rw [c, hv_in (by omega)])]
          exact Yl.pure _
        · simp only [if_neg (show ¬ hv (w k) = nI j from fun q => c (hv_inj (hw k hkn).2 (by omega) (by rw [q, hv_in (by omega)])))]
          refine ih (k + 1) (by omega) (fun q h1 h2 => ?_)
          by_cases e2 : q = k
          · rw [e2]; exact c
          · exact h q (by omega) h2
  exact (loop n 0 (by omega) (fun q h1 => absurd h1 (Nat.not_lt_zero q))).diag
/-- LAY with -1: it gives to nobody any more -/
theorem y_lay0 {n i : Nat} {w : Nat → Nat} {c3 : Nat → Int32} (hn : n ≤ 8) (hw : ∀ j, j < n → c3 j = hv (w j) ∧ w j ≤ 8) (hi : i < n) : Yd (fun N => f_X1_lay_b30 N (nI n) N (nI i) (-1) 0 c3) (hv (w i), upd c3 i (-6)) := by
  have loop : ∀ (d k : Nat), k + d = n → Yl (fun N q => f_X1_lay_b30 N (nI n) q (nI i) (-1) (nI k) c3) (hv (w i), upd c3 i (-6)) := by
    intro d
    induction d with
    | zero =>
      intro k hk
      obtain rfl : k = n := by omega
      refine Yl.step ?_
      simp only [f_X1_lay_b30, if_pos (nI_le (Nat.le_refl k) (show k < 2 ^ 31 by omega)), z_gxn (show i < 8 by omega) (show 8 < 2 ^ 31 by decide), nI_clamp (show i < 2 ^ 31 by omega), (hw i hi).1, if_true, f_X1_lay_b89]
      exact Yl.pure _
    | succ d ih =>
      intro k hk
      have hkn : k < n := by omega
      refine Yl.step ?_
      by_cases e : k = i
      · simp only [f_X1_lay_b30, if_neg (nI_ge hkn (show n < 2 ^ 31 by omega)), if_pos (congrArg nI e), f_X1_lay_b60, nI_1]
        exact ih (k + 1) (by omega)
      · simp only [f_X1_lay_b30, if_neg (nI_ge hkn (show n < 2 ^ 31 by omega)), if_neg (show ¬ nI k = nI i from fun q => e ((nI_eq (by omega) (by omega)).mp q)), if_pos (show (-1 : Int32) < 0 by decide), f_X1_lay_b60, nI_1]
        exact ih (k + 1) (by omega)
  exact (loop n 0 (by omega)).diag
/-- TOLD -/
theorem x_pairs {n : Nat} {b : Nat → Nat} {c2 : Nat → Int32} (hn : n ≤ 8) (hb : ∀ i, i < n → c2 i = nI (b i) ∧ b i < 256) : Yd (fun N => f_X0_countPairs N (nI n) c2) (zs n (fun i => nI (z_pc (b i)))) := by
  have loop : ∀ (d k : Nat), k + d = n → Yl (fun N q => f_X0_countPairs_b4 N (nI n) c2 q (zs k (fun i => nI (z_pc (b i)))) (nI k)) (zs n (fun i => nI (z_pc (b i)))) := by
    intro d
    induction d with
    | zero =>
      intro k hk
      obtain rfl : k = n := by omega
      refine Yl.step ?_
      simp only [f_X0_countPairs_b4, if_pos (nI_le (Nat.le_refl k) (show k < 2 ^ 31 by omega))]
      exact Yl.pure _
    | succ d ih =>
      intro k hk
      have hkn : k < n := by omega
      refine Yl.step ?_
      simp only [f_X0_countPairs_b4, if_neg (nI_ge hkn (show n < 2 ^ 31 by omega)), z_gxn (show k < 8 by omega) (show 8 < 2 ^ 31 by decide), nI_clamp (show k < 2 ^ 31 by omega), (hb k hkn).1, z_bitCount, z_bs, z_bc_pc (b k) (hb k hkn).2, nI_1]
      exact ih (k + 1) (by omega)
  simp only [f_X0_countPairs]
  exact (loop n 0 (by omega)).diag
theorem y_bits {s : Nat} (hs : s < 256) : Yd (fun N => f_X1_bits N (nI s)) (nI (z_pc s)) := by
  have loop : ∀ (d k : Nat), k + d = 8 → Yl (fun N q => f_X1_bits_b4 N q (nI s) (nI ((List.range k).countP (fun i => s.testBit i))) (nI k)) (nI (z_pc s)) := by
    intro d
    induction d with
    | zero =>
      intro k hk
      obtain rfl : k = 8 := by omega
      refine Yl.step ?_
      simp only [f_X1_bits_b4, if_pos (show (8 : Int32) ≤ nI 8 from by decide)]
      exact Yl.pure _
    | succ d ih =>
      intro k hk
      have hk8 : k < 8 := by omega
      have hs1 : (nI s >>> (nI k &&& 31)) &&& (1 : Int32) = if s.testBit k = true then 1 else 0 := z_shbit s hs k hk8
      have hr := ih (k + 1) (by omega)
      rw [List.range_succ, List.countP_append, List.countP_singleton] at hr
      refine Yl.step ?_
      simp only [f_X1_bits_b4, if_neg (show ¬ (8 : Int32) ≤ nI k from nI_ge (b := 8) hk8 (by decide)), hs1, nI_1]
      by_cases c : s.testBit k = true
      · rw [if_pos c] at hr
        simp only [if_pos c, nI_1]
        exact hr
      · rw [if_neg c, Nat.add_zero] at hr
        simp only [if_neg c, Int32.add_zero]
        exact hr
  simp only [f_X1_bits]
  exact (loop 8 0 (by omega)).diag
theorem y_pairs {n : Nat} {b : Nat → Nat} {c2 : Nat → Int32} (c1 : Int32) (c3 : Nat → Int32) (hn : n ≤ 8) (hb : ∀ i, i < n → c2 i = nI (b i) ∧ b i < 256) : Yd (fun N => f_X1_told_b46 N (nI n) c1 c2 c3 N 0 0) (zs n (fun i => nI (z_pc (b i)))) := by
  have loop : ∀ (d k : Nat), k + d = n → Yl (fun N q => f_X1_told_b46 N (nI n) c1 c2 c3 q (zs k (fun i => nI (z_pc (b i)))) (nI k)) (zs n (fun i => nI (z_pc (b i)))) := by
    intro d
    induction d with
    | zero =>
      intro k hk
      obtain rfl : k = n := by omega
      refine Yl.step ?_
      simp only [f_X1_told_b46, if_pos (nI_le (Nat.le_refl k) (show k < 2 ^ 31 by omega))]
      exact Yl.pure _
    | succ d ih =>
      intro k hk
      have hkn : k < n := by omega
      refine Yl.step ?_
      simp only [f_X1_told_b46, if_neg (nI_ge hkn (show n < 2 ^ 31 by omega)), z_gxn (show k < 8 by omega) (show 8 < 2 ^ 31 by decide), nI_clamp (show k < 2 ^ 31 by omega), (hb k hkn).1]
      refine Yl.bind (y_bits (hb k hkn).2) ?_
      simp only [nI_1]
      exact ih (k + 1) (by omega)
  exact (loop n 0 (by omega)).diag
theorem x_givers {n : Nat} (hn : n ≤ 8) {w : Nat → Nat} {c3 : Nat → Int32} (hw : ∀ j, j < n → c3 j = hv (w j) ∧ w j ≤ 8) : Yd (fun N => f_X0_countGivers N (nI n) c3) (nI ((List.range n).countP (fun j => decide (w j < 8)))) := by
  have loop : ∀ (d k : Nat), k + d = n → Yl (fun N q => f_X0_countGivers_b4 N (nI n) c3 q (nI ((List.range k).countP (fun j => decide (w j < 8)))) (nI k)) (nI ((List.range n).countP (fun j => decide (w j < 8)))) := by
    intro d
    induction d with
    | zero =>
      intro k hk
      obtain rfl : k = n := by omega
      refine Yl.step ?_
      simp only [f_X0_countGivers_b4, if_pos (nI_le (Nat.le_refl k) (show k < 2 ^ 31 by omega))]
      exact Yl.pure _
    | succ d ih =>
      intro k hk
      have hkn : k < n := by omega
      have hih := ih (k + 1) (by omega)
      rw [List.range_succ, List.countP_append, List.countP_singleton] at hih
      refine Yl.step ?_
      simp only [f_X0_countGivers_b4, if_neg (nI_ge hkn (show n < 2 ^ 31 by omega)), f_X0_countGivers_b26, nI_1, z_gxn (show k < 8 by omega) (show 8 < 2 ^ 31 by decide), nI_clamp (show k < 2 ^ 31 by omega), (hw k hkn).1]
      by_cases c : w k < 8
      · rw [if_pos (decide_eq_true c)] at hih
        simp only [if_neg (show ¬ hv (w k) = -6 from fun e => by have := (hv_none (hw k hkn).2).mp e; omega)]
        exact hih
      · rw [if_neg (fun e => c (of_decide_eq_true e)), Nat.add_zero] at hih
        have e8 : w k = 8 := by have := (hw k hkn).2; omega
        simp only [if_pos (show hv (w k) = -6 from (hv_none (hw k hkn).2).mpr e8)]
        exact hih
  simp only [f_X0_countGivers]
  exact (loop n 0 (by omega)).diag
/-- DRAW, by the reference: the way into the hand -/
theorem y_draw_loop {n : Nat} {c1 : Int32} {c2 : Nat → Int32} (hn : n ≤ 8) (c4 c5 : Int32) (c6 : Nat → Int32) : ∀ (d k : Nat) (c3 : Nat → Int32), k + d = n → (∀ i, i < k → c3 i = c6 i) → ∃ c3' : Nat → Int32, (∀ i, i < n → c3' i = c6 i) ∧ Yl (fun N q => f_X1_draw_b13 N (nI n) c1 c2 q (nI k) c3 c4 c5 c6) (1, c3', c4, c5, c6) := by
  intro d
  induction d with
  | zero =>
    intro k c3 hk h
    obtain rfl : k = n := by omega
    refine ⟨c3, h, Yl.step ?_⟩
    simp only [f_X1_draw_b13, if_pos (nI_le (Nat.le_refl k) (show k < 2 ^ 31 by omega))]
    exact Yl.pure _
  | succ d ih =>
    intro k c3 hk h
    have hkn : k < n := by omega
    obtain ⟨c3', h1, h2⟩ := ih (k + 1) (upd c3 k (c6 k)) (by omega) (fun i hi => by
      by_cases e : i = k
      · rw [e, pk_us]
      · rw [pk_un e]; exact h i (by omega))
    refine ⟨c3', h1, Yl.step ?_⟩
    simp only [f_X1_draw_b13, if_neg (nI_ge hkn (show n < 2 ^ 31 by omega)), z_gxn (show k < 8 by omega) (show 8 < 2 ^ 31 by decide), nI_clamp (show k < 2 ^ 31 by omega), nI_1]
    exact h2
