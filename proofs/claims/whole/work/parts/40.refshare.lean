/-! the reference's calls, whole, out of the list of the ways -/
theorem z_full_ne {n : Nat} (h2 : 2 ≤ n) : zD n (2 ^ n - 1) ≠ [] := by
  rw [zD_full]
  intro e
  have h1 : (List.range n).length = 0 := by rw [e]; rfl
  rw [List.length_range] at h1
  omega
theorem y_go_all {n L : Nat} {b : Nat → Nat} {c2 : Nat → Int32} (h2 : 2 ≤ n) (hn : n ≤ 8) (hL : L ≤ 8) (hb : ∀ i, i < n → c2 i = nI (b i) ∧ b i < 2 ^ n) (c4 c5 : Int32) (c6 : Nat → Int32) : ∃ c6' : Nat → Int32, Yd (fun N => f_X1_start N (nI (2 ^ n - 1)) 0 c4 c5 c6) (nI (2 ^ n - 1), 0, c6') ∧ zNX n (2 ^ n - 1) L c2 0 (zWy n L b) c6' := by
  have h2n := z_2p hn
  obtain ⟨c6', q1, q2⟩ := y_go (m := 2 ^ n - 1) (L := L) (bd := b) (c2 := c2) (show 0 < n by omega) hn (z_all_lt hn) hL (fun i hi => ⟨(hb i hi).1, by have := (hb i hi).2; omega⟩) (z_full_ne h2) c4 c5 c6
  rw [zY_full (fun i hi => (hb i hi).2)] at q2
  exact ⟨c6', q1, q2⟩
theorem zWy_8 {n L : Nat} (hn : n ≤ 8) {b f : Nat → Nat} (h : f ∈ zWy n L b) (i : Nat) : f i ≤ 8 := by
  have h1 := zWy_in hn h
  by_cases c : i < n
  · have := (h1.1 i c).1; omega
  · rw [h1.2.2 i (by omega)]; exact Nat.le_refl 8
theorem y_share_loop {n m L i t : Nat} (hi : i < n) (hn : n ≤ 8) (ht : t < 8) {w : Nat → Nat} {c2 c3 : Nat → Int32} {c5 : Int32} (hw : ∀ j, j < n → c3 j = hv (w j) ∧ w j ≤ 8) : ∀ (l : List (Nat → Nat)) (c6 : Nat → Int32) (cnt : Int32), (∀ f, f ∈ l → ∀ j, f j ≤ 8) → zNX n m L c2 c5 l c6 → ∃ c6' : Nat → Int32, Yl (fun N q => f_X1_share_b54 N (nI n) (nI L) c2 c3 q (nI i) (nI t) cnt (nI m) c5 c6) (cnt + nI (l.countP (fun f => decide ((∀ j, j < i → f j = w j) ∧ f i = t))), nI m, c5, c6') := by
  intro l
  induction l with
  | nil =>
    rintro c6 cnt _ ⟨c', h⟩
    refine ⟨c', Yl.step ?_⟩
    simp only [f_X1_share_b54]
    refine Yl.bind h ?_
    simp only [if_true, List.countP_nil, nI_0, Int32.add_zero]
    exact Yl.pure _
  | cons f l ih =>
    rintro c6 cnt hl ⟨c', h, hc, hr⟩
    have hl' : ∀ f, f ∈ l → ∀ j, f j ≤ 8 := fun f hf => hl f (List.mem_cons_of_mem _ hf)
    have hf8 := hl f List.mem_cons_self
    have hag := y_agrees (Nat.le_of_lt hi) hn hw (fun j hj => ⟨hc j hj, hf8 j⟩)
    obtain ⟨c6', h2⟩ := ih c' (cnt + (if decide ((∀ j, j < i → f j = w j) ∧ f i = t) = true then (1 : Int32) else 0)) hl' hr
    refine ⟨c6', Yl.step ?_⟩
    rw [z_cntP]
    simp only [f_X1_share_b54]
    refine Yl.bind h ?_
    simp only [if_neg (show ¬ (1 : Int32) = 0 by decide)]
    refine Yl.bind hag ?_
    by_cases ca : ∀ j, j < i → f j = w j
    · simp only [if_pos ca, if_neg (show ¬ (1 : Int32) = 0 by decide), z_gxn (show i < 8 by omega) (show 8 < 2 ^ 31 by decide), nI_clamp (show i < 2 ^ 31 by omega), hc i hi, f_X1_share_b84, f_X1_share_b85]
      by_cases ct : f i = t
      · rw [if_pos (show decide ((∀ j, j < i → f j = w j) ∧ f i = t) = true from decide_eq_true ⟨ca, ct⟩)] at h2 ⊢
        simp only [if_pos (show hv (f i) = nI t by rw [ct, hv_in ht])]
        exact h2
      · rw [if_neg (show ¬ decide ((∀ j, j < i → f j = w j) ∧ f i = t) = true from fun e => ct (of_decide_eq_true e).2)] at h2 ⊢
        simp only [if_neg (show ¬ hv (f i) = nI t from fun e => ct (hv_inj (hf8 i) (by omega) (by rw [e, hv_in ht])))]
        exact h2
    · rw [if_neg (show ¬ decide ((∀ j, j < i → f j = w j) ∧ f i = t) = true from fun e => ca (of_decide_eq_true e).1)] at h2 ⊢
      simp only [if_neg ca, if_true, f_X1_share_b84, f_X1_share_b85]
      exact h2
theorem y_share {n L i t : Nat} {b w : Nat → Nat} {c2 c3 : Nat → Int32} (h2 : 2 ≤ n) (hn : n ≤ 8) (hL : L ≤ 8) (hb : ∀ i, i < n → c2 i = nI (b i) ∧ b i < 2 ^ n) (hw : ∀ j, j < n → c3 j = hv (w j) ∧ w j ≤ 8) (hi : i < n) (ht : t < n) (c4 c5 : Int32) (c6 : Nat → Int32) : ∃ (c4' c5' : Int32) (c6' : Nat → Int32), Yd (fun N => f_X1_share N (nI i) (nI t) (nI n) (nI L) c2 c3 c4 c5 c6) (if (∀ j, j < i → w j < 8) then nI ((zWy n L b).countP (fun f => decide ((∀ j, j < i → f j = w j) ∧ f i = t))) else -3, c4', c5', c6') := by
  have loop : ∀ (d k : Nat), k + d = i → (∀ j, j < k → w j < 8) → ∃ (c4' c5' : Int32) (c6' : Nat → Int32), Yl (fun N q => f_X1_share_b20 N (nI n) (nI L) c2 c3 q (nI i) (nI t) (nI k) c4 c5 c6) (if (∀ j, j < i → w j < 8) then nI ((zWy n L b).countP (fun f => decide ((∀ j, j < i → f j = w j) ∧ f i = t))) else -3, c4', c5', c6') := by
    intro d
    induction d with
    | zero =>
      intro k hk hok
      have hki : k = i := by omega
      rw [hki] at hok ⊢
      obtain ⟨c61, q1, q2⟩ := y_go_all (L := L) h2 hn hL hb c4 c5 c6
      obtain ⟨c6', q3⟩ := y_share_loop (c2 := c2) (t := t) hi hn (by omega) hw (zWy n L b) c61 0 (fun f hf j => zWy_8 hn hf j) q2
      rw [Int32.zero_add] at q3
      refine ⟨nI (2 ^ n - 1), 0, c6', Yl.step ?_⟩
      rw [if_pos hok]
      simp only [f_X1_share_b20, if_pos (nI_le (Nat.le_refl i) (show i < 2 ^ 31 by omega)), y_all _ hn, z_bs]
      refine Yl.bind q1 ?_
      exact q3.diag.lift
    | succ d ih =>
      intro k hk hok
      have hkn : k < n := by omega
      by_cases c : w k < 8
      · obtain ⟨c4', c5', c6', q⟩ := ih (k + 1) (by omega) (fun j hj => by
          by_cases e : j = k
          · rw [e]; exact c
          · exact hok j (by omega))
        refine ⟨c4', c5', c6', Yl.step ?_⟩
        simp only [f_X1_share_b20, if_neg (nI_ge (show k < i by omega) (show i < 2 ^ 31 by omega)), z_gxn (show k < 8 by omega) (show 8 < 2 ^ 31 by decide), nI_clamp (show k < 2 ^ 31 by omega), (hw k hkn).1, if_pos (show (0 : Int32) ≤ hv (w k) from (hv_nn (hw k hkn).2).mpr c), nI_1]
        exact q
      · refine ⟨c4, c5, c6, Yl.step ?_⟩
        rw [if_neg (show ¬ ∀ j, j < i → w j < 8 from fun H => c (H k (by omega)))]
        simp only [f_X1_share_b20, if_neg (nI_ge (show k < i by omega) (show i < 2 ^ 31 by omega)), z_gxn (show k < 8 by omega) (show 8 < 2 ^ 31 by decide), nI_clamp (show k < 2 ^ 31 by omega), (hw k hkn).1, if_neg (show ¬ (0 : Int32) ≤ hv (w k) from fun e => c ((hv_nn (hw k hkn).2).mp e))]
        exact Yl.pure _
  obtain ⟨c4', c5', c6', q⟩ := loop i 0 (by omega) (fun j hj => absurd hj (Nat.not_lt_zero j))
  refine ⟨c4', c5', c6', ?_⟩
  simp only [f_X1_share, y_isOne _ hn hi, y_isOne _ hn ht, z_bs, if_neg (show ¬ (1 : Int32) = 0 by decide)]
  exact q.diag
/-- RANK, by the reference: no way, a hand that isn't one, or its place -/
theorem y_rank {n L : Nat} {b w : Nat → Nat} {c2 c3 : Nat → Int32} (h2 : 2 ≤ n) (hn : n ≤ 8) (hL : L ≤ 8) (hb : ∀ i, i < n → c2 i = nI (b i) ∧ b i < 2 ^ n) (hw : ∀ j, j < n → c3 j = hv (w j) ∧ w j ≤ 8) (c4 c5 : Int32) (c6 : Nat → Int32) : ∃ (c4' c5' : Int32) (c6' : Nat → Int32), ((¬ ∀ j, j < n → w j < 8) ∧ Yd (fun N => f_X1_rank N (nI n) (nI L) c2 c3 c4 c5 c6) (-3, c4', c5', c6')) ∨ ((∀ j, j < n → w j < 8) ∧ (zWy n L b).countP (fun f => decide (∀ j, j < n → f j = w j)) = 0 ∧ Yd (fun N => f_X1_rank N (nI n) (nI L) c2 c3 c4 c5 c6) (-5, c4', c5', c6')) ∨ ((∀ j, j < n → w j < 8) ∧ ∃ l1 f l2, zWy n L b = l1 ++ f :: l2 ∧ (∀ j, j < n → f j = w j) ∧ Yd (fun N => f_X1_rank N (nI n) (nI L) c2 c3 c4 c5 c6) (nI l1.length, c4', c5', c6')) := by
  have hm := y_handMany hn hw
  have hle : (List.range n).countP (fun j => decide (w j < 8)) ≤ n := by
    have := List.countP_le_length (l := List.range n) (p := fun j => decide (w j < 8))
    rwa [List.length_range] at this
  by_cases c : ∀ j, j < n → w j < 8
  · have e := (z_many w).mpr c
    rw [e] at hm
    obtain ⟨c61, q1, q2⟩ := y_go_all (L := L) h2 hn hL hb c4 c5 c6
    rcases y_rank_loop (c2 := c2) hn hw (zWy n L b) c61 0 (fun f hf j => zWy_8 hn hf j) q2 with ⟨h1, c6', h3⟩ | ⟨l1, f, l2, h1, h3, c6', h4⟩
    · refine ⟨nI (2 ^ n - 1), 0, c6', Or.inr (Or.inl ⟨c, List.countP_eq_zero.mpr fun f hf q => h1 f hf (of_decide_eq_true q), ?_⟩)⟩
      simp only [f_X1_rank]
      refine Yd.bind hm ?_
      simp only [if_pos (nI_le (Nat.le_refl n) (show n < 2 ^ 31 by omega)), y_all _ hn, z_bs]
      exact Yd.bind q1 h3.diag
    · rw [Int32.zero_add] at h4
      refine ⟨nI (2 ^ n - 1), 0, c6', Or.inr (Or.inr ⟨c, l1, f, l2, h1, h3, ?_⟩)⟩
      simp only [f_X1_rank]
      refine Yd.bind hm ?_
      simp only [if_pos (nI_le (Nat.le_refl n) (show n < 2 ^ 31 by omega)), y_all _ hn, z_bs]
      exact Yd.bind q1 h4.diag
  · refine ⟨c4, c5, c6, Or.inl ⟨c, ?_⟩⟩
    have hlt : (List.range n).countP (fun j => decide (w j < 8)) < n := by
      rcases Nat.lt_or_eq_of_le hle with h | h
      · exact h
      · exact absurd ((z_many w).mp h) c
    simp only [f_X1_rank]
    refine Yd.bind hm ?_
    simp only [if_neg (nI_ge hlt (show n < 2 ^ 31 by omega))]
    exact Yd.pure _
/-- the lengths of a way's rounds add up to the number of the ones -/
theorem z_lens_sum {n : Nat} (hn : n ≤ 8) {f : Nat → Nat} (h : zper n (fun x => x < n) f) : ∀ (k R a c len : Nat), z_pc R + 1 = k → zJ n f R a c → (zp f k R a c len).sum = z_pc R + len := by
  have h2n := z_2p hn
  intro k
  induction k with
  | zero => intro R a c len hk; omega
  | succ k ih =>
    intro R a c len hk J
    have hR : R < 2 ^ n := J.1
    rw [zp]
    by_cases e : f c = a
    · rw [if_pos e]
      by_cases e0 : R = 0
      · rw [if_pos e0, e0, List.sum_cons, List.sum_nil, show z_pc 0 = 0 from by decide]
        omega
      · rw [if_neg e0, List.sum_cons]
        have hl := z_lo_in R (by omega) e0
        have hx := z_pc_xor R (by omega) (z_lo R) (z_lo_lt R) hl
        rw [ih _ _ _ _ (by omega) (zJ_close J e hl)]
        omega
    · rw [if_neg e]
      obtain ⟨j1, j2⟩ := zJ_next h J e
      have hx := z_pc_xor R (by omega) (f c) (by have := z_bit_lt hR j1; omega) j1
      rw [ih _ _ _ _ (by omega) j2]
      omega
theorem z_sum_ge {L : Nat} : ∀ (l : List Nat), l.all (fun x => decide (L ≤ x)) = true → L * l.length ≤ l.sum := by
  intro l
  induction l with
  | nil => intro _; exact Nat.zero_le _
  | cons x l ih =>
    intro h
    rw [List.all_cons, Bool.and_eq_true] at h
    have h1 := of_decide_eq_true h.1
    have h2 := ih h.2
    rw [List.length_cons, List.sum_cons, Nat.mul_succ]
    omega
/-- a way has from 1 to 4 rounds -/
theorem z_rounds_range {n L : Nat} (h2 : 2 ≤ n) (hn : n ≤ 8) (hL : 2 ≤ L) {b f : Nat → Nat} (hf : f ∈ zWy n L b) : 1 ≤ (zlens n f).length ∧ (zlens n f).length ≤ 4 := by
  have hW := (List.mem_filter.mp hf)
  have hper := z_perW hn hW.1
  have hok := (z_lens_all (L := L) (show 0 < n by omega) hn hper).mp (zoks_range.mp hW.2)
  have hs : (zlens n f).sum = z_pc ((2 ^ n - 1) ^^^ 1) + 1 := z_lens_sum hn hper _ _ _ _ _ rfl (zJ_init f (by omega))
  have hv : ∀ n, n < 9 → 0 < n → z_pc ((2 ^ n - 1) ^^^ 1) + 1 = n := by decide +kernel
  rw [hv n (by omega) (by omega)] at hs
  have hge := z_sum_ge _ hok
  constructor
  · rcases Nat.eq_zero_or_pos (zlens n f).length with e | e
    · rw [List.length_eq_zero_iff.mp e, List.sum_nil] at hs
      omega
    · exact e
  · have h3 : 2 * (zlens n f).length ≤ L * (zlens n f).length := Nat.mul_le_mul_right _ hL
    omega
