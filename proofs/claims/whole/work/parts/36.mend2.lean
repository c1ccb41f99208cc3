/-! the program's search for mends; the reference's -/
def zDk (n x k : Nat) : List Nat := (List.range' k (n - k)).filter (fun i => i != x)
theorem zDk_mem {n x k i : Nat} : i ∈ zDk n x k ↔ (k ≤ i ∧ i < n) ∧ i ≠ x := by
  rw [zDk, List.mem_filter, List.mem_range'_1, bne_iff_ne]
  constructor
  · rintro ⟨h1, h2⟩; exact ⟨by omega, h2⟩
  · rintro ⟨h1, h2⟩; exact ⟨by omega, h2⟩
theorem zDk_0 {n m x : Nat} (hm : ∀ i, i < n → (m.testBit i = true ↔ i ≠ x)) : zD n m = zDk n x 0 := by
  rw [zD, zDk, Nat.sub_zero, ← List.range_eq_range']
  apply List.filter_congr
  intro i hi
  rw [Bool.eq_iff_iff, hm i (List.mem_range.mp hi), bne_iff_ne]
theorem zDk_n (n x : Nat) : zDk n x n = [] := by rw [zDk, Nat.sub_self]; rfl
theorem zDk_x {n x : Nat} (h : x < n) : zDk n x x = zDk n x (x + 1) := by
  rw [zDk, zDk, show n - x = (n - (x + 1)) + 1 by omega, List.range'_succ, List.filter_cons_of_neg (by simp)]
theorem zDk_cons {n x k : Nat} (h : k < n) (hx : k ≠ x) : zDk n x k = k :: zDk n x (k + 1) := by
  rw [zDk, zDk, show n - k = (n - (k + 1)) + 1 by omega, List.range'_succ, List.filter_cons_of_pos (by simpa using hx)]
theorem zDk_nodup (n x k : Nat) : (zDk n x k).Nodup := List.Pairwise.filter _ List.nodup_range'
/-- the mends that go on from g -/
def zS (n m L x : Nat) (b : Nat → Nat) (k : Nat) (g : Nat → Nat) : List (Nat → Nat) := (zW n (fun y => b y &&& m) (zDk n x k) g).filter (zoks L (zD n m))
def zTm (n m L x : Nat) (b : Nat → Nat) (k : Nat) (g : Nat → Nat) (y : Nat) : List (Nat → Nat) := if (b k &&& m).testBit y = true ∧ (∀ j, j < n → g j ≠ y) then zS n m L x b (k + 1) (zu g k y) else []
theorem zS_flat {n m L x k : Nat} (b g : Nat → Nat) (h : k < n) (hx : k ≠ x) : zS n m L x b k g = (List.range' 0 (n - 0)).flatMap (zTm n m L x b k g) := by
  rw [zS, zDk_cons h hx, zW, List.filter_flatMap, Nat.sub_zero, ← List.range_eq_range']
  congr 1
  funext y
  rw [zTm]
  by_cases c : (b k &&& m).testBit y = true ∧ (∀ j, j < n → g j ≠ y)
  · rw [if_pos c, if_pos c]; rfl
  · rw [if_neg c, if_neg c]; rfl
/-- all that go on from g have at least as many changes -/
theorem zS_more {n m L x k : Nat} (hn : n ≤ 8) {b w g : Nat → Nat} (hkn : k ≤ n) (hg8 : ∀ j, (k ≤ j ∨ j = x) → g j = 8) : ∀ f, f ∈ zS n m L x b k g → zch w x k g ≤ zch w x n f := by
  intro f hf
  have h1 := ((zW_mem n _ (zDk n x k) g (zDk_nodup n x k) (fun z hz => (zDk_mem.mp hz).1.2) (fun z hz => by rw [hg8 z (Or.inl (zDk_mem.mp hz).1.1)]; exact hn) f).mp (List.mem_filter.mp hf).1).1
  rw [← zch_congr w x (f := f) (g := g) k (fun j hj _ => h1 j (fun h => by have := (zDk_mem.mp h).1.1; omega))]
  have := zch_mono w x f k (n - k)
  rwa [show k + (n - k) = n by omega] at this
/-- the state of the trial ahead of k, the search's state s -/
def zTr (n m L x : Nat) (b w : Nat → Nat) (k taken : Nat) (g : Nat → Nat) (s : zSt) (c8 c9 : Nat → Int32) (c10 c11 : Int32) : Prop :=
  taken < 256 ∧ (∀ y, y < 8 → (taken.testBit y = true ↔ ∃ j, j < k ∧ j ≠ x ∧ g j = y)) ∧ (∀ j, j < k → j ≠ x → g j < n) ∧ (∀ j, (k ≤ j ∨ j = x) → g j = 8) ∧ (∀ j, j < k → j ≠ x → c8 j = nI (g j)) ∧ (∀ f, f ∈ zW n (fun y => b y &&& m) (zDk n x k) g → f ∈ zW n (fun y => b y &&& m) (zD n m) z8) ∧ zpX n x s c9 c10 c11 ∧ zcn s + (zS n m L x b k g).length + 1 < 2 ^ 31 ∧ (∀ m' c' h', s = some (m', c', h') → zch w x k g ≤ m')
def zEn (n m L x : Nat) (b w : Nat → Nat) (k : Nat) (g : Nat → Nat) (s : zSt) (c8' c9' : Nat → Int32) (c10' c11' : Int32) : Prop :=
  (∀ j, j < k → j ≠ x → c8' j = nI (g j)) ∧ zpX n x (zfo (zch w x n) (zS n m L x b k g) s) c9' c10' c11'
/-- layMend from k on -/
def zLy (n m L x : Nat) (b w : Nat → Nat) (c2 c3 : Nat → Int32) (d : Nat) : Prop := ∀ (k nd taken : Nat) (g : Nat → Nat) (s : zSt) (c8 c9 : Nat → Int32) (c10 c11 : Int32), k + d = n → d + 1 ≤ nd → zTr n m L x b w k taken g s c8 c9 c10 c11 → ∃ (c8' c9' : Nat → Int32) (c10' c11' : Int32), zEn n m L x b w k g s c8' c9' c10' c11' ∧ Yd (fun N => f_X0_layMend_r N (nI n) (nI L) c2 c3 nd (nI k) (nI x) (nI taken) (nI (zch w x k g)) c8 c9 c10 c11) (c8', c9', c10', c11')
/-- the same, once the giver is k, who isn't x -/
def zGv (n m L x : Nat) (b w : Nat → Nat) (c2 c3 : Nat → Int32) (d : Nat) : Prop := ∀ (k nd taken : Nat) (g : Nat → Nat) (s : zSt) (c8 c9 : Nat → Int32) (c10 c11 : Int32), k + d = n → d ≤ nd → k ≠ x → zTr n m L x b w k taken g s c8 c9 c10 c11 → ∃ (c8' c9' : Nat → Int32) (c10' c11' : Int32), zEn n m L x b w k g s c8' c9' c10' c11' ∧ Yd (fun N => f_X0_layMend_b12 N (nI n) (nI L) c2 c3 (f_X0_layMend_r N (nI n) (nI L) c2 c3 nd) (nI x) (nI taken) (nI (zch w x k g)) (nI k) c8 c9 c10 c11) (c8', c9', c10', c11')
/-- a whole trial is judged -/
theorem x_gv0 {n m L x : Nat} (hn : n ≤ 8) (hL : L ≤ 8) (hx : x < n) (hm : ∀ i, i < n → (m.testBit i = true ↔ i ≠ x)) {b w : Nat → Nat} {c2 c3 : Nat → Int32} : zGv n m L x b w c2 c3 0 := by
  intro k nd taken g s c8 c9 c10 c11 hk _ _ htr
  obtain ⟨-, -, hgn, hg8, hc8, hmem, hs, hcn, hpr⟩ := htr
  obtain rfl : k = n := by omega
  have hS : zS k m L x b k g = if zoks L (zD k m) g = true then [g] else [] := by
    rw [zS, zDk_n, zW]
    by_cases c : zoks L (zD k m) g = true
    · rw [if_pos c, List.filter_cons_of_pos c]; rfl
    · rw [if_neg c, List.filter_cons_of_neg c]; rfl
  have hper : zper k (fun y => y ∈ zD k m) g := z_per hn (bd := b) (hmem g (by rw [zDk_n, zW]; exact List.mem_cons_self))
  obtain ⟨c9', c10', c11', j1, j2⟩ := x_judge (L := L) hn hL hx hm hper hc8 hs (by omega) hpr
  refine ⟨c8, c9', c10', c11', ⟨hc8, by rw [hS]; exact j1⟩, ?_⟩
  simp only [f_X0_layMend_b12, x_isOne0 _ (show nI k < 0 ∨ nI k ≤ nI k from Or.inr (nI_le (Nat.le_refl k) (by omega))), z_bs, if_true]
  exact Yd.bind j2 (Yd.pure _)
set_option maxHeartbeats 2000000 in
/-- the giver k's getters, one by one -/
theorem x_gvs {n m L x : Nat} (hn : n ≤ 8) (hL : L ≤ 8) (hx : x < n) (hm : ∀ i, i < n → (m.testBit i = true ↔ i ≠ x)) {b w : Nat → Nat} {c2 c3 : Nat → Int32} (hb : ∀ i, i < n → c2 i = nI (b i) ∧ b i < 256) (hw : ∀ j, j < n → c3 j = hv (w j) ∧ w j < 8) {d : Nat} (ih : zLy n m L x b w c2 c3 d) : zGv n m L x b w c2 c3 (d + 1) := by
  intro k nd taken g s c8 c9 c10 c11 hk hnd ekx htr
  obtain ⟨htk, htb, hgn, hg8, hc8, hmem, hs, hcn, -⟩ := htr
  have hkn : k < n := by omega
  have hk8 : k < 8 := by omega
  have hbk := (hb k hkn).2
  have hopen : (b k &&& (255 ^^^ taken)) &&& (255 ^^^ 2 ^ x) < 256 := Nat.lt_of_le_of_lt (Nat.le_trans Nat.and_le_left Nat.and_le_left) hbk
  have h255 : ∀ y, y < 8 → (255 : Nat).testBit y = true := by decide +kernel
  have hob : ∀ y, y < n → (((b k &&& (255 ^^^ taken)) &&& (255 ^^^ 2 ^ x)).testBit y = true ↔ (b k &&& m).testBit y = true ∧ ∀ j, j < n → g j ≠ y) := fun y hy => by
    rw [Nat.testBit_and, Nat.testBit_and, Nat.testBit_xor, Nat.testBit_xor, h255 y (by omega), Nat.testBit_two_pow, Nat.testBit_and, Bool.and_eq_true, Bool.and_eq_true, Bool.and_eq_true, hm y hy]
    constructor
    · rintro ⟨⟨a, c⟩, e⟩
      refine ⟨⟨a, fun e2 => by rw [e2] at e; simp at e⟩, fun j hj e2 => ?_⟩
      by_cases q : j < k ∧ j ≠ x
      · rw [(htb y (by omega)).mpr ⟨j, q.1, q.2, e2⟩] at c; cases c
      · rw [hg8 j (by
          by_cases e3 : j = x
          · exact Or.inr e3
          · exact Or.inl (Nat.not_lt.mp fun h => q ⟨h, e3⟩))] at e2
        omega
    · rintro ⟨⟨a, e⟩, c⟩
      refine ⟨⟨a, ?_⟩, ?_⟩
      · rcases q : taken.testBit y with _ | _
        · rfl
        · obtain ⟨j, h1, _, h2⟩ := (htb y (by omega)).mp q
          exact absurd h2 (c j (by omega))
      · have : ¬ x = y := fun q => e q.symm
        simp [this]
  -- the loop over k's getters
  have loop : ∀ (e t : Nat) (s : zSt) (c8 c9 : Nat → Int32) (c10 c11 : Int32), t + e = n → (∀ j, j < k → j ≠ x → c8 j = nI (g j)) → zpX n x s c9 c10 c11 → zcn s + ((List.range' t (n - t)).flatMap (zTm n m L x b k g)).length + 1 < 2 ^ 31 → ∃ (c8' c9' : Nat → Int32) (c10' c11' : Int32), (∀ j, j < k → j ≠ x → c8' j = nI (g j)) ∧ zpX n x (zfo (zch w x n) ((List.range' t (n - t)).flatMap (zTm n m L x b k g)) s) c9' c10' c11' ∧ Yl (fun N q => f_X0_layGetters_b22 N (nI n) (nI L) c2 c3 (f_X0_layMend_r N (nI n) (nI L) c2 c3 nd) q (nI k) (nI x) (nI taken) (nI (zch w x k g)) (nI ((b k &&& (255 ^^^ taken)) &&& (255 ^^^ 2 ^ x))) (nI t) c8 c9 c10 c11) (c8', c9', c10', c11') := by
    intro e
    induction e with
    | zero =>
      intro t s c8 c9 c10 c11 ht hc8 hs _
      obtain rfl : t = n := by omega
      refine ⟨c8, c9, c10, c11, hc8, by rw [Nat.sub_self]; exact hs, Yl.step ?_⟩
      simp only [f_X0_layGetters_b22, if_pos (nI_le (Nat.le_refl t) (show t < 2 ^ 31 by omega))]
      exact Yl.pure _
    | succ e ihe =>
      intro t s c8 c9 c10 c11 ht hc8 hs hcn
      have htn : t < n := by omega
      have hR : (List.range' t (n - t)).flatMap (zTm n m L x b k g) = zTm n m L x b k g t ++ (List.range' (t + 1) (n - (t + 1))).flatMap (zTm n m L x b k g) := by
        rw [show n - t = (n - (t + 1)) + 1 by omega, List.range'_succ, List.flatMap_cons]
      rw [hR, List.length_append] at hcn
      have hch : zch w x (k + 1) (zu g k t) = zch w x k g + (if t = w k then 0 else 1) := by
        rw [zch_succ, zch_congr w x (f := zu g k t) (g := g) k (fun j hj _ => zu_n _ _ (by omega)), zu_s]
        by_cases c : t = w k
        · rw [if_pos c, if_neg (by simp [c])]
        · rw [if_neg c, if_pos (by simp [c, ekx])]
      have hch8 : zch w x (k + 1) (zu g k t) ≤ 8 := Nat.le_trans (zch_le w x (k + 1) _) (by omega)
      by_cases co : ((b k &&& (255 ^^^ taken)) &&& (255 ^^^ 2 ^ x)).testBit t = true
      · have hal := (hob t htn).mp co
        have hT : zTm n m L x b k g t = zS n m L x b (k + 1) (zu g k t) := if_pos hal
        have hg8' : ∀ j, (k + 1 ≤ j ∨ j = x) → zu g k t j = 8 := fun j hj => by
          have ej : j ≠ k := fun q => by rcases hj with h | h; omega; exact ekx (q.symm.trans h)
          rw [zu_n _ _ ej]
          exact hg8 j (by rcases hj with h | h; exact Or.inl (by omega); exact Or.inr h)
        have hne : ¬ (nI ((b k &&& (255 ^^^ taken)) &&& (255 ^^^ 2 ^ x)) &&& nI (2 ^ t)) = 0 := fun q => by
          rw [(z_bitne (show t < 8 by omega)).mp q] at co; cases co
        by_cases hpr : ∀ m' c' h', s = some (m', c', h') → zch w x (k + 1) (zu g k t) ≤ m'
        · -- no more changes than the fewest so far: led on
          have hnlt : ¬ c10 < nI (zch w x (k + 1) (zu g k t)) := by
            match s, hs, hpr with
            | none, hs, _ => rw [hs.1]; exact nI_nlt (a := 8) hch8 (by decide)
            | some (m0, c0, h0), hs, hpr => rw [hs.1]; exact nI_nlt (hpr m0 c0 h0 rfl) (by have := hs.2.2.2.1; omega)
          obtain ⟨c81, c91, c101, c111, ⟨r1, r2⟩, r3⟩ := ih (k + 1) nd (taken ||| 2 ^ t) (zu g k t) s (upd c8 k (nI t)) c9 c10 c11 (by omega) (by omega) ⟨z_or_lt htk (z_2p8 (by omega)), fun y hy => by
              rw [Nat.testBit_or, Bool.or_eq_true, htb y hy, Nat.testBit_two_pow, decide_eq_true_eq]
              constructor
              · rintro (⟨j, q1, q2, q3⟩ | q)
                · exact ⟨j, by omega, q2, by rw [zu_n _ _ (show j ≠ k by omega)]; exact q3⟩
                · exact ⟨k, Nat.lt_succ_self k, ekx, by rw [zu_s]; exact q⟩
              · rintro ⟨j, q1, q2, q3⟩
                by_cases ej : j = k
                · rw [ej, zu_s] at q3; exact Or.inr q3
                · rw [zu_n _ _ ej] at q3; exact Or.inl ⟨j, by omega, q2, q3⟩,
            fun j q1 q2 => by
              by_cases ej : j = k
              · rw [ej, zu_s]; exact htn
              · rw [zu_n _ _ ej]; exact hgn j (by omega) q2,
            hg8',
            fun j q1 q2 => by
              by_cases ej : j = k
              · rw [ej, pk_us, zu_s]
              · rw [pk_un ej, zu_n _ _ ej]; exact hc8 j (by omega) q2,
            fun f hf => hmem f (by
              rw [zDk_cons hkn ekx, zW, List.mem_flatMap]
              exact ⟨t, List.mem_range.mpr htn, by rw [if_pos hal]; exact hf⟩), hs, by rw [← hT]; omega, hpr⟩
          have r1' : ∀ j, j < k → j ≠ x → c81 j = nI (g j) := fun j q1 q2 => by
            have := r1 j (by omega) q2
            rwa [zu_n _ _ (show j ≠ k by omega)] at this
          obtain ⟨c8', c9', c10', c11', s1, s2, s3⟩ := ihe (t + 1) (zfo (zch w x n) (zTm n m L x b k g t) s) c81 c91 c101 c111 (by omega) r1' (by rw [hT]; exact r2) (by
            have := zfo_cn (zch w x n) (zTm n m L x b k g t) s
            omega)
          refine ⟨c8', c9', c10', c11', s1, by rw [hR, zfo_app]; exact s2, Yl.step ?_⟩
          rw [hch] at r3 hnlt
          simp only [f_X0_layGetters_b22, if_neg (nI_ge htn (show n < 2 ^ 31 by omega)), z_gxn hk8 (show 8 < 2 ^ 31 by decide), nI_clamp (show k < 2 ^ 31 by omega), (hw k hkn).1, hv_in (hw k hkn).2]
          by_cases c : t = w k
          · rw [if_pos c, Nat.add_zero] at r3 hnlt
            simp only [if_pos (show nI (w k) = nI t from congrArg nI c.symm), f_X0_layGetters_b49, x_bit _ (show t < 8 by omega), z_bs, if_neg hne, Int32.add_zero, if_neg hnlt, z_gxn hk8 (show 8 < 2 ^ 31 by decide), nI_clamp (show k < 2 ^ 31 by omega), f_X0_layGetters_b97, fa_or, nI_1]
            exact Yl.bind r3 s3
          · rw [if_neg c] at r3 hnlt
            simp only [if_neg (show ¬ nI (w k) = nI t from fun q => c ((nI_eq (by have := (hw k hkn).2; omega) (by omega)).mp q).symm), f_X0_layGetters_b49, x_bit _ (show t < 8 by omega), z_bs, if_neg hne, nI_1, if_neg hnlt, z_gxn hk8 (show 8 < 2 ^ 31 by decide), nI_clamp (show k < 2 ^ 31 by omega), f_X0_layGetters_b97, fa_or]
            exact Yl.bind r3 s3
        · -- more changes than the fewest so far: passed over
          obtain ⟨m0, c0, h0, rfl, hlt⟩ : ∃ m0 c0 h0, s = some (m0, c0, h0) ∧ m0 < zch w x (k + 1) (zu g k t) := by
            match s, hpr with
            | none, hpr => exact (hpr (fun m' c' h' e => by cases e)).elim
            | some (m0, c0, h0), hpr => exact ⟨m0, c0, h0, rfl, Nat.lt_of_not_le fun q => hpr fun m' c' h' e => by cases e; exact q⟩
          have hsk : zfo (zch w x n) (zTm n m L x b k g t) (some (m0, c0, h0)) = some (m0, c0, h0) := by
            rw [hT]
            exact zfo_skip _ _ fun f hf => Nat.lt_of_lt_of_le hlt (zS_more (k := k + 1) hn hkn hg8' f hf)
          obtain ⟨c8', c9', c10', c11', s1, s2, s3⟩ := ihe (t + 1) (some (m0, c0, h0)) c8 c9 c10 c11 (by omega) hc8 hs (by omega)
          refine ⟨c8', c9', c10', c11', s1, by rw [hR, zfo_app, hsk]; exact s2, Yl.step ?_⟩
          have hlt' : c10 < nI (zch w x (k + 1) (zu g k t)) := by rw [hs.1]; exact nI_lt hlt (by omega)
          rw [hch] at hlt'
          simp only [f_X0_layGetters_b22, if_neg (nI_ge htn (show n < 2 ^ 31 by omega)), z_gxn hk8 (show 8 < 2 ^ 31 by decide), nI_clamp (show k < 2 ^ 31 by omega), (hw k hkn).1, hv_in (hw k hkn).2]
          by_cases c : t = w k
          · rw [if_pos c, Nat.add_zero] at hlt'
            simp only [if_pos (show nI (w k) = nI t from congrArg nI c.symm), f_X0_layGetters_b49, x_bit _ (show t < 8 by omega), z_bs, if_neg hne, Int32.add_zero, if_pos hlt', f_X0_layGetters_b97, nI_1]
            exact s3
          · rw [if_neg c] at hlt'
            simp only [if_neg (show ¬ nI (w k) = nI t from fun q => c ((nI_eq (by have := (hw k hkn).2; omega) (by omega)).mp q).symm), f_X0_layGetters_b49, x_bit _ (show t < 8 by omega), z_bs, if_neg hne, nI_1, if_pos hlt', f_X0_layGetters_b97]
            exact s3
      · have co2 : ((b k &&& (255 ^^^ taken)) &&& (255 ^^^ 2 ^ x)).testBit t = false := by simpa using co
        have hT : zTm n m L x b k g t = [] := if_neg fun h => co ((hob t htn).mpr h)
        rw [hT, List.nil_append] at hR
        rw [hT] at hcn
        obtain ⟨c8', c9', c10', c11', s1, s2, s3⟩ := ihe (t + 1) s c8 c9 c10 c11 (by omega) hc8 hs (by
          rw [List.length_nil] at hcn; omega)
        refine ⟨c8', c9', c10', c11', s1, by rw [hR]; exact s2, Yl.step ?_⟩
        simp only [f_X0_layGetters_b22, if_neg (nI_ge htn (show n < 2 ^ 31 by omega)), z_gxn hk8 (show 8 < 2 ^ 31 by decide), f_X0_layGetters_b49, x_bit _ (show t < 8 by omega), z_bs, if_pos ((z_bitne (show t < 8 by omega)).mpr co2), f_X0_layGetters_b97, nI_1, ite_self]
        exact s3
  rw [zS_flat b g hkn ekx] at hcn
  obtain ⟨c8', c9', c10', c11', r1, r2, r3⟩ := loop n 0 s c8 c9 c10 c11 (by omega) hc8 hs hcn
  refine ⟨c8', c9', c10', c11', ⟨r1, by rw [zS_flat b g hkn ekx]; exact r2⟩, ?_⟩
  simp only [f_X0_layMend_b12, x_isOne _ hn hkn, z_bs, if_neg (show ¬ (1 : Int32) = 0 by decide), f_X0_layGetters, z_gxn hk8 (show 8 < 2 ^ 31 by decide), nI_clamp (show k < 2 ^ 31 by omega), x_bit _ (show x < 8 by omega), (hb k hkn).1, z_not hbk htk, z_not (show b k &&& (255 ^^^ taken) < 256 from Nat.lt_of_le_of_lt Nat.and_le_left hbk) (z_2p8 (show x < 8 by omega))]
  exact Yd.bind r3.diag (Yd.pure _)
/-- layMend at k: x itself gives to none -/
theorem x_ly {n m L x : Nat} (hx : x < n) (hn : n ≤ 8) {b w : Nat → Nat} {c2 c3 : Nat → Int32} {d : Nat} (h0 : zGv n m L x b w c2 c3 d) (h1 : ∀ e, d = e + 1 → zGv n m L x b w c2 c3 e) : zLy n m L x b w c2 c3 d := by
  intro k nd taken g s c8 c9 c10 c11 hk hnd htr
  obtain ⟨nd, rfl⟩ : ∃ q, nd = q + 1 := ⟨nd - 1, by omega⟩
  by_cases ekx : k = x
  · subst ekx
    obtain ⟨e, rfl⟩ : ∃ e, d = e + 1 := ⟨d - 1, by omega⟩
    have hSS : zS n m L k b k g = zS n m L k b (k + 1) g := by rw [zS, zS, zDk_x hx]
    have hcc : zch w k (k + 1) g = zch w k k g := by rw [zch_succ]; simp
    obtain ⟨htk, htb, hgn, hg8, hc8, hmem, hs, hcn, hpr⟩ := htr
    obtain ⟨c8', c9', c10', c11', ⟨r1, r2⟩, r3⟩ := h1 e rfl (k + 1) nd taken g s c8 c9 c10 c11 (by omega) (by omega) (Nat.succ_ne_self k) ⟨htk, fun y hy => by
        rw [htb y hy]
        constructor
        · rintro ⟨j, h1, h2, h3⟩; exact ⟨j, by omega, h2, h3⟩
        · rintro ⟨j, h1, h2, h3⟩; exact ⟨j, by omega, h2, h3⟩,
      fun j h1 h2 => hgn j (by omega) h2,
      fun j hj => hg8 j (by rcases hj with h | h; exact Or.inl (by omega); exact Or.inr h),
      fun j h1 h2 => hc8 j (by omega) h2, fun f hf => hmem f (by rw [zDk_x hx]; exact hf), hs, by rw [← hSS]; exact hcn, by rw [hcc]; exact hpr⟩
    refine ⟨c8', c9', c10', c11', ⟨fun j h1 h2 => r1 j (by omega) h2, by rw [hSS]; exact r2⟩, ?_⟩
    rw [hcc] at r3
    simp only [f_X0_layMend_r, if_true, nI_1]
    exact r3
  · obtain ⟨c8', c9', c10', c11', r12, r3⟩ := h0 k nd taken g s c8 c9 c10 c11 hk (by omega) ekx htr
    refine ⟨c8', c9', c10', c11', r12, ?_⟩
    have hne : ¬ nI k = nI x := fun q => ekx ((nI_eq (by omega) (by omega)).mp q)
    simp only [f_X0_layMend_r, if_neg hne]
    exact r3
theorem x_lay {n m L x : Nat} (hn : n ≤ 8) (hL : L ≤ 8) (hx : x < n) (hm : ∀ i, i < n → (m.testBit i = true ↔ i ≠ x)) {b w : Nat → Nat} {c2 c3 : Nat → Int32} (hb : ∀ i, i < n → c2 i = nI (b i) ∧ b i < 256) (hw : ∀ j, j < n → c3 j = hv (w j) ∧ w j < 8) : ∀ d, zGv n m L x b w c2 c3 d ∧ zLy n m L x b w c2 c3 d := by
  intro d
  induction d with
  | zero =>
    have h0 : zGv n m L x b w c2 c3 0 := x_gv0 hn hL hx hm
    exact ⟨h0, x_ly hx hn h0 fun e he => by omega⟩
  | succ d ih =>
    have h0 : zGv n m L x b w c2 c3 (d + 1) := x_gvs hn hL hx hm hb hw ih.2
    exact ⟨h0, x_ly hx hn h0 fun e he => by
      obtain rfl : d = e := by omega
      exact ih.1⟩
/-- FINDMENDS: the fewest changes over the list of mends -/
theorem x_findMends {n m L x : Nat} (h0 : 0 < n) (hn : n ≤ 8) (hL : L ≤ 8) (hx : x < n) (hm : ∀ i, i < n → (m.testBit i = true ↔ i ≠ x)) {b w : Nat → Nat} {c2 c3 : Nat → Int32} (hb : ∀ i, i < n → c2 i = nI (b i) ∧ b i < 256) (hw : ∀ j, j < n → c3 j = hv (w j) ∧ w j < 8) (c8 c9 : Nat → Int32) (c10 c11 : Int32) : ∃ (c8' c9' : Nat → Int32) (c10' c11' : Int32), zpX n x (zfo (zch w x n) (zY n m L b) none) c9' c10' c11' ∧ Yd (fun N => f_X0_findMends N (nI x) (nI n) (nI L) c2 c3 c8 c9 c10 c11) (c8', c9', c10', c11') := by
  have hYS : zY n m L b = zS n m L x b 0 z8 := by rw [zY, zS, ← zDk_0 hm]
  have hlen : (zS n m L x b 0 z8).length + 1 < 2 ^ 31 := by
    have h1 : (zS n m L x b 0 z8).length ≤ (zW n (fun y => b y &&& m) (zDk n x 0) z8).length := List.length_filter_le _ _
    have h2 := zW_length n (fun y => b y &&& m) (zDk n x 0) z8
    have h3 : (zDk n x 0).length ≤ n := by
      have := List.length_filter_le (fun i => i != x) (List.range' 0 (n - 0))
      rw [List.length_range'] at this
      exact this
    have h4 : n ^ (zDk n x 0).length ≤ 8 ^ 8 := Nat.le_trans (Nat.pow_le_pow_left hn _) (Nat.pow_le_pow_right (by decide) (by omega))
    have h5 : 8 ^ 8 + 1 < 2 ^ 31 := by decide
    omega
  obtain ⟨c8', c9', c10', c11', ⟨_, r2⟩, r3⟩ := (x_lay (L := L) hn hL hx hm hb hw n).2 0 10 0 z8 none c8 c9 8 0 (by omega) (by omega) ⟨by decide, fun y _ => by
      rw [Nat.zero_testBit]
      exact ⟨fun h => absurd h (by decide), fun ⟨j, hj, _⟩ => absurd hj (Nat.not_lt_zero j)⟩, fun j hj => absurd hj (Nat.not_lt_zero j), fun _ _ => rfl, fun j hj => absurd hj (Nat.not_lt_zero j), fun f hf => by rw [zDk_0 hm]; exact hf, ⟨rfl, rfl⟩, by show 0 + _ + 1 < 2 ^ 31; omega, fun _ _ _ h => by cases h⟩
  refine ⟨c8', c9', c10', c11', by rw [hYS]; exact r2, ?_⟩
  simp only [f_X0_findMends, f_X0_layMend]
  exact Yd.bind r3 (Yd.pure _)
