/-! the program's search for mends; the reference's -/
def zDk (n x k : Nat) : List Nat := (List.range' k (n - k)).filter (fun i => i != x)
theorem zDk_mem {n x k i : Nat} : i ∈ zDk n x k ↔ (k ≤ i ∧ i < n) ∧ i ≠ x := by
  rw [zDk, List.mem_filter, List.mem_range'_1, bne_iff_ne]
  constructor
  · rintro ⟨h1, h2⟩; exact ⟨by omega, h2⟩
  · rintro ⟨h1, h2⟩; exact ⟨by omega, h2⟩
theorem zDk_0 {n m x : Nat} (hm : ∀ i, i < n → (m.testBit i = true ↔ i ≠ x)) : zD n m = zDk n x 0 := by
  rw [zD, zDk, Nat.sub_zero, ← List.range_eq_range']
  apply List.filter_congr
  intro i hi
  rw [Bool.eq_iff_iff, hm i (List.mem_range.mp hi), bne_iff_ne]
theorem zDk_n (n x : Nat) : zDk n x n = [] := by rw [zDk, Nat.sub_self]; rfl
theorem zDk_x {n x : Nat} (h : x < n) : zDk n x x = zDk n x (x + 1) := by
  rw [zDk, zDk, show n - x = (n - (x + 1)) + 1 by omega, List.range'_succ, List.filter_cons_of_neg (by simp)]
theorem zDk_cons {n x k : Nat} (h : k < n) (hx : k ≠ x) : zDk n x k = k :: zDk n x (k + 1) := by
  rw [zDk, zDk, show n - k = (n - (k + 1)) + 1 by omega, List.range'_succ, List.filter_cons_of_pos (by simpa using hx)]
theorem zDk_nodup (n x k : Nat) : (zDk n x k).Nodup := List.Pairwise.filter _ List.nodup_range'
/-- the mends that go on from g -/
def zS (n m L x : Nat) (b : Nat → Nat) (k : Nat) (g : Nat → Nat) : List (Nat → Nat) := (zW n (fun y => b y &&& m) (zDk n x k) g).filter (zoks L (zD n m))
def zTm (n m L x : Nat) (b : Nat → Nat) (k : Nat) (g : Nat → Nat) (y : Nat) : List (Nat → Nat) := if (b k &&& m).testBit y = true ∧ (∀ j, j < n → g j ≠ y) then zS n m L x b (k + 1) (zu g k y) else []
theorem zS_flat {n m L x k : Nat} (b g : Nat → Nat) (h : k < n) (hx : k ≠ x) : zS n m L x b k g = (List.range' 0 (n - 0)).flatMap (zTm n m L x b k g) := by
  rw [zS, zDk_cons h hx, zW, List.filter_flatMap, Nat.sub_zero, ← List.range_eq_range']
  congr 1
  funext y
  rw [zTm]
  by_cases c : (b k &&& m).testBit y = true ∧ (∀ j, j < n → g j ≠ y)
  · rw [if_pos c, if_pos c]; rfl
  · rw [if_neg c, if_neg c]; rfl
set_option maxHeartbeats 2000000 in
theorem x_lay {n m L x : Nat} (hn : n ≤ 8) (hL : L ≤ 8) (hx : x < n) (hm : ∀ i, i < n → (m.testBit i = true ↔ i ≠ x)) {b w : Nat → Nat} {c2 c3 : Nat → Int32} (hb : ∀ i, i < n → c2 i = nI (b i) ∧ b i < 256) (hw : ∀ j, j < n → c3 j = hv (w j) ∧ w j < 8) : ∀ (d k nd taken : Nat) (g : Nat → Nat) (s : zSt) (c8 c9 : Nat → Int32) (c10 c11 : Int32), k + d = n → d + 1 ≤ nd → taken < 256 → (∀ y, y < 8 → (taken.testBit y = true ↔ ∃ j, j < k ∧ j ≠ x ∧ g j = y)) → (∀ j, j < k → j ≠ x → g j < n) → (∀ j, (k ≤ j ∨ j = x) → g j = 8) → (∀ j, j < k → j ≠ x → c8 j = nI (g j)) → (∀ f, f ∈ zW n (fun y => b y &&& m) (zDk n x k) g → f ∈ zW n (fun y => b y &&& m) (zD n m) z8) → zpX n x s c9 c10 c11 → zcn s + (zS n m L x b k g).length + 1 < 2 ^ 31 → ∃ (c8' c9' : Nat → Int32) (c10' c11' : Int32), (∀ j, j < k → j ≠ x → c8' j = nI (g j)) ∧ zpX n x (zfo (zch w x n) (zS n m L x b k g) s) c9' c10' c11' ∧ Yd (fun N => f_X0_layMend_r N (nI n) (nI L) c2 c3 nd (nI k) (nI x) (nI taken) (nI (zch w x k g)) c8 c9 c10 c11) (c8', c9', c10', c11') := by
  intro d
  induction d with
  | zero =>
    intro k nd taken g s c8 c9 c10 c11 hk hnd _ _ hgn hg8 hc8 hmem hs hcn
    obtain rfl : k = n := by omega
    obtain ⟨nd, rfl⟩ : ∃ q, nd = q + 1 := ⟨nd - 1, by omega⟩
    have hS : zS k m L x b k g = if zoks L (zD k m) g = true then [g] else [] := by
      rw [zS, zDk_n, zW]
      by_cases c : zoks L (zD k m) g = true
      · rw [if_pos c, List.filter_cons_of_pos c]; rfl
      · rw [if_neg c, List.filter_cons_of_neg c]; rfl
    have hper : zper k (fun y => y ∈ zD k m) g := z_per hn (bd := b) (hmem g (by rw [zDk_n, zW]; exact List.mem_cons_self))
    have hch8 : zch w x k g ≤ 8 := Nat.le_trans (zch_le w x k g) hn
    have hgo : (∀ m' c' h', s = some (m', c', h') → zch w x k g ≤ m') → nI (zch w x k g) ≤ c10 → ∃ (c8' c9' : Nat → Int32) (c10' c11' : Int32), (∀ j, j < k → j ≠ x → c8' j = nI (g j)) ∧ zpX k x (zfo (zch w x k) (zS k m L x b k g) s) c9' c10' c11' ∧ Yd (fun N => f_X0_layMend_r N (nI k) (nI L) c2 c3 (nd + 1) (nI k) (nI x) (nI taken) (nI (zch w x k g)) c8 c9 c10 c11) (c8', c9', c10', c11') := by
      intro hpr hle
      rw [hS]
      obtain ⟨c9', c10', c11', j1, j2⟩ := x_judge (L := L) hn hL hx hm hper hc8 hs (by omega) hpr
      refine ⟨c8, c9', c10', c11', hc8, j1, ?_⟩
      simp only [f_X0_layMend_r, if_pos hle, x_isOne0 _ (show nI k < 0 ∨ nI k ≤ nI k from Or.inr (nI_le (Nat.le_refl k) (by omega))), z_bs, if_true]
      exact Yd.bind j2 (Yd.pure _)
    match s, hs, hgo with
    | none, hs, hgo => exact hgo (fun m' c' h' e => by cases e) (by rw [hs.1]; exact nI_le (b := 8) hch8 (by decide))
    | some (m0, c0, h0), hs, hgo =>
      by_cases c : zch w x k g ≤ m0
      · exact hgo (fun m' c' h' e => by cases e; exact c) (by rw [hs.1]; exact nI_le c (by have := hs.2.2.2.1; omega))
      · refine ⟨c8, c9, c10, c11, hc8, ?_, ?_⟩
        · rw [zfo_skip]
          · exact hs
          · intro f hf
            rw [hS] at hf
            by_cases cz : zoks L (zD k m) g = true
            · rw [if_pos cz] at hf
              rw [List.mem_singleton.mp hf]
              omega
            · rw [if_neg cz] at hf; cases hf
        · simp only [f_X0_layMend_r, hs.1, if_neg (nI_ge (show m0 < zch w x k g by omega) (show zch w x k g < 2 ^ 31 by omega))]
          exact Yd.pure _
  | succ d ih =>
    intro k nd taken g s c8 c9 c10 c11 hk hnd htk htb hgn hg8 hc8 hmem hs hcn
    have hkn : k < n := by omega
    have hk8 : k < 8 := by omega
    obtain ⟨nd, rfl⟩ : ∃ q, nd = q + 1 := ⟨nd - 1, by omega⟩
    have hch8 : zch w x k g ≤ 8 := Nat.le_trans (zch_le w x k g) (by omega)
    -- all that go on have at least as many changes
    have hmore : ∀ f, f ∈ zS n m L x b k g → zch w x k g ≤ zch w x n f := by
      intro f hf
      have h1 := ((zW_mem n _ (zDk n x k) g (zDk_nodup n x k) (fun z hz => (zDk_mem.mp hz).1.2) (fun z hz => by rw [hg8 z (Or.inl (zDk_mem.mp hz).1.1)]; exact hn) f).mp (List.mem_filter.mp hf).1).1
      rw [← zch_congr w x (f := f) (g := g) k (fun j hj _ => h1 j (fun h => by have := (zDk_mem.mp h).1.1; omega))]
      have := zch_mono w x f k (n - k)
      rwa [show k + (n - k) = n by omega] at this
    have hgo : nI (zch w x k g) ≤ c10 → ∃ (c8' c9' : Nat → Int32) (c10' c11' : Int32), (∀ j, j < k → j ≠ x → c8' j = nI (g j)) ∧ zpX n x (zfo (zch w x n) (zS n m L x b k g) s) c9' c10' c11' ∧ Yd (fun N => f_X0_layMend_r N (nI n) (nI L) c2 c3 (nd + 1) (nI k) (nI x) (nI taken) (nI (zch w x k g)) c8 c9 c10 c11) (c8', c9', c10', c11') := by
      intro hle
      by_cases ekx : k = x
      · -- x itself gives to none
        subst ekx
        have hSS : zS n m L k b k g = zS n m L k b (k + 1) g := by rw [zS, zS, zDk_x hkn]
        have hcc : zch w k (k + 1) g = zch w k k g := by rw [zch_succ]; simp
        have hr := ih (k + 1) nd taken g s c8 c9 c10 c11 (by omega) (by omega) htk (fun y hy => by
            rw [htb y hy]
            constructor
            · rintro ⟨j, h1, h2, h3⟩; exact ⟨j, by omega, h2, h3⟩
            · rintro ⟨j, h1, h2, h3⟩; exact ⟨j, by omega, h2, h3⟩)
          (fun j h1 h2 => hgn j (by omega) h2)
          (fun j hj => hg8 j (by rcases hj with h | h; exact Or.inl (by omega); exact Or.inr h))
          (fun j h1 h2 => hc8 j (by omega) h2) (fun f hf => hmem f (by rw [zDk_x hkn]; exact hf)) hs (by rw [← hSS]; exact hcn)
        obtain ⟨c8', c9', c10', c11', r1, r2, r3⟩ := hr
        refine ⟨c8', c9', c10', c11', fun j h1 h2 => r1 j (by omega) h2, by rw [hSS]; exact r2, ?_⟩
        rw [hcc] at r3
        simp only [f_X0_layMend_r, if_pos hle, x_isOne _ hn hkn, z_bs, if_neg (show ¬ (1 : Int32) = 0 by decide), if_true, nI_1]
        exact Yd.bind r3 (Yd.pure _)
      · have hbk := (hb k hkn).2
        have hopen : (b k &&& (255 ^^^ taken)) &&& (255 ^^^ 2 ^ x) < 256 := Nat.lt_of_le_of_lt (Nat.le_trans Nat.and_le_left Nat.and_le_left) hbk
        have h255 : ∀ y, y < 8 → (255 : Nat).testBit y = true := by decide +kernel
        have hob : ∀ y, y < n → (((b k &&& (255 ^^^ taken)) &&& (255 ^^^ 2 ^ x)).testBit y = true ↔ (b k &&& m).testBit y = true ∧ ∀ j, j < n → g j ≠ y) := fun y hy => by
          rw [Nat.testBit_and, Nat.testBit_and, Nat.testBit_xor, Nat.testBit_xor, h255 y (by omega), Nat.testBit_two_pow, Nat.testBit_and, Bool.and_eq_true, Bool.and_eq_true, Bool.and_eq_true, hm y hy]
          constructor
          · rintro ⟨⟨a, c⟩, e⟩
            refine ⟨⟨a, fun e2 => by rw [e2] at e; simp at e⟩, fun j hj e2 => ?_⟩
            by_cases q : j < k ∧ j ≠ x
            · rw [(htb y (by omega)).mpr ⟨j, q.1, q.2, e2⟩] at c; cases c
            · rw [hg8 j (by
                by_cases e3 : j = x
                · exact Or.inr e3
                · exact Or.inl (Nat.not_lt.mp fun h => q ⟨h, e3⟩))] at e2
              omega
          · rintro ⟨⟨a, e⟩, c⟩
            refine ⟨⟨a, ?_⟩, ?_⟩
            · rcases q : taken.testBit y with _ | _
              · rfl
              · obtain ⟨j, h1, _, h2⟩ := (htb y (by omega)).mp q
                exact absurd h2 (c j (by omega))
            · have : ¬ x = y := fun q => e q.symm
              simp [this]
        -- the loop over k's getters
        have loop : ∀ (e t : Nat) (s : zSt) (c8 c9 : Nat → Int32) (c10 c11 : Int32), t + e = n → (∀ j, j < k → j ≠ x → c8 j = nI (g j)) → zpX n x s c9 c10 c11 → zcn s + ((List.range' t (n - t)).flatMap (zTm n m L x b k g)).length + 1 < 2 ^ 31 → ∃ (c8' c9' : Nat → Int32) (c10' c11' : Int32), (∀ j, j < k → j ≠ x → c8' j = nI (g j)) ∧ zpX n x (zfo (zch w x n) ((List.range' t (n - t)).flatMap (zTm n m L x b k g)) s) c9' c10' c11' ∧ Yl (fun N q => f_X0_layMend_b69 N (nI n) (nI L) c2 c3 (f_X0_layMend_r N (nI n) (nI L) c2 c3 nd) q (nI k) (nI x) (nI taken) (nI (zch w x k g)) (nI ((b k &&& (255 ^^^ taken)) &&& (255 ^^^ 2 ^ x))) (nI t) c8 c9 c10 c11) (c8', c9', c10', c11') := by
          intro e
          induction e with
          | zero =>
            intro t s c8 c9 c10 c11 ht hc8 hs _
            obtain rfl : t = n := by omega
            refine ⟨c8, c9, c10, c11, hc8, by rw [Nat.sub_self]; exact hs, Yl.step ?_⟩
            simp only [f_X0_layMend_b69, if_pos (nI_le (Nat.le_refl t) (show t < 2 ^ 31 by omega))]
            exact Yl.pure _
          | succ e ihe =>
            intro t s c8 c9 c10 c11 ht hc8 hs hcn
            have htn : t < n := by omega
            have hR : (List.range' t (n - t)).flatMap (zTm n m L x b k g) = zTm n m L x b k g t ++ (List.range' (t + 1) (n - (t + 1))).flatMap (zTm n m L x b k g) := by
              rw [show n - t = (n - (t + 1)) + 1 by omega, List.range'_succ, List.flatMap_cons]
            rw [hR, List.length_append] at hcn
            by_cases co : ((b k &&& (255 ^^^ taken)) &&& (255 ^^^ 2 ^ x)).testBit t = true
            · have hal := (hob t htn).mp co
              have hT : zTm n m L x b k g t = zS n m L x b (k + 1) (zu g k t) := if_pos hal
              have hch : zch w x (k + 1) (zu g k t) = zch w x k g + (if t = w k then 0 else 1) := by
                rw [zch_succ, zch_congr w x (f := zu g k t) (g := g) k (fun j hj _ => zu_n _ _ (by omega)), zu_s]
                by_cases c : t = w k
                · rw [if_pos c, if_neg (by simp [c])]
                · rw [if_neg c, if_pos (by simp [c, ekx])]
              obtain ⟨c81, c91, c101, c111, r1, r2, r3⟩ := ih (k + 1) nd (taken ||| 2 ^ t) (zu g k t) s (upd c8 k (nI t)) c9 c10 c11 (by omega) (by omega) (z_or_lt htk (z_2p8 (by omega))) (fun y hy => by
                  rw [Nat.testBit_or, Bool.or_eq_true, htb y hy, Nat.testBit_two_pow, decide_eq_true_eq]
                  constructor
                  · rintro (⟨j, q1, q2, q3⟩ | q)
                    · exact ⟨j, by omega, q2, by rw [zu_n _ _ (show j ≠ k by omega)]; exact q3⟩
                    · exact ⟨k, Nat.lt_succ_self k, ekx, by rw [zu_s]; exact q⟩
                  · rintro ⟨j, q1, q2, q3⟩
                    by_cases ej : j = k
                    · rw [ej, zu_s] at q3; exact Or.inr q3
                    · rw [zu_n _ _ ej] at q3; exact Or.inl ⟨j, by omega, q2, q3⟩)
                (fun j q1 q2 => by
                  by_cases ej : j = k
                  · rw [ej, zu_s]; exact htn
                  · rw [zu_n _ _ ej]; exact hgn j (by omega) q2)
                (fun j hj => by
                  have ej : j ≠ k := fun q => by rcases hj with h | h; omega; exact ekx (q.symm.trans h)
                  rw [zu_n _ _ ej]
                  exact hg8 j (by rcases hj with h | h; exact Or.inl (by omega); exact Or.inr h))
                (fun j q1 q2 => by
                  by_cases ej : j = k
                  · rw [ej, pk_us, zu_s]
                  · rw [pk_un ej, zu_n _ _ ej]; exact hc8 j (by omega) q2)
                (fun f hf => hmem f (by
                  rw [zDk_cons hkn ekx, zW, List.mem_flatMap]
                  exact ⟨t, List.mem_range.mpr htn, by rw [if_pos hal]; exact hf⟩)) hs (by rw [← hT]; omega)
              have r1' : ∀ j, j < k → j ≠ x → c81 j = nI (g j) := fun j q1 q2 => by
                have := r1 j (by omega) q2
                rwa [zu_n _ _ (show j ≠ k by omega)] at this
              obtain ⟨c8', c9', c10', c11', s1, s2, s3⟩ := ihe (t + 1) (zfo (zch w x n) (zTm n m L x b k g t) s) c81 c91 c101 c111 (by omega) r1' (by rw [hT]; exact r2) (by
                have := zfo_cn (zch w x n) (zTm n m L x b k g t) s
                omega)
              refine ⟨c8', c9', c10', c11', s1, by rw [hR, zfo_app]; exact s2, Yl.step ?_⟩
              have hne : ¬ (nI ((b k &&& (255 ^^^ taken)) &&& (255 ^^^ 2 ^ x)) &&& nI (2 ^ t)) = 0 := fun q => by
                rw [(z_bitne (show t < 8 by omega)).mp q] at co; cases co
              rw [hch] at r3
              simp only [f_X0_layMend_b69, if_neg (nI_ge htn (show n < 2 ^ 31 by omega)), x_bit _ (show t < 8 by omega), z_bs, if_neg hne, z_gxn hk8 (show 8 < 2 ^ 31 by decide), nI_clamp (show k < 2 ^ 31 by omega), (hw k hkn).1, hv_in (hw k hkn).2, f_X0_layMend_b127, f_X0_layMend_b131, fa_or, nI_1]
              by_cases c : t = w k
              · rw [if_pos c, Nat.add_zero] at r3
                simp only [if_pos (show nI (w k) = nI t from congrArg nI c.symm), Int32.add_zero]
                exact Yl.bind r3 s3
              · rw [if_neg c] at r3
                simp only [if_neg (show ¬ nI (w k) = nI t from fun q => c ((nI_eq (by have := (hw k hkn).2; omega) (by omega)).mp q).symm)]
                exact Yl.bind r3 s3
            · have co2 : ((b k &&& (255 ^^^ taken)) &&& (255 ^^^ 2 ^ x)).testBit t = false := by simpa using co
              have hT : zTm n m L x b k g t = [] := if_neg fun h => co ((hob t htn).mpr h)
              rw [hT, List.nil_append] at hR
              rw [hT] at hcn
              obtain ⟨c8', c9', c10', c11', s1, s2, s3⟩ := ihe (t + 1) s c8 c9 c10 c11 (by omega) hc8 hs (by
                rw [List.length_nil] at hcn; omega)
              refine ⟨c8', c9', c10', c11', s1, by rw [hR]; exact s2, Yl.step ?_⟩
              simp only [f_X0_layMend_b69, if_neg (nI_ge htn (show n < 2 ^ 31 by omega)), x_bit _ (show t < 8 by omega), z_bs, if_pos ((z_bitne (show t < 8 by omega)).mpr co2), f_X0_layMend_b131, nI_1]
              exact s3
        rw [zS_flat b g hkn ekx] at hcn ⊢
        obtain ⟨c8', c9', c10', c11', r1, r2, r3⟩ := loop n 0 s c8 c9 c10 c11 (by omega) hc8 hs hcn
        refine ⟨c8', c9', c10', c11', r1, r2, ?_⟩
        simp only [f_X0_layMend_r, if_pos hle, x_isOne _ hn hkn, z_bs, if_neg (show ¬ (1 : Int32) = 0 by decide), if_neg (show ¬ nI k = nI x from fun q => ekx ((nI_eq (by omega) (by omega)).mp q)), z_gxn hk8 (show 8 < 2 ^ 31 by decide), nI_clamp (show k < 2 ^ 31 by omega), x_bit _ (show x < 8 by omega), (hb k hkn).1, z_not hbk htk, z_not (show b k &&& (255 ^^^ taken) < 256 from Nat.lt_of_le_of_lt Nat.and_le_left hbk) (z_2p8 (show x < 8 by omega))]
        exact r3.diag
    match s, hs, hgo with
    | none, hs, hgo => exact hgo (by rw [hs.1]; exact nI_le (b := 8) hch8 (by decide))
    | some (m0, c0, h0), hs, hgo =>
      by_cases c : zch w x k g ≤ m0
      · exact hgo (by rw [hs.1]; exact nI_le c (by have := hs.2.2.2.1; omega))
      · refine ⟨c8, c9, c10, c11, hc8, ?_, ?_⟩
        · rw [zfo_skip]
          · exact hs
          · intro f hf
            have := hmore f hf
            omega
        · simp only [f_X0_layMend_r, hs.1, if_neg (nI_ge (show m0 < zch w x k g by omega) (show zch w x k g < 2 ^ 31 by omega))]
          exact Yd.pure _
/-- FINDMENDS: the fewest changes over the list of mends -/
theorem x_findMends {n m L x : Nat} (h0 : 0 < n) (hn : n ≤ 8) (hL : L ≤ 8) (hx : x < n) (hm : ∀ i, i < n → (m.testBit i = true ↔ i ≠ x)) {b w : Nat → Nat} {c2 c3 : Nat → Int32} (hb : ∀ i, i < n → c2 i = nI (b i) ∧ b i < 256) (hw : ∀ j, j < n → c3 j = hv (w j) ∧ w j < 8) (c8 c9 : Nat → Int32) (c10 c11 : Int32) : ∃ (c8' c9' : Nat → Int32) (c10' c11' : Int32), zpX n x (zfo (zch w x n) (zY n m L b) none) c9' c10' c11' ∧ Yd (fun N => f_X0_findMends N (nI x) (nI n) (nI L) c2 c3 c8 c9 c10 c11) (c8', c9', c10', c11') := by
  have hYS : zY n m L b = zS n m L x b 0 z8 := by rw [zY, zS, ← zDk_0 hm]
  have hlen : (zS n m L x b 0 z8).length + 1 < 2 ^ 31 := by
    have h1 : (zS n m L x b 0 z8).length ≤ (zW n (fun y => b y &&& m) (zDk n x 0) z8).length := List.length_filter_le _ _
    have h2 := zW_length n (fun y => b y &&& m) (zDk n x 0) z8
    have h3 : (zDk n x 0).length ≤ n := by
      have := List.length_filter_le (fun i => i != x) (List.range' 0 (n - 0))
      rw [List.length_range'] at this
      exact this
    have h4 : n ^ (zDk n x 0).length ≤ 8 ^ 8 := Nat.le_trans (Nat.pow_le_pow_left hn _) (Nat.pow_le_pow_right (by decide) (by omega))
    have h5 : 8 ^ 8 + 1 < 2 ^ 31 := by decide
    omega
  obtain ⟨c8', c9', c10', c11', _, r2, r3⟩ := x_lay (L := L) hn hL hx hm hb hw n 0 10 0 z8 none c8 c9 8 0 (by omega) (by omega) (by decide) (fun y _ => by
      rw [Nat.zero_testBit]
      exact ⟨fun h => absurd h (by decide), fun ⟨j, hj, _⟩ => absurd hj (Nat.not_lt_zero j)⟩) (fun j hj => absurd hj (Nat.not_lt_zero j)) (fun _ _ => rfl) (fun j hj => absurd hj (Nat.not_lt_zero j)) (fun f hf => by rw [zDk_0 hm]; exact hf) ⟨rfl, rfl⟩ (by show 0 + _ + 1 < 2 ^ 31; omega)
  refine ⟨c8', c9', c10', c11', by rw [hYS]; exact r2, ?_⟩
  simp only [f_X0_findMends, f_X0_layMend]
  exact Yd.bind r3 (Yd.pure _)
