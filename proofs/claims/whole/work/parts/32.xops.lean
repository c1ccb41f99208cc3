/-! the program's answers, out of the list of the ways: narrowed boards -/
theorem x_openRows (c2 c4 : Nat → Int32) : ∃ c4' : Nat → Int32, (∀ i, i < 8 → c4' i = c2 i) ∧ ∀ N, f_X0_openRows N c2 c4 = some c4' := by
  refine ⟨va_cpy c2 c4 0 0 8, fun i hi => ?_, fun N => ?_⟩
  · rw [pk_cpy_in (Nat.zero_le i) (by omega), Nat.zero_add, Nat.sub_zero]
  · rw [f_X0_openRows, z_gc_in ⟨by decide, by decide⟩]
    rfl
def zb (t : Nat) : Nat := if t < 8 then 2 ^ t else 0
theorem zb_bit {r t y : Nat} (ht : t ≤ 8) (hy : y < 8) : (r &&& zb t).testBit y = true ↔ r.testBit y = true ∧ y = t := by
  rw [Nat.testBit_and, Bool.and_eq_true, zb]
  by_cases c : t < 8
  · rw [if_pos c, Nat.testBit_two_pow, decide_eq_true_eq]
    exact ⟨fun h => ⟨h.1, h.2.symm⟩, fun h => ⟨h.1, h.2.symm⟩⟩
  · rw [if_neg c, Nat.zero_testBit]
    exact ⟨fun h => absurd h.2 (by decide), fun h => by omega⟩
theorem x_bitz {t : Nat} (N : Nat) (ht : t ≤ 8) : f_X0_bit N (hv t) = some (nI (zb t)) := by
  rw [x_bitv N ht, zb]
  by_cases c : t < 8
  · rw [if_pos c, if_pos c]
  · rw [if_neg c, if_neg c, nI_0]
theorem x_narrow {n i t : Nat} (N : Nat) (hn : n ≤ 8) (hi : i < n) (ht : t ≤ 8) (c4 : Nat → Int32) {r : Nat} (hr : c4 i = nI r) : f_X0_narrow N (nI i) (hv t) (nI n) c4 = some (upd c4 i (nI (r &&& zb t))) := by
  simp only [f_X0_narrow, x_isOne N hn hi, z_bs, if_neg (show ¬ (1 : Int32) = 0 by decide), z_gxn (show i < 8 by omega) (show 8 < 2 ^ 31 by decide), x_bitz N ht, nI_clamp (show i < 2 ^ 31 by omega), hr, fa_and]
/-- countWays by a narrower board: a count among the board's ways -/
theorem x_cwp {n L : Nat} {b rows : Nat → Nat} {c4 : Nat → Int32} (h0 : 0 < n) (hn : n ≤ 8) (hL : 2 ≤ L) (hL8 : L ≤ 8) (hr : ∀ i, i < n → c4 i = nI (rows i)) (hs : ∀ x, x < n → ∀ y, (rows x).testBit y = true → (b x).testBit y = true) (p : (Nat → Nat) → Bool) (hp : ∀ f, f ∈ zWy n L b → ((∀ x, x < n → (rows x).testBit (f x) = true) ↔ p f = true)) (c5 c6 c7 : Nat → Int32) : ∃ (c5' c6' c7' : Nat → Int32), Yd (fun N => f_X0_countWays N (nI L) (nI n) c4 c5 c6 c7) (nI ((zWy n L b).countP p), c5', c6', c7') := by
  obtain ⟨c5', c6', c7', h⟩ := x_cw h0 hn hL hL8 hr c5 c6 c7
  rw [zWy_narrow hn hs p hp] at h
  exact ⟨c5', c6', c7', h⟩
theorem z_and_sub {a t y : Nat} (h : (a &&& t).testBit y = true) : a.testBit y = true := by
  rw [Nat.testBit_and, Bool.and_eq_true] at h
  exact h.1
/-- how many ways in which i gives to t -/
theorem x_giving {n L i t : Nat} {b : Nat → Nat} {c2 : Nat → Int32} (h0 : 0 < n) (hn : n ≤ 8) (hL : 2 ≤ L) (hL8 : L ≤ 8) (hb : ∀ i, i < n → c2 i = nI (b i)) (hi : i < n) (ht : t ≤ 8) (c4 c5 c6 c7 : Nat → Int32) : ∃ (c4' c5' c6' c7' : Nat → Int32), (∀ j, j < n → c4' j = nI (zu b i (b i &&& zb t) j)) ∧ Yd (fun N => f_X0_countGiving N (nI i) (hv t) (nI n) (nI L) c2 c4 c5 c6 c7) (nI ((zWy n L b).countP (fun f => f i == t)), c4', c5', c6', c7') := by
  obtain ⟨c41, a1, a2⟩ := x_openRows c2 c4
  have hr : ∀ j, j < n → upd c41 i (nI (b i &&& zb t)) j = nI (zu b i (b i &&& zb t) j) := fun j hj => by
    by_cases e : j = i
    · rw [e, pk_us, zu_s]
    · rw [pk_un e, zu_n _ _ e, a1 j (by omega), hb j hj]
  obtain ⟨c5', c6', c7', h⟩ := x_cwp (b := b) (rows := zu b i (b i &&& zb t)) h0 hn hL hL8 hr (fun x hx y h => by
    by_cases e : x = i
    · rw [e, zu_s] at h; rw [e]; exact z_and_sub h
    · rw [zu_n _ _ e] at h; exact h) (fun f => f i == t) (fun f hf => by
    have hf1 := (zWy_in hn hf).1
    rw [beq_iff_eq]
    constructor
    · intro h
      have := h i hi
      rw [zu_s] at this
      exact ((zb_bit ht (by have := (hf1 i hi).1; omega)).mp this).2
    · intro h x hx
      by_cases e : x = i
      · rw [e, zu_s]
        exact (zb_bit ht (by have := (hf1 i hi).1; omega)).mpr ⟨(hf1 i hi).2, h⟩
      · rw [zu_n _ _ e]
        exact (hf1 x hx).2) c5 c6 c7
  refine ⟨_, c5', c6', c7', hr, ?_⟩
  simp only [f_X0_countGiving, a2, z_bs, x_narrow _ hn hi ht c41 (show c41 i = nI (b i) by rw [a1 i (by omega), hb i hi])]
  exact Yd.bind h (Yd.pure _)
theorem x_givesBelow {n i : Nat} (hn : n ≤ 8) (hi : i ≤ n) {w : Nat → Nat} {c3 : Nat → Int32} (hw : ∀ j, j < n → c3 j = hv (w j) ∧ w j ≤ 8) : Yd (fun N => f_X0_givesBelow N (nI i) (nI n) c3) (if (∀ j, j < i → w j < 8) then 1 else 0) := by
  have loop : ∀ (d k : Nat), k + d = i → (∀ j, j < k → w j < 8) → Yl (fun N q => f_X0_givesBelow_b2 N (nI n) c3 q (nI i) (nI k)) (if (∀ j, j < i → w j < 8) then 1 else 0) := by
    intro d
    induction d with
    | zero =>
      intro k hk h
      obtain rfl : k = i := by omega
      refine Yl.step ?_
      rw [if_pos h]
      simp only [f_X0_givesBelow_b2, if_pos (nI_le (Nat.le_refl k) (show k < 2 ^ 31 by omega))]
      exact Yl.pure _
    | succ d ih =>
      intro k hk h
      have hkn : k < n := by omega
      refine Yl.step ?_
      simp only [f_X0_givesBelow_b2, if_neg (nI_ge (show k < i by omega) (show i < 2 ^ 31 by omega)), if_neg (nI_ge hkn (show n < 2 ^ 31 by omega)), z_gxn (show k < 8 by omega) (show 8 < 2 ^ 31 by decide), nI_clamp (show k < 2 ^ 31 by omega), (hw k hkn).1, nI_1]
      by_cases c : w k < 8
      · simp only [if_neg (show ¬ hv (w k) = -6 from fun e => by have := (hv_none (hw k hkn).2).mp e; omega)]
        refine ih (k + 1) (by omega) (fun j hj => ?_)
        by_cases e : j = k
        · rw [e]; exact c
        · exact h j (by omega)
      · simp only [if_pos (show hv (w k) = -6 from (hv_none (hw k hkn).2).mpr (by have := (hw k hkn).2; omega))]
        rw [if_neg (fun H => c (H k (by omega)))]
        exact Yl.pure _
  simp only [f_X0_givesBelow]
  exact (loop i 0 (by omega) (fun j hj => by omega)).diag
/-- the board narrowed to the hand below k -/
def zrow (b w : Nat → Nat) (k : Nat) : Nat → Nat := fun x => if x < k then b x &&& zb (w x) else b x
theorem zrow_sub {b w : Nat → Nat} {k x y : Nat} (h : (zrow b w k x).testBit y = true) : (b x).testBit y = true := by
  unfold zrow at h
  by_cases c : x < k
  · rw [if_pos c] at h; exact z_and_sub h
  · rw [if_neg c] at h; exact h
theorem zrow_iff {n L k : Nat} (hn : n ≤ 8) (hk : k ≤ n) {b w f : Nat → Nat} (hw : ∀ j, j < n → w j ≤ 8) (hf : f ∈ zWy n L b) : (∀ x, x < n → (zrow b w k x).testBit (f x) = true) ↔ ∀ j, j < k → f j = w j := by
  have hf1 := (zWy_in hn hf).1
  constructor
  · intro h j hj
    have := h j (by omega)
    rw [zrow, if_pos hj] at this
    exact ((zb_bit (hw j (by omega)) (by have := (hf1 j (by omega)).1; omega)).mp this).2
  · intro h x hx
    unfold zrow
    by_cases c : x < k
    · rw [if_pos c]
      exact (zb_bit (hw x hx) (by have := (hf1 x hx).1; omega)).mpr ⟨(hf1 x hx).2, h x c⟩
    · rw [if_neg c]; exact (hf1 x hx).2
theorem zrow_upd {n k : Nat} (hk : k < n) {b w : Nat → Nat} {c4 : Nat → Int32} (hr : ∀ j, j < n → c4 j = nI (zrow b w k j)) : ∀ j, j < n → upd c4 k (nI (b k &&& zb (w k))) j = nI (zrow b w (k + 1) j) := fun j hj => by
  by_cases e : j = k
  · rw [e, pk_us, zrow, if_pos (Nat.lt_succ_self k)]
  · rw [pk_un e, hr j hj, zrow, zrow]
    by_cases c : j < k
    · rw [if_pos c, if_pos (by omega)]
    · rw [if_neg c, if_neg (by omega)]
theorem zrow_at (b w : Nat → Nat) (k : Nat) : zrow b w k k = b k := if_neg (Nat.lt_irrefl k)
/-- what the program says of a hand that is to be a way -/
theorem x_refuseHand {n L : Nat} {b w : Nat → Nat} {c2 c3 : Nat → Int32} (h0 : 0 < n) (hn : n ≤ 8) (hL : 2 ≤ L) (hL8 : L ≤ 8) (hb : ∀ i, i < n → c2 i = nI (b i)) (hw : ∀ j, j < n → c3 j = hv (w j) ∧ w j ≤ 8) (c4 c5 c6 c7 : Nat → Int32) : ∃ (c4' c5' c6' c7' : Nat → Int32), Yd (fun N => f_X0_refuseHand N (nI n) (nI L) c2 c3 c4 c5 c6 c7) (if (∀ j, j < n → w j < 8) then (if (zWy n L b).countP (fun f => decide (∀ j, j < n → f j = w j)) = 0 then -5 else 0) else -3, c4', c5', c6', c7') := by
  have hg := x_givesBelow hn (Nat.le_refl n) hw
  by_cases c : ∀ j, j < n → w j < 8
  · rw [if_pos c] at hg ⊢
    obtain ⟨c41, a1, a2⟩ := x_openRows c2 c4
    have loop : ∀ (d k : Nat) (c4 : Nat → Int32), k + d = n → (∀ j, j < n → c4 j = nI (zrow b w k j)) → ∃ (c4' c5' c6' c7' : Nat → Int32), Yl (fun N q => f_X0_refuseHand_b20 N (nI n) (nI L) c2 c3 q (nI k) c4 c5 c6 c7) (if (zWy n L b).countP (fun f => decide (∀ j, j < n → f j = w j)) = 0 then -5 else 0, c4', c5', c6', c7') := by
      intro d
      induction d with
      | zero =>
        intro k c4 hk hr
        obtain rfl : k = n := by omega
        obtain ⟨c5', c6', c7', h⟩ := x_cwp (b := b) (rows := zrow b w k) h0 hn hL hL8 hr (fun x _ y h => zrow_sub h) (fun f => decide (∀ j, j < k → f j = w j)) (fun f hf => by rw [zrow_iff hn (Nat.le_refl k) (fun j hj => (hw j hj).2) hf, decide_eq_true_eq]) c5 c6 c7
        refine ⟨c4, c5', c6', c7', Yl.step ?_⟩
        simp only [f_X0_refuseHand_b20, if_pos (nI_le (Nat.le_refl k) (show k < 2 ^ 31 by omega))]
        refine Yl.bind h ?_
        have hlt : (zWy k L b).countP (fun f => decide (∀ j, j < k → f j = w j)) < 2 ^ 31 := Nat.lt_of_le_of_lt List.countP_le_length (zWy_lt hn L b)
        by_cases cz : (zWy k L b).countP (fun f => decide (∀ j, j < k → f j = w j)) = 0
        · simp only [cz, if_pos nI_0, if_true]
          exact Yl.pure _
        · simp only [if_neg cz, if_neg (nI_ne0 (Nat.pos_of_ne_zero cz) hlt)]
          exact Yl.pure _
      | succ d ih =>
        intro k c4 hk hr
        have hkn : k < n := by omega
        obtain ⟨c4', c5', c6', c7', h⟩ := ih (k + 1) (upd c4 k (nI (b k &&& zb (w k)))) (by omega) (zrow_upd hkn hr)
        refine ⟨c4', c5', c6', c7', Yl.step ?_⟩
        simp only [f_X0_refuseHand_b20, if_neg (nI_ge hkn (show n < 2 ^ 31 by omega)), z_gxn (show k < 8 by omega) (show 8 < 2 ^ 31 by decide), nI_clamp (show k < 2 ^ 31 by omega), (hw k hkn).1, x_narrow _ hn hkn (hw k hkn).2 c4 (show c4 k = nI (b k) by rw [hr k hkn, zrow_at]), z_bs, nI_1]
        exact h
    obtain ⟨c4', c5', c6', c7', h⟩ := loop n 0 c41 (by omega) (fun j hj => by rw [a1 j (by omega), hb j hj, zrow, if_neg (by omega)])
    refine ⟨c4', c5', c6', c7', ?_⟩
    simp only [f_X0_refuseHand]
    refine Yd.bind hg ?_
    simp only [if_neg (show ¬ (1 : Int32) = 0 by decide), a2, z_bs]
    exact h.diag
  · rw [if_neg c] at hg ⊢
    refine ⟨c4, c5, c6, c7, ?_⟩
    simp only [f_X0_refuseHand]
    refine Yd.bind hg ?_
    simp only [if_true]
    exact Yd.pure _
/-- SHARE: ways that agree with the hand below i, in which i gives to j -/
theorem x_share {n L i t : Nat} {b w : Nat → Nat} {c2 c3 : Nat → Int32} (h0 : 0 < n) (hn : n ≤ 8) (hL : 2 ≤ L) (hL8 : L ≤ 8) (hb : ∀ i, i < n → c2 i = nI (b i)) (hw : ∀ j, j < n → c3 j = hv (w j) ∧ w j ≤ 8) (hi : i < n) (ht : t < n) (c5 c6 c7 : Nat → Int32) : ∀ (d k : Nat) (c4 : Nat → Int32), k + d = i → (∀ j, j < n → c4 j = nI (zrow b w k j)) → ∃ (c4' c5' c6' c7' : Nat → Int32), Yl (fun N q => f_X0_share_b35 N (nI n) (nI L) c2 c3 q (nI i) (nI t) (nI k) c4 c5 c6 c7) (nI ((zWy n L b).countP (fun f => decide ((∀ j, j < i → f j = w j) ∧ f i = t))), c4', c5', c6', c7') := by
  intro d
  induction d with
  | zero =>
    intro k c4 hk hr
    obtain rfl : k = i := by omega
    have hr2 : ∀ j, j < n → upd c4 k (nI (b k &&& zb t)) j = nI (zu (zrow b w k) k (b k &&& zb t) j) := fun j hj => by
      by_cases e : j = k
      · rw [e, pk_us, zu_s]
      · rw [pk_un e, zu_n _ _ e, hr j hj]
    obtain ⟨c5', c6', c7', h⟩ := x_cwp (b := b) (rows := zu (zrow b w k) k (b k &&& zb t)) h0 hn hL hL8 hr2 (fun x hx y h => by
      by_cases e : x = k
      · rw [e, zu_s] at h; rw [e]; exact z_and_sub h
      · rw [zu_n _ _ e] at h; exact zrow_sub h) (fun f => decide ((∀ j, j < k → f j = w j) ∧ f k = t)) (fun f hf => by
      have hf1 := (zWy_in hn hf).1
      rw [decide_eq_true_eq, ← zrow_iff hn (Nat.le_of_lt hi) (fun j hj => (hw j hj).2) hf]
      constructor
      · intro h
        have hk1 := h k hi
        rw [zu_s] at hk1
        refine ⟨fun x hx => ?_, ((zb_bit (by omega) (by have := (hf1 k hi).1; omega)).mp hk1).2⟩
        by_cases e : x = k
        · rw [e, zrow_at]; exact (hf1 k hi).2
        · have := h x hx
          rwa [zu_n _ _ e] at this
      · rintro ⟨h1, h2⟩ x hx
        by_cases e : x = k
        · rw [e, zu_s]
          exact (zb_bit (by omega) (by have := (hf1 k hi).1; omega)).mpr ⟨(hf1 k hi).2, h2⟩
        · rw [zu_n _ _ e]; exact h1 x hx) c5 c6 c7
    refine ⟨upd c4 k (nI (b k &&& zb t)), c5', c6', c7', Yl.step ?_⟩
    simp only [f_X0_share_b35, if_pos (nI_le (Nat.le_refl k) (show k < 2 ^ 31 by omega))]
    have hnar : ∀ N, f_X0_narrow N (nI k) (nI t) (nI n) c4 = some (upd c4 k (nI (b k &&& zb t))) := fun N => by
      have := x_narrow N hn hi (show t ≤ 8 by omega) c4 (show c4 k = nI (b k) by rw [hr k hi, zrow_at])
      rwa [hv_in (by omega)] at this
    simp only [hnar, z_bs]
    exact Yl.bind h (Yl.pure _)
  | succ d ih =>
    intro k c4 hk hr
    have hkn : k < n := by omega
    obtain ⟨c4', c5', c6', c7', h⟩ := ih (k + 1) (upd c4 k (nI (b k &&& zb (w k)))) (by omega) (zrow_upd hkn hr)
    refine ⟨c4', c5', c6', c7', Yl.step ?_⟩
    simp only [f_X0_share_b35, if_neg (nI_ge (show k < i by omega) (show i < 2 ^ 31 by omega)), z_gxn (show k < 8 by omega) (show 8 < 2 ^ 31 by decide), nI_clamp (show k < 2 ^ 31 by omega), (hw k hkn).1, x_narrow _ hn hkn (hw k hkn).2 c4 (show c4 k = nI (b k) by rw [hr k hkn, zrow_at]), z_bs, nI_1]
    exact h
/-! the order of the ways -/
def zlx : List Nat → (Nat → Nat) → (Nat → Nat) → Prop
  | [], _, _ => False
  | x :: D, f, g => f x < g x ∨ (f x = g x ∧ zlx D f g)
theorem zlx_irr : ∀ (D : List Nat) (f g : Nat → Nat), (∀ x, x ∈ D → f x = g x) → ¬ zlx D f g := by
  intro D
  induction D with
  | nil => intro f g _ h; exact h
  | cons x D ih =>
    rintro f g he (h | ⟨_, h⟩)
    · have := he x List.mem_cons_self; omega
    · exact ih f g (fun z hz => he z (List.mem_cons_of_mem _ hz)) h
theorem zlx_asym : ∀ (D : List Nat) (f g : Nat → Nat), zlx D f g → ¬ zlx D g f := by
  intro D
  induction D with
  | nil => intro f g h; exact absurd h id
  | cons x D ih =>
    rintro f g (h | ⟨h, h2⟩) (h3 | ⟨h3, h4⟩)
    · omega
    · omega
    · omega
    · exact ih f g h2 h4
theorem zW_sorted (n : Nat) (b : Nat → Nat) : ∀ (D : List Nat) (g : Nat → Nat), D.Nodup → (∀ x, x ∈ D → x < n) → (∀ x, x ∈ D → n ≤ g x) → (zW n b D g).Pairwise (zlx D) := by
  intro D
  induction D with
  | nil => intro g _ _ _; exact List.pairwise_singleton _ _
  | cons x D ih =>
    intro g hnd hlt hge
    obtain ⟨hxD, hnd⟩ := List.nodup_cons.mp hnd
    have hlt' : ∀ x, x ∈ D → x < n := fun z hz => hlt z (List.mem_cons_of_mem _ hz)
    have hge' : ∀ y z, z ∈ D → n ≤ zu g x y z := fun y z hz => by
      rw [zu_n g y (show z ≠ x from fun e => hxD (e ▸ hz))]
      exact hge z (List.mem_cons_of_mem _ hz)
    have hval : ∀ y f, f ∈ (if (b x).testBit y = true ∧ (∀ j, j < n → g j ≠ y) then zW n b D (zu g x y) else []) → f x = y := by
      intro y f hf
      by_cases c : (b x).testBit y = true ∧ (∀ j, j < n → g j ≠ y)
      · rw [if_pos c] at hf
        rw [((zW_mem n b D (zu g x y) hnd hlt' (hge' y) f).mp hf).1 x hxD, zu_s]
      · rw [if_neg c] at hf
        cases hf
    rw [zW]
    refine List.pairwise_flatMap.mpr ⟨fun y _ => ?_, ?_⟩
    · by_cases c : (b x).testBit y = true ∧ (∀ j, j < n → g j ≠ y)
      · rw [if_pos c]
        refine (List.Pairwise.and_mem.mp (ih (zu g x y) hnd hlt' (hge' y))).imp ?_
        rintro f f' ⟨h1, h2, h3⟩
        right
        exact ⟨by rw [hval y f (by rw [if_pos c]; exact h1), hval y f' (by rw [if_pos c]; exact h2)], h3⟩
      · rw [if_neg c]
        exact List.Pairwise.nil
    · refine List.Pairwise.imp ?_ (List.pairwise_lt_range (n := n))
      intro y y' hlt2 f hf f' hf'
      left
      rw [hval y f hf, hval y' f' hf']
      exact hlt2
theorem zWy_sorted {n : Nat} (hn : n ≤ 8) (L : Nat) (b : Nat → Nat) : (zWy n L b).Pairwise (zlx (List.range n)) := List.Pairwise.filter _ (zW_sorted n b _ z8 (List.nodup_range (n := n)) (fun x h => List.mem_range.mp h) (fun x _ => hn))
/-- the sum of those that are less at k first, for k from i on -/
theorem z_rank_split {n i : Nat} (hi : i < n) (w : Nat → Nat) (l : List (Nat → Nat)) (q : (Nat → Nat) → Nat → Bool) (hq : ∀ f k, q f k = true ↔ (∀ j, j < k → f j = w j) ∧ zlx (List.range' k (n - k)) f w) : l.countP (fun f => q f i) = l.countP (fun f => decide ((∀ j, j < i → f j = w j) ∧ f i < w i)) + l.countP (fun f => q f (i + 1)) := by
  have hD : List.range' i (n - i) = i :: List.range' (i + 1) (n - (i + 1)) := by
    rw [show n - i = (n - (i + 1)) + 1 by omega, List.range'_succ]
  induction l with
  | nil => rfl
  | cons f l ih =>
    rw [List.countP_cons, List.countP_cons, List.countP_cons, ih]
    have e1 : q f i = true ↔ ((∀ j, j < i → f j = w j) ∧ f i < w i) ∨ q f (i + 1) = true := by
      rw [hq, hq, hD]
      constructor
      · rintro ⟨h1, h2 | ⟨h2, h3⟩⟩
        · exact Or.inl ⟨h1, h2⟩
        · refine Or.inr ⟨fun j hj => ?_, h3⟩
          by_cases e : j = i
          · rw [e]; exact h2
          · exact h1 j (by omega)
      · rintro (⟨h1, h2⟩ | ⟨h1, h2⟩)
        · exact ⟨h1, Or.inl h2⟩
        · exact ⟨fun j hj => h1 j (by omega), Or.inr ⟨h1 i (Nat.lt_succ_self i), h2⟩⟩
    have e2 : ((∀ j, j < i → f j = w j) ∧ f i < w i) → ¬ q f (i + 1) = true := by
      rintro ⟨_, h2⟩ h3
      have := ((hq f (i + 1)).mp h3).1 i (Nat.lt_succ_self i)
      omega
    by_cases c1 : (∀ j, j < i → f j = w j) ∧ f i < w i
    · rw [if_pos (e1.mpr (Or.inl c1)), if_pos (decide_eq_true c1), if_neg (e2 c1)]
      omega
    · rw [if_neg (c := decide ((∀ j, j < i → f j = w j) ∧ f i < w i) = true) (fun h => c1 (of_decide_eq_true h))]
      by_cases c2 : q f (i + 1) = true
      · rw [if_pos (e1.mpr (Or.inr c2)), if_pos c2]
        omega
      · rw [if_neg (fun h => (e1.mp h).elim c1 c2), if_neg c2]
        omega
