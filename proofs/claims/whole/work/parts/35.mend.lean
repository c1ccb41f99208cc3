/-! one falls out: both sides go through the same list, the program with its turnings back -/
def zch (w : Nat → Nat) (x k : Nat) (f : Nat → Nat) : Nat := (List.range k).countP (fun y => y != x && f y != w y)
theorem zch_succ (w : Nat → Nat) (x k : Nat) (f : Nat → Nat) : zch w x (k + 1) f = zch w x k f + (if (k != x && f k != w k) = true then 1 else 0) := by
  rw [zch, zch, List.range_succ, List.countP_append, List.countP_singleton]
theorem zch_le (w : Nat → Nat) (x k : Nat) (f : Nat → Nat) : zch w x k f ≤ k := by
  have := List.countP_le_length (l := List.range k) (p := fun y => y != x && f y != w y)
  rwa [List.length_range] at this
theorem zch_lt (w : Nat → Nat) {x : Nat} : ∀ (k : Nat), x < k → ∀ (f : Nat → Nat), zch w x k f + 1 ≤ k := by
  intro k
  induction k with
  | zero => intro h; omega
  | succ k ih =>
    intro h f
    rw [zch_succ]
    by_cases e : k = x
    · subst e
      have := zch_le w k k f
      simp
      exact this
    · have := ih (by omega) f
      by_cases c : (k != x && f k != w k) = true
      · rw [if_pos c]; omega
      · rw [if_neg c]; omega
theorem zch_mono (w : Nat → Nat) (x : Nat) (f : Nat → Nat) (k : Nat) : ∀ d, zch w x k f ≤ zch w x (k + d) f := by
  intro d
  induction d with
  | zero => exact Nat.le_refl _
  | succ d ih =>
    have e : k + (d + 1) = (k + d) + 1 := rfl
    rw [e, zch_succ]
    omega
theorem zch_congr (w : Nat → Nat) (x : Nat) {f g : Nat → Nat} : ∀ (k : Nat), (∀ j, j < k → j ≠ x → f j = g j) → zch w x k f = zch w x k g := by
  intro k
  induction k with
  | zero => intro _; rfl
  | succ k ih =>
    intro h
    rw [zch_succ, zch_succ, ih (fun j hj hx => h j (by omega) hx)]
    by_cases e : k = x
    · subst e; simp
    · rw [h k (by omega) e]
/-- the fewest changes so far, how many have them, the first of these -/
abbrev zSt : Type := Option (Nat × Nat × (Nat → Nat))
def zcn : zSt → Nat
  | none => 0
  | some (_, c, _) => c
def zsp (ch : (Nat → Nat) → Nat) (s : zSt) (f : Nat → Nat) : zSt := match s with
  | none => some (ch f, 1, f)
  | some (m, c, h) => if ch f < m then some (ch f, 1, f) else if ch f = m then some (m, c + 1, h) else some (m, c, h)
def zfo (ch : (Nat → Nat) → Nat) (l : List (Nat → Nat)) (s : zSt) : zSt := l.foldl (zsp ch) s
theorem zfo_app (ch : (Nat → Nat) → Nat) (l l2 : List (Nat → Nat)) (s : zSt) : zfo ch (l ++ l2) s = zfo ch l2 (zfo ch l s) := List.foldl_append
theorem zsp_cn (ch : (Nat → Nat) → Nat) (s : zSt) (f : Nat → Nat) : zcn (zsp ch s f) ≤ zcn s + 1 := by
  match s with
  | none => exact Nat.le_refl 1
  | some (m, c, h) =>
    unfold zsp
    show zcn (if ch f < m then _ else _) ≤ c + 1
    by_cases c1 : ch f < m
    · rw [if_pos c1]; show 1 ≤ c + 1; omega
    · rw [if_neg c1]
      by_cases c2 : ch f = m
      · rw [if_pos c2]; exact Nat.le_refl _
      · rw [if_neg c2]; show c ≤ c + 1; omega
theorem zfo_cn (ch : (Nat → Nat) → Nat) : ∀ (l : List (Nat → Nat)) (s : zSt), zcn (zfo ch l s) ≤ zcn s + l.length := by
  intro l
  induction l with
  | nil => intro s; exact Nat.le_refl _
  | cons f l ih =>
    intro s
    have h1 := ih (zsp ch s f)
    have h2 := zsp_cn ch s f
    show zcn (zfo ch l (zsp ch s f)) ≤ zcn s + (l.length + 1)
    omega
/-- those with more changes don't count -/
theorem zfo_skip (ch : (Nat → Nat) → Nat) {m c : Nat} {h : Nat → Nat} : ∀ (l : List (Nat → Nat)), (∀ f, f ∈ l → m < ch f) → zfo ch l (some (m, c, h)) = some (m, c, h) := by
  intro l
  induction l with
  | nil => intro _; rfl
  | cons f l ih =>
    intro hl
    have h1 := hl f List.mem_cons_self
    show zfo ch l (zsp ch (some (m, c, h)) f) = _
    have e : zsp ch (some (m, c, h)) f = some (m, c, h) := by
      unfold zsp
      show (if ch f < m then _ else _) = _
      rw [if_neg (by omega), if_neg (by omega)]
    rw [e]
    exact ih fun g hg => hl g (List.mem_cons_of_mem _ hg)
theorem zfo_mem (ch : (Nat → Nat) → Nat) (P : (Nat → Nat) → Prop) : ∀ (l : List (Nat → Nat)) (s : zSt), (∀ f, f ∈ l → P f) → (∀ m c h, s = some (m, c, h) → P h) → ∀ m c h, zfo ch l s = some (m, c, h) → P h := by
  intro l
  induction l with
  | nil => intro s _ hs m c h e; exact hs m c h e
  | cons f l ih =>
    intro s hl hs m c h e
    refine ih (zsp ch s f) (fun g hg => hl g (List.mem_cons_of_mem _ hg)) (fun m' c' h' e' => ?_) m c h e
    match s, hs, e' with
    | none, _, e' =>
      cases e'
      exact hl f List.mem_cons_self
    | some (m0, c0, h0), hs, e' =>
      unfold zsp at e'
      have e' : (if ch f < m0 then some (ch f, 1, f) else if ch f = m0 then some (m0, c0 + 1, h0) else some (m0, c0, h0)) = some (m', c', h') := e'
      by_cases c1 : ch f < m0
      · rw [if_pos c1] at e'
        cases e'
        exact hl f List.mem_cons_self
      · rw [if_neg c1] at e'
        by_cases c2 : ch f = m0
        · rw [if_pos c2] at e'
          cases e'
          exact hs _ _ _ rfl
        · rw [if_neg c2] at e'
          cases e'
          exact hs _ _ _ rfl
/-! the program's walks along a mend -/
theorem x_roundFrom {n : Nat} (hn : n ≤ 8) {P : Nat → Prop} {g : Nat → Nat} (h : zper n P g) {c8 : Nat → Int32} (hc : ∀ i, P i → c8 i = nI (g i)) {y r : Nat} (hy : P y) (h1 : 1 ≤ r) (hrn : r ≤ n) (hr : zi g r y = y) (hm : ∀ j, 1 ≤ j → j < r → zi g j y ≠ y) : Yd (fun N => f_X0_roundFrom N (nI y) (nI n) c8) (nI r) := by
  have hlt : ∀ k, zi g k y < n := fun k => (h.1 _ (zi_P h hy k)).1
  have loop : ∀ (d k : Nat), k + d + 1 = r → Yl (fun N q => f_X0_roundFrom_b7 N (nI n) c8 q (nI y) (nI k) (nI (zi g k y)) (nI k)) (nI r) := by
    intro d
    induction d with
    | zero =>
      intro k hk
      refine Yl.step ?_
      have hstep : c8 (zi g k y) = nI y := by
        rw [hc _ (zi_P h hy k), show g (zi g k y) = zi g (k + 1) y from rfl, show k + 1 = r by omega, hr]
      simp only [f_X0_roundFrom_b7, if_neg (nI_ge (show k < n by omega) (show n < 2 ^ 31 by omega)), x_isOne _ hn (hlt k), z_bs, if_neg (show ¬ (1 : Int32) = 0 by decide), z_gxn (show zi g k y < 8 by have := hlt k; omega) (show 8 < 2 ^ 31 by decide), nI_clamp (show zi g k y < 2 ^ 31 by have := hlt k; omega), hstep, if_true, nI_1, show k + 1 = r by omega]
      exact Yl.pure _
    | succ d ih =>
      intro k hk
      refine Yl.step ?_
      have hstep : c8 (zi g k y) = nI (zi g (k + 1) y) := hc _ (zi_P h hy k)
      have hy8 : y < n := hlt 0
      simp only [f_X0_roundFrom_b7, if_neg (nI_ge (show k < n by omega) (show n < 2 ^ 31 by omega)), x_isOne _ hn (hlt k), z_bs, if_neg (show ¬ (1 : Int32) = 0 by decide), z_gxn (show zi g k y < 8 by have := hlt k; omega) (show 8 < 2 ^ 31 by decide), nI_clamp (show zi g k y < 2 ^ 31 by have := hlt k; omega), hstep, if_neg (show ¬ nI (zi g (k + 1) y) = nI y from fun e => hm (k + 1) (by omega) (by omega) ((nI_eq (by have := hlt (k + 1); omega) (by omega)).mp e)), nI_1]
      exact ih (k + 1) (by omega)
  simp only [f_X0_roundFrom]
  exact (loop (r - 1) 0 (by omega)).diag
theorem x_hasLong {n m L x : Nat} (hn : n ≤ 8) (hL : L ≤ 8) (hx : x < n) (hm : ∀ i, i < n → (m.testBit i = true ↔ i ≠ x)) {g : Nat → Nat} (h : zper n (fun y => y ∈ zD n m) g) {c8 : Nat → Int32} (hc : ∀ i, i < n → i ≠ x → c8 i = nI (g i)) : Yd (fun N => f_X0_hasLongRounds N (nI x) (nI n) (nI L) c8) (if zoks L (zD n m) g = true then 1 else 0) := by
  have hD : ∀ i, i ∈ zD n m ↔ i < n ∧ i ≠ x := fun i => by
    rw [zD_mem]
    exact ⟨fun h => ⟨h.1, (hm i h.1).mp h.2⟩, fun h => ⟨h.1, (hm i h.1).mpr h.2⟩⟩
  have loop : ∀ (d k : Nat), k + d = n → (∀ i, i < k → i ≠ x → zok L g i = true) → Yl (fun N q => f_X0_hasLongRounds_b2 N (nI n) (nI L) c8 q (nI x) (nI k)) (if zoks L (zD n m) g = true then 1 else 0) := by
    intro d
    induction d with
    | zero =>
      intro k hk hok
      obtain rfl : k = n := by omega
      refine Yl.step ?_
      rw [if_pos (show zoks L (zD k m) g = true from List.all_eq_true.mpr fun i hi => hok i ((hD i).mp hi).1 ((hD i).mp hi).2)]
      simp only [f_X0_hasLongRounds_b2, if_pos (nI_le (Nat.le_refl k) (show k < 2 ^ 31 by omega))]
      exact Yl.pure _
    | succ d ih =>
      intro k hk hok
      have hkn : k < n := by omega
      refine Yl.step ?_
      by_cases e : k = x
      · simp only [f_X0_hasLongRounds_b2, if_neg (nI_ge hkn (show n < 2 ^ 31 by omega)), if_pos (congrArg nI e), f_X0_hasLongRounds_b29, nI_1]
        exact ih (k + 1) (by omega) (fun i h1 h2 => hok i (by omega) h2)
      · have hkD := (hD k).mpr ⟨hkn, e⟩
        obtain ⟨r, r1, r2, r3, r4⟩ := zi_back h hkD
        simp only [f_X0_hasLongRounds_b2, if_neg (nI_ge hkn (show n < 2 ^ 31 by omega)), if_neg (show ¬ nI k = nI x from fun q => e ((nI_eq (by omega) (by omega)).mp q)), f_X0_hasLongRounds_b29, nI_1]
        refine Yl.bind (x_roundFrom hn h (fun i hi => hc i ((hD i).mp hi).1 ((hD i).mp hi).2) hkD r1 r2 r3 r4) ?_
        by_cases cl : L ≤ r
        · simp only [if_pos (nI_le cl (show r < 2 ^ 31 by omega))]
          refine ih (k + 1) (by omega) (fun i h1 h2 => ?_)
          by_cases ei : i = k
          · rw [ei]
            exact zok_iff.mpr fun j j1 j2 => r4 j j1 (by omega)
          · exact hok i (by omega) h2
        · simp only [if_neg (nI_ge (show r < L by omega) (show L < 2 ^ 31 by omega))]
          rw [if_neg (show ¬ zoks L (zD n m) g = true from fun H => zok_iff.mp (List.all_eq_true.mp H k hkD) r r1 (show r < L by omega) r3)]
          exact Yl.pure _
  simp only [f_X0_hasLongRounds]
  exact (loop n 0 (by omega) (fun i hi => absurd hi (Nat.not_lt_zero i))).diag
/-- the program's state of the search -/
def zpX (n x : Nat) (s : zSt) (c9 : Nat → Int32) (c10 c11 : Int32) : Prop := match s with
  | none => c10 = 8 ∧ c11 = 0
  | some (m, c, h) => c10 = nI m ∧ c11 = nI c ∧ 1 ≤ c ∧ m ≤ 8 ∧ ∀ i, i < n → i ≠ x → c9 i = nI (h i)
theorem x_judge {n m L x : Nat} (hn : n ≤ 8) (hL : L ≤ 8) (hx : x < n) (hm : ∀ i, i < n → (m.testBit i = true ↔ i ≠ x)) {w g : Nat → Nat} (h : zper n (fun y => y ∈ zD n m) g) {c8 : Nat → Int32} (hc : ∀ i, i < n → i ≠ x → c8 i = nI (g i)) {s : zSt} {c9 : Nat → Int32} {c10 c11 : Int32} (hs : zpX n x s c9 c10 c11) (hcn : zcn s + 1 < 2 ^ 31) (hpr : ∀ m' c' h', s = some (m', c', h') → zch w x n g ≤ m') : ∃ (c9' : Nat → Int32) (c10' c11' : Int32), zpX n x (zfo (zch w x n) (if zoks L (zD n m) g = true then [g] else []) s) c9' c10' c11' ∧ Yd (fun N => f_X0_judgeMend N (nI x) (nI (zch w x n g)) (nI n) (nI L) c8 c9 c10 c11) (c9', c10', c11') := by
  have hlong := x_hasLong (L := L) hn hL hx hm h hc
  have hch8 : zch w x n g ≤ 8 := Nat.le_trans (zch_le w x n g) hn
  by_cases cz : zoks L (zD n m) g = true
  · rw [if_pos cz] at hlong ⊢
    have hcopy : ∀ i, i < n → i ≠ x → va_cpy c8 c9 0 0 n i = nI (g i) := fun i hi hix => by
      rw [pk_cpy_in (Nat.zero_le i) (by omega), Nat.zero_add, Nat.sub_zero]
      exact hc i hi hix
    match s, hs, hcn, hpr with
    | none, hs, _, _ =>
      obtain ⟨rfl, rfl⟩ := hs
      refine ⟨va_cpy c8 c9 0 0 n, nI (zch w x n g), 1, ⟨rfl, rfl, Nat.le_refl 1, hch8, hcopy⟩, ?_⟩
      simp only [f_X0_judgeMend]
      refine Yd.bind hlong ?_
      simp only [if_neg (show ¬ (1 : Int32) = 0 by decide), if_true, f_X0_judgeMend_b24, f_X0_judgeMend_b51, z_gc_in (show ¬ nI n < 0 ∧ (nI n).toNatClampNeg ≤ 8 from ⟨nI_pos (by omega), by rw [nI_clamp (by omega)]; exact hn⟩), nI_clamp (show n < 2 ^ 31 by omega), show (0 : Int32) + 1 = 1 from rfl]
      exact Yd.pure _
    | some (m0, c0, h0), hs, hcn, hpr =>
      obtain ⟨rfl, rfl, s1, s2, s3⟩ := hs
      have hle := hpr m0 c0 h0 rfl
      have hc0 : c0 + 1 < 2 ^ 31 := hcn
      by_cases ce : zch w x n g = m0
      · refine ⟨c9, nI m0, nI (c0 + 1), ?_, ?_⟩
        · have e : zfo (zch w x n) [g] (some (m0, c0, h0)) = some (m0, c0 + 1, h0) := by
            show (if zch w x n g < m0 then _ else _) = _
            rw [if_neg (by omega), if_pos ce]
          rw [e]
          exact ⟨rfl, rfl, by omega, s2, s3⟩
        · simp only [f_X0_judgeMend]
          refine Yd.bind hlong ?_
          simp only [if_neg (show ¬ (1 : Int32) = 0 by decide), if_neg (nI_ne0 (show 0 < c0 by omega) (show c0 < 2 ^ 31 by omega)), if_pos (nI_le (show m0 ≤ zch w x n g by omega) (show zch w x n g < 2 ^ 31 by omega)), f_X0_judgeMend_b51, nI_1]
          exact Yd.pure _
      · refine ⟨va_cpy c8 c9 0 0 n, nI (zch w x n g), 1, ?_, ?_⟩
        · have e : zfo (zch w x n) [g] (some (m0, c0, h0)) = some (zch w x n g, 1, g) := by
            show (if zch w x n g < m0 then _ else _) = _
            rw [if_pos (by omega)]
          rw [e]
          exact ⟨rfl, rfl, Nat.le_refl 1, hch8, hcopy⟩
        · simp only [f_X0_judgeMend]
          refine Yd.bind hlong ?_
          simp only [if_neg (show ¬ (1 : Int32) = 0 by decide), if_neg (nI_ne0 (show 0 < c0 by omega) (show c0 < 2 ^ 31 by omega)), if_neg (nI_ge (show zch w x n g < m0 by omega) (show m0 < 2 ^ 31 by omega)), f_X0_judgeMend_b24, f_X0_judgeMend_b51, z_gc_in (show ¬ nI n < 0 ∧ (nI n).toNatClampNeg ≤ 8 from ⟨nI_pos (by omega), by rw [nI_clamp (by omega)]; exact hn⟩), nI_clamp (show n < 2 ^ 31 by omega), show (0 : Int32) + 1 = 1 from rfl]
          exact Yd.pure _
  · rw [if_neg cz] at hlong ⊢
    refine ⟨c9, c10, c11, hs, ?_⟩
    simp only [f_X0_judgeMend]
    refine Yd.bind hlong ?_
    simp only [if_true]
    exact Yd.pure _
