/-! the small methods of the reference -/
theorem z_m1 {n : Nat} (h : 0 < n) : nI n - (1 : Int32) = nI (n - 1) := pk_sub (b := 1) h
theorem y_in {n j : Nat} (N : Nat) (hn : n ≤ 8) (h : j < n) : f_X1_in N (nI j) 0 (nI n - (1 : Int32)) = some 1 := by
  rw [f_X1_in, if_neg (nI_pos (by omega)), z_m1 (by omega), if_neg (nI_nlt (by omega) (by omega))]
theorem y_in0 {n : Nat} {a : Int32} (N : Nat) (h0 : 0 < n) (hn : n ≤ 8) (h : a < 0 ∨ nI n ≤ a) : f_X1_in N a 0 (nI n - (1 : Int32)) = some 0 := by
  rw [f_X1_in]
  by_cases c : a < 0
  · rw [if_pos c]
  · have h2 := h.resolve_left c
    obtain ⟨j, hj, rfl⟩ := nI_of c
    rw [if_neg c, z_m1 h0, if_pos (nI_lt (by have := (z_le (by omega) hj).mp h2; omega) hj)]
theorem y_isOne {n j : Nat} (N : Nat) (hn : n ≤ 8) (h : j < n) : f_X1_isOne N (nI j) (nI n) = some 1 := by
  rw [f_X1_isOne, y_in N hn h, z_bs, z_gb_in (Or.inr rfl)]
theorem y_isOne0 {n : Nat} {a : Int32} (N : Nat) (h0 : 0 < n) (hn : n ≤ 8) (h : a < 0 ∨ nI n ≤ a) : f_X1_isOne N a (nI n) = some 0 := by
  rw [f_X1_isOne, y_in0 N h0 hn h, z_bs, z_gb_in (Or.inl rfl)]
theorem z_shbit : ∀ m, m < 256 → ∀ j, j < 8 → ((nI m >>> (nI j &&& 31)) &&& (1 : Int32)) = if m.testBit j = true then 1 else 0 := by decide +kernel
theorem z_shbit0 {m j : Nat} (hm : m < 256) (hj : j < 8) : ((nI m >>> (nI j &&& 31)) &&& (1 : Int32)) = 0 ↔ m.testBit j = false := by
  rw [z_shbit m hm j hj]
  by_cases c : m.testBit j = true
  · rw [if_pos c, c]
    exact ⟨fun h => absurd h (by decide), fun h => absurd h (by decide)⟩
  · rw [if_neg c]
    exact ⟨fun _ => by simpa using c, fun _ => rfl⟩
theorem y_after_up {n m z : Nat} (h0 : 0 < n) (hn : n ≤ 8) (hm : m < 256) (hz : z = n ∨ (z < n ∧ m.testBit z = true)) : ∀ (d y : Nat), y + d = z → (∀ i, y ≤ i → i < z → m.testBit i = false) → Yl (fun N k => f_X1_after_b4 N (nI n) (nI m) k 1 (nI y)) (nI z) := by
  intro d
  induction d with
  | zero =>
    intro y hy _
    obtain rfl : y = z := by omega
    refine Yl.step ?_
    rcases hz with e | ⟨h1, h2⟩
    · subst e
      simp only [f_X1_after_b4, y_in0 _ h0 hn (Or.inr (nI_le (Nat.le_refl y) (by omega))), z_bs, if_true, f_X1_after_b36]
      exact Yl.pure _
    · simp only [f_X1_after_b4, y_in _ hn h1, z_bs, if_neg (show ¬ (1 : Int32) = 0 by decide), if_neg (show ¬ ((nI m >>> (nI y &&& 31)) &&& (1 : Int32)) = 0 from fun e => by rw [(z_shbit0 hm (by omega)).mp e] at h2; cases h2), f_X1_after_b36]
      exact Yl.pure _
  | succ d ih =>
    intro y hy hb
    have hyn : y < n := by rcases hz with e | e <;> omega
    refine Yl.step ?_
    simp only [f_X1_after_b4, y_in _ hn hyn, z_bs, if_neg (show ¬ (1 : Int32) = 0 by decide), if_pos ((z_shbit0 hm (show y < 8 by omega)).mpr (hb y (Nat.le_refl y) (by omega))), nI_1]
    exact ih (y + 1) (by omega) (fun i h1 h2 => hb i (by omega) h2)
theorem y_after_dn {n m : Nat} (h0 : 0 < n) (hn : n ≤ 8) (hm : m < 256) : ∀ (t : Nat), t ≤ n → (∃ z, z < t ∧ m.testBit z = true ∧ (∀ i, z < i → i < t → m.testBit i = false) ∧ Yl (fun N k => f_X1_after_b4 N (nI n) (nI m) k (-1) (nI t + (-1 : Int32))) (nI z)) ∨ ((∀ i, i < t → m.testBit i = false) ∧ Yl (fun N k => f_X1_after_b4 N (nI n) (nI m) k (-1) (nI t + (-1 : Int32))) (-1)) := by
  intro t
  induction t with
  | zero =>
    intro _
    refine Or.inr ⟨fun i h => by omega, Yl.step ?_⟩
    simp only [f_X1_after_b4, show nI 0 + (-1 : Int32) = -1 from by decide, y_in0 (a := -1) _ h0 hn (Or.inl (by decide)), z_bs, if_true, f_X1_after_b36]
    exact Yl.pure _
  | succ t ih =>
    intro ht
    by_cases c : m.testBit t = true
    · refine Or.inl ⟨t, by omega, c, fun i h1 h2 => by omega, Yl.step ?_⟩
      simp only [f_X1_after_b4, pk_m1, y_in _ hn (show t < n by omega), z_bs, if_neg (show ¬ (1 : Int32) = 0 by decide), if_neg (show ¬ ((nI m >>> (nI t &&& 31)) &&& (1 : Int32)) = 0 from fun e => by rw [(z_shbit0 hm (by omega)).mp e] at c; cases c), f_X1_after_b36]
      exact Yl.pure _
    · have c2 : m.testBit t = false := by simpa using c
      have hgo : ∀ r, Yl (fun N k => f_X1_after_b4 N (nI n) (nI m) k (-1) (nI t + (-1 : Int32))) r → Yl (fun N k => f_X1_after_b4 N (nI n) (nI m) k (-1) (nI (t + 1) + (-1 : Int32))) r := by
        intro r h
        refine Yl.step ?_
        simp only [f_X1_after_b4, pk_m1, y_in _ hn (show t < n by omega), z_bs, if_neg (show ¬ (1 : Int32) = 0 by decide), if_pos ((z_shbit0 hm (show t < 8 by omega)).mpr c2)]
        exact h
      rcases ih (by omega) with ⟨z, h1, h2, h3, h4⟩ | ⟨h1, h2⟩
      · refine Or.inl ⟨z, by omega, h2, fun i h5 h6 => ?_, hgo _ h4⟩
        by_cases e : i = t
        · rw [e]; exact c2
        · exact h3 i h5 (by omega)
      · refine Or.inr ⟨fun i h5 => ?_, hgo _ h2⟩
        by_cases e : i = t
        · rw [e]; exact c2
        · exact h1 i (by omega)
/-- whom some give to, as bits -/
def zgm (g : Nat → Nat) : Nat → Nat
  | 0 => 0
  | k + 1 => zgm g k ||| (if g k < 8 then 2 ^ g k else 0)
theorem zgm_lt (g : Nat → Nat) (k : Nat) : zgm g k < 256 := by
  induction k with
  | zero => exact (by decide : 0 < 256)
  | succ k ih =>
    rw [zgm]
    by_cases c : g k < 8
    · rw [if_pos c]; exact z_or_lt ih (z_2p8 c)
    · rw [if_neg c, Nat.or_zero]; exact ih
theorem zgm_bit (g : Nat → Nat) (k : Nat) {y : Nat} (hy : y < 8) : (zgm g k).testBit y = true ↔ ∃ j, j < k ∧ g j = y := by
  induction k with
  | zero =>
    constructor
    · intro h
      rw [zgm] at h
      simp at h
    · rintro ⟨j, h, _⟩
      omega
  | succ k ih =>
    rw [zgm, Nat.testBit_or, Bool.or_eq_true, ih]
    constructor
    · rintro (⟨j, h1, h2⟩ | h)
      · exact ⟨j, by omega, h2⟩
      · by_cases c : g k < 8
        · rw [if_pos c, Nat.testBit_two_pow] at h
          exact ⟨k, by omega, by simpa using h⟩
        · rw [if_neg c] at h
          simp at h
    · rintro ⟨j, h1, h2⟩
      by_cases e : j = k
      · right
        rw [e] at h2
        rw [if_pos (by omega), h2, Nat.testBit_two_pow_self]
      · exact Or.inl ⟨j, by omega, h2⟩
theorem y_gotten {n : Nat} (hn : n ≤ 8) {g : Nat → Nat} {c6 : Nat → Int32} (hg : ∀ i, i < n → c6 i = hv (g i) ∧ g i ≤ 8) : ∀ (d i : Nat), i + d = n → Yl (fun N k => f_X1_gotten_b4 N (nI n) c6 k (nI (zgm g i)) (nI i)) (nI (zgm g n)) := by
  intro d
  induction d with
  | zero =>
    intro i h
    obtain rfl : i = n := by omega
    refine Yl.step ?_
    simp only [f_X1_gotten_b4, if_pos (nI_le (Nat.le_refl i) (show i < 2 ^ 31 by omega))]
    exact Yl.pure _
  | succ d ih =>
    intro i h
    have hin : i < n := by omega
    have hih := ih (i + 1) (by omega)
    refine Yl.step ?_
    simp only [f_X1_gotten_b4, if_neg (nI_ge hin (show n < 2 ^ 31 by omega)), z_gxn (show i < 8 by omega) (show 8 < 2 ^ 31 by decide), nI_clamp (show i < 2 ^ 31 by omega), (hg i hin).1, f_X1_gotten_b34, nI_1]
    by_cases c : g i < 8
    · simp only [hv_in c, if_neg (show ¬ nI (g i) < 0 from nI_pos (by omega)), z_shl _ c, fa_or]
      rw [zgm, if_pos c] at hih
      exact hih
    · have e8 : g i = 8 := by have := (hg i hin).2; omega
      simp only [e8, hv_8, if_pos (show (-6 : Int32) < 0 by decide)]
      rw [zgm, if_neg c, Nat.or_zero] at hih
      simp only [show nI (zgm g i) ||| (0 : Int32) = nI (zgm g i) from by rw [← nI_0, fa_or, Nat.or_zero]]
      exact hih
/-! rounds of a way: walks come back -/
theorem z_pigeon : ∀ (n : Nat) (h : Nat → Nat), (∀ j, j ≤ n → h j < n) → ∃ i j, i < j ∧ j ≤ n ∧ h i = h j := by
  intro n
  induction n with
  | zero => intro h hh; exact absurd (hh 0 (Nat.le_refl 0)) (Nat.not_lt_zero _)
  | succ n ih =>
    intro h hh
    by_cases c : ∃ i, i ≤ n ∧ h i = h (n + 1)
    · obtain ⟨i, hi, e⟩ := c
      exact ⟨i, n + 1, by omega, Nat.le_refl _, e⟩
    · have c2 : ∀ i, i ≤ n → h i ≠ h (n + 1) := fun i hi e => c ⟨i, hi, e⟩
      obtain ⟨i, j, h1, h2, h3⟩ := ih (fun j => if h j = n then h (n + 1) else h j) (fun j hj => by
        show (if h j = n then h (n + 1) else h j) < n
        by_cases e : h j = n
        · rw [if_pos e]
          have a := hh (n + 1) (Nat.le_refl _)
          have b := c2 j hj
          omega
        · rw [if_neg e]
          have a := hh j (by omega)
          omega)
      refine ⟨i, j, h1, by omega, ?_⟩
      have h3 : (if h i = n then h (n + 1) else h i) = (if h j = n then h (n + 1) else h j) := h3
      by_cases ei : h i = n
      · by_cases ej : h j = n
        · rw [ei, ej]
        · rw [if_pos ei, if_neg ej] at h3
          exact absurd h3.symm (c2 j (by omega))
      · by_cases ej : h j = n
        · rw [if_neg ei, if_pos ej] at h3
          exact absurd h3 (c2 i (by omega))
        · rw [if_neg ei, if_neg ej] at h3
          exact h3
/-- f is a way of those that P holds of: it stays among them, and no two meet -/
def zper (n : Nat) (P : Nat → Prop) (f : Nat → Nat) : Prop := (∀ x, P x → x < n ∧ P (f x)) ∧ ∀ x y, P x → P y → f x = f y → x = y
theorem zi_P {n : Nat} {P : Nat → Prop} {f : Nat → Nat} (h : zper n P f) {x : Nat} (hx : P x) (k : Nat) : P (zi f k x) := by
  induction k with
  | zero => exact hx
  | succ k ih => exact (h.1 _ ih).2
theorem zi_cancel {n : Nat} {P : Nat → Prop} {f : Nat → Nat} (h : zper n P f) {x : Nat} (hx : P x) : ∀ (i d : Nat), zi f i x = zi f (i + d) x → zi f d x = x := by
  intro i
  induction i with
  | zero => intro d e; rw [Nat.zero_add] at e; exact e.symm
  | succ i ih =>
    intro d e
    apply ih d
    have e2 : f (zi f i x) = f (zi f (i + d) x) := by
      have : i + 1 + d = (i + d) + 1 := by omega
      rw [this] at e
      exact e
    exact h.2 _ _ (zi_P h hx i) (zi_P h hx (i + d)) e2
/-- the first step at which a walk is back -/
theorem zi_back {n : Nat} {P : Nat → Prop} {f : Nat → Nat} (h : zper n P f) {x : Nat} (hx : P x) : ∃ r, 1 ≤ r ∧ r ≤ n ∧ zi f r x = x ∧ ∀ j, 1 ≤ j → j < r → zi f j x ≠ x := by
  obtain ⟨i, j, h1, h2, h3⟩ := z_pigeon n (fun k => zi f k x) (fun k _ => (h.1 _ (zi_P h hx k)).1)
  have hd : zi f (j - i) x = x := zi_cancel h hx i (j - i) (by rw [show i + (j - i) = j by omega]; exact h3)
  obtain ⟨r, hr, hm⟩ := pk_least (fun r => 1 ≤ r ∧ zi f r x = x) ⟨j - i, by omega, hd⟩
  refine ⟨r, hr.1, ?_, hr.2, fun k hk1 hk2 e => hm k hk2 ⟨hk1, e⟩⟩
  rcases Nat.lt_or_ge (j - i) r with c | c
  · exact absurd ⟨by omega, hd⟩ (hm (j - i) c)
  · omega
theorem y_roundOf {n : Nat} (hn : n ≤ 8) {P : Nat → Prop} {f : Nat → Nat} (h : zper n P f) {c6 : Nat → Int32} (hc : ∀ i, i < n → c6 i = hv (f i)) {x r : Nat} (hx : P x) (h1 : 1 ≤ r) (hr : zi f r x = x) (hm : ∀ j, 1 ≤ j → j < r → zi f j x ≠ x) (hr31 : r < 2 ^ 31) : Yd (fun N => f_X1_roundOf N (nI x) c6) (nI r) := by
  have hlt : ∀ k, zi f k x < n := fun k => (h.1 _ (zi_P h hx k)).1
  have hstep : ∀ k, c6 (zi f k x) = nI (zi f (k + 1) x) := fun k => by
    rw [hc _ (hlt k), show f (zi f k x) = zi f (k + 1) x from rfl, hv_in (by have := hlt (k + 1); omega)]
  have loop : ∀ (d k : Nat), 1 ≤ k → k + d = r → Yl (fun N m => f_X1_roundOf_b9 N c6 m (nI x) (nI k) (nI (zi f k x))) (nI r) := by
    intro d
    induction d with
    | zero =>
      intro k _ hk
      obtain rfl : k = r := by omega
      refine Yl.step ?_
      simp only [f_X1_roundOf_b9, hr, if_true]
      exact Yl.pure _
    | succ d ih =>
      intro k hk1 hk
      refine Yl.step ?_
      have hx8 : x < n := hlt 0
      simp only [f_X1_roundOf_b9, if_neg (show ¬ nI (zi f k x) = nI x from fun e => hm k hk1 (by omega) ((nI_eq (by have := hlt k; omega) (by omega)).mp e)), z_gxn (show zi f k x < 8 by have := hlt k; omega) (show 8 < 2 ^ 31 by decide), nI_clamp (show zi f k x < 2 ^ 31 by have := hlt k; omega), hstep, nI_1]
      exact ih (k + 1) (by omega) (by omega)
  have hx8 : x < n := hlt 0
  simp only [f_X1_roundOf, z_gxn (show x < 8 by omega) (show 8 < 2 ^ 31 by decide), nI_clamp (show x < 2 ^ 31 by omega)]
  have h0 := hstep 0
  simp only [show zi f 0 x = x from rfl] at h0
  simp only [h0]
  exact (loop (r - 1) 1 (Nat.le_refl 1) (by omega)).diag
/-- those that bits tell of, in order -/
def zD (n m : Nat) : List Nat := (List.range n).filter (fun i => m.testBit i)
theorem zD_mem {n m i : Nat} : i ∈ zD n m ↔ i < n ∧ m.testBit i = true := by
  rw [zD, List.mem_filter, List.mem_range]
theorem y_areLong {n m L : Nat} (hn : n ≤ 8) (hm : m < 256) (hL : L ≤ 8) {f : Nat → Nat} (h : zper n (fun x => x ∈ zD n m) f) {c6 : Nat → Int32} (hc : ∀ i, i < n → c6 i = hv (f i)) : Yd (fun N => f_X1_areLong N (nI n) (nI L) (nI m) c6) (if zoks L (zD n m) f = true then 1 else 0) := by
  have loop : ∀ (d k : Nat) (a : Int32), k + d = n → ((a = 1 ∧ ∀ i, i < k → m.testBit i = true → zok L f i = true) ∨ (a = 0 ∧ ∃ i, i < k ∧ m.testBit i = true ∧ zok L f i = false)) → Yl (fun N q => f_X1_areLong_b4 N (nI n) (nI L) (nI m) c6 q a (nI k)) (if zoks L (zD n m) f = true then 1 else 0) := by
    intro d
    induction d with
    | zero =>
      intro k a hk ha
      obtain rfl : k = n := by omega
      refine Yl.step ?_
      simp only [f_X1_areLong_b4, if_pos (nI_le (Nat.le_refl k) (show k < 2 ^ 31 by omega))]
      rcases ha with ⟨rfl, ha⟩ | ⟨rfl, i, h1, h2, h3⟩
      · rw [if_pos (show zoks L (zD k m) f = true from List.all_eq_true.mpr fun x hx => ha x (zD_mem.mp hx).1 (zD_mem.mp hx).2)]
        simp only [z_gb_in (show (1 : Int32) = 0 ∨ (1 : Int32) = 1 from Or.inr rfl)]
        exact Yl.pure _
      · rw [if_neg (show ¬ zoks L (zD k m) f = true from fun e => by
          have := List.all_eq_true.mp e i (zD_mem.mpr ⟨h1, h2⟩)
          rw [h3] at this
          cases this)]
        simp only [z_gb_in (show (0 : Int32) = 0 ∨ (0 : Int32) = 1 from Or.inl rfl)]
        exact Yl.pure _
    | succ d ih =>
      intro k a hk ha
      have hkn : k < n := by omega
      refine Yl.step ?_
      simp only [f_X1_areLong_b4, if_neg (nI_ge hkn (show n < 2 ^ 31 by omega)), f_X1_areLong_b43, f_X1_areLong_b39, f_X1_areLong_b44, nI_1]
      rcases ha with ⟨rfl, ha⟩ | ⟨rfl, i, h1, h2, h3⟩
      · simp only [if_neg (show ¬ (1 : Int32) = 0 by decide)]
        by_cases cb : m.testBit k = true
        · simp only [if_neg (show ¬ ((nI m >>> (nI k &&& 31)) &&& (1 : Int32)) = 0 from fun e => by rw [(z_shbit0 hm (by omega)).mp e] at cb; cases cb)]
          obtain ⟨r, r1, r2, r3, r4⟩ := zi_back h (zD_mem.mpr ⟨hkn, cb⟩)
          refine Yl.bind (y_roundOf hn h hc (zD_mem.mpr ⟨hkn, cb⟩) r1 r3 r4 (by omega)) ?_
          by_cases cl : r < L
          · simp only [if_pos (nI_lt cl (show L < 2 ^ 31 by omega))]
            refine ih (k + 1) 0 (by omega) (Or.inr ⟨rfl, k, by omega, cb, ?_⟩)
            rcases hz : zok L f k with _ | _
            · rfl
            · exact absurd r3 (zok_iff.mp hz r r1 cl)
          · simp only [if_neg (nI_nlt (show L ≤ r by omega) (show r < 2 ^ 31 by omega))]
            refine ih (k + 1) 1 (by omega) (Or.inl ⟨rfl, fun i hi hib => ?_⟩)
            by_cases e : i = k
            · rw [e]
              exact zok_iff.mpr fun j j1 j2 => r4 j j1 (by omega)
            · exact ha i (by omega) hib
        · have cb2 : m.testBit k = false := by simpa using cb
          simp only [if_pos ((z_shbit0 hm (show k < 8 by omega)).mpr cb2)]
          refine ih (k + 1) 1 (by omega) (Or.inl ⟨rfl, fun i hi hib => ?_⟩)
          by_cases e : i = k
          · rw [e, cb2] at hib; cases hib
          · exact ha i (by omega) hib
      · simp only [if_true]
        exact ih (k + 1) 0 (by omega) (Or.inr ⟨rfl, i, by omega, h2, h3⟩)
  simp only [f_X1_areLong]
  exact (loop n 0 1 (by omega) (Or.inl ⟨rfl, fun i hi => by omega⟩)).diag
