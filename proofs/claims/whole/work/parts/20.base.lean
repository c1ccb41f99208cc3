/-! numbers, masks and sums -/
theorem fa_lit (n : Nat) : (OfNat.ofNat n : Int32) = nI n := rfl
theorem fa_and (a b : Nat) : nI a &&& nI b = nI (a &&& b) := by
  apply Int32.toBitVec_inj.1
  show BitVec.ofNat 32 a &&& BitVec.ofNat 32 b = BitVec.ofNat 32 (a &&& b)
  apply BitVec.eq_of_getLsbD_eq
  intro i hi
  simp [hi]
theorem fa_or (a b : Nat) : nI a ||| nI b = nI (a ||| b) := by
  apply Int32.toBitVec_inj.1
  show BitVec.ofNat 32 a ||| BitVec.ofNat 32 b = BitVec.ofNat 32 (a ||| b)
  apply BitVec.eq_of_getLsbD_eq
  intro i hi
  simp [hi]
theorem nx_xor (a b : Nat) : nI a ^^^ nI b = nI (a ^^^ b) := by
  apply Int32.toBitVec_inj.1
  show BitVec.ofNat 32 a ^^^ BitVec.ofNat 32 b = BitVec.ofNat 32 (a ^^^ b)
  apply BitVec.eq_of_getLsbD_eq
  intro i hi
  simp [hi]
theorem z_and2p {n j : Nat} : n &&& 2 ^ j = 0 ↔ n.testBit j = false := by
  constructor
  · intro h
    have h1 : (n &&& 2 ^ j).testBit j = false := by rw [h]; simp
    rw [Nat.testBit_and] at h1
    first | simpa using h1 | simpa [Nat.testBit_two_pow_self] using h1
  · intro h
    apply Nat.eq_of_testBit_eq
    intro i
    rw [Nat.testBit_and]
    by_cases hi : j = i
    · subst hi; simp [h]
    · first | (simp [Nat.testBit_two_pow, hi]; done) | (simp [Nat.testBit_two_pow_of_ne hi]; done)
theorem fa_bit {n j : Nat} (hj : j < 31) : nI n &&& nI (2 ^ j) = 0 ↔ n.testBit j = false := by
  have h2 : (2 : Nat) ^ j < 2 ^ 31 := Nat.pow_lt_pow_right (by decide) hj
  have hle : n &&& 2 ^ j ≤ 2 ^ j := Nat.and_le_right
  rw [fa_and]
  constructor
  · intro h
    apply z_and2p.mp
    rcases Nat.eq_zero_or_pos (n &&& 2 ^ j) with z | z
    · exact z
    · exact absurd h (nI_ne0 z (Nat.lt_of_le_of_lt hle h2))
  · intro h
    rw [z_and2p.mpr h]; exact nI_0
theorem z_eq0 {a : Nat} (h : a < 2 ^ 31) : nI a = 0 ↔ a = 0 := nI_eq (b := 0) h (by decide)
theorem z_le {a b : Nat} (ha : a < 2 ^ 31) (hb : b < 2 ^ 31) : nI a ≤ nI b ↔ a ≤ b := nI_leI ha hb
theorem z_lt {a b : Nat} (ha : a < 2 ^ 31) (hb : b < 2 ^ 31) : nI a < nI b ↔ a < b := nI_ltI ha hb
theorem z_shl : ∀ j, j < 8 → (1 : Int32) <<< (nI j &&& 31) = nI (2 ^ j) := by decide +kernel
theorem z_shl9 : ∀ j, j < 9 → ((1 : Int32) <<< (nI j &&& 31)) - (1 : Int32) = nI (2 ^ j - 1) := by decide +kernel
theorem z_gxn {α : Type} {i n : Nat} {k : Option α} (h : i < n) (hn : n < 2 ^ 31) : z_gx (nI i) n k = k := z_gx_in (vp_in_nI h hn)
theorem z_2p {n : Nat} (h : n ≤ 8) : 2 ^ n ≤ 256 := Nat.pow_le_pow_right (by decide) h
theorem z_2p8 {n : Nat} (h : n < 8) : 2 ^ n < 256 := Nat.pow_lt_pow_right (by decide) h
theorem z_xor_lt {a b : Nat} (ha : a < 256) (hb : b < 256) : a ^^^ b < 256 := Nat.xor_lt_two_pow (n := 8) ha hb
theorem z_or_lt {a b : Nat} (ha : a < 256) (hb : b < 256) : a ||| b < 256 := Nat.or_lt_two_pow (n := 8) ha hb
/-- where an int is one of the first n numbers, or isn't -/
theorem z_ix (a : Int32) {n : Nat} (hn : n < 2 ^ 31) : (∃ j, j < n ∧ a = nI j) ∨ (a < 0 ∨ nI n ≤ a) := by
  rcases pk_ix a hn with h | h | h
  · exact Or.inr (Or.inl h)
  · exact Or.inr (Or.inr h)
  · exact Or.inl h
theorem z_alc (a b c : Int32) : a + (b + c) = b + (a + c) := by rw [← Int32.add_assoc, Int32.add_comm a b, Int32.add_assoc]
/-- sums of int32 -/
def zs : Nat → (Nat → Int32) → Int32
  | 0, _ => 0
  | n + 1, φ => zs n φ + φ n
def zl {α : Type} : List α → (α → Int32) → Int32
  | [], _ => 0
  | a :: l, φ => φ a + zl l φ
theorem zs_congr {n : Nat} {φ χ : Nat → Int32} (h : ∀ i, i < n → φ i = χ i) : zs n φ = zs n χ := by
  induction n with
  | zero => rfl
  | succ n ih => show zs n φ + φ n = zs n χ + χ n; rw [ih fun i hi => h i (by omega), h n (by omega)]
theorem zs_zero {n : Nat} {φ : Nat → Int32} (h : ∀ i, i < n → φ i = 0) : zs n φ = 0 := by
  induction n with
  | zero => rfl
  | succ n ih => show zs n φ + φ n = 0; rw [ih fun i hi => h i (by omega), h n (by omega)]; rfl
theorem zs_add (n : Nat) (φ χ : Nat → Int32) : zs n (fun i => φ i + χ i) = zs n φ + zs n χ := by
  induction n with
  | zero => rfl
  | succ n ih => show zs n _ + _ = (zs n φ + φ n) + (zs n χ + χ n); rw [ih]; simp only [Int32.add_assoc, z_alc]
theorem zs_mulR (n : Nat) (φ : Nat → Int32) (k : Int32) : zs n (fun i => φ i * k) = zs n φ * k := by
  induction n with
  | zero => exact (Int32.zero_mul).symm
  | succ n ih => show zs n _ + _ = (zs n φ + φ n) * k; rw [ih, Int32.add_mul]
theorem zs_mulL (n : Nat) (φ : Nat → Int32) (k : Int32) : zs n (fun i => k * φ i) = k * zs n φ := by
  induction n with
  | zero => exact (Int32.mul_zero).symm
  | succ n ih => show zs n _ + _ = k * (zs n φ + φ n); rw [ih, Int32.mul_add]
theorem zs_single {n : Nat} {φ : Nat → Int32} (k : Nat) (hk : k < n) (h : ∀ i, i < n → i ≠ k → φ i = 0) : zs n φ = φ k := by
  induction n with
  | zero => omega
  | succ n ih =>
    show zs n φ + φ n = φ k
    by_cases e : k = n
    · subst e
      rw [zs_zero fun i hi => h i (by omega) (by omega), Int32.zero_add]
    · rw [ih (by omega) fun i hi => h i (by omega), h n (by omega) (Ne.symm e), Int32.add_zero]
theorem zs_swap (n m : Nat) (φ : Nat → Nat → Int32) : zs n (fun i => zs m (fun j => φ i j)) = zs m (fun j => zs n (fun i => φ i j)) := by
  induction n with
  | zero => exact (zs_zero fun _ _ => rfl).symm
  | succ n ih => show zs n _ + zs m _ = _; rw [ih, ← zs_add]; rfl
theorem zl_congr {α : Type} {l : List α} {φ χ : α → Int32} (h : ∀ a, a ∈ l → φ a = χ a) : zl l φ = zl l χ := by
  induction l with
  | nil => rfl
  | cons a l ih => show φ a + zl l φ = χ a + zl l χ; rw [h a List.mem_cons_self, ih fun b hb => h b (List.mem_cons_of_mem _ hb)]
theorem zl_zero {α : Type} {l : List α} {φ : α → Int32} (h : ∀ a, a ∈ l → φ a = 0) : zl l φ = 0 := by
  induction l with
  | nil => rfl
  | cons a l ih => show φ a + zl l φ = 0; rw [h a List.mem_cons_self, ih fun b hb => h b (List.mem_cons_of_mem _ hb)]; rfl
theorem zl_swap {α : Type} (l : List α) (n : Nat) (φ : α → Nat → Int32) : zl l (fun a => zs n (fun j => φ a j)) = zs n (fun j => zl l (fun a => φ a j)) := by
  induction l with
  | nil => exact (zs_zero fun _ _ => rfl).symm
  | cons a l ih => show zs n _ + zl l _ = _; rw [ih, ← zs_add]; rfl
theorem zl_append {α : Type} (l l2 : List α) (φ : α → Int32) : zl (l ++ l2) φ = zl l φ + zl l2 φ := by
  induction l with
  | nil => exact (Int32.zero_add _).symm
  | cons a l ih => show φ a + zl (l ++ l2) φ = φ a + zl l φ + zl l2 φ; rw [ih, Int32.add_assoc]
theorem zl_single {α : Type} {l : List α} {φ : α → Int32} {k : α} (hk : k ∈ l) (hn : l.Nodup) (h : ∀ a, a ∈ l → a ≠ k → φ a = 0) : zl l φ = φ k := by
  induction l with
  | nil => cases hk
  | cons a l ih =>
    show φ a + zl l φ = φ k
    rcases List.mem_cons.mp hk with e | hm
    · subst e
      rw [zl_zero fun b hb => h b (List.mem_cons_of_mem _ hb) (fun e => (List.nodup_cons.mp hn).1 (e ▸ hb)), Int32.add_zero]
    · rw [h a List.mem_cons_self (fun e => (List.nodup_cons.mp hn).1 (e ▸ hm)), ih hm (List.nodup_cons.mp hn).2 fun b hb => h b (List.mem_cons_of_mem _ hb), Int32.zero_add]
/-- a count, as a sum -/
theorem zl_count {α : Type} (l : List α) (p : α → Bool) : zl l (fun a => if p a = true then 1 else 0) = nI (l.countP p) := by
  induction l with
  | nil => rfl
  | cons a l ih =>
    show (if p a = true then (1 : Int32) else 0) + zl l _ = _
    rw [ih, List.countP_cons]
    by_cases c : p a = true
    · rw [if_pos c, if_pos c, Int32.add_comm]; exact nI_1 _
    · rw [if_neg c, if_neg c, Int32.zero_add]; rfl
/-- masks: how many, the least, those above the least that aren't in it -/
def z_pc (s : Nat) : Nat := (List.range 8).countP (fun i => s.testBit i)
def z_lo (s : Nat) : Nat := ((List.range 8).find? (fun i => s.testBit i)).getD 0
def z_hi (n s : Nat) : Nat := ((2 ^ n - 1) &&& (255 ^^^ s)) &&& (256 - 2 ^ (z_lo s))
theorem z_bc_pc : ∀ s, s < 256 → z_bc (nI s) = nI (z_pc s) := by decide +kernel
theorem z_low : ∀ s, s < 256 → s ≠ 0 → nI s &&& -(nI s) = nI (2 ^ z_lo s) := by decide +kernel
theorem z_lo_lt (s : Nat) : z_lo s < 8 := by
  unfold z_lo
  cases h : (List.range 8).find? (fun i => s.testBit i) with
  | none => exact (by decide : 0 < 8)
  | some i => exact List.mem_range.mp (List.mem_of_find?_eq_some h)
theorem z_lo_in : ∀ s, s < 256 → s ≠ 0 → s.testBit (z_lo s) = true := by decide +kernel
theorem z_lo_min : ∀ s, s < 256 → ∀ i, i < z_lo s → s.testBit i = false := by decide +kernel
theorem z_hi_eq : ∀ n, n < 9 → ∀ s, s < 256 → s ≠ 0 → ((nI (2 ^ n - 1)) &&& (nI s ^^^ (-1 : Int32))) &&& (-(nI (2 ^ z_lo s))) = nI (z_hi n s) := by decide +kernel
theorem z_hi_bit : ∀ n, n < 9 → ∀ s, s < 256 → s ≠ 0 → ∀ t, t < 8 → (z_hi n s).testBit t = (decide (t < n) && !(s.testBit t) && decide (z_lo s < t)) := by decide +kernel
theorem z_hi_lt : ∀ n, n < 9 → ∀ s, s < 256 → z_hi n s < 256 := by decide +kernel
theorem z_pc_or : ∀ s, s < 256 → ∀ t, t < 8 → s.testBit t = false → z_pc (s ||| 2 ^ t) = z_pc s + 1 := by decide +kernel
theorem z_pc_xor : ∀ s, s < 256 → ∀ t, t < 8 → s.testBit t = true → z_pc (s ^^^ 2 ^ t) + 1 = z_pc s := by decide +kernel
theorem z_pc_0 : ∀ s, s < 256 → z_pc s = 0 → s = 0 := by decide +kernel
theorem z_xor_2p : ∀ s, s < 256 → ∀ t, t < 8 → s.testBit t = true → s ^^^ 2 ^ t < s := by decide +kernel
theorem z_not {a b : Nat} (ha : a < 256) (hb : b < 256) : nI a &&& (nI b ^^^ (-1 : Int32)) = nI (a &&& (255 ^^^ b)) := by
  have e : nI a = nI a &&& nI 255 := by rw [fa_and]; congr 1; exact (Nat.and_two_pow_sub_one_of_lt_two_pow (n := 8) ha).symm
  rw [← fa_and, ← nx_xor]
  apply Int32.toBitVec_inj.1
  apply BitVec.eq_of_getLsbD_eq
  intro i hi
  have e2 : (nI a).toBitVec.getLsbD i = true → i < 8 := by
    intro h
    have h3 : a.testBit i = true := by
      have h4 : (BitVec.ofNat 32 a).getLsbD i = true := h
      rw [BitVec.getLsbD_ofNat, Bool.and_eq_true] at h4
      exact h4.2
    rcases Nat.lt_or_ge i 8 with c | c
    · exact c
    · rw [Nat.testBit_lt_two_pow (Nat.lt_of_lt_of_le ha (show 2 ^ 8 ≤ 2 ^ i from Nat.pow_le_pow_right (by decide) c))] at h3
      cases h3
  have m1 : (-1 : Int32).toBitVec.getLsbD i = true := by
    have : ∀ i, i < 32 → (-1 : Int32).toBitVec.getLsbD i = true := by decide +kernel
    exact this i hi
  have m2 : i < 8 → (nI 255).toBitVec.getLsbD i = true := by
    intro h
    have : ∀ i, i < 8 → (nI 255).toBitVec.getLsbD i = true := by decide +kernel
    exact this i h
  rw [Int32.toBitVec_and, Int32.toBitVec_and, Int32.toBitVec_xor, Int32.toBitVec_xor, BitVec.getLsbD_and, BitVec.getLsbD_and, BitVec.getLsbD_xor, BitVec.getLsbD_xor]
  by_cases h : (nI a).toBitVec.getLsbD i = true
  · rw [h, m1, m2 (e2 h)]
    simp [Bool.xor_comm]
  · rw [Bool.not_eq_true] at h
    rw [h]
    rfl
