/-! what a picture answers when its fuel is large enough -/
def Yd {α : Type} (g : Nat → Option α) (r : α) : Prop := ∃ k, ∀ N, k ≤ N → g N = some r
def Yl {α : Type} (g : Nat → Nat → Option α) (r : α) : Prop := ∃ k, ∀ N n, k ≤ N → k ≤ n → g N n = some r
theorem Yd.pure {α : Type} (r : α) : Yd (fun _ => some r) r := ⟨0, fun _ _ => rfl⟩
theorem Yl.pure {α : Type} (r : α) : Yl (fun _ _ => some r) r := ⟨0, fun _ _ _ _ => rfl⟩
theorem Yd.all {α : Type} {g : Nat → Option α} {r : α} (h : ∀ N, g N = some r) : Yd g r := ⟨0, fun N _ => h N⟩
theorem Yd.bind {α β : Type} {g : Nat → Option α} {h : Nat → α → Option β} {u : α} {r : β} (h1 : Yd g u) (h2 : Yd (fun N => h N u) r) : Yd (fun N => Option.bind (g N) (h N)) r := by
  obtain ⟨k1, h1⟩ := h1
  obtain ⟨k2, h2⟩ := h2
  refine ⟨max k1 k2, fun N hN => ?_⟩
  show Option.bind (g N) (h N) = some r
  rw [h1 N (by omega)]
  exact h2 N (by omega)
theorem Yl.bind {α β : Type} {g : Nat → Option α} {h : Nat → Nat → α → Option β} {u : α} {r : β} (h1 : Yd g u) (h2 : Yl (fun N n => h N n u) r) : Yl (fun N n => Option.bind (g N) (h N n)) r := by
  obtain ⟨k1, h1⟩ := h1
  obtain ⟨k2, h2⟩ := h2
  refine ⟨max k1 k2, fun N n hN hn => ?_⟩
  show Option.bind (g N) (h N n) = some r
  rw [h1 N (by omega)]
  exact h2 N n (by omega) (by omega)
theorem Yl.step {α : Type} {g : Nat → Nat → Option α} {r : α} (h : Yl (fun N n => g N (n + 1)) r) : Yl g r := by
  obtain ⟨k, h⟩ := h
  refine ⟨k + 1, fun N n hN hn => ?_⟩
  obtain ⟨m, rfl⟩ : ∃ m, n = m + 1 := ⟨n - 1, by omega⟩
  exact h N m (by omega) (by omega)
theorem Yl.diag {α : Type} {g : Nat → Nat → Option α} {r : α} (h : Yl g r) : Yd (fun N => g N N) r := by
  obtain ⟨k, h⟩ := h
  exact ⟨k, fun N hN => h N N hN hN⟩
theorem Yd.eq {α : Type} {g g' : Nat → Option α} {r : α} (e : ∃ k, ∀ N, k ≤ N → g N = g' N) (h : Yd g' r) : Yd g r := by
  obtain ⟨k1, e⟩ := e
  obtain ⟨k2, h⟩ := h
  exact ⟨max k1 k2, fun N hN => (e N (by omega)).trans (h N (by omega))⟩
theorem Yl.eq {α : Type} {g g' : Nat → Nat → Option α} {r : α} (e : ∃ k, ∀ N n, k ≤ N → k ≤ n → g N n = g' N n) (h : Yl g' r) : Yl g r := by
  obtain ⟨k1, e⟩ := e
  obtain ⟨k2, h⟩ := h
  exact ⟨max k1 k2, fun N n hN hn => (e N n (by omega) (by omega)).trans (h N n (by omega) (by omega))⟩
theorem Yd.lift {α : Type} {g : Nat → Option α} {r : α} (h : Yd g r) : Yl (fun N _ => g N) r := by
  obtain ⟨k, h⟩ := h
  exact ⟨k, fun N n hN _ => h N hN⟩
theorem z_bs {α β : Type} (a : α) (f : α → Option β) : Option.bind (some a) f = f a := by
  have h : ∀ o : Option α, o = some a → Option.bind o f = f a := fun o e => by subst e; rfl
  exact h _ rfl
/-- a one's getter, as the machine holds it: 8 is nobody -/
def hv (y : Nat) : Int32 := if y < 8 then nI y else -6
theorem hv_in {y : Nat} (h : y < 8) : hv y = nI y := if_pos h
theorem hv_8 : hv 8 = -6 := rfl
theorem hv_inj {x y : Nat} (hx : x ≤ 8) (hy : y ≤ 8) (h : hv x = hv y) : x = y := by
  have : ∀ x, x < 9 → ∀ y, y < 9 → hv x = hv y → x = y := by decide +kernel
  exact this x (by omega) y (by omega) h
theorem hv_neg {y : Nat} (hy : y ≤ 8) : hv y < 0 ↔ y = 8 := by
  have : ∀ y, y < 9 → (hv y < 0 ↔ y = 8) := by decide +kernel
  exact this y (by omega)
theorem hv_nn {y : Nat} (hy : y ≤ 8) : 0 ≤ hv y ↔ y < 8 := by
  have : ∀ y, y < 9 → (0 ≤ hv y ↔ y < 8) := by decide +kernel
  exact this y (by omega)
theorem hv_none {y : Nat} (hy : y ≤ 8) : hv y = -6 ↔ y = 8 := by
  have : ∀ y, y < 9 → (hv y = -6 ↔ y = 8) := by decide +kernel
  exact this y (by omega)
/-! the small methods of the program -/
theorem x_isOne {n j : Nat} (N : Nat) (hn : n ≤ 8) (h : j < n) : f_X0_isOne N (nI j) (nI n) = some 1 := by
  rw [f_X0_isOne, if_neg (nI_pos (by omega)), if_neg (nI_ge h (by omega))]
theorem x_isOne0 {n : Nat} {a : Int32} (N : Nat) (h : a < 0 ∨ nI n ≤ a) : f_X0_isOne N a (nI n) = some 0 := by
  rw [f_X0_isOne]
  by_cases c : a < 0
  · rw [if_pos c]
  · rw [if_neg c, if_pos (h.resolve_left c)]
theorem x_bit {j : Nat} (N : Nat) (h : j < 8) : f_X0_bit N (nI j) = some (nI (2 ^ j)) := by
  rw [f_X0_bit, if_neg (nI_pos (by omega)), if_neg (show ¬ (8 : Int32) ≤ nI j from nI_ge (b := 8) h (by decide)), z_shl j h]
theorem x_bit8 (N : Nat) : f_X0_bit N (-6) = some 0 := by
  rw [f_X0_bit, if_pos (by decide)]
theorem x_bitv {y : Nat} (N : Nat) (h : y ≤ 8) : f_X0_bit N (hv y) = some (if y < 8 then nI (2 ^ y) else 0) := by
  by_cases c : y < 8
  · rw [hv_in c, x_bit N c, if_pos c]
  · obtain rfl : y = 8 := by omega
    exact x_bit8 N
theorem x_everyone {n : Nat} (N : Nat) (hn : n ≤ 8) : f_X0_everyone N (nI n) = some (nI (2 ^ n - 1)) := by
  rw [f_X0_everyone, z_shl9 n (by omega)]
theorem z_bitne {m j : Nat} (hj : j < 8) : (nI m &&& nI (2 ^ j)) = 0 ↔ m.testBit j = false := fa_bit (by omega)
theorem x_mayGive {n i y : Nat} {b : Nat → Nat} {c2 : Nat → Int32} (N : Nat) (hn : n ≤ 8) (h : i < n) (hy : y ≤ 8) (hb : c2 i = nI (b i)) : f_X0_mayGive N (nI i) (hv y) (nI n) c2 = some (if y < 8 ∧ (b i).testBit y = true then 1 else 0) := by
  simp only [f_X0_mayGive, x_isOne N hn h, z_bs, z_gxn (show i < 8 by omega) (by decide), x_bitv N hy, nI_clamp (show i < 2 ^ 31 by omega), hb]
  rw [if_neg (by decide)]
  by_cases c : y < 8
  · rw [if_pos c]
    by_cases c2 : (b i).testBit y = true
    · rw [if_neg (fun e => by rw [(z_bitne c).mp e] at c2; cases c2), if_pos ⟨c, c2⟩]
    · rw [if_pos ((z_bitne c).mpr (by simpa using c2)), if_neg (fun e => c2 e.2)]
  · rw [if_neg c, if_pos (show (nI (b i) &&& 0) = 0 by rw [← nI_0, fa_and]; simp), if_neg (fun e => c e.1)]
theorem x_refuse {n i j : Nat} (N : Nat) (hn : n ≤ 8) (hi : i < n) (hj : j < n) : f_X0_refusePair N (nI i) (nI j) (nI n) = some (if i = j then -5 else 0) := by
  simp only [f_X0_refusePair, x_isOne N hn hi, x_isOne N hn hj, z_bs, if_neg (show ¬ (1 : Int32) = 0 by decide)]
  by_cases c : i = j
  · rw [if_pos c, if_pos (congrArg nI c)]
  · rw [if_neg c, if_neg (fun e => c ((nI_eq (by omega) (by omega)).mp e))]
theorem x_refuse0 {n : Nat} {a1 a2 : Int32} (N : Nat) (hn : n ≤ 8) (h : (a1 < 0 ∨ nI n ≤ a1) ∨ (a2 < 0 ∨ nI n ≤ a2)) : f_X0_refusePair N a1 a2 (nI n) = some (-1) := by
  simp only [f_X0_refusePair]
  rcases z_ix a1 (show n < 2 ^ 31 by omega) with ⟨i, hi, rfl⟩ | h1
  · have h2 : a2 < 0 ∨ nI n ≤ a2 := by
      rcases h with h | h
      · rcases h with h | h
        · exact absurd h (nI_pos (by omega))
        · exact absurd h (nI_ge hi (by omega))
      · exact h
    simp only [x_isOne N hn hi, z_bs, if_neg (show ¬ (1 : Int32) = 0 by decide), x_isOne0 N h2, if_true]
  · simp only [x_isOne0 N h1, z_bs, if_true]
