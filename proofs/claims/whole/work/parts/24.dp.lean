/-! the program's count: chains, closed rounds, splits -/
theorem zs_shift (k m : Nat) (F : Nat → Int32) : zs (k + m) F = zs k F + zs m (fun q => F (k + q)) := by
  induction m with
  | zero => exact (Int32.add_zero _).symm
  | succ m ih => show zs (k + m) F + F (k + m) = _; rw [ih, Int32.add_assoc]; rfl
theorem zs_trunc {a b : Nat} {F : Nat → Int32} (h : b ≤ a) (hz : ∀ q, b ≤ q → q < a → F q = 0) : zs a F = zs b F := by
  obtain ⟨m, rfl⟩ : ∃ m, a = b + m := ⟨a - b, by omega⟩
  rw [zs_shift, zs_zero (n := m) (fun i hi => hz (b + i) (by omega) (by omega)), Int32.add_zero]
/-- what the chains from s on are worth -/
def zPhi (n s : Nat) (c5 : Nat → Int32) (X : Nat → Nat → Int32) : Int32 := zs (2 ^ n) (fun V => if s ≤ V then zs n (fun c => c5 (V * 8 + c) * X V c) else 0)
def zPsi (n s : Nat) (c6 : Nat → Int32) (Y : Nat → Int32) : Int32 := zs (2 ^ n) (fun V => if 1 ≤ V ∧ V < s then c6 V * Y V else 0)
theorem zPhi_upd {n s : Nat} (hn : n ≤ 8) (c5 : Nat → Int32) (X : Nat → Nat → Int32) {V0 e0 : Nat} (hV : V0 < 2 ^ n) (hs : s ≤ V0) (he : e0 < n) (d : Int32) : zPhi n s (upd c5 (V0 * 8 + e0) (c5 (V0 * 8 + e0) + d)) X = zPhi n s c5 X + d * X V0 e0 := by
  unfold zPhi
  have h1 : ∀ V, V < 2 ^ n → (if s ≤ V then zs n (fun c => upd c5 (V0 * 8 + e0) (c5 (V0 * 8 + e0) + d) (V * 8 + c) * X V c) else 0) = (if s ≤ V then zs n (fun c => c5 (V * 8 + c) * X V c) else 0) + (if V = V0 then d * X V0 e0 else 0) := by
    intro V _
    by_cases eV : V = V0
    · subst eV
      rw [if_pos hs, if_pos hs, if_pos rfl]
      have h2 : ∀ c, c < n → upd c5 (V * 8 + e0) (c5 (V * 8 + e0) + d) (V * 8 + c) * X V c = c5 (V * 8 + c) * X V c + (if c = e0 then d * X V e0 else 0) := by
        intro c _
        by_cases ec : c = e0
        · subst ec
          rw [pk_us, if_pos rfl, Int32.add_mul]
        · rw [pk_un (show V * 8 + c ≠ V * 8 + e0 by omega), if_neg ec, Int32.add_zero]
      rw [zs_congr h2, zs_add, zs_single (φ := fun c => if c = e0 then d * X V e0 else 0) e0 he (fun i _ hne => if_neg hne), if_pos rfl]
    · rw [if_neg eV, Int32.add_zero]
      by_cases c : s ≤ V
      · rw [if_pos c, if_pos c]
        apply zs_congr
        intro c hc
        rw [pk_un (show V * 8 + c ≠ V0 * 8 + e0 by omega)]
      · rw [if_neg c, if_neg c]
  rw [zs_congr h1, zs_add, zs_single (φ := fun V => if V = V0 then d * X V0 e0 else 0) V0 hV (fun i _ hne => if_neg hne), if_pos rfl]
theorem zPhi_step {n s : Nat} (c5 : Nat → Int32) (X : Nat → Nat → Int32) (hs : s < 2 ^ n) : zPhi n s c5 X = zPhi n (s + 1) c5 X + zs n (fun c => c5 (s * 8 + c) * X s c) := by
  unfold zPhi
  have h1 : ∀ V, V < 2 ^ n → (if s ≤ V then zs n (fun c => c5 (V * 8 + c) * X V c) else 0) = (if s + 1 ≤ V then zs n (fun c => c5 (V * 8 + c) * X V c) else 0) + (if V = s then zs n (fun c => c5 (s * 8 + c) * X s c) else 0) := by
    intro V _
    by_cases e : V = s
    · subst e
      rw [if_pos (Nat.le_refl V), if_neg (by omega), if_pos rfl, Int32.zero_add]
    · rw [if_neg e, Int32.add_zero]
      by_cases c : s ≤ V
      · rw [if_pos c, if_pos (by omega)]
      · rw [if_neg c, if_neg (by omega)]
  rw [zs_congr h1, zs_add, zs_single (φ := fun V => if V = s then zs n (fun c => c5 (s * 8 + c) * X s c) else 0) s hs (fun i _ hne => if_neg hne), if_pos rfl]
theorem zPsi_step {n s : Nat} (c6 : Nat → Int32) (Y : Nat → Int32) (hs : s < 2 ^ n) (h1 : 1 ≤ s) (v : Int32) : zPsi n (s + 1) (upd c6 s v) Y = zPsi n s c6 Y + v * Y s := by
  unfold zPsi
  have h1 : ∀ V, V < 2 ^ n → (if 1 ≤ V ∧ V < s + 1 then upd c6 s v V * Y V else 0) = (if 1 ≤ V ∧ V < s then c6 V * Y V else 0) + (if V = s then v * Y s else 0) := by
    intro V _
    by_cases e : V = s
    · subst e
      rw [if_pos ⟨h1, by omega⟩, if_neg (by omega), if_pos rfl, pk_us, Int32.zero_add]
    · rw [if_neg e, Int32.add_zero, pk_un e]
      by_cases c : 1 ≤ V ∧ V < s
      · rw [if_pos c, if_pos ⟨c.1, by omega⟩]
      · rw [if_neg c, if_neg (fun h => c ⟨h.1, by omega⟩)]
  rw [zs_congr h1, zs_add, zs_single (φ := fun V => if V = s then v * Y s else 0) s hs (fun i _ hne => if_neg hne), if_pos rfl]
theorem x_chainAt (N V e : Nat) : f_X0_chainAt N (nI V) (nI e) = some (nI (V * 8 + e)) := by
  rw [f_X0_chainAt, show (8 : Int32) = nI 8 from rfl, pk_mul, nI_add]
/-- the sum over those that a chain of s that ends at e may go on to -/
def zout (n : Nat) (rows : Nat → Nat) (X : Nat → Nat → Int32) (s e : Nat) (i : Nat) : Int32 := zs i (fun t => if (z_hi n s).testBit t = true ∧ (rows e).testBit t = true then X (s ||| 2 ^ t) t else 0)
theorem x_len_in {n s e : Nat} {rows : Nat → Nat} {c4 : Nat → Int32} (hn : n ≤ 8) (hs : s < 2 ^ n) (hs0 : s ≠ 0) (he : e < n) (low hi e4 num : Int32) : ∀ (d i : Nat) (c5 : Nat → Int32), i + d = n → ∃ c5' : Nat → Int32, (∀ X, zPhi n (s + 1) c5' X + num * zout n rows X s e i = zPhi n (s + 1) c5 X + num * zout n rows X s e n) ∧ (∀ j, j < n → c5' (s * 8 + j) = c5 (s * 8 + j)) ∧ ∃ k, ∀ N m, k ≤ N → k ≤ m → ∀ r, f_X0_lengthenChains_b68 N (nI n) c4 r m (nI s) low hi e4 (nI e) num (nI (rows e &&& z_hi n s)) (nI i) c5 = f_X0_lengthenChains_b121 N (nI n) c4 r (nI s) low hi e4 (nI e) num c5' := by
  have hs8 : s < 256 := Nat.lt_of_lt_of_le hs (z_2p hn)
  have hh : rows e &&& z_hi n s < 256 := Nat.lt_of_le_of_lt Nat.and_le_right (z_hi_lt n (by omega) s hs8)
  intro d
  induction d with
  | zero =>
    intro i c5 hid
    obtain rfl : i = n := by omega
    refine ⟨c5, fun X => rfl, fun _ _ => rfl, 1, fun N m _ hm r => ?_⟩
    obtain ⟨m, rfl⟩ : ∃ k, m = k + 1 := ⟨m - 1, by omega⟩
    rw [f_X0_lengthenChains_b68, if_pos (nI_le (Nat.le_refl i) (by omega))]
  | succ d ih =>
    intro i c5 hid
    have hin : i < n := by omega
    by_cases h0 : rows e &&& z_hi n s = 0
    · -- nobody to go on to
      refine ⟨c5, fun X => ?_, fun _ _ => rfl, 1, fun N m _ hm r => ?_⟩
      · have z : ∀ i, i ≤ n → zout n rows X s e i = 0 := fun i _ => zs_zero fun t _ => if_neg fun h => by
          have := Nat.testBit_and (rows e) (z_hi n s) t
          rw [h0, h.1, h.2] at this
          simp at this
        rw [z i (by omega), z n (Nat.le_refl n)]
      · obtain ⟨m, rfl⟩ : ∃ k, m = k + 1 := ⟨m - 1, by omega⟩
        rw [f_X0_lengthenChains_b68, if_neg (nI_ge hin (by omega)), if_pos (by rw [h0]; rfl)]
    · have hne : ¬ nI (rows e &&& z_hi n s) = 0 := nI_ne0 (Nat.pos_of_ne_zero h0) (by omega)
      by_cases hb : (rows e &&& z_hi n s).testBit i = true
      · have hb0 := hb
        rw [Nat.testBit_and, Bool.and_eq_true] at hb
        have hv : s ||| 2 ^ i < 2 ^ n := Nat.or_lt_two_pow hs (Nat.pow_lt_pow_right (by decide) hin)
        have hbit := z_hi_bit n (by omega) s hs8 hs0 i (by omega)
        rw [hb.2] at hbit
        have hns : s.testBit i = false := by
          rcases h : s.testBit i with _ | _
          · rfl
          · rw [h] at hbit; simp at hbit
        have hvs : s + 1 ≤ s ||| 2 ^ i := by
          have h1 : s ≤ s ||| 2 ^ i := Nat.left_le_or
          have h2 : s ≠ s ||| 2 ^ i := fun e2 => by
            have := Nat.testBit_or s (2 ^ i) i
            rw [← e2, hns, Nat.testBit_two_pow_self] at this
            cases this
          omega
        have hv256 : s ||| 2 ^ i < 256 := Nat.lt_of_lt_of_le hv (z_2p hn)
        obtain ⟨c5', h1, h2, k, h3⟩ := ih (i + 1) (upd c5 ((s ||| 2 ^ i) * 8 + i) (c5 ((s ||| 2 ^ i) * 8 + i) + num)) (by omega)
        refine ⟨c5', fun X => ?_, fun j hj => ?_, k + 1, fun N m hN hm r => ?_⟩
        · have := h1 X
          rw [zPhi_upd hn c5 X hv hvs hin num] at this
          have e1 : zout n rows X s e (i + 1) = zout n rows X s e i + (if (z_hi n s).testBit i = true ∧ (rows e).testBit i = true then X (s ||| 2 ^ i) i else 0) := rfl
          rw [if_pos ⟨hb.2, hb.1⟩] at e1
          rw [e1, Int32.mul_add] at this
          have h4 : zPhi n (s + 1) c5' X + num * zout n rows X s e i + num * X (s ||| 2 ^ i) i = (zPhi n (s + 1) c5 X + num * zout n rows X s e n) + num * X (s ||| 2 ^ i) i := by
            rw [Int32.add_assoc, this]
            simp only [Int32.add_assoc, z_alc, Int32.add_comm]
          exact (Int32.add_left_inj _).mp h4
        · rw [h2 j hj, pk_un]
          have : s ||| 2 ^ i ≠ s := by omega
          omega
        · obtain ⟨m, rfl⟩ : ∃ k, m = k + 1 := ⟨m - 1, by omega⟩
          have hix : (s ||| 2 ^ i) * 8 + i < 2048 := by omega
          rw [f_X0_lengthenChains_b68, if_neg (nI_ge hin (by omega)), if_neg hne]
          simp only [x_bit N (show i < 8 by omega), z_bs]
          rw [if_neg (fun e2 => by rw [(z_bitne (show i < 8 by omega)).mp e2] at hb0; cases hb0)]
          rw [fa_or, x_chainAt, z_bs, z_gxn hix (by decide), z_gxn hix (by decide), nI_clamp (show (s ||| 2 ^ i) * 8 + i < 2 ^ 31 by omega), f_X0_lengthenChains_b115, nI_1]
          exact h3 N m (by omega) (by omega) r
      · rw [Bool.not_eq_true] at hb
        obtain ⟨c5', h1, h2, k, h3⟩ := ih (i + 1) c5 (by omega)
        refine ⟨c5', fun X => ?_, h2, k + 1, fun N m hN hm r => ?_⟩
        · rw [← h1 X]
          have e1 : zout n rows X s e (i + 1) = zout n rows X s e i + (if (z_hi n s).testBit i = true ∧ (rows e).testBit i = true then X (s ||| 2 ^ i) i else 0) := rfl
          rw [if_neg (show ¬ ((z_hi n s).testBit i = true ∧ (rows e).testBit i = true) from fun h => by rw [Nat.testBit_and, h.1, h.2] at hb; cases hb), Int32.add_zero] at e1
          rw [e1]
        · obtain ⟨m, rfl⟩ : ∃ k, m = k + 1 := ⟨m - 1, by omega⟩
          rw [f_X0_lengthenChains_b68, if_neg (nI_ge hin (by omega)), if_neg hne]
          simp only [x_bit N (show i < 8 by omega), z_bs]
          rw [if_pos ((z_bitne (show i < 8 by omega)).mpr hb)]
          simp only [f_X0_lengthenChains_b115, nI_1]
          exact h3 N m (by omega) (by omega) r
theorem x_len_out {n s : Nat} {rows : Nat → Nat} {c4 : Nat → Int32} (hn : n ≤ 8) (hs : s < 2 ^ n) (hs0 : s ≠ 0) (hr : ∀ i, i < n → c4 i = nI (rows i)) : ∀ (d i : Nat) (acc : Int32) (c5 : Nat → Int32), i + d = n → ∃ (v : Int32) (c5' : Nat → Int32), v + zs i (fun e => if (rows e).testBit (z_lo s) = true then c5 (s * 8 + e) else 0) = acc + zs n (fun e => if (rows e).testBit (z_lo s) = true then c5 (s * 8 + e) else 0) ∧ (∀ X, zPhi n (s + 1) c5' X + zs i (fun e => c5 (s * 8 + e) * zout n rows X s e n) = zPhi n (s + 1) c5 X + zs n (fun e => c5 (s * 8 + e) * zout n rows X s e n)) ∧ Yl (fun N m => f_X0_lengthenChains_b23 N (nI n) c4 m (nI s) (nI (2 ^ z_lo s)) (nI (z_hi n s)) acc (nI i) c5) (v, c5') := by
  have hs8 : s < 256 := Nat.lt_of_lt_of_le hs (z_2p hn)
  have hlo := z_lo_lt s
  intro d
  induction d with
  | zero =>
    intro i acc c5 hid
    obtain rfl : i = n := by omega
    refine ⟨acc, c5, rfl, fun X => rfl, Yl.step ?_⟩
    simp only [f_X0_lengthenChains_b23, if_pos (nI_le (Nat.le_refl i) (show i < 2 ^ 31 by omega))]
    exact Yl.pure _
  | succ d ih =>
    intro i acc c5 hid
    have hin : i < n := by omega
    have hix : s * 8 + i < 2048 := by omega
    -- the inner loop: either the number is 0, and nobody follows, or it goes through them
    have inner : ∃ c5' : Nat → Int32, (∀ X, zPhi n (s + 1) c5' X = zPhi n (s + 1) c5 X + c5 (s * 8 + i) * zout n rows X s i n) ∧ (∀ j, j < n → c5' (s * 8 + j) = c5 (s * 8 + j)) ∧ ∃ k, ∀ N, k ≤ N → ∀ r, (if c5 (s * 8 + i) = 0 then f_X0_lengthenChains_b63 N (nI n) c4 r (nI s) (nI (2 ^ z_lo s)) (nI (z_hi n s)) acc (nI i) (c5 (s * 8 + i)) 0 c5 else f_X0_lengthenChains_b63 N (nI n) c4 r (nI s) (nI (2 ^ z_lo s)) (nI (z_hi n s)) acc (nI i) (c5 (s * 8 + i)) (nI (rows i &&& z_hi n s)) c5) = f_X0_lengthenChains_b121 N (nI n) c4 r (nI s) (nI (2 ^ z_lo s)) (nI (z_hi n s)) acc (nI i) (c5 (s * 8 + i)) c5' := by
      by_cases c0 : c5 (s * 8 + i) = 0
      · refine ⟨c5, fun X => by rw [c0, Int32.zero_mul, Int32.add_zero], fun _ _ => rfl, 1, fun N hN r => ?_⟩
        rw [if_pos c0, f_X0_lengthenChains_b63]
        obtain ⟨m, rfl⟩ : ∃ k, N = k + 1 := ⟨N - 1, by omega⟩
        rw [f_X0_lengthenChains_b68]
        by_cases c : nI n ≤ 0
        · rw [if_pos c]
        · rw [if_neg c, if_pos rfl]
      · obtain ⟨c5', h1, h2, k, h3⟩ := x_len_in (c4 := c4) (rows := rows) hn hs hs0 hin (nI (2 ^ z_lo s)) (nI (z_hi n s)) acc (c5 (s * 8 + i)) n 0 c5 (by omega)
        refine ⟨c5', fun X => ?_, h2, k, fun N hN r => ?_⟩
        · rw [← h1 X]
          show _ = _ + _ * (0 : Int32)
          rw [Int32.mul_zero, Int32.add_zero]
        · rw [if_neg c0, f_X0_lengthenChains_b63]
          exact h3 N N hN hN r
    obtain ⟨c1, a1, a2, k, a3⟩ := inner
    obtain ⟨v, c5', b1, b2, b3⟩ := ih (i + 1) (acc + (if (rows i).testBit (z_lo s) = true then c5 (s * 8 + i) else 0)) c1 (by omega)
    refine ⟨v, c5', ?_, fun X => ?_, Yl.step ?_⟩
    · rw [zs_congr (n := i + 1) (χ := fun e => if (rows e).testBit (z_lo s) = true then c5 (s * 8 + e) else 0) (fun e he => by rw [a2 e (by omega)]), zs_congr (n := n) (χ := fun e => if (rows e).testBit (z_lo s) = true then c5 (s * 8 + e) else 0) (fun e he => by rw [a2 e he])] at b1
      have e1 : zs (i + 1) (fun e => if (rows e).testBit (z_lo s) = true then c5 (s * 8 + e) else 0) = zs i (fun e => if (rows e).testBit (z_lo s) = true then c5 (s * 8 + e) else 0) + (if (rows i).testBit (z_lo s) = true then c5 (s * 8 + i) else 0) := rfl
      rw [e1, ← Int32.add_assoc] at b1
      have h4 : v + zs i (fun e => if (rows e).testBit (z_lo s) = true then c5 (s * 8 + e) else 0) + (if (rows i).testBit (z_lo s) = true then c5 (s * 8 + i) else 0) = (acc + zs n (fun e => if (rows e).testBit (z_lo s) = true then c5 (s * 8 + e) else 0)) + (if (rows i).testBit (z_lo s) = true then c5 (s * 8 + i) else 0) := by
        rw [b1]
        simp only [Int32.add_assoc, z_alc, Int32.add_comm]
      exact (Int32.add_left_inj _).mp h4
    · have b := b2 X
      rw [zs_congr (n := i + 1) (χ := fun e => c5 (s * 8 + e) * zout n rows X s e n) (fun e he => by rw [a2 e (by omega)]), zs_congr (n := n) (χ := fun e => c5 (s * 8 + e) * zout n rows X s e n) (fun e he => by rw [a2 e he]), a1 X] at b
      have e1 : zs (i + 1) (fun e => c5 (s * 8 + e) * zout n rows X s e n) = zs i (fun e => c5 (s * 8 + e) * zout n rows X s e n) + c5 (s * 8 + i) * zout n rows X s i n := rfl
      rw [e1, ← Int32.add_assoc] at b
      have h4 : zPhi n (s + 1) c5' X + zs i (fun e => c5 (s * 8 + e) * zout n rows X s e n) + c5 (s * 8 + i) * zout n rows X s i n = (zPhi n (s + 1) c5 X + zs n (fun e => c5 (s * 8 + e) * zout n rows X s e n)) + c5 (s * 8 + i) * zout n rows X s i n := by
        rw [b]
        simp only [Int32.add_assoc, z_alc, Int32.add_comm]
      exact (Int32.add_left_inj _).mp h4
    · simp only [f_X0_lengthenChains_b23, if_neg (nI_ge hin (show n < 2 ^ 31 by omega)), x_chainAt, z_bs, z_gxn hix (show 2048 < 2 ^ 31 by decide), nI_clamp (show s * 8 + i < 2 ^ 31 by omega), z_gxn (show i < 8 by omega) (show 8 < 2 ^ 31 by decide), nI_clamp (show i < 2 ^ 31 by omega), hr i hin, fa_and]
      refine Yl.eq (g' := fun N m => f_X0_lengthenChains_b121 N (nI n) c4 (f_X0_lengthenChains_b23 N (nI n) c4 m) (nI s) (nI (2 ^ z_lo s)) (nI (z_hi n s)) acc (nI i) (c5 (s * 8 + i)) c1) ⟨k, fun N m hN _ => a3 N hN _⟩ ?_
      simp only [f_X0_lengthenChains_b121, f_X0_lengthenChains_b141, z_gxn (show i < 8 by omega) (show 8 < 2 ^ 31 by decide), nI_clamp (show i < 2 ^ 31 by omega), hr i hin, nI_1]
      by_cases cb : (rows i).testBit (z_lo s) = true
      · rw [if_pos cb] at b3
        simp only [if_neg (show ¬ (nI (rows i) &&& nI (2 ^ z_lo s)) = 0 from fun e2 => by rw [(z_bitne hlo).mp e2] at cb; cases cb)]
        exact b3
      · rw [if_neg cb] at b3
        simp only [if_pos (show (nI (rows i) &&& nI (2 ^ z_lo s)) = 0 from (z_bitne hlo).mpr (by simpa using cb))]
        exact b3
/-- chains led on from s: what they come to, and how many close -/
theorem x_len {n s : Nat} {rows : Nat → Nat} {c4 : Nat → Int32} (hn : n ≤ 8) (hs : s < 2 ^ n) (hs0 : s ≠ 0) (hr : ∀ i, i < n → c4 i = nI (rows i)) (c5 : Nat → Int32) : ∃ c5' : Nat → Int32, (∀ X, zPhi n (s + 1) c5' X = zPhi n (s + 1) c5 X + zs n (fun e => c5 (s * 8 + e) * zout n rows X s e n)) ∧ Yd (fun N => f_X0_lengthenChains N (nI s) (nI n) c4 c5) (zs n (fun e => if (rows e).testBit (z_lo s) = true then c5 (s * 8 + e) else 0), c5') := by
  have hs8 : s < 256 := Nat.lt_of_lt_of_le hs (z_2p hn)
  obtain ⟨v, c5', h1, h2, h3⟩ := x_len_out hn hs hs0 hr n 0 0 c5 (by omega)
  have hv : v = zs n (fun e => if (rows e).testBit (z_lo s) = true then c5 (s * 8 + e) else 0) := by
    have e1 : v + (0 : Int32) = 0 + zs n (fun e => if (rows e).testBit (z_lo s) = true then c5 (s * 8 + e) else 0) := h1
    rwa [Int32.add_zero, Int32.zero_add] at e1
  refine ⟨c5', fun X => ?_, ?_⟩
  · have e1 : zPhi n (s + 1) c5' X + (0 : Int32) = _ := h2 X
    rwa [Int32.add_zero] at e1
  · rw [← hv]
    simp only [f_X0_lengthenChains, x_everyone _ hn, z_bs, z_low s hs8 hs0, z_hi_eq n (by omega) s hs8 hs0]
    exact h3.diag
/-- what a test function X with its shadow Y must keep, that its sum over chains is that over closed rounds -/
def zE (n L : Nat) (rows : Nat → Nat) (X : Nat → Nat → Int32) (Y : Nat → Int32) : Prop := ∀ s, s ≠ 0 → s < 2 ^ n → ∀ c, c < n → X s c = (if (rows c).testBit (z_lo s) = true ∧ L ≤ z_pc s then Y s else 0) + zout n rows X s c n
theorem x_close_loop {n L : Nat} {rows : Nat → Nat} {c4 : Nat → Int32} (h0 : 0 < n) (hn : n ≤ 8) (hL : L ≤ 8) (hr : ∀ i, i < n → c4 i = nI (rows i)) : ∀ (d s : Nat) (c5 c6 : Nat → Int32), s + d = 2 ^ n → 1 ≤ s → ∃ (c5' c6' : Nat → Int32), (∀ X Y, zE n L rows X Y → zPsi n (2 ^ n) c6' Y = zPhi n s c5 X + zPsi n s c6 Y) ∧ (∀ V, V < s → c6' V = c6 V) ∧ (∀ V, s ≤ V → V < 2 ^ n → z_pc V < L → c6' V = 0) ∧ Yl (fun N m => f_X0_closeRounds_b45 N (nI n) c4 m (nI L) (nI (2 ^ n - 1)) (nI s) c5 c6) (c5', c6') := by
  have hp := z_2p hn
  have hp0 := Nat.two_pow_pos n
  intro d
  induction d with
  | zero =>
    intro s c5 c6 hsd h1
    obtain rfl : s = 2 ^ n := by omega
    refine ⟨c5, c6, fun X Y _ => ?_, fun _ _ => rfl, fun V h2 h3 => by omega, Yl.step ?_⟩
    · rw [show zPhi n (2 ^ n) c5 X = 0 from zs_zero fun V hV => if_neg (by omega), Int32.zero_add]
    · simp only [f_X0_closeRounds_b45, if_pos (nI_lt (show 2 ^ n - 1 < 2 ^ n by omega) (show 2 ^ n < 2 ^ 31 by omega))]
      exact Yl.pure _
  | succ d ih =>
    intro s c5 c6 hsd h1
    have hs : s < 2 ^ n := by omega
    have hs0 : s ≠ 0 := by omega
    have hs8 : s < 256 := by omega
    obtain ⟨c51, a1, a2⟩ := x_len (c4 := c4) hn hs hs0 hr c5
    -- what closes
    have hv : ∃ v : Int32, v = (if L ≤ z_pc s then zs n (fun e => if (rows e).testBit (z_lo s) = true then c5 (s * 8 + e) else 0) else 0) := ⟨_, rfl⟩
    obtain ⟨v, hv⟩ := hv
    obtain ⟨c5', c6', b1, b2, b3, b4⟩ := ih (s + 1) c51 (upd c6 s v) (by omega) (by omega)
    refine ⟨c5', c6', fun X Y hE => ?_, fun V hV => ?_, fun V h2 h3 h4 => ?_, Yl.step ?_⟩
    · rw [b1 X Y hE, zPhi_step c5 X hs, zPsi_step c6 Y hs h1 v, a1 X]
      have e1 : zs n (fun c => c5 (s * 8 + c) * X s c) = v * Y s + zs n (fun e => c5 (s * 8 + e) * zout n rows X s e n) := by
        rw [zs_congr (χ := fun c => (if (rows c).testBit (z_lo s) = true then c5 (s * 8 + c) else 0) * (if L ≤ z_pc s then Y s else 0) + c5 (s * 8 + c) * zout n rows X s c n), zs_add, zs_mulR]
        · congr 1
          rw [hv]
          by_cases c : L ≤ z_pc s
          · rw [if_pos c, if_pos c]
          · rw [if_neg c, if_neg c, Int32.mul_zero, Int32.zero_mul]
        · intro c hc
          rw [hE s hs0 hs c hc, Int32.mul_add]
          congr 1
          by_cases c1 : (rows c).testBit (z_lo s) = true
          · rw [if_pos c1]
            by_cases c2 : L ≤ z_pc s
            · rw [if_pos c2, if_pos ⟨c1, c2⟩]
            · rw [if_neg c2, if_neg (fun h => c2 h.2)]
          · rw [if_neg c1, if_neg (fun h => c1 h.1), Int32.mul_zero, Int32.zero_mul]
      rw [e1]
      simp only [Int32.add_assoc, z_alc, Int32.add_comm]
    · rw [b2 V (by omega), pk_un (by omega)]
    · rcases Nat.eq_or_lt_of_le h2 with e | e
      · rw [← e] at h4 ⊢
        rw [b2 s (by omega), pk_us, hv, if_neg (by omega)]
      · exact b3 V e h3 h4
    · simp only [f_X0_closeRounds_b45, if_neg (nI_nlt (show s ≤ 2 ^ n - 1 by omega) (show 2 ^ n - 1 < 2 ^ 31 by omega))]
      refine Yl.bind a2 ?_
      simp only [z_bitCount, z_bc_pc s hs8, z_bs, f_X0_closeRounds_b76, z_gxn hs8 (show 256 < 2 ^ 31 by decide), nI_clamp (show s < 2 ^ 31 by omega), nI_1]
      have hpc : z_pc s < 9 := by
        have : ∀ s, s < 256 → z_pc s < 9 := by decide +kernel
        exact this s hs8
      by_cases c : L ≤ z_pc s
      · rw [if_pos c] at hv
        simp only [if_pos (nI_le c (show z_pc s < 2 ^ 31 by omega)), ← hv]
        exact b4
      · rw [if_neg c] at hv
        simp only [if_neg (nI_ge (show z_pc s < L by omega) (show L < 2 ^ 31 by omega))]
        rw [hv] at b4
        exact b4
theorem x_close_init {n : Nat} {c4 : Nat → Int32} (h0 : 0 < n) (hn : n ≤ 8) (L : Nat) (c6 : Nat → Int32) : ∀ (d i : Nat) (c5 : Nat → Int32), i + d = n → (∀ j, i ≤ j → j < n → c5 (2 ^ j * 8 + j) = 0) → ∃ c5' : Nat → Int32, (∀ X, zPhi n 1 c5' X + zs i (fun j => X (2 ^ j) j) = zPhi n 1 c5 X + zs n (fun j => X (2 ^ j) j)) ∧ ∀ r, Yl (fun N m => f_X0_closeRounds_b45 N (nI n) c4 m (nI L) (nI (2 ^ n - 1)) (nI 1) c5' c6) r → Yl (fun N m => f_X0_closeRounds_b15 N (nI n) c4 m (nI L) (nI (2 ^ n - 1)) (nI i) c5 c6) r := by
  intro d
  induction d with
  | zero =>
    intro i c5 hid _
    obtain rfl : i = n := by omega
    refine ⟨c5, fun X => rfl, fun r h => Yl.step ?_⟩
    simp only [f_X0_closeRounds_b15, if_pos (nI_le (Nat.le_refl i) (show i < 2 ^ 31 by omega))]
    exact h.diag.lift
  | succ d ih =>
    intro i c5 hid hz
    have hin : i < n := by omega
    have hi8 : i < 8 := by omega
    have h2 := z_2p8 hi8
    have hlt : 2 ^ i < 2 ^ n := Nat.pow_lt_pow_right (by decide) hin
    obtain ⟨c5', a1, a2⟩ := ih (i + 1) (upd c5 (2 ^ i * 8 + i) 1) (by omega) (fun j h3 h4 => by
      have h5 : 2 ^ i < 2 ^ j := Nat.pow_lt_pow_right (by decide) (show i < j by omega)
      rw [pk_un (show 2 ^ j * 8 + j ≠ 2 ^ i * 8 + i by omega)]
      exact hz j (by omega) h4)
    refine ⟨c5', fun X => ?_, fun r h => Yl.step ?_⟩
    · have b := a1 X
      have e0 : upd c5 (2 ^ i * 8 + i) 1 = upd c5 (2 ^ i * 8 + i) (c5 (2 ^ i * 8 + i) + 1) := by rw [hz i (Nat.le_refl i) hin, Int32.zero_add]
      rw [e0, zPhi_upd hn c5 X hlt (Nat.two_pow_pos i) hin 1, Int32.one_mul] at b
      have e1 : zs (i + 1) (fun j => X (2 ^ j) j) = zs i (fun j => X (2 ^ j) j) + X (2 ^ i) i := rfl
      rw [e1, ← Int32.add_assoc] at b
      have h4 : zPhi n 1 c5' X + zs i (fun j => X (2 ^ j) j) + X (2 ^ i) i = (zPhi n 1 c5 X + zs n (fun j => X (2 ^ j) j)) + X (2 ^ i) i := by
        rw [b]
        simp only [Int32.add_assoc, z_alc, Int32.add_comm]
      exact (Int32.add_left_inj _).mp h4
    · simp only [f_X0_closeRounds_b15, if_neg (nI_ge hin (show n < 2 ^ 31 by omega)), x_bit _ hi8, z_bs, x_chainAt, z_gxn (show 2 ^ i * 8 + i < 2048 by omega) (show 2048 < 2 ^ 31 by decide), nI_clamp (show 2 ^ i * 8 + i < 2 ^ 31 by omega), nI_1]
      exact a2 r h
/-- THE CLOSED ROUNDS: any sum over chains is the sum over them -/
theorem x_close {n L : Nat} {rows : Nat → Nat} {c4 : Nat → Int32} (h0 : 0 < n) (hn : n ≤ 8) (hL : L ≤ 8) (hr : ∀ i, i < n → c4 i = nI (rows i)) (c5 c6 : Nat → Int32) : ∃ (c5' c6' : Nat → Int32), (∀ X Y, zE n L rows X Y → zs (2 ^ n) (fun V => if 1 ≤ V then c6' V * Y V else 0) = zs n (fun j => X (2 ^ j) j)) ∧ (∀ V, 1 ≤ V → V < 2 ^ n → z_pc V < L → c6' V = 0) ∧ Yd (fun N => f_X0_closeRounds N (nI L) (nI n) c4 c5 c6) (c5', c6') := by
  have hp := z_2p hn
  have hp0 := Nat.two_pow_pos n
  obtain ⟨c51, a1, a2⟩ := x_close_init (c4 := c4) h0 hn L c6 n 0 (z_fl 2048 c5 0) (by omega) (fun j _ hj => by
    have := z_2p8 (show j < 8 by omega)
    exact if_pos (by omega))
  obtain ⟨c5', c6', b1, b2, b3, b4⟩ := x_close_loop (c4 := c4) h0 hn hL hr (2 ^ n - 1) 1 c51 c6 (by omega) (Nat.le_refl 1)
  refine ⟨c5', c6', fun X Y hE => ?_, b3, ?_⟩
  · have e1 := b1 X Y hE
    have e2 : zPsi n (2 ^ n) c6' Y = zs (2 ^ n) (fun V => if 1 ≤ V then c6' V * Y V else 0) := zs_congr fun V hV => by
      by_cases c : 1 ≤ V
      · rw [if_pos c, if_pos ⟨c, hV⟩]
      · rw [if_neg c, if_neg (fun h => c h.1)]
    have e3 : zPsi n 1 c6 Y = 0 := zs_zero fun V _ => if_neg (by omega)
    have e4 : zPhi n 1 (z_fl 2048 c5 0) X = 0 := zs_zero fun V hV => by
      by_cases c : 1 ≤ V
      · rw [if_pos c]
        exact zs_zero fun e he => by
          rw [show z_fl 2048 c5 0 (V * 8 + e) = 0 from if_pos (by omega), Int32.zero_mul]
      · rw [if_neg c]
    have e5 := a1 X
    rw [e4, Int32.zero_add, show zs 0 (fun j => X (2 ^ j) j) = 0 from rfl, Int32.add_zero] at e5
    rw [← e2, e1, e3, Int32.add_zero, e5]
  · simp only [f_X0_closeRounds, x_everyone _ hn, z_bs]
    exact (a2 _ b4).diag
