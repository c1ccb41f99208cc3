/-! masks, by trying all -/
def z_ck1 (U q : Nat) : Bool := (decide (U = 0) || decide (256 ≤ 2 ^ z_lo U + q)) || ((decide ((2 ^ z_lo U + q) &&& U = 2 ^ z_lo U + q) && (decide (z_lo (2 ^ z_lo U + q) = z_lo U) && decide (2 ^ z_lo U + q ≠ 2 ^ z_lo U))) == (decide (q ≠ 0) && decide (q &&& (U ^^^ 2 ^ z_lo U) = q)))
def z_ck2 (U q : Nat) : Bool := (decide (U = 0) || decide (256 ≤ 2 ^ z_lo U + q)) || (!(decide (q &&& (U ^^^ 2 ^ z_lo U) = q)) || (decide (2 ^ z_lo U + q = q ||| 2 ^ z_lo U) && decide (U ^^^ (2 ^ z_lo U + q) = (U ^^^ 2 ^ z_lo U) ^^^ q)))
theorem z_ck1_ok : ∀ U, U < 256 → ∀ q, q < 256 → z_ck1 U q = true := by decide +kernel
theorem z_ck2_ok : ∀ U, U < 256 → ∀ q, q < 256 → z_ck2 U q = true := by decide +kernel
def z_ck3 (U s : Nat) : Bool := decide (s = 0) || (!(decide (s &&& U = s)) || (decide (U ^^^ s < U) && ((!(decide (U % 2 = 0)) || decide ((U ^^^ s) % 2 = 0)) && (!(decide (z_lo s = 0)) || (!(decide (z_lo U = 0)) || decide ((U ^^^ s) % 2 = 0))))))
theorem z_ck3_ok : ∀ U, U < 256 → ∀ s, s < 256 → z_ck3 U s = true := by decide +kernel
theorem z_lo_or : ∀ V, V < 256 → V ≠ 0 → ∀ t, t < 8 → z_lo V < t → z_lo (V ||| 2 ^ t) = z_lo V := by decide +kernel
theorem z_lo_2p : ∀ i, i < 8 → z_lo (2 ^ i) = i := by decide +kernel
theorem z_pc_2p : ∀ i, i < 8 → z_pc (2 ^ i) = 1 := by decide +kernel
theorem z_sub_dec : ∀ p, p < 256 → ∀ q, q < p → q ≤ (p - 1) &&& (p ||| q) := by decide +kernel
theorem z_take_dec2 : ∀ U, U < 256 → U ≠ 0 → (U ^^^ 2 ^ z_lo U) + 2 ^ z_lo U = U := by decide +kernel
