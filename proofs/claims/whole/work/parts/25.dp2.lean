/-! the rounds taken out: the program's numbers are the sums along the rounds -/
theorem z_sub_iff {V U : Nat} : V &&& U = V ↔ ∀ i, V.testBit i = true → U.testBit i = true := by
  constructor
  · intro h i hi
    have := Nat.testBit_and V U i
    rw [h, hi] at this
    simpa using this.symm
  · intro h
    apply Nat.eq_of_testBit_eq
    intro i
    rw [Nat.testBit_and]
    rcases e : V.testBit i with _ | _
    · rfl
    · rw [h i e]; rfl
theorem z_or_sub {V U t : Nat} : (V ||| 2 ^ t) &&& U = V ||| 2 ^ t ↔ V &&& U = V ∧ U.testBit t = true := by
  rw [z_sub_iff, z_sub_iff]
  constructor
  · intro h
    refine ⟨fun i hi => h i (by rw [Nat.testBit_or, hi]; rfl), h t (by rw [Nat.testBit_or, Nat.testBit_two_pow_self]; simp)⟩
  · rintro ⟨h1, h2⟩ i hi
    rw [Nat.testBit_or, Nat.testBit_two_pow] at hi
    by_cases e : t = i
    · rw [← e]; exact h2
    · simp [e] at hi
      exact h1 i hi
theorem z_or_xor {V t : Nat} (h : V.testBit t = false) : V ||| 2 ^ t = V ^^^ 2 ^ t := by
  apply Nat.eq_of_testBit_eq
  intro i
  rw [Nat.testBit_or, Nat.testBit_xor, Nat.testBit_two_pow]
  by_cases e : t = i
  · subst e; simp [h]
  · simp [e]
theorem z_xor_sub {U V i : Nat} (h : V &&& U = V) : (U ^^^ V).testBit i = (U.testBit i && !(V.testBit i)) := by
  rw [Nat.testBit_xor]
  rcases e : V.testBit i with _ | _
  · simp
  · rw [z_sub_iff.mp h i e]; rfl
theorem z_sub_le {p q R : Nat} (hp : p < 256) (h1 : p &&& R = p) (h2 : q &&& R = q) (hq : q < p) : q ≤ (p - 1) &&& R := by
  have e : (p ||| q) &&& R = p ||| q := by rw [Nat.and_or_distrib_right, h1, h2]
  have e2 : (p - 1) &&& (p ||| q) = ((p - 1) &&& R) &&& (p ||| q) := by rw [← e, Nat.and_comm (p ||| q) R, ← Nat.and_assoc, ← Nat.and_assoc]; simp [Nat.and_assoc]
  exact Nat.le_trans (z_sub_dec p hp q hq) (by rw [e2]; exact Nat.and_le_left)
theorem z_take_dec {U : Nat} (hU : U < 256) (h0 : U ≠ 0) {q : Nat} (hq : q < 256) (h1 : 2 ^ z_lo U + q < 256) : (((2 ^ z_lo U + q) &&& U = 2 ^ z_lo U + q ∧ z_lo (2 ^ z_lo U + q) = z_lo U ∧ 2 ^ z_lo U + q ≠ 2 ^ z_lo U) ↔ (q ≠ 0 ∧ q &&& (U ^^^ 2 ^ z_lo U) = q)) ∧ (q &&& (U ^^^ 2 ^ z_lo U) = q → 2 ^ z_lo U + q = q ||| 2 ^ z_lo U ∧ U ^^^ (2 ^ z_lo U + q) = (U ^^^ 2 ^ z_lo U) ^^^ q) := by
  have a := z_ck1_ok U hU q hq
  have b := z_ck2_ok U hU q hq
  have n1 : decide (U = 0) = false := decide_eq_false h0
  have n2 : decide (256 ≤ 2 ^ z_lo U + q) = false := decide_eq_false (Nat.not_le.mpr h1)
  unfold z_ck1 at a
  unfold z_ck2 at b
  rw [n1, n2, Bool.false_or, Bool.false_or] at a b
  refine ⟨?_, fun hs => ?_⟩
  · have a2 := eq_of_beq a
    have a3 := congrArg (fun x => x = true) a2
    simp only [Bool.and_eq_true, decide_eq_true_eq] at a3
    rw [a3]
  · rw [decide_eq_true hs] at b
    simp only [Bool.not_true, Bool.false_or, Bool.and_eq_true, decide_eq_true_eq] at b
    exact b
theorem z_take_dec3 (U : Nat) (hU : U < 256) (s : Nat) (hs : s < 256) (h0 : s ≠ 0) (h1 : s &&& U = s) : U ^^^ s < U ∧ (U % 2 = 0 → (U ^^^ s) % 2 = 0) ∧ (z_lo s = 0 → z_lo U = 0 → (U ^^^ s) % 2 = 0) := by
  have a := z_ck3_ok U hU s hs
  unfold z_ck3 at a
  rw [decide_eq_false h0, decide_eq_true h1] at a
  simp only [Bool.not_true, Bool.false_or, Bool.and_eq_true, Bool.or_eq_true, Bool.not_eq_true', decide_eq_true_eq, decide_eq_false_iff_not] at a
  refine ⟨a.1, fun h => a.2.1.resolve_left (fun h2 => h2 h), fun h h2 => ?_⟩
  rcases a.2.2 with h3 | h3 | h3
  · exact absurd h h3
  · exact absurd h2 h3
  · exact h3
theorem x_take_loop (c6 c7 : Nat → Int32) {l R : Nat} (hl : l < 8) (hR : R < 256) : ∀ (p : Nat), p < 256 → p &&& R = p → ∀ acc : Int32, Yl (fun N m => f_X0_takeOutRound_b15 N c6 c7 m (nI (2 ^ l)) (nI R) acc (nI p)) (acc + zs (p + 1) (fun q => if q ≠ 0 ∧ q &&& R = q then c6 (q ||| 2 ^ l) * c7 (R ^^^ q) else 0)) := by
  have hl2 := z_2p8 hl
  intro p
  induction p using Nat.strongRecOn with
  | ind p ih =>
    intro hp hs acc
    refine Yl.step ?_
    rcases Nat.eq_zero_or_pos p with e | e
    · subst e
      have e0 : zs (0 + 1) (fun q => if q ≠ 0 ∧ q &&& R = q then c6 (q ||| 2 ^ l) * c7 (R ^^^ q) else 0) = 0 := zs_zero fun q hq => if_neg (by omega)
      rw [e0, Int32.add_zero]
      simp only [f_X0_takeOutRound_b15, if_pos (show nI 0 ≤ 0 by decide)]
      exact Yl.pure _
    · have hpi : p ||| 2 ^ l < 256 := z_or_lt hp hl2
      have hpx : R ^^^ p < 256 := z_xor_lt hR hp
      have hp' : (p - 1) &&& R < p := by
        have : (p - 1) &&& R ≤ p - 1 := Nat.and_le_left
        omega
      have hps : ((p - 1) &&& R) &&& R = (p - 1) &&& R := by rw [Nat.and_assoc, Nat.and_self]
      have e1 : zs (p + 1) (fun q => if q ≠ 0 ∧ q &&& R = q then c6 (q ||| 2 ^ l) * c7 (R ^^^ q) else 0) = c6 (p ||| 2 ^ l) * c7 (R ^^^ p) + zs (((p - 1) &&& R) + 1) (fun q => if q ≠ 0 ∧ q &&& R = q then c6 (q ||| 2 ^ l) * c7 (R ^^^ q) else 0) := by
        have e2 : zs (p + 1) (fun q => if q ≠ 0 ∧ q &&& R = q then c6 (q ||| 2 ^ l) * c7 (R ^^^ q) else 0) = zs p (fun q => if q ≠ 0 ∧ q &&& R = q then c6 (q ||| 2 ^ l) * c7 (R ^^^ q) else 0) + (if p ≠ 0 ∧ p &&& R = p then c6 (p ||| 2 ^ l) * c7 (R ^^^ p) else 0) := rfl
        rw [e2, if_pos ⟨by omega, hs⟩, Int32.add_comm]
        congr 1
        apply zs_trunc (by omega)
        intro q h1 h2
        rw [if_neg]
        rintro ⟨_, h3⟩
        have := z_sub_le hp hs h3 h2
        omega
      rw [e1, ← Int32.add_assoc]
      simp only [f_X0_takeOutRound_b15, if_neg (nI_nle e (show p < 2 ^ 31 by omega)), fa_or, nx_xor, z_gxn hpi (show 256 < 2 ^ 31 by decide), z_gxn hpx (show 256 < 2 ^ 31 by decide), nI_clamp (show p ||| 2 ^ l < 2 ^ 31 by omega), nI_clamp (show R ^^^ p < 2 ^ 31 by omega), show nI p - (1 : Int32) = nI (p - 1) from pk_sub (b := 1) e, fa_and]
      exact ih _ hp' (by omega) hps _
theorem x_take {U : Nat} (hU : U < 256) (hU0 : U ≠ 0) (c6 c7 : Nat → Int32) : Yd (fun N => f_X0_takeOutRound N (nI U) c6 c7) (zs 256 (fun s => if s &&& U = s ∧ z_lo s = z_lo U ∧ s ≠ 2 ^ z_lo U ∧ s ≠ 0 then c6 s * c7 (U ^^^ s) else 0)) := by
  have hl := z_lo_lt U
  have hl2 := z_2p8 hl
  have hR : U ^^^ 2 ^ z_lo U < 256 := z_xor_lt hU hl2
  have hRU := z_take_dec2 U hU hU0
  have h := x_take_loop c6 c7 hl hR (U ^^^ 2 ^ z_lo U) hR (Nat.and_self _) 0
  rw [Int32.zero_add] at h
  have e : zs 256 (fun s => if s &&& U = s ∧ z_lo s = z_lo U ∧ s ≠ 2 ^ z_lo U ∧ s ≠ 0 then c6 s * c7 (U ^^^ s) else 0) = zs ((U ^^^ 2 ^ z_lo U) + 1) (fun q => if q ≠ 0 ∧ q &&& (U ^^^ 2 ^ z_lo U) = q then c6 (q ||| 2 ^ z_lo U) * c7 ((U ^^^ 2 ^ z_lo U) ^^^ q) else 0) := by
    obtain ⟨m, hm⟩ : ∃ m, 256 = 2 ^ z_lo U + m := ⟨256 - 2 ^ z_lo U, by omega⟩
    rw [hm, zs_shift, zs_zero (n := 2 ^ z_lo U), Int32.zero_add]
    · rw [zs_congr (χ := fun q => if q ≠ 0 ∧ q &&& (U ^^^ 2 ^ z_lo U) = q then c6 (q ||| 2 ^ z_lo U) * c7 ((U ^^^ 2 ^ z_lo U) ^^^ q) else 0)]
      · apply zs_trunc (by omega)
        intro q h1 _
        rw [if_neg]
        rintro ⟨_, h3⟩
        have : q &&& (U ^^^ 2 ^ z_lo U) ≤ U ^^^ 2 ^ z_lo U := Nat.and_le_right
        omega
      · intro q hq
        obtain ⟨d1, d2⟩ := z_take_dec hU hU0 (show q < 256 from Nat.lt_of_lt_of_le hq (show m ≤ 256 by rw [hm]; exact Nat.le_add_left _ _)) (show 2 ^ z_lo U + q < 256 by rw [hm]; exact Nat.add_lt_add_left hq _)
        by_cases c : q ≠ 0 ∧ q &&& (U ^^^ 2 ^ z_lo U) = q
        · obtain ⟨e1, e2⟩ := d2 c.2
          obtain ⟨f1, f2, f3⟩ := d1.mpr c
          rw [if_pos c, if_pos ⟨f1, f2, f3, Nat.ne_of_gt (Nat.add_pos_left (Nat.two_pow_pos _) q)⟩, e2, e1]
        · rw [if_neg c, if_neg (fun h => c (d1.mp ⟨h.1, h.2.1, h.2.2.1⟩))]
    · intro s hs
      rw [if_neg]
      rintro ⟨_, h2, _, h4⟩
      have := z_lo_in s (by omega) h4
      rw [h2] at this
      rw [Nat.testBit_lt_two_pow hs] at this
      cases this
  rw [e]
  simp only [f_X0_takeOutRound, z_low U hU hU0, nx_xor]
  exact h.diag
/-- the sum along the rounds, by the first round taken out -/
theorem zF_eq {n L : Nat} {rows : Nat → Nat} (hn : n ≤ 8) {c6 : Nat → Int32} (hc : ∀ X Y, zE n L rows X Y → zs (2 ^ n) (fun V => if 1 ≤ V then c6 V * Y V else 0) = zs n (fun j => X (2 ^ j) j)) (w : Nat → Int32) {U : Nat} (hU : U < 2 ^ n) (hU0 : U ≠ 0) : zF n L rows w U = zs (2 ^ n) (fun s => if s ≠ 0 ∧ s &&& U = s ∧ z_lo s = z_lo U then c6 s * zF n L rows (fun i => w (i + 1)) (U ^^^ s) else 0) := by
  have hp := z_2p hn
  have hU8 : U < 256 := by omega
  have hloU := z_lo_in U hU8 hU0
  have hlo8 := z_lo_lt U
  have hlon : z_lo U < n := z_bit_lt hU hloU
  have hE : zE n L rows (fun V c => if V &&& U = V ∧ z_lo V = z_lo U ∧ V ≠ 0 then zG n L rows (z_pc (U ^^^ V) + 1) w (U ^^^ V) (z_lo U) c (z_pc V) else 0) (fun V => if V &&& U = V ∧ z_lo V = z_lo U then zF n L rows (fun i => w (i + 1)) (U ^^^ V) else 0) := by
    intro V hV0 hV c hc
    have hV8 : V < 256 := by omega
    dsimp only [zout]
    by_cases cc : V &&& U = V ∧ z_lo V = z_lo U
    · rw [if_pos ⟨cc.1, cc.2, hV0⟩, if_pos cc, zG]
      have hx8 : U ^^^ V < 256 := z_xor_lt hU8 hV8
      congr 1
      · rw [cc.2]
        by_cases c1 : (rows c).testBit (z_lo U) = true ∧ L ≤ z_pc V
        · rw [if_pos c1, if_pos c1, zF]
          by_cases c2 : U ^^^ V = 0
          · rw [if_pos c2, if_pos c2]
          · rw [if_neg c2, if_neg c2, z_pc_xor _ hx8 _ (z_lo_lt _) (z_lo_in _ hx8 c2)]
        · rw [if_neg c1, if_neg c1]
      · apply zs_congr
        intro t ht
        have hhi := z_hi_bit n (by omega) V hV8 hV0 t (by omega)
        by_cases c1 : (U ^^^ V).testBit t = true ∧ (rows c).testBit t = true
        · have c1a := c1.1
          rw [z_xor_sub cc.1, Bool.and_eq_true] at c1a
          have hVt : V.testBit t = false := by simpa using c1a.2
          have hlt : z_lo V < t := by
            rcases Nat.lt_trichotomy (z_lo V) t with h | h | h
            · exact h
            · have := z_lo_in V hV8 hV0
              rw [h, hVt] at this; cases this
            · have := z_lo_min U hU8 t (by rw [← cc.2]; exact h)
              rw [this] at c1a; cases c1a.1
          have hin : (z_hi n V).testBit t = true := by rw [hhi, hVt]; simp [ht, hlt]
          have hsub : (V ||| 2 ^ t) &&& U = V ||| 2 ^ t := z_or_sub.mpr ⟨cc.1, c1a.1⟩
          have hx : U ^^^ (V ||| 2 ^ t) = (U ^^^ V) ^^^ 2 ^ t := by rw [z_or_xor hVt, Nat.xor_assoc]
          have hpc := z_pc_xor (U ^^^ V) hx8 t (by omega) c1.1
          rw [if_pos c1, if_pos ⟨hin, c1.2⟩, if_pos ⟨hsub, by rw [z_lo_or V hV8 hV0 t (by omega) hlt]; exact cc.2, fun e => by
            have := z_sub_iff.mp hsub
            have h2 := Nat.testBit_or V (2 ^ t) t
            rw [e, Nat.testBit_two_pow_self] at h2
            simp at h2⟩, hx, hpc, z_pc_or V hV8 t (by omega) hVt]
        · rw [if_neg c1]
          by_cases c2 : (z_hi n V).testBit t = true ∧ (rows c).testBit t = true
          · rw [if_pos c2, if_neg]
            rintro ⟨h1, _, _⟩
            obtain ⟨_, h2⟩ := z_or_sub.mp h1
            apply c1
            refine ⟨?_, c2.2⟩
            rw [z_xor_sub cc.1, h2]
            have h3 := c2.1
            rw [hhi] at h3
            rcases h4 : V.testBit t with _ | _
            · rfl
            · rw [h4] at h3; simp at h3
          · rw [if_neg c2]
    · rw [if_neg (fun h => cc ⟨h.1, h.2.1⟩), if_neg cc]
      have z1 : (if (rows c).testBit (z_lo V) = true ∧ L ≤ z_pc V then (0 : Int32) else 0) = 0 := by
        by_cases c1 : (rows c).testBit (z_lo V) = true ∧ L ≤ z_pc V
        · rw [if_pos c1]
        · rw [if_neg c1]
      rw [z1, Int32.zero_add]
      symm
      apply zs_zero
      intro t ht
      by_cases c2 : (z_hi n V).testBit t = true ∧ (rows c).testBit t = true
      · rw [if_pos c2, if_neg]
        rintro ⟨h1, h2, _⟩
        have h3 := c2.1
        rw [z_hi_bit n (by omega) V hV8 hV0 t (by omega)] at h3
        have hlt : z_lo V < t := by simp at h3; exact h3.2
        rw [z_lo_or V hV8 hV0 t (by omega) hlt] at h2
        exact cc ⟨(z_or_sub.mp h1).1, h2⟩
      · rw [if_neg c2]
  have key := hc _ _ hE
  have e1 : zs n (fun j => (fun V c => if V &&& U = V ∧ z_lo V = z_lo U ∧ V ≠ 0 then zG n L rows (z_pc (U ^^^ V) + 1) w (U ^^^ V) (z_lo U) c (z_pc V) else 0) (2 ^ j) j) = zF n L rows w U := by
    rw [zs_single (z_lo U) hlon]
    · show (if _ then _ else (0 : Int32)) = _
      rw [if_pos ⟨z_sub_iff.mpr fun i hi => by
        rw [Nat.testBit_two_pow] at hi
        have : z_lo U = i := by simpa using hi
        rw [← this]; exact hloU, z_lo_2p _ hlo8, by have := Nat.two_pow_pos (z_lo U); omega⟩, z_pc_2p _ hlo8, zF, if_neg hU0]
    · intro i hi hne
      show (if _ then _ else (0 : Int32)) = 0
      rw [if_neg]
      rintro ⟨_, h2, _⟩
      rw [z_lo_2p i (by omega)] at h2
      exact hne h2
  rw [← e1, ← key]
  apply zs_congr
  intro s _
  by_cases c : s ≠ 0 ∧ s &&& U = s ∧ z_lo s = z_lo U
  · rw [if_pos (show 1 ≤ s by omega), if_pos c, if_pos c.2]
  · rw [if_neg c]
    by_cases c1 : 1 ≤ s
    · rw [if_pos c1, if_neg (fun h => c ⟨by omega, h⟩), Int32.mul_zero]
    · rw [if_neg c1]
/-- what takeOutRound answers where the lesser splits are known -/
theorem x_take_F {n L : Nat} {rows : Nat → Nat} (hn : n ≤ 8) (hL : 2 ≤ L) {c6 : Nat → Int32} (hc : ∀ X Y, zE n L rows X Y → zs (2 ^ n) (fun V => if 1 ≤ V then c6 V * Y V else 0) = zs n (fun j => X (2 ^ j) j)) (hz : ∀ V, 1 ≤ V → V < 2 ^ n → z_pc V < L → c6 V = 0) (w : Nat → Int32) {U : Nat} (hU : U < 2 ^ n) (hU0 : U ≠ 0) {c7 : Nat → Int32} (h7 : ∀ s, s ≠ 0 → s &&& U = s → z_lo s = z_lo U → c7 (U ^^^ s) = zF n L rows (fun i => w (i + 1)) (U ^^^ s)) : Yd (fun N => f_X0_takeOutRound N (nI U) c6 c7) (zF n L rows w U) := by
  have hp := z_2p hn
  have h := x_take (show U < 256 by omega) hU0 c6 c7
  have e : zs 256 (fun s => if s &&& U = s ∧ z_lo s = z_lo U ∧ s ≠ 2 ^ z_lo U ∧ s ≠ 0 then c6 s * c7 (U ^^^ s) else 0) = zF n L rows w U := by
    rw [zF_eq hn hc w hU hU0, zs_trunc hp]
    · apply zs_congr
      intro s hs
      by_cases c : s ≠ 0 ∧ s &&& U = s ∧ z_lo s = z_lo U
      · rw [if_pos c]
        by_cases c1 : s = 2 ^ z_lo U
        · rw [if_neg (fun h => h.2.2.1 c1), hz s (by omega) hs, Int32.zero_mul]
          rw [c1, z_pc_2p _ (z_lo_lt U)]
          omega
        · rw [if_pos ⟨c.2.1, c.2.2, c1, c.1⟩, h7 s c.1 c.2.1 c.2.2]
      · rw [if_neg c, if_neg (fun h => c ⟨h.2.2.2, h.1, h.2.1⟩)]
    · intro q h1 _
      rw [if_neg]
      rintro ⟨h2, _⟩
      have : q &&& U ≤ U := Nat.and_le_right
      omega
  rw [e] at h
  exact h
theorem x_cw_loop {n L : Nat} {rows : Nat → Nat} (h0 : 0 < n) (hn : n ≤ 8) (hL : 2 ≤ L) {c6 : Nat → Int32} (hc : ∀ X Y, zE n L rows X Y → zs (2 ^ n) (fun V => if 1 ≤ V then c6 V * Y V else 0) = zs n (fun j => X (2 ^ j) j)) (hz : ∀ V, 1 ≤ V → V < 2 ^ n → z_pc V < L → c6 V = 0) (c4 c5 : Nat → Int32) : ∀ (d s : Nat) (c7 : Nat → Int32), s + d = 2 ^ n → 1 ≤ s → (∀ V, V < s → (V % 2 = 0 ∨ V = 2 ^ n - 1) → c7 V = zF n L rows (fun _ => 1) V) → ∃ c7' : Nat → Int32, Yl (fun N m => f_X0_countWays_b19 N (nI n) c4 m (nI (2 ^ n - 1)) (nI s) c5 c6 c7) (zF n L rows (fun _ => 1) (2 ^ n - 1), c5, c6, c7') := by
  have hp := z_2p hn
  have hp0 := Nat.two_pow_pos n
  intro d
  induction d with
  | zero =>
    intro s c7 hsd h1 h7
    obtain rfl : s = 2 ^ n := by omega
    refine ⟨c7, Yl.step ?_⟩
    simp only [f_X0_countWays_b19, if_pos (nI_lt (show 2 ^ n - 1 < 2 ^ n by omega) (show 2 ^ n < 2 ^ 31 by omega)), z_gxn (show 2 ^ n - 1 < 256 by omega) (show 256 < 2 ^ 31 by decide), nI_clamp (show 2 ^ n - 1 < 2 ^ 31 by omega), h7 (2 ^ n - 1) (by omega) (Or.inr rfl)]
    exact Yl.pure _
  | succ d ih =>
    intro s c7 hsd h1 h7
    have hs : s < 2 ^ n := by omega
    have hmod : (nI s &&& (1 : Int32)) = nI (s % 2) := by rw [show (1 : Int32) = nI 1 from rfl, fa_and, Nat.and_one_is_mod]
    by_cases cs : s % 2 = 0 ∨ s = 2 ^ n - 1
    · have ht := x_take_F hn hL hc hz (fun _ => 1) hs (show s ≠ 0 by omega) (c7 := c7) (fun s' h2 h3 h4 => by
        have hs' : s' < 256 := by
          have : s' &&& s ≤ s := Nat.and_le_right
          omega
        obtain ⟨d1, d2, d3⟩ := z_take_dec3 s (by omega) s' hs' h2 h3
        apply h7 _ d1
        left
        rcases Nat.mod_two_eq_zero_or_one s with e | e
        · exact d2 e
        · have hlo : z_lo s = 0 := by
            have hall : ∀ n, n < 9 → 0 < n → z_lo (2 ^ n - 1) = 0 := by decide +kernel
            rw [cs.resolve_left (by omega)]
            exact hall n (by omega) h0
          exact d3 (by rw [h4]; exact hlo) hlo)
      obtain ⟨c7', hy⟩ := ih (s + 1) (upd c7 s (zF n L rows (fun _ => 1) s)) (by omega) (by omega) (fun V hV hVe => by
        by_cases e : V = s
        · rw [e, pk_us]
        · rw [pk_un e]
          exact h7 V (by omega) hVe)
      refine ⟨c7', Yl.step ?_⟩
      have hgo : Yl (fun N m => f_X0_countWays_b35 N (nI n) c4 (f_X0_countWays_b19 N (nI n) c4 m) (nI (2 ^ n - 1)) (nI s) c5 c6 c7) (zF n L rows (fun _ => 1) (2 ^ n - 1), c5, c6, c7') := by
        simp only [f_X0_countWays_b35]
        refine Yl.bind ht ?_
        simp only [f_X0_countWays_b46, z_gxn (show s < 256 by omega) (show 256 < 2 ^ 31 by decide), nI_clamp (show s < 2 ^ 31 by omega), nI_1]
        exact hy
      simp only [f_X0_countWays_b19, if_neg (nI_nlt (show s ≤ 2 ^ n - 1 by omega) (show 2 ^ n - 1 < 2 ^ 31 by omega)), hmod]
      by_cases c1 : s % 2 = 0
      · simp only [c1, if_pos nI_0]
        exact hgo
      · simp only [if_neg (show ¬ nI (s % 2) = 0 from nI_ne0 (by omega) (by omega)), if_pos (congrArg nI (cs.resolve_left c1))]
        exact hgo
    · obtain ⟨c7', hy⟩ := ih (s + 1) c7 (by omega) (by omega) (fun V hV hVe => by
        by_cases e : V = s
        · subst e; exact absurd hVe cs
        · exact h7 V (by omega) hVe)
      refine ⟨c7', Yl.step ?_⟩
      simp only [f_X0_countWays_b19, if_neg (nI_nlt (show s ≤ 2 ^ n - 1 by omega) (show 2 ^ n - 1 < 2 ^ 31 by omega)), hmod, if_neg (show ¬ nI (s % 2) = 0 from nI_ne0 (by omega) (by omega)), if_neg (show ¬ nI s = nI (2 ^ n - 1) from fun e => cs (Or.inr ((nI_eq (by omega) (by omega)).mp e))), f_X0_countWays_b46, nI_1]
      exact hy
/-- COUNTWAYS answers the sum along the rounds -/
theorem x_countWays {n L : Nat} {rows : Nat → Nat} {c4 : Nat → Int32} (h0 : 0 < n) (hn : n ≤ 8) (hL : 2 ≤ L) (hL8 : L ≤ 8) (hr : ∀ i, i < n → c4 i = nI (rows i)) (c5 c6 c7 : Nat → Int32) : ∃ (c5' c6' c7' : Nat → Int32), Yd (fun N => f_X0_countWays N (nI L) (nI n) c4 c5 c6 c7) (zF n L rows (fun _ => 1) (2 ^ n - 1), c5', c6', c7') := by
  obtain ⟨c5', c6', a1, a2, a3⟩ := x_close h0 hn hL8 hr c5 c6
  obtain ⟨c7', b⟩ := x_cw_loop h0 hn hL a1 a2 c4 c5' (2 ^ n - 1) 1 (upd c7 0 1) (by have := Nat.two_pow_pos n; omega) (Nat.le_refl 1) (fun V hV _ => by
    obtain rfl : V = 0 := by omega
    rw [pk_us, zF, if_pos rfl])
  refine ⟨c5', c6', c7', ?_⟩
  simp only [f_X0_countWays]
  refine Yd.bind a3 ?_
  simp only [x_everyone _ hn, z_bs, z_gx_in (show vp_in 0 256 from vp_in_nI (n := 0) (by decide) (by decide)), sb_cl0]
  exact b.diag
/-! so many rounds -/
def zwr (r : Nat) : Nat → Int32 := fun k => if k = r then 1 else 0
theorem zwr_succ (r : Nat) : (fun i => zwr (r + 1) (i + 1)) = zwr r := by
  funext i
  unfold zwr
  by_cases c : i = r
  · rw [if_pos c, if_pos (by omega)]
  · rw [if_neg c, if_neg (by omega)]
theorem zG_zero (n L : Nat) (rows : Nat → Nat) : ∀ (k R a c len : Nat), zG n L rows k (fun _ => 0) R a c len = 0 := by
  intro k
  induction k with
  | zero => intro R a c len; rfl
  | succ k ih =>
    intro R a c len
    rw [zG, zs_zero (fun t _ => by
      by_cases h : R.testBit t = true ∧ (rows c).testBit t = true
      · rw [if_pos h, ih]
      · rw [if_neg h]), Int32.add_zero]
    by_cases h : (rows c).testBit a = true ∧ L ≤ len
    · rw [if_pos h]
      by_cases r : R = 0
      · rw [if_pos r]
      · rw [if_neg r, ih]
    · rw [if_neg h]
theorem zF_zero (n L : Nat) (rows : Nat → Nat) (U : Nat) : zF n L rows (fun _ => 0) U = 0 := by
  rw [zF]
  by_cases h : U = 0
  · rw [if_pos h]
  · rw [if_neg h, zG_zero]
theorem x_cs_in {n L : Nat} {rows : Nat → Nat} (hn : n ≤ 8) (hL : 2 ≤ L) {c6 : Nat → Int32} (hc : ∀ X Y, zE n L rows X Y → zs (2 ^ n) (fun V => if 1 ≤ V then c6 V * Y V else 0) = zs n (fun j => X (2 ^ j) j)) (hz : ∀ V, 1 ≤ V → V < 2 ^ n → z_pc V < L → c6 V = 0) (r : Nat) (x1 x2 x3 : Int32) : ∀ (p : Nat) (c7 : Nat → Int32), p < 2 ^ n → (∀ V, V ≤ p → c7 V = zF n L rows (zwr r) V) → (∀ V, p < V → V < 2 ^ n → c7 V = zF n L rows (zwr (r + 1)) V) → ∃ c7' : Nat → Int32, (∀ V, V < 2 ^ n → c7' V = zF n L rows (zwr (r + 1)) V) ∧ ∃ k, ∀ N m, k ≤ N → k ≤ m → ∀ rr, f_X0_countSplits_b30 N (nI n) c6 rr m x1 x2 x3 (nI p) c7 = rr x1 x2 (x3 + (1 : Int32)) c7' := by
  have hp := z_2p hn
  intro p
  induction p with
  | zero =>
    intro c7 h1 h2 h3
    refine ⟨upd c7 0 0, fun V hV => ?_, 1, fun N m _ hm rr => ?_⟩
    · by_cases e : V = 0
      · rw [e, pk_us, zF, if_pos rfl]
        exact (if_neg (by omega)).symm
      · rw [pk_un e]
        exact h3 V (by omega) hV
    · obtain ⟨m, rfl⟩ : ∃ k, m = k + 1 := ⟨m - 1, by omega⟩
      rw [f_X0_countSplits_b30, if_pos (show nI 0 ≤ 0 by decide), z_gx_in (show vp_in 0 256 from vp_in_nI (n := 0) (by decide) (by decide)), sb_cl0]
  | succ p ih =>
    intro c7 h1 h2 h3
    have ht := x_take_F hn hL hc hz (zwr (r + 1)) h1 (show p + 1 ≠ 0 by omega) (c7 := c7) (fun s' h4 h5 h6 => by
      have hs' : s' < 256 := by
        have : s' &&& (p + 1) ≤ p + 1 := Nat.and_le_right
        omega
      rw [zwr_succ, h2 _ (Nat.le_of_lt (z_take_dec3 (p + 1) (by omega) s' hs' h4 h5).1)])
    obtain ⟨c7', a1, k, a2⟩ := ih (upd c7 (p + 1) (zF n L rows (zwr (r + 1)) (p + 1))) (by omega) (fun V hV => by rw [pk_un (by omega)]; exact h2 V (by omega)) (fun V hV hV2 => by
      by_cases e : V = p + 1
      · rw [e, pk_us]
      · rw [pk_un e]
        exact h3 V (by omega) hV2)
    obtain ⟨k2, ht⟩ := ht
    refine ⟨c7', a1, max k k2 + 1, fun N m hN hm rr => ?_⟩
    obtain ⟨m, rfl⟩ : ∃ k, m = k + 1 := ⟨m - 1, by omega⟩
    rw [f_X0_countSplits_b30, if_neg (nI_nle (by omega) (by omega)), show f_X0_takeOutRound N (nI (p + 1)) c6 c7 = _ from ht N (by omega)]
    simp only [z_bs, z_gxn (show p + 1 < 256 by omega) (show 256 < 2 ^ 31 by decide), nI_clamp (show p + 1 < 2 ^ 31 by omega), pk_m1]
    exact a2 N m (by omega) (by omega) rr
theorem x_cs_out {n L : Nat} {rows : Nat → Nat} (hn : n ≤ 8) (hL : 2 ≤ L) {c6 : Nat → Int32} (hc : ∀ X Y, zE n L rows X Y → zs (2 ^ n) (fun V => if 1 ≤ V then c6 V * Y V else 0) = zs n (fun j => X (2 ^ j) j)) (hz : ∀ V, 1 ≤ V → V < 2 ^ n → z_pc V < L → c6 V = 0) {q : Nat} (hq : q < 2 ^ 31) : ∀ (d r : Nat) (c7 : Nat → Int32), r + d = q → (∀ V, V < 2 ^ n → c7 V = zF n L rows (zwr r) V) → ∃ c7' : Nat → Int32, Yl (fun N m => f_X0_countSplits_b22 N (nI n) c6 m (nI q) (nI (2 ^ n - 1)) (nI r) c7) (zF n L rows (zwr q) (2 ^ n - 1), c7') := by
  have hp := z_2p hn
  have hp0 := Nat.two_pow_pos n
  intro d
  induction d with
  | zero =>
    intro r c7 hrd h7
    obtain rfl : r = q := by omega
    refine ⟨c7, Yl.step ?_⟩
    simp only [f_X0_countSplits_b22, if_pos (nI_le (Nat.le_refl r) hq), z_gxn (show 2 ^ n - 1 < 256 by omega) (show 256 < 2 ^ 31 by decide), nI_clamp (show 2 ^ n - 1 < 2 ^ 31 by omega), h7 (2 ^ n - 1) (by omega)]
    exact Yl.pure _
  | succ d ih =>
    intro r c7 hrd h7
    obtain ⟨c71, a1, k, a2⟩ := x_cs_in hn hL hc hz r (nI q) (nI (2 ^ n - 1)) (nI r) (2 ^ n - 1) c7 (by omega) (fun V hV => h7 V (by omega)) (fun V h1 h2 => by omega)
    obtain ⟨c7', b⟩ := ih (r + 1) c71 (by omega) a1
    refine ⟨c7', Yl.step ?_⟩
    simp only [f_X0_countSplits_b22, if_neg (nI_ge (show r < q by omega) hq)]
    refine Yl.eq (g' := fun N m => f_X0_countSplits_b22 N (nI n) c6 m (nI q) (nI (2 ^ n - 1)) (nI r + (1 : Int32)) c71) ⟨k, fun N m hN _ => a2 N N hN hN _⟩ ?_
    simp only [nI_1]
    exact b
theorem x_countSplits {n L : Nat} {rows : Nat → Nat} (hn : n ≤ 8) (hL : 2 ≤ L) {c6 : Nat → Int32} (hc : ∀ X Y, zE n L rows X Y → zs (2 ^ n) (fun V => if 1 ≤ V then c6 V * Y V else 0) = zs n (fun j => X (2 ^ j) j)) (hz : ∀ V, 1 ≤ V → V < 2 ^ n → z_pc V < L → c6 V = 0) {q : Nat} (hq : q < 2 ^ 31) (c7 : Nat → Int32) : ∃ c7' : Nat → Int32, Yd (fun N => f_X0_countSplits N (nI q) (nI n) c6 c7) (zF n L rows (zwr q) (2 ^ n - 1), c7') := by
  have hp := z_2p hn
  obtain ⟨c7', b⟩ := x_cs_out hn hL hc hz hq q 0 (upd (z_fl 256 c7 0) 0 1) (by omega) (fun V hV => by
    by_cases e : V = 0
    · rw [e, pk_us, zF, if_pos rfl]
      rfl
    · rw [pk_un e, show z_fl 256 c7 0 V = 0 from if_pos (by omega), zF_eq hn hc (zwr 0) hV e]
      symm
      apply zs_zero
      intro s _
      rw [show (fun i => zwr 0 (i + 1)) = (fun _ => (0 : Int32)) from funext fun i => if_neg (by omega), zF_zero, Int32.mul_zero]
      by_cases h : s ≠ 0 ∧ s &&& V = s ∧ z_lo s = z_lo V
      · rw [if_pos h]
      · rw [if_neg h])
  refine ⟨c7', ?_⟩
  simp only [f_X0_countSplits, x_everyone _ hn, z_bs, z_gx_in (show vp_in 0 256 from vp_in_nI (n := 0) (by decide) (by decide)), sb_cl0]
  exact b.diag
