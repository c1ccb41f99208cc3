/-! rooks and the heap: both sides -/
def zbb (n : Nat) (b : Nat → Nat) (g : Nat) : Nat := (2 ^ n - 1) &&& (255 ^^^ b g)
def zP (n : Nat) (b : Nat → Nat) : Nat → Nat → Int32
  | 0, s => if s = 0 then 1 else 0
  | g + 1, s => zP n b g s + zs n (fun y => if (s &&& zbb n b g).testBit y = true then zP n b g (s &&& (255 ^^^ 2 ^ y)) else 0)
theorem zbb_lt {n : Nat} (hn : n ≤ 8) (b : Nat → Nat) (g : Nat) : zbb n b g < 2 ^ n := Nat.lt_of_le_of_lt Nat.and_le_left (by have := Nat.two_pow_pos n; omega)
theorem zP_0 (n : Nat) (b : Nat → Nat) : ∀ g, zP n b g 0 = 1 := by
  intro g
  induction g with
  | zero => rfl
  | succ g ih =>
    rw [zP, ih, zs_zero]
    · rfl
    · intro y _
      rw [if_neg (by rw [Nat.zero_and, Nat.zero_testBit]; decide)]
theorem z_bit_of_and {s t y : Nat} (h : (s &&& t).testBit y = true) : s.testBit y = true := z_and_sub h
theorem x_swo {n s : Nat} {r : Nat} {c7 : Nat → Int32} {P : Nat → Int32} (hn : n ≤ 8) (hs : s < 2 ^ n) (hP : ∀ V, V < s → c7 V = P V) : Yd (fun N => f_X0_sumWithoutOne N (nI s) (nI (s &&& r)) (nI n) c7) (zs n (fun y => if (s &&& r).testBit y = true then P (s &&& (255 ^^^ 2 ^ y)) else 0)) := by
  have h2n := z_2p hn
  have loop : ∀ (d k : Nat), k + d = n → Yl (fun N q => f_X0_sumWithoutOne_b5 N (nI n) c7 q (nI s) (nI (s &&& r)) (zs k (fun y => if (s &&& r).testBit y = true then P (s &&& (255 ^^^ 2 ^ y)) else 0)) (nI k)) (zs n (fun y => if (s &&& r).testBit y = true then P (s &&& (255 ^^^ 2 ^ y)) else 0)) := by
    intro d
    induction d with
    | zero =>
      intro k hk
      obtain rfl : k = n := by omega
      refine Yl.step ?_
      simp only [f_X0_sumWithoutOne_b5, if_pos (nI_le (Nat.le_refl k) (show k < 2 ^ 31 by omega))]
      exact Yl.pure _
    | succ d ih =>
      intro k hk
      have hkn : k < n := by omega
      have hk8 : k < 8 := by omega
      have hr := ih (k + 1) (by omega)
      have e : zs (k + 1) (fun y => if (s &&& r).testBit y = true then P (s &&& (255 ^^^ 2 ^ y)) else 0) = zs k (fun y => if (s &&& r).testBit y = true then P (s &&& (255 ^^^ 2 ^ y)) else 0) + (if (s &&& r).testBit k = true then P (s &&& (255 ^^^ 2 ^ k)) else 0) := rfl
      rw [e] at hr
      refine Yl.step ?_
      by_cases c : (s &&& r).testBit k = true
      · have hlt : s &&& (255 ^^^ 2 ^ k) < s := z_clr_lt s (by omega) k hk8 (z_bit_of_and c)
        rw [if_pos c, ← hP _ hlt] at hr
        simp only [f_X0_sumWithoutOne_b5, if_neg (nI_ge hkn (show n < 2 ^ 31 by omega)), x_bit _ hk8, z_bs, if_neg (show ¬ (nI (s &&& r) &&& nI (2 ^ k)) = 0 from fun q => by rw [(z_bitne hk8).mp q] at c; cases c), z_not (show s < 256 by omega) (z_2p8 hk8), z_gxn (show s &&& (255 ^^^ 2 ^ k) < 256 by omega) (show 256 < 2 ^ 31 by decide), nI_clamp (show s &&& (255 ^^^ 2 ^ k) < 2 ^ 31 by omega), f_X0_sumWithoutOne_b41, nI_1]
        exact hr
      · have c2 : (s &&& r).testBit k = false := by simpa using c
        rw [if_neg c, Int32.add_zero] at hr
        simp only [f_X0_sumWithoutOne_b5, if_neg (nI_ge hkn (show n < 2 ^ 31 by omega)), x_bit _ hk8, z_bs, if_pos ((z_bitne hk8).mpr c2), f_X0_sumWithoutOne_b41, nI_1]
        exact hr
  simp only [f_X0_sumWithoutOne]
  exact (loop n 0 (by omega)).diag
theorem x_rooks_in {n g : Nat} {b : Nat → Nat} {c2 : Nat → Int32} (hn : n ≤ 8) (x1 x2 : Int32) : ∀ (p : Nat) (c7 : Nat → Int32), p < 2 ^ n → (∀ V, V ≤ p → c7 V = zP n b g V) → (∀ V, p < V → V < 2 ^ n → c7 V = zP n b (g + 1) V) → ∃ c7' : Nat → Int32, (∀ V, V < 2 ^ n → c7' V = zP n b (g + 1) V) ∧ ∃ K, ∀ N q, K ≤ N → K ≤ q → ∀ r, f_X0_placeRooks_b44 N (nI n) c2 r q x1 x2 (nI (zbb n b g)) (nI p) c7 = r x1 (x2 + (1 : Int32)) c7' := by
  have h2n := z_2p hn
  intro p
  induction p with
  | zero =>
    intro c7 _ h1 h2
    refine ⟨c7, fun V hV => ?_, 1, fun N q _ hq r => ?_⟩
    · rcases Nat.eq_zero_or_pos V with e | e
      · rw [e, h1 0 (Nat.le_refl 0), zP_0, zP_0]
      · exact h2 V e hV
    · obtain ⟨q, rfl⟩ : ∃ k, q = k + 1 := ⟨q - 1, by omega⟩
      rw [f_X0_placeRooks_b44, if_pos (show nI 0 ≤ 0 by decide)]
  | succ p ih =>
    intro c7 hp h1 h2
    obtain ⟨K1, hK1⟩ := x_swo (r := zbb n b g) hn hp (fun V hV => h1 V (by omega))
    obtain ⟨c7', q1, K2, hK2⟩ := ih (upd c7 (p + 1) (zP n b (g + 1) (p + 1))) (by omega) (fun V hV => by rw [pk_un (show V ≠ p + 1 by omega)]; exact h1 V (by omega)) (fun V hV hV2 => by
      by_cases e : V = p + 1
      · rw [e, pk_us]
      · rw [pk_un e]; exact h2 V (by omega) hV2)
    refine ⟨c7', q1, max K1 K2 + 1, fun N q hN hq r => ?_⟩
    obtain ⟨q, rfl⟩ : ∃ k, q = k + 1 := ⟨q - 1, by omega⟩
    have hsw : f_X0_sumWithoutOne N (nI (p + 1)) (nI (p + 1 &&& zbb n b g)) (nI n) c7 = some (zs n (fun y => if (p + 1 &&& zbb n b g).testBit y = true then zP n b g (p + 1 &&& (255 ^^^ 2 ^ y)) else 0)) := hK1 N (by omega)
    rw [← hK2 N q (by omega) (by omega) r, f_X0_placeRooks_b44, if_neg (nI_nle (show 0 < p + 1 by omega) (show p + 1 < 2 ^ 31 by omega)), z_gxn (show p + 1 < 256 by omega) (by decide), fa_and, nI_clamp (show p + 1 < 2 ^ 31 by omega), pk_m1, hsw, z_bs, z_gxn (show p + 1 < 256 by omega) (by decide), h1 (p + 1) (Nat.le_refl _)]
    rfl
theorem x_rooks_out {n : Nat} {b : Nat → Nat} {c2 : Nat → Int32} (hn : n ≤ 8) (hb : ∀ i, i < n → c2 i = nI (b i) ∧ b i < 256) : ∀ (d g : Nat) (c7 : Nat → Int32), g + d = n → (∀ V, V < 2 ^ n → c7 V = zP n b g V) → ∃ c7' : Nat → Int32, (∀ V, V < 2 ^ n → c7' V = zP n b n V) ∧ Yl (fun N q => f_X0_placeRooks_b22 N (nI n) c2 q (nI (2 ^ n - 1)) (nI g) c7) c7' := by
  have h2n := z_2p hn
  have h2p := Nat.two_pow_pos n
  intro d
  induction d with
  | zero =>
    intro g c7 hg h
    obtain rfl : g = n := by omega
    refine ⟨c7, h, Yl.step ?_⟩
    simp only [f_X0_placeRooks_b22, if_pos (nI_le (Nat.le_refl g) (show g < 2 ^ 31 by omega))]
    exact Yl.pure _
  | succ d ih =>
    intro g c7 hg h
    have hgn : g < n := by omega
    obtain ⟨c71, q1, K, hK⟩ := x_rooks_in (c2 := c2) (b := b) (g := g) hn (nI (2 ^ n - 1)) (nI g) (2 ^ n - 1) c7 (by omega) (fun V hV => h V (by omega)) (fun V h1 h2 => by omega)
    obtain ⟨c7', r1, r2⟩ := ih (g + 1) c71 (by omega) q1
    refine ⟨c7', r1, Yl.step ?_⟩
    simp only [f_X0_placeRooks_b22, if_neg (nI_ge hgn (show n < 2 ^ 31 by omega)), z_gxn (show g < 8 by omega) (show 8 < 2 ^ 31 by decide), nI_clamp (show g < 2 ^ 31 by omega), (hb g hgn).1, z_not (z_all_lt hn) (hb g hgn).2]
    refine Yl.eq ⟨K, fun N q hN _ => hK N N hN hN _⟩ ?_
    simp only [nI_1]
    exact r2
theorem x_place {n : Nat} {b : Nat → Nat} {c2 : Nat → Int32} (hn : n ≤ 8) (hb : ∀ i, i < n → c2 i = nI (b i) ∧ b i < 256) (c7 : Nat → Int32) : ∃ c7' : Nat → Int32, (∀ V, V < 2 ^ n → c7' V = zP n b n V) ∧ Yd (fun N => f_X0_placeRooks N (nI n) c2 c7) c7' := by
  have h2n := z_2p hn
  obtain ⟨c7', r1, r2⟩ := x_rooks_out (b := b) hn hb n 0 (upd (z_fl 256 c7 0) 0 1) (by omega) (fun V hV => by
    by_cases e : V = 0
    · rw [e, pk_us]; rfl
    · rw [pk_un e, show z_fl 256 c7 0 V = 0 from if_pos (by omega), zP, if_neg e])
  refine ⟨c7', r1, ?_⟩
  simp only [f_X0_placeRooks, x_everyone _ hn, z_bs, z_gx_in (show vp_in 0 256 from vp_in_nI (n := 0) (by decide) (by decide)), sb_cl0]
  exact r2.diag
/-- the answer: the sum over the sets of that many getters -/
def zRk (n : Nat) (b : Nat → Nat) (a1 : Int32) : Nat → Int32 := fun s => if nI (z_pc s) = a1 then zP n b n s else 0
theorem x_rooks {n : Nat} {b : Nat → Nat} {c2 : Nat → Int32} (hn : n ≤ 8) (hb : ∀ i, i < n → c2 i = nI (b i) ∧ b i < 256) {a : Nat} (ha : a ≤ 8) (c7 : Nat → Int32) : ∃ c7' : Nat → Int32, Yd (fun N => f_X0_rooks N (nI a) (nI n) c2 c7) (zs (2 ^ n) (zRk n b (nI a)), c7') := by
  have h2n := z_2p hn
  have h2p := Nat.two_pow_pos n
  obtain ⟨c71, h1, h2⟩ := x_place hn hb c7
  have loop : ∀ (d s : Nat), s + d = 2 ^ n → Yl (fun N q => f_X0_rooks_b21 N (nI n) c2 q (nI a) (zs s (zRk n b (nI a))) (nI s) c71) (zs (2 ^ n) (zRk n b (nI a)), c71) := by
    intro d
    induction d with
    | zero =>
      intro s hs
      refine Yl.step ?_
      simp only [f_X0_rooks_b21, x_everyone _ hn, z_bs, if_pos (nI_lt (show 2 ^ n - 1 < s by omega) (show s < 2 ^ 31 by omega))]
      rw [show s = 2 ^ n by omega]
      exact Yl.pure _
    | succ d ih =>
      intro s hs
      have hs2 : s < 2 ^ n := by omega
      have hr := ih (s + 1) (by omega)
      have e : zs (s + 1) (zRk n b (nI a)) = zs s (zRk n b (nI a)) + (if nI (z_pc s) = nI a then zP n b n s else 0) := rfl
      rw [e] at hr
      refine Yl.step ?_
      by_cases c : nI (z_pc s) = nI a
      · rw [if_pos c, ← h1 s hs2] at hr
        simp only [f_X0_rooks_b21, x_everyone _ hn, z_bs, if_neg (nI_nlt (show s ≤ 2 ^ n - 1 by omega) (show 2 ^ n - 1 < 2 ^ 31 by omega)), z_bitCount, z_bc_pc s (by omega), if_pos c, z_gxn (show s < 256 by omega) (show 256 < 2 ^ 31 by decide), nI_clamp (show s < 2 ^ 31 by omega), f_X0_rooks_b46, nI_1]
        exact hr
      · rw [if_neg c, Int32.add_zero] at hr
        simp only [f_X0_rooks_b21, x_everyone _ hn, z_bs, if_neg (nI_nlt (show s ≤ 2 ^ n - 1 by omega) (show 2 ^ n - 1 < 2 ^ 31 by omega)), z_bitCount, z_bc_pc s (by omega), if_neg c, f_X0_rooks_b46, nI_1]
        exact hr
  refine ⟨c71, ?_⟩
  simp only [f_X0_rooks, if_neg (nI_pos (show a < 2 ^ 31 by omega)), if_pos (show nI a ≤ (8 : Int32) from nI_le (b := 8) ha (by decide))]
  exact Yd.bind h2 (loop (2 ^ n) 0 (by omega)).diag
/-- the reference: one set's entry, getter by getter -/
theorem y_rooks_y {n g s : Nat} {b : Nat → Nat} {c2 : Nat → Int32} (hn : n ≤ 8) (hs : s < 2 ^ n) {F : Nat → Int32} (hF : ∀ V, V ≤ s → F V = zP n b g V) (x1 x2 : Int32) (r45 : Nat → Int32 → Int32 → (Nat → Int32) → Option (Int32 × (Nat → Int32))) : ∀ (d k : Nat) (c7 : Nat → Int32), k + d = n → (∀ V, V ≠ s → c7 V = F V) → c7 s = zP n b g s + zs k (fun y => if (s &&& zbb n b g).testBit y = true then zP n b g (s &&& (255 ^^^ 2 ^ y)) else 0) → ∃ c7' : Nat → Int32, (∀ V, V ≠ s → c7' V = F V) ∧ c7' s = zP n b (g + 1) s ∧ ∃ K, ∀ N q, K ≤ N → K ≤ q → ∀ r45 r73, f_X1_rooks_b81 N (nI n) c2 r45 r73 q x1 x2 (nI (zbb n b g)) (nI s) (nI k) c7 = r73 x1 x2 (nI (zbb n b g)) (nI s + (-1 : Int32)) c7' := by
  have h2n := z_2p hn
  have hbl := zbb_lt hn b g
  intro d
  induction d with
  | zero =>
    intro k c7 hk h1 h2
    obtain rfl : k = n := by omega
    refine ⟨c7, h1, by rw [h2]; rfl, 1, fun N q _ hq r45 r73 => ?_⟩
    obtain ⟨q, rfl⟩ : ∃ k, q = k + 1 := ⟨q - 1, by omega⟩
    rw [f_X1_rooks_b81, if_pos (nI_le (Nat.le_refl k) (by omega))]
  | succ d ih =>
    intro k c7 hk h1 h2
    have hkn : k < n := by omega
    have hk8 : k < 8 := by omega
    have hs1 : (nI (zbb n b g) >>> (nI k &&& 31)) &&& (1 : Int32) = if (zbb n b g).testBit k = true then 1 else 0 := z_shbit _ (by omega) k hk8
    have hs2 : (nI s >>> (nI k &&& 31)) &&& (1 : Int32) = if s.testBit k = true then 1 else 0 := z_shbit _ (by omega) k hk8
    have hs3 : (1 : Int32) <<< (nI k &&& 31) = nI (2 ^ k) := z_shl k hk8
    have hstep : ∀ v, v = (if (s &&& zbb n b g).testBit k = true then zP n b g (s &&& (255 ^^^ 2 ^ k)) else 0) → (∀ V, V ≠ s → upd c7 s (c7 s + v) V = F V) ∧ upd c7 s (c7 s + v) s = zP n b g s + zs (k + 1) (fun y => if (s &&& zbb n b g).testBit y = true then zP n b g (s &&& (255 ^^^ 2 ^ y)) else 0) := fun v hv => by
      refine ⟨fun V hV => by rw [pk_un hV]; exact h1 V hV, ?_⟩
      rw [pk_us, h2, hv, Int32.add_assoc]
      rfl
    by_cases c : (s &&& zbb n b g).testBit k = true
    · have c' := c
      rw [Nat.testBit_and, Bool.and_eq_true] at c'
      have hlt : s &&& (255 ^^^ 2 ^ k) < s := z_clr_lt s (by omega) k hk8 c'.1
      have hval : c7 (s &&& (255 ^^^ 2 ^ k)) = zP n b g (s &&& (255 ^^^ 2 ^ k)) := by rw [h1 _ (by omega), hF _ (by omega)]
      obtain ⟨p1, p2⟩ := hstep (c7 (s &&& (255 ^^^ 2 ^ k))) (by rw [if_pos c, hval])
      obtain ⟨c7', q1, q2, K, hK⟩ := ih (k + 1) _ (by omega) p1 p2
      refine ⟨c7', q1, q2, K + 1, fun N q hN hq r45 r73 => ?_⟩
      obtain ⟨q, rfl⟩ : ∃ k, q = k + 1 := ⟨q - 1, by omega⟩
      rw [← hK N q (by omega) (by omega) r45 r73, f_X1_rooks_b81, if_neg (nI_ge hkn (by omega)), hs1, if_pos c'.2, if_pos (show (1 : Int32) = 1 from rfl), hs2, if_pos c'.1, if_pos (show (1 : Int32) = 1 from rfl), f_X1_rooks_b116, z_gxn (show s < 256 by omega) (by decide), if_neg (show ¬ (1 : Int32) = 0 by decide), hs3, z_not (show s < 256 by omega) (z_2p8 hk8), z_gxn (show s &&& (255 ^^^ 2 ^ k) < 256 by omega) (by decide), f_X1_rooks_b149, z_gxn (show s < 256 by omega) (by decide), nI_clamp (show s < 2 ^ 31 by omega), nI_clamp (show s &&& (255 ^^^ 2 ^ k) < 2 ^ 31 by omega), nI_1]
    · obtain ⟨p1, p2⟩ := hstep 0 (by rw [if_neg c])
      obtain ⟨c7', q1, q2, K, hK⟩ := ih (k + 1) _ (by omega) p1 p2
      refine ⟨c7', q1, q2, K + 1, fun N q hN hq r45 r73 => ?_⟩
      obtain ⟨q, rfl⟩ : ∃ k, q = k + 1 := ⟨q - 1, by omega⟩
      have hend : f_X1_rooks_b115 N (nI n) c2 r45 r73 (f_X1_rooks_b81 N (nI n) c2 r45 r73 q) x1 x2 (nI (zbb n b g)) (nI s) (nI k) c7 = f_X1_rooks_b81 N (nI n) c2 r45 r73 q x1 x2 (nI (zbb n b g)) (nI s) (nI (k + 1)) (upd c7 s (c7 s + 0)) := by
        rw [f_X1_rooks_b115, f_X1_rooks_b116, z_gxn (show s < 256 by omega) (by decide), if_pos (show (0 : Int32) = 0 from rfl), f_X1_rooks_b149, z_gxn (show s < 256 by omega) (by decide), nI_clamp (show s < 2 ^ 31 by omega), nI_1]
      rw [← hK N q (by omega) (by omega) r45 r73, f_X1_rooks_b81, if_neg (nI_ge hkn (by omega)), hs1, hs2]
      by_cases cb : (zbb n b g).testBit k = true
      · have cs : ¬ s.testBit k = true := fun e => c (by rw [Nat.testBit_and, Bool.and_eq_true]; exact ⟨e, cb⟩)
        rw [if_pos cb, if_pos (show (1 : Int32) = 1 from rfl), if_neg cs, if_neg (show ¬ (0 : Int32) = 1 by decide)]
        exact hend
      · rw [if_neg cb, if_neg (show ¬ (0 : Int32) = 1 by decide)]
        exact hend
theorem y_rooks_in {n g : Nat} {b : Nat → Nat} {c2 : Nat → Int32} (hn : n ≤ 8) (x1 x2 : Int32) : ∀ (p : Nat) (c7 : Nat → Int32), p ≤ 2 ^ n → (∀ V, V < p → c7 V = zP n b g V) → (∀ V, p ≤ V → V < 2 ^ n → c7 V = zP n b (g + 1) V) → (∀ V, 2 ^ n ≤ V → V < 256 → c7 V = 0) → ∃ c7' : Nat → Int32, (∀ V, V < 2 ^ n → c7' V = zP n b (g + 1) V) ∧ (∀ V, 2 ^ n ≤ V → V < 256 → c7' V = 0) ∧ ∃ K, ∀ N q, K ≤ N → K ≤ q → ∀ r, f_X1_rooks_b73 N (nI n) c2 r q x1 x2 (nI (zbb n b g)) (nI p + (-1 : Int32)) c7 = r x1 (x2 + (1 : Int32)) c7' := by
  have h2n := z_2p hn
  intro p
  induction p with
  | zero =>
    intro c7 _ h1 h2 h3
    refine ⟨c7, fun V hV => h2 V (Nat.zero_le V) hV, h3, 1, fun N q _ hq r => ?_⟩
    obtain ⟨q, rfl⟩ : ∃ k, q = k + 1 := ⟨q - 1, by omega⟩
    rw [f_X1_rooks_b73, if_pos (show nI 0 + (-1 : Int32) < 0 by decide)]
  | succ p ih =>
    intro c7 hp h1 h2 h3
    obtain ⟨c71, q1, q2, K1, hK1⟩ := y_rooks_y (c2 := c2) (s := p) (F := c7) hn (by omega) (fun V hV => h1 V (by omega)) x1 x2 (fun _ _ _ _ => none) n 0 c7 (by omega) (fun V _ => rfl) (by rw [h1 p (Nat.lt_succ_self p)]; exact (Int32.add_zero _).symm)
    obtain ⟨c7', r1, r2, K2, hK2⟩ := ih c71 (by omega) (fun V hV => by rw [q1 V (by omega)]; exact h1 V (by omega)) (fun V hV hV2 => by
      by_cases e : V = p
      · rw [e]; exact q2
      · rw [q1 V e]; exact h2 V (by omega) hV2) (fun V hV hV2 => by rw [q1 V (by omega)]; exact h3 V hV hV2)
    refine ⟨c7', r1, r2, max K1 K2 + 1, fun N q hN hq r => ?_⟩
    obtain ⟨q, rfl⟩ : ∃ k, q = k + 1 := ⟨q - 1, by omega⟩
    rw [← hK2 N q (by omega) (by omega) r, ← hK1 N N (by omega) (by omega) r (f_X1_rooks_b73 N (nI n) c2 r q), f_X1_rooks_b73, pk_m1, if_neg (nI_pos (show p < 2 ^ 31 by omega))]
    rfl
theorem y_rooks_out {n : Nat} {b : Nat → Nat} {c2 : Nat → Int32} (hn : n ≤ 8) (hb : ∀ i, i < n → c2 i = nI (b i) ∧ b i < 256) (a1 : Int32) : ∀ (d g : Nat) (c7 : Nat → Int32), g + d = n → (∀ V, V < 2 ^ n → c7 V = zP n b g V) → (∀ V, 2 ^ n ≤ V → V < 256 → c7 V = 0) → ∃ c7' : Nat → Int32, (∀ V, V < 2 ^ n → c7' V = zP n b n V) ∧ (∀ V, 2 ^ n ≤ V → V < 256 → c7' V = 0) ∧ ∀ r, Yl (fun N q => f_X1_rooks_b173 N (nI n) c2 q a1 0 0 c7') r → Yl (fun N q => f_X1_rooks_b45 N (nI n) c2 q a1 (nI g) c7) r := by
  have h2n := z_2p hn
  have h2p := Nat.two_pow_pos n
  intro d
  induction d with
  | zero =>
    intro g c7 hg h h3
    obtain rfl : g = n := by omega
    refine ⟨c7, h, h3, fun r hy => Yl.step ?_⟩
    simp only [f_X1_rooks_b45, if_pos (nI_le (Nat.le_refl g) (show g < 2 ^ 31 by omega))]
    exact hy.diag.lift
  | succ d ih =>
    intro g c7 hg h h3
    have hgn : g < n := by omega
    obtain ⟨c71, q1, q2, K, hK⟩ := y_rooks_in (c2 := c2) (b := b) (g := g) hn a1 (nI g) (2 ^ n) c7 (Nat.le_refl _) h (fun V h1 h2 => by omega) h3
    obtain ⟨c7', r1, r2, r3⟩ := ih (g + 1) c71 (by omega) q1 q2
    refine ⟨c7', r1, r2, fun r hy => Yl.step ?_⟩
    have hm1 : nI (2 ^ n) + (-1 : Int32) = nI (2 ^ n - 1) := by
      obtain ⟨p, hp⟩ : ∃ p, 2 ^ n = p + 1 := ⟨2 ^ n - 1, by omega⟩
      rw [hp, pk_m1, Nat.add_sub_cancel]
    rw [hm1] at hK
    simp only [f_X1_rooks_b45, if_neg (nI_ge hgn (show n < 2 ^ 31 by omega)), y_all _ hn, z_bs, z_gxn (show g < 8 by omega) (show 8 < 2 ^ 31 by decide), nI_clamp (show g < 2 ^ 31 by omega), (hb g hgn).1, z_not (z_all_lt hn) (hb g hgn).2]
    refine Yl.eq ⟨K, fun N q hN _ => hK N N hN hN _⟩ ?_
    simp only [nI_1]
    exact r3 r hy
theorem y_rooks_fill {n : Nat} {c2 : Nat → Int32} (a1 : Int32) : ∀ (d k : Nat) (c7 : Nat → Int32), k + d = 256 → (∀ V, V < k → c7 V = if V = 0 then 1 else 0) → ∃ c7' : Nat → Int32, (∀ V, V < 256 → c7' V = if V = 0 then 1 else 0) ∧ ∀ r, Yl (fun N q => f_X1_rooks_b45 N (nI n) c2 q a1 0 c7') r → Yl (fun N q => f_X1_rooks_b15 N (nI n) c2 q a1 (nI k) c7) r := by
  intro d
  induction d with
  | zero =>
    intro k c7 hk h
    obtain rfl : k = 256 := by omega
    refine ⟨c7, h, fun r hy => Yl.step ?_⟩
    simp only [f_X1_rooks_b15, if_pos (show (256 : Int32) ≤ nI 256 from by decide)]
    exact hy.diag.lift
  | succ d ih =>
    intro k c7 hk h
    have hk2 : k < 256 := by omega
    obtain ⟨c7', q1, q2⟩ := ih (k + 1) (upd c7 k (if k = 0 then 1 else 0)) (by omega) (fun V hV => by
      by_cases e : V = k
      · rw [e, pk_us]
      · rw [pk_un e]; exact h V (by omega))
    refine ⟨c7', q1, fun r hy => Yl.step ?_⟩
    have hr := q2 r hy
    by_cases c : k = 0
    · rw [if_pos c] at hr
      simp only [f_X1_rooks_b15, if_neg (show ¬ (256 : Int32) ≤ nI k from nI_ge (b := 256) hk2 (by decide)), if_pos (show nI k = 0 by rw [c]; exact nI_0), f_X1_rooks_b36, z_gxn hk2 (show 256 < 2 ^ 31 by decide), nI_clamp (show k < 2 ^ 31 by omega), nI_1]
      exact hr
    · rw [if_neg c] at hr
      simp only [f_X1_rooks_b15, if_neg (show ¬ (256 : Int32) ≤ nI k from nI_ge (b := 256) hk2 (by decide)), if_neg (nI_ne0 (show 0 < k by omega) (show k < 2 ^ 31 by omega)), f_X1_rooks_b36, z_gxn hk2 (show 256 < 2 ^ 31 by decide), nI_clamp (show k < 2 ^ 31 by omega), nI_1]
      exact hr
theorem y_rooks {n : Nat} {b : Nat → Nat} {c2 : Nat → Int32} (hn : n ≤ 8) (hb : ∀ i, i < n → c2 i = nI (b i) ∧ b i < 256) {a : Nat} (ha : a ≤ 8) (c7 : Nat → Int32) : ∃ c7' : Nat → Int32, Yd (fun N => f_X1_rooks N (nI a) (nI n) c2 c7) (zs (2 ^ n) (zRk n b (nI a)), c7') := by
  have h2n := z_2p hn
  have h2p := Nat.two_pow_pos n
  obtain ⟨c71, q1, q2⟩ := y_rooks_fill (n := n) (c2 := c2) (nI a) 256 0 c7 (by omega) (fun V hV => absurd hV (Nat.not_lt_zero V))
  obtain ⟨c72, r1, r2, r3⟩ := y_rooks_out (b := b) hn hb (nI a) n 0 c71 (by omega) (fun V hV => by rw [q1 V (by omega)]; rfl) (fun V hV hV2 => by rw [q1 V hV2, if_neg (by omega)])
  have hsum : zs 256 (fun s => if nI (z_pc s) = nI a then c72 s else 0) = zs (2 ^ n) (zRk n b (nI a)) := by
    rw [zs_trunc h2n (fun s h1 h2 => by
      by_cases c : nI (z_pc s) = nI a
      · rw [if_pos c]; exact r2 s h1 h2
      · rw [if_neg c])]
    apply zs_congr
    intro s hs
    rw [zRk, r1 s hs]
  have loop : ∀ (d s : Nat), s + d = 256 → Yl (fun N q => f_X1_rooks_b173 N (nI n) c2 q (nI a) (zs s (fun s => if nI (z_pc s) = nI a then c72 s else 0)) (nI s) c72) (zs 256 (fun s => if nI (z_pc s) = nI a then c72 s else 0), c72) := by
    intro d
    induction d with
    | zero =>
      intro s hs
      obtain rfl : s = 256 := by omega
      refine Yl.step ?_
      simp only [f_X1_rooks_b173, if_pos (show (256 : Int32) ≤ nI 256 from by decide)]
      exact Yl.pure _
    | succ d ih =>
      intro s hs
      have hs2 : s < 256 := by omega
      have hr := ih (s + 1) (by omega)
      have e : zs (s + 1) (fun s => if nI (z_pc s) = nI a then c72 s else 0) = zs s (fun s => if nI (z_pc s) = nI a then c72 s else 0) + (if nI (z_pc s) = nI a then c72 s else 0) := rfl
      rw [e] at hr
      refine Yl.step ?_
      simp only [f_X1_rooks_b173, if_neg (show ¬ (256 : Int32) ≤ nI s from nI_ge (b := 256) hs2 (by decide))]
      refine Yl.bind (y_bits hs2) ?_
      by_cases c : nI (z_pc s) = nI a
      · rw [if_pos c] at hr
        simp only [if_pos c, z_gxn hs2 (show 256 < 2 ^ 31 by decide), nI_clamp (show s < 2 ^ 31 by omega), f_X1_rooks_b199, nI_1]
        exact hr
      · rw [if_neg c] at hr
        simp only [if_neg c, f_X1_rooks_b199, nI_1]
        exact hr
  refine ⟨c72, ?_⟩
  have hin : ∀ N, f_X1_in N (nI a) (0 : Int32) (8 : Int32) = some 1 := fun N => y_in2 (lo := 0) (hi := 8) N (Nat.zero_le a) ha (by decide)
  simp only [f_X1_rooks, hin, z_bs, if_neg (show ¬ (1 : Int32) = 0 by decide)]
  rw [← hsum]
  exact (q2 _ (r3 _ (loop 256 0 (by omega)))).diag
/-- HEAP -/
def zgt (b : Nat → Nat) (s : Nat) : Nat → Nat
  | 0 => 0
  | k + 1 => zgt b s k ||| (if s.testBit k = true then b k else 0)
theorem zgt_lt {b : Nat → Nat} {n : Nat} (hb : ∀ i, i < n → b i < 256) (s : Nat) : ∀ k, k ≤ n → zgt b s k < 256 := by
  intro k
  induction k with
  | zero => intro _; show (0 : Nat) < 256; decide
  | succ k ih =>
    intro h
    refine z_or_lt (ih (by omega)) ?_
    by_cases c : s.testBit k = true
    · rw [if_pos c]; exact hb k (by omega)
    · rw [if_neg c]; decide
abbrev zhc (s t : Nat) : Prop := ((nI s &&& (nI s ^^^ nI t)) &&& (-(nI s ^^^ nI t))) = 0
abbrev zhb (s t : Nat) : Prop := t = 0 ∨ z_pc s < z_pc t ∨ (z_pc s = z_pc t ∧ ¬ zhc s t)
def zhp (n : Nat) (b : Nat → Nat) : Nat → Nat → Nat → Nat
  | 0, _, t => t
  | d + 1, s, t => zhp n b d (s + 1) (if z_pc (zgt b s n) < z_pc s ∧ zhb s t then s else t)
theorem z_pc_le (s : Nat) : z_pc s ≤ 8 := by
  have := List.countP_le_length (l := List.range 8) (p := fun i => s.testBit i)
  rwa [List.length_range] at this
theorem x_gettersOf {n s : Nat} {b : Nat → Nat} {c2 : Nat → Int32} (hn : n ≤ 8) (hb : ∀ i, i < n → c2 i = nI (b i) ∧ b i < 256) : Yd (fun N => f_X0_gettersOf N (nI s) (nI n) c2) (nI (zgt b s n)) := by
  have loop : ∀ (d k : Nat), k + d = n → Yl (fun N q => f_X0_gettersOf_b4 N (nI n) c2 q (nI s) (nI (zgt b s k)) (nI k)) (nI (zgt b s n)) := by
    intro d
    induction d with
    | zero =>
      intro k hk
      obtain rfl : k = n := by omega
      refine Yl.step ?_
      simp only [f_X0_gettersOf_b4, if_pos (nI_le (Nat.le_refl k) (show k < 2 ^ 31 by omega))]
      exact Yl.pure _
    | succ d ih =>
      intro k hk
      have hkn : k < n := by omega
      have hk8 : k < 8 := by omega
      have hr := ih (k + 1) (by omega)
      rw [zgt] at hr
      refine Yl.step ?_
      by_cases c : s.testBit k = true
      · rw [if_pos c] at hr
        simp only [f_X0_gettersOf_b4, if_neg (nI_ge hkn (show n < 2 ^ 31 by omega)), x_bit _ hk8, z_bs, if_neg (show ¬ (nI s &&& nI (2 ^ k)) = 0 from fun q => by rw [(z_bitne hk8).mp q] at c; cases c), z_gxn hk8 (show 8 < 2 ^ 31 by decide), nI_clamp (show k < 2 ^ 31 by omega), (hb k hkn).1, fa_or, f_X0_gettersOf_b30, nI_1]
        exact hr
      · have c2 : s.testBit k = false := by simpa using c
        rw [if_neg c, Nat.or_zero] at hr
        simp only [f_X0_gettersOf_b4, if_neg (nI_ge hkn (show n < 2 ^ 31 by omega)), x_bit _ hk8, z_bs, if_pos ((z_bitne hk8).mpr c2), f_X0_gettersOf_b30, nI_1]
        exact hr
  simp only [f_X0_gettersOf]
  exact (loop n 0 (by omega)).diag
theorem x_isHeapBefore {s t : Nat} (N : Nat) (hs : s < 256) (ht : t < 256) : f_X0_isHeapBefore N (nI s) (nI t) = some (if zhb s t then 1 else 0) := by
  have p1 := z_pc_le s
  have p2 := z_pc_le t
  simp only [f_X0_isHeapBefore, z_bitCount, z_bc_pc s hs, z_bc_pc t ht, z_bs, f_X0_isHeapBefore_b19, f_X0_isHeapBefore_b28]
  by_cases c0 : t = 0
  · rw [if_pos (show zhb s t from Or.inl c0), if_pos (show nI t = 0 by rw [c0]; exact nI_0), if_pos (show nI t = 0 by rw [c0]; exact nI_0)]
  · have hn0 : ¬ nI t = 0 := nI_ne0 (by omega) (by omega)
    rw [if_neg hn0]
    by_cases c1 : z_pc s = z_pc t
    · rw [if_pos (congrArg nI c1)]
      by_cases c2 : zhc s t
      · rw [if_neg (show ¬ zhb s t from fun h => by
          rcases h with h | h | h
          · exact c0 h
          · omega
          · exact h.2 c2), if_pos (show ((nI s &&& (nI s ^^^ nI t)) &&& (-(nI s ^^^ nI t))) = 0 from c2)]
      · rw [if_pos (show zhb s t from Or.inr (Or.inr ⟨c1, c2⟩)), if_neg (show ¬ ((nI s &&& (nI s ^^^ nI t)) &&& (-(nI s ^^^ nI t))) = 0 from c2)]
    · rw [if_neg (show ¬ nI (z_pc s) = nI (z_pc t) from fun e => c1 ((nI_eq (by omega) (by omega)).mp e)), if_neg hn0]
      by_cases c2 : z_pc s < z_pc t
      · rw [if_pos (show zhb s t from Or.inr (Or.inl c2)), if_neg (nI_ge c2 (by omega))]
      · rw [if_neg (show ¬ zhb s t from fun h => by
          rcases h with h | h | h
          · exact c0 h
          · exact c2 h
          · exact c1 h.1), if_pos (nI_le (show z_pc t ≤ z_pc s by omega) (by omega))]
theorem x_heap {n : Nat} {b : Nat → Nat} {c2 : Nat → Int32} (hn : n ≤ 8) (hb : ∀ i, i < n → c2 i = nI (b i) ∧ b i < 256) : Yd (fun N => f_X0_heap N (nI n) c2) (nI (zhp n b (2 ^ n - 1) 1 0)) := by
  have h2n := z_2p hn
  have h2p := Nat.two_pow_pos n
  have loop : ∀ (d s t : Nat), s + d = 2 ^ n → t < 256 → Yl (fun N q => f_X0_heap_b4 N (nI n) c2 q (nI t) (nI s)) (nI (zhp n b d s t)) := by
    intro d
    induction d with
    | zero =>
      intro s t hs ht
      refine Yl.step ?_
      simp only [f_X0_heap_b4, x_everyone _ hn, z_bs, if_pos (nI_lt (show 2 ^ n - 1 < s by omega) (show s < 2 ^ 31 by omega))]
      exact Yl.pure _
    | succ d ih =>
      intro s t hs ht
      have hs2 : s < 256 := by omega
      have hg := zgt_lt (fun i hi => (hb i hi).2) s n (Nat.le_refl n)
      have p1 := z_pc_le s
      have p2 := z_pc_le (zgt b s n)
      have hr := ih (s + 1) (if z_pc (zgt b s n) < z_pc s ∧ zhb s t then s else t) (by omega) (by
        by_cases c : z_pc (zgt b s n) < z_pc s ∧ zhb s t
        · rw [if_pos c]; exact hs2
        · rw [if_neg c]; exact ht)
      rw [show zhp n b (d + 1) s t = zhp n b d (s + 1) (if z_pc (zgt b s n) < z_pc s ∧ zhb s t then s else t) from rfl]
      refine Yl.step ?_
      simp only [f_X0_heap_b4, x_everyone _ hn, z_bs, if_neg (nI_nlt (show s ≤ 2 ^ n - 1 by omega) (show 2 ^ n - 1 < 2 ^ 31 by omega))]
      refine Yl.bind (x_gettersOf hn hb) ?_
      simp only [z_bitCount, z_bs, z_bc_pc _ hg, z_bc_pc s hs2, x_isHeapBefore _ hs2 ht, f_X0_heap_b37, nI_1]
      by_cases c1 : z_pc (zgt b s n) < z_pc s
      · simp only [if_neg (nI_ge c1 (show z_pc s < 2 ^ 31 by omega))]
        by_cases c2 : zhb s t
        · rw [if_pos (show z_pc (zgt b s n) < z_pc s ∧ zhb s t from ⟨c1, c2⟩)] at hr ⊢
          simp only [if_pos c2, if_neg (show ¬ (1 : Int32) = 0 by decide)]
          exact hr
        · rw [if_neg (show ¬ (z_pc (zgt b s n) < z_pc s ∧ zhb s t) from fun h => c2 h.2)] at hr ⊢
          simp only [if_neg c2, if_true]
          exact hr
      · rw [if_neg (show ¬ (z_pc (zgt b s n) < z_pc s ∧ zhb s t) from fun h => c1 h.1)] at hr ⊢
        simp only [if_pos (nI_le (show z_pc s ≤ z_pc (zgt b s n) by omega) (show z_pc (zgt b s n) < 2 ^ 31 by omega))]
        exact hr
  simp only [f_X0_heap]
  exact (loop (2 ^ n - 1) 1 0 (by omega) (by decide)).diag
theorem y_heap {n : Nat} {b : Nat → Nat} {c2 : Nat → Int32} (hn : n ≤ 8) (hb : ∀ i, i < n → c2 i = nI (b i) ∧ b i < 256) : Yd (fun N => f_X1_heap N (nI n) c2) (nI (zhp n b (2 ^ n - 1) 1 0)) := by
  have h2n := z_2p hn
  have h2p := Nat.two_pow_pos n
  -- the inner loop gathers the getters, then it judges
  have inner : ∀ (s t : Nat), s < 256 → t < 256 → ∀ (d k : Nat), k + d = n → ∃ K, ∀ N p, K ≤ N → K ≤ p → ∀ r, f_X1_heap_b17 N (nI n) c2 r p (nI t) (nI s) (nI (zgt b s k)) (nI k) = r (nI (if z_pc (zgt b s n) < z_pc s ∧ zhb s t then s else t)) (nI (s + 1)) := by
    intro s t hs ht d
    have p1 := z_pc_le s
    have p2 := z_pc_le t
    have p3 := z_pc_le (zgt b s n)
    induction d with
    | zero =>
      intro k hk
      have hkn : k = n := by omega
      rw [hkn]
      obtain ⟨K1, hK1⟩ := y_bits hs
      obtain ⟨K2, hK2⟩ := y_bits ht
      obtain ⟨K3, hK3⟩ := y_bits (zgt_lt (fun i hi => (hb i hi).2) s n (Nat.le_refl n))
      refine ⟨max K1 (max K2 K3) + 1, fun N p hN hp r => ?_⟩
      obtain ⟨p, rfl⟩ : ∃ q, p = q + 1 := ⟨p - 1, by omega⟩
      have b1 := hK1 N (by omega)
      have b2 := hK2 N (by omega)
      have b3 := hK3 N (by omega)
      have h103 : ∀ t0 : Int32, ((t0 = 1 ∧ zhb s t) ∨ (t0 = 0 ∧ ¬ zhb s t)) → f_X1_heap_b103 N (nI n) c2 r (nI t) (nI s) (nI (zgt b s n)) t0 = r (nI (if z_pc (zgt b s n) < z_pc s ∧ zhb s t then s else t)) (nI (s + 1)) := by
        intro t0 h
        simp only [f_X1_heap_b103, b3, b1, z_bs]
        by_cases c1 : z_pc (zgt b s n) < z_pc s
        · rw [if_neg (nI_ge c1 (show z_pc s < 2 ^ 31 by omega))]
          rcases h with ⟨h1, h2⟩ | ⟨h1, h2⟩
          · rw [if_neg (show ¬ t0 = 0 by rw [h1]; decide), if_pos (show z_pc (zgt b s n) < z_pc s ∧ zhb s t from ⟨c1, h2⟩), f_X1_heap_b126, nI_1]
          · rw [if_pos h1, if_neg (show ¬ (z_pc (zgt b s n) < z_pc s ∧ zhb s t) from fun q => h2 q.2), f_X1_heap_b125, f_X1_heap_b126, nI_1]
        · rw [if_pos (nI_le (show z_pc s ≤ z_pc (zgt b s n) by omega) (show z_pc (zgt b s n) < 2 ^ 31 by omega)), if_neg (show ¬ (z_pc (zgt b s n) < z_pc s ∧ zhb s t) from fun q => c1 q.1), f_X1_heap_b125, f_X1_heap_b126, nI_1]
      rw [f_X1_heap_b17, if_pos (nI_le (Nat.le_refl n) (show n < 2 ^ 31 by omega))]
      by_cases c0 : t = 0
      · rw [if_pos (show nI t = 0 by rw [c0]; exact nI_0), f_X1_heap_b98]
        exact h103 1 (Or.inl ⟨rfl, Or.inl c0⟩)
      · rw [if_neg (nI_ne0 (show 0 < t by omega) (show t < 2 ^ 31 by omega))]
        simp only [b1, b2, z_bs]
        by_cases c1 : z_pc s < z_pc t
        · rw [if_pos (nI_lt c1 (show z_pc t < 2 ^ 31 by omega)), f_X1_heap_b98]
          exact h103 1 (Or.inl ⟨rfl, Or.inr (Or.inl c1)⟩)
        · rw [if_neg (nI_nlt (show z_pc t ≤ z_pc s by omega) (show z_pc s < 2 ^ 31 by omega))]
          by_cases c2 : z_pc s = z_pc t
          · rw [if_pos (show nI (z_pc s) = nI (z_pc t) from congrArg nI c2)]
            by_cases c3 : zhc s t
            · rw [if_pos (show ((nI s &&& (nI s ^^^ nI t)) &&& (-(nI s ^^^ nI t))) = 0 from c3), f_X1_heap_b102]
              exact h103 0 (Or.inr ⟨rfl, fun h => by
                rcases h with h | h | h
                · exact c0 h
                · exact c1 h
                · exact h.2 c3⟩)
            · rw [if_neg (show ¬ ((nI s &&& (nI s ^^^ nI t)) &&& (-(nI s ^^^ nI t))) = 0 from c3), f_X1_heap_b98]
              exact h103 1 (Or.inl ⟨rfl, Or.inr (Or.inr ⟨c2, c3⟩)⟩)
          · rw [if_neg (show ¬ nI (z_pc s) = nI (z_pc t) from fun e => c2 ((nI_eq (by omega) (by omega)).mp e)), f_X1_heap_b102]
            exact h103 0 (Or.inr ⟨rfl, fun h => by
              rcases h with h | h | h
              · exact c0 h
              · exact c1 h
              · exact c2 h.1⟩)
    | succ d ih =>
      intro k hk
      have hkn : k < n := by omega
      have hk8 : k < 8 := by omega
      have hs1 : (nI s >>> (nI k &&& 31)) &&& (1 : Int32) = if s.testBit k = true then 1 else 0 := z_shbit s hs k hk8
      obtain ⟨K, hK⟩ := ih (k + 1) (by omega)
      refine ⟨K + 1, fun N p hN hp r => ?_⟩
      obtain ⟨p, rfl⟩ : ∃ q, p = q + 1 := ⟨p - 1, by omega⟩
      have h1 := hK N p (by omega) (by omega) r
      rw [f_X1_heap_b17, if_neg (nI_ge hkn (show n < 2 ^ 31 by omega)), hs1]
      by_cases c : s.testBit k = true
      · rw [show zgt b s (k + 1) = zgt b s k ||| b k from by rw [zgt, if_pos c]] at h1
        rw [if_pos c, if_pos (show (1 : Int32) = 1 from rfl), z_gxn hk8 (by decide), nI_clamp (show k < 2 ^ 31 by omega), (hb k hkn).1, f_X1_heap_b48, fa_or, nI_1]
        exact h1
      · rw [show zgt b s (k + 1) = zgt b s k ||| 0 from by rw [zgt, if_neg c]] at h1
        have h0 : nI (zgt b s k) ||| (0 : Int32) = nI (zgt b s k ||| 0) := fa_or (zgt b s k) 0
        rw [if_neg c, if_neg (show ¬ (0 : Int32) = 1 by decide), f_X1_heap_b48, h0, nI_1]
        exact h1
  have loop : ∀ (d s t : Nat), s + d = 2 ^ n → t < 256 → Yl (fun N q => f_X1_heap_b4 N (nI n) c2 q (nI t) (nI s)) (nI (zhp n b d s t)) := by
    intro d
    induction d with
    | zero =>
      intro s t hs ht
      refine Yl.step ?_
      simp only [f_X1_heap_b4, y_all _ hn, z_bs, if_pos (nI_lt (show 2 ^ n - 1 < s by omega) (show s < 2 ^ 31 by omega))]
      exact Yl.pure _
    | succ d ih =>
      intro s t hs ht
      have hs2 : s < 256 := by omega
      have hr := ih (s + 1) (if z_pc (zgt b s n) < z_pc s ∧ zhb s t then s else t) (by omega) (by
        by_cases c : z_pc (zgt b s n) < z_pc s ∧ zhb s t
        · rw [if_pos c]; exact hs2
        · rw [if_neg c]; exact ht)
      rw [show zhp n b (d + 1) s t = zhp n b d (s + 1) (if z_pc (zgt b s n) < z_pc s ∧ zhb s t then s else t) from rfl]
      refine Yl.step ?_
      simp only [f_X1_heap_b4, y_all _ hn, z_bs, if_neg (nI_nlt (show s ≤ 2 ^ n - 1 by omega) (show 2 ^ n - 1 < 2 ^ 31 by omega))]
      obtain ⟨K, hK⟩ := inner s t hs2 ht n 0 (by omega)
      exact Yl.eq ⟨K, fun N q hN _ => hK N N hN hN _⟩ hr
  simp only [f_X1_heap]
  exact (loop (2 ^ n - 1) 1 0 (by omega) (by decide)).diag
