/-! the rounds of a way: their lengths, those that are long enough, how many -/
/-- what is known along the rounds of a way f of the first n: whoever was met, but a, is given to by one who was met, but c -/
def zJ (n : Nat) (f : Nat → Nat) (R a c : Nat) : Prop := R < 2 ^ n ∧ a < n ∧ c < n ∧ R.testBit a = false ∧ R.testBit c = false ∧ ∀ y, y < n → R.testBit y = false → y ≠ a → ∃ i, i < n ∧ R.testBit i = false ∧ i ≠ c ∧ f i = y
theorem zJ_next {n : Nat} {f : Nat → Nat} {R a c : Nat} (h : zper n (fun x => x < n) f) (J : zJ n f R a c) (hne : f c ≠ a) : R.testBit (f c) = true ∧ zJ n f (R ^^^ 2 ^ f c) a (f c) := by
  obtain ⟨h1, h2, h3, h4, h5, h6⟩ := J
  have hfc : f c < n := (h.1 c h3).2
  have hR : R.testBit (f c) = true := by
    rcases e : R.testBit (f c) with _ | _
    · obtain ⟨i, i1, i2, i3, i4⟩ := h6 (f c) hfc e hne
      exact absurd (h.2 i c i1 h3 i4) i3
    · rfl
  refine ⟨hR, z_x_lt h1 hfc, h2, hfc, ?_, ?_, fun y hy hyR hya => ?_⟩
  · rw [z_xbit hR, h4]; rfl
  · rw [z_xbit hR]; simp
  · rw [z_xbit hR] at hyR
    by_cases e : y = f c
    · refine ⟨c, h3, ?_, fun e2 => ?_, e.symm⟩
      · rw [z_xbit hR, h5]; rfl
      · rw [← e2, h5] at hR; cases hR
    · have hy2 : R.testBit y = false := by simpa [e] using hyR
      obtain ⟨i, i1, i2, i3, i4⟩ := h6 y hy hy2 hya
      refine ⟨i, i1, ?_, fun e2 => ?_, i4⟩
      · rw [z_xbit hR, i2]; rfl
      · rw [e2, hR] at i2; cases i2
theorem zJ_close {n : Nat} {f : Nat → Nat} {R a c l : Nat} (J : zJ n f R a c) (hc : f c = a) (hl : R.testBit l = true) : zJ n f (R ^^^ 2 ^ l) l l := by
  obtain ⟨h1, h2, h3, h4, h5, h6⟩ := J
  have hln : l < n := z_bit_lt h1 hl
  refine ⟨z_x_lt h1 hln, hln, hln, ?_, ?_, fun y hy hyR hyl => ?_⟩
  · rw [z_xbit hl]; simp
  · rw [z_xbit hl]; simp
  · rw [z_xbit hl] at hyR
    have hy2 : R.testBit y = false := by simpa [hyl] using hyR
    by_cases e : y = a
    · refine ⟨c, h3, ?_, fun e2 => ?_, by rw [hc, e]⟩
      · rw [z_xbit hl, h5]; rfl
      · rw [← e2, h5] at hl; cases hl
    · obtain ⟨i, i1, i2, i3, i4⟩ := h6 y hy hy2 e
      refine ⟨i, i1, ?_, fun e2 => ?_, i4⟩
      · rw [z_xbit hl, i2]; rfl
      · rw [e2, hl] at i2; cases i2
theorem zJ_init {n : Nat} (f : Nat → Nat) (h0 : 0 < n) : zJ n f ((2 ^ n - 1) ^^^ 1) 0 0 := by
  have hb : ∀ i, ((2 ^ n - 1) ^^^ 1).testBit i = (decide (i < n) && !(decide (i = 0))) := fun i => by
    have e : (2 ^ n - 1) ^^^ 1 = (2 ^ n - 1) ^^^ 2 ^ 0 := rfl
    rw [e, z_xbit (by rw [Nat.testBit_two_pow_sub_one]; exact decide_eq_true h0), Nat.testBit_two_pow_sub_one]
  refine ⟨z_x_lt (t := 0) (by have := Nat.two_pow_pos n; omega) h0, h0, h0, by rw [hb]; simp, by rw [hb]; simp, fun y hy h hy0 => ?_⟩
  rw [hb] at h
  simp [hy, hy0] at h
theorem zi_shift (f : Nat → Nat) (m x : Nat) : zi f m (f x) = f (zi f m x) := by
  induction m with
  | zero => rfl
  | succ m ih => show f (zi f m (f x)) = f (f (zi f m x)); rw [ih]
theorem zok_next {n L : Nat} {P : Nat → Prop} {f : Nat → Nat} (h : zper n P f) {x : Nat} (hx : P x) : zok L f (f x) = true ↔ zok L f x = true := by
  rw [zok_iff, zok_iff]
  constructor
  · intro H m h1 h2 e
    apply H m h1 h2
    rw [zi_shift, e]
  · intro H m h1 h2 e
    rw [zi_shift] at e
    exact H m h1 h2 (h.2 _ _ (zi_P h hx m) hx e)
theorem zok_walk {n L : Nat} {P : Nat → Prop} {f : Nat → Nat} (h : zper n P f) {x : Nat} (hx : P x) (j : Nat) : zok L f (zi f j x) = true ↔ zok L f x = true := by
  induction j with
  | zero => exact Iff.rfl
  | succ j ih => exact (zok_next h (zi_P h hx j)).trans ih
/-- all rounds are long enough: by each one's walk, or by the lengths -/
theorem z_lens {n L : Nat} (hn : n ≤ 8) {f : Nat → Nat} (h : zper n (fun x => x < n) f) : ∀ (k R a c len : Nat), z_pc R + 1 = k → zJ n f R a c → 1 ≤ len → zi f (len - 1) a = c → (∀ j, 1 ≤ j → j < len → zi f j a ≠ a) → ((∀ x, (R.testBit x = true ∨ ∃ j, j < len ∧ x = zi f j a) → zok L f x = true) ↔ (zp f k R a c len).all (fun x => decide (L ≤ x)) = true) := by
  intro k
  induction k with
  | zero => intro R a c len hk; omega
  | succ k ih =>
    intro R a c len hk J hlen hc hj
    have J0 := J
    obtain ⟨h1, h2, h3, h4, h5, h6⟩ := J0
    have hR8 : R < 256 := Nat.lt_of_lt_of_le h1 (z_2p hn)
    have hstep : zi f len a = f c := by
      obtain ⟨q, hq⟩ : ∃ q, len = q + 1 := ⟨len - 1, by omega⟩
      rw [hq, Nat.add_sub_cancel] at hc
      rw [hq, ← hc]
      rfl
    rw [zp]
    by_cases e : f c = a
    · rw [if_pos e, List.all_cons, Bool.and_eq_true, decide_eq_true_eq]
      have hback : zi f len a = a := hstep.trans e
      have hoka : zok L f a = true ↔ L ≤ len := by
        rw [zok_iff]
        constructor
        · intro H
          rcases Nat.lt_or_ge len L with c | c
          · exact absurd hback (H len hlen c)
          · exact c
        · intro H m m1 m2
          exact hj m m1 (by omega)
      have hchain : (∀ j, j < len → zok L f (zi f j a) = true) ↔ L ≤ len := by
        rw [← hoka]
        constructor
        · intro H
          exact H 0 (by omega)
        · intro H j _
          exact (zok_walk h h2 j).mpr H
      by_cases r0 : R = 0
      · subst r0
        rw [if_pos rfl, List.all_nil]
        constructor
        · intro H
          exact ⟨hchain.mp fun j hj => H _ (Or.inr ⟨j, hj, rfl⟩), rfl⟩
        · rintro ⟨H, _⟩ x (hx | ⟨j, j1, rfl⟩)
          · rw [Nat.zero_testBit] at hx; cases hx
          · exact hchain.mpr H j j1
      · rw [if_neg r0]
        have hlo := z_lo_in R hR8 r0
        have hpc := z_pc_xor R hR8 (z_lo R) (z_lo_lt R) hlo
        rw [← ih (R ^^^ 2 ^ z_lo R) (z_lo R) (z_lo R) 1 (by omega) (zJ_close J e hlo) (Nat.le_refl 1) rfl (fun j a1 a2 => by omega)]
        constructor
        · intro H
          refine ⟨hchain.mp fun j hj => H _ (Or.inr ⟨j, hj, rfl⟩), fun x hx => H x (Or.inl ?_)⟩
          rcases hx with hx | ⟨j, j1, j2⟩
          · rw [z_xbit hlo, Bool.and_eq_true] at hx
            exact hx.1
          · obtain rfl : j = 0 := by omega
            rw [j2]
            exact hlo
        · rintro ⟨H1, H2⟩ x (hx | ⟨j, j1, rfl⟩)
          · by_cases ex : x = z_lo R
            · exact H2 x (Or.inr ⟨0, by omega, ex⟩)
            · exact H2 x (Or.inl (by rw [z_xbit hlo, hx]; simp [ex]))
          · exact hchain.mpr H1 j j1
    · rw [if_neg e]
      obtain ⟨hin, J2⟩ := zJ_next h J e
      have hpc := z_pc_xor R hR8 (f c) (by have := (h.1 c h3).2; omega) hin
      rw [← ih (R ^^^ 2 ^ f c) a (f c) (len + 1) (by omega) J2 (by omega) (by rw [Nat.add_sub_cancel]; exact hstep) (fun j a1 a2 => by
        rcases Nat.lt_or_ge j len with q | q
        · exact hj j a1 q
        · obtain rfl : j = len := by omega
          rw [hstep]; exact e)]
      constructor
      · rintro H x (hx | ⟨j, j1, j2⟩)
        · rw [z_xbit hin, Bool.and_eq_true] at hx
          exact H x (Or.inl hx.1)
        · rcases Nat.lt_or_ge j len with q | q
          · exact H x (Or.inr ⟨j, q, j2⟩)
          · obtain rfl : j = len := by omega
            rw [hstep] at j2
            exact H x (Or.inl (by rw [j2]; exact hin))
      · rintro H x (hx | ⟨j, j1, j2⟩)
        · by_cases ex : x = f c
          · exact H x (Or.inr ⟨len, by omega, by rw [hstep]; exact ex⟩)
          · exact H x (Or.inl (by rw [z_xbit hin, hx]; simp [ex]))
        · exact H x (Or.inr ⟨j, by omega, j2⟩)
theorem z_lens_all {n L : Nat} (h0 : 0 < n) (hn : n ≤ 8) {f : Nat → Nat} (h : zper n (fun x => x < n) f) : (∀ x, x < n → zok L f x = true) ↔ (zlens n f).all (fun x => decide (L ≤ x)) = true := by
  rw [zlens, ← z_lens hn h _ ((2 ^ n - 1) ^^^ 1) 0 0 1 rfl (zJ_init f h0) (Nat.le_refl 1) rfl (fun j a b => by omega)]
  have hb : ∀ i, ((2 ^ n - 1) ^^^ 1).testBit i = (decide (i < n) && !(decide (i = 0))) := fun i => by
    have e : (2 ^ n - 1) ^^^ 1 = (2 ^ n - 1) ^^^ 2 ^ 0 := rfl
    rw [e, z_xbit (by rw [Nat.testBit_two_pow_sub_one]; exact decide_eq_true h0), Nat.testBit_two_pow_sub_one]
  constructor
  · rintro H x (hx | ⟨j, j1, j2⟩)
    · rw [hb, Bool.and_eq_true] at hx
      exact H x (by simpa using hx.1)
    · obtain rfl : j = 0 := by omega
      rw [j2]; exact H 0 h0
  · intro H x hx
    by_cases e : x = 0
    · exact H x (Or.inr ⟨0, by omega, e⟩)
    · exact H x (Or.inl (by rw [hb]; simp [hx, e]))
/-! how many rounds: the reference marks them one by one -/
theorem z_all_lt {n : Nat} (hn : n ≤ 8) : 2 ^ n - 1 < 256 := by have := z_2p hn; have := Nat.two_pow_pos n; omega
theorem z_seen_bit {n R i : Nat} (hR : R < 2 ^ n) (hi : i < n) : ((2 ^ n - 1) ^^^ R).testBit i = !(R.testBit i) := by
  rw [Nat.testBit_xor, Nat.testBit_two_pow_sub_one, decide_eq_true hi, Bool.true_xor]
theorem z_seen_mark {n R i : Nat} (hR : R < 2 ^ n) (h : R.testBit i = true) : ((2 ^ n - 1) ^^^ R) ||| 2 ^ i = (2 ^ n - 1) ^^^ (R ^^^ 2 ^ i) := by
  have hi : i < n := z_bit_lt hR h
  rw [z_or_xor (by rw [z_seen_bit hR hi, h]; rfl), Nat.xor_assoc]
theorem y_round_in {n : Nat} (hn : n ≤ 8) {f : Nat → Nat} (h : zper n (fun x => x < n) f) {c6 : Nat → Int32} (hc : ∀ i, i < n → c6 i = hv (f i)) (x1 x3 : Int32) : ∀ (k R a c len : Nat), z_pc R + 1 = k → zJ n f R a c → ∃ (R' len' : Nat), R' < 2 ^ n ∧ (∀ i, R'.testBit i = true → R.testBit i = true) ∧ zp f k R a c len = len' :: (if R' = 0 then [] else zp f (z_pc (R' ^^^ 2 ^ z_lo R') + 1) (R' ^^^ 2 ^ z_lo R') (z_lo R') (z_lo R') 1) ∧ (∀ l, R'.testBit l = true → zJ n f (R' ^^^ 2 ^ l) l l) ∧ ∃ q, ∀ N p, q ≤ N → q ≤ p → ∀ r, f_X1_roundsNow_b33 N (nI n) c6 r p x1 (nI ((2 ^ n - 1) ^^^ R)) x3 (nI (f c)) = r x1 (nI ((2 ^ n - 1) ^^^ R')) (x3 + (1 : Int32)) := by
  intro k
  induction k with
  | zero => intro R a c len hk; omega
  | succ k ih =>
    intro R a c len hk J
    have J0 := J
    obtain ⟨h1, h2, h3, h4, h5, h6⟩ := J0
    have hR8 : R < 256 := Nat.lt_of_lt_of_le h1 (z_2p hn)
    have hx8 : (2 ^ n - 1) ^^^ R < 256 := z_xor_lt (z_all_lt hn) hR8
    have hfc : f c < n := (h.1 c h3).2
    by_cases e : f c = a
    · refine ⟨R, len, h1, fun _ hi => hi, ?_, fun l hl => zJ_close J e hl, 1, fun N p _ hp r => ?_⟩
      · rw [zp, if_pos e]
        by_cases r0 : R = 0
        · rw [if_pos r0, if_pos r0]
        · rw [if_neg r0, if_neg r0]
          have := z_pc_xor R hR8 (z_lo R) (z_lo_lt R) (z_lo_in R hR8 r0)
          rw [show k = z_pc (R ^^^ 2 ^ z_lo R) + 1 by omega]
      · obtain ⟨p, rfl⟩ : ∃ k, p = k + 1 := ⟨p - 1, by omega⟩
        rw [f_X1_roundsNow_b33, if_neg (fun e2 => by
          have := (z_shbit0 hx8 (show f c < 8 by omega)).mp e2
          rw [z_seen_bit h1 hfc, e, h4] at this
          cases this)]
    · obtain ⟨hin, J2⟩ := zJ_next h J e
      have hpc := z_pc_xor R hR8 (f c) (by omega) hin
      obtain ⟨R', len', a1, a2, a3, a4, q, a5⟩ := ih (R ^^^ 2 ^ f c) a (f c) (len + 1) (by omega) J2
      refine ⟨R', len', a1, fun i hi => ?_, by rw [zp, if_neg e]; exact a3, a4, q + 1, fun N p hN hp r => ?_⟩
      · have := a2 i hi
        rw [z_xbit hin, Bool.and_eq_true] at this
        exact this.1
      · obtain ⟨p, rfl⟩ : ∃ k, p = k + 1 := ⟨p - 1, by omega⟩
        have hffc : f (f c) < n := (h.1 _ hfc).2
        rw [f_X1_roundsNow_b33, if_pos ((z_shbit0 hx8 (show f c < 8 by omega)).mpr (by rw [z_seen_bit h1 hfc, hin]; rfl)), z_gxn (show f c < 8 by omega) (by decide), z_shl _ (show f c < 8 by omega), fa_or, z_seen_mark h1 hin, nI_clamp (show f c < 2 ^ 31 by omega), hc _ hfc, hv_in (by omega)]
        exact a5 N p (by omega) (by omega) r
theorem z_cnt (c : Int32) (k : Nat) : c + nI (k + 1) = c + (1 : Int32) + nI k := by rw [nI_succ, Int32.add_comm (nI k), Int32.add_assoc]
theorem y_round_out {n : Nat} (hn : n ≤ 8) {f : Nat → Nat} (h : zper n (fun x => x < n) f) {c6 : Nat → Int32} (hc : ∀ i, i < n → c6 i = hv (f i)) : ∀ (d x R : Nat) (cnt : Int32), x + d = n → R < 2 ^ n → (∀ i, R.testBit i = true → x ≤ i) → (∀ l, R.testBit l = true → zJ n f (R ^^^ 2 ^ l) l l) → Yl (fun N p => f_X1_roundsNow_b6 N (nI n) c6 p cnt (nI ((2 ^ n - 1) ^^^ R)) (nI x)) (cnt + nI (if R = 0 then [] else zp f (z_pc (R ^^^ 2 ^ z_lo R) + 1) (R ^^^ 2 ^ z_lo R) (z_lo R) (z_lo R) 1).length) := by
  intro d
  induction d with
  | zero =>
    intro x R cnt hx hR hge _
    obtain rfl : x = n := by omega
    have r0 : R = 0 := by
      apply Nat.eq_of_testBit_eq
      intro i
      rw [Nat.zero_testBit]
      rcases e : R.testBit i with _ | _
      · rfl
      · have := hge i e
        have := z_bit_lt hR e
        omega
    rw [if_pos r0, List.length_nil, nI_0, Int32.add_zero]
    refine Yl.step ?_
    simp only [f_X1_roundsNow_b6, if_pos (nI_le (Nat.le_refl x) (show x < 2 ^ 31 by omega))]
    exact Yl.pure _
  | succ d ih =>
    intro x R cnt hx hR hge hJ
    have hxn : x < n := by omega
    have hR8 : R < 256 := Nat.lt_of_lt_of_le hR (z_2p hn)
    have hx8 : (2 ^ n - 1) ^^^ R < 256 := z_xor_lt (z_all_lt hn) hR8
    refine Yl.step ?_
    simp only [f_X1_roundsNow_b6, if_neg (nI_ge hxn (show n < 2 ^ 31 by omega)), f_X1_roundsNow_b28]
    by_cases cb : R.testBit x = true
    · -- x is the least that isn't seen: a round begins
      have r0 : R ≠ 0 := fun e => by rw [e, Nat.zero_testBit] at cb; cases cb
      have hlo : z_lo R = x := by
        have h1 := hge _ (z_lo_in R hR8 r0)
        rcases Nat.eq_or_lt_of_le h1 with e | e
        · exact e.symm
        · have := z_lo_min R hR8 x e
          rw [this] at cb; cases cb
      have hpc := z_pc_xor R hR8 x (by omega) cb
      obtain ⟨R', len', a1, a2, a3, a4, q, a5⟩ := y_round_in hn h hc (cnt + (1 : Int32)) (nI x) _ (R ^^^ 2 ^ x) x x 1 rfl (hJ x cb)
      have hih := ih (x + 1) R' (cnt + (1 : Int32)) (by omega) a1 (fun i hi => by
        have h1 := a2 i hi
        rw [z_xbit cb, Bool.and_eq_true] at h1
        have h2 := hge i h1.1
        have h3 : i ≠ x := by simpa using h1.2
        omega) a4
      rw [if_neg r0, hlo, a3, List.length_cons]
      simp only [if_pos ((z_shbit0 hx8 (show x < 8 by omega)).mpr (by rw [z_seen_bit hR hxn, cb]; rfl))]
      refine Yl.eq (g' := fun N p => f_X1_roundsNow_b6 N (nI n) c6 p (cnt + (1 : Int32)) (nI ((2 ^ n - 1) ^^^ R')) (nI x + (1 : Int32))) ⟨q + 1, fun N p hN _ => ?_⟩ ?_
      · obtain ⟨N, rfl⟩ : ∃ k, N = k + 1 := ⟨N - 1, by omega⟩
        rw [f_X1_roundsNow_b33, if_pos ((z_shbit0 hx8 (show x < 8 by omega)).mpr (by rw [z_seen_bit hR hxn, cb]; rfl)), z_gxn (show x < 8 by omega) (by decide), z_shl _ (show x < 8 by omega), fa_or, z_seen_mark hR cb, nI_clamp (show x < 2 ^ 31 by omega), hc _ hxn, hv_in (by have := (h.1 x hxn).2; omega)]
        exact a5 (N + 1) N (by omega) (by omega) _
      · simp only [nI_1]
        rw [z_cnt]
        exact hih
    · have cb2 : R.testBit x = false := by simpa using cb
      have hih := ih (x + 1) R cnt (by omega) hR (fun i hi => by
        have h2 := hge i hi
        have h3 : i ≠ x := fun e => by rw [e, cb2] at hi; cases hi
        omega) hJ
      have hns : ¬ ((nI ((2 ^ n - 1) ^^^ R) >>> (nI x &&& 31)) &&& (1 : Int32)) = 0 := fun e2 => by
        have := (z_shbit0 hx8 (show x < 8 by omega)).mp e2
        rw [z_seen_bit hR hxn, cb2] at this
        cases this
      simp only [if_neg hns]
      refine Yl.eq (g' := fun N p => f_X1_roundsNow_b6 N (nI n) c6 p (cnt + (0 : Int32)) (nI ((2 ^ n - 1) ^^^ R)) (nI x + (1 : Int32))) ⟨1, fun N p hN _ => ?_⟩ ?_
      · obtain ⟨N, rfl⟩ : ∃ k, N = k + 1 := ⟨N - 1, by omega⟩
        rw [f_X1_roundsNow_b33, if_neg hns]
      · simp only [nI_1, Int32.add_zero]
        exact hih
theorem y_roundsNow {n : Nat} (h0 : 0 < n) (hn : n ≤ 8) {f : Nat → Nat} (h : zper n (fun x => x < n) f) {c6 : Nat → Int32} (hc : ∀ i, i < n → c6 i = hv (f i)) : Yd (fun N => f_X1_roundsNow N (nI n) c6) (nI (zlens n f).length) := by
  have e : ∀ n, n < 9 → 0 < n → z_lo (2 ^ n - 1) = 0 ∧ 2 ^ n - 1 ≠ 0 := by decide +kernel
  obtain ⟨e1, e2⟩ := e n (by omega) h0
  have hp := Nat.two_pow_pos n
  have hx := y_round_out hn h hc n 0 (2 ^ n - 1) 0 (by omega) (by omega) (fun i _ => Nat.zero_le i) (fun l hl => by
    have hln : l < n := z_bit_lt (R := 2 ^ n - 1) (by omega) hl
    refine ⟨z_x_lt (by omega) hln, hln, hln, by rw [z_xbit hl]; simp, by rw [z_xbit hl]; simp, fun y hy hyR hyl => ?_⟩
    rw [z_xbit hl, Nat.testBit_two_pow_sub_one] at hyR
    simp [hy, hyl] at hyR)
  rw [if_neg e2, e1, Int32.zero_add, Nat.xor_self] at hx
  simp only [f_X1_roundsNow]
  exact hx.diag
