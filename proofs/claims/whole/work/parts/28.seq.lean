/-! the ways one behind the other, as next() finds them -/
def zNX (n m L : Nat) (c2 : Nat → Int32) (c5 : Int32) : List (Nat → Nat) → (Nat → Int32) → Prop
  | [], c6 => ∃ c', Yd (fun N => f_X1_next N (nI n) (nI L) c2 (nI m) c5 c6) (0, c')
  | f :: rest, c6 => ∃ c', Yd (fun N => f_X1_next N (nI n) (nI L) c2 (nI m) c5 c6) (1, c') ∧ (∀ i, i < n → c' i = hv (f i)) ∧ zNX n m L c2 c5 rest c'
theorem y_old {n m L : Nat} (hn : n ≤ 8) {c2 c6 : Nat → Int32} {c5 : Int32} : ∀ (d k : Nat) (a : Int32), k + d = n → (a = 0 ∨ (a = 1 ∧ ∃ i, k ≤ i ∧ i < n ∧ ¬ c6 i = -6)) → ∀ r, Yl (fun N _ => Option.bind (f_X1_after N (nI n) (-1) (nI n) (nI m)) (fun u => f_X1_next_b62 N (nI n) (nI L) c2 (nI m) c5 N u c6)) r → Yl (fun N q => f_X1_next_b4 N (nI n) (nI L) c2 (nI m) c5 q a (nI k) c6) r := by
  intro d
  induction d with
  | zero =>
    intro k a hk ha r h
    obtain rfl : k = n := by omega
    have ha0 : a = 0 := by
      rcases ha with h | ⟨_, i, h1, h2, _⟩
      · exact h
      · omega
    refine Yl.step ?_
    simp only [f_X1_next_b4, if_pos (nI_le (Nat.le_refl k) (show k < 2 ^ 31 by omega)), if_pos ha0, f_X1_next_b61]
    exact h
  | succ d ih =>
    intro k a hk ha r h
    have hkn : k < n := by omega
    refine Yl.step ?_
    simp only [f_X1_next_b4, if_neg (nI_ge hkn (show n < 2 ^ 31 by omega)), f_X1_next_b31, f_X1_next_b32, nI_1, z_gxn (show k < 8 by omega) (show 8 < 2 ^ 31 by decide), nI_clamp (show k < 2 ^ 31 by omega)]
    rcases ha with h0 | ⟨h1, i, h2, h3, h4⟩
    · simp only [if_pos h0]
      exact ih (k + 1) 0 (by omega) (Or.inl rfl) r h
    · simp only [if_neg (show ¬ a = 0 from fun e => by rw [e] at h1; exact absurd h1 (by decide))]
      by_cases c : c6 k = -6
      · simp only [if_pos c]
        refine ih (k + 1) 1 (by omega) (Or.inr ⟨rfl, i, ?_, h3, h4⟩) r h
        rcases Nat.eq_or_lt_of_le h2 with e | e
        · rw [e] at c; exact absurd c h4
        · exact e
      · simp only [if_neg c]
        exact ih (k + 1) 0 (by omega) (Or.inl rfl) r h
theorem y_fresh {n m L : Nat} (hn : n ≤ 8) {c2 c6 : Nat → Int32} {c5 : Int32} (hf : ∀ i, i < n → c6 i = -6) : ∀ (d k : Nat), k + d = n → ∀ r, Yl (fun N _ => Option.bind (f_X1_after N (-1) 1 (nI n) (nI m)) (fun u => f_X1_next_b62 N (nI n) (nI L) c2 (nI m) c5 N u c6)) r → Yl (fun N q => f_X1_next_b4 N (nI n) (nI L) c2 (nI m) c5 q 1 (nI k) c6) r := by
  intro d
  induction d with
  | zero =>
    intro k hk r h
    obtain rfl : k = n := by omega
    refine Yl.step ?_
    simp only [f_X1_next_b4, if_pos (nI_le (Nat.le_refl k) (show k < 2 ^ 31 by omega)), if_neg (show ¬ (1 : Int32) = 0 by decide), f_X1_next_b61]
    exact h
  | succ d ih =>
    intro k hk r h
    have hkn : k < n := by omega
    refine Yl.step ?_
    simp only [f_X1_next_b4, if_neg (nI_ge hkn (show n < 2 ^ 31 by omega)), if_neg (show ¬ (1 : Int32) = 0 by decide), f_X1_next_b31, f_X1_next_b32, nI_1, z_gxn (show k < 8 by omega) (show 8 < 2 ^ 31 by decide), nI_clamp (show k < 2 ^ 31 by omega), if_pos (hf k hkn)]
    exact ih (k + 1) (by omega) r h
theorem Yl.bind0 {α β : Type} {g : Nat → Option α} {h : Nat → α → Option β} {u : α} {r : β} (h1 : Yd g u) (h2 : Yd (fun N => h N u) r) : Yl (fun N _ => Option.bind (g N) (h N)) r := (Yd.bind h1 h2).lift
theorem z_last {n m x : Nat} {pre : List Nat} (hD : zD n m = (x :: pre).reverse ++ []) : x < n ∧ m.testBit x = true ∧ ∀ i, i < n → m.testBit i = true → i ≤ x := by
  have hx := zD_mem.mp (show x ∈ zD n m by rw [hD]; simp)
  refine ⟨hx.1, hx.2, fun i hi hb => ?_⟩
  have hs := zD_sorted n m
  rw [hD, List.append_nil, List.reverse_cons, List.pairwise_append] at hs
  have hi2 : i ∈ zD n m := zD_mem.mpr ⟨hi, hb⟩
  rw [hD, List.append_nil, List.reverse_cons, List.mem_append] at hi2
  rcases hi2 with h | h
  · exact Nat.le_of_lt (hs.2.2 i h x (List.mem_singleton.mpr rfl))
  · exact Nat.le_of_eq (List.mem_singleton.mp h)
theorem y_next_old {n m L : Nat} (h0 : 0 < n) (hn : n ≤ 8) (hm : m < 256) (hL : L ≤ 8) {bd : Nat → Nat} {c2 : Nat → Int32} (hb : ∀ i, i < n → c2 i = nI (bd i) ∧ bd i < 256) {c5 : Int32} {ok : (Nat → Nat) → Bool} (hok : (c5 = 0 ∧ ok = zoks L (zD n m)) ∨ (¬ c5 = 0 ∧ ok = fun _ => true)) {x : Nat} {pre : List Nat} {f : Nat → Nat} {c6 : Nat → Int32} (V : zvs n (fun x => bd x &&& m) (zD n m) (x :: pre) [] f) (hfx : f x < n) (hc : ∀ i, i < n → c6 i = hv (f i)) : zres n (fun x => bd x &&& m) (zD n m) ok ((zR n (fun x => bd x &&& m) (x :: pre) [] f).filter ok) (Yd (fun N => f_X1_next N (nI n) (nI L) c2 (nI m) c5 c6)) := by
  obtain ⟨hxn, hxb, hmax⟩ := z_last V.1
  have hlast : Yd (fun N => f_X1_after N (nI n) (-1) (nI n) (nI m)) (nI x) := by
    simp only [f_X1_after]
    rcases y_after_dn h0 hn hm n (Nat.le_refl n) with ⟨z, h1, h2, h3, h4⟩ | ⟨h1, _⟩
    · have hz := hmax z h1 h2
      have hzx : z = x := by
        rcases Nat.eq_or_lt_of_le hz with e | e
        · exact e
        · have := h3 x e hxn
          rw [hxb] at this
          cases this
      rw [hzx] at h4
      exact h4.diag
    · have := h1 x hxn
      rw [hxb] at this
      cases this
  refine zres_mono (y_loop h0 hn hm hL hb hok _ x pre [] f c6 (Nat.lt_succ_self _) V hc) (fun r hr => ?_)
  simp only [f_X1_next]
  refine (y_old hn n 0 1 (by omega) (Or.inr ⟨rfl, x, Nat.zero_le x, hxn, ?_⟩) r (Yl.bind0 hlast hr.diag)).diag
  rw [hc x hxn, hv_in (by omega)]
  intro e
  have := nI_pos (n := f x) (by omega)
  rw [e] at this
  exact this (by decide)
theorem y_seq {n m L : Nat} (h0 : 0 < n) (hn : n ≤ 8) (hm : m < 256) (hL : L ≤ 8) {bd : Nat → Nat} {c2 : Nat → Int32} (hb : ∀ i, i < n → c2 i = nI (bd i) ∧ bd i < 256) {c5 : Int32} {ok : (Nat → Nat) → Bool} (hok : (c5 = 0 ∧ ok = zoks L (zD n m)) ∨ (¬ c5 = 0 ∧ ok = fun _ => true)) : ∀ (l : List (Nat → Nat)) (x : Nat) (pre : List Nat) (f : Nat → Nat) (c6 : Nat → Int32), zvs n (fun x => bd x &&& m) (zD n m) (x :: pre) [] f → f x < n → (∀ i, i < n → c6 i = hv (f i)) → (zR n (fun x => bd x &&& m) (x :: pre) [] f).filter ok = l → zNX n m L c2 c5 l c6 := by
  intro l
  induction l with
  | nil =>
    intro x pre f c6 V hfx hc hl
    rcases y_next_old h0 hn hm hL hb hok V hfx hc with ⟨_, c', h⟩ | ⟨f', rest, c', x', pre', h1, _⟩
    · exact ⟨c', h⟩
    · rw [hl] at h1
      cases h1
  | cons f' l ih =>
    intro x pre f c6 V hfx hc hl
    rcases y_next_old h0 hn hm hL hb hok V hfx hc with ⟨h1, _⟩ | ⟨f2, rest, c', x', pre', h1, h2, h3, h4, h5, h6⟩
    · rw [hl] at h1
      cases h1
    · rw [hl] at h1
      cases h1
      exact ⟨c', h2, h3, ih x' pre' f' c' h4 h5 h3 h6⟩
/-- from a fresh start: all the ways -/
theorem y_seq0 {n m L : Nat} (h0 : 0 < n) (hn : n ≤ 8) (hm : m < 256) (hL : L ≤ 8) {bd : Nat → Nat} {c2 : Nat → Int32} (hb : ∀ i, i < n → c2 i = nI (bd i) ∧ bd i < 256) {c5 : Int32} {ok : (Nat → Nat) → Bool} (hok : (c5 = 0 ∧ ok = zoks L (zD n m)) ∨ (¬ c5 = 0 ∧ ok = fun _ => true)) (hne : zD n m ≠ []) {c6 : Nat → Int32} (hc : ∀ i, i < n → c6 i = -6) : zNX n m L c2 c5 ((zW n (fun x => bd x &&& m) (zD n m) z8).filter ok) c6 := by
  obtain ⟨x, suf, hD⟩ : ∃ x suf, zD n m = x :: suf := by
    cases h : zD n m with
    | nil => exact absurd h hne
    | cons x suf => exact ⟨x, suf, rfl⟩
  have hxD := zD_mem.mp (show x ∈ zD n m by rw [hD]; exact List.mem_cons_self)
  have hmin : ∀ i, i < x → m.testBit i = false := fun i hi => by
    rcases e : m.testBit i with _ | _
    · rfl
    · have hs := zD_sorted n m
      rw [hD, List.pairwise_cons] at hs
      have h2 : i ∈ zD n m := zD_mem.mpr ⟨by omega, e⟩
      rw [hD] at h2
      rcases List.mem_cons.mp h2 with h | h
      · omega
      · have := hs.1 i h; omega
  have hu : zu z8 x 8 = z8 := by
    funext j
    by_cases e : j = x
    · rw [e, zu_s]; rfl
    · rw [zu_n _ _ e]
  have hR : zR n (fun x => bd x &&& m) [x] suf z8 = zW n (fun x => bd x &&& m) (zD n m) z8 := by
    rw [zR, zR, List.append_nil, hu, show zst z8 x = 0 from if_pos rfl, zA_0, hD]
  have V : zvs n (fun x => bd x &&& m) (zD n m) [x] suf z8 := ⟨hD, fun _ _ => rfl, fun j hj => absurd hj List.not_mem_nil, fun _ _ => Or.inr rfl, fun f hf => by rw [← hR]; exact hf⟩
  have hfirst : Yd (fun N => f_X1_after N (-1) 1 (nI n) (nI m)) (nI x) := by
    simp only [f_X1_after, show (-1 : Int32) + 1 = nI 0 from by decide]
    exact (y_after_up h0 hn hm (Or.inr hxD) x 0 (by omega) (fun i _ h => hmin i h)).diag
  have hz := y_loop h0 hn hm hL hb hok _ x [] suf z8 c6 (Nat.lt_succ_self _) V (fun i hi => hc i hi)
  rw [hR] at hz
  have hz2 : zres n (fun x => bd x &&& m) (zD n m) ok ((zW n (fun x => bd x &&& m) (zD n m) z8).filter ok) (Yd (fun N => f_X1_next N (nI n) (nI L) c2 (nI m) c5 c6)) := by
    refine zres_mono hz (fun r hr => ?_)
    simp only [f_X1_next]
    exact (y_fresh hn hc n 0 (by omega) r (Yl.bind0 hfirst hr.diag)).diag
  rcases hz2 with ⟨h1, c', h⟩ | ⟨f, rest, c', x', pre', h1, h2, h3, h4, h5, h6⟩
  · rw [h1]
    exact ⟨c', h⟩
  · rw [h1]
    exact ⟨c', h2, h3, y_seq h0 hn hm hL hb hok rest x' pre' f c' h4 h5 h3 h6⟩
theorem y_start (m : Nat) {fl : Int32} (hfl : fl = 0 ∨ fl = 1) (c4 c5 : Int32) (c6 : Nat → Int32) : ∃ c6' : Nat → Int32, (∀ i, i < 8 → c6' i = -6) ∧ Yd (fun N => f_X1_start N (nI m) fl c4 c5 c6) (nI m, fl, c6') := by
  have loop : ∀ (d k : Nat) (c6 : Nat → Int32), k + d = 8 → (∀ i, i < k → c6 i = -6) → ∃ c6' : Nat → Int32, (∀ i, i < 8 → c6' i = -6) ∧ Yl (fun N q => f_X1_start_b12 N q (nI k) (nI m) fl c6) (nI m, fl, c6') := by
    intro d
    induction d with
    | zero =>
      intro k c6 hk h
      obtain rfl : k = 8 := by omega
      refine ⟨c6, h, Yl.step ?_⟩
      simp only [f_X1_start_b12, if_pos (show (8 : Int32) ≤ nI 8 from by decide)]
      exact Yl.pure _
    | succ d ih =>
      intro k c6 hk h
      obtain ⟨c6', h1, h2⟩ := ih (k + 1) (upd c6 k (-6)) (by omega) (fun i hi => by
        by_cases e : i = k
        · rw [e, pk_us]
        · rw [pk_un e]; exact h i (by omega))
      refine ⟨c6', h1, Yl.step ?_⟩
      simp only [f_X1_start_b12, if_neg (show ¬ (8 : Int32) ≤ nI k from nI_ge (b := 8) (by omega) (by decide)), z_gxn (show k < 8 by omega) (show 8 < 2 ^ 31 by decide), nI_clamp (show k < 2 ^ 31 by omega), nI_1]
      exact h2
  obtain ⟨c6', h1, h2⟩ := loop 8 0 c6 (by omega) (fun i hi => by omega)
  refine ⟨c6', h1, ?_⟩
  simp only [f_X1_start, z_gb_in hfl]
  exact h2.diag
