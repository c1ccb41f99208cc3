/-! the reference goes through the ways in order: what is left to go through, at each of its steps -/
def zst (g : Nat → Nat) (x : Nat) : Nat := if g x = 8 then 0 else g x + 1
def zal (n : Nat) (b g : Nat → Nat) (x y : Nat) : Prop := (b x).testBit y = true ∧ ∀ j, j < n → g j ≠ y
def zF1 (n : Nat) (b : Nat → Nat) (suf : List Nat) (g : Nat → Nat) (x y : Nat) : List (Nat → Nat) := if (b x).testBit y = true ∧ (∀ j, j < n → g j ≠ y) then zW n b suf (zu g x y) else []
def zA (n : Nat) (b : Nat → Nat) (suf : List Nat) (g : Nat → Nat) (x y0 : Nat) : List (Nat → Nat) := (List.range' y0 (n - y0)).flatMap (zF1 n b suf g x)
theorem zA_0 (n : Nat) (b : Nat → Nat) (suf : List Nat) (g : Nat → Nat) (x : Nat) : zA n b suf g x 0 = zW n b (x :: suf) g := by
  rw [zA, zW, Nat.sub_zero, ← List.range_eq_range']
  rfl
theorem zA_end (n : Nat) (b : Nat → Nat) (suf : List Nat) (g : Nat → Nat) (x : Nat) : zA n b suf g x n = [] := by
  rw [zA, Nat.sub_self]
  rfl
theorem zA_cons {n : Nat} (b : Nat → Nat) (suf : List Nat) (g : Nat → Nat) (x : Nat) {y : Nat} (h : y < n) : zA n b suf g x y = zF1 n b suf g x y ++ zA n b suf g x (y + 1) := by
  rw [zA, zA, show n - y = (n - (y + 1)) + 1 by omega, List.range'_succ, List.flatMap_cons]
theorem zA_skip {n : Nat} (b : Nat → Nat) (suf : List Nat) (g : Nat → Nat) (x : Nat) : ∀ (d y y1 : Nat), y + d = y1 → y1 ≤ n → (∀ i, y ≤ i → i < y1 → ¬ zal n b g x i) → zA n b suf g x y = zA n b suf g x y1 := by
  intro d
  induction d with
  | zero => intro y y1 h _ _; rw [show y = y1 by omega]
  | succ d ih =>
    intro y y1 h h1 h2
    rw [zA_cons b suf g x (show y < n by omega), ih (y + 1) y1 (by omega) h1 (fun i a c => h2 i (by omega) c), show zF1 n b suf g x y = [] from if_neg (h2 y (Nat.le_refl y) (by omega)), List.nil_append]
/-- what is left to go through: st are those that give, the last one first; suf those behind them -/
def zR (n : Nat) (b : Nat → Nat) : List Nat → List Nat → (Nat → Nat) → List (Nat → Nat)
  | [], _, _ => []
  | x :: pre, suf, g => zA n b suf (zu g x 8) x (zst g x) ++ zR n b pre (x :: suf) (zu g x 8)
def zmu : List Nat → Nat → (Nat → Nat) → Nat
  | [], _, _ => 0
  | x :: pre, k, g => (9 - zst g x) * 10 ^ (k + 1) + zmu pre (k + 1) g
theorem zmu_congr : ∀ (st : List Nat) (k : Nat) (g g' : Nat → Nat), (∀ x, x ∈ st → g x = g' x) → zmu st k g = zmu st k g' := by
  intro st
  induction st with
  | nil => intro k g g' _; rfl
  | cons x pre ih =>
    intro k g g' h
    rw [zmu, zmu, ih (k + 1) g g' (fun z hz => h z (List.mem_cons_of_mem _ hz)), zst, zst, h x List.mem_cons_self]
/-- a step of the search stands well: who gives, who doesn't, and all that is left are ways -/
def zvs (n : Nat) (b : Nat → Nat) (D st suf : List Nat) (g : Nat → Nat) : Prop := D = st.reverse ++ suf ∧ (∀ j, j ∉ st → g j = 8) ∧ (∀ x, x ∈ st.tail → g x < n) ∧ (∀ x, x ∈ st → g x < n ∨ g x = 8) ∧ (∀ f, f ∈ zR n b st suf g → f ∈ zW n b D z8)
/-- what a run of the search from a step answers: the first that is left, and the step behind it -/
def zres (n : Nat) (b : Nat → Nat) (D : List Nat) (ok : (Nat → Nat) → Bool) (l : List (Nat → Nat)) (Y : Int32 × (Nat → Int32) → Prop) : Prop := (l = [] ∧ ∃ c', Y (0, c')) ∨ ∃ (f : Nat → Nat) (rest : List (Nat → Nat)) (c' : Nat → Int32) (x : Nat) (pre : List Nat), l = f :: rest ∧ Y (1, c') ∧ (∀ i, i < n → c' i = hv (f i)) ∧ zvs n b D (x :: pre) [] f ∧ f x < n ∧ (zR n b (x :: pre) [] f).filter ok = rest
theorem zres_mono {n : Nat} {b : Nat → Nat} {D : List Nat} {ok : (Nat → Nat) → Bool} {l : List (Nat → Nat)} {Y Y' : Int32 × (Nat → Int32) → Prop} (h : zres n b D ok l Y) (m : ∀ r, Y r → Y' r) : zres n b D ok l Y' := by
  rcases h with ⟨h1, c', h2⟩ | ⟨f, rest, c', x, pre, h1, h2, h3⟩
  · exact Or.inl ⟨h1, c', m _ h2⟩
  · exact Or.inr ⟨f, rest, c', x, pre, h1, m _ h2, h3⟩
theorem zD_sorted (n m : Nat) : (zD n m).Pairwise (· < ·) := List.Pairwise.filter _ (List.pairwise_lt_range (n := n))
theorem zD_nodup (n m : Nat) : (zD n m).Nodup := (zD_sorted n m).imp (fun h => Nat.ne_of_lt h)
theorem z_scan {n m F : Nat} (hn : n ≤ 8) (hF : F < 256) (c1 c5 : Int32) (c2 c6 : Nat → Int32) (x : Nat) : ∀ (d y : Nat), y + d = n → ∃ y1, y ≤ y1 ∧ y1 ≤ n ∧ (∀ i, y ≤ i → i < y1 → F.testBit i = false) ∧ (y1 = n ∨ F.testBit y1 = true) ∧ ∃ k, ∀ N q, k ≤ N → k ≤ q → ∀ r, f_X1_next_b126 N (nI n) c1 c2 (nI m) c5 r q (nI x) (nI y) (nI F) c6 = f_X1_next_b149 N (nI n) c1 c2 (nI m) c5 r (nI x) (nI y1) c6 := by
  intro d
  induction d with
  | zero =>
    intro y h
    obtain rfl : y = n := by omega
    refine ⟨y, Nat.le_refl y, Nat.le_refl y, fun i a c => by omega, Or.inl rfl, 1, fun N q _ hq r => ?_⟩
    obtain ⟨q, rfl⟩ : ∃ k, q = k + 1 := ⟨q - 1, by omega⟩
    rw [f_X1_next_b126, if_pos (nI_le (Nat.le_refl y) (by omega))]
  | succ d ih =>
    intro y h
    have hyn : y < n := by omega
    by_cases c : F.testBit y = true
    · refine ⟨y, Nat.le_refl y, by omega, fun i a c => by omega, Or.inr c, 1, fun N q _ hq r => ?_⟩
      obtain ⟨q, rfl⟩ : ∃ k, q = k + 1 := ⟨q - 1, by omega⟩
      rw [f_X1_next_b126, if_neg (nI_ge hyn (by omega)), if_neg (fun e => by rw [(z_shbit0 hF (by omega)).mp e] at c; cases c)]
    · have c2 : F.testBit y = false := by simpa using c
      obtain ⟨y1, h1, h2, h3, h4, k, h5⟩ := ih (y + 1) (by omega)
      refine ⟨y1, by omega, h2, fun i a e => ?_, h4, k + 1, fun N q hN hq r => ?_⟩
      · by_cases ei : i = y
        · rw [ei]; exact c2
        · exact h3 i (by omega) e
      · obtain ⟨q, rfl⟩ : ∃ k, q = k + 1 := ⟨q - 1, by omega⟩
        rw [f_X1_next_b126, if_neg (nI_ge hyn (by omega)), if_pos ((z_shbit0 hF (by omega)).mpr c2), nI_1]
        exact h5 N q (by omega) (by omega) r
/-- membership in a list of ways, as a way of D -/
theorem z_per {n m : Nat} (hn : n ≤ 8) {bd : Nat → Nat} {f : Nat → Nat} (h : f ∈ zW n (fun x => bd x &&& m) (zD n m) z8) : zper n (fun x => x ∈ zD n m) f := by
  have h1 := (zW_mem n _ (zD n m) z8 (zD_nodup n m) (fun x hx => (zD_mem.mp hx).1) (fun x _ => hn) f).mp h
  refine ⟨fun x hx => ⟨(zD_mem.mp hx).1, zD_mem.mpr ⟨(h1.2.1 x hx).1, ?_⟩⟩, fun x y hx hy => h1.2.2 x hx y hy⟩
  have h2 := (h1.2.1 x hx).2.1
  rw [Nat.testBit_and, Bool.and_eq_true] at h2
  exact h2.2
set_option maxHeartbeats 2000000 in
theorem y_loop {n m L : Nat} (h0 : 0 < n) (hn : n ≤ 8) (hm : m < 256) (hL : L ≤ 8) {bd : Nat → Nat} {c2 : Nat → Int32} (hb : ∀ i, i < n → c2 i = nI (bd i) ∧ bd i < 256) {c5 : Int32} {ok : (Nat → Nat) → Bool} (hok : (c5 = 0 ∧ ok = zoks L (zD n m)) ∨ (¬ c5 = 0 ∧ ok = fun _ => true)) : ∀ (M : Nat) (x : Nat) (pre suf : List Nat) (g : Nat → Nat) (c6 : Nat → Int32), zmu (x :: pre) suf.length g < M → zvs n (fun x => bd x &&& m) (zD n m) (x :: pre) suf g → (∀ i, i < n → c6 i = hv (g i)) → zres n (fun x => bd x &&& m) (zD n m) ok ((zR n (fun x => bd x &&& m) (x :: pre) suf g).filter ok) (Yl (fun N q => f_X1_next_b62 N (nI n) (nI L) c2 (nI m) c5 q (nI x) c6)) := by
  intro M
  induction M with
  | zero => intro x pre suf g c6 h; omega
  | succ M ih =>
    intro x pre suf g c6 hmu V hc
    have V0 := V
    obtain ⟨hD, v1, v2, v3, v4⟩ := V0
    have hxD : x ∈ zD n m := by rw [hD]; simp
    have hxn : x < n := (zD_mem.mp hxD).1
    have hxm : m.testBit x = true := (zD_mem.mp hxD).2
    -- the order of those before and behind
    have hsort := zD_sorted n m
    rw [hD, List.reverse_cons, List.append_assoc, List.singleton_append, List.pairwise_append] at hsort
    obtain ⟨hs1, hs2, hs3⟩ := hsort
    have hs4 := List.pairwise_cons.mp hs2
    have hpre : ∀ j, j ∈ pre → j < x := fun j hj => hs3 j (List.mem_reverse.mpr hj) x List.mem_cons_self
    have hsuf : ∀ j, j ∈ suf → x < j := fun j hj => hs4.1 j hj
    have hxp : x ∉ pre := fun h => Nat.lt_irrefl x (hpre x h)
    have hDmem : ∀ j, j ∈ zD n m ↔ j = x ∨ j ∈ pre ∨ j ∈ suf := fun j => by
      rw [hD, List.mem_append, List.mem_reverse, List.mem_cons]
      constructor
      · rintro ((h | h) | h)
        · exact Or.inl h
        · exact Or.inr (Or.inl h)
        · exact Or.inr (Or.inr h)
      · rintro (h | h | h)
        · exact Or.inl (Or.inl h)
        · exact Or.inl (Or.inr h)
        · exact Or.inr h
    have hg8 : ∀ j, g j ≤ 8 := fun j => by
      by_cases h : j ∈ x :: pre
      · rcases v3 j h with e | e <;> omega
      · rw [v1 j h]; exact Nat.le_refl 8
    have hsx : zst g x ≤ n := by
      unfold zst
      rcases v3 x List.mem_cons_self with e | e
      · rw [if_neg (by omega)]; omega
      · rw [if_pos e]; omega
    -- those that give without x
    have hg0 : ∀ j, zu g x 8 j ≤ 8 := fun j => by
      by_cases e : j = x
      · rw [e, zu_s]; exact Nat.le_refl 8
      · rw [zu_n g 8 e]; exact hg8 j
    have hc0 : ∀ i, i < n → upd c6 x (-6) i = hv (zu g x 8 i) := fun i hi => by
      by_cases e : i = x
      · rw [e, pk_us, zu_s, hv_8]
      · rw [pk_un e, zu_n g 8 e]; exact hc i hi
    have hgm := zgm_lt (zu g x 8) n
    have hbx := (hb x hxn).2
    have hF : (bd x &&& m) &&& (255 ^^^ zgm (zu g x 8) n) < 256 := Nat.lt_of_le_of_lt (Nat.le_trans Nat.and_le_left Nat.and_le_left) hbx
    have hFbit : ∀ y, y < 8 → (((bd x &&& m) &&& (255 ^^^ zgm (zu g x 8) n)).testBit y = true ↔ zal n (fun x => bd x &&& m) (zu g x 8) x y) := fun y hy => by
      have h255 : (255 : Nat).testBit y = true := by
        have : ∀ y, y < 8 → (255 : Nat).testBit y = true := by decide +kernel
        exact this y hy
      rw [Nat.testBit_and, Bool.and_eq_true, Nat.testBit_xor, h255, zal]
      constructor
      · rintro ⟨a, c⟩
        refine ⟨a, fun j hj e => ?_⟩
        rw [(zgm_bit (zu g x 8) n hy).mpr ⟨j, hj, e⟩] at c
        cases c
      · rintro ⟨a, c⟩
        refine ⟨a, ?_⟩
        rcases e : (zgm (zu g x 8) n).testBit y with _ | _
        · rfl
        · obtain ⟨j, h1, h2⟩ := (zgm_bit (zu g x 8) n hy).mp e
          exact absurd h2 (c j h1)
    obtain ⟨y1, s1, s2, s3, s4, ks, s5⟩ := z_scan (m := m) hn hF (nI L) c5 c2 (upd c6 x (-6)) x (n - zst g x) (zst g x) (by omega)
    have s3' : ∀ i, zst g x ≤ i → i < y1 → ¬ zal n (fun x => bd x &&& m) (zu g x 8) x i := fun i a c h => by
      have := (hFbit i (by omega)).mpr h
      rw [s3 i a c] at this
      cases this
    -- the machine's way to the getter that was found
    have hstep : ∀ r, Yl (fun N q => f_X1_next_b149 N (nI n) (nI L) c2 (nI m) c5 (f_X1_next_b62 N (nI n) (nI L) c2 (nI m) c5 q) (nI x) (nI y1) (upd c6 x (-6))) r → Yl (fun N q => f_X1_next_b62 N (nI n) (nI L) c2 (nI m) c5 q (nI x) c6) r := by
      intro r hr
      have h97 : Yl (fun N q => f_X1_next_b97 N (nI n) (nI L) c2 (nI m) c5 (f_X1_next_b62 N (nI n) (nI L) c2 (nI m) c5 q) (nI x) (nI (zst g x)) c6) r := by
        simp only [f_X1_next_b97, z_gxn (show x < 8 by omega) (show 8 < 2 ^ 31 by decide), nI_clamp (show x < 2 ^ 31 by omega)]
        have hgot : Yd (fun N => f_X1_gotten N (nI n) (upd c6 x (-6))) (nI (zgm (zu g x 8) n)) := by
          simp only [f_X1_gotten]
          exact (y_gotten hn (g := zu g x 8) (fun i hi => ⟨hc0 i hi, hg0 i⟩) n 0 (by omega)).diag
        refine Yl.bind hgot ?_
        simp only [(hb x hxn).1, fa_and, z_not (show bd x &&& m < 256 from Nat.lt_of_le_of_lt Nat.and_le_left hbx) hgm]
        exact Yl.eq ⟨ks, fun N q hN _ => s5 N N hN hN _⟩ hr
      refine Yl.step ?_
      simp only [f_X1_next_b62, y_in _ hn hxn, z_bs, if_neg (show ¬ (1 : Int32) = 0 by decide), z_gxn (show x < 8 by omega) (show 8 < 2 ^ 31 by decide), nI_clamp (show x < 2 ^ 31 by omega), hc x hxn]
      by_cases e : g x = 8
      · rw [zst, if_pos e] at h97
        simp only [if_neg (show ¬ 0 ≤ hv (g x) from fun h => by have := (hv_nn (hg8 x)).mp h; omega)]
        exact h97
      · rw [zst, if_neg e] at h97
        have h8 : g x < 8 := by have := hg8 x; omega
        simp only [hv_in h8, if_pos (show 0 ≤ nI (g x) from nI_pos' (by omega)), nI_1]
        exact h97
    have hin : x ∈ x :: pre := List.mem_cons_self
    by_cases hy : y1 = n
    · -- none is left for x: back to the one before it
      have hA : zA n (fun x => bd x &&& m) suf (zu g x 8) x (zst g x) = [] := by
        rw [zA_skip _ suf _ x (y1 - zst g x) (zst g x) y1 (by omega) s2 s3', hy, zA_end]
      have hgo : ∀ (u : Int32) r, Yl (fun N k => f_X1_after_b4 N (nI n) (nI m) k (-1) (nI x + (-1 : Int32))) u → Yl (fun N q => f_X1_next_b62 N (nI n) (nI L) c2 (nI m) c5 q u (upd c6 x (-6))) r → Yl (fun N q => f_X1_next_b62 N (nI n) (nI L) c2 (nI m) c5 q (nI x) c6) r := by
        intro u r ha hr
        apply hstep
        simp only [f_X1_next_b149, if_pos (congrArg nI hy), f_X1_next_b210]
        refine Yl.bind (u := u) ?_ hr
        simp only [f_X1_after]
        exact ha.diag
      rw [zR, hA, List.nil_append]
      cases pre with
      | nil =>
        rw [zR]
        refine Or.inl ⟨rfl, upd c6 x (-6), ?_⟩
        rcases y_after_dn h0 hn hm x (by omega) with ⟨z, h1, h2, _, _⟩ | ⟨_, h2⟩
        · have := (hDmem z).mp (zD_mem.mpr ⟨by omega, h2⟩)
          rcases this with h | h | h
          · omega
          · cases h
          · have := hsuf z h; omega
        · refine hgo _ _ h2 (Yl.step ?_)
          simp only [f_X1_next_b62, y_in0 (a := -1) _ h0 hn (Or.inl (by decide)), z_bs, if_true]
          exact Yl.pure _
      | cons x' pre' =>
        have hx'x : x' < x := hpre x' List.mem_cons_self
        have hx'D : x' ∈ zD n m := (hDmem x').mpr (Or.inr (Or.inl List.mem_cons_self))
        have hz : Yl (fun N k => f_X1_after_b4 N (nI n) (nI m) k (-1) (nI x + (-1 : Int32))) (nI x') := by
          rcases y_after_dn h0 hn hm x (by omega) with ⟨z, h1, h2, h3, h4⟩ | ⟨h1, _⟩
          · have hzx : z = x' := by
              rcases (hDmem z).mp (zD_mem.mpr ⟨by omega, h2⟩) with h | h | h
              · omega
              · rcases List.mem_cons.mp h with h | h
                · exact h
                · have hlt : z < x' := by
                    have q := hs1
                    rw [List.reverse_cons, List.pairwise_append] at q
                    exact q.2.2 z (List.mem_reverse.mpr h) x' (List.mem_singleton.mpr rfl)
                  have := h3 x' hlt hx'x
                  rw [(zD_mem.mp hx'D).2] at this
                  cases this
              · have := hsuf z h; omega
            rw [hzx] at h4
            exact h4
          · have := h1 x' hx'x
            rw [(zD_mem.mp hx'D).2] at this
            cases this
        have hne : ∀ j, j ∈ x' :: pre' → j ≠ x := fun j hj e => hxp (e ▸ hj)
        refine zres_mono (ih x' pre' (x :: suf) (zu g x 8) (upd c6 x (-6)) ?_ ?_ hc0) (fun r hr => hgo _ _ hz hr)
        · have e1 : zmu (x' :: pre') (x :: suf).length (zu g x 8) = zmu (x' :: pre') (suf.length + 1) g := zmu_congr _ _ _ _ (fun z hz => zu_n g 8 (hne z hz))
          rw [e1]
          rw [zmu] at hmu
          have : 0 < (9 - zst g x) * 10 ^ (suf.length + 1) := Nat.mul_pos (by omega) (Nat.pow_pos (by decide))
          omega
        · refine ⟨by rw [hD]; simp, fun j hj => ?_, fun j hj => ?_, fun j hj => ?_, fun f hf => ?_⟩
          · by_cases e : j = x
            · rw [e, zu_s]
            · rw [zu_n g 8 e]
              exact v1 j (fun h => (List.mem_cons.mp h).elim e hj)
          · rw [zu_n g 8 (hne j (List.mem_cons_of_mem _ hj))]
            exact v2 j (List.mem_cons_of_mem _ hj)
          · rw [zu_n g 8 (hne j hj)]
            exact Or.inl (v2 j hj)
          · apply v4
            rw [zR, hA, List.nil_append]
            exact hf
    · -- y1 is the next getter of x
      have hy1 : y1 < n := by omega
      have hal : zal n (fun x => bd x &&& m) (zu g x 8) x y1 := (hFbit y1 (by omega)).mp (s4.resolve_left hy)
      have hg1 : zu (zu (zu g x 8) x y1) x 8 = zu g x 8 := by
        funext j
        by_cases e : j = x
        · rw [e, zu_s, zu_s]
        · rw [zu_n _ _ e, zu_n _ _ e]
      have hst1 : zst (zu (zu g x 8) x y1) x = y1 + 1 := by rw [zst, zu_s, if_neg (by omega)]
      have hRR : zR n (fun x => bd x &&& m) (x :: pre) suf g = zW n (fun x => bd x &&& m) suf (zu (zu g x 8) x y1) ++ zR n (fun x => bd x &&& m) (x :: pre) suf (zu (zu g x 8) x y1) := by
        rw [zR, zR, hg1, hst1, zA_skip _ suf _ x (y1 - zst g x) (zst g x) y1 (by omega) s2 s3', zA_cons _ suf _ x hy1, show zF1 n (fun x => bd x &&& m) suf (zu g x 8) x y1 = zW n (fun x => bd x &&& m) suf (zu (zu g x 8) x y1) from if_pos hal, List.append_assoc]
      have hc1 : ∀ i, i < n → upd (upd c6 x (-6)) x (nI y1) i = hv (zu (zu g x 8) x y1 i) := fun i hi => by
        by_cases e : i = x
        · rw [e, pk_us, zu_s, hv_in (by omega)]
        · rw [pk_un e, zu_n _ _ e]; exact hc0 i hi
      have hoff : ∀ j, j ∉ x :: pre → zu (zu g x 8) x y1 j = 8 := fun j hj => by
        have e : j ≠ x := fun e => hj (e ▸ List.mem_cons_self)
        rw [zu_n _ _ e, zu_n _ _ e]
        exact v1 j hj
      have hon : ∀ j, j ∈ pre → zu (zu g x 8) x y1 j < n := fun j hj => by
        have e : j ≠ x := fun e => hxp (e ▸ hj)
        rw [zu_n _ _ e, zu_n _ _ e]
        exact v2 j hj
      have hnx : zu (zu g x 8) x y1 x < n := by rw [zu_s]; exact hy1
      have hmu1 : zmu (x :: pre) suf.length (zu (zu g x 8) x y1) + 10 ^ (suf.length + 1) ≤ zmu (x :: pre) suf.length g := by
        rw [zmu, zmu, hst1, zmu_congr pre _ (zu (zu g x 8) x y1) g (fun z hz => by
          have e : z ≠ x := fun e => hxp (e ▸ hz)
          rw [zu_n _ _ e, zu_n _ _ e])]
        have e1 : (9 - zst g x) * 10 ^ (suf.length + 1) = (9 - zst g x - 1) * 10 ^ (suf.length + 1) + 10 ^ (suf.length + 1) := by
          obtain ⟨q, hq⟩ : ∃ q, 9 - zst g x = q + 1 := ⟨9 - zst g x - 1, by omega⟩
          rw [hq, Nat.add_sub_cancel, Nat.succ_mul]
        have e2 : (9 - (y1 + 1)) * 10 ^ (suf.length + 1) ≤ (9 - zst g x - 1) * 10 ^ (suf.length + 1) := Nat.mul_le_mul_right _ (by omega)
        omega
      have hvs1 : zvs n (fun x => bd x &&& m) (zD n m) (x :: pre) suf (zu (zu g x 8) x y1) := by
        refine ⟨hD, hoff, hon, fun j hj => ?_, fun f hf => v4 f ?_⟩
        · rcases List.mem_cons.mp hj with e | e
          · rw [e]; exact Or.inl hnx
          · exact Or.inl (hon j e)
        · rw [hRR]
          exact List.mem_append_right _ hf
      cases suf with
      | nil =>
        have hup : Yd (fun N => f_X1_after N (nI x) 1 (nI n) (nI m)) (nI n) := by
          simp only [f_X1_after, nI_1]
          refine (y_after_up h0 hn hm (Or.inl rfl) (n - (x + 1)) (x + 1) (by omega) (fun i h1 h2 => ?_)).diag
          rcases e : m.testBit i with _ | _
          · rfl
          · rcases (hDmem i).mp (zD_mem.mpr ⟨h2, e⟩) with h | h | h
            · omega
            · have := hpre i h; omega
            · cases h
        have hf : zu (zu g x 8) x y1 ∈ zW n (fun x => bd x &&& m) (zD n m) z8 := v4 _ (by rw [hRR, zW]; exact List.mem_cons_self)
        have hlong := y_areLong (L := L) hn hm hL (z_per hn hf) hc1
        rw [hRR, zW, List.singleton_append]
        -- the machine at a leaf
        have hleaf : ∀ r, (ok (zu (zu g x 8) x y1) = true → r = ((1 : Int32), upd (upd c6 x (-6)) x (nI y1))) → (ok (zu (zu g x 8) x y1) = false → Yl (fun N q => f_X1_next_b62 N (nI n) (nI L) c2 (nI m) c5 q (nI x) (upd (upd c6 x (-6)) x (nI y1))) r) → Yl (fun N q => f_X1_next_b62 N (nI n) (nI L) c2 (nI m) c5 q (nI x) c6) r := by
          intro r hr1 hr2
          apply hstep
          simp only [f_X1_next_b149, if_neg (show ¬ nI y1 = nI n from fun e => hy ((nI_eq (by omega) (by omega)).mp e)), z_gxn (show x < 8 by omega) (show 8 < 2 ^ 31 by decide), nI_clamp (show x < 2 ^ 31 by omega), f_X1_next_b210]
          refine Yl.bind hup ?_
          simp only [if_true]
          rcases hok with ⟨c50, hok⟩ | ⟨c50, hok⟩
          · simp only [if_pos c50]
            refine Yl.bind hlong ?_
            rw [hok] at hr1 hr2
            by_cases co : zoks L (zD n m) (zu (zu g x 8) x y1) = true
            · simp only [if_pos co, if_neg (show ¬ (1 : Int32) = 0 by decide)]
              rw [hr1 co]
              exact Yl.pure _
            · simp only [if_neg co, if_true]
              exact hr2 (by simpa using co)
          · simp only [if_neg c50]
            rw [hok] at hr1
            rw [hr1 rfl]
            exact Yl.pure _
        by_cases co : ok (zu (zu g x 8) x y1) = true
        · rw [List.filter_cons_of_pos co]
          exact Or.inr ⟨_, _, upd (upd c6 x (-6)) x (nI y1), x, pre, rfl, hleaf _ (fun _ => rfl) (fun h => by rw [co] at h; cases h), hc1, hvs1, hnx, rfl⟩
        · rw [List.filter_cons_of_neg co]
          refine zres_mono (ih x pre [] (zu (zu g x 8) x y1) (upd (upd c6 x (-6)) x (nI y1)) ?_ hvs1 hc1) (fun r hr => hleaf r (fun h => absurd h co) (fun _ => hr))
          have : 0 < 10 ^ (([] : List Nat).length + 1) := Nat.pow_pos (by decide)
          omega
      | cons z suf' =>
        have hxz : x < z := hsuf z List.mem_cons_self
        have hzD : z ∈ zD n m := (hDmem z).mpr (Or.inr (Or.inr List.mem_cons_self))
        have hzn : z < n := (zD_mem.mp hzD).1
        have hup : Yd (fun N => f_X1_after N (nI x) 1 (nI n) (nI m)) (nI z) := by
          simp only [f_X1_after, nI_1]
          refine (y_after_up h0 hn hm (Or.inr ⟨hzn, (zD_mem.mp hzD).2⟩) (z - (x + 1)) (x + 1) (by omega) (fun i h1 h2 => ?_)).diag
          rcases e : m.testBit i with _ | _
          · rfl
          · rcases (hDmem i).mp (zD_mem.mpr ⟨by omega, e⟩) with h | h | h
            · omega
            · have := hpre i h; omega
            · rcases List.mem_cons.mp h with h | h
              · omega
              · have := (List.pairwise_cons.mp hs4.2).1 i h
                omega
        have hzst : z ∉ x :: pre := fun h => by
          rcases List.mem_cons.mp h with h | h
          · omega
          · have := hpre z h; omega
        have hz8 : zu (zu g x 8) x y1 z = 8 := hoff z hzst
        have hg2 : zu (zu (zu g x 8) x y1) z 8 = zu (zu g x 8) x y1 := by
          funext j
          by_cases e : j = z
          · rw [e, zu_s, hz8]
          · rw [zu_n _ _ e]
        have hR2 : zR n (fun x => bd x &&& m) (z :: x :: pre) suf' (zu (zu g x 8) x y1) = zR n (fun x => bd x &&& m) (x :: pre) (z :: suf') g := by
          rw [hRR, zR, hg2, show zst (zu (zu g x 8) x y1) z = 0 from if_pos hz8, zA_0]
        rw [← hR2]
        refine zres_mono (ih z (x :: pre) suf' (zu (zu g x 8) x y1) (upd (upd c6 x (-6)) x (nI y1)) ?_ ?_ hc1) (fun r hr => ?_)
        · have e1 : zmu (z :: x :: pre) suf'.length (zu (zu g x 8) x y1) = 9 * 10 ^ (suf'.length + 1) + zmu (x :: pre) (suf'.length + 1) (zu (zu g x 8) x y1) := by
            rw [zmu, show zst (zu (zu g x 8) x y1) z = 0 from if_pos hz8]
          have e2 : 10 ^ (suf'.length + 1 + 1) = 10 * 10 ^ (suf'.length + 1) := by rw [Nat.pow_succ, Nat.mul_comm]
          have e3 : 0 < 10 ^ (suf'.length + 1) := Nat.pow_pos (by decide)
          simp only [List.length_cons] at hmu1 hmu
          rw [e1]
          omega
        · refine ⟨by rw [hD]; simp, fun j hj => hoff j (fun h => hj (List.mem_cons_of_mem _ h)), fun j hj => ?_, fun j hj => ?_, fun f hf => v4 f (by rw [← hR2]; exact hf)⟩
          · rcases List.mem_cons.mp hj with e | e
            · rw [e]; exact hnx
            · exact hon j e
          · rcases List.mem_cons.mp hj with e | e
            · rw [e]; exact Or.inr hz8
            · rcases List.mem_cons.mp e with e | e
              · rw [e]; exact Or.inl hnx
              · exact Or.inl (hon j e)
        · apply hstep
          simp only [f_X1_next_b149, if_neg (show ¬ nI y1 = nI n from fun e => hy ((nI_eq (by omega) (by omega)).mp e)), z_gxn (show x < 8 by omega) (show 8 < 2 ^ 31 by decide), nI_clamp (show x < 2 ^ 31 by omega), f_X1_next_b210]
          refine Yl.bind hup ?_
          simp only [if_neg (show ¬ nI z = nI n from fun e => by have := (nI_eq (by omega) (by omega)).mp e; omega)]
          exact hr
