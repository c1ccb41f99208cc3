/-! the sum over the ways by their rounds is the sum along the rounds -/
abbrev zag (n : Nat) (g f : Nat → Nat) : Prop := ∀ i, i < n → g i = 8 ∨ f i = g i
/-- a list of all ways by the rows, whatever rounds -/
def zall (n : Nat) (rows : Nat → Nat) (W : List (Nat → Nat)) : Prop := W.Nodup ∧ ∀ f, f ∈ W ↔ (∀ i, n ≤ i → f i = 8) ∧ (∀ i, i < n → f i < n ∧ (rows i).testBit (f i) = true) ∧ (∀ i j, i < n → j < n → f i = f j → i = j)
theorem zall_zW (n : Nat) (hn : n ≤ 8) (rows : Nat → Nat) : zall n rows (zW n rows (List.range n) z8) := by
  have h1 := List.nodup_range (n := n)
  have h2 : ∀ x, x ∈ List.range n → x < n := fun x h => List.mem_range.mp h
  have h3 : ∀ x, x ∈ List.range n → n ≤ z8 x := fun x _ => hn
  refine ⟨zW_nodup n rows _ z8 h1 h2 h3, fun f => ?_⟩
  rw [zW_mem n rows _ z8 h1 h2 h3]
  constructor
  · rintro ⟨a, b, c⟩
    refine ⟨fun i hi => a i (fun h => by have := h2 i h; omega), fun i hi => ⟨(b i (List.mem_range.mpr hi)).1, (b i (List.mem_range.mpr hi)).2.1⟩, fun i j hi hj => c i (List.mem_range.mpr hi) j (List.mem_range.mpr hj)⟩
  · rintro ⟨a, b, c⟩
    refine ⟨fun i hi => a i (Nat.not_lt.mp fun h => hi (List.mem_range.mpr h)), fun i hi => ⟨(b i (h2 i hi)).1, (b i (h2 i hi)).2, fun j hj hjD => absurd (List.mem_range.mpr hj) hjD⟩, fun i hi j hj => c i j (h2 i hi) (h2 j hj)⟩
theorem zag_split {n : Nat} (hn : n ≤ 8) {W : List (Nat → Nat)} (hW : ∀ f, f ∈ W → ∀ i, i < n → f i < n) {g : Nat → Nat} {c : Nat} (hc : c < n) (hg : g c = 8) (φ : (Nat → Nat) → Int32) : zl W (fun f => if zag n g f then φ f else 0) = zs n (fun y => zl W (fun f => if zag n (zu g c y) f then φ f else 0)) := by
  rw [← zl_swap]
  apply zl_congr
  intro f hf
  have hfc := hW f hf c hc
  rw [zs_single (f c) hfc]
  · by_cases h : zag n g f
    · rw [if_pos h, if_pos]
      intro i hi
      by_cases e : i = c
      · subst e; exact Or.inr (zu_s g i (f i)).symm
      · rw [zu_n g _ e]; exact h i hi
    · rw [if_neg h, if_neg]
      intro h2
      apply h
      intro i hi
      by_cases e : i = c
      · subst e; exact Or.inl hg
      · have := h2 i hi
        rwa [zu_n g _ e] at this
  · intro i hi hne
    rw [if_neg]
    intro h2
    have := h2 c hc
    rw [zu_s] at this
    rcases this with h | h
    · omega
    · exact hne h.symm
/-- what is known of the part of a way that is laid already: closed rounds, and a chain from a to c; R are those whom no one has met -/
def zinv (n : Nat) (rows : Nat → Nat) (g : Nat → Nat) (R a c : Nat) : Prop :=
  R < 2 ^ n ∧ a < n ∧ c < n ∧ R.testBit a = false ∧ R.testBit c = false ∧ (∀ i, i < n → (g i = 8 ↔ (R.testBit i = true ∨ i = c))) ∧ (∀ i, n ≤ i → g i = 8) ∧ (∀ i, i < n → g i ≠ 8 → g i < n ∧ (rows i).testBit (g i) = true) ∧ (∀ i j, i < n → j < n → g i ≠ 8 → g i = g j → i = j) ∧ (∀ y, y < n → R.testBit y = false → y ≠ a → ∃ i, i < n ∧ g i = y) ∧ (∀ i, i < n → g i ≠ 8 → R.testBit (g i) = false ∧ g i ≠ a)
theorem z_xbit {R t i : Nat} (h : R.testBit t = true) : (R ^^^ 2 ^ t).testBit i = (R.testBit i && !(decide (i = t))) := by
  rw [Nat.testBit_xor, Nat.testBit_two_pow]
  by_cases e : t = i
  · subst e; simp [h]
  · have e2 : ¬ i = t := fun h => e h.symm
    simp [e, e2]
theorem z_bit_lt {R n t : Nat} (hR : R < 2 ^ n) (h : R.testBit t = true) : t < n := by
  rcases Nat.lt_or_ge t n with c | c
  · exact c
  · rw [Nat.testBit_lt_two_pow (Nat.lt_of_lt_of_le hR (show 2 ^ n ≤ 2 ^ t from Nat.pow_le_pow_right (by decide) c))] at h
    cases h
theorem z_x_lt {R n t : Nat} (hR : R < 2 ^ n) (ht : t < n) : R ^^^ 2 ^ t < 2 ^ n := Nat.xor_lt_two_pow hR (Nat.pow_lt_pow_right (by decide) ht)
theorem zinv_ext {n : Nat} {rows g : Nat → Nat} {R a c y : Nat} (hn : n ≤ 8) (I : zinv n rows g R a c) (hy : R.testBit y = true) (hr : (rows c).testBit y = true) : zinv n rows (zu g c y) (R ^^^ 2 ^ y) a y := by
  obtain ⟨h1, h2, h3, h4, h5, h6, h7, h8, h9, h10, h11⟩ := I
  have hyn : y < n := z_bit_lt h1 hy
  have hgc : g c = 8 := (h6 c h3).mpr (Or.inr rfl)
  have hya : y ≠ a := fun e => by rw [e, h4] at hy; cases hy
  have hyc : y ≠ c := fun e => by rw [e, h5] at hy; cases hy
  refine ⟨z_x_lt h1 hyn, h2, hyn, ?_, ?_, ?_, ?_, ?_, ?_, ?_, ?_⟩
  · rw [z_xbit hy, h4]; rfl
  · rw [z_xbit hy]; simp
  · intro i hi
    rw [z_xbit hy]
    by_cases e : i = c
    · subst e
      rw [zu_s, h5]
      constructor
      · intro e2; omega
      · rintro (h | h)
        · cases h
        · exact absurd h.symm hyc
    · rw [zu_n g y e, h6 i hi]
      by_cases e2 : i = y
      · subst e2; simp [hy]
      · simp [e2, e]
  · intro i hi
    rw [zu_n g y (by omega)]
    exact h7 i hi
  · intro i hi hne
    by_cases e : i = c
    · subst e; rw [zu_s]; exact ⟨hyn, hr⟩
    · rw [zu_n g y e] at hne ⊢; exact h8 i hi hne
  · intro i j hi hj hne e
    by_cases ei : i = c
    · by_cases ej : j = c
      · rw [ei, ej]
      · rw [ei, zu_s, zu_n g y ej] at e
        have := (h11 j hj (by rw [← e]; omega)).1
        rw [← e, hy] at this; cases this
    · rw [zu_n g y ei] at e hne
      by_cases ej : j = c
      · rw [ej, zu_s] at e
        have := (h11 i hi hne).1
        rw [e, hy] at this; cases this
      · rw [zu_n g y ej] at e
        exact h9 i j hi hj hne e
  · intro z hz hzR hza
    rw [z_xbit hy] at hzR
    by_cases e : z = y
    · exact ⟨c, h3, by rw [zu_s, e]⟩
    · have : R.testBit z = false := by simpa [e] using hzR
      obtain ⟨i, hi, hg⟩ := h10 z hz this hza
      refine ⟨i, hi, ?_⟩
      rw [zu_n g y (fun e2 => by rw [e2, hgc] at hg; omega)]
      exact hg
  · intro i hi hne
    by_cases e : i = c
    · subst e; rw [zu_s, z_xbit hy]; exact ⟨by simp, hya⟩
    · rw [zu_n g y e] at hne ⊢
      have := h11 i hi hne
      rw [z_xbit hy, this.1]
      exact ⟨rfl, this.2⟩
theorem zinv_close {n : Nat} {rows g : Nat → Nat} {R a c l : Nat} (hn : n ≤ 8) (I : zinv n rows g R a c) (hl : R.testBit l = true) (hr : (rows c).testBit a = true) : zinv n rows (zu g c a) (R ^^^ 2 ^ l) l l := by
  obtain ⟨h1, h2, h3, h4, h5, h6, h7, h8, h9, h10, h11⟩ := I
  have hln : l < n := z_bit_lt h1 hl
  have hgc : g c = 8 := (h6 c h3).mpr (Or.inr rfl)
  have hla : l ≠ a := fun e => by rw [e, h4] at hl; cases hl
  have hlc : l ≠ c := fun e => by rw [e, h5] at hl; cases hl
  refine ⟨z_x_lt h1 hln, hln, hln, ?_, ?_, ?_, ?_, ?_, ?_, ?_, ?_⟩
  · rw [z_xbit hl]; simp
  · rw [z_xbit hl]; simp
  · intro i hi
    rw [z_xbit hl]
    by_cases e : i = c
    · subst e
      rw [zu_s, h5]
      constructor
      · intro e2; omega
      · rintro (h | h)
        · cases h
        · exact absurd h.symm hlc
    · rw [zu_n g a e, h6 i hi]
      by_cases e2 : i = l
      · subst e2; simp [hl]
      · simp [e2, e]
  · intro i hi
    rw [zu_n g a (by omega)]
    exact h7 i hi
  · intro i hi hne
    by_cases e : i = c
    · subst e; rw [zu_s]; exact ⟨h2, hr⟩
    · rw [zu_n g a e] at hne ⊢; exact h8 i hi hne
  · intro i j hi hj hne e
    by_cases ei : i = c
    · by_cases ej : j = c
      · rw [ei, ej]
      · rw [ei, zu_s, zu_n g a ej] at e
        exact absurd e.symm (h11 j hj (by rw [← e]; omega)).2
    · rw [zu_n g a ei] at e hne
      by_cases ej : j = c
      · rw [ej, zu_s] at e
        exact absurd e (h11 i hi hne).2
      · rw [zu_n g a ej] at e
        exact h9 i j hi hj hne e
  · intro z hz hzR hzl
    rw [z_xbit hl] at hzR
    have hzR2 : R.testBit z = false := by simpa [hzl] using hzR
    by_cases e : z = a
    · exact ⟨c, h3, by rw [zu_s, e]⟩
    · obtain ⟨i, hi, hg⟩ := h10 z hz hzR2 e
      refine ⟨i, hi, ?_⟩
      rw [zu_n g a (fun e2 => by rw [e2, hgc] at hg; omega)]
      exact hg
  · intro i hi hne
    by_cases e : i = c
    · subst e; rw [zu_s, z_xbit hl, h4]; exact ⟨rfl, fun e2 => hla e2.symm⟩
    · rw [zu_n g a e] at hne ⊢
      have := h11 i hi hne
      rw [z_xbit hl, this.1]
      exact ⟨rfl, fun e2 => by rw [e2, hl] at this; cases this.1⟩
set_option maxHeartbeats 1000000 in
/-- THE SUM over the ways that agree with what is laid is the sum along the rounds -/
theorem zT1 {n L : Nat} (hn : n ≤ 8) {rows : Nat → Nat} {W : List (Nat → Nat)} (hW : zall n rows W) : ∀ (k : Nat) (w : Nat → Int32) (R a c len : Nat) (g : Nat → Nat), z_pc R + 1 = k → zinv n rows g R a c → zl W (fun f => if zag n g f then zpsi L w (zp f k R a c len) else 0) = zG n L rows k w R a c len := by
  intro k
  induction k with
  | zero => intro w R a c len g h; omega
  | succ k ih =>
    intro w R a c len g hk I
    have I0 := I
    obtain ⟨h1, h2, h3, h4, h5, h6, h7, h8, h9, h10, h11⟩ := I0
    have hgc : g c = 8 := (h6 c h3).mpr (Or.inr rfl)
    have hR : R < 256 := Nat.lt_of_lt_of_le h1 (z_2p hn)
    have hlt : ∀ f, f ∈ W → ∀ i, i < n → f i < n := fun f hf i hi => (((hW.2 f).mp hf).2.1 i hi).1
    rw [zag_split hn hlt h3 hgc]
    -- each getter of c
    have key : ∀ y, y < n → zl W (fun f => if zag n (zu g c y) f then zpsi L w (zp f (k + 1) R a c len) else 0) = (if y = a then (if (rows c).testBit a = true ∧ L ≤ len then (if R = 0 then w 1 else zG n L rows k (fun i => w (i + 1)) (R ^^^ 2 ^ z_lo R) (z_lo R) (z_lo R) 1) else 0) else 0) + (if R.testBit y = true ∧ (rows c).testBit y = true then zG n L rows k w (R ^^^ 2 ^ y) a y (len + 1) else 0) := by
      intro y hy
      have hfc : ∀ f, zag n (zu g c y) f → f c = y := fun f h => by
        have := h c h3
        rw [zu_s] at this
        exact this.resolve_left (by omega)
      by_cases cr : (rows c).testBit y = true
      · by_cases cR : R.testBit y = true
        · have hya : y ≠ a := fun e => by rw [e, h4] at cR; cases cR
          rw [if_neg hya, if_pos ⟨cR, cr⟩, Int32.zero_add]
          have hpc := z_pc_xor R hR y (by omega) cR
          rw [← ih w (R ^^^ 2 ^ y) a y (len + 1) (zu g c y) (by omega) (zinv_ext hn I cR cr)]
          apply zl_congr
          intro f _
          by_cases h : zag n (zu g c y) f
          · rw [if_pos h, if_pos h, zp, hfc f h, if_neg hya]
          · rw [if_neg h, if_neg h]
        · rw [Bool.not_eq_true] at cR
          rw [if_neg (c := R.testBit y = true ∧ (rows c).testBit y = true) (fun e => by rw [cR] at e; cases e.1), Int32.add_zero]
          by_cases ya : y = a
          · subst ya
            rw [if_pos rfl]
            by_cases cl : L ≤ len
            · rw [if_pos ⟨cr, cl⟩]
              by_cases r0 : R = 0
              · rw [if_pos r0]
                subst r0
                -- all is laid: one way
                have hg : zu g c y ∈ W := by
                  refine (hW.2 _).mpr ⟨fun i hi => ?_, fun i hi => ?_, fun i j hi hj e => ?_⟩
                  · rw [zu_n g y (by omega)]; exact h7 i hi
                  · by_cases e : i = c
                    · rw [e, zu_s]; exact ⟨hy, cr⟩
                    · rw [zu_n g y e]
                      exact h8 i hi (fun e8 => ((h6 i hi).mp e8).elim (fun h => by simp at h) e)
                  · have asg : ∀ i, i < n → i ≠ c → g i ≠ 8 := fun i hi e e8 => by
                      rcases (h6 i hi).mp e8 with h | h
                      · simp at h
                      · exact e h
                    by_cases ei : i = c
                    · by_cases ej : j = c
                      · rw [ei, ej]
                      · rw [ei, zu_s, zu_n g y ej] at e
                        exact absurd e.symm (h11 j hj (asg j hj ej)).2
                    · rw [zu_n g y ei] at e
                      by_cases ej : j = c
                      · rw [ej, zu_s] at e
                        exact absurd e (h11 i hi (asg i hi ei)).2
                      · rw [zu_n g y ej] at e
                        exact h9 i j hi hj (asg i hi ei) e
                rw [zl_single hg hW.1]
                · rw [if_pos (fun i _ => Or.inr rfl), zp, zu_s, if_pos rfl, if_pos rfl, zpsi_cons, if_pos cl, zpsi_nil]
                · intro f hf hne
                  rw [if_neg]
                  intro h
                  apply hne
                  funext i
                  rcases Nat.lt_or_ge i n with hi | hi
                  · rcases h i hi with e | e
                    · by_cases ei : i = c
                      · rw [ei, zu_s] at e; omega
                      · rw [zu_n g y ei] at e
                        rcases (h6 i hi).mp e with h | h
                        · simp at h
                        · exact absurd h ei
                    · exact e
                  · rw [((hW.2 f).mp hf).1 i hi, zu_n g y (by omega), h7 i hi]
              · rw [if_neg r0]
                have hlo := z_lo_in R hR r0
                have hpc := z_pc_xor R hR (z_lo R) (z_lo_lt R) hlo
                rw [← ih (fun i => w (i + 1)) (R ^^^ 2 ^ z_lo R) (z_lo R) (z_lo R) 1 (zu g c y) (by omega) (zinv_close hn I hlo cr)]
                apply zl_congr
                intro f _
                by_cases h : zag n (zu g c y) f
                · rw [if_pos h, if_pos h, zp, hfc f h, if_pos rfl, if_neg r0, zpsi_cons, if_pos cl]
                · rw [if_neg h, if_neg h]
            · rw [if_neg (fun e => cl e.2)]
              apply zl_zero
              intro f _
              by_cases h : zag n (zu g c y) f
              · rw [if_pos h, zp, hfc f h, if_pos rfl, zpsi_cons, if_neg cl]
              · rw [if_neg h]
          · rw [if_neg ya]
            apply zl_zero
            intro f hf
            rw [if_neg]
            intro h
            obtain ⟨i, hi, hgi⟩ := h10 y hy cR ya
            have hic : i ≠ c := fun e => by rw [e, hgc] at hgi; omega
            have hfi : f i = y := by
              have := h i hi
              rw [zu_n g y hic, hgi] at this
              exact this.resolve_left (by omega)
            exact hic (((hW.2 f).mp hf).2.2 i c hi h3 (by rw [hfi, hfc f h]))
      · rw [if_neg (c := R.testBit y = true ∧ (rows c).testBit y = true) (fun e => cr e.2), Int32.add_zero]
        have z0 : (if y = a then (if (rows c).testBit a = true ∧ L ≤ len then (if R = 0 then w 1 else zG n L rows k (fun i => w (i + 1)) (R ^^^ 2 ^ z_lo R) (z_lo R) (z_lo R) 1) else 0) else 0) = (0 : Int32) := by
          by_cases e : y = a
          · subst e
            rw [if_pos rfl, if_neg (fun e => cr e.1)]
          · rw [if_neg e]
        rw [z0]
        apply zl_zero
        intro f hf
        rw [if_neg]
        intro h
        apply cr
        have := (((hW.2 f).mp hf).2.1 c h3).2
        rwa [hfc f h] at this
    rw [zs_congr key, zs_add, zG]
    congr 1
    rw [zs_single a h2 (fun i _ hne => if_neg hne), if_pos rfl]
/-- the lengths of the rounds of a way of n -/
def zlens (n : Nat) (f : Nat → Nat) : List Nat := zp f (z_pc ((2 ^ n - 1) ^^^ 1) + 1) ((2 ^ n - 1) ^^^ 1) 0 0 1
/-- the whole sum -/
def zF (n L : Nat) (rows : Nat → Nat) (w : Nat → Int32) (U : Nat) : Int32 := if U = 0 then w 0 else zG n L rows (z_pc (U ^^^ 2 ^ z_lo U) + 1) w (U ^^^ 2 ^ z_lo U) (z_lo U) (z_lo U) 1
theorem zT1_all {n L : Nat} (h0 : 0 < n) (hn : n ≤ 8) {rows : Nat → Nat} {W : List (Nat → Nat)} (hW : zall n rows W) (w : Nat → Int32) : zl W (fun f => zpsi L w (zlens n f)) = zF n L rows w (2 ^ n - 1) := by
  have e : ∀ n, n < 9 → 0 < n → z_lo (2 ^ n - 1) = 0 ∧ 2 ^ n - 1 ≠ 0 := by decide +kernel
  obtain ⟨e1, e2⟩ := e n (by omega) h0
  rw [zF, if_neg e2, e1]
  have hb : ∀ i, ((2 ^ n - 1) ^^^ 2 ^ 0).testBit i = (decide (i < n) && !(decide (i = 0))) := fun i => by
    rw [z_xbit (by rw [Nat.testBit_two_pow_sub_one]; exact decide_eq_true h0), Nat.testBit_two_pow_sub_one]
  have I : zinv n rows z8 ((2 ^ n - 1) ^^^ 2 ^ 0) 0 0 := by
    refine ⟨z_x_lt (by have := Nat.two_pow_pos n; omega) h0, h0, h0, by rw [hb]; simp, by rw [hb]; simp, fun i hi => ⟨fun _ => ?_, fun _ => rfl⟩, fun _ _ => rfl, fun i _ h => absurd rfl h, fun i j _ _ h => absurd rfl h, fun y hy h hy0 => ?_, fun i _ h => absurd rfl h⟩
    · rw [hb]
      by_cases e : i = 0
      · exact Or.inr e
      · exact Or.inl (by simp [hi, e])
    · rw [hb] at h
      simp [hy, hy0] at h
  rw [← zT1 hn hW _ w _ 0 0 1 z8 rfl I]
  apply zl_congr
  intro f _
  rw [if_pos (show zag n z8 f from fun i _ => Or.inl rfl)]
  rfl
