/-! the ways, as a list in order; their rounds -/
def zu (g : Nat → Nat) (x y : Nat) : Nat → Nat := fun j => if j = x then y else g j
theorem zu_s (g : Nat → Nat) (x y : Nat) : zu g x y x = y := if_pos rfl
theorem zu_n (g : Nat → Nat) {x j : Nat} (y : Nat) (h : j ≠ x) : zu g x y j = g j := if_neg h
def zW (n : Nat) (b : Nat → Nat) : List Nat → (Nat → Nat) → List (Nat → Nat)
  | [], g => [g]
  | x :: D, g => (List.range n).flatMap (fun y => if (b x).testBit y = true ∧ (∀ j, j < n → g j ≠ y) then zW n b D (zu g x y) else [])
theorem zW_mem (n : Nat) (b : Nat → Nat) : ∀ (D : List Nat) (g : Nat → Nat), D.Nodup → (∀ x, x ∈ D → x < n) → (∀ x, x ∈ D → n ≤ g x) → ∀ f, (f ∈ zW n b D g ↔ (∀ j, j ∉ D → f j = g j) ∧ (∀ x, x ∈ D → f x < n ∧ (b x).testBit (f x) = true ∧ ∀ j, j < n → j ∉ D → g j ≠ f x) ∧ (∀ x, x ∈ D → ∀ x', x' ∈ D → f x = f x' → x = x')) := by
  intro D
  induction D with
  | nil =>
    intro g _ _ _ f
    rw [zW, List.mem_singleton]
    constructor
    · rintro rfl
      exact ⟨fun _ _ => rfl, fun x h => absurd h List.not_mem_nil, fun x h => absurd h List.not_mem_nil⟩
    · intro h
      funext j
      exact h.1 j List.not_mem_nil
  | cons x D ih =>
    intro g hnd hlt hge f
    obtain ⟨hxD, hnd⟩ := List.nodup_cons.mp hnd
    have hxn : x < n := hlt x List.mem_cons_self
    have hlt' : ∀ x, x ∈ D → x < n := fun z hz => hlt z (List.mem_cons_of_mem _ hz)
    have hge' : ∀ y z, z ∈ D → n ≤ zu g x y z := fun y z hz => by
      rw [zu_n g y (show z ≠ x from fun e => hxD (e ▸ hz))]
      exact hge z (List.mem_cons_of_mem _ hz)
    rw [zW, List.mem_flatMap]
    constructor
    · rintro ⟨y, hy, hf⟩
      by_cases c : (b x).testBit y = true ∧ (∀ j, j < n → g j ≠ y)
      · rw [if_pos c] at hf
        obtain ⟨h1, h2, h3⟩ := (ih (zu g x y) hnd hlt' (hge' y) f).mp hf
        have hfx : f x = y := by rw [h1 x hxD, zu_s]
        refine ⟨fun j hj => ?_, fun z hz => ?_, fun z hz z' hz' e => ?_⟩
        · have hj1 : j ≠ x := fun e => hj (e ▸ List.mem_cons_self)
          rw [h1 j (fun h => hj (List.mem_cons_of_mem _ h)), zu_n g y hj1]
        · rcases List.mem_cons.mp hz with rfl | hz
          · rw [hfx]
            exact ⟨List.mem_range.mp hy, c.1, fun j hj _ => c.2 j hj⟩
          · refine ⟨(h2 z hz).1, (h2 z hz).2.1, fun j hj hjD => ?_⟩
            have hj1 : j ≠ x := fun e => hjD (e ▸ List.mem_cons_self)
            have := (h2 z hz).2.2 j hj (fun h => hjD (List.mem_cons_of_mem _ h))
            rwa [zu_n g y hj1] at this
        · have key : ∀ z, z ∈ D → f x ≠ f z := fun z hz e => by
            have := (h2 z hz).2.2 x hxn hxD
            rw [zu_s] at this
            exact this (by rw [← hfx]; exact e)
          rcases List.mem_cons.mp hz with q1 | q1
          · rcases List.mem_cons.mp hz' with q2 | q2
            · rw [q1, q2]
            · rw [q1] at e
              exact absurd e (key z' q2)
          · rcases List.mem_cons.mp hz' with q2 | q2
            · rw [q2] at e
              exact absurd e.symm (key z q1)
            · exact h3 z q1 z' q2 e
      · rw [if_neg c] at hf
        cases hf
    · rintro ⟨h1, h2, h3⟩
      refine ⟨f x, List.mem_range.mpr (h2 x List.mem_cons_self).1, ?_⟩
      have c : (b x).testBit (f x) = true ∧ (∀ j, j < n → g j ≠ f x) := by
        refine ⟨(h2 x List.mem_cons_self).2.1, fun j hj e => ?_⟩
        by_cases hjD : j ∈ x :: D
        · have := hge j hjD
          have := (h2 x List.mem_cons_self).1
          omega
        · exact (h2 x List.mem_cons_self).2.2 j hj hjD e
      rw [if_pos c]
      refine (ih (zu g x (f x)) hnd hlt' (hge' (f x)) f).mpr ⟨fun j hj => ?_, fun z hz => ?_, fun z hz z' hz' e => h3 z (List.mem_cons_of_mem _ hz) z' (List.mem_cons_of_mem _ hz') e⟩
      · by_cases e : j = x
        · rw [e, zu_s]
        · rw [zu_n g _ e]
          exact h1 j (fun h => (List.mem_cons.mp h).elim e hj)
      · refine ⟨(h2 z (List.mem_cons_of_mem _ hz)).1, (h2 z (List.mem_cons_of_mem _ hz)).2.1, fun j hj hjD e => ?_⟩
        by_cases ej : j = x
        · rw [ej, zu_s] at e
          have := h3 x List.mem_cons_self z (List.mem_cons_of_mem _ hz) e
          exact hxD (this ▸ hz)
        · rw [zu_n g _ ej] at e
          exact (h2 z (List.mem_cons_of_mem _ hz)).2.2 j hj (fun h => (List.mem_cons.mp h).elim ej hjD) e
theorem zW_nodup (n : Nat) (b : Nat → Nat) : ∀ (D : List Nat) (g : Nat → Nat), D.Nodup → (∀ x, x ∈ D → x < n) → (∀ x, x ∈ D → n ≤ g x) → (zW n b D g).Nodup := by
  intro D
  induction D with
  | nil => intro g _ _ _; exact List.nodup_cons.mpr ⟨List.not_mem_nil, List.nodup_nil⟩
  | cons x D ih =>
    intro g hnd hlt hge
    obtain ⟨hxD, hnd⟩ := List.nodup_cons.mp hnd
    have hlt' : ∀ x, x ∈ D → x < n := fun z hz => hlt z (List.mem_cons_of_mem _ hz)
    have hge' : ∀ y z, z ∈ D → n ≤ zu g x y z := fun y z hz => by
      rw [zu_n g y (show z ≠ x from fun e => hxD (e ▸ hz))]
      exact hge z (List.mem_cons_of_mem _ hz)
    have hval : ∀ y f, f ∈ (if (b x).testBit y = true ∧ (∀ j, j < n → g j ≠ y) then zW n b D (zu g x y) else []) → f x = y := by
      intro y f hf
      by_cases c : (b x).testBit y = true ∧ (∀ j, j < n → g j ≠ y)
      · rw [if_pos c] at hf
        rw [((zW_mem n b D (zu g x y) hnd hlt' (hge' y) f).mp hf).1 x hxD, zu_s]
      · rw [if_neg c] at hf
        cases hf
    rw [zW]
    refine List.pairwise_flatMap.mpr ⟨fun y _ => ?_, ?_⟩
    · by_cases c : (b x).testBit y = true ∧ (∀ j, j < n → g j ≠ y)
      · rw [if_pos c]
        exact ih (zu g x y) hnd hlt' (hge' y)
      · rw [if_neg c]
        exact List.nodup_nil
    · refine List.Pairwise.imp ?_ (List.nodup_range (n := n))
      intro y y' hne f hf f' hf' e
      exact hne (by rw [← hval y f hf, e, hval y' f' hf'])
/-- a narrower board's ways are those of the board that keep to it -/
theorem zW_filter (n : Nat) (b b' : Nat → Nat) : ∀ (D : List Nat) (g : Nat → Nat), D.Nodup → (∀ x, x ∈ D → ∀ y, (b' x).testBit y = true → (b x).testBit y = true) → (∀ x, x ∈ D → x < n) → (∀ x, x ∈ D → n ≤ g x) → zW n b' D g = (zW n b D g).filter (fun f => D.all (fun x => (b' x).testBit (f x))) := by
  intro D
  induction D with
  | nil => intro g _ _ _ _; rfl
  | cons x D ih =>
    intro g hnd hb hlt hge
    obtain ⟨hxD, hnd⟩ := List.nodup_cons.mp hnd
    have hlt' : ∀ x, x ∈ D → x < n := fun z hz => hlt z (List.mem_cons_of_mem _ hz)
    have hge' : ∀ y z, z ∈ D → n ≤ zu g x y z := fun y z hz => by
      rw [zu_n g y (show z ≠ x from fun e => hxD (e ▸ hz))]
      exact hge z (List.mem_cons_of_mem _ hz)
    rw [zW, zW, List.filter_flatMap]
    congr 1
    funext y
    by_cases c : (b' x).testBit y = true ∧ (∀ j, j < n → g j ≠ y)
    · have c2 : (b x).testBit y = true ∧ (∀ j, j < n → g j ≠ y) := ⟨hb x List.mem_cons_self y c.1, c.2⟩
      rw [if_pos c, if_pos c2, ih (zu g x y) hnd (fun z hz => hb z (List.mem_cons_of_mem _ hz)) hlt' (hge' y)]
      apply List.filter_congr
      intro f hf
      have e : f x = y := by rw [((zW_mem n b D (zu g x y) hnd hlt' (hge' y) f).mp hf).1 x hxD, zu_s]
      rw [List.all_cons, e, c.1, Bool.true_and]
    · rw [if_neg c]
      by_cases c2 : (b x).testBit y = true ∧ (∀ j, j < n → g j ≠ y)
      · rw [if_pos c2]
        symm
        apply List.filter_eq_nil_iff.mpr
        intro f hf h
        have e : f x = y := by rw [((zW_mem n b D (zu g x y) hnd hlt' (hge' y) f).mp hf).1 x hxD, zu_s]
        rw [List.all_cons, e, Bool.and_eq_true] at h
        exact c ⟨h.1, c2.2⟩
      · rw [if_neg c2]
        rfl
theorem zW_congr (n : Nat) (b b' : Nat → Nat) : ∀ (D : List Nat) (g : Nat → Nat), (∀ x, x ∈ D → b x = b' x) → zW n b D g = zW n b' D g := by
  intro D
  induction D with
  | nil => intro g _; rfl
  | cons x D ih =>
    intro g h
    rw [zW, zW, h x List.mem_cons_self]
    congr 1
    funext y
    rw [ih _ fun z hz => h z (List.mem_cons_of_mem _ hz)]
def z8 : Nat → Nat := fun _ => 8
/-- the steps of a walk, and rounds that are long enough -/
def zi (f : Nat → Nat) : Nat → Nat → Nat
  | 0, x => x
  | k + 1, x => f (zi f k x)
def zok (L : Nat) (f : Nat → Nat) (x : Nat) : Bool := (List.range L).all (fun m => m == 0 || zi f m x != x)
theorem zok_iff {L : Nat} {f : Nat → Nat} {x : Nat} : zok L f x = true ↔ ∀ m, 1 ≤ m → m < L → zi f m x ≠ x := by
  unfold zok
  rw [List.all_eq_true]
  constructor
  · intro h m h1 h2 e
    have := h m (List.mem_range.mpr h2)
    rw [Bool.or_eq_true] at this
    rcases this with c | c
    · have : m = 0 := by simpa using c
      omega
    · simp [e] at c
  · intro h m hm
    rw [Bool.or_eq_true]
    rcases Nat.eq_zero_or_pos m with c | c
    · exact Or.inl (by simp [c])
    · exact Or.inr (by simpa using h m c (List.mem_range.mp hm))
def zoks (L : Nat) (D : List Nat) (f : Nat → Nat) : Bool := D.all (fun x => zok L f x)
/-- the ways of those in D -/
def zwy (n L : Nat) (b : Nat → Nat) (D : List Nat) : List (Nat → Nat) := (zW n b D z8).filter (zoks L D)
/-- the rounds of a way, one behind the other, by their lengths -/
def zp (f : Nat → Nat) : Nat → Nat → Nat → Nat → Nat → List Nat
  | 0, _, _, _, _ => []
  | k + 1, R, a, c, len => if f c = a then len :: (if R = 0 then [] else zp f k (R ^^^ 2 ^ z_lo R) (z_lo R) (z_lo R) 1) else zp f k (R ^^^ 2 ^ f c) a (f c) (len + 1)
def zpsi (L : Nat) (w : Nat → Int32) (l : List Nat) : Int32 := if l.all (fun x => decide (L ≤ x)) = true then w l.length else 0
theorem zpsi_nil (L : Nat) (w : Nat → Int32) : zpsi L w [] = w 0 := rfl
theorem zpsi_cons (L : Nat) (w : Nat → Int32) (x : Nat) (l : List Nat) : zpsi L w (x :: l) = if L ≤ x then zpsi L (fun i => w (i + 1)) l else 0 := by
  unfold zpsi
  rw [List.all_cons, List.length_cons]
  by_cases c : L ≤ x
  · rw [if_pos c, decide_eq_true c, Bool.true_and]
  · rw [if_neg c, decide_eq_false c, Bool.false_and]
    rfl
/-- the same sum over the ways, by rounds -/
def zG (n L : Nat) (rows : Nat → Nat) : Nat → (Nat → Int32) → Nat → Nat → Nat → Nat → Int32
  | 0, _, _, _, _, _ => 0
  | k + 1, w, R, a, c, len => (if (rows c).testBit a = true ∧ L ≤ len then (if R = 0 then w 1 else zG n L rows k (fun i => w (i + 1)) (R ^^^ 2 ^ z_lo R) (z_lo R) (z_lo R) 1) else 0) + zs n (fun t => if R.testBit t = true ∧ (rows c).testBit t = true then zG n L rows k w (R ^^^ 2 ^ t) a t (len + 1) else 0)
