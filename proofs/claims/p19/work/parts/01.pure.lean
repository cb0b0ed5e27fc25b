section P1
/-! numbers and stores  -/
/-! a block shifted down by one, a block shifted up by one -/
def ps_sh (f : Nat → Int32) (a m : Nat) : Nat → Int32 := fun i => if a ≤ i ∧ i < m then f (i + 1) else f i
theorem ps_sh0 {f : Nat → Int32} {a m : Nat} (h : m ≤ a) : ps_sh f a m = f := by
  funext i
  exact if_neg (by omega)
theorem ps_shS {f : Nat → Int32} {a m : Nat} (h : a ≤ m) : upd (ps_sh f a m) m (ps_sh f a m (m + 1)) = ps_sh f a (m + 1) := by
  funext i
  simp only [upd, ps_sh]
  by_cases h1 : i = m
  · subst h1
    rw [if_pos rfl, if_neg (by omega), if_pos (by omega)]
  · rw [if_neg h1]
    by_cases h2 : a ≤ i ∧ i < m
    · rw [if_pos h2, if_pos (by omega)]
    · rw [if_neg h2, if_neg (by omega)]
theorem ps_sh_in {f : Nat → Int32} {a m i : Nat} (h : a ≤ i) (h2 : i < m) : ps_sh f a m i = f (i + 1) := if_pos ⟨h, h2⟩
theorem ps_sh_lo {f : Nat → Int32} {a m i : Nat} (h : i < a) : ps_sh f a m i = f i := if_neg (by omega)
theorem ps_sh_hi {f : Nat → Int32} {a m i : Nat} (h : m ≤ i) : ps_sh f a m i = f i := if_neg (by omega)
def ps_rs (f : Nat → Int32) (a m : Nat) : Nat → Int32 := fun i => if a < i ∧ i ≤ m then f (i - 1) else f i
theorem ps_rs0 {f : Nat → Int32} {m : Nat} : ps_rs f m m = f := by
  funext i
  exact if_neg (by omega)
theorem ps_rsS {f : Nat → Int32} {i m : Nat} (h : i + 1 ≤ m) : upd (ps_rs f (i + 1) m) (i + 1) (ps_rs f (i + 1) m i) = ps_rs f i m := by
  funext j
  simp only [upd, ps_rs]
  by_cases h1 : j = i + 1
  · subst h1
    rw [if_pos rfl, if_neg (by omega), if_pos (by omega), Nat.add_sub_cancel]
  · rw [if_neg h1]
    by_cases h2 : i + 1 < j ∧ j ≤ m
    · rw [if_pos h2, if_pos (by omega)]
    · rw [if_neg h2, if_neg (by omega)]
theorem ps_rs_in {f : Nat → Int32} {a m i : Nat} (h : a < i) (h2 : i ≤ m) : ps_rs f a m i = f (i - 1) := if_pos ⟨h, h2⟩
theorem ps_rs_lo {f : Nat → Int32} {a m i : Nat} (h : i ≤ a) : ps_rs f a m i = f i := if_neg (by omega)
theorem ps_upd0 {f : Nat → Int32} {k : Nat} {x : Int32} (h : f k = x) : upd f k x = f := by
  funext i
  by_cases e : i = k
  · rw [e, pk_us, h]
  · exact pk_un e
/-! the smallest free id -/
theorem ps_pig : ∀ (n m : Nat) (g : Nat → Nat), (∀ i, i < m → ∃ j, j < n ∧ g j = i) → m ≤ n := by
  intro n
  induction n with
  | zero =>
    intro m g h
    cases m with
    | zero => exact Nat.le_refl 0
    | succ m =>
      obtain ⟨j, hj, _⟩ := h 0 (by omega)
      omega
  | succ n ih =>
    intro m g h
    cases m with
    | zero => exact Nat.zero_le _
    | succ m =>
      obtain ⟨j0, hj0, e0⟩ := h m (by omega)
      have h2 : m ≤ n := by
        refine ih m (fun j => if j = j0 then g n else g j) (fun i hi => ?_)
        obtain ⟨j, hj, e⟩ := h i (by omega)
        have hne : j ≠ j0 := by
          intro e1
          rw [e1, e0] at e
          omega
        by_cases hn : j = n
        · refine ⟨j0, by omega, ?_⟩
          show (if j0 = j0 then g n else g j0) = i
          rw [if_pos rfl, ← hn]
          exact e
        · refine ⟨j, by omega, ?_⟩
          show (if j = j0 then g n else g j) = i
          rw [if_neg hne]
          exact e
      omega
theorem ps_free (n : Nat) (hn : n < 1000) (ids : Nat → Int32) : ∃ i, 1 ≤ i ∧ i ≤ n + 1 ∧ (∀ j, j < n → ids j ≠ nI i) ∧ ∀ k, 1 ≤ k → k < i → ∃ j, j < n ∧ ids j = nI k := by
  have hex : ∃ i, (1 ≤ i ∧ i ≤ n + 1) ∧ ∀ j, j < n → ids j ≠ nI i := by
    apply Classical.byContradiction
    intro hc
    have h := ps_pig n (n + 1) (fun j => (ids j).toNatClampNeg - 1) (fun i hi => by
      apply Classical.byContradiction
      intro hd
      apply hc
      refine ⟨i + 1, ⟨by omega, by omega⟩, fun j hj e => hd ⟨j, hj, ?_⟩⟩
      show (ids j).toNatClampNeg - 1 = i
      rw [e, nI_clamp (by omega)]
      omega)
    omega
  obtain ⟨i, ⟨⟨h1, h2⟩, h3⟩, hl⟩ := pk_least (fun i => (1 ≤ i ∧ i ≤ n + 1) ∧ ∀ j, j < n → ids j ≠ nI i) hex
  refine ⟨i, h1, h2, h3, fun k hk hki => ?_⟩
  apply Classical.byContradiction
  intro hd
  exact hl k hki ⟨⟨hk, by omega⟩, fun j hj e => hd ⟨j, hj, e⟩⟩
/-! a number of marked cells -/
def ps_hc (f : Nat → Int32) (base : Nat) : Nat → Nat
  | 0 => 0
  | n + 1 => ps_hc f base n + (if f (base + (n + 1)) = 0 then 0 else 1)
theorem ps_hcS (f : Nat → Int32) (base n : Nat) : ps_hc f base (n + 1) = ps_hc f base n + (if f (base + (n + 1)) = 0 then 0 else 1) := rfl
theorem ps_hc_le (f : Nat → Int32) (base : Nat) : ∀ n, ps_hc f base n ≤ n := by
  intro n
  induction n with
  | zero => exact Nat.le_refl 0
  | succ n ih =>
    rw [ps_hcS]
    split <;> omega
theorem ps_hc_lt {f : Nat → Int32} {base i : Nat} : ∀ n, 1 ≤ i → i ≤ n → f (base + i) = 0 → ps_hc f base n < n := by
  intro n
  induction n with
  | zero => intro h1 h2; omega
  | succ n ih =>
    intro h1 h2 h3
    rw [ps_hcS]
    by_cases e : i = n + 1
    · subst e
      rw [if_pos h3]
      have := ps_hc_le f base n
      omega
    · have := ih h1 (by omega) h3
      split <;> omega
theorem ps_hc_cg {f g : Nat → Int32} {b1 b2 : Nat} : ∀ n, (∀ i, 1 ≤ i → i ≤ n → f (b1 + i) = g (b2 + i)) → ps_hc f b1 n = ps_hc g b2 n := by
  intro n
  induction n with
  | zero => intro _; rfl
  | succ n ih =>
    intro h
    rw [ps_hcS, ps_hcS, ih (fun i h1 h2 => h i h1 (by omega)), h (n + 1) (by omega) (by omega)]
theorem ps_hc_set {f : Nat → Int32} {base i : Nat} {v : Int32} (hv : v ≠ 0) : ∀ n, 1 ≤ i → i ≤ n → f (base + i) = 0 → ps_hc (upd f (base + i) v) base n = ps_hc f base n + 1 := by
  intro n
  induction n with
  | zero => intro h1 h2; omega
  | succ n ih =>
    intro h1 h2 h3
    rw [ps_hcS, ps_hcS]
    by_cases e : i = n + 1
    · subst e
      rw [if_pos h3, pk_us, if_neg hv, ps_hc_cg (g := f) (b2 := base) n (fun j h1 h2 => pk_un (by omega))]
    · rw [ih h1 (by omega) h3, pk_un (by omega)]
      omega
theorem ps_hc_clr {f : Nat → Int32} {base i : Nat} : ∀ n, 1 ≤ i → i ≤ n → f (base + i) ≠ 0 → ps_hc (upd f (base + i) 0) base n + 1 = ps_hc f base n := by
  intro n
  induction n with
  | zero => intro h1 h2; omega
  | succ n ih =>
    intro h1 h2 h3
    rw [ps_hcS, ps_hcS]
    by_cases e : i = n + 1
    · subst e
      rw [if_neg h3, pk_us, if_pos rfl, ps_hc_cg (g := f) (b2 := base) n (fun j h1 h2 => pk_un (by omega))]
    · have := ih h1 (by omega) h3
      rw [pk_un (by omega)]
      omega
theorem ps_hc_0 {f : Nat → Int32} {base : Nat} : ∀ n, (∀ i, 1 ≤ i → i ≤ n → f (base + i) = 0) → ps_hc f base n = 0 := by
  intro n
  induction n with
  | zero => intro _; rfl
  | succ n ih =>
    intro h
    rw [ps_hcS, ih (fun i h1 h2 => h i h1 (by omega)), if_pos (h (n + 1) (by omega) (by omega))]
end P1
