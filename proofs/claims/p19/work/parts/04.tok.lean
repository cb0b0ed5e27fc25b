section Q4
/-! one direction of a link: the sender's entries E, the wire F from sender to receiver, the wire B back, the receiver's HELD ids H -/
def lk (E : List N5) (i : Nat) : Option N5 := E.find? (fun e => e.2.2.1 == i)
def ndk (E : List N5) : Prop := ∀ (i j : Nat) (e e' : N5), E[i]? = some e → E[j]? = some e' → e.2.2.1 = e'.2.2.1 → i = j
theorem lk_mem {E : List N5} {i : Nat} {e : N5} (h : lk E i = some e) : e ∈ E ∧ e.2.2.1 = i := by
  have h1 := List.mem_of_find?_eq_some h
  have h2 := List.find?_some h
  exact ⟨h1, by simpa using h2⟩
theorem lk_none {E : List N5} {i : Nat} : lk E i = none ↔ ∀ e, e ∈ E → e.2.2.1 ≠ i := by
  unfold lk
  rw [List.find?_eq_none]
  constructor
  · intro h e he hi
    exact h e he (by simp [hi])
  · intro h e he hi
    exact h e he (by simpa using hi)
theorem lk_of {E : List N5} (nd : ndk E) {e : N5} (he : e ∈ E) : lk E e.2.2.1 = some e := by
  cases hx : lk E e.2.2.1 with
  | none => exact absurd rfl (lk_none.mp hx e he)
  | some e' =>
    obtain ⟨h1, h2⟩ := lk_mem hx
    obtain ⟨i, hi⟩ := List.mem_iff_getElem?.mp he
    obtain ⟨j, hj⟩ := List.mem_iff_getElem?.mp h1
    have := nd i j e e' hi hj h2.symm
    subst this
    rw [hi] at hj
    exact hj.symm
theorem ndk_nil : ndk [] := by
  intro i j e e' h
  simp at h
theorem ndk_app {E : List N5} (nd : ndk E) {e : N5} (hf : ∀ e', e' ∈ E → e'.2.2.1 ≠ e.2.2.1) : ndk (E ++ [e]) := by
  intro i j a b hi hj hab
  rcases ls_app hi with ⟨h1, h2⟩ | ⟨h1, h2⟩ <;> rcases ls_app hj with ⟨h3, h4⟩ | ⟨h3, h4⟩
  · exact nd i j a b h2 h4 hab
  · subst h4
    exact absurd hab (hf a (ls_mem h2))
  · subst h2
    exact absurd hab.symm (hf b (ls_mem h4))
  · omega
theorem ndk_erase {E : List N5} (nd : ndk E) (k : Nat) : ndk (E.eraseIdx k) := by
  intro i j a b hi hj hab
  rw [List.getElem?_eraseIdx] at hi hj
  by_cases h1 : i < k <;> by_cases h2 : j < k
  · rw [if_pos h1] at hi; rw [if_pos h2] at hj
    exact nd i j a b hi hj hab
  · rw [if_pos h1] at hi; rw [if_neg h2] at hj
    have := nd i (j + 1) a b hi hj hab
    omega
  · rw [if_neg h1] at hi; rw [if_pos h2] at hj
    have := nd (i + 1) j a b hi hj hab
    omega
  · rw [if_neg h1] at hi; rw [if_neg h2] at hj
    have := nd (i + 1) (j + 1) a b hi hj hab
    omega
theorem ndk_set {E : List N5} (nd : ndk E) {k : Nat} {e e2 : N5} (he : E[k]? = some e) (h2 : e2.2.2.1 = e.2.2.1) : ndk (E.set k e2) := by
  have key : ∀ (i : Nat) (a : N5), (E.set k e2)[i]? = some a → ∃ a' : N5, E[i]? = some a' ∧ a'.2.2.1 = a.2.2.1 := by
    intro i a hi
    rw [List.getElem?_set] at hi
    by_cases h : k = i
    · subst h
      rw [if_pos rfl, if_pos (ls_lt he)] at hi
      have := Option.some.inj hi
      exact ⟨e, he, by rw [← this, h2]⟩
    · rw [if_neg h] at hi
      exact ⟨a, hi, rfl⟩
  intro i j a b hi hj hab
  obtain ⟨a', ha, ea⟩ := key i a hi
  obtain ⟨b', hb, eb⟩ := key j b hj
  exact nd i j a' b' ha hb (by rw [ea, eb, hab])
theorem lk_app {E : List N5} {e : N5} (hf : ∀ e', e' ∈ E → e'.2.2.1 ≠ e.2.2.1) (i : Nat) : lk (E ++ [e]) i = if i = e.2.2.1 then some e else lk E i := by
  by_cases h : i = e.2.2.1
  · rw [if_pos h]
    subst h
    unfold lk
    rw [List.find?_append]
    have : E.find? (fun e' => e'.2.2.1 == e.2.2.1) = none := lk_none.mpr hf
    rw [this]
    simp
  · rw [if_neg h]
    unfold lk
    rw [List.find?_append]
    have : [e].find? (fun e' => e'.2.2.1 == i) = none := by
      have h' : ¬ e.2.2.1 = i := fun z => h z.symm
      simp [h']
    rw [this]
    simp
theorem lk_erase {E : List N5} (nd : ndk E) {k : Nat} {e : N5} (he : E[k]? = some e) (i : Nat) : lk (E.eraseIdx k) i = if i = e.2.2.1 then none else lk E i := by
  by_cases h : i = e.2.2.1
  · rw [if_pos h, lk_none]
    intro a ha hai
    obtain ⟨j, hj⟩ := List.mem_iff_getElem?.mp ha
    rw [List.getElem?_eraseIdx] at hj
    by_cases hjk : j < k
    · rw [if_pos hjk] at hj
      have := nd j k a e hj he (by rw [hai, h])
      omega
    · rw [if_neg hjk] at hj
      have := nd (j + 1) k a e hj he (by rw [hai, h])
      omega
  · rw [if_neg h]
    cases hx : lk E i with
    | none =>
      rw [lk_none] at hx ⊢
      exact fun a ha => hx a (List.mem_of_mem_eraseIdx ha)
    | some a =>
      obtain ⟨h1, h2⟩ := lk_mem hx
      have h3 : a ∈ E.eraseIdx k := by
        obtain ⟨j, hj⟩ := List.mem_iff_getElem?.mp h1
        have hne : j ≠ k := by
          intro z
          rw [z, he] at hj
          have := Option.some.inj hj
          rw [← this] at h2
          exact h h2.symm
        apply List.mem_iff_getElem?.mpr
        by_cases hjk : j < k
        · exact ⟨j, by rw [List.getElem?_eraseIdx, if_pos hjk]; exact hj⟩
        · refine ⟨j - 1, ?_⟩
          rw [List.getElem?_eraseIdx, if_neg (by omega), show j - 1 + 1 = j by omega]
          exact hj
      have := lk_of (ndk_erase nd k) h3
      rw [h2] at this
      exact this
theorem lk_set {E : List N5} (nd : ndk E) {k : Nat} {e e2 : N5} (he : E[k]? = some e) (h2 : e2.2.2.1 = e.2.2.1) (i : Nat) : lk (E.set k e2) i = if i = e.2.2.1 then some e2 else lk E i := by
  have nd' := ndk_set nd he h2
  by_cases h : i = e.2.2.1
  · rw [if_pos h]
    have h3 : e2 ∈ E.set k e2 := List.mem_iff_getElem?.mpr ⟨k, by rw [List.getElem?_set, if_pos rfl, if_pos (ls_lt he)]⟩
    have := lk_of nd' h3
    rw [h2] at this
    rw [h]
    exact this
  · rw [if_neg h]
    cases hx : lk E i with
    | none =>
      rw [lk_none] at hx ⊢
      intro a ha
      rcases List.mem_or_eq_of_mem_set ha with ha | ha
      · exact hx a ha
      · rw [ha, h2]
        exact fun z => h z.symm
    | some a =>
      obtain ⟨h1, h4⟩ := lk_mem hx
      have h3 : a ∈ E.set k e2 := by
        obtain ⟨j, hj⟩ := List.mem_iff_getElem?.mp h1
        have hne : k ≠ j := by
          intro z
          rw [← z, he] at hj
          have := Option.some.inj hj
          rw [← this] at h4
          exact h h4.symm
        exact List.mem_iff_getElem?.mpr ⟨j, by rw [List.getElem?_set, if_neg hne]; exact hj⟩
      have := lk_of nd' h3
      rw [h4] at this
      exact this
/-! the packets of one id that go forth, that come back -/
def isF (i : Nat) (t : N5) : Bool := t.2.1 == i && (t.1 == 1 || t.1 == 4)
def isB (i : Nat) (t : N5) : Bool := t.2.1 == i && (t.1 == 2 || t.1 == 3 || t.1 == 5)
/-- where one id's exchange stands -/
def tk1 (i : Nat) (E : Option N5) (f b : List N5) (h : Bool) (up : Bool) (tk : N5 → Prop) : Prop :=
  (E = none ∧ f = [] ∧ b = [] ∧ h = false)
  ∨ ∃ e, E = some e ∧ (
      (e.2.1 = 1 ∧ e.2.2.2.2 = 1 ∧ h = false ∧ ((up = false ∧ f = [] ∧ b = []) ∨ (up = true ∧ f = [(1, i, e.1, 1, e.2.2.2.1)] ∧ b = []) ∨ (up = true ∧ f = [] ∧ b = [(2, i, 0, 0, 0)] ∧ tk e)))
    ∨ (e.2.1 = 2 ∧ e.2.2.2.2 = 1 ∧ (h = true → tk e) ∧ ((up = false ∧ f = [] ∧ b = []) ∨ (up = true ∧ f = [(1, i, e.1, 2, e.2.2.2.1)] ∧ b = []) ∨ (up = true ∧ f = [] ∧ b = [(3, i, 0, 0, 0)] ∧ h = true)))
    ∨ (e.2.1 = 2 ∧ e.2.2.2.2 = 2 ∧ tk e ∧ ((up = false ∧ f = [] ∧ b = []) ∨ (up = true ∧ f = [(4, i, 0, 0, 0)] ∧ b = []) ∨ (up = true ∧ f = [] ∧ b = [(5, i, 0, 0, 0)] ∧ h = false))))
def TOK (E F B : List N5) (H : Nat → Bool) (up : Bool) (tk : N5 → Prop) : Prop := ndk E ∧ ∀ i, 1 ≤ i → i ≤ 16 → tk1 i (lk E i) (F.filter (isF i)) (B.filter (isB i)) (H i) up tk
theorem tk1_mono {i : Nat} {E : Option N5} {f b : List N5} {h up : Bool} {tk tk' : N5 → Prop} (hm : ∀ e, E = some e → tk e → tk' e) (H : tk1 i E f b h up tk) : tk1 i E f b h up tk' := by
  rcases H with H | ⟨e, he, H⟩
  · exact Or.inl H
  · refine Or.inr ⟨e, he, ?_⟩
    have hm' := hm e he
    rcases H with ⟨a, b, c, d | d | ⟨d1, d2, d3, d4⟩⟩ | ⟨a, b, c, d⟩ | ⟨a, b, c, d⟩
    · exact Or.inl ⟨a, b, c, Or.inl d⟩
    · exact Or.inl ⟨a, b, c, Or.inr (Or.inl d)⟩
    · exact Or.inl ⟨a, b, c, Or.inr (Or.inr ⟨d1, d2, d3, hm' d4⟩)⟩
    · exact Or.inr (Or.inl ⟨a, b, fun z => hm' (c z), d⟩)
    · exact Or.inr (Or.inr ⟨a, b, hm' c, d⟩)
theorem TOK_mono {E F B : List N5} {H : Nat → Bool} {up : Bool} {tk tk' : N5 → Prop} (hm : ∀ e, e ∈ E → tk e → tk' e) (T : TOK E F B H up tk) : TOK E F B H up tk' :=
  ⟨T.1, fun i h1 h2 => tk1_mono (fun e he => hm e (lk_mem he).1) (T.2 i h1 h2)⟩
/-- packets that aren't this direction's -/
theorem TOK_F {E F B : List N5} {H : Nat → Bool} {up : Bool} {tk : N5 → Prop} (T : TOK E F B H up tk) {t : N5} (ht : ∀ i, 1 ≤ i → isF i t = false) : TOK E (F ++ [t]) B H up tk := by
  refine ⟨T.1, fun i h1 h2 => ?_⟩
  have := T.2 i h1 h2
  rw [List.filter_append]
  simp only [List.filter_cons, ht i h1, List.filter_nil, Bool.false_eq_true, if_false, List.append_nil]
  exact this
theorem TOK_B {E F B : List N5} {H : Nat → Bool} {up : Bool} {tk : N5 → Prop} (T : TOK E F B H up tk) {t : N5} (ht : ∀ i, 1 ≤ i → isB i t = false) : TOK E F (B ++ [t]) H up tk := by
  refine ⟨T.1, fun i h1 h2 => ?_⟩
  have := T.2 i h1 h2
  rw [List.filter_append]
  simp only [List.filter_cons, ht i h1, List.filter_nil, Bool.false_eq_true, if_false, List.append_nil]
  exact this
theorem TOK_Fp {E F B : List N5} {H : Nat → Bool} {up : Bool} {tk : N5 → Prop} {t : N5} (T : TOK E (t :: F) B H up tk) (ht : ∀ i, 1 ≤ i → isF i t = false) : TOK E F B H up tk := by
  refine ⟨T.1, fun i h1 h2 => ?_⟩
  have := T.2 i h1 h2
  simp only [List.filter_cons, ht i h1] at this
  exact this
theorem TOK_Bp {E F B : List N5} {H : Nat → Bool} {up : Bool} {tk : N5 → Prop} {t : N5} (T : TOK E F (t :: B) H up tk) (ht : ∀ i, 1 ≤ i → isB i t = false) : TOK E F B H up tk := by
  refine ⟨T.1, fun i h1 h2 => ?_⟩
  have := T.2 i h1 h2
  simp only [List.filter_cons, ht i h1] at this
  exact this
end Q4
