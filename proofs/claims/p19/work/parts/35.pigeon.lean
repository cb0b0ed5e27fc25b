section Q35
/-! while a link is up, an outbox has no more entries than the two wires have packets -/
theorem ndk_tl {e : N5} {E : List N5} (nd : ndk (e :: E)) : ndk E ∧ ∀ e', e' ∈ E → e'.2.2.1 ≠ e.2.2.1 := by
  constructor
  · intro i j a b hi hj hab
    have := nd (i + 1) (j + 1) a b hi hj hab
    omega
  · intro e' he' hh
    obtain ⟨j, hj⟩ := List.mem_iff_getElem?.mp he'
    have := nd 0 (j + 1) e e' rfl hj hh.symm
    omega
theorem pg_len : ∀ (E : List N5) (m : List Nat), ndk E → (∀ e, e ∈ E → e.2.2.1 ∈ m) → E.length ≤ m.length := by
  intro E
  induction E with
  | nil => intro m _ _; exact Nat.zero_le _
  | cons e E ih =>
    intro m nd h
    obtain ⟨n1, n2⟩ := ndk_tl nd
    have h0 := h e List.mem_cons_self
    have h1 := ih (m.erase e.2.2.1) n1 (fun e' he' => (List.mem_erase_of_ne (n2 e' he')).mpr (h e' (List.mem_cons_of_mem _ he')))
    have h2 := List.length_erase_of_mem h0
    have h3 := List.length_pos_of_mem h0
    rw [List.length_cons]
    omega
theorem mf_1 {F : List N5} {q : N5 → Bool} {t : N5} (h : F.filter q = [t]) : t ∈ F := by
  have : t ∈ F.filter q := by rw [h]; exact List.mem_cons_self
  exact (List.mem_filter.mp this).1
theorem TOK_len {E F B : List N5} {H : Nat → Bool} {tk : N5 → Prop} (T : TOK E F B H true tk) (hi : ∀ e, e ∈ E → 1 ≤ e.2.2.1 ∧ e.2.2.1 ≤ 16) : E.length ≤ F.length + B.length := by
  have := pg_len E ((F ++ B).map (fun t => t.2.1)) T.1 (fun e he => ?_)
  · rw [List.length_map, List.length_append] at this
    exact this
  · have t := T.2 e.2.2.1 (hi e he).1 (hi e he).2
    rw [lk_of T.1 he] at t
    have inF : ∀ x : N5, F.filter (isF e.2.2.1) = [x] → x.2.1 = e.2.2.1 → e.2.2.1 ∈ (F ++ B).map (fun t => t.2.1) := fun x hx hh => List.mem_map.mpr ⟨x, List.mem_append_left _ (mf_1 hx), hh⟩
    have inB : ∀ x : N5, B.filter (isB e.2.2.1) = [x] → x.2.1 = e.2.2.1 → e.2.2.1 ∈ (F ++ B).map (fun t => t.2.1) := fun x hx hh => List.mem_map.mpr ⟨x, List.mem_append_right _ (mf_1 hx), hh⟩
    rcases t with ⟨z, _⟩ | ⟨e', z, t⟩
    · exact absurd z (by simp)
    · rcases t with ⟨_, _, _, t⟩ | ⟨_, _, _, t⟩ | ⟨_, _, _, t⟩
      · rcases t with ⟨z, _⟩ | ⟨_, z, _⟩ | ⟨_, _, z, _⟩
        · exact absurd z (by decide)
        · exact inF _ z rfl
        · exact inB _ z rfl
      · rcases t with ⟨z, _⟩ | ⟨_, z, _⟩ | ⟨_, _, z, _⟩
        · exact absurd z (by decide)
        · exact inF _ z rfl
        · exact inB _ z rfl
      · rcases t with ⟨z, _⟩ | ⟨_, z, _⟩ | ⟨_, _, z, _⟩
        · exact absurd z (by decide)
        · exact inF _ z rfl
        · exact inB _ z rfl
theorem sw_ge {f : N5 → Nat} (h : ∀ t, 1 ≤ f t) : ∀ l : List N5, l.length ≤ sw f l := by
  intro l
  induction l with
  | nil => exact Nat.zero_le _
  | cons t l ih =>
    have := h t
    have e : sw f (t :: l) = f t + sw f l := rfl
    rw [e, List.length_cons]
    omega
theorem sw_le {f : N5 → Nat} {m : Nat} (h : ∀ t, f t ≤ m) : ∀ l : List N5, sw f l ≤ m * l.length := by
  intro l
  induction l with
  | nil => exact Nat.zero_le _
  | cons t l ih =>
    have := h t
    have e : sw f (t :: l) = f t + sw f l := rfl
    rw [e, List.length_cons, Nat.mul_add, Nat.mul_one]
    omega
theorem wu_le (t : N5) : 1 ≤ wu t ∧ wu t ≤ 8 := by
  have := wd_le t
  unfold wu
  split <;> omega
theorem k1_le (t : N5) : k1 t ≤ 1 := by
  unfold k1
  split <;> omega
/-- how a drain of client d stands, dl calls before its end -/
def DR (W : Nat → List N5) (up : Nat → Bool) (d dl : Nat) : Prop :=
  up d = true ∧ (W d).length + (W (4 + d)).length + sw k1 (W d) ≤ 12 ∧ (∀ d', d' < 4 → d' ≠ d → (W (4 + d')).length + sw k1 (W d) ≤ 8) ∧ (2 * (sw wu (W d) + sw wd (W (4 + d))) ≤ dl ∨ (dl % 2 = 1 ∧ W (4 + d) = [] ∧ 2 * (sw wu (W d) + sw wd (W (4 + d))) ≤ dl + 1))
theorem DR_start {W : Nat → List N5} {up : Nat → Bool} {d : Nat} (hd : d < 4) (hu : up d = true) (h : ∀ x, x < 8 → (W x).length ≤ 4) : DR W up d 200 := by
  have a := h d (by omega)
  have b := h (4 + d) (by omega)
  have c := sw_le k1_le (W d)
  have e := sw_le (fun t => (wu_le t).2) (W d)
  have g := sw_le (fun t => (wd_le t).2) (W (4 + d))
  refine ⟨hu, by omega, fun d' hd' _ => ?_, Or.inl (by omega)⟩
  have := h (4 + d') (by omega)
  omega
theorem DR_c {W W2 : Nat → List N5} {up : Nat → Bool} {d dl : Nat} (hd : d < 4) (h : DR W up d (dl + 1)) (he : (dl + 1) % 2 = 0) (m : MVC d W W2) : DR W2 up d dl := by
  obtain ⟨h1, h2, h3, h4⟩ := h
  obtain ⟨m1, m2, m3, m4, m5, m6, m7⟩ := m
  refine ⟨h1, by omega, fun d' hd' hn => ?_, ?_⟩
  · rw [m1 (4 + d') (by omega) (by omega)]
    have := h3 d' hd' hn
    omega
  · rcases h4 with h4 | h4
    · by_cases hw : W (4 + d) = []
      · refine Or.inr ⟨by omega, ?_, by omega⟩
        rw [hw] at m3
        exact List.eq_nil_of_length_eq_zero (Nat.le_zero.mp m3)
      · have := m6 hw
        exact Or.inl (by omega)
    · omega
theorem DR_b {W W2 : Nat → List N5} {up : Nat → Bool} {d dl : Nat} (hd : d < 4) (h : DR W up d (dl + 1)) (he : (dl + 1) % 2 = 1) (m : MVB d W W2) : DR W2 up d dl := by
  obtain ⟨h1, h2, h3, h4⟩ := h
  obtain ⟨m1, m2, m3, m4, m5, m6, m7, m8⟩ := m
  refine ⟨h1, by omega, fun d' hd' hn => ?_, Or.inl ?_⟩
  · have := h3 d' hd' hn
    have := (m4 d' hd' hn).2
    omega
  · rcases h4 with h4 | ⟨_, hw, h4⟩
    · omega
    · by_cases hz : W d = []
      · rw [hz, hw] at m8
        have : sw wu [] + sw wd [] = 0 := rfl
        omega
      · have := m7 hz
        omega
/-- at a drain's end nothing is on the way -/
theorem DR_end {W : Nat → List N5} {up : Nat → Bool} {d : Nat} (h : DR W up d 0) : W d = [] ∧ W (4 + d) = [] := by
  obtain ⟨h1, h2, h3, h4⟩ := h
  have a := sw_ge (fun t => (wu_le t).1) (W d)
  have b := sw_ge (fun t => (wd_le t).1) (W (4 + d))
  have z : sw wu (W d) + sw wd (W (4 + d)) = 0 := by
    rcases h4 with h4 | h4 <;> omega
  exact ⟨List.eq_nil_of_length_eq_zero (by omega), List.eq_nil_of_length_eq_zero (by omega)⟩
end Q35
