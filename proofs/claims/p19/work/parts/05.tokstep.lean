section Q5
theorem isF_id {i : Nat} {t : N5} (h : isF i t = true) : t.2.1 = i ∧ (t.1 = 1 ∨ t.1 = 4) := by
  unfold isF at h
  simp only [Bool.and_eq_true, Bool.or_eq_true, beq_iff_eq] at h
  exact h
theorem isB_id {i : Nat} {t : N5} (h : isB i t = true) : t.2.1 = i ∧ (t.1 = 2 ∨ t.1 = 3 ∨ t.1 = 5) := by
  unfold isB at h
  simp only [Bool.and_eq_true, Bool.or_eq_true, beq_iff_eq] at h
  exact ⟨h.1, by rcases h.2 with (h | h) | h <;> simp [h]⟩
theorem isF_ne {i : Nat} {t : N5} (h : t.2.1 ≠ i) : isF i t = false := by
  unfold isF
  simp [h]
theorem isB_ne {i : Nat} {t : N5} (h : t.2.1 ≠ i) : isB i t = false := by
  unfold isB
  simp [h]
theorem isF_k {i : Nat} {t : N5} (h1 : t.1 ≠ 1) (h4 : t.1 ≠ 4) : isF i t = false := by
  unfold isF
  simp [h1, h4]
theorem isB_k {i : Nat} {t : N5} (h2 : t.1 ≠ 2) (h3 : t.1 ≠ 3) (h5 : t.1 ≠ 5) : isB i t = false := by
  unfold isB
  simp [h2, h3, h5]
theorem fl_app {p : N5 → Bool} {F : List N5} {t : N5} : (F ++ [t]).filter p = F.filter p ++ (if p t then [t] else []) := by
  rw [List.filter_append]
  simp only [List.filter_cons, List.filter_nil]
theorem fl_cons {p : N5 → Bool} {F : List N5} {t : N5} : (t :: F).filter p = if p t then t :: F.filter p else F.filter p := by
  rw [List.filter_cons]
/-- a new entry, the link up -/
theorem TOK_new {E F B : List N5} {H : Nat → Bool} {tk : N5 → Prop} (T : TOK E F B H true tk) {s q i m : Nat} (h1 : 1 ≤ i) (h2 : i ≤ 16) (hq : q = 1 ∨ q = 2) (hf : ∀ e, e ∈ E → e.2.2.1 ≠ i) : TOK (E ++ [(s, q, i, m, 1)]) (F ++ [(1, i, s, q, m)]) B H true tk := by
  refine ⟨ndk_app T.1 hf, fun i' a b => ?_⟩
  have T' := T.2 i' a b
  rw [lk_app hf, fl_app]
  by_cases hi : i' = i
  · subst hi
    rw [lk_none.mpr hf] at T'
    rcases T' with ⟨_, c, d, e⟩ | ⟨e, he, _⟩
    · have ht : isF i' (1, i', s, q, m) = true := by unfold isF; simp
      rw [c, d, e, if_pos rfl, ht]
      refine Or.inr ⟨_, rfl, ?_⟩
      rcases hq with rfl | rfl
      · exact Or.inl ⟨rfl, rfl, rfl, Or.inr (Or.inl ⟨rfl, rfl, rfl⟩)⟩
      · exact Or.inr (Or.inl ⟨rfl, rfl, fun z => absurd z (by decide), Or.inr (Or.inl ⟨rfl, rfl, rfl⟩)⟩)
    · exact absurd he (by simp)
  · have ht : isF i' (1, i, s, q, m) = false := isF_ne (fun z => hi z.symm)
    rw [ht, if_neg hi]
    simp only [Bool.false_eq_true, if_false, List.append_nil]
    exact T'
/-- a new entry, the link down -/
theorem TOK_newd {E F B : List N5} {H : Nat → Bool} {tk : N5 → Prop} (T : TOK E F B H false tk) {s q i m : Nat} (h1 : 1 ≤ i) (h2 : i ≤ 16) (hq : q = 1 ∨ q = 2) (hf : ∀ e, e ∈ E → e.2.2.1 ≠ i) : TOK (E ++ [(s, q, i, m, 1)]) F B H false tk := by
  refine ⟨ndk_app T.1 hf, fun i' a b => ?_⟩
  have T' := T.2 i' a b
  rw [lk_app hf]
  by_cases hi : i' = i
  · subst hi
    rw [lk_none.mpr hf] at T'
    rcases T' with ⟨_, c, d, e⟩ | ⟨e, he, _⟩
    · rw [c, d, e, if_pos rfl]
      refine Or.inr ⟨_, rfl, ?_⟩
      rcases hq with rfl | rfl
      · exact Or.inl ⟨rfl, rfl, rfl, Or.inl ⟨rfl, rfl, rfl⟩⟩
      · exact Or.inr (Or.inl ⟨rfl, rfl, fun z => absurd z (by decide), Or.inl ⟨rfl, rfl, rfl⟩⟩)
    · exact absurd he (by simp)
  · rw [if_neg hi]
    exact T'
/-- a packet of this direction arrives: what it is -/
theorem TOK_look {E F B : List N5} {H : Nat → Bool} {up : Bool} {tk : N5 → Prop} {t : N5} {i : Nat} (T : TOK E (t :: F) B H up tk) (h1 : 1 ≤ i) (h2 : i ≤ 16) (ht : isF i t = true) :
    up = true ∧ F.filter (isF i) = [] ∧ B.filter (isB i) = [] ∧ ∃ e, lk E i = some e ∧ ((e.2.1 = 1 ∧ e.2.2.2.2 = 1 ∧ H i = false ∧ t = (1, i, e.1, 1, e.2.2.2.1)) ∨ (e.2.1 = 2 ∧ e.2.2.2.2 = 1 ∧ (H i = true → tk e) ∧ t = (1, i, e.1, 2, e.2.2.2.1)) ∨ (e.2.1 = 2 ∧ e.2.2.2.2 = 2 ∧ tk e ∧ t = (4, i, 0, 0, 0))) := by
  have T' := T.2 i h1 h2
  rw [fl_cons, ht, if_pos rfl] at T'
  rcases T' with ⟨_, c, _⟩ | ⟨e, he, T'⟩
  · exact absurd c (by simp)
  · rcases T' with ⟨a, b, c, d | d | d⟩ | ⟨a, b, c, d | d | d⟩ | ⟨a, b, c, d | d | d⟩
    · exact absurd d.2.1 (by simp)
    · obtain ⟨d1, d2, d3⟩ := d
      rw [List.cons.injEq] at d2
      exact ⟨d1, d2.2, d3, e, he, Or.inl ⟨a, b, c, d2.1⟩⟩
    · exact absurd d.2.1 (by simp)
    · exact absurd d.2.1 (by simp)
    · obtain ⟨d1, d2, d3⟩ := d
      rw [List.cons.injEq] at d2
      exact ⟨d1, d2.2, d3, e, he, Or.inr (Or.inl ⟨a, b, c, d2.1⟩)⟩
    · exact absurd d.2.1 (by simp)
    · exact absurd d.2.1 (by simp)
    · obtain ⟨d1, d2, d3⟩ := d
      rw [List.cons.injEq] at d2
      exact ⟨d1, d2.2, d3, e, he, Or.inr (Or.inr ⟨a, b, c, d2.1⟩)⟩
    · exact absurd d.2.1 (by simp)
/-- the receiver's reply, with its HELD set's change -/
theorem TOK_reply {E F B : List N5} {H : Nat → Bool} {up : Bool} {tk : N5 → Prop} {t : N5} {i k : Nat} {hb : Bool} {e : N5} (T : TOK E (t :: F) B H up tk) (h1 : 1 ≤ i) (h2 : i ≤ 16) (ht : isF i t = true) (he : lk E i = some e) (hk : k = 2 ∨ k = 3 ∨ k = 5)
    (hr : (e.2.1 = 1 ∧ e.2.2.2.2 = 1 ∧ hb = false ∧ k = 2 ∧ tk e) ∨ (e.2.1 = 2 ∧ e.2.2.2.2 = 1 ∧ tk e ∧ k = 3 ∧ hb = true) ∨ (e.2.1 = 2 ∧ e.2.2.2.2 = 2 ∧ tk e ∧ k = 5 ∧ hb = false)) : TOK E F (B ++ [(k, i, 0, 0, 0)]) (fu H i hb) up tk := by
  obtain ⟨a1, a2, a3, _⟩ := TOK_look T h1 h2 ht
  refine ⟨T.1, fun i' b1 b2 => ?_⟩
  rw [fl_app]
  by_cases hi : i' = i
  · subst hi
    have hB : isB i' (k, i', 0, 0, 0) = true := by
      unfold isB
      rcases hk with rfl | rfl | rfl <;> simp
    rw [hB, a2, a3, fu_s, if_pos rfl, he, a1]
    refine Or.inr ⟨e, rfl, ?_⟩
    rcases hr with ⟨c1, c2, rfl, rfl, c5⟩ | ⟨c1, c2, c3, rfl, rfl⟩ | ⟨c1, c2, c3, rfl, rfl⟩
    · exact Or.inl ⟨c1, c2, rfl, Or.inr (Or.inr ⟨rfl, rfl, rfl, c5⟩)⟩
    · exact Or.inr (Or.inl ⟨c1, c2, fun _ => c3, Or.inr (Or.inr ⟨rfl, rfl, rfl, rfl⟩)⟩)
    · exact Or.inr (Or.inr ⟨c1, c2, c3, Or.inr (Or.inr ⟨rfl, rfl, rfl, rfl⟩)⟩)
  · have hB : isB i' (k, i, 0, 0, 0) = false := isB_ne (fun z => hi z.symm)
    have T' := T.2 i' b1 b2
    have hF : isF i' t = false := isF_ne (fun z => hi (by rw [← z, (isF_id ht).1]))
    rw [fl_cons, hF] at T'
    rw [hB, fu_n hi]
    simp only [Bool.false_eq_true, if_false, List.append_nil] at T' ⊢
    exact T'
/-- an answer of this direction comes back: what it is -/
theorem TOK_back {E F B : List N5} {H : Nat → Bool} {up : Bool} {tk : N5 → Prop} {t : N5} {i : Nat} (T : TOK E F (t :: B) H up tk) (h1 : 1 ≤ i) (h2 : i ≤ 16) (ht : isB i t = true) :
    up = true ∧ F.filter (isF i) = [] ∧ B.filter (isB i) = [] ∧ ∃ e, lk E i = some e ∧ tk e ∧ ((e.2.1 = 1 ∧ e.2.2.2.2 = 1 ∧ H i = false ∧ t = (2, i, 0, 0, 0)) ∨ (e.2.1 = 2 ∧ e.2.2.2.2 = 1 ∧ H i = true ∧ t = (3, i, 0, 0, 0)) ∨ (e.2.1 = 2 ∧ e.2.2.2.2 = 2 ∧ H i = false ∧ t = (5, i, 0, 0, 0))) := by
  have T' := T.2 i h1 h2
  rw [fl_cons, ht, if_pos rfl] at T'
  rcases T' with ⟨_, _, c, _⟩ | ⟨e, he, T'⟩
  · exact absurd c (by simp)
  · rcases T' with ⟨a, b, c, d | d | d⟩ | ⟨a, b, c, d | d | d⟩ | ⟨a, b, c, d | d | d⟩
    · exact absurd d.2.2 (by simp)
    · exact absurd d.2.2 (by simp)
    · obtain ⟨d1, d2, d3, d4⟩ := d
      rw [List.cons.injEq] at d3
      exact ⟨d1, d2, d3.2, e, he, d4, Or.inl ⟨a, b, c, d3.1⟩⟩
    · exact absurd d.2.2 (by simp)
    · exact absurd d.2.2 (by simp)
    · obtain ⟨d1, d2, d3, d4⟩ := d
      rw [List.cons.injEq] at d3
      exact ⟨d1, d2, d3.2, e, he, c d4, Or.inr (Or.inl ⟨a, b, d4, d3.1⟩)⟩
    · exact absurd d.2.2 (by simp)
    · exact absurd d.2.2 (by simp)
    · obtain ⟨d1, d2, d3, d4⟩ := d
      rw [List.cons.injEq] at d3
      exact ⟨d1, d2, d3.2, e, he, c, Or.inr (Or.inr ⟨a, b, d4, d3.1⟩)⟩
/-- the exchange of an id ends -/
theorem TOK_end {E F B : List N5} {H : Nat → Bool} {up : Bool} {tk : N5 → Prop} {t : N5} {i j : Nat} {e : N5} (T : TOK E F (t :: B) H up tk) (h1 : 1 ≤ i) (h2 : i ≤ 16) (ht : isB i t = true) (he : E[j]? = some e) (hi : e.2.2.1 = i) (hH : H i = false) : TOK (E.eraseIdx j) F B H up tk := by
  obtain ⟨a1, a2, a3, _⟩ := TOK_back T h1 h2 ht
  refine ⟨ndk_erase T.1 j, fun i' b1 b2 => ?_⟩
  rw [lk_erase T.1 he]
  by_cases hx : i' = i
  · subst hx
    rw [hi, if_pos rfl, a2, a3, hH]
    exact Or.inl ⟨rfl, rfl, rfl, rfl⟩
  · have T' := T.2 i' b1 b2
    have hB : isB i' t = false := isB_ne (fun z => hx (by rw [← z, (isB_id ht).1]))
    rw [fl_cons, hB] at T'
    rw [hi, if_neg hx]
    simp only [Bool.false_eq_true, if_false] at T'
    exact T'
/-- the entry is released -/
theorem TOK_rel {E F B : List N5} {H : Nat → Bool} {up : Bool} {tk : N5 → Prop} {t : N5} {i j : Nat} {e : N5} (T : TOK E F (t :: B) H up tk) (h1 : 1 ≤ i) (h2 : i ≤ 16) (ht : isB i t = true) (he : E[j]? = some e) (hi : e.2.2.1 = i) (hq : e.2.1 = 2) (htk : tk (e.1, e.2.1, e.2.2.1, e.2.2.2.1, 2)) : TOK (E.set j (e.1, e.2.1, e.2.2.1, e.2.2.2.1, 2)) (F ++ [(4, i, 0, 0, 0)]) B H up tk := by
  obtain ⟨a1, a2, a3, _⟩ := TOK_back T h1 h2 ht
  refine ⟨ndk_set (e2 := (e.1, e.2.1, e.2.2.1, e.2.2.2.1, 2)) T.1 he rfl, fun i' b1 b2 => ?_⟩
  rw [lk_set (e2 := (e.1, e.2.1, e.2.2.1, e.2.2.2.1, 2)) T.1 he rfl, fl_app]
  by_cases hx : i' = i
  · subst hx
    have hF : isF i' (4, i', 0, 0, 0) = true := by unfold isF; simp
    rw [hi, if_pos rfl, a2, a3, hF, a1]
    exact Or.inr ⟨_, rfl, Or.inr (Or.inr ⟨hq, rfl, by rw [hi] at htk; exact htk, Or.inr (Or.inl ⟨rfl, rfl, rfl⟩)⟩)⟩
  · have T' := T.2 i' b1 b2
    have hB : isB i' t = false := isB_ne (fun z => hx (by rw [← z, (isB_id ht).1]))
    have hF : isF i' (4, i, 0, 0, 0) = false := isF_ne (fun z => hx z.symm)
    rw [fl_cons, hB] at T'
    rw [hi, if_neg hx, hF]
    simp only [Bool.false_eq_true, if_false, List.append_nil] at T' ⊢
    exact T'
/-- the link drops, the session stays -/
theorem TOK_down {E F B : List N5} {H : Nat → Bool} {up : Bool} {tk : N5 → Prop} (T : TOK E F B H up tk) : TOK E [] [] H false tk := by
  refine ⟨T.1, fun i h1 h2 => ?_⟩
  rcases T.2 i h1 h2 with ⟨a, _, _, b⟩ | ⟨e, he, T'⟩
  · exact Or.inl ⟨a, rfl, rfl, b⟩
  · refine Or.inr ⟨e, he, ?_⟩
    rcases T' with ⟨a, b, c, _⟩ | ⟨a, b, c, _⟩ | ⟨a, b, c, _⟩
    · exact Or.inl ⟨a, b, c, Or.inl ⟨rfl, rfl, rfl⟩⟩
    · exact Or.inr (Or.inl ⟨a, b, c, Or.inl ⟨rfl, rfl, rfl⟩⟩)
    · exact Or.inr (Or.inr ⟨a, b, c, Or.inl ⟨rfl, rfl, rfl⟩⟩)
theorem TOK_nil {B : List N5} {up : Bool} {tk : N5 → Prop} {H : Nat → Bool} (hH : ∀ i, 1 ≤ i → i ≤ 16 → H i = false) : TOK [] [] [] H up tk :=
  ⟨ndk_nil, fun i h1 h2 => Or.inl ⟨rfl, rfl, rfl, hH i h1 h2⟩⟩
/-- what a side sends again for an entry -/
def rsn (e : N5) : N5 := if e.2.2.2.2 = 1 then (1, e.2.2.1, e.1, e.2.1, e.2.2.2.1) else (4, e.2.2.1, 0, 0, 0)
theorem rsn_F {i : Nat} {e : N5} : isF i (rsn e) = (e.2.2.1 == i) := by
  unfold rsn isF
  split <;> simp
theorem rsn_B {i : Nat} {e : N5} : isB i (rsn e) = false := by
  unfold rsn isB
  split <;> simp
theorem ndk_tail {e : N5} {E : List N5} (nd : ndk (e :: E)) : ndk E ∧ ∀ e', e' ∈ E → e'.2.2.1 ≠ e.2.2.1 := by
  constructor
  · intro i j a b hi hj hab
    have := nd (i + 1) (j + 1) a b hi hj hab
    omega
  · intro e' he' h
    obtain ⟨j, hj⟩ := List.mem_iff_getElem?.mp he'
    have := nd (j + 1) 0 e' e hj rfl h
    omega
theorem rsn_fl {i : Nat} : ∀ {E : List N5}, ndk E → (E.map rsn).filter (isF i) = match lk E i with | none => [] | some e => [rsn e] := by
  intro E
  induction E with
  | nil => intro _; rfl
  | cons e E ih =>
    intro nd
    obtain ⟨h1, h2⟩ := ndk_tail nd
    have := ih h1
    rw [List.map_cons, fl_cons, rsn_F, this]
    by_cases h : e.2.2.1 = i
    · have hl : lk (e :: E) i = some e := by
        unfold lk
        rw [List.find?_cons]
        simp [h]
      have hn : lk E i = none := by
        rw [lk_none]
        intro e' he' z
        exact h2 e' he' (by rw [z, h])
      rw [hl, hn]
      simp [h]
    · have hb : (e.2.2.1 == i) = false := beq_eq_false_iff_ne.mpr h
      have hl : lk (e :: E) i = lk E i := by
        unfold lk
        exact List.find?_cons_of_neg (by rw [hb]; decide)
      rw [hl]
      simp [h]
/-- the session is resumed -/
theorem TOK_up {E B : List N5} {H : Nat → Bool} {tk : N5 → Prop} (T : TOK E [] [] H false tk) (hB : ∀ t, t ∈ B → ∀ i, isB i t = false) : TOK E (E.map rsn) B H true tk := by
  refine ⟨T.1, fun i h1 h2 => ?_⟩
  have hBf : B.filter (isB i) = [] := by
    rw [List.filter_eq_nil_iff]
    intro t ht
    rw [hB t ht i]
    decide
  rw [rsn_fl T.1, hBf]
  rcases T.2 i h1 h2 with ⟨a, _, _, b⟩ | ⟨e, he, T'⟩
  · rw [a]
    exact Or.inl ⟨rfl, rfl, rfl, b⟩
  · rw [he]
    have hid := (lk_mem he).2
    refine Or.inr ⟨e, rfl, ?_⟩
    rcases T' with ⟨a, b, c, _⟩ | ⟨a, b, c, _⟩ | ⟨a, b, c, _⟩
    · refine Or.inl ⟨a, b, c, Or.inr (Or.inl ⟨rfl, ?_, rfl⟩)⟩
      show [rsn e] = _
      unfold rsn
      rw [if_pos b, hid, a]
    · refine Or.inr (Or.inl ⟨a, b, c, Or.inr (Or.inl ⟨rfl, ?_, rfl⟩)⟩)
      show [rsn e] = _
      unfold rsn
      rw [if_pos b, hid, a]
    · refine Or.inr (Or.inr ⟨a, b, c, Or.inr (Or.inl ⟨rfl, ?_, rfl⟩)⟩)
      show [rsn e] = _
      unfold rsn
      rw [if_neg (by omega), hid]
end Q5
