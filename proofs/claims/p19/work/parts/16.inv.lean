section Q16
theorem isB_1 {i a b c d : Nat} : isB i (1, a, b, c, d) = false := isB_k (fun z => absurd z (by decide : ¬ (1 : Nat) = 2)) (fun z => absurd z (by decide : ¬ (1 : Nat) = 3)) (fun z => absurd z (by decide : ¬ (1 : Nat) = 5))
theorem isB_4 {i a b c d : Nat} : isB i (4, a, b, c, d) = false := isB_k (fun z => absurd z (by decide : ¬ (4 : Nat) = 2)) (fun z => absurd z (by decide : ¬ (4 : Nat) = 3)) (fun z => absurd z (by decide : ¬ (4 : Nat) = 5))
theorem isF_2 {i a b c d : Nat} : isF i (2, a, b, c, d) = false := isF_k (fun z => absurd z (by decide : ¬ (2 : Nat) = 1)) (fun z => absurd z (by decide : ¬ (2 : Nat) = 4))
theorem isF_3 {i a b c d : Nat} : isF i (3, a, b, c, d) = false := isF_k (fun z => absurd z (by decide : ¬ (3 : Nat) = 1)) (fun z => absurd z (by decide : ¬ (3 : Nat) = 4))
theorem isF_5 {i a b c d : Nat} : isF i (5, a, b, c, d) = false := isF_k (fun z => absurd z (by decide : ¬ (5 : Nat) = 1)) (fun z => absurd z (by decide : ¬ (5 : Nat) = 4))
theorem isF_0 {k b c d i : Nat} (hi : 1 ≤ i) : isF i (k, 0, b, c, d) = false := isF_ne (fun z => by have z' : 0 = i := z; omega)
/-! what holds of the protocol -/
def tkA (ac : Nat → Nat) (e : N5) : Prop := 1 ≤ ac e.1
def tkR (rc : Nat → Nat → Nat) (c : Nat) (e : N5) : Prop := e.2.2.2.1 = 0 → 1 ≤ rc c e.1
/-- serial s goes to client d once at most -/
def XO (O W : List N5) (H : Nat → Bool) (r s : Nat) : Prop := r ≤ 1 ∧ (∀ e, e ∈ O → e.1 = s → e.2.2.2.1 = 0 → e.2.1 = 2 ∧ (e.2.2.2.2 = 1 → H e.2.2.1 = false → r = 0)) ∧ (∀ e e', e ∈ O → e' ∈ O → e.1 = s → e'.1 = s → e.2.2.2.1 = 0 → e'.2.2.2.1 = 0 → e = e') ∧ ∀ t, t ∈ W → t.1 = 1 → t.2.2.1 = s → t.2.2.2.2 = 0 → t.2.2.2.1 ≠ 0
/-- serial s hasn't been accepted: nothing of it, but marked, is at client d -/
def NS (O W : List N5) (r s : Nat) : Prop := r = 0 ∧ (∀ e, e ∈ O → e.1 = s → e.2.2.2.1 = 1) ∧ ∀ t, t ∈ W → t.1 = 1 → t.2.2.1 = s → t.2.2.2.2 = 1
theorem XO_0 {O W : List N5} {H : Nat → Bool} {r s : Nat} (h : NS O W r s) : XO O W H r s := by
  obtain ⟨h1, h2, h3⟩ := h
  refine ⟨by omega, fun e he hs hm => ?_, fun e e' he he' hs hs' hm hm' => ?_, fun t ht hk hs hm => ?_⟩
  · have := h2 e he hs; omega
  · have := h2 e he hs; omega
  · have := h3 t ht hk hs; omega
def PINV (O W : Nat → List N5) (H : Nat → Nat → Bool) (up pe : Nat → Bool) (S : Nat → List (Int32 × Nat)) (rc : Nat → Nat → Nat) (ac : Nat → Nat) (n : Nat) (qu : Nat → Nat) (am : Nat → Nat → Bool) (nq : Nat → Bool) : Prop :=
  (∀ c, c < 4 → TOK (O c) (W c) (W (4 + c)) (H (4 + c)) (up c) (tkA ac))
  ∧ (∀ c, c < 4 → TOK (O (4 + c)) (W (4 + c)) (W c) (H c) (up c) (tkR rc c))
  ∧ (∀ c, c < 4 → up c = false → W c = [] ∧ W (4 + c) = [])
  ∧ (∀ c, c < 4 → (O c).length ≤ 4 ∧ ∀ e, e ∈ O c → e.1 ≤ n ∧ e.2.1 = qu e.1 ∧ e.2.2.2.1 = 0)
  ∧ (∀ c, c < 4 → ∀ t, t ∈ W c → t.1 = 1 → t.2.2.1 ≤ n ∧ t.2.2.2.1 = qu t.2.2.1)
  ∧ (∀ c c', c < 4 → c' < 4 → ∀ e e', e ∈ O c → e' ∈ O c' → e.1 = e'.1 → c = c' ∧ e = e')
  ∧ (∀ s, qu s = 2 → ac s ≤ 1)
  ∧ (∀ c, c < 4 → ∀ e, e ∈ O c → e.2.1 = 2 → e.2.2.2.2 = 1 → H (4 + c) e.2.2.1 = false → ac e.1 = 0)
  ∧ (∀ s, n < s → ac s = 0)
  ∧ (∀ d s, d < 4 → ac s = 0 → NS (O (4 + d)) (W (4 + d)) (rc d s) s)
  ∧ (∀ d s, d < 4 → qu s = 2 → (nq d = false ∨ am d s = true) → XO (O (4 + d)) (W (4 + d)) (H d) (rc d s) s)
  ∧ (∀ d, d < 4 → nq d = false → ∀ f, f ∈ S d → f.2 = 2)
  ∧ (∀ d s, d < 4 → am d s = true → pe d = true ∧ 1 ≤ ac s ∧ 1 ≤ qu s ∧ (1 ≤ rc d s ∨ ∃ e, e ∈ O (4 + d) ∧ e.1 = s ∧ e.2.2.2.1 = 0))
/-- arming and the record of subscriptions may be weakened -/
theorem PINV_am {O W : Nat → List N5} {H : Nat → Nat → Bool} {up pe : Nat → Bool} {S : Nat → List (Int32 × Nat)} {rc : Nat → Nat → Nat} {ac : Nat → Nat} {n : Nat} {qu : Nat → Nat} {am am' : Nat → Nat → Bool} {nq nq' : Nat → Bool} (I : PINV O W H up pe S rc ac n qu am nq) (h : ∀ d s, d < 4 → am' d s = true → am d s = true) (h2 : ∀ d, d < 4 → nq' d = false → nq d = false) : PINV O W H up pe S rc ac n qu am' nq' := by
  obtain ⟨i1, i2, i3, i4, i5, i6, i7, i8, i9, i10, i11, i12, i13⟩ := I
  exact ⟨i1, i2, i3, i4, i5, i6, i7, i8, i9, i10, fun d s hd hq hx => i11 d s hd hq (hx.elim (fun z => Or.inl (h2 d hd z)) (fun z => Or.inr (h d s hd z))), fun d hd hn => i12 d hd (h2 d hd hn), fun d s hd ha => i13 d s hd (h d s hd ha)⟩
theorem NS_eq {O O' W W' : List N5} {r r' s : Nat} (h : NS O W r s) (hO : ∀ e, e ∈ O' → e.2.2.2.1 = 0 → e.1 = s → e ∈ O) (hO1 : ∀ e, e ∈ O' → e.2.2.2.1 ≤ 1) (hW : ∀ t, t ∈ W' → t.1 = 1 → t.2.2.2.2 = 0 → t.2.2.1 = s → t ∈ W) (hW1 : ∀ t, t ∈ W' → t.2.2.2.2 ≤ 1) (hr : r' = r) : NS O' W' r' s := by
  obtain ⟨h1, h2, h3⟩ := h
  refine ⟨by rw [hr]; exact h1, fun e he hs => ?_, fun t ht hk hs => ?_⟩
  · have := hO1 e he
    apply Classical.byContradiction
    intro hx
    have hm : e.2.2.2.1 = 0 := by omega
    exact hx (h2 e (hO e he hm hs) hs)
  · have := hW1 t ht
    apply Classical.byContradiction
    intro hx
    have hm : t.2.2.2.2 = 0 := by omega
    exact hx (h3 t (hW t ht hk hm hs) hk hs)
/-- a publish -/
theorem PINV_pub {O W : Nat → List N5} {H : Nat → Nat → Bool} {up pe : Nat → Bool} {S : Nat → List (Int32 × Nat)} {rc : Nat → Nat → Nat} {ac : Nat → Nat} {n : Nat} {qu : Nat → Nat} {am : Nat → Nat → Bool} {nq : Nat → Bool} (I : PINV O W H up pe S rc ac n qu am nq) {c qn : Nat} {O' W' : List N5} (hc : c < 4) (hu : up c = true) (hq : qn ≤ 2) (hP : PBL n qn (O c) (W c) O' W') : PINV (fu O c O') (fu W c W') H up pe S rc ac (n + 1) (fu qu (n + 1) qn) am nq := by
  obtain ⟨i1, i2, i3, i4, i5, i6, i7, i8, i9, i10, i11, i12, i13⟩ := I
  have far : ∀ (f : Nat → List N5) (v : List N5) (d : Nat), d < 4 → fu f c v (4 + d) = f (4 + d) := fun f v d hd => fu_n (by omega)
  have ac0 : ac (n + 1) = 0 := i9 (n + 1) (by omega)
  have quo : ∀ s, s ≤ n → fu qu (n + 1) qn s = qu s := fun s hs => fu_n (by omega)
  -- the new lists
  have hO : ∀ e, e ∈ O' → e ∈ O c ∨ (e.1 = n + 1 ∧ e.2.1 = qn ∧ e.2.2.2.1 = 0 ∧ e.2.2.2.2 = 1) := by
    intro e he
    rcases hP with ⟨_, h, _⟩ | ⟨_, _, i, _, _, _, h, _⟩
    · rw [h] at he; exact Or.inl he
    · rw [h] at he
      rcases List.mem_append.mp he with h | h
      · exact Or.inl h
      · rw [List.mem_singleton.mp h]; exact Or.inr ⟨rfl, rfl, rfl, rfl⟩
  have hO1 : ∀ e e', e ∈ O' → e' ∈ O' → e.1 = n + 1 → e'.1 = n + 1 → e = e' := by
    intro e e' he he' h1 h2
    rcases hP with ⟨_, h, _⟩ | ⟨_, _, i, _, _, _, h, _⟩
    · rw [h] at he
      have := ((i4 c hc).2 e he).1
      omega
    · rw [h] at he he'
      rcases List.mem_append.mp he with a | a <;> rcases List.mem_append.mp he' with b | b
      · have := ((i4 c hc).2 e a).1; omega
      · have := ((i4 c hc).2 e a).1; omega
      · have := ((i4 c hc).2 e' b).1; omega
      · rw [List.mem_singleton.mp a, List.mem_singleton.mp b]
  have hW : ∀ t, t ∈ W' → t ∈ W c ∨ (t.1 = 1 ∧ t.2.2.1 = n + 1 ∧ t.2.2.2.1 = qn) := by
    intro t ht
    rcases hP with ⟨h0, _, h⟩ | ⟨_, _, i, _, _, _, _, h⟩
    · rw [h] at ht
      rcases List.mem_append.mp ht with h | h
      · exact Or.inl h
      · rw [List.mem_singleton.mp h]; exact Or.inr ⟨rfl, rfl, h0.symm⟩
    · rw [h] at ht
      rcases List.mem_append.mp ht with h | h
      · exact Or.inl h
      · rw [List.mem_singleton.mp h]; exact Or.inr ⟨rfl, rfl, rfl⟩
  refine ⟨fun c' hc' => ?_, fun c' hc' => ?_, fun c' hc' hd => ?_, fun c' hc' => ?_, fun c' hc' t ht hk => ?_, fun c1 c2 hc1 hc2 e e' he he' hs => ?_, fun s hs => ?_, fun c' hc' e he hq2 hst hH => ?_, fun s hs => i9 s (by omega), fun d s hd ha => ?_, fun d s hd hs hx => ?_, i12, fun d s hd ha => ?_⟩
  · rw [far W W' c' hc']
    by_cases e : c' = c
    · subst e
      rw [fu_s, fu_s]
      have T := i1 c' hc'
      rw [hu] at T ⊢
      rcases hP with ⟨_, h1, h2⟩ | ⟨hq1, _, i, j1, j2, j3, h1, h2⟩
      · rw [h1, h2]
        exact TOK_F T (fun i hi => isF_ne (fun z => by have z' : 0 = i := z; omega))
      · rw [h1, h2]
        exact TOK_new T j1 j2 (by omega) j3
    · rw [fu_n e, fu_n e]
      exact i1 c' hc'
  · rw [far O O' c' hc', far W W' c' hc']
    by_cases e : c' = c
    · subst e
      rw [fu_s]
      have T := i2 c' hc'
      rcases hP with ⟨_, h1, h2⟩ | ⟨hq1, _, i, j1, j2, j3, h1, h2⟩
      · rw [h2]
        exact TOK_B T (fun i _ => isB_1)
      · rw [h2]
        exact TOK_B T (fun i' _ => isB_1)
    · rw [fu_n e]
      exact i2 c' hc'
  · by_cases e : c' = c
    · rw [e, hu] at hd; exact absurd hd (by decide)
    · rw [fu_n e, far W W' c' hc']
      exact i3 c' hc' hd
  · by_cases e : c' = c
    · subst e
      rw [fu_s]
      refine ⟨?_, fun e he => ?_⟩
      · have := (i4 c' hc').1
        rcases hP with ⟨_, h1, _⟩ | ⟨_, h4, i, _, _, _, h1, _⟩
        · rw [h1]; exact this
        · rw [h1, List.length_append, List.length_singleton]; omega
      · rcases hO e he with h | ⟨h1, h2, h3, _⟩
        · obtain ⟨a, b, d⟩ := (i4 c' hc').2 e h
          exact ⟨by omega, by rw [quo _ a]; exact b, d⟩
        · exact ⟨by omega, by rw [h1, fu_s]; exact h2, h3⟩
    · rw [fu_n e]
      refine ⟨(i4 c' hc').1, fun e he => ?_⟩
      obtain ⟨a, b, d⟩ := (i4 c' hc').2 e he
      exact ⟨by omega, by rw [quo _ a]; exact b, d⟩
  · by_cases e : c' = c
    · subst e
      rw [fu_s] at ht
      rcases hW t ht with h | ⟨_, h2, h3⟩
      · obtain ⟨a, b⟩ := i5 c' hc' t h hk
        exact ⟨by omega, by rw [quo _ a]; exact b⟩
      · exact ⟨by omega, by rw [h2, fu_s]; exact h3⟩
    · rw [fu_n e] at ht
      obtain ⟨a, b⟩ := i5 c' hc' t ht hk
      exact ⟨by omega, by rw [quo _ a]; exact b⟩
  · have key : ∀ c1 e, c1 < 4 → e ∈ fu O c O' c1 → (e ∈ O c1) ∨ (c1 = c ∧ e ∈ O' ∧ e.1 = n + 1) := by
      intro c1 e h1 he
      by_cases x : c1 = c
      · subst x
        rw [fu_s] at he
        rcases hO e he with h | ⟨h, _⟩
        · exact Or.inl h
        · exact Or.inr ⟨rfl, he, h⟩
      · rw [fu_n x] at he
        exact Or.inl he
    rcases key c1 e hc1 he with a | ⟨a1, a2, a3⟩ <;> rcases key c2 e' hc2 he' with b | ⟨b1, b2, b3⟩
    · exact i6 c1 c2 hc1 hc2 e e' a b hs
    · have := ((i4 c1 hc1).2 e a).1; omega
    · have := ((i4 c2 hc2).2 e' b).1; omega
    · exact ⟨by omega, hO1 e e' a2 b2 a3 b3⟩
  · by_cases e : s = n + 1
    · rw [e, ac0]; omega
    · rw [fu_n e] at hs
      exact i7 s hs
  · by_cases x : c' = c
    · subst x
      rw [fu_s] at he
      rcases hO e he with h | ⟨h1, _⟩
      · exact i8 c' hc' e h hq2 hst hH
      · rw [h1]; exact ac0
    · rw [fu_n x] at he
      exact i8 c' hc' e he hq2 hst hH
  · rw [far O O' d hd, far W W' d hd]
    exact i10 d s hd ha
  · rw [far O O' d hd, far W W' d hd]
    by_cases e : s = n + 1
    · subst e
      exact XO_0 (i10 d (n + 1) hd ac0)
    · rw [fu_n e] at hs
      exact i11 d s hd hs hx
  · rw [far O O' d hd]
    obtain ⟨a, b, e, f⟩ := i13 d s hd ha
    refine ⟨a, b, ?_, f⟩
    have hsn : s ≠ n + 1 := by
      intro z
      rw [z, ac0] at b
      omega
    rw [fu_n hsn]
    exact e
end Q16
