section Q17
theorem f2_c {α : Type} {f : Nat → α} {c : Nat} {a b : α} : fu (fu f c a) (4 + c) b c = a := by
  rw [fu_n (by omega), fu_s]
theorem f2_4 {α : Type} {f : Nat → α} {c : Nat} {a b : α} : fu (fu f c a) (4 + c) b (4 + c) = b := fu_s
theorem f2_n {α : Type} {f : Nat → α} {c x : Nat} {a b : α} (h1 : x ≠ c) (h2 : x ≠ 4 + c) : fu (fu f c a) (4 + c) b x = f x := by
  rw [fu_n h2, fu_n h1]
/-- fewer subscriptions -/
theorem PINV_uns {O W : Nat → List N5} {H : Nat → Nat → Bool} {up pe : Nat → Bool} {S : Nat → List (Int32 × Nat)} {rc : Nat → Nat → Nat} {ac : Nat → Nat} {n : Nat} {qu : Nat → Nat} {am : Nat → Nat → Bool} {nq : Nat → Bool} (I : PINV O W H up pe S rc ac n qu am nq) {c : Nat} {L : List (Int32 × Nat)} (hL : ∀ f, f ∈ L → f ∈ S c) : PINV O W H up pe (fu S c L) rc ac n qu am nq := by
  obtain ⟨i1, i2, i3, i4, i5, i6, i7, i8, i9, i10, i11, i12, i13⟩ := I
  refine ⟨i1, i2, i3, i4, i5, i6, i7, i8, i9, i10, i11, fun d hd hn f hf => ?_, i13⟩
  by_cases e : d = c
  · subst e
    rw [fu_s] at hf
    exact i12 d hd hn f (hL f hf)
  · rw [fu_n e] at hf
    exact i12 d hd hn f hf
/-- the link drops, the session stays -/
theorem PINV_down {O W : Nat → List N5} {H : Nat → Nat → Bool} {up pe : Nat → Bool} {S : Nat → List (Int32 × Nat)} {rc : Nat → Nat → Nat} {ac : Nat → Nat} {n : Nat} {qu : Nat → Nat} {am : Nat → Nat → Bool} {nq : Nat → Bool} (I : PINV O W H up pe S rc ac n qu am nq) {c : Nat} (hc : c < 4) : PINV O (fu (fu W c []) (4 + c) []) H (fu up c false) pe S rc ac n qu am nq := by
  obtain ⟨i1, i2, i3, i4, i5, i6, i7, i8, i9, i10, i11, i12, i13⟩ := I
  refine ⟨fun c' hc' => ?_, fun c' hc' => ?_, fun c' hc' hd => ?_, i4, fun c' hc' t ht hk => ?_, i6, i7, i8, i9, fun d s hd ha => ?_, fun d s hd hs hx => ?_, i12, i13⟩
  · by_cases e : c' = c
    · subst e
      rw [f2_c, f2_4, fu_s]
      exact TOK_down (i1 c' hc')
    · rw [f2_n (by omega) (by omega), f2_n (by omega) (by omega), fu_n e]
      exact i1 c' hc'
  · by_cases e : c' = c
    · subst e
      rw [f2_c, f2_4, fu_s]
      exact TOK_down (i2 c' hc')
    · rw [f2_n (by omega) (by omega), f2_n (by omega) (by omega), fu_n e]
      exact i2 c' hc'
  · by_cases e : c' = c
    · subst e
      rw [f2_c, f2_4]
      exact ⟨rfl, rfl⟩
    · rw [fu_n e] at hd
      rw [f2_n (by omega) (by omega), f2_n (by omega) (by omega)]
      exact i3 c' hc' hd
  · by_cases e : c' = c
    · subst e
      rw [f2_c] at ht
      exact absurd ht (by simp)
    · rw [f2_n (by omega) (by omega)] at ht
      exact i5 c' hc' t ht hk
  · obtain ⟨a, b, g⟩ := i10 d s hd ha
    refine ⟨a, b, fun t ht hk hs => ?_⟩
    by_cases e : d = c
    · subst e
      rw [f2_4] at ht
      exact absurd ht (by simp)
    · rw [f2_n (by omega) (by omega)] at ht
      exact g t ht hk hs
  · obtain ⟨a, b, g, f⟩ := i11 d s hd hs hx
    refine ⟨a, b, g, fun t ht hk hs => ?_⟩
    by_cases e : d = c
    · subst e
      rw [f2_4] at ht
      exact absurd ht (by simp)
    · rw [f2_n (by omega) (by omega)] at ht
      exact f t ht hk hs
/-- the session is discarded, the link being down; client c isn't armed -/
theorem PINV_disc {O W : Nat → List N5} {H : Nat → Nat → Bool} {up pe : Nat → Bool} {S : Nat → List (Int32 × Nat)} {rc : Nat → Nat → Nat} {ac : Nat → Nat} {n : Nat} {qu : Nat → Nat} {am : Nat → Nat → Bool} {nq : Nat → Bool} (I : PINV O W H up pe S rc ac n qu am nq) {c : Nat} {b u : Bool} (hc : c < 4) (hu : up c = false) (ha : ∀ s, am c s = false) : PINV (fu (fu O c []) (4 + c) []) W (fu (fu H c fF) (4 + c) fF) (fu up c u) (fu pe c b) (fu S c []) rc ac n qu am nq := by
  obtain ⟨i1, i2, i3, i4, i5, i6, i7, i8, i9, i10, i11, i12, i13⟩ := I
  obtain ⟨w1, w2⟩ := i3 c hc hu
  have memO : ∀ c' e, c' < 4 → e ∈ fu (fu O c []) (4 + c) [] c' → c' ≠ c ∧ e ∈ O c' := by
    intro c' e h1 he
    by_cases x : c' = c
    · subst x
      rw [f2_c] at he
      exact absurd he (by simp)
    · rw [f2_n x (by omega)] at he
      exact ⟨x, he⟩
  have memP : ∀ d e, d < 4 → e ∈ fu (fu O c []) (4 + c) [] (4 + d) → d ≠ c ∧ e ∈ O (4 + d) := by
    intro d e h1 he
    by_cases x : d = c
    · subst x
      rw [f2_4] at he
      exact absurd he (by simp)
    · rw [f2_n (by omega) (by omega)] at he
      exact ⟨x, he⟩
  refine ⟨fun c' hc' => ?_, fun c' hc' => ?_, fun c' hc' hd => ?_, fun c' hc' => ?_, i5, fun c1 c2 h1 h2 e e' he he' hs => ?_, i7, fun c' hc' e he hq hst hH => ?_, i9, fun d s hd hac => ?_, fun d s hd hs hx => ?_, fun d hd hn f hf => ?_, fun d s hd hx => ?_⟩
  · by_cases x : c' = c
    · subst x
      rw [f2_c, f2_4, w1, w2]
      exact TOK_nil (B := []) (fun i _ _ => rfl)
    · rw [f2_n x (by omega), f2_n (by omega) (by omega), fu_n x]
      exact i1 c' hc'
  · by_cases x : c' = c
    · subst x
      rw [f2_4, f2_c, w1, w2]
      exact TOK_nil (B := []) (fun i _ _ => rfl)
    · rw [f2_n (by omega) (by omega), f2_n x (by omega), fu_n x]
      exact i2 c' hc'
  · by_cases x : c' = c
    · subst x; exact ⟨w1, w2⟩
    · rw [fu_n x] at hd
      exact i3 c' hc' hd
  · by_cases x : c' = c
    · subst x
      rw [f2_c]
      exact ⟨by decide, fun e he => absurd he (by simp)⟩
    · rw [f2_n x (by omega)]
      exact i4 c' hc'
  · exact i6 c1 c2 h1 h2 e e' (memO c1 e h1 he).2 (memO c2 e' h2 he').2 hs
  · obtain ⟨x, he'⟩ := memO c' e hc' he
    rw [f2_n (by omega) (by omega)] at hH
    exact i8 c' hc' e he' hq hst hH
  · obtain ⟨a, b, g⟩ := i10 d s hd hac
    exact ⟨a, fun e he hs => b e (memP d e hd he).2 hs, g⟩
  · obtain ⟨a, b, g, f⟩ := i11 d s hd hs hx
    refine ⟨a, fun e he hs' hm => ?_, fun e e' he he' => g e e' (memP d e hd he).2 (memP d e' hd he').2, f⟩
    obtain ⟨x, he'⟩ := memP d e hd he
    rw [f2_n x (by omega)]
    exact b e he' hs' hm
  · by_cases x : d = c
    · subst x
      rw [fu_s] at hf
      exact absurd hf (by simp)
    · rw [fu_n x] at hf
      exact i12 d hd hn f hf
  · have x : d ≠ c := by
      intro z
      rw [z, ha s] at hx
      exact absurd hx (by decide)
    obtain ⟨a, b, e, f⟩ := i13 d s hd hx
    rw [fu_n x, f2_n (by omega) (by omega)]
    exact ⟨a, b, e, f⟩
/-- the session is resumed -/
theorem PINV_res {O W : Nat → List N5} {H : Nat → Nat → Bool} {up pe : Nat → Bool} {S : Nat → List (Int32 × Nat)} {rc : Nat → Nat → Nat} {ac : Nat → Nat} {n : Nat} {qu : Nat → Nat} {am : Nat → Nat → Bool} {nq : Nat → Bool} (I : PINV O W H up pe S rc ac n qu am nq) {c : Nat} (hc : c < 4) (hu : up c = false) (hp : pe c = true) : PINV O (fu (fu W c (W c ++ (O c).map rsn)) (4 + c) (W (4 + c) ++ (O (4 + c)).map rsn)) H (fu up c true) (fu pe c true) S rc ac n qu am nq := by
  obtain ⟨i1, i2, i3, i4, i5, i6, i7, i8, i9, i10, i11, i12, i13⟩ := I
  obtain ⟨w1, w2⟩ := i3 c hc hu
  rw [w1, w2, List.nil_append, List.nil_append]
  have hpe : fu pe c true = pe := by rw [← hp]; exact fu_id pe c
  rw [hpe]
  have hB : ∀ (E : List N5) (t : N5), t ∈ E.map rsn → ∀ i, isB i t = false := by
    intro E t ht i
    obtain ⟨e, _, rfl⟩ := List.mem_map.mp ht
    exact rsn_B
  have hk1 : ∀ (E : List N5) (t : N5), t ∈ E.map rsn → t.1 = 1 → ∃ e, e ∈ E ∧ t.2.2.1 = e.1 ∧ t.2.2.2.1 = e.2.1 ∧ t.2.2.2.2 = e.2.2.2.1 := by
    intro E t ht hk
    obtain ⟨e, he, rfl⟩ := List.mem_map.mp ht
    refine ⟨e, he, ?_⟩
    by_cases hs : e.2.2.2.2 = 1
    · have hr : rsn e = (1, e.2.2.1, e.1, e.2.1, e.2.2.2.1) := if_pos hs
      rw [hr]
      exact ⟨rfl, rfl, rfl⟩
    · have hr : rsn e = (4, e.2.2.1, 0, 0, 0) := if_neg hs
      rw [hr] at hk
      exact absurd hk (by decide : ¬ (4 : Nat) = 1)
  refine ⟨fun c' hc' => ?_, fun c' hc' => ?_, fun c' hc' hd => ?_, i4, fun c' hc' t ht hk => ?_, i6, i7, i8, i9, fun d s hd ha => ?_, fun d s hd hs hx => ?_, i12, i13⟩
  · by_cases e : c' = c
    · subst e
      rw [f2_c, f2_4, fu_s]
      have T := i1 c' hc'
      rw [w1, w2, hu] at T
      exact TOK_up T (hB _)
    · rw [f2_n (by omega) (by omega), f2_n (by omega) (by omega), fu_n e]
      exact i1 c' hc'
  · by_cases e : c' = c
    · subst e
      rw [f2_c, f2_4, fu_s]
      have T := i2 c' hc'
      rw [w1, w2, hu] at T
      exact TOK_up T (hB _)
    · rw [f2_n (by omega) (by omega), f2_n (by omega) (by omega), fu_n e]
      exact i2 c' hc'
  · by_cases e : c' = c
    · subst e
      rw [fu_s] at hd
      exact absurd hd (by decide)
    · rw [fu_n e] at hd
      rw [f2_n (by omega) (by omega), f2_n (by omega) (by omega)]
      exact i3 c' hc' hd
  · by_cases e : c' = c
    · subst e
      rw [f2_c] at ht
      obtain ⟨e, he, h1, h2, _⟩ := hk1 _ t ht hk
      obtain ⟨a, b, _⟩ := (i4 c' hc').2 e he
      rw [h1, h2]
      exact ⟨a, b⟩
    · rw [f2_n (by omega) (by omega)] at ht
      exact i5 c' hc' t ht hk
  · obtain ⟨a, b, g⟩ := i10 d s hd ha
    refine ⟨a, b, fun t ht hk hs => ?_⟩
    by_cases e : d = c
    · subst e
      rw [f2_4] at ht
      obtain ⟨e, he, h1, h2, h3⟩ := hk1 _ t ht hk
      rw [h3]
      exact b e he (by rw [← h1]; exact hs)
    · rw [f2_n (by omega) (by omega)] at ht
      exact g t ht hk hs
  · obtain ⟨a, b, g, f⟩ := i11 d s hd hs hx
    refine ⟨a, b, g, fun t ht hk hs' hm => ?_⟩
    by_cases e : d = c
    · subst e
      rw [f2_4] at ht
      obtain ⟨e, he, h1, h2, h3⟩ := hk1 _ t ht hk
      have := (b e he (by rw [← h1]; exact hs') (by rw [← h3]; exact hm)).1
      rw [h2]
      omega
    · rw [f2_n (by omega) (by omega)] at ht
      exact f t ht hk hs' hm
end Q17
