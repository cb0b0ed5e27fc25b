section Q18
theorem SND_TOK {up : Bool} {s e m v v' : Nat} {O W O' W' B : List N5} {H : Nat → Bool} {tk : N5 → Prop} (h : SND up s e m O W v O' W' v') (he : e ≤ 2) (T : TOK O W B H up tk) : TOK O' W' B H up tk := by
  rcases h with ⟨_, h1, _, h2⟩ | ⟨_, _, h1, h2, _⟩ | ⟨q1, _, i, j1, j2, j3, h1, h2⟩
  · rw [h1, h2]
    cases up
    · exact T
    · exact TOK_F T (fun i hi => isF_0 hi)
  · rw [h1, h2]; exact T
  · rw [h1, h2]
    cases up
    · exact TOK_newd T j1 j2 (by omega) j3
    · exact TOK_new T j1 j2 (by omega) j3
theorem SND_B {up : Bool} {s e m v v' : Nat} {O W O' W' E F : List N5} {H : Nat → Bool} {u : Bool} {tk : N5 → Prop} (h : SND up s e m O W v O' W' v') (T : TOK E F W H u tk) : TOK E F W' H u tk := by
  rcases h with ⟨_, _, _, h2⟩ | ⟨_, _, _, h2, _⟩ | ⟨_, _, i, _, _, _, _, h2⟩
  · rw [h2]
    cases up
    · exact T
    · exact TOK_B T (fun i _ => isB_1)
  · rw [h2]; exact T
  · rw [h2]
    cases up
    · exact T
    · exact TOK_B T (fun i _ => isB_1)
theorem SND_O {up : Bool} {s e m v v' : Nat} {O W O' W' : List N5} (h : SND up s e m O W v O' W' v') : (∀ a, a ∈ O → a ∈ O') ∧ ∀ a, a ∈ O' → a ∈ O ∨ (a.1 = s ∧ a.2.1 = e ∧ a.2.2.2.1 = m ∧ a.2.2.2.2 = 1 ∧ O' = O ++ [a] ∧ 1 ≤ e) := by
  rcases h with ⟨_, h1, _, _⟩ | ⟨_, _, h1, _, _⟩ | ⟨q1, _, i, _, _, _, h1, _⟩
  · rw [h1]; exact ⟨fun a h => h, fun a h => Or.inl h⟩
  · rw [h1]; exact ⟨fun a h => h, fun a h => Or.inl h⟩
  · rw [h1]
    refine ⟨fun a h => List.mem_append.mpr (Or.inl h), fun a h => ?_⟩
    rcases List.mem_append.mp h with h | h
    · exact Or.inl h
    · have := List.mem_singleton.mp h
      subst this
      exact Or.inr ⟨rfl, rfl, rfl, rfl, rfl, q1⟩
theorem SND_W {up : Bool} {s e m v v' : Nat} {O W O' W' : List N5} (h : SND up s e m O W v O' W' v') : ∀ t, t ∈ W' → t ∈ W ∨ (t.1 = 1 ∧ t.2.2.1 = s ∧ t.2.2.2.1 = e ∧ t.2.2.2.2 = m) := by
  intro t ht
  rcases h with ⟨h0, _, _, h2⟩ | ⟨_, _, _, h2, _⟩ | ⟨_, _, i, _, _, _, _, h2⟩
  · rw [h2] at ht
    cases up
    · exact Or.inl ht
    · rcases List.mem_append.mp ht with h | h
      · exact Or.inl h
      · rw [List.mem_singleton.mp h]; exact Or.inr ⟨rfl, rfl, h0.symm, rfl⟩
  · rw [h2] at ht; exact Or.inl ht
  · rw [h2] at ht
    cases up
    · exact Or.inl ht
    · rcases List.mem_append.mp ht with h | h
      · exact Or.inl h
      · rw [List.mem_singleton.mp h]; exact Or.inr ⟨rfl, rfl, rfl, rfl⟩
theorem SND_dn {s e m v v' : Nat} {O W O' W' : List N5} (h : SND false s e m O W v O' W' v') : W' = W := by
  rcases h with ⟨_, _, _, h2⟩ | ⟨_, _, _, h2, _⟩ | ⟨_, _, i, _, _, _, _, h2⟩
  · exact h2
  · exact h2
  · exact h2
/-- a marked SEND -/
theorem PINV_sndm {O W : Nat → List N5} {H : Nat → Nat → Bool} {up pe : Nat → Bool} {S : Nat → List (Int32 × Nat)} {rc : Nat → Nat → Nat} {ac : Nat → Nat} {n : Nat} {qu : Nat → Nat} {am : Nat → Nat → Bool} {nq : Nat → Bool} (I : PINV O W H up pe S rc ac n qu am nq) {c s e v v' : Nat} {O' W' : List N5} (hc : c < 4) (he : e ≤ 2) (h : SND (up c) s e 1 (O (4 + c)) (W (4 + c)) v O' W' v') : PINV (fu O (4 + c) O') (fu W (4 + c) W') H up pe S rc ac n qu am nq := by
  obtain ⟨i1, i2, i3, i4, i5, i6, i7, i8, i9, i10, i11, i12, i13⟩ := I
  have near : ∀ (f : Nat → List N5) (u : List N5) (c' : Nat), c' < 4 → fu f (4 + c) u c' = f c' := fun f u c' h => fu_n (by omega)
  obtain ⟨hO1, hO2⟩ := SND_O h
  have hW := SND_W h
  have mO : ∀ d a, d < 4 → a ∈ fu O (4 + c) O' (4 + d) → a.2.2.2.1 = 0 → a ∈ O (4 + d) := by
    intro d a hd ha hm
    by_cases x : d = c
    · subst x
      rw [fu_s] at ha
      rcases hO2 a ha with h | ⟨_, _, h, _⟩
      · exact h
      · omega
    · rw [fu_n (by omega)] at ha
      exact ha
  have mW : ∀ d t, d < 4 → t ∈ fu W (4 + c) W' (4 + d) → t.2.2.2.2 = 0 → t ∈ W (4 + d) := by
    intro d t hd ht hm
    by_cases x : d = c
    · subst x
      rw [fu_s] at ht
      rcases hW t ht with h | ⟨_, _, _, h⟩
      · exact h
      · omega
    · rw [fu_n (by omega)] at ht
      exact ht
  refine ⟨fun c' hc' => ?_, fun c' hc' => ?_, fun c' hc' hd => ?_, fun c' hc' => ?_, fun c' hc' t ht => ?_, fun c1 c2 h1 h2 a b ha hb => ?_, i7, fun c' hc' a ha => ?_, i9, fun d s' hd ha => ?_, fun d s' hd hs hx => ?_, i12, fun d s' hd ha => ?_⟩
  · rw [near O O' c' hc', near W W' c' hc']
    by_cases x : c' = c
    · subst x
      rw [fu_s]
      exact SND_B h (i1 c' hc')
    · rw [fu_n (by omega)]
      exact i1 c' hc'
  · rw [near W W' c' hc']
    by_cases x : c' = c
    · subst x
      rw [fu_s, fu_s]
      exact SND_TOK h he (i2 c' hc')
    · rw [fu_n (by omega), fu_n (by omega)]
      exact i2 c' hc'
  · rw [near W W' c' hc']
    by_cases x : c' = c
    · subst x
      rw [fu_s]
      rw [hd] at h
      rw [SND_dn h]
      exact i3 c' hc' hd
    · rw [fu_n (by omega)]
      exact i3 c' hc' hd
  · rw [near O O' c' hc']
    exact i4 c' hc'
  · rw [near W W' c' hc'] at ht
    exact i5 c' hc' t ht
  · rw [near O O' c1 h1] at ha
    rw [near O O' c2 h2] at hb
    exact i6 c1 c2 h1 h2 a b ha hb
  · rw [near O O' c' hc'] at ha
    exact i8 c' hc' a ha
  · obtain ⟨a, b, g⟩ := i10 d s' hd ha
    refine ⟨a, fun a' ha' hs => ?_, fun t ht hk hs => ?_⟩
    · by_cases x : d = c
      · subst x
        rw [fu_s] at ha'
        rcases hO2 a' ha' with h | ⟨_, _, h, _⟩
        · exact b a' h hs
        · exact h
      · rw [fu_n (by omega)] at ha'
        exact b a' ha' hs
    · by_cases x : d = c
      · subst x
        rw [fu_s] at ht
        rcases hW t ht with h | ⟨_, _, _, h⟩
        · exact g t h hk hs
        · exact h
      · rw [fu_n (by omega)] at ht
        exact g t ht hk hs
  · obtain ⟨a, b, g, f⟩ := i11 d s' hd hs hx
    exact ⟨a, fun a' ha' hs' hm => b a' (mO d a' hd ha' hm) hs' hm, fun a1 a2 h1 h2 s1 s2 m1 m2 => g a1 a2 (mO d a1 hd h1 m1) (mO d a2 hd h2 m2) s1 s2 m1 m2, fun t ht hk hs' hm => f t (mW d t hd ht hm) hk hs' hm⟩
  · obtain ⟨a, b, e', f⟩ := i13 d s' hd ha
    refine ⟨a, b, e', f.elim Or.inl (fun ⟨x, hx, h1, h2⟩ => Or.inr ⟨x, ?_, h1, h2⟩)⟩
    by_cases y : d = c
    · subst y
      rw [fu_s]; exact hO1 x hx
    · rw [fu_n (by omega)]; exact hx
theorem PINV_msn {H : Nat → Nat → Bool} {up pe : Nat → Bool} {S : Nat → List (Int32 × Nat)} {rc : Nat → Nat → Nat} {ac : Nat → Nat} {n : Nat} {qu : Nat → Nat} {am : Nat → Nat → Bool} {nq : Nat → Bool} {c : Nat} (hc : c < 4) : ∀ (m : Nat) (O W : Nat → List N5) (v : Nat) (O' W' : List N5) (v' : Nat), PINV O W H up pe S rc ac n qu am nq → MSN (up c) m (O (4 + c)) (W (4 + c)) v O' W' v' → PINV (fu O (4 + c) O') (fu W (4 + c) W') H up pe S rc ac n qu am nq := by
  intro m
  induction m with
  | zero =>
    intro O W v O' W' v' I h
    obtain ⟨h1, h2, _⟩ := h
    rw [h1, h2, fu_id, fu_id]
    exact I
  | succ m ih =>
    intro O W v O' W' v' I h
    obtain ⟨O1, W1, v1, s, e, _, _, he, h1, h2⟩ := h
    have I1 := PINV_sndm I hc he h1
    have := ih (fu O (4 + c) O1) (fu W (4 + c) W1) v1 O' W' v' I1 (by rw [fu_s, fu_s]; exact h2)
    rw [fu_fu, fu_fu] at this
    exact this
/-- a new subscription -/
theorem PINV_sub {O W : Nat → List N5} {H : Nat → Nat → Bool} {up pe : Nat → Bool} {S : Nat → List (Int32 × Nat)} {rc : Nat → Nat → Nat} {ac : Nat → Nat} {n : Nat} {qu : Nat → Nat} {am : Nat → Nat → Bool} {nq nq' : Nat → Bool} (I : PINV O W H up pe S rc ac n qu am nq) {c qn : Nat} {L : List (Int32 × Nat)} {F : Int32} (hL : ∀ f, f ∈ L → f ∈ S c ∨ f = (F, qn)) (hn : ∀ d, d < 4 → nq' d = false → nq d = false) (hn2 : nq' c = false → qn = 2) : PINV O W H up pe (fu S c L) rc ac n qu am nq' := by
  obtain ⟨i1, i2, i3, i4, i5, i6, i7, i8, i9, i10, i11, i12, i13⟩ := I
  refine ⟨i1, i2, i3, i4, i5, i6, i7, i8, i9, i10, fun d s hd hq hx => i11 d s hd hq (hx.elim (fun z => Or.inl (hn d hd z)) Or.inr), fun d hd h f hf => ?_, i13⟩
  by_cases x : d = c
  · subst x
    rw [fu_s] at hf
    rcases hL f hf with g | g
    · exact i12 d hd (hn d hd h) f g
    · rw [g]; exact hn2 h
  · rw [fu_n x] at hf
    exact i12 d hd (hn d hd h) f hf
end Q18
