section Q20
/-- the broker handles a publication or a release of client c's; V d: the wire down to d behind the sends -/
theorem PINV_rcvB {O O2 W W2 : Nat → List N5} {V : Nat → List N5} {H H2 : Nat → Nat → Bool} {up pe : Nat → Bool} {S : Nat → List (Int32 × Nat)} {rc : Nat → Nat → Nat} {ac ac2 : Nat → Nat} {n : Nat} {qu : Nat → Nat} {am : Nat → Nat → Bool} {nq : Nat → Bool} (I : PINV O W H up pe S rc ac n qu am nq) {c i k : Nat} {hb : Bool} {t e : N5} {L : List N5} (hc : c < 4) (hW : W c = t :: L)
    (w1 : W2 c = L) (w2 : ∀ x, x < 4 → x ≠ c → W2 x = W x) (w3 : W2 (4 + c) = V c ++ [(k, i, 0, 0, 0)]) (w4 : ∀ d, d < 4 → d ≠ c → W2 (4 + d) = V d) (o1 : ∀ x, x < 4 → O2 x = O x)
    (h1 : H2 (4 + c) = fu (H (4 + c)) i hb) (h2 : ∀ x, x ≠ 4 + c → H2 x = H x) (hk : k = 2 ∨ k = 3 ∨ k = 5) (b1 : 1 ≤ i) (b2 : i ≤ 16) (ht : isF i t = true) (he : lk (O c) i = some e)
    (hr : (e.2.1 = 1 ∧ e.2.2.2.2 = 1 ∧ hb = false ∧ k = 2 ∧ tkA ac2 e) ∨ (e.2.1 = 2 ∧ e.2.2.2.2 = 1 ∧ tkA ac2 e ∧ k = 3 ∧ hb = true) ∨ (e.2.1 = 2 ∧ e.2.2.2.2 = 2 ∧ tkA ac2 e ∧ k = 5 ∧ hb = false))
    (acm : ∀ s, ac s ≤ ac2 s) (aco : ∀ s, s ≠ e.1 → ac2 s = ac s) (acq : qu e.1 = 2 → ac2 e.1 ≤ 1) (ac8 : ∀ a, a ∈ O c → a.2.1 = 2 → a.2.2.2.2 = 1 → fu (H (4 + c)) i hb a.2.2.1 = false → ac2 a.1 = 0)
    (v1 : ∀ d B tk, d < 4 → TOK (O (4 + d)) (W (4 + d)) B (H d) (up d) tk → TOK (O2 (4 + d)) (V d) B (H d) (up d) tk) (v2 : ∀ d E F G tk, d < 4 → TOK E F (W (4 + d)) G (up d) tk → TOK E F (V d) G (up d) tk) (v3 : ∀ d, d < 4 → up d = false → V d = W (4 + d)) (v4 : ∀ d a, d < 4 → a ∈ O (4 + d) → a ∈ O2 (4 + d))
    (v10 : ∀ d s, d < 4 → ac2 s = 0 → NS (O2 (4 + d)) (V d) (rc d s) s) (v11 : ∀ d s, d < 4 → qu s = 2 → (nq d = false ∨ am d s = true) → XO (O2 (4 + d)) (V d) (H d) (rc d s) s) : PINV O2 W2 H2 up pe S rc ac2 n qu am nq := by
  obtain ⟨i1, i2, i3, i4, i5, i6, i7, i8, i9, i10, i11, i12, i13⟩ := I
  have T1 := i1 c hc
  rw [hW] at T1
  obtain ⟨hu, _⟩ := TOK_look T1 b1 b2 ht
  obtain ⟨heO, _⟩ := lk_mem he
  have mono : ∀ (E F B : List N5) (G : Nat → Bool) (u : Bool), TOK E F B G u (tkA ac) → TOK E F B G u (tkA ac2) := fun E F B G u T => TOK_mono (fun a _ h => Nat.le_trans h (acm a.1)) T
  refine ⟨fun c' hc' => ?_, fun c' hc' => ?_, fun c' hc' hd => ?_, fun c' hc' => ?_, fun c' hc' x hx hk1 => ?_, fun x y hx hy a b ha hb => ?_, fun s hs => ?_, fun c' hc' a ha hq hs hH => ?_, fun s hs => ?_, fun d s hd ha => ?_, fun d s hd hs hx => ?_, i12, fun d s hd ha => ?_⟩
  · rw [o1 c' hc']
    by_cases x : c' = c
    · subst x
      rw [w1, w3, h1]
      exact TOK_reply (v2 c' _ _ _ _ hc' (mono _ _ _ _ _ T1)) b1 b2 ht he hk hr
    · rw [w2 c' hc' x, w4 c' hc' x, h2 (4 + c') (by omega)]
      exact v2 c' _ _ _ _ hc' (mono _ _ _ _ _ (i1 c' hc'))
  · by_cases x : c' = c
    · subst x
      have T := i2 c' hc'
      rw [hW] at T
      rw [w1, w3, h2 c' (by omega)]
      exact TOK_F (v1 c' _ _ hc' (TOK_Bp T (fun j _ => isB_of_F ht))) (fun j _ => isF_rep hk)
    · rw [w2 c' hc' x, w4 c' hc' x, h2 c' (by omega)]
      exact v1 c' _ _ hc' (i2 c' hc')
  · by_cases x : c' = c
    · rw [x, hu] at hd; exact absurd hd (by decide)
    · rw [w2 c' hc' x, w4 c' hc' x, v3 c' hc' hd]
      exact i3 c' hc' hd
  · rw [o1 c' hc']; exact i4 c' hc'
  · by_cases y : c' = c
    · subst y
      rw [w1] at hx
      exact i5 c' hc' x (by rw [hW]; exact List.mem_cons_of_mem _ hx) hk1
    · rw [w2 c' hc' y] at hx
      exact i5 c' hc' x hx hk1
  · rw [o1 x hx] at ha
    rw [o1 y hy] at hb
    exact i6 x y hx hy a b ha hb
  · by_cases x : s = e.1
    · rw [x] at hs ⊢; exact acq hs
    · rw [aco s x]; exact i7 s hs
  · rw [o1 c' hc'] at ha
    by_cases x : c' = c
    · subst x
      rw [h1] at hH
      exact ac8 a ha hq hs hH
    · rw [h2 (4 + c') (by omega)] at hH
      have hne : a.1 ≠ e.1 := fun z => x (i6 c' c hc' hc a e ha heO z).1
      rw [aco a.1 hne]
      exact i8 c' hc' a ha hq hs hH
  · have hne : s ≠ e.1 := by
      intro z
      have := ((i4 c hc).2 e heO).1
      omega
    rw [aco s hne]
    exact i9 s hs
  · have N := v10 d s hd ha
    by_cases x : d = c
    · subst x
      rw [w3]
      refine ⟨N.1, N.2.1, fun y hy hk1 hs => ?_⟩
      rcases List.mem_append.mp hy with h | h
      · exact N.2.2 y h hk1 hs
      · rw [List.mem_singleton.mp h] at hk1
        have : k = 1 := hk1
        omega
    · rw [w4 d hd x]; exact N
  · have N := v11 d s hd hs hx
    rw [h2 d (by omega)]
    by_cases x : d = c
    · subst x
      rw [w3]
      refine ⟨N.1, N.2.1, N.2.2.1, fun y hy hk1 hs' hm => ?_⟩
      rcases List.mem_append.mp hy with h | h
      · exact N.2.2.2 y h hk1 hs' hm
      · rw [List.mem_singleton.mp h] at hk1
        have : k = 1 := hk1
        omega
    · rw [w4 d hd x]; exact N
  · obtain ⟨a, b, e', f⟩ := i13 d s hd ha
    exact ⟨a, Nat.le_trans b (acm s), e', f.elim Or.inl (fun ⟨x, hx, g1, g2⟩ => Or.inr ⟨x, v4 d x hd hx, g1, g2⟩)⟩
/-- the broker handles a publication of quality 0 -/
theorem PINV_rcvB0 {O O2 W W2 : Nat → List N5} {V : Nat → List N5} {H : Nat → Nat → Bool} {up pe : Nat → Bool} {S : Nat → List (Int32 × Nat)} {rc : Nat → Nat → Nat} {ac ac2 : Nat → Nat} {n : Nat} {qu : Nat → Nat} {am : Nat → Nat → Bool} {nq : Nat → Bool} (I : PINV O W H up pe S rc ac n qu am nq) {c s0 m0 : Nat} {L : List N5} (hc : c < 4) (hW : W c = (1, 0, s0, 0, m0) :: L)
    (w1 : W2 c = L) (w2 : ∀ x, x < 4 → x ≠ c → W2 x = W x) (w4 : ∀ d, d < 4 → W2 (4 + d) = V d) (o1 : ∀ x, x < 4 → O2 x = O x)
    (acm : ∀ s, ac s ≤ ac2 s) (aco : ∀ s, s ≠ s0 → ac2 s = ac s)
    (v1 : ∀ d B tk, d < 4 → TOK (O (4 + d)) (W (4 + d)) B (H d) (up d) tk → TOK (O2 (4 + d)) (V d) B (H d) (up d) tk) (v2 : ∀ d E F G tk, d < 4 → TOK E F (W (4 + d)) G (up d) tk → TOK E F (V d) G (up d) tk) (v3 : ∀ d, d < 4 → up d = false → V d = W (4 + d)) (v4 : ∀ d a, d < 4 → a ∈ O (4 + d) → a ∈ O2 (4 + d))
    (v10 : ∀ d s, d < 4 → ac2 s = 0 → NS (O2 (4 + d)) (V d) (rc d s) s) (v11 : ∀ d s, d < 4 → qu s = 2 → (nq d = false ∨ am d s = true) → XO (O2 (4 + d)) (V d) (H d) (rc d s) s) : PINV O2 W2 H up pe S rc ac2 n qu am nq := by
  obtain ⟨i1, i2, i3, i4, i5, i6, i7, i8, i9, i10, i11, i12, i13⟩ := I
  obtain ⟨hs0, hq0⟩ := i5 c hc (1, 0, s0, 0, m0) (by rw [hW]; exact List.mem_cons_self ..) rfl
  have hs0 : s0 ≤ n := hs0
  have hq0 : 0 = qu s0 := hq0
  have mono : ∀ (E F B : List N5) (G : Nat → Bool) (u : Bool), TOK E F B G u (tkA ac) → TOK E F B G u (tkA ac2) := fun E F B G u T => TOK_mono (fun a _ h => Nat.le_trans h (acm a.1)) T
  refine ⟨fun c' hc' => ?_, fun c' hc' => ?_, fun c' hc' hd => ?_, fun c' hc' => ?_, fun c' hc' x hx hk1 => ?_, fun x y hx hy a b ha hb => ?_, fun s hs => ?_, fun c' hc' a ha hq hs hH => ?_, fun s hs => ?_, fun d s hd ha => by rw [w4 d hd]; exact v10 d s hd ha, fun d s hd hs hx => by rw [w4 d hd]; exact v11 d s hd hs hx, i12, fun d s hd ha => ?_⟩
  · rw [o1 c' hc', w4 c' hc']
    by_cases x : c' = c
    · subst x
      have T1 := i1 c' hc'
      rw [hW] at T1
      rw [w1]
      exact v2 c' _ _ _ _ hc' (mono _ _ _ _ _ (TOK_Fp T1 (fun j hj => isF_0 hj)))
    · rw [w2 c' hc' x]
      exact v2 c' _ _ _ _ hc' (mono _ _ _ _ _ (i1 c' hc'))
  · rw [w4 c' hc']
    by_cases x : c' = c
    · subst x
      have T := i2 c' hc'
      rw [hW] at T
      rw [w1]
      exact v1 c' _ _ hc' (TOK_Bp T (fun j _ => isB_1))
    · rw [w2 c' hc' x]
      exact v1 c' _ _ hc' (i2 c' hc')
  · by_cases x : c' = c
    · subst x
      have := (i3 c' hc' hd).1
      rw [hW] at this
      exact absurd this (by simp)
    · rw [w2 c' hc' x, w4 c' hc', v3 c' hc' hd]
      exact i3 c' hc' hd
  · rw [o1 c' hc']; exact i4 c' hc'
  · by_cases y : c' = c
    · subst y
      rw [w1] at hx
      exact i5 c' hc' x (by rw [hW]; exact List.mem_cons_of_mem _ hx) hk1
    · rw [w2 c' hc' y] at hx
      exact i5 c' hc' x hx hk1
  · rw [o1 x hx] at ha
    rw [o1 y hy] at hb
    exact i6 x y hx hy a b ha hb
  · by_cases x : s = s0
    · rw [x, ← hq0] at hs; omega
    · rw [aco s x]; exact i7 s hs
  · rw [o1 c' hc'] at ha
    have hne : a.1 ≠ s0 := by
      intro z
      have := ((i4 c' hc').2 a ha).2.1
      rw [hq, z, ← hq0] at this
      omega
    rw [aco a.1 hne]
    exact i8 c' hc' a ha hq hs hH
  · rw [aco s (by omega)]
    exact i9 s hs
  · obtain ⟨a, b, e', f⟩ := i13 d s hd ha
    exact ⟨a, Nat.le_trans b (acm s), e', f.elim Or.inl (fun ⟨x, hx, g1, g2⟩ => Or.inr ⟨x, v4 d x hd hx, g1, g2⟩)⟩
end Q20
