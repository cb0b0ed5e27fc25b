section Q19
theorem isB_of_F {i j : Nat} {t : N5} (h : isF i t = true) : isB j t = false := by
  obtain ⟨_, h | h⟩ := isF_id h
  · exact isB_k (by omega) (by omega) (by omega)
  · exact isB_k (by omega) (by omega) (by omega)
theorem isF_of_B {i j : Nat} {t : N5} (h : isB i t = true) : isF j t = false := by
  obtain ⟨_, h | h | h⟩ := isB_id h
  · exact isF_k (by omega) (by omega)
  · exact isF_k (by omega) (by omega)
  · exact isF_k (by omega) (by omega)
theorem isF_rep {j k i : Nat} (hk : k = 2 ∨ k = 3 ∨ k = 5) : isF j (k, i, 0, 0, 0) = false := by
  rcases hk with rfl | rfl | rfl
  · exact isF_2
  · exact isF_3
  · exact isF_5
/-- client c handles a publication or a release of the broker's -/
theorem PINV_rcvC {O W W2 : Nat → List N5} {H H2 : Nat → Nat → Bool} {up pe : Nat → Bool} {S : Nat → List (Int32 × Nat)} {rc rc2 : Nat → Nat → Nat} {ac : Nat → Nat} {n : Nat} {qu : Nat → Nat} {am : Nat → Nat → Bool} {nq : Nat → Bool} (I : PINV O W H up pe S rc ac n qu am nq) {c i k : Nat} {hb : Bool} {t e : N5} {L : List N5} (hc : c < 4) (hW : W (4 + c) = t :: L)
    (w1 : W2 c = W c ++ [(k, i, 0, 0, 0)]) (w2 : W2 (4 + c) = L) (w3 : ∀ x, x ≠ c → x ≠ 4 + c → W2 x = W x) (h1 : H2 c = fu (H c) i hb) (h2 : ∀ x, x ≠ c → H2 x = H x) (hk : k = 2 ∨ k = 3 ∨ k = 5) (b1 : 1 ≤ i) (b2 : i ≤ 16) (ht : isF i t = true) (he : lk (O (4 + c)) i = some e)
    (hr : (e.2.1 = 1 ∧ e.2.2.2.2 = 1 ∧ hb = false ∧ k = 2 ∧ tkR rc2 c e) ∨ (e.2.1 = 2 ∧ e.2.2.2.2 = 1 ∧ tkR rc2 c e ∧ k = 3 ∧ hb = true) ∨ (e.2.1 = 2 ∧ e.2.2.2.2 = 2 ∧ tkR rc2 c e ∧ k = 5 ∧ hb = false))
    (rm : ∀ s, rc c s ≤ rc2 c s) (ro : ∀ d, d ≠ c → rc2 d = rc d) (r0 : ∀ s, ac s = 0 → rc2 c s = 0) (hX : ∀ s, qu s = 2 → (nq c = false ∨ am c s = true) → XO (O (4 + c)) L (H2 c) (rc2 c s) s) : PINV O W2 H2 up pe S rc2 ac n qu am nq := by
  obtain ⟨i1, i2, i3, i4, i5, i6, i7, i8, i9, i10, i11, i12, i13⟩ := I
  have T2 := i2 c hc
  rw [hW] at T2
  obtain ⟨hu, _⟩ := TOK_look T2 b1 b2 ht
  refine ⟨fun c' hc' => ?_, fun c' hc' => ?_, fun c' hc' hd => ?_, i4, fun c' hc' x hx hk1 => ?_, i6, i7, fun c' hc' a ha hq hs hH => ?_, i9, fun d s hd ha => ?_, fun d s hd hs hx => ?_, i12, fun d s hd ha => ?_⟩
  · by_cases x : c' = c
    · subst x
      have T := i1 c' hc'
      rw [hW] at T
      rw [w1, w2, h2 (4 + c') (by omega)]
      exact TOK_F (TOK_Bp T (fun j _ => isB_of_F ht)) (fun j _ => isF_rep hk)
    · rw [w3 c' x (by omega), w3 (4 + c') (by omega) (by omega), h2 (4 + c') (by omega)]
      exact i1 c' hc'
  · by_cases x : c' = c
    · subst x
      rw [w1, w2, h1]
      have T3 : TOK (O (4 + c')) (t :: L) (W c') (H c') (up c') (tkR rc2 c') := TOK_mono (fun a _ hx hm => Nat.le_trans (hx hm) (rm a.1)) T2
      exact TOK_reply T3 b1 b2 ht he hk hr
    · rw [w3 c' x (by omega), w3 (4 + c') (by omega) (by omega), h2 c' x]
      have e1 : tkR rc2 c' = tkR rc c' := by unfold tkR; rw [ro c' x]
      rw [e1]
      exact i2 c' hc'
  · by_cases x : c' = c
    · rw [x, hu] at hd; exact absurd hd (by decide)
    · rw [w3 c' x (by omega), w3 (4 + c') (by omega) (by omega)]
      exact i3 c' hc' hd
  · by_cases y : c' = c
    · subst y
      rw [w1] at hx
      rcases List.mem_append.mp hx with h | h
      · exact i5 c' hc' x h hk1
      · rw [List.mem_singleton.mp h] at hk1
        have : k = 1 := hk1
        omega
    · rw [w3 c' y (by omega)] at hx
      exact i5 c' hc' x hx hk1
  · rw [h2 (4 + c') (by omega)] at hH
    exact i8 c' hc' a ha hq hs hH
  · obtain ⟨a, b, g⟩ := i10 d s hd ha
    by_cases x : d = c
    · subst x
      refine ⟨r0 s ha, b, fun y hy => ?_⟩
      rw [w2] at hy
      exact g y (by rw [hW]; exact List.mem_cons_of_mem _ hy)
    · rw [ro d x]
      refine ⟨a, b, fun y hy => ?_⟩
      rw [w3 (4 + d) (by omega) (by omega)] at hy
      exact g y hy
  · by_cases x : d = c
    · subst x
      rw [w2]
      exact hX s hs hx
    · rw [w3 (4 + d) (by omega) (by omega), h2 d x, ro d x]
      exact i11 d s hd hs hx
  · obtain ⟨a, b, e', f⟩ := i13 d s hd ha
    refine ⟨a, b, e', ?_⟩
    by_cases x : d = c
    · subst x
      exact f.elim (fun z => Or.inl (Nat.le_trans z (rm s))) Or.inr
    · rw [ro d x]; exact f
/-- client c handles a publication of quality 0 -/
theorem PINV_rcv0 {O W W2 : Nat → List N5} {H : Nat → Nat → Bool} {up pe : Nat → Bool} {S : Nat → List (Int32 × Nat)} {rc rc2 : Nat → Nat → Nat} {ac : Nat → Nat} {n : Nat} {qu : Nat → Nat} {am : Nat → Nat → Bool} {nq : Nat → Bool} (I : PINV O W H up pe S rc ac n qu am nq) {c s0 q0 m0 : Nat} {L : List N5} (hc : c < 4) (hW : W (4 + c) = (1, 0, s0, q0, m0) :: L)
    (w1 : W2 (4 + c) = L) (w3 : ∀ x, x ≠ 4 + c → W2 x = W x) (rm : ∀ s, rc c s ≤ rc2 c s) (ro : ∀ d, d ≠ c → rc2 d = rc d) (r0 : ∀ s, ac s = 0 → rc2 c s = 0) (hX : ∀ s, qu s = 2 → (nq c = false ∨ am c s = true) → XO (O (4 + c)) L (H c) (rc2 c s) s) : PINV O W2 H up pe S rc2 ac n qu am nq := by
  obtain ⟨i1, i2, i3, i4, i5, i6, i7, i8, i9, i10, i11, i12, i13⟩ := I
  refine ⟨fun c' hc' => ?_, fun c' hc' => ?_, fun c' hc' hd => ?_, i4, fun c' hc' x hx hk1 => ?_, i6, i7, i8, i9, fun d s hd ha => ?_, fun d s hd hs hx => ?_, i12, fun d s hd ha => ?_⟩
  · rw [w3 c' (by omega)]
    by_cases x : c' = c
    · subst x
      have T := i1 c' hc'
      rw [hW] at T
      rw [w1]
      exact TOK_Bp T (fun j _ => isB_1)
    · rw [w3 (4 + c') (by omega)]
      exact i1 c' hc'
  · rw [w3 c' (by omega)]
    by_cases x : c' = c
    · subst x
      have T := i2 c' hc'
      rw [hW] at T
      rw [w1]
      exact TOK_mono (fun a _ hx hm => Nat.le_trans (hx hm) (rm a.1)) (TOK_Fp T (fun j hj => isF_0 hj))
    · rw [w3 (4 + c') (by omega)]
      have e1 : tkR rc2 c' = tkR rc c' := by unfold tkR; rw [ro c' x]
      rw [e1]
      exact i2 c' hc'
  · by_cases x : c' = c
    · subst x
      have := (i3 c' hc' hd).2
      rw [hW] at this
      exact absurd this (by simp)
    · rw [w3 c' (by omega), w3 (4 + c') (by omega)]
      exact i3 c' hc' hd
  · rw [w3 c' (by omega)] at hx
    exact i5 c' hc' x hx hk1
  · obtain ⟨a, b, g⟩ := i10 d s hd ha
    by_cases x : d = c
    · subst x
      refine ⟨r0 s ha, b, fun y hy => ?_⟩
      rw [w1] at hy
      exact g y (by rw [hW]; exact List.mem_cons_of_mem _ hy)
    · rw [ro d x]
      refine ⟨a, b, fun y hy => ?_⟩
      rw [w3 (4 + d) (by omega)] at hy
      exact g y hy
  · by_cases x : d = c
    · subst x
      rw [w1]
      exact hX s hs hx
    · rw [w3 (4 + d) (by omega), ro d x]
      exact i11 d s hd hs hx
  · obtain ⟨a, b, e', f⟩ := i13 d s hd ha
    refine ⟨a, b, e', ?_⟩
    by_cases x : d = c
    · subst x
      exact f.elim (fun z => Or.inl (Nat.le_trans z (rm s))) Or.inr
    · rw [ro d x]; exact f
/-- client c, the sender, handles an answer: its entry ends, or is released -/
theorem PINV_ackC {O O2 W W2 : Nat → List N5} {H : Nat → Nat → Bool} {up pe : Nat → Bool} {S : Nat → List (Int32 × Nat)} {rc : Nat → Nat → Nat} {ac : Nat → Nat} {n : Nat} {qu : Nat → Nat} {am : Nat → Nat → Bool} {nq : Nat → Bool} (I : PINV O W H up pe S rc ac n qu am nq) {c i j : Nat} {t e : N5} {L : List N5} (hc : c < 4) (hW : W (4 + c) = t :: L)
    (w2 : W2 (4 + c) = L) (w3 : ∀ x, x ≠ c → x ≠ 4 + c → W2 x = W x) (o3 : ∀ x, x ≠ c → O2 x = O x) (b1 : 1 ≤ i) (b2 : i ≤ 16) (ht : isB i t = true) (he : (O c)[j]? = some e) (hi : e.2.2.1 = i)
    (hr : (W2 c = W c ∧ O2 c = (O c).eraseIdx j ∧ H (4 + c) i = false) ∨ (W2 c = W c ++ [(4, i, 0, 0, 0)] ∧ O2 c = (O c).set j (e.1, e.2.1, e.2.2.1, e.2.2.2.1, 2) ∧ e.2.1 = 2 ∧ tkA ac e)) : PINV O2 W2 H up pe S rc ac n qu am nq := by
  obtain ⟨i1, i2, i3, i4, i5, i6, i7, i8, i9, i10, i11, i12, i13⟩ := I
  have T1 := i1 c hc
  rw [hW] at T1
  obtain ⟨hu, _⟩ := TOK_back T1 b1 b2 ht
  have heO : e ∈ O c := ls_mem he
  -- an entry of the new outbox: an old one other than e, or e released
  have mem : ∀ a, a ∈ O2 c → (a ∈ O c ∧ a ≠ e) ∨ a = (e.1, e.2.1, e.2.2.1, e.2.2.2.1, 2) := by
    intro a ha
    have key : ∀ (x : Nat), x ≠ j → (O c)[x]? = some a → a ∈ O c ∧ a ≠ e := by
      intro x hx hxa
      refine ⟨ls_mem hxa, fun z => hx ?_⟩
      subst z
      exact T1.1 x j a a hxa he rfl
    rcases hr with ⟨_, h, _⟩ | ⟨_, h, _⟩
    · rw [h] at ha
      obtain ⟨x, hx⟩ := List.mem_iff_getElem?.mp ha
      rw [List.getElem?_eraseIdx] at hx
      by_cases y : x < j
      · rw [if_pos y] at hx
        exact Or.inl (key x (by omega) hx)
      · rw [if_neg y] at hx
        exact Or.inl (key (x + 1) (by omega) hx)
    · rw [h] at ha
      obtain ⟨x, hx⟩ := List.mem_iff_getElem?.mp ha
      rw [List.getElem?_set] at hx
      by_cases y : j = x
      · rw [if_pos y, if_pos (ls_lt he)] at hx
        exact Or.inr (Option.some.inj hx).symm
      · rw [if_neg y] at hx
        exact Or.inl (key x (fun z => y z.symm) hx)
  have src : ∀ c' a, c' < 4 → a ∈ O2 c' → ∃ a', a' ∈ O c' ∧ a'.1 = a.1 ∧ a'.2.1 = a.2.1 ∧ a'.2.2.2.1 = a.2.2.2.1 := by
    intro c' a h1 ha
    by_cases x : c' = c
    · subst x
      rcases mem a ha with ⟨h, _⟩ | h
      · exact ⟨a, h, rfl, rfl, rfl⟩
      · exact ⟨e, heO, by rw [h], by rw [h], by rw [h]⟩
    · rw [o3 c' x] at ha
      exact ⟨a, ha, rfl, rfl, rfl⟩
  refine ⟨fun c' hc' => ?_, fun c' hc' => ?_, fun c' hc' hd => ?_, fun c' hc' => ?_, fun c' hc' x hx hk1 => ?_, fun c1 c2 h1 h2 a b ha hb hs => ?_, i7, fun c' hc' a ha hq hs hH => ?_, i9, fun d s hd ha => ?_, fun d s hd hs hx => ?_, i12, fun d s hd ha => ?_⟩
  · by_cases x : c' = c
    · subst x
      rw [w2]
      rcases hr with ⟨q1, q2, q3⟩ | ⟨q1, q2, q3, q4⟩
      · rw [q1, q2]
        exact TOK_end T1 b1 b2 ht he hi q3
      · rw [q1, q2]
        exact TOK_rel T1 b1 b2 ht he hi q3 q4
    · rw [o3 c' x, w3 c' x (by omega), w3 (4 + c') (by omega) (by omega)]
      exact i1 c' hc'
  · rw [o3 (4 + c') (by omega)]
    by_cases x : c' = c
    · subst x
      have T := i2 c' hc'
      rw [hW] at T
      rw [w2]
      have T' := TOK_Fp T (fun y _ => isF_of_B ht)
      rcases hr with ⟨q1, _, _⟩ | ⟨q1, _, _, _⟩
      · rw [q1]; exact T'
      · rw [q1]; exact TOK_B T' (fun y _ => isB_4)
    · rw [w3 c' x (by omega), w3 (4 + c') (by omega) (by omega)]
      exact i2 c' hc'
  · by_cases x : c' = c
    · rw [x, hu] at hd; exact absurd hd (by decide)
    · rw [w3 c' x (by omega), w3 (4 + c') (by omega) (by omega)]
      exact i3 c' hc' hd
  · refine ⟨?_, fun a ha => ?_⟩
    · by_cases x : c' = c
      · subst x
        have := (i4 c' hc').1
        rcases hr with ⟨_, q2, _⟩ | ⟨_, q2, _, _⟩
        · rw [q2, List.length_eraseIdx_of_lt (ls_lt he)]; omega
        · rw [q2, List.length_set]; exact this
      · rw [o3 c' x]; exact (i4 c' hc').1
    · obtain ⟨a', h, g1, g2, g3⟩ := src c' a hc' ha
      obtain ⟨x1, x2, x3⟩ := (i4 c' hc').2 a' h
      rw [← g1, ← g2, ← g3]
      exact ⟨x1, x2, x3⟩
  · by_cases y : c' = c
    · subst y
      rcases hr with ⟨q1, _, _⟩ | ⟨q1, _, _, _⟩
      · rw [q1] at hx; exact i5 c' hc' x hx hk1
      · rw [q1] at hx
        rcases List.mem_append.mp hx with h | h
        · exact i5 c' hc' x h hk1
        · rw [List.mem_singleton.mp h] at hk1
          exact absurd hk1 (by decide : ¬ (4 : Nat) = 1)
    · rw [w3 c' y (by omega)] at hx
      exact i5 c' hc' x hx hk1
  · obtain ⟨a', ha', g1, _, _⟩ := src c1 a h1 ha
    obtain ⟨b', hb', g2, _, _⟩ := src c2 b h2 hb
    obtain ⟨hcc, hab⟩ := i6 c1 c2 h1 h2 a' b' ha' hb' (by rw [g1, g2]; exact hs)
    refine ⟨hcc, ?_⟩
    subst hcc
    by_cases x : c1 = c
    · subst x
      rcases mem a ha with ⟨p1, p2⟩ | p1 <;> rcases mem b hb with ⟨p3, p4⟩ | p3
      · exact (i6 c1 c1 h1 h1 a b p1 p3 hs).2
      · exact absurd (i6 c1 c1 h1 h1 a e p1 heO (by rw [hs, p3])).2 p2
      · exact absurd (i6 c1 c1 h1 h1 b e p3 heO (by rw [← hs, p1])).2 p4
      · rw [p1, p3]
    · rw [o3 c1 x] at ha hb
      exact (i6 c1 c1 h1 h1 a b ha hb hs).2
  · by_cases x : c' = c
    · subst x
      rcases mem a ha with ⟨p1, _⟩ | p1
      · exact i8 c' hc' a p1 hq hs hH
      · rw [p1] at hs
        exact absurd hs (by decide : ¬ (2 : Nat) = 1)
    · rw [o3 c' x] at ha
      exact i8 c' hc' a ha hq hs hH
  · rw [o3 (4 + d) (by omega)]
    obtain ⟨a, b, g⟩ := i10 d s hd ha
    refine ⟨a, b, fun y hy => ?_⟩
    by_cases x : d = c
    · subst x
      rw [w2] at hy
      exact g y (by rw [hW]; exact List.mem_cons_of_mem _ hy)
    · rw [w3 (4 + d) (by omega) (by omega)] at hy
      exact g y hy
  · rw [o3 (4 + d) (by omega)]
    obtain ⟨a, b, g, f⟩ := i11 d s hd hs hx
    refine ⟨a, b, g, fun y hy => ?_⟩
    by_cases x : d = c
    · subst x
      rw [w2] at hy
      exact f y (by rw [hW]; exact List.mem_cons_of_mem _ hy)
    · rw [w3 (4 + d) (by omega) (by omega)] at hy
      exact f y hy
  · rw [o3 (4 + d) (by omega)]
    exact i13 d s hd ha
end Q19
