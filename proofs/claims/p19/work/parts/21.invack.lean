section Q21
/-- the broker, the sender, handles an answer of client c's -/
theorem PINV_ackB {O O2 W W2 : Nat → List N5} {H : Nat → Nat → Bool} {up pe : Nat → Bool} {S : Nat → List (Int32 × Nat)} {rc : Nat → Nat → Nat} {ac : Nat → Nat} {n : Nat} {qu : Nat → Nat} {am : Nat → Nat → Bool} {nq : Nat → Bool} (I : PINV O W H up pe S rc ac n qu am nq) {c i j : Nat} {t e : N5} {L : List N5} (hc : c < 4) (hW : W c = t :: L)
    (w2 : W2 c = L) (w3 : ∀ x, x ≠ c → x ≠ 4 + c → W2 x = W x) (o3 : ∀ x, x ≠ 4 + c → O2 x = O x) (b1 : 1 ≤ i) (b2 : i ≤ 16) (ht : isB i t = true) (he : (O (4 + c))[j]? = some e) (hi : e.2.2.1 = i) (htk : tkR rc c e)
    (hr : (W2 (4 + c) = W (4 + c) ∧ O2 (4 + c) = (O (4 + c)).eraseIdx j ∧ H c i = false) ∨ (W2 (4 + c) = W (4 + c) ++ [(4, i, 0, 0, 0)] ∧ O2 (4 + c) = (O (4 + c)).set j (e.1, e.2.1, e.2.2.1, e.2.2.2.1, 2) ∧ e.2.1 = 2)) : PINV O2 W2 H up pe S rc ac n qu am nq := by
  obtain ⟨i1, i2, i3, i4, i5, i6, i7, i8, i9, i10, i11, i12, i13⟩ := I
  have T2 := i2 c hc
  rw [hW] at T2
  obtain ⟨hu, _⟩ := TOK_back T2 b1 b2 ht
  have heO : e ∈ O (4 + c) := ls_mem he
  have mem : ∀ a, a ∈ O2 (4 + c) → (a ∈ O (4 + c) ∧ a ≠ e) ∨ a = (e.1, e.2.1, e.2.2.1, e.2.2.2.1, 2) := by
    intro a ha
    have key : ∀ (x : Nat), x ≠ j → (O (4 + c))[x]? = some a → a ∈ O (4 + c) ∧ a ≠ e := by
      intro x hx hxa
      refine ⟨ls_mem hxa, fun z => hx ?_⟩
      subst z
      exact T2.1 x j a a hxa he rfl
    rcases hr with ⟨_, h, _⟩ | ⟨_, h, _⟩
    · rw [h] at ha
      obtain ⟨x, hx⟩ := List.mem_iff_getElem?.mp ha
      rw [List.getElem?_eraseIdx] at hx
      by_cases y : x < j
      · rw [if_pos y] at hx
        exact Or.inl (key x (by omega) hx)
      · rw [if_neg y] at hx
        exact Or.inl (key (x + 1) (by omega) hx)
    · rw [h] at ha
      obtain ⟨x, hx⟩ := List.mem_iff_getElem?.mp ha
      rw [List.getElem?_set] at hx
      by_cases y : j = x
      · rw [if_pos y, if_pos (ls_lt he)] at hx
        exact Or.inr (Option.some.inj hx).symm
      · rw [if_neg y] at hx
        exact Or.inl (key x (fun z => y z.symm) hx)
  -- an entry other than e stays
  have stay : ∀ a, a ∈ O (4 + c) → a ≠ e → a ∈ O2 (4 + c) := by
    intro a ha hne
    obtain ⟨x, hx⟩ := List.mem_iff_getElem?.mp ha
    have hxj : x ≠ j := by
      intro z
      rw [z, he] at hx
      exact hne (Option.some.inj hx).symm
    apply List.mem_iff_getElem?.mpr
    rcases hr with ⟨_, h, _⟩ | ⟨_, h, _⟩
    · rw [h]
      by_cases y : x < j
      · exact ⟨x, by rw [List.getElem?_eraseIdx, if_pos y]; exact hx⟩
      · refine ⟨x - 1, ?_⟩
        rw [List.getElem?_eraseIdx, if_neg (by omega), show x - 1 + 1 = x by omega]
        exact hx
    · rw [h]
      exact ⟨x, by rw [List.getElem?_set, if_neg (fun z => hxj z.symm)]; exact hx⟩
  have wsub : ∀ y, y ∈ W2 (4 + c) → y.1 = 1 → y ∈ W (4 + c) := by
    intro y hy hk
    rcases hr with ⟨q, _, _⟩ | ⟨q, _, _⟩
    · rw [q] at hy; exact hy
    · rw [q] at hy
      rcases List.mem_append.mp hy with h | h
      · exact h
      · rw [List.mem_singleton.mp h] at hk
        exact absurd hk (by decide : ¬ (4 : Nat) = 1)
  refine ⟨fun c' hc' => ?_, fun c' hc' => ?_, fun c' hc' hd => ?_, fun c' hc' => ?_, fun c' hc' x hx hk1 => ?_, fun c1 c2 h1 h2 a b ha hb => ?_, i7, fun c' hc' a ha => ?_, i9, fun d s hd ha => ?_, fun d s hd hs hx => ?_, i12, fun d s hd ha => ?_⟩
  · rw [o3 c' (by omega)]
    by_cases x : c' = c
    · subst x
      have T := i1 c' hc'
      rw [hW] at T
      rw [w2]
      have T' := TOK_Fp T (fun y _ => isF_of_B ht)
      rcases hr with ⟨q1, _, _⟩ | ⟨q1, _, _⟩
      · rw [q1]; exact T'
      · rw [q1]; exact TOK_B T' (fun y _ => isB_4)
    · rw [w3 c' x (by omega), w3 (4 + c') (by omega) (by omega)]
      exact i1 c' hc'
  · by_cases x : c' = c
    · subst x
      rw [w2]
      rcases hr with ⟨q1, q2, q3⟩ | ⟨q1, q2, q3⟩
      · rw [q1, q2]
        exact TOK_end T2 b1 b2 ht he hi q3
      · rw [q1, q2]
        exact TOK_rel T2 b1 b2 ht he hi q3 htk
    · rw [o3 (4 + c') (by omega), w3 c' x (by omega), w3 (4 + c') (by omega) (by omega)]
      exact i2 c' hc'
  · by_cases x : c' = c
    · rw [x, hu] at hd; exact absurd hd (by decide)
    · rw [w3 c' x (by omega), w3 (4 + c') (by omega) (by omega)]
      exact i3 c' hc' hd
  · rw [o3 c' (by omega)]; exact i4 c' hc'
  · by_cases y : c' = c
    · subst y
      rw [w2] at hx
      exact i5 c' hc' x (by rw [hW]; exact List.mem_cons_of_mem _ hx) hk1
    · rw [w3 c' y (by omega)] at hx
      exact i5 c' hc' x hx hk1
  · rw [o3 c1 (by omega)] at ha
    rw [o3 c2 (by omega)] at hb
    exact i6 c1 c2 h1 h2 a b ha hb
  · rw [o3 c' (by omega)] at ha
    exact i8 c' hc' a ha
  · obtain ⟨a, b, g⟩ := i10 d s hd ha
    by_cases x : d = c
    · subst x
      refine ⟨a, fun a' ha' hs => ?_, fun y hy hk hs => g y (wsub y hy hk) hk hs⟩
      rcases mem a' ha' with ⟨h, _⟩ | h
      · exact b a' h hs
      · rw [h] at hs ⊢
        exact b e heO hs
    · rw [o3 (4 + d) (by omega), w3 (4 + d) (by omega) (by omega)]
      exact ⟨a, b, g⟩
  · obtain ⟨a, b, g, f⟩ := i11 d s hd hs hx
    by_cases x : d = c
    · subst x
      refine ⟨a, fun a' ha' hs' hm => ?_, fun a1 a2 h1 h2 s1 s2 m1 m2 => ?_, fun y hy hk hs' hm => f y (wsub y hy hk) hk hs' hm⟩
      · rcases mem a' ha' with ⟨h, _⟩ | h
        · exact b a' h hs' hm
        · rw [h] at hs' hm ⊢
          exact ⟨(b e heO hs' hm).1, fun z => absurd z (by decide : ¬ (2 : Nat) = 1)⟩
      · rcases mem a1 h1 with ⟨p1, p2⟩ | p1 <;> rcases mem a2 h2 with ⟨p3, p4⟩ | p3
        · exact g a1 a2 p1 p3 s1 s2 m1 m2
        · rw [p3] at s2 m2
          exact absurd (g a1 e p1 heO s1 s2 m1 m2) p2
        · rw [p1] at s1 m1
          exact absurd (g a2 e p3 heO s2 s1 m2 m1) p4
        · rw [p1, p3]
    · rw [o3 (4 + d) (by omega), w3 (4 + d) (by omega) (by omega)]
      exact ⟨a, b, g, f⟩
  · obtain ⟨a, b, e', f⟩ := i13 d s hd ha
    refine ⟨a, b, e', ?_⟩
    rcases f with f | ⟨x, hx, g1, g2⟩
    · exact Or.inl f
    · by_cases y : d = c
      · subst y
        by_cases z : x = e
        · subst z
          have := htk g2
          rw [g1] at this
          exact Or.inl this
        · exact Or.inr ⟨x, stay x hx z, g1, g2⟩
      · rw [o3 (4 + d) (by omega)]
        exact Or.inr ⟨x, hx, g1, g2⟩
/-! what an ACCEPT leaves at one client's end -/
theorem ACD_TOK {S : List (Int32 × Nat)} {T : Int32} {q sn v v' : Nat} {up : Bool} {O W O' W' B : List N5} {G : Nat → Bool} {tk : N5 → Prop} (h : ACD S T q up sn O W v O' W' v') (hq : q ≤ 2) (X : TOK O W B G up tk) : TOK O' W' B G up tk := by
  rcases h with ⟨_, h1, h2, _⟩ | ⟨b, b2, _, _, h⟩
  · rw [h1, h2]; exact X
  · exact SND_TOK h (by split <;> omega) X
theorem ACD_B {S : List (Int32 × Nat)} {T : Int32} {q sn v v' : Nat} {up u : Bool} {O W O' W' E F : List N5} {G : Nat → Bool} {tk : N5 → Prop} (h : ACD S T q up sn O W v O' W' v') (X : TOK E F W G u tk) : TOK E F W' G u tk := by
  rcases h with ⟨_, h1, h2, _⟩ | ⟨b, b2, _, _, h⟩
  · rw [h2]; exact X
  · exact SND_B h X
theorem ACD_dn {S : List (Int32 × Nat)} {T : Int32} {q sn v v' : Nat} {O W O' W' : List N5} (h : ACD S T q false sn O W v O' W' v') : W' = W := by
  rcases h with ⟨_, h1, h2, _⟩ | ⟨b, b2, _, _, h⟩
  · exact h2
  · exact SND_dn h
theorem ACD_len {S : List (Int32 × Nat)} {T : Int32} {q sn v v' : Nat} {up : Bool} {O W O' W' : List N5} (h : ACD S T q up sn O W v O' W' v') : W'.length ≤ W.length + 1 := by
  rcases h with ⟨_, h1, h2, _⟩ | ⟨b, b2, _, _, h⟩
  · rw [h2]; omega
  · exact SND_len h
theorem ACD_O {S : List (Int32 × Nat)} {T : Int32} {q sn v v' : Nat} {up : Bool} {O W O' W' : List N5} (h : ACD S T q up sn O W v O' W' v') : (∀ a, a ∈ O → a ∈ O') ∧ ∀ a, a ∈ O' → a ∈ O ∨ a.1 = sn := by
  rcases h with ⟨_, h1, h2, _⟩ | ⟨b, b2, _, _, h⟩
  · rw [h1]; exact ⟨fun a h => h, fun a h => Or.inl h⟩
  · obtain ⟨g1, g2⟩ := SND_O h
    exact ⟨g1, fun a ha => (g2 a ha).elim Or.inl (fun z => Or.inr z.1)⟩
theorem ACD_W {S : List (Int32 × Nat)} {T : Int32} {q sn v v' : Nat} {up : Bool} {O W O' W' : List N5} (h : ACD S T q up sn O W v O' W' v') : ∀ t, t ∈ W' → t ∈ W ∨ t.2.2.1 = sn := by
  rcases h with ⟨_, h1, h2, _⟩ | ⟨b, b2, _, _, h⟩
  · rw [h2]; exact fun t h => Or.inl h
  · exact fun t ht => (SND_W h t ht).elim Or.inl (fun z => Or.inr z.2.1)
theorem ACD_NS {S : List (Int32 × Nat)} {T : Int32} {q sn v v' r s : Nat} {up : Bool} {O W O' W' : List N5} (h : ACD S T q up sn O W v O' W' v') (hs : s ≠ sn) (N : NS O W r s) : NS O' W' r s := by
  refine ⟨N.1, fun e he hes => ?_, fun t ht hk hts => ?_⟩
  · exact ((ACD_O h).2 e he).elim (fun z => N.2.1 e z hes) (fun z => absurd (hes.symm.trans z) hs)
  · exact (ACD_W h t ht).elim (fun z => N.2.2 t z hk hts) (fun z => absurd (hts.symm.trans z) hs)
theorem ACD_XOn {S : List (Int32 × Nat)} {T : Int32} {q sn v v' r s : Nat} {up : Bool} {O W O' W' : List N5} {G : Nat → Bool} (h : ACD S T q up sn O W v O' W' v') (hs : s ≠ sn) (N : XO O W G r s) : XO O' W' G r s := by
  have mO : ∀ a, a ∈ O' → a.1 = s → a ∈ O := fun a ha has => ((ACD_O h).2 a ha).elim id (fun z => absurd (has.symm.trans z) hs)
  exact ⟨N.1, fun e he hes hm => N.2.1 e (mO e he hes) hes hm, fun e e' he he' h1 h2 m1 m2 => N.2.2.1 e e' (mO e he h1) (mO e' he' h2) h1 h2 m1 m2, fun t ht hk hts hm => (ACD_W h t ht).elim (fun z => N.2.2.2 t z hk hts hm) (fun z => absurd (hts.symm.trans z) hs)⟩
/-- the serial itself, of quality 2, sent with quality 2 -/
theorem ACD_XO {S : List (Int32 × Nat)} {T : Int32} {sn v v' r : Nat} {up : Bool} {O W O' W' : List N5} {G : Nat → Bool} (h : ACD S T 2 up sn O W v O' W' v') (hb : ∀ b : Nat, (∃ f, f ∈ S ∧ ma f.1 T = true ∧ f.2 = b) → (∀ f, f ∈ S → ma f.1 T = true → f.2 ≤ b) → b = 2) (N : NS O W r sn) : XO O' W' G r sn := by
  rcases h with ⟨_, h1, h2, _⟩ | ⟨b, b2, x1, x2, h⟩
  · rw [h1, h2]; exact XO_0 N
  · have hb2 := hb b x1 x2
    subst hb2
    rw [if_pos (Nat.le_refl 2)] at h
    obtain ⟨g1, g2⟩ := SND_O h
    have gW := SND_W h
    have N1 := N.1
    refine ⟨by omega, fun e he hs hm => ?_, fun e e' he he' s1 s2 m1 m2 => ?_, fun t ht hk hs hm => ?_⟩
    · rcases g2 e he with z | z
      · have := N.2.1 e z hs; omega
      · exact ⟨z.2.1, fun _ _ => N1⟩
    · rcases g2 e he with z | z <;> rcases g2 e' he' with y | y
      · have := N.2.1 e z s1; omega
      · have := N.2.1 e z s1; omega
      · have := N.2.1 e' y s2; omega
      · have h1 := z.2.2.2.2.1
        rw [y.2.2.2.2.1] at h1
        have := List.append_cancel_left h1
        rw [List.cons.injEq] at this
        exact this.1.symm
    · rcases gW t ht with z | z
      · have := N.2.2 t z hk hs; omega
      · omega
/-- what arms a serial: an entry was made -/
theorem ACD_ent {S : List (Int32 × Nat)} {T : Int32} {q sn v v' : Nat} {up : Bool} {O W O' W' : List N5} (h : ACD S T q up sn O W v O' W' v') (q1 : 1 ≤ q) (hv : v' = v) (hf : ∃ f, f ∈ S ∧ ma f.1 T = true ∧ q ≤ f.2) : ∃ e, e ∈ O' ∧ e.1 = sn ∧ e.2.2.2.1 = 0 := by
  obtain ⟨f, f1, f2, f3⟩ := hf
  rcases h with ⟨h0, _⟩ | ⟨b, b2, x1, x2, h⟩
  · rw [h0 f f1] at f2
    exact absurd f2 (by decide)
  · have hbq : q ≤ b := Nat.le_trans f3 (x2 f f1 f2)
    have he : 1 ≤ (if b ≤ q then b else q) := by split <;> omega
    rcases h with ⟨z, _⟩ | ⟨_, _, _, _, z⟩ | ⟨_, _, i, _, _, _, z, _⟩
    · omega
    · omega
    · exact ⟨_, by rw [z]; exact List.mem_append.mpr (Or.inr (List.mem_singleton.mpr rfl)), rfl, rfl⟩
/-- arming -/
theorem PINV_arm {O W : Nat → List N5} {H : Nat → Nat → Bool} {up pe : Nat → Bool} {S : Nat → List (Int32 × Nat)} {rc : Nat → Nat → Nat} {ac : Nat → Nat} {n : Nat} {qu : Nat → Nat} {am am' : Nat → Nat → Bool} {nq : Nat → Bool} (I : PINV O W H up pe S rc ac n qu am nq) (h : ∀ d s, d < 4 → am' d s = true → am d s = true ∨ (pe d = true ∧ 1 ≤ ac s ∧ 1 ≤ qu s ∧ (∃ e, e ∈ O (4 + d) ∧ e.1 = s ∧ e.2.2.2.1 = 0) ∧ (qu s = 2 → XO (O (4 + d)) (W (4 + d)) (H d) (rc d s) s))) : PINV O W H up pe S rc ac n qu am' nq := by
  obtain ⟨i1, i2, i3, i4, i5, i6, i7, i8, i9, i10, i11, i12, i13⟩ := I
  refine ⟨i1, i2, i3, i4, i5, i6, i7, i8, i9, i10, fun d s hd hq hx => ?_, i12, fun d s hd ha => ?_⟩
  · rcases hx with hx | hx
    · exact i11 d s hd hq (Or.inl hx)
    · rcases h d s hd hx with z | z
      · exact i11 d s hd hq (Or.inr z)
      · exact z.2.2.2.2 hq
  · rcases h d s hd ha with z | z
    · exact i13 d s hd z
    · exact ⟨z.1, z.2.1, z.2.2.1, Or.inr z.2.2.2.1⟩
end Q21
