section Q34
/-- behind a call: who grew, who is accepted, who is armed, the checks -/
theorem lw_back {p : TP} {k : TK} {r : TR} {l s : TL} {o : TO} {h : TA} {w : TW} {L : Nat} {xs : Nat → Int32} {post : Int32 → Prop} {J47 : TJ} {x2 x4 x6 x8 x10 x24 x26 : Int64} {x12 x13 x14 x15 x16 x17 x18 x19 x20 : Int32} {kc ks : Nat}
    {O W : Nat → List N5} {H : Nat → Nat → Bool} {up2 se pe pe2 : Nat → Bool} {S S2 : Nat → List (Int32 × Nat)} {rc : Nat → Nat → Nat} {ac ac2 ov ov2 : Nat → Nat} {n : Nat} {qu : Nat → Nat} {nq : Nat → Bool} (I : PINV O W H up2 pe2 S2 rc ac2 n qu (amf x6 x8) nq) (HO : pc_O o O) (HK : pc_K k rc ac2 ov2) (hn24 : n ≤ 24) (hrc : ∀ d s, rc d s < 2 ^ 30) (hac : ∀ s, ac2 s < 2 ^ 30) (hov : ∀ d, d < 4 → ov2 d < 2 ^ 30) (hnq : ∀ d, d < 4 → nq d = bt x14 d) (hpm : ∀ s, 1 ≤ s → s ≤ 24 → bt x12 (s - 1) = decide (s ≤ n)) (hqu : ∀ s, 1 ≤ s → s ≤ n → qu s = nfo x2 x4 s / 8 ∧ qu s ≤ 2)
    (hE : ELG se pe S x24) (hop : ∀ d, d < 4 → opv x26 d = ov d % 2 ^ 16) (hgr : ∀ d, d < 4 → ov d ≤ ov2 d ∧ ov2 d ≤ ov d + 16) (hacc : ∀ s, 1 ≤ s → s ≤ 24 → (bt x13 (s - 1) = true ↔ 1 ≤ ac s)) (hmo : ∀ s, ac s ≤ ac2 s)
    (hA : ∀ s d, d < 4 → 1 ≤ s → s ≤ n → ac s = 0 → 1 ≤ ac2 s → ov2 d = ov d → 1 ≤ qu s → pe d = true → (∃ f, f ∈ S d ∧ ma f.1 (tcv (nfo x2 x4 s % 8)) = true ∧ qu s ≤ f.2) → pe2 d = true ∧ (∃ e, e ∈ O (4 + d) ∧ e.1 = s ∧ e.2.2.2.1 = 0) ∧ (qu s = 2 → XO (O (4 + d)) (W (4 + d)) (H d) (rc d s) s))
    (hJ : ∀ y6 y8 y13, PINV O W H up2 pe2 S2 rc ac2 n qu (amf y6 y8) nq → (∀ s, 1 ≤ s → s ≤ 24 → (bt y13 (s - 1) = true ↔ 1 ≤ ac2 s)) → (∀ d s, d < 4 → ov2 d = ov d → amf x6 x8 d s = true → amf y6 y8 d s = true) →
      (x20 = 0 → J47 x2 x4 y6 y8 x10 x12 y13 x14 x15 x16 x17 (x19 + 1) p.1 r.1 p.2.1 p.2.2.1 p.2.2.2.1 p.2.2.2.2 k.1 k.2.1 k.2.2.1 k.2.2.2 r.2.1 r.2.2 l.1 l.2.1 l.2.2 s.1 s.2.1 s.2.2 o.1 o.2.1 o.2.2.1 o.2.2.2.1 o.2.2.2.2.1 o.2.2.2.2.2 h w.1 w.2.1 w.2.2.1 w.2.2.2.1 w.2.2.2.2.1 w.2.2.2.2.2.1 w.2.2.2.2.2.2) ∧ (¬ x20 = 0 → ¬ x16 + (-1) = 0 → J47 x2 x4 y6 y8 x10 x12 y13 x14 x15 (x16 + (-1)) x17 (x19 + 1) p.1 r.1 p.2.1 p.2.2.1 p.2.2.2.1 p.2.2.2.2 k.1 k.2.1 k.2.2.1 k.2.2.2 r.2.1 r.2.2 l.1 l.2.1 l.2.2 s.1 s.2.1 s.2.2 o.1 o.2.1 o.2.2.1 o.2.2.2.1 o.2.2.2.2.1 o.2.2.2.2.2 h w.1 w.2.1 w.2.2.1 w.2.2.2.1 w.2.2.2.2.1 w.2.2.2.2.2.1 w.2.2.2.2.2.2) ∧ (¬ x20 = 0 → x16 + (-1) = 0 → ∃ fu1419, wL_law_1419 post L xs J47 x2 x4 y6 y8 x10 x12 y13 x14 x15 (x16 + (-1)) x17 x18 x19 kc ks p.1 r.1 p.2.1 p.2.2.1 p.2.2.2.1 p.2.2.2.2 k.1 k.2.1 k.2.2.1 k.2.2.2 r.2.1 r.2.2 l.1 l.2.1 l.2.2 s.1 s.2.1 s.2.2 o.1 o.2.1 o.2.2.1 o.2.2.2.1 o.2.2.2.2.1 o.2.2.2.2.2 h w.1 w.2.1 w.2.2.1 w.2.2.2.1 w.2.2.2.2.1 w.2.2.2.2.2.1 w.2.2.2.2.2.2 fu1419 1)) :
    ∃ fu951, wL_law_951 post L xs J47 x2 x4 x6 x8 x10 x12 x13 x14 x15 x16 x17 x18 x19 x20 x24 x26 kc ks p.1 r.1 p.2.1 p.2.2.1 p.2.2.2.1 p.2.2.2.2 k.1 k.2.1 k.2.2.1 k.2.2.2 r.2.1 r.2.2 l.1 l.2.1 l.2.2 s.1 s.2.1 s.2.2 o.1 o.2.1 o.2.2.1 o.2.2.2.1 o.2.2.2.2.1 o.2.2.2.2.2 h w.1 w.2.1 w.2.2.1 w.2.2.2.1 w.2.2.2.2.1 w.2.2.2.2.2.1 w.2.2.2.2.2.2 fu951 0 0 := by
  refine ⟨5, lw_951 HK hov (fun x28 hG => ⟨25, lw_1002 (n := n) (qu := qu) (tp := fun s => nfo x2 x4 s % 8) (A0 := amf x6 x8) (b0 := fun s => decide (1 ≤ ac s)) HK hn24 hac I.2.2.2.2.2.2.1 hpm hqu (fun s _ _ => rfl) (fun z6 z8 y13 hz h13 => ⟨5, lw_1208 4 0 z6 z8 (by omega) (fun y6 y8 hy => ⟨25, ?_⟩)⟩) 24 1 x6 x8 x13 (by omega) (by omega) (fun d s' hd => ⟨fun z => Or.inl z, ?_⟩) (fun s' a b => (hacc s' a b).trans ⟨fun z => Or.inl (decide_eq_true z), ?_⟩)⟩) 4 0 0 (by omega) (fun d hd => ⟨fun z => ?_, fun z => absurd z.1 (by omega)⟩)⟩
  · -- the checks
    have hsame : ∀ d, d < 4 → bt x28 d = false → ov2 d = ov d := by
      intro d hd hb
      have h1 := hop d hd
      have h2 := hgr d hd
      have h3 : ov2 d % 2 ^ 16 = opv x26 d := by
        apply Classical.byContradiction
        intro z
        rw [(hG d hd).mpr z] at hb
        exact absurd hb (by decide)
      omega
    have hI : PINV O W H up2 pe2 S2 rc ac2 n qu (amf y6 y8) nq := by
      refine PINV_arm I (fun d s' hd ha => ?_)
      rw [hy d s' hd, Bool.and_eq_true] at ha
      rcases (hz d s' hd).mp ha.1 with z | z
      · exact Or.inl z
      · obtain ⟨z1, z2, z3, z4, z5, z6, z7⟩ := z
        have z8 : qu s' + 1 ≤ elg x24 d (nfo x2 x4 s' % 8) := z7
        clear z7
        have hs0 : ac s' = 0 := by
          have := of_decide_eq_false z3
          omega
        obtain ⟨e1, e2, g, hg, hm, hq⟩ := hE d (nfo x2 x4 s' % 8) hd (Nat.mod_lt _ (by decide)) (by omega)
        have X := hA s' d hd z1 z2 hs0 z4 (hsame d hd z6) z5 e2 ⟨g, hg, hm, by omega⟩
        exact Or.inr ⟨X.1, z4, z5, X.2.1, X.2.2⟩
    have h13' : ∀ s', 1 ≤ s' → s' ≤ 24 → (bt y13 (s' - 1) = true ↔ 1 ≤ ac2 s') := by
      intro s' a b
      refine (h13 s' a b).trans ⟨?_, fun z => ?_⟩
      · rintro (z | z)
        · have := of_decide_eq_true z
          have := hmo s'
          omega
        · exact z.2
      · refine Or.inr ⟨?_, z⟩
        apply Classical.byContradiction
        intro y
        have := I.2.2.2.2.2.2.2.2.1 s' (by omega)
        omega
    have hkeep : ∀ d s', d < 4 → ov2 d = ov d → amf x6 x8 d s' = true → amf y6 y8 d s' = true := by
      intro d s' hd he ha
      have hb : bt x28 d = false := by
        cases hx : bt x28 d with
        | false => rfl
        | true =>
          have := (hG d hd).mp hx
          rw [hop d hd, he] at this
          exact absurd rfl this
      rw [hy d s' hd, (hz d s' hd).mpr (Or.inl ha), hb, Bool.and_false]
      rfl
    obtain ⟨j0, j1, j2⟩ := hJ y6 y8 y13 hI h13' hkeep
    exact lw_1280 hI HO HK hrc hnq hpm hqu j0 j1 j2 24 1 (by omega) (by omega)
  · rintro (z | z)
    · exact z
    · exact absurd z.2.1 (by omega)
  · rintro (z | z)
    · exact of_decide_eq_true z
    · exact absurd z.1 (by omega)
  · rw [b_0] at z
    exact absurd z (by decide)
end Q34
