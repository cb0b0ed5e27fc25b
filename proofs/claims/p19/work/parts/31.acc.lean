section Q31
/-- what is newly armed behind a call -/
def NEW (x24 : Int64) (x28 : Int32) (n : Nat) (b0 : Nat → Bool) (ac qu tp : Nat → Nat) (d s : Nat) : Prop := 1 ≤ s ∧ s ≤ n ∧ b0 s = false ∧ 1 ≤ ac s ∧ 1 ≤ qu s ∧ bt x28 d = false ∧ qu s + 1 ≤ elg x24 d (tp s)
theorem lw_1002 {p : TP} {k : TK} {r : TR} {l s : TL} {o : TO} {h : TA} {w : TW} {L : Nat} {xs : Nat → Int32} {post : Int32 → Prop} {J47 : TJ} {x2 x4 x10 x24 : Int64} {x12 x14 x15 x16 x17 x18 x19 x20 x28 : Int32} {kc ks n : Nat} {rc : Nat → Nat → Nat} {ac ov qu tp : Nat → Nat} {A0 : Nat → Nat → Bool} {b0 : Nat → Bool} (HK : pc_K k rc ac ov) (hn24 : n ≤ 24) (hac : ∀ s, ac s < 2 ^ 30) (hac1 : ∀ s, qu s = 2 → ac s ≤ 1) (hpm : ∀ s, 1 ≤ s → s ≤ 24 → bt x12 (s - 1) = decide (s ≤ n)) (hqu : ∀ s, 1 ≤ s → s ≤ n → qu s = nfo x2 x4 s / 8 ∧ qu s ≤ 2) (htp : ∀ s, 1 ≤ s → s ≤ n → tp s = nfo x2 x4 s % 8)
    (hK : ∀ y6 y8 y13, (∀ d s, d < 4 → (amf y6 y8 d s = true ↔ A0 d s = true ∨ NEW x24 x28 n b0 ac qu tp d s)) → (∀ s, 1 ≤ s → s ≤ 24 → (bt y13 (s - 1) = true ↔ b0 s = true ∨ (s ≤ n ∧ 1 ≤ ac s))) → ∃ fu1208, wL_law_1208 post L xs J47 x2 x4 x10 x12 y13 x14 x15 x16 x17 x18 x19 x20 x28 kc ks p.1 r.1 p.2.1 p.2.2.1 p.2.2.2.1 p.2.2.2.2 k.1 k.2.1 k.2.2.1 k.2.2.2 r.2.1 r.2.2 l.1 l.2.1 l.2.2 s.1 s.2.1 s.2.2 o.1 o.2.1 o.2.2.1 o.2.2.2.1 o.2.2.2.2.1 o.2.2.2.2.2 h w.1 w.2.1 w.2.2.1 w.2.2.2.1 w.2.2.2.2.1 w.2.2.2.2.2.1 w.2.2.2.2.2.2 fu1208 y6 y8 0) :
    ∀ f s0 (x6 x8 : Int64) (x13 : Int32), s0 + f = 25 → 1 ≤ s0 → (∀ d s, d < 4 → (amf x6 x8 d s = true ↔ A0 d s = true ∨ (s < s0 ∧ NEW x24 x28 n b0 ac qu tp d s))) → (∀ s, 1 ≤ s → s ≤ 24 → (bt x13 (s - 1) = true ↔ b0 s = true ∨ (s < s0 ∧ s ≤ n ∧ 1 ≤ ac s))) → wL_law_1002 post L xs J47 x2 x4 x10 x12 x14 x15 x16 x17 x18 x19 x20 x24 x28 kc ks p.1 r.1 p.2.1 p.2.2.1 p.2.2.2.1 p.2.2.2.2 k.1 k.2.1 k.2.2.1 k.2.2.2 r.2.1 r.2.2 l.1 l.2.1 l.2.2 s.1 s.2.1 s.2.2 o.1 o.2.1 o.2.2.1 o.2.2.2.1 o.2.2.2.2.1 o.2.2.2.2.2 h w.1 w.2.1 w.2.2.1 w.2.2.2.1 w.2.2.2.2.1 w.2.2.2.2.2.1 w.2.2.2.2.2.2 (f + 1) x6 x8 x13 (nI s0) := by
  intro f
  induction f with
  | zero =>
    intro s0 x6 x8 x13 hs g1 hA hB
    obtain rfl : s0 = 25 := by omega
    refine br_t (by decide) (hK x6 x8 x13 (fun d s hd => (hA d s hd).trans ⟨?_, ?_⟩) (fun s a b => (hB s a b).trans ⟨?_, ?_⟩))
    · rintro (z | z)
      · exact Or.inl z
      · exact Or.inr z.2
    · rintro (z | z)
      · exact Or.inl z
      · exact Or.inr ⟨by have := z.2.1; omega, z⟩
    · rintro (z | z)
      · exact Or.inl z
      · exact Or.inr z.2
    · rintro (z | z)
      · exact Or.inl z
      · exact Or.inr ⟨by omega, z⟩
  | succ f ih =>
    intro s0 x6 x8 x13 hs g1 hA hB
    have g2 : s0 ≤ 24 := by omega
    have h24 : ¬ (24 : Int32) < nI s0 := nI_nlt (a := 24) (by omega) (by omega)
    have e1 : nI s0 - 1 = nI (s0 - 1) := pk_sub (a := s0) (b := 1) g1
    have hb := bt_t (x := x12) (show s0 - 1 < 32 by omega)
    rw [← e1, hpm s0 g1 g2] at hb
    have hb13 := bt_t (x := x13) (show s0 - 1 < 32 by omega)
    rw [← e1] at hb13
    -- nothing happens at this serial
    have stay : (∀ d, d < 4 → ¬ NEW x24 x28 n b0 ac qu tp d s0) → (s0 ≤ n → 1 ≤ ac s0 → b0 s0 = true) → wL_law_1002 post L xs J47 x2 x4 x10 x12 x14 x15 x16 x17 x18 x19 x20 x24 x28 kc ks p.1 r.1 p.2.1 p.2.2.1 p.2.2.2.1 p.2.2.2.2 k.1 k.2.1 k.2.2.1 k.2.2.2 r.2.1 r.2.2 l.1 l.2.1 l.2.2 s.1 s.2.1 s.2.2 o.1 o.2.1 o.2.2.1 o.2.2.2.1 o.2.2.2.2.1 o.2.2.2.2.2 h w.1 w.2.1 w.2.2.1 w.2.2.2.1 w.2.2.2.2.1 w.2.2.2.2.2.1 w.2.2.2.2.2.2 (f + 1) x6 x8 x13 (nI (s0 + 1)) := by
      intro hno hb0
      refine ih (s0 + 1) x6 x8 x13 (by omega) (by omega) (fun d s' hd => (hA d s' hd).trans ⟨?_, ?_⟩) (fun s' a b => (hB s' a b).trans ⟨?_, ?_⟩)
      · rintro (z | z)
        · exact Or.inl z
        · exact Or.inr ⟨by omega, z.2⟩
      · rintro (z | z)
        · exact Or.inl z
        · rcases Nat.lt_or_ge s' s0 with g | g
          · exact Or.inr ⟨g, z.2⟩
          · obtain rfl : s' = s0 := by omega
            exact absurd z.2 (hno d hd)
      · rintro (z | z)
        · exact Or.inl z
        · exact Or.inr ⟨by omega, z.2⟩
      · rintro (z | z)
        · exact Or.inl z
        · rcases Nat.lt_or_ge s' s0 with g | g
          · exact Or.inr ⟨g, z.2⟩
          · obtain rfl : s' = s0 := by omega
            exact Or.inl (hb0 z.2.1 z.2.2)
    by_cases hn : s0 ≤ n
    · have hq := hqu s0 g1 hn
      have ha := hac s0
      have htl : tp s0 < 8 := by rw [htp s0 g1 hn]; exact Nat.mod_lt _ (by decide)
      have h1069 : wL_law_1069 post L xs J47 (wL_law_1002 post L xs J47 x2 x4 x10 x12 x14 x15 x16 x17 x18 x19 x20 x24 x28 kc ks p.1 r.1 p.2.1 p.2.2.1 p.2.2.2.1 p.2.2.2.2 k.1 k.2.1 k.2.2.1 k.2.2.2 r.2.1 r.2.2 l.1 l.2.1 l.2.2 s.1 s.2.1 s.2.2 o.1 o.2.1 o.2.2.1 o.2.2.2.1 o.2.2.2.2.1 o.2.2.2.2.2 h w.1 w.2.1 w.2.2.1 w.2.2.2.1 w.2.2.2.2.1 w.2.2.2.2.2.1 w.2.2.2.2.2.2 (f + 1)) x2 x4 x6 x8 x10 x12 x13 x14 x15 x16 x17 x18 x19 x20 x24 x28 (nI s0) (nI (tp s0)) (nI (qu s0)) (nI (ac s0)) kc ks p.1 r.1 p.2.1 p.2.2.1 p.2.2.2.1 p.2.2.2.2 k.1 k.2.1 k.2.2.1 k.2.2.2 r.2.1 r.2.2 l.1 l.2.1 l.2.2 s.1 s.2.1 s.2.2 o.1 o.2.1 o.2.2.1 o.2.2.2.1 o.2.2.2.2.1 o.2.2.2.2.2 h w.1 w.2.1 w.2.2.1 w.2.2.2.1 w.2.2.2.2.1 w.2.2.2.2.2.1 w.2.2.2.2.2.2 := by
        unfold wL_law_1069
        by_cases ha1 : 1 ≤ ac s0
        · refine br_f (nI_nlt (b := 1) ha1 (by omega)) ?_
          cases hb0 : b0 s0 with
          | true =>
            have : bt x13 (s0 - 1) = true := (hB s0 g1 g2).mpr (Or.inl hb0)
            exact br_f (fun z => by rw [hb13.mp z] at this; exact absurd this (by decide)) (nm_r (nI_1 _) (stay (fun d hd z => by have := z.2.2.1; rw [hb0] at this; exact absurd this (by decide)) (fun _ _ => hb0)))
          | false =>
            have hf : bt x13 (s0 - 1) = false := by
              cases hx : bt x13 (s0 - 1) with
              | false => rfl
              | true =>
                rcases (hB s0 g1 g2).mp hx with z | z
                · rw [hb0] at z; exact absurd z (by decide)
                · exact absurd z.1 (by omega)
            have hB' : ∀ s', 1 ≤ s' → s' ≤ 24 → (bt (x13 ||| ((1 : Int32) <<< (nI (s0 - 1) &&& 31))) (s' - 1) = true ↔ b0 s' = true ∨ (s' < s0 + 1 ∧ s' ≤ n ∧ 1 ≤ ac s')) := by
              intro s' a b
              rw [bt_s (by omega) (by omega), Bool.or_eq_true, decide_eq_true_iff, hB s' a b]
              constructor
              · rintro ((z | z) | z)
                · exact Or.inl z
                · exact Or.inr ⟨by omega, z.2⟩
                · obtain rfl : s' = s0 := by omega
                  exact Or.inr ⟨by omega, hn, ha1⟩
              · rintro (z | z)
                · exact Or.inl (Or.inl z)
                · rcases Nat.lt_or_ge s' s0 with g | g
                  · exact Or.inl (Or.inr ⟨g, z.2⟩)
                  · exact Or.inr (by omega)
            refine br_t (hb13.mpr hf) (nm_r (e' := x13 ||| ((1 : Int32) <<< (nI (s0 - 1) &&& 31))) (by rw [e1]) ?_)
            by_cases hq1 : 1 ≤ qu s0
            · refine br_f (nI_nlt (b := 1) hq1 (by omega)) ⟨5, lw_1107 g1 g2 htl (by omega) 4 0 x6 x8 (by omega) (fun y6 y8 hy => ih (s0 + 1) y6 y8 _ (by omega) (by omega) (fun d s' hd => (hy d s' hd).trans ⟨?_, ?_⟩) hB')⟩
              · rintro (z | z)
                · rcases (hA d s' hd).mp z with w | w
                  · exact Or.inl w
                  · exact Or.inr ⟨by omega, w.2⟩
                · obtain ⟨z1, _, z3, z4⟩ := z
                  subst z1
                  exact Or.inr ⟨by omega, g1, hn, hb0, ha1, hq1, z3, z4⟩
              · rintro (z | z)
                · exact Or.inl ((hA d s' hd).mpr (Or.inl z))
                · rcases Nat.lt_or_ge s' s0 with g | g
                  · exact Or.inl ((hA d s' hd).mpr (Or.inr ⟨g, z.2⟩))
                  · obtain rfl : s' = s0 := by omega
                    exact Or.inr ⟨rfl, by omega, z.2.2.2.2.2.2⟩
            · refine br_t (nI_lt (b := 1) (by omega) (by omega)) (nm_r (nI_1 _) (ih (s0 + 1) x6 x8 _ (by omega) (by omega) (fun d s' hd => (hA d s' hd).trans ⟨?_, ?_⟩) hB'))
              · rintro (z | z)
                · exact Or.inl z
                · exact Or.inr ⟨by omega, z.2⟩
              · rintro (z | z)
                · exact Or.inl z
                · rcases Nat.lt_or_ge s' s0 with g | g
                  · exact Or.inr ⟨g, z.2⟩
                  · obtain rfl : s' = s0 := by omega
                    exact absurd z.2.2.2.2.2.1 hq1
        · exact br_t (nI_lt (b := 1) (by omega) (by omega)) (nm_r (nI_1 _) (stay (fun d hd z => ha1 z.2.2.2.1) (fun _ z => absurd z ha1)))
      refine br_f h24 (br_f (fun z => by have := hb.mp z; rw [decide_eq_true hn] at this; exact absurd this (by decide)) (pl_info g1 g2 (nm_r (e' := nI (tp s0)) ?_ (nm_r (e' := nI (qu s0)) ?_ (pq_accepted HK g1 g2 (br_c (fun hq2 => br_t ?_ h1069) fun _ => h1069))))))
      · rw [pn_and7 (nfo_lt _ _ _), htp s0 g1 hn]
      · rw [pn_shr3 (nfo_lt _ _ _), hq.1]
      · exact nI_le (b := 1) (hac1 s0 ((nI_eq (b := 2) (by omega) (by omega)).mp hq2)) (by omega)
    · exact br_f h24 (br_t (hb.mpr (decide_eq_false hn)) (nm_r (nI_1 _) (stay (fun d hd z => hn z.2.1) (fun z _ => absurd z hn))))
end Q31
