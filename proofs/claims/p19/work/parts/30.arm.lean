section Q30
/-! the eligibility word, and the arming behind a call -/
def elg (x24 : Int64) (d t : Nat) : Nat := x24.toBitVec.toNat / 2 ^ ((d * 8 + t) * 2) % 2 ^ 2
theorem pl_elg {x24 : Int64} {d t : Nat} (hd : d < 4) (ht : t < 8) : ((((x24.toUInt64 >>> ((((nI d * 8) + nI t) * 2).toInt64.toUInt64 &&& Int64.toUInt64 63)).toInt64) &&& 3).toInt32) = nI (elg x24 d t) := by
  have e1 : (nI d * 8 + nI t) * 2 = nI ((d * 8 + t) * 2) := by
    rw [show nI d * 8 = nI (d * 8) from pk_mul _ 8, nI_add]
    exact pk_mul _ 2
  obtain ⟨m, hm, hz⟩ := wb_of x24
  have e4 : ((x24.toUInt64 >>> ((nI ((d * 8 + t) * 2)).toInt64.toUInt64 &&& Int64.toUInt64 63)).toInt64) &&& 3 = lN (m / 2 ^ ((d * 8 + t) * 2) % 2 ^ 2) := by
    rw [hz, wb_shr hm (by omega)]
    exact wb_mask (k := 2) (Nat.lt_of_le_of_lt (Nat.div_le_self _ _) hm) (by omega)
  rw [e1, e4, lN_i]
  unfold elg
  rw [hz, wb_tn hm]
theorem elg_lt (x24 : Int64) (d t : Nat) : elg x24 d t < 4 := Nat.mod_lt _ (by decide)
theorem amf_set {x6 x8 y6 y8 : Int64} {d s0 : Nat} (hd : d < 4) (h1 : 1 ≤ s0) (h2 : s0 ≤ 24) (h6 : ∀ i, i < 48 → lb y6 i = (lb x6 i || (decide (d < 2) && decide (i = 24 * d + s0 - 1)))) (h8 : ∀ i, i < 48 → lb y8 i = (lb x8 i || (decide (2 ≤ d) && decide (i = 24 * (d - 2) + s0 - 1)))) (d' s : Nat) (hd' : d' < 4) : amf y6 y8 d' s = true ↔ amf x6 x8 d' s = true ∨ (d' = d ∧ s = s0) := by
  unfold amf
  by_cases hs : 1 ≤ s ∧ s ≤ 24
  · rw [if_pos hs, if_pos hs]
    by_cases h : d' < 2
    · rw [if_pos h, if_pos h, h6 _ (by omega), Bool.or_eq_true, Bool.and_eq_true, decide_eq_true_iff, decide_eq_true_iff]
      constructor
      · rintro (z | z)
        · exact Or.inl z
        · exact Or.inr (by omega)
      · rintro (z | z)
        · exact Or.inl z
        · exact Or.inr (by omega)
    · rw [if_neg h, if_neg h, h8 _ (by omega), Bool.or_eq_true, Bool.and_eq_true, decide_eq_true_iff, decide_eq_true_iff]
      constructor
      · rintro (z | z)
        · exact Or.inl z
        · exact Or.inr (by omega)
      · rintro (z | z)
        · exact Or.inl z
        · exact Or.inr (by omega)
  · rw [if_neg hs, if_neg hs]
    constructor
    · intro z
      exact Or.inl z
    · rintro (z | z)
      · exact z
      · exact absurd (by omega) hs
theorem lw_1107 {p : TP} {k : TK} {r : TR} {l s : TL} {o : TO} {h : TA} {w : TW} {L : Nat} {xs : Nat → Int32} {post : Int32 → Prop} {J47 : TJ} {J : Int64 → Int64 → Int32 → Int32 → Prop} {x2 x4 x10 x24 : Int64} {x12 x13 x14 x15 x16 x17 x18 x19 x20 x28 : Int32} {kc ks s0 t q : Nat} (h1 : 1 ≤ s0) (h2 : s0 ≤ 24) (ht : t < 8) (hq : q < 4) :
    ∀ f d (x6 x8 : Int64), d + f = 4 → (∀ y6 y8, (∀ d' s', d' < 4 → (amf y6 y8 d' s' = true ↔ amf x6 x8 d' s' = true ∨ (s' = s0 ∧ d ≤ d' ∧ bt x28 d' = false ∧ q + 1 ≤ elg x24 d' t))) → J y6 y8 x13 (nI (s0 + 1))) → wL_law_1107 post L xs J47 J x2 x4 x10 x12 x13 x14 x15 x16 x17 x18 x19 x20 x24 x28 (nI s0) (nI t) (nI q) kc ks p.1 r.1 p.2.1 p.2.2.1 p.2.2.2.1 p.2.2.2.2 k.1 k.2.1 k.2.2.1 k.2.2.2 r.2.1 r.2.2 l.1 l.2.1 l.2.2 s.1 s.2.1 s.2.2 o.1 o.2.1 o.2.2.1 o.2.2.2.1 o.2.2.2.2.1 o.2.2.2.2.2 h w.1 w.2.1 w.2.2.1 w.2.2.2.1 w.2.2.2.2.1 w.2.2.2.2.2.1 w.2.2.2.2.2.2 (f + 1) x6 x8 (nI d) := by
  intro f
  induction f with
  | zero =>
    intro d x6 x8 hd hK
    obtain rfl : d = 4 := by omega
    refine br_t (by decide) (nm_r (nI_1 _) (hK x6 x8 (fun d' s' hd' => ⟨fun z => Or.inl z, ?_⟩)))
    rintro (z | z)
    · exact z
    · exact absurd z.2.1 (by omega)
  | succ f ih =>
    intro d x6 x8 hd hK
    have hd4 : d < 4 := by omega
    have h4 : ¬ (4 : Int32) ≤ nI d := nI_ge (b := 4) (by omega) (by omega)
    have hb := bt_t (x := x28) (show d < 32 by omega)
    have hel := elg_lt x24 d t
    have skip : ¬ (bt x28 d = false ∧ q + 1 ≤ elg x24 d t) → wL_law_1107 post L xs J47 J x2 x4 x10 x12 x13 x14 x15 x16 x17 x18 x19 x20 x24 x28 (nI s0) (nI t) (nI q) kc ks p.1 r.1 p.2.1 p.2.2.1 p.2.2.2.1 p.2.2.2.2 k.1 k.2.1 k.2.2.1 k.2.2.2 r.2.1 r.2.2 l.1 l.2.1 l.2.2 s.1 s.2.1 s.2.2 o.1 o.2.1 o.2.2.1 o.2.2.2.1 o.2.2.2.2.1 o.2.2.2.2.2 h w.1 w.2.1 w.2.2.1 w.2.2.2.1 w.2.2.2.2.1 w.2.2.2.2.2.1 w.2.2.2.2.2.2 (f + 1) x6 x8 (nI (d + 1)) := by
      intro hn
      refine ih (d + 1) x6 x8 (by omega) (fun y6 y8 hy => hK y6 y8 (fun d' s' hd' => (hy d' s' hd').trans ⟨?_, ?_⟩))
      · rintro (z | z)
        · exact Or.inl z
        · exact Or.inr ⟨z.1, by omega, z.2.2⟩
      · rintro (z | z)
        · exact Or.inl z
        · refine Or.inr ⟨z.1, ?_, z.2.2⟩
          rcases Nat.lt_or_ge d d' with g | g
          · omega
          · obtain rfl : d' = d := by omega
            exact absurd z.2.2 hn
    cases hg : bt x28 d with
    | true => exact br_f h4 (br_f (fun z => by rw [hb.mp z] at hg; exact absurd hg (by decide)) (nm_r (nI_1 _) (skip (fun z => by rw [hg] at z; exact absurd z.1 (by decide)))))
    | false =>
      refine br_f h4 (br_t (hb.mpr hg) ?_)
      rw [pl_elg hd4 ht, nI_1]
      by_cases hlt : elg x24 d t < q + 1
      · exact br_t (nI_lt hlt (by omega)) (nm_r (nI_1 _) (skip (fun z => by omega)))
      · refine br_f (nI_nlt (by omega) (by omega)) ?_
        have key : ∀ z6 z8 : Int64, (∀ d' s', d' < 4 → (amf z6 z8 d' s' = true ↔ amf x6 x8 d' s' = true ∨ (d' = d ∧ s' = s0))) → wL_law_1107 post L xs J47 J x2 x4 x10 x12 x13 x14 x15 x16 x17 x18 x19 x20 x24 x28 (nI s0) (nI t) (nI q) kc ks p.1 r.1 p.2.1 p.2.2.1 p.2.2.2.1 p.2.2.2.2 k.1 k.2.1 k.2.2.1 k.2.2.2 r.2.1 r.2.2 l.1 l.2.1 l.2.2 s.1 s.2.1 s.2.2 o.1 o.2.1 o.2.2.1 o.2.2.2.1 o.2.2.2.2.1 o.2.2.2.2.2 h w.1 w.2.1 w.2.2.1 w.2.2.2.1 w.2.2.2.2.1 w.2.2.2.2.2.1 w.2.2.2.2.2.2 (f + 1) z6 z8 (nI (d + 1)) := by
          intro z6 z8 hz
          refine ih (d + 1) z6 z8 (by omega) (fun y6 y8 hy => hK y6 y8 (fun d' s' hd' => (hy d' s' hd').trans ⟨?_, ?_⟩))
          · rintro (z | z)
            · rcases (hz d' s' hd').mp z with g | ⟨g, g2⟩
              · exact Or.inl g
              · subst g
                exact Or.inr ⟨g2, by omega, hg, by omega⟩
            · exact Or.inr ⟨z.1, by omega, z.2.2⟩
          · rintro (z | z)
            · exact Or.inl ((hz d' s' hd').mpr (Or.inl z))
            · rcases Nat.lt_or_ge d d' with g | g
              · exact Or.inr ⟨z.1, by omega, z.2.2⟩
              · exact Or.inl ((hz d' s' hd').mpr (Or.inr ⟨by omega, z.1⟩))
        by_cases hd2 : d < 2
        · have e : 24 * nI d + nI s0 - 1 = nI (24 * d + s0 - 1) := by
            rw [show (24 : Int32) * nI d = nI (24 * d) from pk_mul 24 _, nI_add]
            exact pk_sub (b := 1) (by omega)
          refine br_f (nI_ge (b := 2) hd2 (by omega)) (nm_e (nm_r (nI_1 _) (key _ _ (amf_set hd4 h1 h2 (fun i hi => ?_) (fun i hi => ?_)))))
          · rw [e, lb_s (by omega) (by omega), decide_eq_true hd2, Bool.true_and]
          · rw [decide_eq_false (show ¬ 2 ≤ d by omega), Bool.false_and, Bool.or_false]
        · have e : 24 * (nI d - 2) + nI s0 - 1 = nI (24 * (d - 2) + s0 - 1) := by
            rw [show nI d - 2 = nI (d - 2) from pk_sub (b := 2) (by omega), show (24 : Int32) * nI (d - 2) = nI (24 * (d - 2)) from pk_mul 24 _, nI_add]
            exact pk_sub (b := 1) (by omega)
          refine br_t (nI_le (a := 2) (by omega) (by omega)) (nm_e (nm_r (nI_1 _) (key _ _ (amf_set hd4 h1 h2 (fun i hi => ?_) (fun i hi => ?_)))))
          · rw [decide_eq_false hd2, Bool.false_and, Bool.or_false]
          · rw [e, lb_s (by omega) (by omega), decide_eq_true (show 2 ≤ d by omega), Bool.true_and]
end Q30
