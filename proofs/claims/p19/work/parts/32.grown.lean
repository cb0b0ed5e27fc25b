section Q32
/-! the overflow words, and who grew -/
def opv (x26 : Int64) (d : Nat) : Nat := x26.toBitVec.toNat / 2 ^ (16 * d) % 2 ^ 16
theorem pl_opv {x26 : Int64} {d : Nat} (hd : d < 4) : ((((x26.toUInt64 >>> ((16 * nI d).toInt64.toUInt64 &&& Int64.toUInt64 63)).toInt64) &&& 65535).toInt32) = nI (opv x26 d) := by
  have e1 : (16 : Int32) * nI d = nI (16 * d) := pk_mul 16 _
  obtain ⟨m, hm, hz⟩ := wb_of x26
  have e4 : ((x26.toUInt64 >>> ((nI (16 * d)).toInt64.toUInt64 &&& Int64.toUInt64 63)).toInt64) &&& 65535 = lN (m / 2 ^ (16 * d) % 2 ^ 16) := by
    rw [hz, wb_shr hm (by omega)]
    exact wb_mask (k := 16) (Nat.lt_of_le_of_lt (Nat.div_le_self _ _) hm) (by omega)
  rw [e1, e4, lN_i]
  unfold opv
  rw [hz, wb_tn hm]
theorem opv_lt (x26 : Int64) (d : Nat) : opv x26 d < 2 ^ 16 := Nat.mod_lt _ (by decide)
theorem lw_951 {p : TP} {k : TK} {r : TR} {l s : TL} {o : TO} {h : TA} {w : TW} {L : Nat} {xs : Nat → Int32} {post : Int32 → Prop} {J47 : TJ} {x2 x4 x6 x8 x10 x24 x26 : Int64} {x12 x13 x14 x15 x16 x17 x18 x19 x20 : Int32} {kc ks : Nat} {rc : Nat → Nat → Nat} {ac ov : Nat → Nat} (HK : pc_K k rc ac ov) (hov : ∀ d, d < 4 → ov d < 2 ^ 30)
    (hK : ∀ x28, (∀ d, d < 4 → (bt x28 d = true ↔ ¬ ov d % 2 ^ 16 = opv x26 d)) → ∃ fu1002, wL_law_1002 post L xs J47 x2 x4 x10 x12 x14 x15 x16 x17 x18 x19 x20 x24 x28 kc ks p.1 r.1 p.2.1 p.2.2.1 p.2.2.2.1 p.2.2.2.2 k.1 k.2.1 k.2.2.1 k.2.2.2 r.2.1 r.2.2 l.1 l.2.1 l.2.2 s.1 s.2.1 s.2.2 o.1 o.2.1 o.2.2.1 o.2.2.2.1 o.2.2.2.2.1 o.2.2.2.2.2 h w.1 w.2.1 w.2.2.1 w.2.2.2.1 w.2.2.2.2.1 w.2.2.2.2.2.1 w.2.2.2.2.2.2 fu1002 x6 x8 x13 1) :
    ∀ f d0 (x28 : Int32), d0 + f = 4 → (∀ d, d < 4 → (bt x28 d = true ↔ d < d0 ∧ ¬ ov d % 2 ^ 16 = opv x26 d)) → wL_law_951 post L xs J47 x2 x4 x6 x8 x10 x12 x13 x14 x15 x16 x17 x18 x19 x20 x24 x26 kc ks p.1 r.1 p.2.1 p.2.2.1 p.2.2.2.1 p.2.2.2.2 k.1 k.2.1 k.2.2.1 k.2.2.2 r.2.1 r.2.2 l.1 l.2.1 l.2.2 s.1 s.2.1 s.2.2 o.1 o.2.1 o.2.2.1 o.2.2.2.1 o.2.2.2.2.1 o.2.2.2.2.2 h w.1 w.2.1 w.2.2.1 w.2.2.2.1 w.2.2.2.2.1 w.2.2.2.2.2.1 w.2.2.2.2.2.2 (f + 1) x28 (nI d0) := by
  intro f
  induction f with
  | zero =>
    intro d0 x28 hd hG
    obtain rfl : d0 = 4 := by omega
    exact br_t (by decide) (hK x28 (fun d hd => (hG d hd).trans ⟨fun z => z.2, fun z => ⟨hd, z⟩⟩))
  | succ f ih =>
    intro d0 x28 hd hG
    have hd4 : d0 < 4 := by omega
    have h4 : ¬ (4 : Int32) ≤ nI d0 := nI_ge (b := 4) (by omega) (by omega)
    have ho := hov d0 hd4
    have hol := opv_lt x26 d0
    have e : nI (ov d0) &&& 65535 = nI (ov d0 % 2 ^ 16) := pk_andN (n := ov d0) (by omega) 16 (by decide)
    refine br_f h4 (pq_ovf HK hd4 ?_)
    rw [e, pl_opv hd4]
    by_cases hg : ov d0 % 2 ^ 16 = opv x26 d0
    · refine br_t (congrArg nI hg) (nm_r (nI_1 _) (ih (d0 + 1) x28 (by omega) (fun d hd => (hG d hd).trans ⟨fun z => ⟨by omega, z.2⟩, fun z => ⟨?_, z.2⟩⟩)))
      rcases Nat.lt_or_ge d d0 with g | g
      · exact g
      · obtain rfl : d = d0 := by omega
        exact absurd hg z.2
    · refine br_f (fun z => hg ((nI_eq (by omega) (by omega)).mp z)) (nm_e (nm_r (nI_1 _) (ih (d0 + 1) _ (by omega) (fun d hd => ?_))))
      rw [bt_s (by omega) (by omega), Bool.or_eq_true, decide_eq_true_iff, hG d hd]
      constructor
      · rintro (z | z)
        · exact ⟨by omega, z.2⟩
        · subst z
          exact ⟨by omega, hg⟩
      · intro z
        rcases Nat.lt_or_ge d d0 with g | g
        · exact Or.inl ⟨g, z.2⟩
        · exact Or.inr (by omega)
end Q32
