section Q29
/-- the end of a drain: nothing is left at the drained client's end -/
theorem lw_1419 {p : TP} {k : TK} {r : TR} {l s : TL} {o : TO} {h : TA} {w : TW} {L : Nat} {xs : Nat → Int32} {post : Int32 → Prop} {J47 : TJ} {x2 x4 x6 x8 x10 : Int64} {x12 x13 x14 x15 x16 x18 x19 : Int32} {kc ks dd : Nat}
    {O W : Nat → List N5} {H : Nat → Nat → Bool} {up pe : Nat → Bool} {S : Nat → List (Int32 × Nat)} {rc : Nat → Nat → Nat} {ac ov : Nat → Nat} {n : Nat} {qu : Nat → Nat} {nq : Nat → Bool} (I : PINV O W H up pe S rc ac n qu (amf x6 x8) nq) (HO : pc_O o O) (HK : pc_K k rc ac ov) (hrc : ∀ d s, rc d s < 2 ^ 30) (hqu : ∀ s, 1 ≤ s → s ≤ n → qu s = nfo x2 x4 s / 8 ∧ qu s ≤ 2) (hd : dd < 4) (hem : O (4 + dd) = []) (hdm : ∀ s, 1 ≤ s → s ≤ 24 → lb x10 (s - 1) = true → amf x6 x8 dd s = true)
    (hJ : J47 x2 x4 x6 x8 x10 x12 x13 x14 x15 x16 (nI dd) (x19 + 1) p.1 r.1 p.2.1 p.2.2.1 p.2.2.2.1 p.2.2.2.2 k.1 k.2.1 k.2.2.1 k.2.2.2 r.2.1 r.2.2 l.1 l.2.1 l.2.2 s.1 s.2.1 s.2.2 o.1 o.2.1 o.2.2.1 o.2.2.2.1 o.2.2.2.2.1 o.2.2.2.2.2 h w.1 w.2.1 w.2.2.1 w.2.2.2.1 w.2.2.2.2.1 w.2.2.2.2.2.1 w.2.2.2.2.2.2) :
    ∀ f s0, s0 + f = 25 → 1 ≤ s0 → wL_law_1419 post L xs J47 x2 x4 x6 x8 x10 x12 x13 x14 x15 x16 (nI dd) x18 x19 kc ks p.1 r.1 p.2.1 p.2.2.1 p.2.2.2.1 p.2.2.2.2 k.1 k.2.1 k.2.2.1 k.2.2.2 r.2.1 r.2.2 l.1 l.2.1 l.2.2 s.1 s.2.1 s.2.2 o.1 o.2.1 o.2.2.1 o.2.2.2.1 o.2.2.2.2.1 o.2.2.2.2.2 h w.1 w.2.1 w.2.2.1 w.2.2.2.1 w.2.2.2.2.1 w.2.2.2.2.2.1 w.2.2.2.2.2.2 (f + 1) (nI s0) := by
  intro f
  induction f with
  | zero =>
    intro s0 hs g1
    obtain rfl : s0 = 25 := by omega
    exact br_t (by decide) (nm_e hJ)
  | succ f ih =>
    intro s0 hs g1
    have hnext := ih (s0 + 1) (by omega) (by omega)
    have h24 : ¬ (24 : Int32) < nI s0 := nI_nlt (a := 24) (by omega) (by omega)
    have e1 : nI s0 - 1 = nI (s0 - 1) := pk_sub (a := s0) (b := 1) g1
    have hb := lb_t (x := x10) (show s0 - 1 < 64 by omega)
    rw [← e1] at hb
    cases hm : lb x10 (s0 - 1) with
    | false => exact br_f h24 (br_t (hb.mpr hm) (nm_r (nI_1 _) hnext))
    | true =>
      have ha := hdm s0 g1 (by omega) hm
      obtain ⟨i1, i2, i3, i4, i5, i6, i7, i8, i9, i10, i11, i12, i13⟩ := I
      obtain ⟨_, hac, hq1, hx⟩ := i13 dd s0 hd ha
      have hn : s0 ≤ n := by
        apply Classical.byContradiction
        intro z
        have := i9 s0 (by omega)
        omega
      have hr1 : 1 ≤ rc dd s0 := by
        rcases hx with z | ⟨e, he, _⟩
        · exact z
        · rw [hem] at he
          exact absurd he (by simp)
      obtain ⟨R, bX, hR⟩ := pq_bs HO hd g1 (show s0 ≤ 24 by omega)
      have hR0 : R = 0 := by
        rcases hR with z | ⟨e, he, _⟩
        · exact z.1
        · rw [hem] at he
          exact absurd he (by simp)
      have hrb := hrc dd s0
      have hquo := hqu s0 g1 hn
      refine br_f h24 (br_f (fun z => by have := hb.mp z; rw [hm] at this; exact absurd this (by decide)) (pl_info g1 (by omega) (nm_r (e' := nI (qu s0)) ?_ (bX p k r l s h w _ (br_t hR0 (pq_received HK hd g1 (by omega) (br_f (nI_nlt (b := 1) hr1 (by omega)) (br_c (fun hq => br_t ?_ (nm_r (nI_1 _) hnext)) fun _ => nm_r (nI_1 _) hnext))))))))
      · rw [pn_shr3 (nfo_lt _ _ _), hquo.1]
      · have hq2 : qu s0 = 2 := (nI_eq (b := 2) (by omega) (by omega)).mp hq
        have X := i11 dd s0 hd hq2 (Or.inr ha)
        have : rc dd s0 = 1 := by have := X.1; omega
        rw [this]
        rfl
theorem amf_clr {x6 x8 y6 y8 : Int64} {d : Nat} (hd : d < 4) (h6 : ∀ i, i < 48 → lb y6 i = (lb x6 i && !(decide (d < 2) && decide (24 * d ≤ i) && decide (i < 24 * d + 24)))) (h8 : ∀ i, i < 48 → lb y8 i = (lb x8 i && !(decide (2 ≤ d) && decide (24 * (d - 2) ≤ i) && decide (i < 24 * (d - 2) + 24)))) (d' s : Nat) (hd' : d' < 4) : amf y6 y8 d' s = (amf x6 x8 d' s && !(decide (d' = d))) := by
  unfold amf
  by_cases hs : 1 ≤ s ∧ s ≤ 24
  · rw [if_pos hs, if_pos hs]
    by_cases h2 : d' < 2
    · rw [if_pos h2, if_pos h2, h6 _ (by omega)]
      congr 2
      by_cases e : d' = d
      · subst e
        have a1 : 24 * d' ≤ 24 * d' + s - 1 := by omega
        have a2 : 24 * d' + s - 1 < 24 * d' + 24 := by omega
        simp [h2, a1, a2]
      · by_cases hd2 : d < 2
        · by_cases a1 : 24 * d ≤ 24 * d' + s - 1
          · have a2 : ¬ 24 * d' + s - 1 < 24 * d + 24 := by omega
            simp [e, a2]
          · simp [e, a1]
        · simp [e, hd2]
    · rw [if_neg h2, if_neg h2, h8 _ (by omega)]
      congr 2
      by_cases e : d' = d
      · subst e
        have a0 : 2 ≤ d' := by omega
        have a1 : 24 * (d' - 2) ≤ 24 * (d' - 2) + s - 1 := by omega
        have a2 : 24 * (d' - 2) + s - 1 < 24 * (d' - 2) + 24 := by omega
        simp [a0, a1, a2]
      · by_cases hd2 : 2 ≤ d
        · by_cases a1 : 24 * (d - 2) ≤ 24 * (d' - 2) + s - 1
          · have a2 : ¬ 24 * (d' - 2) + s - 1 < 24 * (d - 2) + 24 := by omega
            simp [e, a2]
          · simp [e, a1]
        · simp [e, hd2]
  · rw [if_neg hs, if_neg hs]
    rfl
theorem lb_c24 {x : Int64} {k i : Nat} (hk : k < 64) (hi : i < 64) : lb (x &&& (((16777215 : Int64) <<< ((nI k).toInt64 &&& 63)) ^^^ (-1))) i = (lb x i && !(decide (k ≤ i) && decide (i < k + 24))) := by
  have h : lb (x &&& ((lN 16777215 <<< ((nI k).toInt64 &&& 63)) ^^^ (-1))) i = (lb x i && !(decide (k ≤ i) && decide (i - k < 24))) := lb_c (m := 16777215) (w := 24) (by decide) hk hi
  rw [show (16777215 : Int64) = lN 16777215 from rfl, h]
  congr 2
  by_cases a : k ≤ i
  · have : decide (i - k < 24) = decide (i < k + 24) := by
      by_cases b : i - k < 24
      · rw [decide_eq_true b, decide_eq_true (by omega)]
      · rw [decide_eq_false b, decide_eq_false (by omega)]
    rw [this]
  · rw [decide_eq_false a, Bool.false_and, Bool.false_and]
/-- the arming of a client whose overflow grew is cleared -/
theorem lw_1208 {p : TP} {k : TK} {r : TR} {l s : TL} {o : TO} {h : TA} {w : TW} {L : Nat} {xs : Nat → Int32} {post : Int32 → Prop} {J47 : TJ} {x2 x4 x10 : Int64} {x12 x13 x14 x15 x16 x17 x18 x19 x20 x28 : Int32} {kc ks : Nat} :
    ∀ f d (x6 x8 : Int64), d + f = 4 → (∀ y6 y8, (∀ d' s', d' < 4 → amf y6 y8 d' s' = (amf x6 x8 d' s' && !(decide (d ≤ d') && bt x28 d'))) → ∃ fu1280, wL_law_1280 post L xs J47 x2 x4 y6 y8 x10 x12 x13 x14 x15 x16 x17 x18 x19 x20 kc ks p.1 r.1 p.2.1 p.2.2.1 p.2.2.2.1 p.2.2.2.2 k.1 k.2.1 k.2.2.1 k.2.2.2 r.2.1 r.2.2 l.1 l.2.1 l.2.2 s.1 s.2.1 s.2.2 o.1 o.2.1 o.2.2.1 o.2.2.2.1 o.2.2.2.2.1 o.2.2.2.2.2 h w.1 w.2.1 w.2.2.1 w.2.2.2.1 w.2.2.2.2.1 w.2.2.2.2.2.1 w.2.2.2.2.2.2 fu1280 1) → wL_law_1208 post L xs J47 x2 x4 x10 x12 x13 x14 x15 x16 x17 x18 x19 x20 x28 kc ks p.1 r.1 p.2.1 p.2.2.1 p.2.2.2.1 p.2.2.2.2 k.1 k.2.1 k.2.2.1 k.2.2.2 r.2.1 r.2.2 l.1 l.2.1 l.2.2 s.1 s.2.1 s.2.2 o.1 o.2.1 o.2.2.1 o.2.2.2.1 o.2.2.2.2.1 o.2.2.2.2.2 h w.1 w.2.1 w.2.2.1 w.2.2.2.1 w.2.2.2.2.1 w.2.2.2.2.2.1 w.2.2.2.2.2.2 (f + 1) x6 x8 (nI d) := by
  intro f
  induction f with
  | zero =>
    intro d x6 x8 hd hK
    obtain rfl : d = 4 := by omega
    refine br_t (by decide) (hK x6 x8 (fun d' s' hd' => ?_))
    have : decide (4 ≤ d') = false := decide_eq_false (by omega)
    rw [this, Bool.false_and, Bool.not_false, Bool.and_true]
  | succ f ih =>
    intro d x6 x8 hd hK
    have h4 : ¬ (4 : Int32) ≤ nI d := nI_ge (b := 4) (by omega) (by omega)
    have hb := bt_t (x := x28) (show d < 32 by omega)
    cases hg : bt x28 d with
    | false =>
      refine br_f h4 (br_t (hb.mpr hg) (nm_r (nI_1 _) (ih (d + 1) x6 x8 (by omega) (fun y6 y8 hy => hK y6 y8 (fun d' s' hd' => ?_)))))
      rw [hy d' s' hd']
      by_cases e : d' = d
      · subst e
        rw [hg, Bool.and_false, Bool.and_false]
      · have : decide (d + 1 ≤ d') = decide (d ≤ d') := by
          by_cases z : d ≤ d'
          · rw [decide_eq_true z, decide_eq_true (by omega)]
          · rw [decide_eq_false z, decide_eq_false (by omega)]
        rw [this]
    | true =>
      -- what the cleared words say, and what is left to do
      have key : ∀ y6 y8 z6 z8 : Int64, (∀ d' s', d' < 4 → amf z6 z8 d' s' = (amf x6 x8 d' s' && !(decide (d' = d)))) → (∀ d' s', d' < 4 → amf y6 y8 d' s' = (amf z6 z8 d' s' && !(decide (d + 1 ≤ d') && bt x28 d'))) → ∀ d' s', d' < 4 → amf y6 y8 d' s' = (amf x6 x8 d' s' && !(decide (d ≤ d') && bt x28 d')) := by
        intro y6 y8 z6 z8 h1 h2 d' s' hd'
        rw [h2 d' s' hd', h1 d' s' hd']
        by_cases e : d' = d
        · subst e
          rw [hg]
          simp
        · have : decide (d + 1 ≤ d') = decide (d ≤ d') := by
            by_cases z : d ≤ d'
            · rw [decide_eq_true z, decide_eq_true (by omega)]
            · rw [decide_eq_false z, decide_eq_false (by omega)]
          rw [this, decide_eq_false e, Bool.not_false, Bool.and_true]
      have hne : ¬ ((x28 >>> (nI d &&& 31)) &&& 1) = 0 := fun z => by
        have := hb.mp z
        rw [hg] at this
        exact absurd this (by decide)
      by_cases h2 : 2 ≤ d
      · have e1 : (24 : Int32) * (nI d - 2) = nI (24 * (d - 2)) := by
          rw [show nI d - 2 = nI (d - 2) from pk_sub (b := 2) h2]
          exact pk_mul 24 _
        refine br_f h4 (br_f hne (br_t (nI_le (a := 2) h2 (by omega)) (nm_r (e' := x8 &&& (((16777215 : Int64) <<< ((nI (24 * (d - 2))).toInt64 &&& 63)) ^^^ (-1))) (by rw [e1]) (nm_r (nI_1 _) (ih (d + 1) x6 _ (by omega) (fun y6 y8 hy => hK y6 y8 (key y6 y8 x6 _ (amf_clr (by omega) (fun i hi => ?_) (fun i hi => ?_)) hy)))))))
        · have : decide (d < 2) = false := decide_eq_false (by omega)
          rw [this, Bool.false_and, Bool.false_and, Bool.not_false, Bool.and_true]
        · rw [lb_c24 (by omega) (by omega), decide_eq_true h2, Bool.true_and]
      · have e1 : (24 : Int32) * nI d = nI (24 * d) := pk_mul 24 _
        refine br_f h4 (br_f hne (br_f (nI_ge (b := 2) (by omega) (by omega)) (nm_r (e' := x6 &&& (((16777215 : Int64) <<< ((nI (24 * d)).toInt64 &&& 63)) ^^^ (-1))) (by rw [e1]) (nm_r (nI_1 _) (ih (d + 1) _ x8 (by omega) (fun y6 y8 hy => hK y6 y8 (key y6 y8 _ x8 (amf_clr (by omega) (fun i hi => ?_) (fun i hi => ?_)) hy)))))))
        · rw [lb_c24 (by omega) (by omega), decide_eq_true (show d < 2 by omega), Bool.true_and]
        · rw [decide_eq_false h2, Bool.false_and, Bool.false_and, Bool.not_false, Bool.and_true]
end Q29
