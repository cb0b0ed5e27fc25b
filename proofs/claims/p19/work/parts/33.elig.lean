section Q33
/-! fields of a word; the table of topics and of filters; the eligibility and the overflow before a call -/
def fld (x : Int64) (k w : Nat) : Nat := x.toBitVec.toNat / 2 ^ k % 2 ^ w
theorem fld_tb (x : Int64) (k w j : Nat) : (fld x k w).testBit j = (decide (j < w) && lb x (k + j)) := by
  unfold fld lb
  rw [Nat.testBit_mod_two_pow, Nat.testBit_div_two_pow, Nat.add_comm j k]
  rfl
theorem fld_get {y : Int64} {v k w : Nat} (hv : v < 2 ^ w) (h : ∀ j, j < w → lb y (k + j) = v.testBit j) : fld y k w = v := by
  apply Nat.eq_of_testBit_eq
  intro j
  rw [fld_tb]
  by_cases hj : j < w
  · rw [decide_eq_true hj, Bool.true_and, h j hj]
  · rw [decide_eq_false hj, Bool.false_and]
    exact (Nat.testBit_lt_two_pow (Nat.lt_of_lt_of_le hv (Nat.pow_le_pow_right (by decide) (by omega)))).symm
theorem fld_same {x y : Int64} {k w : Nat} (h : ∀ j, j < w → lb y (k + j) = lb x (k + j)) : fld y k w = fld x k w := by
  apply Nat.eq_of_testBit_eq
  intro j
  rw [fld_tb, fld_tb]
  by_cases hj : j < w
  · rw [h j hj]
  · rw [decide_eq_false hj, Bool.false_and, Bool.false_and]
theorem fld_b {x : Int64} {k w j : Nat} (h : fld x k w = 0) (hj : j < w) : lb x (k + j) = false := by
  have := fld_tb x k w j
  rw [h, Nat.zero_testBit, decide_eq_true hj, Bool.true_and] at this
  exact this.symm
theorem fld_set {x : Int64} {v k w : Nat} (hv : v < 2 ^ w) (hk : k < 64) (hw : k + w ≤ 64) : fld ((x &&& ((lN (2 ^ w - 1) <<< ((nI k).toInt64 &&& 63)) ^^^ (-1))) ||| (lN v <<< ((nI k).toInt64 &&& 63))) k w = v ∧ ∀ k' w', k' + w' ≤ 64 → (k' + w' ≤ k ∨ k + w ≤ k') → fld ((x &&& ((lN (2 ^ w - 1) <<< ((nI k).toInt64 &&& 63)) ^^^ (-1))) ||| (lN v <<< ((nI k).toInt64 &&& 63))) k' w' = fld x k' w' := by
  constructor
  · refine fld_get hv (fun j hj => ?_)
    rw [lb_or, lb_c (w := w) rfl hk (by omega), lb_shl hk (by omega), decide_eq_true (show k ≤ k + j by omega), decide_eq_true (show k + j - k < w by omega), show k + j - k = j by omega]
    simp
  · intro k' w' h1 h2
    refine fld_same (fun j hj => ?_)
    rw [lb_or, lb_c (w := w) rfl hk (by omega), lb_shl hk (by omega)]
    rcases h2 with h2 | h2
    · rw [decide_eq_false (show ¬ k ≤ k' + j by omega)]
      simp
    · rw [decide_eq_false (show ¬ k' + j - k < w by omega), Nat.testBit_lt_two_pow (Nat.lt_of_lt_of_le hv (Nat.pow_le_pow_right (by decide) (show w ≤ k' + j - k by omega)))]
      simp
theorem fld_or {x : Int64} {v k w : Nat} (hv : v < 2 ^ w) (hk : k < 64) (hw : k + w ≤ 64) (h0 : fld x k w = 0) : fld (x ||| (lN v <<< ((nI k).toInt64 &&& 63))) k w = v ∧ ∀ k' w', k' + w' ≤ 64 → (k' + w' ≤ k ∨ k + w ≤ k') → fld (x ||| (lN v <<< ((nI k).toInt64 &&& 63))) k' w' = fld x k' w' := by
  constructor
  · refine fld_get hv (fun j hj => ?_)
    rw [lb_or, lb_shl hk (by omega), decide_eq_true (show k ≤ k + j by omega), show k + j - k = j by omega, fld_b h0 hj]
    simp
  · intro k' w' h1 h2
    refine fld_same (fun j hj => ?_)
    rw [lb_or, lb_shl hk (by omega)]
    rcases h2 with h2 | h2
    · rw [decide_eq_false (show ¬ k ≤ k' + j by omega)]
      simp
    · rw [Nat.testBit_lt_two_pow (Nat.lt_of_lt_of_le hv (Nat.pow_le_pow_right (by decide) (show w ≤ k' + j - k by omega)))]
      simp
theorem i64 {m : Nat} (h : m < 2 ^ 31) : (nI m).toInt64 = lN m := by
  apply wb_inj
  have e : (nI m).toBitVec = BitVec.ofNat 32 m := rfl
  rw [Int32.toBitVec_toInt64, e, BitVec.signExtend_eq_setWidth_of_msb_false]
  · apply BitVec.eq_of_toNat_eq
    rw [BitVec.toNat_setWidth, wb_tb, BitVec.toNat_ofNat, BitVec.toNat_ofNat]
    omega
  · rw [BitVec.msb_eq_decide, BitVec.toNat_ofNat]
    exact decide_eq_false (by omega)
def tcv (i : Nat) : Int32 := if i = 0 then 1 else if i = 1 then 33 else if i = 2 then 49 else if i = 3 then 2 else if i = 4 then 18 else if i = 5 then 801 else if i = 6 then 561 else 274
def fcv (i : Nat) : Int32 := if i = 0 then 1 else if i = 1 then 225 else if i = 2 then 241 else if i = 3 then 242 else if i = 4 then 3822 else if i = 5 then 15 else if i = 6 then 801 else 30
theorem pl_tc {u : St2} {i : Nat} (hi : i < 8) {post : Int32 → Prop} (hp : post (tcv i)) : wpL_topicCode post u (nI i) := by
  unfold wpL_topicCode
  have : i = 0 ∨ i = 1 ∨ i = 2 ∨ i = 3 ∨ i = 4 ∨ i = 5 ∨ i = 6 ∨ i = 7 := by omega
  rcases this with rfl | rfl | rfl | rfl | rfl | rfl | rfl | rfl
  · exact br_f (by decide) (br_f (by decide) (br_t rfl hp))
  · exact br_f (by decide) (br_f (by decide) (br_f (by decide) (br_t rfl hp)))
  · exact br_f (by decide) (br_f (by decide) (br_f (by decide) (br_f (by decide) (br_t rfl hp))))
  · exact br_f (by decide) (br_f (by decide) (br_f (by decide) (br_f (by decide) (br_f (by decide) (br_t rfl hp)))))
  · exact br_f (by decide) (br_f (by decide) (br_f (by decide) (br_f (by decide) (br_f (by decide) (br_f (by decide) (br_t rfl hp))))))
  · exact br_f (by decide) (br_f (by decide) (br_f (by decide) (br_f (by decide) (br_f (by decide) (br_f (by decide) (br_f (by decide) (br_t rfl hp)))))))
  · exact br_f (by decide) (br_f (by decide) (br_f (by decide) (br_f (by decide) (br_f (by decide) (br_f (by decide) (br_f (by decide) (br_f (by decide) (br_t rfl hp))))))))
  · exact br_f (by decide) (br_t (by decide) hp)
theorem pl_fc {u : St2} {i : Nat} (hi : i < 8) {post : Int32 → Prop} (hp : post (fcv i)) : wpL_filterCode post u (nI i) := by
  unfold wpL_filterCode
  have : i = 0 ∨ i = 1 ∨ i = 2 ∨ i = 3 ∨ i = 4 ∨ i = 5 ∨ i = 6 ∨ i = 7 := by omega
  rcases this with rfl | rfl | rfl | rfl | rfl | rfl | rfl | rfl
  · exact br_f (by decide) (br_f (by decide) (br_t rfl hp))
  · exact br_f (by decide) (br_f (by decide) (br_f (by decide) (br_t rfl hp)))
  · exact br_f (by decide) (br_f (by decide) (br_f (by decide) (br_f (by decide) (br_t rfl hp))))
  · exact br_f (by decide) (br_f (by decide) (br_f (by decide) (br_f (by decide) (br_f (by decide) (br_t rfl hp)))))
  · exact br_f (by decide) (br_f (by decide) (br_f (by decide) (br_f (by decide) (br_f (by decide) (br_f (by decide) (br_t rfl hp))))))
  · exact br_f (by decide) (br_f (by decide) (br_f (by decide) (br_f (by decide) (br_f (by decide) (br_f (by decide) (br_f (by decide) (br_t rfl hp)))))))
  · exact br_f (by decide) (br_f (by decide) (br_f (by decide) (br_f (by decide) (br_f (by decide) (br_f (by decide) (br_f (by decide) (br_f (by decide) (br_t rfl hp))))))))
  · exact br_f (by decide) (br_t (by decide) hp)
/-- what the eligibility word promises -/
def ELG (se pe : Nat → Bool) (S : Nat → List (Int32 × Nat)) (x : Int64) : Prop := ∀ d t, d < 4 → t < 8 → 1 ≤ elg x d t → se d = true ∧ pe d = true ∧ ∃ f, f ∈ S d ∧ ma f.1 (tcv t) = true ∧ elg x d t ≤ f.2 + 1
theorem lw_452 {p : TP} {k : TK} {r : TR} {l s : TL} {o : TO} {h : TA} {w : TW} {L : Nat} {xs : Nat → Int32} {post : Int32 → Prop} {J47 : TJ} {J366 : Int64 → Int64 → Int32 → Prop} {J415 : Int64 → Int32 → Prop} {x2 x4 x6 x8 x10 x26 : Int64} {x12 x13 x14 x15 x16 x17 x18 x19 x20 x21 x22 x23 : Int32} {kc ks d i : Nat} {se pe : Nat → Bool} {S : Nat → List (Int32 × Nat)} {g : Int32 × Nat} (hd : d < 4) (hi : i < 8) (hse : se d = true) (hpe : pe d = true) (hg : g ∈ S d) (hgi : g.1 = fcv i) (hg2 : g.2 ≤ 2) (hK : ∀ y, ELG se pe S y → J415 y (nI (i + 1))) :
    ∀ f t (x24 : Int64), t + f = 8 → ELG se pe S x24 → wL_law_452 post L xs J47 J366 J415 x2 x4 x6 x8 x10 x12 x13 x14 x15 x16 x17 x18 x19 x20 x21 x22 x23 x26 (nI d) (nI i) (nI g.2) kc ks p.1 r.1 p.2.1 p.2.2.1 p.2.2.2.1 p.2.2.2.2 k.1 k.2.1 k.2.2.1 k.2.2.2 r.2.1 r.2.2 l.1 l.2.1 l.2.2 s.1 s.2.1 s.2.2 o.1 o.2.1 o.2.2.1 o.2.2.2.1 o.2.2.2.2.1 o.2.2.2.2.2 h w.1 w.2.1 w.2.2.1 w.2.2.2.1 w.2.2.2.2.1 w.2.2.2.2.2.1 w.2.2.2.2.2.2 (f + 1) x24 (nI t) := by
  intro f
  induction f with
  | zero =>
    intro t x24 ht hE
    obtain rfl : t = 8 := by omega
    exact br_t (by decide) (nm_r (nI_1 _) (hK x24 hE))
  | succ f ih =>
    intro t x24 ht hE
    have ht8 : t < 8 := by omega
    have h8 : ¬ (8 : Int32) ≤ nI t := nI_ge (b := 8) (by omega) (by omega)
    refine br_f h8 (pl_fc hi (pl_tc ht8 (pl_ma ?_)))
    cases hm : ma (fcv i) (tcv t) with
    | false => exact br_t rfl (nm_r (nI_1 _) (ih (t + 1) x24 (by omega) hE))
    | true =>
      have e1 : (nI d * 8 + nI t) * 2 = nI ((d * 8 + t) * 2) := by
        rw [show nI d * 8 = nI (d * 8) from pk_mul _ 8, nI_add]
        exact pk_mul _ 2
      refine br_f (by decide) (nm_e ?_)
      rw [pl_elg hd ht8, nI_1]
      have hel := elg_lt x24 d t
      by_cases hc : g.2 + 1 ≤ elg x24 d t
      · exact br_t (nI_le hc (by omega)) (nm_r (nI_1 _) (ih (t + 1) x24 (by omega) hE))
      · refine br_f (nI_ge (by omega) (by omega)) (nm_e (nm_r (nI_1 _) (ih (t + 1) _ (by omega) ?_)))
        rw [e1, i64 (show g.2 + 1 < 2 ^ 31 by omega)]
        obtain ⟨F1, F2⟩ := fld_set (x := x24) (v := g.2 + 1) (k := (d * 8 + t) * 2) (w := 2) (by omega) (by omega) (by omega)
        intro d' t' hd' ht' h
        by_cases e : d' = d ∧ t' = t
        · obtain ⟨rfl, rfl⟩ := e
          refine ⟨hse, hpe, g, hg, by rw [hgi]; exact hm, Nat.le_of_eq F1⟩
        · have := F2 ((d' * 8 + t') * 2) 2 (by omega) (by omega)
          have e3 : elg ((x24 &&& (((3 : Int64) <<< ((nI ((d * 8 + t) * 2)).toInt64 &&& 63)) ^^^ (-1))) ||| (lN (g.2 + 1) <<< ((nI ((d * 8 + t) * 2)).toInt64 &&& 63))) d' t' = elg x24 d' t' := this
          rw [e3] at h ⊢
          exact hE d' t' hd' ht' h
theorem lw_415 {p : TP} {k : TK} {r : TR} {l s : TL} {o : TO} {h : TA} {w : TW} {L : Nat} {xs : Nat → Int32} {post : Int32 → Prop} {J47 : TJ} {J366 : Int64 → Int64 → Int32 → Prop} {x2 x4 x6 x8 x10 x26 : Int64} {x12 x13 x14 x15 x16 x17 x18 x19 x20 x21 x22 x23 : Int32} {kc ks d : Nat} {se pe : Nat → Bool} {S : Nat → List (Int32 × Nat)} (HS : pc_S s S) (hd : d < 4) (hse : se d = true) (hpe : pe d = true) (hK : ∀ y, ELG se pe S y → J366 y x26 (nI (d + 1))) :
    ∀ f i (x24 : Int64), i + f = 8 → ELG se pe S x24 → wL_law_415 post L xs J47 J366 x2 x4 x6 x8 x10 x12 x13 x14 x15 x16 x17 x18 x19 x20 x21 x22 x23 x26 (nI d) kc ks p.1 r.1 p.2.1 p.2.2.1 p.2.2.2.1 p.2.2.2.2 k.1 k.2.1 k.2.2.1 k.2.2.2 r.2.1 r.2.2 l.1 l.2.1 l.2.2 s.1 s.2.1 s.2.2 o.1 o.2.1 o.2.2.1 o.2.2.2.1 o.2.2.2.2.1 o.2.2.2.2.2 h w.1 w.2.1 w.2.2.1 w.2.2.2.1 w.2.2.2.2.1 w.2.2.2.2.2.1 w.2.2.2.2.2.2 (f + 1) x24 (nI i) := by
  intro f
  induction f with
  | zero =>
    intro i x24 hi hE
    obtain rfl : i = 8 := by omega
    exact br_t (by decide) (nm_r (nI_1 _) (hK x24 hE))
  | succ f ih =>
    intro i x24 hi hE
    have hi8 : i < 8 := by omega
    have h8 : ¬ (8 : Int32) ≤ nI i := nI_ge (b := 8) (by omega) (by omega)
    obtain ⟨R, bX, hR⟩ := pq_sq HS hd (fcv i)
    refine br_f h8 (pl_fc hi8 (bX p k r l o h w _ ?_))
    rcases hR with rfl | ⟨g, hg, hgi, rfl, hg2⟩
    · exact br_t (by decide) (nm_r (nI_1 _) (ih (i + 1) x24 (by omega) hE))
    · exact br_f (nI_nlt (b := 0) (by omega) (by omega)) (br_t (nI_le (b := 2) hg2 (by omega)) ⟨9, lw_452 hd hi8 hse hpe hg hgi hg2 (fun y hy => ih (i + 1) y (by omega) hy) 8 0 x24 (by omega) hE⟩)
theorem lw_366 {p : TP} {k : TK} {r : TR} {l s : TL} {o : TO} {h : TA} {w : TW} {L : Nat} {xs : Nat → Int32} {post : Int32 → Prop} {J47 : TJ} {x2 x4 x6 x8 x10 : Int64} {x12 x13 x14 x15 x16 x17 x18 x19 x20 x21 x22 x23 : Int32} {kc ks : Nat} {up se pe : Nat → Bool} {S : Nat → List (Int32 × Nat)} {rc : Nat → Nat → Nat} {ac ov : Nat → Nat} (HK : pc_K k rc ac ov) (HL : pc_L l up se pe) (HS : pc_S s S) (hov : ∀ d, d < 4 → ov d < 2 ^ 30)
    (hT : ∀ x24 x26, ELG se pe S x24 → (∀ d, d < 4 → opv x26 d = ov d % 2 ^ 16) → wL_law_366 post L xs J47 x2 x4 x6 x8 x10 x12 x13 x14 x15 x16 x17 x18 x19 x20 x21 x22 x23 kc ks p.1 r.1 p.2.1 p.2.2.1 p.2.2.2.1 p.2.2.2.2 k.1 k.2.1 k.2.2.1 k.2.2.2 r.2.1 r.2.2 l.1 l.2.1 l.2.2 s.1 s.2.1 s.2.2 o.1 o.2.1 o.2.2.1 o.2.2.2.1 o.2.2.2.2.1 o.2.2.2.2.2 h w.1 w.2.1 w.2.2.1 w.2.2.2.1 w.2.2.2.2.1 w.2.2.2.2.2.1 w.2.2.2.2.2.2 1 x24 x26 4) :
    ∀ f d (x24 x26 : Int64), d + f = 4 → ELG se pe S x24 → (∀ d', d' < 4 → opv x26 d' = if d' < d then ov d' % 2 ^ 16 else 0) → wL_law_366 post L xs J47 x2 x4 x6 x8 x10 x12 x13 x14 x15 x16 x17 x18 x19 x20 x21 x22 x23 kc ks p.1 r.1 p.2.1 p.2.2.1 p.2.2.2.1 p.2.2.2.2 k.1 k.2.1 k.2.2.1 k.2.2.2 r.2.1 r.2.2 l.1 l.2.1 l.2.2 s.1 s.2.1 s.2.2 o.1 o.2.1 o.2.2.1 o.2.2.2.1 o.2.2.2.2.1 o.2.2.2.2.2 h w.1 w.2.1 w.2.2.1 w.2.2.2.1 w.2.2.2.2.1 w.2.2.2.2.2.1 w.2.2.2.2.2.2 (f + 1) x24 x26 (nI d) := by
  intro f
  induction f with
  | zero =>
    intro d x24 x26 hd hE hO
    obtain rfl : d = 4 := by omega
    exact hT x24 x26 hE (fun d hd => by rw [hO d hd, if_pos hd])
  | succ f ih =>
    intro d x24 x26 hd hE hO
    have hd4 : d < 4 := by omega
    have h4 : ¬ (4 : Int32) ≤ nI d := nI_ge (b := 4) (by omega) (by omega)
    have ho := hov d hd4
    have e : nI (ov d) &&& 65535 = nI (ov d % 2 ^ 16) := pk_andN (n := ov d) (by omega) 16 (by decide)
    have e1 : (16 : Int32) * nI d = nI (16 * d) := pk_mul 16 _
    have hv : ov d % 2 ^ 16 < 2 ^ 16 := Nat.mod_lt _ (by decide)
    have h0 : fld x26 (16 * d) 16 = 0 := by
      have := hO d hd4
      rw [if_neg (by omega)] at this
      exact this
    obtain ⟨F1, F2⟩ := fld_or (x := x26) (v := ov d % 2 ^ 16) (k := 16 * d) (w := 16) hv (by omega) (by omega) h0
    refine br_f h4 (pq_ovf HK hd4 (nm_r (e' := x26 ||| (lN (ov d % 2 ^ 16) <<< ((nI (16 * d)).toInt64 &&& 63))) (by rw [e, e1, i64 (by omega)]) (pq_status HL hd4 ?_)))
    have hO' : ∀ d', d' < 4 → opv (x26 ||| (lN (ov d % 2 ^ 16) <<< ((nI (16 * d)).toInt64 &&& 63))) d' = if d' < d + 1 then ov d' % 2 ^ 16 else 0 := by
      intro d' hd'
      by_cases g : d' = d
      · subst g
        rw [if_pos (by omega)]
        exact F1
      · have := F2 (16 * d') 16 (by omega) (by omega)
        have e3 : opv (x26 ||| (lN (ov d % 2 ^ 16) <<< ((nI (16 * d)).toInt64 &&& 63))) d' = opv x26 d' := this
        rw [e3, hO d' hd']
        by_cases g2 : d' < d
        · rw [if_pos g2, if_pos (by omega)]
        · rw [if_neg g2, if_neg (by omega)]
    have h6 : ∀ a b c : Bool, (nI (stv a b c) &&& 6) = 6 ↔ b = true ∧ c = true := by decide
    by_cases hs : se d = true ∧ pe d = true
    · exact br_t ((h6 _ _ _).mpr hs) ⟨9, lw_415 HS hd4 hs.1 hs.2 (fun y hy => ih (d + 1) y _ (by omega) hy hO') 8 0 x24 (by omega) hE⟩
    · exact br_f (fun z => hs ((h6 _ _ _).mp z)) (nm_r (nI_1 _) (ih (d + 1) x24 _ (by omega) hE hO'))
end Q33
