section Q40
/-- a serial's info is written -/
theorem nfo_set {x2 x4 : Int64} {n v : Nat} (hn : n < 24) (hv : v < 32) :
    (n < 12 → nfo ((x2 &&& (((31 : Int64) <<< ((nI (n % 12 * 5)).toInt64 &&& 63)) ^^^ (-1))) ||| (lN v <<< ((nI (n % 12 * 5)).toInt64 &&& 63))) x4 (n + 1) = v ∧ ∀ s, 1 ≤ s → s ≤ 24 → s ≠ n + 1 → nfo ((x2 &&& (((31 : Int64) <<< ((nI (n % 12 * 5)).toInt64 &&& 63)) ^^^ (-1))) ||| (lN v <<< ((nI (n % 12 * 5)).toInt64 &&& 63))) x4 s = nfo x2 x4 s)
    ∧ (¬ n < 12 → nfo x2 ((x4 &&& (((31 : Int64) <<< ((nI (n % 12 * 5)).toInt64 &&& 63)) ^^^ (-1))) ||| (lN v <<< ((nI (n % 12 * 5)).toInt64 &&& 63))) (n + 1) = v ∧ ∀ s, 1 ≤ s → s ≤ 24 → s ≠ n + 1 → nfo x2 ((x4 &&& (((31 : Int64) <<< ((nI (n % 12 * 5)).toInt64 &&& 63)) ^^^ (-1))) ||| (lN v <<< ((nI (n % 12 * 5)).toInt64 &&& 63))) s = nfo x2 x4 s) := by
  have hf : ∀ a b s, nfo a b s = fld (if s - 1 < 12 then a else b) ((s - 1) % 12 * 5) 5 := fun _ _ _ => rfl
  constructor
  · intro h
    obtain ⟨F1, F2⟩ := fld_set (x := x2) (v := v) (k := n % 12 * 5) (w := 5) (by omega) (by omega) (by omega)
    refine ⟨?_, fun s a b c => ?_⟩
    · rw [hf, if_pos (by omega), show n + 1 - 1 = n by omega]
      exact F1
    · rw [hf, hf]
      by_cases g : s - 1 < 12
      · rw [if_pos g, if_pos g]
        exact F2 _ 5 (by omega) (by omega)
      · rw [if_neg g, if_neg g]
  · intro h
    obtain ⟨F1, F2⟩ := fld_set (x := x4) (v := v) (k := n % 12 * 5) (w := 5) (by omega) (by omega) (by omega)
    refine ⟨?_, fun s a b c => ?_⟩
    · rw [hf, if_neg (by omega), show n + 1 - 1 = n by omega]
      exact F1
    · rw [hf, hf]
      by_cases g : s - 1 < 12
      · rw [if_pos g, if_pos g]
      · rw [if_neg g, if_neg g]
        exact F2 _ 5 (by omega) (by omega)
theorem pb_i : ∀ t, t < 8 → ∀ q, q < 3 → (nI t ||| (nI q <<< ((3 : Int32) &&& 31))).toInt64 = lN (t + 8 * q) := by decide
theorem pb_f : ∀ q, q < 3 → (nI q ||| 0) &&& 3 = nI q ∧ (nI q ||| 4) &&& 3 = nI q := by decide
theorem lw_635 {p : TP} {k : TK} {r : TR} {l s : TL} {o : TO} {h : TA} {w : TW} {L : Nat} {xs : Nat → Int32} {post : Int32 → Prop} {J47 : TJ} {x2 x4 x6 x8 x10 x24 x26 : Int64} {x12 x13 x14 x15 x18 x23 z0 z2 : Int32} {kc ks st dd c t qn : Nat}
    {O W : Nat → List N5} {H : Nat → Nat → Bool} {up se pe : Nat → Bool} {S : Nat → List (Int32 × Nat)} {rc : Nat → Nat → Nat} {ac ov : Nat → Nat} {n : Nat} {tp : Nat → Int32} {qu : Nat → Nat}
    (C : LC x2 x4 x6 x8 x12 x13 x14 st (XS p k r l s o h w) O W H up se pe S rc ac ov n tp qu) (hst : 8 * (st + 1) < 2 ^ 30) (hd : dd < 4) (hc : c < 4) (hE : ELG se pe S x24) (hop : ∀ d, d < 4 → opv x26 d = ov d % 2 ^ 16) (hJ : JOK J47 x15 (st + 1)) (hg : (W c).length ≤ 24) (ht : t < 8) (hqn : qn ≤ 2) (hz : z0 = 0 ∨ z0 = 4) (et : x23 &&& 7 = nI t) :
    wL_law_635 post L xs J47 x2 x4 x6 x8 x10 x12 x13 x14 x15 0 (nI dd) x18 (nI st) 0 x23 x24 x26 (nI qn) z0 (nI qn) z2 (tcv t) (nI c) kc ks p.1 r.1 p.2.1 p.2.2.1 p.2.2.2.1 p.2.2.2.2 k.1 k.2.1 k.2.2.1 k.2.2.2 r.2.1 r.2.2 l.1 l.2.1 l.2.2 s.1 s.2.1 s.2.2 o.1 o.2.1 o.2.2.1 o.2.2.2.1 o.2.2.2.2.1 o.2.2.2.2.2 h w.1 w.2.1 w.2.2.1 w.2.2.2.1 w.2.2.2.2.1 w.2.2.2.2.2.1 w.2.2.2.2.2.2 := by
  obtain ⟨P, I, hn24, hW, hrc, hac, hov, hpm, hqu, htp, hacc⟩ := C
  have hrc' : ∀ d s', rc d s' ≤ 8 * (st + 1) := fun d s' => by have := hrc d s'; omega
  have hac' : ∀ s', ac s' ≤ 8 * (st + 1) := fun s' => by have := hac s'; omega
  have hov' : ∀ d, d < 4 → ov d ≤ 8 * (st + 1) := fun d hd' => by have := hov d hd'; omega
  have hF : (nI qn ||| z0) &&& 3 = nI qn := by
    rcases hz with rfl | rfl
    · exact (pb_f qn (by omega)).1
    · exact (pb_f qn (by omega)).2
  unfold wL_law_635
  rcases ql_pub P I hc (T := tcv t) (Y := z2) hF hqn (by omega) with ⟨R, hR, hX⟩ | ⟨hn, u', O2, W2, P', I', hw1, hw2, hX⟩
  · obtain ⟨p2, k2, r2, l2, s2, o2, h2, w2, eu, HP, HK, HR, HL, HS, HO, HH, HW⟩ := P
    refine hX _ ?_
    rw [eu]
    exact (br_t (Int32.lt_trans hR (by decide)) (lw_call HP HK HR HL HS HO HH HW I hn24 hst hW hrc' hac' hov' hpm hqu htp hE hop (fun d _ => ⟨Nat.le_refl _, by omega⟩) hacc (fun _ => Nat.le_refl _) (fun s' d _ z1 z2 => by omega) hd (Or.inl ⟨rfl, rfl⟩) hJ))
  · obtain ⟨p2, k2, r2, l2, s2, o2, h2, w2, rfl, HP, HK, HR, HL, HS, HO, HH, HW⟩ := P'
    have e1 : nI (n + 1) - 1 = nI n := pk_sub (a := n + 1) (b := 1) (by omega)
    have e2 : nI n - nI n / 12 * 12 = nI (n % 12) := pk_rem (a := n) (d := 12) (by omega) (by omega) (by omega)
    have e3 : nI (n % 12) * 5 = nI (n % 12 * 5) := pk_mul _ 5
    have go : ∀ y2 y4 : Int64, (nfo y2 y4 (n + 1) = t + 8 * qn ∧ ∀ s, 1 ≤ s → s ≤ 24 → s ≠ n + 1 → nfo y2 y4 s = nfo x2 x4 s) → wL_law_728 post L xs J47 y2 y4 x6 x8 x10 x12 x13 x14 x15 0 (nI dd) x18 (nI st) 0 x24 x26 (nI (n + 1)) kc ks p2.1 r2.1 p2.2.1 p2.2.2.1 p2.2.2.2.1 p2.2.2.2.2 k2.1 k2.2.1 k2.2.2.1 k2.2.2.2 r2.2.1 r2.2.2 l2.1 l2.2.1 l2.2.2 s2.1 s2.2.1 s2.2.2 o2.1 o2.2.1 o2.2.2.1 o2.2.2.2.1 o2.2.2.2.2.1 o2.2.2.2.2.2 h2 w2.1 w2.2.1 w2.2.2.1 w2.2.2.2.1 w2.2.2.2.2.1 w2.2.2.2.2.2.1 w2.2.2.2.2.2.2 := by
      intro y2 y4 hy
      unfold wL_law_728
      refine nm_r (e' := x12 ||| ((1 : Int32) <<< (nI n &&& 31))) (by rw [e1]) (lw_call HP HK HR HL HS HO HH HW I' (by omega) hst (fun x hx => ?_) hrc' hac' hov' (fun s' a b => ?_) (fun s' a b => ?_) (fun s' a b => ?_) hE hop (fun d _ => ⟨Nat.le_refl _, by omega⟩) hacc (fun _ => Nat.le_refl _) (fun s' d _ z1 z2 => by omega) hd (Or.inl ⟨rfl, rfl⟩) hJ)
      · by_cases g : x = c
        · subst g; omega
        · rw [hw1 x g]; exact hW x hx
      · rw [bt_s (by omega) (by omega), hpm s' a b]
        by_cases g : s' ≤ n
        · rw [decide_eq_true g, decide_eq_true (show s' ≤ n + 1 by omega), Bool.true_or]
        · rw [decide_eq_false g, Bool.false_or]
          by_cases g2 : s' - 1 = n
          · rw [decide_eq_true g2, decide_eq_true (by omega)]
          · rw [decide_eq_false g2, decide_eq_false (by omega)]
      · by_cases g : s' = n + 1
        · subst g
          rw [fu_s, hy.1]
          omega
        · rw [fu_n g, hy.2 s' a (by omega) g]
          exact hqu s' a (by omega)
      · by_cases g : s' = n + 1
        · subst g
          rw [fu_s, hy.1, show (t + 8 * qn) % 8 = t by omega]
        · rw [fu_n g, hy.2 s' a (by omega) g]
          exact htp s' a (by omega)
    obtain ⟨N1, N2⟩ := nfo_set (x2 := x2) (x4 := x4) (n := n) (v := t + 8 * qn) hn (by omega)
    refine hX _ (br_f (nI_nlt (b := 1) (by omega) (by omega)) (br_f (nI_nlt (a := 24) (by omega) (by omega)) ⟨by decide, nm_r (e' := nI (n % 12 * 5)) (by rw [e1, e2, e3]) (nm_r (e' := lN (t + 8 * qn)) (by rw [et]; exact pb_i t ht qn (by omega)) ?_)⟩))
    by_cases h12 : n < 12
    · exact br_f (nI_nlt (a := 12) (by omega) (by omega)) (nm_e (go _ _ (N1 h12)))
    · exact br_t (nI_lt (a := 12) (by omega) (by omega)) (nm_e (go _ _ (N2 h12)))
end Q40
