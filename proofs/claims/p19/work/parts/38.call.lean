section Q38
theorem and7 (y : Int32) : ∃ m, m < 8 ∧ y &&& 7 = nI m := by
  obtain ⟨n, hn, rfl⟩ := wb_of32 y
  refine ⟨n % 2 ^ 3, Nat.mod_lt _ (by decide), Int32.toBitVec_inj.mp (BitVec.eq_of_toNat_eq ?_)⟩
  show (BitVec.ofNat 32 n &&& BitVec.ofNat 32 7).toNat = (BitVec.ofNat 32 (n % 2 ^ 3)).toNat
  rw [BitVec.toNat_and, BitVec.toNat_ofNat, BitVec.toNat_ofNat, BitVec.toNat_ofNat, Nat.mod_eq_of_lt hn, show 7 % 2 ^ 32 = 2 ^ 3 - 1 from rfl, Nat.and_two_pow_sub_one_eq_mod]
  omega
theorem and3 (y : Int32) : ∃ m, m < 4 ∧ y &&& 3 = nI m := by
  obtain ⟨n, hn, rfl⟩ := wb_of32 y
  refine ⟨n % 2 ^ 2, Nat.mod_lt _ (by decide), Int32.toBitVec_inj.mp (BitVec.eq_of_toNat_eq ?_)⟩
  show (BitVec.ofNat 32 n &&& BitVec.ofNat 32 3).toNat = (BitVec.ofNat 32 (n % 2 ^ 2)).toNat
  rw [BitVec.toNat_and, BitVec.toNat_ofNat, BitVec.toNat_ofNat, BitVec.toNat_ofNat, Nat.mod_eq_of_lt hn, show 3 % 2 ^ 32 = 2 ^ 2 - 1 from rfl, Nat.and_two_pow_sub_one_eq_mod]
  omega
/-- connecting -/
theorem lw_882 {p : TP} {k : TK} {r : TR} {l s : TL} {o : TO} {h : TA} {w : TW} {L : Nat} {xs : Nat → Int32} {post : Int32 → Prop} {J47 : TJ} {x2 x4 x6 x8 x10 x24 x26 : Int64} {x12 x13 x14 x15 x18 z0 : Int32} {kc ks st dd c : Nat}
    {O W : Nat → List N5} {H : Nat → Nat → Bool} {up se pe : Nat → Bool} {S : Nat → List (Int32 × Nat)} {rc : Nat → Nat → Nat} {ac ov : Nat → Nat} {n : Nat} {tp : Nat → Int32} {qu : Nat → Nat}
    (C : LC x2 x4 x6 x8 x12 x13 x14 st (XS p k r l s o h w) O W H up se pe S rc ac ov n tp qu) (hst : 8 * (st + 1) < 2 ^ 30) (hd : dd < 4) (hc : c < 4) (hE : ELG se pe S x24) (hop : ∀ d, d < 4 → opv x26 d = ov d % 2 ^ 16) (hJ : JOK J47 x15 (st + 1)) :
    wL_law_882 post L xs J47 x2 x4 x6 x8 x10 x12 x13 x14 x15 0 (nI dd) x18 (nI st) 0 (nI c) x24 x26 z0 kc ks p.1 r.1 p.2.1 p.2.2.1 p.2.2.2.1 p.2.2.2.2 k.1 k.2.1 k.2.2.1 k.2.2.2 r.2.1 r.2.2 l.1 l.2.1 l.2.2 s.1 s.2.1 s.2.2 o.1 o.2.1 o.2.2.1 o.2.2.2.1 o.2.2.2.2.1 o.2.2.2.2.2 h w.1 w.2.1 w.2.2.1 w.2.2.2.1 w.2.2.2.2.1 w.2.2.2.2.2.1 w.2.2.2.2.2.2 := by
  obtain ⟨P, I, hn24, hW, hrc, hac, hov, hpm, hqu, htp, hacc⟩ := C
  have key : ∀ y6 y8 : Int64, PINV O W H up pe S rc ac n qu (amf y6 y8) (bt x14) → (¬ z0 = 0 → ∀ s', amf y6 y8 c s' = false) → ∃ (p2 : TP) (k2 : TK) (r2 : TR) (l2 s2 : TL) (o2 : TO) (h2 : TA) (w2 : TW) (R : Int32), (∃ fu951, wL_law_951 post L xs J47 x2 x4 y6 y8 x10 x12 x13 x14 x15 0 (nI dd) x18 (nI st) 0 x24 x26 kc ks p2.1 r2.1 p2.2.1 p2.2.2.1 p2.2.2.2.1 p2.2.2.2.2 k2.1 k2.2.1 k2.2.2.1 k2.2.2.2 r2.2.1 r2.2.2 l2.1 l2.2.1 l2.2.2 s2.1 s2.2.1 s2.2.2 o2.1 o2.2.1 o2.2.2.1 o2.2.2.2.1 o2.2.2.2.2.1 o2.2.2.2.2.2 h2 w2.1 w2.2.1 w2.2.2.1 w2.2.2.2.1 w2.2.2.2.2.1 w2.2.2.2.2.2.1 w2.2.2.2.2.2.2 fu951 0 0) ∧ ∀ post : Int32 → St1 → Prop, post R (XS p2 k2 r2 l2 s2 o2 h2 w2) → wpX_connect post (XS p k r l s o h w) (nI c) z0 := by
    intro y6 y8 I1 hz
    obtain ⟨u', O2, W2, H2, up2, se2, pe2, S2, R, P', I', M, hX⟩ := ql_conn P I1 hc z0 hz
    obtain ⟨p2, k2, r2, l2, s2, o2, h2, w2, rfl, HP, HK, HR, HL, HS, HO, HH, HW⟩ := P'
    refine ⟨p2, k2, r2, l2, s2, o2, h2, w2, R, lw_call HP HK HR HL HS HO HH HW I' hn24 hst (fun x hx => ?_) (fun d s' => ?_) (fun s' => ?_) (fun d hd' => ?_) hpm hqu htp hE hop (fun d _ => ⟨Nat.le_refl _, by omega⟩) hacc (fun _ => Nat.le_refl _) (fun s' d _ z1 z2 => by omega) hd (Or.inl ⟨rfl, rfl⟩) hJ, hX⟩
    · have := hW x hx
      rcases M x with z | z <;> omega
    · have := hrc d s'
      omega
    · have := hac s'
      omega
    · have := hov d hd'
      omega
  unfold wL_law_882
  by_cases hz : z0 = 0
  · obtain ⟨p2, k2, r2, l2, s2, o2, h2, w2, R, h1, hX⟩ := key x6 x8 I (fun z => absurd hz z)
    exact hX _ (br_t hz h1)
  · by_cases hc2 : c < 2
    · have e : (24 : Int32) * nI c = nI (24 * c) := pk_mul 24 _
      have A : ∀ d' s', d' < 4 → amf (x6 &&& (((16777215 : Int64) <<< ((nI (24 * c)).toInt64 &&& 63)) ^^^ (-1))) x8 d' s' = (amf x6 x8 d' s' && !(decide (d' = c))) := amf_clr hc (fun i hi => by rw [lb_c24 (by omega) (by omega), decide_eq_true hc2, Bool.true_and]) (fun i hi => by rw [decide_eq_false (show ¬ 2 ≤ c by omega), Bool.false_and, Bool.false_and, Bool.not_false, Bool.and_true])
      obtain ⟨p2, k2, r2, l2, s2, o2, h2, w2, R, h1, hX⟩ := key (x6 &&& (((16777215 : Int64) <<< ((nI (24 * c)).toInt64 &&& 63)) ^^^ (-1))) x8 (PINV_am I (fun d s' hd' z => by rw [A d s' hd', Bool.and_eq_true] at z; exact z.1) (fun _ _ z => z)) (fun _ s' => by rw [A c s' hc, decide_eq_true rfl, Bool.not_true, Bool.and_false])
      refine hX _ (br_f hz (br_f (nI_ge (b := 2) hc2 (by omega)) (nm_r (e' := x6 &&& (((16777215 : Int64) <<< ((nI (24 * c)).toInt64 &&& 63)) ^^^ (-1))) (by rw [e]) h1)))
    · have e : (24 : Int32) * (nI c - 2) = nI (24 * (c - 2)) := by
        rw [show nI c - 2 = nI (c - 2) from pk_sub (b := 2) (by omega)]
        exact pk_mul 24 _
      have A : ∀ d' s', d' < 4 → amf x6 (x8 &&& (((16777215 : Int64) <<< ((nI (24 * (c - 2))).toInt64 &&& 63)) ^^^ (-1))) d' s' = (amf x6 x8 d' s' && !(decide (d' = c))) := amf_clr hc (fun i hi => by rw [decide_eq_false hc2, Bool.false_and, Bool.false_and, Bool.not_false, Bool.and_true]) (fun i hi => by rw [lb_c24 (by omega) (by omega), decide_eq_true (show 2 ≤ c by omega), Bool.true_and])
      obtain ⟨p2, k2, r2, l2, s2, o2, h2, w2, R, h1, hX⟩ := key x6 (x8 &&& (((16777215 : Int64) <<< ((nI (24 * (c - 2))).toInt64 &&& 63)) ^^^ (-1))) (PINV_am I (fun d s' hd' z => by rw [A d s' hd', Bool.and_eq_true] at z; exact z.1) (fun _ _ z => z)) (fun _ s' => by rw [A c s' hc, decide_eq_true rfl, Bool.not_true, Bool.and_false])
      refine hX _ (br_f hz (br_t (nI_le (a := 2) (by omega) (by omega)) (nm_r (e' := x8 &&& (((16777215 : Int64) <<< ((nI (24 * (c - 2))).toInt64 &&& 63)) ^^^ (-1))) (by rw [e]) h1)))
end Q38
