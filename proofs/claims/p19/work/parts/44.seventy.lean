section Q44
theorem and15 (y : Int32) : ∃ m, m < 16 ∧ y &&& 15 = nI m := by
  obtain ⟨n, hn, rfl⟩ := wb_of32 y
  refine ⟨n % 2 ^ 4, Nat.mod_lt _ (by decide), Int32.toBitVec_inj.mp (BitVec.eq_of_toNat_eq ?_)⟩
  show (BitVec.ofNat 32 n &&& BitVec.ofNat 32 15).toNat = (BitVec.ofNat 32 (n % 2 ^ 4)).toNat
  rw [BitVec.toNat_and, BitVec.toNat_ofNat, BitVec.toNat_ofNat, BitVec.toNat_ofNat, Nat.mod_eq_of_lt hn, show 15 % 2 ^ 32 = 2 ^ 4 - 1 from rfl, Nat.and_two_pow_sub_one_eq_mod]
  omega
theorem pl_cell {L : Nat} {xs : Nat → Int32} {u : St2} {q : Nat} (hq : q < 2 ^ 30) (hL : L < 2 ^ 30) : ∃ v : Int32, ∀ post : Int32 → Prop, post v → wpL_cell post L xs u (nI q) := by
  by_cases h : L ≤ q
  · exact ⟨0, fun post hp => br_t (nI_le (a := L) h (by omega)) hp⟩
  · exact ⟨xs (nI q).toNatClampNeg, fun post hp => br_f (nI_ge (b := L) (by omega) (by omega)) ⟨vp_in_nI (by omega) (by omega), hp⟩⟩
theorem lw_167 {p : TP} {k : TK} {r : TR} {l s : TL} {o : TO} {h : TA} {w : TW} {L : Nat} {xs : Nat → Int32} {post : Int32 → Prop} {J47 : TJ} {x2 x4 x6 x8 x10 : Int64} {x12 x13 x14 x15 x18 x23 : Int32} {kc ks st dd c op : Nat}
    {O W : Nat → List N5} {H : Nat → Nat → Bool} {up se pe : Nat → Bool} {S : Nat → List (Int32 × Nat)} {rc : Nat → Nat → Nat} {ac ov : Nat → Nat} {n : Nat} {tp : Nat → Int32} {qu : Nat → Nat}
    (C : LC x2 x4 x6 x8 x12 x13 x14 st (XS p k r l s o h w) O W H up se pe S rc ac ov n tp qu) (hst : 8 * (st + 1) < 2 ^ 30) (hd : dd < 4) (hc : c < 4) (hJ : JOK J47 x15 (st + 1)) (ho : (3 ≤ op ∧ op ≤ 5) ∨ (9 ≤ op ∧ op < 16)) :
    wL_law_167 post L xs J47 x2 x4 x6 x8 x10 x12 x13 x14 x15 0 (nI dd) x18 (nI st) 0 (nI op) (nI c) x23 kc ks p.1 r.1 p.2.1 p.2.2.1 p.2.2.2.1 p.2.2.2.2 k.1 k.2.1 k.2.2.1 k.2.2.2 r.2.1 r.2.2 l.1 l.2.1 l.2.2 s.1 s.2.1 s.2.2 o.1 o.2.1 o.2.2.1 o.2.2.2.1 o.2.2.2.2.1 o.2.2.2.2.2 h w.1 w.2.1 w.2.2.1 w.2.2.2.1 w.2.2.2.2.1 w.2.2.2.2.2.1 w.2.2.2.2.2.2 := by
  obtain ⟨HP, HK, HR, HL, HS, HO, HH, HW⟩ := PIC_c C.1
  unfold wL_law_167
  by_cases h5 : op ≤ 5
  · exact br_f (nI_nlt (a := 5) (by omega) (by omega)) ⟨5, lw_179 C hst hd hc hJ (by omega) 4 0 0 (by omega) (fun _ d' z => by omega)⟩
  · refine br_t (nI_lt (a := 5) (by omega) (by omega)) ?_
    by_cases h9 : op = 9
    · subst h9
      have hl := C.2.2.2.1 (4 + c) (by omega)
      refine br_t rfl (pq_down HW hc ?_)
      by_cases g : (W (4 + c)).length ≤ 20
      · exact br_t (nI_le (b := 20) g (by omega)) (lw_e0 C hst hd hc (by omega) hJ (fun a => by omega) (fun a b => by omega) (fun _ => g))
      · exact br_f (nI_ge (a := 20) (by omega) (by omega)) (nm_r (nI_1 _) (hJ p k r l s o h w x2 x4 x6 x8 x10 x12 x13 x14 0 (nI dd) ⟨O, W, H, up, se, pe, S, rc, ac, ov, n, tp, qu, LC_st C, dd, 0, hd, rfl, rfl, by omega, fun z => by omega⟩))
    · exact br_f (fun z => h9 ((nI_eq (b := 9) (by omega) (by omega)).mp z)) (br_c (fun _ => lw_253 C hd hc hJ) fun _ => br_c (fun _ => lw_253 C hd hc hJ) fun _ => lw_e0 C hst hd hc (by omega) hJ (fun a => by omega) (fun a b => by omega) (fun a => by omega))
theorem lw_70 {p : TP} {k : TK} {r : TR} {l s : TL} {o : TO} {h : TA} {w : TW} {L : Nat} {xs : Nat → Int32} {post : Int32 → Prop} {J47 : TJ} {x2 x4 x6 x8 x10 : Int64} {x12 x13 x14 : Int32} {kc ks st dd pos : Nat}
    {O W : Nat → List N5} {H : Nat → Nat → Bool} {up se pe : Nat → Bool} {S : Nat → List (Int32 × Nat)} {rc : Nat → Nat → Nat} {ac ov : Nat → Nat} {n : Nat} {tp : Nat → Int32} {qu : Nat → Nat}
    (C : LC x2 x4 x6 x8 x12 x13 x14 st (XS p k r l s o h w) O W H up se pe S rc ac ov n tp qu) (hst : 8 * (st + 1) < 2 ^ 30) (hd : dd < 4) (hL : L < 2 ^ 20) (hp1 : post 1) (hJ : pos < L → JOK J47 (nI (pos + 3)) (st + 1)) (hps : pos < L + 3) :
    wL_law_70 post L xs J47 x2 x4 x6 x8 x10 x12 x13 x14 (nI pos) 0 (nI dd) (nI L) (nI st) 0 kc ks p.1 r.1 p.2.1 p.2.2.1 p.2.2.2.1 p.2.2.2.2 k.1 k.2.1 k.2.2.1 k.2.2.2 r.2.1 r.2.2 l.1 l.2.1 l.2.2 s.1 s.2.1 s.2.2 o.1 o.2.1 o.2.2.1 o.2.2.2.1 o.2.2.2.2.1 o.2.2.2.2.2 h w.1 w.2.1 w.2.2.1 w.2.2.2.1 w.2.2.2.2.1 w.2.2.2.2.2.1 w.2.2.2.2.2.2 := by
  unfold wL_law_70
  refine br_t rfl ?_
  by_cases hp : pos < L
  · have J := hJ hp
    obtain ⟨v1, c1⟩ := pl_cell (L := L) (xs := xs) (u := ()) (q := pos) (by omega) (by omega)
    obtain ⟨v2, c2⟩ := pl_cell (L := L) (xs := xs) (u := ()) (q := pos + 1) (by omega) (by omega)
    obtain ⟨v3, c3⟩ := pl_cell (L := L) (xs := xs) (u := ()) (q := pos + 2) (by omega) (by omega)
    obtain ⟨op, ho, eo⟩ := and15 v1
    obtain ⟨c, hc, ec⟩ := and3 v2
    have e1 : nI pos + 1 = nI (pos + 1) := nI_1 _
    have e2 : nI pos + 2 = nI (pos + 2) := nI_add pos 2
    have e3 : nI pos + 3 = nI (pos + 3) := nI_add pos 3
    refine br_t (nI_lt hp (by omega)) (c1 _ (nm_r eo ?_))
    rw [e1]
    refine c2 _ (nm_r ec ?_)
    rw [e2]
    refine c3 _ (nm_r e3 ?_)
    by_cases a : op ≤ 2
    · exact br_t (nI_le (b := 2) a (by omega)) (lw_152 C hst hd hc J (Or.inl a))
    · refine br_f (nI_ge (a := 2) (by omega) (by omega)) ?_
      by_cases b : op < 6
      · exact br_t (nI_lt (b := 6) b (by omega)) (lw_167 C hst hd hc J (Or.inl (by omega)))
      · refine br_f (nI_nlt (b := 6) (by omega) (by omega)) ?_
        by_cases d : 8 < op
        · exact br_t (nI_lt (a := 8) d (by omega)) (lw_167 C hst hd hc J (Or.inr (by omega)))
        · exact br_f (nI_nlt (a := 8) (by omega) (by omega)) (lw_152 C hst hd hc J (Or.inr (by omega)))
  · exact br_f (nI_nlt (by omega) (by omega)) hp1
end Q44
