section Q42
theorem lw_152 {p : TP} {k : TK} {r : TR} {l s : TL} {o : TO} {h : TA} {w : TW} {L : Nat} {xs : Nat → Int32} {post : Int32 → Prop} {J47 : TJ} {x2 x4 x6 x8 x10 : Int64} {x12 x13 x14 x15 x18 x23 : Int32} {kc ks st dd c op : Nat}
    {O W : Nat → List N5} {H : Nat → Nat → Bool} {up se pe : Nat → Bool} {S : Nat → List (Int32 × Nat)} {rc : Nat → Nat → Nat} {ac ov : Nat → Nat} {n : Nat} {tp : Nat → Int32} {qu : Nat → Nat}
    (C : LC x2 x4 x6 x8 x12 x13 x14 st (XS p k r l s o h w) O W H up se pe S rc ac ov n tp qu) (hst : 8 * (st + 1) < 2 ^ 30) (hd : dd < 4) (hc : c < 4) (hJ : JOK J47 x15 (st + 1)) (ho : op ≤ 2 ∨ (6 ≤ op ∧ op ≤ 8)) :
    wL_law_152 post L xs J47 x2 x4 x6 x8 x10 x12 x13 x14 x15 0 (nI dd) x18 (nI st) 0 (nI op) (nI c) x23 kc ks p.1 r.1 p.2.1 p.2.2.1 p.2.2.2.1 p.2.2.2.2 k.1 k.2.1 k.2.2.1 k.2.2.2 r.2.1 r.2.2 l.1 l.2.1 l.2.2 s.1 s.2.1 s.2.2 o.1 o.2.1 o.2.2.1 o.2.2.2.1 o.2.2.2.2.1 o.2.2.2.2.2 h w.1 w.2.1 w.2.2.1 w.2.2.2.1 w.2.2.2.2.1 w.2.2.2.2.2.1 w.2.2.2.2.2.2 := by
  obtain ⟨HP, HK, HR, HL, HS, HO, HH, HW⟩ := PIC_c C.1
  have hl := C.2.2.2.1 c (by omega)
  unfold wL_law_152
  refine pq_up HW hc ?_
  by_cases g : (W c).length ≤ 24
  · exact br_t (nI_le (b := 24) g (by omega)) (lw_e0 C hst hd hc (by omega) hJ (fun _ => g) (fun a b => by omega) (fun a => by omega))
  · refine br_f (nI_ge (a := 24) (by omega) (by omega)) (nm_r (nI_1 _) (hJ p k r l s o h w x2 x4 x6 x8 x10 x12 x13 x14 0 (nI dd) ⟨O, W, H, up, se, pe, S, rc, ac, ov, n, tp, qu, LC_st C, dd, 0, hd, rfl, rfl, by omega, fun z => by omega⟩))
theorem lw_179 {p : TP} {k : TK} {r : TR} {l s : TL} {o : TO} {h : TA} {w : TW} {L : Nat} {xs : Nat → Int32} {post : Int32 → Prop} {J47 : TJ} {x2 x4 x6 x8 x10 : Int64} {x12 x13 x14 x15 x18 x23 : Int32} {kc ks st dd c op : Nat}
    {O W : Nat → List N5} {H : Nat → Nat → Bool} {up se pe : Nat → Bool} {S : Nat → List (Int32 × Nat)} {rc : Nat → Nat → Nat} {ac ov : Nat → Nat} {n : Nat} {tp : Nat → Int32} {qu : Nat → Nat}
    (C : LC x2 x4 x6 x8 x12 x13 x14 st (XS p k r l s o h w) O W H up se pe S rc ac ov n tp qu) (hst : 8 * (st + 1) < 2 ^ 30) (hd : dd < 4) (hc : c < 4) (hJ : JOK J47 x15 (st + 1)) (ho : 3 ≤ op ∧ op ≤ 5) :
    ∀ f d (x24 : Int32), d + f = 4 → (x24 = 0 → ∀ d', d' < d → (W (4 + d')).length ≤ 24) → wL_law_179 post L xs J47 x2 x4 x6 x8 x10 x12 x13 x14 x15 0 (nI dd) x18 (nI st) 0 (nI op) (nI c) x23 kc ks p.1 r.1 p.2.1 p.2.2.1 p.2.2.2.1 p.2.2.2.2 k.1 k.2.1 k.2.2.1 k.2.2.2 r.2.1 r.2.2 l.1 l.2.1 l.2.2 s.1 s.2.1 s.2.2 o.1 o.2.1 o.2.2.1 o.2.2.2.1 o.2.2.2.2.1 o.2.2.2.2.2 h w.1 w.2.1 w.2.2.1 w.2.2.2.1 w.2.2.2.2.1 w.2.2.2.2.2.1 w.2.2.2.2.2.2 (f + 1) x24 (nI d) := by
  obtain ⟨HP, HK, HR, HL, HS, HO, HH, HW⟩ := PIC_c C.1
  intro f
  induction f with
  | zero =>
    intro d x24 hf hg
    obtain rfl : d = 4 := by omega
    refine br_t (by decide) (br_c (fun z => lw_e0 C hst hd hc (by omega) hJ (fun a => by omega) (fun _ _ d' hd' => hg z d' hd') (fun a => by omega)) fun _ => nm_r (nI_1 _) (hJ p k r l s o h w x2 x4 x6 x8 x10 x12 x13 x14 0 (nI dd) ⟨O, W, H, up, se, pe, S, rc, ac, ov, n, tp, qu, LC_st C, dd, 0, hd, rfl, rfl, by omega, fun z => by omega⟩))
  | succ f ih =>
    intro d x24 hf hg
    have hd4 : d < 4 := by omega
    have hl := C.2.2.2.1 (4 + d) (by omega)
    refine br_f (nI_ge (b := 4) hd4 (by omega)) (pq_down HW hd4 ?_)
    by_cases g : (W (4 + d)).length ≤ 24
    · refine br_t (nI_le (b := 24) g (by omega)) (nm_r (nI_1 _) (ih (d + 1) x24 (by omega) (fun z d' hd' => ?_)))
      by_cases e : d' = d
      · subst e; exact g
      · exact hg z d' (by omega)
    · exact br_f (nI_ge (a := 24) (by omega) (by omega)) (nm_r (nI_1 _) (ih (d + 1) 1 (by omega) (fun z => absurd z (by decide))))
end Q42
