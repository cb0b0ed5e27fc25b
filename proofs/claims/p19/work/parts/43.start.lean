section Q43
theorem lw_340 {p : TP} {k : TK} {r : TR} {l s : TL} {o : TO} {h : TA} {w : TW} {L : Nat} {xs : Nat → Int32} {post : Int32 → Prop} {J47 : TJ} {x2 x4 x6 x8 z0 : Int64} {x12 x13 x14 x15 x18 : Int32} {kc ks st c : Nat}
    {O W : Nat → List N5} {H : Nat → Nat → Bool} {up se pe : Nat → Bool} {S : Nat → List (Int32 × Nat)} {rc : Nat → Nat → Nat} {ac ov : Nat → Nat} {n : Nat} {tp : Nat → Int32} {qu : Nat → Nat}
    (C : LC x2 x4 x6 x8 x12 x13 x14 st (XS p k r l s o h w) O W H up se pe S rc ac ov n tp qu) (hc : c < 4) (hJ : JOK J47 x15 (st + 1)) (hu : up c = true) (hw : ∀ x, x < 8 → (W x).length ≤ 4) (hz : z0 = if c < 2 then x6 else x8) :
    wL_law_340 post L xs J47 x2 x4 x6 x8 x12 x13 x14 x15 200 (nI c) x18 (nI st) (nI c) z0 kc ks p.1 r.1 p.2.1 p.2.2.1 p.2.2.2.1 p.2.2.2.2 k.1 k.2.1 k.2.2.1 k.2.2.2 r.2.1 r.2.2 l.1 l.2.1 l.2.2 s.1 s.2.1 s.2.2 o.1 o.2.1 o.2.2.1 o.2.2.2.1 o.2.2.2.2.1 o.2.2.2.2.2 h w.1 w.2.1 w.2.2.1 w.2.2.2.1 w.2.2.2.2.1 w.2.2.2.2.2.1 w.2.2.2.2.2.2 := by
  have e1 : nI c &&& 1 = nI (c % 2) := pk_andN (n := c) (by omega) 1 (by decide)
  have e2 : (24 : Int32) * nI (c % 2) = nI (24 * (c % 2)) := pk_mul 24 _
  obtain ⟨r0, hr, er, hb⟩ := fd_r (x := z0) (w := 24) (k := 24 * (c % 2)) (by omega) (by omega) (by omega)
  unfold wL_law_340
  refine nm_r (e' := lN r0) (by rw [e1, e2]; exact er) (nm_r (nI_1 _) (hJ p k r l s o h w x2 x4 x6 x8 (lN r0) x12 x13 x14 200 (nI c) ⟨O, W, H, up, se, pe, S, rc, ac, ov, n, tp, qu, LC_st C, c, 200, hc, rfl, rfl, by omega, fun _ => ⟨DR_start hc hu hw, fun s' a b hs => ?_⟩⟩))
  rw [lb_lN (by omega), hb (s' - 1) (by omega), hz] at hs
  unfold amf
  rw [if_pos ⟨a, b⟩]
  by_cases h2 : c < 2
  · rw [if_pos h2] at hs ⊢
    rw [show 24 * c + s' - 1 = 24 * (c % 2) + (s' - 1) by omega]
    exact hs
  · rw [if_neg h2] at hs ⊢
    rw [show 24 * (c - 2) + s' - 1 = 24 * (c % 2) + (s' - 1) by omega]
    exact hs
theorem lw_273 {p : TP} {k : TK} {r : TR} {l s : TL} {o : TO} {h : TA} {w : TW} {L : Nat} {xs : Nat → Int32} {post : Int32 → Prop} {J47 : TJ} {x2 x4 x6 x8 x10 : Int64} {x12 x13 x14 x15 x18 : Int32} {kc ks st dd c : Nat}
    {O W : Nat → List N5} {H : Nat → Nat → Bool} {up se pe : Nat → Bool} {S : Nat → List (Int32 × Nat)} {rc : Nat → Nat → Nat} {ac ov : Nat → Nat} {n : Nat} {tp : Nat → Int32} {qu : Nat → Nat}
    (C : LC x2 x4 x6 x8 x12 x13 x14 st (XS p k r l s o h w) O W H up se pe S rc ac ov n tp qu) (hd : dd < 4) (hc : c < 4) (hJ : JOK J47 x15 (st + 1)) (hu : up c = true) :
    ∀ f d (x24 : Int32), d + f = 4 → (x24 = 0 → ∀ d', d' < d → (W d').length ≤ 4 ∧ (W (4 + d')).length ≤ 4) → wL_law_273 post L xs J47 x2 x4 x6 x8 x10 x12 x13 x14 x15 0 (nI dd) x18 (nI st) (nI c) kc ks p.1 r.1 p.2.1 p.2.2.1 p.2.2.2.1 p.2.2.2.2 k.1 k.2.1 k.2.2.1 k.2.2.2 r.2.1 r.2.2 l.1 l.2.1 l.2.2 s.1 s.2.1 s.2.2 o.1 o.2.1 o.2.2.1 o.2.2.2.1 o.2.2.2.2.1 o.2.2.2.2.2 h w.1 w.2.1 w.2.2.1 w.2.2.2.1 w.2.2.2.2.1 w.2.2.2.2.2.1 w.2.2.2.2.2.2 (f + 1) x24 (nI d) := by
  obtain ⟨HP, HK, HR, HL, HS, HO, HH, HW⟩ := PIC_c C.1
  intro f
  induction f with
  | zero =>
    intro d x24 hf hg
    obtain rfl : d = 4 := by omega
    refine br_t (by decide) (br_c (fun z => ?_) fun _ => nm_r (nI_1 _) (hJ p k r l s o h w x2 x4 x6 x8 x10 x12 x13 x14 0 (nI dd) ⟨O, W, H, up, se, pe, S, rc, ac, ov, n, tp, qu, LC_st C, dd, 0, hd, rfl, rfl, by omega, fun z => by omega⟩))
    have hw : ∀ x, x < 8 → (W x).length ≤ 4 := by
      intro x hx
      by_cases a : x < 4
      · exact (hg z x a).1
      · have := (hg z (x - 4) (by omega)).2
        rw [show 4 + (x - 4) = x by omega] at this
        exact this
    by_cases h2 : c < 2
    · exact br_f (nI_ge (b := 2) h2 (by omega)) (lw_340 C hc hJ hu hw (if_pos h2).symm)
    · exact br_t (nI_le (a := 2) (by omega) (by omega)) (lw_340 C hc hJ hu hw (if_neg h2).symm)
  | succ f ih =>
    intro d x24 hf hg
    have hd4 : d < 4 := by omega
    have hl := C.2.2.2.1 (4 + d) (by omega)
    have hl2 := C.2.2.2.1 d (by omega)
    have no := ih (d + 1) 1 (by omega) (fun z => absurd z (by decide))
    refine br_f (nI_ge (b := 4) hd4 (by omega)) (pq_up HW hd4 ?_)
    by_cases g : (W d).length ≤ 4
    · refine br_f (nI_nlt (a := 4) (by omega) (by omega)) (pq_down HW hd4 ?_)
      by_cases g2 : (W (4 + d)).length ≤ 4
      · refine br_t (nI_le (b := 4) g2 (by omega)) (nm_r (nI_1 _) (ih (d + 1) x24 (by omega) (fun z d' hd' => ?_)))
        by_cases e : d' = d
        · subst e; exact ⟨g, g2⟩
        · exact hg z d' (by omega)
      · exact br_f (nI_ge (a := 4) (by omega) (by omega)) (nm_r (nI_1 _) no)
    · exact br_t (nI_lt (a := 4) (by omega) (by omega)) (nm_r (nI_1 _) no)
theorem lw_253 {p : TP} {k : TK} {r : TR} {l s : TL} {o : TO} {h : TA} {w : TW} {L : Nat} {xs : Nat → Int32} {post : Int32 → Prop} {J47 : TJ} {x2 x4 x6 x8 x10 : Int64} {x12 x13 x14 x15 x18 : Int32} {kc ks st dd c : Nat}
    {O W : Nat → List N5} {H : Nat → Nat → Bool} {up se pe : Nat → Bool} {S : Nat → List (Int32 × Nat)} {rc : Nat → Nat → Nat} {ac ov : Nat → Nat} {n : Nat} {tp : Nat → Int32} {qu : Nat → Nat}
    (C : LC x2 x4 x6 x8 x12 x13 x14 st (XS p k r l s o h w) O W H up se pe S rc ac ov n tp qu) (hd : dd < 4) (hc : c < 4) (hJ : JOK J47 x15 (st + 1)) :
    wL_law_253 post L xs J47 x2 x4 x6 x8 x10 x12 x13 x14 x15 0 (nI dd) x18 (nI st) (nI c) kc ks p.1 r.1 p.2.1 p.2.2.1 p.2.2.2.1 p.2.2.2.2 k.1 k.2.1 k.2.2.1 k.2.2.2 r.2.1 r.2.2 l.1 l.2.1 l.2.2 s.1 s.2.1 s.2.2 o.1 o.2.1 o.2.2.1 o.2.2.2.1 o.2.2.2.2.1 o.2.2.2.2.2 h w.1 w.2.1 w.2.2.1 w.2.2.2.1 w.2.2.2.2.1 w.2.2.2.2.2.1 w.2.2.2.2.2.2 := by
  obtain ⟨HP, HK, HR, HL, HS, HO, HH, HW⟩ := PIC_c C.1
  have h1 : ∀ a b c : Bool, (nI (stv a b c) &&& 1) = 0 ↔ a = false := by decide
  unfold wL_law_253
  refine pq_status HL hc ?_
  cases hu : up c with
  | false => exact br_t ((h1 _ _ _).mpr rfl) (nm_r (nI_1 _) (hJ p k r l s o h w x2 x4 x6 x8 x10 x12 x13 x14 0 (nI dd) ⟨O, W, H, up, se, pe, S, rc, ac, ov, n, tp, qu, LC_st C, dd, 0, hd, rfl, rfl, by omega, fun z => by omega⟩))
  | true => exact br_f (fun z => by have := (h1 _ _ _).mp z; exact absurd this (by decide)) ⟨5, lw_273 C hd hc hJ hu 4 0 0 (by omega) (fun _ d' z => by omega)⟩
end Q43
