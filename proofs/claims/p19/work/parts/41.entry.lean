section Q41
theorem PIC_c {p : TP} {k : TK} {r : TR} {l s : TL} {o : TO} {h : TA} {w : TW} {O W : Nat → List N5} {H : Nat → Nat → Bool} {up se pe : Nat → Bool} {S : Nat → List (Int32 × Nat)} {rc : Nat → Nat → Nat} {ac ov : Nat → Nat} {n : Nat} {tp : Nat → Int32} {qu : Nat → Nat} (P : PIC (XS p k r l s o h w) O W H up se pe S rc ac ov n tp qu) : pc_P p n tp qu ∧ pc_K k rc ac ov ∧ pc_R r ∧ pc_L l up se pe ∧ pc_S s S ∧ pc_O o O ∧ pc_H h H ∧ pc_W w W := by
  obtain ⟨p2, k2, r2, l2, s2, o2, h2, w2, e, H1⟩ := P
  obtain ⟨_, _, _, _, _⟩ := p
  obtain ⟨_, _, _, _⟩ := k
  obtain ⟨_, _, _⟩ := r
  obtain ⟨_, _, _⟩ := l
  obtain ⟨_, _, _⟩ := s
  obtain ⟨_, _, _, _, _, _⟩ := o
  obtain ⟨_, _, _, _, _, _, _⟩ := w
  obtain ⟨_, _, _, _, _⟩ := p2
  obtain ⟨_, _, _, _⟩ := k2
  obtain ⟨_, _, _⟩ := r2
  obtain ⟨_, _, _⟩ := l2
  obtain ⟨_, _, _⟩ := s2
  obtain ⟨_, _, _, _, _, _⟩ := o2
  obtain ⟨_, _, _, _, _, _, _⟩ := w2
  simp only [XS, Prod.mk.injEq] at e
  obtain ⟨rfl, rfl, rfl, rfl, rfl, rfl, rfl, rfl, rfl, rfl, rfl, rfl, rfl, rfl, rfl, rfl, rfl, rfl, rfl, rfl, rfl, rfl, rfl, rfl, rfl, rfl, rfl, rfl, rfl, rfl, rfl, rfl⟩ := e
  exact H1
theorem ELG_0 {se pe : Nat → Bool} {S : Nat → List (Int32 × Nat)} : ELG se pe S 0 := by
  intro d t _ _ h
  have : elg 0 d t = 0 := by
    unfold elg
    rw [show (0 : Int64).toBitVec.toNat = 0 from rfl, Nat.zero_div]
  omega
theorem opv_0 (d : Nat) : opv 0 d = 0 := by
  unfold opv
  rw [show (0 : Int64).toBitVec.toNat = 0 from rfl, Nat.zero_div]
/-- nothing is done in this turn -/
theorem LC_st {x2 x4 x6 x8 : Int64} {x12 x13 x14 : Int32} {st : Nat} {u : St1} {O W : Nat → List N5} {H : Nat → Nat → Bool} {up se pe : Nat → Bool} {S : Nat → List (Int32 × Nat)} {rc : Nat → Nat → Nat} {ac ov : Nat → Nat} {n : Nat} {tp : Nat → Int32} {qu : Nat → Nat} (C : LC x2 x4 x6 x8 x12 x13 x14 st u O W H up se pe S rc ac ov n tp qu) : LC x2 x4 x6 x8 x12 x13 x14 (st + 1) u O W H up se pe S rc ac ov n tp qu := by
  obtain ⟨P, I, hn24, hW, hrc, hac, hov, hpm, hqu, htp, hacc⟩ := C
  exact ⟨P, I, hn24, hW, fun d s => by have := hrc d s; omega, fun s => by have := hac s; omega, fun d hd => by have := hov d hd; omega, hpm, hqu, htp, hacc⟩
/-- a turn outside a drain, from its eligibility on -/
theorem lw_e0 {p : TP} {k : TK} {r : TR} {l s : TL} {o : TO} {h : TA} {w : TW} {L : Nat} {xs : Nat → Int32} {post : Int32 → Prop} {J47 : TJ} {x2 x4 x6 x8 x10 : Int64} {x12 x13 x14 x15 x18 x23 : Int32} {kc ks st dd c op : Nat}
    {O W : Nat → List N5} {H : Nat → Nat → Bool} {up se pe : Nat → Bool} {S : Nat → List (Int32 × Nat)} {rc : Nat → Nat → Nat} {ac ov : Nat → Nat} {n : Nat} {tp : Nat → Int32} {qu : Nat → Nat}
    (C : LC x2 x4 x6 x8 x12 x13 x14 st (XS p k r l s o h w) O W H up se pe S rc ac ov n tp qu) (hst : 8 * (st + 1) < 2 ^ 30) (hd : dd < 4) (hc : c < 4) (hop16 : op < 16) (hJ : JOK J47 x15 (st + 1))
    (g1 : op ≤ 2 ∨ (6 ≤ op ∧ op ≤ 8) → (W c).length ≤ 24) (g2 : 3 ≤ op → op ≤ 5 → ∀ d, d < 4 → (W (4 + d)).length ≤ 24) (g3 : op = 9 → (W (4 + c)).length ≤ 20) :
    ∃ fu366, wL_law_366 post L xs J47 x2 x4 x6 x8 x10 x12 x13 x14 x15 0 (nI dd) x18 (nI st) 0 (nI op) (nI c) x23 kc ks p.1 r.1 p.2.1 p.2.2.1 p.2.2.2.1 p.2.2.2.2 k.1 k.2.1 k.2.2.1 k.2.2.2 r.2.1 r.2.2 l.1 l.2.1 l.2.2 s.1 s.2.1 s.2.2 o.1 o.2.1 o.2.2.1 o.2.2.2.1 o.2.2.2.2.1 o.2.2.2.2.2 h w.1 w.2.1 w.2.2.1 w.2.2.2.1 w.2.2.2.2.1 w.2.2.2.2.2.1 w.2.2.2.2.2.2 fu366 0 0 0 := by
  obtain ⟨HP, HK, HR, HL, HS, HO, HH, HW⟩ := PIC_c C.1
  have hov : ∀ d, d < 4 → ov d < 2 ^ 30 := fun d hd' => by have := C.2.2.2.2.2.2.1 d hd'; omega
  exact ⟨5, lw_366 HK HL HS hov (fun x24 x26 hE hop => lw_t0 C hst hd hc hop16 hE hop hJ (fun a b => g1 (Or.inr ⟨a, b⟩)) g2 g3 (fun h2 t qn z0 z2 ht hqn hz et => lw_635 C hst hd hc hE hop hJ (g1 (Or.inl h2)) ht hqn hz et)) 4 0 0 0 (by omega) ELG_0 (fun d' _ => by rw [opv_0, if_neg (by omega)])⟩
/-- a turn of a drain, from its eligibility on -/
theorem lw_e1 {p : TP} {k : TK} {r : TR} {l s : TL} {o : TO} {h : TA} {w : TW} {L : Nat} {xs : Nat → Int32} {post : Int32 → Prop} {J47 : TJ} {x2 x4 x6 x8 x10 : Int64} {x12 x13 x14 x15 x18 x21 x22 x23 : Int32} {kc ks st dd dl : Nat}
    {O W : Nat → List N5} {H : Nat → Nat → Bool} {up se pe : Nat → Bool} {S : Nat → List (Int32 × Nat)} {rc : Nat → Nat → Nat} {ac ov : Nat → Nat} {n : Nat} {tp : Nat → Int32} {qu : Nat → Nat}
    (C : LC x2 x4 x6 x8 x12 x13 x14 st (XS p k r l s o h w) O W H up se pe S rc ac ov n tp qu) (hst : 8 * (st + 1) < 2 ^ 30) (hd : dd < 4) (hdl : dl + 1 ≤ 200) (hD : DR W up dd (dl + 1)) (hm : ∀ s, 1 ≤ s → s ≤ 24 → lb x10 (s - 1) = true → amf x6 x8 dd s = true) (hJ : JOK J47 x15 (st + 1)) :
    ∃ fu366, wL_law_366 post L xs J47 x2 x4 x6 x8 x10 x12 x13 x14 x15 (nI (dl + 1)) (nI dd) x18 (nI st) 1 x21 x22 x23 kc ks p.1 r.1 p.2.1 p.2.2.1 p.2.2.2.1 p.2.2.2.2 k.1 k.2.1 k.2.2.1 k.2.2.2 r.2.1 r.2.2 l.1 l.2.1 l.2.2 s.1 s.2.1 s.2.2 o.1 o.2.1 o.2.2.1 o.2.2.2.1 o.2.2.2.2.1 o.2.2.2.2.2 h w.1 w.2.1 w.2.2.1 w.2.2.2.1 w.2.2.2.2.1 w.2.2.2.2.2.1 w.2.2.2.2.2.2 fu366 0 0 0 := by
  obtain ⟨HP, HK, HR, HL, HS, HO, HH, HW⟩ := PIC_c C.1
  have hov : ∀ d, d < 4 → ov d < 2 ^ 30 := fun d hd' => by have := C.2.2.2.2.2.2.1 d hd'; omega
  exact ⟨5, lw_366 HK HL HS hov (fun x24 x26 hE hop => lw_t1 C hst hd hdl hD hm hE hop hJ) 4 0 0 0 (by omega) ELG_0 (fun d' _ => by rw [opv_0, if_neg (by omega)])⟩
end Q41
