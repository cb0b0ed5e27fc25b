section Q36
/-! what holds before every turn of the law -/
def LC (x2 x4 x6 x8 : Int64) (x12 x13 x14 : Int32) (st : Nat) (u : St1) (O W : Nat → List N5) (H : Nat → Nat → Bool) (up se pe : Nat → Bool) (S : Nat → List (Int32 × Nat)) (rc : Nat → Nat → Nat) (ac ov : Nat → Nat) (n : Nat) (tp : Nat → Int32) (qu : Nat → Nat) : Prop :=
  PIC u O W H up se pe S rc ac ov n tp qu ∧ PINV O W H up pe S rc ac n qu (amf x6 x8) (bt x14) ∧ n ≤ 24 ∧ (∀ x, x < 8 → (W x).length ≤ 28) ∧ (∀ d s, rc d s ≤ 8 * st) ∧ (∀ s, ac s ≤ 8 * st) ∧ (∀ d, d < 4 → ov d ≤ 8 * st) ∧ (∀ s, 1 ≤ s → s ≤ 24 → bt x12 (s - 1) = decide (s ≤ n)) ∧ (∀ s, 1 ≤ s → s ≤ n → qu s = nfo x2 x4 s / 8 ∧ qu s ≤ 2) ∧ (∀ s, 1 ≤ s → s ≤ n → tp s = tcv (nfo x2 x4 s % 8)) ∧ (∀ s, 1 ≤ s → s ≤ 24 → (bt x13 (s - 1) = true ↔ 1 ≤ ac s))
def LD (x6 x8 x10 : Int64) (x16 x17 : Int32) (W : Nat → List N5) (up : Nat → Bool) : Prop := ∃ dd dl, dd < 4 ∧ x17 = nI dd ∧ x16 = nI dl ∧ dl ≤ 200 ∧ (1 ≤ dl → DR W up dd dl ∧ ∀ s, 1 ≤ s → s ≤ 24 → lb x10 (s - 1) = true → amf x6 x8 dd s = true)
def LI (x2 x4 x6 x8 x10 : Int64) (x12 x13 x14 x16 x17 : Int32) (st : Nat) (u : St1) : Prop := ∃ (O W : Nat → List N5) (H : Nat → Nat → Bool) (up se pe : Nat → Bool) (S : Nat → List (Int32 × Nat)) (rc : Nat → Nat → Nat) (ac ov : Nat → Nat) (n : Nat) (tp : Nat → Int32) (qu : Nat → Nat), LC x2 x4 x6 x8 x12 x13 x14 st u O W H up se pe S rc ac ov n tp qu ∧ LD x6 x8 x10 x16 x17 W up
/-- the way back to the loop is open at this position, behind st turns -/
def JOK (J47 : TJ) (x15 : Int32) (st : Nat) : Prop := ∀ (p : TP) (k : TK) (r : TR) (l s : TL) (o : TO) (h : TA) (w : TW) y2 y4 y6 y8 y10 y12 y13 y14 y16 y17, LI y2 y4 y6 y8 y10 y12 y13 y14 y16 y17 st (XS p k r l s o h w) → J47 y2 y4 y6 y8 y10 y12 y13 y14 x15 y16 y17 (nI st) p.1 r.1 p.2.1 p.2.2.1 p.2.2.2.1 p.2.2.2.2 k.1 k.2.1 k.2.2.1 k.2.2.2 r.2.1 r.2.2 l.1 l.2.1 l.2.2 s.1 s.2.1 s.2.2 o.1 o.2.1 o.2.2.1 o.2.2.2.1 o.2.2.2.2.1 o.2.2.2.2.2 h w.1 w.2.1 w.2.2.1 w.2.2.2.1 w.2.2.2.2.1 w.2.2.2.2.2.1 w.2.2.2.2.2.2
theorem nI_dec (a : Nat) : nI (a + 1) + (-1) = nI a := by
  rw [← nI_1, Int32.add_assoc, show (1 : Int32) + (-1) = 0 from rfl, Int32.add_zero]
theorem lw_call {p : TP} {k : TK} {r : TR} {l s : TL} {o : TO} {h : TA} {w : TW} {L : Nat} {xs : Nat → Int32} {post : Int32 → Prop} {J47 : TJ} {x2 x4 x6 x8 x10 x24 x26 : Int64} {x12 x13 x14 x15 x16 x18 x20 : Int32} {kc ks st dd : Nat}
    {O W : Nat → List N5} {H : Nat → Nat → Bool} {up2 se se2 pe pe2 : Nat → Bool} {S S2 : Nat → List (Int32 × Nat)} {rc : Nat → Nat → Nat} {ac ac2 ov ov2 : Nat → Nat} {n : Nat} {tp : Nat → Int32} {qu : Nat → Nat}
    (HP : pc_P p n tp qu) (HK : pc_K k rc ac2 ov2) (HR : pc_R r) (HL : pc_L l up2 se2 pe2) (HS : pc_S s S2) (HO : pc_O o O) (HH : pc_H h H) (HW : pc_W w W)
    (I : PINV O W H up2 pe2 S2 rc ac2 n qu (amf x6 x8) (bt x14)) (hn24 : n ≤ 24) (hst : 8 * (st + 1) < 2 ^ 30) (hW : ∀ x, x < 8 → (W x).length ≤ 28) (hrc : ∀ d s, rc d s ≤ 8 * (st + 1)) (hac : ∀ s, ac2 s ≤ 8 * (st + 1)) (hov : ∀ d, d < 4 → ov2 d ≤ 8 * (st + 1)) (hpm : ∀ s, 1 ≤ s → s ≤ 24 → bt x12 (s - 1) = decide (s ≤ n)) (hqu : ∀ s, 1 ≤ s → s ≤ n → qu s = nfo x2 x4 s / 8 ∧ qu s ≤ 2) (htp : ∀ s, 1 ≤ s → s ≤ n → tp s = tcv (nfo x2 x4 s % 8))
    (hE : ELG se pe S x24) (hop : ∀ d, d < 4 → opv x26 d = ov d % 2 ^ 16) (hgr : ∀ d, d < 4 → ov d ≤ ov2 d ∧ ov2 d ≤ ov d + 16) (hacc : ∀ s, 1 ≤ s → s ≤ 24 → (bt x13 (s - 1) = true ↔ 1 ≤ ac s)) (hmo : ∀ s, ac s ≤ ac2 s)
    (hA : ∀ s d, d < 4 → ac s = 0 → 1 ≤ ac2 s → ov2 d = ov d → 1 ≤ qu s → pe d = true → (∃ f, f ∈ S d ∧ ma f.1 (tp s) = true ∧ qu s ≤ f.2) → pe2 d = true ∧ (∃ e, e ∈ O (4 + d) ∧ e.1 = s ∧ e.2.2.2.1 = 0) ∧ (qu s = 2 → XO (O (4 + d)) (W (4 + d)) (H d) (rc d s) s))
    (hd : dd < 4) (hx : (x20 = 0 ∧ x16 = 0) ∨ (¬ x20 = 0 ∧ ∃ dl, x16 = nI (dl + 1) ∧ dl + 1 ≤ 200 ∧ DR W up2 dd dl ∧ ov2 dd = ov dd ∧ ∀ s, 1 ≤ s → s ≤ 24 → lb x10 (s - 1) = true → amf x6 x8 dd s = true)) (hJ : JOK J47 x15 (st + 1)) :
    ∃ fu951, wL_law_951 post L xs J47 x2 x4 x6 x8 x10 x12 x13 x14 x15 x16 (nI dd) x18 (nI st) x20 x24 x26 kc ks p.1 r.1 p.2.1 p.2.2.1 p.2.2.2.1 p.2.2.2.2 k.1 k.2.1 k.2.2.1 k.2.2.2 r.2.1 r.2.2 l.1 l.2.1 l.2.2 s.1 s.2.1 s.2.2 o.1 o.2.1 o.2.2.1 o.2.2.2.1 o.2.2.2.2.1 o.2.2.2.2.2 h w.1 w.2.1 w.2.2.1 w.2.2.2.1 w.2.2.2.2.1 w.2.2.2.2.2.1 w.2.2.2.2.2.2 fu951 0 0 := by
  have hrc' : ∀ d s, rc d s < 2 ^ 30 := fun d s => by have := hrc d s; omega
  refine lw_back I HO HK hn24 hrc' (fun s => by have := hac s; omega) (fun d hd => by have := hov d hd; omega) (fun _ _ => rfl) hpm hqu hE hop hgr hacc hmo (fun s0 d hd h1 h2 h3 h4 h5 h6 h7 h8 => hA s0 d hd h3 h4 h5 h6 h7 (by rw [htp s0 h1 h2]; exact h8)) (fun y6 y8 y13 hI h13 hkeep => ?_)
  have go : ∀ x16', LD y6 y8 x10 x16' (nI dd) W up2 → J47 x2 x4 y6 y8 x10 x12 y13 x14 x15 x16' (nI dd) (nI st + 1) p.1 r.1 p.2.1 p.2.2.1 p.2.2.2.1 p.2.2.2.2 k.1 k.2.1 k.2.2.1 k.2.2.2 r.2.1 r.2.2 l.1 l.2.1 l.2.2 s.1 s.2.1 s.2.2 o.1 o.2.1 o.2.2.1 o.2.2.2.1 o.2.2.2.2.1 o.2.2.2.2.2 h w.1 w.2.1 w.2.2.1 w.2.2.2.1 w.2.2.2.2.1 w.2.2.2.2.2.1 w.2.2.2.2.2.2 := by
    intro x16' hD
    rw [nI_1]
    exact hJ p k r l s o h w x2 x4 y6 y8 x10 x12 y13 x14 x16' (nI dd) ⟨O, W, H, up2, se2, pe2, S2, rc, ac2, ov2, n, tp, qu, ⟨⟨p, k, r, l, s, o, h, w, rfl, HP, HK, HR, HL, HS, HO, HH, HW⟩, hI, hn24, hW, hrc, hac, hov, hpm, hqu, htp, h13⟩, hD⟩
  rcases hx with ⟨h0, h16⟩ | ⟨h0, dl, h16, hdl, hD, hv, hm⟩
  · refine ⟨fun _ => go x16 ⟨dd, 0, hd, rfl, h16, by omega, fun z => by omega⟩, fun z => absurd h0 z, fun z => absurd h0 z⟩
  · have hm' : ∀ s, 1 ≤ s → s ≤ 24 → lb x10 (s - 1) = true → amf y6 y8 dd s = true := fun s0 a b z => hkeep dd s0 hd hv (hm s0 a b z)
    have e16 : x16 + (-1) = nI dl := by rw [h16, nI_dec]
    have hLD : LD y6 y8 x10 (x16 + (-1)) (nI dd) W up2 := ⟨dd, dl, hd, rfl, e16, by omega, fun _ => ⟨hD, hm'⟩⟩
    refine ⟨fun z => absurd z h0, fun _ _ => go _ hLD, fun _ hz => ⟨25, lw_1419 hI HO HK hrc' hqu hd ?_ hm' (go _ hLD) 24 1 (by omega) (by omega)⟩⟩
    have hdl0 : dl = 0 := by
      rw [e16] at hz
      exact (nI_eq (b := 0) (by omega) (by omega)).mp hz
    subst hdl0
    obtain ⟨w1, w2⟩ := DR_end hD
    have T := hI.2.1 dd hd
    rw [hD.1] at T
    have := TOK_len T (fun e he => by
      have hok := (HO.1 (4 + dd) (by omega)).2.1 e he
      exact ⟨hok.2.2.2.2.1, hok.2.2.2.2.2.1⟩)
    rw [w1, w2] at this
    exact List.eq_nil_of_length_eq_zero (Nat.le_zero.mp this)
end Q36
