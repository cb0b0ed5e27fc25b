section P19
/-! a side emptied -/
def ps_zr (f : TA) (a b : Nat) : TA := fun i => if a ≤ i ∧ i < b then 0 else f i
theorem ps_zr0 {f : TA} {a : Nat} : ps_zr f a a = f := by
  funext i
  exact if_neg (by omega)
theorem ps_zrS {f : TA} {a b : Nat} (h : a ≤ b) : upd (ps_zr f a b) b 0 = ps_zr f a (b + 1) := by
  funext i
  simp only [upd, ps_zr]
  by_cases h1 : i = b
  · rw [if_pos h1, if_pos (by omega)]
  · rw [if_neg h1]
    by_cases h2 : a ≤ i ∧ i < b
    · rw [if_pos h2, if_pos (by omega)]
    · rw [if_neg h2, if_neg (by omega)]
theorem px_es {p : TP} {k : TK} {r : TR} {l s : TL} {o : TO} {h : TA} {w : TW} {x : Nat} (hx : x < 8) {post : SX → Prop} (hp : post (XS p k r l s (upd o.1 x 0, o.2) (ps_zr h (x * 17 + 1) (x * 17 + 17)) w)) : wpX_emptySide post (XS p k r l s o h w) (nI x) := by
  have cx : (nI x).toNatClampNeg = x := nI_clamp (by omega)
  have hl : ∀ d i, i + d = 17 → 1 ≤ i → wX_emptySide_9 post (nI x) p.1 r.1 (d + 1) (nI i) p.2.1 p.2.2.1 p.2.2.2.1 p.2.2.2.2 k.1 k.2.1 k.2.2.1 k.2.2.2 r.2.1 r.2.2 l.1 l.2.1 l.2.2 s.1 s.2.1 s.2.2 (upd o.1 x 0) o.2.1 o.2.2.1 o.2.2.2.1 o.2.2.2.2.1 o.2.2.2.2.2 (ps_zr h (x * 17 + 1) (x * 17 + i)) w.1 w.2.1 w.2.2.1 w.2.2.2.1 w.2.2.2.2.1 w.2.2.2.2.2.1 w.2.2.2.2.2.2 := by
    intro d
    induction d with
    | zero =>
      intro i hi h1
      obtain rfl : i = 17 := by omega
      exact br_t (by decide) hp
    | succ d ih =>
      intro i hi h1
      have ea : nI x * 17 + nI i = nI (x * 17 + i) := by rw [pn_m17, nI_add]
      have a0 : vp_in (nI x * 17 + nI i) 136 := by rw [ea]; exact vp_in_nI (by omega) (by omega)
      exact br_f (nI_nlt (a := 16) (by omega) (by omega)) ⟨a0, nm_r (e' := ps_zr h (x * 17 + 1) (x * 17 + i + 1)) ((pn_u ea (by omega) (pn_b (Or.inl rfl))).trans (ps_zrS (by omega))) (nm_r (nI_1 _) (ih (i + 1) (by omega) (by omega)))⟩
  have hl0 := hl 16 1 (by omega) (by omega)
  rw [ps_zr0] at hl0
  exact ⟨vp_in_nI hx (by omega), nm_r (by rw [cx]) ⟨17, hl0⟩⟩
theorem px_dis {p : TP} {k : TK} {r : TR} {l s : TL} {o : TO} {h : TA} {w : TW} {c : Nat} (hc : c < 4) {post : SX → Prop} (hp : post (XS p k r (l.1, upd l.2.1 c 0, upd l.2.2 c 0) (upd s.1 c 0, s.2) (upd (upd o.1 c 0) (4 + c) 0, o.2) (ps_zr (ps_zr h (c * 17 + 1) (c * 17 + 17)) ((4 + c) * 17 + 1) ((4 + c) * 17 + 17)) w)) : wpX_discardSession post (XS p k r l s o h w) (nI c) := by
  have cc : (nI c).toNatClampNeg = c := nI_clamp (by omega)
  have i4 : vp_in (nI c) 4 := vp_in_nI hc (by omega)
  refine ⟨i4, nm_r (e' := upd s.1 c 0) (by rw [cc]) ?_⟩
  refine px_es (p := p) (k := k) (r := r) (l := l) (s := (upd s.1 c 0, s.2)) (o := o) (h := h) (w := w) (x := c) (by omega) ?_
  show wpX_emptySide _ (XS p k r l (upd s.1 c 0, s.2) (upd o.1 c 0, o.2) (ps_zr h (c * 17 + 1) (c * 17 + 17)) w) (4 + nI c)
  rw [pn_4a]
  refine px_es (p := p) (k := k) (r := r) (l := l) (s := (upd s.1 c 0, s.2)) (o := (upd o.1 c 0, o.2)) (h := ps_zr h (c * 17 + 1) (c * 17 + 17)) (w := w) (x := 4 + c) (by omega) ?_
  exact ⟨i4, nm_r (by rw [cc, pn_b (Or.inl rfl)]) ⟨i4, nm_r (by rw [cc, pn_b (Or.inl rfl)]) hp⟩⟩
theorem py_dis {p : TP} {k : TK} {q : TR} {l s : TL} {e : TO} {g m : TA} {z : TO} {t : T5} {c : Nat} (hc : c < 4) {post : SY → Prop} (hp : post (YS p k q (l.1, upd l.2.1 c 0, upd l.2.2 c 0) (upd s.1 c 0, s.2) (upd (upd e.1 (2 * c) 0) (2 * c + 1) 0, e.2) g (upd (upd m (2 * c) 0) (2 * c + 1) 0) z t)) : wpY_discard post (YS p k q l s e g m z t) (nI c) := by
  have cc : (nI c).toNatClampNeg = c := nI_clamp (by omega)
  have i4 : vp_in (nI c) 4 := vp_in_nI hc (by omega)
  have y0 : vp_in (nI c * 2) 8 := by rw [pn_m2]; exact vp_in_nI (by omega) (by omega)
  have y1 : vp_in (nI c * 2 + 1) 8 := by rw [pn_y1]; exact vp_in_nI (by omega) (by omega)
  have d0 : (nI c * 2).toNatClampNeg = 2 * c := by rw [pn_m2]; exact nI_clamp (by omega)
  have d1 : (nI c * 2 + 1).toNatClampNeg = 2 * c + 1 := by rw [pn_y1]; exact nI_clamp (by omega)
  exact ⟨i4, nm_r (by rw [cc]) ⟨y0, nm_r (by rw [d0]) ⟨y1, nm_r (by rw [d1]) ⟨y0, nm_r (by rw [d0]) ⟨y1, nm_r (by rw [d1]) ⟨i4, nm_r (by rw [cc, pn_b (Or.inl rfl)]) ⟨i4, nm_r (by rw [cc, pn_b (Or.inl rfl)]) hp⟩⟩⟩⟩⟩⟩⟩
theorem pn_uu1 {f : TA} {a b i : Nat} (h : i = a ∨ i = b) : upd (upd f a 0) b 0 i = nI 0 := by
  by_cases e : i = b
  · rw [e, pk_us]; rfl
  · rw [pk_un e]
    rcases h with h | h
    · rw [h, pk_us]; rfl
    · exact absurd h e
theorem pn_uu2 {f : TA} {a b i : Nat} (h : i ≠ a) (h2 : i ≠ b) : upd (upd f a 0) b 0 i = f i := by
  rw [pk_un h2, pk_un h]
theorem pr_dis {o e : TO} {h g m : TA} (HO : ps_GO o e) (HH : ps_GH h g m) {c : Nat} (hc : c < 4) :
    ps_GO (upd (upd o.1 c 0) (4 + c) 0, o.2) (upd (upd e.1 (2 * c) 0) (2 * c + 1) 0, e.2) ∧ ps_GH (ps_zr (ps_zr h (c * 17 + 1) (c * 17 + 17)) ((4 + c) * 17 + 1) ((4 + c) * 17 + 17)) g (upd (upd m (2 * c) 0) (2 * c + 1) 0) := by
  have hB : ∀ {f : TA} {a b : Nat}, ps_B f → ps_B (ps_zr f a b) := by
    intro f a b hf i
    unfold ps_zr
    split
    · exact Or.inl rfl
    · exact hf i
  refine ⟨⟨ps_RO_clr HO.1 hc (fun b hb => pn_uu1 (by omega)) (fun b hb => pn_uu1 (by omega)) (fun b c' hb hc' hne => pn_uu2 (by omega) (by omega)) (fun b c' hb hc' hne => pn_uu2 (by omega) (by omega)), HO.2⟩, ps_RH_clr HH.1 hc (fun b i hb h1 h2 => ?_) (fun b c' i hb hc' hne h1 h2 => ?_) (fun b hb => pn_uu1 (by omega)) (fun b c' hb hc' hne => pn_uu2 (by omega) (by omega)), hB (hB HH.2)⟩
  · unfold ps_zr
    by_cases hb1 : b = 1
    · exact if_pos (by omega)
    · rw [if_neg (by omega)]
      exact if_pos (by omega)
  · unfold ps_zr
    rw [if_neg (by omega)]
    exact if_neg (by omega)
/-! a side's entries sent again -/
theorem pr_rs {o e : TO} (HO : ps_GO o e) {c b : Nat} (hc : c < 4) (hb : b < 2) : ∀ (w : TW) (z : TO), ps_GW w z → ∃ (w' : TW) (z' : TO), ps_GW w' z'
    ∧ (∀ (p : TP) (k : TK) (r : TR) (l s : TL) (h : TA) (post : SX → Prop), post (XS p k r l s o h w') → wpX_resend post (XS p k r l s o h w) (nI (4 * b + c)))
    ∧ (∀ (p : TP) (k : TK) (q : TR) (l s : TL) (g m : TA) (t : T5) (post : SY → Prop), post (YS p k q l s e g m z' t) → wpY_resend post (YS p k q l s e g m z t) (nI c) (nI b)) := by
  obtain ⟨n, a1, a2, a3, a4⟩ := HO.1 c b hc hb
  have n16 := a4.1
  have cy : (nI (2 * c + b)).toNatClampNeg = 2 * c + b := nI_clamp (by omega)
  have y8 : vp_in (nI (2 * c + b)) 8 := vp_in_nI (by omega) (by omega)
  have cx : (nI (4 * b + c)).toNatClampNeg = 4 * b + c := nI_clamp (by omega)
  have hl : ∀ d i, i + d = n → ∀ (w : TW) (z : TO), ps_GW w z → ∃ (w' : TW) (z' : TO), ps_GW w' z'
      ∧ (∀ (p : TP) (k : TK) (r : TR) (l s : TL) (h : TA) (post : SX → Prop), post (XS p k r l s o h w') → wX_resend_17 post (nI (4 * b + c)) (nI ((4 * b + c) * 16 + n)) (d + 1) (nI ((4 * b + c) * 16 + i)) p.1 r.1 p.2.1 p.2.2.1 p.2.2.2.1 p.2.2.2.2 k.1 k.2.1 k.2.2.1 k.2.2.2 r.2.1 r.2.2 l.1 l.2.1 l.2.2 s.1 s.2.1 s.2.2 o.1 o.2.1 o.2.2.1 o.2.2.2.1 o.2.2.2.2.1 o.2.2.2.2.2 h w.1 w.2.1 w.2.2.1 w.2.2.2.1 w.2.2.2.2.1 w.2.2.2.2.2.1 w.2.2.2.2.2.2)
      ∧ (∀ (p : TP) (k : TK) (q : TR) (l s : TL) (g m : TA) (t : T5) (post : SY → Prop), post (YS p k q l s e g m z' t) → wY_resend_9 post (nI c) (nI b) (nI (2 * c + b)) (d + 1) (nI i) p.1 q.1 t.1 t.2.1 t.2.2.1 t.2.2.2.1 t.2.2.2.2 p.2.1 p.2.2.1 p.2.2.2.1 p.2.2.2.2 k.2.2.1 k.1 k.2.1 k.2.2.2 q.2.1 q.2.2 l.1 l.2.1 l.2.2 s.2.1 s.2.2 s.1 e.2.1 e.2.2.1 e.2.2.2.1 e.2.2.2.2.1 e.2.2.2.2.2 e.1 g m z.2.1 z.2.2.1 z.2.2.2.1 z.2.2.2.2.1 z.2.2.2.2.2 z.1) := by
    intro d
    induction d with
    | zero =>
      intro i hi w z HW
      obtain rfl : i = n := by omega
      exact ⟨w, z, HW, fun p k r l s h post hp => br_t (nI_le (by omega) (by omega)) hp, fun p k q l s g m t post hp => ⟨y8, br_t (by rw [cy, a3]; exact nI_le (by omega) (by omega)) hp⟩⟩
    | succ d ih =>
      intro i hi w z HW
      obtain ⟨he, hv⟩ := a4.2 i (by omega)
      obtain ⟨⟨sn, s1, s2, hS⟩, hQ, ⟨j, j1, j2, hI⟩, hM⟩ := hv
      have h1 : o.2.1 ((4 * b + c) * 16 + i) = e.2.1 ((2 * c + b) * 16 + i) := congrArg (fun t : T5 => t.1) he
      have h2 : o.2.2.1 ((4 * b + c) * 16 + i) = e.2.2.1 ((2 * c + b) * 16 + i) := congrArg (fun t : T5 => t.2.1) he
      have h3 : o.2.2.2.1 ((4 * b + c) * 16 + i) = e.2.2.2.1 ((2 * c + b) * 16 + i) := congrArg (fun t : T5 => t.2.2.1) he
      have h4 : o.2.2.2.2.1 ((4 * b + c) * 16 + i) = e.2.2.2.2.1 ((2 * c + b) * 16 + i) := congrArg (fun t : T5 => t.2.2.2.1) he
      have h5 : o.2.2.2.2.2 ((4 * b + c) * 16 + i) = e.2.2.2.2.2 ((2 * c + b) * 16 + i) := congrArg (fun t : T5 => t.2.2.2.2) he
      have cX : (nI ((4 * b + c) * 16 + i)).toNatClampNeg = (4 * b + c) * 16 + i := nI_clamp (by omega)
      have iX : vp_in (nI ((4 * b + c) * 16 + i)) 128 := vp_in_nI (by omega) (by omega)
      have cY : (nI ((2 * c + b) * 16 + i)).toNatClampNeg = (2 * c + b) * 16 + i := nI_clamp (by omega)
      have iY : vp_in (nI ((2 * c + b) * 16 + i)) 128 := vp_in_nI (by omega) (by omega)
      have nX : ¬ nI ((4 * b + c) * 16 + n) ≤ nI ((4 * b + c) * 16 + i) := nI_ge (by omega) (by omega)
      have nY : ¬ e.1 (nI (2 * c + b)).toNatClampNeg ≤ nI i := by rw [cy, a3]; exact nI_ge (by omega) (by omega)
      have eY : nI (2 * c + b) * 16 + nI i = nI ((2 * c + b) * 16 + i) := by rw [pn_m16, nI_add]
      by_cases hst : e.2.2.2.2.2 ((2 * c + b) * 16 + i) = 1
      · obtain ⟨w1, z1, b1, b2, b3⟩ := pr_put HW hc hb (K := 1) (I := e.2.2.2.1 ((2 * c + b) * 16 + i)) (S := e.2.1 ((2 * c + b) * 16 + i)) (Q := e.2.2.1 ((2 * c + b) * 16 + i)) (M := e.2.2.2.2.1 ((2 * c + b) * 16 + i)) ⟨⟨j, j2, hI, fun _ => ⟨⟨sn, s1, s2, hS⟩, Or.inr ⟨hQ, j1⟩⟩, fun z => absurd rfl z⟩, hM⟩
        obtain ⟨w', z', c1, c2, c3⟩ := ih (i + 1) (by omega) w1 z1 b1
        refine ⟨w', z', c1, fun p k r l s h post hp => br_f nX ⟨iX, br_t (by rw [cX, h5]; exact hst) ⟨iX, iX, iX, iX, ?_⟩⟩, fun p k q l s g m t post hp => ⟨y8, br_f nY (nm_r eY ⟨iY, br_t (by rw [cY]; exact hst) ⟨iY, iY, iY, iY, ?_⟩⟩)⟩⟩
        · rw [cX, h1, h2, h3, h4]
          exact b2 p k r l s o h _ (nm_r (nI_1 _) (c2 p k r l s h post hp))
        · rw [cY, pn_yb]
          exact b3 p k q l s e g m t _ (nm_r (nI_1 _) (c3 p k q l s g m t post hp))
      · obtain ⟨w1, z1, b1, b2, b3⟩ := pr_reply HW hc hb (K := 4) (I := e.2.2.2.1 ((2 * c + b) * 16 + i)) ⟨⟨j, j2, hI, fun z => absurd z (by decide : ¬ (4 : Int32) = 1), fun _ => j1⟩, Or.inl rfl⟩
        obtain ⟨w', z', c1, c2, c3⟩ := ih (i + 1) (by omega) w1 z1 b1
        refine ⟨w', z', c1, fun p k r l s h post hp => br_f nX ⟨iX, br_f (by rw [cX, h5]; exact hst) ⟨iX, ?_⟩⟩, fun p k q l s g m t post hp => ⟨y8, br_f nY (nm_r eY ⟨iY, br_f (by rw [cY]; exact hst) ⟨iY, ?_⟩⟩)⟩⟩
        · rw [cX, h3]
          exact b2 p k r l s o h _ (nm_r (nI_1 _) (c2 p k r l s h post hp))
        · rw [cY, pn_yb]
          exact b3 p k q l s e g m t _ (nm_r (nI_1 _) (c3 p k q l s g m t post hp))
  intro w z HW
  obtain ⟨w', z', c1, c2, c3⟩ := hl n 0 (by omega) w z HW
  exact ⟨w', z', c1, fun p k r l s h post hp => nm_r (pn_m16 _) ⟨vp_in_nI (by omega) (by omega), nm_r (e' := nI ((4 * b + c) * 16 + n)) (by rw [cx, a2, nI_add]) ⟨n + 1, c2 p k r l s h post hp⟩⟩, fun p k q l s g m t post hp => nm_r (pn_yb c b) ⟨n + 1, c3 p k q l s g m t post hp⟩⟩
/-- the link is up: the shared groups -/
theorem ps_IL_up {l s : TL} (HL : ps_IL l s) {c : Nat} (hc : c < 4) (P : Int32) : ps_IL (upd l.1 c 1, upd l.2.1 c 1, upd l.2.2 c P) s := by
  intro c' hc'
  obtain ⟨a, b, n, n4, hn, hz, hq⟩ := HL c' hc'
  have one : ¬ (1 : Int32) = 0 := by decide
  by_cases hcc : c' = c
  · subst hcc
    refine ⟨fun _ => ?_, fun _ => ?_, n, n4, hn, fun x => ?_, hq⟩
    · show ¬ upd l.2.1 c' 1 c' = 0
      rw [pk_us]; exact one
    · show ¬ upd l.2.1 c' 1 c' = 0
      rw [pk_us]; exact one
    · have x' : upd l.2.1 c' 1 c' = 0 := x
      rw [pk_us] at x'
      exact absurd x' one
  · have u1 : upd l.1 c 1 c' = l.1 c' := pk_un hcc
    have u2 : upd l.2.1 c 1 c' = l.2.1 c' := pk_un hcc
    have u3 : upd l.2.2 c P c' = l.2.2 c' := pk_un hcc
    show (¬ upd l.2.2 c P c' = 0 → ¬ upd l.2.1 c 1 c' = 0) ∧ (¬ upd l.1 c 1 c' = 0 → ¬ upd l.2.1 c 1 c' = 0) ∧ ∃ n, n ≤ 4 ∧ s.1 c' = nI n ∧ (upd l.2.1 c 1 c' = 0 → n = 0) ∧ ∀ j, j < n → ps_q3 (s.2.2 (c' * 4 + j))
    rw [u1, u2, u3]
    exact ⟨a, b, n, n4, hn, hz, hq⟩
/-- the session is discarded, the link being down -/
theorem ps_IL_dis {l s : TL} (HL : ps_IL l s) {c : Nat} (hc : c < 4) (h0 : l.1 c = 0) : ps_IL (l.1, upd l.2.1 c 0, upd l.2.2 c 0) (upd s.1 c 0, s.2) := by
  intro c' hc'
  obtain ⟨a, b, n, n4, hn, hz, hq⟩ := HL c' hc'
  show (¬ upd l.2.2 c 0 c' = 0 → ¬ upd l.2.1 c 0 c' = 0) ∧ (¬ l.1 c' = 0 → ¬ upd l.2.1 c 0 c' = 0) ∧ ∃ n, n ≤ 4 ∧ upd s.1 c 0 c' = nI n ∧ (upd l.2.1 c 0 c' = 0 → n = 0) ∧ ∀ j, j < n → ps_q3 (s.2.2 (c' * 4 + j))
  by_cases hcc : c' = c
  · subst hcc
    rw [pk_us, pk_us, pk_us]
    exact ⟨fun x => absurd rfl x, fun x => absurd h0 x, 0, by omega, rfl, fun _ => rfl, fun j hj => absurd hj (by omega)⟩
  · rw [pk_un hcc, pk_un hcc, pk_un hcc]
    exact ⟨a, b, n, n4, hn, hz, hq⟩
theorem ps_IL_down {l s : TL} (HL : ps_IL l s) {c : Nat} (hc : c < 4) : ps_IL (upd l.1 c 0, l.2) s := by
  intro c' hc'
  obtain ⟨a, b, n, n4, hn, hz, hq⟩ := HL c' hc'
  refine ⟨a, fun x => ?_, n, n4, hn, hz, hq⟩
  have x' : ¬ upd l.1 c 0 c' = 0 := x
  by_cases hcc : c' = c
  · rw [hcc, pk_us] at x'
    exact absurd rfl x'
  · rw [pk_un hcc] at x'
    exact b x'
end P19
