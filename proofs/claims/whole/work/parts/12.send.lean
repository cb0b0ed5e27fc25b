section P12
def ps_q3 (Q : Int32) : Prop := Q = 0 ∨ Q = 1 ∨ Q = 2
theorem pr_send {k : TK} {l : TL} {o e : TO} {w : TW} {z : TO} (HO : ps_GO o e) (HW : ps_GW w z) {d sn : Nat} (hd : d < 4) (h1 : 1 ≤ sn) (h2 : sn ≤ 24) {Q M : Int32} (hQ : ps_q3 Q) (hM : M = 0 ∨ M = 1) : ∃ (k' : TK) (o' e' : TO) (w' : TW) (z' : TO), ps_GO o' e' ∧ ps_GW w' z'
    ∧ (∀ p r s h (post : SX → Prop), post (XS p k' r l s o' h w') → wpX_sendSerial post (XS p k r l s o h w) (nI d) (nI sn) Q M)
    ∧ (∀ p q s g m t (post : SY → Prop), post (YS p k' q l s e' g m z' t) → wpY_send post (YS p k q l s e g m z t) (nI d) (nI sn) Q M) := by
  have cd : (nI d).toNatClampNeg = d := nI_clamp (by omega)
  have i4 : vp_in (nI d) 4 := vp_in_nI hd (by omega)
  have x8 : vp_in (nI (4 + d)) 8 := vp_in_nI (by omega) (by omega)
  have y8 : vp_in (nI (2 * d + 1)) 8 := vp_in_nI (by omega) (by omega)
  by_cases q0 : Q = 0
  · subst q0
    have hlt : (0 : Int32) < 1 := by decide
    by_cases hl : l.1 d = 0
    · exact ⟨k, o, e, w, z, HO, HW, fun p r s h post hp => nm_r (pn_4a d) (br_t hlt ⟨i4, br_t (by rw [cd]; exact hl) hp⟩), fun p q s g m t post hp => br_t rfl ⟨i4, br_t (by rw [cd]; exact hl) hp⟩⟩
    · obtain ⟨w', z', a1, a2, a3⟩ := pr_put HW (c := d) (b := 1) hd (by omega) (K := 1) (I := 0) (S := nI sn) (Q := 0) (M := M) ⟨⟨0, by omega, rfl, fun _ => ⟨⟨sn, h1, h2, rfl⟩, Or.inl rfl⟩, fun h => absurd rfl h⟩, hM⟩
      exact ⟨k, o, e, w', z', HO, a1, fun p r s h post hp => nm_r (pn_4a d) (br_t hlt ⟨i4, br_f (by rw [cd]; exact hl) (a2 p k r l s o h _ hp)⟩), fun p q s g m t post hp => br_t rfl ⟨i4, br_f (by rw [cd]; exact hl) (by rw [pn_y1]; exact a3 p k q l s e g m t _ hp)⟩⟩
  · have hlt : ¬ Q < 1 := by
      rcases hQ with h | h | h
      · exact absurd h q0
      · rw [h]; decide
      · rw [h]; decide
    have hQ2 : Q = 1 ∨ Q = 2 := by
      rcases hQ with h | h | h
      · exact absurd h q0
      · exact Or.inl h
      · exact Or.inr h
    obtain ⟨n, b1, b2, b3, b4⟩ := HO.1 d 1 hd (by omega)
    have n16 := b4.1
    have cx : (nI (4 + d)).toNatClampNeg = 4 * 1 + d := nI_clamp (by omega)
    have cy : (nI (2 * d + 1)).toNatClampNeg = 2 * d + 1 := nI_clamp (by omega)
    by_cases hf : n = 16
    · subst hf
      exact ⟨(k.1, k.2.1, k.2.2.1, upd k.2.2.2 d (k.2.2.2 d + 1)), o, e, w, z, HO, HW, fun p r s h post hp => nm_r (pn_4a d) (br_f hlt ⟨x8, br_t (by rw [cx, b2]; rfl) ⟨i4, i4, nm_r (by rw [cd]) hp⟩⟩), fun p q s g m t post hp => br_f q0 (nm_r (pn_y1 d) ⟨y8, br_f (by rw [cy, b3]; decide) ⟨i4, i4, nm_r (by rw [cd]) hp⟩⟩)⟩
    · obtain ⟨o', e', i, i1, i2, c1, c2, c3⟩ := pr_add HO hd (b := 1) (by omega) b2 (fun h => absurd h (by decide)) (by omega) (S := nI sn) ⟨sn, h1, h2, rfl⟩ hQ2 hM
      have hx : ¬ o.1 (nI (4 + d)).toNatClampNeg = 16 := by
        rw [cx, b2]
        intro h
        have := (nI_eq (b := 16) (by omega) (by omega)).mp h
        omega
      have hy : e.1 (nI (2 * d + 1)).toNatClampNeg < 16 := by
        rw [cy, b3]
        exact nI_lt (b := 16) (by omega) (by omega)
      by_cases hl : l.1 d = 0
      · exact ⟨k, o', e', w, z, c1, HW, fun p r s h post hp => nm_r (pn_4a d) (br_f hlt ⟨x8, br_f hx (c2 p k r l s h w _ ⟨i4, br_t (by rw [cd]; exact hl) hp⟩)⟩), fun p q s g m t post hp => br_f q0 (nm_r (pn_y1 d) ⟨y8, br_t hy (c3 p k q l s g m z t _ ⟨i4, br_t (by rw [cd]; exact hl) hp⟩)⟩)⟩
      · obtain ⟨w', z', a1, a2, a3⟩ := pr_put HW (c := d) (b := 1) hd (by omega) (K := 1) (I := nI i) (S := nI sn) (Q := Q) (M := M) ⟨⟨i, i2, rfl, fun _ => ⟨⟨sn, h1, h2, rfl⟩, Or.inr ⟨hQ2, i1⟩⟩, fun h => absurd rfl h⟩, hM⟩
        exact ⟨k, o', e', w', z', c1, a1, fun p r s h post hp => nm_r (pn_4a d) (br_f hlt ⟨x8, br_f hx (c2 p k r l s h w _ ⟨i4, br_f (by rw [cd]; exact hl) (a2 p k r l s o' h _ hp)⟩)⟩), fun p q s g m t post hp => br_f q0 (nm_r (pn_y1 d) ⟨y8, br_t hy (c3 p k q l s g m z t _ ⟨i4, br_f (by rw [cd]; exact hl) (by rw [pn_y1]; exact a3 p k q l s e' g m t _ hp)⟩)⟩)⟩
/-! what holds of the shared groups -/
def ps_IP (p : TP) : Prop := ∃ n, n ≤ 24 ∧ p.1 = nI n ∧ ∀ i, (∃ t, t < 4096 ∧ p.2.1 i = nI t) ∧ ps_q3 (p.2.2.2.1 i)
def ps_IL (l s : TL) : Prop := ∀ c, c < 4 → (¬ l.2.2 c = 0 → ¬ l.2.1 c = 0) ∧ (¬ l.1 c = 0 → ¬ l.2.1 c = 0) ∧ ∃ n, n ≤ 4 ∧ s.1 c = nI n ∧ (l.2.1 c = 0 → n = 0) ∧ ∀ j, j < n → ps_q3 (s.2.2 (c * 4 + j))
/-- the greatest qos of d's matching subscriptions, or -1 -/
theorem pr_gq_lp {s : TL} {d n : Nat} (hd : d < 4) (hn : s.1 d = nI n) (n4 : n ≤ 4) (hq : ∀ j, j < n → ps_q3 (s.2.2 (d * 4 + j))) (T : Int32) : ∀ f i (cur : Int32), i + f = n → (cur = -1 ∨ ps_q3 cur) → ∃ B : Int32, (B = -1 ∨ ps_q3 B) ∧ (f = 0 → B = cur)
    ∧ (∀ (p : TP) (k : TK) (r : TR) (l : TL) (o : TO) (h : TA) (w : TW) (post : Int32 → Prop), post B → wX_greatestQos_22 post T (nI (d * 4 + n)) p.1 r.1 p.2.1 p.2.2.1 p.2.2.2.1 p.2.2.2.2 k.1 k.2.1 k.2.2.1 k.2.2.2 r.2.1 r.2.2 l.1 l.2.1 l.2.2 s.1 s.2.1 s.2.2 o.1 o.2.1 o.2.2.1 o.2.2.2.1 o.2.2.2.2.1 o.2.2.2.2.2 h w.1 w.2.1 w.2.2.1 w.2.2.2.1 w.2.2.2.2.1 w.2.2.2.2.2.1 w.2.2.2.2.2.2 (f + 1) cur (nI (d * 4 + i)))
    ∧ (∀ (p : TP) (k : TK) (q : TR) (l : TL) (e : TO) (g m : TA) (z : TO) (t : T5) (post : SY → Prop) J x1, wY_accept_200 post J x1 T (nI d) p.1 q.1 t.1 t.2.1 t.2.2.1 t.2.2.2.1 t.2.2.2.2 p.2.1 p.2.2.1 p.2.2.2.1 p.2.2.2.2 k.2.2.1 k.1 k.2.1 k.2.2.2 q.2.1 q.2.2 l.1 l.2.1 l.2.2 s.2.1 s.2.2 s.1 e.2.1 e.2.2.1 e.2.2.2.1 e.2.2.2.2.1 e.2.2.2.2.2 e.1 g m z.2.1 z.2.2.1 z.2.2.2.1 z.2.2.2.2.1 z.2.2.2.2.2 z.1 1 B (nI n) → wY_accept_200 post J x1 T (nI d) p.1 q.1 t.1 t.2.1 t.2.2.1 t.2.2.2.1 t.2.2.2.2 p.2.1 p.2.2.1 p.2.2.2.1 p.2.2.2.2 k.2.2.1 k.1 k.2.1 k.2.2.2 q.2.1 q.2.2 l.1 l.2.1 l.2.2 s.2.1 s.2.2 s.1 e.2.1 e.2.2.1 e.2.2.2.1 e.2.2.2.2.1 e.2.2.2.2.2 e.1 g m z.2.1 z.2.2.1 z.2.2.2.1 z.2.2.2.2.1 z.2.2.2.2.2 z.1 (f + 1) cur (nI i)) := by
  have cd : (nI d).toNatClampNeg = d := nI_clamp (by omega)
  have i4 : vp_in (nI d) 4 := vp_in_nI hd (by omega)
  intro f
  induction f with
  | zero =>
    intro i cur hi hc
    obtain rfl : i = n := by omega
    exact ⟨cur, hc, fun _ => rfl, fun p k r l o h w post hp => br_t (nI_le (by omega) (by omega)) hp, fun p k q l e g m z t post J x1 hp => hp⟩
  | succ f ih =>
    intro i cur hi hc
    have cc : (nI (d * 4 + i)).toNatClampNeg = d * 4 + i := nI_clamp (by omega)
    have ic : vp_in (nI (d * 4 + i)) 16 := vp_in_nI (by omega) (by omega)
    have hX : ¬ nI (d * 4 + n) ≤ nI (d * 4 + i) := nI_ge (by omega) (by omega)
    have hY : ¬ s.1 (nI d).toNatClampNeg ≤ nI i := by rw [cd, hn]; exact nI_ge (by omega) (by omega)
    have eY : nI d * 4 + nI i = nI (d * 4 + i) := by rw [pn_m4, nI_add]
    obtain ⟨R, hR, r1, r2⟩ := pr_ma (s.2.1 (nI (d * 4 + i)).toNatClampNeg) T
    by_cases hle : s.2.2 (nI (d * 4 + i)).toNatClampNeg ≤ cur
    · obtain ⟨B, b1, b2, b3, b4⟩ := ih (i + 1) cur (by omega) hc
      refine ⟨B, b1, fun h => by omega, fun p k r l o h w post hp => br_f hX ⟨ic, br_t hle (nm_r (nI_1 _) (b3 p k r l o h w post hp))⟩, fun p k q l e g m z t post J x1 hp => ⟨i4, br_f hY (nm_r eY ⟨ic, r2 p k q l s e g m z t _ ?_⟩)⟩⟩
      have hn := b4 p k q l e g m z t post J x1 hp
      exact br_c (fun _ => nm_r (nI_1 _) hn) fun _ => ⟨ic, br_t hle (nm_r (nI_1 _) hn)⟩
    · by_cases hR0 : R = 0
      · obtain ⟨B, b1, b2, b3, b4⟩ := ih (i + 1) cur (by omega) hc
        exact ⟨B, b1, fun h => by omega, fun p k r l o h w post hp => br_f hX ⟨ic, br_f hle ⟨ic, r1 _ (br_t hR0 (nm_r (nI_1 _) (b3 p k r l o h w post hp)))⟩⟩, fun p k q l e g m z t post J x1 hp => ⟨i4, br_f hY (nm_r eY ⟨ic, r2 p k q l s e g m z t _ (br_t hR0 (nm_r (nI_1 _) (b4 p k q l e g m z t post J x1 hp)))⟩)⟩⟩
      · obtain ⟨B, b1, b2, b3, b4⟩ := ih (i + 1) (s.2.2 (nI (d * 4 + i)).toNatClampNeg) (by omega) (Or.inr (by rw [cc]; exact hq i (by omega)))
        exact ⟨B, b1, fun h => by omega, fun p k r l o h w post hp => br_f hX ⟨ic, br_f hle ⟨ic, r1 _ (br_f hR0 ⟨ic, nm_e (nm_r (nI_1 _) (b3 p k r l o h w post hp))⟩)⟩⟩, fun p k q l e g m z t post J x1 hp => ⟨i4, br_f hY (nm_r eY ⟨ic, r2 p k q l s e g m z t _ (br_f hR0 ⟨ic, br_f hle ⟨ic, nm_e (nm_r (nI_1 _) (b4 p k q l e g m z t post J x1 hp))⟩⟩)⟩)⟩⟩
theorem pr_gq {s : TL} {d n : Nat} (hd : d < 4) (hn : s.1 d = nI n) (n4 : n ≤ 4) (hq : ∀ j, j < n → ps_q3 (s.2.2 (d * 4 + j))) (T : Int32) : ∃ B : Int32, (B = -1 ∨ ps_q3 B) ∧ (n = 0 → B = -1)
    ∧ (∀ (p : TP) (k : TK) (r : TR) (l : TL) (o : TO) (h : TA) (w : TW) (post : Int32 → Prop), post B → wpX_greatestQos post (XS p k r l s o h w) (nI d) T)
    ∧ (∀ (p : TP) (k : TK) (q : TR) (l : TL) (e : TO) (g m : TA) (z : TO) (t : T5) (post : SY → Prop) J x1, wY_accept_200 post J x1 T (nI d) p.1 q.1 t.1 t.2.1 t.2.2.1 t.2.2.2.1 t.2.2.2.2 p.2.1 p.2.2.1 p.2.2.2.1 p.2.2.2.2 k.2.2.1 k.1 k.2.1 k.2.2.2 q.2.1 q.2.2 l.1 l.2.1 l.2.2 s.2.1 s.2.2 s.1 e.2.1 e.2.2.1 e.2.2.2.1 e.2.2.2.2.1 e.2.2.2.2.2 e.1 g m z.2.1 z.2.2.1 z.2.2.2.1 z.2.2.2.2.1 z.2.2.2.2.2 z.1 1 B (nI n) → ∃ f, wY_accept_200 post J x1 T (nI d) p.1 q.1 t.1 t.2.1 t.2.2.1 t.2.2.2.1 t.2.2.2.2 p.2.1 p.2.2.1 p.2.2.2.1 p.2.2.2.2 k.2.2.1 k.1 k.2.1 k.2.2.2 q.2.1 q.2.2 l.1 l.2.1 l.2.2 s.2.1 s.2.2 s.1 e.2.1 e.2.2.1 e.2.2.2.1 e.2.2.2.2.1 e.2.2.2.2.2 e.1 g m z.2.1 z.2.2.1 z.2.2.2.1 z.2.2.2.2.1 z.2.2.2.2.2 z.1 f (-1) 0) := by
  obtain ⟨B, b1, b2, b3, b4⟩ := pr_gq_lp hd hn n4 hq T n 0 (-1) (by omega) (Or.inl rfl)
  have cd : (nI d).toNatClampNeg = d := nI_clamp (by omega)
  exact ⟨B, b1, b2, fun p k r l o h w post hp => nm_r (pn_m4 d) ⟨vp_in_nI hd (by omega), nm_r (e' := nI (d * 4 + n)) (by rw [cd, hn, nI_add]) ⟨n + 1, b3 p k r l o h w post hp⟩⟩, fun p k q l e g m z t post J x1 hp => ⟨n + 1, b4 p k q l e g m z t post J x1 hp⟩⟩
end P12
