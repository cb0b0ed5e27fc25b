section P13
/-- the sends of an accepted serial -/
theorem pr_acl {p : TP} {l s : TL} (HP : ps_IP p) (HL : ps_IL l s) {sn : Nat} (h1 : 1 ≤ sn) (h2 : sn ≤ 24) : ∀ f d, d + f = 4 → ∀ (k : TK) (o e : TO) (w : TW) (z : TO), ps_GO o e → ps_GW w z → ∃ (k' : TK) (o' e' : TO) (w' : TW) (z' : TO), ps_GO o' e' ∧ ps_GW w' z'
    ∧ (∀ (r : TR) (h : TA) (post : SX → Prop), post (XS p k' r l s o' h w') → wX_acceptSerial_26 post (nI sn) (f + 1) (nI d) p.1 r.1 p.2.1 p.2.2.1 p.2.2.2.1 p.2.2.2.2 k.1 k.2.1 k.2.2.1 k.2.2.2 r.2.1 r.2.2 l.1 l.2.1 l.2.2 s.1 s.2.1 s.2.2 o.1 o.2.1 o.2.2.1 o.2.2.2.1 o.2.2.2.2.1 o.2.2.2.2.2 h w.1 w.2.1 w.2.2.1 w.2.2.2.1 w.2.2.2.2.1 w.2.2.2.2.2.1 w.2.2.2.2.2.2)
    ∧ (∀ (q : TR) (g m : TA) (t : T5) (post : SY → Prop), post (YS p k' q l s e' g m z' t) → wY_accept_177 post (nI sn) (p.2.1 sn) (f + 1) (nI d) p.1 q.1 t.1 t.2.1 t.2.2.1 t.2.2.2.1 t.2.2.2.2 p.2.1 p.2.2.1 p.2.2.2.1 p.2.2.2.2 k.2.2.1 k.1 k.2.1 k.2.2.2 q.2.1 q.2.2 l.1 l.2.1 l.2.2 s.2.1 s.2.2 s.1 e.2.1 e.2.2.1 e.2.2.2.1 e.2.2.2.2.1 e.2.2.2.2.2 e.1 g m z.2.1 z.2.2.1 z.2.2.2.1 z.2.2.2.2.1 z.2.2.2.2.2 z.1) := by
  have cs : (nI sn).toNatClampNeg = sn := nI_clamp (by omega)
  have i25 : vp_in (nI sn) 25 := vp_in_nI (by omega) (by omega)
  intro f
  induction f with
  | zero =>
    intro d hd k o e w z HO HW
    obtain rfl : d = 4 := by omega
    exact ⟨k, o, e, w, z, HO, HW, fun r h post hp => br_t (by decide) hp, fun q g m t post hp => br_t (by decide) hp⟩
  | succ f ih =>
    intro d hd k o e w z HO HW
    have cd : (nI d).toNatClampNeg = d := nI_clamp (by omega)
    have i4 : vp_in (nI d) 4 := vp_in_nI (by omega) (by omega)
    have h4 : ¬ (4 : Int32) ≤ nI d := nI_ge (b := 4) (by omega) (by omega)
    obtain ⟨_, _, n, n4, hn, hz, hq⟩ := HL d (by omega)
    obtain ⟨B, b1, b2, b3, b4⟩ := pr_gq (by omega) hn n4 hq (p.2.1 sn)
    have hend : s.1 (nI d).toNatClampNeg ≤ nI n := by rw [cd, hn]; exact nI_le (by omega) (by omega)
    by_cases hB : B < 0
    · obtain ⟨k', o', e', w', z', c1, c2, c3, c4⟩ := ih (d + 1) (by omega) k o e w z HO HW
      refine ⟨k', o', e', w', z', c1, c2, fun r h post hp => br_f h4 ⟨i25, by rw [cs]; exact b3 p k r l o h w _ (br_t hB (nm_r (nI_1 _) (c3 r h post hp)))⟩, fun q g m t post hp => br_f h4 ⟨i4, br_c (fun _ => nm_r (nI_1 _) (c4 q g m t post hp)) fun hs => ?_⟩⟩
      exact b4 p k q l e g m z t post _ _ ⟨i4, br_t hend (br_t hB (nm_r (nI_1 _) (c4 q g m t post hp)))⟩
    · have hB3 : ps_q3 B := by
        rcases b1 with h | h
        · rw [h] at hB; exact absurd (by decide) hB
        · exact h
      have hse : ¬ l.2.1 (nI d).toNatClampNeg = 0 := by
        rw [cd]
        intro h
        have := b2 (hz h)
        rw [this] at hB
        exact absurd (by decide) hB
      obtain ⟨_, _, _, HPa⟩ := HP
      by_cases hle : B ≤ p.2.2.2.1 (nI sn).toNatClampNeg
      · obtain ⟨k1, o1, e1, w1, z1, s1, s2, s3, s4⟩ := pr_send (k := k) (l := l) HO HW (d := d) (by omega) h1 h2 hB3 (M := 0) (Or.inl rfl)
        obtain ⟨k', o', e', w', z', c1, c2, c3, c4⟩ := ih (d + 1) (by omega) k1 o1 e1 w1 z1 s1 s2
        refine ⟨k', o', e', w', z', c1, c2, fun r h post hp => br_f h4 ⟨i25, by rw [cs]; exact b3 p k r l o h w _ (br_f hB ⟨i25, br_t (by rw [← cs]; exact hle) (s3 p r s h _ (nm_r (nI_1 _) (c3 r h post hp)))⟩)⟩, fun q g m t post hp => br_f h4 ⟨i4, br_f hse ?_⟩⟩
        exact b4 p k q l e g m z t post _ _ ⟨i4, br_t hend (br_f hB ⟨i25, br_t hle (s4 p q s g m t _ (nm_r (nI_1 _) (c4 q g m t post hp)))⟩)⟩
      · have hQ3 : ps_q3 (p.2.2.2.1 sn) := (HPa sn).2
        obtain ⟨k1, o1, e1, w1, z1, s1, s2, s3, s4⟩ := pr_send (k := k) (l := l) HO HW (d := d) (by omega) h1 h2 hQ3 (M := 0) (Or.inl rfl)
        obtain ⟨k', o', e', w', z', c1, c2, c3, c4⟩ := ih (d + 1) (by omega) k1 o1 e1 w1 z1 s1 s2
        have hle' : ¬ B ≤ p.2.2.2.1 sn := by rw [← cs]; exact hle
        refine ⟨k', o', e', w', z', c1, c2, fun r h post hp => br_f h4 ⟨i25, by rw [cs]; exact b3 p k r l o h w _ (br_f hB ⟨i25, br_f hle' (s3 p r s h _ (nm_r (nI_1 _) (c3 r h post hp)))⟩)⟩, fun q g m t post hp => br_f h4 ⟨i4, br_f hse ?_⟩⟩
        refine b4 p k q l e g m z t post _ _ ⟨i4, br_t hend (br_f hB ⟨i25, br_f hle ⟨i25, ?_⟩⟩)⟩
        unfold wY_accept_291
        rw [cs]
        exact s4 p q s g m t _ (nm_r (nI_1 _) (c4 q g m t post hp))
theorem pr_acc {p : TP} {l s : TL} (HP : ps_IP p) (HL : ps_IL l s) {k : TK} {r q : TR} {o e : TO} {w : TW} {z : TO} (HR : ps_RR r q) (HO : ps_GO o e) (HW : ps_GW w z) {sn : Nat} (h1 : 1 ≤ sn) (h2 : sn ≤ 24) : ∃ (k' : TK) (r' q' : TR) (o' e' : TO) (w' : TW) (z' : TO), ps_RR r' q' ∧ ps_GO o' e' ∧ ps_GW w' z'
    ∧ (∀ (h : TA) (post : SX → Prop), post (XS p k' r' l s o' h w') → wpX_acceptSerial post (XS p k r l s o h w) (nI sn))
    ∧ (∀ (g m : TA) (t : T5) (post : SY → Prop), post (YS p k' q' l s e' g m z' t) → wpY_accept post (YS p k q l s e g m z t) (nI sn)) := by
  have cs : (nI sn).toNatClampNeg = sn := nI_clamp (by omega)
  have i25 : vp_in (nI sn) 25 := vp_in_nI (by omega) (by omega)
  obtain ⟨k', o', e', w', z', c1, c2, c3, c4⟩ := pr_acl HP HL h1 h2 4 0 (by omega) (k.1, k.2.1, upd k.2.2.1 sn (k.2.2.1 sn + 1), k.2.2.2) o e w z HO HW
  by_cases hr : p.2.2.2.2 sn = 0
  · exact ⟨k', r, q, o', e', w', z', HR, c1, c2, fun h post hp => ⟨i25, i25, nm_r (e' := upd k.2.2.1 sn (k.2.2.1 sn + 1)) (by rw [cs]) ⟨i25, br_t (by rw [cs]; exact hr) ⟨5, c3 r h post hp⟩⟩⟩, fun g m t post hp => py_acc_0 h1 h2 hr ⟨5, c4 q g m t post hp⟩⟩
  · obtain ⟨_, _, _, HPa⟩ := HP
    obtain ⟨⟨tn, ht, hT⟩, _⟩ := HPa sn
    obtain ⟨r', q', d1, d2, d3⟩ := pr_upd HR h1 h2 ht hT hr
    exact ⟨k', r', q', o', e', w', z', d1, c1, c2, fun h post hp => ⟨i25, i25, nm_r (e' := upd k.2.2.1 sn (k.2.2.1 sn + 1)) (by rw [cs]) ⟨i25, br_f (by rw [cs]; exact hr) (d2 (k.1, k.2.1, upd k.2.2.1 sn (k.2.2.1 sn + 1), k.2.2.2) l s o h w _ ⟨5, c3 r' h post hp⟩)⟩⟩, fun g m t post hp => d3 k l s e g m z t post ⟨5, c4 q' g m t post hp⟩⟩
end P13
