section Q11
/-- what an ACCEPT does at client d's end -/
def ACD (S : List (Int32 × Nat)) (T : Int32) (q : Nat) (up : Bool) (sn : Nat) (Od Wd : List N5) (v : Nat) (Od' Wd' : List N5) (v' : Nat) : Prop :=
  ((∀ f, f ∈ S → ma f.1 T = false) ∧ Od' = Od ∧ Wd' = Wd ∧ v' = v)
  ∨ ∃ b : Nat, b ≤ 2 ∧ (∃ f, f ∈ S ∧ ma f.1 T = true ∧ f.2 = b) ∧ (∀ f, f ∈ S → ma f.1 T = true → f.2 ≤ b) ∧ SND up sn (if b ≤ q then b else q) 0 Od Wd v Od' Wd' v'
theorem pq_acl {p : TP} {l s : TL} {n : Nat} {tp : Nat → Int32} {qu : Nat → Nat} {up se pe : Nat → Bool} {S : Nat → List (Int32 × Nat)} (HP : pc_P p n tp qu) (HL : pc_L l up se pe) (HS : pc_S s S) {sn : Nat} (s1 : 1 ≤ sn) (s2 : sn ≤ 24) :
    ∀ f d, d + f = 4 → ∀ (k : TK) (o : TO) (w : TW) (O W : Nat → List N5) (rc : Nat → Nat → Nat) (ac ov : Nat → Nat), pc_O o O → pc_W w W → pc_K k rc ac ov → (∀ d', d ≤ d' → d' < 4 → (W (4 + d')).length < 32) → ∃ (k' : TK) (o' : TO) (w' : TW) (O' W' : Nat → List N5) (ov' : Nat → Nat), pc_O o' O' ∧ pc_W w' W' ∧ pc_K k' rc ac ov'
      ∧ (∀ x, x < 4 + d → O' x = O x ∧ W' x = W x) ∧ (∀ d', d' < d → ov' d' = ov d') ∧ (∀ d', d ≤ d' → d' < 4 → ACD (S d') (tp sn) (qu sn) (up d') sn (O (4 + d')) (W (4 + d')) (ov d') (O' (4 + d')) (W' (4 + d')) (ov' d'))
      ∧ (∀ (r : TR) (h : TA) (post : St1 → Prop), post (XS p k' r l s o' h w') → wX_acceptSerial_26 post (nI sn) (f + 1) (nI d) p.1 r.1 p.2.1 p.2.2.1 p.2.2.2.1 p.2.2.2.2 k.1 k.2.1 k.2.2.1 k.2.2.2 r.2.1 r.2.2 l.1 l.2.1 l.2.2 s.1 s.2.1 s.2.2 o.1 o.2.1 o.2.2.1 o.2.2.2.1 o.2.2.2.2.1 o.2.2.2.2.2 h w.1 w.2.1 w.2.2.1 w.2.2.2.1 w.2.2.2.2.1 w.2.2.2.2.2.1 w.2.2.2.2.2.2) := by
  have cs : (nI sn).toNatClampNeg = sn := nI_clamp (by omega)
  have i25 : vp_in (nI sn) 25 := vp_in_nI (by omega) (by omega)
  obtain ⟨ht, hqu, hq2⟩ := HP.2.2 sn s2
  have vT : p.2.1 (nI sn).toNatClampNeg = tp sn := by rw [cs]; exact ht
  have vQ : p.2.2.2.1 (nI sn).toNatClampNeg = nI (qu sn) := by rw [cs]; exact hqu
  intro f
  induction f with
  | zero =>
    intro d hd k o w O W rc ac ov HO HW HK hl
    obtain rfl : d = 4 := by omega
    exact ⟨k, o, w, O, W, ov, HO, HW, HK, fun x _ => ⟨rfl, rfl⟩, fun d' _ => rfl, fun d' h1 h2 => by omega, fun r h post hp => br_t (by decide) hp⟩
  | succ f ih =>
    intro d hd k o w O W rc ac ov HO HW HK hl
    have h4 : ¬ (4 : Int32) ≤ nI d := nI_ge (b := 4) (by omega) (by omega)
    obtain ⟨B, hB, bX⟩ := pq_gq HS (show d < 4 by omega) (tp sn)
    rcases hB with ⟨rfl, hno⟩ | ⟨b, b2, rfl, hex, hall⟩
    · obtain ⟨k', o', w', O', W', ov', c1, c2, c3, c4, c5, c6, c7⟩ := ih (d + 1) (by omega) k o w O W rc ac ov HO HW HK (fun d' h1 h2 => hl d' (by omega) h2)
      refine ⟨k', o', w', O', W', ov', c1, c2, c3, fun x hx => c4 x (by omega), fun d' h => c5 d' (by omega), fun d' h1 h2 => ?_, fun r h post hp => br_f h4 ⟨i25, by rw [vT]; exact bX p k r l o h w _ (br_t (by decide) (nm_r (nI_1 _) (c7 r h post hp)))⟩⟩
      by_cases e : d' = d
      · subst e
        exact Or.inl ⟨hno, (c4 (4 + d') (by omega)).1, (c4 (4 + d') (by omega)).2, c5 d' (by omega)⟩
      · exact c6 d' (by omega) h2
    · have hb0 : ¬ nI b < 0 := nI_pos (by omega)
      have hqn : (if b ≤ qu sn then b else qu sn) ≤ 2 := by split <;> omega
      obtain ⟨k1, o1, w1, O1, W1, v1, t1, t2, t3, t4, t5⟩ := pq_send HO HW HK HL (show d < 4 by omega) s1 s2 hqn (show (0 : Nat) ≤ 1 by omega) (hl d (Nat.le_refl d) (by omega))
      obtain ⟨k', o', w', O', W', ov', c1, c2, c3, c4, c5, c6, c7⟩ := ih (d + 1) (by omega) k1 o1 w1 (fu O (4 + d) O1) (fu W (4 + d) W1) rc ac (fu ov d v1) t2 t3 t4 (fun d' h1 h2 => by rw [fu_n (by omega)]; exact hl d' (by omega) h2)
      refine ⟨k', o', w', O', W', ov', c1, c2, c3, fun x hx => ?_, fun d' h => ?_, fun d' h1 h2 => ?_, fun r h post hp => br_f h4 ⟨i25, ?_⟩⟩
      · have := c4 x (by omega)
        rw [fu_n (by omega), fu_n (by omega)] at this
        exact this
      · have := c5 d' (by omega)
        rw [fu_n (by omega)] at this
        exact this
      · by_cases e : d' = d
        · subst e
          have h5 := c4 (4 + d') (by omega)
          have h6 := c5 d' (by omega)
          rw [fu_s, fu_s] at h5
          rw [fu_s] at h6
          rw [h5.1, h5.2, h6]
          exact Or.inr ⟨b, b2, hex, hall, t1⟩
        · have := c6 d' (by omega) h2
          rw [fu_n (by omega), fu_n (by omega), fu_n (by omega)] at this
          exact this
      · rw [vT, vQ]
        refine bX p k r l o h w _ (br_f hb0 ⟨i25, ?_⟩)
        have t5' := t5
        by_cases hle : b ≤ qu sn
        · rw [if_pos hle] at t5'
          exact br_t (nI_le hle (by omega)) (t5' p r s h _ (nm_r (nI_1 _) (c7 r h post hp)))
        · rw [if_neg hle] at t5'
          exact br_f (nI_ge (by omega) (by omega)) (t5' p r s h _ (nm_r (nI_1 _) (c7 r h post hp)))
theorem pq_acc {p : TP} {l s : TL} {k : TK} {r : TR} {o : TO} {w : TW} {n : Nat} {tp : Nat → Int32} {qu : Nat → Nat} {up se pe : Nat → Bool} {S : Nat → List (Int32 × Nat)} {O W : Nat → List N5} {rc : Nat → Nat → Nat} {ac ov : Nat → Nat} (HP : pc_P p n tp qu) (HL : pc_L l up se pe) (HS : pc_S s S) (HR : pc_R r) (HO : pc_O o O) (HW : pc_W w W) (HK : pc_K k rc ac ov) {sn : Nat} (s1 : 1 ≤ sn) (s2 : sn ≤ 24) (hl : ∀ d, d < 4 → (W (4 + d)).length < 32) :
    ∃ (k' : TK) (r' : TR) (o' : TO) (w' : TW) (O' W' : Nat → List N5) (ov' : Nat → Nat), pc_R r' ∧ pc_O o' O' ∧ pc_W w' W' ∧ pc_K k' rc (fu ac sn (ac sn + 1)) ov' ∧ (∀ x, x < 4 → O' x = O x ∧ W' x = W x) ∧ (∀ d, d < 4 → ACD (S d) (tp sn) (qu sn) (up d) sn (O (4 + d)) (W (4 + d)) (ov d) (O' (4 + d)) (W' (4 + d)) (ov' d))
      ∧ (∀ (h : TA) (post : St1 → Prop), post (XS p k' r' l s o' h w') → wpX_acceptSerial post (XS p k r l s o h w) (nI sn)) := by
  have cs : (nI sn).toNatClampNeg = sn := nI_clamp (by omega)
  have i25 : vp_in (nI sn) 25 := vp_in_nI (by omega) (by omega)
  have K1 : pc_K (k.1, k.2.1, upd k.2.2.1 sn (nI (ac sn + 1)), k.2.2.2) rc (fu ac sn (ac sn + 1)) ov := by
    refine ⟨HK.1, fun s' hs' => ?_, HK.2.2⟩
    show upd k.2.2.1 sn (nI (ac sn + 1)) s' = nI (fu ac sn (ac sn + 1) s')
    by_cases e : s' = sn
    · rw [e, pk_us, fu_s]
    · rw [pk_un e, fu_n e]; exact HK.2.1 s' hs'
  have eK : upd k.2.2.1 (nI sn).toNatClampNeg (k.2.2.1 (nI sn).toNatClampNeg + 1) = upd k.2.2.1 sn (nI (ac sn + 1)) := by rw [cs, HK.2.1 sn s2, nI_1]
  obtain ⟨k', o', w', O', W', ov', c1, c2, c3, c4, c5, c6, c7⟩ := pq_acl HP HL HS s1 s2 4 0 (by omega) _ o w O W rc _ ov HO HW K1 (fun d' _ h => hl d' h)
  by_cases hr : p.2.2.2.2 (nI sn).toNatClampNeg = 0
  · exact ⟨k', r, o', w', O', W', ov', HR, c1, c2, c3, fun x hx => c4 x (by omega), fun d hd => c6 d (by omega) hd, fun h post hp => ⟨i25, i25, nm_r eK ⟨i25, br_t hr ⟨5, c7 r h post hp⟩⟩⟩⟩
  · obtain ⟨r', d1, d2⟩ := pq_upd (p := p) HR s1 s2
    exact ⟨k', r', o', w', O', W', ov', d1, c1, c2, c3, fun x hx => c4 x (by omega), fun d hd => c6 d (by omega) hd, fun h post hp => ⟨i25, i25, nm_r eK ⟨i25, br_f hr (d2 (k.1, k.2.1, upd k.2.2.1 sn (nI (ac sn + 1)), k.2.2.2) l s o h w _ ⟨5, c7 r' h post hp⟩)⟩⟩⟩
/-- a delivery -/
theorem pq_dlv {k : TK} {rc : Nat → Nat → Nat} {ac ov : Nat → Nat} (HK : pc_K k rc ac ov) {c sn mn : Nat} (hc : c < 4) (s1 : 1 ≤ sn) (s2 : sn ≤ 24) (hm : mn ≤ 1) : ∃ k', pc_K k' (if mn = 0 then fu rc c (fu (rc c) sn (rc c sn + 1)) else rc) ac ov
    ∧ ∀ (p : TP) (r : TR) (l s : TL) (o : TO) (h : TA) (w : TW) (post : St1 → Prop), post (XS p k' r l s o h w) → wpX_deliver post (XS p k r l s o h w) (nI c) (nI sn) (nI mn) := by
  have eX : nI c * 25 + nI sn = nI (c * 25 + sn) := by rw [pn_m25, nI_add]
  have ix : vp_in (nI c * 25 + nI sn) 100 := by rw [eX]; exact vp_in_nI (by omega) (by omega)
  have cx : (nI c * 25 + nI sn).toNatClampNeg = c * 25 + sn := by rw [eX]; exact nI_clamp (by omega)
  have cc : (nI c).toNatClampNeg = c := nI_clamp (by omega)
  have i4 : vp_in (nI c) 4 := vp_in_nI hc (by omega)
  by_cases h0 : mn = 0
  · subst h0
    rw [if_pos rfl]
    refine ⟨(upd k.1 (c * 25 + sn) (nI (rc c sn + 1)), k.2), ⟨fun c' s' hc' hs' => ?_, HK.2.1, HK.2.2⟩, fun p r l s o h w post hp => br_t rfl ⟨ix, ix, nm_r (by rw [cx, HK.1 c sn hc s2, nI_1]) hp⟩⟩
    show upd k.1 (c * 25 + sn) (nI (rc c sn + 1)) (c' * 25 + s') = _
    by_cases e : c' = c
    · subst e
      rw [fu_s]
      by_cases es : s' = sn
      · rw [es, pk_us, fu_s]
      · rw [pk_un (by omega), fu_n es]; exact HK.1 c' s' hc' hs'
    · rw [fu_n e, pk_un (by omega)]; exact HK.1 c' s' hc' hs'
  · rw [if_neg h0]
    have hm1 : ¬ nI mn = 0 := nI_ne0 (by omega) (by omega)
    exact ⟨(k.1, upd k.2.1 c (k.2.1 c + 1), k.2.2), ⟨HK.1, HK.2.1, HK.2.2⟩, fun p r l s o h w post hp => br_f hm1 ⟨i4, i4, nm_r (by rw [cc]) hp⟩⟩
/-! a packet moved: the walk up to its handling -/
theorem px_tb {p : TP} {k : TK} {r : TR} {l s : TL} {o : TO} {h : TA} {w : TW} {c d : Nat} {w' : TW} {t : N5} {up se pe : Nat → Bool} {H : Nat → Nat → Bool} {W : Nat → List N5} (HL : pc_L l up se pe) (HH : pc_H h H) (HW : pc_W w W) (hc : c < 4) (hu : up c = true) (hne : W c ≠ []) (hok : pw_ok t) (hd : d < 32) (ht : ps_w5 w (c * 32 + d) = cv t) (hold : ∀ post : Int32 → Prop, post (nI (c * 32 + d)) → wpX_oldestPacket post (XS p k r l s o h w) (nI c)) (hrem : ∀ post : St1 → Prop, post (XS p k r l s o h w') → wpX_removeOldestPacket post (XS p k r l s o h w) (nI c)) {post : Int32 → St1 → Prop}
    (h0 : (¬ t.1 = 1 ∨ (t.2.2.2.1 = 2 ∧ H (4 + c) t.2.1 = true)) → wpX_answerPacket (fun u => post (nI t.1) u) (XS p k r l s o h w') (nI (4 + c)) (nI t.1) (nI t.2.1) (nI t.2.2.2.1))
    (h1 : t.1 = 1 → (t.2.2.2.1 = 2 → H (4 + c) t.2.1 = false) → wpX_acceptSerial (fun u => wpX_answerPacket (fun u => post (nI t.1) u) u (nI (4 + c)) (nI t.1) (nI t.2.1) (nI t.2.2.2.1)) (XS p k r l s o h w') (nI t.2.2.1)) : wpX_toBroker post (XS p k r l s o h w) (nI c) := by
  obtain ⟨_, _, _, _, _, hcnt, _⟩ := HW.1 c (by omega)
  obtain ⟨k1, k5, i16, _, _, q2, _, hid, hid2⟩ := hok
  have hlen : 0 < (W c).length := List.length_pos_iff.mpr hne
  have hl32 := (HW.1 c (by omega)).1
  have cc : (nI c).toNatClampNeg = c := nI_clamp (by omega)
  have ic : vp_in (nI (c * 32 + d)) 256 := vp_in_nI (by omega) (by omega)
  have cd : (nI (c * 32 + d)).toNatClampNeg = c * 32 + d := nI_clamp (by omega)
  simp only [ps_w5, ps_5, cv, Prod.mk.injEq] at ht
  obtain ⟨t1, t2, t3, t4, t5⟩ := ht
  have eK : nI t.1 = 1 ↔ t.1 = 1 := nI_eq (b := 1) (by omega) (by omega)
  have eQ : nI t.2.2.2.1 = 2 ↔ t.2.2.2.1 = 2 := nI_eq (b := 2) (by omega) (by omega)
  have hi1 : 1 ≤ t.2.1 ∨ ¬ nI t.2.2.2.1 = 2 := by
    by_cases a : t.1 = 1
    · rcases hid a with z | z
      · refine Or.inr ?_
        rw [eQ]
        omega
      · exact Or.inl z
    · exact Or.inl (hid2 a)
  unfold wpX_toBroker
  exact px_li1 (p := p) (k := k) (r := r) (l := l) (s := s) (o := o) (h := h) (w := w) HL hc hu (br_f (by decide) ⟨vp_in_nI (by omega) (by omega), br_f (by rw [cc, hcnt]; exact nI_ne0 hlen (by omega)) (nm_r (pn_4a c) (hold _ ⟨ic, nm_r (by rw [cd, t1]) ⟨ic, nm_r (by rw [cd, t2]) ⟨ic, nm_r (by rw [cd, t4]) ⟨ic, nm_r (by rw [cd, t3]) (hrem _ (px_tk (p := p) (k := k) (r := r) (l := l) (s := s) (o := o) (h := h) (w := w') HH (by omega) hi1 i16 (fun a => br_t rfl (h0 (a.elim (fun z => Or.inl (fun y => z (eK.mpr y))) (fun z => Or.inr ⟨eQ.mp z.1, z.2⟩)))) (fun a b => br_f (by decide) (h1 (eK.mp a) (fun y => b (eQ.mpr y))))))⟩⟩⟩⟩))⟩)
theorem px_tc {p : TP} {k : TK} {r : TR} {l s : TL} {o : TO} {h : TA} {w : TW} {c d : Nat} {w' : TW} {t : N5} {up se pe : Nat → Bool} {H : Nat → Nat → Bool} {W : Nat → List N5} (HL : pc_L l up se pe) (HH : pc_H h H) (HW : pc_W w W) (hc : c < 4) (hu : up c = true) (hne : W (4 + c) ≠ []) (hok : pw_ok t) (hd : d < 32) (ht : ps_w5 w ((4 + c) * 32 + d) = cv t) (hold : ∀ post : Int32 → Prop, post (nI ((4 + c) * 32 + d)) → wpX_oldestPacket post (XS p k r l s o h w) (nI (4 + c))) (hrem : ∀ post : St1 → Prop, post (XS p k r l s o h w') → wpX_removeOldestPacket post (XS p k r l s o h w) (nI (4 + c))) {post : Int32 → St1 → Prop}
    (h0 : (¬ t.1 = 1 ∨ (t.2.2.2.1 = 2 ∧ H c t.2.1 = true)) → wpX_answerPacket (fun u => post (nI t.1) u) (XS p k r l s o h w') (nI c) (nI t.1) (nI t.2.1) (nI t.2.2.2.1))
    (h1 : t.1 = 1 → (t.2.2.2.1 = 2 → H c t.2.1 = false) → wpX_deliver (fun u => wpX_answerPacket (fun u => post (nI t.1) u) u (nI c) (nI t.1) (nI t.2.1) (nI t.2.2.2.1)) (XS p k r l s o h w') (nI c) (nI t.2.2.1) (nI t.2.2.2.2)) : wpX_toClient post (XS p k r l s o h w) (nI c) := by
  obtain ⟨_, _, _, _, _, hcnt, _⟩ := HW.1 (4 + c) (by omega)
  obtain ⟨k1, k5, i16, _, _, q2, _, hid, hid2⟩ := hok
  have hlen : 0 < (W (4 + c)).length := List.length_pos_iff.mpr hne
  have hl32 := (HW.1 (4 + c) (by omega)).1
  have cc : (nI (4 + c)).toNatClampNeg = 4 + c := nI_clamp (by omega)
  have ic : vp_in (nI ((4 + c) * 32 + d)) 256 := vp_in_nI (by omega) (by omega)
  have cd : (nI ((4 + c) * 32 + d)).toNatClampNeg = (4 + c) * 32 + d := nI_clamp (by omega)
  simp only [ps_w5, ps_5, cv, Prod.mk.injEq] at ht
  obtain ⟨t1, t2, t3, t4, t5⟩ := ht
  have eK : nI t.1 = 1 ↔ t.1 = 1 := nI_eq (b := 1) (by omega) (by omega)
  have eQ : nI t.2.2.2.1 = 2 ↔ t.2.2.2.1 = 2 := nI_eq (b := 2) (by omega) (by omega)
  have hi1 : 1 ≤ t.2.1 ∨ ¬ nI t.2.2.2.1 = 2 := by
    by_cases a : t.1 = 1
    · rcases hid a with z | z
      · refine Or.inr ?_
        rw [eQ]
        omega
      · exact Or.inl z
    · exact Or.inl (hid2 a)
  unfold wpX_toClient
  exact nm_r (pn_4a c) (px_li1 (p := p) (k := k) (r := r) (l := l) (s := s) (o := o) (h := h) (w := w) HL hc hu (br_f (by decide) ⟨vp_in_nI (by omega) (by omega), br_f (by rw [cc, hcnt]; exact nI_ne0 hlen (by omega)) (hold _ ⟨ic, nm_r (by rw [cd, t1]) ⟨ic, nm_r (by rw [cd, t2]) ⟨ic, nm_r (by rw [cd, t4]) ⟨ic, nm_r (by rw [cd, t3]) ⟨ic, nm_r (by rw [cd, t5]) (hrem _ (px_tk (p := p) (k := k) (r := r) (l := l) (s := s) (o := o) (h := h) (w := w') HH (by omega) hi1 i16 (fun a => br_t rfl (h0 (a.elim (fun z => Or.inl (fun y => z (eK.mpr y))) (fun z => Or.inr ⟨eQ.mp z.1, z.2⟩)))) (fun a b => br_f (by decide) (h1 (eK.mp a) (fun y => b (eQ.mpr y))))))⟩⟩⟩⟩⟩)⟩))
end Q11
