section P16
/-! the relation -/
def i_Rel (_ : Nat) (u : SX) (v : SY) : Prop := ∃ (p : TP) (k : TK) (r q : TR) (l s : TL) (o e : TO) (h g m : TA) (w : TW) (z : TO) (t : T5), u = XS p k r l s o h w ∧ v = YS p k q l s e g m z t ∧ ps_IP p ∧ ps_IL l s ∧ ps_RR r q ∧ ps_GO o e ∧ ps_GH h g m ∧ ps_GW w z
theorem i_up {k : Nat} {u : SX} {v : SY} (h : i_Rel k u v) : i_Rel (k + 5) u v := h
theorem ir_mk {n : Nat} {p : TP} {k : TK} {r q : TR} {l s : TL} {o e : TO} {h g m : TA} {w : TW} {z : TO} {t : T5} (HP : ps_IP p) (HL : ps_IL l s) (HR : ps_RR r q) (HO : ps_GO o e) (HH : ps_GH h g m) (HW : ps_GW w z) : i_Rel n (XS p k r l s o h w) (YS p k q l s e g m z t) := ⟨p, k, r, q, l, s, o, e, h, g, m, w, z, t, rfl, rfl, HP, HL, HR, HO, HH, HW⟩
def ps_z : TA := fun _ => 0
theorem i_vc0 : wpX_init (fun u => wpY_init (fun v => i_Rel 0 u v)) := by
  refine ⟨(0, ps_z, ps_z, ps_z, ps_z), (ps_z, ps_z, ps_z, ps_z), (0, ps_z, ps_z), (0, ps_z, ps_z), (ps_z, ps_z, ps_z), (ps_z, ps_z, ps_z), (ps_z, ps_z, ps_z, ps_z, ps_z, ps_z), (ps_z, ps_z, ps_z, ps_z, ps_z, ps_z), ps_z, ps_z, ps_z, (ps_z, ps_z, ps_z, ps_z, ps_z, ps_z, ps_z), (ps_z, ps_z, ps_z, ps_z, ps_z, ps_z), (0, 0, 0, 0, 0), rfl, rfl, ?_, ?_, ?_, ?_, ?_, ?_⟩
  · exact ⟨0, by omega, rfl, fun i => ⟨⟨0, by omega, rfl⟩, Or.inl rfl⟩⟩
  · exact fun c hc => ⟨fun h => absurd rfl h, fun h => absurd rfl h, 0, by omega, rfl, fun _ => rfl, fun j hj => absurd hj (by omega)⟩
  · exact ⟨0, rfl, rfl, by omega, fun i hi => absurd hi (by omega), fun i hi => absurd hi (by omega), fun i j _ hj => absurd hj (by omega), fun i j _ hj => absurd hj (by omega), fun i hi => absurd hi (by omega), fun i hi => absurd hi (by omega)⟩
  · exact ⟨fun c b hc hb => ⟨0, fun _ => by omega, rfl, rfl, ps_O_0⟩, fun i => Or.inl rfl, fun i => Or.inl rfl⟩
  · exact ⟨fun c b hc hb => ⟨0, rfl, ps_H_0 (fun i _ _ => rfl)⟩, fun i => Or.inl rfl⟩
  · exact ⟨fun c b hc hb => ⟨0, 0, rfl, rfl, rfl, ps_Q_0 (by omega)⟩, fun i => Or.inl rfl, fun i => Or.inl rfl⟩
/-! a packet moved -/
theorem px_tk {p : TP} {k : TK} {r : TR} {l s : TL} {o : TO} {h : TA} {w : TW} {x i : Nat} {K Q : Int32} (hx : x < 8) (hi : i ≤ 16) {post : Int32 → Prop} (h0 : (¬ K = 1 ∨ (Q = 2 ∧ ¬ h (x * 17 + i) = 0)) → post 0) (h1 : K = 1 → (Q = 2 → h (x * 17 + i) = 0) → post 1) : wpX_isTaken post (XS p k r l s o h w) (nI x) K (nI i) Q := by
  have eX : nI x * 17 + nI i = nI (x * 17 + i) := by rw [pn_m17, nI_add]
  have ix : vp_in (nI x * 17 + nI i) 136 := by rw [eX]; exact vp_in_nI (by omega) (by omega)
  have cx : (nI x * 17 + nI i).toNatClampNeg = x * 17 + i := by rw [eX]; exact nI_clamp (by omega)
  exact br_c (fun a => br_c (fun b => ⟨ix, br_c (fun d => h1 a (fun _ => by rw [cx] at d; exact d)) fun d => h0 (Or.inr ⟨b, by rw [cx] at d; exact d⟩)⟩) fun b => h1 a (fun z => absurd z b)) fun a => h0 (Or.inl a)
theorem px_tb {p : TP} {k : TK} {r : TR} {l s : TL} {o : TO} {h : TA} {w : TW} {c d i : Nat} {w' : TW} {K S Q M : Int32} (hc : c < 4) (hl : ¬ l.1 c = 0) (hw : ¬ w.2.1 c = 0) (hd : d < 32) (ht : ps_w5 w (c * 32 + d) = (K, nI i, S, Q, M)) (hi : i ≤ 16) (hold : ∀ post : Int32 → Prop, post (nI (c * 32 + d)) → wpX_oldestPacket post (XS p k r l s o h w) (nI c)) (hrem : ∀ post : SX → Prop, post (XS p k r l s o h w') → wpX_removeOldestPacket post (XS p k r l s o h w) (nI c)) {post : Int32 → SX → Prop}
    (h0 : (¬ K = 1 ∨ (Q = 2 ∧ ¬ h ((4 + c) * 17 + i) = 0)) → wpX_answerPacket (fun u => post K u) (XS p k r l s o h w') (nI (4 + c)) K (nI i) Q)
    (h1 : K = 1 → (Q = 2 → h ((4 + c) * 17 + i) = 0) → wpX_acceptSerial (fun u => wpX_answerPacket (fun u => post K u) u (nI (4 + c)) K (nI i) Q) (XS p k r l s o h w') S) : wpX_toBroker post (XS p k r l s o h w) (nI c) := by
  have cc : (nI c).toNatClampNeg = c := nI_clamp (by omega)
  have ic : vp_in (nI (c * 32 + d)) 256 := vp_in_nI (by omega) (by omega)
  have cd : (nI (c * 32 + d)).toNatClampNeg = c * 32 + d := nI_clamp (by omega)
  simp only [ps_w5, ps_5, Prod.mk.injEq] at ht
  obtain ⟨t1, t2, t3, t4, t5⟩ := ht
  unfold wpX_toBroker
  exact px_li1 (p := p) (k := k) (r := r) (l := l) (s := s) (o := o) (h := h) (w := w) hc hl (br_f (by decide) ⟨vp_in_nI (by omega) (by omega), br_f (by rw [cc]; exact hw) (nm_r (pn_4a c) (hold _ ⟨ic, nm_r (by rw [cd, t1]) ⟨ic, nm_r (by rw [cd, t2]) ⟨ic, nm_r (by rw [cd, t4]) ⟨ic, nm_r (by rw [cd, t3]) (hrem _ (px_tk (p := p) (k := k) (r := r) (l := l) (s := s) (o := o) (h := h) (w := w') (by omega) hi (fun a => br_t rfl (h0 a)) (fun a b => br_f (by decide) (h1 a b))))⟩⟩⟩⟩))⟩)
theorem px_tc {p : TP} {k : TK} {r : TR} {l s : TL} {o : TO} {h : TA} {w : TW} {c d i : Nat} {w' : TW} {K S Q M : Int32} (hc : c < 4) (hl : ¬ l.1 c = 0) (hw : ¬ w.2.1 (4 + c) = 0) (hd : d < 32) (ht : ps_w5 w ((4 + c) * 32 + d) = (K, nI i, S, Q, M)) (hi : i ≤ 16) (hold : ∀ post : Int32 → Prop, post (nI ((4 + c) * 32 + d)) → wpX_oldestPacket post (XS p k r l s o h w) (nI (4 + c))) (hrem : ∀ post : SX → Prop, post (XS p k r l s o h w') → wpX_removeOldestPacket post (XS p k r l s o h w) (nI (4 + c))) {post : Int32 → SX → Prop}
    (h0 : (¬ K = 1 ∨ (Q = 2 ∧ ¬ h (c * 17 + i) = 0)) → wpX_answerPacket (fun u => post K u) (XS p k r l s o h w') (nI c) K (nI i) Q)
    (h1 : K = 1 → (Q = 2 → h (c * 17 + i) = 0) → wpX_deliver (fun u => wpX_answerPacket (fun u => post K u) u (nI c) K (nI i) Q) (XS p k r l s o h w') (nI c) S M) : wpX_toClient post (XS p k r l s o h w) (nI c) := by
  have cc : (nI (4 + c)).toNatClampNeg = 4 + c := nI_clamp (by omega)
  have ic : vp_in (nI ((4 + c) * 32 + d)) 256 := vp_in_nI (by omega) (by omega)
  have cd : (nI ((4 + c) * 32 + d)).toNatClampNeg = (4 + c) * 32 + d := nI_clamp (by omega)
  simp only [ps_w5, ps_5, Prod.mk.injEq] at ht
  obtain ⟨t1, t2, t3, t4, t5⟩ := ht
  unfold wpX_toClient
  exact nm_r (pn_4a c) (px_li1 (p := p) (k := k) (r := r) (l := l) (s := s) (o := o) (h := h) (w := w) hc hl (br_f (by decide) ⟨vp_in_nI (by omega) (by omega), br_f (by rw [cc]; exact hw) (hold _ ⟨ic, nm_r (by rw [cd, t1]) ⟨ic, nm_r (by rw [cd, t2]) ⟨ic, nm_r (by rw [cd, t4]) ⟨ic, nm_r (by rw [cd, t3]) ⟨ic, nm_r (by rw [cd, t5]) (hrem _ (px_tk (p := p) (k := k) (r := r) (l := l) (s := s) (o := o) (h := h) (w := w') (by omega) hi (fun a => br_t rfl (h0 a)) (fun a b => br_f (by decide) (h1 a b))))⟩⟩⟩⟩⟩)⟩))
theorem i_vc_toBroker {k : Nat} {u : SX} {v : SY} (I : i_Rel k u v) (hk : k + 5 ≤ 2560) (v1 : Int32) : wpX_toBroker (fun r u' => wpY_toBroker (fun r' v' => r' = r ∧ i_Rel (k + 5) u' v') v v1) u v1 := by
  obtain ⟨p, kk, r, q, l, s, o, e, h, g, m, w, z, t, rfl, rfl, HP, HL, HR, HO, HH, HW⟩ := I
  have R : i_Rel (k + 5) (XS p kk r l s o h w) (YS p kk q l s e g m z t) := ir_mk HP HL HR HO HH HW
  rcases pr_cl v1 with ⟨cX, cY⟩ | ⟨c, hc, rfl, cX, cY⟩
  · unfold wpX_toBroker wpX_isLinked
    exact cX _ (br_t rfl (br_t rfl (by unfold wpY_toBroker; exact cY _ _ (br_f (by decide) ⟨rfl, R⟩))))
  · have cc : (nI c).toNatClampNeg = c := nI_clamp (by omega)
    have i4 : vp_in (nI c) 4 := vp_in_nI hc (by omega)
    have i8 : vp_in (nI c) 8 := vp_in_nI (by omega) (by omega)
    have e0 : 4 * 0 + c = c := by omega
    have cy : (nI c * 2).toNatClampNeg = 2 * c + 0 := by rw [pn_m2]; exact nI_clamp (by omega)
    have y8 : vp_in (nI c * 2) 8 := by rw [pn_m2]; exact vp_in_nI (by omega) (by omega)
    have hemp := pr_emp HW hc (b := 0) (by omega)
    rw [e0] at hemp
    by_cases hl : l.1 c = 0
    · unfold wpX_toBroker
      exact px_li0 (p := p) (k := kk) (r := r) (l := l) (s := s) (o := o) (h := h) (w := w) hc hl (br_t rfl (by unfold wpY_toBroker; exact cY _ _ (br_t rfl ⟨i4, br_t (by rw [cc]; exact hl) ⟨rfl, R⟩⟩)))
    · have hl' : ¬ l.1 (nI c).toNatClampNeg = 0 := by rw [cc]; exact hl
      by_cases hw : w.2.1 c = 0
      · unfold wpX_toBroker
        exact px_li1 (p := p) (k := kk) (r := r) (l := l) (s := s) (o := o) (h := h) (w := w) hc hl (br_f (by decide) ⟨i8, br_t (by rw [cc]; exact hw) (by unfold wpY_toBroker; exact cY _ _ (br_t rfl ⟨i4, br_f hl' ⟨y8, br_t (by rw [cy, ← hemp]; exact hw) ⟨rfl, R⟩⟩⟩))⟩)
      · have hz : ¬ z.1 (nI c * 2).toNatClampNeg = 0 := by rw [cy, ← hemp]; exact hw
        obtain ⟨w', z', ⟨K, I, S, Q, M⟩, d, W1, PV, hd, hwt, oX, rX, pY⟩ := pr_pop HW hc (b := 0) (by omega) (by rw [e0]; exact hw)
        rw [e0] at hwt oX rX
        obtain ⟨⟨i, hi, hI, pv1, pv2⟩, hM⟩ := PV
        simp only at hI pv1 pv2 hM
        subst hI
        have yb : nI c * 2 = nI (2 * c + 0) := pn_m2 c
        by_cases k1 : K = 1
        · subst k1
          obtain ⟨⟨sn, s1, s2, hS⟩, hQ⟩ := pv1 rfl
          subst hS
          obtain ⟨k', r', q', o', e', w1, z1, A1, A2, A3, aX, aY⟩ := pr_acc HP HL (k := kk) HR HO W1 s1 s2
          obtain ⟨k2, r2, q2, o2, e2, h2, g2, m2, w2, z2, B1, B2, B3, B4, bX, bY⟩ := pr_pub HR HO HH W1 A1 A2 A3 hc (b := 1) (by omega) hi (M := M) hQ (fun post u => wpX_acceptSerial post u (nI sn)) aX (fun g m t post hp => br_t rfl (aY g m t _ hp))
          have hY : wpY_toBroker (fun r' v' => r' = 1 ∧ i_Rel (k + 5) (XS p k2 r2 l s o2 h2 w2) v') (YS p kk q l s e g m z t) (nI c) := by unfold wpY_toBroker; exact cY _ _ (br_t rfl ⟨i4, br_f hl' ⟨y8, br_f hz (by rw [yb]; exact pY p kk q l s e g m t _ (bY _ _ ⟨rfl, ir_mk HP HL B1 B2 B3 B4⟩))⟩⟩)
          have hX := bX (fun u => wpY_toBroker (fun r' v' => r' = 1 ∧ i_Rel (k + 5) u v') (YS p kk q l s e g m z t) (nI c)) hY
          exact px_tb hc hl hw hd hwt hi (oX p kk r l s o h) (rX p kk r l s o h) (fun a => hX.2 (a.resolve_left (fun z => z rfl))) (fun _ a => hX.1 a)
        · obtain ⟨o2, e2, h2, g2, m2, w2, z2, B2, B3, B4, bX, bY⟩ := pr_ans HO HH W1 hc (b := 1) (by omega) (t := (K, nI i, S, Q, M)) ⟨⟨i, hi, rfl, pv1, pv2⟩, hM⟩ k1
          have hY : wpY_toBroker (fun r' v' => r' = K ∧ i_Rel (k + 5) (XS p kk r l s o2 h2 w2) v') (YS p kk q l s e g m z t) (nI c) := by unfold wpY_toBroker; exact cY _ _ (br_t rfl ⟨i4, br_f hl' ⟨y8, br_f hz (by rw [yb]; exact pY p kk q l s e g m t _ (bY p kk q l s _ S M _ ⟨rfl, ir_mk HP HL HR B2 B3 B4⟩))⟩⟩)
          exact px_tb hc hl hw hd hwt hi (oX p kk r l s o h) (rX p kk r l s o h) (fun _ => bX p kk r l s _ hY) (fun a => absurd a k1)
theorem i_vc_toClient {k : Nat} {u : SX} {v : SY} (I : i_Rel k u v) (hk : k + 5 ≤ 2560) (v1 : Int32) : wpX_toClient (fun r u' => wpY_toClient (fun r' v' => r' = r ∧ i_Rel (k + 5) u' v') v v1) u v1 := by
  obtain ⟨p, kk, r, q, l, s, o, e, h, g, m, w, z, t, rfl, rfl, HP, HL, HR, HO, HH, HW⟩ := I
  have R : i_Rel (k + 5) (XS p kk r l s o h w) (YS p kk q l s e g m z t) := ir_mk HP HL HR HO HH HW
  rcases pr_cl v1 with ⟨cX, cY⟩ | ⟨c, hc, rfl, cX, cY⟩
  · unfold wpX_toClient wpX_isLinked
    exact nm_e (cX _ (br_t rfl (br_t rfl (by unfold wpY_toClient; exact cY _ _ (br_f (by decide) ⟨rfl, R⟩)))))
  · have cc : (nI c).toNatClampNeg = c := nI_clamp (by omega)
    have c4 : (nI (4 + c)).toNatClampNeg = 4 + c := nI_clamp (by omega)
    have i4 : vp_in (nI c) 4 := vp_in_nI hc (by omega)
    have i8 : vp_in (nI (4 + c)) 8 := vp_in_nI (by omega) (by omega)
    have e1 : 4 * 1 + c = 4 + c := by omega
    have e0 : 4 * 0 + c = c := by omega
    have cy : (nI c * 2 + 1).toNatClampNeg = 2 * c + 1 := by rw [pn_y1]; exact nI_clamp (by omega)
    have y8 : vp_in (nI c * 2 + 1) 8 := by rw [pn_y1]; exact vp_in_nI (by omega) (by omega)
    have hemp := pr_emp HW hc (b := 1) (by omega)
    rw [e1] at hemp
    by_cases hl : l.1 c = 0
    · unfold wpX_toClient
      exact nm_r (pn_4a c) (px_li0 (p := p) (k := kk) (r := r) (l := l) (s := s) (o := o) (h := h) (w := w) hc hl (br_t rfl (by unfold wpY_toClient; exact cY _ _ (br_t rfl ⟨i4, br_t (by rw [cc]; exact hl) ⟨rfl, R⟩⟩))))
    · have hl' : ¬ l.1 (nI c).toNatClampNeg = 0 := by rw [cc]; exact hl
      by_cases hw : w.2.1 (4 + c) = 0
      · unfold wpX_toClient
        exact nm_r (pn_4a c) (px_li1 (p := p) (k := kk) (r := r) (l := l) (s := s) (o := o) (h := h) (w := w) hc hl (br_f (by decide) ⟨i8, br_t (by rw [c4]; exact hw) (by unfold wpY_toClient; exact cY _ _ (br_t rfl ⟨i4, br_f hl' ⟨y8, br_t (by rw [cy, ← hemp]; exact hw) ⟨rfl, R⟩⟩⟩))⟩))
      · have hz : ¬ z.1 (nI c * 2 + 1).toNatClampNeg = 0 := by rw [cy, ← hemp]; exact hw
        obtain ⟨w', z', ⟨K, I, S, Q, M⟩, d, W1, PV, hd, hwt, oX, rX, pY⟩ := pr_pop HW hc (b := 1) (by omega) (by rw [e1]; exact hw)
        rw [e1] at hwt oX rX
        obtain ⟨⟨i, hi, hI, pv1, pv2⟩, hM⟩ := PV
        simp only at hI pv1 pv2 hM
        subst hI
        have yb : nI c * 2 + 1 = nI (2 * c + 1) := pn_y1 c
        by_cases k1 : K = 1
        · subst k1
          obtain ⟨⟨sn, s1, s2, hS⟩, hQ⟩ := pv1 rfl
          subst hS
          obtain ⟨k', aX, aY⟩ := pr_dlv (k := kk) hc s1 s2 M
          obtain ⟨k2, r2, q2, o2, e2, h2, g2, m2, w2, z2, B1, B2, B3, B4, bX, bY⟩ := pr_pub (p := p) (l := l) (s := s) (k' := k') HR HO HH W1 HR HO W1 hc (b := 0) (by omega) hi (S := nI sn) (M := M) hQ (fun post u => wpX_deliver post u (nI c) (nI sn) M) (fun h post hp => aX p r l s o h w' post hp) (fun g m t post hp => aY p q l s e g m z' t post hp)
          rw [e0] at bX
          have hY : wpY_toClient (fun r' v' => r' = 1 ∧ i_Rel (k + 5) (XS p k2 r2 l s o2 h2 w2) v') (YS p kk q l s e g m z t) (nI c) := by unfold wpY_toClient; exact cY _ _ (br_t rfl ⟨i4, br_f hl' ⟨y8, br_f hz (by rw [yb]; exact pY p kk q l s e g m t _ (bY _ _ ⟨rfl, ir_mk HP HL B1 B2 B3 B4⟩))⟩⟩)
          have hX := bX (fun u => wpY_toClient (fun r' v' => r' = 1 ∧ i_Rel (k + 5) u v') (YS p kk q l s e g m z t) (nI c)) hY
          exact px_tc hc hl hw hd hwt hi (oX p kk r l s o h) (rX p kk r l s o h) (fun a => hX.2 (a.resolve_left (fun z => z rfl))) (fun _ a => hX.1 a)
        · obtain ⟨o2, e2, h2, g2, m2, w2, z2, B2, B3, B4, bX, bY⟩ := pr_ans HO HH W1 hc (b := 0) (by omega) (t := (K, nI i, S, Q, M)) ⟨⟨i, hi, rfl, pv1, pv2⟩, hM⟩ k1
          rw [e0] at bX
          have hY : wpY_toClient (fun r' v' => r' = K ∧ i_Rel (k + 5) (XS p kk r l s o2 h2 w2) v') (YS p kk q l s e g m z t) (nI c) := by unfold wpY_toClient; exact cY _ _ (br_t rfl ⟨i4, br_f hl' ⟨y8, br_f hz (by rw [yb]; exact pY p kk q l s e g m t _ (bY p kk q l s _ S M _ ⟨rfl, ir_mk HP HL HR B2 B3 B4⟩))⟩⟩)
          exact px_tc hc hl hw hd hwt hi (oX p kk r l s o h) (rX p kk r l s o h) (fun _ => bX p kk r l s _ hY) (fun a => absurd a k1)
end P16
