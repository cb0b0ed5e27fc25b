section P15
theorem px_ap0 {p : TP} {k : TK} {r : TR} {l s : TL} {o : TO} {h : TA} {w : TW} {x : Nat} {I Q : Int32} (q1 : ¬ Q = 1) (q2 : ¬ Q = 2) {post : SX → Prop} (hp : post (XS p k r l s o h w)) : wpX_answerPacket post (XS p k r l s o h w) (nI x) 1 I Q := br_f (by decide) (br_f (by decide) (br_t rfl (br_f q1 (br_f q2 hp))))
theorem px_ap1 {p : TP} {k : TK} {r : TR} {l s : TL} {o : TO} {h : TA} {w : TW} {x : Nat} {I : Int32} {post : SX → Prop} (hp : wpX_putReply post (XS p k r l s o h w) (nI x) 2 I) : wpX_answerPacket post (XS p k r l s o h w) (nI x) 1 I 1 := br_f (by decide) (br_f (by decide) (br_t rfl (br_t rfl hp)))
theorem px_ap2 {p : TP} {k : TK} {r : TR} {l s : TL} {o : TO} {h : TA} {w : TW} {x i : Nat} (hx : x < 8) (hi : i ≤ 16) {post : SX → Prop} (hp : wpX_putReply post (XS p k r l s o (upd h (x * 17 + i) 1) w) (nI x) 3 (nI i)) : wpX_answerPacket post (XS p k r l s o h w) (nI x) 1 (nI i) 2 := by
  have eX : nI x * 17 + nI i = nI (x * 17 + i) := by rw [pn_m17, nI_add]
  have ix : vp_in (nI x * 17 + nI i) 136 := by rw [eX]; exact vp_in_nI (by omega) (by omega)
  exact br_f (by decide) (br_f (by decide) (br_t rfl (br_f (by decide) (br_t rfl ⟨ix, nm_r (pn_u eX (by omega) (pn_b (Or.inr rfl))) hp⟩))))
/-- a publication that arrives at side (c, b), its taking given -/
theorem pr_pub {p : TP} {l s : TL} {k k' : TK} {r r' q q' : TR} {o o' e e' : TO} {h g m : TA} {w w' : TW} {z z' : TO} (HR : ps_RR r q) (HO : ps_GO o e) (HH : ps_GH h g m) (HW : ps_GW w z) (HR' : ps_RR r' q') (HO' : ps_GO o' e') (HW' : ps_GW w' z') {c b i : Nat} (hc : c < 4) (hb : b < 2) (hi : i ≤ 16) {S Q M : Int32} (hQ : Q = 0 ∨ ((Q = 1 ∨ Q = 2) ∧ 1 ≤ i))
    (TX : (SX → Prop) → SX → Prop) (hTX : ∀ (h : TA) (post : SX → Prop), post (XS p k' r' l s o' h w') → TX post (XS p k r l s o h w)) (hTY : ∀ (g m : TA) (t : T5) (post : SY → Prop), post (YS p k' q' l s e' g m z' t) → wpY_take post (YS p k q l s e g m z t) (nI c) (nI b) S M) :
    ∃ (k2 : TK) (r2 q2 : TR) (o2 e2 : TO) (h2 g2 m2 : TA) (w2 : TW) (z2 : TO), ps_RR r2 q2 ∧ ps_GO o2 e2 ∧ ps_GH h2 g2 m2 ∧ ps_GW w2 z2
      ∧ (∀ post : SX → Prop, post (XS p k2 r2 l s o2 h2 w2) → ((Q = 2 → h ((4 * b + c) * 17 + i) = 0) → TX (fun u => wpX_answerPacket post u (nI (4 * b + c)) 1 (nI i) Q) (XS p k r l s o h w)) ∧ ((Q = 2 ∧ ¬ h ((4 * b + c) * 17 + i) = 0) → wpX_answerPacket post (XS p k r l s o h w) (nI (4 * b + c)) 1 (nI i) Q))
      ∧ (∀ (t : T5) (post : SY → Prop), post (YS p k2 q2 l s e2 g2 m2 z2 t) → wpY_handle post (YS p k q l s e g m z t) (nI c) (nI b) 1 (nI i) S Q M) := by
  rcases hQ with rfl | ⟨rfl | rfl, i1⟩
  · exact ⟨k', r', q', o', e', h, g, m, w', z', HR', HO', HH, HW', fun post hp => ⟨fun _ => hTX h _ (px_ap0 (by decide) (by decide) hp), fun a => absurd a.1 (by decide)⟩, fun t post hp => nm_r (pn_yb c b) (nm_r (pn_yb c b) (br_t rfl (br_t rfl (hTY g m t _ hp))))⟩
  · obtain ⟨w2, z2, a1, a2, a3⟩ := pr_reply HW' hc hb (K := 2) (I := nI i) ⟨⟨i, hi, rfl, fun h => absurd h (by decide : ¬ (2 : Int32) = 1), fun _ => i1⟩, Or.inl rfl⟩
    exact ⟨k', r', q', o', e', h, g, m, w2, z2, HR', HO', HH, a1, fun post hp => ⟨fun _ => hTX h _ (px_ap1 (a2 p k' r' l s o' h post hp)), fun a => absurd a.1 (by decide)⟩, fun t post hp => nm_r (pn_yb c b) (nm_r (pn_yb c b) (br_t rfl (br_f (by decide) (br_t rfl (hTY g m t _ (a3 p k' q' l s e' g m t _ hp))))))⟩
  · obtain ⟨n, j, n16, hm, F, hiff⟩ := pr_held HH hc hb i1 hi
    have hj := F.1
    by_cases h0 : h ((4 * b + c) * 17 + i) = 0
    · obtain ⟨w2, z2, a1, a2, a3⟩ := pr_reply HW' hc hb (K := 3) (I := nI i) ⟨⟨i, hi, rfl, fun h => absurd h (by decide : ¬ (3 : Int32) = 1), fun _ => i1⟩, Or.inl rfl⟩
      obtain ⟨n15, hadd⟩ := ps_RH_add HH.1 hc hb hm n16 i1 hi h0
      have hjn : j = n := by
        apply Classical.byContradiction
        intro hx
        exact (hiff.mp (by omega)) h0
      have y8 : vp_in (nI (2 * c + b)) 8 := vp_in_nI (by omega) (by omega)
      have cy : (nI (2 * c + b)).toNatClampNeg = 2 * c + b := nI_clamp (by omega)
      have ey : nI (2 * c + b) * 16 + m (nI (2 * c + b)).toNatClampNeg = nI ((2 * c + b) * 16 + n) := by rw [cy, hm, pn_m16, nI_add]
      have iy : vp_in (nI (2 * c + b) * 16 + m (nI (2 * c + b)).toNatClampNeg) 128 := by rw [ey]; exact vp_in_nI (by omega) (by omega)
      refine ⟨k', r', q', o', e', _, _, _, w2, z2, HR', HO', ⟨hadd, ps_B_u HH.2 (Or.inr rfl)⟩, a1, fun post hp => ⟨fun _ => hTX h _ (px_ap2 (by omega) hi (a2 p k' r' l s o' _ post hp)), fun a => absurd h0 a.2⟩, fun t post hp => nm_r (pn_yb c b) (nm_r (pn_yb c b) (br_t rfl (br_f (by decide) (br_f (by decide) (br_t rfl (py_fh (p := p) (k := k) (q := q) (l := l) (s := s) (e := e) (g := g) (m := m) (z := z) (t := t) (by omega) hm n16 F (fun hl => absurd hl (by omega)) (fun _ => br_f (by decide) ⟨y8, br_f (by rw [cy, hm]; exact nI_ge (b := 16) n15 (by omega)) ⟨y8, iy, nm_r (pn_u ey (by omega) rfl) ⟨y8, y8, nm_r (e' := upd m (2 * c + b) (nI (n + 1))) (by rw [cy, hm, nI_1]) ?_⟩⟩⟩)))))))⟩
      exact hTY _ _ t _ (a3 p k' q' l s e' _ _ t _ hp)
    · have h1 : h ((4 * b + c) * 17 + i) = 1 := (HH.2 _).resolve_left h0
      have hjn : j < n := hiff.mpr h0
      obtain ⟨w2, z2, a1, a2, a3⟩ := pr_reply HW hc hb (K := 3) (I := nI i) ⟨⟨i, hi, rfl, fun h => absurd h (by decide : ¬ (3 : Int32) = 1), fun _ => i1⟩, Or.inl rfl⟩
      exact ⟨k, r, q, o, e, h, g, m, w2, z2, HR, HO, HH, a1, fun post hp => ⟨fun a => absurd (a rfl) h0, fun _ => px_ap2 (by omega) hi (by rw [ps_upd0 h1]; exact a2 p k r l s o h post hp)⟩, fun t post hp => nm_r (pn_yb c b) (nm_r (pn_yb c b) (br_t rfl (br_f (by decide) (br_f (by decide) (br_t rfl (py_fh (p := p) (k := k) (q := q) (l := l) (s := s) (e := e) (g := g) (m := m) (z := z) (t := t) (by omega) hm n16 F (fun _ => br_t (nI_pos' (by omega)) (a3 p k q l s e g m t _ hp)) (fun hl => absurd hl (by omega))))))))⟩
/-- a delivery -/
theorem pr_dlv {k : TK} {c sn : Nat} (hc : c < 4) (h1 : 1 ≤ sn) (h2 : sn ≤ 24) (M : Int32) : ∃ k' : TK, (∀ (p : TP) (r : TR) (l s : TL) (o : TO) (h : TA) (w : TW) (post : SX → Prop), post (XS p k' r l s o h w) → wpX_deliver post (XS p k r l s o h w) (nI c) (nI sn) M)
    ∧ (∀ (p : TP) (q : TR) (l s : TL) (e : TO) (g m : TA) (z : TO) (t : T5) (post : SY → Prop), post (YS p k' q l s e g m z t) → wpY_take post (YS p k q l s e g m z t) (nI c) (nI 0) (nI sn) M) := by
  have eX : nI c * 25 + nI sn = nI (c * 25 + sn) := by rw [pn_m25, nI_add]
  have ix : vp_in (nI c * 25 + nI sn) 100 := by rw [eX]; exact vp_in_nI (by omega) (by omega)
  have cx : (nI c * 25 + nI sn).toNatClampNeg = c * 25 + sn := by rw [eX]; exact nI_clamp (by omega)
  have cc : (nI c).toNatClampNeg = c := nI_clamp (by omega)
  have i4 : vp_in (nI c) 4 := vp_in_nI hc (by omega)
  have s1 : ¬ nI sn < 1 := nI_nlt (b := 1) h1 (by omega)
  have s2 : ¬ (24 : Int32) < nI sn := nI_nlt (a := 24) h2 (by omega)
  by_cases hM : M = 0
  · exact ⟨(upd k.1 (c * 25 + sn) (k.1 (c * 25 + sn) + 1), k.2), fun p r l s o h w post hp => br_t hM ⟨ix, ix, nm_r (by rw [cx]) hp⟩, fun p q l s e g m z t post hp => br_f (by decide) (br_t hM (br_f s1 (br_f s2 ⟨ix, ix, nm_r (by rw [cx]) hp⟩)))⟩
  · exact ⟨(k.1, upd k.2.1 c (k.2.1 c + 1), k.2.2), fun p r l s o h w post hp => br_f hM ⟨i4, i4, nm_r (by rw [cc]) hp⟩, fun p q l s e g m z t post hp => br_f (by decide) (br_f hM ⟨i4, i4, nm_r (by rw [cc]) hp⟩)⟩
theorem px_li1 {p : TP} {k : TK} {r : TR} {l s : TL} {o : TO} {h : TA} {w : TW} {c : Nat} (hc : c < 4) (hl : ¬ l.1 c = 0) {post : Int32 → Prop} (hp : post 1) : wpX_isLinked post (XS p k r l s o h w) (nI c) := by
  have cc : (nI c).toNatClampNeg = c := nI_clamp (by omega)
  exact br_f (nI_pos (by omega)) (br_f (nI_ge (b := 4) hc (by omega)) (br_f (by decide) ⟨vp_in_nI hc (by omega), br_f (by rw [cc]; exact hl) hp⟩))
theorem px_li0 {p : TP} {k : TK} {r : TR} {l s : TL} {o : TO} {h : TA} {w : TW} {c : Nat} (hc : c < 4) (hl : l.1 c = 0) {post : Int32 → Prop} (hp : post 0) : wpX_isLinked post (XS p k r l s o h w) (nI c) := by
  have cc : (nI c).toNatClampNeg = c := nI_clamp (by omega)
  exact br_f (nI_pos (by omega)) (br_f (nI_ge (b := 4) hc (by omega)) (br_f (by decide) ⟨vp_in_nI hc (by omega), br_t (by rw [cc]; exact hl) hp⟩))
end P15
