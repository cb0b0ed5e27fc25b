section P17
theorem i_vc_received {k : Nat} {u : SX} {v : SY} (I : i_Rel k u v) (hk : k + 5 ≤ 2560) (v1 : Int32) (v2 : Int32) : wpX_received (fun r => wpY_received (fun r' => r' = r ∧ i_Rel (k + 5) u v) v v1 v2) u v1 v2 := by
  have R : i_Rel (k + 5) u v := I
  obtain ⟨p, kk, r, q, l, s, o, e, h, g, m, w, z, t, rfl, rfl, HP, HL, HR, HO, HH, HW⟩ := I
  unfold wpX_received
  rcases pr_cl v1 with ⟨cX, cY⟩ | ⟨c, hc, rfl, cX, cY⟩
  · exact cX _ (br_t rfl (by unfold wpY_received; exact cY _ _ (br_f (by decide) ⟨rfl, R⟩)))
  · rcases pr_se v2 with ⟨sX, s1 | ⟨s1, s2⟩⟩ | ⟨sn, n1, n2, rfl, sX, s1, s2, s3⟩
    · exact cX _ (br_f (by decide) (sX _ (br_t rfl (by unfold wpY_received; exact cY _ _ (br_t rfl (br_t s1 ⟨rfl, R⟩))))))
    · exact cX _ (br_f (by decide) (sX _ (br_t rfl (by unfold wpY_received; exact cY _ _ (br_t rfl (br_f s1 (br_f (Int32.not_le.mpr s2) ⟨rfl, R⟩)))))))
    · have eX : nI c * 25 + nI sn = nI (c * 25 + sn) := by rw [pn_m25, nI_add]
      have ix : vp_in (nI c * 25 + nI sn) 100 := by rw [eX]; exact vp_in_nI (by omega) (by omega)
      exact cX _ (br_f (by decide) (sX _ (br_f (by decide) ⟨ix, by unfold wpY_received; exact cY _ _ (br_t rfl (br_f s1 (br_t s3 ⟨ix, rfl, R⟩)))⟩)))
theorem i_vc_retainedReceived {k : Nat} {u : SX} {v : SY} (I : i_Rel k u v) (hk : k + 5 ≤ 2560) (v1 : Int32) : wpX_retainedReceived (fun r => wpY_retainedReceived (fun r' => r' = r ∧ i_Rel (k + 5) u v) v v1) u v1 := by
  have R : i_Rel (k + 5) u v := I
  obtain ⟨p, kk, r, q, l, s, o, e, h, g, m, w, z, t, rfl, rfl, HP, HL, HR, HO, HH, HW⟩ := I
  unfold wpX_retainedReceived
  rcases pr_cl v1 with ⟨cX, cY⟩ | ⟨c, hc, rfl, cX, cY⟩
  · exact cX _ (br_t rfl (by unfold wpY_retainedReceived; exact cY _ _ (br_f (by decide) ⟨rfl, R⟩)))
  · have i4 : vp_in (nI c) 4 := vp_in_nI hc (by omega)
    exact cX _ (br_f (by decide) ⟨i4, by unfold wpY_retainedReceived; exact cY _ _ (br_t rfl ⟨i4, rfl, R⟩)⟩)
theorem i_vc_accepted {k : Nat} {u : SX} {v : SY} (I : i_Rel k u v) (hk : k + 5 ≤ 2560) (v1 : Int32) : wpX_accepted (fun r => wpY_accepted (fun r' => r' = r ∧ i_Rel (k + 5) u v) v v1) u v1 := by
  have R : i_Rel (k + 5) u v := I
  obtain ⟨p, kk, r, q, l, s, o, e, h, g, m, w, z, t, rfl, rfl, HP, HL, HR, HO, HH, HW⟩ := I
  unfold wpX_accepted
  rcases pr_se v1 with ⟨sX, s1 | ⟨s1, s2⟩⟩ | ⟨sn, n1, n2, rfl, sX, s1, s2, s3⟩
  · exact sX _ (br_t rfl (br_t s1 ⟨rfl, R⟩))
  · exact sX _ (br_t rfl (br_f s1 (br_f (Int32.not_le.mpr s2) ⟨rfl, R⟩)))
  · have i25 : vp_in (nI sn) 25 := vp_in_nI (by omega) (by omega)
    exact sX _ (br_f (by decide) ⟨i25, br_f s1 (br_t s3 ⟨i25, rfl, R⟩)⟩)
/-- a topic is retained at both sides, or at neither -/
theorem ps_pres {n pl j : Nat} {tX sX tY sY : TA} {T : Int32} (H : ps_R n tX sX tY sY) (p1 : pl ≤ n) (p2 : ∀ i, i < pl → tX i < T) (p3 : ∀ i, pl ≤ i → i < n → T ≤ tX i) (F : ps_F tY 0 n T j) : (pl < n ∧ tX pl = T ∧ j < n ∧ sX pl = sY j) ∨ ((pl < n → ¬ tX pl = T) ∧ j = n) := by
  have hj := F.1
  by_cases hpr : pl < n ∧ tX pl = T
  · obtain ⟨hlt, he⟩ := hpr
    have hjn : j < n := by
      obtain ⟨j', hj', ej, _⟩ := H.2.2.2.2.2.1 pl hlt
      apply Classical.byContradiction
      intro hx
      have := F.2.1 j' (by omega)
      rw [Nat.zero_add, ej] at this
      exact this he
    have h3 := F.2.2 hjn
    rw [Nat.zero_add] at h3
    exact Or.inl ⟨hlt, he, hjn, ps_R_ser H hlt hjn (he.trans h3.symm)⟩
  · refine Or.inr ⟨fun hlt he => hpr ⟨hlt, he⟩, ?_⟩
    apply Classical.byContradiction
    intro hx
    have h3 := F.2.2 (by omega)
    rw [Nat.zero_add] at h3
    obtain ⟨i, hi, ei, _⟩ := H.2.2.2.2.2.2 j (by omega)
    have eT : tX i = T := ei.trans h3
    by_cases b : i < pl
    · exact ps_lt_ne (p2 i b) eT
    · by_cases hip : i = pl
      · rw [hip] at eT hi
        exact hpr ⟨hi, eT⟩
      · have h5 := H.2.2.2.1 pl i (by omega) hi
        rw [eT] at h5
        exact Int32.lt_irrefl (Int32.lt_of_lt_of_le h5 (p3 pl (Nat.le_refl _) (by omega)))
theorem i_vc_retainedSerial {k : Nat} {u : SX} {v : SY} (I : i_Rel k u v) (hk : k + 5 ≤ 2560) (v1 : Int32) : wpX_retainedSerial (fun r => wpY_retainedSerial (fun r' => r' = r ∧ i_Rel (k + 5) u v) v v1) u v1 := by
  have R : i_Rel (k + 5) u v := I
  obtain ⟨p, kk, r, q, l, s, o, e, h, g, m, w, z, t, rfl, rfl, HP, HL, HR, HO, HH, HW⟩ := I
  obtain ⟨n, e1, e2, hR⟩ := HR
  have n8 := hR.1
  obtain ⟨pl, p1, p2, p3⟩ := ps_pl hR v1
  obtain ⟨j, F⟩ := ps_F_ex q.2.1 0 v1 n
  unfold wpX_retainedSerial
  rcases ps_pres hR p1 p2 p3 F with ⟨hlt, he, hjn, hs⟩ | ⟨hno, hjn⟩
  · have cp : (nI pl).toNatClampNeg = pl := nI_clamp (by omega)
    have ip : vp_in (nI pl) 8 := vp_in_nI (by omega) (by omega)
    refine px_pl (p := p) (k := kk) (r := r) (l := l) (s := s) (o := o) (h := h) (w := w) e1 n8 p1 p2 p3 (br_f (by rw [e1, nI_eq (by omega) (by omega)]; omega) ⟨ip, br_t (by rw [cp]; exact he) ⟨ip, ?_⟩⟩)
    unfold wpY_retainedSerial
    exact py_fr (p := p) (k := kk) (q := q) (l := l) (s := s) (e := e) (g := g) (m := m) (z := z) (t := t) e2 n8 F (fun _ => br_t (nI_pos' (by omega)) ⟨vp_in_nI (by omega) (by omega), by rw [cp, nI_clamp (by omega)]; exact ⟨hs.symm, R⟩⟩) (fun z => absurd z (by omega))
  · have hY : wpY_retainedSerial (fun r' => r' = 0 ∧ i_Rel (k + 5) (XS p kk r l s o h w) (YS p kk q l s e g m z t)) (YS p kk q l s e g m z t) v1 := by
      unfold wpY_retainedSerial
      exact py_fr (p := p) (k := kk) (q := q) (l := l) (s := s) (e := e) (g := g) (m := m) (z := z) (t := t) e2 n8 F (fun z => absurd z (by omega)) (fun _ => br_f (by decide) ⟨rfl, R⟩)
    refine px_pl (p := p) (k := kk) (r := r) (l := l) (s := s) (o := o) (h := h) (w := w) e1 n8 p1 p2 p3 (br_c (fun _ => hY) fun a => ?_)
    have hlt : pl < n := by
      rw [e1, nI_eq (by omega) (by omega)] at a
      omega
    exact ⟨vp_in_nI (by omega) (by omega), br_f (by rw [nI_clamp (by omega)]; exact hno hlt) hY⟩
theorem pr_bs_lp {o e : TO} {x y n : Nat} (hx : x < 8) (hy : y < 8) (hn : e.1 y = nI n) (HO : ps_O ps_EV x y (ps_o5 o) (ps_o5 e) n) (S : Int32) : ∀ d i, i + d = n → ∃ R : Int32,
    (∀ (p : TP) (k : TK) (r : TR) (l s : TL) (h : TA) (w : TW) (post : Int32 → Prop), post R → wX_brokerStage_38 post S (nI (x * 16 + n)) p.1 r.1 p.2.1 p.2.2.1 p.2.2.2.1 p.2.2.2.2 k.1 k.2.1 k.2.2.1 k.2.2.2 r.2.1 r.2.2 l.1 l.2.1 l.2.2 s.1 s.2.1 s.2.2 o.1 o.2.1 o.2.2.1 o.2.2.2.1 o.2.2.2.2.1 o.2.2.2.2.2 h w.1 w.2.1 w.2.2.1 w.2.2.2.1 w.2.2.2.2.1 w.2.2.2.2.2.1 w.2.2.2.2.2.2 (d + 1) (nI (x * 16 + i)))
    ∧ (∀ (p : TP) (k : TK) (q : TR) (l s : TL) (g m : TA) (z : TO) (t : T5) (post : Int32 → Prop), post R → wY_brokerStage_30 post S (nI y) p.1 q.1 t.1 t.2.1 t.2.2.1 t.2.2.2.1 t.2.2.2.2 p.2.1 p.2.2.1 p.2.2.2.1 p.2.2.2.2 k.2.2.1 k.1 k.2.1 k.2.2.2 q.2.1 q.2.2 l.1 l.2.1 l.2.2 s.2.1 s.2.2 s.1 e.2.1 e.2.2.1 e.2.2.2.1 e.2.2.2.2.1 e.2.2.2.2.2 e.1 g m z.2.1 z.2.2.1 z.2.2.2.1 z.2.2.2.2.1 z.2.2.2.2.2 z.1 (d + 1) (nI i)) := by
  have cy : (nI y).toNatClampNeg = y := nI_clamp (by omega)
  have i8 : vp_in (nI y) 8 := vp_in_nI hy (by omega)
  have n16 := HO.1
  intro d
  induction d with
  | zero =>
    intro i hi
    obtain rfl : i = n := by omega
    exact ⟨0, fun p k r l s h w post hp => br_t (nI_le (by omega) (by omega)) hp, fun p k q l s g m z t post hp => ⟨i8, br_t (by rw [cy, hn]; exact nI_le (by omega) (by omega)) hp⟩⟩
  | succ d ih =>
    intro i hi
    obtain ⟨R, rX, rY⟩ := ih (i + 1) (by omega)
    have he := (HO.2 i (by omega)).1
    have h1 : o.2.1 (x * 16 + i) = e.2.1 (y * 16 + i) := congrArg (fun t : T5 => t.1) he
    have h4 : o.2.2.2.2.1 (x * 16 + i) = e.2.2.2.2.1 (y * 16 + i) := congrArg (fun t : T5 => t.2.2.2.1) he
    have h5 : o.2.2.2.2.2 (x * 16 + i) = e.2.2.2.2.2 (y * 16 + i) := congrArg (fun t : T5 => t.2.2.2.2) he
    have cX : (nI (x * 16 + i)).toNatClampNeg = x * 16 + i := nI_clamp (by omega)
    have iX : vp_in (nI (x * 16 + i)) 128 := vp_in_nI (by omega) (by omega)
    have cY : (nI (y * 16 + i)).toNatClampNeg = y * 16 + i := nI_clamp (by omega)
    have iY : vp_in (nI (y * 16 + i)) 128 := vp_in_nI (by omega) (by omega)
    have nX : ¬ nI (x * 16 + n) ≤ nI (x * 16 + i) := nI_ge (by omega) (by omega)
    have nY : ¬ e.1 (nI y).toNatClampNeg ≤ nI i := by rw [cy, hn]; exact nI_ge (by omega) (by omega)
    have eY : nI y * 16 + nI i = nI (y * 16 + i) := by rw [pn_m16, nI_add]
    by_cases a : e.2.1 (y * 16 + i) = S
    · by_cases b : e.2.2.2.2.1 (y * 16 + i) = 0
      · refine ⟨e.2.2.2.2.2 (y * 16 + i), fun p k r l s h w post hp => br_f nX ⟨iX, br_t (by rw [cX, h1]; exact a) ⟨iX, br_t (by rw [cX, h4]; exact b) ⟨iX, ?_⟩⟩⟩, fun p k q l s g m z t post hp => ⟨i8, br_f nY (nm_r eY ⟨iY, br_t (by rw [cY]; exact a) ⟨iY, br_t (by rw [cY]; exact b) ⟨iY, ?_⟩⟩⟩)⟩⟩
        · rw [cX, h5]; exact hp
        · rw [cY]; exact hp
      · exact ⟨R, fun p k r l s h w post hp => br_f nX ⟨iX, br_t (by rw [cX, h1]; exact a) ⟨iX, br_f (by rw [cX, h4]; exact b) (nm_r (nI_1 _) (rX p k r l s h w post hp))⟩⟩, fun p k q l s g m z t post hp => ⟨i8, br_f nY (nm_r eY ⟨iY, br_t (by rw [cY]; exact a) ⟨iY, br_f (by rw [cY]; exact b) (nm_r (nI_1 _) (rY p k q l s g m z t post hp))⟩⟩)⟩⟩
    · exact ⟨R, fun p k r l s h w post hp => br_f nX ⟨iX, br_f (by rw [cX, h1]; exact a) (nm_r (nI_1 _) (rX p k r l s h w post hp))⟩, fun p k q l s g m z t post hp => ⟨i8, br_f nY (nm_r eY ⟨iY, br_f (by rw [cY]; exact a) (nm_r (nI_1 _) (rY p k q l s g m z t post hp))⟩)⟩⟩
theorem i_vc_brokerStage {k : Nat} {u : SX} {v : SY} (I : i_Rel k u v) (hk : k + 5 ≤ 2560) (v1 : Int32) (v2 : Int32) : wpX_brokerStage (fun r => wpY_brokerStage (fun r' => r' = r ∧ i_Rel (k + 5) u v) v v1 v2) u v1 v2 := by
  have R : i_Rel (k + 5) u v := I
  obtain ⟨p, kk, r, q, l, s, o, e, h, g, m, w, z, t, rfl, rfl, HP, HL, HR, HO, HH, HW⟩ := I
  unfold wpX_brokerStage
  rcases pr_cl v1 with ⟨cX, cY⟩ | ⟨c, hc, rfl, cX, cY⟩
  · exact cX _ (br_t rfl (by unfold wpY_brokerStage; exact cY _ _ (br_f (by decide) ⟨rfl, R⟩)))
  · rcases pr_se v2 with ⟨sX, s1 | ⟨s1, s2⟩⟩ | ⟨sn, n1, n2, rfl, sX, s1, s2, s3⟩
    · exact cX _ (br_f (by decide) (sX _ (br_t rfl (by unfold wpY_brokerStage; exact cY _ _ (br_t rfl (br_t s1 ⟨rfl, R⟩))))))
    · exact cX _ (br_f (by decide) (sX _ (br_t rfl (by unfold wpY_brokerStage; exact cY _ _ (br_t rfl (br_f s1 (br_f (Int32.not_le.mpr s2) ⟨rfl, R⟩)))))))
    · obtain ⟨n, a1, a2, a3, a4⟩ := HO.1 c 1 hc (by omega)
      have e1 : 4 * 1 + c = 4 + c := by omega
      rw [e1] at a2 a4
      obtain ⟨V, vX, vY⟩ := pr_bs_lp (by omega) (by omega) a3 a4 (nI sn) n 0 (by omega)
      have cx : (4 + nI c).toNatClampNeg = 4 + c := by rw [pn_4a]; exact nI_clamp (by omega)
      have hY : wpY_brokerStage (fun r' => r' = V ∧ i_Rel (k + 5) (XS p kk r l s o h w) (YS p kk q l s e g m z t)) (YS p kk q l s e g m z t) (nI c) (nI sn) := by
        unfold wpY_brokerStage
        exact cY _ _ (br_t rfl (br_f s1 (br_t s3 (nm_r (pn_y1 c) ⟨n + 1, vY p kk q l s g m z t _ ⟨rfl, R⟩⟩))))
      exact cX _ (br_f (by decide) (sX _ (br_f (by decide) (nm_r (e' := nI ((4 + c) * 16)) (by rw [pn_4a, pn_m16]) ⟨by rw [pn_4a]; exact vp_in_nI (by omega) (by omega), nm_r (e' := nI ((4 + c) * 16 + n)) (by rw [cx, a2, nI_add]) ⟨n + 1, vX p kk r l s h w _ hY⟩⟩))))
theorem px_hs_lp {p : TP} {k : TK} {r : TR} {l s : TL} {o : TO} {h : TA} {w : TW} {x : Nat} (hx : x < 8) {post : Int32 → Prop} (hp : post (nI (ps_hc h (x * 17) 16))) : ∀ d i, i + d = 16 → wX_heldSize_4 post (nI x) p.1 r.1 p.2.1 p.2.2.1 p.2.2.2.1 p.2.2.2.2 k.1 k.2.1 k.2.2.1 k.2.2.2 r.2.1 r.2.2 l.1 l.2.1 l.2.2 s.1 s.2.1 s.2.2 o.1 o.2.1 o.2.2.1 o.2.2.2.1 o.2.2.2.2.1 o.2.2.2.2.2 h w.1 w.2.1 w.2.2.1 w.2.2.2.1 w.2.2.2.2.1 w.2.2.2.2.2.1 w.2.2.2.2.2.2 (d + 1) (nI (ps_hc h (x * 17) i)) (nI (i + 1)) := by
  intro d
  induction d with
  | zero =>
    intro i hi
    obtain rfl : i = 16 := by omega
    exact br_t (by decide) hp
  | succ d ih =>
    intro i hi
    have hn := ih (i + 1) (by omega)
    have eX : nI x * 17 + nI (i + 1) = nI (x * 17 + (i + 1)) := by rw [pn_m17, nI_add]
    have ix : vp_in (nI x * 17 + nI (i + 1)) 136 := by rw [eX]; exact vp_in_nI (by omega) (by omega)
    have cx : (nI x * 17 + nI (i + 1)).toNatClampNeg = x * 17 + (i + 1) := by rw [eX]; exact nI_clamp (by omega)
    rw [ps_hcS] at hn
    by_cases a : h (x * 17 + (i + 1)) = 0
    · rw [if_pos a] at hn
      exact br_f (nI_nlt (a := 16) (by omega) (by omega)) ⟨ix, br_t (by rw [cx]; exact a) (nm_r (nI_1 _) hn)⟩
    · rw [if_neg a] at hn
      exact br_f (nI_nlt (a := 16) (by omega) (by omega)) ⟨ix, br_f (by rw [cx]; exact a) (nm_r (nI_1 _) (nm_r (nI_1 _) hn))⟩
theorem px_hs {p : TP} {k : TK} {r : TR} {l s : TL} {o : TO} {h : TA} {w : TW} {x : Nat} (hx : x < 8) {post : Int32 → Prop} (hp : post (nI (ps_hc h (x * 17) 16))) : wpX_heldSize post (XS p k r l s o h w) (nI x) := ⟨17, px_hs_lp hx hp 16 0 (by omega)⟩
theorem i_vc_pending {k : Nat} {u : SX} {v : SY} (I : i_Rel k u v) (hk : k + 5 ≤ 2560) (v1 : Int32) (v2 : Int32) : wpX_pending (fun r => wpY_pending (fun r' => r' = r ∧ i_Rel (k + 5) u v) v v1 v2) u v1 v2 := by
  have R : i_Rel (k + 5) u v := I
  obtain ⟨p, kk, r, q, l, s, o, e, h, g, m, w, z, t, rfl, rfl, HP, HL, HR, HO, HH, HW⟩ := I
  unfold wpX_pending
  rcases pr_cl v1 with ⟨cX, cY⟩ | ⟨c, hc, rfl, cX, cY⟩
  · exact cX _ (br_t rfl (by unfold wpY_pending; exact cY _ _ (br_f (by decide) ⟨rfl, R⟩)))
  · refine cX _ (br_f (by decide) ?_)
    have cc : (nI c).toNatClampNeg = c := nI_clamp (by omega)
    have c4 : (4 + nI c).toNatClampNeg = 4 + c := by rw [pn_4a]; exact nI_clamp (by omega)
    have i4 : vp_in (nI c) 4 := vp_in_nI hc (by omega)
    have x0 : vp_in (nI c) 8 := vp_in_nI (by omega) (by omega)
    have x1 : vp_in (4 + nI c) 8 := by rw [pn_4a]; exact vp_in_nI (by omega) (by omega)
    have e0 : 4 * 0 + c = c := by omega
    have e1 : 4 * 1 + c = 4 + c := by omega
    have y0 : vp_in (nI c * 2) 8 := by rw [pn_m2]; exact vp_in_nI (by omega) (by omega)
    have y1 : vp_in (nI c * 2 + 1) 8 := by rw [pn_y1]; exact vp_in_nI (by omega) (by omega)
    have d0 : (nI c * 2).toNatClampNeg = 2 * c + 0 := by rw [pn_m2]; exact nI_clamp (by omega)
    have d1 : (nI c * 2 + 1).toNatClampNeg = 2 * c + 1 := by rw [pn_y1]; exact nI_clamp (by omega)
    obtain ⟨no0, _, oa0, ob0, _⟩ := HO.1 c 0 hc (by omega)
    obtain ⟨no1, _, oa1, ob1, _⟩ := HO.1 c 1 hc (by omega)
    obtain ⟨nh0, ha0, hb0⟩ := HH.1 c 0 hc (by omega)
    obtain ⟨nh1, ha1, hb1⟩ := HH.1 c 1 hc (by omega)
    have hw0 := pr_emp HW hc (b := 0) (by omega)
    have hw1 := pr_emp HW hc (b := 1) (by omega)
    rw [e0] at oa0 hb0 hw0
    rw [e1] at oa1 hb1 hw1
    rcases pk_ix v2 (n := 7) (by omega) with h | h | ⟨j, hj, rfl⟩
    · exact br_t h (by unfold wpY_pending; exact cY _ _ (br_t rfl (br_t h ⟨rfl, R⟩)))
    · have h0 : ¬ v2 < 0 := fun z => Int32.lt_irrefl (Int32.lt_of_lt_of_le z (Int32.le_trans (by decide) h))
      have h6 : 6 < v2 := Int32.lt_of_lt_of_le (by decide) h
      exact br_f h0 (br_t h6 (by unfold wpY_pending; exact cY _ _ (br_t rfl (br_f h0 (br_f (Int32.not_le.mpr h6) ⟨rfl, R⟩)))))
    · have hj' : j = 0 ∨ j = 1 ∨ j = 2 ∨ j = 3 ∨ j = 4 ∨ j = 5 ∨ j = 6 := by omega
      rcases hj' with rfl | rfl | rfl | rfl | rfl | rfl | rfl
      · exact br_f (by decide) (br_f (by decide) (br_t rfl ⟨x0, by unfold wpY_pending; exact cY _ _ (br_t rfl (br_f (by decide) (br_t (by decide) (br_t rfl ⟨y0, by rw [d0, cc, oa0, ob0], R⟩))))⟩))
      · exact br_f (by decide) (br_f (by decide) (br_f (by decide) (br_t rfl ⟨x1, by unfold wpY_pending; exact cY _ _ (br_t rfl (br_f (by decide) (br_t (by decide) (br_f (by decide) (br_t rfl ⟨y1, by rw [d1, c4, oa1, ob1], R⟩)))))⟩)))
      · exact br_f (by decide) (br_f (by decide) (br_f (by decide) (br_f (by decide) (br_t rfl (px_hs (p := p) (k := kk) (r := r) (l := l) (s := s) (o := o) (h := h) (w := w) (by omega) (by unfold wpY_pending; exact cY _ _ (br_t rfl (br_f (by decide) (br_t (by decide) (br_f (by decide) (br_f (by decide) (br_t rfl ⟨y0, by rw [d0, ha0, hb0.1], R⟩))))))))))))
      · refine br_f (by decide) (br_f (by decide) (br_f (by decide) (br_f (by decide) (br_f (by decide) (br_t rfl ?_)))))
        rw [pn_4a]
        exact px_hs (p := p) (k := kk) (r := r) (l := l) (s := s) (o := o) (h := h) (w := w) (by omega) (by unfold wpY_pending; exact cY _ _ (br_t rfl (br_f (by decide) (br_t (by decide) (br_f (by decide) (br_f (by decide) (br_f (by decide) (br_t rfl ⟨y1, by rw [d1, ha1, hb1.1], R⟩))))))))
      · exact br_f (by decide) (br_f (by decide) (br_f (by decide) (br_f (by decide) (br_f (by decide) (br_f (by decide) (br_t rfl ⟨x0, by unfold wpY_pending; exact cY _ _ (br_t rfl (br_f (by decide) (br_t (by decide) (br_f (by decide) (br_f (by decide) (br_f (by decide) (br_f (by decide) (br_t rfl ⟨y0, by rw [d0, cc, hw0], R⟩))))))))⟩))))))
      · exact br_f (by decide) (br_f (by decide) (br_f (by decide) (br_f (by decide) (br_f (by decide) (br_f (by decide) (br_f (by decide) (br_t rfl ⟨x1, by unfold wpY_pending; exact cY _ _ (br_t rfl (br_f (by decide) (br_t (by decide) (br_f (by decide) (br_f (by decide) (br_f (by decide) (br_f (by decide) (br_f (by decide) (br_t rfl ⟨y1, by rw [d1, c4, hw1], R⟩)))))))))⟩)))))))
      · exact br_f (by decide) (br_f (by decide) (br_f (by decide) (br_f (by decide) (br_f (by decide) (br_f (by decide) (br_f (by decide) (br_f (by decide) (br_t rfl ⟨i4, by unfold wpY_pending; exact cY _ _ (br_t rfl (br_f (by decide) (br_t (by decide) (br_f (by decide) (br_f (by decide) (br_f (by decide) (br_f (by decide) (br_f (by decide) (br_f (by decide) ⟨i4, rfl, R⟩)))))))))⟩))))))))
theorem i_vc_status {k : Nat} {u : SX} {v : SY} (I : i_Rel k u v) (hk : k + 5 ≤ 2560) (v1 : Int32) : wpX_status (fun r => wpY_status (fun r' => r' = r ∧ i_Rel (k + 5) u v) v v1) u v1 := by
  have R : i_Rel (k + 5) u v := I
  obtain ⟨p, kk, r, q, l, s, o, e, h, g, m, w, z, t, rfl, rfl, HP, HL, HR, HO, HH, HW⟩ := I
  unfold wpX_status
  rcases pr_cl v1 with ⟨cX, cY⟩ | ⟨c, hc, rfl, cX, cY⟩
  · exact cX _ (br_t rfl (by unfold wpY_status; exact cY _ _ (br_f (by decide) ⟨rfl, R⟩)))
  · have cc : (nI c).toNatClampNeg = c := nI_clamp (by omega)
    have i4 : vp_in (nI c) 4 := vp_in_nI hc (by omega)
    have hps := (HL c hc).1
    rw [← cc] at hps
    -- from the sum so far on
    have h2 : ∀ A : Int32, (∀ B : Int32, wY_status_24 (fun r' => r' = B ∧ i_Rel (k + 5) (XS p kk r l s o h w) (YS p kk q l s e g m z t)) (nI c) A p.1 q.1 t.1 t.2.1 t.2.2.1 t.2.2.2.1 t.2.2.2.2 p.2.1 p.2.2.1 p.2.2.2.1 p.2.2.2.2 kk.2.2.1 kk.1 kk.2.1 kk.2.2.2 q.2.1 q.2.2 l.1 l.2.1 l.2.2 s.2.1 s.2.2 s.1 e.2.1 e.2.2.1 e.2.2.2.1 e.2.2.2.2.1 e.2.2.2.2.2 e.1 g m z.2.1 z.2.2.1 z.2.2.2.1 z.2.2.2.2.1 z.2.2.2.2.2 z.1 → wpY_status (fun r' => r' = B ∧ i_Rel (k + 5) (XS p kk r l s o h w) (YS p kk q l s e g m z t)) (YS p kk q l s e g m z t) (nI c)) → wX_status_23 (fun r' => wpY_status (fun r'' => r'' = r' ∧ i_Rel (k + 5) (XS p kk r l s o h w) (YS p kk q l s e g m z t)) (YS p kk q l s e g m z t) (nI c)) (nI c) A p.1 r.1 p.2.1 p.2.2.1 p.2.2.2.1 p.2.2.2.2 kk.1 kk.2.1 kk.2.2.1 kk.2.2.2 r.2.1 r.2.2 l.1 l.2.1 l.2.2 s.1 s.2.1 s.2.2 o.1 o.2.1 o.2.2.1 o.2.2.2.1 o.2.2.2.2.1 o.2.2.2.2.2 h w.1 w.2.1 w.2.2.1 w.2.2.2.1 w.2.2.2.2.1 w.2.2.2.2.2.1 w.2.2.2.2.2.2 := by
      intro A hA
      exact ⟨i4, br_c (fun a => ⟨i4, br_c (fun b => hA A ⟨i4, br_t a ⟨i4, br_t a ⟨rfl, R⟩⟩⟩) fun b => absurd a (hps b)⟩) fun a => nm_e ⟨i4, br_c (fun b => hA (A + 2) ⟨i4, br_f a (nm_e ⟨i4, br_f a ⟨i4, br_t b ⟨rfl, R⟩⟩⟩)⟩) fun b => nm_e (hA (A + 2 + 4) ⟨i4, br_f a (nm_e ⟨i4, br_f a ⟨i4, br_f b (nm_e ⟨rfl, R⟩)⟩⟩)⟩)⟩⟩
    exact cX _ (br_f (by decide) ⟨i4, br_c (fun a => h2 0 (fun B hB => by unfold wpY_status; exact cY _ _ (br_t rfl ⟨i4, br_t a hB⟩))) fun a => nm_e (h2 (0 + 1) (fun B hB => by unfold wpY_status; exact cY _ _ (br_t rfl ⟨i4, br_f a (nm_e hB)⟩)))⟩)
theorem i_vc_matches {k : Nat} {u : SX} {v : SY} (I : i_Rel k u v) (hk : k + 5 ≤ 2560) (v1 : Int32) (v2 : Int32) : wpX_matches (fun r => wpY_matches (fun r' => r' = r ∧ i_Rel (k + 5) u v) v v1 v2) u v1 v2 := by
  have R : i_Rel (k + 5) u v := I
  obtain ⟨p, kk, r, q, l, s, o, e, h, g, m, w, z, t, rfl, rfl, HP, HL, HR, HO, HH, HW⟩ := I
  obtain ⟨A, _, aX, aY⟩ := pr_fi v1
  obtain ⟨B, _, bX, bY⟩ := pr_tp v2
  obtain ⟨C, _, mX, mY⟩ := pr_ma v1 v2
  unfold wpX_matches
  refine aX _ (br_c (fun a => ?_) fun a => bX _ (br_c (fun b => ?_) fun b => mX _ (br_c (fun d => ?_) fun d => ?_)))
  · unfold wpY_matches
    exact aY p kk q l s e g m z t _ (br_t a ⟨rfl, R⟩)
  · unfold wpY_matches
    exact aY p kk q l s e g m z t _ (br_f a (bY p kk q l s e g m z t _ (br_t b ⟨rfl, R⟩)))
  · unfold wpY_matches
    exact aY p kk q l s e g m z t _ (br_f a (bY p kk q l s e g m z t _ (br_f b (mY p kk q l s e g m z t _ (br_t d ⟨rfl, R⟩)))))
  · unfold wpY_matches
    exact aY p kk q l s e g m z t _ (br_f a (bY p kk q l s e g m z t _ (br_f b (mY p kk q l s e g m z t _ (br_f d ⟨rfl, R⟩)))))
end P17
