section P20
theorem px_c0 {p : TP} {k : TK} {r : TR} {l s : TL} {o : TO} {h : TA} {w : TW} {c : Nat} {B P : Int32} (hc : c < 4) (hP : (B = 0 ∧ P = 1) ∨ (¬ B = 0 ∧ P = 0)) {post : Int32 → SX → Prop}
    (hp : post 0 (XS p k r (upd l.1 c 1, upd (upd l.2.1 c 0) c 1, upd (upd l.2.2 c 0) c P) (upd s.1 c 0, s.2) (upd (upd o.1 c 0) (4 + c) 0, o.2) (ps_zr (ps_zr h (c * 17 + 1) (c * 17 + 17)) ((4 + c) * 17 + 1) ((4 + c) * 17 + 17)) w)) : wX_connect_39 post (nI c) B 0 p.1 r.1 p.2.1 p.2.2.1 p.2.2.2.1 p.2.2.2.2 k.1 k.2.1 k.2.2.1 k.2.2.2 r.2.1 r.2.2 l.1 l.2.1 l.2.2 s.1 s.2.1 s.2.2 o.1 o.2.1 o.2.2.1 o.2.2.2.1 o.2.2.2.2.1 o.2.2.2.2.2 h w.1 w.2.1 w.2.2.1 w.2.2.2.1 w.2.2.2.2.1 w.2.2.2.2.2.1 w.2.2.2.2.2.2 := by
  have cc : (nI c).toNatClampNeg = c := nI_clamp (by omega)
  have i4 : vp_in (nI c) 4 := vp_in_nI hc (by omega)
  refine br_t rfl (px_dis (p := p) (k := k) (r := r) (l := l) (s := s) (o := o) (h := h) (w := w) hc ?_)
  rcases hP with ⟨hB, rfl⟩ | ⟨hB, rfl⟩
  · exact ⟨i4, nm_r (by rw [cc, pn_b (Or.inr rfl)]) ⟨i4, nm_r (by rw [cc, pn_b (Or.inr rfl)]) (br_t hB ⟨i4, nm_r (by rw [cc, pn_b (Or.inr rfl)]) (br_t rfl hp)⟩)⟩⟩
  · exact ⟨i4, nm_r (by rw [cc, pn_b (Or.inr rfl)]) ⟨i4, nm_r (by rw [cc, pn_b (Or.inr rfl)]) (br_f hB ⟨i4, nm_r (by rw [cc, pn_b (Or.inl rfl)]) (br_t rfl hp)⟩)⟩⟩
theorem py_c0 {p : TP} {k : TK} {q : TR} {l s : TL} {e : TO} {g m : TA} {z : TO} {t : T5} {c : Nat} {B P : Int32} (hc : c < 4) (hP : (B = 0 ∧ P = 1) ∨ (¬ B = 0 ∧ P = 0)) {post : Int32 → SY → Prop}
    (hp : post 0 (YS p k q (upd l.1 c 1, upd (upd l.2.1 c 0) c 1, upd (upd l.2.2 c 0) c P) (upd s.1 c 0, s.2) (upd (upd e.1 (2 * c) 0) (2 * c + 1) 0, e.2) g (upd (upd m (2 * c) 0) (2 * c + 1) 0) z t)) : wY_connect_49 post (nI c) B 0 p.1 q.1 t.1 t.2.1 t.2.2.1 t.2.2.2.1 t.2.2.2.2 p.2.1 p.2.2.1 p.2.2.2.1 p.2.2.2.2 k.2.2.1 k.1 k.2.1 k.2.2.2 q.2.1 q.2.2 l.1 l.2.1 l.2.2 s.2.1 s.2.2 s.1 e.2.1 e.2.2.1 e.2.2.2.1 e.2.2.2.2.1 e.2.2.2.2.2 e.1 g m z.2.1 z.2.2.1 z.2.2.2.1 z.2.2.2.2.1 z.2.2.2.2.2 z.1 := by
  have cc : (nI c).toNatClampNeg = c := nI_clamp (by omega)
  have i4 : vp_in (nI c) 4 := vp_in_nI hc (by omega)
  refine br_t rfl (py_dis (p := p) (k := k) (q := q) (l := l) (s := s) (e := e) (g := g) (m := m) (z := z) (t := t) hc ?_)
  rcases hP with ⟨hB, rfl⟩ | ⟨hB, rfl⟩
  · exact ⟨i4, nm_r (by rw [cc, pn_b (Or.inr rfl)]) ⟨i4, nm_r (by rw [cc, pn_b (Or.inr rfl)]) (br_t hB ⟨i4, nm_r (by rw [cc, pn_b (Or.inr rfl)]) (br_t rfl (br_t rfl hp))⟩)⟩⟩
  · exact ⟨i4, nm_r (by rw [cc, pn_b (Or.inr rfl)]) ⟨i4, nm_r (by rw [cc, pn_b (Or.inr rfl)]) (br_f hB ⟨i4, nm_r (by rw [cc, pn_b (Or.inl rfl)]) (br_t rfl (br_t rfl hp))⟩)⟩⟩
theorem i_vc_connect {k : Nat} {u : SX} {v : SY} (I : i_Rel k u v) (hk : k + 5 ≤ 2560) (v1 : Int32) (v2 : Int32) : wpX_connect (fun r u' => wpY_connect (fun r' v' => r' = r ∧ i_Rel (k + 5) u' v') v v1 (lw_bz v2)) u v1 (lw_bz v2) := by
  have R : i_Rel (k + 5) u v := I
  obtain ⟨p, kk, r, q, l, s, o, e, h, g, m, w, z, t, rfl, rfl, HP, HL, HR, HO, HH, HW⟩ := I
  generalize lw_bz v2 = B
  unfold wpX_connect
  rcases pr_cl v1 with ⟨cX, cY⟩ | ⟨c, hc, rfl, cX, cY⟩
  · exact cX _ (br_t rfl (by unfold wpY_connect; exact cY _ _ (br_f (by decide) ⟨rfl, R⟩)))
  · have cc : (nI c).toNatClampNeg = c := nI_clamp (by omega)
    have i4 : vp_in (nI c) 4 := vp_in_nI hc (by omega)
    by_cases hl : l.1 c = 0
    · have hl' : l.1 (nI c).toNatClampNeg = 0 := by rw [cc]; exact hl
      obtain ⟨D1, D2⟩ := pr_dis HO HH hc
      -- a session made anew
      have fresh : ∀ P : Int32, (B = 0 ∧ P = 1) ∨ (¬ B = 0 ∧ P = 0) → i_Rel (k + 5) (XS p kk r (upd l.1 c 1, upd (upd l.2.1 c 0) c 1, upd (upd l.2.2 c 0) c P) (upd s.1 c 0, s.2) (upd (upd o.1 c 0) (4 + c) 0, o.2) (ps_zr (ps_zr h (c * 17 + 1) (c * 17 + 17)) ((4 + c) * 17 + 1) ((4 + c) * 17 + 17)) w) (YS p kk q (upd l.1 c 1, upd (upd l.2.1 c 0) c 1, upd (upd l.2.2 c 0) c P) (upd s.1 c 0, s.2) (upd (upd e.1 (2 * c) 0) (2 * c + 1) 0, e.2) g (upd (upd m (2 * c) 0) (2 * c + 1) 0) z t) :=
        fun P _ => ir_mk HP (ps_IL_up (ps_IL_dis HL hc hl) hc P) HR D1 D2 HW
      by_cases hB : B = 0
      · by_cases hp : l.2.2 c = 0
        · have hp' : l.2.2 (nI c).toNatClampNeg = 0 := by rw [cc]; exact hp
          refine cX _ (br_f (by decide) ⟨i4, br_t hl' (br_t hB ⟨i4, br_t hp' (px_c0 hc (Or.inl ⟨hB, rfl⟩) ?_)⟩)⟩)
          unfold wpY_connect
          have hy := py_c0 (p := p) (k := kk) (q := q) (l := l) (s := s) (e := e) (g := g) (m := m) (z := z) (t := t) hc (Or.inl ⟨hB, rfl⟩) (post := fun r' v' => r' = 0 ∧ i_Rel (k + 5) (XS p kk r (upd l.1 c 1, upd (upd l.2.1 c 0) c 1, upd (upd l.2.2 c 0) c 1) (upd s.1 c 0, s.2) (upd (upd o.1 c 0) (4 + c) 0, o.2) (ps_zr (ps_zr h (c * 17 + 1) (c * 17 + 17)) ((4 + c) * 17 + 1) ((4 + c) * 17 + 17)) w) v') ⟨rfl, fresh 1 (Or.inl ⟨hB, rfl⟩)⟩
          exact cY _ _ (br_t rfl ⟨i4, br_t hl' (br_t hB ⟨i4, br_c (fun _ => hy) fun _ => ⟨i4, br_t hp' hy⟩⟩)⟩)
        · have hp' : ¬ l.2.2 (nI c).toNatClampNeg = 0 := by rw [cc]; exact hp
          have hs' : ¬ l.2.1 (nI c).toNatClampNeg = 0 := by rw [cc]; exact (HL c hc).1 hp
          obtain ⟨w1, z1, b1, b2, b3⟩ := pr_rs HO hc (b := 0) (by omega) w z HW
          obtain ⟨w2, z2, c1, c2, c3⟩ := pr_rs HO hc (b := 1) (by omega) w1 z1 b1
          rw [show 4 * 0 + c = c by omega] at b2
          rw [show 4 * 1 + c = 4 + c by omega] at c2
          have hy : wpY_connect (fun r' v' => r' = 1 ∧ i_Rel (k + 5) (XS p kk r (upd l.1 c 1, upd l.2.1 c 1, upd l.2.2 c 1) s o h w2) v') (YS p kk q l s e g m z t) (nI c) B := by
            unfold wpY_connect
            exact cY _ _ (br_t rfl ⟨i4, br_t hl' (br_t hB ⟨i4, br_f hs' ⟨i4, br_f hp' (br_f (by decide) ⟨i4, nm_r (by rw [cc, pn_b (Or.inr rfl)]) ⟨i4, nm_r (by rw [cc, pn_b (Or.inr rfl)]) (br_t hB ⟨i4, nm_r (by rw [cc, pn_b (Or.inr rfl)]) (br_f (by decide) (b3 p kk q (upd l.1 c 1, upd l.2.1 c 1, upd l.2.2 c 1) s g m t _ (c3 p kk q (upd l.1 c 1, upd l.2.1 c 1, upd l.2.2 c 1) s g m t _ (br_f (by decide) ⟨rfl, ir_mk HP (ps_IL_up HL hc 1) HR HO HH c1⟩))))⟩)⟩⟩)⟩⟩)⟩)
          refine cX _ (br_f (by decide) ⟨i4, br_t hl' (br_t hB ⟨i4, br_f hp' (br_f (by decide) ⟨i4, nm_r (by rw [cc, pn_b (Or.inr rfl)]) ⟨i4, nm_r (by rw [cc, pn_b (Or.inr rfl)]) (br_t hB ⟨i4, nm_r (by rw [cc, pn_b (Or.inr rfl)]) (br_f (by decide) (b2 p kk r (upd l.1 c 1, upd l.2.1 c 1, upd l.2.2 c 1) s h _ ?_))⟩)⟩⟩)⟩)⟩)
          show wpX_resend _ (XS p kk r (upd l.1 c 1, upd l.2.1 c 1, upd l.2.2 c 1) s o h w1) (4 + nI c)
          rw [pn_4a]
          exact c2 p kk r (upd l.1 c 1, upd l.2.1 c 1, upd l.2.2 c 1) s h _ hy
      · refine cX _ (br_f (by decide) ⟨i4, br_t hl' (br_f hB (px_c0 hc (Or.inr ⟨hB, rfl⟩) ?_))⟩)
        unfold wpY_connect
        have hy := py_c0 (p := p) (k := kk) (q := q) (l := l) (s := s) (e := e) (g := g) (m := m) (z := z) (t := t) hc (Or.inr ⟨hB, rfl⟩) (post := fun r' v' => r' = 0 ∧ i_Rel (k + 5) (XS p kk r (upd l.1 c 1, upd (upd l.2.1 c 0) c 1, upd (upd l.2.2 c 0) c 0) (upd s.1 c 0, s.2) (upd (upd o.1 c 0) (4 + c) 0, o.2) (ps_zr (ps_zr h (c * 17 + 1) (c * 17 + 17)) ((4 + c) * 17 + 1) ((4 + c) * 17 + 17)) w) v') ⟨rfl, fresh 0 (Or.inr ⟨hB, rfl⟩)⟩
        exact cY _ _ (br_t rfl ⟨i4, br_t hl' (br_f hB hy)⟩)
    · have hl' : ¬ l.1 (nI c).toNatClampNeg = 0 := by rw [cc]; exact hl
      exact cX _ (br_f (by decide) ⟨i4, br_f hl' (by unfold wpY_connect; exact cY _ _ (br_t rfl ⟨i4, br_f hl' ⟨rfl, R⟩⟩))⟩)
theorem i_vc_disconnect {k : Nat} {u : SX} {v : SY} (I : i_Rel k u v) (hk : k + 5 ≤ 2560) (v1 : Int32) : wpX_disconnect (fun r u' => wpY_disconnect (fun r' v' => r' = r ∧ i_Rel (k + 5) u' v') v v1) u v1 := by
  have R : i_Rel (k + 5) u v := I
  obtain ⟨p, kk, r, q, l, s, o, e, h, g, m, w, z, t, rfl, rfl, HP, HL, HR, HO, HH, HW⟩ := I
  unfold wpX_disconnect
  rcases pr_cl v1 with ⟨cX, cY⟩ | ⟨c, hc, rfl, cX, cY⟩
  · unfold wpX_isLinked
    exact cX _ (br_t rfl (br_t rfl (by unfold wpY_disconnect; exact cY _ _ (br_f (by decide) ⟨rfl, R⟩))))
  · have cc : (nI c).toNatClampNeg = c := nI_clamp (by omega)
    have c4 : (4 + nI c).toNatClampNeg = 4 + c := by rw [pn_4a]; exact nI_clamp (by omega)
    have i4 : vp_in (nI c) 4 := vp_in_nI hc (by omega)
    have x0 : vp_in (nI c) 8 := vp_in_nI (by omega) (by omega)
    have x1 : vp_in (4 + nI c) 8 := by rw [pn_4a]; exact vp_in_nI (by omega) (by omega)
    have y0 : vp_in (nI c * 2) 8 := by rw [pn_m2]; exact vp_in_nI (by omega) (by omega)
    have y1 : vp_in (nI c * 2 + 1) 8 := by rw [pn_y1]; exact vp_in_nI (by omega) (by omega)
    have d0 : (nI c * 2).toNatClampNeg = 2 * c := by rw [pn_m2]; exact nI_clamp (by omega)
    have d1 : (nI c * 2 + 1).toNatClampNeg = 2 * c + 1 := by rw [pn_y1]; exact nI_clamp (by omega)
    by_cases hl : l.1 c = 0
    · exact px_li0 (p := p) (k := kk) (r := r) (l := l) (s := s) (o := o) (h := h) (w := w) hc hl (br_t rfl (by unfold wpY_disconnect; exact cY _ _ (br_t rfl ⟨i4, br_t (by rw [cc]; exact hl) ⟨rfl, R⟩⟩)))
    · have hl' : ¬ l.1 (nI c).toNatClampNeg = 0 := by rw [cc]; exact hl
      have hs' : ¬ l.2.1 (nI c).toNatClampNeg = 0 := by rw [cc]; exact (HL c hc).2.1 hl
      have W2 : ps_GW (w.1, upd (upd w.2.1 c 0) (4 + c) 0, w.2.2) (upd (upd z.1 (2 * c) 0) (2 * c + 1) 0, z.2) := ⟨ps_RW_clr HW.1 hc (fun b hb => pn_uu1 (by omega)) (fun b hb => pn_uu1 (by omega)) (fun b c' hb hc' hne => pn_uu2 (by omega) (by omega)) (fun b c' hb hc' hne => pn_uu2 (by omega) (by omega)), HW.2⟩
      have L2 := ps_IL_down HL hc
      refine px_li1 (p := p) (k := kk) (r := r) (l := l) (s := s) (o := o) (h := h) (w := w) hc hl (br_f (by decide) ⟨i4, nm_r (e' := upd l.1 c 0) (by rw [cc, pn_b (Or.inl rfl)]) ⟨x0, nm_r (e' := upd w.2.1 c 0) (by rw [cc]) ⟨x1, nm_r (e' := upd (upd w.2.1 c 0) (4 + c) 0) (by rw [c4]) ⟨i4, br_c (fun a => ?_) fun a => ?_⟩⟩⟩⟩)
      · refine px_dis (p := p) (k := kk) (r := r) (l := (upd l.1 c 0, l.2)) (s := s) (o := o) (h := h) (w := (w.1, upd (upd w.2.1 c 0) (4 + c) 0, w.2.2)) hc ?_
        obtain ⟨D1, D2⟩ := pr_dis HO HH hc
        show wpY_disconnect _ _ _
        unfold wpY_disconnect
        exact cY _ _ (br_t rfl ⟨i4, br_f hl' ⟨i4, nm_r (e' := upd l.1 c 0) (by rw [cc, pn_b (Or.inl rfl)]) ⟨y0, nm_r (e' := upd z.1 (2 * c) 0) (by rw [d0]) ⟨y1, nm_r (e' := upd (upd z.1 (2 * c) 0) (2 * c + 1) 0) (by rw [d1]) ⟨i4, br_f hs' ⟨i4, br_t a (py_dis (p := p) (k := kk) (q := q) (l := (upd l.1 c 0, l.2)) (s := s) (e := e) (g := g) (m := m) (z := (upd (upd z.1 (2 * c) 0) (2 * c + 1) 0, z.2)) (t := t) hc ⟨rfl, ir_mk HP (ps_IL_dis L2 hc pk_us) HR D1 D2 W2⟩)⟩⟩⟩⟩⟩⟩)
      · unfold wpY_disconnect
        exact cY _ _ (br_t rfl ⟨i4, br_f hl' ⟨i4, nm_r (e' := upd l.1 c 0) (by rw [cc, pn_b (Or.inl rfl)]) ⟨y0, nm_r (e' := upd z.1 (2 * c) 0) (by rw [d0]) ⟨y1, nm_r (e' := upd (upd z.1 (2 * c) 0) (2 * c + 1) 0) (by rw [d1]) ⟨i4, br_f hs' ⟨i4, br_f a ⟨rfl, ir_mk (l := (upd l.1 c 0, l.2)) (w := (w.1, upd (upd w.2.1 c 0) (4 + c) 0, w.2.2)) (z := (upd (upd z.1 (2 * c) 0) (2 * c + 1) 0, z.2)) HP L2 HR HO HH W2⟩⟩⟩⟩⟩⟩⟩)
end P20
