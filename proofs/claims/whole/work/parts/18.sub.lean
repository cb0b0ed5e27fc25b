section P18
/-! a subscription found -/
theorem px_fs {p : TP} {k : TK} {r : TR} {l s : TL} {o : TO} {h : TA} {w : TW} {c n j : Nat} {F : Int32} (hc : c < 4) (hn : s.1 c = nI n) (n4 : n ≤ 4) (FF : ps_F s.2.1 (c * 4) n F j) {post : Int32 → Prop} (h1 : j < n → post (nI (c * 4 + j))) (h2 : j = n → post (-1)) :
    wpX_findSubscription post (XS p k r l s o h w) (nI c) F := by
  have hj := FF.1
  have hl : ∀ d i, i + d = j → wX_findSubscription_17 post F (nI (c * 4 + n)) p.1 r.1 p.2.1 p.2.2.1 p.2.2.2.1 p.2.2.2.2 k.1 k.2.1 k.2.2.1 k.2.2.2 r.2.1 r.2.2 l.1 l.2.1 l.2.2 s.1 s.2.1 s.2.2 o.1 o.2.1 o.2.2.1 o.2.2.2.1 o.2.2.2.2.1 o.2.2.2.2.2 h w.1 w.2.1 w.2.2.1 w.2.2.2.1 w.2.2.2.2.1 w.2.2.2.2.2.1 w.2.2.2.2.2.2 (d + 1) (nI (c * 4 + i)) := by
    intro d
    induction d with
    | zero =>
      intro i hi
      obtain rfl : i = j := by omega
      by_cases hn : i < n
      · exact br_f (nI_ge (by omega) (by omega)) ⟨vp_in_nI (by omega) (by omega), br_t (by rw [nI_clamp (by omega)]; exact FF.2.2 hn) (h1 hn)⟩
      · exact br_t (nI_le (by omega) (by omega)) (h2 (by omega))
    | succ d ih =>
      intro i hi
      exact br_f (nI_ge (by omega) (by omega)) ⟨vp_in_nI (by omega) (by omega), br_f (by rw [nI_clamp (by omega)]; exact FF.2.1 i (by omega)) (nm_r (nI_1 _) (ih (i + 1) (by omega)))⟩
  have cc : (nI c).toNatClampNeg = c := nI_clamp (by omega)
  exact nm_r (pn_m4 c) ⟨vp_in_nI hc (by omega), nm_r (e' := nI (c * 4 + n)) (by rw [cc, hn, nI_add]) ⟨j + 1, hl j 0 (by omega)⟩⟩
theorem py_fs {p : TP} {k : TK} {q : TR} {l s : TL} {e : TO} {g m : TA} {z : TO} {t : T5} {c n j : Nat} {F : Int32} (hc : c < 4) (hn : s.1 c = nI n) (n4 : n ≤ 4) (FF : ps_F s.2.1 (c * 4) n F j) {post : Int32 → Prop} (h1 : j < n → post (nI j)) (h2 : j = n → post (-1)) :
    wpY_findSub post (YS p k q l s e g m z t) (nI c) F := by
  have hj := FF.1
  have cc : (nI c).toNatClampNeg = c := nI_clamp (by omega)
  have i4 : vp_in (nI c) 4 := vp_in_nI hc (by omega)
  have hl : ∀ d i, i + d = j → wY_findSub_2 post (nI c) F p.1 q.1 t.1 t.2.1 t.2.2.1 t.2.2.2.1 t.2.2.2.2 p.2.1 p.2.2.1 p.2.2.2.1 p.2.2.2.2 k.2.2.1 k.1 k.2.1 k.2.2.2 q.2.1 q.2.2 l.1 l.2.1 l.2.2 s.2.1 s.2.2 s.1 e.2.1 e.2.2.1 e.2.2.2.1 e.2.2.2.2.1 e.2.2.2.2.2 e.1 g m z.2.1 z.2.2.1 z.2.2.2.1 z.2.2.2.2.1 z.2.2.2.2.2 z.1 (d + 1) (nI i) := by
    intro d
    induction d with
    | zero =>
      intro i hi
      obtain rfl : i = j := by omega
      by_cases hn' : i < n
      · exact ⟨i4, br_f (by rw [cc, hn]; exact nI_ge (by omega) (by omega)) ⟨by rw [pn_m4, nI_add]; exact vp_in_nI (by omega) (by omega), br_t (by rw [pn_m4, nI_add, nI_clamp (by omega)]; exact FF.2.2 hn') (h1 hn')⟩⟩
      · exact ⟨i4, br_t (by rw [cc, hn]; exact nI_le (by omega) (by omega)) (h2 (by omega))⟩
    | succ d ih =>
      intro i hi
      exact ⟨i4, br_f (by rw [cc, hn]; exact nI_ge (by omega) (by omega)) ⟨by rw [pn_m4, nI_add]; exact vp_in_nI (by omega) (by omega), br_f (by rw [pn_m4, nI_add, nI_clamp (by omega)]; exact FF.2.1 i (by omega)) (nm_r (nI_1 _) (ih (i + 1) (by omega)))⟩⟩
  exact ⟨j + 1, hl j 0 (by omega)⟩
theorem i_vc_subscriptionQos {k : Nat} {u : SX} {v : SY} (I : i_Rel k u v) (hk : k + 5 ≤ 2560) (v1 : Int32) (v2 : Int32) : wpX_subscriptionQos (fun r => wpY_subscriptionQos (fun r' => r' = r ∧ i_Rel (k + 5) u v) v v1 v2) u v1 v2 := by
  have R : i_Rel (k + 5) u v := I
  obtain ⟨p, kk, r, q, l, s, o, e, h, g, m, w, z, t, rfl, rfl, HP, HL, HR, HO, HH, HW⟩ := I
  unfold wpX_subscriptionQos
  rcases pr_cl v1 with ⟨cX, cY⟩ | ⟨c, hc, rfl, cX, cY⟩
  · exact cX _ (br_t rfl (by unfold wpY_subscriptionQos; exact cY _ _ (br_f (by decide) ⟨rfl, R⟩)))
  · obtain ⟨_, _, n, n4, hn, _, _⟩ := HL c hc
    obtain ⟨j, FF⟩ := ps_F_ex s.2.1 (c * 4) v2 n
    have hj := FF.1
    refine cX _ (br_f (by decide) (px_fs (p := p) (k := kk) (r := r) (l := l) (s := s) (o := o) (h := h) (w := w) hc hn n4 FF (fun hlt => br_t (nI_pos' (by omega)) ⟨vp_in_nI (by omega) (by omega), ?_⟩) (fun heq => br_f (by decide) ?_)))
    · unfold wpY_subscriptionQos
      have eY : nI c * 4 + nI j = nI (c * 4 + j) := by rw [pn_m4, nI_add]
      exact cY _ _ (br_t rfl (py_fs (p := p) (k := kk) (q := q) (l := l) (s := s) (e := e) (g := g) (m := m) (z := z) (t := t) hc hn n4 FF (fun _ => br_t (nI_pos' (by omega)) (by rw [eY]; exact ⟨vp_in_nI (by omega) (by omega), rfl, R⟩)) (fun z => absurd z (by omega))))
    · unfold wpY_subscriptionQos
      exact cY _ _ (br_t rfl (py_fs (p := p) (k := kk) (q := q) (l := l) (s := s) (e := e) (g := g) (m := m) (z := z) (t := t) hc hn n4 FF (fun z => absurd z (by omega)) (fun _ => br_f (by decide) ⟨rfl, R⟩)))
theorem ps_IL_uns {l s : TL} (HL : ps_IL l s) {c n j : Nat} (hc : c < 4) (hn : s.1 c = nI (n + 1)) (n4 : n < 4) (hj : j ≤ n) : ps_IL l (upd s.1 c (nI n), ps_sh s.2.1 (c * 4 + j) (c * 4 + n), ps_sh s.2.2 (c * 4 + j) (c * 4 + n)) := by
  intro c' hc'
  obtain ⟨a, b, n', n4', hn', hz, hq⟩ := HL c' hc'
  refine ⟨a, b, ?_⟩
  by_cases hcc : c' = c
  · subst hcc
    have : n' = n + 1 := by
      rw [hn', nI_eq (by omega) (by omega)] at hn
      exact hn
    subst this
    refine ⟨n, by omega, pk_us, fun x => absurd (hz x) (by omega), fun i hi => ?_⟩
    show ps_q3 (ps_sh s.2.2 (c' * 4 + j) (c' * 4 + n) (c' * 4 + i))
    by_cases hlt : i < j
    · rw [ps_sh_lo (by omega)]; exact hq i (by omega)
    · rw [ps_sh_in (by omega) (by omega)]; exact hq (i + 1) (by omega)
  · refine ⟨n', n4', (pk_un hcc).trans hn', hz, fun i hi => ?_⟩
    show ps_q3 (ps_sh s.2.2 (c * 4 + j) (c * 4 + n) (c' * 4 + i))
    have hx : ps_sh s.2.2 (c * 4 + j) (c * 4 + n) (c' * 4 + i) = s.2.2 (c' * 4 + i) := if_neg (by omega)
    rw [hx]
    exact hq i hi
theorem i_vc_unsubscribe {k : Nat} {u : SX} {v : SY} (I : i_Rel k u v) (hk : k + 5 ≤ 2560) (v1 : Int32) (v2 : Int32) : wpX_unsubscribe (fun r u' => wpY_unsubscribe (fun r' v' => r' = r ∧ i_Rel (k + 5) u' v') v v1 v2) u v1 v2 := by
  have R : i_Rel (k + 5) u v := I
  obtain ⟨p, kk, r, q, l, s, o, e, h, g, m, w, z, t, rfl, rfl, HP, HL, HR, HO, HH, HW⟩ := I
  unfold wpX_unsubscribe
  rcases pr_cl v1 with ⟨cX, cY⟩ | ⟨c, hc, rfl, cX, cY⟩
  · unfold wpX_isLinked
    exact cX _ (br_t rfl (br_t rfl (by unfold wpY_unsubscribe; exact cY _ _ (br_f (by decide) ⟨rfl, R⟩))))
  · have cc : (nI c).toNatClampNeg = c := nI_clamp (by omega)
    have i4 : vp_in (nI c) 4 := vp_in_nI hc (by omega)
    by_cases hl : l.1 c = 0
    · exact px_li0 (p := p) (k := kk) (r := r) (l := l) (s := s) (o := o) (h := h) (w := w) hc hl (br_t rfl (by unfold wpY_unsubscribe; exact cY _ _ (br_t rfl ⟨i4, br_t (by rw [cc]; exact hl) ⟨rfl, R⟩⟩)))
    · have hl' : ¬ l.1 (nI c).toNatClampNeg = 0 := by rw [cc]; exact hl
      obtain ⟨_, _, n, n4, hn, _, _⟩ := HL c hc
      obtain ⟨j, FF⟩ := ps_F_ex s.2.1 (c * 4) v2 n
      have hj := FF.1
      refine px_li1 (p := p) (k := kk) (r := r) (l := l) (s := s) (o := o) (h := h) (w := w) hc hl (br_f (by decide) (px_fs (p := p) (k := kk) (r := r) (l := l) (s := s) (o := o) (h := h) (w := w) hc hn n4 FF (fun hlt => br_t (nI_pos' (by omega)) ⟨i4, ?_⟩) (fun heq => br_f (by decide) ?_)))
      · obtain ⟨n, rfl⟩ : ∃ n', n = n' + 1 := ⟨n - 1, by omega⟩
        have R2 : i_Rel (k + 5) (XS p kk r l (upd s.1 c (nI n), ps_sh s.2.1 (c * 4 + j) (c * 4 + n), ps_sh s.2.2 (c * 4 + j) (c * 4 + n)) o h w) (YS p kk q l (upd s.1 c (nI n), ps_sh s.2.1 (c * 4 + j) (c * 4 + n), ps_sh s.2.2 (c * 4 + j) (c * 4 + n)) e g m z t) := ir_mk HP (ps_IL_uns HL hc hn (by omega) (by omega)) HR HO HH HW
        have hY : ∀ d i, j ≤ i → i + d = n → wY_unsubscribe_35 (fun r' v' => r' = 1 ∧ i_Rel (k + 5) (XS p kk r l (upd s.1 c (nI n), ps_sh s.2.1 (c * 4 + j) (c * 4 + n), ps_sh s.2.2 (c * 4 + j) (c * 4 + n)) o h w) v') (nI c) p.1 q.1 t.1 t.2.1 t.2.2.1 t.2.2.2.1 t.2.2.2.2 (d + 1) (nI i) p.2.1 p.2.2.1 p.2.2.2.1 p.2.2.2.2 kk.2.2.1 kk.1 kk.2.1 kk.2.2.2 q.2.1 q.2.2 l.1 l.2.1 l.2.2 (ps_sh s.2.1 (c * 4 + j) (c * 4 + i)) (ps_sh s.2.2 (c * 4 + j) (c * 4 + i)) s.1 e.2.1 e.2.2.1 e.2.2.2.1 e.2.2.2.2.1 e.2.2.2.2.2 e.1 g m z.2.1 z.2.2.1 z.2.2.2.1 z.2.2.2.2.1 z.2.2.2.2.2 z.1 := by
          intro d
          induction d with
          | zero =>
            intro i h1 hi
            obtain rfl : i = n := by omega
            exact ⟨i4, br_t (by rw [cc, hn, nI_1]; exact nI_le (by omega) (by omega)) ⟨i4, i4, nm_r (e' := upd s.1 c (nI i)) (by rw [cc, hn, nI_pred]) ⟨rfl, R2⟩⟩⟩
          | succ d ih =>
            intro i h1 hi
            have ea : nI c * 4 + nI i = nI (c * 4 + i) := by rw [pn_m4, nI_add]
            have eb : nI c * 4 + nI i + 1 = nI (c * 4 + i + 1) := by rw [ea, nI_1]
            have a0 : vp_in (nI c * 4 + nI i) 16 := by rw [ea]; exact vp_in_nI (by omega) (by omega)
            have a1 : vp_in (nI c * 4 + nI i + 1) 16 := by rw [eb]; exact vp_in_nI (by omega) (by omega)
            exact ⟨i4, br_f (by rw [cc, hn, nI_1]; exact nI_ge (by omega) (by omega)) ⟨a1, a0, nm_r (pn_sh ea eb (by omega) (by omega)) ⟨a1, a0, nm_r (pn_sh ea eb (by omega) (by omega)) (nm_r (nI_1 _) (ih (i + 1) (by omega) (by omega)))⟩⟩⟩
        have hY0 := hY (n - j) j (Nat.le_refl j) (by omega)
        rw [ps_sh0 (Nat.le_refl _), ps_sh0 (Nat.le_refl _)] at hY0
        have hYY : wpY_unsubscribe (fun r' v' => r' = 1 ∧ i_Rel (k + 5) (XS p kk r l (upd s.1 c (nI n), ps_sh s.2.1 (c * 4 + j) (c * 4 + n), ps_sh s.2.2 (c * 4 + j) (c * 4 + n)) o h w) v') (YS p kk q l s e g m z t) (nI c) v2 := by
          unfold wpY_unsubscribe
          exact cY _ _ (br_t rfl ⟨i4, br_f hl' (py_fs (p := p) (k := kk) (q := q) (l := l) (s := s) (e := e) (g := g) (m := m) (z := z) (t := t) hc hn n4 FF (fun _ => br_t (nI_pos' (by omega)) ⟨n - j + 1, hY0⟩) (fun z => absurd z (by omega)))⟩)
        have hX : ∀ d i, j ≤ i → i + d = n → wX_unsubscribe_40 (fun r u' => wpY_unsubscribe (fun r' v' => r' = r ∧ i_Rel (k + 5) u' v') (YS p kk q l s e g m z t) (nI c) v2) (nI c) (nI (c * 4 + n)) p.1 r.1 (d + 1) (nI (c * 4 + i)) p.2.1 p.2.2.1 p.2.2.2.1 p.2.2.2.2 kk.1 kk.2.1 kk.2.2.1 kk.2.2.2 r.2.1 r.2.2 l.1 l.2.1 l.2.2 s.1 (ps_sh s.2.1 (c * 4 + j) (c * 4 + i)) (ps_sh s.2.2 (c * 4 + j) (c * 4 + i)) o.1 o.2.1 o.2.2.1 o.2.2.2.1 o.2.2.2.2.1 o.2.2.2.2.2 h w.1 w.2.1 w.2.2.1 w.2.2.2.1 w.2.2.2.2.1 w.2.2.2.2.2.1 w.2.2.2.2.2.2 := by
          intro d
          induction d with
          | zero =>
            intro i h1 hi
            obtain rfl : i = n := by omega
            exact br_t (nI_le (by omega) (by omega)) ⟨i4, i4, nm_r (e' := upd s.1 c (nI i)) (by rw [cc, hn, nI_pred]) hYY⟩
          | succ d ih =>
            intro i h1 hi
            have a0 : vp_in (nI (c * 4 + i)) 16 := vp_in_nI (by omega) (by omega)
            have a1 : vp_in (nI (c * 4 + i) + 1) 16 := by rw [nI_1]; exact vp_in_nI (by omega) (by omega)
            exact br_f (nI_ge (by omega) (by omega)) ⟨a1, a0, nm_r (pn_sh rfl (nI_1 _) (by omega) (by omega)) ⟨a1, a0, nm_r (pn_sh rfl (nI_1 _) (by omega) (by omega)) (nm_r (nI_1 _) (ih (i + 1) (by omega) (by omega)))⟩⟩
        have hX0 := hX (n - j) j (Nat.le_refl j) (by omega)
        rw [ps_sh0 (Nat.le_refl _), ps_sh0 (Nat.le_refl _)] at hX0
        exact nm_r (e' := nI (c * 4 + n)) (by rw [cc, hn, pn_m4, nI_add, ← Nat.add_assoc, nI_pred]) ⟨n - j + 1, hX0⟩
      · unfold wpY_unsubscribe
        exact cY _ _ (br_t rfl ⟨i4, br_f hl' (py_fs (p := p) (k := kk) (q := q) (l := l) (s := s) (e := e) (g := g) (m := m) (z := z) (t := t) hc hn n4 FF (fun z => absurd z (by omega)) (fun _ => br_f (by decide) ⟨rfl, R⟩))⟩)
end P18
