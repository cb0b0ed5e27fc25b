section P22
theorem pn_next {x : Int32} {a : Nat} (hx : ∃ b, b < 4096 ∧ x = nI b) (ha : a < 4096) (h : nI a < x) : nI (a + 1) ≤ x := by
  obtain ⟨b, hb, rfl⟩ := hx
  have := (nI_ltI (by omega) (by omega)).mp h
  exact nI_le (by omega) (by omega)
/-- the retained entries sent: X by its places, Y by the topic codes -/
theorem pr_sr {p : TP} (HP : ps_IP p) {l s : TL} {r q : TR} {n c : Nat} (e1 : r.1 = nI n) (e2 : q.1 = nI n) (hR : ps_R n r.2.1 r.2.2 q.2.1 q.2.2) (hc : c < 4) (F Qs : Int32) (hQs : ps_q3 Qs) :
    ∀ d a, a + d = 4096 → ∀ (i : Nat) (cnt : Int32) (k : TK) (o e : TO) (w : TW) (z : TO), i ≤ n → (∀ j, j < i → r.2.1 j < nI a) → (∀ j, i ≤ j → j < n → nI a ≤ r.2.1 j) → ps_GO o e → ps_GW w z → ∃ (N : Int32) (k' : TK) (o' e' : TO) (w' : TW) (z' : TO), ps_GO o' e' ∧ ps_GW w' z'
      ∧ (∀ (h : TA) (post : Int32 → SX → Prop), post N (XS p k' r l s o' h w') → wX_sendRetained_6 post (nI c) F Qs (n - i + 1) cnt (nI i) p.1 r.1 p.2.1 p.2.2.1 p.2.2.2.1 p.2.2.2.2 k.1 k.2.1 k.2.2.1 k.2.2.2 r.2.1 r.2.2 l.1 l.2.1 l.2.2 s.1 s.2.1 s.2.2 o.1 o.2.1 o.2.2.1 o.2.2.2.1 o.2.2.2.2.1 o.2.2.2.2.2 h w.1 w.2.1 w.2.2.1 w.2.2.2.1 w.2.2.2.2.1 w.2.2.2.2.2.1 w.2.2.2.2.2.2)
      ∧ (∀ (g m : TA) (t : T5) (post : Int32 → SY → Prop), post N (YS p k' q l s e' g m z' t) → wY_subscribe_136 post (nI c) F Qs (d + 1) cnt (nI a) p.1 q.1 t.1 t.2.1 t.2.2.1 t.2.2.2.1 t.2.2.2.2 p.2.1 p.2.2.1 p.2.2.2.1 p.2.2.2.2 k.2.2.1 k.1 k.2.1 k.2.2.2 q.2.1 q.2.2 l.1 l.2.1 l.2.2 s.2.1 s.2.2 s.1 e.2.1 e.2.2.1 e.2.2.2.1 e.2.2.2.2.1 e.2.2.2.2.2 e.1 g m z.2.1 z.2.2.1 z.2.2.2.1 z.2.2.2.2.1 z.2.2.2.2.2 z.1) := by
  have n8 := hR.1
  obtain ⟨_, _, _, HPa⟩ := id HP
  intro d
  induction d with
  | zero =>
    intro a ha i cnt k o e w z hi hlo hhi HO HW
    obtain rfl : a = 4096 := by omega
    have hin : i = n := by
      apply Classical.byContradiction
      intro hx
      obtain ⟨t, ht, et⟩ := hR.2.1 i (by omega)
      have := hhi i (Nat.le_refl i) (by omega)
      rw [et, nI_leI (by omega) (by omega)] at this
      omega
    subst hin
    refine ⟨cnt, k, o, e, w, z, HO, HW, fun h post hp => ?_, fun g m t post hp => br_t (by decide) hp⟩
    rw [Nat.sub_self]
    exact br_t (by rw [e1]; exact nI_le (by omega) (by omega)) hp
  | succ d ih =>
    intro a ha i cnt k o e w z hi hlo hhi HO HW
    have hY : ¬ (4095 : Int32) < nI a := nI_nlt (a := 4095) (by omega) (by omega)
    obtain ⟨j, FF⟩ := ps_F_ex q.2.1 0 (nI a) n
    have hj := FF.1
    have hnx : nI a < nI (a + 1) := nI_lt (by omega) (by omega)
    have hlo' : ∀ j, j < i → r.2.1 j < nI (a + 1) := fun j hj => Int32.lt_trans (hlo j hj) hnx
    rcases ps_pres hR hi hlo hhi FF with ⟨hlt, he, hjn, hs⟩ | ⟨hno, hjn⟩
    · have hlo2 : ∀ j, j < i + 1 → r.2.1 j < nI (a + 1) := by
        intro j hj
        by_cases x : j = i
        · rw [x, he]; exact hnx
        · exact hlo' j (by omega)
      have hhi2 : ∀ j, i + 1 ≤ j → j < n → nI (a + 1) ≤ r.2.1 j := by
        intro j h1 h2
        have h3 := hR.2.2.2.1 i j (by omega) h2
        rw [he] at h3
        exact pn_next (hR.2.1 j h2) (by omega) h3
      have ci : (nI i).toNatClampNeg = i := nI_clamp (by omega)
      have cj : (nI j).toNatClampNeg = j := nI_clamp (by omega)
      have i8 : vp_in (nI i) 8 := vp_in_nI (by omega) (by omega)
      have j8 : vp_in (nI j) 8 := vp_in_nI (by omega) (by omega)
      have hX : ¬ r.1 ≤ nI i := by rw [e1]; exact nI_ge (by omega) (by omega)
      have jp : ¬ nI j < 0 := nI_pos (by omega)
      have hti : r.2.1 (nI i).toNatClampNeg = nI a := by rw [ci]; exact he
      have hfu : n - i + 1 = (n - (i + 1) + 1) + 1 := by omega
      obtain ⟨V, hV, mX, mY⟩ := pr_ma F (nI a)
      by_cases hV0 : V = 0
      · obtain ⟨N, k', o', e', w', z', c1, c2, c3, c4⟩ := ih (a + 1) (by omega) (i + 1) cnt k o e w z (by omega) hlo2 hhi2 HO HW
        refine ⟨N, k', o', e', w', z', c1, c2, fun h post hp => ?_, fun g m t post hp => br_f hY (py_fr (p := p) (k := k) (q := q) (l := l) (s := s) (e := e) (g := g) (m := m) (z := z) (t := t) e2 n8 FF (fun _ => br_f jp (mY p k q l s e g m z t _ (br_t hV0 (nm_r (nI_1 _) (c4 g m t post hp))))) (fun x => absurd x (by omega)))⟩
        rw [hfu]
        exact br_f hX ⟨i8, by rw [hti]; exact mX _ (br_t hV0 (nm_r (nI_1 _) (c3 h post hp)))⟩
      · obtain ⟨sn, s1, s2, hsn⟩ := hR.2.2.1 i hlt
        have cs : (nI sn).toNatClampNeg = sn := nI_clamp (by omega)
        have i25 : vp_in (nI sn) 25 := vp_in_nI (by omega) (by omega)
        by_cases hle : Qs ≤ p.2.2.2.1 (nI sn).toNatClampNeg
        · obtain ⟨k1, o1, e1', w1, z1, b1, b2, b3, b4⟩ := pr_send (k := k) (l := l) HO HW hc s1 s2 hQs (M := 1) (Or.inr rfl)
          obtain ⟨N, k', o', e', w', z', c1, c2, c3, c4⟩ := ih (a + 1) (by omega) (i + 1) (cnt + 1) k1 o1 e1' w1 z1 (by omega) hlo2 hhi2 b1 b2
          refine ⟨N, k', o', e', w', z', c1, c2, fun h post hp => ?_, fun g m t post hp => br_f hY (py_fr (p := p) (k := k) (q := q) (l := l) (s := s) (e := e) (g := g) (m := m) (z := z) (t := t) e2 n8 FF (fun _ => br_f jp (mY p k q l s e g m z t _ (br_f hV0 ⟨j8, nm_r (e' := nI sn) (by rw [cj, ← hs, hsn]) (nm_e ⟨i25, br_t hle (b4 p q s g m t _ (nm_r (nI_1 _) (c4 g m t post hp)))⟩)⟩))) (fun x => absurd x (by omega)))⟩
          rw [hfu]
          refine br_f hX ⟨i8, ?_⟩
          rw [hti]
          exact mX _ (br_f hV0 ⟨i8, nm_r (e' := nI sn) (by rw [ci, hsn]) ⟨i25, br_t hle (b3 p r s h _ (nm_e (nm_r (nI_1 _) (c3 h post hp))))⟩⟩)
        · have hq3 : ps_q3 (p.2.2.2.1 (nI sn).toNatClampNeg) := (HPa _).2
          obtain ⟨k1, o1, e1', w1, z1, b1, b2, b3, b4⟩ := pr_send (k := k) (l := l) HO HW hc s1 s2 hq3 (M := 1) (Or.inr rfl)
          obtain ⟨N, k', o', e', w', z', c1, c2, c3, c4⟩ := ih (a + 1) (by omega) (i + 1) (cnt + 1) k1 o1 e1' w1 z1 (by omega) hlo2 hhi2 b1 b2
          refine ⟨N, k', o', e', w', z', c1, c2, fun h post hp => ?_, fun g m t post hp => br_f hY (py_fr (p := p) (k := k) (q := q) (l := l) (s := s) (e := e) (g := g) (m := m) (z := z) (t := t) e2 n8 FF (fun _ => br_f jp (mY p k q l s e g m z t _ (br_f hV0 ⟨j8, nm_r (e' := nI sn) (by rw [cj, ← hs, hsn]) (nm_e ⟨i25, br_f hle ⟨i25, b4 p q s g m t _ (nm_r (nI_1 _) (c4 g m t post hp))⟩⟩)⟩))) (fun x => absurd x (by omega)))⟩
          rw [hfu]
          refine br_f hX ⟨i8, ?_⟩
          rw [hti]
          exact mX _ (br_f hV0 ⟨i8, nm_r (e' := nI sn) (by rw [ci, hsn]) ⟨i25, br_f hle (b3 p r s h _ (nm_e (nm_r (nI_1 _) (c3 h post hp))))⟩⟩)
    · have hhi2 : ∀ j, i ≤ j → j < n → nI (a + 1) ≤ r.2.1 j := by
        intro j h1 h2
        have h3 : nI a < r.2.1 j := by
          by_cases x : j = i
          · subst x
            exact ps_tri (Int32.not_lt.mpr (hhi j (Nat.le_refl j) h2)) (hno h2)
          · exact Int32.lt_of_le_of_lt (hhi i (Nat.le_refl i) (by omega)) (hR.2.2.2.1 i j (by omega) h2)
        exact pn_next (hR.2.1 j h2) (by omega) h3
      obtain ⟨N, k', o', e', w', z', c1, c2, c3, c4⟩ := ih (a + 1) (by omega) i cnt k o e w z hi hlo' hhi2 HO HW
      exact ⟨N, k', o', e', w', z', c1, c2, c3, fun g m t post hp => br_f hY (py_fr (p := p) (k := k) (q := q) (l := l) (s := s) (e := e) (g := g) (m := m) (z := z) (t := t) e2 n8 FF (fun x => absurd x (by omega)) (fun _ => br_t (by decide) (nm_r (nI_1 _) (c4 g m t post hp))))⟩
theorem ps_IL_set {l s : TL} (HL : ps_IL l s) {c n j : Nat} (hc : c < 4) (hn : s.1 c = nI n) (n4 : n ≤ 4) (hj : j < n) {Q : Int32} (hQ : ps_q3 Q) : ps_IL l (s.1, s.2.1, upd s.2.2 (c * 4 + j) Q) := by
  intro c' hc'
  obtain ⟨a, b, n', n4', hn', hz, hq⟩ := HL c' hc'
  refine ⟨a, b, n', n4', hn', hz, fun i hi => ?_⟩
  show ps_q3 (upd s.2.2 (c * 4 + j) Q (c' * 4 + i))
  by_cases x : c' * 4 + i = c * 4 + j
  · rw [x, pk_us]; exact hQ
  · rw [pk_un x]; exact hq i hi
theorem ps_IL_new {l s : TL} (HL : ps_IL l s) {c n : Nat} (hc : c < 4) (hn : s.1 c = nI n) (n4 : n < 4) (hu : ¬ l.1 c = 0) {F Q : Int32} (hQ : ps_q3 Q) : ps_IL l (upd s.1 c (nI (n + 1)), upd s.2.1 (c * 4 + n) F, upd s.2.2 (c * 4 + n) Q) := by
  intro c' hc'
  obtain ⟨a, b, n', n4', hn', hz, hq⟩ := HL c' hc'
  refine ⟨a, b, ?_⟩
  by_cases hcc : c' = c
  · subst hcc
    have : n' = n := by
      rw [hn', nI_eq (by omega) (by omega)] at hn
      exact hn
    subst this
    refine ⟨n' + 1, by omega, pk_us, fun x => absurd x (b hu), fun i hi => ?_⟩
    show ps_q3 (upd s.2.2 (c' * 4 + n') Q (c' * 4 + i))
    by_cases x : i = n'
    · rw [x, pk_us]; exact hQ
    · rw [pk_un (by omega)]; exact hq i (by omega)
  · refine ⟨n', n4', (pk_un hcc).trans hn', hz, fun i hi => ?_⟩
    show ps_q3 (upd s.2.2 (c * 4 + n) Q (c' * 4 + i))
    rw [pk_un (by omega)]
    exact hq i hi
theorem i_vc_subscribe {k : Nat} {u : SX} {v : SY} (I : i_Rel k u v) (hk : k + 5 ≤ 2560) (v1 : Int32) (v2 : Int32) (v3 : Int32) : wpX_subscribe (fun r u' => wpY_subscribe (fun r' v' => r' = r ∧ i_Rel (k + 5) u' v') v v1 v2 v3) u v1 v2 v3 := by
  have R : i_Rel (k + 5) u v := I
  obtain ⟨p, kk, r, q, l, s, o, e, h, g, m, w, z, t, rfl, rfl, HP, HL, HR, HO, HH, HW⟩ := I
  unfold wpX_subscribe
  rcases pr_cl v1 with ⟨cX, cY⟩ | ⟨c, hc, rfl, cX, cY⟩
  · exact cX _ (br_t rfl (by unfold wpY_subscribe; exact cY _ _ (br_f (by decide) ⟨rfl, R⟩)))
  · have cc : (nI c).toNatClampNeg = c := nI_clamp (by omega)
    have i4 : vp_in (nI c) 4 := vp_in_nI hc (by omega)
    by_cases hl : l.1 c = 0
    · have hl' : l.1 (nI c).toNatClampNeg = 0 := by rw [cc]; exact hl
      exact cX _ (br_f (by decide) ⟨i4, br_t hl' (by unfold wpY_subscribe; exact cY _ _ (br_t rfl ⟨i4, br_t hl' ⟨rfl, R⟩⟩))⟩)
    · have hl' : ¬ l.1 (nI c).toNatClampNeg = 0 := by rw [cc]; exact hl
      obtain ⟨A, hA, aX, aY⟩ := pr_fi v2
      by_cases hA0 : A = 0
      · exact cX _ (br_f (by decide) ⟨i4, br_f hl' (aX _ (br_t hA0 (by unfold wpY_subscribe; exact cY _ _ (br_t rfl ⟨i4, br_f hl' (aY p kk q l s e g m z t _ (br_t hA0 ⟨rfl, R⟩))⟩))))⟩)
      · by_cases q0 : v3 < 0
        · exact cX _ (br_f (by decide) ⟨i4, br_f hl' (aX _ (br_f hA0 (br_t q0 (by unfold wpY_subscribe; exact cY _ _ (br_t rfl ⟨i4, br_f hl' (aY p kk q l s e g m z t _ (br_f hA0 (br_t q0 ⟨rfl, R⟩)))⟩)))))⟩)
        · by_cases q2 : v3 ≤ 2
          · have hQ : ps_q3 v3 := by
              obtain ⟨j, hj, rfl⟩ := nI_of2 (M := 2) (n := 2) (by decide) q0 q2
              have h3 : j = 0 ∨ j = 1 ∨ j = 2 := by omega
              rcases h3 with rfl | rfl | rfl
              · exact Or.inl rfl
              · exact Or.inr (Or.inl rfl)
              · exact Or.inr (Or.inr rfl)
            obtain ⟨rn, r1, r2, hR⟩ := id HR
            obtain ⟨_, _, n, n4, hn, _, _⟩ := HL c hc
            obtain ⟨j, FF⟩ := ps_F_ex s.2.1 (c * 4) v2 n
            have hj := FF.1
            -- Y's walk up to the search's end
            have hYY : ∀ (post : Int32 → SY → Prop), (j < n → wY_subscribe_68 post (nI c) v2 v3 (nI j) p.1 q.1 t.1 t.2.1 t.2.2.1 t.2.2.2.1 t.2.2.2.2 p.2.1 p.2.2.1 p.2.2.2.1 p.2.2.2.2 kk.2.2.1 kk.1 kk.2.1 kk.2.2.2 q.2.1 q.2.2 l.1 l.2.1 l.2.2 s.2.1 s.2.2 s.1 e.2.1 e.2.2.1 e.2.2.2.1 e.2.2.2.2.1 e.2.2.2.2.2 e.1 g m z.2.1 z.2.2.1 z.2.2.2.1 z.2.2.2.2.1 z.2.2.2.2.2 z.1) → (j = n → n < 4 → wY_subscribe_68 post (nI c) v2 v3 (-1) p.1 q.1 t.1 t.2.1 t.2.2.1 t.2.2.2.1 t.2.2.2.2 p.2.1 p.2.2.1 p.2.2.2.1 p.2.2.2.2 kk.2.2.1 kk.1 kk.2.1 kk.2.2.2 q.2.1 q.2.2 l.1 l.2.1 l.2.2 s.2.1 s.2.2 s.1 e.2.1 e.2.2.1 e.2.2.2.1 e.2.2.2.2.1 e.2.2.2.2.2 e.1 g m z.2.1 z.2.2.1 z.2.2.2.1 z.2.2.2.2.1 z.2.2.2.2.2 z.1) → (j = n → n = 4 → post (-5) (YS p kk q l s e g m z t)) → wpY_subscribe post (YS p kk q l s e g m z t) (nI c) v2 v3 := by
              intro post h1 h2 h3
              unfold wpY_subscribe
              refine cY _ _ (br_t rfl ⟨i4, br_f hl' (aY p kk q l s e g m z t _ (br_f hA0 (br_f q0 (br_t q2 (py_fs (p := p) (k := kk) (q := q) (l := l) (s := s) (e := e) (g := g) (m := m) (z := z) (t := t) hc hn n4 FF (fun hlt => br_t (nI_pos' (by omega)) (h1 hlt)) (fun heq => br_f (by decide) ⟨i4, br_c (fun x => h2 heq ?_) fun x => h3 heq ?_⟩))))))⟩)
              · rw [cc, hn] at x
                exact (nI_ltI (b := 4) (by omega) (by omega)).mp x
              · rw [cc, hn] at x
                apply Classical.byContradiction
                intro hx
                exact x (nI_lt (b := 4) (by omega) (by omega))
            refine cX _ (br_f (by decide) ⟨i4, br_f hl' (aX _ (br_f hA0 (br_f q0 (br_t q2 (px_fs (p := p) (k := kk) (r := r) (l := l) (s := s) (o := o) (h := h) (w := w) hc hn n4 FF (fun hlt => br_t (nI_pos' (by omega)) ?_) (fun heq => br_f (by decide) ⟨i4, br_c (fun x => ?_) fun x => ?_⟩))))))⟩)
            · -- the subscription is there: its new qos
              obtain ⟨N, k', o', e', w', z', c1, c2, c3, c4⟩ := pr_sr HP (l := l) (s := (s.1, s.2.1, upd s.2.2 (c * 4 + j) v3)) r1 r2 hR hc v2 v3 hQ 4096 0 (by omega) 0 0 kk o e w z (by omega) (fun j hj => absurd hj (by omega)) (fun j _ hj => by obtain ⟨t, ht, et⟩ := hR.2.1 j hj; rw [et]; exact nI_le (by omega) (by omega)) HO HW
              have hend : wpY_subscribe (fun r' v' => r' = N ∧ i_Rel (k + 5) (XS p k' r l (s.1, s.2.1, upd s.2.2 (c * 4 + j) v3) o' h w') v') (YS p kk q l s e g m z t) (nI c) v2 v3 := by
                have eY : nI c * 4 + nI j = nI (c * 4 + j) := by rw [pn_m4, nI_add]
                refine hYY _ (fun _ => br_f (nI_pos (by omega)) ⟨by rw [eY]; exact vp_in_nI (by omega) (by omega), nm_r (e' := upd s.2.2 (c * 4 + j) v3) (by rw [eY, nI_clamp (by omega)]) ⟨4097, c4 g m t _ ⟨rfl, ir_mk HP (ps_IL_set HL hc hn n4 hlt hQ) HR c1 HH c2⟩⟩⟩) (fun x => absurd x (by omega)) (fun x => absurd x (by omega))
              exact ⟨vp_in_nI (by omega) (by omega), nm_r (e' := upd s.2.2 (c * 4 + j) v3) (by rw [nI_clamp (by omega)]) ⟨_, c3 h _ hend⟩⟩
            · -- no room
              have hn4 : n = 4 := by
                rw [cc, hn] at x
                exact (nI_eq (b := 4) (by omega) (by omega)).mp x
              exact hYY _ (fun x => absurd x (by omega)) (fun _ x => absurd x (by omega)) (fun _ _ => ⟨rfl, R⟩)
            · -- a new subscription
              have hn4 : n < 4 := by
                rw [cc, hn] at x
                apply Classical.byContradiction
                intro hx
                apply x
                rw [show n = 4 by omega]
                rfl
              obtain ⟨N, k', o', e', w', z', c1, c2, c3, c4⟩ := pr_sr HP (l := l) (s := (upd s.1 c (nI (n + 1)), upd s.2.1 (c * 4 + n) v2, upd s.2.2 (c * 4 + n) v3)) r1 r2 hR hc v2 v3 hQ 4096 0 (by omega) 0 0 kk o e w z (by omega) (fun j hj => absurd hj (by omega)) (fun j _ hj => by obtain ⟨t, ht, et⟩ := hR.2.1 j hj; rw [et]; exact nI_le (by omega) (by omega)) HO HW
              have eX : nI c * 4 + s.1 (nI c).toNatClampNeg = nI (c * 4 + n) := by rw [cc, hn, pn_m4, nI_add]
              have cn : (nI (c * 4 + n)).toNatClampNeg = c * 4 + n := nI_clamp (by omega)
              have i16 : vp_in (nI (c * 4 + n)) 16 := vp_in_nI (by omega) (by omega)
              have hend : wpY_subscribe (fun r' v' => r' = N ∧ i_Rel (k + 5) (XS p k' r l (upd s.1 c (nI (n + 1)), upd s.2.1 (c * 4 + n) v2, upd s.2.2 (c * 4 + n) v3) o' h w') v') (YS p kk q l s e g m z t) (nI c) v2 v3 := by
                refine hYY _ (fun x => absurd x (by omega)) (fun _ _ => br_t (by decide) ⟨i4, by rw [eX]; exact i16, nm_r (e' := upd s.2.1 (c * 4 + n) v2) (by rw [eX, cn]) ⟨i4, by rw [eX]; exact i16, nm_r (e' := upd s.2.2 (c * 4 + n) v3) (by rw [eX, cn]) ⟨i4, i4, nm_r (e' := upd s.1 c (nI (n + 1))) (by rw [cc, hn, nI_1]) ⟨4097, c4 g m t _ ⟨rfl, ir_mk HP (ps_IL_new HL hc hn hn4 hl hQ) HR c1 HH c2⟩⟩⟩⟩⟩) (fun _ x => absurd x (by omega))
              exact ⟨i4, nm_r eX ⟨i16, nm_r (e' := upd s.2.1 (c * 4 + n) v2) (by rw [cn]) ⟨i4, i4, nm_r (e' := upd s.1 c (nI (n + 1))) (by rw [cc, hn, nI_1]) ⟨i16, nm_r (e' := upd s.2.2 (c * 4 + n) v3) (by rw [cn]) ⟨_, c3 h _ hend⟩⟩⟩⟩⟩
          · exact cX _ (br_f (by decide) ⟨i4, br_f hl' (aX _ (br_f hA0 (br_f q0 (br_f q2 (by unfold wpY_subscribe; exact cY _ _ (br_t rfl ⟨i4, br_f hl' (aY p kk q l s e g m z t _ (br_f hA0 (br_f q0 (br_f q2 ⟨rfl, R⟩))))⟩))))))⟩)
end P22
