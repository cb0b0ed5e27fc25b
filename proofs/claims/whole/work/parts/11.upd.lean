section P11
theorem px_upd_y {p : TP} {k : TK} {r : TR} {l s : TL} {o : TO} {h : TA} {w : TW} {n pl sn tn : Nat} (hs : sn < 25) (hT : p.2.1 sn = nI tn) (hn : r.1 = nI n) (n8 : n ≤ 8) (h1 : pl < n) (h2 : ∀ i, i < pl → r.2.1 i < nI tn) (h3 : ∀ i, pl ≤ i → i < n → nI tn ≤ r.2.1 i) (he : r.2.1 pl = nI tn) {post : SX → Prop}
    (hp : wX_updateRetained_36 post (nI sn) (nI tn) (nI pl) 1 p.1 r.1 p.2.1 p.2.2.1 p.2.2.2.1 p.2.2.2.2 k.1 k.2.1 k.2.2.1 k.2.2.2 r.2.1 r.2.2 l.1 l.2.1 l.2.2 s.1 s.2.1 s.2.2 o.1 o.2.1 o.2.2.1 o.2.2.2.1 o.2.2.2.2.1 o.2.2.2.2.2 h w.1 w.2.1 w.2.2.1 w.2.2.2.1 w.2.2.2.2.1 w.2.2.2.2.2.1 w.2.2.2.2.2.2) : wpX_updateRetained post (XS p k r l s o h w) (nI sn) := by
  have cs : (nI sn).toNatClampNeg = sn := nI_clamp (by omega)
  exact ⟨vp_in_nI hs (by omega), nm_r (e' := nI tn) (by rw [cs, hT]) (px_pl (p := p) (k := k) (r := r) (l := l) (s := s) (o := o) (h := h) (w := w) hn n8 (by omega) h2 h3 (br_f (by rw [hn]; exact nI_ge (by omega) (by omega)) ⟨vp_in_nI (by omega) (by omega), br_t (by rw [nI_clamp (by omega)]; exact he) hp⟩))⟩
theorem px_upd_n {p : TP} {k : TK} {r : TR} {l s : TL} {o : TO} {h : TA} {w : TW} {n pl sn tn : Nat} (hs : sn < 25) (hT : p.2.1 sn = nI tn) (hn : r.1 = nI n) (n8 : n ≤ 8) (h1 : pl ≤ n) (h2 : ∀ i, i < pl → r.2.1 i < nI tn) (h3 : ∀ i, pl ≤ i → i < n → nI tn ≤ r.2.1 i) (he : pl < n → ¬ r.2.1 pl = nI tn) {post : SX → Prop}
    (hp : wX_updateRetained_36 post (nI sn) (nI tn) (nI pl) 0 p.1 r.1 p.2.1 p.2.2.1 p.2.2.2.1 p.2.2.2.2 k.1 k.2.1 k.2.2.1 k.2.2.2 r.2.1 r.2.2 l.1 l.2.1 l.2.2 s.1 s.2.1 s.2.2 o.1 o.2.1 o.2.2.1 o.2.2.2.1 o.2.2.2.2.1 o.2.2.2.2.2 h w.1 w.2.1 w.2.2.1 w.2.2.2.1 w.2.2.2.2.1 w.2.2.2.2.2.1 w.2.2.2.2.2.2) : wpX_updateRetained post (XS p k r l s o h w) (nI sn) := by
  have cs : (nI sn).toNatClampNeg = sn := nI_clamp (by omega)
  refine ⟨vp_in_nI hs (by omega), nm_r (e' := nI tn) (by rw [cs, hT]) (px_pl (p := p) (k := k) (r := r) (l := l) (s := s) (o := o) (h := h) (w := w) hn n8 (by omega) h2 h3 (br_c (fun _ => hp) fun a => ?_))⟩
  have hlt : pl < n := by
    rw [hn] at a
    apply Classical.byContradiction
    intro hx
    exact a (nI_le (by omega) (by omega))
  exact ⟨vp_in_nI (by omega) (by omega), br_f (by rw [nI_clamp (by omega)]; exact he hlt) hp⟩
/-- Y's accept up to its sends -/
theorem py_acc_0 {p : TP} {k : TK} {q : TR} {l s : TL} {e : TO} {g m : TA} {z : TO} {t : T5} {sn : Nat} (h1 : 1 ≤ sn) (h2 : sn ≤ 24) (hr : p.2.2.2.2 sn = 0) {post : SY → Prop}
    (hp : ∃ n, wY_accept_177 post (nI sn) (p.2.1 sn) n 0 p.1 q.1 t.1 t.2.1 t.2.2.1 t.2.2.2.1 t.2.2.2.2 p.2.1 p.2.2.1 p.2.2.2.1 p.2.2.2.2 (upd k.2.2.1 sn (k.2.2.1 sn + 1)) k.1 k.2.1 k.2.2.2 q.2.1 q.2.2 l.1 l.2.1 l.2.2 s.2.1 s.2.2 s.1 e.2.1 e.2.2.1 e.2.2.2.1 e.2.2.2.2.1 e.2.2.2.2.2 e.1 g m z.2.1 z.2.2.1 z.2.2.2.1 z.2.2.2.2.1 z.2.2.2.2.2 z.1) : wpY_accept post (YS p k q l s e g m z t) (nI sn) := by
  have cs : (nI sn).toNatClampNeg = sn := nI_clamp (by omega)
  have i25 : vp_in (nI sn) 25 := vp_in_nI (by omega) (by omega)
  exact br_f (nI_nlt (b := 1) h1 (by omega)) (br_t (nI_le (b := 24) h2 (by omega)) ⟨i25, i25, nm_r (e' := upd k.2.2.1 sn (k.2.2.1 sn + 1)) (by rw [cs]) ⟨i25, nm_r (e' := p.2.1 sn) (by rw [cs]) ⟨i25, br_t (by rw [cs]; exact hr) hp⟩⟩⟩)
theorem py_acc_r {p : TP} {k : TK} {q : TR} {l s : TL} {e : TO} {g m : TA} {z : TO} {t : T5} {n j sn : Nat} (h1 : 1 ≤ sn) (h2 : sn ≤ 24) (hr : ¬ p.2.2.2.2 sn = 0) (hn : q.1 = nI n) (n8 : n ≤ 8) (F : ps_F q.2.1 0 n (p.2.1 sn) j) {post : SY → Prop}
    (h00 : p.2.2.1 sn = 0 → j = n → ∃ n, wY_accept_177 post (nI sn) (p.2.1 sn) n 0 p.1 q.1 t.1 t.2.1 t.2.2.1 t.2.2.2.1 t.2.2.2.2 p.2.1 p.2.2.1 p.2.2.2.1 p.2.2.2.2 (upd k.2.2.1 sn (k.2.2.1 sn + 1)) k.1 k.2.1 k.2.2.2 q.2.1 q.2.2 l.1 l.2.1 l.2.2 s.2.1 s.2.2 s.1 e.2.1 e.2.2.1 e.2.2.2.1 e.2.2.2.2.1 e.2.2.2.2.2 e.1 g m z.2.1 z.2.2.1 z.2.2.2.1 z.2.2.2.2.1 z.2.2.2.2.2 z.1)
    (h01 : p.2.2.1 sn = 0 → j < n → ∃ n', wY_accept_177 post (nI sn) (p.2.1 sn) n' 0 p.1 ((nI (n - 1), ps_sh q.2.1 j (n - 1), ps_sh q.2.2 j (n - 1)).1) t.1 t.2.1 t.2.2.1 t.2.2.2.1 t.2.2.2.2 p.2.1 p.2.2.1 p.2.2.2.1 p.2.2.2.2 (upd k.2.2.1 sn (k.2.2.1 sn + 1)) k.1 k.2.1 k.2.2.2 ((nI (n - 1), ps_sh q.2.1 j (n - 1), ps_sh q.2.2 j (n - 1)).2.1) ((nI (n - 1), ps_sh q.2.1 j (n - 1), ps_sh q.2.2 j (n - 1)).2.2) l.1 l.2.1 l.2.2 s.2.1 s.2.2 s.1 e.2.1 e.2.2.1 e.2.2.2.1 e.2.2.2.2.1 e.2.2.2.2.2 e.1 g m z.2.1 z.2.2.1 z.2.2.2.1 z.2.2.2.2.1 z.2.2.2.2.2 z.1)
    (h10 : ¬ p.2.2.1 sn = 0 → j = n → n = 8 → ∃ n, wY_accept_177 post (nI sn) (p.2.1 sn) n 0 p.1 q.1 t.1 t.2.1 t.2.2.1 t.2.2.2.1 t.2.2.2.2 p.2.1 p.2.2.1 p.2.2.2.1 p.2.2.2.2 (upd k.2.2.1 sn (k.2.2.1 sn + 1)) k.1 k.2.1 k.2.2.2 q.2.1 q.2.2 l.1 l.2.1 l.2.2 s.2.1 s.2.2 s.1 e.2.1 e.2.2.1 e.2.2.2.1 e.2.2.2.2.1 e.2.2.2.2.2 e.1 g m z.2.1 z.2.2.1 z.2.2.2.1 z.2.2.2.2.1 z.2.2.2.2.2 z.1)
    (h11 : ¬ p.2.2.1 sn = 0 → j = n → n < 8 → ∃ n', wY_accept_177 post (nI sn) (p.2.1 sn) n' 0 p.1 ((nI (n + 1), upd q.2.1 n (p.2.1 sn), upd q.2.2 n (nI sn)).1) t.1 t.2.1 t.2.2.1 t.2.2.2.1 t.2.2.2.2 p.2.1 p.2.2.1 p.2.2.2.1 p.2.2.2.2 (upd k.2.2.1 sn (k.2.2.1 sn + 1)) k.1 k.2.1 k.2.2.2 ((nI (n + 1), upd q.2.1 n (p.2.1 sn), upd q.2.2 n (nI sn)).2.1) ((nI (n + 1), upd q.2.1 n (p.2.1 sn), upd q.2.2 n (nI sn)).2.2) l.1 l.2.1 l.2.2 s.2.1 s.2.2 s.1 e.2.1 e.2.2.1 e.2.2.2.1 e.2.2.2.2.1 e.2.2.2.2.2 e.1 g m z.2.1 z.2.2.1 z.2.2.2.1 z.2.2.2.2.1 z.2.2.2.2.2 z.1)
    (h12 : ¬ p.2.2.1 sn = 0 → j < n → ∃ n, wY_accept_177 post (nI sn) (p.2.1 sn) n 0 p.1 ((q.1, q.2.1, upd q.2.2 j (nI sn)).1) t.1 t.2.1 t.2.2.1 t.2.2.2.1 t.2.2.2.2 p.2.1 p.2.2.1 p.2.2.2.1 p.2.2.2.2 (upd k.2.2.1 sn (k.2.2.1 sn + 1)) k.1 k.2.1 k.2.2.2 ((q.1, q.2.1, upd q.2.2 j (nI sn)).2.1) ((q.1, q.2.1, upd q.2.2 j (nI sn)).2.2) l.1 l.2.1 l.2.2 s.2.1 s.2.2 s.1 e.2.1 e.2.2.1 e.2.2.2.1 e.2.2.2.2.1 e.2.2.2.2.2 e.1 g m z.2.1 z.2.2.1 z.2.2.2.1 z.2.2.2.2.1 z.2.2.2.2.2 z.1) : wpY_accept post (YS p k q l s e g m z t) (nI sn) := by
  have cs : (nI sn).toNatClampNeg = sn := nI_clamp (by omega)
  have i25 : vp_in (nI sn) 25 := vp_in_nI (by omega) (by omega)
  have hj := F.1
  have m1 : (-1 : Int32) < 0 := by decide
  refine br_f (nI_nlt (b := 1) h1 (by omega)) (br_t (nI_le (b := 24) h2 (by omega)) ⟨i25, i25, nm_r (e' := upd k.2.2.1 sn (k.2.2.1 sn + 1)) (by rw [cs]) ⟨i25, nm_r (e' := p.2.1 sn) (by rw [cs]) ⟨i25, br_f (by rw [cs]; exact hr) (py_fr (p := p) (k := (k.1, k.2.1, upd k.2.2.1 sn (k.2.2.1 sn + 1), k.2.2.2)) (q := q) (l := l) (s := s) (e := e) (g := g) (m := m) (z := z) (t := t) hn n8 F (fun hlt => ?_) (fun heq => ?_))⟩⟩⟩)
  · have hp0 : ¬ nI j < 0 := nI_pos (by omega)
    refine ⟨i25, br_c (fun a => br_f hp0 ?_) (fun a => br_f hp0 ?_)⟩
    · rw [cs] at a
      obtain ⟨n, rfl⟩ : ∃ n', n = n' + 1 := ⟨n - 1, by omega⟩
      obtain ⟨f, hf⟩ := h01 a hlt
      rw [Nat.add_sub_cancel] at hf
      have hl : ∀ d i, j ≤ i → i + d = n → wY_accept_60 post (nI sn) (p.2.1 sn) p.1 q.1 t.1 t.2.1 t.2.2.1 t.2.2.2.1 t.2.2.2.2 (d + 1) (nI i) p.2.1 p.2.2.1 p.2.2.2.1 p.2.2.2.2 (upd k.2.2.1 sn (k.2.2.1 sn + 1)) k.1 k.2.1 k.2.2.2 (ps_sh q.2.1 j i) (ps_sh q.2.2 j i) l.1 l.2.1 l.2.2 s.2.1 s.2.2 s.1 e.2.1 e.2.2.1 e.2.2.2.1 e.2.2.2.2.1 e.2.2.2.2.2 e.1 g m z.2.1 z.2.2.1 z.2.2.2.1 z.2.2.2.2.1 z.2.2.2.2.2 z.1 := by
        intro d
        induction d with
        | zero =>
          intro i h1 hi
          obtain rfl : i = n := by omega
          exact br_t (by rw [hn, nI_1]; exact nI_le (by omega) (by omega)) (nm_r (e' := nI i) (by rw [hn, nI_pred]) ⟨f, hf⟩)
        | succ d ih =>
          intro i h1 hi
          have a0 : vp_in (nI i) 8 := vp_in_nI (by omega) (by omega)
          have a1 : vp_in (nI i + 1) 8 := by rw [nI_1]; exact vp_in_nI (by omega) (by omega)
          exact br_f (by rw [hn, nI_1]; exact nI_ge (by omega) (by omega)) ⟨a1, a0, nm_r (pn_sh rfl (nI_1 _) (by omega) (by omega)) ⟨a1, a0, nm_r (pn_sh rfl (nI_1 _) (by omega) (by omega)) (nm_r (nI_1 _) (ih (i + 1) (by omega) (by omega)))⟩⟩
      have hl0 := hl (n - j) j (Nat.le_refl j) (by omega)
      rw [ps_sh0 (Nat.le_refl _), ps_sh0 (Nat.le_refl _)] at hl0
      exact ⟨n - j + 1, hl0⟩
    · rw [cs] at a
      exact ⟨vp_in_nI (by omega) (by omega), nm_r (by rw [nI_clamp (by omega)]) (h12 a hlt)⟩
  · refine ⟨i25, br_c (fun a => br_t m1 ?_) (fun a => br_t m1 (br_c (fun b => ?_) fun b => ?_))⟩
    · rw [cs] at a
      exact h00 a heq
    · rw [cs] at a
      refine h10 a heq ?_
      rw [hn] at b
      have := (nI_leI (a := 8) (by omega) (by omega)).mp b
      omega
    · rw [cs] at a
      have hlt : n < 8 := by
        rw [hn] at b
        apply Classical.byContradiction
        intro hx
        exact b (nI_le (a := 8) (by omega) (by omega))
      have cn : q.1.toNatClampNeg = n := by rw [hn]; exact nI_clamp (by omega)
      have i8 : vp_in q.1 8 := by rw [hn]; exact vp_in_nI hlt (by omega)
      exact ⟨i8, nm_r (by rw [cn]) ⟨i8, nm_r (by rw [cn]) (nm_r (e' := nI (n + 1)) (by rw [hn, nI_1]) (h11 a heq hlt))⟩⟩
theorem pr_upd {p : TP} {r q : TR} (H : ps_RR r q) {sn tn : Nat} (h1 : 1 ≤ sn) (h2 : sn ≤ 24) (ht : tn < 4096) (hT : p.2.1 sn = nI tn) (hr : ¬ p.2.2.2.2 sn = 0) : ∃ r' q', ps_RR r' q'
    ∧ (∀ (k : TK) (l s : TL) (o : TO) (h : TA) (w : TW) (post : SX → Prop), post (XS p k r' l s o h w) → wpX_updateRetained post (XS p k r l s o h w) (nI sn))
    ∧ (∀ (k : TK) (l s : TL) (e : TO) (g m : TA) (z : TO) (t : T5) (post : SY → Prop), (∃ n, wY_accept_177 post (nI sn) (p.2.1 sn) n 0 p.1 q'.1 t.1 t.2.1 t.2.2.1 t.2.2.2.1 t.2.2.2.2 p.2.1 p.2.2.1 p.2.2.2.1 p.2.2.2.2 (upd k.2.2.1 sn (k.2.2.1 sn + 1)) k.1 k.2.1 k.2.2.2 q'.2.1 q'.2.2 l.1 l.2.1 l.2.2 s.2.1 s.2.2 s.1 e.2.1 e.2.2.1 e.2.2.2.1 e.2.2.2.2.1 e.2.2.2.2.2 e.1 g m z.2.1 z.2.2.1 z.2.2.2.1 z.2.2.2.2.1 z.2.2.2.2.2 z.1) → wpY_accept post (YS p k q l s e g m z t) (nI sn)) := by
  obtain ⟨n, e1, e2, hR⟩ := H
  have n8 := hR.1
  obtain ⟨pl, p1, p2, p3⟩ := ps_pl hR (nI tn)
  obtain ⟨j, F⟩ := ps_F_ex q.2.1 0 (p.2.1 sn) n
  have hj := F.1
  have hs : sn < 25 := by omega
  by_cases hpr : pl < n ∧ r.2.1 pl = nI tn
  · obtain ⟨hlt, he⟩ := hpr
    have hjn : j < n := by
      obtain ⟨j', hj', ej, _⟩ := hR.2.2.2.2.2.1 pl hlt
      apply Classical.byContradiction
      intro hx
      have := F.2.1 j' (by omega)
      rw [Nat.zero_add, hT, ej] at this
      exact this he
    have hej : r.2.1 pl = q.2.1 j := by
      have := F.2.2 hjn
      rw [Nat.zero_add, hT] at this
      rw [this]
      exact he
    have one : ¬ (1 : Int32) = 0 := by decide
    by_cases hp0 : p.2.2.1 sn = 0
    · obtain ⟨n, rfl⟩ : ∃ n', n = n' + 1 := ⟨n - 1, by omega⟩
      refine ⟨(nI n, ps_sh r.2.1 pl n, ps_sh r.2.2 pl n), (nI n, ps_sh q.2.1 j n, ps_sh q.2.2 j n), ⟨n, rfl, rfl, ps_R_del hR hlt hjn hej⟩, fun k l s o h w post hp => ?_, fun k l s e g m z t post hp => ?_⟩
      · exact px_upd_y hs hT e1 n8 hlt p2 p3 he (px_u36 hs e1 n8 p1 (fun _ z => absurd z one) (fun _ _ => px_rrem e1 (by omega) (by omega) hp) (fun z => absurd hp0 z) (fun z => absurd hp0 z) (fun z => absurd hp0 z))
      · exact py_acc_r h1 h2 hr e2 n8 F (fun _ z => by omega) (fun _ _ => hp) (fun z => absurd hp0 z) (fun z => absurd hp0 z) (fun z => absurd hp0 z)
    · refine ⟨(r.1, r.2.1, upd r.2.2 pl (nI sn)), (q.1, q.2.1, upd q.2.2 j (nI sn)), ⟨n, e1, e2, ps_R_set hR hlt hjn hej h1 h2⟩, fun k l s o h w post hp => ?_, fun k l s e g m z t post hp => ?_⟩
      · exact px_upd_y hs hT e1 n8 hlt p2 p3 he (px_u36 hs e1 n8 p1 (fun z => absurd z hp0) (fun z => absurd z hp0) (fun _ z => absurd z one) (fun _ z => absurd z one) (fun _ _ => ⟨by omega, hp⟩))
      · exact py_acc_r h1 h2 hr e2 n8 F (fun z => absurd z hp0) (fun z => absurd z hp0) (fun _ z => by omega) (fun _ z => by omega) (fun _ _ => hp)
  · have hab : pl < n → ¬ r.2.1 pl = nI tn := fun hlt he => hpr ⟨hlt, he⟩
    have hgt : ∀ i, pl ≤ i → i < n → nI tn < r.2.1 i := by
      intro i h1 h2
      have h3 := p3 i h1 h2
      have h4 : r.2.1 i ≠ nI tn := by
        intro e
        by_cases hi : i = pl
        · rw [hi] at e h2
          exact hab h2 e
        · have h5 := hR.2.2.2.1 pl i (by omega) h2
          rw [e] at h5
          exact Int32.lt_irrefl (Int32.lt_of_lt_of_le h5 (p3 pl (Nat.le_refl _) (by omega)))
      exact ps_tri (Int32.not_lt.mpr h3) h4
    have hno : ∀ i, i < n → r.2.1 i ≠ nI tn := by
      intro i hi
      by_cases b : i < pl
      · exact ps_lt_ne (p2 i b)
      · exact (ps_lt_ne (hgt i (by omega) hi)).symm
    have hjn : j = n := by
      apply Classical.byContradiction
      intro hx
      have h3 := F.2.2 (by omega)
      rw [Nat.zero_add, hT] at h3
      obtain ⟨i, hi, ei, _⟩ := hR.2.2.2.2.2.2 j (by omega)
      exact hno i hi (ei.trans h3)
    by_cases hp0 : p.2.2.1 sn = 0
    · refine ⟨r, q, ⟨n, e1, e2, hR⟩, fun k l s o h w post hp => ?_, fun k l s e g m z t post hp => ?_⟩
      · exact px_upd_n hs hT e1 n8 p1 p2 p3 hab (px_u36 hs e1 n8 p1 (fun _ _ => hp) (fun _ z => absurd rfl z) (fun z => absurd hp0 z) (fun z => absurd hp0 z) (fun z => absurd hp0 z))
      · exact py_acc_r h1 h2 hr e2 n8 F (fun _ _ => hp) (fun _ z => by omega) (fun z => absurd hp0 z) (fun z => absurd hp0 z) (fun z => absurd hp0 z)
    · by_cases h8 : n = 8
      · refine ⟨r, q, ⟨n, e1, e2, hR⟩, fun k l s o h w post hp => ?_, fun k l s e g m z t post hp => ?_⟩
        · exact px_upd_n hs hT e1 n8 p1 p2 p3 hab (px_u36 hs e1 n8 p1 (fun z => absurd z hp0) (fun z => absurd z hp0) (fun _ _ _ => hp) (fun _ _ z => by omega) (fun _ z => absurd rfl z))
        · exact py_acc_r h1 h2 hr e2 n8 F (fun z => absurd z hp0) (fun z => absurd z hp0) (fun _ _ _ => hp) (fun _ _ z => by omega) (fun _ z => by omega)
      · refine ⟨(nI (n + 1), upd (ps_rs r.2.1 pl n) pl (nI tn), upd (ps_rs r.2.2 pl n) pl (nI sn)), (nI (n + 1), upd q.2.1 n (nI tn), upd q.2.2 n (nI sn)), ⟨n + 1, rfl, rfl, ps_R_ins hR (by omega) p1 ht h1 h2 p2 hgt⟩, fun k l s o h w post hp => ?_, fun k l s e g m z t post hp => ?_⟩
        · exact px_upd_n hs hT e1 n8 p1 p2 p3 hab (px_u36 hs e1 n8 p1 (fun z => absurd z hp0) (fun z => absurd z hp0) (fun _ _ z => absurd z h8) (fun _ _ z => px_rins e1 z p1 hp) (fun _ z => absurd rfl z))
        · exact py_acc_r h1 h2 hr e2 n8 F (fun z => absurd z hp0) (fun z => absurd z hp0) (fun _ _ z => absurd z h8) (fun _ _ _ => by rw [hT] at hp ⊢; exact hp) (fun _ z => by omega)
end P11
