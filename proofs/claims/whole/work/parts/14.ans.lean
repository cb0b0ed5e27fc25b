section P14
def ps_GH (f g m : TA) : Prop := ps_RH f g m ∧ ps_B f
theorem pn_yb (c b : Nat) : nI c * 2 + nI b = nI (2 * c + b) := by rw [pn_m2, nI_add]
theorem py_fh_lp {p : TP} {k : TK} {q : TR} {l s : TL} {e : TO} {g m : TA} {z : TO} {t : T5} {y n j : Nat} {I : Int32} (hy : y < 8) (hn : m y = nI n) (n16 : n ≤ 16) (F : ps_F g (y * 16) n I j) {post : Int32 → Prop} (h1 : j < n → post (nI j)) (h2 : j = n → post (-1)) :
    ∀ d i, i + d = j → wY_findHeld_2 post (nI y) I p.1 q.1 t.1 t.2.1 t.2.2.1 t.2.2.2.1 t.2.2.2.2 p.2.1 p.2.2.1 p.2.2.2.1 p.2.2.2.2 k.2.2.1 k.1 k.2.1 k.2.2.2 q.2.1 q.2.2 l.1 l.2.1 l.2.2 s.2.1 s.2.2 s.1 e.2.1 e.2.2.1 e.2.2.2.1 e.2.2.2.2.1 e.2.2.2.2.2 e.1 g m z.2.1 z.2.2.1 z.2.2.2.1 z.2.2.2.2.1 z.2.2.2.2.2 z.1 (d + 1) (nI i) := by
  intro d
  have hj := F.1
  have cy : (nI y).toNatClampNeg = y := nI_clamp (by omega)
  have i8 : vp_in (nI y) 8 := vp_in_nI hy (by omega)
  induction d with
  | zero =>
    intro i hi
    obtain rfl : i = j := by omega
    by_cases hn' : i < n
    · exact ⟨i8, br_f (by rw [cy, hn]; exact nI_ge (by omega) (by omega)) ⟨by rw [pn_m16, nI_add]; exact vp_in_nI (by omega) (by omega), br_t (by rw [pn_m16, nI_add, nI_clamp (by omega)]; exact F.2.2 hn') (h1 hn')⟩⟩
    · exact ⟨i8, br_t (by rw [cy, hn]; exact nI_le (by omega) (by omega)) (h2 (by omega))⟩
  | succ d ih =>
    intro i hi
    exact ⟨i8, br_f (by rw [cy, hn]; exact nI_ge (by omega) (by omega)) ⟨by rw [pn_m16, nI_add]; exact vp_in_nI (by omega) (by omega), br_f (by rw [pn_m16, nI_add, nI_clamp (by omega)]; exact F.2.1 i (by omega)) (nm_r (nI_1 _) (ih (i + 1) (by omega)))⟩⟩
theorem py_fh {p : TP} {k : TK} {q : TR} {l s : TL} {e : TO} {g m : TA} {z : TO} {t : T5} {y n j : Nat} {I : Int32} (hy : y < 8) (hn : m y = nI n) (n16 : n ≤ 16) (F : ps_F g (y * 16) n I j) {post : Int32 → Prop} (h1 : j < n → post (nI j)) (h2 : j = n → post (-1)) :
    wpY_findHeld post (YS p k q l s e g m z t) (nI y) I := ⟨j + 1, py_fh_lp hy hn n16 F h1 h2 j 0 (by omega)⟩
theorem py_rel {p : TP} {k : TK} {q : TR} {l s : TL} {e : TO} {g m : TA} {z : TO} {t : T5} {y n j : Nat} {I : Int32} (hy : y < 8) (hm : m y = nI (n + 1)) (n16 : n < 16) (hj : j ≤ n) {post : SY → Prop}
    (hp : wpY_put post (YS p k q l s e (ps_sh g (y * 16 + j) (y * 16 + n)) (upd m y (nI n)) z t) (nI y) 5 I 0 0 0) : ∃ f, wY_handle_313 post I (nI y) (nI y) p.1 q.1 t.1 t.2.1 t.2.2.1 t.2.2.2.1 t.2.2.2.2 f (nI j) p.2.1 p.2.2.1 p.2.2.2.1 p.2.2.2.2 k.2.2.1 k.1 k.2.1 k.2.2.2 q.2.1 q.2.2 l.1 l.2.1 l.2.2 s.2.1 s.2.2 s.1 e.2.1 e.2.2.1 e.2.2.2.1 e.2.2.2.2.1 e.2.2.2.2.2 e.1 g m z.2.1 z.2.2.1 z.2.2.2.1 z.2.2.2.2.1 z.2.2.2.2.2 z.1 := by
  have cy : (nI y).toNatClampNeg = y := nI_clamp (by omega)
  have i8 : vp_in (nI y) 8 := vp_in_nI hy (by omega)
  have hl : ∀ d i, j ≤ i → i + d = n → wY_handle_313 post I (nI y) (nI y) p.1 q.1 t.1 t.2.1 t.2.2.1 t.2.2.2.1 t.2.2.2.2 (d + 1) (nI i) p.2.1 p.2.2.1 p.2.2.2.1 p.2.2.2.2 k.2.2.1 k.1 k.2.1 k.2.2.2 q.2.1 q.2.2 l.1 l.2.1 l.2.2 s.2.1 s.2.2 s.1 e.2.1 e.2.2.1 e.2.2.2.1 e.2.2.2.2.1 e.2.2.2.2.2 e.1 (ps_sh g (y * 16 + j) (y * 16 + i)) m z.2.1 z.2.2.1 z.2.2.2.1 z.2.2.2.2.1 z.2.2.2.2.2 z.1 := by
    intro d
    induction d with
    | zero =>
      intro i h1 hi
      obtain rfl : i = n := by omega
      exact ⟨i8, br_t (by rw [cy, hm, nI_1]; exact nI_le (by omega) (by omega)) ⟨i8, i8, nm_r (e' := upd m y (nI i)) (by rw [cy, hm, nI_pred]) hp⟩⟩
    | succ d ih =>
      intro i h1 hi
      have ea : nI y * 16 + nI i = nI (y * 16 + i) := by rw [pn_m16, nI_add]
      have eb : nI y * 16 + nI i + 1 = nI (y * 16 + i + 1) := by rw [ea, nI_1]
      have a0 : vp_in (nI y * 16 + nI i) 128 := by rw [ea]; exact vp_in_nI (by omega) (by omega)
      have a1 : vp_in (nI y * 16 + nI i + 1) 128 := by rw [eb]; exact vp_in_nI (by omega) (by omega)
      exact ⟨i8, br_f (by rw [cy, hm, nI_1]; exact nI_ge (by omega) (by omega)) ⟨a1, a0, nm_r (pn_sh ea eb (by omega) (by omega)) (nm_r (nI_1 _) (ih (i + 1) (by omega) (by omega)))⟩⟩
  have hl0 := hl (n - j) j (Nat.le_refl j) (by omega)
  rw [ps_sh0 (Nat.le_refl _)] at hl0
  exact ⟨n - j + 1, hl0⟩
/-- what both sides do about a packet that is no publication -/
def ps_ANS (K I Q : Int32) (c b : Nat) (o e : TO) (h g m : TA) (w : TW) (z : TO) : Prop := ∃ (o' e' : TO) (h' g' m' : TA) (w' : TW) (z' : TO), ps_GO o' e' ∧ ps_GH h' g' m' ∧ ps_GW w' z'
    ∧ (∀ (p : TP) (k : TK) (r : TR) (l s : TL) (post : SX → Prop), post (XS p k r l s o' h' w') → wpX_answerPacket post (XS p k r l s o h w) (nI (4 * b + c)) K I Q)
    ∧ (∀ (p : TP) (k : TK) (q : TR) (l s : TL) (t : T5) (S M : Int32) (post : SY → Prop), post (YS p k q l s e' g' m' z' t) → wpY_handle post (YS p k q l s e g m z t) (nI c) (nI b) K I S Q M)
theorem px_a2 {p : TP} {k : TK} {r : TR} {l s : TL} {o : TO} {h : TA} {w : TW} {x : Nat} {I Q : Int32} {post : SX → Prop} (hp : wpX_endPublish post (XS p k r l s o h w) (nI x) I) : wpX_answerPacket post (XS p k r l s o h w) (nI x) 2 I Q := br_f (by decide) (br_f (by decide) (br_f (by decide) (br_t rfl hp)))
theorem px_a3 {p : TP} {k : TK} {r : TR} {l s : TL} {o : TO} {h : TA} {w : TW} {x : Nat} {I Q : Int32} {post : SX → Prop} (hp : wpX_releaseEntry post (XS p k r l s o h w) (nI x) I) : wpX_answerPacket post (XS p k r l s o h w) (nI x) 3 I Q := br_f (by decide) (br_f (by decide) (br_f (by decide) (br_f (by decide) (br_t rfl hp))))
theorem px_a5 {p : TP} {k : TK} {r : TR} {l s : TL} {o : TO} {h : TA} {w : TW} {x : Nat} {I Q : Int32} {post : SX → Prop} (hp : wpX_endRelease post (XS p k r l s o h w) (nI x) I) : wpX_answerPacket post (XS p k r l s o h w) (nI x) 5 I Q := br_f (by decide) (br_f (by decide) (br_f (by decide) (br_f (by decide) (br_f (by decide) (br_f (by decide) (br_t rfl hp))))))
theorem pr_k2 {o e : TO} {h g m : TA} {w : TW} {z : TO} (HO : ps_GO o e) (HH : ps_GH h g m) (HW : ps_GW w z) {c b : Nat} (hc : c < 4) (hb : b < 2) (I Q : Int32) : ps_ANS 2 I Q c b o e h g m w z := by
  obtain ⟨n, j, n16, hjn, o1, e1, hent, fX, fY⟩ := pr_fe HO hc hb I
  have m1 : (-1 : Int32) < 0 := by decide
  by_cases hlt : j < n
  · obtain ⟨he, hv, hi⟩ := hent hlt
    have hq : o.2.2.1 ((4 * b + c) * 16 + j) = e.2.2.1 ((2 * c + b) * 16 + j) := congrArg (fun t : T5 => t.2.1) he
    have hs : o.2.2.2.2.2 ((4 * b + c) * 16 + j) = e.2.2.2.2.2 ((2 * c + b) * 16 + j) := congrArg (fun t : T5 => t.2.2.2.2) he
    have ix : vp_in (nI ((4 * b + c) * 16 + j)) 128 := vp_in_nI (by omega) (by omega)
    have cX : (nI ((4 * b + c) * 16 + j)).toNatClampNeg = (4 * b + c) * 16 + j := nI_clamp (by omega)
    have ey : nI (2 * c + b) * 16 + nI j = nI ((2 * c + b) * 16 + j) := by rw [pn_m16, nI_add]
    have iy : vp_in (nI (2 * c + b) * 16 + nI j) 128 := by rw [ey]; exact vp_in_nI (by omega) (by omega)
    have cY : (nI (2 * c + b) * 16 + nI j).toNatClampNeg = (2 * c + b) * 16 + j := by rw [ey]; exact nI_clamp (by omega)
    have px : ¬ nI ((4 * b + c) * 16 + j) < 0 := nI_pos (by omega)
    have py : ¬ nI j < 0 := nI_pos (by omega)
    by_cases hP : e.2.2.1 ((2 * c + b) * 16 + j) = 1 ∧ e.2.2.2.2.2 ((2 * c + b) * 16 + j) = 1
    · obtain ⟨o', e', d1, d2, d3⟩ := pr_del HO hc hb o1 n16 hlt
      exact ⟨o', e', h, g, m, w, z, d1, HH, HW, fun p k r l s post hp => px_a2 (fX p k r l s h w _ (fun _ => br_f px ⟨ix, br_t (by rw [cX, hq]; exact hP.1) ⟨ix, br_t (by rw [cX, hs]; exact hP.2) (d2 p k r l s h w _ hp)⟩⟩) (fun h => absurd h (by omega))),
        fun p k q l s t S M post hp => nm_r (pn_yb c b) (nm_r (pn_yb c b) (br_f (by decide) (fY p k q l s g m z t _ (fun _ => br_t rfl (br_f py ⟨iy, br_t (by rw [cY]; exact hP.1) ⟨iy, br_t (by rw [cY]; exact hP.2) (d3 p k q l s g m z t _ hp)⟩⟩)) (fun h => absurd h (by omega)))))⟩
    · exact ⟨o, e, h, g, m, w, z, HO, HH, HW, fun p k r l s post hp => px_a2 (fX p k r l s h w _ (fun _ => br_f px ⟨ix, br_c (fun a => ⟨ix, br_c (fun b => absurd ⟨by rw [cX, hq] at a; exact a, by rw [cX, hs] at b; exact b⟩ hP) fun _ => hp⟩) fun _ => hp⟩) (fun h => absurd h (by omega))),
        fun p k q l s t S M post hp => nm_r (pn_yb c b) (nm_r (pn_yb c b) (br_f (by decide) (fY p k q l s g m z t _ (fun _ => br_t rfl (br_f py ⟨iy, br_c (fun a => ⟨iy, br_c (fun b => absurd ⟨by rw [cY] at a; exact a, by rw [cY] at b; exact b⟩ hP) fun _ => hp⟩) fun _ => hp⟩)) (fun h => absurd h (by omega)))))⟩
  · exact ⟨o, e, h, g, m, w, z, HO, HH, HW, fun p k r l s post hp => px_a2 (fX p k r l s h w _ (fun h => absurd h hlt) (fun _ => br_t m1 hp)),
      fun p k q l s t S M post hp => nm_r (pn_yb c b) (nm_r (pn_yb c b) (br_f (by decide) (fY p k q l s g m z t _ (fun h => absurd h hlt) (fun _ => br_t rfl (br_t m1 hp)))))⟩
theorem pr_k5 {o e : TO} {h g m : TA} {w : TW} {z : TO} (HO : ps_GO o e) (HH : ps_GH h g m) (HW : ps_GW w z) {c b : Nat} (hc : c < 4) (hb : b < 2) (I Q : Int32) : ps_ANS 5 I Q c b o e h g m w z := by
  obtain ⟨n, j, n16, hjn, o1, e1, hent, fX, fY⟩ := pr_fe HO hc hb I
  have m1 : (-1 : Int32) < 0 := by decide
  have hY : ∀ (p : TP) (k : TK) (q : TR) (l s : TL) (t : T5) (S M : Int32) (post : SY → Prop), (j < n → (((nI j) < 0 → post (YS p k q l s e g m z t)) ∧ (¬ nI j < 0 → (vp_in (nI (2 * c + b) * 16 + nI j) 128 ∧ ((e.2.2.2.2.2 (nI (2 * c + b) * 16 + nI j).toNatClampNeg = 2 → wpY_removeEntry post (YS p k q l s e g m z t) (nI (2 * c + b)) (nI j)) ∧ (¬ e.2.2.2.2.2 (nI (2 * c + b) * 16 + nI j).toNatClampNeg = 2 → post (YS p k q l s e g m z t))))))) → (j = n → post (YS p k q l s e g m z t)) → wpY_handle post (YS p k q l s e g m z t) (nI c) (nI b) 5 I S Q M :=
    fun p k q l s t S M post h1 h2 => nm_r (pn_yb c b) (nm_r (pn_yb c b) (br_f (by decide) (fY p k q l s g m z t _ (fun hl => br_f (by decide) (br_f (by decide) (br_f (by decide) (br_t rfl (h1 hl))))) (fun hl => br_f (by decide) (br_f (by decide) (br_f (by decide) (br_t rfl (br_t m1 (h2 hl)))))))))
  by_cases hlt : j < n
  · obtain ⟨he, hv, hi⟩ := hent hlt
    have hs : o.2.2.2.2.2 ((4 * b + c) * 16 + j) = e.2.2.2.2.2 ((2 * c + b) * 16 + j) := congrArg (fun t : T5 => t.2.2.2.2) he
    have ix : vp_in (nI ((4 * b + c) * 16 + j)) 128 := vp_in_nI (by omega) (by omega)
    have cX : (nI ((4 * b + c) * 16 + j)).toNatClampNeg = (4 * b + c) * 16 + j := nI_clamp (by omega)
    have ey : nI (2 * c + b) * 16 + nI j = nI ((2 * c + b) * 16 + j) := by rw [pn_m16, nI_add]
    have iy : vp_in (nI (2 * c + b) * 16 + nI j) 128 := by rw [ey]; exact vp_in_nI (by omega) (by omega)
    have cY : (nI (2 * c + b) * 16 + nI j).toNatClampNeg = (2 * c + b) * 16 + j := by rw [ey]; exact nI_clamp (by omega)
    have px : ¬ nI ((4 * b + c) * 16 + j) < 0 := nI_pos (by omega)
    have py : ¬ nI j < 0 := nI_pos (by omega)
    by_cases hP : e.2.2.2.2.2 ((2 * c + b) * 16 + j) = 2
    · obtain ⟨o', e', d1, d2, d3⟩ := pr_del HO hc hb o1 n16 hlt
      exact ⟨o', e', h, g, m, w, z, d1, HH, HW, fun p k r l s post hp => px_a5 (fX p k r l s h w _ (fun _ => br_f px ⟨ix, br_t (by rw [cX, hs]; exact hP) (d2 p k r l s h w _ hp)⟩) (fun h => absurd h (by omega))),
        fun p k q l s t S M post hp => hY p k q l s t S M post (fun _ => br_f py ⟨iy, br_t (by rw [cY]; exact hP) (d3 p k q l s g m z t _ hp)⟩) (fun h => absurd h (by omega))⟩
    · exact ⟨o, e, h, g, m, w, z, HO, HH, HW, fun p k r l s post hp => px_a5 (fX p k r l s h w _ (fun _ => br_f px ⟨ix, br_f (by rw [cX, hs]; exact hP) hp⟩) (fun h => absurd h (by omega))),
        fun p k q l s t S M post hp => hY p k q l s t S M post (fun _ => br_f py ⟨iy, br_f (by rw [cY]; exact hP) hp⟩) (fun h => absurd h (by omega))⟩
  · exact ⟨o, e, h, g, m, w, z, HO, HH, HW, fun p k r l s post hp => px_a5 (fX p k r l s h w _ (fun h => absurd h hlt) (fun _ => br_t m1 hp)), fun p k q l s t S M post hp => hY p k q l s t S M post (fun h => absurd h hlt) (fun _ => hp)⟩
theorem pr_k3 {o e : TO} {h g m : TA} {w : TW} {z : TO} (HO : ps_GO o e) (HH : ps_GH h g m) (HW : ps_GW w z) {c b : Nat} (hc : c < 4) (hb : b < 2) (I Q : Int32) : ps_ANS 3 I Q c b o e h g m w z := by
  obtain ⟨n, j, n16, hjn, o1, e1, hent, fX, fY⟩ := pr_fe HO hc hb I
  have m1 : (-1 : Int32) < 0 := by decide
  by_cases hlt : j < n
  · obtain ⟨he, hv, hi⟩ := hent hlt
    have hq : o.2.2.1 ((4 * b + c) * 16 + j) = e.2.2.1 ((2 * c + b) * 16 + j) := congrArg (fun t : T5 => t.2.1) he
    have hs : o.2.2.2.2.2 ((4 * b + c) * 16 + j) = e.2.2.2.2.2 ((2 * c + b) * 16 + j) := congrArg (fun t : T5 => t.2.2.2.2) he
    have ix : vp_in (nI ((4 * b + c) * 16 + j)) 128 := vp_in_nI (by omega) (by omega)
    have cX : (nI ((4 * b + c) * 16 + j)).toNatClampNeg = (4 * b + c) * 16 + j := nI_clamp (by omega)
    have ey : nI (2 * c + b) * 16 + nI j = nI ((2 * c + b) * 16 + j) := by rw [pn_m16, nI_add]
    have iy : vp_in (nI (2 * c + b) * 16 + nI j) 128 := by rw [ey]; exact vp_in_nI (by omega) (by omega)
    have cY : (nI (2 * c + b) * 16 + nI j).toNatClampNeg = (2 * c + b) * 16 + j := by rw [ey]; exact nI_clamp (by omega)
    have px : ¬ nI ((4 * b + c) * 16 + j) < 0 := nI_pos (by omega)
    have py : ¬ nI j < 0 := nI_pos (by omega)
    by_cases hP : e.2.2.1 ((2 * c + b) * 16 + j) = 2 ∧ e.2.2.2.2.2 ((2 * c + b) * 16 + j) = 1
    · obtain ⟨i, i1, i2, i3⟩ := hv.2.2.1
      have hI : I = nI i := hi.symm.trans i3
      obtain ⟨w', z', a1, a2, a3⟩ := pr_reply HW hc hb (K := 4) (I := I) ⟨⟨i, i2, hI, fun h => absurd h (by decide : ¬ (4 : Int32) = 1), fun _ => i1⟩, Or.inl rfl⟩
      exact ⟨_, _, h, g, m, w', z', ⟨ps_RO_mod HO.1 hc hb hlt n16 o1 (g := 2), HO.2⟩, HH, a1, fun p k r l s post hp => px_a3 (fX p k r l s h w _ (fun _ => br_f px ⟨ix, br_t (by rw [cX, hq]; exact hP.1) ⟨ix, br_t (by rw [cX, hs]; exact hP.2) ⟨ix, nm_r (by rw [cX]) (a2 p k r l s (o.1, o.2.1, o.2.2.1, o.2.2.2.1, o.2.2.2.2.1, upd o.2.2.2.2.2 ((4 * b + c) * 16 + j) 2) h _ hp)⟩⟩⟩) (fun h => absurd h (by omega))),
        fun p k q l s t S M post hp => nm_r (pn_yb c b) (nm_r (pn_yb c b) (br_f (by decide) (fY p k q l s g m z t _ (fun _ => br_f (by decide) (br_t rfl (br_f py ⟨iy, br_t (by rw [cY]; exact hP.1) ⟨iy, br_t (by rw [cY]; exact hP.2) ⟨iy, nm_r (by rw [cY]) (a3 p k q l s (e.1, e.2.1, e.2.2.1, e.2.2.2.1, e.2.2.2.2.1, upd e.2.2.2.2.2 ((2 * c + b) * 16 + j) 2) g m t _ hp)⟩⟩⟩))) (fun h => absurd h (by omega)))))⟩
    · exact ⟨o, e, h, g, m, w, z, HO, HH, HW, fun p k r l s post hp => px_a3 (fX p k r l s h w _ (fun _ => br_f px ⟨ix, br_c (fun a => ⟨ix, br_c (fun b => absurd ⟨by rw [cX, hq] at a; exact a, by rw [cX, hs] at b; exact b⟩ hP) fun _ => hp⟩) fun _ => hp⟩) (fun h => absurd h (by omega))),
        fun p k q l s t S M post hp => nm_r (pn_yb c b) (nm_r (pn_yb c b) (br_f (by decide) (fY p k q l s g m z t _ (fun _ => br_f (by decide) (br_t rfl (br_f py ⟨iy, br_c (fun a => ⟨iy, br_c (fun b => absurd ⟨by rw [cY] at a; exact a, by rw [cY] at b; exact b⟩ hP) fun _ => hp⟩) fun _ => hp⟩))) (fun h => absurd h (by omega)))))⟩
  · exact ⟨o, e, h, g, m, w, z, HO, HH, HW, fun p k r l s post hp => px_a3 (fX p k r l s h w _ (fun h => absurd h hlt) (fun _ => br_t m1 hp)),
      fun p k q l s t S M post hp => nm_r (pn_yb c b) (nm_r (pn_yb c b) (br_f (by decide) (fY p k q l s g m z t _ (fun h => absurd h hlt) (fun _ => br_f (by decide) (br_t rfl (br_t m1 hp))))))⟩
/-- is an id held: at both sides -/
theorem pr_held {h g m : TA} (HH : ps_GH h g m) {c b i : Nat} (hc : c < 4) (hb : b < 2) (h1 : 1 ≤ i) (h2 : i ≤ 16) : ∃ n j, n ≤ 16 ∧ m (2 * c + b) = nI n ∧ ps_F g ((2 * c + b) * 16) n (nI i) j ∧ (j < n ↔ ¬ h ((4 * b + c) * 17 + i) = 0) := by
  obtain ⟨n, a1, a2⟩ := HH.1 c b hc hb
  obtain ⟨j, F⟩ := ps_F_ex g ((2 * c + b) * 16) (nI i) n
  have hj := F.1
  refine ⟨n, j, ps_H_le a2, a1, F, ?_⟩
  have := a2.2.1 i h1 h2
  constructor
  · intro hlt
    exact this.mpr ⟨j, hlt, F.2.2 hlt⟩
  · intro hne
    obtain ⟨j', hj', ej'⟩ := this.mp hne
    apply Classical.byContradiction
    intro hx
    exact F.2.1 j' (by omega) ej'
theorem pr_k4 {o e : TO} {h g m : TA} {w : TW} {z : TO} (HO : ps_GO o e) (HH : ps_GH h g m) (HW : ps_GW w z) {c b i : Nat} (hc : c < 4) (hb : b < 2) (h1 : 1 ≤ i) (h2 : i ≤ 16) (Q : Int32) : ps_ANS 4 (nI i) Q c b o e h g m w z := by
  obtain ⟨n0, j0, n16, hjn, o1, e1, hent, fX, fY⟩ := pr_fe HO hc hb (nI i)
  obtain ⟨n, j, n16, hm, F, hiff⟩ := pr_held HH hc hb h1 h2
  have hj := F.1
  obtain ⟨w', z', a1, a2, a3⟩ := pr_reply HW hc hb (K := 5) (I := nI i) ⟨⟨i, h2, rfl, fun h => absurd h (by decide : ¬ (5 : Int32) = 1), fun _ => h1⟩, Or.inl rfl⟩
  have eX : nI (4 * b + c) * 17 + nI i = nI ((4 * b + c) * 17 + i) := by rw [pn_m17, nI_add]
  have ix : vp_in (nI (4 * b + c) * 17 + nI i) 136 := by rw [eX]; exact vp_in_nI (by omega) (by omega)
  have hX : ∀ (p : TP) (k : TK) (r : TR) (l s : TL) (post : SX → Prop), wpX_putReply post (XS p k r l s o (upd h ((4 * b + c) * 17 + i) 0) w) (nI (4 * b + c)) 5 (nI i) → wpX_answerPacket post (XS p k r l s o h w) (nI (4 * b + c)) 4 (nI i) Q :=
    fun p k r l s post hp => br_f (by decide) (br_f (by decide) (br_f (by decide) (br_f (by decide) (br_f (by decide) (br_t rfl ⟨ix, nm_r (pn_u eX (by omega) (pn_b (Or.inl rfl))) hp⟩)))))
  have m1 : (-1 : Int32) < 0 := by decide
  have hY : ∀ (p : TP) (k : TK) (q : TR) (l s : TL) (t : T5) (S M : Int32) (post : SY → Prop), (j = n → wpY_put post (YS p k q l s e g m z t) (nI (2 * c + b)) 5 (nI i) 0 0 0) → (j < n → ∃ f, wY_handle_313 post (nI i) (nI (2 * c + b)) (nI (2 * c + b)) p.1 q.1 t.1 t.2.1 t.2.2.1 t.2.2.2.1 t.2.2.2.2 f (nI j) p.2.1 p.2.2.1 p.2.2.2.1 p.2.2.2.2 k.2.2.1 k.1 k.2.1 k.2.2.2 q.2.1 q.2.2 l.1 l.2.1 l.2.2 s.2.1 s.2.2 s.1 e.2.1 e.2.2.1 e.2.2.2.1 e.2.2.2.2.1 e.2.2.2.2.2 e.1 g m z.2.1 z.2.2.1 z.2.2.2.1 z.2.2.2.2.1 z.2.2.2.2.2 z.1) → wpY_handle post (YS p k q l s e g m z t) (nI c) (nI b) 4 (nI i) S Q M := by
    intro p k q l s t S M post q1 q2
    have hf : wpY_findHeld (fun r => ((r < 0 → wY_handle_372 post (nI i) (nI (2 * c + b)) p.1 q.1 t.1 t.2.1 t.2.2.1 t.2.2.2.1 t.2.2.2.2 p.2.1 p.2.2.1 p.2.2.2.1 p.2.2.2.2 k.2.2.1 k.1 k.2.1 k.2.2.2 q.2.1 q.2.2 l.1 l.2.1 l.2.2 s.2.1 s.2.2 s.1 e.2.1 e.2.2.1 e.2.2.2.1 e.2.2.2.2.1 e.2.2.2.2.2 e.1 g m z.2.1 z.2.2.1 z.2.2.2.1 z.2.2.2.2.1 z.2.2.2.2.2 z.1) ∧ (¬ r < 0 → ∃ f, wY_handle_313 post (nI i) (nI (2 * c + b)) (nI (2 * c + b)) p.1 q.1 t.1 t.2.1 t.2.2.1 t.2.2.2.1 t.2.2.2.2 f r p.2.1 p.2.2.1 p.2.2.2.1 p.2.2.2.2 k.2.2.1 k.1 k.2.1 k.2.2.2 q.2.1 q.2.2 l.1 l.2.1 l.2.2 s.2.1 s.2.2 s.1 e.2.1 e.2.2.1 e.2.2.2.1 e.2.2.2.2.1 e.2.2.2.2.2 e.1 g m z.2.1 z.2.2.1 z.2.2.2.1 z.2.2.2.2.1 z.2.2.2.2.2 z.1))) (YS p k q l s e g m z t) (nI (2 * c + b)) (nI i) :=
      py_fh (by omega) hm n16 F (fun hl => br_f (nI_pos (by omega)) (q2 hl)) (fun hl => br_t m1 (q1 hl))
    exact nm_r (pn_yb c b) (nm_r (pn_yb c b) (br_f (by decide) (fY p k q l s g m z t _ (fun _ => br_f (by decide) (br_f (by decide) (br_t rfl hf))) (fun _ => br_f (by decide) (br_f (by decide) (br_t rfl hf))))))
  by_cases h0 : h ((4 * b + c) * 17 + i) = 0
  · have hjn : j = n := by
      apply Classical.byContradiction
      intro hx
      exact (hiff.mp (by omega)) h0
    refine ⟨o, e, h, g, m, w', z', HO, HH, a1, fun p k r l s post hp => hX p k r l s post ?_, fun p k q l s t S M post hp => hY p k q l s t S M post (fun _ => a3 p k q l s e g m t _ hp) (fun hl => absurd hl (by omega))⟩
    rw [ps_upd0 h0]
    exact a2 p k r l s o h _ hp
  · have hlt : j < n := hiff.mpr h0
    obtain ⟨n, rfl⟩ : ∃ n', n = n' + 1 := ⟨n - 1, by omega⟩
    exact ⟨o, e, _, _, _, w', z', HO, ⟨ps_RH_del HH.1 hc hb hm (by omega) (by omega) h1 h2 (F.2.2 hlt), ps_B_u HH.2 (Or.inl rfl)⟩, a1, fun p k r l s post hp => hX p k r l s post (a2 p k r l s o _ _ hp), fun p k q l s t S M post hp => hY p k q l s t S M post (fun hl => absurd hl (by omega)) (fun _ => py_rel (by omega) hm (by omega) (by omega) (a3 p k q l s e _ _ t _ hp))⟩
theorem pr_ko {o e : TO} {h g m : TA} {w : TW} {z : TO} (HO : ps_GO o e) (HH : ps_GH h g m) (HW : ps_GW w z) {c b : Nat} (hc : c < 4) (hb : b < 2) (K I Q : Int32) (k1 : ¬ K = 1) (k2 : ¬ K = 2) (k3 : ¬ K = 3) (k4 : ¬ K = 4) (k5 : ¬ K = 5) : ps_ANS K I Q c b o e h g m w z := by
  obtain ⟨n, j, n16, hjn, o1, e1, hent, fX, fY⟩ := pr_fe HO hc hb I
  exact ⟨o, e, h, g, m, w, z, HO, HH, HW, fun p k r l s post hp => br_c (fun _ => hp) fun _ => br_c (fun _ => hp) fun _ => br_f k1 (br_f k2 (br_f k3 (br_f k4 (br_f k5 trivial)))),
    fun p k q l s t S M post hp => nm_r (pn_yb c b) (nm_r (pn_yb c b) (br_f k1 (fY p k q l s g m z t _ (fun _ => br_f k2 (br_f k3 (br_f k4 (br_f k5 hp)))) (fun _ => br_f k2 (br_f k3 (br_f k4 (br_f k5 hp)))))))⟩
theorem pr_ans {o e : TO} {h g m : TA} {w : TW} {z : TO} (HO : ps_GO o e) (HH : ps_GH h g m) (HW : ps_GW w z) {c b : Nat} (hc : c < 4) (hb : b < 2) {t : T5} (hv : ps_PV t) (k1 : ¬ t.1 = 1) : ps_ANS t.1 t.2.1 t.2.2.2.1 c b o e h g m w z := by
  by_cases k2 : t.1 = 2
  · rw [k2]; exact pr_k2 HO HH HW hc hb _ _
  · by_cases k3 : t.1 = 3
    · rw [k3]; exact pr_k3 HO HH HW hc hb _ _
    · by_cases k4 : t.1 = 4
      · obtain ⟨⟨i, i2, hI, _, i1⟩, _⟩ := hv
        rw [k4, hI]; exact pr_k4 HO HH HW hc hb (i1 k1) i2 _
      · by_cases k5 : t.1 = 5
        · rw [k5]; exact pr_k5 HO HH HW hc hb _ _
        · exact pr_ko HO HH HW hc hb _ _ _ k1 k2 k3 k4 k5
end P14
