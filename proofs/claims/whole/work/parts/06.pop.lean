section P6
/-! the oldest packet is taken off -/
theorem px_old {p : TP} {k : TK} {r : TR} {l s : TL} {o : TO} {h : TA} {w : TW} {x d : Nat} (hx : x < 8) (hd : w.1 x = nI d) {post : Int32 → Prop} (hp : post (nI (x * 32 + d))) : wpX_oldestPacket post (XS p k r l s o h w) (nI x) := by
  have cx : (nI x).toNatClampNeg = x := nI_clamp (by omega)
  refine ⟨vp_in_nI hx (by omega), ?_⟩
  show post (nI x * 32 + w.1 (nI x).toNatClampNeg)
  rw [cx, hd, pn_m32, nI_add]
  exact hp
theorem px_rem {p : TP} {k : TK} {r : TR} {l s : TL} {o : TO} {h : TA} {w : TW} {x d n : Nat} (hx : x < 8) (hd : w.1 x = nI d) (d32 : d < 32) (hn : w.2.1 x = nI (n + 1)) (n32 : n < 32) {post : SX → Prop}
    (hp : post (XS p k r l s o h (upd w.1 x (nI ((d + 1) % 32)), upd w.2.1 x (nI n), w.2.2))) : wpX_removeOldestPacket post (XS p k r l s o h w) (nI x) := by
  have cx : (nI x).toNatClampNeg = x := nI_clamp (by omega)
  have i8 : vp_in (nI x) 8 := vp_in_nI hx (by omega)
  refine ⟨i8, by decide, i8, nm_r (e' := upd w.1 x (nI ((d + 1) % 32))) ?_ ⟨i8, i8, nm_r (e' := upd w.2.1 x (nI n)) (by rw [cx, hn, nI_pred]) hp⟩⟩
  rw [cx, hd, nI_1]
  exact congrArg (upd w.1 x) (pk_rem (a := d + 1) (d := 32) (by omega) (by omega) (by omega))
theorem py_pop_lp {p : TP} {k : TK} {q : TR} {l s : TL} {e : TO} {g m : TA} {z : TO} {t : T5} {y n : Nat} (hy : y < 8) (hz : z.1 y = nI (n + 1)) (n32 : n < 32) (hb : ps_B z.2.2.2.2.2) {post : SY → Prop}
    (hp : post (YS p k q l s e g m (upd z.1 y (nI n), ps_sh z.2.1 (y * 32) (y * 32 + n), ps_sh z.2.2.1 (y * 32) (y * 32 + n), ps_sh z.2.2.2.1 (y * 32) (y * 32 + n), ps_sh z.2.2.2.2.1 (y * 32) (y * 32 + n), ps_sh z.2.2.2.2.2 (y * 32) (y * 32 + n)) t)) :
    ∀ d i, i + d = n → wY_pop_57 post (nI y) (nI (y * 32)) p.1 q.1 t.1 t.2.1 t.2.2.1 t.2.2.2.1 t.2.2.2.2 (d + 1) (nI i) p.2.1 p.2.2.1 p.2.2.2.1 p.2.2.2.2 k.2.2.1 k.1 k.2.1 k.2.2.2 q.2.1 q.2.2 l.1 l.2.1 l.2.2 s.2.1 s.2.2 s.1 e.2.1 e.2.2.1 e.2.2.2.1 e.2.2.2.2.1 e.2.2.2.2.2 e.1 g m (ps_sh z.2.1 (y * 32) (y * 32 + i)) (ps_sh z.2.2.1 (y * 32) (y * 32 + i)) (ps_sh z.2.2.2.1 (y * 32) (y * 32 + i)) (ps_sh z.2.2.2.2.1 (y * 32) (y * 32 + i)) (ps_sh z.2.2.2.2.2 (y * 32) (y * 32 + i)) z.1 := by
  have cy : (nI y).toNatClampNeg = y := nI_clamp (by omega)
  have i8 : vp_in (nI y) 8 := vp_in_nI hy (by omega)
  intro d
  induction d with
  | zero =>
    intro i hi
    obtain rfl : i = n := by omega
    exact ⟨i8, br_t (by rw [cy, hz, nI_1]; exact nI_le (by omega) (by omega)) ⟨i8, i8, nm_r (e' := upd z.1 y (nI i)) (by rw [cy, hz, nI_pred]) hp⟩⟩
  | succ d ih =>
    intro i hi
    have a0 : vp_in (nI (y * 32 + i)) 256 := vp_in_nI (by omega) (by omega)
    have a1 : vp_in (nI (y * 32 + i) + 1) 256 := by rw [nI_1]; exact vp_in_nI (by omega) (by omega)
    exact ⟨i8, br_f (by rw [cy, hz, nI_1]; exact nI_ge (by omega) (by omega)) (nm_r (e' := nI (y * 32 + i)) (nI_add _ _) ⟨a1, a0, nm_r (pn_sh rfl (nI_1 _) (by omega) (by omega)) ⟨a1, a0, nm_r (pn_sh rfl (nI_1 _) (by omega) (by omega)) ⟨a1, a0, nm_r (pn_sh rfl (nI_1 _) (by omega) (by omega)) ⟨a1, a0, nm_r (pn_sh rfl (nI_1 _) (by omega) (by omega)) ⟨a1, a0, nm_r (pn_shB hb rfl (nI_1 _) (by omega) (by omega)) (nm_r (nI_1 i) (ih (i + 1) (by omega)))⟩⟩⟩⟩⟩)⟩
theorem pn_fit {v : Int32} (h : v = 0 ∨ v = 1) : narrow .boolean (.int v) = .int v ∧ fits .boolean (.int v) = true := by
  rcases h with rfl | rfl <;> exact ⟨rfl, by decide⟩
theorem py_pop {p : TP} {k : TK} {q : TR} {l s : TL} {e : TO} {g m : TA} {z : TO} {t : T5} {y n : Nat} (hy : y < 8) (hz : z.1 y = nI (n + 1)) (n32 : n < 32) (hb : ps_B z.2.2.2.2.2) {post : SY → Prop}
    (hp : post (YS p k q l s e g m (upd z.1 y (nI n), ps_sh z.2.1 (y * 32) (y * 32 + n), ps_sh z.2.2.1 (y * 32) (y * 32 + n), ps_sh z.2.2.2.1 (y * 32) (y * 32 + n), ps_sh z.2.2.2.2.1 (y * 32) (y * 32 + n), ps_sh z.2.2.2.2.2 (y * 32) (y * 32 + n)) (ps_o5 z (y * 32)))) :
    wpY_pop post (YS p k q l s e g m z t) (nI y) := by
  have ic : vp_in (nI (y * 32)) 256 := vp_in_nI (by omega) (by omega)
  have cc : (nI (y * 32)).toNatClampNeg = y * 32 := nI_clamp (by omega)
  have hl := py_pop_lp (p := p) (k := k) (q := q) (l := l) (s := s) (e := e) (g := g) (m := m) (t := ps_o5 z (y * 32)) hy hz n32 hb hp n 0 (by omega)
  rw [Nat.add_zero (y * 32), ps_sh0 (Nat.le_refl _), ps_sh0 (Nat.le_refl _), ps_sh0 (Nat.le_refl _), ps_sh0 (Nat.le_refl _), ps_sh0 (Nat.le_refl _)] at hl
  exact nm_r (pn_m32 y) ⟨ic, nm_r (e' := z.2.1 (y * 32)) (by rw [cc]) ⟨ic, nm_r (e' := z.2.2.1 (y * 32)) (by rw [cc]) ⟨ic, nm_r (e' := z.2.2.2.1 (y * 32)) (by rw [cc]) ⟨ic, nm_r (e' := z.2.2.2.2.1 (y * 32)) (by rw [cc]) ⟨ic, nm_r (e' := z.2.2.2.2.2 (y * 32)) (by rw [cc]) ⟨(pn_fit (hb _)).1, (pn_fit (hb _)).2, n + 1, hl⟩⟩⟩⟩⟩⟩
/-- a wire that isn't empty: its oldest packet, at both sides -/
theorem pr_pop {w : TW} {z : TO} (H : ps_GW w z) {c b : Nat} (hc : c < 4) (hb : b < 2) (h0 : w.2.1 (4 * b + c) ≠ 0) : ∃ (w' : TW) (z' : TO) (t : T5) (d : Nat), ps_GW w' z' ∧ ps_PV t ∧ d < 32 ∧ ps_w5 w ((4 * b + c) * 32 + d) = t
    ∧ (∀ p k r l s o h (post : Int32 → Prop), post (nI ((4 * b + c) * 32 + d)) → wpX_oldestPacket post (XS p k r l s o h w) (nI (4 * b + c)))
    ∧ (∀ p k r l s o h (post : SX → Prop), post (XS p k r l s o h w') → wpX_removeOldestPacket post (XS p k r l s o h w) (nI (4 * b + c)))
    ∧ (∀ p k q l s e g m t' (post : SY → Prop), post (YS p k q l s e g m z' t) → wpY_pop post (YS p k q l s e g m z t') (nI (2 * c + b))) := by
  obtain ⟨d, n, a1, a2, a3, a4⟩ := H.1 c b hc hb
  have h2 := a4.2.1
  obtain ⟨n, rfl⟩ : ∃ n', n = n' + 1 := ⟨n - 1, by
    have : n ≠ 0 := by
      intro e
      rw [e] at a2
      exact h0 a2
    omega⟩
  have h3 := a4.2.2 0 (by omega)
  rw [Nat.add_zero, Nat.add_zero, Nat.mod_eq_of_lt a4.1] at h3
  exact ⟨_, _, ps_o5 z ((2 * c + b) * 32), d, ⟨ps_RW_pop H.1 hc hb (by omega) a4.1 a2 a1, H.2.1, ps_B_s H.2.2⟩, h3.2, a4.1, h3.1, fun p k r l s o h post hp => px_old (by omega) a1 hp, fun p k r l s o h post hp => px_rem (by omega) a1 a4.1 a2 (by omega) hp, fun p k q l s e g m t' post hp => py_pop (by omega) a3 (by omega) H.2.2 hp⟩
/-- an empty wire -/
theorem pr_emp {w : TW} {z : TO} (H : ps_GW w z) {c b : Nat} (hc : c < 4) (hb : b < 2) : w.2.1 (4 * b + c) = z.1 (2 * c + b) := by
  obtain ⟨d, n, a1, a2, a3, a4⟩ := H.1 c b hc hb
  rw [a2, a3]
end P6
