section P5
/-! the states by their groups -/
abbrev TP : Type := Int32 × TA × TA × TA × TA
abbrev TK : Type := TA × TA × TA × TA
abbrev TL : Type := TA × TA × TA
abbrev XS (p : TP) (k : TK) (r : TR) (l s : TL) (o : TO) (h : TA) (w : TW) : SX := (p.1, r.1, p.2.1, p.2.2.1, p.2.2.2.1, p.2.2.2.2, k.1, k.2.1, k.2.2.1, k.2.2.2, r.2.1, r.2.2, l.1, l.2.1, l.2.2, s.1, s.2.1, s.2.2, o.1, o.2.1, o.2.2.1, o.2.2.2.1, o.2.2.2.2.1, o.2.2.2.2.2, h, w.1, w.2.1, w.2.2.1, w.2.2.2.1, w.2.2.2.2.1, w.2.2.2.2.2.1, w.2.2.2.2.2.2)
abbrev YS (p : TP) (k : TK) (q : TR) (l s : TL) (e : TO) (g m : TA) (z : TO) (t : T5) : SY := (p.1, q.1, t.1, t.2.1, t.2.2.1, t.2.2.2.1, t.2.2.2.2, p.2.1, p.2.2.1, p.2.2.2.1, p.2.2.2.2, k.2.2.1, k.1, k.2.1, k.2.2.2, q.2.1, q.2.2, l.1, l.2.1, l.2.2, s.2.1, s.2.2, s.1, e.2.1, e.2.2.1, e.2.2.2.1, e.2.2.2.2.1, e.2.2.2.2.2, e.1, g, m, z.2.1, z.2.2.1, z.2.2.2.1, z.2.2.2.2.1, z.2.2.2.2.2, z.1)
/-! numbers -/
theorem pn_m32 (a : Nat) : nI a * 32 = nI (a * 32) := pk_mul a 32
theorem pn_m17 (a : Nat) : nI a * 17 = nI (a * 17) := pk_mul a 17
theorem pn_m16 (a : Nat) : nI a * 16 = nI (a * 16) := pk_mul a 16
theorem pn_m25 (a : Nat) : nI a * 25 = nI (a * 25) := pk_mul a 25
theorem pn_m4 (a : Nat) : nI a * 4 = nI (a * 4) := pk_mul a 4
theorem pn_m2 (a : Nat) : nI a * 2 = nI (2 * a) := by rw [Nat.mul_comm 2 a]; exact pk_mul a 2
theorem pn_y1 (a : Nat) : nI a * 2 + 1 = nI (2 * a + 1) := by rw [pn_m2]; exact nI_1 _
theorem pn_4a (a : Nat) : 4 + nI a = nI (4 + a) := nI_add 4 a
theorem pn_s1 {n : Nat} (h : 0 < n) : nI n - 1 = nI (n - 1) := pk_sub (a := n) (b := 1) h
theorem pn_b {v : Int32} (h : v = 0 ∨ v = 1) : vp_nar .boolean v = v := by
  rcases h with rfl | rfl <;> decide
theorem pn_in {x : Int32} {n N : Nat} (hx : x = nI n) (h : n < N) (hN : N < 1000) : vp_in x N := by
  rw [hx]; exact vp_in_nI h (by omega)
theorem pn_cl {x : Int32} {n : Nat} (hx : x = nI n) (h : n < 100000) : x.toNatClampNeg = n := by
  rw [hx]; exact nI_clamp (by omega)
theorem pn_u {f : TA} {x : Int32} {n : Nat} {v v' : Int32} (hx : x = nI n) (h : n < 100000) (hv : v = v') : upd f x.toNatClampNeg v = upd f n v' := by
  rw [pn_cl hx h, hv]
theorem pn_g {f : TA} {x : Int32} {n : Nat} (hx : x = nI n) (h : n < 100000) : f x.toNatClampNeg = f n := by
  rw [pn_cl hx h]
theorem pn_sh {f : TA} {a j : Nat} {x y : Int32} (hx : x = nI j) (hy : y = nI (j + 1)) (h : a ≤ j) (hj : j < 10000) : upd (ps_sh f a j) x.toNatClampNeg (ps_sh f a j y.toNatClampNeg) = ps_sh f a (j + 1) := by
  rw [pn_cl hx (by omega), pn_cl hy (by omega)]
  exact ps_shS h
def ps_B (f : TA) : Prop := ∀ i, f i = 0 ∨ f i = 1
theorem ps_B_u {f : TA} (h : ps_B f) {k : Nat} {v : Int32} (hv : v = 0 ∨ v = 1) : ps_B (upd f k v) := by
  intro i
  by_cases e : i = k
  · rw [e, pk_us]; exact hv
  · rw [pk_un e]; exact h i
theorem ps_B_s {f : TA} (h : ps_B f) {a m : Nat} : ps_B (ps_sh f a m) := by
  intro i
  unfold ps_sh
  split
  · exact h _
  · exact h _
theorem pn_shB {f : TA} {a j : Nat} {x y : Int32} (hb : ps_B f) (hx : x = nI j) (hy : y = nI (j + 1)) (h : a ≤ j) (hj : j < 10000) : upd (ps_sh f a j) x.toNatClampNeg (vp_nar .boolean (ps_sh f a j y.toNatClampNeg)) = ps_sh f a (j + 1) := by
  rw [pn_b (ps_B_s hb _)]
  exact pn_sh hx hy h hj
def ps_GO (o e : TO) : Prop := ps_RO o e ∧ ps_B o.2.2.2.2.1 ∧ ps_B e.2.2.2.2.1
def ps_GW (w : TW) (z : TO) : Prop := ps_RW w z ∧ ps_B w.2.2.2.2.2.2 ∧ ps_B z.2.2.2.2.2
/-! a packet is put -/
theorem px_put {p : TP} {k : TK} {r : TR} {l s : TL} {o : TO} {h : TA} {w : TW} {x n d : Nat} (hx : x < 8) (hn : w.2.1 x = nI n) (hd : w.1 x = nI d) (n32 : n < 32) (d32 : d < 32) {K I S Q M : Int32} (hM : M = 0 ∨ M = 1) {post : SX → Prop}
    (hp : post (XS p k r l s o h (w.1, upd w.2.1 x (nI (n + 1)), upd w.2.2.1 (x * 32 + (d + n) % 32) K, upd w.2.2.2.1 (x * 32 + (d + n) % 32) I, upd w.2.2.2.2.1 (x * 32 + (d + n) % 32) S, upd w.2.2.2.2.2.1 (x * 32 + (d + n) % 32) Q, upd w.2.2.2.2.2.2 (x * 32 + (d + n) % 32) M))) :
    wpX_putPacket post (XS p k r l s o h w) (nI x) K I S Q M := by
  have cx : (nI x).toNatClampNeg = x := nI_clamp (by omega)
  have i8 : vp_in (nI x) 8 := vp_in_nI hx (by omega)
  have ic : vp_in (nI (x * 32 + (d + n) % 32)) 256 := vp_in_nI (by omega) (by omega)
  have cc : (nI (x * 32 + (d + n) % 32)).toNatClampNeg = x * 32 + (d + n) % 32 := nI_clamp (by omega)
  refine ⟨i8, br_f (by rw [cx, hn]; exact fun z => by rw [show (32 : Int32) = nI 32 from rfl, nI_eq (by omega) (by omega)] at z; omega) ⟨i8, i8, by decide, nm_r (e' := nI (x * 32 + (d + n) % 32)) ?_ ⟨ic, nm_r (by rw [cc]) ⟨ic, nm_r (by rw [cc]) ⟨ic, nm_r (by rw [cc]) ⟨ic, nm_r (by rw [cc]) ⟨ic, nm_r (by rw [cc, pn_b hM]) ⟨i8, i8, nm_r (e' := upd w.2.1 x (nI (n + 1))) (by rw [cx, hn, nI_1]) hp⟩⟩⟩⟩⟩⟩⟩⟩
  rw [cx, hn, hd, nI_add d n, pn_m32]
  exact (congrArg (nI (x * 32) + ·) (pk_rem (a := d + n) (d := 32) (by omega) (by omega) (by omega))).trans (nI_add _ _)
theorem px_put_f {p : TP} {k : TK} {r : TR} {l s : TL} {o : TO} {h : TA} {w : TW} {x : Nat} (hx : x < 8) (hn : w.2.1 x = nI 32) {K I S Q M : Int32} {post : SX → Prop}
    (hp : post (XS p k r l s o h w)) : wpX_putPacket post (XS p k r l s o h w) (nI x) K I S Q M := by
  have cx : (nI x).toNatClampNeg = x := nI_clamp (by omega)
  exact ⟨vp_in_nI hx (by omega), br_t (by rw [cx, hn]; rfl) hp⟩
theorem py_put {p : TP} {k : TK} {q : TR} {l s : TL} {e : TO} {g m : TA} {z : TO} {t : T5} {x n : Nat} (hx : x < 8) (hn : z.1 x = nI n) (n32 : n < 32) {K I S Q M : Int32} (hM : M = 0 ∨ M = 1) {post : SY → Prop}
    (hp : post (YS p k q l s e g m (upd z.1 x (nI (n + 1)), upd z.2.1 (x * 32 + n) K, upd z.2.2.1 (x * 32 + n) I, upd z.2.2.2.1 (x * 32 + n) S, upd z.2.2.2.2.1 (x * 32 + n) Q, upd z.2.2.2.2.2 (x * 32 + n) M) t)) :
    wpY_put post (YS p k q l s e g m z t) (nI x) K I S Q M := by
  have cx : (nI x).toNatClampNeg = x := nI_clamp (by omega)
  have i8 : vp_in (nI x) 8 := vp_in_nI hx (by omega)
  have ic : vp_in (nI (x * 32 + n)) 256 := vp_in_nI (by omega) (by omega)
  have cc : (nI (x * 32 + n)).toNatClampNeg = x * 32 + n := nI_clamp (by omega)
  exact ⟨i8, br_t (by rw [cx, hn]; exact nI_lt (b := 32) n32 (by omega)) ⟨i8, nm_r (e' := nI (x * 32 + n)) (by rw [cx, hn, pn_m32, nI_add]) ⟨ic, nm_r (by rw [cc]) ⟨ic, nm_r (by rw [cc]) ⟨ic, nm_r (by rw [cc]) ⟨ic, nm_r (by rw [cc]) ⟨ic, nm_r (by rw [cc, pn_b hM]) ⟨i8, i8, nm_r (e' := upd z.1 x (nI (n + 1))) (by rw [cx, hn, nI_1]) hp⟩⟩⟩⟩⟩⟩⟩⟩
theorem py_put_f {p : TP} {k : TK} {q : TR} {l s : TL} {e : TO} {g m : TA} {z : TO} {t : T5} {x : Nat} (hx : x < 8) (hn : z.1 x = nI 32) {K I S Q M : Int32} {post : SY → Prop}
    (hp : post (YS p k q l s e g m z t)) : wpY_put post (YS p k q l s e g m z t) (nI x) K I S Q M := by
  have cx : (nI x).toNatClampNeg = x := nI_clamp (by omega)
  exact ⟨vp_in_nI hx (by omega), br_f (by rw [cx, hn]; decide) hp⟩
theorem pr_put {w : TW} {z : TO} (H : ps_GW w z) {c b : Nat} (hc : c < 4) (hb : b < 2) {K I S Q M : Int32} (hv : ps_PV (K, I, S, Q, M)) : ∃ w' z', ps_GW w' z'
    ∧ (∀ p k r l s o h (post : SX → Prop), post (XS p k r l s o h w') → wpX_putPacket post (XS p k r l s o h w) (nI (4 * b + c)) K I S Q M)
    ∧ (∀ p k q l s e g m t (post : SY → Prop), post (YS p k q l s e g m z' t) → wpY_put post (YS p k q l s e g m z t) (nI (2 * c + b)) K I S Q M) := by
  obtain ⟨d, n, a1, a2, a3, a4⟩ := H.1 c b hc hb
  have hM : M = 0 ∨ M = 1 := hv.2
  by_cases hn : n = 32
  · subst hn
    exact ⟨w, z, H, fun p k r l s o h post hp => px_put_f (by omega) a2 hp, fun p k q l s e g m t post hp => py_put_f (by omega) a3 hp⟩
  · have h2 := a4.2.1
    exact ⟨_, _, ⟨ps_RW_put H.1 hc hb (by omega) a4.1 a2 a1 hv, ps_B_u H.2.1 hM, ps_B_u H.2.2 hM⟩, fun p k r l s o h post hp => px_put (by omega) a2 a1 (by omega) a4.1 hM hp, fun p k q l s e g m t post hp => py_put (by omega) a3 (by omega) hM hp⟩
theorem pr_reply {w : TW} {z : TO} (H : ps_GW w z) {c b : Nat} (hc : c < 4) (hb : b < 2) {K I : Int32} (hv : ps_PV (K, I, 0, 0, 0)) : ∃ w' z', ps_GW w' z'
    ∧ (∀ p k r l s o h (post : SX → Prop), post (XS p k r l s o h w') → wpX_putReply post (XS p k r l s o h w) (nI (4 * b + c)) K I)
    ∧ (∀ p k q l s e g m t (post : SY → Prop), post (YS p k q l s e g m z' t) → wpY_put post (YS p k q l s e g m z t) (nI (2 * c + b)) K I 0 0 0) := by
  obtain ⟨w', z', h1, h2, h3⟩ := pr_put H hc hb hv
  exact ⟨w', z', h1, fun p k r l s o h post hp => by unfold wpX_putReply; exact h2 p k r l s o h _ hp, h3⟩
end P5
