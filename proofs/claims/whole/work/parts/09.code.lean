section P9
/-! levels, topics, filters, the match -/
def lv (T : Int32) (i : Nat) : Int32 := (T >>> ((4 * nI i) &&& 31)) &&& 15
theorem px_lvN {T : Int32} {i : Nat} {post : Int32 → Prop} (h : post (lv T i)) : wpX_level post T (nI (i + 1)) := by
  unfold wpX_level
  rw [nI_pred]
  exact h
theorem px_lv1 {T : Int32} {post : Int32 → Prop} (h : post (lv T 0)) : wpX_level post T 1 := px_lvN (i := 0) h
theorem px_lv2 {T : Int32} {post : Int32 → Prop} (h : post (lv T 1)) : wpX_level post T 2 := px_lvN (i := 1) h
theorem px_lv3 {T : Int32} {post : Int32 → Prop} (h : post (lv T 2)) : wpX_level post T 3 := px_lvN (i := 2) h
theorem py_lvN {u : SY} {T : Int32} {i : Nat} {post : Int32 → Prop} (h : post (lv T i)) : wpY_lvl post u T (nI i) := h
theorem py_lv0 {u : SY} {T : Int32} {post : Int32 → Prop} (h : post (lv T 0)) : wpY_lvl post u T 0 := py_lvN (i := 0) h
theorem py_lv1 {u : SY} {T : Int32} {post : Int32 → Prop} (h : post (lv T 1)) : wpY_lvl post u T 1 := py_lvN (i := 1) h
theorem py_lv2 {u : SY} {T : Int32} {post : Int32 → Prop} (h : post (lv T 2)) : wpY_lvl post u T 2 := py_lvN (i := 2) h
theorem pr_ma_lp (F T : Int32) : ∀ d i, i + d = 3 → ∃ R : Int32, (R = 0 ∨ R = 1) ∧ (∀ post : Int32 → Prop, post R → wX_filterMatches_2 post F T (d + 1) (nI (i + 1)))
    ∧ (∀ (p : TP) (k : TK) (q : TR) (l s : TL) (e : TO) (g m : TA) (z : TO) (t : T5) (post : Int32 → Prop), post R → wY_match_2 post F T p.1 q.1 t.1 t.2.1 t.2.2.1 t.2.2.2.1 t.2.2.2.2 p.2.1 p.2.2.1 p.2.2.2.1 p.2.2.2.2 k.2.2.1 k.1 k.2.1 k.2.2.2 q.2.1 q.2.2 l.1 l.2.1 l.2.2 s.2.1 s.2.2 s.1 e.2.1 e.2.2.1 e.2.2.2.1 e.2.2.2.2.1 e.2.2.2.2.2 e.1 g m z.2.1 z.2.2.1 z.2.2.2.1 z.2.2.2.2.1 z.2.2.2.2.2 z.1 (d + 1) (nI i)) := by
  intro d
  induction d with
  | zero =>
    intro i hi
    obtain rfl : i = 3 := by omega
    exact ⟨1, Or.inr rfl, fun post hp => br_t (by decide) hp, fun p k q l s e g m z t post hp => br_t (by decide) hp⟩
  | succ d ih =>
    intro i hi
    have hX : ¬ (3 : Int32) < nI (i + 1) := nI_nlt (a := 3) (b := i + 1) (by omega) (by omega)
    have hY : ¬ (3 : Int32) ≤ nI i := nI_ge (b := 3) (a := i) (by omega) (by omega)
    by_cases h15 : lv F i = 15
    · exact ⟨1, Or.inr rfl, fun post hp => br_f hX (px_lvN (px_lvN (br_t h15 hp))), fun p k q l s e g m z t post hp => br_f hY (py_lvN (py_lvN (br_t h15 hp)))⟩
    · by_cases h0 : lv F i = 0
      · by_cases t0 : lv T i = 0
        · exact ⟨1, Or.inr rfl, fun post hp => br_f hX (px_lvN (px_lvN (br_f h15 (br_t h0 (br_t t0 hp))))), fun p k q l s e g m z t post hp => br_f hY (py_lvN (py_lvN (br_f h15 (br_t h0 (br_t t0 hp)))))⟩
        · exact ⟨0, Or.inl rfl, fun post hp => br_f hX (px_lvN (px_lvN (br_f h15 (br_t h0 (br_f t0 hp))))), fun p k q l s e g m z t post hp => br_f hY (py_lvN (py_lvN (br_f h15 (br_t h0 (br_f t0 hp)))))⟩
      · by_cases t0 : lv T i = 0
        · exact ⟨0, Or.inl rfl, fun post hp => br_f hX (px_lvN (px_lvN (br_f h15 (br_f h0 (br_t t0 hp))))), fun p k q l s e g m z t post hp => br_f hY (py_lvN (py_lvN (br_f h15 (br_f h0 (br_t t0 hp)))))⟩
        · obtain ⟨R, h1, h2, h3⟩ := ih (i + 1) (by omega)
          by_cases h14 : lv F i = 14
          · exact ⟨R, h1, fun post hp => br_f hX (px_lvN (px_lvN (br_f h15 (br_f h0 (br_f t0 (br_t h14 (nm_r (nI_1 _) (h2 post hp)))))))), fun p k q l s e g m z t post hp => br_f hY (py_lvN (py_lvN (br_f h15 (br_f h0 (br_f t0 (br_t h14 (nm_r (nI_1 _) (h3 p k q l s e g m z t post hp))))))))⟩
          · by_cases hE : lv F i = lv T i
            · exact ⟨R, h1, fun post hp => br_f hX (px_lvN (px_lvN (br_f h15 (br_f h0 (br_f t0 (br_f h14 (br_t hE (nm_r (nI_1 _) (h2 post hp))))))))), fun p k q l s e g m z t post hp => br_f hY (py_lvN (py_lvN (br_f h15 (br_f h0 (br_f t0 (br_f h14 (br_t hE (nm_r (nI_1 _) (h3 p k q l s e g m z t post hp)))))))))⟩
            · exact ⟨0, Or.inl rfl, fun post hp => br_f hX (px_lvN (px_lvN (br_f h15 (br_f h0 (br_f t0 (br_f h14 (br_f hE hp))))))), fun p k q l s e g m z t post hp => br_f hY (py_lvN (py_lvN (br_f h15 (br_f h0 (br_f t0 (br_f h14 (br_f hE hp)))))))⟩
theorem pr_ma (F T : Int32) : ∃ R : Int32, (R = 0 ∨ R = 1) ∧ (∀ post : Int32 → Prop, post R → wpX_filterMatches post F T)
    ∧ (∀ p k q l s e g m z t (post : Int32 → Prop), post R → wpY_match post (YS p k q l s e g m z t) F T) := by
  obtain ⟨R, h1, h2, h3⟩ := pr_ma_lp F T 3 0 (by omega)
  exact ⟨R, h1, fun post hp => ⟨4, h2 post hp⟩, fun p k q l s e g m z t post hp => ⟨4, h3 p k q l s e g m z t post hp⟩⟩
def ps_ub (T : Int32) : Prop := ¬ T < 0 ∧ ¬ 4095 < T ∧ ¬ lv T 0 = 0 ∧ (¬ lv T 1 = 0 ∨ lv T 2 = 0)
theorem px_ub (T : Int32) : ∃ R : Int32, ((R = 0 ∧ ¬ ps_ub T) ∨ (R = 1 ∧ ps_ub T)) ∧ ∀ post : Int32 → Prop, post R → wpX_hasUnbrokenLevels post T := by
  by_cases h1 : T < 0
  · exact ⟨0, Or.inl ⟨rfl, fun h => h.1 h1⟩, fun post hp => br_t h1 hp⟩
  · by_cases h2 : 4095 < T
    · exact ⟨0, Or.inl ⟨rfl, fun h => h.2.1 h2⟩, fun post hp => br_f h1 (br_t h2 hp)⟩
    · by_cases e0 : lv T 0 = 0
      · exact ⟨0, Or.inl ⟨rfl, fun h => h.2.2.1 e0⟩, fun post hp => br_f h1 (br_f h2 (px_lv1 (br_t e0 hp)))⟩
      · by_cases e1 : lv T 1 = 0
        · by_cases e2 : lv T 2 = 0
          · exact ⟨1, Or.inr ⟨rfl, h1, h2, e0, Or.inr e2⟩, fun post hp => br_f h1 (br_f h2 (px_lv1 (br_f e0 (px_lv2 (br_t e1 (px_lv3 (br_t e2 hp)))))))⟩
          · exact ⟨0, Or.inl ⟨rfl, fun h => h.2.2.2.elim (fun z => z e1) e2⟩, fun post hp => br_f h1 (br_f h2 (px_lv1 (br_f e0 (px_lv2 (br_t e1 (px_lv3 (br_f e2 hp)))))))⟩
        · exact ⟨1, Or.inr ⟨rfl, h1, h2, e0, Or.inl e1⟩, fun post hp => br_f h1 (br_f h2 (px_lv1 (br_f e0 (px_lv2 (br_f e1 hp)))))⟩
theorem pn_le4095 {T : Int32} : T ≤ 4095 ↔ ¬ 4095 < T := Int32.not_lt.symm
theorem ps_ub_n {T : Int32} (h : ps_ub T) : ∃ n, n < 4096 ∧ T = nI n := by
  obtain ⟨n, hn, rfl⟩ := nI_of h.1
  refine ⟨n, ?_, rfl⟩
  apply Classical.byContradiction
  intro hx
  exact h.2.1 (nI_lt (a := 4095) (by omega) hn)
/-- Y's order of tests over the three levels -/
theorem py_tp_no {p : TP} {k : TK} {q : TR} {l s : TL} {e : TO} {g m : TA} {z : TO} {t : T5} {T : Int32} (hn : ¬ (ps_ub T ∧ ¬ 13 < lv T 0 ∧ ¬ 13 < lv T 1 ∧ ¬ 13 < lv T 2)) {post : Int32 → Prop} (hp : post 0) : wpY_validTopic post (YS p k q l s e g m z t) T := by
  refine br_c (fun _ => hp) fun h1 => br_c (fun h2 => py_lv0 (py_lv1 (py_lv2 (br_c (fun _ => hp) fun e0 => br_c (fun _ => hp) fun a => br_c (fun _ => hp) fun b => br_c (fun c => br_c (fun e1 => br_c (fun e2 => ?_) fun _ => hp) fun e1 => ?_) fun _ => hp)))) fun _ => hp
  · exact absurd ⟨⟨h1, pn_le4095.mp h2, e0, Or.inr e2⟩, a, b, Int32.not_lt.mpr c⟩ hn
  · exact absurd ⟨⟨h1, pn_le4095.mp h2, e0, Or.inl e1⟩, a, b, Int32.not_lt.mpr c⟩ hn
theorem py_tp_yes {p : TP} {k : TK} {q : TR} {l s : TL} {e : TO} {g m : TA} {z : TO} {t : T5} {T : Int32} (hn : ps_ub T ∧ ¬ 13 < lv T 0 ∧ ¬ 13 < lv T 1 ∧ ¬ 13 < lv T 2) {post : Int32 → Prop} (hp : post 1) : wpY_validTopic post (YS p k q l s e g m z t) T := by
  obtain ⟨⟨h1, h2, e0, ee⟩, a, b, c⟩ := hn
  exact br_f h1 (br_t (pn_le4095.mpr h2) (py_lv0 (py_lv1 (py_lv2 (br_f e0 (br_f a (br_f b (br_t (Int32.not_lt.mp c) (br_c (fun e1 => br_t (ee.elim (fun z => absurd e1 z) id) hp) fun _ => hp)))))))))
theorem pr_tp (T : Int32) : ∃ R : Int32, (R = 0 ∨ (R = 1 ∧ ∃ n, n < 4096 ∧ T = nI n)) ∧ (∀ post : Int32 → Prop, post R → wpX_isTopic post T)
    ∧ (∀ p k q l s e g m z t (post : Int32 → Prop), post R → wpY_validTopic post (YS p k q l s e g m z t) T) := by
  obtain ⟨R, hR, hU⟩ := px_ub T
  rcases hR with ⟨rfl, hn⟩ | ⟨rfl, hy⟩
  · exact ⟨0, Or.inl rfl, fun post hp => hU _ (br_t rfl hp), fun p k q l s e g m z t post hp => py_tp_no (fun h => hn h.1) hp⟩
  · have one : ¬ (1 : Int32) = 0 := by decide
    by_cases a : 13 < lv T 0
    · exact ⟨0, Or.inl rfl, fun post hp => hU _ (br_f one (px_lv1 (br_t a hp))), fun p k q l s e g m z t post hp => py_tp_no (fun h => h.2.1 a) hp⟩
    · by_cases b : 13 < lv T 1
      · exact ⟨0, Or.inl rfl, fun post hp => hU _ (br_f one (px_lv1 (br_f a (px_lv2 (br_t b hp))))), fun p k q l s e g m z t post hp => py_tp_no (fun h => h.2.2.1 b) hp⟩
      · by_cases c : 13 < lv T 2
        · exact ⟨0, Or.inl rfl, fun post hp => hU _ (br_f one (px_lv1 (br_f a (px_lv2 (br_f b (px_lv3 (br_t c hp))))))), fun p k q l s e g m z t post hp => py_tp_no (fun h => h.2.2.2 c) hp⟩
        · exact ⟨1, Or.inr ⟨rfl, ps_ub_n hy⟩, fun post hp => hU _ (br_f one (px_lv1 (br_f a (px_lv2 (br_f b (px_lv3 (br_f c hp))))))), fun p k q l s e g m z t post hp => py_tp_yes ⟨hy, a, b, c⟩ hp⟩
theorem py_fi_no {p : TP} {k : TK} {q : TR} {l s : TL} {e : TO} {g m : TA} {z : TO} {t : T5} {T : Int32} (hn : ¬ (ps_ub T ∧ (lv T 0 = 15 → lv T 1 = 0) ∧ (lv T 1 = 15 → lv T 2 = 0))) {post : Int32 → Prop} (hp : post 0) : wpY_validFilter post (YS p k q l s e g m z t) T := by
  have h52 : ∀ (hu : ps_ub T), wY_validFilter_52 post (lv T 0) (lv T 1) (lv T 2) p.1 q.1 t.1 t.2.1 t.2.2.1 t.2.2.2.1 t.2.2.2.2 p.2.1 p.2.2.1 p.2.2.2.1 p.2.2.2.2 k.2.2.1 k.1 k.2.1 k.2.2.2 q.2.1 q.2.2 l.1 l.2.1 l.2.2 s.2.1 s.2.2 s.1 e.2.1 e.2.2.1 e.2.2.2.1 e.2.2.2.2.1 e.2.2.2.2.2 e.1 g m z.2.1 z.2.2.1 z.2.2.2.1 z.2.2.2.2.1 z.2.2.2.2.2 z.1 := by
    intro hu
    have h64 : (lv T 0 = 15 → lv T 1 = 0) → wY_validFilter_64 post (lv T 1) (lv T 2) p.1 q.1 t.1 t.2.1 t.2.2.1 t.2.2.2.1 t.2.2.2.2 p.2.1 p.2.2.1 p.2.2.2.1 p.2.2.2.2 k.2.2.1 k.1 k.2.1 k.2.2.2 q.2.1 q.2.2 l.1 l.2.1 l.2.2 s.2.1 s.2.2 s.1 e.2.1 e.2.2.1 e.2.2.2.1 e.2.2.2.2.1 e.2.2.2.2.2 e.1 g m z.2.1 z.2.2.1 z.2.2.2.1 z.2.2.2.2.1 z.2.2.2.2.2 z.1 := fun ha => br_c (fun b15 => br_c (fun c0 => absurd ⟨hu, ha, fun _ => c0⟩ hn) fun _ => hp) fun b15 => absurd ⟨hu, ha, fun z => absurd z b15⟩ hn
    exact br_c (fun a15 => br_c (fun b0 => h64 (fun _ => b0)) fun _ => hp) fun a15 => h64 (fun z => absurd z a15)
  exact br_c (fun _ => hp) fun h1 => br_c (fun h2 => py_lv0 (py_lv1 (py_lv2 (br_c (fun _ => hp) fun e0 => br_c (fun e1 => br_c (fun e2 => h52 ⟨h1, pn_le4095.mp h2, e0, Or.inr e2⟩) fun _ => hp) fun e1 => h52 ⟨h1, pn_le4095.mp h2, e0, Or.inl e1⟩)))) fun _ => hp
theorem py_fi_yes {p : TP} {k : TK} {q : TR} {l s : TL} {e : TO} {g m : TA} {z : TO} {t : T5} {T : Int32} (hn : ps_ub T ∧ (lv T 0 = 15 → lv T 1 = 0) ∧ (lv T 1 = 15 → lv T 2 = 0)) {post : Int32 → Prop} (hp : post 1) : wpY_validFilter post (YS p k q l s e g m z t) T := by
  obtain ⟨⟨h1, h2, e0, ee⟩, ha, hb⟩ := hn
  have h64 : wY_validFilter_64 post (lv T 1) (lv T 2) p.1 q.1 t.1 t.2.1 t.2.2.1 t.2.2.2.1 t.2.2.2.2 p.2.1 p.2.2.1 p.2.2.2.1 p.2.2.2.2 k.2.2.1 k.1 k.2.1 k.2.2.2 q.2.1 q.2.2 l.1 l.2.1 l.2.2 s.2.1 s.2.2 s.1 e.2.1 e.2.2.1 e.2.2.2.1 e.2.2.2.2.1 e.2.2.2.2.2 e.1 g m z.2.1 z.2.2.1 z.2.2.2.1 z.2.2.2.2.1 z.2.2.2.2.2 z.1 := br_c (fun b15 => br_t (hb b15) hp) fun _ => hp
  have h52 : wY_validFilter_52 post (lv T 0) (lv T 1) (lv T 2) p.1 q.1 t.1 t.2.1 t.2.2.1 t.2.2.2.1 t.2.2.2.2 p.2.1 p.2.2.1 p.2.2.2.1 p.2.2.2.2 k.2.2.1 k.1 k.2.1 k.2.2.2 q.2.1 q.2.2 l.1 l.2.1 l.2.2 s.2.1 s.2.2 s.1 e.2.1 e.2.2.1 e.2.2.2.1 e.2.2.2.2.1 e.2.2.2.2.2 e.1 g m z.2.1 z.2.2.1 z.2.2.2.1 z.2.2.2.2.1 z.2.2.2.2.2 z.1 := br_c (fun a15 => br_t (ha a15) h64) fun _ => h64
  exact br_f h1 (br_t (pn_le4095.mpr h2) (py_lv0 (py_lv1 (py_lv2 (br_f e0 (br_c (fun e1 => br_t (ee.elim (fun z => absurd e1 z) id) h52) fun _ => h52))))))
theorem pr_fi (T : Int32) : ∃ R : Int32, (R = 0 ∨ R = 1) ∧ (∀ post : Int32 → Prop, post R → wpX_isFilter post T)
    ∧ (∀ p k q l s e g m z t (post : Int32 → Prop), post R → wpY_validFilter post (YS p k q l s e g m z t) T) := by
  obtain ⟨R, hR, hU⟩ := px_ub T
  rcases hR with ⟨rfl, hn⟩ | ⟨rfl, hy⟩
  · exact ⟨0, Or.inl rfl, fun post hp => hU _ (br_t rfl hp), fun p k q l s e g m z t post hp => py_fi_no (fun h => hn h.1) hp⟩
  · have one : ¬ (1 : Int32) = 0 := by decide
    -- the second test, and the end, at X
    have h32 : ∀ (post : Int32 → Prop) (z : Int32), (z = 0 → post 0) → (¬ z = 0 → (lv T 1 = 15 → lv T 2 = 0) → post 1) → (¬ z = 0 → ¬ (lv T 1 = 15 → lv T 2 = 0) → post 0) → wX_isFilter_32 post T z := by
      intro post z z0 z1 z2
      exact px_lv2 (br_c (fun b15 => px_lv3 (br_c (fun c0 => br_c z0 fun nz => br_f one (z1 nz fun _ => c0)) fun c0 => br_c z0 fun nz => br_t rfl (z2 nz fun h => c0 (h b15)))) fun b15 => br_c z0 fun nz => br_f one (z1 nz fun z => absurd z b15))
    by_cases ha : lv T 0 = 15 → lv T 1 = 0
    · have hX : ∀ (post : Int32 → Prop), wX_isFilter_32 post T 1 → wpX_isFilter post T := fun post h => hU _ (br_f one (px_lv1 (br_c (fun a15 => px_lv2 (br_t (ha a15) h)) fun _ => h)))
      by_cases hb : lv T 1 = 15 → lv T 2 = 0
      · exact ⟨1, Or.inr rfl, fun post hp => hX post (h32 post 1 (fun z => absurd z one) (fun _ _ => hp) (fun _ h => absurd hb h)), fun p k q l s e g m z t post hp => py_fi_yes ⟨hy, ha, hb⟩ hp⟩
      · exact ⟨0, Or.inl rfl, fun post hp => hX post (h32 post 1 (fun z => absurd z one) (fun _ h => absurd h hb) (fun _ _ => hp)), fun p k q l s e g m z t post hp => py_fi_no (fun h => hb h.2.2) hp⟩
    · have a15 : lv T 0 = 15 := Classical.byContradiction fun h => ha fun z => absurd z h
      have b0 : ¬ lv T 1 = 0 := fun h => ha fun _ => h
      exact ⟨0, Or.inl rfl, fun post hp => hU _ (br_f one (px_lv1 (br_t a15 (px_lv2 (br_f b0 (h32 post 0 (fun _ => hp) (fun h => absurd rfl h) (fun h => absurd rfl h))))))), fun p k q l s e g m z t post hp => py_fi_no (fun h => ha h.2.1) hp⟩
/-! clients and serials -/
theorem pr_cl (C : Int32) : ((∀ post : Int32 → Prop, post 0 → wpX_isClient post C) ∧ ∀ (u : SY) (post : Int32 → Prop), post 1 → wpY_bad post u C) ∨ ∃ c, c < 4 ∧ C = nI c ∧ (∀ post : Int32 → Prop, post 1 → wpX_isClient post C) ∧ ∀ (u : SY) (post : Int32 → Prop), post 0 → wpY_bad post u C := by
  rcases pk_ix C (n := 4) (by omega) with h | h | ⟨c, hc, rfl⟩
  · exact Or.inl ⟨fun post hp => br_t h hp, fun u post hp => br_t h hp⟩
  · have h0 : ¬ C < 0 := fun z => Int32.lt_irrefl (Int32.lt_of_lt_of_le z (Int32.le_trans (by decide) h))
    have h3 : ¬ C ≤ 3 := fun z => absurd (Int32.le_trans h z) (by decide)
    exact Or.inl ⟨fun post hp => br_f h0 (br_t h hp), fun u post hp => br_f h0 (br_f h3 hp)⟩
  · have h0 : ¬ nI c < 0 := nI_pos (by omega)
    exact Or.inr ⟨c, hc, rfl, fun post hp => br_f h0 (br_f (nI_ge (b := 4) hc (by omega)) hp), fun u post hp => br_f h0 (br_t (nI_le (b := 3) (by omega) (by omega)) hp)⟩
theorem pr_se (S : Int32) : ((∀ post : Int32 → Prop, post 0 → wpX_isSerial post S) ∧ (S < 1 ∨ (¬ S < 1 ∧ 24 < S))) ∨ ∃ s, 1 ≤ s ∧ s ≤ 24 ∧ S = nI s ∧ (∀ post : Int32 → Prop, post 1 → wpX_isSerial post S) ∧ ¬ S < 1 ∧ ¬ 24 < S ∧ S ≤ 24 := by
  by_cases h1 : S < 1
  · exact Or.inl ⟨fun post hp => br_t h1 hp, Or.inl h1⟩
  · by_cases h2 : 24 < S
    · exact Or.inl ⟨fun post hp => br_f h1 (br_t h2 hp), Or.inr ⟨h1, h2⟩⟩
    · obtain ⟨s, hs, rfl⟩ := nI_of (x := S) (fun z => h1 (Int32.lt_trans z (by decide)))
      have a : 1 ≤ s := by
        apply Classical.byContradiction
        intro hx
        exact h1 (nI_lt (b := 1) (by omega) (by omega))
      have b : s ≤ 24 := by
        apply Classical.byContradiction
        intro hx
        exact h2 (nI_lt (a := 24) (by omega) hs)
      exact Or.inr ⟨s, a, b, rfl, fun post hp => br_f h1 (br_f h2 hp), h1, h2, Int32.not_lt.mp h2⟩
end P9
