section Q15
/-- some marked SENDs, one behind the other -/
def MSN (up : Bool) : Nat → List N5 → List N5 → Nat → List N5 → List N5 → Nat → Prop
  | 0, O, W, v, O', W', v' => O' = O ∧ W' = W ∧ v' = v
  | m + 1, O, W, v, O', W', v' => ∃ (O1 W1 : List N5) (v1 s e : Nat), 1 ≤ s ∧ s ≤ 24 ∧ e ≤ 2 ∧ SND up s e 1 O W v O1 W1 v1 ∧ MSN up m O1 W1 v1 O' W' v'
theorem fu_fu {α : Type} (f : Nat → α) (x : Nat) (a b : α) : fu (fu f x a) x b = fu f x b := by
  funext y
  by_cases h : y = x
  · rw [h, fu_s, fu_s]
  · rw [fu_n h, fu_n h, fu_n h]
theorem SND_len {up : Bool} {s e m : Nat} {O W : List N5} {v : Nat} {O' W' : List N5} {v' : Nat} (h : SND up s e m O W v O' W' v') : W'.length ≤ W.length + 1 := by
  rcases h with ⟨_, _, _, h⟩ | ⟨_, _, _, h, _⟩ | ⟨_, _, i, _, _, _, _, h⟩ <;> rw [h]
  · cases up
    · simp
    · simp
  · omega
  · cases up
    · simp
    · simp
theorem pq_sr {p : TP} {l s : TL} {r : TR} {n mr : Nat} {tp : Nat → Int32} {qu : Nat → Nat} {up se pe : Nat → Bool} (HP : pc_P p n tp qu) (HL : pc_L l up se pe) (m8 : mr ≤ 8) (hm : r.1 = nI mr) (hr : ∀ i, i < mr → ∃ s, 1 ≤ s ∧ s ≤ 24 ∧ r.2.2 i = nI s) {c qn : Nat} (hc : c < 4) (F : Int32) (hq : qn ≤ 2) :
    ∀ d i, i + d = mr → ∀ (cn : Nat) (k : TK) (o : TO) (w : TW) (O W : Nat → List N5) (rc : Nat → Nat → Nat) (ac ov : Nat → Nat), cn ≤ i → pc_O o O → pc_W w W → pc_K k rc ac ov → (W (4 + c)).length + d ≤ 32 → ∃ (N mm : Nat) (k' : TK) (o' : TO) (w' : TW) (O' W' : List N5) (v' : Nat), N ≤ 8 ∧ mm ≤ d ∧ MSN (up c) mm (O (4 + c)) (W (4 + c)) (ov c) O' W' v' ∧ pc_O o' (fu O (4 + c) O') ∧ pc_W w' (fu W (4 + c) W') ∧ pc_K k' rc ac (fu ov c v')
      ∧ (∀ (h : TA) (post : Int32 → St1 → Prop), post (nI N) (XS p k' r l s o' h w') → wX_sendRetained_6 post (nI c) F (nI qn) (d + 1) (nI cn) (nI i) p.1 r.1 p.2.1 p.2.2.1 p.2.2.2.1 p.2.2.2.2 k.1 k.2.1 k.2.2.1 k.2.2.2 r.2.1 r.2.2 l.1 l.2.1 l.2.2 s.1 s.2.1 s.2.2 o.1 o.2.1 o.2.2.1 o.2.2.2.1 o.2.2.2.2.1 o.2.2.2.2.2 h w.1 w.2.1 w.2.2.1 w.2.2.2.1 w.2.2.2.2.1 w.2.2.2.2.2.1 w.2.2.2.2.2.2) := by
  intro d
  induction d with
  | zero =>
    intro i hi cn k o w O W rc ac ov hcn HO HW HK hl
    exact ⟨cn, 0, k, o, w, O (4 + c), W (4 + c), ov c, by omega, Nat.le_refl 0, ⟨rfl, rfl, rfl⟩, by rw [fu_id]; exact HO, by rw [fu_id]; exact HW, by rw [fu_id]; exact HK, fun h post hp => br_t (by rw [hm]; exact nI_le (by omega) (by omega)) hp⟩
  | succ d ih =>
    intro i hi cn k o w O W rc ac ov hcn HO HW HK hl
    have hX : ¬ r.1 ≤ nI i := by rw [hm]; exact nI_ge (by omega) (by omega)
    have i8 : vp_in (nI i) 8 := vp_in_nI (by omega) (by omega)
    have ci : (nI i).toNatClampNeg = i := nI_clamp (by omega)
    cases hma : ma F (r.2.1 (nI i).toNatClampNeg) with
    | false =>
      obtain ⟨N, mm, k', o', w', O', W', v', c1, c2, c3, c4, c5, c6, c7⟩ := ih (i + 1) (by omega) cn k o w O W rc ac ov (by omega) HO HW HK (by omega)
      exact ⟨N, mm, k', o', w', O', W', v', c1, by omega, c3, c4, c5, c6, fun h post hp => br_f hX ⟨i8, px_ma (by rw [hma]; exact br_t rfl (nm_r (nI_1 _) (c7 h post hp)))⟩⟩
    | true =>
      obtain ⟨sn, s1, s2, hsn⟩ := hr i (by omega)
      have cs : (nI sn).toNatClampNeg = sn := nI_clamp (by omega)
      have i25 : vp_in (nI sn) 25 := vp_in_nI (by omega) (by omega)
      obtain ⟨_, hqu, hq2⟩ := HP.2.2 sn s2
      have vQ : p.2.2.2.1 (nI sn).toNatClampNeg = nI (qu sn) := by rw [cs]; exact hqu
      have hqn : (if qn ≤ qu sn then qn else qu sn) ≤ 2 := by split <;> omega
      obtain ⟨k1, o1, w1, O1, W1, v1, t1, t2, t3, t4, t5⟩ := pq_send HO HW HK HL hc s1 s2 hqn (show (1 : Nat) ≤ 1 by omega) (by omega)
      have hlen := SND_len t1
      obtain ⟨N, mm, k', o', w', O', W', v', c1, c2, c3, c4, c5, c6, c7⟩ := ih (i + 1) (by omega) (cn + 1) k1 o1 w1 (fu O (4 + c) O1) (fu W (4 + c) W1) rc ac (fu ov c v1) (by omega) t2 t3 t4 (by rw [fu_s]; omega)
      rw [fu_s, fu_s, fu_s] at c3
      rw [fu_fu] at c4 c5 c6
      refine ⟨N, mm + 1, k', o', w', O', W', v', c1, by omega, ⟨O1, W1, v1, sn, _, s1, s2, hqn, t1, c3⟩, c4, c5, c6, fun h post hp => br_f hX ⟨i8, px_ma ?_⟩⟩
      rw [hma]
      refine br_f (by decide) ⟨i8, nm_r (e' := nI sn) (by rw [ci, hsn]) ⟨i25, ?_⟩⟩
      rw [vQ]
      have t5' := t5
      by_cases hle : qn ≤ qu sn
      · rw [if_pos hle] at t5'
        exact br_t (nI_le hle (by omega)) (t5' p r s h _ (nm_r (nI_1 _) (nm_r (nI_1 _) (c7 h post hp))))
      · rw [if_neg hle] at t5'
        exact br_f (nI_ge (by omega) (by omega)) (t5' p r s h _ (nm_r (nI_1 _) (nm_r (nI_1 _) (c7 h post hp))))
theorem pc_S_set {s : TL} {S : Nat → List (Int32 × Nat)} (HS : pc_S s S) {c j qn : Nat} {f : Int32 × Nat} (hc : c < 4) (hf : (S c)[j]? = some f) (hq : qn ≤ 2) : pc_S (s.1, s.2.1, upd s.2.2 (c * 4 + j) (nI qn)) (fu S c ((S c).set j (f.1, qn))) := by
  have hj := ls_lt hf
  intro c' hc'
  by_cases e : c' = c
  · subst e
    obtain ⟨a1, a2, a3, a4⟩ := HS c' hc'
    rw [fu_s]
    refine ⟨by rw [List.length_set]; exact a1, fun g hg => ?_, by rw [List.length_set]; exact a3, fun i g hi => ?_⟩
    · rcases List.mem_or_eq_of_mem_set hg with h | h
      · exact a2 g h
      · rw [h]; exact hq
    · rw [List.getElem?_set] at hi
      show s.2.1 (c' * 4 + i) = _ ∧ upd s.2.2 (c' * 4 + j) (nI qn) (c' * 4 + i) = _
      by_cases hij : j = i
      · subst hij
        rw [if_pos rfl, if_pos hj] at hi
        rw [← Option.some.inj hi, pk_us]
        exact ⟨(a4 j f hf).1, rfl⟩
      · rw [if_neg hij] at hi
        rw [pk_un (by omega)]
        exact a4 i g hi
  · rw [fu_n e]
    obtain ⟨a1, a2, a3, a4⟩ := HS c' hc'
    refine ⟨a1, a2, a3, fun i g hi => ?_⟩
    have := ls_lt hi
    have hjl := (HS c hc).1
    show s.2.1 (c' * 4 + i) = _ ∧ upd s.2.2 (c * 4 + j) (nI qn) (c' * 4 + i) = _
    rw [pk_un (by omega)]
    exact a4 i g hi
theorem pc_S_new {s : TL} {S : Nat → List (Int32 × Nat)} (HS : pc_S s S) {c qn : Nat} {F : Int32} (hc : c < 4) (hl : (S c).length < 4) (hq : qn ≤ 2) : pc_S (upd s.1 c (nI ((S c).length + 1)), upd s.2.1 (c * 4 + (S c).length) F, upd s.2.2 (c * 4 + (S c).length) (nI qn)) (fu S c (S c ++ [(F, qn)])) := by
  intro c' hc'
  by_cases e : c' = c
  · subst e
    obtain ⟨a1, a2, a3, a4⟩ := HS c' hc'
    rw [fu_s]
    refine ⟨by rw [List.length_append, List.length_singleton]; omega, fun g hg => ?_, by rw [List.length_append, List.length_singleton]; exact pk_us, fun i g hi => ?_⟩
    · rcases List.mem_append.mp hg with h | h
      · exact a2 g h
      · rw [List.mem_singleton.mp h]; exact hq
    · show upd s.2.1 (c' * 4 + (S c').length) F (c' * 4 + i) = _ ∧ upd s.2.2 (c' * 4 + (S c').length) (nI qn) (c' * 4 + i) = _
      rcases ls_app hi with ⟨h1, h2⟩ | ⟨h1, h2⟩
      · rw [pk_un (by omega), pk_un (by omega)]
        exact a4 i g h2
      · rw [h1, pk_us, pk_us, h2]
        exact ⟨rfl, rfl⟩
  · rw [fu_n e]
    obtain ⟨a1, a2, a3, a4⟩ := HS c' hc'
    refine ⟨a1, a2, (pk_un e).trans a3, fun i g hi => ?_⟩
    have := ls_lt hi
    show upd s.2.1 (c * 4 + (S c).length) F (c' * 4 + i) = _ ∧ upd s.2.2 (c * 4 + (S c).length) (nI qn) (c' * 4 + i) = _
    rw [pk_un (by omega), pk_un (by omega)]
    exact a4 i g hi
theorem pq_subscribe {p : TP} {l s : TL} {k : TK} {r : TR} {o : TO} {w : TW} {n : Nat} {tp : Nat → Int32} {qu : Nat → Nat} {up se pe : Nat → Bool} {S : Nat → List (Int32 × Nat)} {O W : Nat → List N5} {rc : Nat → Nat → Nat} {ac ov : Nat → Nat} (HP : pc_P p n tp qu) (HL : pc_L l up se pe) (HS : pc_S s S) (HR : pc_R r) (HO : pc_O o O) (HW : pc_W w W) (HK : pc_K k rc ac ov) {c : Nat} (hc : c < 4) (F Q : Int32) (hl : (W (4 + c)).length ≤ 24) :
    (∃ R : Int32, R < 0 ∧ ∀ (h : TA) (post : Int32 → St1 → Prop), post R (XS p k r l s o h w) → wpX_subscribe post (XS p k r l s o h w) (nI c) F Q)
    ∨ (up c = true ∧ ∃ (qn N mm : Nat) (k' : TK) (s' : TL) (o' : TO) (w' : TW) (L' : List (Int32 × Nat)) (O' W' : List N5) (v' : Nat), qn ≤ 2 ∧ Q = nI qn ∧ N ≤ 8 ∧ mm ≤ 8 ∧ pc_S s' (fu S c L') ∧ (∀ f, f ∈ L' → f ∈ S c ∨ f = (F, qn)) ∧ MSN (up c) mm (O (4 + c)) (W (4 + c)) (ov c) O' W' v' ∧ pc_O o' (fu O (4 + c) O') ∧ pc_W w' (fu W (4 + c) W') ∧ pc_K k' rc ac (fu ov c v')
      ∧ ∀ (h : TA) (post : Int32 → St1 → Prop), post (nI N) (XS p k' r l s' o' h w') → wpX_subscribe post (XS p k r l s o h w) (nI c) F Q) := by
  have cc : (nI c).toNatClampNeg = c := nI_clamp (by omega)
  have i4 : vp_in (nI c) 4 := vp_in_nI hc (by omega)
  cases hu : up c with
  | false =>
    refine Or.inl ⟨-2, by decide, fun h post hp => ?_⟩
    unfold wpX_subscribe
    exact px_cl hc (br_f (by decide) ⟨i4, br_t (by rw [cc, (HL c hc).1, hu]; rfl) hp⟩)
  | true =>
    have hl' : ¬ l.1 (nI c).toNatClampNeg = 0 := by rw [cc, (HL c hc).1, hu]; decide
    obtain ⟨A, hA, aX⟩ := px_fi F ()
    by_cases hA0 : A = 0
    · refine Or.inl ⟨-3, by decide, fun h post hp => ?_⟩
      unfold wpX_subscribe
      exact px_cl hc (br_f (by decide) ⟨i4, br_f hl' (aX _ (br_t hA0 hp))⟩)
    · by_cases q0 : Q < 0
      · refine Or.inl ⟨-3, by decide, fun h post hp => ?_⟩
        unfold wpX_subscribe
        exact px_cl hc (br_f (by decide) ⟨i4, br_f hl' (aX _ (br_f hA0 (br_t q0 hp)))⟩)
      · by_cases q2 : Q ≤ 2
        · obtain ⟨qn, hqn, rfl⟩ := nI_of2 (M := 2) (n := 2) (by decide) q0 q2
          obtain ⟨mr, m8, hm, hr⟩ := HR
          obtain ⟨a1, a2, a3, a4⟩ := HS c hc
          obtain ⟨R, fX, hR⟩ := pq_fs HS hc F
          rcases hR with ⟨rfl, hno⟩ | ⟨j, f, rfl, hj, hf, hfF⟩
          · by_cases h4 : (S c).length = 4
            · refine Or.inl ⟨-5, by decide, fun h post hp => ?_⟩
              unfold wpX_subscribe
              exact px_cl hc (br_f (by decide) ⟨i4, br_f hl' (aX _ (br_f hA0 (br_f q0 (br_t q2 (fX p k r l o h w _ (br_f (by decide) ⟨i4, br_t (by rw [cc, a3, h4]; rfl) hp⟩))))))⟩)
            · have hs4 : ¬ s.1 (nI c).toNatClampNeg = 4 := by
                rw [cc, a3]
                intro z
                exact h4 ((nI_eq (b := 4) (by omega) (by omega)).mp z)
              have eX : nI c * 4 + s.1 (nI c).toNatClampNeg = nI (c * 4 + (S c).length) := by rw [cc, a3, pn_m4, nI_add]
              have cn : (nI (c * 4 + (S c).length)).toNatClampNeg = c * 4 + (S c).length := nI_clamp (by omega)
              have i16 : vp_in (nI (c * 4 + (S c).length)) 16 := vp_in_nI (by omega) (by omega)
              obtain ⟨N, mm, k', o', w', O', W', v', c1, c2, c3, c4, c5, c6, c7⟩ := pq_sr HP HL m8 hm hr hc F hqn mr 0 (by omega) 0 k o w O W rc ac ov (Nat.le_refl 0) HO HW HK (by omega)
              rw [hu] at c3
              refine Or.inr ⟨rfl, qn, N, mm, k', _, o', w', _, O', W', v', hqn, rfl, c1, by omega, pc_S_new HS (F := F) hc (by omega) hqn, fun g hg => ?_, c3, c4, c5, c6, fun h post hp => ?_⟩
              · rcases List.mem_append.mp hg with h | h
                · exact Or.inl h
                · exact Or.inr (List.mem_singleton.mp h)
              · unfold wpX_subscribe
                exact px_cl hc (br_f (by decide) ⟨i4, br_f hl' (aX _ (br_f hA0 (br_f q0 (br_t q2 (fX p k r l o h w _ (br_f (by decide) ⟨i4, br_f hs4 ⟨i4, nm_r eX ⟨i16, nm_r (e' := upd s.2.1 (c * 4 + (S c).length) F) (by rw [cn]) ⟨i4, i4, nm_r (e' := upd s.1 c (nI ((S c).length + 1))) (by rw [cc, a3, nI_1]) ⟨i16, nm_r (e' := upd s.2.2 (c * 4 + (S c).length) (nI qn)) (by rw [cn]) ⟨mr + 1, c7 h post hp⟩⟩⟩⟩⟩⟩))))))⟩)
          · obtain ⟨N, mm, k', o', w', O', W', v', c1, c2, c3, c4, c5, c6, c7⟩ := pq_sr HP HL m8 hm hr hc F hqn mr 0 (by omega) 0 k o w O W rc ac ov (Nat.le_refl 0) HO HW HK (by omega)
            rw [hu] at c3
            refine Or.inr ⟨rfl, qn, N, mm, k', _, o', w', _, O', W', v', hqn, rfl, c1, by omega, pc_S_set HS hc hf hqn, fun g hg => ?_, c3, c4, c5, c6, fun h post hp => ?_⟩
            · rcases List.mem_or_eq_of_mem_set hg with h | h
              · exact Or.inl h
              · rw [hfF] at h
                exact Or.inr h
            · unfold wpX_subscribe
              exact px_cl hc (br_f (by decide) ⟨i4, br_f hl' (aX _ (br_f hA0 (br_f q0 (br_t q2 (fX p k r l o h w _ (br_t (nI_pos' (by omega)) ⟨vp_in_nI (by omega) (by omega), nm_r (e' := upd s.2.2 (c * 4 + j) (nI qn)) (by rw [nI_clamp (by omega)]) ⟨mr + 1, c7 h post hp⟩⟩))))))⟩)
        · refine Or.inl ⟨-3, by decide, fun h post hp => ?_⟩
          unfold wpX_subscribe
          exact px_cl hc (br_f (by decide) ⟨i4, br_f hl' (aX _ (br_f hA0 (br_f q0 (br_f q2 hp))))⟩)
end Q15
