section Q6
/-- the counts: received by client and serial, accepted by serial, overflow by client -/
def pc_K (k : TK) (rc : Nat → Nat → Nat) (ac ov : Nat → Nat) : Prop := (∀ c s, c < 4 → s ≤ 24 → k.1 (c * 25 + s) = nI (rc c s)) ∧ (∀ s, s ≤ 24 → k.2.2.1 s = nI (ac s)) ∧ ∀ c, c < 4 → k.2.2.2 c = nI (ov c)
/-- the links -/
def pc_L (l : TL) (up se pe : Nat → Bool) : Prop := ∀ c, c < 4 → l.1 c = bI (up c) ∧ l.2.1 c = bI (se c) ∧ l.2.2 c = bI (pe c)
theorem fu_id {α : Type} (f : Nat → α) (x : Nat) : fu f x (f x) = f := by
  funext y
  by_cases h : y = x
  · rw [h, fu_s]
  · rw [fu_n h]
/-- what a SEND does to the outbox, the wire and the overflow of the broker's end -/
def SND (up : Bool) (s e m : Nat) (Od Wd : List N5) (v : Nat) (Od' Wd' : List N5) (v' : Nat) : Prop :=
  (e = 0 ∧ Od' = Od ∧ v' = v ∧ Wd' = (if up then Wd ++ [(1, 0, s, 0, m)] else Wd))
  ∨ (1 ≤ e ∧ Od.length = 16 ∧ Od' = Od ∧ Wd' = Wd ∧ v' = v + 1)
  ∨ (1 ≤ e ∧ v' = v ∧ ∃ i, 1 ≤ i ∧ i ≤ 16 ∧ (∀ a, a ∈ Od → a.2.2.1 ≠ i) ∧ Od' = Od ++ [(s, e, i, m, 1)] ∧ Wd' = (if up then Wd ++ [(1, i, s, e, m)] else Wd))
theorem pq_send {k : TK} {l : TL} {o : TO} {w : TW} {O W : Nat → List N5} {rc : Nat → Nat → Nat} {ac ov : Nat → Nat} {up se pe : Nat → Bool} (HO : pc_O o O) (HW : pc_W w W) (HK : pc_K k rc ac ov) (HL : pc_L l up se pe) {d sn qn mn : Nat} (hd : d < 4) (s1 : 1 ≤ sn) (s2 : sn ≤ 24) (hq : qn ≤ 2) (hm : mn ≤ 1) (hl : (W (4 + d)).length < 32) :
    ∃ (k' : TK) (o' : TO) (w' : TW) (O' W' : List N5) (v' : Nat), SND (up d) sn qn mn (O (4 + d)) (W (4 + d)) (ov d) O' W' v' ∧ pc_O o' (fu O (4 + d) O') ∧ pc_W w' (fu W (4 + d) W') ∧ pc_K k' rc ac (fu ov d v')
      ∧ (∀ (p : TP) (r : TR) (s : TL) (h : TA) (post : St1 → Prop), post (XS p k' r l s o' h w') → wpX_sendSerial post (XS p k r l s o h w) (nI d) (nI sn) (nI qn) (nI mn)) := by
  have cd : (nI d).toNatClampNeg = d := nI_clamp (by omega)
  have i4 : vp_in (nI d) 4 := vp_in_nI hd (by omega)
  have x8 : vp_in (nI (4 + d)) 8 := vp_in_nI (by omega) (by omega)
  have cx : (nI (4 + d)).toNatClampNeg = 4 + d := nI_clamp (by omega)
  have hup := (HL d hd).1
  have K0 : pc_K k rc ac (fu ov d (ov d)) := by rw [fu_id]; exact HK
  have O0 : pc_O o (fu O (4 + d) (O (4 + d))) := by rw [fu_id]; exact HO
  have W0 : pc_W w (fu W (4 + d) (W (4 + d))) := by rw [fu_id]; exact HW
  by_cases q0 : qn = 0
  · subst q0
    have hlt : nI 0 < 1 := by decide
    cases hb : up d with
    | false =>
      have hz : l.1 (nI d).toNatClampNeg = 0 := by rw [cd, hup, hb]; rfl
      exact ⟨k, o, w, O (4 + d), W (4 + d), ov d, Or.inl ⟨rfl, rfl, rfl, rfl⟩, O0, W0, K0, fun p r s h post hp => nm_r (pn_4a d) (br_t hlt ⟨i4, br_t hz hp⟩)⟩
    | true =>
      have hz : ¬ l.1 (nI d).toNatClampNeg = 0 := by rw [cd, hup, hb]; decide
      obtain ⟨w', a1, a2⟩ := pq_put HW (x := 4 + d) (by omega) hl (t := (1, 0, sn, 0, mn)) ⟨Nat.le_refl 1, (by decide : 1 ≤ 5), Nat.zero_le _, fun _ => ⟨s1, s2⟩, s2, Nat.zero_le _, hm, fun _ => Or.inl rfl, fun z => absurd rfl z⟩
      exact ⟨k, o, w', O (4 + d), _, ov d, Or.inl ⟨rfl, rfl, rfl, rfl⟩, O0, a1, K0, fun p r s h post hp => nm_r (pn_4a d) (br_t hlt ⟨i4, br_f hz (a2 p k r l s o h _ hp)⟩)⟩
  · have hlt : ¬ nI qn < 1 := nI_nlt (b := 1) (by omega) (by omega)
    obtain ⟨a1, a2, a3, a4⟩ := HO.1 (4 + d) (by omega)
    by_cases hf : (O (4 + d)).length = 16
    · have hx : o.1 (nI (4 + d)).toNatClampNeg = 16 := by rw [cx, a3, hf]; rfl
      refine ⟨(k.1, k.2.1, k.2.2.1, upd k.2.2.2 d (nI (ov d + 1))), o, w, O (4 + d), W (4 + d), ov d + 1, Or.inr (Or.inl ⟨by omega, hf, rfl, rfl, rfl⟩), O0, W0, ⟨HK.1, HK.2.1, fun c hc => ?_⟩, fun p r s h post hp => nm_r (pn_4a d) (br_f hlt ⟨x8, br_t hx ⟨i4, i4, nm_r (e' := upd k.2.2.2 d (nI (ov d + 1))) (by rw [cd, HK.2.2 d hd, nI_1]) hp⟩⟩)⟩
      show upd k.2.2.2 d (nI (ov d + 1)) c = nI (fu ov d (ov d + 1) c)
      by_cases e : c = d
      · rw [e, pk_us, fu_s]
      · rw [pk_un e, fu_n e]; exact HK.2.2 c hc
    · have hx : ¬ o.1 (nI (4 + d)).toNatClampNeg = 16 := by
        rw [cx, a3]
        intro z
        have := (nI_eq (b := 16) (by omega) (by omega)).mp z
        omega
      obtain ⟨o', i, i1, i2, i3, c1, c2⟩ := pq_add HO (x := 4 + d) (by omega) (by omega) s1 s2 (show 1 ≤ qn by omega) hq hm
      cases hb : up d with
      | false =>
        have hz : l.1 (nI d).toNatClampNeg = 0 := by rw [cd, hup, hb]; rfl
        exact ⟨k, o', w, _, W (4 + d), ov d, Or.inr (Or.inr ⟨by omega, rfl, i, i1, i2, i3, rfl, rfl⟩), c1, W0, K0, fun p r s h post hp => nm_r (pn_4a d) (br_f hlt ⟨x8, br_f hx (c2 p k r l s h w _ ⟨i4, br_t hz hp⟩)⟩)⟩
      | true =>
        have hz : ¬ l.1 (nI d).toNatClampNeg = 0 := by rw [cd, hup, hb]; decide
        obtain ⟨w', b1, b2⟩ := pq_put HW (x := 4 + d) (by omega) hl (t := (1, i, sn, qn, mn)) ⟨Nat.le_refl 1, (by decide : 1 ≤ 5), i2, fun _ => ⟨s1, s2⟩, s2, hq, hm, fun _ => Or.inr i1, fun z => absurd rfl z⟩
        exact ⟨k, o', w', _, _, ov d, Or.inr (Or.inr ⟨by omega, rfl, i, i1, i2, i3, rfl, rfl⟩), c1, b1, K0, fun p r s h post hp => nm_r (pn_4a d) (br_f hlt ⟨x8, br_f hx (c2 p k r l s h w _ ⟨i4, br_f hz (b2 p k r l s o' h _ hp)⟩)⟩)⟩
end Q6
