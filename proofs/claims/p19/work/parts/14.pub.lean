section Q14
/-- what an accepted publish leaves: the outbox and the wire of the client's end -/
def PBL (n qn : Nat) (Oc Wc Oc' Wc' : List N5) : Prop := (qn = 0 ∧ Oc' = Oc ∧ Wc' = Wc ++ [(1, 0, n + 1, 0, 0)]) ∨ (1 ≤ qn ∧ Oc.length < 4 ∧ ∃ i, 1 ≤ i ∧ i ≤ 16 ∧ (∀ e, e ∈ Oc → e.2.2.1 ≠ i) ∧ Oc' = Oc ++ [(n + 1, qn, i, 0, 1)] ∧ Wc' = Wc ++ [(1, i, n + 1, qn, 0)])
theorem pq_p86 {p : TP} {o : TO} {w : TW} {n : Nat} {tp : Nat → Int32} {qu : Nat → Nat} {O W : Nat → List N5} (HP : pc_P p n tp qu) (HO : pc_O o O) (HW : pc_W w W) {c qn : Nat} (hc : c < 4) (n24 : n < 24) {T P F : Int32} (hq : qn ≤ 2) (hf : ¬ qn = 0 → (O c).length < 4) (hl : (W c).length < 32) : ∃ (p' : TP) (o' : TO) (w' : TW) (O' W' : List N5), PBL n qn (O c) (W c) O' W' ∧ pc_P p' (n + 1) (fu tp (n + 1) T) (fu qu (n + 1) qn) ∧ pc_O o' (fu O c O') ∧ pc_W w' (fu W c W')
    ∧ (∀ (k : TK) (r : TR) (l s : TL) (h : TA) (post : Int32 → St1 → Prop), post (nI (n + 1)) (XS p' k r l s o' h w') → wX_publish_86 post (nI c) T P F (nI qn) p.1 r.1 p.2.1 p.2.2.1 p.2.2.2.1 p.2.2.2.2 k.1 k.2.1 k.2.2.1 k.2.2.2 r.2.1 r.2.2 l.1 l.2.1 l.2.2 s.1 s.2.1 s.2.2 o.1 o.2.1 o.2.2.1 o.2.2.2.1 o.2.2.2.2.1 o.2.2.2.2.2 h w.1 w.2.1 w.2.2.1 w.2.2.2.1 w.2.2.2.2.1 w.2.2.2.2.2.1 w.2.2.2.2.2.2) := by
  obtain ⟨hn, _, hP⟩ := HP
  have i25 : vp_in (nI (n + 1)) 25 := vp_in_nI (by omega) (by omega)
  have cs : (nI (n + 1)).toNatClampNeg = n + 1 := nI_clamp (by omega)
  have en : p.1 + 1 = nI (n + 1) := by rw [hn, nI_1]
  have hZ : ∃ Z : Int32, (Z = 0 ∨ Z = 1) ∧ ((F &&& 4 = 0 ∧ Z = 0) ∨ (¬ F &&& 4 = 0 ∧ Z = 1)) := by
    by_cases h4 : F &&& 4 = 0
    · exact ⟨0, Or.inl rfl, Or.inl ⟨h4, rfl⟩⟩
    · exact ⟨1, Or.inr rfl, Or.inr ⟨h4, rfl⟩⟩
  obtain ⟨Z, hZ1, hZ2⟩ := hZ
  have HP' : pc_P (nI (n + 1), upd p.2.1 (n + 1) T, upd p.2.2.1 (n + 1) P, upd p.2.2.2.1 (n + 1) (nI qn), upd p.2.2.2.2 (n + 1) Z) (n + 1) (fu tp (n + 1) T) (fu qu (n + 1) qn) := by
    refine ⟨rfl, by omega, fun s hs => ?_⟩
    show upd p.2.1 (n + 1) T s = _ ∧ upd p.2.2.2.1 (n + 1) (nI qn) s = _ ∧ _
    by_cases e : s = n + 1
    · rw [e, pk_us, pk_us, fu_s, fu_s]
      exact ⟨rfl, rfl, hq⟩
    · rw [pk_un e, pk_un e, fu_n e, fu_n e]
      exact hP s hs
  have hX : ∀ (k : TK) (r : TR) (l s : TL) (h : TA) (post : Int32 → St1 → Prop), ((nI qn < 1 → wX_publish_167 post (nI c) (nI qn) (nI (n + 1)) 0 ((nI (n + 1), upd p.2.1 (n + 1) T, upd p.2.2.1 (n + 1) P, upd p.2.2.2.1 (n + 1) (nI qn), upd p.2.2.2.2 (n + 1) Z).1) r.1 ((nI (n + 1), upd p.2.1 (n + 1) T, upd p.2.2.1 (n + 1) P, upd p.2.2.2.1 (n + 1) (nI qn), upd p.2.2.2.2 (n + 1) Z).2.1) ((nI (n + 1), upd p.2.1 (n + 1) T, upd p.2.2.1 (n + 1) P, upd p.2.2.2.1 (n + 1) (nI qn), upd p.2.2.2.2 (n + 1) Z).2.2.1) ((nI (n + 1), upd p.2.1 (n + 1) T, upd p.2.2.1 (n + 1) P, upd p.2.2.2.1 (n + 1) (nI qn), upd p.2.2.2.2 (n + 1) Z).2.2.2.1) ((nI (n + 1), upd p.2.1 (n + 1) T, upd p.2.2.1 (n + 1) P, upd p.2.2.2.1 (n + 1) (nI qn), upd p.2.2.2.2 (n + 1) Z).2.2.2.2) k.1 k.2.1 k.2.2.1 k.2.2.2 r.2.1 r.2.2 l.1 l.2.1 l.2.2 s.1 s.2.1 s.2.2 o.1 o.2.1 o.2.2.1 o.2.2.2.1 o.2.2.2.2.1 o.2.2.2.2.2 h w.1 w.2.1 w.2.2.1 w.2.2.2.1 w.2.2.2.2.1 w.2.2.2.2.2.1 w.2.2.2.2.2.2) ∧ (¬ nI qn < 1 → wpX_appendEntry (fun i u => match u with | (f1, f2, a1, a2, a3, a4, a5, a6, a7, a8, a9, a10, a11, a12, a13, a14, a15, a16, a17, a18, a19, a20, a21, a22, a23, a24, a25, a26, a27, a28, a29, a30) => wX_publish_167 post (nI c) (nI qn) (nI (n + 1)) i f1 f2 a1 a2 a3 a4 a5 a6 a7 a8 a9 a10 a11 a12 a13 a14 a15 a16 a17 a18 a19 a20 a21 a22 a23 a24 a25 a26 a27 a28 a29 a30) (XS (nI (n + 1), upd p.2.1 (n + 1) T, upd p.2.2.1 (n + 1) P, upd p.2.2.2.1 (n + 1) (nI qn), upd p.2.2.2.2 (n + 1) Z) k r l s o h w) (nI c) (nI (n + 1)) (nI qn) 0)) → wX_publish_86 post (nI c) T P F (nI qn) p.1 r.1 p.2.1 p.2.2.1 p.2.2.2.1 p.2.2.2.2 k.1 k.2.1 k.2.2.1 k.2.2.2 r.2.1 r.2.2 l.1 l.2.1 l.2.2 s.1 s.2.1 s.2.2 o.1 o.2.1 o.2.2.1 o.2.2.2.1 o.2.2.2.2.1 o.2.2.2.2.2 h w.1 w.2.1 w.2.2.1 w.2.2.2.1 w.2.2.2.2.1 w.2.2.2.2.2.1 w.2.2.2.2.2.2 := by
    intro k r l s h post hp
    have h145 : wX_publish_145 post (nI c) (nI qn) (nI (n + 1)) Z (nI (n + 1)) (nI (n + 1)) r.1 (upd p.2.1 (n + 1) T) (upd p.2.2.1 (n + 1) P) (upd p.2.2.2.1 (n + 1) (nI qn)) p.2.2.2.2 k.1 k.2.1 k.2.2.1 k.2.2.2 r.2.1 r.2.2 l.1 l.2.1 l.2.2 s.1 s.2.1 s.2.2 o.1 o.2.1 o.2.2.1 o.2.2.2.1 o.2.2.2.2.1 o.2.2.2.2.2 h w.1 w.2.1 w.2.2.1 w.2.2.2.1 w.2.2.2.2.1 w.2.2.2.2.2.1 w.2.2.2.2.2.2 := ⟨i25, nm_r (by rw [cs, pn_b hZ1]) hp⟩
    refine nm_r en ⟨i25, nm_r (by rw [cs]) ⟨i25, nm_r (by rw [cs]) ⟨i25, nm_r (by rw [cs]) ?_⟩⟩⟩
    rcases hZ2 with ⟨h4, rfl⟩ | ⟨h4, rfl⟩
    · exact br_t h4 h145
    · exact br_f h4 h145
  by_cases q0 : qn = 0
  · subst q0
    obtain ⟨w', a1, a2⟩ := pq_put HW (x := c) (by omega) hl (t := (1, 0, n + 1, 0, 0)) ⟨Nat.le_refl 1, (by decide : 1 ≤ 5), Nat.zero_le _, fun _ => ⟨by show 1 ≤ n + 1; omega, by show n + 1 ≤ 24; omega⟩, by show n + 1 ≤ 24; omega, Nat.zero_le _, Nat.zero_le _, fun _ => Or.inl rfl, fun z => absurd rfl z⟩
    exact ⟨_, o, w', O c, _, Or.inl ⟨rfl, rfl, rfl⟩, HP', by rw [fu_id]; exact HO, a1, fun k r l s h post hp => hX k r l s h post (br_t (by decide) (a2 _ k r l s o h _ hp))⟩
  · obtain ⟨o', i, i1, i2, i3, c1, c2⟩ := pq_add HO (x := c) (by omega) (by have := hf q0; omega) (show 1 ≤ n + 1 by omega) (show n + 1 ≤ 24 by omega) (show 1 ≤ qn by omega) hq (show (0 : Nat) ≤ 1 by omega)
    obtain ⟨w', a1, a2⟩ := pq_put HW (x := c) (by omega) hl (t := (1, i, n + 1, qn, 0)) ⟨Nat.le_refl 1, (by decide : 1 ≤ 5), i2, fun _ => ⟨by show 1 ≤ n + 1; omega, by show n + 1 ≤ 24; omega⟩, by show n + 1 ≤ 24; omega, hq, Nat.zero_le _, fun _ => Or.inr i1, fun z => absurd rfl z⟩
    exact ⟨_, o', w', _, _, Or.inr ⟨by omega, hf q0, i, i1, i2, i3, rfl, rfl⟩, HP', c1, a1, fun k r l s h post hp => hX k r l s h post (br_f (nI_nlt (b := 1) (by omega) (by omega)) (c2 _ k r l s h w _ (a2 _ k r l s o' h _ hp)))⟩
/-- publish: refused with nothing changed, or a new serial -/
theorem pq_publish {p : TP} {l : TL} {o : TO} {w : TW} {n : Nat} {tp : Nat → Int32} {qu : Nat → Nat} {up se pe : Nat → Bool} {O W : Nat → List N5} (HP : pc_P p n tp qu) (HL : pc_L l up se pe) (HO : pc_O o O) (HW : pc_W w W) {c qn : Nat} (hc : c < 4) {T P F : Int32} (hF : F &&& 3 = nI qn) (hq : qn ≤ 2) (hl : (W c).length < 32) (h4 : (O c).length ≤ 4) :
    (∃ R : Int32, R < 0 ∧ ∀ (k : TK) (r : TR) (s : TL) (h : TA) (post : Int32 → St1 → Prop), post R (XS p k r l s o h w) → wpX_publish post (XS p k r l s o h w) (nI c) T P F)
    ∨ (n < 24 ∧ up c = true ∧ ∃ (p' : TP) (o' : TO) (w' : TW) (O' W' : List N5), PBL n qn (O c) (W c) O' W' ∧ pc_P p' (n + 1) (fu tp (n + 1) T) (fu qu (n + 1) qn) ∧ pc_O o' (fu O c O') ∧ pc_W w' (fu W c W')
      ∧ ∀ (k : TK) (r : TR) (s : TL) (h : TA) (post : Int32 → St1 → Prop), post (nI (n + 1)) (XS p' k r l s o' h w') → wpX_publish post (XS p k r l s o h w) (nI c) T P F) := by
  have cc : (nI c).toNatClampNeg = c := nI_clamp (by omega)
  have i4 : vp_in (nI c) 4 := vp_in_nI hc (by omega)
  have x0 : vp_in (nI c) 8 := vp_in_nI (by omega) (by omega)
  have q3 : ¬ nI qn = 3 := by
    intro z
    have := (nI_eq (b := 3) (by omega) (by omega)).mp z
    omega
  obtain ⟨a1, a2, a3, a4⟩ := HO.1 c (by omega)
  cases hu : up c with
  | false =>
    refine Or.inl ⟨-2, by decide, fun k r s h post hp => ?_⟩
    unfold wpX_publish
    exact px_cl hc (br_f (by decide) ⟨i4, br_t (by rw [cc, (HL c hc).1, hu]; rfl) hp⟩)
  | true =>
    have hl' : ¬ l.1 (nI c).toNatClampNeg = 0 := by rw [cc, (HL c hc).1, hu]; decide
    obtain ⟨R, hR, tX⟩ := px_tp T ()
    rcases hR with rfl | rfl
    · refine Or.inl ⟨-3, by decide, fun k r s h post hp => ?_⟩
      unfold wpX_publish
      exact px_cl hc (br_f (by decide) ⟨i4, br_f hl' (nm_e (tX _ (br_t rfl hp)))⟩)
    · by_cases f0 : F < 0
      · refine Or.inl ⟨-3, by decide, fun k r s h post hp => ?_⟩
        unfold wpX_publish
        exact px_cl hc (br_f (by decide) ⟨i4, br_f hl' (nm_e (tX _ (br_f (by decide) (br_t f0 hp))))⟩)
      · by_cases f6 : 6 < F
        · refine Or.inl ⟨-3, by decide, fun k r s h post hp => ?_⟩
          unfold wpX_publish
          exact px_cl hc (br_f (by decide) ⟨i4, br_f hl' (nm_e (tX _ (br_f (by decide) (br_f f0 (br_t f6 hp)))))⟩)
        · by_cases n24 : n = 24
          · refine Or.inl ⟨-4, by decide, fun k r s h post hp => ?_⟩
            unfold wpX_publish
            exact px_cl hc (br_f (by decide) ⟨i4, br_f hl' (nm_r hF (tX _ (br_f (by decide) (br_f f0 (br_f f6 (br_f q3 (br_t (by rw [HP.1, n24]; rfl) hp)))))))⟩)
          · have hnn : n < 24 := by have := HP.2.1; omega
            have hx : ¬ p.1 = 24 := by
              rw [HP.1]
              intro x
              have := (nI_eq (b := 24) (by omega) (by omega)).mp x
              omega
            by_cases hcap : ¬ qn = 0 ∧ (O c).length = 4
            · refine Or.inl ⟨-5, by decide, fun k r s h post hp => ?_⟩
              unfold wpX_publish
              exact px_cl hc (br_f (by decide) ⟨i4, br_f hl' (nm_r hF (tX _ (br_f (by decide) (br_f f0 (br_f f6 (br_f q3 (br_f hx (br_f (nI_nlt (b := 1) (by omega) (by omega)) ⟨x0, br_t (by rw [cc, a3, hcap.2]; rfl) hp⟩))))))))⟩)
            · obtain ⟨p', o', w', O', W', b1, b2, b3, b4, b5⟩ := pq_p86 HP HO HW (T := T) (P := P) (F := F) hc hnn hq (fun z => by
                have h1 : (O c).length ≠ 4 := fun y => hcap ⟨z, y⟩
                omega) hl
              refine Or.inr ⟨hnn, rfl, p', o', w', O', W', b1, b2, b3, b4, fun k r s h post hp => ?_⟩
              have h86 := b5 k r l s h post hp
              unfold wpX_publish
              refine px_cl hc (br_f (by decide) ⟨i4, br_f hl' (nm_r hF (tX _ (br_f (by decide) (br_f f0 (br_f f6 (br_f q3 (br_f hx (br_c (fun _ => h86) fun hq1 => ⟨x0, br_f ?_ h86⟩))))))))⟩)
              rw [cc, a3]
              intro x
              have h4 := (nI_eq (b := 4) (by omega) (by omega)).mp x
              refine hcap ⟨fun z => hq1 ?_, h4⟩
              rw [z]
              decide
end Q14
