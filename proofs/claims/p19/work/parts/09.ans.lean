section Q9
theorem pc_H_u {h : TA} {H : Nat → Nat → Bool} (HH : pc_H h H) {x i : Nat} {b : Bool} (hx : x < 8) (h1 : 1 ≤ i) (h2 : i ≤ 16) : pc_H (upd h (x * 17 + i) (bI b)) (fu H x (fu (H x) i b)) := by
  intro y j hy j1 j2
  by_cases e : y = x
  · subst e
    rw [fu_s]
    by_cases ej : j = i
    · subst ej
      rw [fu_s, pk_us]
    · rw [fu_n ej, pk_un (by omega)]
      exact HH y j hy j1 j2
  · rw [fu_n e, pk_un (by omega)]
    exact HH y j hy j1 j2
theorem px_a2 {p : TP} {k : TK} {r : TR} {l s : TL} {o : TO} {h : TA} {w : TW} {x : Nat} {I Q : Int32} {post : St1 → Prop} (hp : wpX_endPublish post (XS p k r l s o h w) (nI x) I) : wpX_answerPacket post (XS p k r l s o h w) (nI x) 2 I Q := br_f (by decide) (br_f (by decide) (br_f (by decide) (br_t rfl hp)))
theorem px_a3 {p : TP} {k : TK} {r : TR} {l s : TL} {o : TO} {h : TA} {w : TW} {x : Nat} {I Q : Int32} {post : St1 → Prop} (hp : wpX_releaseEntry post (XS p k r l s o h w) (nI x) I) : wpX_answerPacket post (XS p k r l s o h w) (nI x) 3 I Q := br_f (by decide) (br_f (by decide) (br_f (by decide) (br_f (by decide) (br_t rfl hp))))
theorem px_a5 {p : TP} {k : TK} {r : TR} {l s : TL} {o : TO} {h : TA} {w : TW} {x : Nat} {I Q : Int32} {post : St1 → Prop} (hp : wpX_endRelease post (XS p k r l s o h w) (nI x) I) : wpX_answerPacket post (XS p k r l s o h w) (nI x) 5 I Q := br_f (by decide) (br_f (by decide) (br_f (by decide) (br_f (by decide) (br_f (by decide) (br_f (by decide) (br_t rfl hp))))))
/-- the entry that is looked for is the one that is there -/
theorem pq_fe1 {o : TO} {O : Nat → List N5} (HO : pc_O o O) {x i j : Nat} {e : N5} (hx : x < 8) (nd : ndk (O x)) (he : (O x)[j]? = some e) (hi : e.2.2.1 = i) : j < 16 ∧ i < 1000 ∧ ∀ (p : TP) (k : TK) (r : TR) (l s : TL) (h : TA) (w : TW) (post : Int32 → Prop), post (nI (x * 16 + j)) → wpX_findEntry post (XS p k r l s o h w) (nI x) (nI i) := by
  have hok := (HO.1 x hx).2.1 e (ls_mem he)
  have hi16 : i < 1000 := by rw [← hi]; have := hok.2.2.2.2.2.1; omega
  obtain ⟨R, hX, hR⟩ := pq_fe HO hx hi16
  have hj := ls_lt he
  have hl := (HO.1 x hx).1
  rcases hR with ⟨_, hno⟩ | ⟨j', e', rfl, hj', he', hi'⟩
  · exact absurd hi (hno e (ls_mem he))
  · have := nd j j' e e' he he' (by rw [hi, hi'])
    subst this
    exact ⟨hj', hi16, hX⟩
theorem pq_k2 {o : TO} {O : Nat → List N5} (HO : pc_O o O) {x i j : Nat} {e : N5} (hx : x < 8) (nd : ndk (O x)) (he : (O x)[j]? = some e) (hi : e.2.2.1 = i) (hq : e.2.1 = 1) (hs : e.2.2.2.2 = 1) (Q : Int32) : ∃ o', pc_O o' (fu O x ((O x).eraseIdx j))
    ∧ ∀ (p : TP) (k : TK) (r : TR) (l s : TL) (h : TA) (w : TW) (post : St1 → Prop), post (XS p k r l s o' h w) → wpX_answerPacket post (XS p k r l s o h w) (nI x) 2 (nI i) Q := by
  obtain ⟨j16, i1000, hX⟩ := pq_fe1 HO hx nd he hi
  obtain ⟨o', a1, a2⟩ := pq_del HO hx (ls_lt he)
  have h5 := (HO.1 x hx).2.2.2 j e he
  have g2 : o.2.2.1 (x * 16 + j) = nI e.2.1 := congrArg (fun t : T5 => t.2.1) h5
  have g5 : o.2.2.2.2.2 (x * 16 + j) = nI e.2.2.2.2 := congrArg (fun t : T5 => t.2.2.2.2) h5
  have ix : vp_in (nI (x * 16 + j)) 128 := vp_in_nI (by omega) (by omega)
  have cX : (nI (x * 16 + j)).toNatClampNeg = x * 16 + j := nI_clamp (by omega)
  exact ⟨o', a1, fun p k r l s h w post hp => px_a2 (hX p k r l s h w _ (br_f (nI_pos (by omega)) ⟨ix, br_t (by rw [cX, g2, hq]; rfl) ⟨ix, br_t (by rw [cX, g5, hs]; rfl) (a2 p k r l s h w _ hp)⟩⟩))⟩
theorem pq_k5 {o : TO} {O : Nat → List N5} (HO : pc_O o O) {x i j : Nat} {e : N5} (hx : x < 8) (nd : ndk (O x)) (he : (O x)[j]? = some e) (hi : e.2.2.1 = i) (hs : e.2.2.2.2 = 2) (Q : Int32) : ∃ o', pc_O o' (fu O x ((O x).eraseIdx j))
    ∧ ∀ (p : TP) (k : TK) (r : TR) (l s : TL) (h : TA) (w : TW) (post : St1 → Prop), post (XS p k r l s o' h w) → wpX_answerPacket post (XS p k r l s o h w) (nI x) 5 (nI i) Q := by
  obtain ⟨j16, i1000, hX⟩ := pq_fe1 HO hx nd he hi
  obtain ⟨o', a1, a2⟩ := pq_del HO hx (ls_lt he)
  have h5 := (HO.1 x hx).2.2.2 j e he
  have g5 : o.2.2.2.2.2 (x * 16 + j) = nI e.2.2.2.2 := congrArg (fun t : T5 => t.2.2.2.2) h5
  have ix : vp_in (nI (x * 16 + j)) 128 := vp_in_nI (by omega) (by omega)
  have cX : (nI (x * 16 + j)).toNatClampNeg = x * 16 + j := nI_clamp (by omega)
  exact ⟨o', a1, fun p k r l s h w post hp => px_a5 (hX p k r l s h w _ (br_f (nI_pos (by omega)) ⟨ix, br_t (by rw [cX, g5, hs]; rfl) (a2 p k r l s h w _ hp)⟩))⟩
theorem pq_k3 {o : TO} {O W : Nat → List N5} {w : TW} (HO : pc_O o O) (HW : pc_W w W) {x i j : Nat} {e : N5} (hx : x < 8) (nd : ndk (O x)) (he : (O x)[j]? = some e) (hi : e.2.2.1 = i) (hq : e.2.1 = 2) (hs : e.2.2.2.2 = 1) (hl : (W x).length < 32) (Q : Int32) : ∃ o' w', pc_O o' (fu O x ((O x).set j (e.1, e.2.1, e.2.2.1, e.2.2.2.1, 2))) ∧ pc_W w' (fu W x (W x ++ [(4, i, 0, 0, 0)]))
    ∧ ∀ (p : TP) (k : TK) (r : TR) (l s : TL) (h : TA) (post : St1 → Prop), post (XS p k r l s o' h w') → wpX_answerPacket post (XS p k r l s o h w) (nI x) 3 (nI i) Q := by
  obtain ⟨j16, i1000, hX⟩ := pq_fe1 HO hx nd he hi
  have hok := (HO.1 x hx).2.1 e (ls_mem he)
  have a1 := pq_mod HO hx he
  obtain ⟨w', b1, b2⟩ := pq_reply HW hx hl (K := 4) (i := i) (by omega) (by omega) (by rw [← hi]; exact hok.2.2.2.2.1) (by rw [← hi]; exact hok.2.2.2.2.2.1)
  have h5 := (HO.1 x hx).2.2.2 j e he
  have g2 : o.2.2.1 (x * 16 + j) = nI e.2.1 := congrArg (fun t : T5 => t.2.1) h5
  have g5 : o.2.2.2.2.2 (x * 16 + j) = nI e.2.2.2.2 := congrArg (fun t : T5 => t.2.2.2.2) h5
  have ix : vp_in (nI (x * 16 + j)) 128 := vp_in_nI (by omega) (by omega)
  have cX : (nI (x * 16 + j)).toNatClampNeg = x * 16 + j := nI_clamp (by omega)
  exact ⟨_, w', a1, b1, fun p k r l s h post hp => px_a3 (hX p k r l s h w _ (br_f (nI_pos (by omega)) ⟨ix, br_t (by rw [cX, g2, hq]; rfl) ⟨ix, br_t (by rw [cX, g5, hs]; rfl) ⟨ix, nm_r (by rw [cX]) (b2 p k r l s (o.1, o.2.1, o.2.2.1, o.2.2.2.1, o.2.2.2.2.1, upd o.2.2.2.2.2 (x * 16 + j) 2) h _ hp)⟩⟩⟩))⟩
theorem pq_k4 {h : TA} {H : Nat → Nat → Bool} {W : Nat → List N5} {w : TW} (HH : pc_H h H) (HW : pc_W w W) {x i : Nat} (hx : x < 8) (h1 : 1 ≤ i) (h2 : i ≤ 16) (hl : (W x).length < 32) (Q : Int32) : ∃ h' w', pc_H h' (fu H x (fu (H x) i false)) ∧ pc_W w' (fu W x (W x ++ [(5, i, 0, 0, 0)]))
    ∧ ∀ (p : TP) (k : TK) (r : TR) (l s : TL) (o : TO) (post : St1 → Prop), post (XS p k r l s o h' w') → wpX_answerPacket post (XS p k r l s o h w) (nI x) 4 (nI i) Q := by
  obtain ⟨w', b1, b2⟩ := pq_reply HW hx hl (K := 5) (i := i) (by omega) (by omega) h1 h2
  have eX : nI x * 17 + nI i = nI (x * 17 + i) := by rw [pn_m17, nI_add]
  have ix : vp_in (nI x * 17 + nI i) 136 := by rw [eX]; exact vp_in_nI (by omega) (by omega)
  exact ⟨_, w', pc_H_u HH (b := false) hx h1 h2, b1, fun p k r l s o post hp => br_f (by decide) (br_f (by decide) (br_f (by decide) (br_f (by decide) (br_f (by decide) (br_t rfl ⟨ix, nm_r (e' := upd h (x * 17 + i) (bI false)) (pn_u eX (by omega) rfl) (b2 p k r l s o _ _ hp)⟩)))))⟩
/-! what is answered to a publication -/
theorem pq_ap0 {p : TP} {k : TK} {r : TR} {l s : TL} {o : TO} {h : TA} {w : TW} {x : Nat} {I : Int32} {post : St1 → Prop} (hp : post (XS p k r l s o h w)) : wpX_answerPacket post (XS p k r l s o h w) (nI x) 1 I (nI 0) := br_f (by decide) (br_f (by decide) (br_t rfl (br_f (by decide) (br_f (by decide) hp))))
theorem pq_ap1 {W : Nat → List N5} {w : TW} (HW : pc_W w W) {x i : Nat} (hx : x < 8) (h1 : 1 ≤ i) (h2 : i ≤ 16) (hl : (W x).length < 32) : ∃ w', pc_W w' (fu W x (W x ++ [(2, i, 0, 0, 0)]))
    ∧ ∀ (p : TP) (k : TK) (r : TR) (l s : TL) (o : TO) (h : TA) (post : St1 → Prop), post (XS p k r l s o h w') → wpX_answerPacket post (XS p k r l s o h w) (nI x) 1 (nI i) (nI 1) := by
  obtain ⟨w', b1, b2⟩ := pq_reply HW hx hl (K := 2) (i := i) (by omega) (by omega) h1 h2
  exact ⟨w', b1, fun p k r l s o h post hp => br_f (by decide) (br_f (by decide) (br_t rfl (br_t rfl (b2 p k r l s o h _ hp))))⟩
theorem pq_ap2 {h : TA} {H : Nat → Nat → Bool} {W : Nat → List N5} {w : TW} (HH : pc_H h H) (HW : pc_W w W) {x i : Nat} (hx : x < 8) (h1 : 1 ≤ i) (h2 : i ≤ 16) (hl : (W x).length < 32) : ∃ h' w', pc_H h' (fu H x (fu (H x) i true)) ∧ pc_W w' (fu W x (W x ++ [(3, i, 0, 0, 0)]))
    ∧ ∀ (p : TP) (k : TK) (r : TR) (l s : TL) (o : TO) (post : St1 → Prop), post (XS p k r l s o h' w') → wpX_answerPacket post (XS p k r l s o h w) (nI x) 1 (nI i) (nI 2) := by
  obtain ⟨w', b1, b2⟩ := pq_reply HW hx hl (K := 3) (i := i) (by omega) (by omega) h1 h2
  have eX : nI x * 17 + nI i = nI (x * 17 + i) := by rw [pn_m17, nI_add]
  have ix : vp_in (nI x * 17 + nI i) 136 := by rw [eX]; exact vp_in_nI (by omega) (by omega)
  exact ⟨_, w', pc_H_u HH (b := true) hx h1 h2, b1, fun p k r l s o post hp => br_f (by decide) (br_f (by decide) (br_t rfl (br_f (by decide) (br_t rfl ⟨ix, nm_r (e' := upd h (x * 17 + i) (bI true)) (pn_u eX (by omega) rfl) (b2 p k r l s o _ _ hp)⟩))))⟩
/-! links -/
theorem px_li1 {p : TP} {k : TK} {r : TR} {l s : TL} {o : TO} {h : TA} {w : TW} {up se pe : Nat → Bool} (HL : pc_L l up se pe) {c : Nat} (hc : c < 4) (hl : up c = true) {post : Int32 → Prop} (hp : post 1) : wpX_isLinked post (XS p k r l s o h w) (nI c) := by
  have cc : (nI c).toNatClampNeg = c := nI_clamp (by omega)
  exact br_f (nI_pos (by omega)) (br_f (nI_ge (b := 4) hc (by omega)) (br_f (by decide) ⟨vp_in_nI hc (by omega), br_f (by rw [cc, (HL c hc).1, hl]; decide) hp⟩))
theorem px_li0 {p : TP} {k : TK} {r : TR} {l s : TL} {o : TO} {h : TA} {w : TW} {up se pe : Nat → Bool} (HL : pc_L l up se pe) {c : Nat} (hc : c < 4) (hl : up c = false) {post : Int32 → Prop} (hp : post 0) : wpX_isLinked post (XS p k r l s o h w) (nI c) := by
  have cc : (nI c).toNatClampNeg = c := nI_clamp (by omega)
  exact br_f (nI_pos (by omega)) (br_f (nI_ge (b := 4) hc (by omega)) (br_f (by decide) ⟨vp_in_nI hc (by omega), br_t (by rw [cc, (HL c hc).1, hl]; rfl) hp⟩))
theorem px_tk {p : TP} {k : TK} {r : TR} {l s : TL} {o : TO} {h : TA} {w : TW} {H : Nat → Nat → Bool} (HH : pc_H h H) {x i : Nat} {K Q : Int32} (hx : x < 8) (h1 : 1 ≤ i ∨ ¬ Q = 2) (hi : i ≤ 16) {post : Int32 → Prop} (h0 : (¬ K = 1 ∨ (Q = 2 ∧ H x i = true)) → post 0) (h2 : K = 1 → (Q = 2 → H x i = false) → post 1) : wpX_isTaken post (XS p k r l s o h w) (nI x) K (nI i) Q := by
  have eX : nI x * 17 + nI i = nI (x * 17 + i) := by rw [pn_m17, nI_add]
  have ix : vp_in (nI x * 17 + nI i) 136 := by rw [eX]; exact vp_in_nI (by omega) (by omega)
  have cx : (nI x * 17 + nI i).toNatClampNeg = x * 17 + i := by rw [eX]; exact nI_clamp (by omega)
  refine br_c (fun a => br_c (fun b => ⟨ix, ?_⟩) fun b => h2 a (fun z => absurd z b)) fun a => h0 (Or.inl a)
  have hv := HH x i hx (h1.resolve_right (fun z => z b)) hi
  rw [← cx] at hv
  cases hb : H x i with
  | false =>
    rw [hb] at hv
    exact br_t hv (h2 a (fun _ => hb))
  | true =>
    rw [hb] at hv
    exact br_f (by rw [hv]; decide) (h0 (Or.inr ⟨b, hb⟩))
end Q9
