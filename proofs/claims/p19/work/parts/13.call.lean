section Q13
theorem pc_L_up {l : TL} {up se pe : Nat → Bool} (HL : pc_L l up se pe) {c : Nat} (b : Bool) : pc_L (upd l.1 c 1, upd l.2.1 c 1, upd l.2.2 c (bI b)) (fu up c true) (fu se c true) (fu pe c b) := by
  intro c' hc'
  obtain ⟨a1, a2, a3⟩ := HL c' hc'
  show upd l.1 c 1 c' = _ ∧ upd l.2.1 c 1 c' = _ ∧ upd l.2.2 c (bI b) c' = _
  by_cases e : c' = c
  · rw [e, pk_us, pk_us, pk_us, fu_s, fu_s, fu_s]
    exact ⟨rfl, rfl, rfl⟩
  · rw [pk_un e, pk_un e, pk_un e, fu_n e, fu_n e, fu_n e]
    exact ⟨a1, a2, a3⟩
theorem pc_L_down {l : TL} {up se pe : Nat → Bool} (HL : pc_L l up se pe) {c : Nat} : pc_L (upd l.1 c 0, l.2) (fu up c false) se pe := by
  intro c' hc'
  obtain ⟨a1, a2, a3⟩ := HL c' hc'
  refine ⟨?_, a2, a3⟩
  show upd l.1 c 0 c' = _
  by_cases e : c' = c
  · rw [e, pk_us, fu_s]; rfl
  · rw [pk_un e, fu_n e]; exact a1
theorem pc_W_clr {w : TW} {W : Nat → List N5} (HW : pc_W w W) {c : Nat} (hc : c < 4) : pc_W (w.1, upd (upd w.2.1 c 0) (4 + c) 0, w.2.2) (fu (fu W c []) (4 + c) []) := by
  refine ⟨fun x hx => ?_, HW.2⟩
  obtain ⟨a1, a2, d, hd, hw, ha, hb⟩ := HW.1 x hx
  by_cases e : x = 4 + c
  · subst e
    rw [fu_s]
    exact ⟨by decide, fun t ht => absurd ht (by simp), d, hd, hw, pk_us, fun j t ht => absurd ht (by simp)⟩
  · by_cases e2 : x = c
    · subst e2
      rw [fu_n e, fu_s]
      exact ⟨by decide, fun t ht => absurd ht (by simp), d, hd, hw, (pk_un e).trans pk_us, fun j t ht => absurd ht (by simp)⟩
    · rw [fu_n e, fu_n e2]
      exact ⟨a1, a2, d, hd, hw, ((pk_un e).trans (pk_un e2)).trans ha, hb⟩
theorem px_conn_no {p : TP} {k : TK} {r : TR} {l s : TL} {o : TO} {h : TA} {w : TW} {c : Nat} {B : Int32} {up se pe : Nat → Bool} (HL : pc_L l up se pe) (hc : c < 4) (hu : up c = true) {post : Int32 → St1 → Prop} (hp : post (-2) (XS p k r l s o h w)) : wpX_connect post (XS p k r l s o h w) (nI c) B := by
  have cc : (nI c).toNatClampNeg = c := nI_clamp (by omega)
  unfold wpX_connect
  exact px_cl hc (br_f (by decide) ⟨vp_in_nI hc (by omega), br_f (by rw [cc, (HL c hc).1, hu]; decide) hp⟩)
theorem px_conn_new {p : TP} {k : TK} {r : TR} {l s : TL} {o : TO} {h : TA} {w : TW} {c : Nat} {B : Int32} {up se pe : Nat → Bool} (HL : pc_L l up se pe) (hc : c < 4) (hu : up c = false) (hB : ¬ B = 0 ∨ pe c = false) {post : Int32 → St1 → Prop}
    (hp : post 0 (XS p k r (upd l.1 c 1, upd (upd l.2.1 c 0) c 1, upd (upd l.2.2 c 0) c (bI (decide (B = 0)))) (upd s.1 c 0, s.2) (upd (upd o.1 c 0) (4 + c) 0, o.2) (ps_zr (ps_zr h (c * 17 + 1) (c * 17 + 17)) ((4 + c) * 17 + 1) ((4 + c) * 17 + 17)) w)) : wpX_connect post (XS p k r l s o h w) (nI c) B := by
  have cc : (nI c).toNatClampNeg = c := nI_clamp (by omega)
  have i4 : vp_in (nI c) 4 := vp_in_nI hc (by omega)
  have hl : l.1 (nI c).toNatClampNeg = 0 := by rw [cc, (HL c hc).1, hu]; rfl
  have h39 : wX_connect_39 post (nI c) B 0 p.1 r.1 p.2.1 p.2.2.1 p.2.2.2.1 p.2.2.2.2 k.1 k.2.1 k.2.2.1 k.2.2.2 r.2.1 r.2.2 l.1 l.2.1 l.2.2 s.1 s.2.1 s.2.2 o.1 o.2.1 o.2.2.1 o.2.2.2.1 o.2.2.2.2.1 o.2.2.2.2.2 h w.1 w.2.1 w.2.2.1 w.2.2.2.1 w.2.2.2.2.1 w.2.2.2.2.2.1 w.2.2.2.2.2.2 := by
    refine br_t rfl (px_dis (p := p) (k := k) (r := r) (l := l) (s := s) (o := o) (h := h) (w := w) hc ?_)
    by_cases h0 : B = 0
    · have hd : bI (decide (B = 0)) = 1 := by rw [decide_eq_true h0]; rfl
      rw [hd] at hp
      exact ⟨i4, nm_r (by rw [cc]) ⟨i4, nm_r (by rw [cc]) (br_t h0 ⟨i4, nm_r (by rw [cc, pn_b (Or.inr rfl)]) (br_t rfl hp)⟩)⟩⟩
    · have hd : bI (decide (B = 0)) = 0 := by rw [decide_eq_false h0]; rfl
      rw [hd] at hp
      exact ⟨i4, nm_r (by rw [cc]) ⟨i4, nm_r (by rw [cc]) (br_f h0 ⟨i4, nm_r (by rw [cc, pn_b (Or.inl rfl)]) (br_t rfl hp)⟩)⟩⟩
  unfold wpX_connect
  refine px_cl hc (br_f (by decide) ⟨i4, br_t hl (br_c (fun h0 => ⟨i4, ?_⟩) fun _ => h39)⟩)
  have hpe : pe c = false := hB.resolve_left (fun z => z h0)
  exact br_t (by rw [cc, (HL c hc).2.2, hpe]; rfl) h39
theorem pq_conn_res {l : TL} {o : TO} {w : TW} {up se pe : Nat → Bool} {O W : Nat → List N5} (HL : pc_L l up se pe) (HO : pc_O o O) (HW : pc_W w W) {c : Nat} {B : Int32} (hc : c < 4) (hu : up c = false) (hB : B = 0) (hpe : pe c = true) (hl1 : (W c).length + (O c).length ≤ 32) (hl2 : (W (4 + c)).length + (O (4 + c)).length ≤ 32) : ∃ w', pc_W w' (fu (fu W c (W c ++ (O c).map rsn)) (4 + c) (W (4 + c) ++ (O (4 + c)).map rsn))
    ∧ ∀ (p : TP) (k : TK) (r : TR) (s : TL) (h : TA) (post : Int32 → St1 → Prop), post 1 (XS p k r (upd l.1 c 1, upd l.2.1 c 1, upd l.2.2 c (bI true)) s o h w') → wpX_connect post (XS p k r l s o h w) (nI c) B := by
  have cc : (nI c).toNatClampNeg = c := nI_clamp (by omega)
  have i4 : vp_in (nI c) 4 := vp_in_nI hc (by omega)
  have hl : l.1 (nI c).toNatClampNeg = 0 := by rw [cc, (HL c hc).1, hu]; rfl
  have hp' : ¬ l.2.2 (nI c).toNatClampNeg = 0 := by rw [cc, (HL c hc).2.2, hpe]; decide
  obtain ⟨w1, b1, b2⟩ := pq_rs HO HW (x := c) (by omega) hl1
  obtain ⟨w2, c1, c2⟩ := pq_rs HO b1 (x := 4 + c) (by omega) (by rw [fu_n (by omega)]; exact hl2)
  rw [fu_n (show 4 + c ≠ c by omega)] at c1
  refine ⟨w2, c1, fun p k r s h post hp => ?_⟩
  unfold wpX_connect
  refine px_cl hc (br_f (by decide) ⟨i4, br_t hl (br_t hB ⟨i4, br_f hp' (br_f (by decide) ⟨i4, nm_r (by rw [cc]) ⟨i4, nm_r (by rw [cc]) (br_t hB ⟨i4, nm_r (by rw [cc, pn_b (Or.inr rfl)]) (br_f (by decide) (b2 p k r (upd l.1 c 1, upd l.2.1 c 1, upd l.2.2 c 1) s h _ ?_))⟩)⟩⟩)⟩)⟩)
  show wpX_resend _ (XS p k r (upd l.1 c 1, upd l.2.1 c 1, upd l.2.2 c 1) s o h w1) (4 + nI c)
  rw [pn_4a]
  exact c2 p k r (upd l.1 c 1, upd l.2.1 c 1, upd l.2.2 c 1) s h _ hp
theorem px_disc_no {p : TP} {k : TK} {r : TR} {l s : TL} {o : TO} {h : TA} {w : TW} {c : Nat} {up se pe : Nat → Bool} (HL : pc_L l up se pe) (hc : c < 4) (hu : up c = false) {post : Int32 → St1 → Prop} (hp : post 0 (XS p k r l s o h w)) : wpX_disconnect post (XS p k r l s o h w) (nI c) := by
  unfold wpX_disconnect
  exact px_li0 (p := p) (k := k) (r := r) (l := l) (s := s) (o := o) (h := h) (w := w) HL hc hu (br_t rfl hp)
theorem px_disc_p {p : TP} {k : TK} {r : TR} {l s : TL} {o : TO} {h : TA} {w : TW} {c : Nat} {up se pe : Nat → Bool} (HL : pc_L l up se pe) (hc : c < 4) (hu : up c = true) (hpe : pe c = true) {post : Int32 → St1 → Prop} (hp : post 1 (XS p k r (upd l.1 c 0, l.2) s o h (w.1, upd (upd w.2.1 c 0) (4 + c) 0, w.2.2))) : wpX_disconnect post (XS p k r l s o h w) (nI c) := by
  have cc : (nI c).toNatClampNeg = c := nI_clamp (by omega)
  have c4 : (4 + nI c).toNatClampNeg = 4 + c := by rw [pn_4a]; exact nI_clamp (by omega)
  have i4 : vp_in (nI c) 4 := vp_in_nI hc (by omega)
  unfold wpX_disconnect
  exact px_li1 (p := p) (k := k) (r := r) (l := l) (s := s) (o := o) (h := h) (w := w) HL hc hu (br_f (by decide) ⟨i4, nm_r (e' := upd l.1 c 0) (by rw [cc]) ⟨vp_in_nI (by omega) (by omega), nm_r (e' := upd w.2.1 c 0) (by rw [cc]) ⟨by rw [pn_4a]; exact vp_in_nI (by omega) (by omega), nm_r (e' := upd (upd w.2.1 c 0) (4 + c) 0) (by rw [c4]) ⟨i4, br_f (by rw [cc, (HL c hc).2.2, hpe]; decide) hp⟩⟩⟩⟩)
theorem px_disc_c {p : TP} {k : TK} {r : TR} {l s : TL} {o : TO} {h : TA} {w : TW} {c : Nat} {up se pe : Nat → Bool} (HL : pc_L l up se pe) (hc : c < 4) (hu : up c = true) (hpe : pe c = false) {post : Int32 → St1 → Prop} (hp : post 1 (XS p k r (upd l.1 c 0, upd l.2.1 c 0, upd l.2.2 c 0) (upd s.1 c 0, s.2) (upd (upd o.1 c 0) (4 + c) 0, o.2) (ps_zr (ps_zr h (c * 17 + 1) (c * 17 + 17)) ((4 + c) * 17 + 1) ((4 + c) * 17 + 17)) (w.1, upd (upd w.2.1 c 0) (4 + c) 0, w.2.2))) : wpX_disconnect post (XS p k r l s o h w) (nI c) := by
  have cc : (nI c).toNatClampNeg = c := nI_clamp (by omega)
  have c4 : (4 + nI c).toNatClampNeg = 4 + c := by rw [pn_4a]; exact nI_clamp (by omega)
  have i4 : vp_in (nI c) 4 := vp_in_nI hc (by omega)
  unfold wpX_disconnect
  exact px_li1 (p := p) (k := k) (r := r) (l := l) (s := s) (o := o) (h := h) (w := w) HL hc hu (br_f (by decide) ⟨i4, nm_r (e' := upd l.1 c 0) (by rw [cc]) ⟨vp_in_nI (by omega) (by omega), nm_r (e' := upd w.2.1 c 0) (by rw [cc]) ⟨by rw [pn_4a]; exact vp_in_nI (by omega) (by omega), nm_r (e' := upd (upd w.2.1 c 0) (4 + c) 0) (by rw [c4]) ⟨i4, br_t (by rw [cc, (HL c hc).2.2, hpe]; rfl) (px_dis (p := p) (k := k) (r := r) (l := (upd l.1 c 0, l.2)) (s := s) (o := o) (h := h) (w := (w.1, upd (upd w.2.1 c 0) (4 + c) 0, w.2.2)) hc hp)⟩⟩⟩⟩)
/-! unsubscribe -/
theorem pq_uns {l s : TL} {up se pe : Nat → Bool} {S : Nat → List (Int32 × Nat)} (HL : pc_L l up se pe) (HS : pc_S s S) {c : Nat} (hc : c < 4) (F : Int32) : ∃ (s' : TL) (L' : List (Int32 × Nat)) (R : Int32), pc_S s' (fu S c L') ∧ (∀ f, f ∈ L' → f ∈ S c)
    ∧ ∀ (p : TP) (k : TK) (r : TR) (o : TO) (h : TA) (w : TW) (post : Int32 → St1 → Prop), post R (XS p k r l s' o h w) → wpX_unsubscribe post (XS p k r l s o h w) (nI c) F := by
  have cc : (nI c).toNatClampNeg = c := nI_clamp (by omega)
  have i4 : vp_in (nI c) 4 := vp_in_nI hc (by omega)
  have S0 : pc_S s (fu S c (S c)) := by rw [fu_id]; exact HS
  cases hu : up c with
  | false =>
    refine ⟨s, S c, 0, S0, fun f hf => hf, fun p k r o h w post hp => ?_⟩
    unfold wpX_unsubscribe
    exact px_li0 (p := p) (k := k) (r := r) (l := l) (s := s) (o := o) (h := h) (w := w) HL hc hu (br_t rfl hp)
  | true =>
    obtain ⟨R, fX, hR⟩ := pq_fs HS hc F
    rcases hR with ⟨rfl, _⟩ | ⟨j, f, rfl, hj4, hf, _⟩
    · refine ⟨s, S c, 0, S0, fun f hf => hf, fun p k r o h w post hp => ?_⟩
      unfold wpX_unsubscribe
      exact px_li1 (p := p) (k := k) (r := r) (l := l) (s := s) (o := o) (h := h) (w := w) HL hc hu (br_f (by decide) (fX p k r l o h w _ (br_f (by decide) hp)))
    · obtain ⟨a1, a2, a3, a4⟩ := HS c hc
      have hjl := ls_lt hf
      obtain ⟨n, hn⟩ : ∃ n, (S c).length = n + 1 := ⟨(S c).length - 1, by omega⟩
      rw [hn] at a3
      refine ⟨(upd s.1 c (nI n), ps_sh s.2.1 (c * 4 + j) (c * 4 + n), ps_sh s.2.2 (c * 4 + j) (c * 4 + n)), (S c).eraseIdx j, 1, fun c' hc' => ?_, fun g hg => List.mem_of_mem_eraseIdx hg, fun p k r o h w post hp => ?_⟩
      · by_cases e : c' = c
        · subst e
          have hlen : ((S c').eraseIdx j).length = n := by
            rw [List.length_eraseIdx_of_lt hjl, hn]
            rfl
          rw [fu_s]
          refine ⟨by omega, fun g hg => a2 g (List.mem_of_mem_eraseIdx hg), by rw [hlen]; exact pk_us, fun i g hi => ?_⟩
          have hi' := ls_lt hi
          rw [hlen] at hi'
          rw [List.getElem?_eraseIdx] at hi
          show ps_sh s.2.1 (c' * 4 + j) (c' * 4 + n) (c' * 4 + i) = _ ∧ ps_sh s.2.2 (c' * 4 + j) (c' * 4 + n) (c' * 4 + i) = _
          by_cases hlt : i < j
          · rw [if_pos hlt] at hi
            rw [ps_sh_lo (by omega), ps_sh_lo (by omega)]
            exact a4 i g hi
          · rw [if_neg hlt] at hi
            rw [ps_sh_in (by omega) (by omega), ps_sh_in (by omega) (by omega)]
            exact a4 (i + 1) g hi
        · rw [fu_n e]
          obtain ⟨b1, b2, b3, b4⟩ := HS c' hc'
          refine ⟨b1, b2, (pk_un e).trans b3, fun i g hi => ?_⟩
          have := ls_lt hi
          show ps_sh s.2.1 (c * 4 + j) (c * 4 + n) (c' * 4 + i) = _ ∧ ps_sh s.2.2 (c * 4 + j) (c * 4 + n) (c' * 4 + i) = _
          have h1 : ps_sh s.2.1 (c * 4 + j) (c * 4 + n) (c' * 4 + i) = s.2.1 (c' * 4 + i) := if_neg (by omega)
          have h2 : ps_sh s.2.2 (c * 4 + j) (c * 4 + n) (c' * 4 + i) = s.2.2 (c' * 4 + i) := if_neg (by omega)
          rw [h1, h2]
          exact b4 i g hi
      · have hX : ∀ d i, j ≤ i → i + d = n → wX_unsubscribe_40 post (nI c) (nI (c * 4 + n)) p.1 r.1 (d + 1) (nI (c * 4 + i)) p.2.1 p.2.2.1 p.2.2.2.1 p.2.2.2.2 k.1 k.2.1 k.2.2.1 k.2.2.2 r.2.1 r.2.2 l.1 l.2.1 l.2.2 s.1 (ps_sh s.2.1 (c * 4 + j) (c * 4 + i)) (ps_sh s.2.2 (c * 4 + j) (c * 4 + i)) o.1 o.2.1 o.2.2.1 o.2.2.2.1 o.2.2.2.2.1 o.2.2.2.2.2 h w.1 w.2.1 w.2.2.1 w.2.2.2.1 w.2.2.2.2.1 w.2.2.2.2.2.1 w.2.2.2.2.2.2 := by
          intro d
          induction d with
          | zero =>
            intro i h1 hi
            obtain rfl : i = n := by omega
            exact br_t (nI_le (by omega) (by omega)) ⟨i4, i4, nm_r (e' := upd s.1 c (nI i)) (by rw [cc, a3, nI_pred]) hp⟩
          | succ d ih =>
            intro i h1 hi
            have a0 : vp_in (nI (c * 4 + i)) 16 := vp_in_nI (by omega) (by omega)
            have a1 : vp_in (nI (c * 4 + i) + 1) 16 := by rw [nI_1]; exact vp_in_nI (by omega) (by omega)
            exact br_f (nI_ge (by omega) (by omega)) ⟨a1, a0, nm_r (pn_sh rfl (nI_1 _) (by omega) (by omega)) ⟨a1, a0, nm_r (pn_sh rfl (nI_1 _) (by omega) (by omega)) (nm_r (nI_1 _) (ih (i + 1) (by omega) (by omega)))⟩⟩
        have hX0 := hX (n - j) j (Nat.le_refl j) (by omega)
        rw [ps_sh0 (Nat.le_refl _), ps_sh0 (Nat.le_refl _)] at hX0
        unfold wpX_unsubscribe
        exact px_li1 (p := p) (k := k) (r := r) (l := l) (s := s) (o := o) (h := h) (w := w) HL hc hu (br_f (by decide) (fX p k r l o h w _ (br_t (nI_pos' (by omega)) ⟨i4, nm_r (e' := nI (c * 4 + n)) (by rw [cc, a3, pn_m4, nI_add, ← Nat.add_assoc, nI_pred]) ⟨n - j + 1, hX0⟩⟩)))
end Q13
