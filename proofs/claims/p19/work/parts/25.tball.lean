section Q25
theorem ql_tb {u : St1} {O W : Nat → List N5} {H : Nat → Nat → Bool} {up se pe : Nat → Bool} {S : Nat → List (Int32 × Nat)} {rc : Nat → Nat → Nat} {ac ov : Nat → Nat} {n : Nat} {tp : Nat → Int32} {qu : Nat → Nat} {am : Nat → Nat → Bool} {nq : Nat → Bool} (P : PIC u O W H up se pe S rc ac ov n tp qu) (I : PINV O W H up pe S rc ac n qu am nq) {c : Nat} (hc : c < 4) (hl : ∀ d, d < 4 → (W (4 + d)).length ≤ 30) :
    ∃ (u' : St1) (O2 W2 : Nat → List N5) (H2 : Nat → Nat → Bool) (ac2 ov2 : Nat → Nat) (R : Int32), PIC u' O2 W2 H2 up se pe S rc ac2 ov2 n tp qu ∧ PINV O2 W2 H2 up pe S rc ac2 n qu am nq ∧ MVB c W W2 ∧ ARM S tp qu ac ac2 ov ov2 O2 W2 H2 rc ∧ (∀ s, ac s ≤ ac2 s ∧ ac2 s ≤ ac s + 1) ∧ (∀ d, d < 4 → ov d ≤ ov2 d ∧ ov2 d ≤ ov d + 1 ∧ ((O (4 + d)).length < 16 → ov2 d = ov d)) ∧ ∀ post : Int32 → St1 → Prop, post R u' → wpX_toBroker post u (nI c) := by
  obtain ⟨p, k, r, l, s, o, h, w, rfl, HP, HK, HR, HL, HS, HO, HH, HW⟩ := P
  have I0 := I
  obtain ⟨i1, i2, i3, i4, i5, i6, i7, i8, i9, i10, i11, i12, i13⟩ := I
  have sameA : ∀ s, ac s ≤ ac s ∧ ac s ≤ ac s + 1 := fun _ => ⟨Nat.le_refl _, by omega⟩
  have sameV : ∀ d, d < 4 → ov d ≤ ov d ∧ ov d ≤ ov d + 1 ∧ ((O (4 + d)).length < 16 → ov d = ov d) := fun _ _ => ⟨Nat.le_refl _, by omega, fun _ => rfl⟩
  cases hu : up c with
  | false => exact ⟨_, O, W, H, ac, ov, 0, ⟨p, k, r, l, s, o, h, w, rfl, HP, HK, HR, HL, HS, HO, HH, HW⟩, I0, MVB_0 (i3 c hc hu).1, ARM_0, sameA, sameV, fun post hp => px_tb_d HL hc hu hp⟩
  | true =>
    cases hW : W c with
    | nil => exact ⟨_, O, W, H, ac, ov, 0, ⟨p, k, r, l, s, o, h, w, rfl, HP, HK, HR, HL, HS, HO, HH, HW⟩, I0, MVB_0 hW, ARM_0, sameA, sameV, fun post hp => px_tb_e HL HW hc hu hW hp⟩
    | cons t L =>
      obtain ⟨w', d, HW', hok, hd, hwt, hold, hrem⟩ := pq_pop HW (x := c) (by omega) hW
      have hne : W c ≠ [] := by rw [hW]; exact List.cons_ne_nil t L
      obtain ⟨K, i, sn, q, m⟩ := t
      have hok0 := hok
      obtain ⟨k1', k5', i16, hser, _, q2, m1, hid, hid2⟩ := hok0
      have k1' : 1 ≤ K := k1'
      have k5' : K ≤ 5 := k5'
      have i16 : i ≤ 16 := i16
      have q2 : q ≤ 2 := q2
      have T1 := i1 c hc
      rw [hW] at T1
      have T2 := i2 c hc
      rw [hW] at T2
      have f4 : ∀ d, fu W c L (4 + d) = W (4 + d) := fun d => fu_n (by omega)
      have hl' : (fu W c L (4 + c)).length < 32 := by rw [f4]; have := hl c hc; omega
      have tmem : (K, i, sn, q, m) ∈ W c := by rw [hW]; exact List.mem_cons_self ..
      have wx : ∀ (V : List N5) (x : Nat), x ≠ c → x ≠ 4 + c → fu (fu W c L) (4 + c) V x = W x := fun V x h1 h2 => by rw [fu_n h2, fu_n h1]
      have wc : ∀ (V : List N5), fu (fu W c L) (4 + c) V c = L := fun V => by rw [fu_n (by omega), fu_s]
      have w4 : ∀ (V : List N5), fu (fu W c L) (4 + c) V (4 + c) = V := fun V => fu_s
      by_cases hK1 : K = 1
      · subst hK1
        obtain ⟨s1, s2⟩ := hser rfl
        have s1 : 1 ≤ sn := s1
        have s2 : sn ≤ 24 := s2
        obtain ⟨hsn, hqs⟩ := i5 c hc _ tmem rfl
        have hsn : sn ≤ n := hsn
        have hqs : q = qu sn := hqs
        have hq2 := (HP.2.2 sn s2).2.2
        obtain ⟨k2, r2, o2, w2, O', W', ov', R1, O1, W1, K1, hx, hA, aX⟩ := pq_acc HP HL HS HR HO HW' HK s1 s2 (fun d hd => by rw [f4]; have := hl d hd; omega)
        have hA' : ∀ d, d < 4 → ACD (S d) (tp sn) (qu sn) (up d) sn (O (4 + d)) (W (4 + d)) (ov d) (O' (4 + d)) (W' (4 + d)) (ov' d) := by
          intro d hd
          have := hA d hd
          rw [f4] at this
          exact this
        have x1 : W' c = L := by rw [(hx c hc).2, fu_s]
        have x2 : ∀ x, x < 4 → x ≠ c → W' x = W x := fun x h1 h2 => by rw [(hx x h1).2, fu_n h2]
        have x3 : ∀ x, x < 4 → O' x = O x := fun x h1 => (hx x h1).1
        have acs : ∀ s', s' ≠ sn → fu ac sn (ac sn + 1) s' = ac s' := fun s' h1 => fu_n h1
        have acm : ∀ s', ac s' ≤ fu ac sn (ac sn + 1) s' ∧ fu ac sn (ac sn + 1) s' ≤ ac s' + 1 := by
          intro s'
          by_cases e : s' = sn
          · rw [e, fu_s]; omega
          · rw [fu_n e]; omega
        have v1 : ∀ d B tk, d < 4 → TOK (O (4 + d)) (W (4 + d)) B (H d) (up d) tk → TOK (O' (4 + d)) (W' (4 + d)) B (H d) (up d) tk := fun d B tk hd T => ACD_TOK (hA' d hd) hq2 T
        have v2 : ∀ d E F G tk, d < 4 → TOK E F (W (4 + d)) G (up d) tk → TOK E F (W' (4 + d)) G (up d) tk := fun d E F G tk hd T => ACD_B (hA' d hd) T
        have v3 : ∀ d, d < 4 → up d = false → W' (4 + d) = W (4 + d) := by
          intro d hd hz
          have := hA' d hd
          rw [hz] at this
          exact ACD_dn this
        have v4 : ∀ d a, d < 4 → a ∈ O (4 + d) → a ∈ O' (4 + d) := fun d a hd ha => (ACD_O (hA' d hd)).1 a ha
        have v10 : ∀ d s', d < 4 → fu ac sn (ac sn + 1) s' = 0 → NS (O' (4 + d)) (W' (4 + d)) (rc d s') s' := by
          intro d s' hd ha
          have hne : s' ≠ sn := by
            intro z
            rw [z, fu_s] at ha
            omega
          rw [acs s' hne] at ha
          exact ACD_NS (hA' d hd) hne (i10 d s' hd ha)
        have v11 : (qu sn = 2 → ac sn = 0) → ∀ d s', d < 4 → qu s' = 2 → (nq d = false ∨ am d s' = true) → XO (O' (4 + d)) (W' (4 + d)) (H d) (rc d s') s' := by
          intro h0 d s' hd hq' hxx
          by_cases e : s' = sn
          · subst e
            have ha := h0 hq'
            have hn : nq d = false := by
              rcases hxx with z | z
              · exact z
              · have := (i13 d s' hd z).2.1
                omega
            have A := hA' d hd
            rw [hq'] at A
            exact ACD_XO A (fun b ⟨f, f1, _, f3⟩ _ => by rw [← f3]; exact i12 d hd hn f f1) (i10 d s' hd ha)
          · exact ACD_XOn (hA' d hd) e (i11 d s' hd hq' hxx)
        have arm : ∀ (s' d : Nat), d < 4 → ac s' = 0 → 1 ≤ fu ac sn (ac sn + 1) s' → ov' d = ov d → 1 ≤ qu s' → (∃ f, f ∈ S d ∧ ma f.1 (tp s') = true ∧ qu s' ≤ f.2) → (∃ e, e ∈ O' (4 + d) ∧ e.1 = s' ∧ e.2.2.2.1 = 0) ∧ (qu s' = 2 → XO (O' (4 + d)) (W' (4 + d)) (H d) (rc d s') s') := by
          intro s' d hd ha h1 hov hq1 hf
          have e : s' = sn := by
            apply Classical.byContradiction
            intro z
            rw [acs s' z] at h1
            omega
          subst e
          refine ⟨ACD_ent (hA' d hd) hq1 hov hf, fun hq' => ?_⟩
          have A := hA' d hd
          rw [hq'] at A hf
          obtain ⟨f, f1, f2, f3⟩ := hf
          refine ACD_XO A (fun b ⟨g, g1, g2, g3⟩ hb => ?_) (i10 d s' hd ha)
          have := hb f f1 f2
          have := (HS d hd).2.1 g g1
          omega
        have vV : ∀ d, d < 4 → (W' (4 + d)).length ≤ (W (4 + d)).length + 1 ∧ sw wd (W' (4 + d)) ≤ sw wd (W (4 + d)) + 4 := fun d hd => ⟨ACD_len (hA' d hd), ACD_sw (hA' d hd)⟩
        have ovV : ∀ d, d < 4 → ov d ≤ ov' d ∧ ov' d ≤ ov d + 1 ∧ ((O (4 + d)).length < 16 → ov' d = ov d) := by
          intro d hd
          obtain ⟨z1, z2⟩ := ACD_v (hA' d hd)
          refine ⟨z1, z2, fun hlt => ?_⟩
          rcases hA' d hd with ⟨_, _, _, z⟩ | ⟨b, _, _, _, ⟨_, _, z, _⟩ | ⟨_, z, _⟩ | ⟨_, z, _⟩⟩
          · exact z
          · exact z
          · omega
          · exact z
        have hl2 : (W' (4 + c)).length < 32 := by have := (vV c hc).1; have := hl c hc; omega
        by_cases hq0 : q = 0
        · have hi0 : i = 0 := by
            apply Classical.byContradiction
            intro hxx
            obtain ⟨_, _, _, e, _, z | z | z⟩ := TOK_look T1 (show 1 ≤ i by omega) i16 (isF_t (Or.inl rfl))
            · have := congrArg (fun t : N5 => t.2.2.2.1) z.2.2.2
              have : q = 1 := this
              omega
            · have := congrArg (fun t : N5 => t.2.2.2.1) z.2.2.2
              have : q = 2 := this
              omega
            · have := congrArg (fun t : N5 => t.1) z.2.2.2
              exact absurd this (by decide : ¬ (1 : Nat) = 4)
          subst hi0 hq0
          refine ⟨XS p k2 r2 l s o2 h w2, O', W', H, _, ov', nI 1, ⟨p, k2, r2, l, s, o2, h, w2, rfl, HP, K1, R1, HL, HS, O1, HH, W1⟩, PINV_rcvB0 (V := fun d => W' (4 + d)) I0 hc hW x1 x2 (fun d _ => rfl) x3 (fun s' => (acm s').1) acs v1 v2 v3 v4 v10 (v11 (fun z => by omega)), MVB_p (V := fun d => W' (4 + d)) (A := []) hc hW rfl x1 x2 (List.append_nil _).symm (fun d _ _ => rfl) vV (Or.inl rfl), arm, acm, ovV, fun post hp => ?_⟩
          exact px_tb HL HH HW hc hu hne hok hd hwt (hold p k r l s o h) (hrem p k r l s o h) (fun z => z.elim (fun y => absurd rfl y) (fun y => absurd y.1 (by decide : ¬ (0 : Nat) = 2))) (fun _ _ => aX h _ (pq_ap0 hp))
        · have hi1 : 1 ≤ i := (hid rfl).resolve_left hq0
          obtain ⟨_, _, _, e, he, hcase⟩ := TOK_look T1 hi1 i16 (isF_t (Or.inl rfl))
          have heO := (lk_mem he).1
          have heI := (lk_mem he).2
          have y1 : ∀ (A : List N5), fu W' (4 + c) (W' (4 + c) ++ A) c = L := fun A => by rw [fu_n (by omega)]; exact x1
          have y2 : ∀ (A : List N5) (x : Nat), x < 4 → x ≠ c → fu W' (4 + c) (W' (4 + c) ++ A) x = W x := fun A x h1 h2 => by rw [fu_n (by omega)]; exact x2 x h1 h2
          have y3 : ∀ (A : List N5) (d : Nat), d < 4 → d ≠ c → fu W' (4 + c) (W' (4 + c) ++ A) (4 + d) = W' (4 + d) := fun A d _ h2 => fu_n (by omega)
          have armR : ∀ (t : N5) (H2 : Nat → Nat → Bool), t.1 ≠ 1 → (∀ d, d < 4 → H2 d = H d) → ARM S tp qu ac (fu ac sn (ac sn + 1)) ov ov' O' (fu W' (4 + c) (W' (4 + c) ++ [t])) H2 rc := by
            intro t H2 ht hH s' d hd ha h1 hov hq1 hf
            obtain ⟨z1, z2⟩ := arm s' d hd ha h1 hov hq1 hf
            refine ⟨z1, fun hq' => ?_⟩
            rw [hH d hd]
            by_cases hdc : d = c
            · subst hdc
              rw [fu_s]
              exact XO_app (z2 hq') ht
            · rw [fu_n (by omega)]
              exact z2 hq'
          rcases hcase with ⟨c1, c2, c3, c4⟩ | ⟨c1, c2, c3, c4⟩ | ⟨c1, c2, c3, c4⟩
          · simp only [Prod.mk.injEq] at c4
            obtain ⟨_, _, e1, e2, e3⟩ := c4
            subst e2
            obtain ⟨w3, b1, b2⟩ := pq_ap1 W1 (x := 4 + c) (by omega) hi1 i16 hl2
            have hH : H (4 + c) = fu (H (4 + c)) i false := by
              have z := fu_id (H (4 + c)) i
              rw [c3] at z
              exact z.symm
            refine ⟨XS p k2 r2 l s o2 h w3, O', _, H, _, ov', nI 1, ⟨p, k2, r2, l, s, o2, h, w3, rfl, HP, K1, R1, HL, HS, O1, HH, b1⟩, PINV_rcvB (V := fun d => W' (4 + d)) I0 hc hW (y1 _) (y2 _) fu_s (y3 _) x3 (hb := false) hH (fun x _ => rfl) (Or.inl rfl) hi1 i16 (isF_t (Or.inl rfl)) he (Or.inl ⟨c1, c2, rfl, rfl, ?_⟩) (fun s' => (acm s').1) (fun s' hs' => acs s' (by rw [e1]; exact hs')) (fun z => ?_) (fun a ha hq' hst hHa => ?_) v1 v2 v3 v4 v10 (v11 (fun z => by omega)), MVB_p (V := fun d => W' (4 + d)) hc hW rfl (y1 _) (y2 _) fu_s (y3 _) vV (Or.inr ⟨_, rfl, by unfold wd; simp⟩), armR _ H (by simp) (fun _ _ => rfl), acm, ovV, fun post hp => ?_⟩
            · show 1 ≤ fu ac sn (ac sn + 1) e.1
              rw [← e1, fu_s]; omega
            · rw [← e1] at z; omega
            · have hne' : a.1 ≠ sn := by
                intro z
                have := ((i4 c hc).2 a ha).2.1
                rw [z, hq'] at this
                omega
              rw [acs a.1 hne']
              rw [← hH] at hHa
              exact i8 c hc a ha hq' hst hHa
            · exact px_tb HL HH HW hc hu hne hok hd hwt (hold p k r l s o h) (hrem p k r l s o h) (fun z => z.elim (fun y => absurd rfl y) (fun y => absurd y.1 (by decide : ¬ (1 : Nat) = 2))) (fun _ _ => aX h _ (b2 p k2 r2 l s o2 h _ hp))
          · simp only [Prod.mk.injEq] at c4
            obtain ⟨_, _, e1, e2, e3⟩ := c4
            subst e2
            cases hh : H (4 + c) i with
            | true =>
              obtain ⟨h', w3, b0, b1, b2⟩ := pq_ap2 HH HW' (x := 4 + c) (by omega) hi1 i16 hl'
              rw [f4] at b1
              have hHe : fu H (4 + c) (fu (H (4 + c)) i true) (4 + c) = H (4 + c) := by
                rw [fu_s, ← hh]; exact fu_id (H (4 + c)) i
              refine ⟨XS p k r l s o h' w3, O, _, fu H (4 + c) (fu (H (4 + c)) i true), ac, ov, nI 1, ⟨p, k, r, l, s, o, h', w3, rfl, HP, HK, HR, HL, HS, HO, b0, b1⟩, PINV_rcvB (V := fun d => W (4 + d)) I0 hc hW (wc _) (fun x h1 h2 => wx _ x h2 (by omega)) (w4 _) (fun d h1 h2 => wx _ (4 + d) (by omega) (by omega)) (fun _ _ => rfl) (hb := true) fu_s (fun x hx' => fu_n hx') (Or.inr (Or.inl rfl)) hi1 i16 (isF_t (Or.inl rfl)) he (Or.inr (Or.inl ⟨c1, c2, c3 hh, rfl, rfl⟩)) (fun _ => Nat.le_refl _) (fun _ _ => rfl) (fun z => i7 e.1 z) (fun a ha hq' hst hHa => ?_) (fun d B tk _ T => T) (fun d E F G tk _ T => T) (fun _ _ _ => rfl) (fun _ _ _ ha => ha) (fun d s' hd ha => i10 d s' hd ha) i11, MVB_a hc hW (wc _) (w4 _) (wx _) (Or.inr ⟨_, rfl, by unfold wd; simp⟩) (by unfold wd; simp), ARM_0, sameA, sameV, fun post hp => ?_⟩
              · have z : fu (H (4 + c)) i true = H (4 + c) := by rw [← hh]; exact fu_id (H (4 + c)) i
                rw [z] at hHa
                exact i8 c hc a ha hq' hst hHa
              · exact px_tb HL HH HW hc hu hne hok hd hwt (hold p k r l s o h) (hrem p k r l s o h) (fun _ => b2 p k r l s o _ hp) (fun _ y => absurd (y rfl) (by show ¬ H (4 + c) i = false; rw [hh]; decide))
            | false =>
              obtain ⟨h', w3, b0, b1, b2⟩ := pq_ap2 HH W1 (x := 4 + c) (by omega) hi1 i16 hl2
              have ha0 : ac sn = 0 := by
                have := i8 c hc e heO c1 c2 (by rw [heI]; exact hh)
                rw [e1]; exact this
              refine ⟨XS p k2 r2 l s o2 h' w3, O', _, fu H (4 + c) (fu (H (4 + c)) i true), _, ov', nI 1, ⟨p, k2, r2, l, s, o2, h', w3, rfl, HP, K1, R1, HL, HS, O1, b0, b1⟩, PINV_rcvB (V := fun d => W' (4 + d)) I0 hc hW (y1 _) (y2 _) fu_s (y3 _) x3 (hb := true) fu_s (fun x hx' => fu_n hx') (Or.inr (Or.inl rfl)) hi1 i16 (isF_t (Or.inl rfl)) he (Or.inr (Or.inl ⟨c1, c2, ?_, rfl, rfl⟩)) (fun s' => (acm s').1) (fun s' hs' => acs s' (by rw [e1]; exact hs')) (fun z => ?_) (fun a ha hq' hst hHa => ?_) v1 v2 v3 v4 v10 (v11 (fun _ => ha0)), MVB_p (V := fun d => W' (4 + d)) hc hW rfl (y1 _) (y2 _) fu_s (y3 _) vV (Or.inr ⟨_, rfl, by unfold wd; simp⟩), armR _ _ (by simp) (fun d hd => fu_n (by omega)), acm, ovV, fun post hp => ?_⟩
              · show 1 ≤ fu ac sn (ac sn + 1) e.1
                rw [← e1, fu_s]; omega
              · rw [← e1, fu_s]; omega
              · have hai : a.2.2.1 ≠ i := by
                  intro z
                  rw [z, fu_s] at hHa
                  exact absurd hHa (by decide)
                have hne' : a.1 ≠ sn := by
                  intro z
                  have := (i6 c c hc hc a e ha heO (by rw [z, e1])).2
                  rw [this] at hai
                  exact hai heI
                rw [acs a.1 hne']
                rw [fu_n hai] at hHa
                exact i8 c hc a ha hq' hst hHa
              · exact px_tb HL HH HW hc hu hne hok hd hwt (hold p k r l s o h) (hrem p k r l s o h) (fun z => z.elim (fun y => absurd rfl y) (fun y => absurd y.2 (by show ¬ H (4 + c) i = true; rw [hh]; decide))) (fun _ _ => aX h _ (b2 p k2 r2 l s o2 _ hp))
          · have := congrArg (fun t : N5 => t.1) c4
            exact absurd this (by decide : ¬ (1 : Nat) = 4)
      · have hi1 : 1 ≤ i := hid2 hK1
        have nt : ∀ post : Int32 → St1 → Prop, wpX_answerPacket (fun u => post (nI K) u) (XS p k r l s o h w') (nI (4 + c)) (nI K) (nI i) (nI q) → wpX_toBroker post (XS p k r l s o h w) (nI c) := fun post hp => px_tb HL HH HW hc hu hne hok hd hwt (hold p k r l s o h) (hrem p k r l s o h) (fun _ => hp) (fun y => absurd y hK1)
        by_cases hK4 : K = 4
        · subst hK4
          obtain ⟨_, _, _, e, he, hcase⟩ := TOK_look T1 hi1 i16 (isF_t (Or.inr rfl))
          have h3 : e.2.1 = 2 ∧ e.2.2.2.2 = 2 ∧ tkA ac e := by
            rcases hcase with ⟨_, _, _, z⟩ | ⟨_, _, _, z⟩ | ⟨a, b, g, _⟩
            · exact absurd (congrArg (fun t : N5 => t.1) z) (by decide : ¬ (4 : Nat) = 1)
            · exact absurd (congrArg (fun t : N5 => t.1) z) (by decide : ¬ (4 : Nat) = 1)
            · exact ⟨a, b, g⟩
          obtain ⟨h', w3, b0, b1, b2⟩ := pq_k4 HH HW' (x := 4 + c) (by omega) hi1 i16 hl' (nI q)
          rw [f4] at b1
          refine ⟨XS p k r l s o h' w3, O, _, fu H (4 + c) (fu (H (4 + c)) i false), ac, ov, nI 4, ⟨p, k, r, l, s, o, h', w3, rfl, HP, HK, HR, HL, HS, HO, b0, b1⟩, PINV_rcvB (V := fun d => W (4 + d)) I0 hc hW (wc _) (fun x h1 h2 => wx _ x h2 (by omega)) (w4 _) (fun d h1 h2 => wx _ (4 + d) (by omega) (by omega)) (fun _ _ => rfl) (hb := false) fu_s (fun x hx' => fu_n hx') (Or.inr (Or.inr rfl)) hi1 i16 (isF_t (Or.inr rfl)) he (Or.inr (Or.inr ⟨h3.1, h3.2.1, h3.2.2, rfl, rfl⟩)) (fun _ => Nat.le_refl _) (fun _ _ => rfl) (fun z => i7 e.1 z) (fun a ha hq' hst hHa => ?_) (fun d B tk _ T => T) (fun d E F G tk _ T => T) (fun _ _ _ => rfl) (fun _ _ _ ha => ha) (fun d s' hd ha => i10 d s' hd ha) i11, MVB_a hc hW (wc _) (w4 _) (wx _) (Or.inr ⟨_, rfl, by unfold wd; simp⟩) (by unfold wd; simp), ARM_0, sameA, sameV, fun post hp => nt post (b2 p k r l s o _ hp)⟩
          by_cases hai : a.2.2.1 = i
          · have := lk_of T1.1 ha
            rw [hai, he] at this
            rw [← Option.some.inj this] at hst
            omega
          · rw [fu_n hai] at hHa
            exact i8 c hc a ha hq' hst hHa
        · have hKb : K = 2 ∨ K = 3 ∨ K = 5 := by omega
          obtain ⟨_, _, _, e, he, htk, hcase⟩ := TOK_back T2 hi1 i16 (isB_t hKb)
          obtain ⟨j, hj, hji⟩ := lk_at he
          have z1 : fu W c L c = L := fu_s
          rcases hcase with ⟨c1, c2, c3, c4⟩ | ⟨c1, c2, c3, c4⟩ | ⟨c1, c2, c3, c4⟩
          · simp only [Prod.mk.injEq] at c4
            obtain ⟨rfl, _, rfl, rfl, rfl⟩ := c4
            obtain ⟨o', a1, a2⟩ := pq_k2 HO (x := 4 + c) (by omega) T2.1 hj hji c1 c2 (nI 0)
            refine ⟨XS p k r l s o' h w', _, fu W c L, H, ac, ov, nI 2, ⟨p, k, r, l, s, o', h, w', rfl, HP, HK, HR, HL, HS, a1, HH, HW'⟩, PINV_ackB I0 hc hW z1 (fun x h1 _ => fu_n h1) (fun x hx' => fu_n hx') hi1 i16 (isB_t (Or.inl rfl)) hj hji htk (Or.inl ⟨f4 c, fu_s, c3⟩), MVB_a (A := []) hc hW z1 (by rw [f4, List.append_nil]) (fun x h1 _ => fu_n h1) (Or.inl rfl) (by unfold wd; simp), ARM_0, sameA, sameV, fun post hp => nt post (a2 p k r l s h w' _ hp)⟩
          · simp only [Prod.mk.injEq] at c4
            obtain ⟨rfl, _, rfl, rfl, rfl⟩ := c4
            obtain ⟨o', w3, a1, b1, a2⟩ := pq_k3 HO HW' (x := 4 + c) (by omega) T2.1 hj hji c1 c2 hl' (nI 0)
            rw [f4] at b1
            refine ⟨XS p k r l s o' h w3, _, _, H, ac, ov, nI 3, ⟨p, k, r, l, s, o', h, w3, rfl, HP, HK, HR, HL, HS, a1, HH, b1⟩, PINV_ackB I0 hc hW (wc _) (wx _) (fun x hx' => fu_n hx') hi1 i16 (isB_t (Or.inr (Or.inl rfl))) hj hji htk (Or.inr ⟨w4 _, fu_s, c1⟩), MVB_a hc hW (wc _) (w4 _) (wx _) (Or.inr ⟨_, rfl, by unfold wd; simp⟩) (by unfold wd; simp), ARM_0, sameA, sameV, fun post hp => nt post (a2 p k r l s h _ hp)⟩
          · simp only [Prod.mk.injEq] at c4
            obtain ⟨rfl, _, rfl, rfl, rfl⟩ := c4
            obtain ⟨o', a1, a2⟩ := pq_k5 HO (x := 4 + c) (by omega) T2.1 hj hji c2 (nI 0)
            refine ⟨XS p k r l s o' h w', _, fu W c L, H, ac, ov, nI 5, ⟨p, k, r, l, s, o', h, w', rfl, HP, HK, HR, HL, HS, a1, HH, HW'⟩, PINV_ackB I0 hc hW z1 (fun x h1 _ => fu_n h1) (fun x hx' => fu_n hx') hi1 i16 (isB_t (Or.inr (Or.inr rfl))) hj hji htk (Or.inl ⟨f4 c, fu_s, c3⟩), MVB_a (A := []) hc hW z1 (by rw [f4, List.append_nil]) (fun x h1 _ => fu_n h1) (Or.inl rfl) (by unfold wd; simp), ARM_0, sameA, sameV, fun post hp => nt post (a2 p k r l s h w' _ hp)⟩
end Q25
