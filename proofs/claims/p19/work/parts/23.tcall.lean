section Q23
theorem ql_tc {u : St1} {O W : Nat → List N5} {H : Nat → Nat → Bool} {up se pe : Nat → Bool} {S : Nat → List (Int32 × Nat)} {rc : Nat → Nat → Nat} {ac ov : Nat → Nat} {n : Nat} {tp : Nat → Int32} {qu : Nat → Nat} {am : Nat → Nat → Bool} {nq : Nat → Bool} (P : PIC u O W H up se pe S rc ac ov n tp qu) (I : PINV O W H up pe S rc ac n qu am nq) {c : Nat} (hc : c < 4) (hl : (W c).length < 32) :
    ∃ (u' : St1) (O2 W2 : Nat → List N5) (H2 : Nat → Nat → Bool) (rc2 : Nat → Nat → Nat) (R : Int32), PIC u' O2 W2 H2 up se pe S rc2 ac ov n tp qu ∧ PINV O2 W2 H2 up pe S rc2 ac n qu am nq ∧ MVC c W W2 ∧ (∀ d s, rc2 d s ≤ rc d s + 1) ∧ ∀ post : Int32 → St1 → Prop, post R u' → wpX_toClient post u (nI c) := by
  obtain ⟨p, k, r, l, s, o, h, w, rfl, HP, HK, HR, HL, HS, HO, HH, HW⟩ := P
  have I0 := I
  obtain ⟨i1, i2, i3, i4, i5, i6, i7, i8, i9, i10, i11, i12, i13⟩ := I
  cases hu : up c with
  | false => exact ⟨_, O, W, H, rc, 0, ⟨p, k, r, l, s, o, h, w, rfl, HP, HK, HR, HL, HS, HO, HH, HW⟩, I0, MVC_0 (i3 c hc hu).2, fun _ _ => by omega, fun post hp => px_tc_d HL hc hu hp⟩
  | true =>
    cases hW : W (4 + c) with
    | nil => exact ⟨_, O, W, H, rc, 0, ⟨p, k, r, l, s, o, h, w, rfl, HP, HK, HR, HL, HS, HO, HH, HW⟩, I0, MVC_0 hW, fun _ _ => by omega, fun post hp => px_tc_e HL HW hc hu hW hp⟩
    | cons t L =>
      obtain ⟨w', d, HW', hok, hd, hwt, hold, hrem⟩ := pq_pop HW (x := 4 + c) (by omega) hW
      have hne : W (4 + c) ≠ [] := by rw [hW]; exact List.cons_ne_nil t L
      obtain ⟨K, i, sn, q, m⟩ := t
      have hok0 := hok
      obtain ⟨k1', k5', i16, hser, _, q2, m1, hid, hid2⟩ := hok0
      have k1' : 1 ≤ K := k1'
      have k5' : K ≤ 5 := k5'
      have i16 : i ≤ 16 := i16
      have q2 : q ≤ 2 := q2
      have m1 : m ≤ 1 := m1
      have T2 := i2 c hc
      rw [hW] at T2
      have T1 := i1 c hc
      rw [hW] at T1
      have hl' : (fu W (4 + c) L c).length < 32 := by rw [fu_n (by omega)]; exact hl
      have wx : ∀ (V : List N5) (x : Nat), x ≠ c → x ≠ 4 + c → fu (fu W (4 + c) L) c V x = W x := fun V x h1 h2 => by rw [fu_n h1, fu_n h2]
      have wc : ∀ (V : List N5), fu (fu W (4 + c) L) c V c = V := fun V => fu_s
      have w4 : ∀ (V : List N5), fu (fu W (4 + c) L) c V (4 + c) = L := fun V => by rw [fu_n (by omega), fu_s]
      have Lsub : ∀ t, t ∈ L → t ∈ W (4 + c) := fun t ht => by rw [hW]; exact List.mem_cons_of_mem _ ht
      have tmem : (K, i, sn, q, m) ∈ W (4 + c) := by rw [hW]; exact List.mem_cons_self ..
      by_cases hK1 : K = 1
      · subst hK1
        obtain ⟨s1, s2⟩ := hser rfl
        have s1 : 1 ≤ sn := s1
        have s2 : sn ≤ 24 := s2
        obtain ⟨k2, HK2, dX⟩ := pq_dlv HK hc s1 s2 m1
        -- the counts behind a delivery
        have rcd : ∀ s', (if m = 0 then fu rc c (fu (rc c) sn (rc c sn + 1)) else rc) c s' = if m = 0 ∧ s' = sn then rc c sn + 1 else rc c s' := by
          intro s'
          by_cases hm : m = 0
          · rw [if_pos hm, fu_s]
            by_cases hs : s' = sn
            · rw [if_pos ⟨hm, hs⟩, hs, fu_s]
            · rw [if_neg (fun z => hs z.2), fu_n hs]
          · rw [if_neg hm, if_neg (fun z => hm z.1)]
        have rco : ∀ d', d' ≠ c → (if m = 0 then fu rc c (fu (rc c) sn (rc c sn + 1)) else rc) d' = rc d' := by
          intro d' hd'
          split
          · exact fu_n hd'
          · rfl
        have rc1 : ∀ d' s', (if m = 0 then fu rc c (fu (rc c) sn (rc c sn + 1)) else rc) d' s' ≤ rc d' s' + 1 := by
          intro d' s'
          by_cases hd' : d' = c
          · rw [hd', rcd s']
            split
            · rename_i z; rw [z.2]; omega
            · omega
          · rw [rco d' hd']; omega
        have rcm : ∀ s', rc c s' ≤ (if m = 0 then fu rc c (fu (rc c) sn (rc c sn + 1)) else rc) c s' := by
          intro s'
          rw [rcd s']
          split
          · rename_i z; rw [z.2]; omega
          · omega
        have r0 : ∀ s', ac s' = 0 → (if m = 0 then fu rc c (fu (rc c) sn (rc c sn + 1)) else rc) c s' = 0 := by
          intro s' ha
          obtain ⟨N1, _, N3⟩ := i10 c s' hc ha
          rw [rcd s']
          split
          · rename_i z
            have := N3 _ tmem rfl z.2.symm
            have : m = 1 := this
            omega
          · exact N1
        have tkd : ∀ e : N5, e.1 = sn → e.2.2.2.1 = m → tkR (if m = 0 then fu rc c (fu (rc c) sn (rc c sn + 1)) else rc) c e := by
          intro e h1 h2 h3
          rw [rcd, if_pos ⟨by omega, h1⟩]
          omega
        by_cases hq0 : q = 0
        · subst hq0
          have hi0 : i = 0 := by
            apply Classical.byContradiction
            intro hx
            obtain ⟨_, _, _, e, _, z | z | z⟩ := TOK_look T2 (show 1 ≤ i by omega) i16 (isF_t (Or.inl rfl))
            · have := congrArg (fun t : N5 => t.2.2.2.1) z.2.2.2
              exact absurd this (by decide : ¬ (0 : Nat) = 1)
            · have := congrArg (fun t : N5 => t.2.2.2.1) z.2.2.2
              exact absurd this (by decide : ¬ (0 : Nat) = 2)
            · have := congrArg (fun t : N5 => t.1) z.2.2.2
              exact absurd this (by decide : ¬ (1 : Nat) = 4)
          subst hi0
          have hX : ∀ s', qu s' = 2 → (nq c = false ∨ am c s' = true) → XO (O (4 + c)) L (H c) ((if m = 0 then fu rc c (fu (rc c) sn (rc c sn + 1)) else rc) c s') s' := by
            intro s' hq' hx
            have X := i11 c s' hc hq' hx
            have hv : (if m = 0 then fu rc c (fu (rc c) sn (rc c sn + 1)) else rc) c s' = rc c s' := by
              rw [rcd s']
              refine if_neg (fun z => ?_)
              exact X.2.2.2 _ tmem rfl z.2.symm z.1 rfl
            rw [hv]
            exact XO_sub X Lsub
          refine ⟨XS p k2 r l s o h w', O, fu W (4 + c) L, H, _, nI 1, ⟨p, k2, r, l, s, o, h, w', rfl, HP, HK2, HR, HL, HS, HO, HH, HW'⟩, PINV_rcv0 I0 hc hW fu_s (fun x hx => fu_n hx) rcm rco r0 hX, MVC_n hW (fu_n (by omega)) fu_s (fun x _ h2 => fu_n h2) (by unfold wd; simp), rc1, fun post hp => ?_⟩
          exact px_tc HL HH HW hc hu hne hok hd hwt (hold p k r l s o h) (hrem p k r l s o h) (fun z => z.elim (fun y => absurd rfl y) (fun y => absurd y.1 (by decide : ¬ (0 : Nat) = 2))) (fun _ _ => dX p r l s o h w' _ (pq_ap0 hp))
        · have hi1 : 1 ≤ i := (hid rfl).resolve_left hq0
          obtain ⟨_, _, _, e, he, hcase⟩ := TOK_look T2 hi1 i16 (isF_t (Or.inl rfl))
          rcases hcase with ⟨c1, c2, c3, c4⟩ | ⟨c1, c2, c3, c4⟩ | ⟨c1, c2, c3, c4⟩
          · -- quality 1
            simp only [Prod.mk.injEq] at c4
            obtain ⟨_, _, e1, e2, e3⟩ := c4
            subst e2
            obtain ⟨w2, b1, b2⟩ := pq_ap1 HW' (x := c) (by omega) hi1 i16 hl'
            rw [fu_n (show c ≠ 4 + c by omega)] at b1
            have hH : H c = fu (H c) i false := by
              have z := fu_id (H c) i
              rw [c3] at z
              exact z.symm
            have hX : ∀ s', qu s' = 2 → (nq c = false ∨ am c s' = true) → XO (O (4 + c)) L (H c) ((if m = 0 then fu rc c (fu (rc c) sn (rc c sn + 1)) else rc) c s') s' := by
              intro s' hq' hx
              have X := i11 c s' hc hq' hx
              have hv : (if m = 0 then fu rc c (fu (rc c) sn (rc c sn + 1)) else rc) c s' = rc c s' := by
                rw [rcd s']
                refine if_neg (fun z => ?_)
                have := (X.2.1 e (lk_mem he).1 (by rw [← e1]; exact z.2.symm) (by rw [← e3]; exact z.1)).1
                omega
              rw [hv]
              exact XO_sub X Lsub
            refine ⟨XS p k2 r l s o h w2, O, _, H, _, nI 1, ⟨p, k2, r, l, s, o, h, w2, rfl, HP, HK2, HR, HL, HS, HO, HH, b1⟩, PINV_rcvC I0 hc hW (wc _) (w4 _) (wx _) (hb := false) hH (fun x _ => rfl) (Or.inl rfl) hi1 i16 (isF_t (Or.inl rfl)) he (Or.inl ⟨c1, c2, rfl, rfl, tkd e e1.symm e3.symm⟩) rcm rco r0 hX, MVC_r hW (wc _) (w4 _) (wx _) (by simp) (by unfold wd; simp), rc1, fun post hp => ?_⟩
            exact px_tc HL HH HW hc hu hne hok hd hwt (hold p k r l s o h) (hrem p k r l s o h) (fun z => z.elim (fun y => absurd rfl y) (fun y => absurd y.1 (by decide : ¬ (1 : Nat) = 2))) (fun _ _ => dX p r l s o h w' _ (b2 p k2 r l s o h _ hp))
          · -- quality 2
            simp only [Prod.mk.injEq] at c4
            obtain ⟨_, _, e1, e2, e3⟩ := c4
            subst e2
            obtain ⟨h', w2, b0, b1, b2⟩ := pq_ap2 HH HW' (x := c) (by omega) hi1 i16 hl'
            rw [fu_n (show c ≠ 4 + c by omega)] at b1
            cases hh : H c i with
            | true =>
              have hX : ∀ s', qu s' = 2 → (nq c = false ∨ am c s' = true) → XO (O (4 + c)) L (fu H c (fu (H c) i true) c) (rc c s') s' := by
                intro s' hq' hx
                have X := i11 c s' hc hq' hx
                have z : fu H c (fu (H c) i true) c = H c := by rw [fu_s, ← hh]; exact fu_id (H c) i
                rw [z]
                exact XO_sub X Lsub
              refine ⟨XS p k r l s o h' w2, O, _, fu H c (fu (H c) i true), rc, nI 1, ⟨p, k, r, l, s, o, h', w2, rfl, HP, HK, HR, HL, HS, HO, b0, b1⟩, PINV_rcvC I0 hc hW (wc _) (w4 _) (wx _) (hb := true) fu_s (fun x hx => fu_n hx) (Or.inr (Or.inl rfl)) hi1 i16 (isF_t (Or.inl rfl)) he (Or.inr (Or.inl ⟨c1, c2, c3 hh, rfl, rfl⟩)) (fun _ => Nat.le_refl _) (fun _ _ => rfl) (fun s' ha => (i10 c s' hc ha).1) hX, MVC_r hW (wc _) (w4 _) (wx _) (by simp) (by unfold wd; simp), fun _ _ => by omega, fun post hp => ?_⟩
              exact px_tc HL HH HW hc hu hne hok hd hwt (hold p k r l s o h) (hrem p k r l s o h) (fun _ => b2 p k r l s o _ hp) (fun _ y => absurd (y rfl) (by show ¬ H c i = false; rw [hh]; decide))
            | false =>
              have hX : ∀ s', qu s' = 2 → (nq c = false ∨ am c s' = true) → XO (O (4 + c)) L (fu H c (fu (H c) i true) c) ((if m = 0 then fu rc c (fu (rc c) sn (rc c sn + 1)) else rc) c s') s' := by
                intro s' hq' hx
                have X := i11 c s' hc hq' hx
                rw [fu_s, rcd s']
                by_cases hs : m = 0 ∧ s' = sn
                · rw [if_pos hs]
                  obtain ⟨hm0, rfl⟩ := hs
                  have heO := (lk_mem he).1
                  have hid' := (lk_mem he).2
                  have hr0 : rc c s' = 0 := (X.2.1 e heO e1.symm (by rw [← e3]; exact hm0)).2 c2 (by rw [hid']; exact hh)
                  refine ⟨by omega, fun a ha has ham => ⟨(X.2.1 a ha has ham).1, fun hst hHa => ?_⟩, X.2.2.1, fun t ht => X.2.2.2 t (Lsub t ht)⟩
                  have hae := X.2.2.1 a e ha heO has e1.symm ham (by rw [← e3]; exact hm0)
                  rw [hae, hid', fu_s] at hHa
                  exact absurd hHa (by decide)
                · rw [if_neg hs]
                  refine ⟨X.1, fun a ha has ham => ⟨(X.2.1 a ha has ham).1, fun hst hHa => ?_⟩, X.2.2.1, fun t ht => X.2.2.2 t (Lsub t ht)⟩
                  by_cases hai : a.2.2.1 = i
                  · rw [hai, fu_s] at hHa
                    exact absurd hHa (by decide)
                  · rw [fu_n hai] at hHa
                    exact (X.2.1 a ha has ham).2 hst hHa
              refine ⟨XS p k2 r l s o h' w2, O, _, fu H c (fu (H c) i true), _, nI 1, ⟨p, k2, r, l, s, o, h', w2, rfl, HP, HK2, HR, HL, HS, HO, b0, b1⟩, PINV_rcvC I0 hc hW (wc _) (w4 _) (wx _) (hb := true) fu_s (fun x hx => fu_n hx) (Or.inr (Or.inl rfl)) hi1 i16 (isF_t (Or.inl rfl)) he (Or.inr (Or.inl ⟨c1, c2, tkd e e1.symm e3.symm, rfl, rfl⟩)) rcm rco r0 hX, MVC_r hW (wc _) (w4 _) (wx _) (by simp) (by unfold wd; simp), rc1, fun post hp => ?_⟩
              exact px_tc HL HH HW hc hu hne hok hd hwt (hold p k r l s o h) (hrem p k r l s o h) (fun z => z.elim (fun y => absurd rfl y) (fun y => absurd y.2 (by show ¬ H c i = true; rw [hh]; decide))) (fun _ _ => dX p r l s o h w' _ (b2 p k2 r l s o _ hp))
          · have := congrArg (fun t : N5 => t.1) c4
            exact absurd this (by decide : ¬ (1 : Nat) = 4)
      · have hi1 : 1 ≤ i := hid2 hK1
        have nt : ∀ post : Int32 → St1 → Prop, wpX_answerPacket (fun u => post (nI K) u) (XS p k r l s o h w') (nI c) (nI K) (nI i) (nI q) → wpX_toClient post (XS p k r l s o h w) (nI c) := fun post hp => px_tc HL HH HW hc hu hne hok hd hwt (hold p k r l s o h) (hrem p k r l s o h) (fun _ => hp) (fun y => absurd y hK1)
        by_cases hK4 : K = 4
        · subst hK4
          obtain ⟨_, _, _, e, he, hcase⟩ := TOK_look T2 hi1 i16 (isF_t (Or.inr rfl))
          have h3 : e.2.1 = 2 ∧ e.2.2.2.2 = 2 ∧ tkR rc c e := by
            rcases hcase with ⟨_, _, _, z⟩ | ⟨_, _, _, z⟩ | ⟨a, b, g, _⟩
            · exact absurd (congrArg (fun t : N5 => t.1) z) (by decide : ¬ (4 : Nat) = 1)
            · exact absurd (congrArg (fun t : N5 => t.1) z) (by decide : ¬ (4 : Nat) = 1)
            · exact ⟨a, b, g⟩
          obtain ⟨h', w2, b0, b1, b2⟩ := pq_k4 HH HW' (x := c) (by omega) hi1 i16 hl' (nI q)
          rw [fu_n (show c ≠ 4 + c by omega)] at b1
          have hX : ∀ s', qu s' = 2 → (nq c = false ∨ am c s' = true) → XO (O (4 + c)) L (fu H c (fu (H c) i false) c) (rc c s') s' := by
            intro s' hq' hx
            have X := i11 c s' hc hq' hx
            rw [fu_s]
            refine ⟨X.1, fun a ha has ham => ⟨(X.2.1 a ha has ham).1, fun hst hHa => ?_⟩, X.2.2.1, fun t ht => X.2.2.2 t (Lsub t ht)⟩
            by_cases hai : a.2.2.1 = i
            · have := lk_of T2.1 ha
              rw [hai, he] at this
              rw [← Option.some.inj this] at hst
              omega
            · rw [fu_n hai] at hHa
              exact (X.2.1 a ha has ham).2 hst hHa
          refine ⟨XS p k r l s o h' w2, O, _, fu H c (fu (H c) i false), rc, nI 4, ⟨p, k, r, l, s, o, h', w2, rfl, HP, HK, HR, HL, HS, HO, b0, b1⟩, PINV_rcvC I0 hc hW (wc _) (w4 _) (wx _) (hb := false) fu_s (fun x hx => fu_n hx) (Or.inr (Or.inr rfl)) hi1 i16 (isF_t (Or.inr rfl)) he (Or.inr (Or.inr ⟨h3.1, h3.2.1, h3.2.2, rfl, rfl⟩)) (fun _ => Nat.le_refl _) (fun _ _ => rfl) (fun s' ha => (i10 c s' hc ha).1) hX, MVC_r hW (wc _) (w4 _) (wx _) (by simp) (by unfold wd; simp), fun _ _ => by omega, fun post hp => nt post (b2 p k r l s o _ hp)⟩
        · have hKb : K = 2 ∨ K = 3 ∨ K = 5 := by omega
          obtain ⟨_, _, _, e, he, htk, hcase⟩ := TOK_back T1 hi1 i16 (isB_t hKb)
          obtain ⟨j, hj, hji⟩ := lk_at he
          rcases hcase with ⟨c1, c2, c3, c4⟩ | ⟨c1, c2, c3, c4⟩ | ⟨c1, c2, c3, c4⟩
          · simp only [Prod.mk.injEq] at c4
            obtain ⟨rfl, _, rfl, rfl, rfl⟩ := c4
            obtain ⟨o', a1, a2⟩ := pq_k2 HO (x := c) (by omega) T1.1 hj hji c1 c2 (nI 0)
            refine ⟨XS p k r l s o' h w', _, fu W (4 + c) L, H, rc, nI 2, ⟨p, k, r, l, s, o', h, w', rfl, HP, HK, HR, HL, HS, a1, HH, HW'⟩, PINV_ackC I0 hc hW fu_s (fun x _ h2 => fu_n h2) (fun x hx => fu_n hx) hi1 i16 (isB_t (Or.inl rfl)) hj hji (Or.inl ⟨fu_n (by omega), fu_s, c3⟩), MVC_n hW (fu_n (by omega)) fu_s (fun x _ h2 => fu_n h2) (by unfold wd; simp), fun _ _ => by omega, fun post hp => nt post (a2 p k r l s h w' _ hp)⟩
          · simp only [Prod.mk.injEq] at c4
            obtain ⟨rfl, _, rfl, rfl, rfl⟩ := c4
            obtain ⟨o', w2, a1, b1, a2⟩ := pq_k3 HO HW' (x := c) (by omega) T1.1 hj hji c1 c2 hl' (nI 0)
            rw [fu_n (show c ≠ 4 + c by omega)] at b1
            refine ⟨XS p k r l s o' h w2, _, _, H, rc, nI 3, ⟨p, k, r, l, s, o', h, w2, rfl, HP, HK, HR, HL, HS, a1, HH, b1⟩, PINV_ackC I0 hc hW (w4 _) (wx _) (fun x hx => fu_n hx) hi1 i16 (isB_t (Or.inr (Or.inl rfl))) hj hji (Or.inr ⟨wc _, fu_s, c1, htk⟩), MVC_r hW (wc _) (w4 _) (wx _) (by simp) (by unfold wd; simp), fun _ _ => by omega, fun post hp => nt post (a2 p k r l s h _ hp)⟩
          · simp only [Prod.mk.injEq] at c4
            obtain ⟨rfl, _, rfl, rfl, rfl⟩ := c4
            obtain ⟨o', a1, a2⟩ := pq_k5 HO (x := c) (by omega) T1.1 hj hji c2 (nI 0)
            refine ⟨XS p k r l s o' h w', _, fu W (4 + c) L, H, rc, nI 5, ⟨p, k, r, l, s, o', h, w', rfl, HP, HK, HR, HL, HS, a1, HH, HW'⟩, PINV_ackC I0 hc hW fu_s (fun x _ h2 => fu_n h2) (fun x hx => fu_n hx) hi1 i16 (isB_t (Or.inr (Or.inr rfl))) hj hji (Or.inl ⟨fu_n (by omega), fu_s, c3⟩), MVC_n hW (fu_n (by omega)) fu_s (fun x _ h2 => fu_n h2) (by unfold wd; simp), fun _ _ => by omega, fun post hp => nt post (a2 p k r l s h w' _ hp)⟩
end Q23
