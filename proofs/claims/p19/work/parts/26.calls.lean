section Q26
theorem MSN_len {up : Bool} : ∀ (m : Nat) (O W : List N5) (v : Nat) (O' W' : List N5) (v' : Nat), MSN up m O W v O' W' v' → W'.length ≤ W.length + m ∧ v ≤ v' ∧ v' ≤ v + m := by
  intro m
  induction m with
  | zero =>
    intro O W v O' W' v' h
    obtain ⟨_, h2, h3⟩ := h
    rw [h2, h3]
    omega
  | succ m ih =>
    intro O W v O' W' v' h
    obtain ⟨O1, W1, v1, s, e, _, _, _, h1, h2⟩ := h
    have a := SND_len h1
    have b := ih O1 W1 v1 O' W' v' h2
    have d : v ≤ v1 ∧ v1 ≤ v + 1 := by
      rcases h1 with ⟨_, _, z, _⟩ | ⟨_, _, _, _, z⟩ | ⟨_, z, _⟩ <;> omega
    omega
theorem ql_pub {u : St1} {O W : Nat → List N5} {H : Nat → Nat → Bool} {up se pe : Nat → Bool} {S : Nat → List (Int32 × Nat)} {rc : Nat → Nat → Nat} {ac ov : Nat → Nat} {n : Nat} {tp : Nat → Int32} {qu : Nat → Nat} {am : Nat → Nat → Bool} {nq : Nat → Bool} (P : PIC u O W H up se pe S rc ac ov n tp qu) (I : PINV O W H up pe S rc ac n qu am nq) {c qn : Nat} (hc : c < 4) {T Y F : Int32} (hF : F &&& 3 = nI qn) (hq : qn ≤ 2) (hl : (W c).length < 32) :
    (∃ R : Int32, R < 0 ∧ ∀ post : Int32 → St1 → Prop, post R u → wpX_publish post u (nI c) T Y F)
    ∨ (n < 24 ∧ ∃ (u' : St1) (O2 W2 : Nat → List N5), PIC u' O2 W2 H up se pe S rc ac ov (n + 1) (fu tp (n + 1) T) (fu qu (n + 1) qn) ∧ PINV O2 W2 H up pe S rc ac (n + 1) (fu qu (n + 1) qn) am nq ∧ (∀ x, x ≠ c → W2 x = W x) ∧ (W2 c).length ≤ (W c).length + 1 ∧ ∀ post : Int32 → St1 → Prop, post (nI (n + 1)) u' → wpX_publish post u (nI c) T Y F) := by
  obtain ⟨p, k, r, l, s, o, h, w, rfl, HP, HK, HR, HL, HS, HO, HH, HW⟩ := P
  rcases pq_publish HP HL HO HW hc (T := T) (P := Y) hF hq hl (I.2.2.2.1 c hc).1 with ⟨R, h1, h2⟩ | ⟨n24, hu, p', o', w', O', W', b1, b2, b3, b4, b5⟩
  · exact Or.inl ⟨R, h1, fun post hp => h2 k r s h post hp⟩
  · refine Or.inr ⟨n24, XS p' k r l s o' h w', _, _, ⟨p', k, r, l, s, o', h, w', rfl, b2, HK, HR, HL, HS, b3, HH, b4⟩, PINV_pub I hc hu hq b1, fun x hx => fu_n hx, ?_, fun post hp => b5 k r s h post hp⟩
    rw [fu_s]
    rcases b1 with ⟨_, _, z⟩ | ⟨_, _, i, _, _, _, _, z⟩ <;> rw [z, List.length_append, List.length_singleton] <;> omega
theorem ql_uns {u : St1} {O W : Nat → List N5} {H : Nat → Nat → Bool} {up se pe : Nat → Bool} {S : Nat → List (Int32 × Nat)} {rc : Nat → Nat → Nat} {ac ov : Nat → Nat} {n : Nat} {tp : Nat → Int32} {qu : Nat → Nat} {am : Nat → Nat → Bool} {nq : Nat → Bool} (P : PIC u O W H up se pe S rc ac ov n tp qu) (I : PINV O W H up pe S rc ac n qu am nq) {c : Nat} (hc : c < 4) (F : Int32) :
    ∃ (u' : St1) (S2 : Nat → List (Int32 × Nat)) (R : Int32), PIC u' O W H up se pe S2 rc ac ov n tp qu ∧ PINV O W H up pe S2 rc ac n qu am nq ∧ ∀ post : Int32 → St1 → Prop, post R u' → wpX_unsubscribe post u (nI c) F := by
  obtain ⟨p, k, r, l, s, o, h, w, rfl, HP, HK, HR, HL, HS, HO, HH, HW⟩ := P
  obtain ⟨s', L', R, h1, h2, h3⟩ := pq_uns HL HS hc F
  exact ⟨XS p k r l s' o h w, _, R, ⟨p, k, r, l, s', o, h, w, rfl, HP, HK, HR, HL, h1, HO, HH, HW⟩, PINV_uns I h2, fun post hp => h3 p k r o h w post hp⟩
theorem ql_sub {u : St1} {O W : Nat → List N5} {H : Nat → Nat → Bool} {up se pe : Nat → Bool} {S : Nat → List (Int32 × Nat)} {rc : Nat → Nat → Nat} {ac ov : Nat → Nat} {n : Nat} {tp : Nat → Int32} {qu : Nat → Nat} {am : Nat → Nat → Bool} {nq : Nat → Bool} (P : PIC u O W H up se pe S rc ac ov n tp qu) (I : PINV O W H up pe S rc ac n qu am nq) {c : Nat} (hc : c < 4) (F Q : Int32) (hl : (W (4 + c)).length ≤ 24) :
    (∃ R : Int32, R < 0 ∧ ∀ post : Int32 → St1 → Prop, post R u → wpX_subscribe post u (nI c) F Q)
    ∨ ∃ (u' : St1) (O2 W2 : Nat → List N5) (S2 : Nat → List (Int32 × Nat)) (ov2 : Nat → Nat) (qn N : Nat), Q = nI qn ∧ qn ≤ 2 ∧ N ≤ 8 ∧ PIC u' O2 W2 H up se pe S2 rc ac ov2 n tp qu ∧ (∀ nq' : Nat → Bool, (∀ d, d < 4 → nq' d = false → nq d = false) → (nq' c = false → qn = 2) → PINV O2 W2 H up pe S2 rc ac n qu am nq') ∧ (∀ x, x ≠ 4 + c → W2 x = W x) ∧ (W2 (4 + c)).length ≤ (W (4 + c)).length + 8 ∧ (∀ d, ov d ≤ ov2 d ∧ ov2 d ≤ ov d + 8) ∧ ∀ post : Int32 → St1 → Prop, post (nI N) u' → wpX_subscribe post u (nI c) F Q := by
  obtain ⟨p, k, r, l, s, o, h, w, rfl, HP, HK, HR, HL, HS, HO, HH, HW⟩ := P
  rcases pq_subscribe HP HL HS HR HO HW HK hc F Q hl with ⟨R, h1, h2⟩ | ⟨hu, qn, N, mm, k', s', o', w', L', O', W', v', hq, hQ, hN, hmm, b1, b2, b3, b4, b5, b6, b7⟩
  · exact Or.inl ⟨R, h1, fun post hp => h2 h post hp⟩
  · obtain ⟨z1, z2, z3⟩ := MSN_len mm _ _ _ _ _ _ b3
    refine Or.inr ⟨XS p k' r l s' o' h w', _, _, _, _, qn, N, hQ, hq, hN, ⟨p, k', r, l, s', o', h, w', rfl, HP, b6, HR, HL, b1, b4, HH, b5⟩, fun nq' n1 n2 => PINV_sub (PINV_msn hc mm O W (ov c) O' W' v' I b3) b2 n1 n2, fun x hx => fu_n hx, by rw [fu_s]; omega, fun d => ?_, fun post hp => b7 h post hp⟩
    by_cases e : d = c
    · rw [e, fu_s]; omega
    · rw [fu_n e]; omega
theorem ql_disc {u : St1} {O W : Nat → List N5} {H : Nat → Nat → Bool} {up se pe : Nat → Bool} {S : Nat → List (Int32 × Nat)} {rc : Nat → Nat → Nat} {ac ov : Nat → Nat} {n : Nat} {tp : Nat → Int32} {qu : Nat → Nat} {am : Nat → Nat → Bool} {nq : Nat → Bool} (P : PIC u O W H up se pe S rc ac ov n tp qu) (I : PINV O W H up pe S rc ac n qu am nq) {c : Nat} (hc : c < 4) :
    ∃ (u' : St1) (O2 W2 : Nat → List N5) (H2 : Nat → Nat → Bool) (up2 se2 pe2 : Nat → Bool) (S2 : Nat → List (Int32 × Nat)) (R : Int32), PIC u' O2 W2 H2 up2 se2 pe2 S2 rc ac ov n tp qu ∧ PINV O2 W2 H2 up2 pe2 S2 rc ac n qu am nq ∧ (∀ x, (W2 x).length ≤ (W x).length) ∧ ∀ post : Int32 → St1 → Prop, post R u' → wpX_disconnect post u (nI c) := by
  obtain ⟨p, k, r, l, s, o, h, w, rfl, HP, HK, HR, HL, HS, HO, HH, HW⟩ := P
  have hlen : ∀ x, (fu (fu W c []) (4 + c) [] x).length ≤ (W x).length := by
    intro x
    by_cases e : x = 4 + c
    · rw [e, fu_s]; exact Nat.zero_le _
    · rw [fu_n e]
      by_cases e2 : x = c
      · rw [e2, fu_s]; exact Nat.zero_le _
      · rw [fu_n e2]; exact Nat.le_refl _
  cases hu : up c with
  | false => exact ⟨_, O, W, H, up, se, pe, S, 0, ⟨p, k, r, l, s, o, h, w, rfl, HP, HK, HR, HL, HS, HO, HH, HW⟩, I, fun _ => Nat.le_refl _, fun post hp => px_disc_no HL hc hu hp⟩
  | true =>
    cases hp : pe c with
    | true => exact ⟨_, O, _, H, _, se, pe, S, 1, ⟨p, k, r, (upd l.1 c 0, l.2), s, o, h, (w.1, upd (upd w.2.1 c 0) (4 + c) 0, w.2.2), rfl, HP, HK, HR, pc_L_down HL, HS, HO, HH, pc_W_clr HW hc⟩, PINV_down I hc, hlen, fun post hq => px_disc_p HL hc hu hp hq⟩
    | false =>
      obtain ⟨D1, D2, D3, D4⟩ := pq_dis (pc_L_down (c := c) HL) HS HO HH hc
      have I1 := PINV_down I hc
      have I2 := PINV_disc (b := false) (u := false) I1 hc fu_s (fun s' => by
        cases ha : am c s' with
        | false => rfl
        | true =>
          have := (I.2.2.2.2.2.2.2.2.2.2.2.2 c s' hc ha).1
          rw [hp] at this
          exact absurd this (by decide))
      rw [fu_fu] at I2
      exact ⟨_, _, _, _, _, _, _, _, 1, ⟨p, k, r, (upd l.1 c 0, upd l.2.1 c 0, upd l.2.2 c 0), (upd s.1 c 0, s.2), (upd (upd o.1 c 0) (4 + c) 0, o.2), _, (w.1, upd (upd w.2.1 c 0) (4 + c) 0, w.2.2), rfl, HP, HK, HR, D1, D2, D3, D4, pc_W_clr HW hc⟩, I2, hlen, fun post hq => px_disc_c HL hc hu hp hq⟩
theorem ql_conn {u : St1} {O W : Nat → List N5} {H : Nat → Nat → Bool} {up se pe : Nat → Bool} {S : Nat → List (Int32 × Nat)} {rc : Nat → Nat → Nat} {ac ov : Nat → Nat} {n : Nat} {tp : Nat → Int32} {qu : Nat → Nat} {am : Nat → Nat → Bool} {nq : Nat → Bool} (P : PIC u O W H up se pe S rc ac ov n tp qu) (I : PINV O W H up pe S rc ac n qu am nq) {c : Nat} (hc : c < 4) (B : Int32) (ha : ¬ B = 0 → ∀ s, am c s = false) :
    ∃ (u' : St1) (O2 W2 : Nat → List N5) (H2 : Nat → Nat → Bool) (up2 se2 pe2 : Nat → Bool) (S2 : Nat → List (Int32 × Nat)) (R : Int32), PIC u' O2 W2 H2 up2 se2 pe2 S2 rc ac ov n tp qu ∧ PINV O2 W2 H2 up2 pe2 S2 rc ac n qu am nq ∧ (∀ x, (W2 x).length ≤ (W x).length ∨ (W2 x).length ≤ 16) ∧ ∀ post : Int32 → St1 → Prop, post R u' → wpX_connect post u (nI c) B := by
  obtain ⟨p, k, r, l, s, o, h, w, rfl, HP, HK, HR, HL, HS, HO, HH, HW⟩ := P
  cases hu : up c with
  | true => exact ⟨_, O, W, H, up, se, pe, S, -2, ⟨p, k, r, l, s, o, h, w, rfl, HP, HK, HR, HL, HS, HO, HH, HW⟩, I, fun _ => Or.inl (Nat.le_refl _), fun post hp => px_conn_no HL hc hu hp⟩
  | false =>
    obtain ⟨w1, w2⟩ := I.2.2.1 c hc hu
    by_cases hr : B = 0 ∧ pe c = true
    · have l1 := (HO.1 c (by omega)).1
      have l2 := (HO.1 (4 + c) (by omega)).1
      obtain ⟨w', b1, b2⟩ := pq_conn_res HL HO HW hc hu hr.1 hr.2 (by rw [w1]; show 0 + _ ≤ 32; omega) (by rw [w2]; show 0 + _ ≤ 32; omega)
      refine ⟨XS p k r (upd l.1 c 1, upd l.2.1 c 1, upd l.2.2 c (bI true)) s o h w', O, _, H, _, _, _, S, 1, ⟨p, k, r, _, s, o, h, w', rfl, HP, HK, HR, pc_L_up HL true, HS, HO, HH, b1⟩, PINV_res I hc hu hr.2, fun x => ?_, fun post hp => b2 p k r s h post hp⟩
      by_cases e : x = 4 + c
      · rw [e, fu_s, w2, List.nil_append, List.length_map]; exact Or.inr l2
      · rw [fu_n e]
        by_cases e2 : x = c
        · rw [e2, fu_s, w1, List.nil_append, List.length_map]; exact Or.inr l1
        · rw [fu_n e2]; exact Or.inl (Nat.le_refl _)
    · have hB : ¬ B = 0 ∨ pe c = false := by
        by_cases h0 : B = 0
        · refine Or.inr ?_
          cases hp : pe c with
          | false => rfl
          | true => exact absurd ⟨h0, hp⟩ hr
        · exact Or.inl h0
      have ham : ∀ s, am c s = false := by
        rcases hB with z | z
        · exact ha z
        · intro s'
          cases hx : am c s' with
          | false => rfl
          | true =>
            have := (I.2.2.2.2.2.2.2.2.2.2.2.2 c s' hc hx).1
            rw [z] at this
            exact absurd this (by decide)
      obtain ⟨D1, D2, D3, D4⟩ := pq_dis HL HS HO HH hc
      have D5 := pc_L_up (c := c) D1 (decide (B = 0))
      have I2 := PINV_disc (b := decide (B = 0)) (u := true) I hc hu ham
      rw [fu_fu] at D5
      rw [fu_fu] at D5
      exact ⟨_, _, W, _, _, _, _, _, 0, ⟨p, k, r, (upd l.1 c 1, upd (upd l.2.1 c 0) c 1, upd (upd l.2.2 c 0) c (bI (decide (B = 0)))), (upd s.1 c 0, s.2), (upd (upd o.1 c 0) (4 + c) 0, o.2), _, w, rfl, HP, HK, HR, D5, D2, D3, D4, HW⟩, I2, fun _ => Or.inl (Nat.le_refl _), fun post hp => px_conn_new HL hc hu hB hp⟩
end Q26
