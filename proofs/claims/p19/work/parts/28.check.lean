section Q28
/-! the law's words: a serial's info, an armed bit -/
def nfo (x2 x4 : Int64) (s : Nat) : Nat := (if s - 1 < 12 then x2 else x4).toBitVec.toNat / 2 ^ ((s - 1) % 12 * 5) % 2 ^ 5
theorem pl_info {u : St2} {x2 x4 : Int64} {s : Nat} (h1 : 1 ≤ s) (h2 : s ≤ 24) {post : Int32 → Prop} (hp : post (nI (nfo x2 x4 s))) : wpL_info post u x2 x4 (nI s) := by
  have e1 : nI s - 1 = nI (s - 1) := pk_sub (a := s) (b := 1) h1
  have h18 : ∀ z : Int64, z = (if s - 1 < 12 then x2 else x4) → wL_info_18 post (nI (s - 1)) z := by
    intro z hz
    refine ⟨by decide, ?_⟩
    have e2 : nI (s - 1) - nI (s - 1) / 12 * 12 = nI ((s - 1) % 12) := pk_rem (a := s - 1) (d := 12) (by omega) (by omega) (by omega)
    have e3 : nI ((s - 1) % 12) * 5 = nI ((s - 1) % 12 * 5) := pk_mul _ 5
    rw [e2, e3]
    obtain ⟨m, hm, hz2⟩ := wb_of z
    have e4 : ((z.toUInt64 >>> ((nI ((s - 1) % 12 * 5)).toInt64.toUInt64 &&& Int64.toUInt64 63)).toInt64) &&& 31 = lN (m / 2 ^ ((s - 1) % 12 * 5) % 2 ^ 5) := by
      rw [hz2, wb_shr hm (by omega)]
      exact wb_mask (k := 5) (Nat.lt_of_le_of_lt (Nat.div_le_self _ _) hm) (by omega)
    rw [e4, lN_i]
    have e5 : m / 2 ^ ((s - 1) % 12 * 5) % 2 ^ 5 = nfo x2 x4 s := by
      unfold nfo
      rw [← hz, hz2, wb_tn hm]
    rw [e5]
    exact hp
  refine nm_r e1 ?_
  by_cases hs : s - 1 < 12
  · exact br_f (nI_ge (b := 12) hs (by omega)) (h18 x2 (if_pos hs).symm)
  · exact br_t (nI_le (a := 12) (by omega) (by omega)) (h18 x4 (if_neg hs).symm)
theorem nfo_lt (x2 x4 : Int64) (s : Nat) : nfo x2 x4 s < 32 := Nat.mod_lt _ (by decide)
theorem pn_shr3 {r : Nat} (h : r < 32) : nI r >>> ((3 : Int32) &&& 31) = nI (r / 8) := pk_shrN (n := r) (by omega) _ 3 (by decide)
theorem pn_and7 {r : Nat} (h : r < 32) : nI r &&& 7 = nI (r % 8) := pk_andN (n := r) (by omega) 3 (by decide)
def amf (x6 x8 : Int64) (d s : Nat) : Bool := if 1 ≤ s ∧ s ≤ 24 then (if d < 2 then lb x6 (24 * d + s - 1) else lb x8 (24 * (d - 2) + s - 1)) else false
theorem pl_armed {u : St2} {x6 x8 : Int64} {d s : Nat} (hd : d < 4) (h1 : 1 ≤ s) (h2 : s ≤ 24) {post : Int32 → Prop} (hp : post (bI (amf x6 x8 d s))) : wpL_armed post u x6 x8 (nI d) (nI s) := by
  have e1 : nI d &&& 1 = nI (d % 2) := pk_andN (n := d) (by omega) 1 (by decide)
  have e2 : (24 : Int32) * nI (d % 2) = nI (24 * (d % 2)) := pk_mul 24 _
  have e3 : 24 * (nI d &&& 1) + nI s - 1 = nI (24 * (d % 2) + s - 1) := by
    rw [e1, e2, nI_add]
    exact pk_sub (b := 1) (by omega)
  have h11 : ∀ z : Int64, lb z (24 * (d % 2) + s - 1) = amf x6 x8 d s → wL_armed_11 post (nI d) (nI s) z := by
    intro z hz
    have hb := lb_t (x := z) (k := 24 * (d % 2) + s - 1) (by omega)
    rw [← e3] at hb
    cases ha : amf x6 x8 d s with
    | false =>
      rw [ha] at hz hp
      exact br_t (hb.mpr hz) hp
    | true =>
      rw [ha] at hz hp
      exact br_f (fun y => by rw [hb.mp y] at hz; exact absurd hz (by decide)) hp
  unfold amf at h11
  rw [if_pos ⟨h1, h2⟩] at h11
  by_cases hd2 : d < 2
  · rw [if_pos hd2] at h11
    exact br_f (nI_ge (b := 2) hd2 (by omega)) (h11 x6 (by rw [Nat.mod_eq_of_lt hd2]))
  · rw [if_neg hd2] at h11
    exact br_t (nI_le (a := 2) (by omega) (by omega)) (h11 x8 (by rw [show d % 2 = d - 2 by omega]))
/-- an armed serial that isn't received stands at STAGE_PUB -/
theorem ck_stage {O W : Nat → List N5} {H : Nat → Nat → Bool} {up pe : Nat → Bool} {S : Nat → List (Int32 × Nat)} {rc : Nat → Nat → Nat} {ac : Nat → Nat} {n : Nat} {qu : Nat → Nat} {am : Nat → Nat → Bool} {nq : Nat → Bool} (I : PINV O W H up pe S rc ac n qu am nq) {o : TO} (HO : pc_O o O) {d s : Nat} {R : Int32} (hd : d < 4) (ha : am d s = true) (hr : rc d s = 0) (hR : (R = 0 ∧ ∀ e, e ∈ O (4 + d) → e.1 = s → e.2.2.2.1 = 1) ∨ ∃ e, e ∈ O (4 + d) ∧ e.1 = s ∧ e.2.2.2.1 = 0 ∧ R = nI e.2.2.2.2) : R = 1 := by
  obtain ⟨i1, i2, i3, i4, i5, i6, i7, i8, i9, i10, i11, i12, i13⟩ := I
  obtain ⟨_, _, _, hx⟩ := i13 d s hd ha
  rcases hR with ⟨_, h⟩ | ⟨e, he, hs, hm, hR⟩
  · rcases hx with hx | ⟨e, he, h1, h2⟩
    · omega
    · have := h e he h1; omega
  · have T := i2 d hd
    have hok := (HO.1 (4 + d) (by omega)).2.1 e he
    have hl := lk_of T.1 he
    have t := T.2 e.2.2.1 hok.2.2.2.2.1 hok.2.2.2.2.2.1
    rw [hl] at t
    have st : e.2.2.2.2 = 1 := by
      rcases t with ⟨z, _⟩ | ⟨e', z, t⟩
      · exact absurd z (by simp)
      · have := Option.some.inj z
        subst this
        rcases t with ⟨_, g, _⟩ | ⟨_, g, _⟩ | ⟨_, _, g, _⟩
        · exact g
        · exact g
        · have := g hm
          rw [hs, hr] at this
          omega
    rw [hR, st]
    rfl
abbrev TJ : Type := Int64 → Int64 → Int64 → Int64 → Int64 → Int32 → Int32 → Int32 → Int32 → Int32 → Int32 → Int32 → Int32 → Int32 → TA → TA → TA → TA → TA → TA → TA → TA → TA → TA → TA → TA → TA → TA → TA → TA → TA → TA → TA → TA → TA → TA → TA → TA → TA → TA → TA → TA → TA → TA → Prop
/-- the checks of one serial at every client -/
theorem lw_1317 {p : TP} {k : TK} {r : TR} {l s : TL} {o : TO} {h : TA} {w : TW} {L : Nat} {xs : Nat → Int32} {post : Int32 → Prop} {J47 : TJ} {J : Int32 → Prop} {x2 x4 x6 x8 x10 : Int64} {x12 x13 x14 x15 x16 x17 x18 x19 x20 : Int32} {kc ks : Nat}
    {O W : Nat → List N5} {H : Nat → Nat → Bool} {up pe : Nat → Bool} {S : Nat → List (Int32 × Nat)} {rc : Nat → Nat → Nat} {ac ov : Nat → Nat} {n : Nat} {qu : Nat → Nat} {nq : Nat → Bool} (I : PINV O W H up pe S rc ac n qu (amf x6 x8) nq) (HO : pc_O o O) (HK : pc_K k rc ac ov) (hrc : ∀ d s, rc d s < 2 ^ 30) (hnq : ∀ d, d < 4 → nq d = bt x14 d) {s0 : Nat} (h1 : 1 ≤ s0) (h2 : s0 ≤ 24) (hq3 : qu s0 ≤ 2) (hJ : J (nI (s0 + 1))) :
    ∀ f d, d + f = 4 → wL_law_1317 post L xs J47 J x2 x4 x6 x8 x10 x12 x13 x14 x15 x16 x17 x18 x19 x20 (nI s0) (nI (qu s0)) kc ks p.1 r.1 p.2.1 p.2.2.1 p.2.2.2.1 p.2.2.2.2 k.1 k.2.1 k.2.2.1 k.2.2.2 r.2.1 r.2.2 l.1 l.2.1 l.2.2 s.1 s.2.1 s.2.2 o.1 o.2.1 o.2.2.1 o.2.2.2.1 o.2.2.2.2.1 o.2.2.2.2.2 h w.1 w.2.1 w.2.2.1 w.2.2.2.1 w.2.2.2.2.1 w.2.2.2.2.2.1 w.2.2.2.2.2.2 (f + 1) (nI d) := by
  intro f
  induction f with
  | zero =>
    intro d hd
    obtain rfl : d = 4 := by omega
    exact br_t (by decide) (nm_r (nI_1 _) hJ)
  | succ f ih =>
    intro d hd
    have hd4 : d < 4 := by omega
    have h4 : ¬ (4 : Int32) ≤ nI d := nI_ge (b := 4) hd4 (by omega)
    have hnext := ih (d + 1) (by omega)
    obtain ⟨R, bX, hR⟩ := pq_bs HO hd4 h1 h2
    have hr := hrc d s0
    have h1357 : wL_law_1357 post L xs J47 J (wL_law_1317 post L xs J47 J x2 x4 x6 x8 x10 x12 x13 x14 x15 x16 x17 x18 x19 x20 (nI s0) (nI (qu s0)) kc ks p.1 r.1 p.2.1 p.2.2.1 p.2.2.2.1 p.2.2.2.2 k.1 k.2.1 k.2.2.1 k.2.2.2 r.2.1 r.2.2 l.1 l.2.1 l.2.2 s.1 s.2.1 s.2.2 o.1 o.2.1 o.2.2.1 o.2.2.2.1 o.2.2.2.2.1 o.2.2.2.2.2 h w.1 w.2.1 w.2.2.1 w.2.2.2.1 w.2.2.2.2.1 w.2.2.2.2.2.1 w.2.2.2.2.2.2 (f + 1)) x2 x4 x6 x8 x10 x12 x13 x14 x15 x16 x17 x18 x19 x20 (nI s0) (nI (qu s0)) (nI d) (nI (rc d s0)) kc ks p.1 r.1 p.2.1 p.2.2.1 p.2.2.2.1 p.2.2.2.2 k.1 k.2.1 k.2.2.1 k.2.2.2 r.2.1 r.2.2 l.1 l.2.1 l.2.2 s.1 s.2.1 s.2.2 o.1 o.2.1 o.2.2.1 o.2.2.2.1 o.2.2.2.2.1 o.2.2.2.2.2 h w.1 w.2.1 w.2.2.1 w.2.2.2.1 w.2.2.2.2.1 w.2.2.2.2.2.1 w.2.2.2.2.2.2 := by
      unfold wL_law_1357
      refine pl_armed hd4 h1 h2 ?_
      cases ha : amf x6 x8 d s0 with
      | false => exact br_t rfl (nm_r (nI_1 _) hnext)
      | true =>
        refine br_f (by decide) ?_
        by_cases hz : 1 ≤ rc d s0
        · exact br_t (nI_le (a := 1) hz (by omega)) (nm_r (nI_1 _) hnext)
        · have hz0 : rc d s0 = 0 := by omega
          exact br_f (by rw [hz0]; decide) (bX p k r l s h w _ (br_t (ck_stage I HO hd4 ha hz0 hR) (nm_r (nI_1 _) hnext)))
    refine br_f h4 (pq_received HK hd4 h1 h2 (br_c (fun hq => br_c (fun hb => br_t ?_ h1357) fun _ => h1357) fun _ => h1357))
    have hq2 : qu s0 = 2 := (nI_eq (b := 2) (by omega) (by omega)).mp hq
    have hb' := (bt_t (x := x14) (show d < 32 by omega)).mp hb
    have X := I.2.2.2.2.2.2.2.2.2.2.1 d s0 hd4 hq2 (Or.inl (by rw [hnq d hd4]; exact hb'))
    exact nI_le (b := 1) X.1 (by omega)
/-- the checks of every serial -/
theorem lw_1280 {p : TP} {k : TK} {r : TR} {l s : TL} {o : TO} {h : TA} {w : TW} {L : Nat} {xs : Nat → Int32} {post : Int32 → Prop} {J47 : TJ} {x2 x4 x6 x8 x10 : Int64} {x12 x13 x14 x15 x16 x17 x18 x19 x20 : Int32} {kc ks : Nat}
    {O W : Nat → List N5} {H : Nat → Nat → Bool} {up pe : Nat → Bool} {S : Nat → List (Int32 × Nat)} {rc : Nat → Nat → Nat} {ac ov : Nat → Nat} {n : Nat} {qu : Nat → Nat} {nq : Nat → Bool} (I : PINV O W H up pe S rc ac n qu (amf x6 x8) nq) (HO : pc_O o O) (HK : pc_K k rc ac ov) (hrc : ∀ d s, rc d s < 2 ^ 30) (hnq : ∀ d, d < 4 → nq d = bt x14 d) (hpm : ∀ s, 1 ≤ s → s ≤ 24 → bt x12 (s - 1) = decide (s ≤ n)) (hqu : ∀ s, 1 ≤ s → s ≤ n → qu s = nfo x2 x4 s / 8 ∧ qu s ≤ 2)
    (h0 : x20 = 0 → J47 x2 x4 x6 x8 x10 x12 x13 x14 x15 x16 x17 (x19 + 1) p.1 r.1 p.2.1 p.2.2.1 p.2.2.2.1 p.2.2.2.2 k.1 k.2.1 k.2.2.1 k.2.2.2 r.2.1 r.2.2 l.1 l.2.1 l.2.2 s.1 s.2.1 s.2.2 o.1 o.2.1 o.2.2.1 o.2.2.2.1 o.2.2.2.2.1 o.2.2.2.2.2 h w.1 w.2.1 w.2.2.1 w.2.2.2.1 w.2.2.2.2.1 w.2.2.2.2.2.1 w.2.2.2.2.2.2) (h1 : ¬ x20 = 0 → ¬ x16 + (-1) = 0 → J47 x2 x4 x6 x8 x10 x12 x13 x14 x15 (x16 + (-1)) x17 (x19 + 1) p.1 r.1 p.2.1 p.2.2.1 p.2.2.2.1 p.2.2.2.2 k.1 k.2.1 k.2.2.1 k.2.2.2 r.2.1 r.2.2 l.1 l.2.1 l.2.2 s.1 s.2.1 s.2.2 o.1 o.2.1 o.2.2.1 o.2.2.2.1 o.2.2.2.2.1 o.2.2.2.2.2 h w.1 w.2.1 w.2.2.1 w.2.2.2.1 w.2.2.2.2.1 w.2.2.2.2.2.1 w.2.2.2.2.2.2) (h2 : ¬ x20 = 0 → x16 + (-1) = 0 → ∃ fu1419, wL_law_1419 post L xs J47 x2 x4 x6 x8 x10 x12 x13 x14 x15 (x16 + (-1)) x17 x18 x19 kc ks p.1 r.1 p.2.1 p.2.2.1 p.2.2.2.1 p.2.2.2.2 k.1 k.2.1 k.2.2.1 k.2.2.2 r.2.1 r.2.2 l.1 l.2.1 l.2.2 s.1 s.2.1 s.2.2 o.1 o.2.1 o.2.2.1 o.2.2.2.1 o.2.2.2.2.1 o.2.2.2.2.2 h w.1 w.2.1 w.2.2.1 w.2.2.2.1 w.2.2.2.2.1 w.2.2.2.2.2.1 w.2.2.2.2.2.2 fu1419 1) :
    ∀ f s0, s0 + f = 25 → 1 ≤ s0 → wL_law_1280 post L xs J47 x2 x4 x6 x8 x10 x12 x13 x14 x15 x16 x17 x18 x19 x20 kc ks p.1 r.1 p.2.1 p.2.2.1 p.2.2.2.1 p.2.2.2.2 k.1 k.2.1 k.2.2.1 k.2.2.2 r.2.1 r.2.2 l.1 l.2.1 l.2.2 s.1 s.2.1 s.2.2 o.1 o.2.1 o.2.2.1 o.2.2.2.1 o.2.2.2.2.1 o.2.2.2.2.2 h w.1 w.2.1 w.2.2.1 w.2.2.2.1 w.2.2.2.2.1 w.2.2.2.2.2.1 w.2.2.2.2.2.2 (f + 1) (nI s0) := by
  intro f
  induction f with
  | zero =>
    intro s0 hs h
    obtain rfl : s0 = 25 := by omega
    exact br_t (by decide) (br_c (fun z => nm_e (h0 z)) fun z => nm_e (br_c (fun y => h2 z y) fun y => nm_e (h1 z y)))
  | succ f ih =>
    intro s0 hs h
    have hnext := ih (s0 + 1) (by omega) (by omega)
    have h24 : ¬ (24 : Int32) < nI s0 := nI_nlt (a := 24) (by omega) (by omega)
    have e1 : nI s0 - 1 = nI (s0 - 1) := pk_sub (a := s0) (b := 1) h
    have hb := bt_t (x := x12) (show s0 - 1 < 32 by omega)
    rw [← e1, hpm s0 h (by omega)] at hb
    by_cases hn : s0 ≤ n
    · refine br_f h24 (br_f (fun z => by have := hb.mp z; rw [decide_eq_true hn] at this; exact absurd this (by decide)) (pl_info h (by omega) (nm_r (e' := nI (qu s0)) ?_ ⟨5, lw_1317 I HO HK hrc hnq h (by omega) (hqu s0 h hn).2 hnext 4 0 (by omega)⟩)))
      rw [pn_shr3 (nfo_lt _ _ _), (hqu s0 h hn).1]
    · exact br_f h24 (br_t (hb.mpr (decide_eq_false hn)) (nm_r (nI_1 _) hnext))
end Q28
