section Q39
/-- a turn outside a drain; a publishing one is given -/
theorem lw_t0 {p : TP} {k : TK} {r : TR} {l s : TL} {o : TO} {h : TA} {w : TW} {L : Nat} {xs : Nat → Int32} {post : Int32 → Prop} {J47 : TJ} {x2 x4 x6 x8 x10 x24 x26 : Int64} {x12 x13 x14 x15 x18 x23 : Int32} {kc ks st dd c op : Nat}
    {O W : Nat → List N5} {H : Nat → Nat → Bool} {up se pe : Nat → Bool} {S : Nat → List (Int32 × Nat)} {rc : Nat → Nat → Nat} {ac ov : Nat → Nat} {n : Nat} {tp : Nat → Int32} {qu : Nat → Nat}
    (C : LC x2 x4 x6 x8 x12 x13 x14 st (XS p k r l s o h w) O W H up se pe S rc ac ov n tp qu) (hst : 8 * (st + 1) < 2 ^ 30) (hd : dd < 4) (hc : c < 4) (hop16 : op < 16) (hE : ELG se pe S x24) (hop : ∀ d, d < 4 → opv x26 d = ov d % 2 ^ 16) (hJ : JOK J47 x15 (st + 1))
    (g1 : 6 ≤ op → op ≤ 8 → (W c).length ≤ 24) (g2 : 3 ≤ op → op ≤ 5 → ∀ d, d < 4 → (W (4 + d)).length ≤ 24) (g3 : op = 9 → (W (4 + c)).length ≤ 20)
    (hpub : op ≤ 2 → ∀ (t qn : Nat) (z0 z2 : Int32), t < 8 → qn ≤ 2 → (z0 = 0 ∨ z0 = 4) → x23 &&& 7 = nI t → wL_law_635 post L xs J47 x2 x4 x6 x8 x10 x12 x13 x14 x15 0 (nI dd) x18 (nI st) 0 x23 x24 x26 (nI qn) z0 (nI qn) z2 (tcv t) (nI c) kc ks p.1 r.1 p.2.1 p.2.2.1 p.2.2.2.1 p.2.2.2.2 k.1 k.2.1 k.2.2.1 k.2.2.2 r.2.1 r.2.2 l.1 l.2.1 l.2.2 s.1 s.2.1 s.2.2 o.1 o.2.1 o.2.2.1 o.2.2.2.1 o.2.2.2.2.1 o.2.2.2.2.2 h w.1 w.2.1 w.2.2.1 w.2.2.2.1 w.2.2.2.2.1 w.2.2.2.2.2.1 w.2.2.2.2.2.2) :
    wL_law_366 post L xs J47 x2 x4 x6 x8 x10 x12 x13 x14 x15 0 (nI dd) x18 (nI st) 0 (nI op) (nI c) x23 kc ks p.1 r.1 p.2.1 p.2.2.1 p.2.2.2.1 p.2.2.2.2 k.1 k.2.1 k.2.2.1 k.2.2.2 r.2.1 r.2.2 l.1 l.2.1 l.2.2 s.1 s.2.1 s.2.2 o.1 o.2.1 o.2.2.1 o.2.2.2.1 o.2.2.2.2.1 o.2.2.2.2.2 h w.1 w.2.1 w.2.2.1 w.2.2.2.1 w.2.2.2.2.1 w.2.2.2.2.2.1 w.2.2.2.2.2.2 1 x24 x26 4 := by
  have C0 := C
  obtain ⟨P, I, hn24, hW, hrc, hac, hov, hpm, hqu, htp, hacc⟩ := C
  obtain ⟨t, ht, et⟩ := and7 x23
  have hrc' : ∀ d s', rc d s' ≤ 8 * (st + 1) := fun d s' => by have := hrc d s'; omega
  have hac' : ∀ s', ac s' ≤ 8 * (st + 1) := fun s' => by have := hac s'; omega
  have hov' : ∀ d, d < 4 → ov d ≤ 8 * (st + 1) := fun d hd' => by have := hov d hd'; omega
  refine br_t (by decide) (br_t rfl ?_)
  by_cases h2 : op ≤ 2
  · obtain ⟨m, hm, em⟩ := and3 (x23 >>> ((5 : Int32) &&& 31))
    have e2 : nI m - nI m / 3 * 3 = nI (m % 3) := pk_rem (a := m) (d := 3) (by omega) (by omega) (by omega)
    refine br_f (nI_nlt (a := 2) (by omega) (by omega)) ⟨by decide, nm_r (e' := nI (m % 3)) (by rw [em, e2]) ?_⟩
    rw [et]
    refine pl_tc ht (br_c (fun _ => ?_) fun _ => ?_)
    · exact hpub h2 t (m % 3) 0 _ ht (by omega) (Or.inl rfl) et
    · exact hpub h2 t (m % 3) 4 _ ht (by omega) (Or.inr rfl) et
  · refine br_t (nI_lt (a := 2) (by omega) (by omega)) ?_
    by_cases h5 : op ≤ 5
    · -- an up-packet is taken
      refine br_f (nI_nlt (a := 5) (by omega) (by omega)) ?_
      have hl := g2 (by omega) h5
      obtain ⟨u', O2, W2, H2, ac2, ov2, R, P', I', M, A, ha2, hv2, hX⟩ := ql_tb P I hc (fun d hd' => by have := hl d hd'; omega)
      obtain ⟨p2, k2, r2, l2, s2, o2, h2, w2, rfl, HP, HK, HR, HL, HS, HO, HH, HW⟩ := P'
      refine hX _ (lw_call HP HK HR HL HS HO HH HW I' hn24 hst (fun x hx => ?_) hrc' (fun s' => ?_) (fun d hd' => ?_) hpm hqu htp hE hop (fun d hd' => ⟨(hv2 d hd').1, by have := (hv2 d hd').2.1; omega⟩) hacc (fun s' => (ha2 s').1) (fun s' d hd' z1 z2 z3 z4 z5 z6 => ⟨z5, A s' d hd' z1 z2 z3 z4 z6⟩) hd (Or.inl ⟨rfl, rfl⟩) hJ)
      · by_cases a : x < 4
        · by_cases b : x = c
          · subst b
            have := M.2.1
            have := hW x hx
            omega
          · rw [M.1 x a b]; exact hW x hx
        · obtain ⟨d', rfl⟩ : ∃ d', x = 4 + d' := ⟨x - 4, by omega⟩
          have hl' := hl d' (by omega)
          by_cases b : d' = c
          · subst b
            have := M.2.2.1
            omega
          · have := (M.2.2.2.1 d' (by omega) b).1
            omega
      · have := (ha2 s').2
        have := hac s'
        omega
      · have := (hv2 d hd').2.1
        have := hov d hd'
        omega
    · refine br_t (nI_lt (a := 5) (by omega) (by omega)) ?_
      by_cases h8 : op ≤ 8
      · -- a down-packet is taken
        refine br_f (nI_nlt (a := 8) (by omega) (by omega)) ?_
        have hl := g1 (by omega) h8
        obtain ⟨u', O2, W2, H2, rc2, R, P', I', M, hr2, hX⟩ := ql_tc P I hc (by omega)
        obtain ⟨p2, k2, r2, l2, s2, o2, h2, w2, rfl, HP, HK, HR, HL, HS, HO, HH, HW⟩ := P'
        refine hX _ (lw_call HP HK HR HL HS HO HH HW I' hn24 hst (fun x hx => ?_) (fun d s' => ?_) hac' hov' hpm hqu htp hE hop (fun d _ => ⟨Nat.le_refl _, by omega⟩) hacc (fun _ => Nat.le_refl _) (fun s' d _ z1 z2 => by omega) hd (Or.inl ⟨rfl, rfl⟩) hJ)
        · by_cases a : x = c
          · subst a
            have := M.2.1
            omega
          · by_cases b : x = 4 + c
            · subst b
              have := M.2.2.1
              have := hW (4 + c) hx
              omega
            · rw [M.1 x a b]; exact hW x hx
        · have := hr2 d s'
          have := hrc d s'
          omega
      · refine br_t (nI_lt (a := 8) (by omega) (by omega)) ?_
        by_cases h9 : op = 9
        · -- a subscription
          subst h9
          have hl := g3 rfl
          obtain ⟨q, hq, eq⟩ := and3 (x23 >>> ((3 : Int32) &&& 31))
          refine br_t rfl (nm_r (e' := nI q) eq ?_)
          rw [et]
          refine pl_fc ht ?_
          rcases ql_sub P I hc (fcv t) (nI q) (by omega) with ⟨R, hR, hX⟩ | ⟨u', O2, W2, S2, ov2, qn, N, hQ, hqn, hN, P', hI', hw1, hw2, hv2, hX⟩
          · obtain ⟨p2, k2, r2, l2, s2, o2, h2, w2, eu, HP, HK, HR, HL, HS, HO, HH, HW⟩ := P
            refine hX _ ?_
            rw [eu]
            exact (br_t hR (lw_call HP HK HR HL HS HO HH HW I hn24 hst hW hrc' hac' hov' hpm hqu htp hE hop (fun d _ => ⟨Nat.le_refl _, by omega⟩) hacc (fun _ => Nat.le_refl _) (fun s' d _ z1 z2 => by omega) hd (Or.inl ⟨rfl, rfl⟩) hJ))
          · obtain ⟨p2, k2, r2, l2, s2, o2, h2, w2, rfl, HP, HK, HR, HL, HS, HO, HH, HW⟩ := P'
            have eqn : q = qn := (nI_eq (by omega) (by omega)).mp hQ
            have go : ∀ y14 : Int32, PINV O2 W2 H up pe S2 rc ac n qu (amf x6 x8) (bt y14) → ∃ fu951, wL_law_951 post L xs J47 x2 x4 x6 x8 x10 x12 x13 y14 x15 0 (nI dd) x18 (nI st) 0 x24 x26 kc ks p2.1 r2.1 p2.2.1 p2.2.2.1 p2.2.2.2.1 p2.2.2.2.2 k2.1 k2.2.1 k2.2.2.1 k2.2.2.2 r2.2.1 r2.2.2 l2.1 l2.2.1 l2.2.2 s2.1 s2.2.1 s2.2.2 o2.1 o2.2.1 o2.2.2.1 o2.2.2.2.1 o2.2.2.2.2.1 o2.2.2.2.2.2 h2 w2.1 w2.2.1 w2.2.2.1 w2.2.2.2.1 w2.2.2.2.2.1 w2.2.2.2.2.2.1 w2.2.2.2.2.2.2 fu951 0 0 := by
              intro y14 I'
              refine lw_call HP HK HR HL HS HO HH HW I' hn24 hst (fun x hx => ?_) hrc' hac' (fun d hd' => ?_) hpm hqu htp hE hop (fun d _ => ⟨(hv2 d).1, by have := (hv2 d).2; omega⟩) hacc (fun _ => Nat.le_refl _) (fun s' d _ z1 z2 => by omega) hd (Or.inl ⟨rfl, rfl⟩) hJ
              · by_cases a : x = 4 + c
                · subst a
                  omega
                · rw [hw1 x a]; exact hW x hx
              · have := (hv2 d).2
                have := hov d hd'
                omega
            refine hX _ (br_f (nI_nlt (b := 0) (by omega) (by omega)) (br_c (fun z => go x14 (hI' _ (fun _ _ y => y) (fun _ => ?_))) fun z => nm_e (go _ (hI' _ (fun d hd' y => ?_) (fun y => ?_)))))
            · rw [← eqn]
              exact (nI_eq (b := 2) (by omega) (by omega)).mp z
            · rw [bt_s (by omega) (by omega), Bool.or_eq_false_iff] at y
              exact y.1
            · rw [bt_s (by omega) (by omega), decide_eq_true rfl, Bool.or_true] at y
              exact absurd y (by decide)
        · refine br_f (fun z => h9 ((nI_eq (b := 9) (by omega) (by omega)).mp z)) ?_
          by_cases h10 : op = 10
          · subst h10
            refine br_t rfl ?_
            rw [et]
            refine pl_fc ht ?_
            obtain ⟨u', S2, R, P', I', hX⟩ := ql_uns P I hc (fcv t)
            obtain ⟨p2, k2, r2, l2, s2, o2, h2, w2, rfl, HP, HK, HR, HL, HS, HO, HH, HW⟩ := P'
            exact hX _ (lw_call HP HK HR HL HS HO HH HW I' hn24 hst hW hrc' hac' hov' hpm hqu htp hE hop (fun d _ => ⟨Nat.le_refl _, by omega⟩) hacc (fun _ => Nat.le_refl _) (fun s' d _ z1 z2 => by omega) hd (Or.inl ⟨rfl, rfl⟩) hJ)
          · refine br_f (fun z => h10 ((nI_eq (b := 10) (by omega) (by omega)).mp z)) (br_c (fun _ => ?_) fun _ => ?_)
            · obtain ⟨u', O2, W2, H2, up2, se2, pe2, S2, R, P', I', M, hX⟩ := ql_disc P I hc
              obtain ⟨p2, k2, r2, l2, s2, o2, h2, w2, rfl, HP, HK, HR, HL, HS, HO, HH, HW⟩ := P'
              exact hX _ (lw_call HP HK HR HL HS HO HH HW I' hn24 hst (fun x hx => Nat.le_trans (M x) (hW x hx)) hrc' hac' hov' hpm hqu htp hE hop (fun d _ => ⟨Nat.le_refl _, by omega⟩) hacc (fun _ => Nat.le_refl _) (fun s' d _ z1 z2 => by omega) hd (Or.inl ⟨rfl, rfl⟩) hJ)
            · exact br_c (fun _ => lw_882 C0 hst hd hc hE hop hJ) fun _ => lw_882 C0 hst hd hc hE hop hJ
end Q39
