section Q37
/-- a turn of a drain -/
theorem lw_t1 {p : TP} {k : TK} {r : TR} {l s : TL} {o : TO} {h : TA} {w : TW} {L : Nat} {xs : Nat → Int32} {post : Int32 → Prop} {J47 : TJ} {x2 x4 x6 x8 x10 x24 x26 : Int64} {x12 x13 x14 x15 x18 x21 x22 x23 : Int32} {kc ks st dd dl : Nat}
    {O W : Nat → List N5} {H : Nat → Nat → Bool} {up se pe : Nat → Bool} {S : Nat → List (Int32 × Nat)} {rc : Nat → Nat → Nat} {ac ov : Nat → Nat} {n : Nat} {tp : Nat → Int32} {qu : Nat → Nat}
    (C : LC x2 x4 x6 x8 x12 x13 x14 st (XS p k r l s o h w) O W H up se pe S rc ac ov n tp qu) (hst : 8 * (st + 1) < 2 ^ 30) (hd : dd < 4) (hdl : dl + 1 ≤ 200) (hD : DR W up dd (dl + 1)) (hm : ∀ s, 1 ≤ s → s ≤ 24 → lb x10 (s - 1) = true → amf x6 x8 dd s = true) (hE : ELG se pe S x24) (hop : ∀ d, d < 4 → opv x26 d = ov d % 2 ^ 16) (hJ : JOK J47 x15 (st + 1)) :
    wL_law_366 post L xs J47 x2 x4 x6 x8 x10 x12 x13 x14 x15 (nI (dl + 1)) (nI dd) x18 (nI st) 1 x21 x22 x23 kc ks p.1 r.1 p.2.1 p.2.2.1 p.2.2.2.1 p.2.2.2.2 k.1 k.2.1 k.2.2.1 k.2.2.2 r.2.1 r.2.2 l.1 l.2.1 l.2.2 s.1 s.2.1 s.2.2 o.1 o.2.1 o.2.2.1 o.2.2.2.1 o.2.2.2.2.1 o.2.2.2.2.2 h w.1 w.2.1 w.2.2.1 w.2.2.2.1 w.2.2.2.2.1 w.2.2.2.2.2.1 w.2.2.2.2.2.2 1 x24 x26 4 := by
  obtain ⟨P, I, hn24, hW, hrc, hac, hov, hpm, hqu, htp, hacc⟩ := C
  have e1 : (200 : Int32) - nI (dl + 1) = nI (200 - (dl + 1)) := pk_sub (a := 200) (b := dl + 1) hdl
  have e2 : nI (200 - (dl + 1)) - nI (200 - (dl + 1)) / 2 * 2 = nI ((200 - (dl + 1)) % 2) := pk_rem (a := 200 - (dl + 1)) (d := 2) (by omega) (by omega) (by omega)
  have hD12 := hD.2.1
  refine br_t (by decide) (br_f (by decide) ⟨by decide, ?_⟩)
  rw [e1, e2]
  by_cases hp : (dl + 1) % 2 = 0
  · obtain ⟨u', O2, W2, H2, rc2, R, P', I', M, hr2, hX⟩ := ql_tc P I hd (by omega)
    obtain ⟨p2, k2, r2, l2, s2, o2, h2, w2, rfl, HP, HK, HR, HL, HS, HO, HH, HW⟩ := P'
    have D2 := DR_c hd hD hp M
    have D12 := D2.2.1
    refine br_t (by rw [show (200 - (dl + 1)) % 2 = 0 by omega]; rfl) (hX _ ?_)
    refine lw_call HP HK HR HL HS HO HH HW I' hn24 hst (fun x hx => ?_) (fun d s' => ?_) (fun s' => ?_) (fun d hd' => ?_) hpm hqu htp hE hop (fun d _ => ⟨Nat.le_refl _, by omega⟩) hacc (fun _ => Nat.le_refl _) (fun s' d _ z1 z2 => by omega) hd (Or.inr ⟨by decide, dl, rfl, hdl, D2, rfl, hm⟩) hJ
    · by_cases a : x = dd
      · subst a; omega
      · by_cases b : x = 4 + dd
        · subst b; omega
        · rw [M.1 x a b]; exact hW x hx
    · have := hr2 d s'
      have := hrc d s'
      omega
    · have := hac s'
      omega
    · have := hov d hd'
      omega
  · have hl : ∀ d, d < 4 → (W (4 + d)).length ≤ 30 := fun d hd' => Nat.le_trans (hW (4 + d) (by omega)) (by omega)
    have hOl : (O (4 + dd)).length < 16 := by
      have T := I.2.1 dd hd
      rw [hD.1] at T
      obtain ⟨_, _, _, _, _, o1, _, _, _, _, _, _, _, _, HO, _, _⟩ := P
      have := TOK_len T (fun e he => by
        have hok := (HO.1 (4 + dd) (by omega)).2.1 e he
        exact ⟨hok.2.2.2.2.1, hok.2.2.2.2.2.1⟩)
      omega
    obtain ⟨u', O2, W2, H2, ac2, ov2, R, P', I', M, A, ha2, hv2, hX⟩ := ql_tb P I hd hl
    obtain ⟨p2, k2, r2, l2, s2, o2, h2, w2, rfl, HP, HK, HR, HL, HS, HO, HH, HW⟩ := P'
    have D2 := DR_b hd hD (by omega) M
    have D12 := D2.2.1
    have D8 := D2.2.2.1
    refine br_f (by rw [show (200 - (dl + 1)) % 2 = 1 by omega]; decide) (hX _ ?_)
    refine lw_call HP HK HR HL HS HO HH HW I' hn24 hst (fun x hx => ?_) (fun d s' => ?_) (fun s' => ?_) (fun d hd' => ?_) hpm hqu htp hE hop (fun d hd' => ⟨(hv2 d hd').1, by have := (hv2 d hd').2.1; omega⟩) hacc (fun s' => (ha2 s').1) (fun s' d hd' z1 z2 z3 z4 z5 z6 => ⟨z5, A s' d hd' z1 z2 z3 z4 z6⟩) hd (Or.inr ⟨by decide, dl, rfl, hdl, D2, (hv2 dd hd).2.2 hOl, hm⟩) hJ
    · by_cases a : x < 4
      · by_cases b : x = dd
        · subst b; omega
        · rw [M.1 x a b]; exact hW x hx
      · obtain ⟨d', rfl⟩ : ∃ d', x = 4 + d' := ⟨x - 4, by omega⟩
        by_cases b : d' = dd
        · subst b; omega
        · have := D8 d' (by omega) b
          omega
    · have := hrc d s'
      omega
    · have := (ha2 s').2
      have := hac s'
      omega
    · have := (hv2 d hd').2.1
      have := hov d hd'
      omega
end Q37
