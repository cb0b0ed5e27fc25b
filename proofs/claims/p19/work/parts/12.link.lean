section Q12
def ps_zr (f : TA) (a b : Nat) : TA := fun i => if a ≤ i ∧ i < b then 0 else f i
theorem ps_zr0 {f : TA} {a : Nat} : ps_zr f a a = f := by
  funext i
  exact if_neg (by omega)
theorem ps_zrS {f : TA} {a b : Nat} (h : a ≤ b) : upd (ps_zr f a b) b 0 = ps_zr f a (b + 1) := by
  funext i
  simp only [upd, ps_zr]
  by_cases h1 : i = b
  · rw [if_pos h1, if_pos (by omega)]
  · rw [if_neg h1]
    by_cases h2 : a ≤ i ∧ i < b
    · rw [if_pos h2, if_pos (by omega)]
    · rw [if_neg h2, if_neg (by omega)]
theorem px_es {p : TP} {k : TK} {r : TR} {l s : TL} {o : TO} {h : TA} {w : TW} {x : Nat} (hx : x < 8) {post : St1 → Prop} (hp : post (XS p k r l s (upd o.1 x 0, o.2) (ps_zr h (x * 17 + 1) (x * 17 + 17)) w)) : wpX_emptySide post (XS p k r l s o h w) (nI x) := by
  have cx : (nI x).toNatClampNeg = x := nI_clamp (by omega)
  have hl : ∀ d i, i + d = 17 → 1 ≤ i → wX_emptySide_9 post (nI x) p.1 r.1 (d + 1) (nI i) p.2.1 p.2.2.1 p.2.2.2.1 p.2.2.2.2 k.1 k.2.1 k.2.2.1 k.2.2.2 r.2.1 r.2.2 l.1 l.2.1 l.2.2 s.1 s.2.1 s.2.2 (upd o.1 x 0) o.2.1 o.2.2.1 o.2.2.2.1 o.2.2.2.2.1 o.2.2.2.2.2 (ps_zr h (x * 17 + 1) (x * 17 + i)) w.1 w.2.1 w.2.2.1 w.2.2.2.1 w.2.2.2.2.1 w.2.2.2.2.2.1 w.2.2.2.2.2.2 := by
    intro d
    induction d with
    | zero =>
      intro i hi h1
      obtain rfl : i = 17 := by omega
      exact br_t (by decide) hp
    | succ d ih =>
      intro i hi h1
      have ea : nI x * 17 + nI i = nI (x * 17 + i) := by rw [pn_m17, nI_add]
      have a0 : vp_in (nI x * 17 + nI i) 136 := by rw [ea]; exact vp_in_nI (by omega) (by omega)
      exact br_f (nI_nlt (a := 16) (by omega) (by omega)) ⟨a0, nm_r (e' := ps_zr h (x * 17 + 1) (x * 17 + i + 1)) ((pn_u ea (by omega) rfl).trans (ps_zrS (by omega))) (nm_r (nI_1 _) (ih (i + 1) (by omega) (by omega)))⟩
  have hl0 := hl 16 1 (by omega) (by omega)
  rw [ps_zr0] at hl0
  exact ⟨vp_in_nI hx (by omega), nm_r (by rw [cx]) ⟨17, hl0⟩⟩
theorem px_dis {p : TP} {k : TK} {r : TR} {l s : TL} {o : TO} {h : TA} {w : TW} {c : Nat} (hc : c < 4) {post : St1 → Prop} (hp : post (XS p k r (l.1, upd l.2.1 c 0, upd l.2.2 c 0) (upd s.1 c 0, s.2) (upd (upd o.1 c 0) (4 + c) 0, o.2) (ps_zr (ps_zr h (c * 17 + 1) (c * 17 + 17)) ((4 + c) * 17 + 1) ((4 + c) * 17 + 17)) w)) : wpX_discardSession post (XS p k r l s o h w) (nI c) := by
  have cc : (nI c).toNatClampNeg = c := nI_clamp (by omega)
  have i4 : vp_in (nI c) 4 := vp_in_nI hc (by omega)
  refine ⟨i4, nm_r (e' := upd s.1 c 0) (by rw [cc]) ?_⟩
  refine px_es (p := p) (k := k) (r := r) (l := l) (s := (upd s.1 c 0, s.2)) (o := o) (h := h) (w := w) (x := c) (by omega) ?_
  show wpX_emptySide _ (XS p k r l (upd s.1 c 0, s.2) (upd o.1 c 0, o.2) (ps_zr h (c * 17 + 1) (c * 17 + 17)) w) (4 + nI c)
  rw [pn_4a]
  refine px_es (p := p) (k := k) (r := r) (l := l) (s := (upd s.1 c 0, s.2)) (o := (upd o.1 c 0, o.2)) (h := ps_zr h (c * 17 + 1) (c * 17 + 17)) (w := w) (x := 4 + c) (by omega) ?_
  exact ⟨i4, nm_r (by rw [cc]) ⟨i4, nm_r (by rw [cc]) hp⟩⟩
def fF : Nat → Bool := fun _ => false
/-- the groups of a discarded session -/
theorem pq_dis {l s : TL} {o : TO} {h : TA} {up se pe : Nat → Bool} {S : Nat → List (Int32 × Nat)} {O : Nat → List N5} {H : Nat → Nat → Bool} (HL : pc_L l up se pe) (HS : pc_S s S) (HO : pc_O o O) (HH : pc_H h H) {c : Nat} (hc : c < 4) :
    pc_L (l.1, upd l.2.1 c 0, upd l.2.2 c 0) up (fu se c false) (fu pe c false) ∧ pc_S (upd s.1 c 0, s.2) (fu S c []) ∧ pc_O (upd (upd o.1 c 0) (4 + c) 0, o.2) (fu (fu O c []) (4 + c) []) ∧ pc_H (ps_zr (ps_zr h (c * 17 + 1) (c * 17 + 17)) ((4 + c) * 17 + 1) ((4 + c) * 17 + 17)) (fu (fu H c fF) (4 + c) fF) := by
  refine ⟨fun c' hc' => ?_, fun c' hc' => ?_, ⟨fun x hx => ?_, HO.2⟩, fun x i hx h1 h2 => ?_⟩
  · obtain ⟨a1, a2, a3⟩ := HL c' hc'
    refine ⟨a1, ?_, ?_⟩
    · show upd l.2.1 c 0 c' = _
      by_cases e : c' = c
      · rw [e, pk_us, fu_s]; rfl
      · rw [pk_un e, fu_n e]; exact a2
    · show upd l.2.2 c 0 c' = _
      by_cases e : c' = c
      · rw [e, pk_us, fu_s]; rfl
      · rw [pk_un e, fu_n e]; exact a3
  · by_cases e : c' = c
    · subst e
      rw [fu_s]
      exact ⟨by decide, fun f hf => absurd hf (by simp), pk_us, fun j f hf => absurd hf (by simp)⟩
    · rw [fu_n e]
      obtain ⟨a1, a2, a3, a4⟩ := HS c' hc'
      exact ⟨a1, a2, (pk_un e).trans a3, a4⟩
  · by_cases e : x = 4 + c
    · subst e
      rw [fu_s]
      exact ⟨by decide, fun f hf => absurd hf (by simp), pk_us, fun j f hf => absurd hf (by simp)⟩
    · by_cases e2 : x = c
      · subst e2
        rw [fu_n e, fu_s]
        exact ⟨by decide, fun f hf => absurd hf (by simp), (pk_un e).trans pk_us, fun j f hf => absurd hf (by simp)⟩
      · rw [fu_n e, fu_n e2]
        obtain ⟨a1, a2, a3, a4⟩ := HO.1 x hx
        exact ⟨a1, a2, ((pk_un e).trans (pk_un e2)).trans a3, a4⟩
  · unfold ps_zr
    by_cases e : x = 4 + c
    · subst e
      rw [fu_s, if_pos (by omega)]
      rfl
    · rw [fu_n e, if_neg (by omega)]
      by_cases e2 : x = c
      · subst e2
        rw [fu_s, if_pos (by omega)]
        rfl
      · rw [fu_n e2, if_neg (by omega)]
        exact HH x i hx h1 h2
theorem rsn_ok {e : N5} (h : eo_ok e) : pw_ok (rsn e) := by
  obtain ⟨a1, a2, a3, a4, a5, a6, a7, a8, a9⟩ := h
  unfold rsn
  by_cases hs : e.2.2.2.2 = 1
  · rw [if_pos hs]
    exact ⟨Nat.le_refl 1, (by decide : 1 ≤ 5), a6, fun _ => ⟨a1, a2⟩, a2, a4, a7, fun _ => Or.inr a5, fun _ => a5⟩
  · rw [if_neg hs]
    exact ⟨(by decide : 1 ≤ 4), (by decide : 4 ≤ 5), a6, fun z => absurd z (by decide : ¬ (4 : Nat) = 1), Nat.zero_le _, Nat.zero_le _, Nat.zero_le _, fun z => absurd z (by decide : ¬ (4 : Nat) = 1), fun _ => a5⟩
/-- a side's entries sent again -/
theorem pq_rs {o : TO} {w : TW} {O W : Nat → List N5} (HO : pc_O o O) (HW : pc_W w W) {x : Nat} (hx : x < 8) (hl : (W x).length + (O x).length ≤ 32) : ∃ w', pc_W w' (fu W x (W x ++ (O x).map rsn))
    ∧ ∀ (p : TP) (k : TK) (r : TR) (l s : TL) (h : TA) (post : St1 → Prop), post (XS p k r l s o h w') → wpX_resend post (XS p k r l s o h w) (nI x) := by
  obtain ⟨a1, a2, a3, a4⟩ := HO.1 x hx
  have cx : (nI x).toNatClampNeg = x := nI_clamp (by omega)
  have hlp : ∀ d i, i + d = (O x).length → ∀ (w : TW) (V : List N5), pc_W w (fu W x V) → V.length + d ≤ 32 → ∃ w', pc_W w' (fu W x (V ++ ((O x).drop i).map rsn))
      ∧ ∀ (p : TP) (k : TK) (r : TR) (l s : TL) (h : TA) (post : St1 → Prop), post (XS p k r l s o h w') → wX_resend_17 post (nI x) (nI (x * 16 + (O x).length)) (d + 1) (nI (x * 16 + i)) p.1 r.1 p.2.1 p.2.2.1 p.2.2.2.1 p.2.2.2.2 k.1 k.2.1 k.2.2.1 k.2.2.2 r.2.1 r.2.2 l.1 l.2.1 l.2.2 s.1 s.2.1 s.2.2 o.1 o.2.1 o.2.2.1 o.2.2.2.1 o.2.2.2.2.1 o.2.2.2.2.2 h w.1 w.2.1 w.2.2.1 w.2.2.2.1 w.2.2.2.2.1 w.2.2.2.2.2.1 w.2.2.2.2.2.2 := by
    intro d
    induction d with
    | zero =>
      intro i hi w V HV hV
      have hd : (O x).drop i = [] := List.drop_eq_nil_of_le (by omega)
      rw [hd]
      refine ⟨w, by rw [List.map_nil, List.append_nil]; exact HV, fun p k r l s h post hp => br_t (nI_le (by omega) (by omega)) hp⟩
    | succ d ih =>
      intro i hi w V HV hV
      obtain ⟨e, he⟩ := ls_ex (show i < (O x).length by omega)
      have hok := a2 e (ls_mem he)
      have h5 := a4 i e he
      have g1 : o.2.1 (x * 16 + i) = nI e.1 := congrArg (fun t : T5 => t.1) h5
      have g2 : o.2.2.1 (x * 16 + i) = nI e.2.1 := congrArg (fun t : T5 => t.2.1) h5
      have g3 : o.2.2.2.1 (x * 16 + i) = nI e.2.2.1 := congrArg (fun t : T5 => t.2.2.1) h5
      have g4 : o.2.2.2.2.1 (x * 16 + i) = nI e.2.2.2.1 := congrArg (fun t : T5 => t.2.2.2.1) h5
      have g5 : o.2.2.2.2.2 (x * 16 + i) = nI e.2.2.2.2 := congrArg (fun t : T5 => t.2.2.2.2) h5
      have cX : (nI (x * 16 + i)).toNatClampNeg = x * 16 + i := nI_clamp (by omega)
      have iX : vp_in (nI (x * 16 + i)) 128 := vp_in_nI (by omega) (by omega)
      have nX : ¬ nI (x * 16 + (O x).length) ≤ nI (x * 16 + i) := nI_ge (by omega) (by omega)
      have hdrop : (O x).drop i = e :: (O x).drop (i + 1) := by
        have hil : i < (O x).length := by omega
        rw [List.drop_eq_getElem_cons hil]
        have := List.getElem?_eq_getElem hil
        rw [he] at this
        rw [Option.some.inj this]
      have hlen : (fu W x V x).length < 32 := by rw [fu_s]; omega
      obtain ⟨w1, b1, b2⟩ := pq_put HV hx hlen (t := rsn e) (rsn_ok hok)
      rw [fu_s] at b1
      have hff : fu (fu W x V) x (V ++ [rsn e]) = fu W x (V ++ [rsn e]) := by
        funext y
        by_cases hy : y = x
        · rw [hy, fu_s, fu_s]
        · rw [fu_n hy, fu_n hy, fu_n hy]
      rw [hff] at b1
      obtain ⟨w', c1, c2⟩ := ih (i + 1) (by omega) w1 (V ++ [rsn e]) b1 (by rw [List.length_append, List.length_singleton]; omega)
      refine ⟨w', ?_, fun p k r l s h post hp => br_f nX ⟨iX, ?_⟩⟩
      · rw [hdrop, List.map_cons]
        rw [List.append_assoc, List.singleton_append] at c1
        exact c1
      · have b2' := b2 p k r l s o h
        by_cases hs : e.2.2.2.2 = 1
        · have hr : rsn e = (1, e.2.2.1, e.1, e.2.1, e.2.2.2.1) := if_pos hs
          rw [hr] at b2'
          refine br_t (by rw [cX, g5, hs]; rfl) ⟨iX, iX, iX, iX, ?_⟩
          rw [cX, g1, g2, g3, g4]
          exact b2' _ (nm_r (nI_1 _) (c2 p k r l s h post hp))
        · have hr : rsn e = (4, e.2.2.1, 0, 0, 0) := if_neg hs
          rw [hr] at b2'
          refine br_f (by rw [cX, g5]; intro z; exact hs ((nI_eq (b := 1) (by have := hok.2.2.2.2.2.2.2.2; omega) (by omega)).mp z)) ⟨iX, ?_⟩
          rw [cX, g3]
          unfold wpX_putReply
          exact b2' _ (nm_r (nI_1 _) (c2 p k r l s h post hp))
  have H0 : pc_W w (fu W x (W x)) := by rw [fu_id]; exact HW
  obtain ⟨w', c1, c2⟩ := hlp (O x).length 0 (by omega) w (W x) H0 hl
  rw [List.drop_zero] at c1
  exact ⟨w', c1, fun p k r l s h post hp => nm_r (pn_m16 x) ⟨vp_in_nI hx (by omega), nm_r (e' := nI (x * 16 + (O x).length)) (by rw [cx, a3, nI_add]) ⟨(O x).length + 1, c2 p k r l s h post hp⟩⟩⟩
end Q12
