section P7
/-! the first place of a value -/
def ps_F (f : TA) (a n : Nat) (I : Int32) (j : Nat) : Prop := j ≤ n ∧ (∀ i, i < j → f (a + i) ≠ I) ∧ (j < n → f (a + j) = I)
theorem ps_F_ex (f : TA) (a : Nat) (I : Int32) : ∀ n, ∃ j, ps_F f a n I j := by
  intro n
  induction n with
  | zero => exact ⟨0, Nat.le_refl 0, fun i hi => absurd hi (by omega), fun h => absurd h (by omega)⟩
  | succ n ih =>
    obtain ⟨j, h1, h2, h3⟩ := ih
    by_cases hj : j < n
    · exact ⟨j, by omega, h2, fun _ => h3 hj⟩
    · obtain rfl : j = n := by omega
      by_cases e : f (a + j) = I
      · exact ⟨j, by omega, h2, fun _ => e⟩
      · refine ⟨j + 1, by omega, fun i hi => ?_, fun h => absurd h (by omega)⟩
        by_cases e2 : i = j
        · rw [e2]; exact e
        · exact h2 i (by omega)
theorem ps_F_cg {f g : TA} {a b n : Nat} {I : Int32} {j : Nat} (H : ps_F f a n I j) (h : ∀ i, i < n → f (a + i) = g (b + i)) : ps_F g b n I j := by
  obtain ⟨h1, h2, h3⟩ := H
  exact ⟨h1, fun i hi => by rw [← h i (by omega)]; exact h2 i hi, fun hj => by rw [← h j hj]; exact h3 hj⟩
theorem px_fe_lp {p : TP} {k : TK} {r : TR} {l s : TL} {o : TO} {h : TA} {w : TW} {x n j : Nat} {I : Int32} (hx : x < 8) (n16 : n ≤ 16) (F : ps_F o.2.2.2.1 (x * 16) n I j) {post : Int32 → Prop} (h1 : j < n → post (nI (x * 16 + j))) (h2 : j = n → post (-1)) :
    ∀ d i, i + d = j → wX_findEntry_18 post I (nI (x * 16 + n)) p.1 r.1 p.2.1 p.2.2.1 p.2.2.2.1 p.2.2.2.2 k.1 k.2.1 k.2.2.1 k.2.2.2 r.2.1 r.2.2 l.1 l.2.1 l.2.2 s.1 s.2.1 s.2.2 o.1 o.2.1 o.2.2.1 o.2.2.2.1 o.2.2.2.2.1 o.2.2.2.2.2 h w.1 w.2.1 w.2.2.1 w.2.2.2.1 w.2.2.2.2.1 w.2.2.2.2.2.1 w.2.2.2.2.2.2 (d + 1) (nI (x * 16 + i)) := by
  intro d
  have hj := F.1
  induction d with
  | zero =>
    intro i hi
    obtain rfl : i = j := by omega
    by_cases hn : i < n
    · exact br_f (nI_ge (by omega) (by omega)) ⟨vp_in_nI (by omega) (by omega), br_t (by rw [nI_clamp (by omega)]; exact F.2.2 hn) (h1 hn)⟩
    · exact br_t (nI_le (by omega) (by omega)) (h2 (by omega))
  | succ d ih =>
    intro i hi
    exact br_f (nI_ge (by omega) (by omega)) ⟨vp_in_nI (by omega) (by omega), br_f (by rw [nI_clamp (by omega)]; exact F.2.1 i (by omega)) (nm_r (nI_1 _) (ih (i + 1) (by omega)))⟩
theorem px_fe {p : TP} {k : TK} {r : TR} {l s : TL} {o : TO} {h : TA} {w : TW} {x n j : Nat} {I : Int32} (hx : x < 8) (hn : o.1 x = nI n) (n16 : n ≤ 16) (F : ps_F o.2.2.2.1 (x * 16) n I j) {post : Int32 → Prop} (h1 : j < n → post (nI (x * 16 + j))) (h2 : j = n → post (-1)) :
    wpX_findEntry post (XS p k r l s o h w) (nI x) I := by
  have cx : (nI x).toNatClampNeg = x := nI_clamp (by omega)
  exact nm_r (pn_m16 x) ⟨vp_in_nI hx (by omega), nm_r (e' := nI (x * 16 + n)) (by rw [cx, hn, nI_add]) ⟨j + 1, px_fe_lp hx n16 F h1 h2 j 0 (by omega)⟩⟩
theorem py_fe_lp {p : TP} {k : TK} {q : TR} {l s : TL} {e : TO} {g m : TA} {z : TO} {t : T5} {y n j : Nat} {I : Int32} (hy : y < 8) (hn : e.1 y = nI n) (n16 : n ≤ 16) (F : ps_F e.2.2.2.1 (y * 16) n I j) {post : Int32 → Prop} (h1 : j < n → post (nI j)) (h2 : j = n → post (-1)) :
    ∀ d i, i + d = j → wY_findEntry_2 post (nI y) I p.1 q.1 t.1 t.2.1 t.2.2.1 t.2.2.2.1 t.2.2.2.2 p.2.1 p.2.2.1 p.2.2.2.1 p.2.2.2.2 k.2.2.1 k.1 k.2.1 k.2.2.2 q.2.1 q.2.2 l.1 l.2.1 l.2.2 s.2.1 s.2.2 s.1 e.2.1 e.2.2.1 e.2.2.2.1 e.2.2.2.2.1 e.2.2.2.2.2 e.1 g m z.2.1 z.2.2.1 z.2.2.2.1 z.2.2.2.2.1 z.2.2.2.2.2 z.1 (d + 1) (nI i) := by
  intro d
  have hj := F.1
  have cy : (nI y).toNatClampNeg = y := nI_clamp (by omega)
  have i8 : vp_in (nI y) 8 := vp_in_nI hy (by omega)
  induction d with
  | zero =>
    intro i hi
    obtain rfl : i = j := by omega
    by_cases hn' : i < n
    · exact ⟨i8, br_f (by rw [cy, hn]; exact nI_ge (by omega) (by omega)) ⟨by rw [pn_m16, nI_add]; exact vp_in_nI (by omega) (by omega), br_t (by rw [pn_m16, nI_add, nI_clamp (by omega)]; exact F.2.2 hn') (h1 hn')⟩⟩
    · exact ⟨i8, br_t (by rw [cy, hn]; exact nI_le (by omega) (by omega)) (h2 (by omega))⟩
  | succ d ih =>
    intro i hi
    exact ⟨i8, br_f (by rw [cy, hn]; exact nI_ge (by omega) (by omega)) ⟨by rw [pn_m16, nI_add]; exact vp_in_nI (by omega) (by omega), br_f (by rw [pn_m16, nI_add, nI_clamp (by omega)]; exact F.2.1 i (by omega)) (nm_r (nI_1 _) (ih (i + 1) (by omega)))⟩⟩
theorem py_fe {p : TP} {k : TK} {q : TR} {l s : TL} {e : TO} {g m : TA} {z : TO} {t : T5} {y n j : Nat} {I : Int32} (hy : y < 8) (hn : e.1 y = nI n) (n16 : n ≤ 16) (F : ps_F e.2.2.2.1 (y * 16) n I j) {post : Int32 → Prop} (h1 : j < n → post (nI j)) (h2 : j = n → post (-1)) :
    wpY_findEntry post (YS p k q l s e g m z t) (nI y) I := ⟨j + 1, py_fe_lp hy hn n16 F h1 h2 j 0 (by omega)⟩
/-! a new entry -/
theorem px_free {p : TP} {k : TK} {r : TR} {l s : TL} {o : TO} {h : TA} {w : TW} {x n fr : Nat} (hx : x < 8) (hn : o.1 x = nI n) (n16 : n ≤ 16) (f1 : 1 ≤ fr) (f2 : fr ≤ n + 1) (f3 : ∀ j, j < n → o.2.2.2.1 (x * 16 + j) ≠ nI fr) (f4 : ∀ i, 1 ≤ i → i < fr → ∃ j, j < n ∧ o.2.2.2.1 (x * 16 + j) = nI i) {post : Int32 → Prop} (hp : post (nI fr)) :
    ∀ d i, 1 ≤ i → i + d = fr → wX_smallestFreeId_2 post (nI x) p.1 r.1 p.2.1 p.2.2.1 p.2.2.2.1 p.2.2.2.2 k.1 k.2.1 k.2.2.1 k.2.2.2 r.2.1 r.2.2 l.1 l.2.1 l.2.2 s.1 s.2.1 s.2.2 o.1 o.2.1 o.2.2.1 o.2.2.2.1 o.2.2.2.2.1 o.2.2.2.2.2 h w.1 w.2.1 w.2.2.1 w.2.2.2.1 w.2.2.2.2.1 w.2.2.2.2.2.1 w.2.2.2.2.2.2 (d + 1) (nI i) := by
  have cx : (nI x).toNatClampNeg = x := nI_clamp (by omega)
  have i8 : vp_in (nI x) 8 := vp_in_nI hx (by omega)
  intro d
  induction d with
  | zero =>
    intro i hi hd
    obtain rfl : i = fr := by omega
    by_cases hk : i ≤ n
    · obtain ⟨j, F⟩ := ps_F_ex o.2.2.2.1 (x * 16) (nI i) n
      have hj : j = n := by
        apply Classical.byContradiction
        intro hne
        have := F.1
        exact f3 j (by omega) (F.2.2 (by omega))
      exact ⟨i8, br_f (by rw [cx, hn]; exact nI_nlt (by omega) (by omega)) (px_fe (p := p) (k := k) (r := r) (l := l) (s := s) (o := o) (h := h) (w := w) hx hn n16 F (fun hlt => absurd hlt (by omega)) (fun _ => br_f (by decide) hp))⟩
    · obtain rfl : i = n + 1 := by omega
      refine ⟨i8, br_t (by rw [cx, hn]; exact nI_lt (by omega) (by omega)) ⟨i8, ?_⟩⟩
      rw [cx, hn, nI_1]
      exact hp
  | succ d ih =>
    intro i hi hd
    obtain ⟨j, F⟩ := ps_F_ex o.2.2.2.1 (x * 16) (nI i) n
    obtain ⟨j', hj', ej'⟩ := f4 i hi (by omega)
    have hj : j < n := by
      apply Classical.byContradiction
      intro hne
      exact F.2.1 j' (by omega) ej'
    exact ⟨i8, br_f (by rw [cx, hn]; exact nI_nlt (by omega) (by omega)) (px_fe (p := p) (k := k) (r := r) (l := l) (s := s) (o := o) (h := h) (w := w) hx hn n16 F (fun _ => br_t (nI_pos' (by omega)) (nm_r (nI_1 _) (ih (i + 1) (by omega) (by omega)))) (fun h => absurd h (by omega)))⟩
theorem px_add {p : TP} {k : TK} {r : TR} {l s : TL} {o : TO} {h : TA} {w : TW} {x n fr : Nat} (hx : x < 8) (hn : o.1 x = nI n) (n16 : n < 16) (f1 : 1 ≤ fr) (f2 : fr ≤ n + 1) (f3 : ∀ j, j < n → o.2.2.2.1 (x * 16 + j) ≠ nI fr) (f4 : ∀ i, 1 ≤ i → i < fr → ∃ j, j < n ∧ o.2.2.2.1 (x * 16 + j) = nI i) {S Q M : Int32} (hM : M = 0 ∨ M = 1) {post : Int32 → SX → Prop}
    (hp : post (nI fr) (XS p k r l s (upd o.1 x (nI (n + 1)), upd o.2.1 (x * 16 + n) S, upd o.2.2.1 (x * 16 + n) Q, upd o.2.2.2.1 (x * 16 + n) (nI fr), upd o.2.2.2.2.1 (x * 16 + n) M, upd o.2.2.2.2.2 (x * 16 + n) 1) h w)) :
    wpX_appendEntry post (XS p k r l s o h w) (nI x) S Q M := by
  have cx : (nI x).toNatClampNeg = x := nI_clamp (by omega)
  have i8 : vp_in (nI x) 8 := vp_in_nI hx (by omega)
  have ic : vp_in (nI (x * 16 + n)) 128 := vp_in_nI (by omega) (by omega)
  have cc : (nI (x * 16 + n)).toNatClampNeg = x * 16 + n := nI_clamp (by omega)
  unfold wpX_appendEntry wpX_smallestFreeId
  exact ⟨fr - 1 + 1, px_free hx hn (by omega) f1 f2 f3 f4 ⟨i8, nm_r (e' := nI (x * 16 + n)) (by rw [cx, hn, pn_m16, nI_add]) ⟨ic, nm_r (by rw [cc]) ⟨ic, nm_r (by rw [cc]) ⟨ic, nm_r (by rw [cc]) ⟨ic, nm_r (by rw [cc, pn_b hM]) ⟨ic, nm_r (by rw [cc]) ⟨i8, i8, nm_r (e' := upd o.1 x (nI (n + 1))) (by rw [cx, hn, nI_1]) hp⟩⟩⟩⟩⟩⟩⟩ (fr - 1) 1 (by omega) (by omega)⟩
theorem py_add74 {p : TP} {k : TK} {q : TR} {l s : TL} {e : TO} {g m : TA} {z : TO} {t : T5} {y n fr : Nat} (hy : y < 8) (hn : e.1 y = nI n) (n16 : n < 16) {S Q M : Int32} (hM : M = 0 ∨ M = 1) {post : Int32 → SY → Prop}
    (hp : post (nI fr) (YS p k q l s (upd e.1 y (nI (n + 1)), upd e.2.1 (y * 16 + n) S, upd e.2.2.1 (y * 16 + n) Q, upd e.2.2.2.1 (y * 16 + n) (nI fr), upd e.2.2.2.2.1 (y * 16 + n) M, upd e.2.2.2.2.2 (y * 16 + n) 1) g m z t)) :
    wY_addEntry_74 post (nI y) S Q M (nI fr) p.1 q.1 t.1 t.2.1 t.2.2.1 t.2.2.2.1 t.2.2.2.2 p.2.1 p.2.2.1 p.2.2.2.1 p.2.2.2.2 k.2.2.1 k.1 k.2.1 k.2.2.2 q.2.1 q.2.2 l.1 l.2.1 l.2.2 s.2.1 s.2.2 s.1 e.2.1 e.2.2.1 e.2.2.2.1 e.2.2.2.2.1 e.2.2.2.2.2 e.1 g m z.2.1 z.2.2.1 z.2.2.2.1 z.2.2.2.2.1 z.2.2.2.2.2 z.1 := by
  have cy : (nI y).toNatClampNeg = y := nI_clamp (by omega)
  have i8 : vp_in (nI y) 8 := vp_in_nI hy (by omega)
  have ic : vp_in (nI (y * 16 + n)) 128 := vp_in_nI (by omega) (by omega)
  have cc : (nI (y * 16 + n)).toNatClampNeg = y * 16 + n := nI_clamp (by omega)
  exact ⟨i8, nm_r (e' := nI (y * 16 + n)) (by rw [cy, hn, pn_m16, nI_add]) ⟨ic, nm_r (by rw [cc]) ⟨ic, nm_r (by rw [cc]) ⟨ic, nm_r (by rw [cc]) ⟨ic, nm_r (by rw [cc, pn_b hM]) ⟨ic, nm_r (by rw [cc]) ⟨i8, i8, nm_r (e' := upd e.1 y (nI (n + 1))) (by rw [cy, hn, nI_1]) hp⟩⟩⟩⟩⟩⟩⟩
/-- the inner scan over an id that is free -/
theorem py_addF {p : TP} {k : TK} {q : TR} {l s : TL} {e : TO} {g m : TA} {z : TO} {t : T5} {y n : Nat} {I A B C D : Int32} (hy : y < 8) (hn : e.1 y = nI n) (n16 : n ≤ 16) (f3 : ∀ j, j < n → e.2.2.2.1 (y * 16 + j) ≠ I) {post : Int32 → SY → Prop} {J : Int32 → Prop}
    (hp : wY_addEntry_74 post (nI y) A B C I p.1 q.1 t.1 t.2.1 t.2.2.1 t.2.2.2.1 t.2.2.2.2 p.2.1 p.2.2.1 p.2.2.2.1 p.2.2.2.2 k.2.2.1 k.1 k.2.1 k.2.2.2 q.2.1 q.2.2 l.1 l.2.1 l.2.2 s.2.1 s.2.2 s.1 e.2.1 e.2.2.1 e.2.2.2.1 e.2.2.2.2.1 e.2.2.2.2.2 e.1 g m z.2.1 z.2.2.1 z.2.2.2.1 z.2.2.2.2.1 z.2.2.2.2.2 z.1) : ∀ d i, i + d = n → wY_addEntry_19 post J (nI y) A B C D I p.1 q.1 t.1 t.2.1 t.2.2.1 t.2.2.2.1 t.2.2.2.2 p.2.1 p.2.2.1 p.2.2.2.1 p.2.2.2.2 k.2.2.1 k.1 k.2.1 k.2.2.2 q.2.1 q.2.2 l.1 l.2.1 l.2.2 s.2.1 s.2.2 s.1 e.2.1 e.2.2.1 e.2.2.2.1 e.2.2.2.2.1 e.2.2.2.2.2 e.1 g m z.2.1 z.2.2.1 z.2.2.2.1 z.2.2.2.2.1 z.2.2.2.2.2 z.1 (d + 1) 0 (nI i) := by
  have cy : (nI y).toNatClampNeg = y := nI_clamp (by omega)
  have i8 : vp_in (nI y) 8 := vp_in_nI hy (by omega)
  intro d
  induction d with
  | zero =>
    intro i hi
    obtain rfl : i = n := by omega
    exact ⟨i8, br_t (by rw [cy, hn]; exact nI_le (by omega) (by omega)) (br_t rfl hp)⟩
  | succ d ih =>
    intro i hi
    exact ⟨i8, br_f (by rw [cy, hn]; exact nI_ge (by omega) (by omega)) ⟨by rw [pn_m16, nI_add]; exact vp_in_nI (by omega) (by omega), br_f (by rw [pn_m16, nI_add, nI_clamp (by omega)]; exact f3 i (by omega)) (nm_r (nI_1 _) (ih (i + 1) (by omega)))⟩⟩
/-- the inner scan over an id that is used -/
theorem py_addU {p : TP} {k : TK} {q : TR} {l s : TL} {e : TO} {g m : TA} {z : TO} {t : T5} {y n : Nat} {I A B C D : Int32} (hy : y < 8) (hn : e.1 y = nI n) (n16 : n ≤ 16) {post : Int32 → SY → Prop} {J : Int32 → Prop}
    (hp : J (I + 1)) : ∀ d i (f : Int32), i + d = n → (f ≠ 0 ∨ ∃ j, i ≤ j ∧ j < n ∧ e.2.2.2.1 (y * 16 + j) = I) → wY_addEntry_19 post J (nI y) A B C D I p.1 q.1 t.1 t.2.1 t.2.2.1 t.2.2.2.1 t.2.2.2.2 p.2.1 p.2.2.1 p.2.2.2.1 p.2.2.2.2 k.2.2.1 k.1 k.2.1 k.2.2.2 q.2.1 q.2.2 l.1 l.2.1 l.2.2 s.2.1 s.2.2 s.1 e.2.1 e.2.2.1 e.2.2.2.1 e.2.2.2.2.1 e.2.2.2.2.2 e.1 g m z.2.1 z.2.2.1 z.2.2.2.1 z.2.2.2.2.1 z.2.2.2.2.2 z.1 (d + 1) f (nI i) := by
  have cy : (nI y).toNatClampNeg = y := nI_clamp (by omega)
  have i8 : vp_in (nI y) 8 := vp_in_nI hy (by omega)
  intro d
  induction d with
  | zero =>
    intro i f hi hf
    obtain rfl : i = n := by omega
    have hf' : f ≠ 0 := by
      rcases hf with hf | ⟨j, h1, h2, _⟩
      · exact hf
      · omega
    exact ⟨i8, br_t (by rw [cy, hn]; exact nI_le (by omega) (by omega)) (br_f hf' (nm_e hp))⟩
  | succ d ih =>
    intro i f hi hf
    by_cases he : e.2.2.2.1 (y * 16 + i) = I
    · exact ⟨i8, br_f (by rw [cy, hn]; exact nI_ge (by omega) (by omega)) ⟨by rw [pn_m16, nI_add]; exact vp_in_nI (by omega) (by omega), br_t (by rw [pn_m16, nI_add, nI_clamp (by omega)]; exact he) (nm_r (nI_1 _) (ih (i + 1) 1 (by omega) (Or.inl (by decide))))⟩⟩
    · have hf' : f ≠ 0 ∨ ∃ j, i + 1 ≤ j ∧ j < n ∧ e.2.2.2.1 (y * 16 + j) = I := by
        rcases hf with hf | ⟨j, h1, h2, h3⟩
        · exact Or.inl hf
        · refine Or.inr ⟨j, ?_, h2, h3⟩
          by_cases hji : j = i
          · rw [hji] at h3; exact absurd h3 he
          · omega
      exact ⟨i8, br_f (by rw [cy, hn]; exact nI_ge (by omega) (by omega)) ⟨by rw [pn_m16, nI_add]; exact vp_in_nI (by omega) (by omega), br_f (by rw [pn_m16, nI_add, nI_clamp (by omega)]; exact he) (nm_r (nI_1 _) (ih (i + 1) f (by omega) hf'))⟩⟩
theorem py_add {p : TP} {k : TK} {q : TR} {l s : TL} {e : TO} {g m : TA} {z : TO} {t : T5} {y n fr : Nat} (hy : y < 8) (hn : e.1 y = nI n) (n16 : n < 16) (f1 : 1 ≤ fr) (f2 : fr ≤ n + 1) (f3 : ∀ j, j < n → e.2.2.2.1 (y * 16 + j) ≠ nI fr) (f4 : ∀ i, 1 ≤ i → i < fr → ∃ j, j < n ∧ e.2.2.2.1 (y * 16 + j) = nI i) {S Q M : Int32} (hM : M = 0 ∨ M = 1) {post : Int32 → SY → Prop}
    (hp : post (nI fr) (YS p k q l s (upd e.1 y (nI (n + 1)), upd e.2.1 (y * 16 + n) S, upd e.2.2.1 (y * 16 + n) Q, upd e.2.2.2.1 (y * 16 + n) (nI fr), upd e.2.2.2.2.1 (y * 16 + n) M, upd e.2.2.2.2.2 (y * 16 + n) 1) g m z t)) :
    wpY_addEntry post (YS p k q l s e g m z t) (nI y) S Q M := by
  have h74 := py_add74 (p := p) (k := k) (q := q) (l := l) (s := s) (e := e) (g := g) (m := m) (z := z) (t := t) hy hn n16 hM hp
  have hl : ∀ d i, 1 ≤ i → i + d = fr → wY_addEntry_6 post (nI y) S Q M 1 p.1 q.1 t.1 t.2.1 t.2.2.1 t.2.2.2.1 t.2.2.2.2 p.2.1 p.2.2.1 p.2.2.2.1 p.2.2.2.2 k.2.2.1 k.1 k.2.1 k.2.2.2 q.2.1 q.2.2 l.1 l.2.1 l.2.2 s.2.1 s.2.2 s.1 e.2.1 e.2.2.1 e.2.2.2.1 e.2.2.2.2.1 e.2.2.2.2.2 e.1 g m z.2.1 z.2.2.1 z.2.2.2.1 z.2.2.2.2.1 z.2.2.2.2.2 z.1 (d + 1) (nI i) := by
    intro d
    induction d with
    | zero =>
      intro i hi hd
      obtain rfl : i = fr := by omega
      exact br_f (nI_nlt (a := 16) (b := i) (by omega) (by omega)) ⟨n + 1, py_addF hy hn (by omega) f3 h74 n 0 (by omega)⟩
    | succ d ih =>
      intro i hi hd
      obtain ⟨j, hj, ej⟩ := f4 i hi (by omega)
      refine br_f (nI_nlt (a := 16) (b := i) (by omega) (by omega)) ⟨n + 1, py_addU hy hn (by omega) ?_ n 0 0 (by omega) (Or.inr ⟨j, by omega, hj, ej⟩)⟩
      rw [nI_1]
      exact ih (i + 1) (by omega) (by omega)
  exact ⟨fr - 1 + 1, hl (fr - 1) 1 (by omega) (by omega)⟩
theorem pr_add {o e : TO} (H : ps_GO o e) {c b n : Nat} (hc : c < 4) (hb : b < 2) (hn : o.1 (4 * b + c) = nI n) (h4 : b = 0 → n < 4) (n16 : n < 16) {S Q M : Int32} (hS : ∃ s, 1 ≤ s ∧ s ≤ 24 ∧ S = nI s) (hQ : Q = 1 ∨ Q = 2) (hM : M = 0 ∨ M = 1) : ∃ o' e' i, 1 ≤ i ∧ i ≤ 16 ∧ ps_GO o' e'
    ∧ (∀ p k r l s h w (post : Int32 → SX → Prop), post (nI i) (XS p k r l s o' h w) → wpX_appendEntry post (XS p k r l s o h w) (nI (4 * b + c)) S Q M)
    ∧ (∀ p k q l s g m z t (post : Int32 → SY → Prop), post (nI i) (YS p k q l s e' g m z t) → wpY_addEntry post (YS p k q l s e g m z t) (nI (2 * c + b)) S Q M) := by
  obtain ⟨n', a1, a2, a3, a4⟩ := H.1 c b hc hb
  have hnn : n' = n := by
    have := a4.1
    rw [a2, nI_eq (by omega) (by omega)] at hn
    exact hn
  subst hnn
  obtain ⟨i, i1, i2, i3, i4⟩ := ps_free n' (by omega) (fun j => o.2.2.2.1 ((4 * b + c) * 16 + j))
  have heq : ∀ j, j < n' → o.2.2.2.1 ((4 * b + c) * 16 + j) = e.2.2.2.1 ((2 * c + b) * 16 + j) := fun j hj => congrArg (fun t : T5 => t.2.2.1) (a4.2 j hj).1
  have i3' : ∀ j, j < n' → e.2.2.2.1 ((2 * c + b) * 16 + j) ≠ nI i := fun j hj => by rw [← heq j hj]; exact i3 j hj
  have i4' : ∀ a, 1 ≤ a → a < i → ∃ j, j < n' ∧ e.2.2.2.1 ((2 * c + b) * 16 + j) = nI a := fun a h1 h2 => by
    obtain ⟨j, hj, ej⟩ := i4 a h1 h2
    exact ⟨j, hj, by rw [← heq j hj]; exact ej⟩
  exact ⟨_, _, i, i1, by omega, ⟨ps_RO_put H.1 hc hb h4 n16 a2 (g := 1) (i := nI i) ⟨hS, hQ, ⟨i, i1, by omega, rfl⟩, hM⟩, ps_B_u H.2.1 hM, ps_B_u H.2.2 hM⟩, fun p k r l s h w post hp => px_add (by omega) a2 n16 i1 i2 i3 i4 hM hp, fun p k q l s g m z t post hp => py_add (by omega) a3 n16 i1 i2 i3' i4' hM hp⟩
end P7
