section Q3
/-! the first place of a value -/
def ps_F (f : TA) (a n : Nat) (I : Int32) (j : Nat) : Prop := j ≤ n ∧ (∀ i, i < j → f (a + i) ≠ I) ∧ (j < n → f (a + j) = I)
theorem ps_F_ex (f : TA) (a : Nat) (I : Int32) : ∀ n, ∃ j, ps_F f a n I j := by
  intro n
  induction n with
  | zero => exact ⟨0, Nat.le_refl 0, fun i hi => absurd hi (by omega), fun h => absurd h (by omega)⟩
  | succ n ih =>
    obtain ⟨j, h1, h2, h3⟩ := ih
    by_cases hj : j < n
    · exact ⟨j, by omega, h2, fun _ => h3 hj⟩
    · obtain rfl : j = n := by omega
      by_cases e : f (a + j) = I
      · exact ⟨j, by omega, h2, fun _ => e⟩
      · refine ⟨j + 1, by omega, fun i hi => ?_, fun h => absurd h (by omega)⟩
        by_cases e2 : i = j
        · rw [e2]; exact e
        · exact h2 i (by omega)
theorem ps_F_cg {f g : TA} {a b n : Nat} {I : Int32} {j : Nat} (H : ps_F f a n I j) (h : ∀ i, i < n → f (a + i) = g (b + i)) : ps_F g b n I j := by
  obtain ⟨h1, h2, h3⟩ := H
  exact ⟨h1, fun i hi => by rw [← h i (by omega)]; exact h2 i hi, fun hj => by rw [← h j hj]; exact h3 hj⟩
theorem px_fe_lp {p : TP} {k : TK} {r : TR} {l s : TL} {o : TO} {h : TA} {w : TW} {x n j : Nat} {I : Int32} (hx : x < 8) (n16 : n ≤ 16) (F : ps_F o.2.2.2.1 (x * 16) n I j) {post : Int32 → Prop} (h1 : j < n → post (nI (x * 16 + j))) (h2 : j = n → post (-1)) :
    ∀ d i, i + d = j → wX_findEntry_18 post I (nI (x * 16 + n)) p.1 r.1 p.2.1 p.2.2.1 p.2.2.2.1 p.2.2.2.2 k.1 k.2.1 k.2.2.1 k.2.2.2 r.2.1 r.2.2 l.1 l.2.1 l.2.2 s.1 s.2.1 s.2.2 o.1 o.2.1 o.2.2.1 o.2.2.2.1 o.2.2.2.2.1 o.2.2.2.2.2 h w.1 w.2.1 w.2.2.1 w.2.2.2.1 w.2.2.2.2.1 w.2.2.2.2.2.1 w.2.2.2.2.2.2 (d + 1) (nI (x * 16 + i)) := by
  intro d
  have hj := F.1
  induction d with
  | zero =>
    intro i hi
    obtain rfl : i = j := by omega
    by_cases hn : i < n
    · exact br_f (nI_ge (by omega) (by omega)) ⟨vp_in_nI (by omega) (by omega), br_t (by rw [nI_clamp (by omega)]; exact F.2.2 hn) (h1 hn)⟩
    · exact br_t (nI_le (by omega) (by omega)) (h2 (by omega))
  | succ d ih =>
    intro i hi
    exact br_f (nI_ge (by omega) (by omega)) ⟨vp_in_nI (by omega) (by omega), br_f (by rw [nI_clamp (by omega)]; exact F.2.1 i (by omega)) (nm_r (nI_1 _) (ih (i + 1) (by omega)))⟩
theorem px_fe {p : TP} {k : TK} {r : TR} {l s : TL} {o : TO} {h : TA} {w : TW} {x n j : Nat} {I : Int32} (hx : x < 8) (hn : o.1 x = nI n) (n16 : n ≤ 16) (F : ps_F o.2.2.2.1 (x * 16) n I j) {post : Int32 → Prop} (h1 : j < n → post (nI (x * 16 + j))) (h2 : j = n → post (-1)) :
    wpX_findEntry post (XS p k r l s o h w) (nI x) I := by
  have cx : (nI x).toNatClampNeg = x := nI_clamp (by omega)
  exact nm_r (pn_m16 x) ⟨vp_in_nI hx (by omega), nm_r (e' := nI (x * 16 + n)) (by rw [cx, hn, nI_add]) ⟨j + 1, px_fe_lp hx n16 F h1 h2 j 0 (by omega)⟩⟩
/-! a new entry -/
theorem px_free {p : TP} {k : TK} {r : TR} {l s : TL} {o : TO} {h : TA} {w : TW} {x n fr : Nat} (hx : x < 8) (hn : o.1 x = nI n) (n16 : n ≤ 16) (f1 : 1 ≤ fr) (f2 : fr ≤ n + 1) (f3 : ∀ j, j < n → o.2.2.2.1 (x * 16 + j) ≠ nI fr) (f4 : ∀ i, 1 ≤ i → i < fr → ∃ j, j < n ∧ o.2.2.2.1 (x * 16 + j) = nI i) {post : Int32 → Prop} (hp : post (nI fr)) :
    ∀ d i, 1 ≤ i → i + d = fr → wX_smallestFreeId_2 post (nI x) p.1 r.1 p.2.1 p.2.2.1 p.2.2.2.1 p.2.2.2.2 k.1 k.2.1 k.2.2.1 k.2.2.2 r.2.1 r.2.2 l.1 l.2.1 l.2.2 s.1 s.2.1 s.2.2 o.1 o.2.1 o.2.2.1 o.2.2.2.1 o.2.2.2.2.1 o.2.2.2.2.2 h w.1 w.2.1 w.2.2.1 w.2.2.2.1 w.2.2.2.2.1 w.2.2.2.2.2.1 w.2.2.2.2.2.2 (d + 1) (nI i) := by
  have cx : (nI x).toNatClampNeg = x := nI_clamp (by omega)
  have i8 : vp_in (nI x) 8 := vp_in_nI hx (by omega)
  intro d
  induction d with
  | zero =>
    intro i hi hd
    obtain rfl : i = fr := by omega
    by_cases hk : i ≤ n
    · obtain ⟨j, F⟩ := ps_F_ex o.2.2.2.1 (x * 16) (nI i) n
      have hj : j = n := by
        apply Classical.byContradiction
        intro hne
        have := F.1
        exact f3 j (by omega) (F.2.2 (by omega))
      exact ⟨i8, br_f (by rw [cx, hn]; exact nI_nlt (by omega) (by omega)) (px_fe (p := p) (k := k) (r := r) (l := l) (s := s) (o := o) (h := h) (w := w) hx hn n16 F (fun hlt => absurd hlt (by omega)) (fun _ => br_f (by decide) hp))⟩
    · obtain rfl : i = n + 1 := by omega
      refine ⟨i8, br_t (by rw [cx, hn]; exact nI_lt (by omega) (by omega)) ⟨i8, ?_⟩⟩
      rw [cx, hn, nI_1]
      exact hp
  | succ d ih =>
    intro i hi hd
    obtain ⟨j, F⟩ := ps_F_ex o.2.2.2.1 (x * 16) (nI i) n
    obtain ⟨j', hj', ej'⟩ := f4 i hi (by omega)
    have hj : j < n := by
      apply Classical.byContradiction
      intro hne
      exact F.2.1 j' (by omega) ej'
    exact ⟨i8, br_f (by rw [cx, hn]; exact nI_nlt (by omega) (by omega)) (px_fe (p := p) (k := k) (r := r) (l := l) (s := s) (o := o) (h := h) (w := w) hx hn n16 F (fun _ => br_t (nI_pos' (by omega)) (nm_r (nI_1 _) (ih (i + 1) (by omega) (by omega)))) (fun h => absurd h (by omega)))⟩
theorem px_add {p : TP} {k : TK} {r : TR} {l s : TL} {o : TO} {h : TA} {w : TW} {x n fr : Nat} (hx : x < 8) (hn : o.1 x = nI n) (n16 : n < 16) (f1 : 1 ≤ fr) (f2 : fr ≤ n + 1) (f3 : ∀ j, j < n → o.2.2.2.1 (x * 16 + j) ≠ nI fr) (f4 : ∀ i, 1 ≤ i → i < fr → ∃ j, j < n ∧ o.2.2.2.1 (x * 16 + j) = nI i) {S Q M : Int32} (hM : M = 0 ∨ M = 1) {post : Int32 → St1 → Prop}
    (hp : post (nI fr) (XS p k r l s (upd o.1 x (nI (n + 1)), upd o.2.1 (x * 16 + n) S, upd o.2.2.1 (x * 16 + n) Q, upd o.2.2.2.1 (x * 16 + n) (nI fr), upd o.2.2.2.2.1 (x * 16 + n) M, upd o.2.2.2.2.2 (x * 16 + n) 1) h w)) :
    wpX_appendEntry post (XS p k r l s o h w) (nI x) S Q M := by
  have cx : (nI x).toNatClampNeg = x := nI_clamp (by omega)
  have i8 : vp_in (nI x) 8 := vp_in_nI hx (by omega)
  have ic : vp_in (nI (x * 16 + n)) 128 := vp_in_nI (by omega) (by omega)
  have cc : (nI (x * 16 + n)).toNatClampNeg = x * 16 + n := nI_clamp (by omega)
  unfold wpX_appendEntry wpX_smallestFreeId
  exact ⟨fr - 1 + 1, px_free hx hn (by omega) f1 f2 f3 f4 ⟨i8, nm_r (e' := nI (x * 16 + n)) (by rw [cx, hn, pn_m16, nI_add]) ⟨ic, nm_r (by rw [cc]) ⟨ic, nm_r (by rw [cc]) ⟨ic, nm_r (by rw [cc]) ⟨ic, nm_r (by rw [cc, pn_b hM]) ⟨ic, nm_r (by rw [cc]) ⟨i8, i8, nm_r (e' := upd o.1 x (nI (n + 1))) (by rw [cx, hn, nI_1]) hp⟩⟩⟩⟩⟩⟩⟩ (fr - 1) 1 (by omega) (by omega)⟩
theorem px_del {p : TP} {k : TK} {r : TR} {l s : TL} {o : TO} {h : TA} {w : TW} {x n j : Nat} (hx : x < 8) (hn : o.1 x = nI (n + 1)) (n16 : n < 16) (hj : j ≤ n) (hb : ps_B o.2.2.2.2.1) {post : St1 → Prop}
    (hp : post (XS p k r l s (upd o.1 x (nI n), ps_sh o.2.1 (x * 16 + j) (x * 16 + n), ps_sh o.2.2.1 (x * 16 + j) (x * 16 + n), ps_sh o.2.2.2.1 (x * 16 + j) (x * 16 + n), ps_sh o.2.2.2.2.1 (x * 16 + j) (x * 16 + n), ps_sh o.2.2.2.2.2 (x * 16 + j) (x * 16 + n)) h w)) :
    wpX_removeEntry post (XS p k r l s o h w) (nI x) (nI (x * 16 + j)) := by
  have cx : (nI x).toNatClampNeg = x := nI_clamp (by omega)
  have i8 : vp_in (nI x) 8 := vp_in_nI hx (by omega)
  have hl : ∀ d i, j ≤ i → i + d = n → wX_removeEntry_17 post (nI x) (nI (x * 16 + n)) p.1 r.1 (d + 1) (nI (x * 16 + i)) p.2.1 p.2.2.1 p.2.2.2.1 p.2.2.2.2 k.1 k.2.1 k.2.2.1 k.2.2.2 r.2.1 r.2.2 l.1 l.2.1 l.2.2 s.1 s.2.1 s.2.2 o.1 (ps_sh o.2.1 (x * 16 + j) (x * 16 + i)) (ps_sh o.2.2.1 (x * 16 + j) (x * 16 + i)) (ps_sh o.2.2.2.1 (x * 16 + j) (x * 16 + i)) (ps_sh o.2.2.2.2.1 (x * 16 + j) (x * 16 + i)) (ps_sh o.2.2.2.2.2 (x * 16 + j) (x * 16 + i)) h w.1 w.2.1 w.2.2.1 w.2.2.2.1 w.2.2.2.2.1 w.2.2.2.2.2.1 w.2.2.2.2.2.2 := by
    intro d
    induction d with
    | zero =>
      intro i h1 hi
      obtain rfl : i = n := by omega
      exact br_t (nI_le (by omega) (by omega)) ⟨i8, i8, nm_r (e' := upd o.1 x (nI i)) (by rw [cx, hn, nI_pred]) hp⟩
    | succ d ih =>
      intro i h1 hi
      have a0 : vp_in (nI (x * 16 + i)) 128 := vp_in_nI (by omega) (by omega)
      have a1 : vp_in (nI (x * 16 + i) + 1) 128 := by rw [nI_1]; exact vp_in_nI (by omega) (by omega)
      exact br_f (nI_ge (by omega) (by omega)) ⟨a1, a0, nm_r (pn_sh rfl (nI_1 _) (by omega) (by omega)) ⟨a1, a0, nm_r (pn_sh rfl (nI_1 _) (by omega) (by omega)) ⟨a1, a0, nm_r (pn_sh rfl (nI_1 _) (by omega) (by omega)) ⟨a1, a0, nm_r (pn_shB hb rfl (nI_1 _) (by omega) (by omega)) ⟨a1, a0, nm_r (pn_sh rfl (nI_1 _) (by omega) (by omega)) (nm_r (nI_1 _) (ih (i + 1) (by omega) (by omega)))⟩⟩⟩⟩⟩
  have hl0 := hl (n - j) j (Nat.le_refl j) (by omega)
  rw [ps_sh0 (Nat.le_refl _), ps_sh0 (Nat.le_refl _), ps_sh0 (Nat.le_refl _), ps_sh0 (Nat.le_refl _), ps_sh0 (Nat.le_refl _)] at hl0
  exact ⟨i8, nm_r (e' := nI (x * 16 + n)) (by rw [cx, hn, pn_m16, nI_add, ← Nat.add_assoc, nI_pred]) ⟨n - j + 1, hl0⟩⟩

/-- the entry with an id -/
theorem pq_fe {o : TO} {O : Nat → List N5} (H : pc_O o O) {x i : Nat} (hx : x < 8) (hi : i < 1000) : ∃ R : Int32, (∀ (p : TP) (k : TK) (r : TR) (l s : TL) (h : TA) (w : TW) (post : Int32 → Prop), post R → wpX_findEntry post (XS p k r l s o h w) (nI x) (nI i))
    ∧ ((R = -1 ∧ ∀ e, e ∈ O x → e.2.2.1 ≠ i) ∨ ∃ j e, R = nI (x * 16 + j) ∧ j < 16 ∧ (O x)[j]? = some e ∧ e.2.2.1 = i) := by
  obtain ⟨a1, a2, a3, a4⟩ := H.1 x hx
  obtain ⟨j, F⟩ := ps_F_ex o.2.2.2.1 (x * 16) (nI i) (O x).length
  have hj := F.1
  have hid : ∀ j e, (O x)[j]? = some e → o.2.2.2.1 (x * 16 + j) = nI e.2.2.1 := fun j e h => congrArg (fun t : T5 => t.2.2.1) (a4 j e h)
  by_cases hlt : j < (O x).length
  · obtain ⟨e, he⟩ := ls_ex hlt
    have h1 := F.2.2 hlt
    rw [hid j e he] at h1
    have h2 := a2 e (ls_mem he)
    have h3 := (nI_eq (by have := h2.2.2.2.2.2.1; omega) (by omega)).mp h1
    exact ⟨nI (x * 16 + j), fun p k r l s h w post hp => px_fe hx a3 a1 F (fun _ => hp) (fun z => absurd z (by omega)), Or.inr ⟨j, e, rfl, by omega, he, h3⟩⟩
  · refine ⟨-1, fun p k r l s h w post hp => px_fe hx a3 a1 F (fun z => absurd z hlt) (fun _ => hp), Or.inl ⟨rfl, fun e he z => ?_⟩⟩
    obtain ⟨j', hj'⟩ := List.mem_iff_getElem?.mp he
    have h1 := F.2.1 j' (by have := ls_lt hj'; omega)
    rw [hid j' e hj', z] at h1
    exact h1 rfl
theorem pq_add {o : TO} {O : Nat → List N5} (H : pc_O o O) {x sn qn mn : Nat} (hx : x < 8) (hl : (O x).length < 16) (s1 : 1 ≤ sn) (s2 : sn ≤ 24) (q1 : 1 ≤ qn) (q2 : qn ≤ 2) (m1 : mn ≤ 1) : ∃ (o' : TO) (i : Nat), 1 ≤ i ∧ i ≤ 16 ∧ (∀ e, e ∈ O x → e.2.2.1 ≠ i) ∧ pc_O o' (fu O x (O x ++ [(sn, qn, i, mn, 1)]))
    ∧ (∀ (p : TP) (k : TK) (r : TR) (l s : TL) (h : TA) (w : TW) (post : Int32 → St1 → Prop), post (nI i) (XS p k r l s o' h w) → wpX_appendEntry post (XS p k r l s o h w) (nI x) (nI sn) (nI qn) (nI mn)) := by
  obtain ⟨a1, a2, a3, a4⟩ := H.1 x hx
  have hM := nI_01 m1
  have hid : ∀ j e, (O x)[j]? = some e → o.2.2.2.1 (x * 16 + j) = nI e.2.2.1 := fun j e h => congrArg (fun t : T5 => t.2.2.1) (a4 j e h)
  obtain ⟨i, i1, i2, i3, i4⟩ := ps_free (O x).length (by omega) (fun j => o.2.2.2.1 (x * 16 + j))
  refine ⟨_, i, i1, by omega, fun e he z => ?_, ⟨fun y hy => ?_, ps_B_u H.2 hM⟩, fun p k r l s h w post hp => px_add hx a3 hl i1 i2 i3 i4 hM hp⟩
  · obtain ⟨j', hj'⟩ := List.mem_iff_getElem?.mp he
    have h1 := i3 j' (ls_lt hj')
    apply h1
    show o.2.2.2.1 (x * 16 + j') = nI i
    rw [hid j' e hj', z]
  · by_cases e : y = x
    · subst e
      rw [fu_s]
      refine ⟨by rw [List.length_append, List.length_singleton]; omega, fun t' h => ?_, ?_, fun j t' hj => ?_⟩
      · rcases List.mem_append.mp h with h | h
        · exact a2 t' h
        · rw [List.mem_singleton.mp h]
          exact ⟨s1, s2, q1, q2, i1, by show i ≤ 16; omega, m1, Nat.le_refl 1, (by decide : 1 ≤ 2)⟩
      · rw [List.length_append, List.length_singleton]; exact pk_us
      · refine (ps_5u _).trans ?_
        rcases ls_app hj with ⟨h1, h2⟩ | ⟨h1, h2⟩
        · rw [if_neg (by omega)]
          exact a4 j t' h2
        · rw [h1, if_pos rfl, h2]
          rfl
    · rw [fu_n e]
      obtain ⟨b1, b2, b3, b4⟩ := H.1 y hy
      refine ⟨b1, b2, (pk_un e).trans b3, fun j t' hj => ?_⟩
      refine (ps_5u _).trans ?_
      have := ls_lt hj
      rw [if_neg (by omega)]
      exact b4 j t' hj
theorem pq_del {o : TO} {O : Nat → List N5} (H : pc_O o O) {x j : Nat} (hx : x < 8) (hj : j < (O x).length) : ∃ o', pc_O o' (fu O x ((O x).eraseIdx j))
    ∧ (∀ (p : TP) (k : TK) (r : TR) (l s : TL) (h : TA) (w : TW) (post : St1 → Prop), post (XS p k r l s o' h w) → wpX_removeEntry post (XS p k r l s o h w) (nI x) (nI (x * 16 + j))) := by
  obtain ⟨a1, a2, a3, a4⟩ := H.1 x hx
  obtain ⟨n, hn⟩ : ∃ n, (O x).length = n + 1 := ⟨(O x).length - 1, by omega⟩
  rw [hn] at a3
  refine ⟨_, ⟨fun y hy => ?_, ps_B_s H.2⟩, fun p k r l s h w post hp => px_del hx a3 (by omega) (by omega) H.2 hp⟩
  by_cases e : y = x
  · subst e
    have hlen : ((O y).eraseIdx j).length = n := by
      rw [List.length_eraseIdx_of_lt hj, hn]
      rfl
    rw [fu_s]
    refine ⟨by omega, fun t' h => a2 t' (List.mem_of_mem_eraseIdx h), by rw [hlen]; exact pk_us, fun i t' hi => ?_⟩
    have hi' := ls_lt hi
    rw [hlen] at hi'
    rw [List.getElem?_eraseIdx] at hi
    refine (ps_5s _).trans ?_
    by_cases hlt : i < j
    · rw [if_pos hlt] at hi
      rw [if_neg (by omega)]
      exact a4 i t' hi
    · rw [if_neg hlt] at hi
      rw [if_pos (by omega)]
      exact a4 (i + 1) t' hi
  · rw [fu_n e]
    obtain ⟨b1, b2, b3, b4⟩ := H.1 y hy
    refine ⟨b1, b2, (pk_un e).trans b3, fun i t' hi => ?_⟩
    refine (ps_5s _).trans ?_
    have := ls_lt hi
    rw [if_neg (by omega)]
    exact b4 i t' hi
theorem pq_mod {o : TO} {O : Nat → List N5} (H : pc_O o O) {x j : Nat} (hx : x < 8) {e : N5} (he : (O x)[j]? = some e) : pc_O (o.1, o.2.1, o.2.2.1, o.2.2.2.1, o.2.2.2.2.1, upd o.2.2.2.2.2 (x * 16 + j) 2) (fu O x ((O x).set j (e.1, e.2.1, e.2.2.1, e.2.2.2.1, 2))) := by
  obtain ⟨a1, a2, a3, a4⟩ := H.1 x hx
  have hj := ls_lt he
  have ho := a2 e (ls_mem he)
  refine ⟨fun y hy => ?_, H.2⟩
  by_cases ey : y = x
  · subst ey
    rw [fu_s]
    refine ⟨by rw [List.length_set]; exact a1, fun t' h => ?_, by rw [List.length_set]; exact a3, fun i t' hi => ?_⟩
    · rcases List.mem_or_eq_of_mem_set h with h | h
      · exact a2 t' h
      · rw [h]
        exact ⟨ho.1, ho.2.1, ho.2.2.1, ho.2.2.2.1, ho.2.2.2.2.1, ho.2.2.2.2.2.1, ho.2.2.2.2.2.2.1, (by decide : 1 ≤ 2), Nat.le_refl 2⟩
    · refine (ps_5g _).trans ?_
      rw [List.getElem?_set] at hi
      have h5 := a4 j e he
      by_cases hij : j = i
      · subst hij
        rw [if_pos rfl, if_pos hj] at hi
        have hi' := Option.some.inj hi
        rw [if_pos rfl, ← hi']
        have g1 : o.2.1 (y * 16 + j) = nI e.1 := congrArg (fun t : T5 => t.1) h5
        have g2 : o.2.2.1 (y * 16 + j) = nI e.2.1 := congrArg (fun t : T5 => t.2.1) h5
        have g3 : o.2.2.2.1 (y * 16 + j) = nI e.2.2.1 := congrArg (fun t : T5 => t.2.2.1) h5
        have g4 : o.2.2.2.2.1 (y * 16 + j) = nI e.2.2.2.1 := congrArg (fun t : T5 => t.2.2.2.1) h5
        rw [g1, g2, g3, g4]
        rfl
      · rw [if_neg hij] at hi
        rw [if_neg (by omega)]
        exact a4 i t' hi
  · rw [fu_n ey]
    obtain ⟨b1, b2, b3, b4⟩ := H.1 y hy
    refine ⟨b1, b2, b3, fun i t' hi => ?_⟩
    refine (ps_5g _).trans ?_
    have := ls_lt hi
    rw [if_neg (by omega)]
    exact b4 i t' hi
end Q3
