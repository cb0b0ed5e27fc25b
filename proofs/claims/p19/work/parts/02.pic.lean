section Q2
abbrev TA : Type := Nat → Int32
abbrev T5 : Type := Int32 × Int32 × Int32 × Int32 × Int32
abbrev N5 : Type := Nat × Nat × Nat × Nat × Nat
abbrev TO : Type := TA × TA × TA × TA × TA × TA
abbrev TW : Type := TA × TA × TA × TA × TA × TA × TA
abbrev TR : Type := Int32 × TA × TA
abbrev TP : Type := Int32 × TA × TA × TA × TA
abbrev TK : Type := TA × TA × TA × TA
abbrev TL : Type := TA × TA × TA
abbrev XS (p : TP) (k : TK) (r : TR) (l s : TL) (o : TO) (h : TA) (w : TW) : St1 := (p.1, r.1, p.2.1, p.2.2.1, p.2.2.2.1, p.2.2.2.2, k.1, k.2.1, k.2.2.1, k.2.2.2, r.2.1, r.2.2, l.1, l.2.1, l.2.2, s.1, s.2.1, s.2.2, o.1, o.2.1, o.2.2.1, o.2.2.2.1, o.2.2.2.2.1, o.2.2.2.2.2, h, w.1, w.2.1, w.2.2.1, w.2.2.2.1, w.2.2.2.2.1, w.2.2.2.2.2.1, w.2.2.2.2.2.2)
def ps_5 (a b c d e : TA) (i : Nat) : T5 := (a i, b i, c i, d i, e i)
theorem ps_5u {a b c d e : TA} {k : Nat} {v1 v2 v3 v4 v5 : Int32} (i : Nat) : ps_5 (upd a k v1) (upd b k v2) (upd c k v3) (upd d k v4) (upd e k v5) i = if i = k then (v1, v2, v3, v4, v5) else ps_5 a b c d e i := by
  unfold ps_5 upd
  split <;> rfl
theorem ps_5s {a b c d e : TA} {p m : Nat} (i : Nat) : ps_5 (ps_sh a p m) (ps_sh b p m) (ps_sh c p m) (ps_sh d p m) (ps_sh e p m) i = if p ≤ i ∧ i < m then ps_5 a b c d e (i + 1) else ps_5 a b c d e i := by
  unfold ps_5 ps_sh
  split <;> rfl
theorem ps_5g {a b c d e : TA} {k : Nat} {v : Int32} (i : Nat) : ps_5 a b c d (upd e k v) i = if i = k then (a k, b k, c k, d k, v) else ps_5 a b c d e i := by
  unfold ps_5 upd
  by_cases h : i = k
  · rw [if_pos h, if_pos h, h]
  · rw [if_neg h, if_neg h]
def ps_o5 (o : TO) : Nat → T5 := ps_5 o.2.1 o.2.2.1 o.2.2.2.1 o.2.2.2.2.1 o.2.2.2.2.2
def ps_w5 (w : TW) : Nat → T5 := ps_5 w.2.2.1 w.2.2.2.1 w.2.2.2.2.1 w.2.2.2.2.2.1 w.2.2.2.2.2.2
/-! numbers -/
theorem pn_m32 (a : Nat) : nI a * 32 = nI (a * 32) := pk_mul a 32
theorem pn_m17 (a : Nat) : nI a * 17 = nI (a * 17) := pk_mul a 17
theorem pn_m16 (a : Nat) : nI a * 16 = nI (a * 16) := pk_mul a 16
theorem pn_m25 (a : Nat) : nI a * 25 = nI (a * 25) := pk_mul a 25
theorem pn_m4 (a : Nat) : nI a * 4 = nI (a * 4) := pk_mul a 4
theorem pn_4a (a : Nat) : 4 + nI a = nI (4 + a) := nI_add 4 a
theorem pn_b {v : Int32} (h : v = 0 ∨ v = 1) : vp_nar .boolean v = v := by
  rcases h with rfl | rfl <;> decide
theorem pn_cl {x : Int32} {n : Nat} (hx : x = nI n) (h : n < 100000) : x.toNatClampNeg = n := by
  rw [hx]; exact nI_clamp (by omega)
theorem pn_u {f : TA} {x : Int32} {n : Nat} {v v' : Int32} (hx : x = nI n) (h : n < 100000) (hv : v = v') : upd f x.toNatClampNeg v = upd f n v' := by
  rw [pn_cl hx h, hv]
theorem pn_sh {f : TA} {a j : Nat} {x y : Int32} (hx : x = nI j) (hy : y = nI (j + 1)) (h : a ≤ j) (hj : j < 10000) : upd (ps_sh f a j) x.toNatClampNeg (ps_sh f a j y.toNatClampNeg) = ps_sh f a (j + 1) := by
  rw [pn_cl hx (by omega), pn_cl hy (by omega)]
  exact ps_shS h
def ps_B (f : TA) : Prop := ∀ i, f i = 0 ∨ f i = 1
theorem ps_B_u {f : TA} (h : ps_B f) {k : Nat} {v : Int32} (hv : v = 0 ∨ v = 1) : ps_B (upd f k v) := by
  intro i
  by_cases e : i = k
  · rw [e, pk_us]; exact hv
  · rw [pk_un e]; exact h i
theorem ps_B_s {f : TA} (h : ps_B f) {a m : Nat} : ps_B (ps_sh f a m) := by
  intro i
  unfold ps_sh
  split
  · exact h _
  · exact h _
theorem pn_shB {f : TA} {a j : Nat} {x y : Int32} (hb : ps_B f) (hx : x = nI j) (hy : y = nI (j + 1)) (h : a ≤ j) (hj : j < 10000) : upd (ps_sh f a j) x.toNatClampNeg (vp_nar .boolean (ps_sh f a j y.toNatClampNeg)) = ps_sh f a (j + 1) := by
  rw [pn_b (ps_B_s hb _)]
  exact pn_sh hx hy h hj
/-! lists -/
theorem ls_lt {α : Type} {L : List α} {j : Nat} {t : α} (h : L[j]? = some t) : j < L.length := by
  obtain ⟨h1, _⟩ := List.getElem?_eq_some_iff.mp h
  exact h1
theorem ls_ex {α : Type} {L : List α} {j : Nat} (h : j < L.length) : ∃ t, L[j]? = some t := ⟨L[j], List.getElem?_eq_getElem h⟩
theorem ls_mem {α : Type} {L : List α} {j : Nat} {t : α} (h : L[j]? = some t) : t ∈ L := List.mem_of_getElem? h
theorem ls_app {α : Type} {L : List α} {t t' : α} {j : Nat} (h : (L ++ [t])[j]? = some t') : (j < L.length ∧ L[j]? = some t') ∨ (j = L.length ∧ t' = t) := by
  by_cases hj : j < L.length
  · rw [List.getElem?_append_left hj] at h
    exact Or.inl ⟨hj, h⟩
  · have h2 := ls_lt h
    rw [List.length_append, List.length_singleton] at h2
    obtain rfl : j = L.length := by omega
    rw [List.getElem?_append_right (Nat.le_refl _), Nat.sub_self] at h
    exact Or.inr ⟨rfl, (Option.some.inj h).symm⟩
def fu {α : Type} (f : Nat → α) (x : Nat) (v : α) : Nat → α := fun y => if y = x then v else f y
theorem fu_s {α : Type} {f : Nat → α} {x : Nat} {v : α} : fu f x v x = v := if_pos rfl
theorem fu_n {α : Type} {f : Nat → α} {x y : Nat} {v : α} (h : y ≠ x) : fu f x v y = f y := if_neg h
/-! the pictures: wires, outboxes, HELD sets -/
def cv (t : N5) : T5 := (nI t.1, nI t.2.1, nI t.2.2.1, nI t.2.2.2.1, nI t.2.2.2.2)
/-- a packet: kind, id, serial, quality, mark -/
def pw_ok (t : N5) : Prop := 1 ≤ t.1 ∧ t.1 ≤ 5 ∧ t.2.1 ≤ 16 ∧ (t.1 = 1 → 1 ≤ t.2.2.1 ∧ t.2.2.1 ≤ 24) ∧ t.2.2.1 ≤ 24 ∧ t.2.2.2.1 ≤ 2 ∧ t.2.2.2.2 ≤ 1 ∧ (t.1 = 1 → t.2.2.2.1 = 0 ∨ 1 ≤ t.2.1) ∧ (¬ t.1 = 1 → 1 ≤ t.2.1)
/-- an entry: serial, quality, id, mark, stage -/
def eo_ok (t : N5) : Prop := 1 ≤ t.1 ∧ t.1 ≤ 24 ∧ 1 ≤ t.2.1 ∧ t.2.1 ≤ 2 ∧ 1 ≤ t.2.2.1 ∧ t.2.2.1 ≤ 16 ∧ t.2.2.2.1 ≤ 1 ∧ 1 ≤ t.2.2.2.2 ∧ t.2.2.2.2 ≤ 2
def pc_W (w : TW) (W : Nat → List N5) : Prop := (∀ x, x < 8 → (W x).length ≤ 32 ∧ (∀ t, t ∈ W x → pw_ok t) ∧ ∃ h, h < 32 ∧ w.1 x = nI h ∧ w.2.1 x = nI (W x).length ∧ ∀ j t, (W x)[j]? = some t → ps_w5 w (x * 32 + (h + j) % 32) = cv t) ∧ ps_B w.2.2.2.2.2.2
def pc_O (o : TO) (O : Nat → List N5) : Prop := (∀ x, x < 8 → (O x).length ≤ 16 ∧ (∀ t, t ∈ O x → eo_ok t) ∧ o.1 x = nI (O x).length ∧ ∀ j t, (O x)[j]? = some t → ps_o5 o (x * 16 + j) = cv t) ∧ ps_B o.2.2.2.2.1
def bI (b : Bool) : Int32 := if b then 1 else 0
def pc_H (h : TA) (H : Nat → Nat → Bool) : Prop := ∀ x i, x < 8 → 1 ≤ i → i ≤ 16 → h (x * 17 + i) = bI (H x i)
theorem bI_0 {b : Bool} : bI b = 0 ↔ b = false := by cases b <;> decide
/-! a packet is put -/
theorem px_put {p : TP} {k : TK} {r : TR} {l s : TL} {o : TO} {h : TA} {w : TW} {x n d : Nat} (hx : x < 8) (hn : w.2.1 x = nI n) (hd : w.1 x = nI d) (n32 : n < 32) (d32 : d < 32) {K I S Q M : Int32} (hM : M = 0 ∨ M = 1) {post : St1 → Prop}
    (hp : post (XS p k r l s o h (w.1, upd w.2.1 x (nI (n + 1)), upd w.2.2.1 (x * 32 + (d + n) % 32) K, upd w.2.2.2.1 (x * 32 + (d + n) % 32) I, upd w.2.2.2.2.1 (x * 32 + (d + n) % 32) S, upd w.2.2.2.2.2.1 (x * 32 + (d + n) % 32) Q, upd w.2.2.2.2.2.2 (x * 32 + (d + n) % 32) M))) :
    wpX_putPacket post (XS p k r l s o h w) (nI x) K I S Q M := by
  have cx : (nI x).toNatClampNeg = x := nI_clamp (by omega)
  have i8 : vp_in (nI x) 8 := vp_in_nI hx (by omega)
  have ic : vp_in (nI (x * 32 + (d + n) % 32)) 256 := vp_in_nI (by omega) (by omega)
  have cc : (nI (x * 32 + (d + n) % 32)).toNatClampNeg = x * 32 + (d + n) % 32 := nI_clamp (by omega)
  refine ⟨i8, br_f (by rw [cx, hn]; exact fun z => by rw [show (32 : Int32) = nI 32 from rfl, nI_eq (by omega) (by omega)] at z; omega) ⟨i8, i8, by decide, nm_r (e' := nI (x * 32 + (d + n) % 32)) ?_ ⟨ic, nm_r (by rw [cc]) ⟨ic, nm_r (by rw [cc]) ⟨ic, nm_r (by rw [cc]) ⟨ic, nm_r (by rw [cc]) ⟨ic, nm_r (by rw [cc, pn_b hM]) ⟨i8, i8, nm_r (e' := upd w.2.1 x (nI (n + 1))) (by rw [cx, hn, nI_1]) hp⟩⟩⟩⟩⟩⟩⟩⟩
  rw [cx, hn, hd, nI_add d n, pn_m32]
  exact (congrArg (nI (x * 32) + ·) (pk_rem (a := d + n) (d := 32) (by omega) (by omega) (by omega))).trans (nI_add _ _)
theorem nI_01 {m : Nat} (h : m ≤ 1) : nI m = 0 ∨ nI m = 1 := by
  have : m = 0 ∨ m = 1 := by omega
  rcases this with rfl | rfl
  · exact Or.inl rfl
  · exact Or.inr rfl
theorem pq_put {w : TW} {W : Nat → List N5} (H : pc_W w W) {x : Nat} (hx : x < 8) (hl : (W x).length < 32) {t : N5} (ht : pw_ok t) : ∃ w', pc_W w' (fu W x (W x ++ [t]))
    ∧ (∀ (p : TP) (k : TK) (r : TR) (l s : TL) (o : TO) (h : TA) (post : St1 → Prop), post (XS p k r l s o h w') → wpX_putPacket post (XS p k r l s o h w) (nI x) (nI t.1) (nI t.2.1) (nI t.2.2.1) (nI t.2.2.2.1) (nI t.2.2.2.2)) := by
  obtain ⟨a1, a2, d, hd, hw, hc, ha⟩ := H.1 x hx
  have hM := nI_01 ht.2.2.2.2.2.2.1
  refine ⟨_, ⟨fun y hy => ?_, ps_B_u H.2 hM⟩, fun p k r l s o h post hp => px_put hx hc hw hl hd hM hp⟩
  by_cases e : y = x
  · subst e
    rw [fu_s]
    refine ⟨by rw [List.length_append, List.length_singleton]; omega, fun t' h => ?_, d, hd, hw, ?_, fun j t' hj => ?_⟩
    · rcases List.mem_append.mp h with h | h
      · exact a2 t' h
      · rw [List.mem_singleton.mp h]; exact ht
    · rw [List.length_append, List.length_singleton]; exact pk_us
    · refine (ps_5u _).trans ?_
      rcases ls_app hj with ⟨h1, h2⟩ | ⟨h1, h2⟩
      · rw [if_neg (by omega)]
        exact ha j t' h2
      · rw [h1, if_pos rfl, h2]
        rfl
  · rw [fu_n e]
    obtain ⟨b1, b2, d', hd', hw', hc', ha'⟩ := H.1 y hy
    refine ⟨b1, b2, d', hd', hw', (pk_un e).trans hc', fun j t' hj => ?_⟩
    refine (ps_5u _).trans ?_
    rw [if_neg (by omega)]
    exact ha' j t' hj
theorem pq_reply {w : TW} {W : Nat → List N5} (H : pc_W w W) {x K i : Nat} (hx : x < 8) (hl : (W x).length < 32) (hK : 2 ≤ K) (hK5 : K ≤ 5) (h1 : 1 ≤ i) (hi : i ≤ 16) : ∃ w', pc_W w' (fu W x (W x ++ [(K, i, 0, 0, 0)]))
    ∧ (∀ (p : TP) (k : TK) (r : TR) (l s : TL) (o : TO) (h : TA) (post : St1 → Prop), post (XS p k r l s o h w') → wpX_putReply post (XS p k r l s o h w) (nI x) (nI K) (nI i)) := by
  obtain ⟨w', h1, h2⟩ := pq_put H hx hl (t := (K, i, 0, 0, 0)) ⟨by show 1 ≤ K; omega, hK5, hi, fun z => by have z' : K = 1 := z; omega, Nat.zero_le _, Nat.zero_le _, Nat.zero_le _, fun z => by have z' : K = 1 := z; omega, fun _ => h1⟩
  exact ⟨w', h1, fun p k r l s o h post hp => by unfold wpX_putReply; exact h2 p k r l s o h _ hp⟩
/-! the oldest packet is taken off -/
theorem px_old {p : TP} {k : TK} {r : TR} {l s : TL} {o : TO} {h : TA} {w : TW} {x d : Nat} (hx : x < 8) (hd : w.1 x = nI d) {post : Int32 → Prop} (hp : post (nI (x * 32 + d))) : wpX_oldestPacket post (XS p k r l s o h w) (nI x) := by
  have cx : (nI x).toNatClampNeg = x := nI_clamp (by omega)
  refine ⟨vp_in_nI hx (by omega), ?_⟩
  show post (nI x * 32 + w.1 (nI x).toNatClampNeg)
  rw [cx, hd, pn_m32, nI_add]
  exact hp
theorem px_rem {p : TP} {k : TK} {r : TR} {l s : TL} {o : TO} {h : TA} {w : TW} {x d n : Nat} (hx : x < 8) (hd : w.1 x = nI d) (d32 : d < 32) (hn : w.2.1 x = nI (n + 1)) (n32 : n < 32) {post : St1 → Prop}
    (hp : post (XS p k r l s o h (upd w.1 x (nI ((d + 1) % 32)), upd w.2.1 x (nI n), w.2.2))) : wpX_removeOldestPacket post (XS p k r l s o h w) (nI x) := by
  have cx : (nI x).toNatClampNeg = x := nI_clamp (by omega)
  have i8 : vp_in (nI x) 8 := vp_in_nI hx (by omega)
  refine ⟨i8, by decide, i8, nm_r (e' := upd w.1 x (nI ((d + 1) % 32))) ?_ ⟨i8, i8, nm_r (e' := upd w.2.1 x (nI n)) (by rw [cx, hn, nI_pred]) hp⟩⟩
  rw [cx, hd, nI_1]
  exact congrArg (upd w.1 x) (pk_rem (a := d + 1) (d := 32) (by omega) (by omega) (by omega))
theorem pq_pop {w : TW} {W : Nat → List N5} (H : pc_W w W) {x : Nat} (hx : x < 8) {t : N5} {L : List N5} (hW : W x = t :: L) : ∃ (w' : TW) (d : Nat), pc_W w' (fu W x L) ∧ pw_ok t ∧ d < 32 ∧ ps_w5 w (x * 32 + d) = cv t
    ∧ (∀ (p : TP) (k : TK) (r : TR) (l s : TL) (o : TO) (h : TA) (post : Int32 → Prop), post (nI (x * 32 + d)) → wpX_oldestPacket post (XS p k r l s o h w) (nI x))
    ∧ (∀ (p : TP) (k : TK) (r : TR) (l s : TL) (o : TO) (h : TA) (post : St1 → Prop), post (XS p k r l s o h w') → wpX_removeOldestPacket post (XS p k r l s o h w) (nI x)) := by
  obtain ⟨a1, a2, d, hd, hw, hc, ha⟩ := H.1 x hx
  rw [hW] at a1 a2 hc ha
  rw [List.length_cons] at a1 hc
  have h0 := ha 0 t rfl
  rw [Nat.add_zero, Nat.mod_eq_of_lt hd] at h0
  refine ⟨(upd w.1 x (nI ((d + 1) % 32)), upd w.2.1 x (nI L.length), w.2.2), d, ⟨fun y hy => ?_, H.2⟩, a2 t (List.mem_cons_self ..), hd, h0, fun p k r l s o h post hp => px_old hx hw hp, fun p k r l s o h post hp => px_rem hx hw hd hc (by omega) hp⟩
  by_cases e : y = x
  · subst e
    rw [fu_s]
    refine ⟨by omega, fun t' h => a2 t' (List.mem_cons_of_mem _ h), (d + 1) % 32, by omega, pk_us, pk_us, fun j t' hj => ?_⟩
    have := ha (j + 1) t' hj
    rw [show ((d + 1) % 32 + j) % 32 = (d + (j + 1)) % 32 by omega]
    exact this
  · rw [fu_n e]
    obtain ⟨b1, b2, d', hd', hw', hc', ha'⟩ := H.1 y hy
    exact ⟨b1, b2, d', hd', (pk_un e).trans hw', (pk_un e).trans hc', ha'⟩
end Q2
