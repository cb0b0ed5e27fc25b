section
section P1
/-! numbers and stores  -/
/-! a block shifted down by one, a block shifted up by one -/
def ps_sh (f : Nat → Int32) (a m : Nat) : Nat → Int32 := fun i => if a ≤ i ∧ i < m then f (i + 1) else f i
theorem ps_sh0 {f : Nat → Int32} {a m : Nat} (h : m ≤ a) : ps_sh f a m = f := by
  funext i
  exact if_neg (by omega)
theorem ps_shS {f : Nat → Int32} {a m : Nat} (h : a ≤ m) : upd (ps_sh f a m) m (ps_sh f a m (m + 1)) = ps_sh f a (m + 1) := by
  funext i
  simp only [upd, ps_sh]
  by_cases h1 : i = m
  · subst h1
    rw [if_pos rfl, if_neg (by omega), if_pos (by omega)]
  · rw [if_neg h1]
    by_cases h2 : a ≤ i ∧ i < m
    · rw [if_pos h2, if_pos (by omega)]
    · rw [if_neg h2, if_neg (by omega)]
theorem ps_sh_in {f : Nat → Int32} {a m i : Nat} (h : a ≤ i) (h2 : i < m) : ps_sh f a m i = f (i + 1) := if_pos ⟨h, h2⟩
theorem ps_sh_lo {f : Nat → Int32} {a m i : Nat} (h : i < a) : ps_sh f a m i = f i := if_neg (by omega)
theorem ps_sh_hi {f : Nat → Int32} {a m i : Nat} (h : m ≤ i) : ps_sh f a m i = f i := if_neg (by omega)
def ps_rs (f : Nat → Int32) (a m : Nat) : Nat → Int32 := fun i => if a < i ∧ i ≤ m then f (i - 1) else f i
theorem ps_rs0 {f : Nat → Int32} {m : Nat} : ps_rs f m m = f := by
  funext i
  exact if_neg (by omega)
theorem ps_rsS {f : Nat → Int32} {i m : Nat} (h : i + 1 ≤ m) : upd (ps_rs f (i + 1) m) (i + 1) (ps_rs f (i + 1) m i) = ps_rs f i m := by
  funext j
  simp only [upd, ps_rs]
  by_cases h1 : j = i + 1
  · subst h1
    rw [if_pos rfl, if_neg (by omega), if_pos (by omega), Nat.add_sub_cancel]
  · rw [if_neg h1]
    by_cases h2 : i + 1 < j ∧ j ≤ m
    · rw [if_pos h2, if_pos (by omega)]
    · rw [if_neg h2, if_neg (by omega)]
theorem ps_rs_in {f : Nat → Int32} {a m i : Nat} (h : a < i) (h2 : i ≤ m) : ps_rs f a m i = f (i - 1) := if_pos ⟨h, h2⟩
theorem ps_rs_lo {f : Nat → Int32} {a m i : Nat} (h : i ≤ a) : ps_rs f a m i = f i := if_neg (by omega)
theorem ps_upd0 {f : Nat → Int32} {k : Nat} {x : Int32} (h : f k = x) : upd f k x = f := by
  funext i
  by_cases e : i = k
  · rw [e, pk_us, h]
  · exact pk_un e
/-! the smallest free id -/
theorem ps_pig : ∀ (n m : Nat) (g : Nat → Nat), (∀ i, i < m → ∃ j, j < n ∧ g j = i) → m ≤ n := by
  intro n
  induction n with
  | zero =>
    intro m g h
    cases m with
    | zero => exact Nat.le_refl 0
    | succ m =>
      obtain ⟨j, hj, _⟩ := h 0 (by omega)
      omega
  | succ n ih =>
    intro m g h
    cases m with
    | zero => exact Nat.zero_le _
    | succ m =>
      obtain ⟨j0, hj0, e0⟩ := h m (by omega)
      have h2 : m ≤ n := by
        refine ih m (fun j => if j = j0 then g n else g j) (fun i hi => ?_)
        obtain ⟨j, hj, e⟩ := h i (by omega)
        have hne : j ≠ j0 := by
          intro e1
          rw [e1, e0] at e
          omega
        by_cases hn : j = n
        · refine ⟨j0, by omega, ?_⟩
          show (if j0 = j0 then g n else g j0) = i
          rw [if_pos rfl, ← hn]
          exact e
        · refine ⟨j, by omega, ?_⟩
          show (if j = j0 then g n else g j) = i
          rw [if_neg hne]
          exact e
      omega
theorem ps_free (n : Nat) (hn : n < 1000) (ids : Nat → Int32) : ∃ i, 1 ≤ i ∧ i ≤ n + 1 ∧ (∀ j, j < n → ids j ≠ nI i) ∧ ∀ k, 1 ≤ k → k < i → ∃ j, j < n ∧ ids j = nI k := by
  have hex : ∃ i, (1 ≤ i ∧ i ≤ n + 1) ∧ ∀ j, j < n → ids j ≠ nI i := by
    apply Classical.byContradiction
    intro hc
    have h := ps_pig n (n + 1) (fun j => (ids j).toNatClampNeg - 1) (fun i hi => by
      apply Classical.byContradiction
      intro hd
      apply hc
      refine ⟨i + 1, ⟨by omega, by omega⟩, fun j hj e => hd ⟨j, hj, ?_⟩⟩
      show (ids j).toNatClampNeg - 1 = i
      rw [e, nI_clamp (by omega)]
      omega)
    omega
  obtain ⟨i, ⟨⟨h1, h2⟩, h3⟩, hl⟩ := pk_least (fun i => (1 ≤ i ∧ i ≤ n + 1) ∧ ∀ j, j < n → ids j ≠ nI i) hex
  refine ⟨i, h1, h2, h3, fun k hk hki => ?_⟩
  apply Classical.byContradiction
  intro hd
  exact hl k hki ⟨⟨hk, by omega⟩, fun j hj e => hd ⟨j, hj, e⟩⟩
/-! a number of marked cells -/
def ps_hc (f : Nat → Int32) (base : Nat) : Nat → Nat
  | 0 => 0
  | n + 1 => ps_hc f base n + (if f (base + (n + 1)) = 0 then 0 else 1)
theorem ps_hcS (f : Nat → Int32) (base n : Nat) : ps_hc f base (n + 1) = ps_hc f base n + (if f (base + (n + 1)) = 0 then 0 else 1) := rfl
theorem ps_hc_le (f : Nat → Int32) (base : Nat) : ∀ n, ps_hc f base n ≤ n := by
  intro n
  induction n with
  | zero => exact Nat.le_refl 0
  | succ n ih =>
    rw [ps_hcS]
    split <;> omega
theorem ps_hc_lt {f : Nat → Int32} {base i : Nat} : ∀ n, 1 ≤ i → i ≤ n → f (base + i) = 0 → ps_hc f base n < n := by
  intro n
  induction n with
  | zero => intro h1 h2; omega
  | succ n ih =>
    intro h1 h2 h3
    rw [ps_hcS]
    by_cases e : i = n + 1
    · subst e
      rw [if_pos h3]
      have := ps_hc_le f base n
      omega
    · have := ih h1 (by omega) h3
      split <;> omega
theorem ps_hc_cg {f g : Nat → Int32} {b1 b2 : Nat} : ∀ n, (∀ i, 1 ≤ i → i ≤ n → f (b1 + i) = g (b2 + i)) → ps_hc f b1 n = ps_hc g b2 n := by
  intro n
  induction n with
  | zero => intro _; rfl
  | succ n ih =>
    intro h
    rw [ps_hcS, ps_hcS, ih (fun i h1 h2 => h i h1 (by omega)), h (n + 1) (by omega) (by omega)]
theorem ps_hc_set {f : Nat → Int32} {base i : Nat} {v : Int32} (hv : v ≠ 0) : ∀ n, 1 ≤ i → i ≤ n → f (base + i) = 0 → ps_hc (upd f (base + i) v) base n = ps_hc f base n + 1 := by
  intro n
  induction n with
  | zero => intro h1 h2; omega
  | succ n ih =>
    intro h1 h2 h3
    rw [ps_hcS, ps_hcS]
    by_cases e : i = n + 1
    · subst e
      rw [if_pos h3, pk_us, if_neg hv, ps_hc_cg (g := f) (b2 := base) n (fun j h1 h2 => pk_un (by omega))]
    · rw [ih h1 (by omega) h3, pk_un (by omega)]
      omega
theorem ps_hc_clr {f : Nat → Int32} {base i : Nat} : ∀ n, 1 ≤ i → i ≤ n → f (base + i) ≠ 0 → ps_hc (upd f (base + i) 0) base n + 1 = ps_hc f base n := by
  intro n
  induction n with
  | zero => intro h1 h2; omega
  | succ n ih =>
    intro h1 h2 h3
    rw [ps_hcS, ps_hcS]
    by_cases e : i = n + 1
    · subst e
      rw [if_neg h3, pk_us, if_pos rfl, ps_hc_cg (g := f) (b2 := base) n (fun j h1 h2 => pk_un (by omega))]
    · have := ih h1 (by omega) h3
      rw [pk_un (by omega)]
      omega
theorem ps_hc_0 {f : Nat → Int32} {base : Nat} : ∀ n, (∀ i, 1 ≤ i → i ≤ n → f (base + i) = 0) → ps_hc f base n = 0 := by
  intro n
  induction n with
  | zero => intro _; rfl
  | succ n ih =>
    intro h
    rw [ps_hcS, ih (fun i h1 h2 => h i h1 (by omega)), if_pos (h (n + 1) (by omega) (by omega))]
end P1
end
section
section Q2
abbrev TA : Type := Nat → Int32
abbrev T5 : Type := Int32 × Int32 × Int32 × Int32 × Int32
abbrev N5 : Type := Nat × Nat × Nat × Nat × Nat
abbrev TO : Type := TA × TA × TA × TA × TA × TA
abbrev TW : Type := TA × TA × TA × TA × TA × TA × TA
abbrev TR : Type := Int32 × TA × TA
abbrev TP : Type := Int32 × TA × TA × TA × TA
abbrev TK : Type := TA × TA × TA × TA
abbrev TL : Type := TA × TA × TA
abbrev XS (p : TP) (k : TK) (r : TR) (l s : TL) (o : TO) (h : TA) (w : TW) : St1 := (p.1, r.1, p.2.1, p.2.2.1, p.2.2.2.1, p.2.2.2.2, k.1, k.2.1, k.2.2.1, k.2.2.2, r.2.1, r.2.2, l.1, l.2.1, l.2.2, s.1, s.2.1, s.2.2, o.1, o.2.1, o.2.2.1, o.2.2.2.1, o.2.2.2.2.1, o.2.2.2.2.2, h, w.1, w.2.1, w.2.2.1, w.2.2.2.1, w.2.2.2.2.1, w.2.2.2.2.2.1, w.2.2.2.2.2.2)
def ps_5 (a b c d e : TA) (i : Nat) : T5 := (a i, b i, c i, d i, e i)
theorem ps_5u {a b c d e : TA} {k : Nat} {v1 v2 v3 v4 v5 : Int32} (i : Nat) : ps_5 (upd a k v1) (upd b k v2) (upd c k v3) (upd d k v4) (upd e k v5) i = if i = k then (v1, v2, v3, v4, v5) else ps_5 a b c d e i := by
  unfold ps_5 upd
  split <;> rfl
theorem ps_5s {a b c d e : TA} {p m : Nat} (i : Nat) : ps_5 (ps_sh a p m) (ps_sh b p m) (ps_sh c p m) (ps_sh d p m) (ps_sh e p m) i = if p ≤ i ∧ i < m then ps_5 a b c d e (i + 1) else ps_5 a b c d e i := by
  unfold ps_5 ps_sh
  split <;> rfl
theorem ps_5g {a b c d e : TA} {k : Nat} {v : Int32} (i : Nat) : ps_5 a b c d (upd e k v) i = if i = k then (a k, b k, c k, d k, v) else ps_5 a b c d e i := by
  unfold ps_5 upd
  by_cases h : i = k
  · rw [if_pos h, if_pos h, h]
  · rw [if_neg h, if_neg h]
def ps_o5 (o : TO) : Nat → T5 := ps_5 o.2.1 o.2.2.1 o.2.2.2.1 o.2.2.2.2.1 o.2.2.2.2.2
def ps_w5 (w : TW) : Nat → T5 := ps_5 w.2.2.1 w.2.2.2.1 w.2.2.2.2.1 w.2.2.2.2.2.1 w.2.2.2.2.2.2
/-! numbers -/
theorem pn_m32 (a : Nat) : nI a * 32 = nI (a * 32) := pk_mul a 32
theorem pn_m17 (a : Nat) : nI a * 17 = nI (a * 17) := pk_mul a 17
theorem pn_m16 (a : Nat) : nI a * 16 = nI (a * 16) := pk_mul a 16
theorem pn_m25 (a : Nat) : nI a * 25 = nI (a * 25) := pk_mul a 25
theorem pn_m4 (a : Nat) : nI a * 4 = nI (a * 4) := pk_mul a 4
theorem pn_4a (a : Nat) : 4 + nI a = nI (4 + a) := nI_add 4 a
theorem pn_b {v : Int32} (h : v = 0 ∨ v = 1) : vp_nar .boolean v = v := by
  rcases h with rfl | rfl <;> decide
theorem pn_cl {x : Int32} {n : Nat} (hx : x = nI n) (h : n < 100000) : x.toNatClampNeg = n := by
  rw [hx]; exact nI_clamp (by omega)
theorem pn_u {f : TA} {x : Int32} {n : Nat} {v v' : Int32} (hx : x = nI n) (h : n < 100000) (hv : v = v') : upd f x.toNatClampNeg v = upd f n v' := by
  rw [pn_cl hx h, hv]
theorem pn_sh {f : TA} {a j : Nat} {x y : Int32} (hx : x = nI j) (hy : y = nI (j + 1)) (h : a ≤ j) (hj : j < 10000) : upd (ps_sh f a j) x.toNatClampNeg (ps_sh f a j y.toNatClampNeg) = ps_sh f a (j + 1) := by
  rw [pn_cl hx (by omega), pn_cl hy (by omega)]
  exact ps_shS h
def ps_B (f : TA) : Prop := ∀ i, f i = 0 ∨ f i = 1
theorem ps_B_u {f : TA} (h : ps_B f) {k : Nat} {v : Int32} (hv : v = 0 ∨ v = 1) : ps_B (upd f k v) := by
  intro i
  by_cases e : i = k
  · rw [e, pk_us]; exact hv
  · rw [pk_un e]; exact h i
theorem ps_B_s {f : TA} (h : ps_B f) {a m : Nat} : ps_B (ps_sh f a m) := by
  intro i
  unfold ps_sh
  split
  · exact h _
  · exact h _
theorem pn_shB {f : TA} {a j : Nat} {x y : Int32} (hb : ps_B f) (hx : x = nI j) (hy : y = nI (j + 1)) (h : a ≤ j) (hj : j < 10000) : upd (ps_sh f a j) x.toNatClampNeg (vp_nar .boolean (ps_sh f a j y.toNatClampNeg)) = ps_sh f a (j + 1) := by
  rw [pn_b (ps_B_s hb _)]
  exact pn_sh hx hy h hj
/-! lists -/
theorem ls_lt {α : Type} {L : List α} {j : Nat} {t : α} (h : L[j]? = some t) : j < L.length := by
  obtain ⟨h1, _⟩ := List.getElem?_eq_some_iff.mp h
  exact h1
theorem ls_ex {α : Type} {L : List α} {j : Nat} (h : j < L.length) : ∃ t, L[j]? = some t := ⟨L[j], List.getElem?_eq_getElem h⟩
theorem ls_mem {α : Type} {L : List α} {j : Nat} {t : α} (h : L[j]? = some t) : t ∈ L := List.mem_of_getElem? h
theorem ls_app {α : Type} {L : List α} {t t' : α} {j : Nat} (h : (L ++ [t])[j]? = some t') : (j < L.length ∧ L[j]? = some t') ∨ (j = L.length ∧ t' = t) := by
  by_cases hj : j < L.length
  · rw [List.getElem?_append_left hj] at h
    exact Or.inl ⟨hj, h⟩
  · have h2 := ls_lt h
    rw [List.length_append, List.length_singleton] at h2
    obtain rfl : j = L.length := by omega
    rw [List.getElem?_append_right (Nat.le_refl _), Nat.sub_self] at h
    exact Or.inr ⟨rfl, (Option.some.inj h).symm⟩
def fu {α : Type} (f : Nat → α) (x : Nat) (v : α) : Nat → α := fun y => if y = x then v else f y
theorem fu_s {α : Type} {f : Nat → α} {x : Nat} {v : α} : fu f x v x = v := if_pos rfl
theorem fu_n {α : Type} {f : Nat → α} {x y : Nat} {v : α} (h : y ≠ x) : fu f x v y = f y := if_neg h
/-! the pictures: wires, outboxes, HELD sets -/
def cv (t : N5) : T5 := (nI t.1, nI t.2.1, nI t.2.2.1, nI t.2.2.2.1, nI t.2.2.2.2)
/-- a packet: kind, id, serial, quality, mark -/
def pw_ok (t : N5) : Prop := 1 ≤ t.1 ∧ t.1 ≤ 5 ∧ t.2.1 ≤ 16 ∧ (t.1 = 1 → 1 ≤ t.2.2.1 ∧ t.2.2.1 ≤ 24) ∧ t.2.2.1 ≤ 24 ∧ t.2.2.2.1 ≤ 2 ∧ t.2.2.2.2 ≤ 1 ∧ (t.1 = 1 → t.2.2.2.1 = 0 ∨ 1 ≤ t.2.1) ∧ (¬ t.1 = 1 → 1 ≤ t.2.1)
/-- an entry: serial, quality, id, mark, stage -/
def eo_ok (t : N5) : Prop := 1 ≤ t.1 ∧ t.1 ≤ 24 ∧ 1 ≤ t.2.1 ∧ t.2.1 ≤ 2 ∧ 1 ≤ t.2.2.1 ∧ t.2.2.1 ≤ 16 ∧ t.2.2.2.1 ≤ 1 ∧ 1 ≤ t.2.2.2.2 ∧ t.2.2.2.2 ≤ 2
def pc_W (w : TW) (W : Nat → List N5) : Prop := (∀ x, x < 8 → (W x).length ≤ 32 ∧ (∀ t, t ∈ W x → pw_ok t) ∧ ∃ h, h < 32 ∧ w.1 x = nI h ∧ w.2.1 x = nI (W x).length ∧ ∀ j t, (W x)[j]? = some t → ps_w5 w (x * 32 + (h + j) % 32) = cv t) ∧ ps_B w.2.2.2.2.2.2
def pc_O (o : TO) (O : Nat → List N5) : Prop := (∀ x, x < 8 → (O x).length ≤ 16 ∧ (∀ t, t ∈ O x → eo_ok t) ∧ o.1 x = nI (O x).length ∧ ∀ j t, (O x)[j]? = some t → ps_o5 o (x * 16 + j) = cv t) ∧ ps_B o.2.2.2.2.1
def bI (b : Bool) : Int32 := if b then 1 else 0
def pc_H (h : TA) (H : Nat → Nat → Bool) : Prop := ∀ x i, x < 8 → 1 ≤ i → i ≤ 16 → h (x * 17 + i) = bI (H x i)
theorem bI_0 {b : Bool} : bI b = 0 ↔ b = false := by cases b <;> decide
/-! a packet is put -/
theorem px_put {p : TP} {k : TK} {r : TR} {l s : TL} {o : TO} {h : TA} {w : TW} {x n d : Nat} (hx : x < 8) (hn : w.2.1 x = nI n) (hd : w.1 x = nI d) (n32 : n < 32) (d32 : d < 32) {K I S Q M : Int32} (hM : M = 0 ∨ M = 1) {post : St1 → Prop}
    (hp : post (XS p k r l s o h (w.1, upd w.2.1 x (nI (n + 1)), upd w.2.2.1 (x * 32 + (d + n) % 32) K, upd w.2.2.2.1 (x * 32 + (d + n) % 32) I, upd w.2.2.2.2.1 (x * 32 + (d + n) % 32) S, upd w.2.2.2.2.2.1 (x * 32 + (d + n) % 32) Q, upd w.2.2.2.2.2.2 (x * 32 + (d + n) % 32) M))) :
    wpX_putPacket post (XS p k r l s o h w) (nI x) K I S Q M := by
  have cx : (nI x).toNatClampNeg = x := nI_clamp (by omega)
  have i8 : vp_in (nI x) 8 := vp_in_nI hx (by omega)
  have ic : vp_in (nI (x * 32 + (d + n) % 32)) 256 := vp_in_nI (by omega) (by omega)
  have cc : (nI (x * 32 + (d + n) % 32)).toNatClampNeg = x * 32 + (d + n) % 32 := nI_clamp (by omega)
  refine ⟨i8, br_f (by rw [cx, hn]; exact fun z => by rw [show (32 : Int32) = nI 32 from rfl, nI_eq (by omega) (by omega)] at z; omega) ⟨i8, i8, by decide, nm_r (e' := nI (x * 32 + (d + n) % 32)) ?_ ⟨ic, nm_r (by rw [cc]) ⟨ic, nm_r (by rw [cc]) ⟨ic, nm_r (by rw [cc]) ⟨ic, nm_r (by rw [cc]) ⟨ic, nm_r (by rw [cc, pn_b hM]) ⟨i8, i8, nm_r (e' := upd w.2.1 x (nI (n + 1))) (by rw [cx, hn, nI_1]) hp⟩⟩⟩⟩⟩⟩⟩⟩
  rw [cx, hn, hd, nI_add d n, pn_m32]
  exact (congrArg (nI (x * 32) + ·) (pk_rem (a := d + n) (d := 32) (by omega) (by omega) (by omega))).trans (nI_add _ _)
theorem nI_01 {m : Nat} (h : m ≤ 1) : nI m = 0 ∨ nI m = 1 := by
  have : m = 0 ∨ m = 1 := by omega
  rcases this with rfl | rfl
  · exact Or.inl rfl
  · exact Or.inr rfl
theorem pq_put {w : TW} {W : Nat → List N5} (H : pc_W w W) {x : Nat} (hx : x < 8) (hl : (W x).length < 32) {t : N5} (ht : pw_ok t) : ∃ w', pc_W w' (fu W x (W x ++ [t]))
    ∧ (∀ (p : TP) (k : TK) (r : TR) (l s : TL) (o : TO) (h : TA) (post : St1 → Prop), post (XS p k r l s o h w') → wpX_putPacket post (XS p k r l s o h w) (nI x) (nI t.1) (nI t.2.1) (nI t.2.2.1) (nI t.2.2.2.1) (nI t.2.2.2.2)) := by
  obtain ⟨a1, a2, d, hd, hw, hc, ha⟩ := H.1 x hx
  have hM := nI_01 ht.2.2.2.2.2.2.1
  refine ⟨_, ⟨fun y hy => ?_, ps_B_u H.2 hM⟩, fun p k r l s o h post hp => px_put hx hc hw hl hd hM hp⟩
  by_cases e : y = x
  · subst e
    rw [fu_s]
    refine ⟨by rw [List.length_append, List.length_singleton]; omega, fun t' h => ?_, d, hd, hw, ?_, fun j t' hj => ?_⟩
    · rcases List.mem_append.mp h with h | h
      · exact a2 t' h
      · rw [List.mem_singleton.mp h]; exact ht
    · rw [List.length_append, List.length_singleton]; exact pk_us
    · refine (ps_5u _).trans ?_
      rcases ls_app hj with ⟨h1, h2⟩ | ⟨h1, h2⟩
      · rw [if_neg (by omega)]
        exact ha j t' h2
      · rw [h1, if_pos rfl, h2]
        rfl
  · rw [fu_n e]
    obtain ⟨b1, b2, d', hd', hw', hc', ha'⟩ := H.1 y hy
    refine ⟨b1, b2, d', hd', hw', (pk_un e).trans hc', fun j t' hj => ?_⟩
    refine (ps_5u _).trans ?_
    rw [if_neg (by omega)]
    exact ha' j t' hj
theorem pq_reply {w : TW} {W : Nat → List N5} (H : pc_W w W) {x K i : Nat} (hx : x < 8) (hl : (W x).length < 32) (hK : 2 ≤ K) (hK5 : K ≤ 5) (h1 : 1 ≤ i) (hi : i ≤ 16) : ∃ w', pc_W w' (fu W x (W x ++ [(K, i, 0, 0, 0)]))
    ∧ (∀ (p : TP) (k : TK) (r : TR) (l s : TL) (o : TO) (h : TA) (post : St1 → Prop), post (XS p k r l s o h w') → wpX_putReply post (XS p k r l s o h w) (nI x) (nI K) (nI i)) := by
  obtain ⟨w', h1, h2⟩ := pq_put H hx hl (t := (K, i, 0, 0, 0)) ⟨by show 1 ≤ K; omega, hK5, hi, fun z => by have z' : K = 1 := z; omega, Nat.zero_le _, Nat.zero_le _, Nat.zero_le _, fun z => by have z' : K = 1 := z; omega, fun _ => h1⟩
  exact ⟨w', h1, fun p k r l s o h post hp => by unfold wpX_putReply; exact h2 p k r l s o h _ hp⟩
/-! the oldest packet is taken off -/
theorem px_old {p : TP} {k : TK} {r : TR} {l s : TL} {o : TO} {h : TA} {w : TW} {x d : Nat} (hx : x < 8) (hd : w.1 x = nI d) {post : Int32 → Prop} (hp : post (nI (x * 32 + d))) : wpX_oldestPacket post (XS p k r l s o h w) (nI x) := by
  have cx : (nI x).toNatClampNeg = x := nI_clamp (by omega)
  refine ⟨vp_in_nI hx (by omega), ?_⟩
  show post (nI x * 32 + w.1 (nI x).toNatClampNeg)
  rw [cx, hd, pn_m32, nI_add]
  exact hp
theorem px_rem {p : TP} {k : TK} {r : TR} {l s : TL} {o : TO} {h : TA} {w : TW} {x d n : Nat} (hx : x < 8) (hd : w.1 x = nI d) (d32 : d < 32) (hn : w.2.1 x = nI (n + 1)) (n32 : n < 32) {post : St1 → Prop}
    (hp : post (XS p k r l s o h (upd w.1 x (nI ((d + 1) % 32)), upd w.2.1 x (nI n), w.2.2))) : wpX_removeOldestPacket post (XS p k r l s o h w) (nI x) := by
  have cx : (nI x).toNatClampNeg = x := nI_clamp (by omega)
  have i8 : vp_in (nI x) 8 := vp_in_nI hx (by omega)
  refine ⟨i8, by decide, i8, nm_r (e' := upd w.1 x (nI ((d + 1) % 32))) ?_ ⟨i8, i8, nm_r (e' := upd w.2.1 x (nI n)) (by rw [cx, hn, nI_pred]) hp⟩⟩
  rw [cx, hd, nI_1]
  exact congrArg (upd w.1 x) (pk_rem (a := d + 1) (d := 32) (by omega) (by omega) (by omega))
theorem pq_pop {w : TW} {W : Nat → List N5} (H : pc_W w W) {x : Nat} (hx : x < 8) {t : N5} {L : List N5} (hW : W x = t :: L) : ∃ (w' : TW) (d : Nat), pc_W w' (fu W x L) ∧ pw_ok t ∧ d < 32 ∧ ps_w5 w (x * 32 + d) = cv t
    ∧ (∀ (p : TP) (k : TK) (r : TR) (l s : TL) (o : TO) (h : TA) (post : Int32 → Prop), post (nI (x * 32 + d)) → wpX_oldestPacket post (XS p k r l s o h w) (nI x))
    ∧ (∀ (p : TP) (k : TK) (r : TR) (l s : TL) (o : TO) (h : TA) (post : St1 → Prop), post (XS p k r l s o h w') → wpX_removeOldestPacket post (XS p k r l s o h w) (nI x)) := by
  obtain ⟨a1, a2, d, hd, hw, hc, ha⟩ := H.1 x hx
  rw [hW] at a1 a2 hc ha
  rw [List.length_cons] at a1 hc
  have h0 := ha 0 t rfl
  rw [Nat.add_zero, Nat.mod_eq_of_lt hd] at h0
  refine ⟨(upd w.1 x (nI ((d + 1) % 32)), upd w.2.1 x (nI L.length), w.2.2), d, ⟨fun y hy => ?_, H.2⟩, a2 t (List.mem_cons_self ..), hd, h0, fun p k r l s o h post hp => px_old hx hw hp, fun p k r l s o h post hp => px_rem hx hw hd hc (by omega) hp⟩
  by_cases e : y = x
  · subst e
    rw [fu_s]
    refine ⟨by omega, fun t' h => a2 t' (List.mem_cons_of_mem _ h), (d + 1) % 32, by omega, pk_us, pk_us, fun j t' hj => ?_⟩
    have := ha (j + 1) t' hj
    rw [show ((d + 1) % 32 + j) % 32 = (d + (j + 1)) % 32 by omega]
    exact this
  · rw [fu_n e]
    obtain ⟨b1, b2, d', hd', hw', hc', ha'⟩ := H.1 y hy
    exact ⟨b1, b2, d', hd', (pk_un e).trans hw', (pk_un e).trans hc', ha'⟩
end Q2
end
section
section Q3
/-! the first place of a value -/
def ps_F (f : TA) (a n : Nat) (I : Int32) (j : Nat) : Prop := j ≤ n ∧ (∀ i, i < j → f (a + i) ≠ I) ∧ (j < n → f (a + j) = I)
theorem ps_F_ex (f : TA) (a : Nat) (I : Int32) : ∀ n, ∃ j, ps_F f a n I j := by
  intro n
  induction n with
  | zero => exact ⟨0, Nat.le_refl 0, fun i hi => absurd hi (by omega), fun h => absurd h (by omega)⟩
  | succ n ih =>
    obtain ⟨j, h1, h2, h3⟩ := ih
    by_cases hj : j < n
    · exact ⟨j, by omega, h2, fun _ => h3 hj⟩
    · obtain rfl : j = n := by omega
      by_cases e : f (a + j) = I
      · exact ⟨j, by omega, h2, fun _ => e⟩
      · refine ⟨j + 1, by omega, fun i hi => ?_, fun h => absurd h (by omega)⟩
        by_cases e2 : i = j
        · rw [e2]; exact e
        · exact h2 i (by omega)
theorem ps_F_cg {f g : TA} {a b n : Nat} {I : Int32} {j : Nat} (H : ps_F f a n I j) (h : ∀ i, i < n → f (a + i) = g (b + i)) : ps_F g b n I j := by
  obtain ⟨h1, h2, h3⟩ := H
  exact ⟨h1, fun i hi => by rw [← h i (by omega)]; exact h2 i hi, fun hj => by rw [← h j hj]; exact h3 hj⟩
theorem px_fe_lp {p : TP} {k : TK} {r : TR} {l s : TL} {o : TO} {h : TA} {w : TW} {x n j : Nat} {I : Int32} (hx : x < 8) (n16 : n ≤ 16) (F : ps_F o.2.2.2.1 (x * 16) n I j) {post : Int32 → Prop} (h1 : j < n → post (nI (x * 16 + j))) (h2 : j = n → post (-1)) :
    ∀ d i, i + d = j → wX_findEntry_18 post I (nI (x * 16 + n)) p.1 r.1 p.2.1 p.2.2.1 p.2.2.2.1 p.2.2.2.2 k.1 k.2.1 k.2.2.1 k.2.2.2 r.2.1 r.2.2 l.1 l.2.1 l.2.2 s.1 s.2.1 s.2.2 o.1 o.2.1 o.2.2.1 o.2.2.2.1 o.2.2.2.2.1 o.2.2.2.2.2 h w.1 w.2.1 w.2.2.1 w.2.2.2.1 w.2.2.2.2.1 w.2.2.2.2.2.1 w.2.2.2.2.2.2 (d + 1) (nI (x * 16 + i)) := by
  intro d
  have hj := F.1
  induction d with
  | zero =>
    intro i hi
    obtain rfl : i = j := by omega
    by_cases hn : i < n
    · exact br_f (nI_ge (by omega) (by omega)) ⟨vp_in_nI (by omega) (by omega), br_t (by rw [nI_clamp (by omega)]; exact F.2.2 hn) (h1 hn)⟩
    · exact br_t (nI_le (by omega) (by omega)) (h2 (by omega))
  | succ d ih =>
    intro i hi
    exact br_f (nI_ge (by omega) (by omega)) ⟨vp_in_nI (by omega) (by omega), br_f (by rw [nI_clamp (by omega)]; exact F.2.1 i (by omega)) (nm_r (nI_1 _) (ih (i + 1) (by omega)))⟩
theorem px_fe {p : TP} {k : TK} {r : TR} {l s : TL} {o : TO} {h : TA} {w : TW} {x n j : Nat} {I : Int32} (hx : x < 8) (hn : o.1 x = nI n) (n16 : n ≤ 16) (F : ps_F o.2.2.2.1 (x * 16) n I j) {post : Int32 → Prop} (h1 : j < n → post (nI (x * 16 + j))) (h2 : j = n → post (-1)) :
    wpX_findEntry post (XS p k r l s o h w) (nI x) I := by
  have cx : (nI x).toNatClampNeg = x := nI_clamp (by omega)
  exact nm_r (pn_m16 x) ⟨vp_in_nI hx (by omega), nm_r (e' := nI (x * 16 + n)) (by rw [cx, hn, nI_add]) ⟨j + 1, px_fe_lp hx n16 F h1 h2 j 0 (by omega)⟩⟩
/-! a new entry -/
theorem px_free {p : TP} {k : TK} {r : TR} {l s : TL} {o : TO} {h : TA} {w : TW} {x n fr : Nat} (hx : x < 8) (hn : o.1 x = nI n) (n16 : n ≤ 16) (f1 : 1 ≤ fr) (f2 : fr ≤ n + 1) (f3 : ∀ j, j < n → o.2.2.2.1 (x * 16 + j) ≠ nI fr) (f4 : ∀ i, 1 ≤ i → i < fr → ∃ j, j < n ∧ o.2.2.2.1 (x * 16 + j) = nI i) {post : Int32 → Prop} (hp : post (nI fr)) :
    ∀ d i, 1 ≤ i → i + d = fr → wX_smallestFreeId_2 post (nI x) p.1 r.1 p.2.1 p.2.2.1 p.2.2.2.1 p.2.2.2.2 k.1 k.2.1 k.2.2.1 k.2.2.2 r.2.1 r.2.2 l.1 l.2.1 l.2.2 s.1 s.2.1 s.2.2 o.1 o.2.1 o.2.2.1 o.2.2.2.1 o.2.2.2.2.1 o.2.2.2.2.2 h w.1 w.2.1 w.2.2.1 w.2.2.2.1 w.2.2.2.2.1 w.2.2.2.2.2.1 w.2.2.2.2.2.2 (d + 1) (nI i) := by
  have cx : (nI x).toNatClampNeg = x := nI_clamp (by omega)
  have i8 : vp_in (nI x) 8 := vp_in_nI hx (by omega)
  intro d
  induction d with
  | zero =>
    intro i hi hd
    obtain rfl : i = fr := by omega
    by_cases hk : i ≤ n
    · obtain ⟨j, F⟩ := ps_F_ex o.2.2.2.1 (x * 16) (nI i) n
      have hj : j = n := by
        apply Classical.byContradiction
        intro hne
        have := F.1
        exact f3 j (by omega) (F.2.2 (by omega))
      exact ⟨i8, br_f (by rw [cx, hn]; exact nI_nlt (by omega) (by omega)) (px_fe (p := p) (k := k) (r := r) (l := l) (s := s) (o := o) (h := h) (w := w) hx hn n16 F (fun hlt => absurd hlt (by omega)) (fun _ => br_f (by decide) hp))⟩
    · obtain rfl : i = n + 1 := by omega
      refine ⟨i8, br_t (by rw [cx, hn]; exact nI_lt (by omega) (by omega)) ⟨i8, ?_⟩⟩
      rw [cx, hn, nI_1]
      exact hp
  | succ d ih =>
    intro i hi hd
    obtain ⟨j, F⟩ := ps_F_ex o.2.2.2.1 (x * 16) (nI i) n
    obtain ⟨j', hj', ej'⟩ := f4 i hi (by omega)
    have hj : j < n := by
      apply Classical.byContradiction
      intro hne
      exact F.2.1 j' (by omega) ej'
    exact ⟨i8, br_f (by rw [cx, hn]; exact nI_nlt (by omega) (by omega)) (px_fe (p := p) (k := k) (r := r) (l := l) (s := s) (o := o) (h := h) (w := w) hx hn n16 F (fun _ => br_t (nI_pos' (by omega)) (nm_r (nI_1 _) (ih (i + 1) (by omega) (by omega)))) (fun h => absurd h (by omega)))⟩
theorem px_add {p : TP} {k : TK} {r : TR} {l s : TL} {o : TO} {h : TA} {w : TW} {x n fr : Nat} (hx : x < 8) (hn : o.1 x = nI n) (n16 : n < 16) (f1 : 1 ≤ fr) (f2 : fr ≤ n + 1) (f3 : ∀ j, j < n → o.2.2.2.1 (x * 16 + j) ≠ nI fr) (f4 : ∀ i, 1 ≤ i → i < fr → ∃ j, j < n ∧ o.2.2.2.1 (x * 16 + j) = nI i) {S Q M : Int32} (hM : M = 0 ∨ M = 1) {post : Int32 → St1 → Prop}
    (hp : post (nI fr) (XS p k r l s (upd o.1 x (nI (n + 1)), upd o.2.1 (x * 16 + n) S, upd o.2.2.1 (x * 16 + n) Q, upd o.2.2.2.1 (x * 16 + n) (nI fr), upd o.2.2.2.2.1 (x * 16 + n) M, upd o.2.2.2.2.2 (x * 16 + n) 1) h w)) :
    wpX_appendEntry post (XS p k r l s o h w) (nI x) S Q M := by
  have cx : (nI x).toNatClampNeg = x := nI_clamp (by omega)
  have i8 : vp_in (nI x) 8 := vp_in_nI hx (by omega)
  have ic : vp_in (nI (x * 16 + n)) 128 := vp_in_nI (by omega) (by omega)
  have cc : (nI (x * 16 + n)).toNatClampNeg = x * 16 + n := nI_clamp (by omega)
  unfold wpX_appendEntry wpX_smallestFreeId
  exact ⟨fr - 1 + 1, px_free hx hn (by omega) f1 f2 f3 f4 ⟨i8, nm_r (e' := nI (x * 16 + n)) (by rw [cx, hn, pn_m16, nI_add]) ⟨ic, nm_r (by rw [cc]) ⟨ic, nm_r (by rw [cc]) ⟨ic, nm_r (by rw [cc]) ⟨ic, nm_r (by rw [cc, pn_b hM]) ⟨ic, nm_r (by rw [cc]) ⟨i8, i8, nm_r (e' := upd o.1 x (nI (n + 1))) (by rw [cx, hn, nI_1]) hp⟩⟩⟩⟩⟩⟩⟩ (fr - 1) 1 (by omega) (by omega)⟩
theorem px_del {p : TP} {k : TK} {r : TR} {l s : TL} {o : TO} {h : TA} {w : TW} {x n j : Nat} (hx : x < 8) (hn : o.1 x = nI (n + 1)) (n16 : n < 16) (hj : j ≤ n) (hb : ps_B o.2.2.2.2.1) {post : St1 → Prop}
    (hp : post (XS p k r l s (upd o.1 x (nI n), ps_sh o.2.1 (x * 16 + j) (x * 16 + n), ps_sh o.2.2.1 (x * 16 + j) (x * 16 + n), ps_sh o.2.2.2.1 (x * 16 + j) (x * 16 + n), ps_sh o.2.2.2.2.1 (x * 16 + j) (x * 16 + n), ps_sh o.2.2.2.2.2 (x * 16 + j) (x * 16 + n)) h w)) :
    wpX_removeEntry post (XS p k r l s o h w) (nI x) (nI (x * 16 + j)) := by
  have cx : (nI x).toNatClampNeg = x := nI_clamp (by omega)
  have i8 : vp_in (nI x) 8 := vp_in_nI hx (by omega)
  have hl : ∀ d i, j ≤ i → i + d = n → wX_removeEntry_17 post (nI x) (nI (x * 16 + n)) p.1 r.1 (d + 1) (nI (x * 16 + i)) p.2.1 p.2.2.1 p.2.2.2.1 p.2.2.2.2 k.1 k.2.1 k.2.2.1 k.2.2.2 r.2.1 r.2.2 l.1 l.2.1 l.2.2 s.1 s.2.1 s.2.2 o.1 (ps_sh o.2.1 (x * 16 + j) (x * 16 + i)) (ps_sh o.2.2.1 (x * 16 + j) (x * 16 + i)) (ps_sh o.2.2.2.1 (x * 16 + j) (x * 16 + i)) (ps_sh o.2.2.2.2.1 (x * 16 + j) (x * 16 + i)) (ps_sh o.2.2.2.2.2 (x * 16 + j) (x * 16 + i)) h w.1 w.2.1 w.2.2.1 w.2.2.2.1 w.2.2.2.2.1 w.2.2.2.2.2.1 w.2.2.2.2.2.2 := by
    intro d
    induction d with
    | zero =>
      intro i h1 hi
      obtain rfl : i = n := by omega
      exact br_t (nI_le (by omega) (by omega)) ⟨i8, i8, nm_r (e' := upd o.1 x (nI i)) (by rw [cx, hn, nI_pred]) hp⟩
    | succ d ih =>
      intro i h1 hi
      have a0 : vp_in (nI (x * 16 + i)) 128 := vp_in_nI (by omega) (by omega)
      have a1 : vp_in (nI (x * 16 + i) + 1) 128 := by rw [nI_1]; exact vp_in_nI (by omega) (by omega)
      exact br_f (nI_ge (by omega) (by omega)) ⟨a1, a0, nm_r (pn_sh rfl (nI_1 _) (by omega) (by omega)) ⟨a1, a0, nm_r (pn_sh rfl (nI_1 _) (by omega) (by omega)) ⟨a1, a0, nm_r (pn_sh rfl (nI_1 _) (by omega) (by omega)) ⟨a1, a0, nm_r (pn_shB hb rfl (nI_1 _) (by omega) (by omega)) ⟨a1, a0, nm_r (pn_sh rfl (nI_1 _) (by omega) (by omega)) (nm_r (nI_1 _) (ih (i + 1) (by omega) (by omega)))⟩⟩⟩⟩⟩
  have hl0 := hl (n - j) j (Nat.le_refl j) (by omega)
  rw [ps_sh0 (Nat.le_refl _), ps_sh0 (Nat.le_refl _), ps_sh0 (Nat.le_refl _), ps_sh0 (Nat.le_refl _), ps_sh0 (Nat.le_refl _)] at hl0
  exact ⟨i8, nm_r (e' := nI (x * 16 + n)) (by rw [cx, hn, pn_m16, nI_add, ← Nat.add_assoc, nI_pred]) ⟨n - j + 1, hl0⟩⟩

/-- the entry with an id -/
theorem pq_fe {o : TO} {O : Nat → List N5} (H : pc_O o O) {x i : Nat} (hx : x < 8) (hi : i < 1000) : ∃ R : Int32, (∀ (p : TP) (k : TK) (r : TR) (l s : TL) (h : TA) (w : TW) (post : Int32 → Prop), post R → wpX_findEntry post (XS p k r l s o h w) (nI x) (nI i))
    ∧ ((R = -1 ∧ ∀ e, e ∈ O x → e.2.2.1 ≠ i) ∨ ∃ j e, R = nI (x * 16 + j) ∧ j < 16 ∧ (O x)[j]? = some e ∧ e.2.2.1 = i) := by
  obtain ⟨a1, a2, a3, a4⟩ := H.1 x hx
  obtain ⟨j, F⟩ := ps_F_ex o.2.2.2.1 (x * 16) (nI i) (O x).length
  have hj := F.1
  have hid : ∀ j e, (O x)[j]? = some e → o.2.2.2.1 (x * 16 + j) = nI e.2.2.1 := fun j e h => congrArg (fun t : T5 => t.2.2.1) (a4 j e h)
  by_cases hlt : j < (O x).length
  · obtain ⟨e, he⟩ := ls_ex hlt
    have h1 := F.2.2 hlt
    rw [hid j e he] at h1
    have h2 := a2 e (ls_mem he)
    have h3 := (nI_eq (by have := h2.2.2.2.2.2.1; omega) (by omega)).mp h1
    exact ⟨nI (x * 16 + j), fun p k r l s h w post hp => px_fe hx a3 a1 F (fun _ => hp) (fun z => absurd z (by omega)), Or.inr ⟨j, e, rfl, by omega, he, h3⟩⟩
  · refine ⟨-1, fun p k r l s h w post hp => px_fe hx a3 a1 F (fun z => absurd z hlt) (fun _ => hp), Or.inl ⟨rfl, fun e he z => ?_⟩⟩
    obtain ⟨j', hj'⟩ := List.mem_iff_getElem?.mp he
    have h1 := F.2.1 j' (by have := ls_lt hj'; omega)
    rw [hid j' e hj', z] at h1
    exact h1 rfl
theorem pq_add {o : TO} {O : Nat → List N5} (H : pc_O o O) {x sn qn mn : Nat} (hx : x < 8) (hl : (O x).length < 16) (s1 : 1 ≤ sn) (s2 : sn ≤ 24) (q1 : 1 ≤ qn) (q2 : qn ≤ 2) (m1 : mn ≤ 1) : ∃ (o' : TO) (i : Nat), 1 ≤ i ∧ i ≤ 16 ∧ (∀ e, e ∈ O x → e.2.2.1 ≠ i) ∧ pc_O o' (fu O x (O x ++ [(sn, qn, i, mn, 1)]))
    ∧ (∀ (p : TP) (k : TK) (r : TR) (l s : TL) (h : TA) (w : TW) (post : Int32 → St1 → Prop), post (nI i) (XS p k r l s o' h w) → wpX_appendEntry post (XS p k r l s o h w) (nI x) (nI sn) (nI qn) (nI mn)) := by
  obtain ⟨a1, a2, a3, a4⟩ := H.1 x hx
  have hM := nI_01 m1
  have hid : ∀ j e, (O x)[j]? = some e → o.2.2.2.1 (x * 16 + j) = nI e.2.2.1 := fun j e h => congrArg (fun t : T5 => t.2.2.1) (a4 j e h)
  obtain ⟨i, i1, i2, i3, i4⟩ := ps_free (O x).length (by omega) (fun j => o.2.2.2.1 (x * 16 + j))
  refine ⟨_, i, i1, by omega, fun e he z => ?_, ⟨fun y hy => ?_, ps_B_u H.2 hM⟩, fun p k r l s h w post hp => px_add hx a3 hl i1 i2 i3 i4 hM hp⟩
  · obtain ⟨j', hj'⟩ := List.mem_iff_getElem?.mp he
    have h1 := i3 j' (ls_lt hj')
    apply h1
    show o.2.2.2.1 (x * 16 + j') = nI i
    rw [hid j' e hj', z]
  · by_cases e : y = x
    · subst e
      rw [fu_s]
      refine ⟨by rw [List.length_append, List.length_singleton]; omega, fun t' h => ?_, ?_, fun j t' hj => ?_⟩
      · rcases List.mem_append.mp h with h | h
        · exact a2 t' h
        · rw [List.mem_singleton.mp h]
          exact ⟨s1, s2, q1, q2, i1, by show i ≤ 16; omega, m1, Nat.le_refl 1, (by decide : 1 ≤ 2)⟩
      · rw [List.length_append, List.length_singleton]; exact pk_us
      · refine (ps_5u _).trans ?_
        rcases ls_app hj with ⟨h1, h2⟩ | ⟨h1, h2⟩
        · rw [if_neg (by omega)]
          exact a4 j t' h2
        · rw [h1, if_pos rfl, h2]
          rfl
    · rw [fu_n e]
      obtain ⟨b1, b2, b3, b4⟩ := H.1 y hy
      refine ⟨b1, b2, (pk_un e).trans b3, fun j t' hj => ?_⟩
      refine (ps_5u _).trans ?_
      have := ls_lt hj
      rw [if_neg (by omega)]
      exact b4 j t' hj
theorem pq_del {o : TO} {O : Nat → List N5} (H : pc_O o O) {x j : Nat} (hx : x < 8) (hj : j < (O x).length) : ∃ o', pc_O o' (fu O x ((O x).eraseIdx j))
    ∧ (∀ (p : TP) (k : TK) (r : TR) (l s : TL) (h : TA) (w : TW) (post : St1 → Prop), post (XS p k r l s o' h w) → wpX_removeEntry post (XS p k r l s o h w) (nI x) (nI (x * 16 + j))) := by
  obtain ⟨a1, a2, a3, a4⟩ := H.1 x hx
  obtain ⟨n, hn⟩ : ∃ n, (O x).length = n + 1 := ⟨(O x).length - 1, by omega⟩
  rw [hn] at a3
  refine ⟨_, ⟨fun y hy => ?_, ps_B_s H.2⟩, fun p k r l s h w post hp => px_del hx a3 (by omega) (by omega) H.2 hp⟩
  by_cases e : y = x
  · subst e
    have hlen : ((O y).eraseIdx j).length = n := by
      rw [List.length_eraseIdx_of_lt hj, hn]
      rfl
    rw [fu_s]
    refine ⟨by omega, fun t' h => a2 t' (List.mem_of_mem_eraseIdx h), by rw [hlen]; exact pk_us, fun i t' hi => ?_⟩
    have hi' := ls_lt hi
    rw [hlen] at hi'
    rw [List.getElem?_eraseIdx] at hi
    refine (ps_5s _).trans ?_
    by_cases hlt : i < j
    · rw [if_pos hlt] at hi
      rw [if_neg (by omega)]
      exact a4 i t' hi
    · rw [if_neg hlt] at hi
      rw [if_pos (by omega)]
      exact a4 (i + 1) t' hi
  · rw [fu_n e]
    obtain ⟨b1, b2, b3, b4⟩ := H.1 y hy
    refine ⟨b1, b2, (pk_un e).trans b3, fun i t' hi => ?_⟩
    refine (ps_5s _).trans ?_
    have := ls_lt hi
    rw [if_neg (by omega)]
    exact b4 i t' hi
theorem pq_mod {o : TO} {O : Nat → List N5} (H : pc_O o O) {x j : Nat} (hx : x < 8) {e : N5} (he : (O x)[j]? = some e) : pc_O (o.1, o.2.1, o.2.2.1, o.2.2.2.1, o.2.2.2.2.1, upd o.2.2.2.2.2 (x * 16 + j) 2) (fu O x ((O x).set j (e.1, e.2.1, e.2.2.1, e.2.2.2.1, 2))) := by
  obtain ⟨a1, a2, a3, a4⟩ := H.1 x hx
  have hj := ls_lt he
  have ho := a2 e (ls_mem he)
  refine ⟨fun y hy => ?_, H.2⟩
  by_cases ey : y = x
  · subst ey
    rw [fu_s]
    refine ⟨by rw [List.length_set]; exact a1, fun t' h => ?_, by rw [List.length_set]; exact a3, fun i t' hi => ?_⟩
    · rcases List.mem_or_eq_of_mem_set h with h | h
      · exact a2 t' h
      · rw [h]
        exact ⟨ho.1, ho.2.1, ho.2.2.1, ho.2.2.2.1, ho.2.2.2.2.1, ho.2.2.2.2.2.1, ho.2.2.2.2.2.2.1, (by decide : 1 ≤ 2), Nat.le_refl 2⟩
    · refine (ps_5g _).trans ?_
      rw [List.getElem?_set] at hi
      have h5 := a4 j e he
      by_cases hij : j = i
      · subst hij
        rw [if_pos rfl, if_pos hj] at hi
        have hi' := Option.some.inj hi
        rw [if_pos rfl, ← hi']
        have g1 : o.2.1 (y * 16 + j) = nI e.1 := congrArg (fun t : T5 => t.1) h5
        have g2 : o.2.2.1 (y * 16 + j) = nI e.2.1 := congrArg (fun t : T5 => t.2.1) h5
        have g3 : o.2.2.2.1 (y * 16 + j) = nI e.2.2.1 := congrArg (fun t : T5 => t.2.2.1) h5
        have g4 : o.2.2.2.2.1 (y * 16 + j) = nI e.2.2.2.1 := congrArg (fun t : T5 => t.2.2.2.1) h5
        rw [g1, g2, g3, g4]
        rfl
      · rw [if_neg hij] at hi
        rw [if_neg (by omega)]
        exact a4 i t' hi
  · rw [fu_n ey]
    obtain ⟨b1, b2, b3, b4⟩ := H.1 y hy
    refine ⟨b1, b2, b3, fun i t' hi => ?_⟩
    refine (ps_5g _).trans ?_
    have := ls_lt hi
    rw [if_neg (by omega)]
    exact b4 i t' hi
end Q3
end
section
section Q4
/-! one direction of a link: the sender's entries E, the wire F from sender to receiver, the wire B back, the receiver's HELD ids H -/
def lk (E : List N5) (i : Nat) : Option N5 := E.find? (fun e => e.2.2.1 == i)
def ndk (E : List N5) : Prop := ∀ (i j : Nat) (e e' : N5), E[i]? = some e → E[j]? = some e' → e.2.2.1 = e'.2.2.1 → i = j
theorem lk_mem {E : List N5} {i : Nat} {e : N5} (h : lk E i = some e) : e ∈ E ∧ e.2.2.1 = i := by
  have h1 := List.mem_of_find?_eq_some h
  have h2 := List.find?_some h
  exact ⟨h1, by simpa using h2⟩
theorem lk_none {E : List N5} {i : Nat} : lk E i = none ↔ ∀ e, e ∈ E → e.2.2.1 ≠ i := by
  unfold lk
  rw [List.find?_eq_none]
  constructor
  · intro h e he hi
    exact h e he (by simp [hi])
  · intro h e he hi
    exact h e he (by simpa using hi)
theorem lk_of {E : List N5} (nd : ndk E) {e : N5} (he : e ∈ E) : lk E e.2.2.1 = some e := by
  cases hx : lk E e.2.2.1 with
  | none => exact absurd rfl (lk_none.mp hx e he)
  | some e' =>
    obtain ⟨h1, h2⟩ := lk_mem hx
    obtain ⟨i, hi⟩ := List.mem_iff_getElem?.mp he
    obtain ⟨j, hj⟩ := List.mem_iff_getElem?.mp h1
    have := nd i j e e' hi hj h2.symm
    subst this
    rw [hi] at hj
    exact hj.symm
theorem ndk_nil : ndk [] := by
  intro i j e e' h
  simp at h
theorem ndk_app {E : List N5} (nd : ndk E) {e : N5} (hf : ∀ e', e' ∈ E → e'.2.2.1 ≠ e.2.2.1) : ndk (E ++ [e]) := by
  intro i j a b hi hj hab
  rcases ls_app hi with ⟨h1, h2⟩ | ⟨h1, h2⟩ <;> rcases ls_app hj with ⟨h3, h4⟩ | ⟨h3, h4⟩
  · exact nd i j a b h2 h4 hab
  · subst h4
    exact absurd hab (hf a (ls_mem h2))
  · subst h2
    exact absurd hab.symm (hf b (ls_mem h4))
  · omega
theorem ndk_erase {E : List N5} (nd : ndk E) (k : Nat) : ndk (E.eraseIdx k) := by
  intro i j a b hi hj hab
  rw [List.getElem?_eraseIdx] at hi hj
  by_cases h1 : i < k <;> by_cases h2 : j < k
  · rw [if_pos h1] at hi; rw [if_pos h2] at hj
    exact nd i j a b hi hj hab
  · rw [if_pos h1] at hi; rw [if_neg h2] at hj
    have := nd i (j + 1) a b hi hj hab
    omega
  · rw [if_neg h1] at hi; rw [if_pos h2] at hj
    have := nd (i + 1) j a b hi hj hab
    omega
  · rw [if_neg h1] at hi; rw [if_neg h2] at hj
    have := nd (i + 1) (j + 1) a b hi hj hab
    omega
theorem ndk_set {E : List N5} (nd : ndk E) {k : Nat} {e e2 : N5} (he : E[k]? = some e) (h2 : e2.2.2.1 = e.2.2.1) : ndk (E.set k e2) := by
  have key : ∀ (i : Nat) (a : N5), (E.set k e2)[i]? = some a → ∃ a' : N5, E[i]? = some a' ∧ a'.2.2.1 = a.2.2.1 := by
    intro i a hi
    rw [List.getElem?_set] at hi
    by_cases h : k = i
    · subst h
      rw [if_pos rfl, if_pos (ls_lt he)] at hi
      have := Option.some.inj hi
      exact ⟨e, he, by rw [← this, h2]⟩
    · rw [if_neg h] at hi
      exact ⟨a, hi, rfl⟩
  intro i j a b hi hj hab
  obtain ⟨a', ha, ea⟩ := key i a hi
  obtain ⟨b', hb, eb⟩ := key j b hj
  exact nd i j a' b' ha hb (by rw [ea, eb, hab])
theorem lk_app {E : List N5} {e : N5} (hf : ∀ e', e' ∈ E → e'.2.2.1 ≠ e.2.2.1) (i : Nat) : lk (E ++ [e]) i = if i = e.2.2.1 then some e else lk E i := by
  by_cases h : i = e.2.2.1
  · rw [if_pos h]
    subst h
    unfold lk
    rw [List.find?_append]
    have : E.find? (fun e' => e'.2.2.1 == e.2.2.1) = none := lk_none.mpr hf
    rw [this]
    simp
  · rw [if_neg h]
    unfold lk
    rw [List.find?_append]
    have : [e].find? (fun e' => e'.2.2.1 == i) = none := by
      have h' : ¬ e.2.2.1 = i := fun z => h z.symm
      simp [h']
    rw [this]
    simp
theorem lk_erase {E : List N5} (nd : ndk E) {k : Nat} {e : N5} (he : E[k]? = some e) (i : Nat) : lk (E.eraseIdx k) i = if i = e.2.2.1 then none else lk E i := by
  by_cases h : i = e.2.2.1
  · rw [if_pos h, lk_none]
    intro a ha hai
    obtain ⟨j, hj⟩ := List.mem_iff_getElem?.mp ha
    rw [List.getElem?_eraseIdx] at hj
    by_cases hjk : j < k
    · rw [if_pos hjk] at hj
      have := nd j k a e hj he (by rw [hai, h])
      omega
    · rw [if_neg hjk] at hj
      have := nd (j + 1) k a e hj he (by rw [hai, h])
      omega
  · rw [if_neg h]
    cases hx : lk E i with
    | none =>
      rw [lk_none] at hx ⊢
      exact fun a ha => hx a (List.mem_of_mem_eraseIdx ha)
    | some a =>
      obtain ⟨h1, h2⟩ := lk_mem hx
      have h3 : a ∈ E.eraseIdx k := by
        obtain ⟨j, hj⟩ := List.mem_iff_getElem?.mp h1
        have hne : j ≠ k := by
          intro z
          rw [z, he] at hj
          have := Option.some.inj hj
          rw [← this] at h2
          exact h h2.symm
        apply List.mem_iff_getElem?.mpr
        by_cases hjk : j < k
        · exact ⟨j, by rw [List.getElem?_eraseIdx, if_pos hjk]; exact hj⟩
        · refine ⟨j - 1, ?_⟩
          rw [List.getElem?_eraseIdx, if_neg (by omega), show j - 1 + 1 = j by omega]
          exact hj
      have := lk_of (ndk_erase nd k) h3
      rw [h2] at this
      exact this
theorem lk_set {E : List N5} (nd : ndk E) {k : Nat} {e e2 : N5} (he : E[k]? = some e) (h2 : e2.2.2.1 = e.2.2.1) (i : Nat) : lk (E.set k e2) i = if i = e.2.2.1 then some e2 else lk E i := by
  have nd' := ndk_set nd he h2
  by_cases h : i = e.2.2.1
  · rw [if_pos h]
    have h3 : e2 ∈ E.set k e2 := List.mem_iff_getElem?.mpr ⟨k, by rw [List.getElem?_set, if_pos rfl, if_pos (ls_lt he)]⟩
    have := lk_of nd' h3
    rw [h2] at this
    rw [h]
    exact this
  · rw [if_neg h]
    cases hx : lk E i with
    | none =>
      rw [lk_none] at hx ⊢
      intro a ha
      rcases List.mem_or_eq_of_mem_set ha with ha | ha
      · exact hx a ha
      · rw [ha, h2]
        exact fun z => h z.symm
    | some a =>
      obtain ⟨h1, h4⟩ := lk_mem hx
      have h3 : a ∈ E.set k e2 := by
        obtain ⟨j, hj⟩ := List.mem_iff_getElem?.mp h1
        have hne : k ≠ j := by
          intro z
          rw [← z, he] at hj
          have := Option.some.inj hj
          rw [← this] at h4
          exact h h4.symm
        exact List.mem_iff_getElem?.mpr ⟨j, by rw [List.getElem?_set, if_neg hne]; exact hj⟩
      have := lk_of nd' h3
      rw [h4] at this
      exact this
/-! the packets of one id that go forth, that come back -/
def isF (i : Nat) (t : N5) : Bool := t.2.1 == i && (t.1 == 1 || t.1 == 4)
def isB (i : Nat) (t : N5) : Bool := t.2.1 == i && (t.1 == 2 || t.1 == 3 || t.1 == 5)
/-- where one id's exchange stands -/
def tk1 (i : Nat) (E : Option N5) (f b : List N5) (h : Bool) (up : Bool) (tk : N5 → Prop) : Prop :=
  (E = none ∧ f = [] ∧ b = [] ∧ h = false)
  ∨ ∃ e, E = some e ∧ (
      (e.2.1 = 1 ∧ e.2.2.2.2 = 1 ∧ h = false ∧ ((up = false ∧ f = [] ∧ b = []) ∨ (up = true ∧ f = [(1, i, e.1, 1, e.2.2.2.1)] ∧ b = []) ∨ (up = true ∧ f = [] ∧ b = [(2, i, 0, 0, 0)] ∧ tk e)))
    ∨ (e.2.1 = 2 ∧ e.2.2.2.2 = 1 ∧ (h = true → tk e) ∧ ((up = false ∧ f = [] ∧ b = []) ∨ (up = true ∧ f = [(1, i, e.1, 2, e.2.2.2.1)] ∧ b = []) ∨ (up = true ∧ f = [] ∧ b = [(3, i, 0, 0, 0)] ∧ h = true)))
    ∨ (e.2.1 = 2 ∧ e.2.2.2.2 = 2 ∧ tk e ∧ ((up = false ∧ f = [] ∧ b = []) ∨ (up = true ∧ f = [(4, i, 0, 0, 0)] ∧ b = []) ∨ (up = true ∧ f = [] ∧ b = [(5, i, 0, 0, 0)] ∧ h = false))))
def TOK (E F B : List N5) (H : Nat → Bool) (up : Bool) (tk : N5 → Prop) : Prop := ndk E ∧ ∀ i, 1 ≤ i → i ≤ 16 → tk1 i (lk E i) (F.filter (isF i)) (B.filter (isB i)) (H i) up tk
theorem tk1_mono {i : Nat} {E : Option N5} {f b : List N5} {h up : Bool} {tk tk' : N5 → Prop} (hm : ∀ e, E = some e → tk e → tk' e) (H : tk1 i E f b h up tk) : tk1 i E f b h up tk' := by
  rcases H with H | ⟨e, he, H⟩
  · exact Or.inl H
  · refine Or.inr ⟨e, he, ?_⟩
    have hm' := hm e he
    rcases H with ⟨a, b, c, d | d | ⟨d1, d2, d3, d4⟩⟩ | ⟨a, b, c, d⟩ | ⟨a, b, c, d⟩
    · exact Or.inl ⟨a, b, c, Or.inl d⟩
    · exact Or.inl ⟨a, b, c, Or.inr (Or.inl d)⟩
    · exact Or.inl ⟨a, b, c, Or.inr (Or.inr ⟨d1, d2, d3, hm' d4⟩)⟩
    · exact Or.inr (Or.inl ⟨a, b, fun z => hm' (c z), d⟩)
    · exact Or.inr (Or.inr ⟨a, b, hm' c, d⟩)
theorem TOK_mono {E F B : List N5} {H : Nat → Bool} {up : Bool} {tk tk' : N5 → Prop} (hm : ∀ e, e ∈ E → tk e → tk' e) (T : TOK E F B H up tk) : TOK E F B H up tk' :=
  ⟨T.1, fun i h1 h2 => tk1_mono (fun e he => hm e (lk_mem he).1) (T.2 i h1 h2)⟩
/-- packets that aren't this direction's -/
theorem TOK_F {E F B : List N5} {H : Nat → Bool} {up : Bool} {tk : N5 → Prop} (T : TOK E F B H up tk) {t : N5} (ht : ∀ i, 1 ≤ i → isF i t = false) : TOK E (F ++ [t]) B H up tk := by
  refine ⟨T.1, fun i h1 h2 => ?_⟩
  have := T.2 i h1 h2
  rw [List.filter_append]
  simp only [List.filter_cons, ht i h1, List.filter_nil, Bool.false_eq_true, if_false, List.append_nil]
  exact this
theorem TOK_B {E F B : List N5} {H : Nat → Bool} {up : Bool} {tk : N5 → Prop} (T : TOK E F B H up tk) {t : N5} (ht : ∀ i, 1 ≤ i → isB i t = false) : TOK E F (B ++ [t]) H up tk := by
  refine ⟨T.1, fun i h1 h2 => ?_⟩
  have := T.2 i h1 h2
  rw [List.filter_append]
  simp only [List.filter_cons, ht i h1, List.filter_nil, Bool.false_eq_true, if_false, List.append_nil]
  exact this
theorem TOK_Fp {E F B : List N5} {H : Nat → Bool} {up : Bool} {tk : N5 → Prop} {t : N5} (T : TOK E (t :: F) B H up tk) (ht : ∀ i, 1 ≤ i → isF i t = false) : TOK E F B H up tk := by
  refine ⟨T.1, fun i h1 h2 => ?_⟩
  have := T.2 i h1 h2
  simp only [List.filter_cons, ht i h1] at this
  exact this
theorem TOK_Bp {E F B : List N5} {H : Nat → Bool} {up : Bool} {tk : N5 → Prop} {t : N5} (T : TOK E F (t :: B) H up tk) (ht : ∀ i, 1 ≤ i → isB i t = false) : TOK E F B H up tk := by
  refine ⟨T.1, fun i h1 h2 => ?_⟩
  have := T.2 i h1 h2
  simp only [List.filter_cons, ht i h1] at this
  exact this
end Q4
end
section
section Q5
theorem isF_id {i : Nat} {t : N5} (h : isF i t = true) : t.2.1 = i ∧ (t.1 = 1 ∨ t.1 = 4) := by
  unfold isF at h
  simp only [Bool.and_eq_true, Bool.or_eq_true, beq_iff_eq] at h
  exact h
theorem isB_id {i : Nat} {t : N5} (h : isB i t = true) : t.2.1 = i ∧ (t.1 = 2 ∨ t.1 = 3 ∨ t.1 = 5) := by
  unfold isB at h
  simp only [Bool.and_eq_true, Bool.or_eq_true, beq_iff_eq] at h
  exact ⟨h.1, by rcases h.2 with (h | h) | h <;> simp [h]⟩
theorem isF_ne {i : Nat} {t : N5} (h : t.2.1 ≠ i) : isF i t = false := by
  unfold isF
  simp [h]
theorem isB_ne {i : Nat} {t : N5} (h : t.2.1 ≠ i) : isB i t = false := by
  unfold isB
  simp [h]
theorem isF_k {i : Nat} {t : N5} (h1 : t.1 ≠ 1) (h4 : t.1 ≠ 4) : isF i t = false := by
  unfold isF
  simp [h1, h4]
theorem isB_k {i : Nat} {t : N5} (h2 : t.1 ≠ 2) (h3 : t.1 ≠ 3) (h5 : t.1 ≠ 5) : isB i t = false := by
  unfold isB
  simp [h2, h3, h5]
theorem fl_app {p : N5 → Bool} {F : List N5} {t : N5} : (F ++ [t]).filter p = F.filter p ++ (if p t then [t] else []) := by
  rw [List.filter_append]
  simp only [List.filter_cons, List.filter_nil]
theorem fl_cons {p : N5 → Bool} {F : List N5} {t : N5} : (t :: F).filter p = if p t then t :: F.filter p else F.filter p := by
  rw [List.filter_cons]
/-- a new entry, the link up -/
theorem TOK_new {E F B : List N5} {H : Nat → Bool} {tk : N5 → Prop} (T : TOK E F B H true tk) {s q i m : Nat} (h1 : 1 ≤ i) (h2 : i ≤ 16) (hq : q = 1 ∨ q = 2) (hf : ∀ e, e ∈ E → e.2.2.1 ≠ i) : TOK (E ++ [(s, q, i, m, 1)]) (F ++ [(1, i, s, q, m)]) B H true tk := by
  refine ⟨ndk_app T.1 hf, fun i' a b => ?_⟩
  have T' := T.2 i' a b
  rw [lk_app hf, fl_app]
  by_cases hi : i' = i
  · subst hi
    rw [lk_none.mpr hf] at T'
    rcases T' with ⟨_, c, d, e⟩ | ⟨e, he, _⟩
    · have ht : isF i' (1, i', s, q, m) = true := by unfold isF; simp
      rw [c, d, e, if_pos rfl, ht]
      refine Or.inr ⟨_, rfl, ?_⟩
      rcases hq with rfl | rfl
      · exact Or.inl ⟨rfl, rfl, rfl, Or.inr (Or.inl ⟨rfl, rfl, rfl⟩)⟩
      · exact Or.inr (Or.inl ⟨rfl, rfl, fun z => absurd z (by decide), Or.inr (Or.inl ⟨rfl, rfl, rfl⟩)⟩)
    · exact absurd he (by simp)
  · have ht : isF i' (1, i, s, q, m) = false := isF_ne (fun z => hi z.symm)
    rw [ht, if_neg hi]
    simp only [Bool.false_eq_true, if_false, List.append_nil]
    exact T'
/-- a new entry, the link down -/
theorem TOK_newd {E F B : List N5} {H : Nat → Bool} {tk : N5 → Prop} (T : TOK E F B H false tk) {s q i m : Nat} (h1 : 1 ≤ i) (h2 : i ≤ 16) (hq : q = 1 ∨ q = 2) (hf : ∀ e, e ∈ E → e.2.2.1 ≠ i) : TOK (E ++ [(s, q, i, m, 1)]) F B H false tk := by
  refine ⟨ndk_app T.1 hf, fun i' a b => ?_⟩
  have T' := T.2 i' a b
  rw [lk_app hf]
  by_cases hi : i' = i
  · subst hi
    rw [lk_none.mpr hf] at T'
    rcases T' with ⟨_, c, d, e⟩ | ⟨e, he, _⟩
    · rw [c, d, e, if_pos rfl]
      refine Or.inr ⟨_, rfl, ?_⟩
      rcases hq with rfl | rfl
      · exact Or.inl ⟨rfl, rfl, rfl, Or.inl ⟨rfl, rfl, rfl⟩⟩
      · exact Or.inr (Or.inl ⟨rfl, rfl, fun z => absurd z (by decide), Or.inl ⟨rfl, rfl, rfl⟩⟩)
    · exact absurd he (by simp)
  · rw [if_neg hi]
    exact T'
/-- a packet of this direction arrives: what it is -/
theorem TOK_look {E F B : List N5} {H : Nat → Bool} {up : Bool} {tk : N5 → Prop} {t : N5} {i : Nat} (T : TOK E (t :: F) B H up tk) (h1 : 1 ≤ i) (h2 : i ≤ 16) (ht : isF i t = true) :
    up = true ∧ F.filter (isF i) = [] ∧ B.filter (isB i) = [] ∧ ∃ e, lk E i = some e ∧ ((e.2.1 = 1 ∧ e.2.2.2.2 = 1 ∧ H i = false ∧ t = (1, i, e.1, 1, e.2.2.2.1)) ∨ (e.2.1 = 2 ∧ e.2.2.2.2 = 1 ∧ (H i = true → tk e) ∧ t = (1, i, e.1, 2, e.2.2.2.1)) ∨ (e.2.1 = 2 ∧ e.2.2.2.2 = 2 ∧ tk e ∧ t = (4, i, 0, 0, 0))) := by
  have T' := T.2 i h1 h2
  rw [fl_cons, ht, if_pos rfl] at T'
  rcases T' with ⟨_, c, _⟩ | ⟨e, he, T'⟩
  · exact absurd c (by simp)
  · rcases T' with ⟨a, b, c, d | d | d⟩ | ⟨a, b, c, d | d | d⟩ | ⟨a, b, c, d | d | d⟩
    · exact absurd d.2.1 (by simp)
    · obtain ⟨d1, d2, d3⟩ := d
      rw [List.cons.injEq] at d2
      exact ⟨d1, d2.2, d3, e, he, Or.inl ⟨a, b, c, d2.1⟩⟩
    · exact absurd d.2.1 (by simp)
    · exact absurd d.2.1 (by simp)
    · obtain ⟨d1, d2, d3⟩ := d
      rw [List.cons.injEq] at d2
      exact ⟨d1, d2.2, d3, e, he, Or.inr (Or.inl ⟨a, b, c, d2.1⟩)⟩
    · exact absurd d.2.1 (by simp)
    · exact absurd d.2.1 (by simp)
    · obtain ⟨d1, d2, d3⟩ := d
      rw [List.cons.injEq] at d2
      exact ⟨d1, d2.2, d3, e, he, Or.inr (Or.inr ⟨a, b, c, d2.1⟩)⟩
    · exact absurd d.2.1 (by simp)
/-- the receiver's reply, with its HELD set's change -/
theorem TOK_reply {E F B : List N5} {H : Nat → Bool} {up : Bool} {tk : N5 → Prop} {t : N5} {i k : Nat} {hb : Bool} {e : N5} (T : TOK E (t :: F) B H up tk) (h1 : 1 ≤ i) (h2 : i ≤ 16) (ht : isF i t = true) (he : lk E i = some e) (hk : k = 2 ∨ k = 3 ∨ k = 5)
    (hr : (e.2.1 = 1 ∧ e.2.2.2.2 = 1 ∧ hb = false ∧ k = 2 ∧ tk e) ∨ (e.2.1 = 2 ∧ e.2.2.2.2 = 1 ∧ tk e ∧ k = 3 ∧ hb = true) ∨ (e.2.1 = 2 ∧ e.2.2.2.2 = 2 ∧ tk e ∧ k = 5 ∧ hb = false)) : TOK E F (B ++ [(k, i, 0, 0, 0)]) (fu H i hb) up tk := by
  obtain ⟨a1, a2, a3, _⟩ := TOK_look T h1 h2 ht
  refine ⟨T.1, fun i' b1 b2 => ?_⟩
  rw [fl_app]
  by_cases hi : i' = i
  · subst hi
    have hB : isB i' (k, i', 0, 0, 0) = true := by
      unfold isB
      rcases hk with rfl | rfl | rfl <;> simp
    rw [hB, a2, a3, fu_s, if_pos rfl, he, a1]
    refine Or.inr ⟨e, rfl, ?_⟩
    rcases hr with ⟨c1, c2, rfl, rfl, c5⟩ | ⟨c1, c2, c3, rfl, rfl⟩ | ⟨c1, c2, c3, rfl, rfl⟩
    · exact Or.inl ⟨c1, c2, rfl, Or.inr (Or.inr ⟨rfl, rfl, rfl, c5⟩)⟩
    · exact Or.inr (Or.inl ⟨c1, c2, fun _ => c3, Or.inr (Or.inr ⟨rfl, rfl, rfl, rfl⟩)⟩)
    · exact Or.inr (Or.inr ⟨c1, c2, c3, Or.inr (Or.inr ⟨rfl, rfl, rfl, rfl⟩)⟩)
  · have hB : isB i' (k, i, 0, 0, 0) = false := isB_ne (fun z => hi z.symm)
    have T' := T.2 i' b1 b2
    have hF : isF i' t = false := isF_ne (fun z => hi (by rw [← z, (isF_id ht).1]))
    rw [fl_cons, hF] at T'
    rw [hB, fu_n hi]
    simp only [Bool.false_eq_true, if_false, List.append_nil] at T' ⊢
    exact T'
/-- an answer of this direction comes back: what it is -/
theorem TOK_back {E F B : List N5} {H : Nat → Bool} {up : Bool} {tk : N5 → Prop} {t : N5} {i : Nat} (T : TOK E F (t :: B) H up tk) (h1 : 1 ≤ i) (h2 : i ≤ 16) (ht : isB i t = true) :
    up = true ∧ F.filter (isF i) = [] ∧ B.filter (isB i) = [] ∧ ∃ e, lk E i = some e ∧ tk e ∧ ((e.2.1 = 1 ∧ e.2.2.2.2 = 1 ∧ H i = false ∧ t = (2, i, 0, 0, 0)) ∨ (e.2.1 = 2 ∧ e.2.2.2.2 = 1 ∧ H i = true ∧ t = (3, i, 0, 0, 0)) ∨ (e.2.1 = 2 ∧ e.2.2.2.2 = 2 ∧ H i = false ∧ t = (5, i, 0, 0, 0))) := by
  have T' := T.2 i h1 h2
  rw [fl_cons, ht, if_pos rfl] at T'
  rcases T' with ⟨_, _, c, _⟩ | ⟨e, he, T'⟩
  · exact absurd c (by simp)
  · rcases T' with ⟨a, b, c, d | d | d⟩ | ⟨a, b, c, d | d | d⟩ | ⟨a, b, c, d | d | d⟩
    · exact absurd d.2.2 (by simp)
    · exact absurd d.2.2 (by simp)
    · obtain ⟨d1, d2, d3, d4⟩ := d
      rw [List.cons.injEq] at d3
      exact ⟨d1, d2, d3.2, e, he, d4, Or.inl ⟨a, b, c, d3.1⟩⟩
    · exact absurd d.2.2 (by simp)
    · exact absurd d.2.2 (by simp)
    · obtain ⟨d1, d2, d3, d4⟩ := d
      rw [List.cons.injEq] at d3
      exact ⟨d1, d2, d3.2, e, he, c d4, Or.inr (Or.inl ⟨a, b, d4, d3.1⟩)⟩
    · exact absurd d.2.2 (by simp)
    · exact absurd d.2.2 (by simp)
    · obtain ⟨d1, d2, d3, d4⟩ := d
      rw [List.cons.injEq] at d3
      exact ⟨d1, d2, d3.2, e, he, c, Or.inr (Or.inr ⟨a, b, d4, d3.1⟩)⟩
/-- the exchange of an id ends -/
theorem TOK_end {E F B : List N5} {H : Nat → Bool} {up : Bool} {tk : N5 → Prop} {t : N5} {i j : Nat} {e : N5} (T : TOK E F (t :: B) H up tk) (h1 : 1 ≤ i) (h2 : i ≤ 16) (ht : isB i t = true) (he : E[j]? = some e) (hi : e.2.2.1 = i) (hH : H i = false) : TOK (E.eraseIdx j) F B H up tk := by
  obtain ⟨a1, a2, a3, _⟩ := TOK_back T h1 h2 ht
  refine ⟨ndk_erase T.1 j, fun i' b1 b2 => ?_⟩
  rw [lk_erase T.1 he]
  by_cases hx : i' = i
  · subst hx
    rw [hi, if_pos rfl, a2, a3, hH]
    exact Or.inl ⟨rfl, rfl, rfl, rfl⟩
  · have T' := T.2 i' b1 b2
    have hB : isB i' t = false := isB_ne (fun z => hx (by rw [← z, (isB_id ht).1]))
    rw [fl_cons, hB] at T'
    rw [hi, if_neg hx]
    simp only [Bool.false_eq_true, if_false] at T'
    exact T'
/-- the entry is released -/
theorem TOK_rel {E F B : List N5} {H : Nat → Bool} {up : Bool} {tk : N5 → Prop} {t : N5} {i j : Nat} {e : N5} (T : TOK E F (t :: B) H up tk) (h1 : 1 ≤ i) (h2 : i ≤ 16) (ht : isB i t = true) (he : E[j]? = some e) (hi : e.2.2.1 = i) (hq : e.2.1 = 2) (htk : tk (e.1, e.2.1, e.2.2.1, e.2.2.2.1, 2)) : TOK (E.set j (e.1, e.2.1, e.2.2.1, e.2.2.2.1, 2)) (F ++ [(4, i, 0, 0, 0)]) B H up tk := by
  obtain ⟨a1, a2, a3, _⟩ := TOK_back T h1 h2 ht
  refine ⟨ndk_set (e2 := (e.1, e.2.1, e.2.2.1, e.2.2.2.1, 2)) T.1 he rfl, fun i' b1 b2 => ?_⟩
  rw [lk_set (e2 := (e.1, e.2.1, e.2.2.1, e.2.2.2.1, 2)) T.1 he rfl, fl_app]
  by_cases hx : i' = i
  · subst hx
    have hF : isF i' (4, i', 0, 0, 0) = true := by unfold isF; simp
    rw [hi, if_pos rfl, a2, a3, hF, a1]
    exact Or.inr ⟨_, rfl, Or.inr (Or.inr ⟨hq, rfl, by rw [hi] at htk; exact htk, Or.inr (Or.inl ⟨rfl, rfl, rfl⟩)⟩)⟩
  · have T' := T.2 i' b1 b2
    have hB : isB i' t = false := isB_ne (fun z => hx (by rw [← z, (isB_id ht).1]))
    have hF : isF i' (4, i, 0, 0, 0) = false := isF_ne (fun z => hx z.symm)
    rw [fl_cons, hB] at T'
    rw [hi, if_neg hx, hF]
    simp only [Bool.false_eq_true, if_false, List.append_nil] at T' ⊢
    exact T'
/-- the link drops, the session stays -/
theorem TOK_down {E F B : List N5} {H : Nat → Bool} {up : Bool} {tk : N5 → Prop} (T : TOK E F B H up tk) : TOK E [] [] H false tk := by
  refine ⟨T.1, fun i h1 h2 => ?_⟩
  rcases T.2 i h1 h2 with ⟨a, _, _, b⟩ | ⟨e, he, T'⟩
  · exact Or.inl ⟨a, rfl, rfl, b⟩
  · refine Or.inr ⟨e, he, ?_⟩
    rcases T' with ⟨a, b, c, _⟩ | ⟨a, b, c, _⟩ | ⟨a, b, c, _⟩
    · exact Or.inl ⟨a, b, c, Or.inl ⟨rfl, rfl, rfl⟩⟩
    · exact Or.inr (Or.inl ⟨a, b, c, Or.inl ⟨rfl, rfl, rfl⟩⟩)
    · exact Or.inr (Or.inr ⟨a, b, c, Or.inl ⟨rfl, rfl, rfl⟩⟩)
theorem TOK_nil {B : List N5} {up : Bool} {tk : N5 → Prop} {H : Nat → Bool} (hH : ∀ i, 1 ≤ i → i ≤ 16 → H i = false) : TOK [] [] [] H up tk :=
  ⟨ndk_nil, fun i h1 h2 => Or.inl ⟨rfl, rfl, rfl, hH i h1 h2⟩⟩
/-- what a side sends again for an entry -/
def rsn (e : N5) : N5 := if e.2.2.2.2 = 1 then (1, e.2.2.1, e.1, e.2.1, e.2.2.2.1) else (4, e.2.2.1, 0, 0, 0)
theorem rsn_F {i : Nat} {e : N5} : isF i (rsn e) = (e.2.2.1 == i) := by
  unfold rsn isF
  split <;> simp
theorem rsn_B {i : Nat} {e : N5} : isB i (rsn e) = false := by
  unfold rsn isB
  split <;> simp
theorem ndk_tail {e : N5} {E : List N5} (nd : ndk (e :: E)) : ndk E ∧ ∀ e', e' ∈ E → e'.2.2.1 ≠ e.2.2.1 := by
  constructor
  · intro i j a b hi hj hab
    have := nd (i + 1) (j + 1) a b hi hj hab
    omega
  · intro e' he' h
    obtain ⟨j, hj⟩ := List.mem_iff_getElem?.mp he'
    have := nd (j + 1) 0 e' e hj rfl h
    omega
theorem rsn_fl {i : Nat} : ∀ {E : List N5}, ndk E → (E.map rsn).filter (isF i) = match lk E i with | none => [] | some e => [rsn e] := by
  intro E
  induction E with
  | nil => intro _; rfl
  | cons e E ih =>
    intro nd
    obtain ⟨h1, h2⟩ := ndk_tail nd
    have := ih h1
    rw [List.map_cons, fl_cons, rsn_F, this]
    by_cases h : e.2.2.1 = i
    · have hl : lk (e :: E) i = some e := by
        unfold lk
        rw [List.find?_cons]
        simp [h]
      have hn : lk E i = none := by
        rw [lk_none]
        intro e' he' z
        exact h2 e' he' (by rw [z, h])
      rw [hl, hn]
      simp [h]
    · have hb : (e.2.2.1 == i) = false := beq_eq_false_iff_ne.mpr h
      have hl : lk (e :: E) i = lk E i := by
        unfold lk
        exact List.find?_cons_of_neg (by rw [hb]; decide)
      rw [hl]
      simp [h]
/-- the session is resumed -/
theorem TOK_up {E B : List N5} {H : Nat → Bool} {tk : N5 → Prop} (T : TOK E [] [] H false tk) (hB : ∀ t, t ∈ B → ∀ i, isB i t = false) : TOK E (E.map rsn) B H true tk := by
  refine ⟨T.1, fun i h1 h2 => ?_⟩
  have hBf : B.filter (isB i) = [] := by
    rw [List.filter_eq_nil_iff]
    intro t ht
    rw [hB t ht i]
    decide
  rw [rsn_fl T.1, hBf]
  rcases T.2 i h1 h2 with ⟨a, _, _, b⟩ | ⟨e, he, T'⟩
  · rw [a]
    exact Or.inl ⟨rfl, rfl, rfl, b⟩
  · rw [he]
    have hid := (lk_mem he).2
    refine Or.inr ⟨e, rfl, ?_⟩
    rcases T' with ⟨a, b, c, _⟩ | ⟨a, b, c, _⟩ | ⟨a, b, c, _⟩
    · refine Or.inl ⟨a, b, c, Or.inr (Or.inl ⟨rfl, ?_, rfl⟩)⟩
      show [rsn e] = _
      unfold rsn
      rw [if_pos b, hid, a]
    · refine Or.inr (Or.inl ⟨a, b, c, Or.inr (Or.inl ⟨rfl, ?_, rfl⟩)⟩)
      show [rsn e] = _
      unfold rsn
      rw [if_pos b, hid, a]
    · refine Or.inr (Or.inr ⟨a, b, c, Or.inr (Or.inl ⟨rfl, ?_, rfl⟩)⟩)
      show [rsn e] = _
      unfold rsn
      rw [if_neg (by omega), hid]
end Q5
end
section
section Q6
/-- the counts: received by client and serial, accepted by serial, overflow by client -/
def pc_K (k : TK) (rc : Nat → Nat → Nat) (ac ov : Nat → Nat) : Prop := (∀ c s, c < 4 → s ≤ 24 → k.1 (c * 25 + s) = nI (rc c s)) ∧ (∀ s, s ≤ 24 → k.2.2.1 s = nI (ac s)) ∧ ∀ c, c < 4 → k.2.2.2 c = nI (ov c)
/-- the links -/
def pc_L (l : TL) (up se pe : Nat → Bool) : Prop := ∀ c, c < 4 → l.1 c = bI (up c) ∧ l.2.1 c = bI (se c) ∧ l.2.2 c = bI (pe c)
theorem fu_id {α : Type} (f : Nat → α) (x : Nat) : fu f x (f x) = f := by
  funext y
  by_cases h : y = x
  · rw [h, fu_s]
  · rw [fu_n h]
/-- what a SEND does to the outbox, the wire and the overflow of the broker's end -/
def SND (up : Bool) (s e m : Nat) (Od Wd : List N5) (v : Nat) (Od' Wd' : List N5) (v' : Nat) : Prop :=
  (e = 0 ∧ Od' = Od ∧ v' = v ∧ Wd' = (if up then Wd ++ [(1, 0, s, 0, m)] else Wd))
  ∨ (1 ≤ e ∧ Od.length = 16 ∧ Od' = Od ∧ Wd' = Wd ∧ v' = v + 1)
  ∨ (1 ≤ e ∧ v' = v ∧ ∃ i, 1 ≤ i ∧ i ≤ 16 ∧ (∀ a, a ∈ Od → a.2.2.1 ≠ i) ∧ Od' = Od ++ [(s, e, i, m, 1)] ∧ Wd' = (if up then Wd ++ [(1, i, s, e, m)] else Wd))
theorem pq_send {k : TK} {l : TL} {o : TO} {w : TW} {O W : Nat → List N5} {rc : Nat → Nat → Nat} {ac ov : Nat → Nat} {up se pe : Nat → Bool} (HO : pc_O o O) (HW : pc_W w W) (HK : pc_K k rc ac ov) (HL : pc_L l up se pe) {d sn qn mn : Nat} (hd : d < 4) (s1 : 1 ≤ sn) (s2 : sn ≤ 24) (hq : qn ≤ 2) (hm : mn ≤ 1) (hl : (W (4 + d)).length < 32) :
    ∃ (k' : TK) (o' : TO) (w' : TW) (O' W' : List N5) (v' : Nat), SND (up d) sn qn mn (O (4 + d)) (W (4 + d)) (ov d) O' W' v' ∧ pc_O o' (fu O (4 + d) O') ∧ pc_W w' (fu W (4 + d) W') ∧ pc_K k' rc ac (fu ov d v')
      ∧ (∀ (p : TP) (r : TR) (s : TL) (h : TA) (post : St1 → Prop), post (XS p k' r l s o' h w') → wpX_sendSerial post (XS p k r l s o h w) (nI d) (nI sn) (nI qn) (nI mn)) := by
  have cd : (nI d).toNatClampNeg = d := nI_clamp (by omega)
  have i4 : vp_in (nI d) 4 := vp_in_nI hd (by omega)
  have x8 : vp_in (nI (4 + d)) 8 := vp_in_nI (by omega) (by omega)
  have cx : (nI (4 + d)).toNatClampNeg = 4 + d := nI_clamp (by omega)
  have hup := (HL d hd).1
  have K0 : pc_K k rc ac (fu ov d (ov d)) := by rw [fu_id]; exact HK
  have O0 : pc_O o (fu O (4 + d) (O (4 + d))) := by rw [fu_id]; exact HO
  have W0 : pc_W w (fu W (4 + d) (W (4 + d))) := by rw [fu_id]; exact HW
  by_cases q0 : qn = 0
  · subst q0
    have hlt : nI 0 < 1 := by decide
    cases hb : up d with
    | false =>
      have hz : l.1 (nI d).toNatClampNeg = 0 := by rw [cd, hup, hb]; rfl
      exact ⟨k, o, w, O (4 + d), W (4 + d), ov d, Or.inl ⟨rfl, rfl, rfl, rfl⟩, O0, W0, K0, fun p r s h post hp => nm_r (pn_4a d) (br_t hlt ⟨i4, br_t hz hp⟩)⟩
    | true =>
      have hz : ¬ l.1 (nI d).toNatClampNeg = 0 := by rw [cd, hup, hb]; decide
      obtain ⟨w', a1, a2⟩ := pq_put HW (x := 4 + d) (by omega) hl (t := (1, 0, sn, 0, mn)) ⟨Nat.le_refl 1, (by decide : 1 ≤ 5), Nat.zero_le _, fun _ => ⟨s1, s2⟩, s2, Nat.zero_le _, hm, fun _ => Or.inl rfl, fun z => absurd rfl z⟩
      exact ⟨k, o, w', O (4 + d), _, ov d, Or.inl ⟨rfl, rfl, rfl, rfl⟩, O0, a1, K0, fun p r s h post hp => nm_r (pn_4a d) (br_t hlt ⟨i4, br_f hz (a2 p k r l s o h _ hp)⟩)⟩
  · have hlt : ¬ nI qn < 1 := nI_nlt (b := 1) (by omega) (by omega)
    obtain ⟨a1, a2, a3, a4⟩ := HO.1 (4 + d) (by omega)
    by_cases hf : (O (4 + d)).length = 16
    · have hx : o.1 (nI (4 + d)).toNatClampNeg = 16 := by rw [cx, a3, hf]; rfl
      refine ⟨(k.1, k.2.1, k.2.2.1, upd k.2.2.2 d (nI (ov d + 1))), o, w, O (4 + d), W (4 + d), ov d + 1, Or.inr (Or.inl ⟨by omega, hf, rfl, rfl, rfl⟩), O0, W0, ⟨HK.1, HK.2.1, fun c hc => ?_⟩, fun p r s h post hp => nm_r (pn_4a d) (br_f hlt ⟨x8, br_t hx ⟨i4, i4, nm_r (e' := upd k.2.2.2 d (nI (ov d + 1))) (by rw [cd, HK.2.2 d hd, nI_1]) hp⟩⟩)⟩
      show upd k.2.2.2 d (nI (ov d + 1)) c = nI (fu ov d (ov d + 1) c)
      by_cases e : c = d
      · rw [e, pk_us, fu_s]
      · rw [pk_un e, fu_n e]; exact HK.2.2 c hc
    · have hx : ¬ o.1 (nI (4 + d)).toNatClampNeg = 16 := by
        rw [cx, a3]
        intro z
        have := (nI_eq (b := 16) (by omega) (by omega)).mp z
        omega
      obtain ⟨o', i, i1, i2, i3, c1, c2⟩ := pq_add HO (x := 4 + d) (by omega) (by omega) s1 s2 (show 1 ≤ qn by omega) hq hm
      cases hb : up d with
      | false =>
        have hz : l.1 (nI d).toNatClampNeg = 0 := by rw [cd, hup, hb]; rfl
        exact ⟨k, o', w, _, W (4 + d), ov d, Or.inr (Or.inr ⟨by omega, rfl, i, i1, i2, i3, rfl, rfl⟩), c1, W0, K0, fun p r s h post hp => nm_r (pn_4a d) (br_f hlt ⟨x8, br_f hx (c2 p k r l s h w _ ⟨i4, br_t hz hp⟩)⟩)⟩
      | true =>
        have hz : ¬ l.1 (nI d).toNatClampNeg = 0 := by rw [cd, hup, hb]; decide
        obtain ⟨w', b1, b2⟩ := pq_put HW (x := 4 + d) (by omega) hl (t := (1, i, sn, qn, mn)) ⟨Nat.le_refl 1, (by decide : 1 ≤ 5), i2, fun _ => ⟨s1, s2⟩, s2, hq, hm, fun _ => Or.inr i1, fun z => absurd rfl z⟩
        exact ⟨k, o', w', _, _, ov d, Or.inr (Or.inr ⟨by omega, rfl, i, i1, i2, i3, rfl, rfl⟩), c1, b1, K0, fun p r s h post hp => nm_r (pn_4a d) (br_f hlt ⟨x8, br_f hx (c2 p k r l s h w _ ⟨i4, br_f hz (b2 p k r l s o' h _ hp)⟩)⟩)⟩
end Q6
end
section
section Q7
/-! levels, topics, filters, the match -/
def lv (T : Int32) (i : Nat) : Int32 := (T >>> ((4 * nI i) &&& 31)) &&& 15
theorem px_lvN {u : St2} {T : Int32} {i : Nat} {post : Int32 → Prop} (h : post (lv T i)) : wpX_level post u T (nI (i + 1)) := by
  unfold wpX_level
  rw [nI_pred]
  exact h
theorem px_lv1 {u : St2} {T : Int32} {post : Int32 → Prop} (h : post (lv T 0)) : wpX_level post u T 1 := px_lvN (i := 0) h
theorem px_lv2 {u : St2} {T : Int32} {post : Int32 → Prop} (h : post (lv T 1)) : wpX_level post u T 2 := px_lvN (i := 1) h
theorem px_lv3 {u : St2} {T : Int32} {post : Int32 → Prop} (h : post (lv T 2)) : wpX_level post u T 3 := px_lvN (i := 2) h
def mt (F T : Int32) : Nat → Nat → Bool
  | 0, _ => true
  | d + 1, i => if lv F i = 15 then true else if lv F i = 0 then (if lv T i = 0 then true else false) else if lv T i = 0 then false else if lv F i = 14 then mt F T d (i + 1) else if lv F i = lv T i then mt F T d (i + 1) else false
def ma (F T : Int32) : Bool := mt F T 3 0
theorem mt_S (F T : Int32) (d i : Nat) : mt F T (d + 1) i = if lv F i = 15 then true else if lv F i = 0 then (if lv T i = 0 then true else false) else if lv T i = 0 then false else if lv F i = 14 then mt F T d (i + 1) else if lv F i = lv T i then mt F T d (i + 1) else false := rfl
theorem px_ma_lp (F T : Int32) {post : Int32 → Prop} : ∀ d i, i + d = 3 → post (bI (mt F T d i)) → wX_filterMatches_2 post F T (d + 1) (nI (i + 1)) := by
  intro d
  induction d with
  | zero =>
    intro i hi hp
    obtain rfl : i = 3 := by omega
    exact br_t (by decide) hp
  | succ d ih =>
    intro i hi hp
    have hX : ¬ (3 : Int32) < nI (i + 1) := nI_nlt (a := 3) (b := i + 1) (by omega) (by omega)
    rw [mt_S] at hp
    by_cases h15 : lv F i = 15
    · rw [if_pos h15] at hp
      exact br_f hX (px_lvN (px_lvN (br_t h15 hp)))
    · rw [if_neg h15] at hp
      by_cases h0 : lv F i = 0
      · rw [if_pos h0] at hp
        by_cases t0 : lv T i = 0
        · rw [if_pos t0] at hp
          exact br_f hX (px_lvN (px_lvN (br_f h15 (br_t h0 (br_t t0 hp)))))
        · rw [if_neg t0] at hp
          exact br_f hX (px_lvN (px_lvN (br_f h15 (br_t h0 (br_f t0 hp)))))
      · rw [if_neg h0] at hp
        by_cases t0 : lv T i = 0
        · rw [if_pos t0] at hp
          exact br_f hX (px_lvN (px_lvN (br_f h15 (br_f h0 (br_t t0 hp)))))
        · rw [if_neg t0] at hp
          by_cases h14 : lv F i = 14
          · rw [if_pos h14] at hp
            exact br_f hX (px_lvN (px_lvN (br_f h15 (br_f h0 (br_f t0 (br_t h14 (nm_r (nI_1 _) (ih (i + 1) (by omega) hp))))))))
          · rw [if_neg h14] at hp
            by_cases hE : lv F i = lv T i
            · rw [if_pos hE] at hp
              exact br_f hX (px_lvN (px_lvN (br_f h15 (br_f h0 (br_f t0 (br_f h14 (br_t hE (nm_r (nI_1 _) (ih (i + 1) (by omega) hp)))))))))
            · rw [if_neg hE] at hp
              exact br_f hX (px_lvN (px_lvN (br_f h15 (br_f h0 (br_f t0 (br_f h14 (br_f hE hp)))))))
theorem px_ma {u : St2} {F T : Int32} {post : Int32 → Prop} (hp : post (bI (ma F T))) : wpX_filterMatches post u F T := ⟨4, px_ma_lp F T 3 0 (by omega) hp⟩
theorem pl_ma_lp (F T : Int32) {post : Int32 → Prop} : ∀ d i, i + d = 3 → post (bI (mt F T d i)) → wL_matchRule_2 post F T (d + 1) (nI i) := by
  intro d
  induction d with
  | zero =>
    intro i hi hp
    obtain rfl : i = 3 := by omega
    exact br_t (by decide) hp
  | succ d ih =>
    intro i hi hp
    have hY : ¬ (3 : Int32) ≤ nI i := nI_ge (b := 3) (a := i) (by omega) (by omega)
    rw [mt_S] at hp
    refine br_f hY (nm_r (e' := lv F i) rfl (nm_r (e' := lv T i) rfl ?_))
    by_cases h15 : lv F i = 15
    · rw [if_pos h15] at hp
      exact br_t h15 hp
    · rw [if_neg h15] at hp
      by_cases h0 : lv F i = 0
      · rw [if_pos h0] at hp
        by_cases t0 : lv T i = 0
        · rw [if_pos t0] at hp
          exact br_f h15 (br_t h0 (br_t t0 hp))
        · rw [if_neg t0] at hp
          exact br_f h15 (br_t h0 (br_f t0 hp))
      · rw [if_neg h0] at hp
        by_cases t0 : lv T i = 0
        · rw [if_pos t0] at hp
          exact br_f h15 (br_f h0 (br_t t0 hp))
        · rw [if_neg t0] at hp
          by_cases h14 : lv F i = 14
          · rw [if_pos h14] at hp
            exact br_f h15 (br_f h0 (br_f t0 (br_t h14 (nm_r (nI_1 _) (ih (i + 1) (by omega) hp)))))
          · rw [if_neg h14] at hp
            by_cases hE : lv F i = lv T i
            · rw [if_pos hE] at hp
              exact br_f h15 (br_f h0 (br_f t0 (br_f h14 (br_t hE (nm_r (nI_1 _) (ih (i + 1) (by omega) hp))))))
            · rw [if_neg hE] at hp
              exact br_f h15 (br_f h0 (br_f t0 (br_f h14 (br_f hE hp))))
theorem pl_ma {u : St2} {F T : Int32} {post : Int32 → Prop} (hp : post (bI (ma F T))) : wpL_matchRule post u F T := ⟨4, pl_ma_lp F T 3 0 (by omega) hp⟩
/-! the tests end -/
theorem px_ub (T : Int32) (u : St2) : ∃ R : Int32, (R = 0 ∨ R = 1) ∧ ∀ post : Int32 → Prop, post R → wpX_hasUnbrokenLevels post u T := by
  by_cases h1 : T < 0
  · exact ⟨0, Or.inl rfl, fun post hp => br_t h1 hp⟩
  · by_cases h2 : 4095 < T
    · exact ⟨0, Or.inl rfl, fun post hp => br_f h1 (br_t h2 hp)⟩
    · by_cases e0 : lv T 0 = 0
      · exact ⟨0, Or.inl rfl, fun post hp => br_f h1 (br_f h2 (px_lv1 (br_t e0 hp)))⟩
      · by_cases e1 : lv T 1 = 0
        · by_cases e2 : lv T 2 = 0
          · exact ⟨1, Or.inr rfl, fun post hp => br_f h1 (br_f h2 (px_lv1 (br_f e0 (px_lv2 (br_t e1 (px_lv3 (br_t e2 hp)))))))⟩
          · exact ⟨0, Or.inl rfl, fun post hp => br_f h1 (br_f h2 (px_lv1 (br_f e0 (px_lv2 (br_t e1 (px_lv3 (br_f e2 hp)))))))⟩
        · exact ⟨1, Or.inr rfl, fun post hp => br_f h1 (br_f h2 (px_lv1 (br_f e0 (px_lv2 (br_f e1 hp)))))⟩
theorem px_tp (T : Int32) (u : St2) : ∃ R : Int32, (R = 0 ∨ R = 1) ∧ ∀ post : Int32 → Prop, post R → wpX_isTopic post u T := by
  obtain ⟨R, hR, hU⟩ := px_ub T ()
  have one : ¬ (1 : Int32) = 0 := by decide
  rcases hR with rfl | rfl
  · exact ⟨0, Or.inl rfl, fun post hp => hU _ (br_t rfl hp)⟩
  · by_cases a : 13 < lv T 0
    · exact ⟨0, Or.inl rfl, fun post hp => hU _ (br_f one (px_lv1 (br_t a hp)))⟩
    · by_cases b : 13 < lv T 1
      · exact ⟨0, Or.inl rfl, fun post hp => hU _ (br_f one (px_lv1 (br_f a (px_lv2 (br_t b hp)))))⟩
      · by_cases c : 13 < lv T 2
        · exact ⟨0, Or.inl rfl, fun post hp => hU _ (br_f one (px_lv1 (br_f a (px_lv2 (br_f b (px_lv3 (br_t c hp)))))))⟩
        · exact ⟨1, Or.inr rfl, fun post hp => hU _ (br_f one (px_lv1 (br_f a (px_lv2 (br_f b (px_lv3 (br_f c hp)))))))⟩
theorem px_fi (T : Int32) (u : St2) : ∃ R : Int32, (R = 0 ∨ R = 1) ∧ ∀ post : Int32 → Prop, post R → wpX_isFilter post u T := by
  obtain ⟨R, hR, hU⟩ := px_ub T ()
  have one : ¬ (1 : Int32) = 0 := by decide
  rcases hR with rfl | rfl
  · exact ⟨0, Or.inl rfl, fun post hp => hU _ (br_t rfl hp)⟩
  · have h32 : ∀ (z : Int32), ∃ R : Int32, (R = 0 ∨ R = 1) ∧ ∀ post : Int32 → Prop, post R → wX_isFilter_32 post T z := by
      intro z
      by_cases z0 : z = 0
      · refine ⟨0, Or.inl rfl, fun post hp => px_lv2 (br_c (fun b15 => px_lv3 (br_c (fun c0 => br_t z0 hp) fun c0 => br_t z0 hp)) fun b15 => br_t z0 hp)⟩
      · by_cases b15 : lv T 1 = 15
        · by_cases c0 : lv T 2 = 0
          · exact ⟨1, Or.inr rfl, fun post hp => px_lv2 (br_t b15 (px_lv3 (br_t c0 (br_f z0 (br_f one hp)))))⟩
          · exact ⟨0, Or.inl rfl, fun post hp => px_lv2 (br_t b15 (px_lv3 (br_f c0 (br_f z0 (br_t rfl hp)))))⟩
        · exact ⟨1, Or.inr rfl, fun post hp => px_lv2 (br_f b15 (br_f z0 (br_f one hp)))⟩
    obtain ⟨R1, h1, w1⟩ := h32 1
    obtain ⟨R0, h0, w0⟩ := h32 0
    by_cases a15 : lv T 0 = 15
    · by_cases b0 : lv T 1 = 0
      · exact ⟨R1, h1, fun post hp => hU _ (br_f one (px_lv1 (br_t a15 (px_lv2 (br_t b0 (w1 post hp))))))⟩
      · exact ⟨R0, h0, fun post hp => hU _ (br_f one (px_lv1 (br_t a15 (px_lv2 (br_f b0 (w0 post hp))))))⟩
    · exact ⟨R1, h1, fun post hp => hU _ (br_f one (px_lv1 (br_f a15 (w1 post hp))))⟩
/-! clients and serials -/
theorem px_cl {c : Nat} (hc : c < 4) {u : St2} {post : Int32 → Prop} (hp : post 1) : wpX_isClient post u (nI c) := br_f (nI_pos (by omega)) (br_f (nI_ge (b := 4) hc (by omega)) hp)
theorem px_se {s : Nat} (h1 : 1 ≤ s) (h2 : s ≤ 24) {u : St2} {post : Int32 → Prop} (hp : post 1) : wpX_isSerial post u (nI s) := br_f (nI_nlt (b := 1) h1 (by omega)) (br_f (nI_nlt (a := 24) h2 (by omega)) hp)
end Q7
end
section
section Q8
def pc_S (s : TL) (S : Nat → List (Int32 × Nat)) : Prop := ∀ c, c < 4 → (S c).length ≤ 4 ∧ (∀ f, f ∈ S c → f.2 ≤ 2) ∧ s.1 c = nI (S c).length ∧ ∀ (j : Nat) (f : Int32 × Nat), (S c)[j]? = some f → s.2.1 (c * 4 + j) = f.1 ∧ s.2.2 (c * 4 + j) = nI f.2
def pc_P (p : TP) (n : Nat) (tp : Nat → Int32) (qu : Nat → Nat) : Prop := p.1 = nI n ∧ n ≤ 24 ∧ ∀ s, s ≤ 24 → p.2.1 s = tp s ∧ p.2.2.2.1 s = nI (qu s) ∧ qu s ≤ 2
def pc_R (r : TR) : Prop := ∃ m, m ≤ 8 ∧ r.1 = nI m ∧ ∀ i, i < m → ∃ s, 1 ≤ s ∧ s ≤ 24 ∧ r.2.2 i = nI s
theorem pq_up {p : TP} {k : TK} {r : TR} {l s : TL} {o : TO} {h : TA} {w : TW} {W : Nat → List N5} (HW : pc_W w W) {c : Nat} (hc : c < 4) {post : Int32 → Prop} (hp : post (nI (W c).length)) : wpX_pending post (XS p k r l s o h w) (nI c) 4 := by
  obtain ⟨_, _, _, _, _, a, _⟩ := HW.1 c (by omega)
  have cc : (nI c).toNatClampNeg = c := nI_clamp (by omega)
  unfold wpX_pending
  refine px_cl hc (br_f (by decide) (br_f (by decide) (br_f (by decide) (br_f (by decide) (br_f (by decide) (br_f (by decide) (br_f (by decide) (br_t rfl ⟨vp_in_nI (by omega) (by omega), ?_⟩))))))))
  show post (w.2.1 (nI c).toNatClampNeg)
  rw [cc, a]
  exact hp
theorem pq_down {p : TP} {k : TK} {r : TR} {l s : TL} {o : TO} {h : TA} {w : TW} {W : Nat → List N5} (HW : pc_W w W) {c : Nat} (hc : c < 4) {post : Int32 → Prop} (hp : post (nI (W (4 + c)).length)) : wpX_pending post (XS p k r l s o h w) (nI c) 5 := by
  obtain ⟨_, _, _, _, _, a, _⟩ := HW.1 (4 + c) (by omega)
  have cc : (4 + nI c).toNatClampNeg = 4 + c := by rw [pn_4a]; exact nI_clamp (by omega)
  unfold wpX_pending
  refine px_cl hc (br_f (by decide) (br_f (by decide) (br_f (by decide) (br_f (by decide) (br_f (by decide) (br_f (by decide) (br_f (by decide) (br_f (by decide) (br_t rfl ⟨by rw [pn_4a]; exact vp_in_nI (by omega) (by omega), ?_⟩)))))))))
  show post (w.2.1 (4 + nI c).toNatClampNeg)
  rw [cc, a]
  exact hp
theorem pq_ovf {p : TP} {k : TK} {r : TR} {l s : TL} {o : TO} {h : TA} {w : TW} {rc : Nat → Nat → Nat} {ac ov : Nat → Nat} (HK : pc_K k rc ac ov) {c : Nat} (hc : c < 4) {post : Int32 → Prop} (hp : post (nI (ov c))) : wpX_pending post (XS p k r l s o h w) (nI c) 6 := by
  have cc : (nI c).toNatClampNeg = c := nI_clamp (by omega)
  unfold wpX_pending
  refine px_cl hc (br_f (by decide) (br_f (by decide) (br_f (by decide) (br_f (by decide) (br_f (by decide) (br_f (by decide) (br_f (by decide) (br_f (by decide) (br_f (by decide) (br_t rfl ⟨vp_in_nI hc (by omega), ?_⟩))))))))))
  show post (k.2.2.2 (nI c).toNatClampNeg)
  rw [cc, HK.2.2 c hc]
  exact hp
theorem pq_received {p : TP} {k : TK} {r : TR} {l s : TL} {o : TO} {h : TA} {w : TW} {rc : Nat → Nat → Nat} {ac ov : Nat → Nat} (HK : pc_K k rc ac ov) {c s0 : Nat} (hc : c < 4) (h1 : 1 ≤ s0) (h2 : s0 ≤ 24) {post : Int32 → Prop} (hp : post (nI (rc c s0))) : wpX_received post (XS p k r l s o h w) (nI c) (nI s0) := by
  have eX : nI c * 25 + nI s0 = nI (c * 25 + s0) := by rw [pn_m25, nI_add]
  unfold wpX_received
  refine px_cl hc (br_f (by decide) (px_se h1 h2 (br_f (by decide) ⟨by rw [eX]; exact vp_in_nI (by omega) (by omega), ?_⟩)))
  show post (k.1 (nI c * 25 + nI s0).toNatClampNeg)
  rw [eX, nI_clamp (by omega), HK.1 c s0 hc h2]
  exact hp
theorem pq_accepted {p : TP} {k : TK} {r : TR} {l s : TL} {o : TO} {h : TA} {w : TW} {rc : Nat → Nat → Nat} {ac ov : Nat → Nat} (HK : pc_K k rc ac ov) {s0 : Nat} (h1 : 1 ≤ s0) (h2 : s0 ≤ 24) {post : Int32 → Prop} (hp : post (nI (ac s0))) : wpX_accepted post (XS p k r l s o h w) (nI s0) := by
  unfold wpX_accepted
  refine px_se h1 h2 (br_f (by decide) ⟨vp_in_nI (by omega) (by omega), ?_⟩)
  show post (k.2.2.1 (nI s0).toNatClampNeg)
  rw [nI_clamp (by omega), HK.2.1 s0 h2]
  exact hp
def stv (a b c : Bool) : Nat := (if a then 1 else 0) + (if b then 2 else 0) + (if c then 4 else 0)
theorem pq_status {p : TP} {k : TK} {r : TR} {l s : TL} {o : TO} {h : TA} {w : TW} {up se pe : Nat → Bool} (HL : pc_L l up se pe) {c : Nat} (hc : c < 4) {post : Int32 → Prop} (hp : post (nI (stv (up c) (se c) (pe c)))) : wpX_status post (XS p k r l s o h w) (nI c) := by
  have cc : (nI c).toNatClampNeg = c := nI_clamp (by omega)
  have i4 : vp_in (nI c) 4 := vp_in_nI hc (by omega)
  obtain ⟨a, b, d⟩ := HL c hc
  unfold wpX_status
  refine px_cl hc (br_f (by decide) ⟨i4, ?_⟩)
  have e0 : bI false = 0 := rfl
  have e1 : ¬ bI true = 0 := by decide
  cases h1 : up c <;> cases h2 : se c <;> cases h3 : pe c <;> rw [h1] at a <;> rw [h2] at b <;> rw [h3] at d <;> rw [h1, h2, h3] at hp
  · exact br_t (by rw [cc, a]; rfl) ⟨i4, br_t (by rw [cc, b]; rfl) ⟨i4, br_t (by rw [cc, d]; rfl) hp⟩⟩
  · exact br_t (by rw [cc, a]; rfl) ⟨i4, br_t (by rw [cc, b]; rfl) ⟨i4, br_f (by rw [cc, d]; decide) (nm_r (by decide) hp)⟩⟩
  · exact br_t (by rw [cc, a]; rfl) ⟨i4, br_f (by rw [cc, b]; decide) (nm_e ⟨i4, br_t (by rw [cc, d]; rfl) hp⟩)⟩
  · exact br_t (by rw [cc, a]; rfl) ⟨i4, br_f (by rw [cc, b]; decide) (nm_e ⟨i4, br_f (by rw [cc, d]; decide) (nm_r (by decide) hp)⟩)⟩
  · exact br_f (by rw [cc, a]; decide) (nm_e ⟨i4, br_t (by rw [cc, b]; rfl) ⟨i4, br_t (by rw [cc, d]; rfl) hp⟩⟩)
  · exact br_f (by rw [cc, a]; decide) (nm_e ⟨i4, br_t (by rw [cc, b]; rfl) ⟨i4, br_f (by rw [cc, d]; decide) (nm_r (by decide) hp)⟩⟩)
  · exact br_f (by rw [cc, a]; decide) (nm_e ⟨i4, br_f (by rw [cc, b]; decide) (nm_e ⟨i4, br_t (by rw [cc, d]; rfl) hp⟩)⟩)
  · exact br_f (by rw [cc, a]; decide) (nm_e ⟨i4, br_f (by rw [cc, b]; decide) (nm_e ⟨i4, br_f (by rw [cc, d]; decide) (nm_r (by decide) hp)⟩)⟩)
/-- a subscription looked for -/
theorem px_fs {p : TP} {k : TK} {r : TR} {l s : TL} {o : TO} {h : TA} {w : TW} {c n j : Nat} {F : Int32} (hc : c < 4) (hn : s.1 c = nI n) (n4 : n ≤ 4) (FF : ps_F s.2.1 (c * 4) n F j) {post : Int32 → Prop} (h1 : j < n → post (nI (c * 4 + j))) (h2 : j = n → post (-1)) :
    wpX_findSubscription post (XS p k r l s o h w) (nI c) F := by
  have hj := FF.1
  have hl : ∀ d i, i + d = j → wX_findSubscription_17 post F (nI (c * 4 + n)) p.1 r.1 p.2.1 p.2.2.1 p.2.2.2.1 p.2.2.2.2 k.1 k.2.1 k.2.2.1 k.2.2.2 r.2.1 r.2.2 l.1 l.2.1 l.2.2 s.1 s.2.1 s.2.2 o.1 o.2.1 o.2.2.1 o.2.2.2.1 o.2.2.2.2.1 o.2.2.2.2.2 h w.1 w.2.1 w.2.2.1 w.2.2.2.1 w.2.2.2.2.1 w.2.2.2.2.2.1 w.2.2.2.2.2.2 (d + 1) (nI (c * 4 + i)) := by
    intro d
    induction d with
    | zero =>
      intro i hi
      obtain rfl : i = j := by omega
      by_cases hn : i < n
      · exact br_f (nI_ge (by omega) (by omega)) ⟨vp_in_nI (by omega) (by omega), br_t (by rw [nI_clamp (by omega)]; exact FF.2.2 hn) (h1 hn)⟩
      · exact br_t (nI_le (by omega) (by omega)) (h2 (by omega))
    | succ d ih =>
      intro i hi
      exact br_f (nI_ge (by omega) (by omega)) ⟨vp_in_nI (by omega) (by omega), br_f (by rw [nI_clamp (by omega)]; exact FF.2.1 i (by omega)) (nm_r (nI_1 _) (ih (i + 1) (by omega)))⟩
  have cc : (nI c).toNatClampNeg = c := nI_clamp (by omega)
  exact nm_r (pn_m4 c) ⟨vp_in_nI hc (by omega), nm_r (e' := nI (c * 4 + n)) (by rw [cc, hn, nI_add]) ⟨j + 1, hl j 0 (by omega)⟩⟩
theorem pq_fs {s : TL} {S : Nat → List (Int32 × Nat)} (HS : pc_S s S) {c : Nat} (hc : c < 4) (F : Int32) : ∃ R : Int32, (∀ (p : TP) (k : TK) (r : TR) (l : TL) (o : TO) (h : TA) (w : TW) (post : Int32 → Prop), post R → wpX_findSubscription post (XS p k r l s o h w) (nI c) F)
    ∧ ((R = -1 ∧ ∀ f, f ∈ S c → f.1 ≠ F) ∨ ∃ (j : Nat) (f : Int32 × Nat), R = nI (c * 4 + j) ∧ j < 4 ∧ (S c)[j]? = some f ∧ f.1 = F) := by
  obtain ⟨a1, a2, a3, a4⟩ := HS c hc
  obtain ⟨j, FF⟩ := ps_F_ex s.2.1 (c * 4) F (S c).length
  have hj := FF.1
  by_cases hlt : j < (S c).length
  · obtain ⟨f, hf⟩ := ls_ex hlt
    have h1 := FF.2.2 hlt
    rw [(a4 j f hf).1] at h1
    exact ⟨nI (c * 4 + j), fun p k r l o h w post hp => px_fs hc a3 a1 FF (fun _ => hp) (fun z => absurd z (by omega)), Or.inr ⟨j, f, rfl, by omega, hf, h1⟩⟩
  · refine ⟨-1, fun p k r l o h w post hp => px_fs hc a3 a1 FF (fun z => absurd z hlt) (fun _ => hp), Or.inl ⟨rfl, fun f hf z => ?_⟩⟩
    obtain ⟨j', hj'⟩ := List.mem_iff_getElem?.mp hf
    have h1 := FF.2.1 j' (by have := ls_lt hj'; omega)
    rw [(a4 j' f hj').1] at h1
    exact h1 z
theorem pq_sq {s : TL} {S : Nat → List (Int32 × Nat)} (HS : pc_S s S) {c : Nat} (hc : c < 4) (F : Int32) : ∃ R : Int32, (∀ (p : TP) (k : TK) (r : TR) (l : TL) (o : TO) (h : TA) (w : TW) (post : Int32 → Prop), post R → wpX_subscriptionQos post (XS p k r l s o h w) (nI c) F)
    ∧ (R = -1 ∨ ∃ f, f ∈ S c ∧ f.1 = F ∧ R = nI f.2 ∧ f.2 ≤ 2) := by
  obtain ⟨a1, a2, a3, a4⟩ := HS c hc
  obtain ⟨R, hX, hR⟩ := pq_fs HS hc F
  rcases hR with ⟨rfl, _⟩ | ⟨j, f, rfl, hj, hf, hF⟩
  · refine ⟨-1, fun p k r l o h w post hp => ?_, Or.inl rfl⟩
    unfold wpX_subscriptionQos
    exact px_cl hc (br_f (by decide) (hX p k r l o h w _ (br_f (by decide) hp)))
  · refine ⟨nI f.2, fun p k r l o h w post hp => ?_, Or.inr ⟨f, ls_mem hf, hF, rfl, a2 f (ls_mem hf)⟩⟩
    unfold wpX_subscriptionQos
    refine px_cl hc (br_f (by decide) (hX p k r l o h w _ (br_t (nI_pos' (by omega)) ⟨vp_in_nI (by omega) (by omega), ?_⟩)))
    show post (s.2.2 (nI (c * 4 + j)).toNatClampNeg)
    rw [nI_clamp (by omega), (a4 j f hf).2]
    exact hp
/-- the stage of an unmarked entry, or none -/
theorem pq_bs {o : TO} {O : Nat → List N5} (HO : pc_O o O) {c s0 : Nat} (hc : c < 4) (h1 : 1 ≤ s0) (h2 : s0 ≤ 24) : ∃ R : Int32, (∀ (p : TP) (k : TK) (r : TR) (l s : TL) (h : TA) (w : TW) (post : Int32 → Prop), post R → wpX_brokerStage post (XS p k r l s o h w) (nI c) (nI s0))
    ∧ ((R = 0 ∧ ∀ e, e ∈ O (4 + c) → e.1 = s0 → e.2.2.2.1 = 1) ∨ ∃ e, e ∈ O (4 + c) ∧ e.1 = s0 ∧ e.2.2.2.1 = 0 ∧ R = nI e.2.2.2.2) := by
  obtain ⟨a1, a2, a3, a4⟩ := HO.1 (4 + c) (by omega)
  have hl : ∀ d i, i + d = (O (4 + c)).length → ∃ R : Int32, (∀ (p : TP) (k : TK) (r : TR) (l s : TL) (h : TA) (w : TW) (post : Int32 → Prop), post R → wX_brokerStage_38 post (nI s0) (nI ((4 + c) * 16 + (O (4 + c)).length)) p.1 r.1 p.2.1 p.2.2.1 p.2.2.2.1 p.2.2.2.2 k.1 k.2.1 k.2.2.1 k.2.2.2 r.2.1 r.2.2 l.1 l.2.1 l.2.2 s.1 s.2.1 s.2.2 o.1 o.2.1 o.2.2.1 o.2.2.2.1 o.2.2.2.2.1 o.2.2.2.2.2 h w.1 w.2.1 w.2.2.1 w.2.2.2.1 w.2.2.2.2.1 w.2.2.2.2.2.1 w.2.2.2.2.2.2 (d + 1) (nI ((4 + c) * 16 + i)))
      ∧ ((R = 0 ∧ ∀ (j : Nat) (e : N5), i ≤ j → (O (4 + c))[j]? = some e → e.1 = s0 → e.2.2.2.1 = 1) ∨ ∃ e, e ∈ O (4 + c) ∧ e.1 = s0 ∧ e.2.2.2.1 = 0 ∧ R = nI e.2.2.2.2) := by
    intro d
    induction d with
    | zero =>
      intro i hi
      refine ⟨0, fun p k r l s h w post hp => br_t (nI_le (by omega) (by omega)) hp, Or.inl ⟨rfl, fun j e hj he => ?_⟩⟩
      have := ls_lt he
      omega
    | succ d ih =>
      intro i hi
      obtain ⟨R, rX, rY⟩ := ih (i + 1) (by omega)
      obtain ⟨e, he⟩ := ls_ex (show i < (O (4 + c)).length by omega)
      have h5 := a4 i e he
      have hok := a2 e (ls_mem he)
      have g1 : o.2.1 ((4 + c) * 16 + i) = nI e.1 := congrArg (fun t : T5 => t.1) h5
      have g4 : o.2.2.2.2.1 ((4 + c) * 16 + i) = nI e.2.2.2.1 := congrArg (fun t : T5 => t.2.2.2.1) h5
      have g5 : o.2.2.2.2.2 ((4 + c) * 16 + i) = nI e.2.2.2.2 := congrArg (fun t : T5 => t.2.2.2.2) h5
      have cX : (nI ((4 + c) * 16 + i)).toNatClampNeg = (4 + c) * 16 + i := nI_clamp (by omega)
      have iX : vp_in (nI ((4 + c) * 16 + i)) 128 := vp_in_nI (by omega) (by omega)
      have nX : ¬ nI ((4 + c) * 16 + (O (4 + c)).length) ≤ nI ((4 + c) * 16 + i) := nI_ge (by omega) (by omega)
      have hb1 := hok.2.1
      have hb2 := hok.2.2.2.2.2.2.1
      by_cases hs : e.1 = s0
      · by_cases hm : e.2.2.2.1 = 0
        · refine ⟨nI e.2.2.2.2, fun p k r l s h w post hp => br_f nX ⟨iX, br_t (by rw [cX, g1, hs]) ⟨iX, br_t (by rw [cX, g4, hm]; rfl) ⟨iX, ?_⟩⟩⟩, Or.inr ⟨e, ls_mem he, hs, hm, rfl⟩⟩
          show post (o.2.2.2.2.2 (nI ((4 + c) * 16 + i)).toNatClampNeg)
          rw [cX, g5]
          exact hp
        · have hm1 : e.2.2.2.1 = 1 := by omega
          refine ⟨R, fun p k r l s h w post hp => br_f nX ⟨iX, br_t (by rw [cX, g1, hs]) ⟨iX, br_f (by rw [cX, g4, hm1]; decide) (nm_r (nI_1 _) (rX p k r l s h w post hp))⟩⟩, ?_⟩
          rcases rY with ⟨r0, rY⟩ | rY
          · refine Or.inl ⟨r0, fun j e' hj he' hs' => ?_⟩
            by_cases hji : j = i
            · rw [hji, he] at he'
              rw [← Option.some.inj he']
              exact hm1
            · exact rY j e' (by omega) he' hs'
          · exact Or.inr rY
      · refine ⟨R, fun p k r l s h w post hp => br_f nX ⟨iX, br_f (by rw [cX, g1, nI_eq (by omega) (by omega)]; exact hs) (nm_r (nI_1 _) (rX p k r l s h w post hp))⟩, ?_⟩
        rcases rY with ⟨r0, rY⟩ | rY
        · refine Or.inl ⟨r0, fun j e' hj he' hs' => ?_⟩
          by_cases hji : j = i
          · rw [hji, he] at he'
            rw [← Option.some.inj he'] at hs'
            exact absurd hs' hs
          · exact rY j e' (by omega) he' hs'
        · exact Or.inr rY
  obtain ⟨R, rX, rY⟩ := hl (O (4 + c)).length 0 (by omega)
  have cx : (4 + nI c).toNatClampNeg = 4 + c := by rw [pn_4a]; exact nI_clamp (by omega)
  refine ⟨R, fun p k r l s h w post hp => ?_, ?_⟩
  · unfold wpX_brokerStage
    exact px_cl hc (br_f (by decide) (px_se h1 h2 (br_f (by decide) (nm_r (e' := nI ((4 + c) * 16)) (by rw [pn_4a, pn_m16]) ⟨by rw [pn_4a]; exact vp_in_nI (by omega) (by omega), nm_r (e' := nI ((4 + c) * 16 + (O (4 + c)).length)) (by rw [cx, a3, nI_add]) ⟨(O (4 + c)).length + 1, rX p k r l s h w post hp⟩⟩))))
  · rcases rY with ⟨r0, rY⟩ | rY
    · refine Or.inl ⟨r0, fun e he hs => ?_⟩
      obtain ⟨j, hj⟩ := List.mem_iff_getElem?.mp he
      exact rY j e (by omega) hj hs
    · exact Or.inr rY
end Q8
end
section
section Q9
theorem pc_H_u {h : TA} {H : Nat → Nat → Bool} (HH : pc_H h H) {x i : Nat} {b : Bool} (hx : x < 8) (h1 : 1 ≤ i) (h2 : i ≤ 16) : pc_H (upd h (x * 17 + i) (bI b)) (fu H x (fu (H x) i b)) := by
  intro y j hy j1 j2
  by_cases e : y = x
  · subst e
    rw [fu_s]
    by_cases ej : j = i
    · subst ej
      rw [fu_s, pk_us]
    · rw [fu_n ej, pk_un (by omega)]
      exact HH y j hy j1 j2
  · rw [fu_n e, pk_un (by omega)]
    exact HH y j hy j1 j2
theorem px_a2 {p : TP} {k : TK} {r : TR} {l s : TL} {o : TO} {h : TA} {w : TW} {x : Nat} {I Q : Int32} {post : St1 → Prop} (hp : wpX_endPublish post (XS p k r l s o h w) (nI x) I) : wpX_answerPacket post (XS p k r l s o h w) (nI x) 2 I Q := br_f (by decide) (br_f (by decide) (br_f (by decide) (br_t rfl hp)))
theorem px_a3 {p : TP} {k : TK} {r : TR} {l s : TL} {o : TO} {h : TA} {w : TW} {x : Nat} {I Q : Int32} {post : St1 → Prop} (hp : wpX_releaseEntry post (XS p k r l s o h w) (nI x) I) : wpX_answerPacket post (XS p k r l s o h w) (nI x) 3 I Q := br_f (by decide) (br_f (by decide) (br_f (by decide) (br_f (by decide) (br_t rfl hp))))
theorem px_a5 {p : TP} {k : TK} {r : TR} {l s : TL} {o : TO} {h : TA} {w : TW} {x : Nat} {I Q : Int32} {post : St1 → Prop} (hp : wpX_endRelease post (XS p k r l s o h w) (nI x) I) : wpX_answerPacket post (XS p k r l s o h w) (nI x) 5 I Q := br_f (by decide) (br_f (by decide) (br_f (by decide) (br_f (by decide) (br_f (by decide) (br_f (by decide) (br_t rfl hp))))))
/-- the entry that is looked for is the one that is there -/
theorem pq_fe1 {o : TO} {O : Nat → List N5} (HO : pc_O o O) {x i j : Nat} {e : N5} (hx : x < 8) (nd : ndk (O x)) (he : (O x)[j]? = some e) (hi : e.2.2.1 = i) : j < 16 ∧ i < 1000 ∧ ∀ (p : TP) (k : TK) (r : TR) (l s : TL) (h : TA) (w : TW) (post : Int32 → Prop), post (nI (x * 16 + j)) → wpX_findEntry post (XS p k r l s o h w) (nI x) (nI i) := by
  have hok := (HO.1 x hx).2.1 e (ls_mem he)
  have hi16 : i < 1000 := by rw [← hi]; have := hok.2.2.2.2.2.1; omega
  obtain ⟨R, hX, hR⟩ := pq_fe HO hx hi16
  have hj := ls_lt he
  have hl := (HO.1 x hx).1
  rcases hR with ⟨_, hno⟩ | ⟨j', e', rfl, hj', he', hi'⟩
  · exact absurd hi (hno e (ls_mem he))
  · have := nd j j' e e' he he' (by rw [hi, hi'])
    subst this
    exact ⟨hj', hi16, hX⟩
theorem pq_k2 {o : TO} {O : Nat → List N5} (HO : pc_O o O) {x i j : Nat} {e : N5} (hx : x < 8) (nd : ndk (O x)) (he : (O x)[j]? = some e) (hi : e.2.2.1 = i) (hq : e.2.1 = 1) (hs : e.2.2.2.2 = 1) (Q : Int32) : ∃ o', pc_O o' (fu O x ((O x).eraseIdx j))
    ∧ ∀ (p : TP) (k : TK) (r : TR) (l s : TL) (h : TA) (w : TW) (post : St1 → Prop), post (XS p k r l s o' h w) → wpX_answerPacket post (XS p k r l s o h w) (nI x) 2 (nI i) Q := by
  obtain ⟨j16, i1000, hX⟩ := pq_fe1 HO hx nd he hi
  obtain ⟨o', a1, a2⟩ := pq_del HO hx (ls_lt he)
  have h5 := (HO.1 x hx).2.2.2 j e he
  have g2 : o.2.2.1 (x * 16 + j) = nI e.2.1 := congrArg (fun t : T5 => t.2.1) h5
  have g5 : o.2.2.2.2.2 (x * 16 + j) = nI e.2.2.2.2 := congrArg (fun t : T5 => t.2.2.2.2) h5
  have ix : vp_in (nI (x * 16 + j)) 128 := vp_in_nI (by omega) (by omega)
  have cX : (nI (x * 16 + j)).toNatClampNeg = x * 16 + j := nI_clamp (by omega)
  exact ⟨o', a1, fun p k r l s h w post hp => px_a2 (hX p k r l s h w _ (br_f (nI_pos (by omega)) ⟨ix, br_t (by rw [cX, g2, hq]; rfl) ⟨ix, br_t (by rw [cX, g5, hs]; rfl) (a2 p k r l s h w _ hp)⟩⟩))⟩
theorem pq_k5 {o : TO} {O : Nat → List N5} (HO : pc_O o O) {x i j : Nat} {e : N5} (hx : x < 8) (nd : ndk (O x)) (he : (O x)[j]? = some e) (hi : e.2.2.1 = i) (hs : e.2.2.2.2 = 2) (Q : Int32) : ∃ o', pc_O o' (fu O x ((O x).eraseIdx j))
    ∧ ∀ (p : TP) (k : TK) (r : TR) (l s : TL) (h : TA) (w : TW) (post : St1 → Prop), post (XS p k r l s o' h w) → wpX_answerPacket post (XS p k r l s o h w) (nI x) 5 (nI i) Q := by
  obtain ⟨j16, i1000, hX⟩ := pq_fe1 HO hx nd he hi
  obtain ⟨o', a1, a2⟩ := pq_del HO hx (ls_lt he)
  have h5 := (HO.1 x hx).2.2.2 j e he
  have g5 : o.2.2.2.2.2 (x * 16 + j) = nI e.2.2.2.2 := congrArg (fun t : T5 => t.2.2.2.2) h5
  have ix : vp_in (nI (x * 16 + j)) 128 := vp_in_nI (by omega) (by omega)
  have cX : (nI (x * 16 + j)).toNatClampNeg = x * 16 + j := nI_clamp (by omega)
  exact ⟨o', a1, fun p k r l s h w post hp => px_a5 (hX p k r l s h w _ (br_f (nI_pos (by omega)) ⟨ix, br_t (by rw [cX, g5, hs]; rfl) (a2 p k r l s h w _ hp)⟩))⟩
theorem pq_k3 {o : TO} {O W : Nat → List N5} {w : TW} (HO : pc_O o O) (HW : pc_W w W) {x i j : Nat} {e : N5} (hx : x < 8) (nd : ndk (O x)) (he : (O x)[j]? = some e) (hi : e.2.2.1 = i) (hq : e.2.1 = 2) (hs : e.2.2.2.2 = 1) (hl : (W x).length < 32) (Q : Int32) : ∃ o' w', pc_O o' (fu O x ((O x).set j (e.1, e.2.1, e.2.2.1, e.2.2.2.1, 2))) ∧ pc_W w' (fu W x (W x ++ [(4, i, 0, 0, 0)]))
    ∧ ∀ (p : TP) (k : TK) (r : TR) (l s : TL) (h : TA) (post : St1 → Prop), post (XS p k r l s o' h w') → wpX_answerPacket post (XS p k r l s o h w) (nI x) 3 (nI i) Q := by
  obtain ⟨j16, i1000, hX⟩ := pq_fe1 HO hx nd he hi
  have hok := (HO.1 x hx).2.1 e (ls_mem he)
  have a1 := pq_mod HO hx he
  obtain ⟨w', b1, b2⟩ := pq_reply HW hx hl (K := 4) (i := i) (by omega) (by omega) (by rw [← hi]; exact hok.2.2.2.2.1) (by rw [← hi]; exact hok.2.2.2.2.2.1)
  have h5 := (HO.1 x hx).2.2.2 j e he
  have g2 : o.2.2.1 (x * 16 + j) = nI e.2.1 := congrArg (fun t : T5 => t.2.1) h5
  have g5 : o.2.2.2.2.2 (x * 16 + j) = nI e.2.2.2.2 := congrArg (fun t : T5 => t.2.2.2.2) h5
  have ix : vp_in (nI (x * 16 + j)) 128 := vp_in_nI (by omega) (by omega)
  have cX : (nI (x * 16 + j)).toNatClampNeg = x * 16 + j := nI_clamp (by omega)
  exact ⟨_, w', a1, b1, fun p k r l s h post hp => px_a3 (hX p k r l s h w _ (br_f (nI_pos (by omega)) ⟨ix, br_t (by rw [cX, g2, hq]; rfl) ⟨ix, br_t (by rw [cX, g5, hs]; rfl) ⟨ix, nm_r (by rw [cX]) (b2 p k r l s (o.1, o.2.1, o.2.2.1, o.2.2.2.1, o.2.2.2.2.1, upd o.2.2.2.2.2 (x * 16 + j) 2) h _ hp)⟩⟩⟩))⟩
theorem pq_k4 {h : TA} {H : Nat → Nat → Bool} {W : Nat → List N5} {w : TW} (HH : pc_H h H) (HW : pc_W w W) {x i : Nat} (hx : x < 8) (h1 : 1 ≤ i) (h2 : i ≤ 16) (hl : (W x).length < 32) (Q : Int32) : ∃ h' w', pc_H h' (fu H x (fu (H x) i false)) ∧ pc_W w' (fu W x (W x ++ [(5, i, 0, 0, 0)]))
    ∧ ∀ (p : TP) (k : TK) (r : TR) (l s : TL) (o : TO) (post : St1 → Prop), post (XS p k r l s o h' w') → wpX_answerPacket post (XS p k r l s o h w) (nI x) 4 (nI i) Q := by
  obtain ⟨w', b1, b2⟩ := pq_reply HW hx hl (K := 5) (i := i) (by omega) (by omega) h1 h2
  have eX : nI x * 17 + nI i = nI (x * 17 + i) := by rw [pn_m17, nI_add]
  have ix : vp_in (nI x * 17 + nI i) 136 := by rw [eX]; exact vp_in_nI (by omega) (by omega)
  exact ⟨_, w', pc_H_u HH (b := false) hx h1 h2, b1, fun p k r l s o post hp => br_f (by decide) (br_f (by decide) (br_f (by decide) (br_f (by decide) (br_f (by decide) (br_t rfl ⟨ix, nm_r (e' := upd h (x * 17 + i) (bI false)) (pn_u eX (by omega) rfl) (b2 p k r l s o _ _ hp)⟩)))))⟩
/-! what is answered to a publication -/
theorem pq_ap0 {p : TP} {k : TK} {r : TR} {l s : TL} {o : TO} {h : TA} {w : TW} {x : Nat} {I : Int32} {post : St1 → Prop} (hp : post (XS p k r l s o h w)) : wpX_answerPacket post (XS p k r l s o h w) (nI x) 1 I (nI 0) := br_f (by decide) (br_f (by decide) (br_t rfl (br_f (by decide) (br_f (by decide) hp))))
theorem pq_ap1 {W : Nat → List N5} {w : TW} (HW : pc_W w W) {x i : Nat} (hx : x < 8) (h1 : 1 ≤ i) (h2 : i ≤ 16) (hl : (W x).length < 32) : ∃ w', pc_W w' (fu W x (W x ++ [(2, i, 0, 0, 0)]))
    ∧ ∀ (p : TP) (k : TK) (r : TR) (l s : TL) (o : TO) (h : TA) (post : St1 → Prop), post (XS p k r l s o h w') → wpX_answerPacket post (XS p k r l s o h w) (nI x) 1 (nI i) (nI 1) := by
  obtain ⟨w', b1, b2⟩ := pq_reply HW hx hl (K := 2) (i := i) (by omega) (by omega) h1 h2
  exact ⟨w', b1, fun p k r l s o h post hp => br_f (by decide) (br_f (by decide) (br_t rfl (br_t rfl (b2 p k r l s o h _ hp))))⟩
theorem pq_ap2 {h : TA} {H : Nat → Nat → Bool} {W : Nat → List N5} {w : TW} (HH : pc_H h H) (HW : pc_W w W) {x i : Nat} (hx : x < 8) (h1 : 1 ≤ i) (h2 : i ≤ 16) (hl : (W x).length < 32) : ∃ h' w', pc_H h' (fu H x (fu (H x) i true)) ∧ pc_W w' (fu W x (W x ++ [(3, i, 0, 0, 0)]))
    ∧ ∀ (p : TP) (k : TK) (r : TR) (l s : TL) (o : TO) (post : St1 → Prop), post (XS p k r l s o h' w') → wpX_answerPacket post (XS p k r l s o h w) (nI x) 1 (nI i) (nI 2) := by
  obtain ⟨w', b1, b2⟩ := pq_reply HW hx hl (K := 3) (i := i) (by omega) (by omega) h1 h2
  have eX : nI x * 17 + nI i = nI (x * 17 + i) := by rw [pn_m17, nI_add]
  have ix : vp_in (nI x * 17 + nI i) 136 := by rw [eX]; exact vp_in_nI (by omega) (by omega)
  exact ⟨_, w', pc_H_u HH (b := true) hx h1 h2, b1, fun p k r l s o post hp => br_f (by decide) (br_f (by decide) (br_t rfl (br_f (by decide) (br_t rfl ⟨ix, nm_r (e' := upd h (x * 17 + i) (bI true)) (pn_u eX (by omega) rfl) (b2 p k r l s o _ _ hp)⟩))))⟩
/-! links -/
theorem px_li1 {p : TP} {k : TK} {r : TR} {l s : TL} {o : TO} {h : TA} {w : TW} {up se pe : Nat → Bool} (HL : pc_L l up se pe) {c : Nat} (hc : c < 4) (hl : up c = true) {post : Int32 → Prop} (hp : post 1) : wpX_isLinked post (XS p k r l s o h w) (nI c) := by
  have cc : (nI c).toNatClampNeg = c := nI_clamp (by omega)
  exact br_f (nI_pos (by omega)) (br_f (nI_ge (b := 4) hc (by omega)) (br_f (by decide) ⟨vp_in_nI hc (by omega), br_f (by rw [cc, (HL c hc).1, hl]; decide) hp⟩))
theorem px_li0 {p : TP} {k : TK} {r : TR} {l s : TL} {o : TO} {h : TA} {w : TW} {up se pe : Nat → Bool} (HL : pc_L l up se pe) {c : Nat} (hc : c < 4) (hl : up c = false) {post : Int32 → Prop} (hp : post 0) : wpX_isLinked post (XS p k r l s o h w) (nI c) := by
  have cc : (nI c).toNatClampNeg = c := nI_clamp (by omega)
  exact br_f (nI_pos (by omega)) (br_f (nI_ge (b := 4) hc (by omega)) (br_f (by decide) ⟨vp_in_nI hc (by omega), br_t (by rw [cc, (HL c hc).1, hl]; rfl) hp⟩))
theorem px_tk {p : TP} {k : TK} {r : TR} {l s : TL} {o : TO} {h : TA} {w : TW} {H : Nat → Nat → Bool} (HH : pc_H h H) {x i : Nat} {K Q : Int32} (hx : x < 8) (h1 : 1 ≤ i ∨ ¬ Q = 2) (hi : i ≤ 16) {post : Int32 → Prop} (h0 : (¬ K = 1 ∨ (Q = 2 ∧ H x i = true)) → post 0) (h2 : K = 1 → (Q = 2 → H x i = false) → post 1) : wpX_isTaken post (XS p k r l s o h w) (nI x) K (nI i) Q := by
  have eX : nI x * 17 + nI i = nI (x * 17 + i) := by rw [pn_m17, nI_add]
  have ix : vp_in (nI x * 17 + nI i) 136 := by rw [eX]; exact vp_in_nI (by omega) (by omega)
  have cx : (nI x * 17 + nI i).toNatClampNeg = x * 17 + i := by rw [eX]; exact nI_clamp (by omega)
  refine br_c (fun a => br_c (fun b => ⟨ix, ?_⟩) fun b => h2 a (fun z => absurd z b)) fun a => h0 (Or.inl a)
  have hv := HH x i hx (h1.resolve_right (fun z => z b)) hi
  rw [← cx] at hv
  cases hb : H x i with
  | false =>
    rw [hb] at hv
    exact br_t hv (h2 a (fun _ => hb))
  | true =>
    rw [hb] at hv
    exact br_f (by rw [hv]; decide) (h0 (Or.inr ⟨b, hb⟩))
end Q9
end
section
section Q10
/-! the retained entries stay in their bounds -/
theorem px_pl {r : TR} {n : Nat} (hn : r.1 = nI n) (n8 : n ≤ 8) (T : Int32) : ∃ pl, pl ≤ n ∧ ∀ (p : TP) (k : TK) (l s : TL) (o : TO) (h : TA) (w : TW) (post : Int32 → Prop), post (nI pl) → wpX_retainedPlace post (XS p k r l s o h w) T := by
  have hl : ∀ d i P, i + d = n → P ≤ i → ∃ pl, pl ≤ n ∧ ∀ (p : TP) (k : TK) (l s : TL) (o : TO) (h : TA) (w : TW) (post : Int32 → Prop), post (nI pl) → wX_retainedPlace_4 post T p.1 r.1 p.2.1 p.2.2.1 p.2.2.2.1 p.2.2.2.2 k.1 k.2.1 k.2.2.1 k.2.2.2 r.2.1 r.2.2 l.1 l.2.1 l.2.2 s.1 s.2.1 s.2.2 o.1 o.2.1 o.2.2.1 o.2.2.2.1 o.2.2.2.2.1 o.2.2.2.2.2 h w.1 w.2.1 w.2.2.1 w.2.2.2.1 w.2.2.2.2.1 w.2.2.2.2.2.1 w.2.2.2.2.2.2 (d + 1) (nI P) (nI i) := by
    intro d
    induction d with
    | zero =>
      intro i P hi hP
      exact ⟨P, by omega, fun p k l s o h w post hp => br_t (by rw [hn]; exact nI_le (by omega) (by omega)) hp⟩
    | succ d ih =>
      intro i P hi hP
      have hc : ¬ r.1 ≤ nI i := by rw [hn]; exact nI_ge (by omega) (by omega)
      have hi8 : vp_in (nI i) 8 := vp_in_nI (by omega) (by omega)
      by_cases hle : T ≤ r.2.1 (nI i).toNatClampNeg
      · obtain ⟨pl, h1, h2⟩ := ih (i + 1) P (by omega) (by omega)
        exact ⟨pl, h1, fun p k l s o h w post hp => br_f hc ⟨hi8, br_t hle (nm_r (nI_1 i) (h2 p k l s o h w post hp))⟩⟩
      · obtain ⟨pl, h1, h2⟩ := ih (i + 1) (i + 1) (by omega) (by omega)
        exact ⟨pl, h1, fun p k l s o h w post hp => br_f hc ⟨hi8, br_f hle (nm_r (nI_1 i) (nm_r (nI_1 i) (h2 p k l s o h w post hp)))⟩⟩
  obtain ⟨pl, h1, h2⟩ := hl n 0 0 (by omega) (by omega)
  exact ⟨pl, h1, fun p k l s o h w post hp => ⟨n + 1, h2 p k l s o h w post hp⟩⟩
theorem px_rrem {p : TP} {k : TK} {r : TR} {l s : TL} {o : TO} {h : TA} {w : TW} {n pl : Nat} (hn : r.1 = nI (n + 1)) (n8 : n < 8) (h1 : pl ≤ n) {post : St1 → Prop} (hp : post (XS p k (nI n, ps_sh r.2.1 pl n, ps_sh r.2.2 pl n) l s o h w)) : wpX_removeRetained post (XS p k r l s o h w) (nI pl) := by
  have hl : ∀ d i, pl ≤ i → i + d = n → wX_removeRetained_2 post p.1 r.1 (d + 1) (nI i) p.2.1 p.2.2.1 p.2.2.2.1 p.2.2.2.2 k.1 k.2.1 k.2.2.1 k.2.2.2 (ps_sh r.2.1 pl i) (ps_sh r.2.2 pl i) l.1 l.2.1 l.2.2 s.1 s.2.1 s.2.2 o.1 o.2.1 o.2.2.1 o.2.2.2.1 o.2.2.2.2.1 o.2.2.2.2.2 h w.1 w.2.1 w.2.2.1 w.2.2.2.1 w.2.2.2.2.1 w.2.2.2.2.2.1 w.2.2.2.2.2.2 := by
    intro d
    induction d with
    | zero =>
      intro i h1 hi
      obtain rfl : i = n := by omega
      exact br_t (by rw [hn, nI_pred]; exact nI_le (by omega) (by omega)) (nm_r (e' := nI i) (by rw [hn, nI_pred]) hp)
    | succ d ih =>
      intro i h1 hi
      have a0 : vp_in (nI i) 8 := vp_in_nI (by omega) (by omega)
      have a1 : vp_in (nI i + 1) 8 := by rw [nI_1]; exact vp_in_nI (by omega) (by omega)
      exact br_f (by rw [hn, nI_pred]; exact nI_ge (by omega) (by omega)) ⟨a1, a0, nm_r (pn_sh rfl (nI_1 _) (by omega) (by omega)) ⟨a1, a0, nm_r (pn_sh rfl (nI_1 _) (by omega) (by omega)) (nm_r (nI_1 _) (ih (i + 1) (by omega) (by omega)))⟩⟩
  have hl0 := hl (n - pl) pl (Nat.le_refl pl) (by omega)
  rw [ps_sh0 (Nat.le_refl _), ps_sh0 (Nat.le_refl _)] at hl0
  exact ⟨n - pl + 1, hl0⟩
theorem pn_rs {f : TA} {i m : Nat} {x y : Int32} (hx : x = nI (i + 1)) (hy : y = nI i) (h : i + 1 ≤ m) (hm : m < 10000) : upd (ps_rs f (i + 1) m) x.toNatClampNeg (ps_rs f (i + 1) m y.toNatClampNeg) = ps_rs f i m := by
  rw [pn_cl hx (by omega), pn_cl hy (by omega)]
  exact ps_rsS h
theorem px_rins {p : TP} {k : TK} {r : TR} {l s : TL} {o : TO} {h : TA} {w : TW} {n pl : Nat} {T S : Int32} (hn : r.1 = nI n) (n8 : n < 8) (h1 : pl ≤ n) {post : St1 → Prop} (hp : post (XS p k (nI (n + 1), upd (ps_rs r.2.1 pl n) pl T, upd (ps_rs r.2.2 pl n) pl S) l s o h w)) : wpX_insertRetained post (XS p k r l s o h w) (nI pl) T S := by
  have cp : (nI pl).toNatClampNeg = pl := nI_clamp (by omega)
  have i8 : vp_in (nI pl) 8 := vp_in_nI (by omega) (by omega)
  have hl : ∀ d i, i = pl + d → i ≤ n → wX_insertRetained_6 post (nI pl) T S p.1 r.1 (d + 1) (nI i) p.2.1 p.2.2.1 p.2.2.2.1 p.2.2.2.2 k.1 k.2.1 k.2.2.1 k.2.2.2 (ps_rs r.2.1 i n) (ps_rs r.2.2 i n) l.1 l.2.1 l.2.2 s.1 s.2.1 s.2.2 o.1 o.2.1 o.2.2.1 o.2.2.2.1 o.2.2.2.2.1 o.2.2.2.2.2 h w.1 w.2.1 w.2.2.1 w.2.2.2.1 w.2.2.2.2.1 w.2.2.2.2.2.1 w.2.2.2.2.2.2 := by
    intro d
    induction d with
    | zero =>
      intro i hi hin
      obtain rfl : i = pl := by omega
      exact br_t (nI_le (by omega) (by omega)) ⟨i8, nm_r (by rw [cp]) ⟨i8, nm_r (by rw [cp]) (nm_r (e' := nI (n + 1)) (by rw [hn, nI_1]) hp)⟩⟩
    | succ d ih =>
      intro i hi hin
      obtain ⟨i', rfl⟩ : ∃ i', i = i' + 1 := ⟨i - 1, by omega⟩
      have a0 : vp_in (nI (i' + 1)) 8 := vp_in_nI (by omega) (by omega)
      have a1 : vp_in (nI (i' + 1) - 1) 8 := by rw [nI_pred]; exact vp_in_nI (by omega) (by omega)
      exact br_f (nI_ge (by omega) (by omega)) ⟨a1, a0, nm_r (pn_rs rfl (nI_pred _) (by omega) (by omega)) ⟨a1, a0, nm_r (pn_rs rfl (nI_pred _) (by omega) (by omega)) (nm_r (pk_m1 _) (ih i' (by omega) (by omega)))⟩⟩
  have hl0 := hl (n - pl) n (by omega) (Nat.le_refl n)
  rw [ps_rs0, ps_rs0] at hl0
  refine ⟨n - pl + 1, ?_⟩
  show wX_insertRetained_6 post (nI pl) T S p.1 r.1 (n - pl + 1) r.1 p.2.1 p.2.2.1 p.2.2.2.1 p.2.2.2.2 k.1 k.2.1 k.2.2.1 k.2.2.2 r.2.1 r.2.2 l.1 l.2.1 l.2.2 s.1 s.2.1 s.2.2 o.1 o.2.1 o.2.2.1 o.2.2.2.1 o.2.2.2.2.1 o.2.2.2.2.2 h w.1 w.2.1 w.2.2.1 w.2.2.2.1 w.2.2.2.2.1 w.2.2.2.2.2.1 w.2.2.2.2.2.2
  rw [hn] at hl0 ⊢
  exact hl0
theorem pc_R_del {r : TR} {n pl : Nat} (hr : ∀ i, i < n + 1 → ∃ s, 1 ≤ s ∧ s ≤ 24 ∧ r.2.2 i = nI s) (n8 : n < 8) : pc_R (nI n, ps_sh r.2.1 pl n, ps_sh r.2.2 pl n) := by
  refine ⟨n, by omega, rfl, fun i hi => ?_⟩
  show ∃ s, 1 ≤ s ∧ s ≤ 24 ∧ ps_sh r.2.2 pl n i = nI s
  unfold ps_sh
  split
  · exact hr (i + 1) (by omega)
  · exact hr i (by omega)
theorem pc_R_ins {r : TR} {n pl sn : Nat} {T : Int32} (hr : ∀ i, i < n → ∃ s, 1 ≤ s ∧ s ≤ 24 ∧ r.2.2 i = nI s) (n8 : n < 8) (h1 : pl ≤ n) (s1 : 1 ≤ sn) (s2 : sn ≤ 24) : pc_R (nI (n + 1), upd (ps_rs r.2.1 pl n) pl T, upd (ps_rs r.2.2 pl n) pl (nI sn)) := by
  refine ⟨n + 1, by omega, rfl, fun i hi => ?_⟩
  show ∃ s, 1 ≤ s ∧ s ≤ 24 ∧ upd (ps_rs r.2.2 pl n) pl (nI sn) i = nI s
  by_cases e : i = pl
  · exact ⟨sn, s1, s2, by rw [e, pk_us]⟩
  · rw [pk_un e]
    unfold ps_rs
    by_cases h : pl < i ∧ i ≤ n
    · rw [if_pos h]; exact hr (i - 1) (by omega)
    · rw [if_neg h]; exact hr i (by omega)
theorem pc_R_set {r : TR} {pl sn : Nat} (HR : pc_R r) (s1 : 1 ≤ sn) (s2 : sn ≤ 24) : pc_R (r.1, r.2.1, upd r.2.2 pl (nI sn)) := by
  obtain ⟨m, m8, hm, hr⟩ := HR
  refine ⟨m, m8, hm, fun i hi => ?_⟩
  show ∃ s, 1 ≤ s ∧ s ≤ 24 ∧ upd r.2.2 pl (nI sn) i = nI s
  by_cases e : i = pl
  · exact ⟨sn, s1, s2, by rw [e, pk_us]⟩
  · rw [pk_un e]; exact hr i hi
theorem pq_upd {p : TP} {r : TR} (HR : pc_R r) {sn : Nat} (s1 : 1 ≤ sn) (s2 : sn ≤ 24) : ∃ r', pc_R r' ∧ ∀ (k : TK) (l s : TL) (o : TO) (h : TA) (w : TW) (post : St1 → Prop), post (XS p k r' l s o h w) → wpX_updateRetained post (XS p k r l s o h w) (nI sn) := by
  obtain ⟨n, n8, hn, hr⟩ := id HR
  have cs : (nI sn).toNatClampNeg = sn := nI_clamp (by omega)
  have i25 : vp_in (nI sn) 25 := vp_in_nI (by omega) (by omega)
  obtain ⟨pl, p1, pX⟩ := px_pl hn n8 (p.2.1 (nI sn).toNatClampNeg)
  by_cases hz : p.2.2.1 (nI sn).toNatClampNeg = 0
  · by_cases hpr : pl < n ∧ r.2.1 (nI pl).toNatClampNeg = p.2.1 (nI sn).toNatClampNeg
    · obtain ⟨hlt, he⟩ := hpr
      obtain ⟨n, rfl⟩ : ∃ n', n = n' + 1 := ⟨n - 1, by omega⟩
      exact ⟨_, pc_R_del (pl := pl) hr (by omega), fun k l s o h w post hp => ⟨i25, nm_e (pX p k l s o h w _ (br_f (by rw [hn]; exact nI_ge (by omega) (by omega)) ⟨vp_in_nI (by omega) (by omega), br_t he ⟨i25, br_t hz (br_f (by decide) (px_rrem hn (by omega) (by omega) hp))⟩⟩))⟩⟩
    · refine ⟨r, HR, fun k l s o h w post hp => ⟨i25, nm_e (pX p k l s o h w _ (br_c (fun _ => ⟨i25, br_t hz (br_t rfl hp)⟩) fun a => ?_))⟩⟩
      have hlt : pl < n := by
        apply Classical.byContradiction
        intro hx
        exact a (by rw [hn]; exact nI_le (by omega) (by omega))
      exact ⟨vp_in_nI (by omega) (by omega), br_f (fun z => hpr ⟨hlt, z⟩) ⟨i25, br_t hz (br_t rfl hp)⟩⟩
  · by_cases hpr : pl < n ∧ r.2.1 (nI pl).toNatClampNeg = p.2.1 (nI sn).toNatClampNeg
    · obtain ⟨hlt, he⟩ := hpr
      exact ⟨_, pc_R_set (pl := pl) HR s1 s2, fun k l s o h w post hp => ⟨i25, nm_e (pX p k l s o h w _ (br_f (by rw [hn]; exact nI_ge (by omega) (by omega)) ⟨vp_in_nI (by omega) (by omega), br_t he ⟨i25, br_f hz (br_f (by decide) ⟨vp_in_nI (by omega) (by omega), nm_r (by rw [nI_clamp (by omega)]) hp⟩)⟩⟩))⟩⟩
    · by_cases h8 : n = 8
      · subst h8
        have hx : (8 : Int32) ≤ r.1 := by rw [hn]; decide
        refine ⟨r, HR, fun k l s o h w post hp => ⟨i25, nm_e (pX p k l s o h w _ (br_c (fun _ => ⟨i25, br_f hz (br_t rfl (br_t hx hp))⟩) fun a => ?_))⟩⟩
        have hlt : pl < 8 := by
          apply Classical.byContradiction
          intro hx
          exact a (by rw [hn]; exact nI_le (by omega) (by omega))
        exact ⟨vp_in_nI (by omega) (by omega), br_f (fun z => hpr ⟨hlt, z⟩) ⟨i25, br_f hz (br_t rfl (br_t hx hp))⟩⟩
      · have hx : ¬ (8 : Int32) ≤ r.1 := by rw [hn]; exact nI_ge (b := 8) (by omega) (by omega)
        refine ⟨_, pc_R_ins (T := p.2.1 (nI sn).toNatClampNeg) hr (by omega) p1 s1 s2, fun k l s o h w post hp => ⟨i25, nm_e (pX p k l s o h w _ (br_c (fun _ => ⟨i25, br_f hz (br_t rfl (br_f hx (px_rins hn (by omega) p1 hp)))⟩) fun a => ?_))⟩⟩
        have hlt : pl < n := by
          apply Classical.byContradiction
          intro hx
          exact a (by rw [hn]; exact nI_le (by omega) (by omega))
        exact ⟨vp_in_nI (by omega) (by omega), br_f (fun z => hpr ⟨hlt, z⟩) ⟨i25, br_f hz (br_t rfl (br_f hx (px_rins hn (by omega) p1 hp)))⟩⟩
/-! the greatest qos -/
def gqI (S : List (Int32 × Nat)) (T : Int32) (i : Nat) (cur : Int32) : Prop :=
  (cur = -1 ∧ ∀ (j : Nat) (f : Int32 × Nat), j < i → S[j]? = some f → ma f.1 T = false)
  ∨ ∃ b : Nat, b ≤ 2 ∧ cur = nI b ∧ (∃ (j : Nat) (f : Int32 × Nat), j < i ∧ S[j]? = some f ∧ ma f.1 T = true ∧ f.2 = b) ∧ ∀ (j : Nat) (f : Int32 × Nat), j < i → S[j]? = some f → ma f.1 T = true → f.2 ≤ b
theorem gq_skip {S : List (Int32 × Nat)} {T : Int32} {i : Nat} {cur : Int32} {f : Int32 × Nat} (H : gqI S T i cur) (hf : S[i]? = some f) (h : ma f.1 T = false ∨ ∃ b : Nat, b ≤ 2 ∧ cur = nI b ∧ f.2 ≤ b) : gqI S T (i + 1) cur := by
  have key : ∀ (j : Nat) (g : Int32 × Nat), j < i + 1 → S[j]? = some g → (j < i) ∨ g = f := by
    intro j g hj hg
    by_cases e : j = i
    · rw [e, hf] at hg
      exact Or.inr (Option.some.inj hg).symm
    · exact Or.inl (by omega)
  rcases H with ⟨h1, h2⟩ | ⟨b, b2, hb, ⟨j, g, j1, j2, j3, j4⟩, h2⟩
  · rcases h with h | ⟨b, b2, hb, _⟩
    · refine Or.inl ⟨h1, fun j g hj hg => ?_⟩
      rcases key j g hj hg with k | k
      · exact h2 j g k hg
      · rw [k]; exact h
    · rw [h1] at hb
      have := nI_pos (n := b) (by omega)
      rw [← hb] at this
      exact absurd (by decide) this
  · refine Or.inr ⟨b, b2, hb, ⟨j, g, by omega, j2, j3, j4⟩, fun j g hj hg hm => ?_⟩
    rcases key j g hj hg with k | k
    · exact h2 j g k hg hm
    · rcases h with h | ⟨b', b2', hb', h⟩
      · rw [k, h] at hm
        exact absurd hm (by decide)
      · rw [hb, nI_eq (by omega) (by omega)] at hb'
        rw [k, hb']
        exact h
theorem pq_gq {s : TL} {S : Nat → List (Int32 × Nat)} (HS : pc_S s S) {d : Nat} (hd : d < 4) (T : Int32) : ∃ B : Int32, ((B = -1 ∧ ∀ f, f ∈ S d → ma f.1 T = false) ∨ ∃ b : Nat, b ≤ 2 ∧ B = nI b ∧ (∃ f, f ∈ S d ∧ ma f.1 T = true ∧ f.2 = b) ∧ ∀ f, f ∈ S d → ma f.1 T = true → f.2 ≤ b)
    ∧ ∀ (p : TP) (k : TK) (r : TR) (l : TL) (o : TO) (h : TA) (w : TW) (post : Int32 → Prop), post B → wpX_greatestQos post (XS p k r l s o h w) (nI d) T := by
  obtain ⟨a1, a2, a3, a4⟩ := HS d hd
  have hl : ∀ f i (cur : Int32), i + f = (S d).length → gqI (S d) T i cur → ∃ B, gqI (S d) T (S d).length B ∧ ∀ (p : TP) (k : TK) (r : TR) (l : TL) (o : TO) (h : TA) (w : TW) (post : Int32 → Prop), post B → wX_greatestQos_22 post T (nI (d * 4 + (S d).length)) p.1 r.1 p.2.1 p.2.2.1 p.2.2.2.1 p.2.2.2.2 k.1 k.2.1 k.2.2.1 k.2.2.2 r.2.1 r.2.2 l.1 l.2.1 l.2.2 s.1 s.2.1 s.2.2 o.1 o.2.1 o.2.2.1 o.2.2.2.1 o.2.2.2.2.1 o.2.2.2.2.2 h w.1 w.2.1 w.2.2.1 w.2.2.2.1 w.2.2.2.2.1 w.2.2.2.2.2.1 w.2.2.2.2.2.2 (f + 1) cur (nI (d * 4 + i)) := by
    intro f
    induction f with
    | zero =>
      intro i cur hi hc
      obtain rfl : i = (S d).length := by omega
      exact ⟨cur, hc, fun p k r l o h w post hp => br_t (nI_le (by omega) (by omega)) hp⟩
    | succ f ih =>
      intro i cur hi hc
      obtain ⟨g, hg⟩ := ls_ex (show i < (S d).length by omega)
      have cc : (nI (d * 4 + i)).toNatClampNeg = d * 4 + i := nI_clamp (by omega)
      have ic : vp_in (nI (d * 4 + i)) 16 := vp_in_nI (by omega) (by omega)
      have hX : ¬ nI (d * 4 + (S d).length) ≤ nI (d * 4 + i) := nI_ge (by omega) (by omega)
      obtain ⟨g1, g2⟩ := a4 i g hg
      have hq2 := a2 g (ls_mem hg)
      have v1 : s.2.1 (nI (d * 4 + i)).toNatClampNeg = g.1 := by rw [cc]; exact g1
      have v2 : s.2.2 (nI (d * 4 + i)).toNatClampNeg = nI g.2 := by rw [cc]; exact g2
      by_cases hle : nI g.2 ≤ cur
      · have hb : ∃ b : Nat, b ≤ 2 ∧ cur = nI b ∧ g.2 ≤ b := by
          rcases hc with ⟨h1, _⟩ | ⟨b, b2, hb, _⟩
          · rw [h1] at hle
            exact absurd (Int32.le_trans (nI_pos' (n := g.2) (by omega)) hle) (by decide)
          · rw [hb, nI_leI (by omega) (by omega)] at hle
            exact ⟨b, b2, hb, hle⟩
        obtain ⟨B, b1, b2⟩ := ih (i + 1) cur (by omega) (gq_skip hc hg (Or.inr hb))
        exact ⟨B, b1, fun p k r l o h w post hp => br_f hX ⟨ic, br_t (by rw [v2]; exact hle) (nm_r (nI_1 _) (b2 p k r l o h w post hp))⟩⟩
      · cases hm : ma g.1 T with
        | false =>
          obtain ⟨B, b1, b2⟩ := ih (i + 1) cur (by omega) (gq_skip hc hg (Or.inl hm))
          exact ⟨B, b1, fun p k r l o h w post hp => br_f hX ⟨ic, br_f (by rw [v2]; exact hle) ⟨ic, by rw [v1]; exact px_ma (by rw [hm]; exact br_t rfl (nm_r (nI_1 _) (b2 p k r l o h w post hp)))⟩⟩⟩
        | true =>
          have hnew : gqI (S d) T (i + 1) (nI g.2) := by
            refine Or.inr ⟨g.2, hq2, rfl, ⟨i, g, by omega, hg, hm, rfl⟩, fun j g' hj hg' hm' => ?_⟩
            by_cases e : j = i
            · rw [e, hg] at hg'
              rw [← Option.some.inj hg']
              exact Nat.le_refl _
            · rcases hc with ⟨_, h2⟩ | ⟨b, b2, hb, _, h2⟩
              · rw [h2 j g' (by omega) hg'] at hm'
                exact absurd hm' (by decide)
              · have h3 := h2 j g' (by omega) hg' hm'
                rw [hb, nI_leI (by omega) (by omega)] at hle
                omega
          obtain ⟨B, b1, b2⟩ := ih (i + 1) (nI g.2) (by omega) hnew
          refine ⟨B, b1, fun p k r l o h w post hp => br_f hX ⟨ic, br_f (by rw [v2]; exact hle) ⟨ic, ?_⟩⟩⟩
          rw [v1]
          exact px_ma (by rw [hm]; exact br_f (by decide) ⟨ic, nm_r v2 (nm_r (nI_1 _) (b2 p k r l o h w post hp))⟩)
  obtain ⟨B, b1, b2⟩ := hl (S d).length 0 (-1) (by omega) (Or.inl ⟨rfl, fun j f hj => absurd hj (by omega)⟩)
  have cd : (nI d).toNatClampNeg = d := nI_clamp (by omega)
  refine ⟨B, ?_, fun p k r l o h w post hp => nm_r (pn_m4 d) ⟨vp_in_nI hd (by omega), nm_r (e' := nI (d * 4 + (S d).length)) (by rw [cd, a3, nI_add]) ⟨(S d).length + 1, b2 p k r l o h w post hp⟩⟩⟩
  rcases b1 with ⟨h1, h2⟩ | ⟨b, c2, hb, ⟨j, f, _, j2, j3, j4⟩, h2⟩
  · refine Or.inl ⟨h1, fun f hf => ?_⟩
    obtain ⟨j, hj⟩ := List.mem_iff_getElem?.mp hf
    exact h2 j f (ls_lt hj) hj
  · refine Or.inr ⟨b, c2, hb, ⟨f, ls_mem j2, j3, j4⟩, fun f hf hm => ?_⟩
    obtain ⟨j, hj⟩ := List.mem_iff_getElem?.mp hf
    exact h2 j f (ls_lt hj) hj hm
end Q10
end
section
section Q11
/-- what an ACCEPT does at client d's end -/
def ACD (S : List (Int32 × Nat)) (T : Int32) (q : Nat) (up : Bool) (sn : Nat) (Od Wd : List N5) (v : Nat) (Od' Wd' : List N5) (v' : Nat) : Prop :=
  ((∀ f, f ∈ S → ma f.1 T = false) ∧ Od' = Od ∧ Wd' = Wd ∧ v' = v)
  ∨ ∃ b : Nat, b ≤ 2 ∧ (∃ f, f ∈ S ∧ ma f.1 T = true ∧ f.2 = b) ∧ (∀ f, f ∈ S → ma f.1 T = true → f.2 ≤ b) ∧ SND up sn (if b ≤ q then b else q) 0 Od Wd v Od' Wd' v'
theorem pq_acl {p : TP} {l s : TL} {n : Nat} {tp : Nat → Int32} {qu : Nat → Nat} {up se pe : Nat → Bool} {S : Nat → List (Int32 × Nat)} (HP : pc_P p n tp qu) (HL : pc_L l up se pe) (HS : pc_S s S) {sn : Nat} (s1 : 1 ≤ sn) (s2 : sn ≤ 24) :
    ∀ f d, d + f = 4 → ∀ (k : TK) (o : TO) (w : TW) (O W : Nat → List N5) (rc : Nat → Nat → Nat) (ac ov : Nat → Nat), pc_O o O → pc_W w W → pc_K k rc ac ov → (∀ d', d ≤ d' → d' < 4 → (W (4 + d')).length < 32) → ∃ (k' : TK) (o' : TO) (w' : TW) (O' W' : Nat → List N5) (ov' : Nat → Nat), pc_O o' O' ∧ pc_W w' W' ∧ pc_K k' rc ac ov'
      ∧ (∀ x, x < 4 + d → O' x = O x ∧ W' x = W x) ∧ (∀ d', d' < d → ov' d' = ov d') ∧ (∀ d', d ≤ d' → d' < 4 → ACD (S d') (tp sn) (qu sn) (up d') sn (O (4 + d')) (W (4 + d')) (ov d') (O' (4 + d')) (W' (4 + d')) (ov' d'))
      ∧ (∀ (r : TR) (h : TA) (post : St1 → Prop), post (XS p k' r l s o' h w') → wX_acceptSerial_26 post (nI sn) (f + 1) (nI d) p.1 r.1 p.2.1 p.2.2.1 p.2.2.2.1 p.2.2.2.2 k.1 k.2.1 k.2.2.1 k.2.2.2 r.2.1 r.2.2 l.1 l.2.1 l.2.2 s.1 s.2.1 s.2.2 o.1 o.2.1 o.2.2.1 o.2.2.2.1 o.2.2.2.2.1 o.2.2.2.2.2 h w.1 w.2.1 w.2.2.1 w.2.2.2.1 w.2.2.2.2.1 w.2.2.2.2.2.1 w.2.2.2.2.2.2) := by
  have cs : (nI sn).toNatClampNeg = sn := nI_clamp (by omega)
  have i25 : vp_in (nI sn) 25 := vp_in_nI (by omega) (by omega)
  obtain ⟨ht, hqu, hq2⟩ := HP.2.2 sn s2
  have vT : p.2.1 (nI sn).toNatClampNeg = tp sn := by rw [cs]; exact ht
  have vQ : p.2.2.2.1 (nI sn).toNatClampNeg = nI (qu sn) := by rw [cs]; exact hqu
  intro f
  induction f with
  | zero =>
    intro d hd k o w O W rc ac ov HO HW HK hl
    obtain rfl : d = 4 := by omega
    exact ⟨k, o, w, O, W, ov, HO, HW, HK, fun x _ => ⟨rfl, rfl⟩, fun d' _ => rfl, fun d' h1 h2 => by omega, fun r h post hp => br_t (by decide) hp⟩
  | succ f ih =>
    intro d hd k o w O W rc ac ov HO HW HK hl
    have h4 : ¬ (4 : Int32) ≤ nI d := nI_ge (b := 4) (by omega) (by omega)
    obtain ⟨B, hB, bX⟩ := pq_gq HS (show d < 4 by omega) (tp sn)
    rcases hB with ⟨rfl, hno⟩ | ⟨b, b2, rfl, hex, hall⟩
    · obtain ⟨k', o', w', O', W', ov', c1, c2, c3, c4, c5, c6, c7⟩ := ih (d + 1) (by omega) k o w O W rc ac ov HO HW HK (fun d' h1 h2 => hl d' (by omega) h2)
      refine ⟨k', o', w', O', W', ov', c1, c2, c3, fun x hx => c4 x (by omega), fun d' h => c5 d' (by omega), fun d' h1 h2 => ?_, fun r h post hp => br_f h4 ⟨i25, by rw [vT]; exact bX p k r l o h w _ (br_t (by decide) (nm_r (nI_1 _) (c7 r h post hp)))⟩⟩
      by_cases e : d' = d
      · subst e
        exact Or.inl ⟨hno, (c4 (4 + d') (by omega)).1, (c4 (4 + d') (by omega)).2, c5 d' (by omega)⟩
      · exact c6 d' (by omega) h2
    · have hb0 : ¬ nI b < 0 := nI_pos (by omega)
      have hqn : (if b ≤ qu sn then b else qu sn) ≤ 2 := by split <;> omega
      obtain ⟨k1, o1, w1, O1, W1, v1, t1, t2, t3, t4, t5⟩ := pq_send HO HW HK HL (show d < 4 by omega) s1 s2 hqn (show (0 : Nat) ≤ 1 by omega) (hl d (Nat.le_refl d) (by omega))
      obtain ⟨k', o', w', O', W', ov', c1, c2, c3, c4, c5, c6, c7⟩ := ih (d + 1) (by omega) k1 o1 w1 (fu O (4 + d) O1) (fu W (4 + d) W1) rc ac (fu ov d v1) t2 t3 t4 (fun d' h1 h2 => by rw [fu_n (by omega)]; exact hl d' (by omega) h2)
      refine ⟨k', o', w', O', W', ov', c1, c2, c3, fun x hx => ?_, fun d' h => ?_, fun d' h1 h2 => ?_, fun r h post hp => br_f h4 ⟨i25, ?_⟩⟩
      · have := c4 x (by omega)
        rw [fu_n (by omega), fu_n (by omega)] at this
        exact this
      · have := c5 d' (by omega)
        rw [fu_n (by omega)] at this
        exact this
      · by_cases e : d' = d
        · subst e
          have h5 := c4 (4 + d') (by omega)
          have h6 := c5 d' (by omega)
          rw [fu_s, fu_s] at h5
          rw [fu_s] at h6
          rw [h5.1, h5.2, h6]
          exact Or.inr ⟨b, b2, hex, hall, t1⟩
        · have := c6 d' (by omega) h2
          rw [fu_n (by omega), fu_n (by omega), fu_n (by omega)] at this
          exact this
      · rw [vT, vQ]
        refine bX p k r l o h w _ (br_f hb0 ⟨i25, ?_⟩)
        have t5' := t5
        by_cases hle : b ≤ qu sn
        · rw [if_pos hle] at t5'
          exact br_t (nI_le hle (by omega)) (t5' p r s h _ (nm_r (nI_1 _) (c7 r h post hp)))
        · rw [if_neg hle] at t5'
          exact br_f (nI_ge (by omega) (by omega)) (t5' p r s h _ (nm_r (nI_1 _) (c7 r h post hp)))
theorem pq_acc {p : TP} {l s : TL} {k : TK} {r : TR} {o : TO} {w : TW} {n : Nat} {tp : Nat → Int32} {qu : Nat → Nat} {up se pe : Nat → Bool} {S : Nat → List (Int32 × Nat)} {O W : Nat → List N5} {rc : Nat → Nat → Nat} {ac ov : Nat → Nat} (HP : pc_P p n tp qu) (HL : pc_L l up se pe) (HS : pc_S s S) (HR : pc_R r) (HO : pc_O o O) (HW : pc_W w W) (HK : pc_K k rc ac ov) {sn : Nat} (s1 : 1 ≤ sn) (s2 : sn ≤ 24) (hl : ∀ d, d < 4 → (W (4 + d)).length < 32) :
    ∃ (k' : TK) (r' : TR) (o' : TO) (w' : TW) (O' W' : Nat → List N5) (ov' : Nat → Nat), pc_R r' ∧ pc_O o' O' ∧ pc_W w' W' ∧ pc_K k' rc (fu ac sn (ac sn + 1)) ov' ∧ (∀ x, x < 4 → O' x = O x ∧ W' x = W x) ∧ (∀ d, d < 4 → ACD (S d) (tp sn) (qu sn) (up d) sn (O (4 + d)) (W (4 + d)) (ov d) (O' (4 + d)) (W' (4 + d)) (ov' d))
      ∧ (∀ (h : TA) (post : St1 → Prop), post (XS p k' r' l s o' h w') → wpX_acceptSerial post (XS p k r l s o h w) (nI sn)) := by
  have cs : (nI sn).toNatClampNeg = sn := nI_clamp (by omega)
  have i25 : vp_in (nI sn) 25 := vp_in_nI (by omega) (by omega)
  have K1 : pc_K (k.1, k.2.1, upd k.2.2.1 sn (nI (ac sn + 1)), k.2.2.2) rc (fu ac sn (ac sn + 1)) ov := by
    refine ⟨HK.1, fun s' hs' => ?_, HK.2.2⟩
    show upd k.2.2.1 sn (nI (ac sn + 1)) s' = nI (fu ac sn (ac sn + 1) s')
    by_cases e : s' = sn
    · rw [e, pk_us, fu_s]
    · rw [pk_un e, fu_n e]; exact HK.2.1 s' hs'
  have eK : upd k.2.2.1 (nI sn).toNatClampNeg (k.2.2.1 (nI sn).toNatClampNeg + 1) = upd k.2.2.1 sn (nI (ac sn + 1)) := by rw [cs, HK.2.1 sn s2, nI_1]
  obtain ⟨k', o', w', O', W', ov', c1, c2, c3, c4, c5, c6, c7⟩ := pq_acl HP HL HS s1 s2 4 0 (by omega) _ o w O W rc _ ov HO HW K1 (fun d' _ h => hl d' h)
  by_cases hr : p.2.2.2.2 (nI sn).toNatClampNeg = 0
  · exact ⟨k', r, o', w', O', W', ov', HR, c1, c2, c3, fun x hx => c4 x (by omega), fun d hd => c6 d (by omega) hd, fun h post hp => ⟨i25, i25, nm_r eK ⟨i25, br_t hr ⟨5, c7 r h post hp⟩⟩⟩⟩
  · obtain ⟨r', d1, d2⟩ := pq_upd (p := p) HR s1 s2
    exact ⟨k', r', o', w', O', W', ov', d1, c1, c2, c3, fun x hx => c4 x (by omega), fun d hd => c6 d (by omega) hd, fun h post hp => ⟨i25, i25, nm_r eK ⟨i25, br_f hr (d2 (k.1, k.2.1, upd k.2.2.1 sn (nI (ac sn + 1)), k.2.2.2) l s o h w _ ⟨5, c7 r' h post hp⟩)⟩⟩⟩
/-- a delivery -/
theorem pq_dlv {k : TK} {rc : Nat → Nat → Nat} {ac ov : Nat → Nat} (HK : pc_K k rc ac ov) {c sn mn : Nat} (hc : c < 4) (s1 : 1 ≤ sn) (s2 : sn ≤ 24) (hm : mn ≤ 1) : ∃ k', pc_K k' (if mn = 0 then fu rc c (fu (rc c) sn (rc c sn + 1)) else rc) ac ov
    ∧ ∀ (p : TP) (r : TR) (l s : TL) (o : TO) (h : TA) (w : TW) (post : St1 → Prop), post (XS p k' r l s o h w) → wpX_deliver post (XS p k r l s o h w) (nI c) (nI sn) (nI mn) := by
  have eX : nI c * 25 + nI sn = nI (c * 25 + sn) := by rw [pn_m25, nI_add]
  have ix : vp_in (nI c * 25 + nI sn) 100 := by rw [eX]; exact vp_in_nI (by omega) (by omega)
  have cx : (nI c * 25 + nI sn).toNatClampNeg = c * 25 + sn := by rw [eX]; exact nI_clamp (by omega)
  have cc : (nI c).toNatClampNeg = c := nI_clamp (by omega)
  have i4 : vp_in (nI c) 4 := vp_in_nI hc (by omega)
  by_cases h0 : mn = 0
  · subst h0
    rw [if_pos rfl]
    refine ⟨(upd k.1 (c * 25 + sn) (nI (rc c sn + 1)), k.2), ⟨fun c' s' hc' hs' => ?_, HK.2.1, HK.2.2⟩, fun p r l s o h w post hp => br_t rfl ⟨ix, ix, nm_r (by rw [cx, HK.1 c sn hc s2, nI_1]) hp⟩⟩
    show upd k.1 (c * 25 + sn) (nI (rc c sn + 1)) (c' * 25 + s') = _
    by_cases e : c' = c
    · subst e
      rw [fu_s]
      by_cases es : s' = sn
      · rw [es, pk_us, fu_s]
      · rw [pk_un (by omega), fu_n es]; exact HK.1 c' s' hc' hs'
    · rw [fu_n e, pk_un (by omega)]; exact HK.1 c' s' hc' hs'
  · rw [if_neg h0]
    have hm1 : ¬ nI mn = 0 := nI_ne0 (by omega) (by omega)
    exact ⟨(k.1, upd k.2.1 c (k.2.1 c + 1), k.2.2), ⟨HK.1, HK.2.1, HK.2.2⟩, fun p r l s o h w post hp => br_f hm1 ⟨i4, i4, nm_r (by rw [cc]) hp⟩⟩
/-! a packet moved: the walk up to its handling -/
theorem px_tb {p : TP} {k : TK} {r : TR} {l s : TL} {o : TO} {h : TA} {w : TW} {c d : Nat} {w' : TW} {t : N5} {up se pe : Nat → Bool} {H : Nat → Nat → Bool} {W : Nat → List N5} (HL : pc_L l up se pe) (HH : pc_H h H) (HW : pc_W w W) (hc : c < 4) (hu : up c = true) (hne : W c ≠ []) (hok : pw_ok t) (hd : d < 32) (ht : ps_w5 w (c * 32 + d) = cv t) (hold : ∀ post : Int32 → Prop, post (nI (c * 32 + d)) → wpX_oldestPacket post (XS p k r l s o h w) (nI c)) (hrem : ∀ post : St1 → Prop, post (XS p k r l s o h w') → wpX_removeOldestPacket post (XS p k r l s o h w) (nI c)) {post : Int32 → St1 → Prop}
    (h0 : (¬ t.1 = 1 ∨ (t.2.2.2.1 = 2 ∧ H (4 + c) t.2.1 = true)) → wpX_answerPacket (fun u => post (nI t.1) u) (XS p k r l s o h w') (nI (4 + c)) (nI t.1) (nI t.2.1) (nI t.2.2.2.1))
    (h1 : t.1 = 1 → (t.2.2.2.1 = 2 → H (4 + c) t.2.1 = false) → wpX_acceptSerial (fun u => wpX_answerPacket (fun u => post (nI t.1) u) u (nI (4 + c)) (nI t.1) (nI t.2.1) (nI t.2.2.2.1)) (XS p k r l s o h w') (nI t.2.2.1)) : wpX_toBroker post (XS p k r l s o h w) (nI c) := by
  obtain ⟨_, _, _, _, _, hcnt, _⟩ := HW.1 c (by omega)
  obtain ⟨k1, k5, i16, _, _, q2, _, hid, hid2⟩ := hok
  have hlen : 0 < (W c).length := List.length_pos_iff.mpr hne
  have hl32 := (HW.1 c (by omega)).1
  have cc : (nI c).toNatClampNeg = c := nI_clamp (by omega)
  have ic : vp_in (nI (c * 32 + d)) 256 := vp_in_nI (by omega) (by omega)
  have cd : (nI (c * 32 + d)).toNatClampNeg = c * 32 + d := nI_clamp (by omega)
  simp only [ps_w5, ps_5, cv, Prod.mk.injEq] at ht
  obtain ⟨t1, t2, t3, t4, t5⟩ := ht
  have eK : nI t.1 = 1 ↔ t.1 = 1 := nI_eq (b := 1) (by omega) (by omega)
  have eQ : nI t.2.2.2.1 = 2 ↔ t.2.2.2.1 = 2 := nI_eq (b := 2) (by omega) (by omega)
  have hi1 : 1 ≤ t.2.1 ∨ ¬ nI t.2.2.2.1 = 2 := by
    by_cases a : t.1 = 1
    · rcases hid a with z | z
      · refine Or.inr ?_
        rw [eQ]
        omega
      · exact Or.inl z
    · exact Or.inl (hid2 a)
  unfold wpX_toBroker
  exact px_li1 (p := p) (k := k) (r := r) (l := l) (s := s) (o := o) (h := h) (w := w) HL hc hu (br_f (by decide) ⟨vp_in_nI (by omega) (by omega), br_f (by rw [cc, hcnt]; exact nI_ne0 hlen (by omega)) (nm_r (pn_4a c) (hold _ ⟨ic, nm_r (by rw [cd, t1]) ⟨ic, nm_r (by rw [cd, t2]) ⟨ic, nm_r (by rw [cd, t4]) ⟨ic, nm_r (by rw [cd, t3]) (hrem _ (px_tk (p := p) (k := k) (r := r) (l := l) (s := s) (o := o) (h := h) (w := w') HH (by omega) hi1 i16 (fun a => br_t rfl (h0 (a.elim (fun z => Or.inl (fun y => z (eK.mpr y))) (fun z => Or.inr ⟨eQ.mp z.1, z.2⟩)))) (fun a b => br_f (by decide) (h1 (eK.mp a) (fun y => b (eQ.mpr y))))))⟩⟩⟩⟩))⟩)
theorem px_tc {p : TP} {k : TK} {r : TR} {l s : TL} {o : TO} {h : TA} {w : TW} {c d : Nat} {w' : TW} {t : N5} {up se pe : Nat → Bool} {H : Nat → Nat → Bool} {W : Nat → List N5} (HL : pc_L l up se pe) (HH : pc_H h H) (HW : pc_W w W) (hc : c < 4) (hu : up c = true) (hne : W (4 + c) ≠ []) (hok : pw_ok t) (hd : d < 32) (ht : ps_w5 w ((4 + c) * 32 + d) = cv t) (hold : ∀ post : Int32 → Prop, post (nI ((4 + c) * 32 + d)) → wpX_oldestPacket post (XS p k r l s o h w) (nI (4 + c))) (hrem : ∀ post : St1 → Prop, post (XS p k r l s o h w') → wpX_removeOldestPacket post (XS p k r l s o h w) (nI (4 + c))) {post : Int32 → St1 → Prop}
    (h0 : (¬ t.1 = 1 ∨ (t.2.2.2.1 = 2 ∧ H c t.2.1 = true)) → wpX_answerPacket (fun u => post (nI t.1) u) (XS p k r l s o h w') (nI c) (nI t.1) (nI t.2.1) (nI t.2.2.2.1))
    (h1 : t.1 = 1 → (t.2.2.2.1 = 2 → H c t.2.1 = false) → wpX_deliver (fun u => wpX_answerPacket (fun u => post (nI t.1) u) u (nI c) (nI t.1) (nI t.2.1) (nI t.2.2.2.1)) (XS p k r l s o h w') (nI c) (nI t.2.2.1) (nI t.2.2.2.2)) : wpX_toClient post (XS p k r l s o h w) (nI c) := by
  obtain ⟨_, _, _, _, _, hcnt, _⟩ := HW.1 (4 + c) (by omega)
  obtain ⟨k1, k5, i16, _, _, q2, _, hid, hid2⟩ := hok
  have hlen : 0 < (W (4 + c)).length := List.length_pos_iff.mpr hne
  have hl32 := (HW.1 (4 + c) (by omega)).1
  have cc : (nI (4 + c)).toNatClampNeg = 4 + c := nI_clamp (by omega)
  have ic : vp_in (nI ((4 + c) * 32 + d)) 256 := vp_in_nI (by omega) (by omega)
  have cd : (nI ((4 + c) * 32 + d)).toNatClampNeg = (4 + c) * 32 + d := nI_clamp (by omega)
  simp only [ps_w5, ps_5, cv, Prod.mk.injEq] at ht
  obtain ⟨t1, t2, t3, t4, t5⟩ := ht
  have eK : nI t.1 = 1 ↔ t.1 = 1 := nI_eq (b := 1) (by omega) (by omega)
  have eQ : nI t.2.2.2.1 = 2 ↔ t.2.2.2.1 = 2 := nI_eq (b := 2) (by omega) (by omega)
  have hi1 : 1 ≤ t.2.1 ∨ ¬ nI t.2.2.2.1 = 2 := by
    by_cases a : t.1 = 1
    · rcases hid a with z | z
      · refine Or.inr ?_
        rw [eQ]
        omega
      · exact Or.inl z
    · exact Or.inl (hid2 a)
  unfold wpX_toClient
  exact nm_r (pn_4a c) (px_li1 (p := p) (k := k) (r := r) (l := l) (s := s) (o := o) (h := h) (w := w) HL hc hu (br_f (by decide) ⟨vp_in_nI (by omega) (by omega), br_f (by rw [cc, hcnt]; exact nI_ne0 hlen (by omega)) (hold _ ⟨ic, nm_r (by rw [cd, t1]) ⟨ic, nm_r (by rw [cd, t2]) ⟨ic, nm_r (by rw [cd, t4]) ⟨ic, nm_r (by rw [cd, t3]) ⟨ic, nm_r (by rw [cd, t5]) (hrem _ (px_tk (p := p) (k := k) (r := r) (l := l) (s := s) (o := o) (h := h) (w := w') HH (by omega) hi1 i16 (fun a => br_t rfl (h0 (a.elim (fun z => Or.inl (fun y => z (eK.mpr y))) (fun z => Or.inr ⟨eQ.mp z.1, z.2⟩)))) (fun a b => br_f (by decide) (h1 (eK.mp a) (fun y => b (eQ.mpr y))))))⟩⟩⟩⟩⟩)⟩))
end Q11
end
section
section Q12
def ps_zr (f : TA) (a b : Nat) : TA := fun i => if a ≤ i ∧ i < b then 0 else f i
theorem ps_zr0 {f : TA} {a : Nat} : ps_zr f a a = f := by
  funext i
  exact if_neg (by omega)
theorem ps_zrS {f : TA} {a b : Nat} (h : a ≤ b) : upd (ps_zr f a b) b 0 = ps_zr f a (b + 1) := by
  funext i
  simp only [upd, ps_zr]
  by_cases h1 : i = b
  · rw [if_pos h1, if_pos (by omega)]
  · rw [if_neg h1]
    by_cases h2 : a ≤ i ∧ i < b
    · rw [if_pos h2, if_pos (by omega)]
    · rw [if_neg h2, if_neg (by omega)]
theorem px_es {p : TP} {k : TK} {r : TR} {l s : TL} {o : TO} {h : TA} {w : TW} {x : Nat} (hx : x < 8) {post : St1 → Prop} (hp : post (XS p k r l s (upd o.1 x 0, o.2) (ps_zr h (x * 17 + 1) (x * 17 + 17)) w)) : wpX_emptySide post (XS p k r l s o h w) (nI x) := by
  have cx : (nI x).toNatClampNeg = x := nI_clamp (by omega)
  have hl : ∀ d i, i + d = 17 → 1 ≤ i → wX_emptySide_9 post (nI x) p.1 r.1 (d + 1) (nI i) p.2.1 p.2.2.1 p.2.2.2.1 p.2.2.2.2 k.1 k.2.1 k.2.2.1 k.2.2.2 r.2.1 r.2.2 l.1 l.2.1 l.2.2 s.1 s.2.1 s.2.2 (upd o.1 x 0) o.2.1 o.2.2.1 o.2.2.2.1 o.2.2.2.2.1 o.2.2.2.2.2 (ps_zr h (x * 17 + 1) (x * 17 + i)) w.1 w.2.1 w.2.2.1 w.2.2.2.1 w.2.2.2.2.1 w.2.2.2.2.2.1 w.2.2.2.2.2.2 := by
    intro d
    induction d with
    | zero =>
      intro i hi h1
      obtain rfl : i = 17 := by omega
      exact br_t (by decide) hp
    | succ d ih =>
      intro i hi h1
      have ea : nI x * 17 + nI i = nI (x * 17 + i) := by rw [pn_m17, nI_add]
      have a0 : vp_in (nI x * 17 + nI i) 136 := by rw [ea]; exact vp_in_nI (by omega) (by omega)
      exact br_f (nI_nlt (a := 16) (by omega) (by omega)) ⟨a0, nm_r (e' := ps_zr h (x * 17 + 1) (x * 17 + i + 1)) ((pn_u ea (by omega) rfl).trans (ps_zrS (by omega))) (nm_r (nI_1 _) (ih (i + 1) (by omega) (by omega)))⟩
  have hl0 := hl 16 1 (by omega) (by omega)
  rw [ps_zr0] at hl0
  exact ⟨vp_in_nI hx (by omega), nm_r (by rw [cx]) ⟨17, hl0⟩⟩
theorem px_dis {p : TP} {k : TK} {r : TR} {l s : TL} {o : TO} {h : TA} {w : TW} {c : Nat} (hc : c < 4) {post : St1 → Prop} (hp : post (XS p k r (l.1, upd l.2.1 c 0, upd l.2.2 c 0) (upd s.1 c 0, s.2) (upd (upd o.1 c 0) (4 + c) 0, o.2) (ps_zr (ps_zr h (c * 17 + 1) (c * 17 + 17)) ((4 + c) * 17 + 1) ((4 + c) * 17 + 17)) w)) : wpX_discardSession post (XS p k r l s o h w) (nI c) := by
  have cc : (nI c).toNatClampNeg = c := nI_clamp (by omega)
  have i4 : vp_in (nI c) 4 := vp_in_nI hc (by omega)
  refine ⟨i4, nm_r (e' := upd s.1 c 0) (by rw [cc]) ?_⟩
  refine px_es (p := p) (k := k) (r := r) (l := l) (s := (upd s.1 c 0, s.2)) (o := o) (h := h) (w := w) (x := c) (by omega) ?_
  show wpX_emptySide _ (XS p k r l (upd s.1 c 0, s.2) (upd o.1 c 0, o.2) (ps_zr h (c * 17 + 1) (c * 17 + 17)) w) (4 + nI c)
  rw [pn_4a]
  refine px_es (p := p) (k := k) (r := r) (l := l) (s := (upd s.1 c 0, s.2)) (o := (upd o.1 c 0, o.2)) (h := ps_zr h (c * 17 + 1) (c * 17 + 17)) (w := w) (x := 4 + c) (by omega) ?_
  exact ⟨i4, nm_r (by rw [cc]) ⟨i4, nm_r (by rw [cc]) hp⟩⟩
def fF : Nat → Bool := fun _ => false
/-- the groups of a discarded session -/
theorem pq_dis {l s : TL} {o : TO} {h : TA} {up se pe : Nat → Bool} {S : Nat → List (Int32 × Nat)} {O : Nat → List N5} {H : Nat → Nat → Bool} (HL : pc_L l up se pe) (HS : pc_S s S) (HO : pc_O o O) (HH : pc_H h H) {c : Nat} (hc : c < 4) :
    pc_L (l.1, upd l.2.1 c 0, upd l.2.2 c 0) up (fu se c false) (fu pe c false) ∧ pc_S (upd s.1 c 0, s.2) (fu S c []) ∧ pc_O (upd (upd o.1 c 0) (4 + c) 0, o.2) (fu (fu O c []) (4 + c) []) ∧ pc_H (ps_zr (ps_zr h (c * 17 + 1) (c * 17 + 17)) ((4 + c) * 17 + 1) ((4 + c) * 17 + 17)) (fu (fu H c fF) (4 + c) fF) := by
  refine ⟨fun c' hc' => ?_, fun c' hc' => ?_, ⟨fun x hx => ?_, HO.2⟩, fun x i hx h1 h2 => ?_⟩
  · obtain ⟨a1, a2, a3⟩ := HL c' hc'
    refine ⟨a1, ?_, ?_⟩
    · show upd l.2.1 c 0 c' = _
      by_cases e : c' = c
      · rw [e, pk_us, fu_s]; rfl
      · rw [pk_un e, fu_n e]; exact a2
    · show upd l.2.2 c 0 c' = _
      by_cases e : c' = c
      · rw [e, pk_us, fu_s]; rfl
      · rw [pk_un e, fu_n e]; exact a3
  · by_cases e : c' = c
    · subst e
      rw [fu_s]
      exact ⟨by decide, fun f hf => absurd hf (by simp), pk_us, fun j f hf => absurd hf (by simp)⟩
    · rw [fu_n e]
      obtain ⟨a1, a2, a3, a4⟩ := HS c' hc'
      exact ⟨a1, a2, (pk_un e).trans a3, a4⟩
  · by_cases e : x = 4 + c
    · subst e
      rw [fu_s]
      exact ⟨by decide, fun f hf => absurd hf (by simp), pk_us, fun j f hf => absurd hf (by simp)⟩
    · by_cases e2 : x = c
      · subst e2
        rw [fu_n e, fu_s]
        exact ⟨by decide, fun f hf => absurd hf (by simp), (pk_un e).trans pk_us, fun j f hf => absurd hf (by simp)⟩
      · rw [fu_n e, fu_n e2]
        obtain ⟨a1, a2, a3, a4⟩ := HO.1 x hx
        exact ⟨a1, a2, ((pk_un e).trans (pk_un e2)).trans a3, a4⟩
  · unfold ps_zr
    by_cases e : x = 4 + c
    · subst e
      rw [fu_s, if_pos (by omega)]
      rfl
    · rw [fu_n e, if_neg (by omega)]
      by_cases e2 : x = c
      · subst e2
        rw [fu_s, if_pos (by omega)]
        rfl
      · rw [fu_n e2, if_neg (by omega)]
        exact HH x i hx h1 h2
theorem rsn_ok {e : N5} (h : eo_ok e) : pw_ok (rsn e) := by
  obtain ⟨a1, a2, a3, a4, a5, a6, a7, a8, a9⟩ := h
  unfold rsn
  by_cases hs : e.2.2.2.2 = 1
  · rw [if_pos hs]
    exact ⟨Nat.le_refl 1, (by decide : 1 ≤ 5), a6, fun _ => ⟨a1, a2⟩, a2, a4, a7, fun _ => Or.inr a5, fun _ => a5⟩
  · rw [if_neg hs]
    exact ⟨(by decide : 1 ≤ 4), (by decide : 4 ≤ 5), a6, fun z => absurd z (by decide : ¬ (4 : Nat) = 1), Nat.zero_le _, Nat.zero_le _, Nat.zero_le _, fun z => absurd z (by decide : ¬ (4 : Nat) = 1), fun _ => a5⟩
/-- a side's entries sent again -/
theorem pq_rs {o : TO} {w : TW} {O W : Nat → List N5} (HO : pc_O o O) (HW : pc_W w W) {x : Nat} (hx : x < 8) (hl : (W x).length + (O x).length ≤ 32) : ∃ w', pc_W w' (fu W x (W x ++ (O x).map rsn))
    ∧ ∀ (p : TP) (k : TK) (r : TR) (l s : TL) (h : TA) (post : St1 → Prop), post (XS p k r l s o h w') → wpX_resend post (XS p k r l s o h w) (nI x) := by
  obtain ⟨a1, a2, a3, a4⟩ := HO.1 x hx
  have cx : (nI x).toNatClampNeg = x := nI_clamp (by omega)
  have hlp : ∀ d i, i + d = (O x).length → ∀ (w : TW) (V : List N5), pc_W w (fu W x V) → V.length + d ≤ 32 → ∃ w', pc_W w' (fu W x (V ++ ((O x).drop i).map rsn))
      ∧ ∀ (p : TP) (k : TK) (r : TR) (l s : TL) (h : TA) (post : St1 → Prop), post (XS p k r l s o h w') → wX_resend_17 post (nI x) (nI (x * 16 + (O x).length)) (d + 1) (nI (x * 16 + i)) p.1 r.1 p.2.1 p.2.2.1 p.2.2.2.1 p.2.2.2.2 k.1 k.2.1 k.2.2.1 k.2.2.2 r.2.1 r.2.2 l.1 l.2.1 l.2.2 s.1 s.2.1 s.2.2 o.1 o.2.1 o.2.2.1 o.2.2.2.1 o.2.2.2.2.1 o.2.2.2.2.2 h w.1 w.2.1 w.2.2.1 w.2.2.2.1 w.2.2.2.2.1 w.2.2.2.2.2.1 w.2.2.2.2.2.2 := by
    intro d
    induction d with
    | zero =>
      intro i hi w V HV hV
      have hd : (O x).drop i = [] := List.drop_eq_nil_of_le (by omega)
      rw [hd]
      refine ⟨w, by rw [List.map_nil, List.append_nil]; exact HV, fun p k r l s h post hp => br_t (nI_le (by omega) (by omega)) hp⟩
    | succ d ih =>
      intro i hi w V HV hV
      obtain ⟨e, he⟩ := ls_ex (show i < (O x).length by omega)
      have hok := a2 e (ls_mem he)
      have h5 := a4 i e he
      have g1 : o.2.1 (x * 16 + i) = nI e.1 := congrArg (fun t : T5 => t.1) h5
      have g2 : o.2.2.1 (x * 16 + i) = nI e.2.1 := congrArg (fun t : T5 => t.2.1) h5
      have g3 : o.2.2.2.1 (x * 16 + i) = nI e.2.2.1 := congrArg (fun t : T5 => t.2.2.1) h5
      have g4 : o.2.2.2.2.1 (x * 16 + i) = nI e.2.2.2.1 := congrArg (fun t : T5 => t.2.2.2.1) h5
      have g5 : o.2.2.2.2.2 (x * 16 + i) = nI e.2.2.2.2 := congrArg (fun t : T5 => t.2.2.2.2) h5
      have cX : (nI (x * 16 + i)).toNatClampNeg = x * 16 + i := nI_clamp (by omega)
      have iX : vp_in (nI (x * 16 + i)) 128 := vp_in_nI (by omega) (by omega)
      have nX : ¬ nI (x * 16 + (O x).length) ≤ nI (x * 16 + i) := nI_ge (by omega) (by omega)
      have hdrop : (O x).drop i = e :: (O x).drop (i + 1) := by
        have hil : i < (O x).length := by omega
        rw [List.drop_eq_getElem_cons hil]
        have := List.getElem?_eq_getElem hil
        rw [he] at this
        rw [Option.some.inj this]
      have hlen : (fu W x V x).length < 32 := by rw [fu_s]; omega
      obtain ⟨w1, b1, b2⟩ := pq_put HV hx hlen (t := rsn e) (rsn_ok hok)
      rw [fu_s] at b1
      have hff : fu (fu W x V) x (V ++ [rsn e]) = fu W x (V ++ [rsn e]) := by
        funext y
        by_cases hy : y = x
        · rw [hy, fu_s, fu_s]
        · rw [fu_n hy, fu_n hy, fu_n hy]
      rw [hff] at b1
      obtain ⟨w', c1, c2⟩ := ih (i + 1) (by omega) w1 (V ++ [rsn e]) b1 (by rw [List.length_append, List.length_singleton]; omega)
      refine ⟨w', ?_, fun p k r l s h post hp => br_f nX ⟨iX, ?_⟩⟩
      · rw [hdrop, List.map_cons]
        rw [List.append_assoc, List.singleton_append] at c1
        exact c1
      · have b2' := b2 p k r l s o h
        by_cases hs : e.2.2.2.2 = 1
        · have hr : rsn e = (1, e.2.2.1, e.1, e.2.1, e.2.2.2.1) := if_pos hs
          rw [hr] at b2'
          refine br_t (by rw [cX, g5, hs]; rfl) ⟨iX, iX, iX, iX, ?_⟩
          rw [cX, g1, g2, g3, g4]
          exact b2' _ (nm_r (nI_1 _) (c2 p k r l s h post hp))
        · have hr : rsn e = (4, e.2.2.1, 0, 0, 0) := if_neg hs
          rw [hr] at b2'
          refine br_f (by rw [cX, g5]; intro z; exact hs ((nI_eq (b := 1) (by have := hok.2.2.2.2.2.2.2.2; omega) (by omega)).mp z)) ⟨iX, ?_⟩
          rw [cX, g3]
          unfold wpX_putReply
          exact b2' _ (nm_r (nI_1 _) (c2 p k r l s h post hp))
  have H0 : pc_W w (fu W x (W x)) := by rw [fu_id]; exact HW
  obtain ⟨w', c1, c2⟩ := hlp (O x).length 0 (by omega) w (W x) H0 hl
  rw [List.drop_zero] at c1
  exact ⟨w', c1, fun p k r l s h post hp => nm_r (pn_m16 x) ⟨vp_in_nI hx (by omega), nm_r (e' := nI (x * 16 + (O x).length)) (by rw [cx, a3, nI_add]) ⟨(O x).length + 1, c2 p k r l s h post hp⟩⟩⟩
end Q12
end
section
section Q13
theorem pc_L_up {l : TL} {up se pe : Nat → Bool} (HL : pc_L l up se pe) {c : Nat} (b : Bool) : pc_L (upd l.1 c 1, upd l.2.1 c 1, upd l.2.2 c (bI b)) (fu up c true) (fu se c true) (fu pe c b) := by
  intro c' hc'
  obtain ⟨a1, a2, a3⟩ := HL c' hc'
  show upd l.1 c 1 c' = _ ∧ upd l.2.1 c 1 c' = _ ∧ upd l.2.2 c (bI b) c' = _
  by_cases e : c' = c
  · rw [e, pk_us, pk_us, pk_us, fu_s, fu_s, fu_s]
    exact ⟨rfl, rfl, rfl⟩
  · rw [pk_un e, pk_un e, pk_un e, fu_n e, fu_n e, fu_n e]
    exact ⟨a1, a2, a3⟩
theorem pc_L_down {l : TL} {up se pe : Nat → Bool} (HL : pc_L l up se pe) {c : Nat} : pc_L (upd l.1 c 0, l.2) (fu up c false) se pe := by
  intro c' hc'
  obtain ⟨a1, a2, a3⟩ := HL c' hc'
  refine ⟨?_, a2, a3⟩
  show upd l.1 c 0 c' = _
  by_cases e : c' = c
  · rw [e, pk_us, fu_s]; rfl
  · rw [pk_un e, fu_n e]; exact a1
theorem pc_W_clr {w : TW} {W : Nat → List N5} (HW : pc_W w W) {c : Nat} (hc : c < 4) : pc_W (w.1, upd (upd w.2.1 c 0) (4 + c) 0, w.2.2) (fu (fu W c []) (4 + c) []) := by
  refine ⟨fun x hx => ?_, HW.2⟩
  obtain ⟨a1, a2, d, hd, hw, ha, hb⟩ := HW.1 x hx
  by_cases e : x = 4 + c
  · subst e
    rw [fu_s]
    exact ⟨by decide, fun t ht => absurd ht (by simp), d, hd, hw, pk_us, fun j t ht => absurd ht (by simp)⟩
  · by_cases e2 : x = c
    · subst e2
      rw [fu_n e, fu_s]
      exact ⟨by decide, fun t ht => absurd ht (by simp), d, hd, hw, (pk_un e).trans pk_us, fun j t ht => absurd ht (by simp)⟩
    · rw [fu_n e, fu_n e2]
      exact ⟨a1, a2, d, hd, hw, ((pk_un e).trans (pk_un e2)).trans ha, hb⟩
theorem px_conn_no {p : TP} {k : TK} {r : TR} {l s : TL} {o : TO} {h : TA} {w : TW} {c : Nat} {B : Int32} {up se pe : Nat → Bool} (HL : pc_L l up se pe) (hc : c < 4) (hu : up c = true) {post : Int32 → St1 → Prop} (hp : post (-2) (XS p k r l s o h w)) : wpX_connect post (XS p k r l s o h w) (nI c) B := by
  have cc : (nI c).toNatClampNeg = c := nI_clamp (by omega)
  unfold wpX_connect
  exact px_cl hc (br_f (by decide) ⟨vp_in_nI hc (by omega), br_f (by rw [cc, (HL c hc).1, hu]; decide) hp⟩)
theorem px_conn_new {p : TP} {k : TK} {r : TR} {l s : TL} {o : TO} {h : TA} {w : TW} {c : Nat} {B : Int32} {up se pe : Nat → Bool} (HL : pc_L l up se pe) (hc : c < 4) (hu : up c = false) (hB : ¬ B = 0 ∨ pe c = false) {post : Int32 → St1 → Prop}
    (hp : post 0 (XS p k r (upd l.1 c 1, upd (upd l.2.1 c 0) c 1, upd (upd l.2.2 c 0) c (bI (decide (B = 0)))) (upd s.1 c 0, s.2) (upd (upd o.1 c 0) (4 + c) 0, o.2) (ps_zr (ps_zr h (c * 17 + 1) (c * 17 + 17)) ((4 + c) * 17 + 1) ((4 + c) * 17 + 17)) w)) : wpX_connect post (XS p k r l s o h w) (nI c) B := by
  have cc : (nI c).toNatClampNeg = c := nI_clamp (by omega)
  have i4 : vp_in (nI c) 4 := vp_in_nI hc (by omega)
  have hl : l.1 (nI c).toNatClampNeg = 0 := by rw [cc, (HL c hc).1, hu]; rfl
  have h39 : wX_connect_39 post (nI c) B 0 p.1 r.1 p.2.1 p.2.2.1 p.2.2.2.1 p.2.2.2.2 k.1 k.2.1 k.2.2.1 k.2.2.2 r.2.1 r.2.2 l.1 l.2.1 l.2.2 s.1 s.2.1 s.2.2 o.1 o.2.1 o.2.2.1 o.2.2.2.1 o.2.2.2.2.1 o.2.2.2.2.2 h w.1 w.2.1 w.2.2.1 w.2.2.2.1 w.2.2.2.2.1 w.2.2.2.2.2.1 w.2.2.2.2.2.2 := by
    refine br_t rfl (px_dis (p := p) (k := k) (r := r) (l := l) (s := s) (o := o) (h := h) (w := w) hc ?_)
    by_cases h0 : B = 0
    · have hd : bI (decide (B = 0)) = 1 := by rw [decide_eq_true h0]; rfl
      rw [hd] at hp
      exact ⟨i4, nm_r (by rw [cc]) ⟨i4, nm_r (by rw [cc]) (br_t h0 ⟨i4, nm_r (by rw [cc, pn_b (Or.inr rfl)]) (br_t rfl hp)⟩)⟩⟩
    · have hd : bI (decide (B = 0)) = 0 := by rw [decide_eq_false h0]; rfl
      rw [hd] at hp
      exact ⟨i4, nm_r (by rw [cc]) ⟨i4, nm_r (by rw [cc]) (br_f h0 ⟨i4, nm_r (by rw [cc, pn_b (Or.inl rfl)]) (br_t rfl hp)⟩)⟩⟩
  unfold wpX_connect
  refine px_cl hc (br_f (by decide) ⟨i4, br_t hl (br_c (fun h0 => ⟨i4, ?_⟩) fun _ => h39)⟩)
  have hpe : pe c = false := hB.resolve_left (fun z => z h0)
  exact br_t (by rw [cc, (HL c hc).2.2, hpe]; rfl) h39
theorem pq_conn_res {l : TL} {o : TO} {w : TW} {up se pe : Nat → Bool} {O W : Nat → List N5} (HL : pc_L l up se pe) (HO : pc_O o O) (HW : pc_W w W) {c : Nat} {B : Int32} (hc : c < 4) (hu : up c = false) (hB : B = 0) (hpe : pe c = true) (hl1 : (W c).length + (O c).length ≤ 32) (hl2 : (W (4 + c)).length + (O (4 + c)).length ≤ 32) : ∃ w', pc_W w' (fu (fu W c (W c ++ (O c).map rsn)) (4 + c) (W (4 + c) ++ (O (4 + c)).map rsn))
    ∧ ∀ (p : TP) (k : TK) (r : TR) (s : TL) (h : TA) (post : Int32 → St1 → Prop), post 1 (XS p k r (upd l.1 c 1, upd l.2.1 c 1, upd l.2.2 c (bI true)) s o h w') → wpX_connect post (XS p k r l s o h w) (nI c) B := by
  have cc : (nI c).toNatClampNeg = c := nI_clamp (by omega)
  have i4 : vp_in (nI c) 4 := vp_in_nI hc (by omega)
  have hl : l.1 (nI c).toNatClampNeg = 0 := by rw [cc, (HL c hc).1, hu]; rfl
  have hp' : ¬ l.2.2 (nI c).toNatClampNeg = 0 := by rw [cc, (HL c hc).2.2, hpe]; decide
  obtain ⟨w1, b1, b2⟩ := pq_rs HO HW (x := c) (by omega) hl1
  obtain ⟨w2, c1, c2⟩ := pq_rs HO b1 (x := 4 + c) (by omega) (by rw [fu_n (by omega)]; exact hl2)
  rw [fu_n (show 4 + c ≠ c by omega)] at c1
  refine ⟨w2, c1, fun p k r s h post hp => ?_⟩
  unfold wpX_connect
  refine px_cl hc (br_f (by decide) ⟨i4, br_t hl (br_t hB ⟨i4, br_f hp' (br_f (by decide) ⟨i4, nm_r (by rw [cc]) ⟨i4, nm_r (by rw [cc]) (br_t hB ⟨i4, nm_r (by rw [cc, pn_b (Or.inr rfl)]) (br_f (by decide) (b2 p k r (upd l.1 c 1, upd l.2.1 c 1, upd l.2.2 c 1) s h _ ?_))⟩)⟩⟩)⟩)⟩)
  show wpX_resend _ (XS p k r (upd l.1 c 1, upd l.2.1 c 1, upd l.2.2 c 1) s o h w1) (4 + nI c)
  rw [pn_4a]
  exact c2 p k r (upd l.1 c 1, upd l.2.1 c 1, upd l.2.2 c 1) s h _ hp
theorem px_disc_no {p : TP} {k : TK} {r : TR} {l s : TL} {o : TO} {h : TA} {w : TW} {c : Nat} {up se pe : Nat → Bool} (HL : pc_L l up se pe) (hc : c < 4) (hu : up c = false) {post : Int32 → St1 → Prop} (hp : post 0 (XS p k r l s o h w)) : wpX_disconnect post (XS p k r l s o h w) (nI c) := by
  unfold wpX_disconnect
  exact px_li0 (p := p) (k := k) (r := r) (l := l) (s := s) (o := o) (h := h) (w := w) HL hc hu (br_t rfl hp)
theorem px_disc_p {p : TP} {k : TK} {r : TR} {l s : TL} {o : TO} {h : TA} {w : TW} {c : Nat} {up se pe : Nat → Bool} (HL : pc_L l up se pe) (hc : c < 4) (hu : up c = true) (hpe : pe c = true) {post : Int32 → St1 → Prop} (hp : post 1 (XS p k r (upd l.1 c 0, l.2) s o h (w.1, upd (upd w.2.1 c 0) (4 + c) 0, w.2.2))) : wpX_disconnect post (XS p k r l s o h w) (nI c) := by
  have cc : (nI c).toNatClampNeg = c := nI_clamp (by omega)
  have c4 : (4 + nI c).toNatClampNeg = 4 + c := by rw [pn_4a]; exact nI_clamp (by omega)
  have i4 : vp_in (nI c) 4 := vp_in_nI hc (by omega)
  unfold wpX_disconnect
  exact px_li1 (p := p) (k := k) (r := r) (l := l) (s := s) (o := o) (h := h) (w := w) HL hc hu (br_f (by decide) ⟨i4, nm_r (e' := upd l.1 c 0) (by rw [cc]) ⟨vp_in_nI (by omega) (by omega), nm_r (e' := upd w.2.1 c 0) (by rw [cc]) ⟨by rw [pn_4a]; exact vp_in_nI (by omega) (by omega), nm_r (e' := upd (upd w.2.1 c 0) (4 + c) 0) (by rw [c4]) ⟨i4, br_f (by rw [cc, (HL c hc).2.2, hpe]; decide) hp⟩⟩⟩⟩)
theorem px_disc_c {p : TP} {k : TK} {r : TR} {l s : TL} {o : TO} {h : TA} {w : TW} {c : Nat} {up se pe : Nat → Bool} (HL : pc_L l up se pe) (hc : c < 4) (hu : up c = true) (hpe : pe c = false) {post : Int32 → St1 → Prop} (hp : post 1 (XS p k r (upd l.1 c 0, upd l.2.1 c 0, upd l.2.2 c 0) (upd s.1 c 0, s.2) (upd (upd o.1 c 0) (4 + c) 0, o.2) (ps_zr (ps_zr h (c * 17 + 1) (c * 17 + 17)) ((4 + c) * 17 + 1) ((4 + c) * 17 + 17)) (w.1, upd (upd w.2.1 c 0) (4 + c) 0, w.2.2))) : wpX_disconnect post (XS p k r l s o h w) (nI c) := by
  have cc : (nI c).toNatClampNeg = c := nI_clamp (by omega)
  have c4 : (4 + nI c).toNatClampNeg = 4 + c := by rw [pn_4a]; exact nI_clamp (by omega)
  have i4 : vp_in (nI c) 4 := vp_in_nI hc (by omega)
  unfold wpX_disconnect
  exact px_li1 (p := p) (k := k) (r := r) (l := l) (s := s) (o := o) (h := h) (w := w) HL hc hu (br_f (by decide) ⟨i4, nm_r (e' := upd l.1 c 0) (by rw [cc]) ⟨vp_in_nI (by omega) (by omega), nm_r (e' := upd w.2.1 c 0) (by rw [cc]) ⟨by rw [pn_4a]; exact vp_in_nI (by omega) (by omega), nm_r (e' := upd (upd w.2.1 c 0) (4 + c) 0) (by rw [c4]) ⟨i4, br_t (by rw [cc, (HL c hc).2.2, hpe]; rfl) (px_dis (p := p) (k := k) (r := r) (l := (upd l.1 c 0, l.2)) (s := s) (o := o) (h := h) (w := (w.1, upd (upd w.2.1 c 0) (4 + c) 0, w.2.2)) hc hp)⟩⟩⟩⟩)
/-! unsubscribe -/
theorem pq_uns {l s : TL} {up se pe : Nat → Bool} {S : Nat → List (Int32 × Nat)} (HL : pc_L l up se pe) (HS : pc_S s S) {c : Nat} (hc : c < 4) (F : Int32) : ∃ (s' : TL) (L' : List (Int32 × Nat)) (R : Int32), pc_S s' (fu S c L') ∧ (∀ f, f ∈ L' → f ∈ S c)
    ∧ ∀ (p : TP) (k : TK) (r : TR) (o : TO) (h : TA) (w : TW) (post : Int32 → St1 → Prop), post R (XS p k r l s' o h w) → wpX_unsubscribe post (XS p k r l s o h w) (nI c) F := by
  have cc : (nI c).toNatClampNeg = c := nI_clamp (by omega)
  have i4 : vp_in (nI c) 4 := vp_in_nI hc (by omega)
  have S0 : pc_S s (fu S c (S c)) := by rw [fu_id]; exact HS
  cases hu : up c with
  | false =>
    refine ⟨s, S c, 0, S0, fun f hf => hf, fun p k r o h w post hp => ?_⟩
    unfold wpX_unsubscribe
    exact px_li0 (p := p) (k := k) (r := r) (l := l) (s := s) (o := o) (h := h) (w := w) HL hc hu (br_t rfl hp)
  | true =>
    obtain ⟨R, fX, hR⟩ := pq_fs HS hc F
    rcases hR with ⟨rfl, _⟩ | ⟨j, f, rfl, hj4, hf, _⟩
    · refine ⟨s, S c, 0, S0, fun f hf => hf, fun p k r o h w post hp => ?_⟩
      unfold wpX_unsubscribe
      exact px_li1 (p := p) (k := k) (r := r) (l := l) (s := s) (o := o) (h := h) (w := w) HL hc hu (br_f (by decide) (fX p k r l o h w _ (br_f (by decide) hp)))
    · obtain ⟨a1, a2, a3, a4⟩ := HS c hc
      have hjl := ls_lt hf
      obtain ⟨n, hn⟩ : ∃ n, (S c).length = n + 1 := ⟨(S c).length - 1, by omega⟩
      rw [hn] at a3
      refine ⟨(upd s.1 c (nI n), ps_sh s.2.1 (c * 4 + j) (c * 4 + n), ps_sh s.2.2 (c * 4 + j) (c * 4 + n)), (S c).eraseIdx j, 1, fun c' hc' => ?_, fun g hg => List.mem_of_mem_eraseIdx hg, fun p k r o h w post hp => ?_⟩
      · by_cases e : c' = c
        · subst e
          have hlen : ((S c').eraseIdx j).length = n := by
            rw [List.length_eraseIdx_of_lt hjl, hn]
            rfl
          rw [fu_s]
          refine ⟨by omega, fun g hg => a2 g (List.mem_of_mem_eraseIdx hg), by rw [hlen]; exact pk_us, fun i g hi => ?_⟩
          have hi' := ls_lt hi
          rw [hlen] at hi'
          rw [List.getElem?_eraseIdx] at hi
          show ps_sh s.2.1 (c' * 4 + j) (c' * 4 + n) (c' * 4 + i) = _ ∧ ps_sh s.2.2 (c' * 4 + j) (c' * 4 + n) (c' * 4 + i) = _
          by_cases hlt : i < j
          · rw [if_pos hlt] at hi
            rw [ps_sh_lo (by omega), ps_sh_lo (by omega)]
            exact a4 i g hi
          · rw [if_neg hlt] at hi
            rw [ps_sh_in (by omega) (by omega), ps_sh_in (by omega) (by omega)]
            exact a4 (i + 1) g hi
        · rw [fu_n e]
          obtain ⟨b1, b2, b3, b4⟩ := HS c' hc'
          refine ⟨b1, b2, (pk_un e).trans b3, fun i g hi => ?_⟩
          have := ls_lt hi
          show ps_sh s.2.1 (c * 4 + j) (c * 4 + n) (c' * 4 + i) = _ ∧ ps_sh s.2.2 (c * 4 + j) (c * 4 + n) (c' * 4 + i) = _
          have h1 : ps_sh s.2.1 (c * 4 + j) (c * 4 + n) (c' * 4 + i) = s.2.1 (c' * 4 + i) := if_neg (by omega)
          have h2 : ps_sh s.2.2 (c * 4 + j) (c * 4 + n) (c' * 4 + i) = s.2.2 (c' * 4 + i) := if_neg (by omega)
          rw [h1, h2]
          exact b4 i g hi
      · have hX : ∀ d i, j ≤ i → i + d = n → wX_unsubscribe_40 post (nI c) (nI (c * 4 + n)) p.1 r.1 (d + 1) (nI (c * 4 + i)) p.2.1 p.2.2.1 p.2.2.2.1 p.2.2.2.2 k.1 k.2.1 k.2.2.1 k.2.2.2 r.2.1 r.2.2 l.1 l.2.1 l.2.2 s.1 (ps_sh s.2.1 (c * 4 + j) (c * 4 + i)) (ps_sh s.2.2 (c * 4 + j) (c * 4 + i)) o.1 o.2.1 o.2.2.1 o.2.2.2.1 o.2.2.2.2.1 o.2.2.2.2.2 h w.1 w.2.1 w.2.2.1 w.2.2.2.1 w.2.2.2.2.1 w.2.2.2.2.2.1 w.2.2.2.2.2.2 := by
          intro d
          induction d with
          | zero =>
            intro i h1 hi
            obtain rfl : i = n := by omega
            exact br_t (nI_le (by omega) (by omega)) ⟨i4, i4, nm_r (e' := upd s.1 c (nI i)) (by rw [cc, a3, nI_pred]) hp⟩
          | succ d ih =>
            intro i h1 hi
            have a0 : vp_in (nI (c * 4 + i)) 16 := vp_in_nI (by omega) (by omega)
            have a1 : vp_in (nI (c * 4 + i) + 1) 16 := by rw [nI_1]; exact vp_in_nI (by omega) (by omega)
            exact br_f (nI_ge (by omega) (by omega)) ⟨a1, a0, nm_r (pn_sh rfl (nI_1 _) (by omega) (by omega)) ⟨a1, a0, nm_r (pn_sh rfl (nI_1 _) (by omega) (by omega)) (nm_r (nI_1 _) (ih (i + 1) (by omega) (by omega)))⟩⟩
        have hX0 := hX (n - j) j (Nat.le_refl j) (by omega)
        rw [ps_sh0 (Nat.le_refl _), ps_sh0 (Nat.le_refl _)] at hX0
        unfold wpX_unsubscribe
        exact px_li1 (p := p) (k := k) (r := r) (l := l) (s := s) (o := o) (h := h) (w := w) HL hc hu (br_f (by decide) (fX p k r l o h w _ (br_t (nI_pos' (by omega)) ⟨i4, nm_r (e' := nI (c * 4 + n)) (by rw [cc, a3, pn_m4, nI_add, ← Nat.add_assoc, nI_pred]) ⟨n - j + 1, hX0⟩⟩)))
end Q13
end
section
section Q14
/-- what an accepted publish leaves: the outbox and the wire of the client's end -/
def PBL (n qn : Nat) (Oc Wc Oc' Wc' : List N5) : Prop := (qn = 0 ∧ Oc' = Oc ∧ Wc' = Wc ++ [(1, 0, n + 1, 0, 0)]) ∨ (1 ≤ qn ∧ Oc.length < 4 ∧ ∃ i, 1 ≤ i ∧ i ≤ 16 ∧ (∀ e, e ∈ Oc → e.2.2.1 ≠ i) ∧ Oc' = Oc ++ [(n + 1, qn, i, 0, 1)] ∧ Wc' = Wc ++ [(1, i, n + 1, qn, 0)])
theorem pq_p86 {p : TP} {o : TO} {w : TW} {n : Nat} {tp : Nat → Int32} {qu : Nat → Nat} {O W : Nat → List N5} (HP : pc_P p n tp qu) (HO : pc_O o O) (HW : pc_W w W) {c qn : Nat} (hc : c < 4) (n24 : n < 24) {T P F : Int32} (hq : qn ≤ 2) (hf : ¬ qn = 0 → (O c).length < 4) (hl : (W c).length < 32) : ∃ (p' : TP) (o' : TO) (w' : TW) (O' W' : List N5), PBL n qn (O c) (W c) O' W' ∧ pc_P p' (n + 1) (fu tp (n + 1) T) (fu qu (n + 1) qn) ∧ pc_O o' (fu O c O') ∧ pc_W w' (fu W c W')
    ∧ (∀ (k : TK) (r : TR) (l s : TL) (h : TA) (post : Int32 → St1 → Prop), post (nI (n + 1)) (XS p' k r l s o' h w') → wX_publish_86 post (nI c) T P F (nI qn) p.1 r.1 p.2.1 p.2.2.1 p.2.2.2.1 p.2.2.2.2 k.1 k.2.1 k.2.2.1 k.2.2.2 r.2.1 r.2.2 l.1 l.2.1 l.2.2 s.1 s.2.1 s.2.2 o.1 o.2.1 o.2.2.1 o.2.2.2.1 o.2.2.2.2.1 o.2.2.2.2.2 h w.1 w.2.1 w.2.2.1 w.2.2.2.1 w.2.2.2.2.1 w.2.2.2.2.2.1 w.2.2.2.2.2.2) := by
  obtain ⟨hn, _, hP⟩ := HP
  have i25 : vp_in (nI (n + 1)) 25 := vp_in_nI (by omega) (by omega)
  have cs : (nI (n + 1)).toNatClampNeg = n + 1 := nI_clamp (by omega)
  have en : p.1 + 1 = nI (n + 1) := by rw [hn, nI_1]
  have hZ : ∃ Z : Int32, (Z = 0 ∨ Z = 1) ∧ ((F &&& 4 = 0 ∧ Z = 0) ∨ (¬ F &&& 4 = 0 ∧ Z = 1)) := by
    by_cases h4 : F &&& 4 = 0
    · exact ⟨0, Or.inl rfl, Or.inl ⟨h4, rfl⟩⟩
    · exact ⟨1, Or.inr rfl, Or.inr ⟨h4, rfl⟩⟩
  obtain ⟨Z, hZ1, hZ2⟩ := hZ
  have HP' : pc_P (nI (n + 1), upd p.2.1 (n + 1) T, upd p.2.2.1 (n + 1) P, upd p.2.2.2.1 (n + 1) (nI qn), upd p.2.2.2.2 (n + 1) Z) (n + 1) (fu tp (n + 1) T) (fu qu (n + 1) qn) := by
    refine ⟨rfl, by omega, fun s hs => ?_⟩
    show upd p.2.1 (n + 1) T s = _ ∧ upd p.2.2.2.1 (n + 1) (nI qn) s = _ ∧ _
    by_cases e : s = n + 1
    · rw [e, pk_us, pk_us, fu_s, fu_s]
      exact ⟨rfl, rfl, hq⟩
    · rw [pk_un e, pk_un e, fu_n e, fu_n e]
      exact hP s hs
  have hX : ∀ (k : TK) (r : TR) (l s : TL) (h : TA) (post : Int32 → St1 → Prop), ((nI qn < 1 → wX_publish_167 post (nI c) (nI qn) (nI (n + 1)) 0 ((nI (n + 1), upd p.2.1 (n + 1) T, upd p.2.2.1 (n + 1) P, upd p.2.2.2.1 (n + 1) (nI qn), upd p.2.2.2.2 (n + 1) Z).1) r.1 ((nI (n + 1), upd p.2.1 (n + 1) T, upd p.2.2.1 (n + 1) P, upd p.2.2.2.1 (n + 1) (nI qn), upd p.2.2.2.2 (n + 1) Z).2.1) ((nI (n + 1), upd p.2.1 (n + 1) T, upd p.2.2.1 (n + 1) P, upd p.2.2.2.1 (n + 1) (nI qn), upd p.2.2.2.2 (n + 1) Z).2.2.1) ((nI (n + 1), upd p.2.1 (n + 1) T, upd p.2.2.1 (n + 1) P, upd p.2.2.2.1 (n + 1) (nI qn), upd p.2.2.2.2 (n + 1) Z).2.2.2.1) ((nI (n + 1), upd p.2.1 (n + 1) T, upd p.2.2.1 (n + 1) P, upd p.2.2.2.1 (n + 1) (nI qn), upd p.2.2.2.2 (n + 1) Z).2.2.2.2) k.1 k.2.1 k.2.2.1 k.2.2.2 r.2.1 r.2.2 l.1 l.2.1 l.2.2 s.1 s.2.1 s.2.2 o.1 o.2.1 o.2.2.1 o.2.2.2.1 o.2.2.2.2.1 o.2.2.2.2.2 h w.1 w.2.1 w.2.2.1 w.2.2.2.1 w.2.2.2.2.1 w.2.2.2.2.2.1 w.2.2.2.2.2.2) ∧ (¬ nI qn < 1 → wpX_appendEntry (fun i u => match u with | (f1, f2, a1, a2, a3, a4, a5, a6, a7, a8, a9, a10, a11, a12, a13, a14, a15, a16, a17, a18, a19, a20, a21, a22, a23, a24, a25, a26, a27, a28, a29, a30) => wX_publish_167 post (nI c) (nI qn) (nI (n + 1)) i f1 f2 a1 a2 a3 a4 a5 a6 a7 a8 a9 a10 a11 a12 a13 a14 a15 a16 a17 a18 a19 a20 a21 a22 a23 a24 a25 a26 a27 a28 a29 a30) (XS (nI (n + 1), upd p.2.1 (n + 1) T, upd p.2.2.1 (n + 1) P, upd p.2.2.2.1 (n + 1) (nI qn), upd p.2.2.2.2 (n + 1) Z) k r l s o h w) (nI c) (nI (n + 1)) (nI qn) 0)) → wX_publish_86 post (nI c) T P F (nI qn) p.1 r.1 p.2.1 p.2.2.1 p.2.2.2.1 p.2.2.2.2 k.1 k.2.1 k.2.2.1 k.2.2.2 r.2.1 r.2.2 l.1 l.2.1 l.2.2 s.1 s.2.1 s.2.2 o.1 o.2.1 o.2.2.1 o.2.2.2.1 o.2.2.2.2.1 o.2.2.2.2.2 h w.1 w.2.1 w.2.2.1 w.2.2.2.1 w.2.2.2.2.1 w.2.2.2.2.2.1 w.2.2.2.2.2.2 := by
    intro k r l s h post hp
    have h145 : wX_publish_145 post (nI c) (nI qn) (nI (n + 1)) Z (nI (n + 1)) (nI (n + 1)) r.1 (upd p.2.1 (n + 1) T) (upd p.2.2.1 (n + 1) P) (upd p.2.2.2.1 (n + 1) (nI qn)) p.2.2.2.2 k.1 k.2.1 k.2.2.1 k.2.2.2 r.2.1 r.2.2 l.1 l.2.1 l.2.2 s.1 s.2.1 s.2.2 o.1 o.2.1 o.2.2.1 o.2.2.2.1 o.2.2.2.2.1 o.2.2.2.2.2 h w.1 w.2.1 w.2.2.1 w.2.2.2.1 w.2.2.2.2.1 w.2.2.2.2.2.1 w.2.2.2.2.2.2 := ⟨i25, nm_r (by rw [cs, pn_b hZ1]) hp⟩
    refine nm_r en ⟨i25, nm_r (by rw [cs]) ⟨i25, nm_r (by rw [cs]) ⟨i25, nm_r (by rw [cs]) ?_⟩⟩⟩
    rcases hZ2 with ⟨h4, rfl⟩ | ⟨h4, rfl⟩
    · exact br_t h4 h145
    · exact br_f h4 h145
  by_cases q0 : qn = 0
  · subst q0
    obtain ⟨w', a1, a2⟩ := pq_put HW (x := c) (by omega) hl (t := (1, 0, n + 1, 0, 0)) ⟨Nat.le_refl 1, (by decide : 1 ≤ 5), Nat.zero_le _, fun _ => ⟨by show 1 ≤ n + 1; omega, by show n + 1 ≤ 24; omega⟩, by show n + 1 ≤ 24; omega, Nat.zero_le _, Nat.zero_le _, fun _ => Or.inl rfl, fun z => absurd rfl z⟩
    exact ⟨_, o, w', O c, _, Or.inl ⟨rfl, rfl, rfl⟩, HP', by rw [fu_id]; exact HO, a1, fun k r l s h post hp => hX k r l s h post (br_t (by decide) (a2 _ k r l s o h _ hp))⟩
  · obtain ⟨o', i, i1, i2, i3, c1, c2⟩ := pq_add HO (x := c) (by omega) (by have := hf q0; omega) (show 1 ≤ n + 1 by omega) (show n + 1 ≤ 24 by omega) (show 1 ≤ qn by omega) hq (show (0 : Nat) ≤ 1 by omega)
    obtain ⟨w', a1, a2⟩ := pq_put HW (x := c) (by omega) hl (t := (1, i, n + 1, qn, 0)) ⟨Nat.le_refl 1, (by decide : 1 ≤ 5), i2, fun _ => ⟨by show 1 ≤ n + 1; omega, by show n + 1 ≤ 24; omega⟩, by show n + 1 ≤ 24; omega, hq, Nat.zero_le _, fun _ => Or.inr i1, fun z => absurd rfl z⟩
    exact ⟨_, o', w', _, _, Or.inr ⟨by omega, hf q0, i, i1, i2, i3, rfl, rfl⟩, HP', c1, a1, fun k r l s h post hp => hX k r l s h post (br_f (nI_nlt (b := 1) (by omega) (by omega)) (c2 _ k r l s h w _ (a2 _ k r l s o' h _ hp)))⟩
/-- publish: refused with nothing changed, or a new serial -/
theorem pq_publish {p : TP} {l : TL} {o : TO} {w : TW} {n : Nat} {tp : Nat → Int32} {qu : Nat → Nat} {up se pe : Nat → Bool} {O W : Nat → List N5} (HP : pc_P p n tp qu) (HL : pc_L l up se pe) (HO : pc_O o O) (HW : pc_W w W) {c qn : Nat} (hc : c < 4) {T P F : Int32} (hF : F &&& 3 = nI qn) (hq : qn ≤ 2) (hl : (W c).length < 32) (h4 : (O c).length ≤ 4) :
    (∃ R : Int32, R < 0 ∧ ∀ (k : TK) (r : TR) (s : TL) (h : TA) (post : Int32 → St1 → Prop), post R (XS p k r l s o h w) → wpX_publish post (XS p k r l s o h w) (nI c) T P F)
    ∨ (n < 24 ∧ up c = true ∧ ∃ (p' : TP) (o' : TO) (w' : TW) (O' W' : List N5), PBL n qn (O c) (W c) O' W' ∧ pc_P p' (n + 1) (fu tp (n + 1) T) (fu qu (n + 1) qn) ∧ pc_O o' (fu O c O') ∧ pc_W w' (fu W c W')
      ∧ ∀ (k : TK) (r : TR) (s : TL) (h : TA) (post : Int32 → St1 → Prop), post (nI (n + 1)) (XS p' k r l s o' h w') → wpX_publish post (XS p k r l s o h w) (nI c) T P F) := by
  have cc : (nI c).toNatClampNeg = c := nI_clamp (by omega)
  have i4 : vp_in (nI c) 4 := vp_in_nI hc (by omega)
  have x0 : vp_in (nI c) 8 := vp_in_nI (by omega) (by omega)
  have q3 : ¬ nI qn = 3 := by
    intro z
    have := (nI_eq (b := 3) (by omega) (by omega)).mp z
    omega
  obtain ⟨a1, a2, a3, a4⟩ := HO.1 c (by omega)
  cases hu : up c with
  | false =>
    refine Or.inl ⟨-2, by decide, fun k r s h post hp => ?_⟩
    unfold wpX_publish
    exact px_cl hc (br_f (by decide) ⟨i4, br_t (by rw [cc, (HL c hc).1, hu]; rfl) hp⟩)
  | true =>
    have hl' : ¬ l.1 (nI c).toNatClampNeg = 0 := by rw [cc, (HL c hc).1, hu]; decide
    obtain ⟨R, hR, tX⟩ := px_tp T ()
    rcases hR with rfl | rfl
    · refine Or.inl ⟨-3, by decide, fun k r s h post hp => ?_⟩
      unfold wpX_publish
      exact px_cl hc (br_f (by decide) ⟨i4, br_f hl' (nm_e (tX _ (br_t rfl hp)))⟩)
    · by_cases f0 : F < 0
      · refine Or.inl ⟨-3, by decide, fun k r s h post hp => ?_⟩
        unfold wpX_publish
        exact px_cl hc (br_f (by decide) ⟨i4, br_f hl' (nm_e (tX _ (br_f (by decide) (br_t f0 hp))))⟩)
      · by_cases f6 : 6 < F
        · refine Or.inl ⟨-3, by decide, fun k r s h post hp => ?_⟩
          unfold wpX_publish
          exact px_cl hc (br_f (by decide) ⟨i4, br_f hl' (nm_e (tX _ (br_f (by decide) (br_f f0 (br_t f6 hp)))))⟩)
        · by_cases n24 : n = 24
          · refine Or.inl ⟨-4, by decide, fun k r s h post hp => ?_⟩
            unfold wpX_publish
            exact px_cl hc (br_f (by decide) ⟨i4, br_f hl' (nm_r hF (tX _ (br_f (by decide) (br_f f0 (br_f f6 (br_f q3 (br_t (by rw [HP.1, n24]; rfl) hp)))))))⟩)
          · have hnn : n < 24 := by have := HP.2.1; omega
            have hx : ¬ p.1 = 24 := by
              rw [HP.1]
              intro x
              have := (nI_eq (b := 24) (by omega) (by omega)).mp x
              omega
            by_cases hcap : ¬ qn = 0 ∧ (O c).length = 4
            · refine Or.inl ⟨-5, by decide, fun k r s h post hp => ?_⟩
              unfold wpX_publish
              exact px_cl hc (br_f (by decide) ⟨i4, br_f hl' (nm_r hF (tX _ (br_f (by decide) (br_f f0 (br_f f6 (br_f q3 (br_f hx (br_f (nI_nlt (b := 1) (by omega) (by omega)) ⟨x0, br_t (by rw [cc, a3, hcap.2]; rfl) hp⟩))))))))⟩)
            · obtain ⟨p', o', w', O', W', b1, b2, b3, b4, b5⟩ := pq_p86 HP HO HW (T := T) (P := P) (F := F) hc hnn hq (fun z => by
                have h1 : (O c).length ≠ 4 := fun y => hcap ⟨z, y⟩
                omega) hl
              refine Or.inr ⟨hnn, rfl, p', o', w', O', W', b1, b2, b3, b4, fun k r s h post hp => ?_⟩
              have h86 := b5 k r l s h post hp
              unfold wpX_publish
              refine px_cl hc (br_f (by decide) ⟨i4, br_f hl' (nm_r hF (tX _ (br_f (by decide) (br_f f0 (br_f f6 (br_f q3 (br_f hx (br_c (fun _ => h86) fun hq1 => ⟨x0, br_f ?_ h86⟩))))))))⟩)
              rw [cc, a3]
              intro x
              have h4 := (nI_eq (b := 4) (by omega) (by omega)).mp x
              refine hcap ⟨fun z => hq1 ?_, h4⟩
              rw [z]
              decide
end Q14
end
section
section Q15
/-- some marked SENDs, one behind the other -/
def MSN (up : Bool) : Nat → List N5 → List N5 → Nat → List N5 → List N5 → Nat → Prop
  | 0, O, W, v, O', W', v' => O' = O ∧ W' = W ∧ v' = v
  | m + 1, O, W, v, O', W', v' => ∃ (O1 W1 : List N5) (v1 s e : Nat), 1 ≤ s ∧ s ≤ 24 ∧ e ≤ 2 ∧ SND up s e 1 O W v O1 W1 v1 ∧ MSN up m O1 W1 v1 O' W' v'
theorem fu_fu {α : Type} (f : Nat → α) (x : Nat) (a b : α) : fu (fu f x a) x b = fu f x b := by
  funext y
  by_cases h : y = x
  · rw [h, fu_s, fu_s]
  · rw [fu_n h, fu_n h, fu_n h]
theorem SND_len {up : Bool} {s e m : Nat} {O W : List N5} {v : Nat} {O' W' : List N5} {v' : Nat} (h : SND up s e m O W v O' W' v') : W'.length ≤ W.length + 1 := by
  rcases h with ⟨_, _, _, h⟩ | ⟨_, _, _, h, _⟩ | ⟨_, _, i, _, _, _, _, h⟩ <;> rw [h]
  · cases up
    · simp
    · simp
  · omega
  · cases up
    · simp
    · simp
theorem pq_sr {p : TP} {l s : TL} {r : TR} {n mr : Nat} {tp : Nat → Int32} {qu : Nat → Nat} {up se pe : Nat → Bool} (HP : pc_P p n tp qu) (HL : pc_L l up se pe) (m8 : mr ≤ 8) (hm : r.1 = nI mr) (hr : ∀ i, i < mr → ∃ s, 1 ≤ s ∧ s ≤ 24 ∧ r.2.2 i = nI s) {c qn : Nat} (hc : c < 4) (F : Int32) (hq : qn ≤ 2) :
    ∀ d i, i + d = mr → ∀ (cn : Nat) (k : TK) (o : TO) (w : TW) (O W : Nat → List N5) (rc : Nat → Nat → Nat) (ac ov : Nat → Nat), cn ≤ i → pc_O o O → pc_W w W → pc_K k rc ac ov → (W (4 + c)).length + d ≤ 32 → ∃ (N mm : Nat) (k' : TK) (o' : TO) (w' : TW) (O' W' : List N5) (v' : Nat), N ≤ 8 ∧ mm ≤ d ∧ MSN (up c) mm (O (4 + c)) (W (4 + c)) (ov c) O' W' v' ∧ pc_O o' (fu O (4 + c) O') ∧ pc_W w' (fu W (4 + c) W') ∧ pc_K k' rc ac (fu ov c v')
      ∧ (∀ (h : TA) (post : Int32 → St1 → Prop), post (nI N) (XS p k' r l s o' h w') → wX_sendRetained_6 post (nI c) F (nI qn) (d + 1) (nI cn) (nI i) p.1 r.1 p.2.1 p.2.2.1 p.2.2.2.1 p.2.2.2.2 k.1 k.2.1 k.2.2.1 k.2.2.2 r.2.1 r.2.2 l.1 l.2.1 l.2.2 s.1 s.2.1 s.2.2 o.1 o.2.1 o.2.2.1 o.2.2.2.1 o.2.2.2.2.1 o.2.2.2.2.2 h w.1 w.2.1 w.2.2.1 w.2.2.2.1 w.2.2.2.2.1 w.2.2.2.2.2.1 w.2.2.2.2.2.2) := by
  intro d
  induction d with
  | zero =>
    intro i hi cn k o w O W rc ac ov hcn HO HW HK hl
    exact ⟨cn, 0, k, o, w, O (4 + c), W (4 + c), ov c, by omega, Nat.le_refl 0, ⟨rfl, rfl, rfl⟩, by rw [fu_id]; exact HO, by rw [fu_id]; exact HW, by rw [fu_id]; exact HK, fun h post hp => br_t (by rw [hm]; exact nI_le (by omega) (by omega)) hp⟩
  | succ d ih =>
    intro i hi cn k o w O W rc ac ov hcn HO HW HK hl
    have hX : ¬ r.1 ≤ nI i := by rw [hm]; exact nI_ge (by omega) (by omega)
    have i8 : vp_in (nI i) 8 := vp_in_nI (by omega) (by omega)
    have ci : (nI i).toNatClampNeg = i := nI_clamp (by omega)
    cases hma : ma F (r.2.1 (nI i).toNatClampNeg) with
    | false =>
      obtain ⟨N, mm, k', o', w', O', W', v', c1, c2, c3, c4, c5, c6, c7⟩ := ih (i + 1) (by omega) cn k o w O W rc ac ov (by omega) HO HW HK (by omega)
      exact ⟨N, mm, k', o', w', O', W', v', c1, by omega, c3, c4, c5, c6, fun h post hp => br_f hX ⟨i8, px_ma (by rw [hma]; exact br_t rfl (nm_r (nI_1 _) (c7 h post hp)))⟩⟩
    | true =>
      obtain ⟨sn, s1, s2, hsn⟩ := hr i (by omega)
      have cs : (nI sn).toNatClampNeg = sn := nI_clamp (by omega)
      have i25 : vp_in (nI sn) 25 := vp_in_nI (by omega) (by omega)
      obtain ⟨_, hqu, hq2⟩ := HP.2.2 sn s2
      have vQ : p.2.2.2.1 (nI sn).toNatClampNeg = nI (qu sn) := by rw [cs]; exact hqu
      have hqn : (if qn ≤ qu sn then qn else qu sn) ≤ 2 := by split <;> omega
      obtain ⟨k1, o1, w1, O1, W1, v1, t1, t2, t3, t4, t5⟩ := pq_send HO HW HK HL hc s1 s2 hqn (show (1 : Nat) ≤ 1 by omega) (by omega)
      have hlen := SND_len t1
      obtain ⟨N, mm, k', o', w', O', W', v', c1, c2, c3, c4, c5, c6, c7⟩ := ih (i + 1) (by omega) (cn + 1) k1 o1 w1 (fu O (4 + c) O1) (fu W (4 + c) W1) rc ac (fu ov c v1) (by omega) t2 t3 t4 (by rw [fu_s]; omega)
      rw [fu_s, fu_s, fu_s] at c3
      rw [fu_fu] at c4 c5 c6
      refine ⟨N, mm + 1, k', o', w', O', W', v', c1, by omega, ⟨O1, W1, v1, sn, _, s1, s2, hqn, t1, c3⟩, c4, c5, c6, fun h post hp => br_f hX ⟨i8, px_ma ?_⟩⟩
      rw [hma]
      refine br_f (by decide) ⟨i8, nm_r (e' := nI sn) (by rw [ci, hsn]) ⟨i25, ?_⟩⟩
      rw [vQ]
      have t5' := t5
      by_cases hle : qn ≤ qu sn
      · rw [if_pos hle] at t5'
        exact br_t (nI_le hle (by omega)) (t5' p r s h _ (nm_r (nI_1 _) (nm_r (nI_1 _) (c7 h post hp))))
      · rw [if_neg hle] at t5'
        exact br_f (nI_ge (by omega) (by omega)) (t5' p r s h _ (nm_r (nI_1 _) (nm_r (nI_1 _) (c7 h post hp))))
theorem pc_S_set {s : TL} {S : Nat → List (Int32 × Nat)} (HS : pc_S s S) {c j qn : Nat} {f : Int32 × Nat} (hc : c < 4) (hf : (S c)[j]? = some f) (hq : qn ≤ 2) : pc_S (s.1, s.2.1, upd s.2.2 (c * 4 + j) (nI qn)) (fu S c ((S c).set j (f.1, qn))) := by
  have hj := ls_lt hf
  intro c' hc'
  by_cases e : c' = c
  · subst e
    obtain ⟨a1, a2, a3, a4⟩ := HS c' hc'
    rw [fu_s]
    refine ⟨by rw [List.length_set]; exact a1, fun g hg => ?_, by rw [List.length_set]; exact a3, fun i g hi => ?_⟩
    · rcases List.mem_or_eq_of_mem_set hg with h | h
      · exact a2 g h
      · rw [h]; exact hq
    · rw [List.getElem?_set] at hi
      show s.2.1 (c' * 4 + i) = _ ∧ upd s.2.2 (c' * 4 + j) (nI qn) (c' * 4 + i) = _
      by_cases hij : j = i
      · subst hij
        rw [if_pos rfl, if_pos hj] at hi
        rw [← Option.some.inj hi, pk_us]
        exact ⟨(a4 j f hf).1, rfl⟩
      · rw [if_neg hij] at hi
        rw [pk_un (by omega)]
        exact a4 i g hi
  · rw [fu_n e]
    obtain ⟨a1, a2, a3, a4⟩ := HS c' hc'
    refine ⟨a1, a2, a3, fun i g hi => ?_⟩
    have := ls_lt hi
    have hjl := (HS c hc).1
    show s.2.1 (c' * 4 + i) = _ ∧ upd s.2.2 (c * 4 + j) (nI qn) (c' * 4 + i) = _
    rw [pk_un (by omega)]
    exact a4 i g hi
theorem pc_S_new {s : TL} {S : Nat → List (Int32 × Nat)} (HS : pc_S s S) {c qn : Nat} {F : Int32} (hc : c < 4) (hl : (S c).length < 4) (hq : qn ≤ 2) : pc_S (upd s.1 c (nI ((S c).length + 1)), upd s.2.1 (c * 4 + (S c).length) F, upd s.2.2 (c * 4 + (S c).length) (nI qn)) (fu S c (S c ++ [(F, qn)])) := by
  intro c' hc'
  by_cases e : c' = c
  · subst e
    obtain ⟨a1, a2, a3, a4⟩ := HS c' hc'
    rw [fu_s]
    refine ⟨by rw [List.length_append, List.length_singleton]; omega, fun g hg => ?_, by rw [List.length_append, List.length_singleton]; exact pk_us, fun i g hi => ?_⟩
    · rcases List.mem_append.mp hg with h | h
      · exact a2 g h
      · rw [List.mem_singleton.mp h]; exact hq
    · show upd s.2.1 (c' * 4 + (S c').length) F (c' * 4 + i) = _ ∧ upd s.2.2 (c' * 4 + (S c').length) (nI qn) (c' * 4 + i) = _
      rcases ls_app hi with ⟨h1, h2⟩ | ⟨h1, h2⟩
      · rw [pk_un (by omega), pk_un (by omega)]
        exact a4 i g h2
      · rw [h1, pk_us, pk_us, h2]
        exact ⟨rfl, rfl⟩
  · rw [fu_n e]
    obtain ⟨a1, a2, a3, a4⟩ := HS c' hc'
    refine ⟨a1, a2, (pk_un e).trans a3, fun i g hi => ?_⟩
    have := ls_lt hi
    show upd s.2.1 (c * 4 + (S c).length) F (c' * 4 + i) = _ ∧ upd s.2.2 (c * 4 + (S c).length) (nI qn) (c' * 4 + i) = _
    rw [pk_un (by omega), pk_un (by omega)]
    exact a4 i g hi
theorem pq_subscribe {p : TP} {l s : TL} {k : TK} {r : TR} {o : TO} {w : TW} {n : Nat} {tp : Nat → Int32} {qu : Nat → Nat} {up se pe : Nat → Bool} {S : Nat → List (Int32 × Nat)} {O W : Nat → List N5} {rc : Nat → Nat → Nat} {ac ov : Nat → Nat} (HP : pc_P p n tp qu) (HL : pc_L l up se pe) (HS : pc_S s S) (HR : pc_R r) (HO : pc_O o O) (HW : pc_W w W) (HK : pc_K k rc ac ov) {c : Nat} (hc : c < 4) (F Q : Int32) (hl : (W (4 + c)).length ≤ 24) :
    (∃ R : Int32, R < 0 ∧ ∀ (h : TA) (post : Int32 → St1 → Prop), post R (XS p k r l s o h w) → wpX_subscribe post (XS p k r l s o h w) (nI c) F Q)
    ∨ (up c = true ∧ ∃ (qn N mm : Nat) (k' : TK) (s' : TL) (o' : TO) (w' : TW) (L' : List (Int32 × Nat)) (O' W' : List N5) (v' : Nat), qn ≤ 2 ∧ Q = nI qn ∧ N ≤ 8 ∧ mm ≤ 8 ∧ pc_S s' (fu S c L') ∧ (∀ f, f ∈ L' → f ∈ S c ∨ f = (F, qn)) ∧ MSN (up c) mm (O (4 + c)) (W (4 + c)) (ov c) O' W' v' ∧ pc_O o' (fu O (4 + c) O') ∧ pc_W w' (fu W (4 + c) W') ∧ pc_K k' rc ac (fu ov c v')
      ∧ ∀ (h : TA) (post : Int32 → St1 → Prop), post (nI N) (XS p k' r l s' o' h w') → wpX_subscribe post (XS p k r l s o h w) (nI c) F Q) := by
  have cc : (nI c).toNatClampNeg = c := nI_clamp (by omega)
  have i4 : vp_in (nI c) 4 := vp_in_nI hc (by omega)
  cases hu : up c with
  | false =>
    refine Or.inl ⟨-2, by decide, fun h post hp => ?_⟩
    unfold wpX_subscribe
    exact px_cl hc (br_f (by decide) ⟨i4, br_t (by rw [cc, (HL c hc).1, hu]; rfl) hp⟩)
  | true =>
    have hl' : ¬ l.1 (nI c).toNatClampNeg = 0 := by rw [cc, (HL c hc).1, hu]; decide
    obtain ⟨A, hA, aX⟩ := px_fi F ()
    by_cases hA0 : A = 0
    · refine Or.inl ⟨-3, by decide, fun h post hp => ?_⟩
      unfold wpX_subscribe
      exact px_cl hc (br_f (by decide) ⟨i4, br_f hl' (aX _ (br_t hA0 hp))⟩)
    · by_cases q0 : Q < 0
      · refine Or.inl ⟨-3, by decide, fun h post hp => ?_⟩
        unfold wpX_subscribe
        exact px_cl hc (br_f (by decide) ⟨i4, br_f hl' (aX _ (br_f hA0 (br_t q0 hp)))⟩)
      · by_cases q2 : Q ≤ 2
        · obtain ⟨qn, hqn, rfl⟩ := nI_of2 (M := 2) (n := 2) (by decide) q0 q2
          obtain ⟨mr, m8, hm, hr⟩ := HR
          obtain ⟨a1, a2, a3, a4⟩ := HS c hc
          obtain ⟨R, fX, hR⟩ := pq_fs HS hc F
          rcases hR with ⟨rfl, hno⟩ | ⟨j, f, rfl, hj, hf, hfF⟩
          · by_cases h4 : (S c).length = 4
            · refine Or.inl ⟨-5, by decide, fun h post hp => ?_⟩
              unfold wpX_subscribe
              exact px_cl hc (br_f (by decide) ⟨i4, br_f hl' (aX _ (br_f hA0 (br_f q0 (br_t q2 (fX p k r l o h w _ (br_f (by decide) ⟨i4, br_t (by rw [cc, a3, h4]; rfl) hp⟩))))))⟩)
            · have hs4 : ¬ s.1 (nI c).toNatClampNeg = 4 := by
                rw [cc, a3]
                intro z
                exact h4 ((nI_eq (b := 4) (by omega) (by omega)).mp z)
              have eX : nI c * 4 + s.1 (nI c).toNatClampNeg = nI (c * 4 + (S c).length) := by rw [cc, a3, pn_m4, nI_add]
              have cn : (nI (c * 4 + (S c).length)).toNatClampNeg = c * 4 + (S c).length := nI_clamp (by omega)
              have i16 : vp_in (nI (c * 4 + (S c).length)) 16 := vp_in_nI (by omega) (by omega)
              obtain ⟨N, mm, k', o', w', O', W', v', c1, c2, c3, c4, c5, c6, c7⟩ := pq_sr HP HL m8 hm hr hc F hqn mr 0 (by omega) 0 k o w O W rc ac ov (Nat.le_refl 0) HO HW HK (by omega)
              rw [hu] at c3
              refine Or.inr ⟨rfl, qn, N, mm, k', _, o', w', _, O', W', v', hqn, rfl, c1, by omega, pc_S_new HS (F := F) hc (by omega) hqn, fun g hg => ?_, c3, c4, c5, c6, fun h post hp => ?_⟩
              · rcases List.mem_append.mp hg with h | h
                · exact Or.inl h
                · exact Or.inr (List.mem_singleton.mp h)
              · unfold wpX_subscribe
                exact px_cl hc (br_f (by decide) ⟨i4, br_f hl' (aX _ (br_f hA0 (br_f q0 (br_t q2 (fX p k r l o h w _ (br_f (by decide) ⟨i4, br_f hs4 ⟨i4, nm_r eX ⟨i16, nm_r (e' := upd s.2.1 (c * 4 + (S c).length) F) (by rw [cn]) ⟨i4, i4, nm_r (e' := upd s.1 c (nI ((S c).length + 1))) (by rw [cc, a3, nI_1]) ⟨i16, nm_r (e' := upd s.2.2 (c * 4 + (S c).length) (nI qn)) (by rw [cn]) ⟨mr + 1, c7 h post hp⟩⟩⟩⟩⟩⟩))))))⟩)
          · obtain ⟨N, mm, k', o', w', O', W', v', c1, c2, c3, c4, c5, c6, c7⟩ := pq_sr HP HL m8 hm hr hc F hqn mr 0 (by omega) 0 k o w O W rc ac ov (Nat.le_refl 0) HO HW HK (by omega)
            rw [hu] at c3
            refine Or.inr ⟨rfl, qn, N, mm, k', _, o', w', _, O', W', v', hqn, rfl, c1, by omega, pc_S_set HS hc hf hqn, fun g hg => ?_, c3, c4, c5, c6, fun h post hp => ?_⟩
            · rcases List.mem_or_eq_of_mem_set hg with h | h
              · exact Or.inl h
              · rw [hfF] at h
                exact Or.inr h
            · unfold wpX_subscribe
              exact px_cl hc (br_f (by decide) ⟨i4, br_f hl' (aX _ (br_f hA0 (br_f q0 (br_t q2 (fX p k r l o h w _ (br_t (nI_pos' (by omega)) ⟨vp_in_nI (by omega) (by omega), nm_r (e' := upd s.2.2 (c * 4 + j) (nI qn)) (by rw [nI_clamp (by omega)]) ⟨mr + 1, c7 h post hp⟩⟩))))))⟩)
        · refine Or.inl ⟨-3, by decide, fun h post hp => ?_⟩
          unfold wpX_subscribe
          exact px_cl hc (br_f (by decide) ⟨i4, br_f hl' (aX _ (br_f hA0 (br_f q0 (br_f q2 hp))))⟩)
end Q15
end
section
section Q16
theorem isB_1 {i a b c d : Nat} : isB i (1, a, b, c, d) = false := isB_k (fun z => absurd z (by decide : ¬ (1 : Nat) = 2)) (fun z => absurd z (by decide : ¬ (1 : Nat) = 3)) (fun z => absurd z (by decide : ¬ (1 : Nat) = 5))
theorem isB_4 {i a b c d : Nat} : isB i (4, a, b, c, d) = false := isB_k (fun z => absurd z (by decide : ¬ (4 : Nat) = 2)) (fun z => absurd z (by decide : ¬ (4 : Nat) = 3)) (fun z => absurd z (by decide : ¬ (4 : Nat) = 5))
theorem isF_2 {i a b c d : Nat} : isF i (2, a, b, c, d) = false := isF_k (fun z => absurd z (by decide : ¬ (2 : Nat) = 1)) (fun z => absurd z (by decide : ¬ (2 : Nat) = 4))
theorem isF_3 {i a b c d : Nat} : isF i (3, a, b, c, d) = false := isF_k (fun z => absurd z (by decide : ¬ (3 : Nat) = 1)) (fun z => absurd z (by decide : ¬ (3 : Nat) = 4))
theorem isF_5 {i a b c d : Nat} : isF i (5, a, b, c, d) = false := isF_k (fun z => absurd z (by decide : ¬ (5 : Nat) = 1)) (fun z => absurd z (by decide : ¬ (5 : Nat) = 4))
theorem isF_0 {k b c d i : Nat} (hi : 1 ≤ i) : isF i (k, 0, b, c, d) = false := isF_ne (fun z => by have z' : 0 = i := z; omega)
/-! what holds of the protocol -/
def tkA (ac : Nat → Nat) (e : N5) : Prop := 1 ≤ ac e.1
def tkR (rc : Nat → Nat → Nat) (c : Nat) (e : N5) : Prop := e.2.2.2.1 = 0 → 1 ≤ rc c e.1
/-- serial s goes to client d once at most -/
def XO (O W : List N5) (H : Nat → Bool) (r s : Nat) : Prop := r ≤ 1 ∧ (∀ e, e ∈ O → e.1 = s → e.2.2.2.1 = 0 → e.2.1 = 2 ∧ (e.2.2.2.2 = 1 → H e.2.2.1 = false → r = 0)) ∧ (∀ e e', e ∈ O → e' ∈ O → e.1 = s → e'.1 = s → e.2.2.2.1 = 0 → e'.2.2.2.1 = 0 → e = e') ∧ ∀ t, t ∈ W → t.1 = 1 → t.2.2.1 = s → t.2.2.2.2 = 0 → t.2.2.2.1 ≠ 0
/-- serial s hasn't been accepted: nothing of it, but marked, is at client d -/
def NS (O W : List N5) (r s : Nat) : Prop := r = 0 ∧ (∀ e, e ∈ O → e.1 = s → e.2.2.2.1 = 1) ∧ ∀ t, t ∈ W → t.1 = 1 → t.2.2.1 = s → t.2.2.2.2 = 1
theorem XO_0 {O W : List N5} {H : Nat → Bool} {r s : Nat} (h : NS O W r s) : XO O W H r s := by
  obtain ⟨h1, h2, h3⟩ := h
  refine ⟨by omega, fun e he hs hm => ?_, fun e e' he he' hs hs' hm hm' => ?_, fun t ht hk hs hm => ?_⟩
  · have := h2 e he hs; omega
  · have := h2 e he hs; omega
  · have := h3 t ht hk hs; omega
def PINV (O W : Nat → List N5) (H : Nat → Nat → Bool) (up pe : Nat → Bool) (S : Nat → List (Int32 × Nat)) (rc : Nat → Nat → Nat) (ac : Nat → Nat) (n : Nat) (qu : Nat → Nat) (am : Nat → Nat → Bool) (nq : Nat → Bool) : Prop :=
  (∀ c, c < 4 → TOK (O c) (W c) (W (4 + c)) (H (4 + c)) (up c) (tkA ac))
  ∧ (∀ c, c < 4 → TOK (O (4 + c)) (W (4 + c)) (W c) (H c) (up c) (tkR rc c))
  ∧ (∀ c, c < 4 → up c = false → W c = [] ∧ W (4 + c) = [])
  ∧ (∀ c, c < 4 → (O c).length ≤ 4 ∧ ∀ e, e ∈ O c → e.1 ≤ n ∧ e.2.1 = qu e.1 ∧ e.2.2.2.1 = 0)
  ∧ (∀ c, c < 4 → ∀ t, t ∈ W c → t.1 = 1 → t.2.2.1 ≤ n ∧ t.2.2.2.1 = qu t.2.2.1)
  ∧ (∀ c c', c < 4 → c' < 4 → ∀ e e', e ∈ O c → e' ∈ O c' → e.1 = e'.1 → c = c' ∧ e = e')
  ∧ (∀ s, qu s = 2 → ac s ≤ 1)
  ∧ (∀ c, c < 4 → ∀ e, e ∈ O c → e.2.1 = 2 → e.2.2.2.2 = 1 → H (4 + c) e.2.2.1 = false → ac e.1 = 0)
  ∧ (∀ s, n < s → ac s = 0)
  ∧ (∀ d s, d < 4 → ac s = 0 → NS (O (4 + d)) (W (4 + d)) (rc d s) s)
  ∧ (∀ d s, d < 4 → qu s = 2 → (nq d = false ∨ am d s = true) → XO (O (4 + d)) (W (4 + d)) (H d) (rc d s) s)
  ∧ (∀ d, d < 4 → nq d = false → ∀ f, f ∈ S d → f.2 = 2)
  ∧ (∀ d s, d < 4 → am d s = true → pe d = true ∧ 1 ≤ ac s ∧ 1 ≤ qu s ∧ (1 ≤ rc d s ∨ ∃ e, e ∈ O (4 + d) ∧ e.1 = s ∧ e.2.2.2.1 = 0))
/-- arming and the record of subscriptions may be weakened -/
theorem PINV_am {O W : Nat → List N5} {H : Nat → Nat → Bool} {up pe : Nat → Bool} {S : Nat → List (Int32 × Nat)} {rc : Nat → Nat → Nat} {ac : Nat → Nat} {n : Nat} {qu : Nat → Nat} {am am' : Nat → Nat → Bool} {nq nq' : Nat → Bool} (I : PINV O W H up pe S rc ac n qu am nq) (h : ∀ d s, d < 4 → am' d s = true → am d s = true) (h2 : ∀ d, d < 4 → nq' d = false → nq d = false) : PINV O W H up pe S rc ac n qu am' nq' := by
  obtain ⟨i1, i2, i3, i4, i5, i6, i7, i8, i9, i10, i11, i12, i13⟩ := I
  exact ⟨i1, i2, i3, i4, i5, i6, i7, i8, i9, i10, fun d s hd hq hx => i11 d s hd hq (hx.elim (fun z => Or.inl (h2 d hd z)) (fun z => Or.inr (h d s hd z))), fun d hd hn => i12 d hd (h2 d hd hn), fun d s hd ha => i13 d s hd (h d s hd ha)⟩
theorem NS_eq {O O' W W' : List N5} {r r' s : Nat} (h : NS O W r s) (hO : ∀ e, e ∈ O' → e.2.2.2.1 = 0 → e.1 = s → e ∈ O) (hO1 : ∀ e, e ∈ O' → e.2.2.2.1 ≤ 1) (hW : ∀ t, t ∈ W' → t.1 = 1 → t.2.2.2.2 = 0 → t.2.2.1 = s → t ∈ W) (hW1 : ∀ t, t ∈ W' → t.2.2.2.2 ≤ 1) (hr : r' = r) : NS O' W' r' s := by
  obtain ⟨h1, h2, h3⟩ := h
  refine ⟨by rw [hr]; exact h1, fun e he hs => ?_, fun t ht hk hs => ?_⟩
  · have := hO1 e he
    apply Classical.byContradiction
    intro hx
    have hm : e.2.2.2.1 = 0 := by omega
    exact hx (h2 e (hO e he hm hs) hs)
  · have := hW1 t ht
    apply Classical.byContradiction
    intro hx
    have hm : t.2.2.2.2 = 0 := by omega
    exact hx (h3 t (hW t ht hk hm hs) hk hs)
/-- a publish -/
theorem PINV_pub {O W : Nat → List N5} {H : Nat → Nat → Bool} {up pe : Nat → Bool} {S : Nat → List (Int32 × Nat)} {rc : Nat → Nat → Nat} {ac : Nat → Nat} {n : Nat} {qu : Nat → Nat} {am : Nat → Nat → Bool} {nq : Nat → Bool} (I : PINV O W H up pe S rc ac n qu am nq) {c qn : Nat} {O' W' : List N5} (hc : c < 4) (hu : up c = true) (hq : qn ≤ 2) (hP : PBL n qn (O c) (W c) O' W') : PINV (fu O c O') (fu W c W') H up pe S rc ac (n + 1) (fu qu (n + 1) qn) am nq := by
  obtain ⟨i1, i2, i3, i4, i5, i6, i7, i8, i9, i10, i11, i12, i13⟩ := I
  have far : ∀ (f : Nat → List N5) (v : List N5) (d : Nat), d < 4 → fu f c v (4 + d) = f (4 + d) := fun f v d hd => fu_n (by omega)
  have ac0 : ac (n + 1) = 0 := i9 (n + 1) (by omega)
  have quo : ∀ s, s ≤ n → fu qu (n + 1) qn s = qu s := fun s hs => fu_n (by omega)
  -- the new lists
  have hO : ∀ e, e ∈ O' → e ∈ O c ∨ (e.1 = n + 1 ∧ e.2.1 = qn ∧ e.2.2.2.1 = 0 ∧ e.2.2.2.2 = 1) := by
    intro e he
    rcases hP with ⟨_, h, _⟩ | ⟨_, _, i, _, _, _, h, _⟩
    · rw [h] at he; exact Or.inl he
    · rw [h] at he
      rcases List.mem_append.mp he with h | h
      · exact Or.inl h
      · rw [List.mem_singleton.mp h]; exact Or.inr ⟨rfl, rfl, rfl, rfl⟩
  have hO1 : ∀ e e', e ∈ O' → e' ∈ O' → e.1 = n + 1 → e'.1 = n + 1 → e = e' := by
    intro e e' he he' h1 h2
    rcases hP with ⟨_, h, _⟩ | ⟨_, _, i, _, _, _, h, _⟩
    · rw [h] at he
      have := ((i4 c hc).2 e he).1
      omega
    · rw [h] at he he'
      rcases List.mem_append.mp he with a | a <;> rcases List.mem_append.mp he' with b | b
      · have := ((i4 c hc).2 e a).1; omega
      · have := ((i4 c hc).2 e a).1; omega
      · have := ((i4 c hc).2 e' b).1; omega
      · rw [List.mem_singleton.mp a, List.mem_singleton.mp b]
  have hW : ∀ t, t ∈ W' → t ∈ W c ∨ (t.1 = 1 ∧ t.2.2.1 = n + 1 ∧ t.2.2.2.1 = qn) := by
    intro t ht
    rcases hP with ⟨h0, _, h⟩ | ⟨_, _, i, _, _, _, _, h⟩
    · rw [h] at ht
      rcases List.mem_append.mp ht with h | h
      · exact Or.inl h
      · rw [List.mem_singleton.mp h]; exact Or.inr ⟨rfl, rfl, h0.symm⟩
    · rw [h] at ht
      rcases List.mem_append.mp ht with h | h
      · exact Or.inl h
      · rw [List.mem_singleton.mp h]; exact Or.inr ⟨rfl, rfl, rfl⟩
  refine ⟨fun c' hc' => ?_, fun c' hc' => ?_, fun c' hc' hd => ?_, fun c' hc' => ?_, fun c' hc' t ht hk => ?_, fun c1 c2 hc1 hc2 e e' he he' hs => ?_, fun s hs => ?_, fun c' hc' e he hq2 hst hH => ?_, fun s hs => i9 s (by omega), fun d s hd ha => ?_, fun d s hd hs hx => ?_, i12, fun d s hd ha => ?_⟩
  · rw [far W W' c' hc']
    by_cases e : c' = c
    · subst e
      rw [fu_s, fu_s]
      have T := i1 c' hc'
      rw [hu] at T ⊢
      rcases hP with ⟨_, h1, h2⟩ | ⟨hq1, _, i, j1, j2, j3, h1, h2⟩
      · rw [h1, h2]
        exact TOK_F T (fun i hi => isF_ne (fun z => by have z' : 0 = i := z; omega))
      · rw [h1, h2]
        exact TOK_new T j1 j2 (by omega) j3
    · rw [fu_n e, fu_n e]
      exact i1 c' hc'
  · rw [far O O' c' hc', far W W' c' hc']
    by_cases e : c' = c
    · subst e
      rw [fu_s]
      have T := i2 c' hc'
      rcases hP with ⟨_, h1, h2⟩ | ⟨hq1, _, i, j1, j2, j3, h1, h2⟩
      · rw [h2]
        exact TOK_B T (fun i _ => isB_1)
      · rw [h2]
        exact TOK_B T (fun i' _ => isB_1)
    · rw [fu_n e]
      exact i2 c' hc'
  · by_cases e : c' = c
    · rw [e, hu] at hd; exact absurd hd (by decide)
    · rw [fu_n e, far W W' c' hc']
      exact i3 c' hc' hd
  · by_cases e : c' = c
    · subst e
      rw [fu_s]
      refine ⟨?_, fun e he => ?_⟩
      · have := (i4 c' hc').1
        rcases hP with ⟨_, h1, _⟩ | ⟨_, h4, i, _, _, _, h1, _⟩
        · rw [h1]; exact this
        · rw [h1, List.length_append, List.length_singleton]; omega
      · rcases hO e he with h | ⟨h1, h2, h3, _⟩
        · obtain ⟨a, b, d⟩ := (i4 c' hc').2 e h
          exact ⟨by omega, by rw [quo _ a]; exact b, d⟩
        · exact ⟨by omega, by rw [h1, fu_s]; exact h2, h3⟩
    · rw [fu_n e]
      refine ⟨(i4 c' hc').1, fun e he => ?_⟩
      obtain ⟨a, b, d⟩ := (i4 c' hc').2 e he
      exact ⟨by omega, by rw [quo _ a]; exact b, d⟩
  · by_cases e : c' = c
    · subst e
      rw [fu_s] at ht
      rcases hW t ht with h | ⟨_, h2, h3⟩
      · obtain ⟨a, b⟩ := i5 c' hc' t h hk
        exact ⟨by omega, by rw [quo _ a]; exact b⟩
      · exact ⟨by omega, by rw [h2, fu_s]; exact h3⟩
    · rw [fu_n e] at ht
      obtain ⟨a, b⟩ := i5 c' hc' t ht hk
      exact ⟨by omega, by rw [quo _ a]; exact b⟩
  · have key : ∀ c1 e, c1 < 4 → e ∈ fu O c O' c1 → (e ∈ O c1) ∨ (c1 = c ∧ e ∈ O' ∧ e.1 = n + 1) := by
      intro c1 e h1 he
      by_cases x : c1 = c
      · subst x
        rw [fu_s] at he
        rcases hO e he with h | ⟨h, _⟩
        · exact Or.inl h
        · exact Or.inr ⟨rfl, he, h⟩
      · rw [fu_n x] at he
        exact Or.inl he
    rcases key c1 e hc1 he with a | ⟨a1, a2, a3⟩ <;> rcases key c2 e' hc2 he' with b | ⟨b1, b2, b3⟩
    · exact i6 c1 c2 hc1 hc2 e e' a b hs
    · have := ((i4 c1 hc1).2 e a).1; omega
    · have := ((i4 c2 hc2).2 e' b).1; omega
    · exact ⟨by omega, hO1 e e' a2 b2 a3 b3⟩
  · by_cases e : s = n + 1
    · rw [e, ac0]; omega
    · rw [fu_n e] at hs
      exact i7 s hs
  · by_cases x : c' = c
    · subst x
      rw [fu_s] at he
      rcases hO e he with h | ⟨h1, _⟩
      · exact i8 c' hc' e h hq2 hst hH
      · rw [h1]; exact ac0
    · rw [fu_n x] at he
      exact i8 c' hc' e he hq2 hst hH
  · rw [far O O' d hd, far W W' d hd]
    exact i10 d s hd ha
  · rw [far O O' d hd, far W W' d hd]
    by_cases e : s = n + 1
    · subst e
      exact XO_0 (i10 d (n + 1) hd ac0)
    · rw [fu_n e] at hs
      exact i11 d s hd hs hx
  · rw [far O O' d hd]
    obtain ⟨a, b, e, f⟩ := i13 d s hd ha
    refine ⟨a, b, ?_, f⟩
    have hsn : s ≠ n + 1 := by
      intro z
      rw [z, ac0] at b
      omega
    rw [fu_n hsn]
    exact e
end Q16
end
section
section Q17
theorem f2_c {α : Type} {f : Nat → α} {c : Nat} {a b : α} : fu (fu f c a) (4 + c) b c = a := by
  rw [fu_n (by omega), fu_s]
theorem f2_4 {α : Type} {f : Nat → α} {c : Nat} {a b : α} : fu (fu f c a) (4 + c) b (4 + c) = b := fu_s
theorem f2_n {α : Type} {f : Nat → α} {c x : Nat} {a b : α} (h1 : x ≠ c) (h2 : x ≠ 4 + c) : fu (fu f c a) (4 + c) b x = f x := by
  rw [fu_n h2, fu_n h1]
/-- fewer subscriptions -/
theorem PINV_uns {O W : Nat → List N5} {H : Nat → Nat → Bool} {up pe : Nat → Bool} {S : Nat → List (Int32 × Nat)} {rc : Nat → Nat → Nat} {ac : Nat → Nat} {n : Nat} {qu : Nat → Nat} {am : Nat → Nat → Bool} {nq : Nat → Bool} (I : PINV O W H up pe S rc ac n qu am nq) {c : Nat} {L : List (Int32 × Nat)} (hL : ∀ f, f ∈ L → f ∈ S c) : PINV O W H up pe (fu S c L) rc ac n qu am nq := by
  obtain ⟨i1, i2, i3, i4, i5, i6, i7, i8, i9, i10, i11, i12, i13⟩ := I
  refine ⟨i1, i2, i3, i4, i5, i6, i7, i8, i9, i10, i11, fun d hd hn f hf => ?_, i13⟩
  by_cases e : d = c
  · subst e
    rw [fu_s] at hf
    exact i12 d hd hn f (hL f hf)
  · rw [fu_n e] at hf
    exact i12 d hd hn f hf
/-- the link drops, the session stays -/
theorem PINV_down {O W : Nat → List N5} {H : Nat → Nat → Bool} {up pe : Nat → Bool} {S : Nat → List (Int32 × Nat)} {rc : Nat → Nat → Nat} {ac : Nat → Nat} {n : Nat} {qu : Nat → Nat} {am : Nat → Nat → Bool} {nq : Nat → Bool} (I : PINV O W H up pe S rc ac n qu am nq) {c : Nat} (hc : c < 4) : PINV O (fu (fu W c []) (4 + c) []) H (fu up c false) pe S rc ac n qu am nq := by
  obtain ⟨i1, i2, i3, i4, i5, i6, i7, i8, i9, i10, i11, i12, i13⟩ := I
  refine ⟨fun c' hc' => ?_, fun c' hc' => ?_, fun c' hc' hd => ?_, i4, fun c' hc' t ht hk => ?_, i6, i7, i8, i9, fun d s hd ha => ?_, fun d s hd hs hx => ?_, i12, i13⟩
  · by_cases e : c' = c
    · subst e
      rw [f2_c, f2_4, fu_s]
      exact TOK_down (i1 c' hc')
    · rw [f2_n (by omega) (by omega), f2_n (by omega) (by omega), fu_n e]
      exact i1 c' hc'
  · by_cases e : c' = c
    · subst e
      rw [f2_c, f2_4, fu_s]
      exact TOK_down (i2 c' hc')
    · rw [f2_n (by omega) (by omega), f2_n (by omega) (by omega), fu_n e]
      exact i2 c' hc'
  · by_cases e : c' = c
    · subst e
      rw [f2_c, f2_4]
      exact ⟨rfl, rfl⟩
    · rw [fu_n e] at hd
      rw [f2_n (by omega) (by omega), f2_n (by omega) (by omega)]
      exact i3 c' hc' hd
  · by_cases e : c' = c
    · subst e
      rw [f2_c] at ht
      exact absurd ht (by simp)
    · rw [f2_n (by omega) (by omega)] at ht
      exact i5 c' hc' t ht hk
  · obtain ⟨a, b, g⟩ := i10 d s hd ha
    refine ⟨a, b, fun t ht hk hs => ?_⟩
    by_cases e : d = c
    · subst e
      rw [f2_4] at ht
      exact absurd ht (by simp)
    · rw [f2_n (by omega) (by omega)] at ht
      exact g t ht hk hs
  · obtain ⟨a, b, g, f⟩ := i11 d s hd hs hx
    refine ⟨a, b, g, fun t ht hk hs => ?_⟩
    by_cases e : d = c
    · subst e
      rw [f2_4] at ht
      exact absurd ht (by simp)
    · rw [f2_n (by omega) (by omega)] at ht
      exact f t ht hk hs
/-- the session is discarded, the link being down; client c isn't armed -/
theorem PINV_disc {O W : Nat → List N5} {H : Nat → Nat → Bool} {up pe : Nat → Bool} {S : Nat → List (Int32 × Nat)} {rc : Nat → Nat → Nat} {ac : Nat → Nat} {n : Nat} {qu : Nat → Nat} {am : Nat → Nat → Bool} {nq : Nat → Bool} (I : PINV O W H up pe S rc ac n qu am nq) {c : Nat} {b u : Bool} (hc : c < 4) (hu : up c = false) (ha : ∀ s, am c s = false) : PINV (fu (fu O c []) (4 + c) []) W (fu (fu H c fF) (4 + c) fF) (fu up c u) (fu pe c b) (fu S c []) rc ac n qu am nq := by
  obtain ⟨i1, i2, i3, i4, i5, i6, i7, i8, i9, i10, i11, i12, i13⟩ := I
  obtain ⟨w1, w2⟩ := i3 c hc hu
  have memO : ∀ c' e, c' < 4 → e ∈ fu (fu O c []) (4 + c) [] c' → c' ≠ c ∧ e ∈ O c' := by
    intro c' e h1 he
    by_cases x : c' = c
    · subst x
      rw [f2_c] at he
      exact absurd he (by simp)
    · rw [f2_n x (by omega)] at he
      exact ⟨x, he⟩
  have memP : ∀ d e, d < 4 → e ∈ fu (fu O c []) (4 + c) [] (4 + d) → d ≠ c ∧ e ∈ O (4 + d) := by
    intro d e h1 he
    by_cases x : d = c
    · subst x
      rw [f2_4] at he
      exact absurd he (by simp)
    · rw [f2_n (by omega) (by omega)] at he
      exact ⟨x, he⟩
  refine ⟨fun c' hc' => ?_, fun c' hc' => ?_, fun c' hc' hd => ?_, fun c' hc' => ?_, i5, fun c1 c2 h1 h2 e e' he he' hs => ?_, i7, fun c' hc' e he hq hst hH => ?_, i9, fun d s hd hac => ?_, fun d s hd hs hx => ?_, fun d hd hn f hf => ?_, fun d s hd hx => ?_⟩
  · by_cases x : c' = c
    · subst x
      rw [f2_c, f2_4, w1, w2]
      exact TOK_nil (B := []) (fun i _ _ => rfl)
    · rw [f2_n x (by omega), f2_n (by omega) (by omega), fu_n x]
      exact i1 c' hc'
  · by_cases x : c' = c
    · subst x
      rw [f2_4, f2_c, w1, w2]
      exact TOK_nil (B := []) (fun i _ _ => rfl)
    · rw [f2_n (by omega) (by omega), f2_n x (by omega), fu_n x]
      exact i2 c' hc'
  · by_cases x : c' = c
    · subst x; exact ⟨w1, w2⟩
    · rw [fu_n x] at hd
      exact i3 c' hc' hd
  · by_cases x : c' = c
    · subst x
      rw [f2_c]
      exact ⟨by decide, fun e he => absurd he (by simp)⟩
    · rw [f2_n x (by omega)]
      exact i4 c' hc'
  · exact i6 c1 c2 h1 h2 e e' (memO c1 e h1 he).2 (memO c2 e' h2 he').2 hs
  · obtain ⟨x, he'⟩ := memO c' e hc' he
    rw [f2_n (by omega) (by omega)] at hH
    exact i8 c' hc' e he' hq hst hH
  · obtain ⟨a, b, g⟩ := i10 d s hd hac
    exact ⟨a, fun e he hs => b e (memP d e hd he).2 hs, g⟩
  · obtain ⟨a, b, g, f⟩ := i11 d s hd hs hx
    refine ⟨a, fun e he hs' hm => ?_, fun e e' he he' => g e e' (memP d e hd he).2 (memP d e' hd he').2, f⟩
    obtain ⟨x, he'⟩ := memP d e hd he
    rw [f2_n x (by omega)]
    exact b e he' hs' hm
  · by_cases x : d = c
    · subst x
      rw [fu_s] at hf
      exact absurd hf (by simp)
    · rw [fu_n x] at hf
      exact i12 d hd hn f hf
  · have x : d ≠ c := by
      intro z
      rw [z, ha s] at hx
      exact absurd hx (by decide)
    obtain ⟨a, b, e, f⟩ := i13 d s hd hx
    rw [fu_n x, f2_n (by omega) (by omega)]
    exact ⟨a, b, e, f⟩
/-- the session is resumed -/
theorem PINV_res {O W : Nat → List N5} {H : Nat → Nat → Bool} {up pe : Nat → Bool} {S : Nat → List (Int32 × Nat)} {rc : Nat → Nat → Nat} {ac : Nat → Nat} {n : Nat} {qu : Nat → Nat} {am : Nat → Nat → Bool} {nq : Nat → Bool} (I : PINV O W H up pe S rc ac n qu am nq) {c : Nat} (hc : c < 4) (hu : up c = false) (hp : pe c = true) : PINV O (fu (fu W c (W c ++ (O c).map rsn)) (4 + c) (W (4 + c) ++ (O (4 + c)).map rsn)) H (fu up c true) (fu pe c true) S rc ac n qu am nq := by
  obtain ⟨i1, i2, i3, i4, i5, i6, i7, i8, i9, i10, i11, i12, i13⟩ := I
  obtain ⟨w1, w2⟩ := i3 c hc hu
  rw [w1, w2, List.nil_append, List.nil_append]
  have hpe : fu pe c true = pe := by rw [← hp]; exact fu_id pe c
  rw [hpe]
  have hB : ∀ (E : List N5) (t : N5), t ∈ E.map rsn → ∀ i, isB i t = false := by
    intro E t ht i
    obtain ⟨e, _, rfl⟩ := List.mem_map.mp ht
    exact rsn_B
  have hk1 : ∀ (E : List N5) (t : N5), t ∈ E.map rsn → t.1 = 1 → ∃ e, e ∈ E ∧ t.2.2.1 = e.1 ∧ t.2.2.2.1 = e.2.1 ∧ t.2.2.2.2 = e.2.2.2.1 := by
    intro E t ht hk
    obtain ⟨e, he, rfl⟩ := List.mem_map.mp ht
    refine ⟨e, he, ?_⟩
    by_cases hs : e.2.2.2.2 = 1
    · have hr : rsn e = (1, e.2.2.1, e.1, e.2.1, e.2.2.2.1) := if_pos hs
      rw [hr]
      exact ⟨rfl, rfl, rfl⟩
    · have hr : rsn e = (4, e.2.2.1, 0, 0, 0) := if_neg hs
      rw [hr] at hk
      exact absurd hk (by decide : ¬ (4 : Nat) = 1)
  refine ⟨fun c' hc' => ?_, fun c' hc' => ?_, fun c' hc' hd => ?_, i4, fun c' hc' t ht hk => ?_, i6, i7, i8, i9, fun d s hd ha => ?_, fun d s hd hs hx => ?_, i12, i13⟩
  · by_cases e : c' = c
    · subst e
      rw [f2_c, f2_4, fu_s]
      have T := i1 c' hc'
      rw [w1, w2, hu] at T
      exact TOK_up T (hB _)
    · rw [f2_n (by omega) (by omega), f2_n (by omega) (by omega), fu_n e]
      exact i1 c' hc'
  · by_cases e : c' = c
    · subst e
      rw [f2_c, f2_4, fu_s]
      have T := i2 c' hc'
      rw [w1, w2, hu] at T
      exact TOK_up T (hB _)
    · rw [f2_n (by omega) (by omega), f2_n (by omega) (by omega), fu_n e]
      exact i2 c' hc'
  · by_cases e : c' = c
    · subst e
      rw [fu_s] at hd
      exact absurd hd (by decide)
    · rw [fu_n e] at hd
      rw [f2_n (by omega) (by omega), f2_n (by omega) (by omega)]
      exact i3 c' hc' hd
  · by_cases e : c' = c
    · subst e
      rw [f2_c] at ht
      obtain ⟨e, he, h1, h2, _⟩ := hk1 _ t ht hk
      obtain ⟨a, b, _⟩ := (i4 c' hc').2 e he
      rw [h1, h2]
      exact ⟨a, b⟩
    · rw [f2_n (by omega) (by omega)] at ht
      exact i5 c' hc' t ht hk
  · obtain ⟨a, b, g⟩ := i10 d s hd ha
    refine ⟨a, b, fun t ht hk hs => ?_⟩
    by_cases e : d = c
    · subst e
      rw [f2_4] at ht
      obtain ⟨e, he, h1, h2, h3⟩ := hk1 _ t ht hk
      rw [h3]
      exact b e he (by rw [← h1]; exact hs)
    · rw [f2_n (by omega) (by omega)] at ht
      exact g t ht hk hs
  · obtain ⟨a, b, g, f⟩ := i11 d s hd hs hx
    refine ⟨a, b, g, fun t ht hk hs' hm => ?_⟩
    by_cases e : d = c
    · subst e
      rw [f2_4] at ht
      obtain ⟨e, he, h1, h2, h3⟩ := hk1 _ t ht hk
      have := (b e he (by rw [← h1]; exact hs') (by rw [← h3]; exact hm)).1
      rw [h2]
      omega
    · rw [f2_n (by omega) (by omega)] at ht
      exact f t ht hk hs' hm
end Q17
end
section
section Q18
theorem SND_TOK {up : Bool} {s e m v v' : Nat} {O W O' W' B : List N5} {H : Nat → Bool} {tk : N5 → Prop} (h : SND up s e m O W v O' W' v') (he : e ≤ 2) (T : TOK O W B H up tk) : TOK O' W' B H up tk := by
  rcases h with ⟨_, h1, _, h2⟩ | ⟨_, _, h1, h2, _⟩ | ⟨q1, _, i, j1, j2, j3, h1, h2⟩
  · rw [h1, h2]
    cases up
    · exact T
    · exact TOK_F T (fun i hi => isF_0 hi)
  · rw [h1, h2]; exact T
  · rw [h1, h2]
    cases up
    · exact TOK_newd T j1 j2 (by omega) j3
    · exact TOK_new T j1 j2 (by omega) j3
theorem SND_B {up : Bool} {s e m v v' : Nat} {O W O' W' E F : List N5} {H : Nat → Bool} {u : Bool} {tk : N5 → Prop} (h : SND up s e m O W v O' W' v') (T : TOK E F W H u tk) : TOK E F W' H u tk := by
  rcases h with ⟨_, _, _, h2⟩ | ⟨_, _, _, h2, _⟩ | ⟨_, _, i, _, _, _, _, h2⟩
  · rw [h2]
    cases up
    · exact T
    · exact TOK_B T (fun i _ => isB_1)
  · rw [h2]; exact T
  · rw [h2]
    cases up
    · exact T
    · exact TOK_B T (fun i _ => isB_1)
theorem SND_O {up : Bool} {s e m v v' : Nat} {O W O' W' : List N5} (h : SND up s e m O W v O' W' v') : (∀ a, a ∈ O → a ∈ O') ∧ ∀ a, a ∈ O' → a ∈ O ∨ (a.1 = s ∧ a.2.1 = e ∧ a.2.2.2.1 = m ∧ a.2.2.2.2 = 1 ∧ O' = O ++ [a] ∧ 1 ≤ e) := by
  rcases h with ⟨_, h1, _, _⟩ | ⟨_, _, h1, _, _⟩ | ⟨q1, _, i, _, _, _, h1, _⟩
  · rw [h1]; exact ⟨fun a h => h, fun a h => Or.inl h⟩
  · rw [h1]; exact ⟨fun a h => h, fun a h => Or.inl h⟩
  · rw [h1]
    refine ⟨fun a h => List.mem_append.mpr (Or.inl h), fun a h => ?_⟩
    rcases List.mem_append.mp h with h | h
    · exact Or.inl h
    · have := List.mem_singleton.mp h
      subst this
      exact Or.inr ⟨rfl, rfl, rfl, rfl, rfl, q1⟩
theorem SND_W {up : Bool} {s e m v v' : Nat} {O W O' W' : List N5} (h : SND up s e m O W v O' W' v') : ∀ t, t ∈ W' → t ∈ W ∨ (t.1 = 1 ∧ t.2.2.1 = s ∧ t.2.2.2.1 = e ∧ t.2.2.2.2 = m) := by
  intro t ht
  rcases h with ⟨h0, _, _, h2⟩ | ⟨_, _, _, h2, _⟩ | ⟨_, _, i, _, _, _, _, h2⟩
  · rw [h2] at ht
    cases up
    · exact Or.inl ht
    · rcases List.mem_append.mp ht with h | h
      · exact Or.inl h
      · rw [List.mem_singleton.mp h]; exact Or.inr ⟨rfl, rfl, h0.symm, rfl⟩
  · rw [h2] at ht; exact Or.inl ht
  · rw [h2] at ht
    cases up
    · exact Or.inl ht
    · rcases List.mem_append.mp ht with h | h
      · exact Or.inl h
      · rw [List.mem_singleton.mp h]; exact Or.inr ⟨rfl, rfl, rfl, rfl⟩
theorem SND_dn {s e m v v' : Nat} {O W O' W' : List N5} (h : SND false s e m O W v O' W' v') : W' = W := by
  rcases h with ⟨_, _, _, h2⟩ | ⟨_, _, _, h2, _⟩ | ⟨_, _, i, _, _, _, _, h2⟩
  · exact h2
  · exact h2
  · exact h2
/-- a marked SEND -/
theorem PINV_sndm {O W : Nat → List N5} {H : Nat → Nat → Bool} {up pe : Nat → Bool} {S : Nat → List (Int32 × Nat)} {rc : Nat → Nat → Nat} {ac : Nat → Nat} {n : Nat} {qu : Nat → Nat} {am : Nat → Nat → Bool} {nq : Nat → Bool} (I : PINV O W H up pe S rc ac n qu am nq) {c s e v v' : Nat} {O' W' : List N5} (hc : c < 4) (he : e ≤ 2) (h : SND (up c) s e 1 (O (4 + c)) (W (4 + c)) v O' W' v') : PINV (fu O (4 + c) O') (fu W (4 + c) W') H up pe S rc ac n qu am nq := by
  obtain ⟨i1, i2, i3, i4, i5, i6, i7, i8, i9, i10, i11, i12, i13⟩ := I
  have near : ∀ (f : Nat → List N5) (u : List N5) (c' : Nat), c' < 4 → fu f (4 + c) u c' = f c' := fun f u c' h => fu_n (by omega)
  obtain ⟨hO1, hO2⟩ := SND_O h
  have hW := SND_W h
  have mO : ∀ d a, d < 4 → a ∈ fu O (4 + c) O' (4 + d) → a.2.2.2.1 = 0 → a ∈ O (4 + d) := by
    intro d a hd ha hm
    by_cases x : d = c
    · subst x
      rw [fu_s] at ha
      rcases hO2 a ha with h | ⟨_, _, h, _⟩
      · exact h
      · omega
    · rw [fu_n (by omega)] at ha
      exact ha
  have mW : ∀ d t, d < 4 → t ∈ fu W (4 + c) W' (4 + d) → t.2.2.2.2 = 0 → t ∈ W (4 + d) := by
    intro d t hd ht hm
    by_cases x : d = c
    · subst x
      rw [fu_s] at ht
      rcases hW t ht with h | ⟨_, _, _, h⟩
      · exact h
      · omega
    · rw [fu_n (by omega)] at ht
      exact ht
  refine ⟨fun c' hc' => ?_, fun c' hc' => ?_, fun c' hc' hd => ?_, fun c' hc' => ?_, fun c' hc' t ht => ?_, fun c1 c2 h1 h2 a b ha hb => ?_, i7, fun c' hc' a ha => ?_, i9, fun d s' hd ha => ?_, fun d s' hd hs hx => ?_, i12, fun d s' hd ha => ?_⟩
  · rw [near O O' c' hc', near W W' c' hc']
    by_cases x : c' = c
    · subst x
      rw [fu_s]
      exact SND_B h (i1 c' hc')
    · rw [fu_n (by omega)]
      exact i1 c' hc'
  · rw [near W W' c' hc']
    by_cases x : c' = c
    · subst x
      rw [fu_s, fu_s]
      exact SND_TOK h he (i2 c' hc')
    · rw [fu_n (by omega), fu_n (by omega)]
      exact i2 c' hc'
  · rw [near W W' c' hc']
    by_cases x : c' = c
    · subst x
      rw [fu_s]
      rw [hd] at h
      rw [SND_dn h]
      exact i3 c' hc' hd
    · rw [fu_n (by omega)]
      exact i3 c' hc' hd
  · rw [near O O' c' hc']
    exact i4 c' hc'
  · rw [near W W' c' hc'] at ht
    exact i5 c' hc' t ht
  · rw [near O O' c1 h1] at ha
    rw [near O O' c2 h2] at hb
    exact i6 c1 c2 h1 h2 a b ha hb
  · rw [near O O' c' hc'] at ha
    exact i8 c' hc' a ha
  · obtain ⟨a, b, g⟩ := i10 d s' hd ha
    refine ⟨a, fun a' ha' hs => ?_, fun t ht hk hs => ?_⟩
    · by_cases x : d = c
      · subst x
        rw [fu_s] at ha'
        rcases hO2 a' ha' with h | ⟨_, _, h, _⟩
        · exact b a' h hs
        · exact h
      · rw [fu_n (by omega)] at ha'
        exact b a' ha' hs
    · by_cases x : d = c
      · subst x
        rw [fu_s] at ht
        rcases hW t ht with h | ⟨_, _, _, h⟩
        · exact g t h hk hs
        · exact h
      · rw [fu_n (by omega)] at ht
        exact g t ht hk hs
  · obtain ⟨a, b, g, f⟩ := i11 d s' hd hs hx
    exact ⟨a, fun a' ha' hs' hm => b a' (mO d a' hd ha' hm) hs' hm, fun a1 a2 h1 h2 s1 s2 m1 m2 => g a1 a2 (mO d a1 hd h1 m1) (mO d a2 hd h2 m2) s1 s2 m1 m2, fun t ht hk hs' hm => f t (mW d t hd ht hm) hk hs' hm⟩
  · obtain ⟨a, b, e', f⟩ := i13 d s' hd ha
    refine ⟨a, b, e', f.elim Or.inl (fun ⟨x, hx, h1, h2⟩ => Or.inr ⟨x, ?_, h1, h2⟩)⟩
    by_cases y : d = c
    · subst y
      rw [fu_s]; exact hO1 x hx
    · rw [fu_n (by omega)]; exact hx
theorem PINV_msn {H : Nat → Nat → Bool} {up pe : Nat → Bool} {S : Nat → List (Int32 × Nat)} {rc : Nat → Nat → Nat} {ac : Nat → Nat} {n : Nat} {qu : Nat → Nat} {am : Nat → Nat → Bool} {nq : Nat → Bool} {c : Nat} (hc : c < 4) : ∀ (m : Nat) (O W : Nat → List N5) (v : Nat) (O' W' : List N5) (v' : Nat), PINV O W H up pe S rc ac n qu am nq → MSN (up c) m (O (4 + c)) (W (4 + c)) v O' W' v' → PINV (fu O (4 + c) O') (fu W (4 + c) W') H up pe S rc ac n qu am nq := by
  intro m
  induction m with
  | zero =>
    intro O W v O' W' v' I h
    obtain ⟨h1, h2, _⟩ := h
    rw [h1, h2, fu_id, fu_id]
    exact I
  | succ m ih =>
    intro O W v O' W' v' I h
    obtain ⟨O1, W1, v1, s, e, _, _, he, h1, h2⟩ := h
    have I1 := PINV_sndm I hc he h1
    have := ih (fu O (4 + c) O1) (fu W (4 + c) W1) v1 O' W' v' I1 (by rw [fu_s, fu_s]; exact h2)
    rw [fu_fu, fu_fu] at this
    exact this
/-- a new subscription -/
theorem PINV_sub {O W : Nat → List N5} {H : Nat → Nat → Bool} {up pe : Nat → Bool} {S : Nat → List (Int32 × Nat)} {rc : Nat → Nat → Nat} {ac : Nat → Nat} {n : Nat} {qu : Nat → Nat} {am : Nat → Nat → Bool} {nq nq' : Nat → Bool} (I : PINV O W H up pe S rc ac n qu am nq) {c qn : Nat} {L : List (Int32 × Nat)} {F : Int32} (hL : ∀ f, f ∈ L → f ∈ S c ∨ f = (F, qn)) (hn : ∀ d, d < 4 → nq' d = false → nq d = false) (hn2 : nq' c = false → qn = 2) : PINV O W H up pe (fu S c L) rc ac n qu am nq' := by
  obtain ⟨i1, i2, i3, i4, i5, i6, i7, i8, i9, i10, i11, i12, i13⟩ := I
  refine ⟨i1, i2, i3, i4, i5, i6, i7, i8, i9, i10, fun d s hd hq hx => i11 d s hd hq (hx.elim (fun z => Or.inl (hn d hd z)) Or.inr), fun d hd h f hf => ?_, i13⟩
  by_cases x : d = c
  · subst x
    rw [fu_s] at hf
    rcases hL f hf with g | g
    · exact i12 d hd (hn d hd h) f g
    · rw [g]; exact hn2 h
  · rw [fu_n x] at hf
    exact i12 d hd (hn d hd h) f hf
end Q18
end
section
section Q19
theorem isB_of_F {i j : Nat} {t : N5} (h : isF i t = true) : isB j t = false := by
  obtain ⟨_, h | h⟩ := isF_id h
  · exact isB_k (by omega) (by omega) (by omega)
  · exact isB_k (by omega) (by omega) (by omega)
theorem isF_of_B {i j : Nat} {t : N5} (h : isB i t = true) : isF j t = false := by
  obtain ⟨_, h | h | h⟩ := isB_id h
  · exact isF_k (by omega) (by omega)
  · exact isF_k (by omega) (by omega)
  · exact isF_k (by omega) (by omega)
theorem isF_rep {j k i : Nat} (hk : k = 2 ∨ k = 3 ∨ k = 5) : isF j (k, i, 0, 0, 0) = false := by
  rcases hk with rfl | rfl | rfl
  · exact isF_2
  · exact isF_3
  · exact isF_5
/-- client c handles a publication or a release of the broker's -/
theorem PINV_rcvC {O W W2 : Nat → List N5} {H H2 : Nat → Nat → Bool} {up pe : Nat → Bool} {S : Nat → List (Int32 × Nat)} {rc rc2 : Nat → Nat → Nat} {ac : Nat → Nat} {n : Nat} {qu : Nat → Nat} {am : Nat → Nat → Bool} {nq : Nat → Bool} (I : PINV O W H up pe S rc ac n qu am nq) {c i k : Nat} {hb : Bool} {t e : N5} {L : List N5} (hc : c < 4) (hW : W (4 + c) = t :: L)
    (w1 : W2 c = W c ++ [(k, i, 0, 0, 0)]) (w2 : W2 (4 + c) = L) (w3 : ∀ x, x ≠ c → x ≠ 4 + c → W2 x = W x) (h1 : H2 c = fu (H c) i hb) (h2 : ∀ x, x ≠ c → H2 x = H x) (hk : k = 2 ∨ k = 3 ∨ k = 5) (b1 : 1 ≤ i) (b2 : i ≤ 16) (ht : isF i t = true) (he : lk (O (4 + c)) i = some e)
    (hr : (e.2.1 = 1 ∧ e.2.2.2.2 = 1 ∧ hb = false ∧ k = 2 ∧ tkR rc2 c e) ∨ (e.2.1 = 2 ∧ e.2.2.2.2 = 1 ∧ tkR rc2 c e ∧ k = 3 ∧ hb = true) ∨ (e.2.1 = 2 ∧ e.2.2.2.2 = 2 ∧ tkR rc2 c e ∧ k = 5 ∧ hb = false))
    (rm : ∀ s, rc c s ≤ rc2 c s) (ro : ∀ d, d ≠ c → rc2 d = rc d) (r0 : ∀ s, ac s = 0 → rc2 c s = 0) (hX : ∀ s, qu s = 2 → (nq c = false ∨ am c s = true) → XO (O (4 + c)) L (H2 c) (rc2 c s) s) : PINV O W2 H2 up pe S rc2 ac n qu am nq := by
  obtain ⟨i1, i2, i3, i4, i5, i6, i7, i8, i9, i10, i11, i12, i13⟩ := I
  have T2 := i2 c hc
  rw [hW] at T2
  obtain ⟨hu, _⟩ := TOK_look T2 b1 b2 ht
  refine ⟨fun c' hc' => ?_, fun c' hc' => ?_, fun c' hc' hd => ?_, i4, fun c' hc' x hx hk1 => ?_, i6, i7, fun c' hc' a ha hq hs hH => ?_, i9, fun d s hd ha => ?_, fun d s hd hs hx => ?_, i12, fun d s hd ha => ?_⟩
  · by_cases x : c' = c
    · subst x
      have T := i1 c' hc'
      rw [hW] at T
      rw [w1, w2, h2 (4 + c') (by omega)]
      exact TOK_F (TOK_Bp T (fun j _ => isB_of_F ht)) (fun j _ => isF_rep hk)
    · rw [w3 c' x (by omega), w3 (4 + c') (by omega) (by omega), h2 (4 + c') (by omega)]
      exact i1 c' hc'
  · by_cases x : c' = c
    · subst x
      rw [w1, w2, h1]
      have T3 : TOK (O (4 + c')) (t :: L) (W c') (H c') (up c') (tkR rc2 c') := TOK_mono (fun a _ hx hm => Nat.le_trans (hx hm) (rm a.1)) T2
      exact TOK_reply T3 b1 b2 ht he hk hr
    · rw [w3 c' x (by omega), w3 (4 + c') (by omega) (by omega), h2 c' x]
      have e1 : tkR rc2 c' = tkR rc c' := by unfold tkR; rw [ro c' x]
      rw [e1]
      exact i2 c' hc'
  · by_cases x : c' = c
    · rw [x, hu] at hd; exact absurd hd (by decide)
    · rw [w3 c' x (by omega), w3 (4 + c') (by omega) (by omega)]
      exact i3 c' hc' hd
  · by_cases y : c' = c
    · subst y
      rw [w1] at hx
      rcases List.mem_append.mp hx with h | h
      · exact i5 c' hc' x h hk1
      · rw [List.mem_singleton.mp h] at hk1
        have : k = 1 := hk1
        omega
    · rw [w3 c' y (by omega)] at hx
      exact i5 c' hc' x hx hk1
  · rw [h2 (4 + c') (by omega)] at hH
    exact i8 c' hc' a ha hq hs hH
  · obtain ⟨a, b, g⟩ := i10 d s hd ha
    by_cases x : d = c
    · subst x
      refine ⟨r0 s ha, b, fun y hy => ?_⟩
      rw [w2] at hy
      exact g y (by rw [hW]; exact List.mem_cons_of_mem _ hy)
    · rw [ro d x]
      refine ⟨a, b, fun y hy => ?_⟩
      rw [w3 (4 + d) (by omega) (by omega)] at hy
      exact g y hy
  · by_cases x : d = c
    · subst x
      rw [w2]
      exact hX s hs hx
    · rw [w3 (4 + d) (by omega) (by omega), h2 d x, ro d x]
      exact i11 d s hd hs hx
  · obtain ⟨a, b, e', f⟩ := i13 d s hd ha
    refine ⟨a, b, e', ?_⟩
    by_cases x : d = c
    · subst x
      exact f.elim (fun z => Or.inl (Nat.le_trans z (rm s))) Or.inr
    · rw [ro d x]; exact f
/-- client c handles a publication of quality 0 -/
theorem PINV_rcv0 {O W W2 : Nat → List N5} {H : Nat → Nat → Bool} {up pe : Nat → Bool} {S : Nat → List (Int32 × Nat)} {rc rc2 : Nat → Nat → Nat} {ac : Nat → Nat} {n : Nat} {qu : Nat → Nat} {am : Nat → Nat → Bool} {nq : Nat → Bool} (I : PINV O W H up pe S rc ac n qu am nq) {c s0 q0 m0 : Nat} {L : List N5} (hc : c < 4) (hW : W (4 + c) = (1, 0, s0, q0, m0) :: L)
    (w1 : W2 (4 + c) = L) (w3 : ∀ x, x ≠ 4 + c → W2 x = W x) (rm : ∀ s, rc c s ≤ rc2 c s) (ro : ∀ d, d ≠ c → rc2 d = rc d) (r0 : ∀ s, ac s = 0 → rc2 c s = 0) (hX : ∀ s, qu s = 2 → (nq c = false ∨ am c s = true) → XO (O (4 + c)) L (H c) (rc2 c s) s) : PINV O W2 H up pe S rc2 ac n qu am nq := by
  obtain ⟨i1, i2, i3, i4, i5, i6, i7, i8, i9, i10, i11, i12, i13⟩ := I
  refine ⟨fun c' hc' => ?_, fun c' hc' => ?_, fun c' hc' hd => ?_, i4, fun c' hc' x hx hk1 => ?_, i6, i7, i8, i9, fun d s hd ha => ?_, fun d s hd hs hx => ?_, i12, fun d s hd ha => ?_⟩
  · rw [w3 c' (by omega)]
    by_cases x : c' = c
    · subst x
      have T := i1 c' hc'
      rw [hW] at T
      rw [w1]
      exact TOK_Bp T (fun j _ => isB_1)
    · rw [w3 (4 + c') (by omega)]
      exact i1 c' hc'
  · rw [w3 c' (by omega)]
    by_cases x : c' = c
    · subst x
      have T := i2 c' hc'
      rw [hW] at T
      rw [w1]
      exact TOK_mono (fun a _ hx hm => Nat.le_trans (hx hm) (rm a.1)) (TOK_Fp T (fun j hj => isF_0 hj))
    · rw [w3 (4 + c') (by omega)]
      have e1 : tkR rc2 c' = tkR rc c' := by unfold tkR; rw [ro c' x]
      rw [e1]
      exact i2 c' hc'
  · by_cases x : c' = c
    · subst x
      have := (i3 c' hc' hd).2
      rw [hW] at this
      exact absurd this (by simp)
    · rw [w3 c' (by omega), w3 (4 + c') (by omega)]
      exact i3 c' hc' hd
  · rw [w3 c' (by omega)] at hx
    exact i5 c' hc' x hx hk1
  · obtain ⟨a, b, g⟩ := i10 d s hd ha
    by_cases x : d = c
    · subst x
      refine ⟨r0 s ha, b, fun y hy => ?_⟩
      rw [w1] at hy
      exact g y (by rw [hW]; exact List.mem_cons_of_mem _ hy)
    · rw [ro d x]
      refine ⟨a, b, fun y hy => ?_⟩
      rw [w3 (4 + d) (by omega)] at hy
      exact g y hy
  · by_cases x : d = c
    · subst x
      rw [w1]
      exact hX s hs hx
    · rw [w3 (4 + d) (by omega), ro d x]
      exact i11 d s hd hs hx
  · obtain ⟨a, b, e', f⟩ := i13 d s hd ha
    refine ⟨a, b, e', ?_⟩
    by_cases x : d = c
    · subst x
      exact f.elim (fun z => Or.inl (Nat.le_trans z (rm s))) Or.inr
    · rw [ro d x]; exact f
/-- client c, the sender, handles an answer: its entry ends, or is released -/
theorem PINV_ackC {O O2 W W2 : Nat → List N5} {H : Nat → Nat → Bool} {up pe : Nat → Bool} {S : Nat → List (Int32 × Nat)} {rc : Nat → Nat → Nat} {ac : Nat → Nat} {n : Nat} {qu : Nat → Nat} {am : Nat → Nat → Bool} {nq : Nat → Bool} (I : PINV O W H up pe S rc ac n qu am nq) {c i j : Nat} {t e : N5} {L : List N5} (hc : c < 4) (hW : W (4 + c) = t :: L)
    (w2 : W2 (4 + c) = L) (w3 : ∀ x, x ≠ c → x ≠ 4 + c → W2 x = W x) (o3 : ∀ x, x ≠ c → O2 x = O x) (b1 : 1 ≤ i) (b2 : i ≤ 16) (ht : isB i t = true) (he : (O c)[j]? = some e) (hi : e.2.2.1 = i)
    (hr : (W2 c = W c ∧ O2 c = (O c).eraseIdx j ∧ H (4 + c) i = false) ∨ (W2 c = W c ++ [(4, i, 0, 0, 0)] ∧ O2 c = (O c).set j (e.1, e.2.1, e.2.2.1, e.2.2.2.1, 2) ∧ e.2.1 = 2 ∧ tkA ac e)) : PINV O2 W2 H up pe S rc ac n qu am nq := by
  obtain ⟨i1, i2, i3, i4, i5, i6, i7, i8, i9, i10, i11, i12, i13⟩ := I
  have T1 := i1 c hc
  rw [hW] at T1
  obtain ⟨hu, _⟩ := TOK_back T1 b1 b2 ht
  have heO : e ∈ O c := ls_mem he
  -- an entry of the new outbox: an old one other than e, or e released
  have mem : ∀ a, a ∈ O2 c → (a ∈ O c ∧ a ≠ e) ∨ a = (e.1, e.2.1, e.2.2.1, e.2.2.2.1, 2) := by
    intro a ha
    have key : ∀ (x : Nat), x ≠ j → (O c)[x]? = some a → a ∈ O c ∧ a ≠ e := by
      intro x hx hxa
      refine ⟨ls_mem hxa, fun z => hx ?_⟩
      subst z
      exact T1.1 x j a a hxa he rfl
    rcases hr with ⟨_, h, _⟩ | ⟨_, h, _⟩
    · rw [h] at ha
      obtain ⟨x, hx⟩ := List.mem_iff_getElem?.mp ha
      rw [List.getElem?_eraseIdx] at hx
      by_cases y : x < j
      · rw [if_pos y] at hx
        exact Or.inl (key x (by omega) hx)
      · rw [if_neg y] at hx
        exact Or.inl (key (x + 1) (by omega) hx)
    · rw [h] at ha
      obtain ⟨x, hx⟩ := List.mem_iff_getElem?.mp ha
      rw [List.getElem?_set] at hx
      by_cases y : j = x
      · rw [if_pos y, if_pos (ls_lt he)] at hx
        exact Or.inr (Option.some.inj hx).symm
      · rw [if_neg y] at hx
        exact Or.inl (key x (fun z => y z.symm) hx)
  have src : ∀ c' a, c' < 4 → a ∈ O2 c' → ∃ a', a' ∈ O c' ∧ a'.1 = a.1 ∧ a'.2.1 = a.2.1 ∧ a'.2.2.2.1 = a.2.2.2.1 := by
    intro c' a h1 ha
    by_cases x : c' = c
    · subst x
      rcases mem a ha with ⟨h, _⟩ | h
      · exact ⟨a, h, rfl, rfl, rfl⟩
      · exact ⟨e, heO, by rw [h], by rw [h], by rw [h]⟩
    · rw [o3 c' x] at ha
      exact ⟨a, ha, rfl, rfl, rfl⟩
  refine ⟨fun c' hc' => ?_, fun c' hc' => ?_, fun c' hc' hd => ?_, fun c' hc' => ?_, fun c' hc' x hx hk1 => ?_, fun c1 c2 h1 h2 a b ha hb hs => ?_, i7, fun c' hc' a ha hq hs hH => ?_, i9, fun d s hd ha => ?_, fun d s hd hs hx => ?_, i12, fun d s hd ha => ?_⟩
  · by_cases x : c' = c
    · subst x
      rw [w2]
      rcases hr with ⟨q1, q2, q3⟩ | ⟨q1, q2, q3, q4⟩
      · rw [q1, q2]
        exact TOK_end T1 b1 b2 ht he hi q3
      · rw [q1, q2]
        exact TOK_rel T1 b1 b2 ht he hi q3 q4
    · rw [o3 c' x, w3 c' x (by omega), w3 (4 + c') (by omega) (by omega)]
      exact i1 c' hc'
  · rw [o3 (4 + c') (by omega)]
    by_cases x : c' = c
    · subst x
      have T := i2 c' hc'
      rw [hW] at T
      rw [w2]
      have T' := TOK_Fp T (fun y _ => isF_of_B ht)
      rcases hr with ⟨q1, _, _⟩ | ⟨q1, _, _, _⟩
      · rw [q1]; exact T'
      · rw [q1]; exact TOK_B T' (fun y _ => isB_4)
    · rw [w3 c' x (by omega), w3 (4 + c') (by omega) (by omega)]
      exact i2 c' hc'
  · by_cases x : c' = c
    · rw [x, hu] at hd; exact absurd hd (by decide)
    · rw [w3 c' x (by omega), w3 (4 + c') (by omega) (by omega)]
      exact i3 c' hc' hd
  · refine ⟨?_, fun a ha => ?_⟩
    · by_cases x : c' = c
      · subst x
        have := (i4 c' hc').1
        rcases hr with ⟨_, q2, _⟩ | ⟨_, q2, _, _⟩
        · rw [q2, List.length_eraseIdx_of_lt (ls_lt he)]; omega
        · rw [q2, List.length_set]; exact this
      · rw [o3 c' x]; exact (i4 c' hc').1
    · obtain ⟨a', h, g1, g2, g3⟩ := src c' a hc' ha
      obtain ⟨x1, x2, x3⟩ := (i4 c' hc').2 a' h
      rw [← g1, ← g2, ← g3]
      exact ⟨x1, x2, x3⟩
  · by_cases y : c' = c
    · subst y
      rcases hr with ⟨q1, _, _⟩ | ⟨q1, _, _, _⟩
      · rw [q1] at hx; exact i5 c' hc' x hx hk1
      · rw [q1] at hx
        rcases List.mem_append.mp hx with h | h
        · exact i5 c' hc' x h hk1
        · rw [List.mem_singleton.mp h] at hk1
          exact absurd hk1 (by decide : ¬ (4 : Nat) = 1)
    · rw [w3 c' y (by omega)] at hx
      exact i5 c' hc' x hx hk1
  · obtain ⟨a', ha', g1, _, _⟩ := src c1 a h1 ha
    obtain ⟨b', hb', g2, _, _⟩ := src c2 b h2 hb
    obtain ⟨hcc, hab⟩ := i6 c1 c2 h1 h2 a' b' ha' hb' (by rw [g1, g2]; exact hs)
    refine ⟨hcc, ?_⟩
    subst hcc
    by_cases x : c1 = c
    · subst x
      rcases mem a ha with ⟨p1, p2⟩ | p1 <;> rcases mem b hb with ⟨p3, p4⟩ | p3
      · exact (i6 c1 c1 h1 h1 a b p1 p3 hs).2
      · exact absurd (i6 c1 c1 h1 h1 a e p1 heO (by rw [hs, p3])).2 p2
      · exact absurd (i6 c1 c1 h1 h1 b e p3 heO (by rw [← hs, p1])).2 p4
      · rw [p1, p3]
    · rw [o3 c1 x] at ha hb
      exact (i6 c1 c1 h1 h1 a b ha hb hs).2
  · by_cases x : c' = c
    · subst x
      rcases mem a ha with ⟨p1, _⟩ | p1
      · exact i8 c' hc' a p1 hq hs hH
      · rw [p1] at hs
        exact absurd hs (by decide : ¬ (2 : Nat) = 1)
    · rw [o3 c' x] at ha
      exact i8 c' hc' a ha hq hs hH
  · rw [o3 (4 + d) (by omega)]
    obtain ⟨a, b, g⟩ := i10 d s hd ha
    refine ⟨a, b, fun y hy => ?_⟩
    by_cases x : d = c
    · subst x
      rw [w2] at hy
      exact g y (by rw [hW]; exact List.mem_cons_of_mem _ hy)
    · rw [w3 (4 + d) (by omega) (by omega)] at hy
      exact g y hy
  · rw [o3 (4 + d) (by omega)]
    obtain ⟨a, b, g, f⟩ := i11 d s hd hs hx
    refine ⟨a, b, g, fun y hy => ?_⟩
    by_cases x : d = c
    · subst x
      rw [w2] at hy
      exact f y (by rw [hW]; exact List.mem_cons_of_mem _ hy)
    · rw [w3 (4 + d) (by omega) (by omega)] at hy
      exact f y hy
  · rw [o3 (4 + d) (by omega)]
    exact i13 d s hd ha
end Q19
end
section
section Q20
/-- the broker handles a publication or a release of client c's; V d: the wire down to d behind the sends -/
theorem PINV_rcvB {O O2 W W2 : Nat → List N5} {V : Nat → List N5} {H H2 : Nat → Nat → Bool} {up pe : Nat → Bool} {S : Nat → List (Int32 × Nat)} {rc : Nat → Nat → Nat} {ac ac2 : Nat → Nat} {n : Nat} {qu : Nat → Nat} {am : Nat → Nat → Bool} {nq : Nat → Bool} (I : PINV O W H up pe S rc ac n qu am nq) {c i k : Nat} {hb : Bool} {t e : N5} {L : List N5} (hc : c < 4) (hW : W c = t :: L)
    (w1 : W2 c = L) (w2 : ∀ x, x < 4 → x ≠ c → W2 x = W x) (w3 : W2 (4 + c) = V c ++ [(k, i, 0, 0, 0)]) (w4 : ∀ d, d < 4 → d ≠ c → W2 (4 + d) = V d) (o1 : ∀ x, x < 4 → O2 x = O x)
    (h1 : H2 (4 + c) = fu (H (4 + c)) i hb) (h2 : ∀ x, x ≠ 4 + c → H2 x = H x) (hk : k = 2 ∨ k = 3 ∨ k = 5) (b1 : 1 ≤ i) (b2 : i ≤ 16) (ht : isF i t = true) (he : lk (O c) i = some e)
    (hr : (e.2.1 = 1 ∧ e.2.2.2.2 = 1 ∧ hb = false ∧ k = 2 ∧ tkA ac2 e) ∨ (e.2.1 = 2 ∧ e.2.2.2.2 = 1 ∧ tkA ac2 e ∧ k = 3 ∧ hb = true) ∨ (e.2.1 = 2 ∧ e.2.2.2.2 = 2 ∧ tkA ac2 e ∧ k = 5 ∧ hb = false))
    (acm : ∀ s, ac s ≤ ac2 s) (aco : ∀ s, s ≠ e.1 → ac2 s = ac s) (acq : qu e.1 = 2 → ac2 e.1 ≤ 1) (ac8 : ∀ a, a ∈ O c → a.2.1 = 2 → a.2.2.2.2 = 1 → fu (H (4 + c)) i hb a.2.2.1 = false → ac2 a.1 = 0)
    (v1 : ∀ d B tk, d < 4 → TOK (O (4 + d)) (W (4 + d)) B (H d) (up d) tk → TOK (O2 (4 + d)) (V d) B (H d) (up d) tk) (v2 : ∀ d E F G tk, d < 4 → TOK E F (W (4 + d)) G (up d) tk → TOK E F (V d) G (up d) tk) (v3 : ∀ d, d < 4 → up d = false → V d = W (4 + d)) (v4 : ∀ d a, d < 4 → a ∈ O (4 + d) → a ∈ O2 (4 + d))
    (v10 : ∀ d s, d < 4 → ac2 s = 0 → NS (O2 (4 + d)) (V d) (rc d s) s) (v11 : ∀ d s, d < 4 → qu s = 2 → (nq d = false ∨ am d s = true) → XO (O2 (4 + d)) (V d) (H d) (rc d s) s) : PINV O2 W2 H2 up pe S rc ac2 n qu am nq := by
  obtain ⟨i1, i2, i3, i4, i5, i6, i7, i8, i9, i10, i11, i12, i13⟩ := I
  have T1 := i1 c hc
  rw [hW] at T1
  obtain ⟨hu, _⟩ := TOK_look T1 b1 b2 ht
  obtain ⟨heO, _⟩ := lk_mem he
  have mono : ∀ (E F B : List N5) (G : Nat → Bool) (u : Bool), TOK E F B G u (tkA ac) → TOK E F B G u (tkA ac2) := fun E F B G u T => TOK_mono (fun a _ h => Nat.le_trans h (acm a.1)) T
  refine ⟨fun c' hc' => ?_, fun c' hc' => ?_, fun c' hc' hd => ?_, fun c' hc' => ?_, fun c' hc' x hx hk1 => ?_, fun x y hx hy a b ha hb => ?_, fun s hs => ?_, fun c' hc' a ha hq hs hH => ?_, fun s hs => ?_, fun d s hd ha => ?_, fun d s hd hs hx => ?_, i12, fun d s hd ha => ?_⟩
  · rw [o1 c' hc']
    by_cases x : c' = c
    · subst x
      rw [w1, w3, h1]
      exact TOK_reply (v2 c' _ _ _ _ hc' (mono _ _ _ _ _ T1)) b1 b2 ht he hk hr
    · rw [w2 c' hc' x, w4 c' hc' x, h2 (4 + c') (by omega)]
      exact v2 c' _ _ _ _ hc' (mono _ _ _ _ _ (i1 c' hc'))
  · by_cases x : c' = c
    · subst x
      have T := i2 c' hc'
      rw [hW] at T
      rw [w1, w3, h2 c' (by omega)]
      exact TOK_F (v1 c' _ _ hc' (TOK_Bp T (fun j _ => isB_of_F ht))) (fun j _ => isF_rep hk)
    · rw [w2 c' hc' x, w4 c' hc' x, h2 c' (by omega)]
      exact v1 c' _ _ hc' (i2 c' hc')
  · by_cases x : c' = c
    · rw [x, hu] at hd; exact absurd hd (by decide)
    · rw [w2 c' hc' x, w4 c' hc' x, v3 c' hc' hd]
      exact i3 c' hc' hd
  · rw [o1 c' hc']; exact i4 c' hc'
  · by_cases y : c' = c
    · subst y
      rw [w1] at hx
      exact i5 c' hc' x (by rw [hW]; exact List.mem_cons_of_mem _ hx) hk1
    · rw [w2 c' hc' y] at hx
      exact i5 c' hc' x hx hk1
  · rw [o1 x hx] at ha
    rw [o1 y hy] at hb
    exact i6 x y hx hy a b ha hb
  · by_cases x : s = e.1
    · rw [x] at hs ⊢; exact acq hs
    · rw [aco s x]; exact i7 s hs
  · rw [o1 c' hc'] at ha
    by_cases x : c' = c
    · subst x
      rw [h1] at hH
      exact ac8 a ha hq hs hH
    · rw [h2 (4 + c') (by omega)] at hH
      have hne : a.1 ≠ e.1 := fun z => x (i6 c' c hc' hc a e ha heO z).1
      rw [aco a.1 hne]
      exact i8 c' hc' a ha hq hs hH
  · have hne : s ≠ e.1 := by
      intro z
      have := ((i4 c hc).2 e heO).1
      omega
    rw [aco s hne]
    exact i9 s hs
  · have N := v10 d s hd ha
    by_cases x : d = c
    · subst x
      rw [w3]
      refine ⟨N.1, N.2.1, fun y hy hk1 hs => ?_⟩
      rcases List.mem_append.mp hy with h | h
      · exact N.2.2 y h hk1 hs
      · rw [List.mem_singleton.mp h] at hk1
        have : k = 1 := hk1
        omega
    · rw [w4 d hd x]; exact N
  · have N := v11 d s hd hs hx
    rw [h2 d (by omega)]
    by_cases x : d = c
    · subst x
      rw [w3]
      refine ⟨N.1, N.2.1, N.2.2.1, fun y hy hk1 hs' hm => ?_⟩
      rcases List.mem_append.mp hy with h | h
      · exact N.2.2.2 y h hk1 hs' hm
      · rw [List.mem_singleton.mp h] at hk1
        have : k = 1 := hk1
        omega
    · rw [w4 d hd x]; exact N
  · obtain ⟨a, b, e', f⟩ := i13 d s hd ha
    exact ⟨a, Nat.le_trans b (acm s), e', f.elim Or.inl (fun ⟨x, hx, g1, g2⟩ => Or.inr ⟨x, v4 d x hd hx, g1, g2⟩)⟩
/-- the broker handles a publication of quality 0 -/
theorem PINV_rcvB0 {O O2 W W2 : Nat → List N5} {V : Nat → List N5} {H : Nat → Nat → Bool} {up pe : Nat → Bool} {S : Nat → List (Int32 × Nat)} {rc : Nat → Nat → Nat} {ac ac2 : Nat → Nat} {n : Nat} {qu : Nat → Nat} {am : Nat → Nat → Bool} {nq : Nat → Bool} (I : PINV O W H up pe S rc ac n qu am nq) {c s0 m0 : Nat} {L : List N5} (hc : c < 4) (hW : W c = (1, 0, s0, 0, m0) :: L)
    (w1 : W2 c = L) (w2 : ∀ x, x < 4 → x ≠ c → W2 x = W x) (w4 : ∀ d, d < 4 → W2 (4 + d) = V d) (o1 : ∀ x, x < 4 → O2 x = O x)
    (acm : ∀ s, ac s ≤ ac2 s) (aco : ∀ s, s ≠ s0 → ac2 s = ac s)
    (v1 : ∀ d B tk, d < 4 → TOK (O (4 + d)) (W (4 + d)) B (H d) (up d) tk → TOK (O2 (4 + d)) (V d) B (H d) (up d) tk) (v2 : ∀ d E F G tk, d < 4 → TOK E F (W (4 + d)) G (up d) tk → TOK E F (V d) G (up d) tk) (v3 : ∀ d, d < 4 → up d = false → V d = W (4 + d)) (v4 : ∀ d a, d < 4 → a ∈ O (4 + d) → a ∈ O2 (4 + d))
    (v10 : ∀ d s, d < 4 → ac2 s = 0 → NS (O2 (4 + d)) (V d) (rc d s) s) (v11 : ∀ d s, d < 4 → qu s = 2 → (nq d = false ∨ am d s = true) → XO (O2 (4 + d)) (V d) (H d) (rc d s) s) : PINV O2 W2 H up pe S rc ac2 n qu am nq := by
  obtain ⟨i1, i2, i3, i4, i5, i6, i7, i8, i9, i10, i11, i12, i13⟩ := I
  obtain ⟨hs0, hq0⟩ := i5 c hc (1, 0, s0, 0, m0) (by rw [hW]; exact List.mem_cons_self ..) rfl
  have hs0 : s0 ≤ n := hs0
  have hq0 : 0 = qu s0 := hq0
  have mono : ∀ (E F B : List N5) (G : Nat → Bool) (u : Bool), TOK E F B G u (tkA ac) → TOK E F B G u (tkA ac2) := fun E F B G u T => TOK_mono (fun a _ h => Nat.le_trans h (acm a.1)) T
  refine ⟨fun c' hc' => ?_, fun c' hc' => ?_, fun c' hc' hd => ?_, fun c' hc' => ?_, fun c' hc' x hx hk1 => ?_, fun x y hx hy a b ha hb => ?_, fun s hs => ?_, fun c' hc' a ha hq hs hH => ?_, fun s hs => ?_, fun d s hd ha => by rw [w4 d hd]; exact v10 d s hd ha, fun d s hd hs hx => by rw [w4 d hd]; exact v11 d s hd hs hx, i12, fun d s hd ha => ?_⟩
  · rw [o1 c' hc', w4 c' hc']
    by_cases x : c' = c
    · subst x
      have T1 := i1 c' hc'
      rw [hW] at T1
      rw [w1]
      exact v2 c' _ _ _ _ hc' (mono _ _ _ _ _ (TOK_Fp T1 (fun j hj => isF_0 hj)))
    · rw [w2 c' hc' x]
      exact v2 c' _ _ _ _ hc' (mono _ _ _ _ _ (i1 c' hc'))
  · rw [w4 c' hc']
    by_cases x : c' = c
    · subst x
      have T := i2 c' hc'
      rw [hW] at T
      rw [w1]
      exact v1 c' _ _ hc' (TOK_Bp T (fun j _ => isB_1))
    · rw [w2 c' hc' x]
      exact v1 c' _ _ hc' (i2 c' hc')
  · by_cases x : c' = c
    · subst x
      have := (i3 c' hc' hd).1
      rw [hW] at this
      exact absurd this (by simp)
    · rw [w2 c' hc' x, w4 c' hc', v3 c' hc' hd]
      exact i3 c' hc' hd
  · rw [o1 c' hc']; exact i4 c' hc'
  · by_cases y : c' = c
    · subst y
      rw [w1] at hx
      exact i5 c' hc' x (by rw [hW]; exact List.mem_cons_of_mem _ hx) hk1
    · rw [w2 c' hc' y] at hx
      exact i5 c' hc' x hx hk1
  · rw [o1 x hx] at ha
    rw [o1 y hy] at hb
    exact i6 x y hx hy a b ha hb
  · by_cases x : s = s0
    · rw [x, ← hq0] at hs; omega
    · rw [aco s x]; exact i7 s hs
  · rw [o1 c' hc'] at ha
    have hne : a.1 ≠ s0 := by
      intro z
      have := ((i4 c' hc').2 a ha).2.1
      rw [hq, z, ← hq0] at this
      omega
    rw [aco a.1 hne]
    exact i8 c' hc' a ha hq hs hH
  · rw [aco s (by omega)]
    exact i9 s hs
  · obtain ⟨a, b, e', f⟩ := i13 d s hd ha
    exact ⟨a, Nat.le_trans b (acm s), e', f.elim Or.inl (fun ⟨x, hx, g1, g2⟩ => Or.inr ⟨x, v4 d x hd hx, g1, g2⟩)⟩
end Q20
end
section
section Q21
/-- the broker, the sender, handles an answer of client c's -/
theorem PINV_ackB {O O2 W W2 : Nat → List N5} {H : Nat → Nat → Bool} {up pe : Nat → Bool} {S : Nat → List (Int32 × Nat)} {rc : Nat → Nat → Nat} {ac : Nat → Nat} {n : Nat} {qu : Nat → Nat} {am : Nat → Nat → Bool} {nq : Nat → Bool} (I : PINV O W H up pe S rc ac n qu am nq) {c i j : Nat} {t e : N5} {L : List N5} (hc : c < 4) (hW : W c = t :: L)
    (w2 : W2 c = L) (w3 : ∀ x, x ≠ c → x ≠ 4 + c → W2 x = W x) (o3 : ∀ x, x ≠ 4 + c → O2 x = O x) (b1 : 1 ≤ i) (b2 : i ≤ 16) (ht : isB i t = true) (he : (O (4 + c))[j]? = some e) (hi : e.2.2.1 = i) (htk : tkR rc c e)
    (hr : (W2 (4 + c) = W (4 + c) ∧ O2 (4 + c) = (O (4 + c)).eraseIdx j ∧ H c i = false) ∨ (W2 (4 + c) = W (4 + c) ++ [(4, i, 0, 0, 0)] ∧ O2 (4 + c) = (O (4 + c)).set j (e.1, e.2.1, e.2.2.1, e.2.2.2.1, 2) ∧ e.2.1 = 2)) : PINV O2 W2 H up pe S rc ac n qu am nq := by
  obtain ⟨i1, i2, i3, i4, i5, i6, i7, i8, i9, i10, i11, i12, i13⟩ := I
  have T2 := i2 c hc
  rw [hW] at T2
  obtain ⟨hu, _⟩ := TOK_back T2 b1 b2 ht
  have heO : e ∈ O (4 + c) := ls_mem he
  have mem : ∀ a, a ∈ O2 (4 + c) → (a ∈ O (4 + c) ∧ a ≠ e) ∨ a = (e.1, e.2.1, e.2.2.1, e.2.2.2.1, 2) := by
    intro a ha
    have key : ∀ (x : Nat), x ≠ j → (O (4 + c))[x]? = some a → a ∈ O (4 + c) ∧ a ≠ e := by
      intro x hx hxa
      refine ⟨ls_mem hxa, fun z => hx ?_⟩
      subst z
      exact T2.1 x j a a hxa he rfl
    rcases hr with ⟨_, h, _⟩ | ⟨_, h, _⟩
    · rw [h] at ha
      obtain ⟨x, hx⟩ := List.mem_iff_getElem?.mp ha
      rw [List.getElem?_eraseIdx] at hx
      by_cases y : x < j
      · rw [if_pos y] at hx
        exact Or.inl (key x (by omega) hx)
      · rw [if_neg y] at hx
        exact Or.inl (key (x + 1) (by omega) hx)
    · rw [h] at ha
      obtain ⟨x, hx⟩ := List.mem_iff_getElem?.mp ha
      rw [List.getElem?_set] at hx
      by_cases y : j = x
      · rw [if_pos y, if_pos (ls_lt he)] at hx
        exact Or.inr (Option.some.inj hx).symm
      · rw [if_neg y] at hx
        exact Or.inl (key x (fun z => y z.symm) hx)
  -- an entry other than e stays
  have stay : ∀ a, a ∈ O (4 + c) → a ≠ e → a ∈ O2 (4 + c) := by
    intro a ha hne
    obtain ⟨x, hx⟩ := List.mem_iff_getElem?.mp ha
    have hxj : x ≠ j := by
      intro z
      rw [z, he] at hx
      exact hne (Option.some.inj hx).symm
    apply List.mem_iff_getElem?.mpr
    rcases hr with ⟨_, h, _⟩ | ⟨_, h, _⟩
    · rw [h]
      by_cases y : x < j
      · exact ⟨x, by rw [List.getElem?_eraseIdx, if_pos y]; exact hx⟩
      · refine ⟨x - 1, ?_⟩
        rw [List.getElem?_eraseIdx, if_neg (by omega), show x - 1 + 1 = x by omega]
        exact hx
    · rw [h]
      exact ⟨x, by rw [List.getElem?_set, if_neg (fun z => hxj z.symm)]; exact hx⟩
  have wsub : ∀ y, y ∈ W2 (4 + c) → y.1 = 1 → y ∈ W (4 + c) := by
    intro y hy hk
    rcases hr with ⟨q, _, _⟩ | ⟨q, _, _⟩
    · rw [q] at hy; exact hy
    · rw [q] at hy
      rcases List.mem_append.mp hy with h | h
      · exact h
      · rw [List.mem_singleton.mp h] at hk
        exact absurd hk (by decide : ¬ (4 : Nat) = 1)
  refine ⟨fun c' hc' => ?_, fun c' hc' => ?_, fun c' hc' hd => ?_, fun c' hc' => ?_, fun c' hc' x hx hk1 => ?_, fun c1 c2 h1 h2 a b ha hb => ?_, i7, fun c' hc' a ha => ?_, i9, fun d s hd ha => ?_, fun d s hd hs hx => ?_, i12, fun d s hd ha => ?_⟩
  · rw [o3 c' (by omega)]
    by_cases x : c' = c
    · subst x
      have T := i1 c' hc'
      rw [hW] at T
      rw [w2]
      have T' := TOK_Fp T (fun y _ => isF_of_B ht)
      rcases hr with ⟨q1, _, _⟩ | ⟨q1, _, _⟩
      · rw [q1]; exact T'
      · rw [q1]; exact TOK_B T' (fun y _ => isB_4)
    · rw [w3 c' x (by omega), w3 (4 + c') (by omega) (by omega)]
      exact i1 c' hc'
  · by_cases x : c' = c
    · subst x
      rw [w2]
      rcases hr with ⟨q1, q2, q3⟩ | ⟨q1, q2, q3⟩
      · rw [q1, q2]
        exact TOK_end T2 b1 b2 ht he hi q3
      · rw [q1, q2]
        exact TOK_rel T2 b1 b2 ht he hi q3 htk
    · rw [o3 (4 + c') (by omega), w3 c' x (by omega), w3 (4 + c') (by omega) (by omega)]
      exact i2 c' hc'
  · by_cases x : c' = c
    · rw [x, hu] at hd; exact absurd hd (by decide)
    · rw [w3 c' x (by omega), w3 (4 + c') (by omega) (by omega)]
      exact i3 c' hc' hd
  · rw [o3 c' (by omega)]; exact i4 c' hc'
  · by_cases y : c' = c
    · subst y
      rw [w2] at hx
      exact i5 c' hc' x (by rw [hW]; exact List.mem_cons_of_mem _ hx) hk1
    · rw [w3 c' y (by omega)] at hx
      exact i5 c' hc' x hx hk1
  · rw [o3 c1 (by omega)] at ha
    rw [o3 c2 (by omega)] at hb
    exact i6 c1 c2 h1 h2 a b ha hb
  · rw [o3 c' (by omega)] at ha
    exact i8 c' hc' a ha
  · obtain ⟨a, b, g⟩ := i10 d s hd ha
    by_cases x : d = c
    · subst x
      refine ⟨a, fun a' ha' hs => ?_, fun y hy hk hs => g y (wsub y hy hk) hk hs⟩
      rcases mem a' ha' with ⟨h, _⟩ | h
      · exact b a' h hs
      · rw [h] at hs ⊢
        exact b e heO hs
    · rw [o3 (4 + d) (by omega), w3 (4 + d) (by omega) (by omega)]
      exact ⟨a, b, g⟩
  · obtain ⟨a, b, g, f⟩ := i11 d s hd hs hx
    by_cases x : d = c
    · subst x
      refine ⟨a, fun a' ha' hs' hm => ?_, fun a1 a2 h1 h2 s1 s2 m1 m2 => ?_, fun y hy hk hs' hm => f y (wsub y hy hk) hk hs' hm⟩
      · rcases mem a' ha' with ⟨h, _⟩ | h
        · exact b a' h hs' hm
        · rw [h] at hs' hm ⊢
          exact ⟨(b e heO hs' hm).1, fun z => absurd z (by decide : ¬ (2 : Nat) = 1)⟩
      · rcases mem a1 h1 with ⟨p1, p2⟩ | p1 <;> rcases mem a2 h2 with ⟨p3, p4⟩ | p3
        · exact g a1 a2 p1 p3 s1 s2 m1 m2
        · rw [p3] at s2 m2
          exact absurd (g a1 e p1 heO s1 s2 m1 m2) p2
        · rw [p1] at s1 m1
          exact absurd (g a2 e p3 heO s2 s1 m2 m1) p4
        · rw [p1, p3]
    · rw [o3 (4 + d) (by omega), w3 (4 + d) (by omega) (by omega)]
      exact ⟨a, b, g, f⟩
  · obtain ⟨a, b, e', f⟩ := i13 d s hd ha
    refine ⟨a, b, e', ?_⟩
    rcases f with f | ⟨x, hx, g1, g2⟩
    · exact Or.inl f
    · by_cases y : d = c
      · subst y
        by_cases z : x = e
        · subst z
          have := htk g2
          rw [g1] at this
          exact Or.inl this
        · exact Or.inr ⟨x, stay x hx z, g1, g2⟩
      · rw [o3 (4 + d) (by omega)]
        exact Or.inr ⟨x, hx, g1, g2⟩
/-! what an ACCEPT leaves at one client's end -/
theorem ACD_TOK {S : List (Int32 × Nat)} {T : Int32} {q sn v v' : Nat} {up : Bool} {O W O' W' B : List N5} {G : Nat → Bool} {tk : N5 → Prop} (h : ACD S T q up sn O W v O' W' v') (hq : q ≤ 2) (X : TOK O W B G up tk) : TOK O' W' B G up tk := by
  rcases h with ⟨_, h1, h2, _⟩ | ⟨b, b2, _, _, h⟩
  · rw [h1, h2]; exact X
  · exact SND_TOK h (by split <;> omega) X
theorem ACD_B {S : List (Int32 × Nat)} {T : Int32} {q sn v v' : Nat} {up u : Bool} {O W O' W' E F : List N5} {G : Nat → Bool} {tk : N5 → Prop} (h : ACD S T q up sn O W v O' W' v') (X : TOK E F W G u tk) : TOK E F W' G u tk := by
  rcases h with ⟨_, h1, h2, _⟩ | ⟨b, b2, _, _, h⟩
  · rw [h2]; exact X
  · exact SND_B h X
theorem ACD_dn {S : List (Int32 × Nat)} {T : Int32} {q sn v v' : Nat} {O W O' W' : List N5} (h : ACD S T q false sn O W v O' W' v') : W' = W := by
  rcases h with ⟨_, h1, h2, _⟩ | ⟨b, b2, _, _, h⟩
  · exact h2
  · exact SND_dn h
theorem ACD_len {S : List (Int32 × Nat)} {T : Int32} {q sn v v' : Nat} {up : Bool} {O W O' W' : List N5} (h : ACD S T q up sn O W v O' W' v') : W'.length ≤ W.length + 1 := by
  rcases h with ⟨_, h1, h2, _⟩ | ⟨b, b2, _, _, h⟩
  · rw [h2]; omega
  · exact SND_len h
theorem ACD_O {S : List (Int32 × Nat)} {T : Int32} {q sn v v' : Nat} {up : Bool} {O W O' W' : List N5} (h : ACD S T q up sn O W v O' W' v') : (∀ a, a ∈ O → a ∈ O') ∧ ∀ a, a ∈ O' → a ∈ O ∨ a.1 = sn := by
  rcases h with ⟨_, h1, h2, _⟩ | ⟨b, b2, _, _, h⟩
  · rw [h1]; exact ⟨fun a h => h, fun a h => Or.inl h⟩
  · obtain ⟨g1, g2⟩ := SND_O h
    exact ⟨g1, fun a ha => (g2 a ha).elim Or.inl (fun z => Or.inr z.1)⟩
theorem ACD_W {S : List (Int32 × Nat)} {T : Int32} {q sn v v' : Nat} {up : Bool} {O W O' W' : List N5} (h : ACD S T q up sn O W v O' W' v') : ∀ t, t ∈ W' → t ∈ W ∨ t.2.2.1 = sn := by
  rcases h with ⟨_, h1, h2, _⟩ | ⟨b, b2, _, _, h⟩
  · rw [h2]; exact fun t h => Or.inl h
  · exact fun t ht => (SND_W h t ht).elim Or.inl (fun z => Or.inr z.2.1)
theorem ACD_NS {S : List (Int32 × Nat)} {T : Int32} {q sn v v' r s : Nat} {up : Bool} {O W O' W' : List N5} (h : ACD S T q up sn O W v O' W' v') (hs : s ≠ sn) (N : NS O W r s) : NS O' W' r s := by
  refine ⟨N.1, fun e he hes => ?_, fun t ht hk hts => ?_⟩
  · exact ((ACD_O h).2 e he).elim (fun z => N.2.1 e z hes) (fun z => absurd (hes.symm.trans z) hs)
  · exact (ACD_W h t ht).elim (fun z => N.2.2 t z hk hts) (fun z => absurd (hts.symm.trans z) hs)
theorem ACD_XOn {S : List (Int32 × Nat)} {T : Int32} {q sn v v' r s : Nat} {up : Bool} {O W O' W' : List N5} {G : Nat → Bool} (h : ACD S T q up sn O W v O' W' v') (hs : s ≠ sn) (N : XO O W G r s) : XO O' W' G r s := by
  have mO : ∀ a, a ∈ O' → a.1 = s → a ∈ O := fun a ha has => ((ACD_O h).2 a ha).elim id (fun z => absurd (has.symm.trans z) hs)
  exact ⟨N.1, fun e he hes hm => N.2.1 e (mO e he hes) hes hm, fun e e' he he' h1 h2 m1 m2 => N.2.2.1 e e' (mO e he h1) (mO e' he' h2) h1 h2 m1 m2, fun t ht hk hts hm => (ACD_W h t ht).elim (fun z => N.2.2.2 t z hk hts hm) (fun z => absurd (hts.symm.trans z) hs)⟩
/-- the serial itself, of quality 2, sent with quality 2 -/
theorem ACD_XO {S : List (Int32 × Nat)} {T : Int32} {sn v v' r : Nat} {up : Bool} {O W O' W' : List N5} {G : Nat → Bool} (h : ACD S T 2 up sn O W v O' W' v') (hb : ∀ b : Nat, (∃ f, f ∈ S ∧ ma f.1 T = true ∧ f.2 = b) → (∀ f, f ∈ S → ma f.1 T = true → f.2 ≤ b) → b = 2) (N : NS O W r sn) : XO O' W' G r sn := by
  rcases h with ⟨_, h1, h2, _⟩ | ⟨b, b2, x1, x2, h⟩
  · rw [h1, h2]; exact XO_0 N
  · have hb2 := hb b x1 x2
    subst hb2
    rw [if_pos (Nat.le_refl 2)] at h
    obtain ⟨g1, g2⟩ := SND_O h
    have gW := SND_W h
    have N1 := N.1
    refine ⟨by omega, fun e he hs hm => ?_, fun e e' he he' s1 s2 m1 m2 => ?_, fun t ht hk hs hm => ?_⟩
    · rcases g2 e he with z | z
      · have := N.2.1 e z hs; omega
      · exact ⟨z.2.1, fun _ _ => N1⟩
    · rcases g2 e he with z | z <;> rcases g2 e' he' with y | y
      · have := N.2.1 e z s1; omega
      · have := N.2.1 e z s1; omega
      · have := N.2.1 e' y s2; omega
      · have h1 := z.2.2.2.2.1
        rw [y.2.2.2.2.1] at h1
        have := List.append_cancel_left h1
        rw [List.cons.injEq] at this
        exact this.1.symm
    · rcases gW t ht with z | z
      · have := N.2.2 t z hk hs; omega
      · omega
/-- what arms a serial: an entry was made -/
theorem ACD_ent {S : List (Int32 × Nat)} {T : Int32} {q sn v v' : Nat} {up : Bool} {O W O' W' : List N5} (h : ACD S T q up sn O W v O' W' v') (q1 : 1 ≤ q) (hv : v' = v) (hf : ∃ f, f ∈ S ∧ ma f.1 T = true ∧ q ≤ f.2) : ∃ e, e ∈ O' ∧ e.1 = sn ∧ e.2.2.2.1 = 0 := by
  obtain ⟨f, f1, f2, f3⟩ := hf
  rcases h with ⟨h0, _⟩ | ⟨b, b2, x1, x2, h⟩
  · rw [h0 f f1] at f2
    exact absurd f2 (by decide)
  · have hbq : q ≤ b := Nat.le_trans f3 (x2 f f1 f2)
    have he : 1 ≤ (if b ≤ q then b else q) := by split <;> omega
    rcases h with ⟨z, _⟩ | ⟨_, _, _, _, z⟩ | ⟨_, _, i, _, _, _, z, _⟩
    · omega
    · omega
    · exact ⟨_, by rw [z]; exact List.mem_append.mpr (Or.inr (List.mem_singleton.mpr rfl)), rfl, rfl⟩
/-- arming -/
theorem PINV_arm {O W : Nat → List N5} {H : Nat → Nat → Bool} {up pe : Nat → Bool} {S : Nat → List (Int32 × Nat)} {rc : Nat → Nat → Nat} {ac : Nat → Nat} {n : Nat} {qu : Nat → Nat} {am am' : Nat → Nat → Bool} {nq : Nat → Bool} (I : PINV O W H up pe S rc ac n qu am nq) (h : ∀ d s, d < 4 → am' d s = true → am d s = true ∨ (pe d = true ∧ 1 ≤ ac s ∧ 1 ≤ qu s ∧ (∃ e, e ∈ O (4 + d) ∧ e.1 = s ∧ e.2.2.2.1 = 0) ∧ (qu s = 2 → XO (O (4 + d)) (W (4 + d)) (H d) (rc d s) s))) : PINV O W H up pe S rc ac n qu am' nq := by
  obtain ⟨i1, i2, i3, i4, i5, i6, i7, i8, i9, i10, i11, i12, i13⟩ := I
  refine ⟨i1, i2, i3, i4, i5, i6, i7, i8, i9, i10, fun d s hd hq hx => ?_, i12, fun d s hd ha => ?_⟩
  · rcases hx with hx | hx
    · exact i11 d s hd hq (Or.inl hx)
    · rcases h d s hd hx with z | z
      · exact i11 d s hd hq (Or.inr z)
      · exact z.2.2.2.2 hq
  · rcases h d s hd ha with z | z
    · exact i13 d s hd z
    · exact ⟨z.1, z.2.1, z.2.2.1, Or.inr z.2.2.2.1⟩
end Q21
end
section
section Q22
/-- the class's state and its picture -/
def PIC (u : St1) (O W : Nat → List N5) (H : Nat → Nat → Bool) (up se pe : Nat → Bool) (S : Nat → List (Int32 × Nat)) (rc : Nat → Nat → Nat) (ac ov : Nat → Nat) (n : Nat) (tp : Nat → Int32) (qu : Nat → Nat) : Prop := ∃ (p : TP) (k : TK) (r : TR) (l s : TL) (o : TO) (h : TA) (w : TW), u = XS p k r l s o h w ∧ pc_P p n tp qu ∧ pc_K k rc ac ov ∧ pc_R r ∧ pc_L l up se pe ∧ pc_S s S ∧ pc_O o O ∧ pc_H h H ∧ pc_W w W
/-! what is still to be moved on a link -/
def sw (f : N5 → Nat) : List N5 → Nat
  | [] => 0
  | t :: l => f t + sw f l
theorem sw_app {f : N5 → Nat} {t : N5} : ∀ l, sw f (l ++ [t]) = sw f l + f t := by
  intro l
  induction l with
  | nil =>
    show f t + 0 = 0 + f t
    omega
  | cons a l ih =>
    show f a + sw f (l ++ [t]) = f a + sw f l + f t
    rw [ih]
    omega
/-- down: publication by quality 1, 2, 4; PUBACK 1, PUBREC 3, PUBREL 2, PUBCOMP 1; up: a publication may send one more down -/
def wd (t : N5) : Nat := if t.1 = 1 then (if t.2.2.2.1 = 0 then 1 else if t.2.2.2.1 = 1 then 2 else 4) else if t.1 = 3 then 3 else if t.1 = 4 then 2 else 1
def wu (t : N5) : Nat := wd t + (if t.1 = 1 then 4 else 0)
def k1 (t : N5) : Nat := if t.1 = 1 then 1 else 0
/-- one packet moved on link c, or nothing there -/
def MVC (c : Nat) (W W2 : Nat → List N5) : Prop := (∀ x, x ≠ c → x ≠ 4 + c → W2 x = W x) ∧ (W2 c).length ≤ (W c).length + 1 ∧ (W2 (4 + c)).length ≤ (W (4 + c)).length ∧ (W2 c).length + (W2 (4 + c)).length ≤ (W c).length + (W (4 + c)).length ∧ sw k1 (W2 c) ≤ sw k1 (W c) ∧ (W (4 + c) ≠ [] → sw wu (W2 c) + sw wd (W2 (4 + c)) < sw wu (W c) + sw wd (W (4 + c))) ∧ sw wu (W2 c) + sw wd (W2 (4 + c)) ≤ sw wu (W c) + sw wd (W (4 + c))
theorem MVC_0 {c : Nat} {W : Nat → List N5} (h : W (4 + c) = []) : MVC c W W := ⟨fun _ _ _ => rfl, by omega, Nat.le_refl _, Nat.le_refl _, Nat.le_refl _, fun z => absurd h z, Nat.le_refl _⟩
theorem MVC_r {c : Nat} {W W2 : Nat → List N5} {t r : N5} {L : List N5} (hW : W (4 + c) = t :: L) (w1 : W2 c = W c ++ [r]) (w2 : W2 (4 + c) = L) (w3 : ∀ x, x ≠ c → x ≠ 4 + c → W2 x = W x) (hr : r.1 ≠ 1) (hw : wd r < wd t) : MVC c W W2 := by
  have e1 : k1 r = 0 := if_neg hr
  have e2 : wu r = wd r := by unfold wu; rw [if_neg hr]; rfl
  have e3 : sw wd (W (4 + c)) = wd t + sw wd L := by rw [hW]; rfl
  refine ⟨w3, ?_, ?_, ?_, ?_, fun _ => ?_, ?_⟩
  · rw [w1, List.length_append, List.length_singleton]; omega
  · rw [w2, hW, List.length_cons]; omega
  · rw [w1, w2, hW, List.length_append, List.length_singleton, List.length_cons]; omega
  · rw [w1, sw_app, e1]; omega
  · rw [w1, w2, sw_app, e2, e3]; omega
  · rw [w1, w2, sw_app, e2, e3]; omega
theorem MVC_n {c : Nat} {W W2 : Nat → List N5} {t : N5} {L : List N5} (hW : W (4 + c) = t :: L) (w1 : W2 c = W c) (w2 : W2 (4 + c) = L) (w3 : ∀ x, x ≠ c → x ≠ 4 + c → W2 x = W x) (hw : 0 < wd t) : MVC c W W2 := by
  have e3 : sw wd (W (4 + c)) = wd t + sw wd L := by rw [hW]; rfl
  refine ⟨w3, ?_, ?_, ?_, ?_, fun _ => ?_, ?_⟩
  · rw [w1]; omega
  · rw [w2, hW, List.length_cons]; omega
  · rw [w1, w2, hW, List.length_cons]; omega
  · rw [w1]; exact Nat.le_refl _
  · rw [w1, w2, e3]; omega
  · rw [w1, w2, e3]; omega
theorem XO_sub {O W W' : List N5} {G : Nat → Bool} {r s : Nat} (h : XO O W G r s) (hw : ∀ t, t ∈ W' → t ∈ W) : XO O W' G r s := ⟨h.1, h.2.1, h.2.2.1, fun t ht => h.2.2.2 t (hw t ht)⟩
theorem px_tc_e {p : TP} {k : TK} {r : TR} {l s : TL} {o : TO} {h : TA} {w : TW} {up se pe : Nat → Bool} {W : Nat → List N5} (HL : pc_L l up se pe) (HW : pc_W w W) {c : Nat} (hc : c < 4) (hu : up c = true) (he : W (4 + c) = []) {post : Int32 → St1 → Prop} (hp : post 0 (XS p k r l s o h w)) : wpX_toClient post (XS p k r l s o h w) (nI c) := by
  obtain ⟨_, _, _, _, _, hcnt, _⟩ := HW.1 (4 + c) (by omega)
  have cc : (nI (4 + c)).toNatClampNeg = 4 + c := nI_clamp (by omega)
  rw [he] at hcnt
  unfold wpX_toClient
  exact nm_r (pn_4a c) (px_li1 (p := p) (k := k) (r := r) (l := l) (s := s) (o := o) (h := h) (w := w) HL hc hu (br_f (by decide) ⟨vp_in_nI (by omega) (by omega), br_t (by rw [cc, hcnt]; rfl) hp⟩))
theorem px_tc_d {p : TP} {k : TK} {r : TR} {l s : TL} {o : TO} {h : TA} {w : TW} {up se pe : Nat → Bool} (HL : pc_L l up se pe) {c : Nat} (hc : c < 4) (hu : up c = false) {post : Int32 → St1 → Prop} (hp : post 0 (XS p k r l s o h w)) : wpX_toClient post (XS p k r l s o h w) (nI c) := by
  unfold wpX_toClient
  exact nm_e (px_li0 (p := p) (k := k) (r := r) (l := l) (s := s) (o := o) (h := h) (w := w) HL hc hu (br_t rfl hp))
/-- the entry of a token -/
theorem lk_at {E : List N5} {i : Nat} {e : N5} (h : lk E i = some e) : ∃ j : Nat, E[j]? = some e ∧ e.2.2.1 = i := by
  obtain ⟨h1, h2⟩ := lk_mem h
  obtain ⟨j, hj⟩ := List.mem_iff_getElem?.mp h1
  exact ⟨j, hj, h2⟩
theorem isF_t {k i a b d : Nat} (hk : k = 1 ∨ k = 4) : isF i (k, i, a, b, d) = true := by
  unfold isF
  rcases hk with rfl | rfl <;> simp
theorem isB_t {k i a b d : Nat} (hk : k = 2 ∨ k = 3 ∨ k = 5) : isB i (k, i, a, b, d) = true := by
  unfold isB
  rcases hk with rfl | rfl | rfl <;> simp
end Q22
end
section
section Q23
theorem ql_tc {u : St1} {O W : Nat → List N5} {H : Nat → Nat → Bool} {up se pe : Nat → Bool} {S : Nat → List (Int32 × Nat)} {rc : Nat → Nat → Nat} {ac ov : Nat → Nat} {n : Nat} {tp : Nat → Int32} {qu : Nat → Nat} {am : Nat → Nat → Bool} {nq : Nat → Bool} (P : PIC u O W H up se pe S rc ac ov n tp qu) (I : PINV O W H up pe S rc ac n qu am nq) {c : Nat} (hc : c < 4) (hl : (W c).length < 32) :
    ∃ (u' : St1) (O2 W2 : Nat → List N5) (H2 : Nat → Nat → Bool) (rc2 : Nat → Nat → Nat) (R : Int32), PIC u' O2 W2 H2 up se pe S rc2 ac ov n tp qu ∧ PINV O2 W2 H2 up pe S rc2 ac n qu am nq ∧ MVC c W W2 ∧ (∀ d s, rc2 d s ≤ rc d s + 1) ∧ ∀ post : Int32 → St1 → Prop, post R u' → wpX_toClient post u (nI c) := by
  obtain ⟨p, k, r, l, s, o, h, w, rfl, HP, HK, HR, HL, HS, HO, HH, HW⟩ := P
  have I0 := I
  obtain ⟨i1, i2, i3, i4, i5, i6, i7, i8, i9, i10, i11, i12, i13⟩ := I
  cases hu : up c with
  | false => exact ⟨_, O, W, H, rc, 0, ⟨p, k, r, l, s, o, h, w, rfl, HP, HK, HR, HL, HS, HO, HH, HW⟩, I0, MVC_0 (i3 c hc hu).2, fun _ _ => by omega, fun post hp => px_tc_d HL hc hu hp⟩
  | true =>
    cases hW : W (4 + c) with
    | nil => exact ⟨_, O, W, H, rc, 0, ⟨p, k, r, l, s, o, h, w, rfl, HP, HK, HR, HL, HS, HO, HH, HW⟩, I0, MVC_0 hW, fun _ _ => by omega, fun post hp => px_tc_e HL HW hc hu hW hp⟩
    | cons t L =>
      obtain ⟨w', d, HW', hok, hd, hwt, hold, hrem⟩ := pq_pop HW (x := 4 + c) (by omega) hW
      have hne : W (4 + c) ≠ [] := by rw [hW]; exact List.cons_ne_nil t L
      obtain ⟨K, i, sn, q, m⟩ := t
      have hok0 := hok
      obtain ⟨k1', k5', i16, hser, _, q2, m1, hid, hid2⟩ := hok0
      have k1' : 1 ≤ K := k1'
      have k5' : K ≤ 5 := k5'
      have i16 : i ≤ 16 := i16
      have q2 : q ≤ 2 := q2
      have m1 : m ≤ 1 := m1
      have T2 := i2 c hc
      rw [hW] at T2
      have T1 := i1 c hc
      rw [hW] at T1
      have hl' : (fu W (4 + c) L c).length < 32 := by rw [fu_n (by omega)]; exact hl
      have wx : ∀ (V : List N5) (x : Nat), x ≠ c → x ≠ 4 + c → fu (fu W (4 + c) L) c V x = W x := fun V x h1 h2 => by rw [fu_n h1, fu_n h2]
      have wc : ∀ (V : List N5), fu (fu W (4 + c) L) c V c = V := fun V => fu_s
      have w4 : ∀ (V : List N5), fu (fu W (4 + c) L) c V (4 + c) = L := fun V => by rw [fu_n (by omega), fu_s]
      have Lsub : ∀ t, t ∈ L → t ∈ W (4 + c) := fun t ht => by rw [hW]; exact List.mem_cons_of_mem _ ht
      have tmem : (K, i, sn, q, m) ∈ W (4 + c) := by rw [hW]; exact List.mem_cons_self ..
      by_cases hK1 : K = 1
      · subst hK1
        obtain ⟨s1, s2⟩ := hser rfl
        have s1 : 1 ≤ sn := s1
        have s2 : sn ≤ 24 := s2
        obtain ⟨k2, HK2, dX⟩ := pq_dlv HK hc s1 s2 m1
        -- the counts behind a delivery
        have rcd : ∀ s', (if m = 0 then fu rc c (fu (rc c) sn (rc c sn + 1)) else rc) c s' = if m = 0 ∧ s' = sn then rc c sn + 1 else rc c s' := by
          intro s'
          by_cases hm : m = 0
          · rw [if_pos hm, fu_s]
            by_cases hs : s' = sn
            · rw [if_pos ⟨hm, hs⟩, hs, fu_s]
            · rw [if_neg (fun z => hs z.2), fu_n hs]
          · rw [if_neg hm, if_neg (fun z => hm z.1)]
        have rco : ∀ d', d' ≠ c → (if m = 0 then fu rc c (fu (rc c) sn (rc c sn + 1)) else rc) d' = rc d' := by
          intro d' hd'
          split
          · exact fu_n hd'
          · rfl
        have rc1 : ∀ d' s', (if m = 0 then fu rc c (fu (rc c) sn (rc c sn + 1)) else rc) d' s' ≤ rc d' s' + 1 := by
          intro d' s'
          by_cases hd' : d' = c
          · rw [hd', rcd s']
            split
            · rename_i z; rw [z.2]; omega
            · omega
          · rw [rco d' hd']; omega
        have rcm : ∀ s', rc c s' ≤ (if m = 0 then fu rc c (fu (rc c) sn (rc c sn + 1)) else rc) c s' := by
          intro s'
          rw [rcd s']
          split
          · rename_i z; rw [z.2]; omega
          · omega
        have r0 : ∀ s', ac s' = 0 → (if m = 0 then fu rc c (fu (rc c) sn (rc c sn + 1)) else rc) c s' = 0 := by
          intro s' ha
          obtain ⟨N1, _, N3⟩ := i10 c s' hc ha
          rw [rcd s']
          split
          · rename_i z
            have := N3 _ tmem rfl z.2.symm
            have : m = 1 := this
            omega
          · exact N1
        have tkd : ∀ e : N5, e.1 = sn → e.2.2.2.1 = m → tkR (if m = 0 then fu rc c (fu (rc c) sn (rc c sn + 1)) else rc) c e := by
          intro e h1 h2 h3
          rw [rcd, if_pos ⟨by omega, h1⟩]
          omega
        by_cases hq0 : q = 0
        · subst hq0
          have hi0 : i = 0 := by
            apply Classical.byContradiction
            intro hx
            obtain ⟨_, _, _, e, _, z | z | z⟩ := TOK_look T2 (show 1 ≤ i by omega) i16 (isF_t (Or.inl rfl))
            · have := congrArg (fun t : N5 => t.2.2.2.1) z.2.2.2
              exact absurd this (by decide : ¬ (0 : Nat) = 1)
            · have := congrArg (fun t : N5 => t.2.2.2.1) z.2.2.2
              exact absurd this (by decide : ¬ (0 : Nat) = 2)
            · have := congrArg (fun t : N5 => t.1) z.2.2.2
              exact absurd this (by decide : ¬ (1 : Nat) = 4)
          subst hi0
          have hX : ∀ s', qu s' = 2 → (nq c = false ∨ am c s' = true) → XO (O (4 + c)) L (H c) ((if m = 0 then fu rc c (fu (rc c) sn (rc c sn + 1)) else rc) c s') s' := by
            intro s' hq' hx
            have X := i11 c s' hc hq' hx
            have hv : (if m = 0 then fu rc c (fu (rc c) sn (rc c sn + 1)) else rc) c s' = rc c s' := by
              rw [rcd s']
              refine if_neg (fun z => ?_)
              exact X.2.2.2 _ tmem rfl z.2.symm z.1 rfl
            rw [hv]
            exact XO_sub X Lsub
          refine ⟨XS p k2 r l s o h w', O, fu W (4 + c) L, H, _, nI 1, ⟨p, k2, r, l, s, o, h, w', rfl, HP, HK2, HR, HL, HS, HO, HH, HW'⟩, PINV_rcv0 I0 hc hW fu_s (fun x hx => fu_n hx) rcm rco r0 hX, MVC_n hW (fu_n (by omega)) fu_s (fun x _ h2 => fu_n h2) (by unfold wd; simp), rc1, fun post hp => ?_⟩
          exact px_tc HL HH HW hc hu hne hok hd hwt (hold p k r l s o h) (hrem p k r l s o h) (fun z => z.elim (fun y => absurd rfl y) (fun y => absurd y.1 (by decide : ¬ (0 : Nat) = 2))) (fun _ _ => dX p r l s o h w' _ (pq_ap0 hp))
        · have hi1 : 1 ≤ i := (hid rfl).resolve_left hq0
          obtain ⟨_, _, _, e, he, hcase⟩ := TOK_look T2 hi1 i16 (isF_t (Or.inl rfl))
          rcases hcase with ⟨c1, c2, c3, c4⟩ | ⟨c1, c2, c3, c4⟩ | ⟨c1, c2, c3, c4⟩
          · -- quality 1
            simp only [Prod.mk.injEq] at c4
            obtain ⟨_, _, e1, e2, e3⟩ := c4
            subst e2
            obtain ⟨w2, b1, b2⟩ := pq_ap1 HW' (x := c) (by omega) hi1 i16 hl'
            rw [fu_n (show c ≠ 4 + c by omega)] at b1
            have hH : H c = fu (H c) i false := by
              have z := fu_id (H c) i
              rw [c3] at z
              exact z.symm
            have hX : ∀ s', qu s' = 2 → (nq c = false ∨ am c s' = true) → XO (O (4 + c)) L (H c) ((if m = 0 then fu rc c (fu (rc c) sn (rc c sn + 1)) else rc) c s') s' := by
              intro s' hq' hx
              have X := i11 c s' hc hq' hx
              have hv : (if m = 0 then fu rc c (fu (rc c) sn (rc c sn + 1)) else rc) c s' = rc c s' := by
                rw [rcd s']
                refine if_neg (fun z => ?_)
                have := (X.2.1 e (lk_mem he).1 (by rw [← e1]; exact z.2.symm) (by rw [← e3]; exact z.1)).1
                omega
              rw [hv]
              exact XO_sub X Lsub
            refine ⟨XS p k2 r l s o h w2, O, _, H, _, nI 1, ⟨p, k2, r, l, s, o, h, w2, rfl, HP, HK2, HR, HL, HS, HO, HH, b1⟩, PINV_rcvC I0 hc hW (wc _) (w4 _) (wx _) (hb := false) hH (fun x _ => rfl) (Or.inl rfl) hi1 i16 (isF_t (Or.inl rfl)) he (Or.inl ⟨c1, c2, rfl, rfl, tkd e e1.symm e3.symm⟩) rcm rco r0 hX, MVC_r hW (wc _) (w4 _) (wx _) (by simp) (by unfold wd; simp), rc1, fun post hp => ?_⟩
            exact px_tc HL HH HW hc hu hne hok hd hwt (hold p k r l s o h) (hrem p k r l s o h) (fun z => z.elim (fun y => absurd rfl y) (fun y => absurd y.1 (by decide : ¬ (1 : Nat) = 2))) (fun _ _ => dX p r l s o h w' _ (b2 p k2 r l s o h _ hp))
          · -- quality 2
            simp only [Prod.mk.injEq] at c4
            obtain ⟨_, _, e1, e2, e3⟩ := c4
            subst e2
            obtain ⟨h', w2, b0, b1, b2⟩ := pq_ap2 HH HW' (x := c) (by omega) hi1 i16 hl'
            rw [fu_n (show c ≠ 4 + c by omega)] at b1
            cases hh : H c i with
            | true =>
              have hX : ∀ s', qu s' = 2 → (nq c = false ∨ am c s' = true) → XO (O (4 + c)) L (fu H c (fu (H c) i true) c) (rc c s') s' := by
                intro s' hq' hx
                have X := i11 c s' hc hq' hx
                have z : fu H c (fu (H c) i true) c = H c := by rw [fu_s, ← hh]; exact fu_id (H c) i
                rw [z]
                exact XO_sub X Lsub
              refine ⟨XS p k r l s o h' w2, O, _, fu H c (fu (H c) i true), rc, nI 1, ⟨p, k, r, l, s, o, h', w2, rfl, HP, HK, HR, HL, HS, HO, b0, b1⟩, PINV_rcvC I0 hc hW (wc _) (w4 _) (wx _) (hb := true) fu_s (fun x hx => fu_n hx) (Or.inr (Or.inl rfl)) hi1 i16 (isF_t (Or.inl rfl)) he (Or.inr (Or.inl ⟨c1, c2, c3 hh, rfl, rfl⟩)) (fun _ => Nat.le_refl _) (fun _ _ => rfl) (fun s' ha => (i10 c s' hc ha).1) hX, MVC_r hW (wc _) (w4 _) (wx _) (by simp) (by unfold wd; simp), fun _ _ => by omega, fun post hp => ?_⟩
              exact px_tc HL HH HW hc hu hne hok hd hwt (hold p k r l s o h) (hrem p k r l s o h) (fun _ => b2 p k r l s o _ hp) (fun _ y => absurd (y rfl) (by show ¬ H c i = false; rw [hh]; decide))
            | false =>
              have hX : ∀ s', qu s' = 2 → (nq c = false ∨ am c s' = true) → XO (O (4 + c)) L (fu H c (fu (H c) i true) c) ((if m = 0 then fu rc c (fu (rc c) sn (rc c sn + 1)) else rc) c s') s' := by
                intro s' hq' hx
                have X := i11 c s' hc hq' hx
                rw [fu_s, rcd s']
                by_cases hs : m = 0 ∧ s' = sn
                · rw [if_pos hs]
                  obtain ⟨hm0, rfl⟩ := hs
                  have heO := (lk_mem he).1
                  have hid' := (lk_mem he).2
                  have hr0 : rc c s' = 0 := (X.2.1 e heO e1.symm (by rw [← e3]; exact hm0)).2 c2 (by rw [hid']; exact hh)
                  refine ⟨by omega, fun a ha has ham => ⟨(X.2.1 a ha has ham).1, fun hst hHa => ?_⟩, X.2.2.1, fun t ht => X.2.2.2 t (Lsub t ht)⟩
                  have hae := X.2.2.1 a e ha heO has e1.symm ham (by rw [← e3]; exact hm0)
                  rw [hae, hid', fu_s] at hHa
                  exact absurd hHa (by decide)
                · rw [if_neg hs]
                  refine ⟨X.1, fun a ha has ham => ⟨(X.2.1 a ha has ham).1, fun hst hHa => ?_⟩, X.2.2.1, fun t ht => X.2.2.2 t (Lsub t ht)⟩
                  by_cases hai : a.2.2.1 = i
                  · rw [hai, fu_s] at hHa
                    exact absurd hHa (by decide)
                  · rw [fu_n hai] at hHa
                    exact (X.2.1 a ha has ham).2 hst hHa
              refine ⟨XS p k2 r l s o h' w2, O, _, fu H c (fu (H c) i true), _, nI 1, ⟨p, k2, r, l, s, o, h', w2, rfl, HP, HK2, HR, HL, HS, HO, b0, b1⟩, PINV_rcvC I0 hc hW (wc _) (w4 _) (wx _) (hb := true) fu_s (fun x hx => fu_n hx) (Or.inr (Or.inl rfl)) hi1 i16 (isF_t (Or.inl rfl)) he (Or.inr (Or.inl ⟨c1, c2, tkd e e1.symm e3.symm, rfl, rfl⟩)) rcm rco r0 hX, MVC_r hW (wc _) (w4 _) (wx _) (by simp) (by unfold wd; simp), rc1, fun post hp => ?_⟩
              exact px_tc HL HH HW hc hu hne hok hd hwt (hold p k r l s o h) (hrem p k r l s o h) (fun z => z.elim (fun y => absurd rfl y) (fun y => absurd y.2 (by show ¬ H c i = true; rw [hh]; decide))) (fun _ _ => dX p r l s o h w' _ (b2 p k2 r l s o _ hp))
          · have := congrArg (fun t : N5 => t.1) c4
            exact absurd this (by decide : ¬ (1 : Nat) = 4)
      · have hi1 : 1 ≤ i := hid2 hK1
        have nt : ∀ post : Int32 → St1 → Prop, wpX_answerPacket (fun u => post (nI K) u) (XS p k r l s o h w') (nI c) (nI K) (nI i) (nI q) → wpX_toClient post (XS p k r l s o h w) (nI c) := fun post hp => px_tc HL HH HW hc hu hne hok hd hwt (hold p k r l s o h) (hrem p k r l s o h) (fun _ => hp) (fun y => absurd y hK1)
        by_cases hK4 : K = 4
        · subst hK4
          obtain ⟨_, _, _, e, he, hcase⟩ := TOK_look T2 hi1 i16 (isF_t (Or.inr rfl))
          have h3 : e.2.1 = 2 ∧ e.2.2.2.2 = 2 ∧ tkR rc c e := by
            rcases hcase with ⟨_, _, _, z⟩ | ⟨_, _, _, z⟩ | ⟨a, b, g, _⟩
            · exact absurd (congrArg (fun t : N5 => t.1) z) (by decide : ¬ (4 : Nat) = 1)
            · exact absurd (congrArg (fun t : N5 => t.1) z) (by decide : ¬ (4 : Nat) = 1)
            · exact ⟨a, b, g⟩
          obtain ⟨h', w2, b0, b1, b2⟩ := pq_k4 HH HW' (x := c) (by omega) hi1 i16 hl' (nI q)
          rw [fu_n (show c ≠ 4 + c by omega)] at b1
          have hX : ∀ s', qu s' = 2 → (nq c = false ∨ am c s' = true) → XO (O (4 + c)) L (fu H c (fu (H c) i false) c) (rc c s') s' := by
            intro s' hq' hx
            have X := i11 c s' hc hq' hx
            rw [fu_s]
            refine ⟨X.1, fun a ha has ham => ⟨(X.2.1 a ha has ham).1, fun hst hHa => ?_⟩, X.2.2.1, fun t ht => X.2.2.2 t (Lsub t ht)⟩
            by_cases hai : a.2.2.1 = i
            · have := lk_of T2.1 ha
              rw [hai, he] at this
              rw [← Option.some.inj this] at hst
              omega
            · rw [fu_n hai] at hHa
              exact (X.2.1 a ha has ham).2 hst hHa
          refine ⟨XS p k r l s o h' w2, O, _, fu H c (fu (H c) i false), rc, nI 4, ⟨p, k, r, l, s, o, h', w2, rfl, HP, HK, HR, HL, HS, HO, b0, b1⟩, PINV_rcvC I0 hc hW (wc _) (w4 _) (wx _) (hb := false) fu_s (fun x hx => fu_n hx) (Or.inr (Or.inr rfl)) hi1 i16 (isF_t (Or.inr rfl)) he (Or.inr (Or.inr ⟨h3.1, h3.2.1, h3.2.2, rfl, rfl⟩)) (fun _ => Nat.le_refl _) (fun _ _ => rfl) (fun s' ha => (i10 c s' hc ha).1) hX, MVC_r hW (wc _) (w4 _) (wx _) (by simp) (by unfold wd; simp), fun _ _ => by omega, fun post hp => nt post (b2 p k r l s o _ hp)⟩
        · have hKb : K = 2 ∨ K = 3 ∨ K = 5 := by omega
          obtain ⟨_, _, _, e, he, htk, hcase⟩ := TOK_back T1 hi1 i16 (isB_t hKb)
          obtain ⟨j, hj, hji⟩ := lk_at he
          rcases hcase with ⟨c1, c2, c3, c4⟩ | ⟨c1, c2, c3, c4⟩ | ⟨c1, c2, c3, c4⟩
          · simp only [Prod.mk.injEq] at c4
            obtain ⟨rfl, _, rfl, rfl, rfl⟩ := c4
            obtain ⟨o', a1, a2⟩ := pq_k2 HO (x := c) (by omega) T1.1 hj hji c1 c2 (nI 0)
            refine ⟨XS p k r l s o' h w', _, fu W (4 + c) L, H, rc, nI 2, ⟨p, k, r, l, s, o', h, w', rfl, HP, HK, HR, HL, HS, a1, HH, HW'⟩, PINV_ackC I0 hc hW fu_s (fun x _ h2 => fu_n h2) (fun x hx => fu_n hx) hi1 i16 (isB_t (Or.inl rfl)) hj hji (Or.inl ⟨fu_n (by omega), fu_s, c3⟩), MVC_n hW (fu_n (by omega)) fu_s (fun x _ h2 => fu_n h2) (by unfold wd; simp), fun _ _ => by omega, fun post hp => nt post (a2 p k r l s h w' _ hp)⟩
          · simp only [Prod.mk.injEq] at c4
            obtain ⟨rfl, _, rfl, rfl, rfl⟩ := c4
            obtain ⟨o', w2, a1, b1, a2⟩ := pq_k3 HO HW' (x := c) (by omega) T1.1 hj hji c1 c2 hl' (nI 0)
            rw [fu_n (show c ≠ 4 + c by omega)] at b1
            refine ⟨XS p k r l s o' h w2, _, _, H, rc, nI 3, ⟨p, k, r, l, s, o', h, w2, rfl, HP, HK, HR, HL, HS, a1, HH, b1⟩, PINV_ackC I0 hc hW (w4 _) (wx _) (fun x hx => fu_n hx) hi1 i16 (isB_t (Or.inr (Or.inl rfl))) hj hji (Or.inr ⟨wc _, fu_s, c1, htk⟩), MVC_r hW (wc _) (w4 _) (wx _) (by simp) (by unfold wd; simp), fun _ _ => by omega, fun post hp => nt post (a2 p k r l s h _ hp)⟩
          · simp only [Prod.mk.injEq] at c4
            obtain ⟨rfl, _, rfl, rfl, rfl⟩ := c4
            obtain ⟨o', a1, a2⟩ := pq_k5 HO (x := c) (by omega) T1.1 hj hji c2 (nI 0)
            refine ⟨XS p k r l s o' h w', _, fu W (4 + c) L, H, rc, nI 5, ⟨p, k, r, l, s, o', h, w', rfl, HP, HK, HR, HL, HS, a1, HH, HW'⟩, PINV_ackC I0 hc hW fu_s (fun x _ h2 => fu_n h2) (fun x hx => fu_n hx) hi1 i16 (isB_t (Or.inr (Or.inr rfl))) hj hji (Or.inl ⟨fu_n (by omega), fu_s, c3⟩), MVC_n hW (fu_n (by omega)) fu_s (fun x _ h2 => fu_n h2) (by unfold wd; simp), fun _ _ => by omega, fun post hp => nt post (a2 p k r l s h w' _ hp)⟩
end Q23
end
section
section Q24
theorem XO_app {O W : List N5} {G : Nat → Bool} {r s : Nat} {t : N5} (h : XO O W G r s) (ht : t.1 ≠ 1) : XO O (W ++ [t]) G r s := by
  refine ⟨h.1, h.2.1, h.2.2.1, fun x hx hk => ?_⟩
  rcases List.mem_append.mp hx with z | z
  · exact h.2.2.2 x z hk
  · rw [List.mem_singleton.mp z] at hk
    exact absurd hk ht
theorem px_tb_e {p : TP} {k : TK} {r : TR} {l s : TL} {o : TO} {h : TA} {w : TW} {up se pe : Nat → Bool} {W : Nat → List N5} (HL : pc_L l up se pe) (HW : pc_W w W) {c : Nat} (hc : c < 4) (hu : up c = true) (he : W c = []) {post : Int32 → St1 → Prop} (hp : post 0 (XS p k r l s o h w)) : wpX_toBroker post (XS p k r l s o h w) (nI c) := by
  obtain ⟨_, _, _, _, _, hcnt, _⟩ := HW.1 c (by omega)
  have cc : (nI c).toNatClampNeg = c := nI_clamp (by omega)
  rw [he] at hcnt
  unfold wpX_toBroker
  exact px_li1 (p := p) (k := k) (r := r) (l := l) (s := s) (o := o) (h := h) (w := w) HL hc hu (br_f (by decide) ⟨vp_in_nI (by omega) (by omega), br_t (by rw [cc, hcnt]; rfl) hp⟩)
theorem px_tb_d {p : TP} {k : TK} {r : TR} {l s : TL} {o : TO} {h : TA} {w : TW} {up se pe : Nat → Bool} (HL : pc_L l up se pe) {c : Nat} (hc : c < 4) (hu : up c = false) {post : Int32 → St1 → Prop} (hp : post 0 (XS p k r l s o h w)) : wpX_toBroker post (XS p k r l s o h w) (nI c) := by
  unfold wpX_toBroker
  exact px_li0 (p := p) (k := k) (r := r) (l := l) (s := s) (o := o) (h := h) (w := w) HL hc hu (br_t rfl hp)
/-- one packet moved up on link c, or nothing there -/
def MVB (c : Nat) (W W2 : Nat → List N5) : Prop := (∀ x, x < 4 → x ≠ c → W2 x = W x) ∧ (W2 c).length ≤ (W c).length ∧ (W2 (4 + c)).length ≤ (W (4 + c)).length + 2 ∧ (∀ d, d < 4 → d ≠ c → (W2 (4 + d)).length ≤ (W (4 + d)).length + 1 ∧ (W2 (4 + d)).length + sw k1 (W2 c) ≤ (W (4 + d)).length + sw k1 (W c))
  ∧ (W2 c).length + (W2 (4 + c)).length + sw k1 (W2 c) ≤ (W c).length + (W (4 + c)).length + sw k1 (W c) ∧ sw k1 (W2 c) ≤ sw k1 (W c) ∧ (W c ≠ [] → sw wu (W2 c) + sw wd (W2 (4 + c)) < sw wu (W c) + sw wd (W (4 + c))) ∧ sw wu (W2 c) + sw wd (W2 (4 + c)) ≤ sw wu (W c) + sw wd (W (4 + c))
theorem MVB_0 {c : Nat} {W : Nat → List N5} (h : W c = []) : MVB c W W := ⟨fun _ _ _ => rfl, Nat.le_refl _, by omega, fun _ _ _ => ⟨by omega, Nat.le_refl _⟩, Nat.le_refl _, Nat.le_refl _, fun z => absurd h z, Nat.le_refl _⟩
/-- an answer moved up: at most one reply -/
theorem MVB_a {c : Nat} {W W2 : Nat → List N5} {t : N5} {L A : List N5} (hc : c < 4) (hW : W c = t :: L) (w1 : W2 c = L) (w2 : W2 (4 + c) = W (4 + c) ++ A) (w3 : ∀ x, x ≠ c → x ≠ 4 + c → W2 x = W x) (hA : A = [] ∨ ∃ r, A = [r] ∧ wd r < wd t) (ht : 0 < wd t) : MVB c W W2 := by
  have e1 : sw k1 (W c) = k1 t + sw k1 L := by rw [hW]; rfl
  have e2 : sw wu (W c) = wu t + sw wu L := by rw [hW]; rfl
  have e3 : wd t ≤ wu t := by unfold wu; omega
  have e4 : (W c).length = L.length + 1 := by rw [hW]; rfl
  refine ⟨fun x hx hxc => w3 x hxc (by omega), by rw [w1]; omega, ?_, fun d hd hdc => ?_, ?_, by rw [w1]; omega, fun _ => ?_, ?_⟩
  · rcases hA with rfl | ⟨r, rfl, _⟩
    · rw [w2, List.append_nil]; omega
    · rw [w2, List.length_append, List.length_singleton]; omega
  · rw [w3 (4 + d) (by omega) (by omega), w1]; omega
  · rcases hA with rfl | ⟨r, rfl, _⟩
    · rw [w1, w2, List.append_nil]; omega
    · rw [w1, w2, List.length_append, List.length_singleton]; omega
  · rcases hA with rfl | ⟨r, rfl, hr⟩
    · rw [w1, w2, List.append_nil]; omega
    · rw [w1, w2, sw_app]; omega
  · rcases hA with rfl | ⟨r, rfl, hr⟩
    · rw [w1, w2, List.append_nil]; omega
    · rw [w1, w2, sw_app]; omega
theorem wd_le (t : N5) : 1 ≤ wd t ∧ wd t ≤ 4 := by
  unfold wd
  by_cases a : t.1 = 1
  · rw [if_pos a]
    by_cases b : t.2.2.2.1 = 0
    · rw [if_pos b]; omega
    · rw [if_neg b]
      by_cases e : t.2.2.2.1 = 1
      · rw [if_pos e]; omega
      · rw [if_neg e]; omega
  · rw [if_neg a]
    by_cases b : t.1 = 3
    · rw [if_pos b]; omega
    · rw [if_neg b]
      by_cases e : t.1 = 4
      · rw [if_pos e]; omega
      · rw [if_neg e]; omega
theorem SND_sw {up : Bool} {s e m v v' : Nat} {O W O' W' : List N5} (h : SND up s e m O W v O' W' v') : sw wd W' ≤ sw wd W + 4 := by
  rcases h with ⟨_, _, _, h⟩ | ⟨_, _, _, h, _⟩ | ⟨_, _, i, _, _, _, _, h⟩ <;> rw [h]
  · cases up
    · simp
    · simp only [if_true, sw_app]
      have := (wd_le (1, 0, s, 0, m)).2
      omega
  · omega
  · cases up
    · simp
    · simp only [if_true, sw_app]
      have := (wd_le (1, i, s, e, m)).2
      omega
theorem ACD_sw {S : List (Int32 × Nat)} {T : Int32} {q sn v v' : Nat} {up : Bool} {O W O' W' : List N5} (h : ACD S T q up sn O W v O' W' v') : sw wd W' ≤ sw wd W + 4 := by
  rcases h with ⟨_, _, h2, _⟩ | ⟨b, _, _, _, h⟩
  · rw [h2]; omega
  · exact SND_sw h
theorem ACD_v {S : List (Int32 × Nat)} {T : Int32} {q sn v v' : Nat} {up : Bool} {O W O' W' : List N5} (h : ACD S T q up sn O W v O' W' v') : v ≤ v' ∧ v' ≤ v + 1 := by
  rcases h with ⟨_, _, _, h⟩ | ⟨b, _, _, _, ⟨_, _, h, _⟩ | ⟨_, _, _, _, h⟩ | ⟨_, h, _⟩⟩ <;> omega
/-- a publication moved up: the sends, at most one reply -/
theorem MVB_p {c : Nat} {W W2 : Nat → List N5} {V : Nat → List N5} {t : N5} {L A : List N5} (hc : c < 4) (hW : W c = t :: L) (ht : t.1 = 1) (w1 : W2 c = L) (w2 : ∀ x, x < 4 → x ≠ c → W2 x = W x) (w3 : W2 (4 + c) = V c ++ A) (w4 : ∀ d, d < 4 → d ≠ c → W2 (4 + d) = V d) (hV : ∀ d, d < 4 → (V d).length ≤ (W (4 + d)).length + 1 ∧ sw wd (V d) ≤ sw wd (W (4 + d)) + 4) (hA : A = [] ∨ ∃ r, A = [r] ∧ wd r < wd t) : MVB c W W2 := by
  have e1 : sw k1 (W c) = 1 + sw k1 L := by
    rw [hW]
    show k1 t + sw k1 L = _
    unfold k1
    rw [if_pos ht]
  have e2 : sw wu (W c) = wd t + 4 + sw wu L := by
    rw [hW]
    show wu t + sw wu L = _
    unfold wu
    rw [if_pos ht]
  have e4 : (W c).length = L.length + 1 := by rw [hW]; rfl
  have hpos := (wd_le t).1
  obtain ⟨v1, v2⟩ := hV c hc
  refine ⟨w2, by rw [w1]; omega, ?_, fun d hd hdc => ?_, ?_, by rw [w1]; omega, fun _ => ?_, ?_⟩
  · rcases hA with rfl | ⟨r, rfl, _⟩
    · rw [w3, List.append_nil]; omega
    · rw [w3, List.length_append, List.length_singleton]; omega
  · have := (hV d hd).1
    rw [w4 d hd hdc, w1]; omega
  · rcases hA with rfl | ⟨r, rfl, _⟩
    · rw [w1, w3, List.append_nil]; omega
    · rw [w1, w3, List.length_append, List.length_singleton]; omega
  · rcases hA with rfl | ⟨r, rfl, hr⟩
    · rw [w1, w3, List.append_nil]; omega
    · rw [w1, w3, sw_app]; omega
  · rcases hA with rfl | ⟨r, rfl, hr⟩
    · rw [w1, w3, List.append_nil]; omega
    · rw [w1, w3, sw_app]; omega
/-- what may be armed behind a call -/
def ARM (S : Nat → List (Int32 × Nat)) (tp : Nat → Int32) (qu ac ac2 ov ov2 : Nat → Nat) (O2 W2 : Nat → List N5) (H2 : Nat → Nat → Bool) (rc : Nat → Nat → Nat) : Prop := ∀ s d, d < 4 → ac s = 0 → 1 ≤ ac2 s → ov2 d = ov d → 1 ≤ qu s → (∃ f, f ∈ S d ∧ ma f.1 (tp s) = true ∧ qu s ≤ f.2) → (∃ e, e ∈ O2 (4 + d) ∧ e.1 = s ∧ e.2.2.2.1 = 0) ∧ (qu s = 2 → XO (O2 (4 + d)) (W2 (4 + d)) (H2 d) (rc d s) s)
theorem ARM_0 {S : Nat → List (Int32 × Nat)} {tp : Nat → Int32} {qu ac ov ov2 : Nat → Nat} {O2 W2 : Nat → List N5} {H2 : Nat → Nat → Bool} {rc : Nat → Nat → Nat} : ARM S tp qu ac ac ov ov2 O2 W2 H2 rc := fun s d _ h1 h2 => by omega
end Q24
end
section
section Q25
theorem ql_tb {u : St1} {O W : Nat → List N5} {H : Nat → Nat → Bool} {up se pe : Nat → Bool} {S : Nat → List (Int32 × Nat)} {rc : Nat → Nat → Nat} {ac ov : Nat → Nat} {n : Nat} {tp : Nat → Int32} {qu : Nat → Nat} {am : Nat → Nat → Bool} {nq : Nat → Bool} (P : PIC u O W H up se pe S rc ac ov n tp qu) (I : PINV O W H up pe S rc ac n qu am nq) {c : Nat} (hc : c < 4) (hl : ∀ d, d < 4 → (W (4 + d)).length ≤ 30) :
    ∃ (u' : St1) (O2 W2 : Nat → List N5) (H2 : Nat → Nat → Bool) (ac2 ov2 : Nat → Nat) (R : Int32), PIC u' O2 W2 H2 up se pe S rc ac2 ov2 n tp qu ∧ PINV O2 W2 H2 up pe S rc ac2 n qu am nq ∧ MVB c W W2 ∧ ARM S tp qu ac ac2 ov ov2 O2 W2 H2 rc ∧ (∀ s, ac s ≤ ac2 s ∧ ac2 s ≤ ac s + 1) ∧ (∀ d, d < 4 → ov d ≤ ov2 d ∧ ov2 d ≤ ov d + 1 ∧ ((O (4 + d)).length < 16 → ov2 d = ov d)) ∧ ∀ post : Int32 → St1 → Prop, post R u' → wpX_toBroker post u (nI c) := by
  obtain ⟨p, k, r, l, s, o, h, w, rfl, HP, HK, HR, HL, HS, HO, HH, HW⟩ := P
  have I0 := I
  obtain ⟨i1, i2, i3, i4, i5, i6, i7, i8, i9, i10, i11, i12, i13⟩ := I
  have sameA : ∀ s, ac s ≤ ac s ∧ ac s ≤ ac s + 1 := fun _ => ⟨Nat.le_refl _, by omega⟩
  have sameV : ∀ d, d < 4 → ov d ≤ ov d ∧ ov d ≤ ov d + 1 ∧ ((O (4 + d)).length < 16 → ov d = ov d) := fun _ _ => ⟨Nat.le_refl _, by omega, fun _ => rfl⟩
  cases hu : up c with
  | false => exact ⟨_, O, W, H, ac, ov, 0, ⟨p, k, r, l, s, o, h, w, rfl, HP, HK, HR, HL, HS, HO, HH, HW⟩, I0, MVB_0 (i3 c hc hu).1, ARM_0, sameA, sameV, fun post hp => px_tb_d HL hc hu hp⟩
  | true =>
    cases hW : W c with
    | nil => exact ⟨_, O, W, H, ac, ov, 0, ⟨p, k, r, l, s, o, h, w, rfl, HP, HK, HR, HL, HS, HO, HH, HW⟩, I0, MVB_0 hW, ARM_0, sameA, sameV, fun post hp => px_tb_e HL HW hc hu hW hp⟩
    | cons t L =>
      obtain ⟨w', d, HW', hok, hd, hwt, hold, hrem⟩ := pq_pop HW (x := c) (by omega) hW
      have hne : W c ≠ [] := by rw [hW]; exact List.cons_ne_nil t L
      obtain ⟨K, i, sn, q, m⟩ := t
      have hok0 := hok
      obtain ⟨k1', k5', i16, hser, _, q2, m1, hid, hid2⟩ := hok0
      have k1' : 1 ≤ K := k1'
      have k5' : K ≤ 5 := k5'
      have i16 : i ≤ 16 := i16
      have q2 : q ≤ 2 := q2
      have T1 := i1 c hc
      rw [hW] at T1
      have T2 := i2 c hc
      rw [hW] at T2
      have f4 : ∀ d, fu W c L (4 + d) = W (4 + d) := fun d => fu_n (by omega)
      have hl' : (fu W c L (4 + c)).length < 32 := by rw [f4]; have := hl c hc; omega
      have tmem : (K, i, sn, q, m) ∈ W c := by rw [hW]; exact List.mem_cons_self ..
      have wx : ∀ (V : List N5) (x : Nat), x ≠ c → x ≠ 4 + c → fu (fu W c L) (4 + c) V x = W x := fun V x h1 h2 => by rw [fu_n h2, fu_n h1]
      have wc : ∀ (V : List N5), fu (fu W c L) (4 + c) V c = L := fun V => by rw [fu_n (by omega), fu_s]
      have w4 : ∀ (V : List N5), fu (fu W c L) (4 + c) V (4 + c) = V := fun V => fu_s
      by_cases hK1 : K = 1
      · subst hK1
        obtain ⟨s1, s2⟩ := hser rfl
        have s1 : 1 ≤ sn := s1
        have s2 : sn ≤ 24 := s2
        obtain ⟨hsn, hqs⟩ := i5 c hc _ tmem rfl
        have hsn : sn ≤ n := hsn
        have hqs : q = qu sn := hqs
        have hq2 := (HP.2.2 sn s2).2.2
        obtain ⟨k2, r2, o2, w2, O', W', ov', R1, O1, W1, K1, hx, hA, aX⟩ := pq_acc HP HL HS HR HO HW' HK s1 s2 (fun d hd => by rw [f4]; have := hl d hd; omega)
        have hA' : ∀ d, d < 4 → ACD (S d) (tp sn) (qu sn) (up d) sn (O (4 + d)) (W (4 + d)) (ov d) (O' (4 + d)) (W' (4 + d)) (ov' d) := by
          intro d hd
          have := hA d hd
          rw [f4] at this
          exact this
        have x1 : W' c = L := by rw [(hx c hc).2, fu_s]
        have x2 : ∀ x, x < 4 → x ≠ c → W' x = W x := fun x h1 h2 => by rw [(hx x h1).2, fu_n h2]
        have x3 : ∀ x, x < 4 → O' x = O x := fun x h1 => (hx x h1).1
        have acs : ∀ s', s' ≠ sn → fu ac sn (ac sn + 1) s' = ac s' := fun s' h1 => fu_n h1
        have acm : ∀ s', ac s' ≤ fu ac sn (ac sn + 1) s' ∧ fu ac sn (ac sn + 1) s' ≤ ac s' + 1 := by
          intro s'
          by_cases e : s' = sn
          · rw [e, fu_s]; omega
          · rw [fu_n e]; omega
        have v1 : ∀ d B tk, d < 4 → TOK (O (4 + d)) (W (4 + d)) B (H d) (up d) tk → TOK (O' (4 + d)) (W' (4 + d)) B (H d) (up d) tk := fun d B tk hd T => ACD_TOK (hA' d hd) hq2 T
        have v2 : ∀ d E F G tk, d < 4 → TOK E F (W (4 + d)) G (up d) tk → TOK E F (W' (4 + d)) G (up d) tk := fun d E F G tk hd T => ACD_B (hA' d hd) T
        have v3 : ∀ d, d < 4 → up d = false → W' (4 + d) = W (4 + d) := by
          intro d hd hz
          have := hA' d hd
          rw [hz] at this
          exact ACD_dn this
        have v4 : ∀ d a, d < 4 → a ∈ O (4 + d) → a ∈ O' (4 + d) := fun d a hd ha => (ACD_O (hA' d hd)).1 a ha
        have v10 : ∀ d s', d < 4 → fu ac sn (ac sn + 1) s' = 0 → NS (O' (4 + d)) (W' (4 + d)) (rc d s') s' := by
          intro d s' hd ha
          have hne : s' ≠ sn := by
            intro z
            rw [z, fu_s] at ha
            omega
          rw [acs s' hne] at ha
          exact ACD_NS (hA' d hd) hne (i10 d s' hd ha)
        have v11 : (qu sn = 2 → ac sn = 0) → ∀ d s', d < 4 → qu s' = 2 → (nq d = false ∨ am d s' = true) → XO (O' (4 + d)) (W' (4 + d)) (H d) (rc d s') s' := by
          intro h0 d s' hd hq' hxx
          by_cases e : s' = sn
          · subst e
            have ha := h0 hq'
            have hn : nq d = false := by
              rcases hxx with z | z
              · exact z
              · have := (i13 d s' hd z).2.1
                omega
            have A := hA' d hd
            rw [hq'] at A
            exact ACD_XO A (fun b ⟨f, f1, _, f3⟩ _ => by rw [← f3]; exact i12 d hd hn f f1) (i10 d s' hd ha)
          · exact ACD_XOn (hA' d hd) e (i11 d s' hd hq' hxx)
        have arm : ∀ (s' d : Nat), d < 4 → ac s' = 0 → 1 ≤ fu ac sn (ac sn + 1) s' → ov' d = ov d → 1 ≤ qu s' → (∃ f, f ∈ S d ∧ ma f.1 (tp s') = true ∧ qu s' ≤ f.2) → (∃ e, e ∈ O' (4 + d) ∧ e.1 = s' ∧ e.2.2.2.1 = 0) ∧ (qu s' = 2 → XO (O' (4 + d)) (W' (4 + d)) (H d) (rc d s') s') := by
          intro s' d hd ha h1 hov hq1 hf
          have e : s' = sn := by
            apply Classical.byContradiction
            intro z
            rw [acs s' z] at h1
            omega
          subst e
          refine ⟨ACD_ent (hA' d hd) hq1 hov hf, fun hq' => ?_⟩
          have A := hA' d hd
          rw [hq'] at A hf
          obtain ⟨f, f1, f2, f3⟩ := hf
          refine ACD_XO A (fun b ⟨g, g1, g2, g3⟩ hb => ?_) (i10 d s' hd ha)
          have := hb f f1 f2
          have := (HS d hd).2.1 g g1
          omega
        have vV : ∀ d, d < 4 → (W' (4 + d)).length ≤ (W (4 + d)).length + 1 ∧ sw wd (W' (4 + d)) ≤ sw wd (W (4 + d)) + 4 := fun d hd => ⟨ACD_len (hA' d hd), ACD_sw (hA' d hd)⟩
        have ovV : ∀ d, d < 4 → ov d ≤ ov' d ∧ ov' d ≤ ov d + 1 ∧ ((O (4 + d)).length < 16 → ov' d = ov d) := by
          intro d hd
          obtain ⟨z1, z2⟩ := ACD_v (hA' d hd)
          refine ⟨z1, z2, fun hlt => ?_⟩
          rcases hA' d hd with ⟨_, _, _, z⟩ | ⟨b, _, _, _, ⟨_, _, z, _⟩ | ⟨_, z, _⟩ | ⟨_, z, _⟩⟩
          · exact z
          · exact z
          · omega
          · exact z
        have hl2 : (W' (4 + c)).length < 32 := by have := (vV c hc).1; have := hl c hc; omega
        by_cases hq0 : q = 0
        · have hi0 : i = 0 := by
            apply Classical.byContradiction
            intro hxx
            obtain ⟨_, _, _, e, _, z | z | z⟩ := TOK_look T1 (show 1 ≤ i by omega) i16 (isF_t (Or.inl rfl))
            · have := congrArg (fun t : N5 => t.2.2.2.1) z.2.2.2
              have : q = 1 := this
              omega
            · have := congrArg (fun t : N5 => t.2.2.2.1) z.2.2.2
              have : q = 2 := this
              omega
            · have := congrArg (fun t : N5 => t.1) z.2.2.2
              exact absurd this (by decide : ¬ (1 : Nat) = 4)
          subst hi0 hq0
          refine ⟨XS p k2 r2 l s o2 h w2, O', W', H, _, ov', nI 1, ⟨p, k2, r2, l, s, o2, h, w2, rfl, HP, K1, R1, HL, HS, O1, HH, W1⟩, PINV_rcvB0 (V := fun d => W' (4 + d)) I0 hc hW x1 x2 (fun d _ => rfl) x3 (fun s' => (acm s').1) acs v1 v2 v3 v4 v10 (v11 (fun z => by omega)), MVB_p (V := fun d => W' (4 + d)) (A := []) hc hW rfl x1 x2 (List.append_nil _).symm (fun d _ _ => rfl) vV (Or.inl rfl), arm, acm, ovV, fun post hp => ?_⟩
          exact px_tb HL HH HW hc hu hne hok hd hwt (hold p k r l s o h) (hrem p k r l s o h) (fun z => z.elim (fun y => absurd rfl y) (fun y => absurd y.1 (by decide : ¬ (0 : Nat) = 2))) (fun _ _ => aX h _ (pq_ap0 hp))
        · have hi1 : 1 ≤ i := (hid rfl).resolve_left hq0
          obtain ⟨_, _, _, e, he, hcase⟩ := TOK_look T1 hi1 i16 (isF_t (Or.inl rfl))
          have heO := (lk_mem he).1
          have heI := (lk_mem he).2
          have y1 : ∀ (A : List N5), fu W' (4 + c) (W' (4 + c) ++ A) c = L := fun A => by rw [fu_n (by omega)]; exact x1
          have y2 : ∀ (A : List N5) (x : Nat), x < 4 → x ≠ c → fu W' (4 + c) (W' (4 + c) ++ A) x = W x := fun A x h1 h2 => by rw [fu_n (by omega)]; exact x2 x h1 h2
          have y3 : ∀ (A : List N5) (d : Nat), d < 4 → d ≠ c → fu W' (4 + c) (W' (4 + c) ++ A) (4 + d) = W' (4 + d) := fun A d _ h2 => fu_n (by omega)
          have armR : ∀ (t : N5) (H2 : Nat → Nat → Bool), t.1 ≠ 1 → (∀ d, d < 4 → H2 d = H d) → ARM S tp qu ac (fu ac sn (ac sn + 1)) ov ov' O' (fu W' (4 + c) (W' (4 + c) ++ [t])) H2 rc := by
            intro t H2 ht hH s' d hd ha h1 hov hq1 hf
            obtain ⟨z1, z2⟩ := arm s' d hd ha h1 hov hq1 hf
            refine ⟨z1, fun hq' => ?_⟩
            rw [hH d hd]
            by_cases hdc : d = c
            · subst hdc
              rw [fu_s]
              exact XO_app (z2 hq') ht
            · rw [fu_n (by omega)]
              exact z2 hq'
          rcases hcase with ⟨c1, c2, c3, c4⟩ | ⟨c1, c2, c3, c4⟩ | ⟨c1, c2, c3, c4⟩
          · simp only [Prod.mk.injEq] at c4
            obtain ⟨_, _, e1, e2, e3⟩ := c4
            subst e2
            obtain ⟨w3, b1, b2⟩ := pq_ap1 W1 (x := 4 + c) (by omega) hi1 i16 hl2
            have hH : H (4 + c) = fu (H (4 + c)) i false := by
              have z := fu_id (H (4 + c)) i
              rw [c3] at z
              exact z.symm
            refine ⟨XS p k2 r2 l s o2 h w3, O', _, H, _, ov', nI 1, ⟨p, k2, r2, l, s, o2, h, w3, rfl, HP, K1, R1, HL, HS, O1, HH, b1⟩, PINV_rcvB (V := fun d => W' (4 + d)) I0 hc hW (y1 _) (y2 _) fu_s (y3 _) x3 (hb := false) hH (fun x _ => rfl) (Or.inl rfl) hi1 i16 (isF_t (Or.inl rfl)) he (Or.inl ⟨c1, c2, rfl, rfl, ?_⟩) (fun s' => (acm s').1) (fun s' hs' => acs s' (by rw [e1]; exact hs')) (fun z => ?_) (fun a ha hq' hst hHa => ?_) v1 v2 v3 v4 v10 (v11 (fun z => by omega)), MVB_p (V := fun d => W' (4 + d)) hc hW rfl (y1 _) (y2 _) fu_s (y3 _) vV (Or.inr ⟨_, rfl, by unfold wd; simp⟩), armR _ H (by simp) (fun _ _ => rfl), acm, ovV, fun post hp => ?_⟩
            · show 1 ≤ fu ac sn (ac sn + 1) e.1
              rw [← e1, fu_s]; omega
            · rw [← e1] at z; omega
            · have hne' : a.1 ≠ sn := by
                intro z
                have := ((i4 c hc).2 a ha).2.1
                rw [z, hq'] at this
                omega
              rw [acs a.1 hne']
              rw [← hH] at hHa
              exact i8 c hc a ha hq' hst hHa
            · exact px_tb HL HH HW hc hu hne hok hd hwt (hold p k r l s o h) (hrem p k r l s o h) (fun z => z.elim (fun y => absurd rfl y) (fun y => absurd y.1 (by decide : ¬ (1 : Nat) = 2))) (fun _ _ => aX h _ (b2 p k2 r2 l s o2 h _ hp))
          · simp only [Prod.mk.injEq] at c4
            obtain ⟨_, _, e1, e2, e3⟩ := c4
            subst e2
            cases hh : H (4 + c) i with
            | true =>
              obtain ⟨h', w3, b0, b1, b2⟩ := pq_ap2 HH HW' (x := 4 + c) (by omega) hi1 i16 hl'
              rw [f4] at b1
              have hHe : fu H (4 + c) (fu (H (4 + c)) i true) (4 + c) = H (4 + c) := by
                rw [fu_s, ← hh]; exact fu_id (H (4 + c)) i
              refine ⟨XS p k r l s o h' w3, O, _, fu H (4 + c) (fu (H (4 + c)) i true), ac, ov, nI 1, ⟨p, k, r, l, s, o, h', w3, rfl, HP, HK, HR, HL, HS, HO, b0, b1⟩, PINV_rcvB (V := fun d => W (4 + d)) I0 hc hW (wc _) (fun x h1 h2 => wx _ x h2 (by omega)) (w4 _) (fun d h1 h2 => wx _ (4 + d) (by omega) (by omega)) (fun _ _ => rfl) (hb := true) fu_s (fun x hx' => fu_n hx') (Or.inr (Or.inl rfl)) hi1 i16 (isF_t (Or.inl rfl)) he (Or.inr (Or.inl ⟨c1, c2, c3 hh, rfl, rfl⟩)) (fun _ => Nat.le_refl _) (fun _ _ => rfl) (fun z => i7 e.1 z) (fun a ha hq' hst hHa => ?_) (fun d B tk _ T => T) (fun d E F G tk _ T => T) (fun _ _ _ => rfl) (fun _ _ _ ha => ha) (fun d s' hd ha => i10 d s' hd ha) i11, MVB_a hc hW (wc _) (w4 _) (wx _) (Or.inr ⟨_, rfl, by unfold wd; simp⟩) (by unfold wd; simp), ARM_0, sameA, sameV, fun post hp => ?_⟩
              · have z : fu (H (4 + c)) i true = H (4 + c) := by rw [← hh]; exact fu_id (H (4 + c)) i
                rw [z] at hHa
                exact i8 c hc a ha hq' hst hHa
              · exact px_tb HL HH HW hc hu hne hok hd hwt (hold p k r l s o h) (hrem p k r l s o h) (fun _ => b2 p k r l s o _ hp) (fun _ y => absurd (y rfl) (by show ¬ H (4 + c) i = false; rw [hh]; decide))
            | false =>
              obtain ⟨h', w3, b0, b1, b2⟩ := pq_ap2 HH W1 (x := 4 + c) (by omega) hi1 i16 hl2
              have ha0 : ac sn = 0 := by
                have := i8 c hc e heO c1 c2 (by rw [heI]; exact hh)
                rw [e1]; exact this
              refine ⟨XS p k2 r2 l s o2 h' w3, O', _, fu H (4 + c) (fu (H (4 + c)) i true), _, ov', nI 1, ⟨p, k2, r2, l, s, o2, h', w3, rfl, HP, K1, R1, HL, HS, O1, b0, b1⟩, PINV_rcvB (V := fun d => W' (4 + d)) I0 hc hW (y1 _) (y2 _) fu_s (y3 _) x3 (hb := true) fu_s (fun x hx' => fu_n hx') (Or.inr (Or.inl rfl)) hi1 i16 (isF_t (Or.inl rfl)) he (Or.inr (Or.inl ⟨c1, c2, ?_, rfl, rfl⟩)) (fun s' => (acm s').1) (fun s' hs' => acs s' (by rw [e1]; exact hs')) (fun z => ?_) (fun a ha hq' hst hHa => ?_) v1 v2 v3 v4 v10 (v11 (fun _ => ha0)), MVB_p (V := fun d => W' (4 + d)) hc hW rfl (y1 _) (y2 _) fu_s (y3 _) vV (Or.inr ⟨_, rfl, by unfold wd; simp⟩), armR _ _ (by simp) (fun d hd => fu_n (by omega)), acm, ovV, fun post hp => ?_⟩
              · show 1 ≤ fu ac sn (ac sn + 1) e.1
                rw [← e1, fu_s]; omega
              · rw [← e1, fu_s]; omega
              · have hai : a.2.2.1 ≠ i := by
                  intro z
                  rw [z, fu_s] at hHa
                  exact absurd hHa (by decide)
                have hne' : a.1 ≠ sn := by
                  intro z
                  have := (i6 c c hc hc a e ha heO (by rw [z, e1])).2
                  rw [this] at hai
                  exact hai heI
                rw [acs a.1 hne']
                rw [fu_n hai] at hHa
                exact i8 c hc a ha hq' hst hHa
              · exact px_tb HL HH HW hc hu hne hok hd hwt (hold p k r l s o h) (hrem p k r l s o h) (fun z => z.elim (fun y => absurd rfl y) (fun y => absurd y.2 (by show ¬ H (4 + c) i = true; rw [hh]; decide))) (fun _ _ => aX h _ (b2 p k2 r2 l s o2 _ hp))
          · have := congrArg (fun t : N5 => t.1) c4
            exact absurd this (by decide : ¬ (1 : Nat) = 4)
      · have hi1 : 1 ≤ i := hid2 hK1
        have nt : ∀ post : Int32 → St1 → Prop, wpX_answerPacket (fun u => post (nI K) u) (XS p k r l s o h w') (nI (4 + c)) (nI K) (nI i) (nI q) → wpX_toBroker post (XS p k r l s o h w) (nI c) := fun post hp => px_tb HL HH HW hc hu hne hok hd hwt (hold p k r l s o h) (hrem p k r l s o h) (fun _ => hp) (fun y => absurd y hK1)
        by_cases hK4 : K = 4
        · subst hK4
          obtain ⟨_, _, _, e, he, hcase⟩ := TOK_look T1 hi1 i16 (isF_t (Or.inr rfl))
          have h3 : e.2.1 = 2 ∧ e.2.2.2.2 = 2 ∧ tkA ac e := by
            rcases hcase with ⟨_, _, _, z⟩ | ⟨_, _, _, z⟩ | ⟨a, b, g, _⟩
            · exact absurd (congrArg (fun t : N5 => t.1) z) (by decide : ¬ (4 : Nat) = 1)
            · exact absurd (congrArg (fun t : N5 => t.1) z) (by decide : ¬ (4 : Nat) = 1)
            · exact ⟨a, b, g⟩
          obtain ⟨h', w3, b0, b1, b2⟩ := pq_k4 HH HW' (x := 4 + c) (by omega) hi1 i16 hl' (nI q)
          rw [f4] at b1
          refine ⟨XS p k r l s o h' w3, O, _, fu H (4 + c) (fu (H (4 + c)) i false), ac, ov, nI 4, ⟨p, k, r, l, s, o, h', w3, rfl, HP, HK, HR, HL, HS, HO, b0, b1⟩, PINV_rcvB (V := fun d => W (4 + d)) I0 hc hW (wc _) (fun x h1 h2 => wx _ x h2 (by omega)) (w4 _) (fun d h1 h2 => wx _ (4 + d) (by omega) (by omega)) (fun _ _ => rfl) (hb := false) fu_s (fun x hx' => fu_n hx') (Or.inr (Or.inr rfl)) hi1 i16 (isF_t (Or.inr rfl)) he (Or.inr (Or.inr ⟨h3.1, h3.2.1, h3.2.2, rfl, rfl⟩)) (fun _ => Nat.le_refl _) (fun _ _ => rfl) (fun z => i7 e.1 z) (fun a ha hq' hst hHa => ?_) (fun d B tk _ T => T) (fun d E F G tk _ T => T) (fun _ _ _ => rfl) (fun _ _ _ ha => ha) (fun d s' hd ha => i10 d s' hd ha) i11, MVB_a hc hW (wc _) (w4 _) (wx _) (Or.inr ⟨_, rfl, by unfold wd; simp⟩) (by unfold wd; simp), ARM_0, sameA, sameV, fun post hp => nt post (b2 p k r l s o _ hp)⟩
          by_cases hai : a.2.2.1 = i
          · have := lk_of T1.1 ha
            rw [hai, he] at this
            rw [← Option.some.inj this] at hst
            omega
          · rw [fu_n hai] at hHa
            exact i8 c hc a ha hq' hst hHa
        · have hKb : K = 2 ∨ K = 3 ∨ K = 5 := by omega
          obtain ⟨_, _, _, e, he, htk, hcase⟩ := TOK_back T2 hi1 i16 (isB_t hKb)
          obtain ⟨j, hj, hji⟩ := lk_at he
          have z1 : fu W c L c = L := fu_s
          rcases hcase with ⟨c1, c2, c3, c4⟩ | ⟨c1, c2, c3, c4⟩ | ⟨c1, c2, c3, c4⟩
          · simp only [Prod.mk.injEq] at c4
            obtain ⟨rfl, _, rfl, rfl, rfl⟩ := c4
            obtain ⟨o', a1, a2⟩ := pq_k2 HO (x := 4 + c) (by omega) T2.1 hj hji c1 c2 (nI 0)
            refine ⟨XS p k r l s o' h w', _, fu W c L, H, ac, ov, nI 2, ⟨p, k, r, l, s, o', h, w', rfl, HP, HK, HR, HL, HS, a1, HH, HW'⟩, PINV_ackB I0 hc hW z1 (fun x h1 _ => fu_n h1) (fun x hx' => fu_n hx') hi1 i16 (isB_t (Or.inl rfl)) hj hji htk (Or.inl ⟨f4 c, fu_s, c3⟩), MVB_a (A := []) hc hW z1 (by rw [f4, List.append_nil]) (fun x h1 _ => fu_n h1) (Or.inl rfl) (by unfold wd; simp), ARM_0, sameA, sameV, fun post hp => nt post (a2 p k r l s h w' _ hp)⟩
          · simp only [Prod.mk.injEq] at c4
            obtain ⟨rfl, _, rfl, rfl, rfl⟩ := c4
            obtain ⟨o', w3, a1, b1, a2⟩ := pq_k3 HO HW' (x := 4 + c) (by omega) T2.1 hj hji c1 c2 hl' (nI 0)
            rw [f4] at b1
            refine ⟨XS p k r l s o' h w3, _, _, H, ac, ov, nI 3, ⟨p, k, r, l, s, o', h, w3, rfl, HP, HK, HR, HL, HS, a1, HH, b1⟩, PINV_ackB I0 hc hW (wc _) (wx _) (fun x hx' => fu_n hx') hi1 i16 (isB_t (Or.inr (Or.inl rfl))) hj hji htk (Or.inr ⟨w4 _, fu_s, c1⟩), MVB_a hc hW (wc _) (w4 _) (wx _) (Or.inr ⟨_, rfl, by unfold wd; simp⟩) (by unfold wd; simp), ARM_0, sameA, sameV, fun post hp => nt post (a2 p k r l s h _ hp)⟩
          · simp only [Prod.mk.injEq] at c4
            obtain ⟨rfl, _, rfl, rfl, rfl⟩ := c4
            obtain ⟨o', a1, a2⟩ := pq_k5 HO (x := 4 + c) (by omega) T2.1 hj hji c2 (nI 0)
            refine ⟨XS p k r l s o' h w', _, fu W c L, H, ac, ov, nI 5, ⟨p, k, r, l, s, o', h, w', rfl, HP, HK, HR, HL, HS, a1, HH, HW'⟩, PINV_ackB I0 hc hW z1 (fun x h1 _ => fu_n h1) (fun x hx' => fu_n hx') hi1 i16 (isB_t (Or.inr (Or.inr rfl))) hj hji htk (Or.inl ⟨f4 c, fu_s, c3⟩), MVB_a (A := []) hc hW z1 (by rw [f4, List.append_nil]) (fun x h1 _ => fu_n h1) (Or.inl rfl) (by unfold wd; simp), ARM_0, sameA, sameV, fun post hp => nt post (a2 p k r l s h w' _ hp)⟩
end Q25
end
section
section Q26
theorem MSN_len {up : Bool} : ∀ (m : Nat) (O W : List N5) (v : Nat) (O' W' : List N5) (v' : Nat), MSN up m O W v O' W' v' → W'.length ≤ W.length + m ∧ v ≤ v' ∧ v' ≤ v + m := by
  intro m
  induction m with
  | zero =>
    intro O W v O' W' v' h
    obtain ⟨_, h2, h3⟩ := h
    rw [h2, h3]
    omega
  | succ m ih =>
    intro O W v O' W' v' h
    obtain ⟨O1, W1, v1, s, e, _, _, _, h1, h2⟩ := h
    have a := SND_len h1
    have b := ih O1 W1 v1 O' W' v' h2
    have d : v ≤ v1 ∧ v1 ≤ v + 1 := by
      rcases h1 with ⟨_, _, z, _⟩ | ⟨_, _, _, _, z⟩ | ⟨_, z, _⟩ <;> omega
    omega
theorem ql_pub {u : St1} {O W : Nat → List N5} {H : Nat → Nat → Bool} {up se pe : Nat → Bool} {S : Nat → List (Int32 × Nat)} {rc : Nat → Nat → Nat} {ac ov : Nat → Nat} {n : Nat} {tp : Nat → Int32} {qu : Nat → Nat} {am : Nat → Nat → Bool} {nq : Nat → Bool} (P : PIC u O W H up se pe S rc ac ov n tp qu) (I : PINV O W H up pe S rc ac n qu am nq) {c qn : Nat} (hc : c < 4) {T Y F : Int32} (hF : F &&& 3 = nI qn) (hq : qn ≤ 2) (hl : (W c).length < 32) :
    (∃ R : Int32, R < 0 ∧ ∀ post : Int32 → St1 → Prop, post R u → wpX_publish post u (nI c) T Y F)
    ∨ (n < 24 ∧ ∃ (u' : St1) (O2 W2 : Nat → List N5), PIC u' O2 W2 H up se pe S rc ac ov (n + 1) (fu tp (n + 1) T) (fu qu (n + 1) qn) ∧ PINV O2 W2 H up pe S rc ac (n + 1) (fu qu (n + 1) qn) am nq ∧ (∀ x, x ≠ c → W2 x = W x) ∧ (W2 c).length ≤ (W c).length + 1 ∧ ∀ post : Int32 → St1 → Prop, post (nI (n + 1)) u' → wpX_publish post u (nI c) T Y F) := by
  obtain ⟨p, k, r, l, s, o, h, w, rfl, HP, HK, HR, HL, HS, HO, HH, HW⟩ := P
  rcases pq_publish HP HL HO HW hc (T := T) (P := Y) hF hq hl (I.2.2.2.1 c hc).1 with ⟨R, h1, h2⟩ | ⟨n24, hu, p', o', w', O', W', b1, b2, b3, b4, b5⟩
  · exact Or.inl ⟨R, h1, fun post hp => h2 k r s h post hp⟩
  · refine Or.inr ⟨n24, XS p' k r l s o' h w', _, _, ⟨p', k, r, l, s, o', h, w', rfl, b2, HK, HR, HL, HS, b3, HH, b4⟩, PINV_pub I hc hu hq b1, fun x hx => fu_n hx, ?_, fun post hp => b5 k r s h post hp⟩
    rw [fu_s]
    rcases b1 with ⟨_, _, z⟩ | ⟨_, _, i, _, _, _, _, z⟩ <;> rw [z, List.length_append, List.length_singleton] <;> omega
theorem ql_uns {u : St1} {O W : Nat → List N5} {H : Nat → Nat → Bool} {up se pe : Nat → Bool} {S : Nat → List (Int32 × Nat)} {rc : Nat → Nat → Nat} {ac ov : Nat → Nat} {n : Nat} {tp : Nat → Int32} {qu : Nat → Nat} {am : Nat → Nat → Bool} {nq : Nat → Bool} (P : PIC u O W H up se pe S rc ac ov n tp qu) (I : PINV O W H up pe S rc ac n qu am nq) {c : Nat} (hc : c < 4) (F : Int32) :
    ∃ (u' : St1) (S2 : Nat → List (Int32 × Nat)) (R : Int32), PIC u' O W H up se pe S2 rc ac ov n tp qu ∧ PINV O W H up pe S2 rc ac n qu am nq ∧ ∀ post : Int32 → St1 → Prop, post R u' → wpX_unsubscribe post u (nI c) F := by
  obtain ⟨p, k, r, l, s, o, h, w, rfl, HP, HK, HR, HL, HS, HO, HH, HW⟩ := P
  obtain ⟨s', L', R, h1, h2, h3⟩ := pq_uns HL HS hc F
  exact ⟨XS p k r l s' o h w, _, R, ⟨p, k, r, l, s', o, h, w, rfl, HP, HK, HR, HL, h1, HO, HH, HW⟩, PINV_uns I h2, fun post hp => h3 p k r o h w post hp⟩
theorem ql_sub {u : St1} {O W : Nat → List N5} {H : Nat → Nat → Bool} {up se pe : Nat → Bool} {S : Nat → List (Int32 × Nat)} {rc : Nat → Nat → Nat} {ac ov : Nat → Nat} {n : Nat} {tp : Nat → Int32} {qu : Nat → Nat} {am : Nat → Nat → Bool} {nq : Nat → Bool} (P : PIC u O W H up se pe S rc ac ov n tp qu) (I : PINV O W H up pe S rc ac n qu am nq) {c : Nat} (hc : c < 4) (F Q : Int32) (hl : (W (4 + c)).length ≤ 24) :
    (∃ R : Int32, R < 0 ∧ ∀ post : Int32 → St1 → Prop, post R u → wpX_subscribe post u (nI c) F Q)
    ∨ ∃ (u' : St1) (O2 W2 : Nat → List N5) (S2 : Nat → List (Int32 × Nat)) (ov2 : Nat → Nat) (qn N : Nat), Q = nI qn ∧ qn ≤ 2 ∧ N ≤ 8 ∧ PIC u' O2 W2 H up se pe S2 rc ac ov2 n tp qu ∧ (∀ nq' : Nat → Bool, (∀ d, d < 4 → nq' d = false → nq d = false) → (nq' c = false → qn = 2) → PINV O2 W2 H up pe S2 rc ac n qu am nq') ∧ (∀ x, x ≠ 4 + c → W2 x = W x) ∧ (W2 (4 + c)).length ≤ (W (4 + c)).length + 8 ∧ (∀ d, ov d ≤ ov2 d ∧ ov2 d ≤ ov d + 8) ∧ ∀ post : Int32 → St1 → Prop, post (nI N) u' → wpX_subscribe post u (nI c) F Q := by
  obtain ⟨p, k, r, l, s, o, h, w, rfl, HP, HK, HR, HL, HS, HO, HH, HW⟩ := P
  rcases pq_subscribe HP HL HS HR HO HW HK hc F Q hl with ⟨R, h1, h2⟩ | ⟨hu, qn, N, mm, k', s', o', w', L', O', W', v', hq, hQ, hN, hmm, b1, b2, b3, b4, b5, b6, b7⟩
  · exact Or.inl ⟨R, h1, fun post hp => h2 h post hp⟩
  · obtain ⟨z1, z2, z3⟩ := MSN_len mm _ _ _ _ _ _ b3
    refine Or.inr ⟨XS p k' r l s' o' h w', _, _, _, _, qn, N, hQ, hq, hN, ⟨p, k', r, l, s', o', h, w', rfl, HP, b6, HR, HL, b1, b4, HH, b5⟩, fun nq' n1 n2 => PINV_sub (PINV_msn hc mm O W (ov c) O' W' v' I b3) b2 n1 n2, fun x hx => fu_n hx, by rw [fu_s]; omega, fun d => ?_, fun post hp => b7 h post hp⟩
    by_cases e : d = c
    · rw [e, fu_s]; omega
    · rw [fu_n e]; omega
theorem ql_disc {u : St1} {O W : Nat → List N5} {H : Nat → Nat → Bool} {up se pe : Nat → Bool} {S : Nat → List (Int32 × Nat)} {rc : Nat → Nat → Nat} {ac ov : Nat → Nat} {n : Nat} {tp : Nat → Int32} {qu : Nat → Nat} {am : Nat → Nat → Bool} {nq : Nat → Bool} (P : PIC u O W H up se pe S rc ac ov n tp qu) (I : PINV O W H up pe S rc ac n qu am nq) {c : Nat} (hc : c < 4) :
    ∃ (u' : St1) (O2 W2 : Nat → List N5) (H2 : Nat → Nat → Bool) (up2 se2 pe2 : Nat → Bool) (S2 : Nat → List (Int32 × Nat)) (R : Int32), PIC u' O2 W2 H2 up2 se2 pe2 S2 rc ac ov n tp qu ∧ PINV O2 W2 H2 up2 pe2 S2 rc ac n qu am nq ∧ (∀ x, (W2 x).length ≤ (W x).length) ∧ ∀ post : Int32 → St1 → Prop, post R u' → wpX_disconnect post u (nI c) := by
  obtain ⟨p, k, r, l, s, o, h, w, rfl, HP, HK, HR, HL, HS, HO, HH, HW⟩ := P
  have hlen : ∀ x, (fu (fu W c []) (4 + c) [] x).length ≤ (W x).length := by
    intro x
    by_cases e : x = 4 + c
    · rw [e, fu_s]; exact Nat.zero_le _
    · rw [fu_n e]
      by_cases e2 : x = c
      · rw [e2, fu_s]; exact Nat.zero_le _
      · rw [fu_n e2]; exact Nat.le_refl _
  cases hu : up c with
  | false => exact ⟨_, O, W, H, up, se, pe, S, 0, ⟨p, k, r, l, s, o, h, w, rfl, HP, HK, HR, HL, HS, HO, HH, HW⟩, I, fun _ => Nat.le_refl _, fun post hp => px_disc_no HL hc hu hp⟩
  | true =>
    cases hp : pe c with
    | true => exact ⟨_, O, _, H, _, se, pe, S, 1, ⟨p, k, r, (upd l.1 c 0, l.2), s, o, h, (w.1, upd (upd w.2.1 c 0) (4 + c) 0, w.2.2), rfl, HP, HK, HR, pc_L_down HL, HS, HO, HH, pc_W_clr HW hc⟩, PINV_down I hc, hlen, fun post hq => px_disc_p HL hc hu hp hq⟩
    | false =>
      obtain ⟨D1, D2, D3, D4⟩ := pq_dis (pc_L_down (c := c) HL) HS HO HH hc
      have I1 := PINV_down I hc
      have I2 := PINV_disc (b := false) (u := false) I1 hc fu_s (fun s' => by
        cases ha : am c s' with
        | false => rfl
        | true =>
          have := (I.2.2.2.2.2.2.2.2.2.2.2.2 c s' hc ha).1
          rw [hp] at this
          exact absurd this (by decide))
      rw [fu_fu] at I2
      exact ⟨_, _, _, _, _, _, _, _, 1, ⟨p, k, r, (upd l.1 c 0, upd l.2.1 c 0, upd l.2.2 c 0), (upd s.1 c 0, s.2), (upd (upd o.1 c 0) (4 + c) 0, o.2), _, (w.1, upd (upd w.2.1 c 0) (4 + c) 0, w.2.2), rfl, HP, HK, HR, D1, D2, D3, D4, pc_W_clr HW hc⟩, I2, hlen, fun post hq => px_disc_c HL hc hu hp hq⟩
theorem ql_conn {u : St1} {O W : Nat → List N5} {H : Nat → Nat → Bool} {up se pe : Nat → Bool} {S : Nat → List (Int32 × Nat)} {rc : Nat → Nat → Nat} {ac ov : Nat → Nat} {n : Nat} {tp : Nat → Int32} {qu : Nat → Nat} {am : Nat → Nat → Bool} {nq : Nat → Bool} (P : PIC u O W H up se pe S rc ac ov n tp qu) (I : PINV O W H up pe S rc ac n qu am nq) {c : Nat} (hc : c < 4) (B : Int32) (ha : ¬ B = 0 → ∀ s, am c s = false) :
    ∃ (u' : St1) (O2 W2 : Nat → List N5) (H2 : Nat → Nat → Bool) (up2 se2 pe2 : Nat → Bool) (S2 : Nat → List (Int32 × Nat)) (R : Int32), PIC u' O2 W2 H2 up2 se2 pe2 S2 rc ac ov n tp qu ∧ PINV O2 W2 H2 up2 pe2 S2 rc ac n qu am nq ∧ (∀ x, (W2 x).length ≤ (W x).length ∨ (W2 x).length ≤ 16) ∧ ∀ post : Int32 → St1 → Prop, post R u' → wpX_connect post u (nI c) B := by
  obtain ⟨p, k, r, l, s, o, h, w, rfl, HP, HK, HR, HL, HS, HO, HH, HW⟩ := P
  cases hu : up c with
  | true => exact ⟨_, O, W, H, up, se, pe, S, -2, ⟨p, k, r, l, s, o, h, w, rfl, HP, HK, HR, HL, HS, HO, HH, HW⟩, I, fun _ => Or.inl (Nat.le_refl _), fun post hp => px_conn_no HL hc hu hp⟩
  | false =>
    obtain ⟨w1, w2⟩ := I.2.2.1 c hc hu
    by_cases hr : B = 0 ∧ pe c = true
    · have l1 := (HO.1 c (by omega)).1
      have l2 := (HO.1 (4 + c) (by omega)).1
      obtain ⟨w', b1, b2⟩ := pq_conn_res HL HO HW hc hu hr.1 hr.2 (by rw [w1]; show 0 + _ ≤ 32; omega) (by rw [w2]; show 0 + _ ≤ 32; omega)
      refine ⟨XS p k r (upd l.1 c 1, upd l.2.1 c 1, upd l.2.2 c (bI true)) s o h w', O, _, H, _, _, _, S, 1, ⟨p, k, r, _, s, o, h, w', rfl, HP, HK, HR, pc_L_up HL true, HS, HO, HH, b1⟩, PINV_res I hc hu hr.2, fun x => ?_, fun post hp => b2 p k r s h post hp⟩
      by_cases e : x = 4 + c
      · rw [e, fu_s, w2, List.nil_append, List.length_map]; exact Or.inr l2
      · rw [fu_n e]
        by_cases e2 : x = c
        · rw [e2, fu_s, w1, List.nil_append, List.length_map]; exact Or.inr l1
        · rw [fu_n e2]; exact Or.inl (Nat.le_refl _)
    · have hB : ¬ B = 0 ∨ pe c = false := by
        by_cases h0 : B = 0
        · refine Or.inr ?_
          cases hp : pe c with
          | false => rfl
          | true => exact absurd ⟨h0, hp⟩ hr
        · exact Or.inl h0
      have ham : ∀ s, am c s = false := by
        rcases hB with z | z
        · exact ha z
        · intro s'
          cases hx : am c s' with
          | false => rfl
          | true =>
            have := (I.2.2.2.2.2.2.2.2.2.2.2.2 c s' hc hx).1
            rw [z] at this
            exact absurd this (by decide)
      obtain ⟨D1, D2, D3, D4⟩ := pq_dis HL HS HO HH hc
      have D5 := pc_L_up (c := c) D1 (decide (B = 0))
      have I2 := PINV_disc (b := decide (B = 0)) (u := true) I hc hu ham
      rw [fu_fu] at D5
      rw [fu_fu] at D5
      exact ⟨_, _, W, _, _, _, _, _, 0, ⟨p, k, r, (upd l.1 c 1, upd (upd l.2.1 c 0) c 1, upd (upd l.2.2 c 0) c (bI (decide (B = 0)))), (upd s.1 c 0, s.2), (upd (upd o.1 c 0) (4 + c) 0, o.2), _, w, rfl, HP, HK, HR, D5, D2, D3, D4, HW⟩, I2, fun _ => Or.inl (Nat.le_refl _), fun post hp => px_conn_new HL hc hu hB hp⟩
end Q26
end
section
section Q27
/-! rows of kit/laws/BITS: Int32 by its bits; Int64: one bit, lN under shifts and masks -/
def bt (x : Int32) (i : Nat) : Bool := x.toBitVec.getLsbD i
theorem b_ext {x y : Int32} (h : ∀ i, i < 32 → bt x i = bt y i) : x = y := Int32.toBitVec_inj.mp (BitVec.eq_of_getLsbD_eq (fun i hi => h i hi))
theorem b_or (x y : Int32) (i : Nat) : bt (x ||| y) i = (bt x i || bt y i) := by unfold bt; rw [Int32.toBitVec_or, BitVec.getLsbD_or]
theorem b_and (x y : Int32) (i : Nat) : bt (x &&& y) i = (bt x i && bt y i) := by unfold bt; rw [Int32.toBitVec_and, BitVec.getLsbD_and]
theorem b_xor (x y : Int32) (i : Nat) : bt (x ^^^ y) i = (bt x i ^^ bt y i) := by unfold bt; rw [Int32.toBitVec_xor, BitVec.getLsbD_xor]
theorem b_big {x : Int32} {i : Nat} (h : 32 ≤ i) : bt x i = false := BitVec.getLsbD_of_ge _ _ h
theorem b_m1 : ∀ i, i < 32 → bt (-1) i = true := by decide +kernel
theorem b_0 (i : Nat) : bt 0 i = false := BitVec.getLsbD_zero
theorem s_l : ∀ n, n < 32 → ((nI n &&& 31).toBitVec.smod 32).toNat = n := by decide +kernel
theorem s_u : ∀ n, n < 32 → (((nI n).toUInt32 &&& Int32.toUInt32 31).toBitVec % 32).toNat = n := by decide +kernel
theorem b_shl (n : Nat) (hn : n < 32) (x : Int32) {i : Nat} (hi : i < 32) : bt (x <<< (nI n &&& 31)) i = (decide (n ≤ i) && bt x (i - n)) := by
  unfold bt
  rw [Int32.toBitVec_shiftLeft]
  show (x.toBitVec <<< ((nI n &&& 31).toBitVec.smod 32).toNat).getLsbD i = _
  rw [s_l n hn, BitVec.getLsbD_shiftLeft]
  rcases Nat.lt_or_ge i n with h | h
  · simp [h, Nat.not_le.mpr h]
  · simp [hi, h, Nat.not_lt.mpr h]
theorem b_sshr (n : Nat) (hn : n < 32) (x : Int32) {i : Nat} (hi : i < 32) : bt (x >>> (nI n &&& 31)) i = if n + i < 32 then bt x (n + i) else bt x 31 := by
  unfold bt
  rw [Int32.toBitVec_shiftRight]
  show (x.toBitVec.sshiftRight ((nI n &&& 31).toBitVec.smod 32).toNat).getLsbD i = _
  rw [s_l n hn, BitVec.getLsbD_sshiftRight, BitVec.msb_eq_getLsbD_last]
  simp [hi]
theorem ts_nf {x : Bool} (h : ¬ x = false) : x = true := by cases x <;> first | rfl | exact absurd rfl h
theorem ts_nt {x : Bool} (h : ¬ x = true) : x = false := by cases x <;> first | rfl | exact absurd rfl h
theorem ts_bit {w : Int64} {s : UInt64} {j : Nat} (hj : j < 64) (hs : s.toNat = j) : ((w.toUInt64 >>> s).toInt64 &&& 1) = 0 ↔ w.toBitVec.getLsbD j = false := by
  have e : (w.toUInt64 >>> s).toInt64.toBitVec = w.toBitVec >>> j := by
    apply BitVec.eq_of_toNat_eq
    show (w.toUInt64 >>> s).toNat = _
    rw [UInt64.toNat_shiftRight, hs, Nat.mod_eq_of_lt hj, BitVec.toNat_ushiftRight]
    rfl
  rw [← Int64.toBitVec_inj, Int64.toBitVec_and, e]
  show w.toBitVec >>> j &&& 1#64 = 0#64 ↔ _
  constructor
  · intro h
    have t := congrArg (fun x => x.getLsbD 0) h
    simpa using t
  · intro h
    apply BitVec.eq_of_getLsbD_eq
    intro i hi
    cases i with
    | zero => simp [h]
    | succ i => simp
theorem wb_tb (n : Nat) : (lN n).toBitVec = BitVec.ofNat 64 n := rfl
theorem wb_inj {a b : Int64} (h : a.toBitVec = b.toBitVec) : a = b := Int64.toBitVec_inj.mp h
theorem wb_tn {n : Nat} (h : n < 2 ^ 64) : (lN n).toBitVec.toNat = n := by rw [wb_tb, BitVec.toNat_ofNat, Nat.mod_eq_of_lt h]
theorem wb_of (x : Int64) : ∃ n, n < 2 ^ 64 ∧ x = lN n := ⟨x.toBitVec.toNat, x.toBitVec.isLt, wb_inj (by rw [wb_tb]; simp)⟩
theorem wb_of32 (x : Int32) : ∃ n, n < 2 ^ 32 ∧ x = nI n := ⟨x.toBitVec.toNat, x.toBitVec.isLt, Int32.toBitVec_inj.mp (by show _ = BitVec.ofNat 32 _; simp)⟩
theorem wb_c : ∀ k, k < 64 → ((nI k).toInt64 &&& 63) = lN k := by decide +kernel
theorem wb_cu : ∀ k, k < 64 → ((nI k).toInt64.toUInt64 &&& Int64.toUInt64 63) = UInt64.ofNat k := by decide +kernel
theorem wb_sm : ∀ k, k < 64 → (BitVec.ofNat 64 k).smod 64 = BitVec.ofNat 64 k := by decide +kernel
theorem wb_pw {a b : Nat} (h : a ≤ b) : 2 ^ b = 2 ^ a * 2 ^ (b - a) := by rw [← Nat.pow_add]; congr 1; omega
theorem wb_lt2 {a b : Nat} (h : a < b) : 2 ^ a < 2 ^ b := Nat.pow_lt_pow_right (by decide) h
theorem wb_mod (n : Nat) : lN n = lN (n % 2 ^ 64) := wb_inj (by rw [wb_tb, wb_tb]; apply BitVec.eq_of_toNat_eq; rw [BitVec.toNat_ofNat, BitVec.toNat_ofNat, Nat.mod_mod])
theorem wb_shr {n k : Nat} (hn : n < 2 ^ 64) (hk : k < 64) : ((lN n).toUInt64 >>> ((nI k).toInt64.toUInt64 &&& Int64.toUInt64 63)).toInt64 = lN (n / 2 ^ k) := by
  rw [wb_cu k hk]
  apply wb_inj
  apply BitVec.eq_of_toNat_eq
  show ((lN n).toUInt64 >>> UInt64.ofNat k).toNat = (BitVec.ofNat 64 _).toNat
  have h1 : (UInt64.ofNat k).toNat = k := by
    show (BitVec.ofNat 64 k).toNat = k
    rw [BitVec.toNat_ofNat, Nat.mod_eq_of_lt (by omega)]
  have h2 : (lN n).toUInt64.toNat = n := wb_tn hn
  rw [UInt64.toNat_shiftRight, h1, h2, Nat.mod_eq_of_lt hk, Nat.shiftRight_eq_div_pow, BitVec.toNat_ofNat, Nat.mod_eq_of_lt (Nat.lt_of_le_of_lt (Nat.div_le_self _ _) hn)]
theorem wb_shl (n : Nat) {k : Nat} (hk : k < 64) : lN n <<< ((nI k).toInt64 &&& 63) = lN (n * 2 ^ k) := by
  rw [wb_c k hk]
  apply wb_inj
  rw [Int64.toBitVec_shiftLeft, wb_tb, wb_tb, wb_tb, wb_sm k hk]
  apply BitVec.eq_of_toNat_eq
  rw [BitVec.shiftLeft_eq', BitVec.toNat_shiftLeft, BitVec.toNat_ofNat, BitVec.toNat_ofNat, BitVec.toNat_ofNat, Nat.mod_eq_of_lt (show k < 2 ^ 64 by omega), Nat.shiftLeft_eq, Nat.mul_mod, Nat.mod_mod, ← Nat.mul_mod]
theorem wb_and {a b : Nat} (ha : a < 2 ^ 64) (hb : b < 2 ^ 64) : lN a &&& lN b = lN (a &&& b) := by
  apply wb_inj
  rw [Int64.toBitVec_and, wb_tb, wb_tb, wb_tb]
  apply BitVec.eq_of_toNat_eq
  rw [BitVec.toNat_and, BitVec.toNat_ofNat, BitVec.toNat_ofNat, BitVec.toNat_ofNat, Nat.mod_eq_of_lt ha, Nat.mod_eq_of_lt hb, Nat.mod_eq_of_lt (Nat.and_lt_two_pow _ hb)]
theorem wb_or {a b : Nat} (ha : a < 2 ^ 64) (hb : b < 2 ^ 64) : lN a ||| lN b = lN (a ||| b) := by
  apply wb_inj
  rw [Int64.toBitVec_or, wb_tb, wb_tb, wb_tb]
  apply BitVec.eq_of_toNat_eq
  rw [BitVec.toNat_or, BitVec.toNat_ofNat, BitVec.toNat_ofNat, BitVec.toNat_ofNat, Nat.mod_eq_of_lt ha, Nat.mod_eq_of_lt hb, Nat.mod_eq_of_lt (Nat.or_lt_two_pow ha hb)]
theorem wb_mask {n k : Nat} (hn : n < 2 ^ 64) (hk : k < 64) : lN n &&& lN (2 ^ k - 1) = lN (n % 2 ^ k) := by
  rw [wb_and hn (by have := wb_lt2 hk; omega), Nat.and_two_pow_sub_one_eq_mod]
theorem wb_a1 {n : Nat} (hn : n < 2 ^ 64) : lN n &&& 1 = lN (n % 2) := wb_mask (k := 1) hn (by decide)
theorem wb_bit {n k : Nat} (hn : n < 2 ^ 64) (hk : k < 64) : ((lN n).toUInt64 >>> ((nI k).toInt64.toUInt64 &&& Int64.toUInt64 63)).toInt64 &&& 1 = lN (n / 2 ^ k % 2) := by
  rw [wb_shr hn hk, wb_a1 (Nat.lt_of_le_of_lt (Nat.div_le_self _ _) hn)]
/-! Int64 by its bits -/
def lb (x : Int64) (i : Nat) : Bool := x.toBitVec.getLsbD i
theorem lb_or (x y : Int64) (i : Nat) : lb (x ||| y) i = (lb x i || lb y i) := by unfold lb; rw [Int64.toBitVec_or, BitVec.getLsbD_or]
theorem lb_and (x y : Int64) (i : Nat) : lb (x &&& y) i = (lb x i && lb y i) := by unfold lb; rw [Int64.toBitVec_and, BitVec.getLsbD_and]
theorem lb_xor (x y : Int64) (i : Nat) : lb (x ^^^ y) i = (lb x i ^^ lb y i) := by unfold lb; rw [Int64.toBitVec_xor, BitVec.getLsbD_xor]
theorem lb_m1 : ∀ i, i < 64 → lb (-1) i = true := by decide +kernel
theorem lb_0 (i : Nat) : lb 0 i = false := BitVec.getLsbD_zero
theorem lb_lN {n i : Nat} (hi : i < 64) : lb (lN n) i = n.testBit i := by
  unfold lb
  rw [wb_tb, BitVec.getLsbD_ofNat]
  simp [hi]
theorem lb_shl {n k i : Nat} (hk : k < 64) (hi : i < 64) : lb (lN n <<< ((nI k).toInt64 &&& 63)) i = (decide (k ≤ i) && n.testBit (i - k)) := by
  rw [wb_shl n hk, lb_lN hi, Nat.testBit_mul_two_pow]
/-- a bit is tested -/
theorem lb_t {x : Int64} {k : Nat} (hk : k < 64) : (((x.toUInt64 >>> ((nI k).toInt64.toUInt64 &&& Int64.toUInt64 63)).toInt64) &&& 1) = 0 ↔ lb x k = false := by
  rw [wb_cu k hk]
  refine ts_bit hk ?_
  show (BitVec.ofNat 64 k).toNat = k
  rw [BitVec.toNat_ofNat, Nat.mod_eq_of_lt (by omega)]
/-- a bit is set -/
theorem lb_s {x : Int64} {k i : Nat} (hk : k < 64) (hi : i < 64) : lb (x ||| ((1 : Int64) <<< ((nI k).toInt64 &&& 63))) i = (lb x i || decide (i = k)) := by
  rw [lb_or]
  have h : lb ((1 : Int64) <<< ((nI k).toInt64 &&& 63)) i = (decide (k ≤ i) && (1 : Nat).testBit (i - k)) := lb_shl (n := 1) hk hi
  rw [h]
  congr 1
  by_cases e : i = k
  · subst e
    simp
  · by_cases g : k ≤ i
    · have : (1 : Nat).testBit (i - k) = false := by
        obtain ⟨j, hj⟩ : ∃ j, i - k = j + 1 := ⟨i - k - 1, by omega⟩
        rw [hj, Nat.testBit_succ]
        simp
      simp [this, e]
    · simp [g, e]
theorem tb_mask (w j : Nat) : (2 ^ w - 1).testBit j = decide (j < w) := Nat.testBit_two_pow_sub_one w j
/-- a field is cleared -/
theorem lb_c {x : Int64} {m w k i : Nat} (hm : m = 2 ^ w - 1) (hk : k < 64) (hi : i < 64) : lb (x &&& ((lN m <<< ((nI k).toInt64 &&& 63)) ^^^ (-1))) i = (lb x i && !(decide (k ≤ i) && decide (i - k < w))) := by
  rw [lb_and, lb_xor, lb_shl hk hi, lb_m1 i hi, hm, tb_mask]
  cases decide (k ≤ i) <;> cases decide (i - k < w) <;> simp
/-- a field is read -/
theorem fd_r {x : Int64} {w k : Nat} (hw : w < 64) (hk : k < 64) (hkw : k + w ≤ 64) : ∃ r, r < 2 ^ w ∧ ((x.toUInt64 >>> ((nI k).toInt64.toUInt64 &&& Int64.toUInt64 63)).toInt64) &&& lN (2 ^ w - 1) = lN r ∧ ∀ j, j < w → r.testBit j = lb x (k + j) := by
  obtain ⟨n, hn, rfl⟩ := wb_of x
  refine ⟨n / 2 ^ k % 2 ^ w, Nat.mod_lt _ (Nat.two_pow_pos w), ?_, fun j hj => ?_⟩
  · rw [wb_shr hn hk, wb_mask (Nat.lt_of_le_of_lt (Nat.div_le_self _ _) hn) hw]
  · rw [Nat.testBit_mod_two_pow, Nat.testBit_div_two_pow, lb_lN (by omega), Nat.add_comm j k]
    simp [hj]
/-- the bits of an int -/
theorem bt_t {x : Int32} {k : Nat} (hk : k < 32) : ((x >>> (nI k &&& 31)) &&& 1) = 0 ↔ bt x k = false := by
  have h0 : bt ((x >>> (nI k &&& 31)) &&& 1) 0 = bt x k := by
    rw [b_and, b_sshr k hk x (by omega), Nat.add_zero, if_pos hk]
    have : bt 1 0 = true := by decide
    rw [this, Bool.and_true]
  constructor
  · intro h
    rw [h, b_0] at h0
    exact h0.symm
  · intro h
    apply b_ext
    intro i hi
    rw [b_0]
    cases i with
    | zero => rw [h0]; exact h
    | succ i =>
      rw [b_and]
      have : bt 1 (i + 1) = false := by
        have z : ∀ j, j < 31 → bt 1 (j + 1) = false := by decide +kernel
        exact z i (by omega)
      rw [this, Bool.and_false]
theorem bt_s {x : Int32} {k i : Nat} (hk : k < 32) (hi : i < 32) : bt (x ||| ((1 : Int32) <<< (nI k &&& 31))) i = (bt x i || decide (i = k)) := by
  rw [b_or, b_shl k hk 1 hi]
  congr 1
  by_cases e : i = k
  · subst e
    rw [Nat.sub_self]
    have : bt 1 0 = true := by decide
    simp [this]
  · by_cases g : k ≤ i
    · obtain ⟨j, hj⟩ : ∃ j, i - k = j + 1 := ⟨i - k - 1, by omega⟩
      have z : ∀ j, j < 31 → bt 1 (j + 1) = false := by decide +kernel
      rw [hj, z j (by omega)]
      simp [e]
    · simp [g, e]
end Q27
end
section
section Q28
/-! the law's words: a serial's info, an armed bit -/
def nfo (x2 x4 : Int64) (s : Nat) : Nat := (if s - 1 < 12 then x2 else x4).toBitVec.toNat / 2 ^ ((s - 1) % 12 * 5) % 2 ^ 5
theorem pl_info {u : St2} {x2 x4 : Int64} {s : Nat} (h1 : 1 ≤ s) (h2 : s ≤ 24) {post : Int32 → Prop} (hp : post (nI (nfo x2 x4 s))) : wpL_info post u x2 x4 (nI s) := by
  have e1 : nI s - 1 = nI (s - 1) := pk_sub (a := s) (b := 1) h1
  have h18 : ∀ z : Int64, z = (if s - 1 < 12 then x2 else x4) → wL_info_18 post (nI (s - 1)) z := by
    intro z hz
    refine ⟨by decide, ?_⟩
    have e2 : nI (s - 1) - nI (s - 1) / 12 * 12 = nI ((s - 1) % 12) := pk_rem (a := s - 1) (d := 12) (by omega) (by omega) (by omega)
    have e3 : nI ((s - 1) % 12) * 5 = nI ((s - 1) % 12 * 5) := pk_mul _ 5
    rw [e2, e3]
    obtain ⟨m, hm, hz2⟩ := wb_of z
    have e4 : ((z.toUInt64 >>> ((nI ((s - 1) % 12 * 5)).toInt64.toUInt64 &&& Int64.toUInt64 63)).toInt64) &&& 31 = lN (m / 2 ^ ((s - 1) % 12 * 5) % 2 ^ 5) := by
      rw [hz2, wb_shr hm (by omega)]
      exact wb_mask (k := 5) (Nat.lt_of_le_of_lt (Nat.div_le_self _ _) hm) (by omega)
    rw [e4, lN_i]
    have e5 : m / 2 ^ ((s - 1) % 12 * 5) % 2 ^ 5 = nfo x2 x4 s := by
      unfold nfo
      rw [← hz, hz2, wb_tn hm]
    rw [e5]
    exact hp
  refine nm_r e1 ?_
  by_cases hs : s - 1 < 12
  · exact br_f (nI_ge (b := 12) hs (by omega)) (h18 x2 (if_pos hs).symm)
  · exact br_t (nI_le (a := 12) (by omega) (by omega)) (h18 x4 (if_neg hs).symm)
theorem nfo_lt (x2 x4 : Int64) (s : Nat) : nfo x2 x4 s < 32 := Nat.mod_lt _ (by decide)
theorem pn_shr3 {r : Nat} (h : r < 32) : nI r >>> ((3 : Int32) &&& 31) = nI (r / 8) := pk_shrN (n := r) (by omega) _ 3 (by decide)
theorem pn_and7 {r : Nat} (h : r < 32) : nI r &&& 7 = nI (r % 8) := pk_andN (n := r) (by omega) 3 (by decide)
def amf (x6 x8 : Int64) (d s : Nat) : Bool := if 1 ≤ s ∧ s ≤ 24 then (if d < 2 then lb x6 (24 * d + s - 1) else lb x8 (24 * (d - 2) + s - 1)) else false
theorem pl_armed {u : St2} {x6 x8 : Int64} {d s : Nat} (hd : d < 4) (h1 : 1 ≤ s) (h2 : s ≤ 24) {post : Int32 → Prop} (hp : post (bI (amf x6 x8 d s))) : wpL_armed post u x6 x8 (nI d) (nI s) := by
  have e1 : nI d &&& 1 = nI (d % 2) := pk_andN (n := d) (by omega) 1 (by decide)
  have e2 : (24 : Int32) * nI (d % 2) = nI (24 * (d % 2)) := pk_mul 24 _
  have e3 : 24 * (nI d &&& 1) + nI s - 1 = nI (24 * (d % 2) + s - 1) := by
    rw [e1, e2, nI_add]
    exact pk_sub (b := 1) (by omega)
  have h11 : ∀ z : Int64, lb z (24 * (d % 2) + s - 1) = amf x6 x8 d s → wL_armed_11 post (nI d) (nI s) z := by
    intro z hz
    have hb := lb_t (x := z) (k := 24 * (d % 2) + s - 1) (by omega)
    rw [← e3] at hb
    cases ha : amf x6 x8 d s with
    | false =>
      rw [ha] at hz hp
      exact br_t (hb.mpr hz) hp
    | true =>
      rw [ha] at hz hp
      exact br_f (fun y => by rw [hb.mp y] at hz; exact absurd hz (by decide)) hp
  unfold amf at h11
  rw [if_pos ⟨h1, h2⟩] at h11
  by_cases hd2 : d < 2
  · rw [if_pos hd2] at h11
    exact br_f (nI_ge (b := 2) hd2 (by omega)) (h11 x6 (by rw [Nat.mod_eq_of_lt hd2]))
  · rw [if_neg hd2] at h11
    exact br_t (nI_le (a := 2) (by omega) (by omega)) (h11 x8 (by rw [show d % 2 = d - 2 by omega]))
/-- an armed serial that isn't received stands at STAGE_PUB -/
theorem ck_stage {O W : Nat → List N5} {H : Nat → Nat → Bool} {up pe : Nat → Bool} {S : Nat → List (Int32 × Nat)} {rc : Nat → Nat → Nat} {ac : Nat → Nat} {n : Nat} {qu : Nat → Nat} {am : Nat → Nat → Bool} {nq : Nat → Bool} (I : PINV O W H up pe S rc ac n qu am nq) {o : TO} (HO : pc_O o O) {d s : Nat} {R : Int32} (hd : d < 4) (ha : am d s = true) (hr : rc d s = 0) (hR : (R = 0 ∧ ∀ e, e ∈ O (4 + d) → e.1 = s → e.2.2.2.1 = 1) ∨ ∃ e, e ∈ O (4 + d) ∧ e.1 = s ∧ e.2.2.2.1 = 0 ∧ R = nI e.2.2.2.2) : R = 1 := by
  obtain ⟨i1, i2, i3, i4, i5, i6, i7, i8, i9, i10, i11, i12, i13⟩ := I
  obtain ⟨_, _, _, hx⟩ := i13 d s hd ha
  rcases hR with ⟨_, h⟩ | ⟨e, he, hs, hm, hR⟩
  · rcases hx with hx | ⟨e, he, h1, h2⟩
    · omega
    · have := h e he h1; omega
  · have T := i2 d hd
    have hok := (HO.1 (4 + d) (by omega)).2.1 e he
    have hl := lk_of T.1 he
    have t := T.2 e.2.2.1 hok.2.2.2.2.1 hok.2.2.2.2.2.1
    rw [hl] at t
    have st : e.2.2.2.2 = 1 := by
      rcases t with ⟨z, _⟩ | ⟨e', z, t⟩
      · exact absurd z (by simp)
      · have := Option.some.inj z
        subst this
        rcases t with ⟨_, g, _⟩ | ⟨_, g, _⟩ | ⟨_, _, g, _⟩
        · exact g
        · exact g
        · have := g hm
          rw [hs, hr] at this
          omega
    rw [hR, st]
    rfl
abbrev TJ : Type := Int64 → Int64 → Int64 → Int64 → Int64 → Int32 → Int32 → Int32 → Int32 → Int32 → Int32 → Int32 → Int32 → Int32 → TA → TA → TA → TA → TA → TA → TA → TA → TA → TA → TA → TA → TA → TA → TA → TA → TA → TA → TA → TA → TA → TA → TA → TA → TA → TA → TA → TA → TA → TA → Prop
/-- the checks of one serial at every client -/
theorem lw_1317 {p : TP} {k : TK} {r : TR} {l s : TL} {o : TO} {h : TA} {w : TW} {L : Nat} {xs : Nat → Int32} {post : Int32 → Prop} {J47 : TJ} {J : Int32 → Prop} {x2 x4 x6 x8 x10 : Int64} {x12 x13 x14 x15 x16 x17 x18 x19 x20 : Int32} {kc ks : Nat}
    {O W : Nat → List N5} {H : Nat → Nat → Bool} {up pe : Nat → Bool} {S : Nat → List (Int32 × Nat)} {rc : Nat → Nat → Nat} {ac ov : Nat → Nat} {n : Nat} {qu : Nat → Nat} {nq : Nat → Bool} (I : PINV O W H up pe S rc ac n qu (amf x6 x8) nq) (HO : pc_O o O) (HK : pc_K k rc ac ov) (hrc : ∀ d s, rc d s < 2 ^ 30) (hnq : ∀ d, d < 4 → nq d = bt x14 d) {s0 : Nat} (h1 : 1 ≤ s0) (h2 : s0 ≤ 24) (hq3 : qu s0 ≤ 2) (hJ : J (nI (s0 + 1))) :
    ∀ f d, d + f = 4 → wL_law_1317 post L xs J47 J x2 x4 x6 x8 x10 x12 x13 x14 x15 x16 x17 x18 x19 x20 (nI s0) (nI (qu s0)) kc ks p.1 r.1 p.2.1 p.2.2.1 p.2.2.2.1 p.2.2.2.2 k.1 k.2.1 k.2.2.1 k.2.2.2 r.2.1 r.2.2 l.1 l.2.1 l.2.2 s.1 s.2.1 s.2.2 o.1 o.2.1 o.2.2.1 o.2.2.2.1 o.2.2.2.2.1 o.2.2.2.2.2 h w.1 w.2.1 w.2.2.1 w.2.2.2.1 w.2.2.2.2.1 w.2.2.2.2.2.1 w.2.2.2.2.2.2 (f + 1) (nI d) := by
  intro f
  induction f with
  | zero =>
    intro d hd
    obtain rfl : d = 4 := by omega
    exact br_t (by decide) (nm_r (nI_1 _) hJ)
  | succ f ih =>
    intro d hd
    have hd4 : d < 4 := by omega
    have h4 : ¬ (4 : Int32) ≤ nI d := nI_ge (b := 4) hd4 (by omega)
    have hnext := ih (d + 1) (by omega)
    obtain ⟨R, bX, hR⟩ := pq_bs HO hd4 h1 h2
    have hr := hrc d s0
    have h1357 : wL_law_1357 post L xs J47 J (wL_law_1317 post L xs J47 J x2 x4 x6 x8 x10 x12 x13 x14 x15 x16 x17 x18 x19 x20 (nI s0) (nI (qu s0)) kc ks p.1 r.1 p.2.1 p.2.2.1 p.2.2.2.1 p.2.2.2.2 k.1 k.2.1 k.2.2.1 k.2.2.2 r.2.1 r.2.2 l.1 l.2.1 l.2.2 s.1 s.2.1 s.2.2 o.1 o.2.1 o.2.2.1 o.2.2.2.1 o.2.2.2.2.1 o.2.2.2.2.2 h w.1 w.2.1 w.2.2.1 w.2.2.2.1 w.2.2.2.2.1 w.2.2.2.2.2.1 w.2.2.2.2.2.2 (f + 1)) x2 x4 x6 x8 x10 x12 x13 x14 x15 x16 x17 x18 x19 x20 (nI s0) (nI (qu s0)) (nI d) (nI (rc d s0)) kc ks p.1 r.1 p.2.1 p.2.2.1 p.2.2.2.1 p.2.2.2.2 k.1 k.2.1 k.2.2.1 k.2.2.2 r.2.1 r.2.2 l.1 l.2.1 l.2.2 s.1 s.2.1 s.2.2 o.1 o.2.1 o.2.2.1 o.2.2.2.1 o.2.2.2.2.1 o.2.2.2.2.2 h w.1 w.2.1 w.2.2.1 w.2.2.2.1 w.2.2.2.2.1 w.2.2.2.2.2.1 w.2.2.2.2.2.2 := by
      unfold wL_law_1357
      refine pl_armed hd4 h1 h2 ?_
      cases ha : amf x6 x8 d s0 with
      | false => exact br_t rfl (nm_r (nI_1 _) hnext)
      | true =>
        refine br_f (by decide) ?_
        by_cases hz : 1 ≤ rc d s0
        · exact br_t (nI_le (a := 1) hz (by omega)) (nm_r (nI_1 _) hnext)
        · have hz0 : rc d s0 = 0 := by omega
          exact br_f (by rw [hz0]; decide) (bX p k r l s h w _ (br_t (ck_stage I HO hd4 ha hz0 hR) (nm_r (nI_1 _) hnext)))
    refine br_f h4 (pq_received HK hd4 h1 h2 (br_c (fun hq => br_c (fun hb => br_t ?_ h1357) fun _ => h1357) fun _ => h1357))
    have hq2 : qu s0 = 2 := (nI_eq (b := 2) (by omega) (by omega)).mp hq
    have hb' := (bt_t (x := x14) (show d < 32 by omega)).mp hb
    have X := I.2.2.2.2.2.2.2.2.2.2.1 d s0 hd4 hq2 (Or.inl (by rw [hnq d hd4]; exact hb'))
    exact nI_le (b := 1) X.1 (by omega)
/-- the checks of every serial -/
theorem lw_1280 {p : TP} {k : TK} {r : TR} {l s : TL} {o : TO} {h : TA} {w : TW} {L : Nat} {xs : Nat → Int32} {post : Int32 → Prop} {J47 : TJ} {x2 x4 x6 x8 x10 : Int64} {x12 x13 x14 x15 x16 x17 x18 x19 x20 : Int32} {kc ks : Nat}
    {O W : Nat → List N5} {H : Nat → Nat → Bool} {up pe : Nat → Bool} {S : Nat → List (Int32 × Nat)} {rc : Nat → Nat → Nat} {ac ov : Nat → Nat} {n : Nat} {qu : Nat → Nat} {nq : Nat → Bool} (I : PINV O W H up pe S rc ac n qu (amf x6 x8) nq) (HO : pc_O o O) (HK : pc_K k rc ac ov) (hrc : ∀ d s, rc d s < 2 ^ 30) (hnq : ∀ d, d < 4 → nq d = bt x14 d) (hpm : ∀ s, 1 ≤ s → s ≤ 24 → bt x12 (s - 1) = decide (s ≤ n)) (hqu : ∀ s, 1 ≤ s → s ≤ n → qu s = nfo x2 x4 s / 8 ∧ qu s ≤ 2)
    (h0 : x20 = 0 → J47 x2 x4 x6 x8 x10 x12 x13 x14 x15 x16 x17 (x19 + 1) p.1 r.1 p.2.1 p.2.2.1 p.2.2.2.1 p.2.2.2.2 k.1 k.2.1 k.2.2.1 k.2.2.2 r.2.1 r.2.2 l.1 l.2.1 l.2.2 s.1 s.2.1 s.2.2 o.1 o.2.1 o.2.2.1 o.2.2.2.1 o.2.2.2.2.1 o.2.2.2.2.2 h w.1 w.2.1 w.2.2.1 w.2.2.2.1 w.2.2.2.2.1 w.2.2.2.2.2.1 w.2.2.2.2.2.2) (h1 : ¬ x20 = 0 → ¬ x16 + (-1) = 0 → J47 x2 x4 x6 x8 x10 x12 x13 x14 x15 (x16 + (-1)) x17 (x19 + 1) p.1 r.1 p.2.1 p.2.2.1 p.2.2.2.1 p.2.2.2.2 k.1 k.2.1 k.2.2.1 k.2.2.2 r.2.1 r.2.2 l.1 l.2.1 l.2.2 s.1 s.2.1 s.2.2 o.1 o.2.1 o.2.2.1 o.2.2.2.1 o.2.2.2.2.1 o.2.2.2.2.2 h w.1 w.2.1 w.2.2.1 w.2.2.2.1 w.2.2.2.2.1 w.2.2.2.2.2.1 w.2.2.2.2.2.2) (h2 : ¬ x20 = 0 → x16 + (-1) = 0 → ∃ fu1419, wL_law_1419 post L xs J47 x2 x4 x6 x8 x10 x12 x13 x14 x15 (x16 + (-1)) x17 x18 x19 kc ks p.1 r.1 p.2.1 p.2.2.1 p.2.2.2.1 p.2.2.2.2 k.1 k.2.1 k.2.2.1 k.2.2.2 r.2.1 r.2.2 l.1 l.2.1 l.2.2 s.1 s.2.1 s.2.2 o.1 o.2.1 o.2.2.1 o.2.2.2.1 o.2.2.2.2.1 o.2.2.2.2.2 h w.1 w.2.1 w.2.2.1 w.2.2.2.1 w.2.2.2.2.1 w.2.2.2.2.2.1 w.2.2.2.2.2.2 fu1419 1) :
    ∀ f s0, s0 + f = 25 → 1 ≤ s0 → wL_law_1280 post L xs J47 x2 x4 x6 x8 x10 x12 x13 x14 x15 x16 x17 x18 x19 x20 kc ks p.1 r.1 p.2.1 p.2.2.1 p.2.2.2.1 p.2.2.2.2 k.1 k.2.1 k.2.2.1 k.2.2.2 r.2.1 r.2.2 l.1 l.2.1 l.2.2 s.1 s.2.1 s.2.2 o.1 o.2.1 o.2.2.1 o.2.2.2.1 o.2.2.2.2.1 o.2.2.2.2.2 h w.1 w.2.1 w.2.2.1 w.2.2.2.1 w.2.2.2.2.1 w.2.2.2.2.2.1 w.2.2.2.2.2.2 (f + 1) (nI s0) := by
  intro f
  induction f with
  | zero =>
    intro s0 hs h
    obtain rfl : s0 = 25 := by omega
    exact br_t (by decide) (br_c (fun z => nm_e (h0 z)) fun z => nm_e (br_c (fun y => h2 z y) fun y => nm_e (h1 z y)))
  | succ f ih =>
    intro s0 hs h
    have hnext := ih (s0 + 1) (by omega) (by omega)
    have h24 : ¬ (24 : Int32) < nI s0 := nI_nlt (a := 24) (by omega) (by omega)
    have e1 : nI s0 - 1 = nI (s0 - 1) := pk_sub (a := s0) (b := 1) h
    have hb := bt_t (x := x12) (show s0 - 1 < 32 by omega)
    rw [← e1, hpm s0 h (by omega)] at hb
    by_cases hn : s0 ≤ n
    · refine br_f h24 (br_f (fun z => by have := hb.mp z; rw [decide_eq_true hn] at this; exact absurd this (by decide)) (pl_info h (by omega) (nm_r (e' := nI (qu s0)) ?_ ⟨5, lw_1317 I HO HK hrc hnq h (by omega) (hqu s0 h hn).2 hnext 4 0 (by omega)⟩)))
      rw [pn_shr3 (nfo_lt _ _ _), (hqu s0 h hn).1]
    · exact br_f h24 (br_t (hb.mpr (decide_eq_false hn)) (nm_r (nI_1 _) hnext))
end Q28
end
section
section Q29
/-- the end of a drain: nothing is left at the drained client's end -/
theorem lw_1419 {p : TP} {k : TK} {r : TR} {l s : TL} {o : TO} {h : TA} {w : TW} {L : Nat} {xs : Nat → Int32} {post : Int32 → Prop} {J47 : TJ} {x2 x4 x6 x8 x10 : Int64} {x12 x13 x14 x15 x16 x18 x19 : Int32} {kc ks dd : Nat}
    {O W : Nat → List N5} {H : Nat → Nat → Bool} {up pe : Nat → Bool} {S : Nat → List (Int32 × Nat)} {rc : Nat → Nat → Nat} {ac ov : Nat → Nat} {n : Nat} {qu : Nat → Nat} {nq : Nat → Bool} (I : PINV O W H up pe S rc ac n qu (amf x6 x8) nq) (HO : pc_O o O) (HK : pc_K k rc ac ov) (hrc : ∀ d s, rc d s < 2 ^ 30) (hqu : ∀ s, 1 ≤ s → s ≤ n → qu s = nfo x2 x4 s / 8 ∧ qu s ≤ 2) (hd : dd < 4) (hem : O (4 + dd) = []) (hdm : ∀ s, 1 ≤ s → s ≤ 24 → lb x10 (s - 1) = true → amf x6 x8 dd s = true)
    (hJ : J47 x2 x4 x6 x8 x10 x12 x13 x14 x15 x16 (nI dd) (x19 + 1) p.1 r.1 p.2.1 p.2.2.1 p.2.2.2.1 p.2.2.2.2 k.1 k.2.1 k.2.2.1 k.2.2.2 r.2.1 r.2.2 l.1 l.2.1 l.2.2 s.1 s.2.1 s.2.2 o.1 o.2.1 o.2.2.1 o.2.2.2.1 o.2.2.2.2.1 o.2.2.2.2.2 h w.1 w.2.1 w.2.2.1 w.2.2.2.1 w.2.2.2.2.1 w.2.2.2.2.2.1 w.2.2.2.2.2.2) :
    ∀ f s0, s0 + f = 25 → 1 ≤ s0 → wL_law_1419 post L xs J47 x2 x4 x6 x8 x10 x12 x13 x14 x15 x16 (nI dd) x18 x19 kc ks p.1 r.1 p.2.1 p.2.2.1 p.2.2.2.1 p.2.2.2.2 k.1 k.2.1 k.2.2.1 k.2.2.2 r.2.1 r.2.2 l.1 l.2.1 l.2.2 s.1 s.2.1 s.2.2 o.1 o.2.1 o.2.2.1 o.2.2.2.1 o.2.2.2.2.1 o.2.2.2.2.2 h w.1 w.2.1 w.2.2.1 w.2.2.2.1 w.2.2.2.2.1 w.2.2.2.2.2.1 w.2.2.2.2.2.2 (f + 1) (nI s0) := by
  intro f
  induction f with
  | zero =>
    intro s0 hs g1
    obtain rfl : s0 = 25 := by omega
    exact br_t (by decide) (nm_e hJ)
  | succ f ih =>
    intro s0 hs g1
    have hnext := ih (s0 + 1) (by omega) (by omega)
    have h24 : ¬ (24 : Int32) < nI s0 := nI_nlt (a := 24) (by omega) (by omega)
    have e1 : nI s0 - 1 = nI (s0 - 1) := pk_sub (a := s0) (b := 1) g1
    have hb := lb_t (x := x10) (show s0 - 1 < 64 by omega)
    rw [← e1] at hb
    cases hm : lb x10 (s0 - 1) with
    | false => exact br_f h24 (br_t (hb.mpr hm) (nm_r (nI_1 _) hnext))
    | true =>
      have ha := hdm s0 g1 (by omega) hm
      obtain ⟨i1, i2, i3, i4, i5, i6, i7, i8, i9, i10, i11, i12, i13⟩ := I
      obtain ⟨_, hac, hq1, hx⟩ := i13 dd s0 hd ha
      have hn : s0 ≤ n := by
        apply Classical.byContradiction
        intro z
        have := i9 s0 (by omega)
        omega
      have hr1 : 1 ≤ rc dd s0 := by
        rcases hx with z | ⟨e, he, _⟩
        · exact z
        · rw [hem] at he
          exact absurd he (by simp)
      obtain ⟨R, bX, hR⟩ := pq_bs HO hd g1 (show s0 ≤ 24 by omega)
      have hR0 : R = 0 := by
        rcases hR with z | ⟨e, he, _⟩
        · exact z.1
        · rw [hem] at he
          exact absurd he (by simp)
      have hrb := hrc dd s0
      have hquo := hqu s0 g1 hn
      refine br_f h24 (br_f (fun z => by have := hb.mp z; rw [hm] at this; exact absurd this (by decide)) (pl_info g1 (by omega) (nm_r (e' := nI (qu s0)) ?_ (bX p k r l s h w _ (br_t hR0 (pq_received HK hd g1 (by omega) (br_f (nI_nlt (b := 1) hr1 (by omega)) (br_c (fun hq => br_t ?_ (nm_r (nI_1 _) hnext)) fun _ => nm_r (nI_1 _) hnext))))))))
      · rw [pn_shr3 (nfo_lt _ _ _), hquo.1]
      · have hq2 : qu s0 = 2 := (nI_eq (b := 2) (by omega) (by omega)).mp hq
        have X := i11 dd s0 hd hq2 (Or.inr ha)
        have : rc dd s0 = 1 := by have := X.1; omega
        rw [this]
        rfl
theorem amf_clr {x6 x8 y6 y8 : Int64} {d : Nat} (hd : d < 4) (h6 : ∀ i, i < 48 → lb y6 i = (lb x6 i && !(decide (d < 2) && decide (24 * d ≤ i) && decide (i < 24 * d + 24)))) (h8 : ∀ i, i < 48 → lb y8 i = (lb x8 i && !(decide (2 ≤ d) && decide (24 * (d - 2) ≤ i) && decide (i < 24 * (d - 2) + 24)))) (d' s : Nat) (hd' : d' < 4) : amf y6 y8 d' s = (amf x6 x8 d' s && !(decide (d' = d))) := by
  unfold amf
  by_cases hs : 1 ≤ s ∧ s ≤ 24
  · rw [if_pos hs, if_pos hs]
    by_cases h2 : d' < 2
    · rw [if_pos h2, if_pos h2, h6 _ (by omega)]
      congr 2
      by_cases e : d' = d
      · subst e
        have a1 : 24 * d' ≤ 24 * d' + s - 1 := by omega
        have a2 : 24 * d' + s - 1 < 24 * d' + 24 := by omega
        simp [h2, a1, a2]
      · by_cases hd2 : d < 2
        · by_cases a1 : 24 * d ≤ 24 * d' + s - 1
          · have a2 : ¬ 24 * d' + s - 1 < 24 * d + 24 := by omega
            simp [e, a2]
          · simp [e, a1]
        · simp [e, hd2]
    · rw [if_neg h2, if_neg h2, h8 _ (by omega)]
      congr 2
      by_cases e : d' = d
      · subst e
        have a0 : 2 ≤ d' := by omega
        have a1 : 24 * (d' - 2) ≤ 24 * (d' - 2) + s - 1 := by omega
        have a2 : 24 * (d' - 2) + s - 1 < 24 * (d' - 2) + 24 := by omega
        simp [a0, a1, a2]
      · by_cases hd2 : 2 ≤ d
        · by_cases a1 : 24 * (d - 2) ≤ 24 * (d' - 2) + s - 1
          · have a2 : ¬ 24 * (d' - 2) + s - 1 < 24 * (d - 2) + 24 := by omega
            simp [e, a2]
          · simp [e, a1]
        · simp [e, hd2]
  · rw [if_neg hs, if_neg hs]
    rfl
theorem lb_c24 {x : Int64} {k i : Nat} (hk : k < 64) (hi : i < 64) : lb (x &&& (((16777215 : Int64) <<< ((nI k).toInt64 &&& 63)) ^^^ (-1))) i = (lb x i && !(decide (k ≤ i) && decide (i < k + 24))) := by
  have h : lb (x &&& ((lN 16777215 <<< ((nI k).toInt64 &&& 63)) ^^^ (-1))) i = (lb x i && !(decide (k ≤ i) && decide (i - k < 24))) := lb_c (m := 16777215) (w := 24) (by decide) hk hi
  rw [show (16777215 : Int64) = lN 16777215 from rfl, h]
  congr 2
  by_cases a : k ≤ i
  · have : decide (i - k < 24) = decide (i < k + 24) := by
      by_cases b : i - k < 24
      · rw [decide_eq_true b, decide_eq_true (by omega)]
      · rw [decide_eq_false b, decide_eq_false (by omega)]
    rw [this]
  · rw [decide_eq_false a, Bool.false_and, Bool.false_and]
/-- the arming of a client whose overflow grew is cleared -/
theorem lw_1208 {p : TP} {k : TK} {r : TR} {l s : TL} {o : TO} {h : TA} {w : TW} {L : Nat} {xs : Nat → Int32} {post : Int32 → Prop} {J47 : TJ} {x2 x4 x10 : Int64} {x12 x13 x14 x15 x16 x17 x18 x19 x20 x28 : Int32} {kc ks : Nat} :
    ∀ f d (x6 x8 : Int64), d + f = 4 → (∀ y6 y8, (∀ d' s', d' < 4 → amf y6 y8 d' s' = (amf x6 x8 d' s' && !(decide (d ≤ d') && bt x28 d'))) → ∃ fu1280, wL_law_1280 post L xs J47 x2 x4 y6 y8 x10 x12 x13 x14 x15 x16 x17 x18 x19 x20 kc ks p.1 r.1 p.2.1 p.2.2.1 p.2.2.2.1 p.2.2.2.2 k.1 k.2.1 k.2.2.1 k.2.2.2 r.2.1 r.2.2 l.1 l.2.1 l.2.2 s.1 s.2.1 s.2.2 o.1 o.2.1 o.2.2.1 o.2.2.2.1 o.2.2.2.2.1 o.2.2.2.2.2 h w.1 w.2.1 w.2.2.1 w.2.2.2.1 w.2.2.2.2.1 w.2.2.2.2.2.1 w.2.2.2.2.2.2 fu1280 1) → wL_law_1208 post L xs J47 x2 x4 x10 x12 x13 x14 x15 x16 x17 x18 x19 x20 x28 kc ks p.1 r.1 p.2.1 p.2.2.1 p.2.2.2.1 p.2.2.2.2 k.1 k.2.1 k.2.2.1 k.2.2.2 r.2.1 r.2.2 l.1 l.2.1 l.2.2 s.1 s.2.1 s.2.2 o.1 o.2.1 o.2.2.1 o.2.2.2.1 o.2.2.2.2.1 o.2.2.2.2.2 h w.1 w.2.1 w.2.2.1 w.2.2.2.1 w.2.2.2.2.1 w.2.2.2.2.2.1 w.2.2.2.2.2.2 (f + 1) x6 x8 (nI d) := by
  intro f
  induction f with
  | zero =>
    intro d x6 x8 hd hK
    obtain rfl : d = 4 := by omega
    refine br_t (by decide) (hK x6 x8 (fun d' s' hd' => ?_))
    have : decide (4 ≤ d') = false := decide_eq_false (by omega)
    rw [this, Bool.false_and, Bool.not_false, Bool.and_true]
  | succ f ih =>
    intro d x6 x8 hd hK
    have h4 : ¬ (4 : Int32) ≤ nI d := nI_ge (b := 4) (by omega) (by omega)
    have hb := bt_t (x := x28) (show d < 32 by omega)
    cases hg : bt x28 d with
    | false =>
      refine br_f h4 (br_t (hb.mpr hg) (nm_r (nI_1 _) (ih (d + 1) x6 x8 (by omega) (fun y6 y8 hy => hK y6 y8 (fun d' s' hd' => ?_)))))
      rw [hy d' s' hd']
      by_cases e : d' = d
      · subst e
        rw [hg, Bool.and_false, Bool.and_false]
      · have : decide (d + 1 ≤ d') = decide (d ≤ d') := by
          by_cases z : d ≤ d'
          · rw [decide_eq_true z, decide_eq_true (by omega)]
          · rw [decide_eq_false z, decide_eq_false (by omega)]
        rw [this]
    | true =>
      -- what the cleared words say, and what is left to do
      have key : ∀ y6 y8 z6 z8 : Int64, (∀ d' s', d' < 4 → amf z6 z8 d' s' = (amf x6 x8 d' s' && !(decide (d' = d)))) → (∀ d' s', d' < 4 → amf y6 y8 d' s' = (amf z6 z8 d' s' && !(decide (d + 1 ≤ d') && bt x28 d'))) → ∀ d' s', d' < 4 → amf y6 y8 d' s' = (amf x6 x8 d' s' && !(decide (d ≤ d') && bt x28 d')) := by
        intro y6 y8 z6 z8 h1 h2 d' s' hd'
        rw [h2 d' s' hd', h1 d' s' hd']
        by_cases e : d' = d
        · subst e
          rw [hg]
          simp
        · have : decide (d + 1 ≤ d') = decide (d ≤ d') := by
            by_cases z : d ≤ d'
            · rw [decide_eq_true z, decide_eq_true (by omega)]
            · rw [decide_eq_false z, decide_eq_false (by omega)]
          rw [this, decide_eq_false e, Bool.not_false, Bool.and_true]
      have hne : ¬ ((x28 >>> (nI d &&& 31)) &&& 1) = 0 := fun z => by
        have := hb.mp z
        rw [hg] at this
        exact absurd this (by decide)
      by_cases h2 : 2 ≤ d
      · have e1 : (24 : Int32) * (nI d - 2) = nI (24 * (d - 2)) := by
          rw [show nI d - 2 = nI (d - 2) from pk_sub (b := 2) h2]
          exact pk_mul 24 _
        refine br_f h4 (br_f hne (br_t (nI_le (a := 2) h2 (by omega)) (nm_r (e' := x8 &&& (((16777215 : Int64) <<< ((nI (24 * (d - 2))).toInt64 &&& 63)) ^^^ (-1))) (by rw [e1]) (nm_r (nI_1 _) (ih (d + 1) x6 _ (by omega) (fun y6 y8 hy => hK y6 y8 (key y6 y8 x6 _ (amf_clr (by omega) (fun i hi => ?_) (fun i hi => ?_)) hy)))))))
        · have : decide (d < 2) = false := decide_eq_false (by omega)
          rw [this, Bool.false_and, Bool.false_and, Bool.not_false, Bool.and_true]
        · rw [lb_c24 (by omega) (by omega), decide_eq_true h2, Bool.true_and]
      · have e1 : (24 : Int32) * nI d = nI (24 * d) := pk_mul 24 _
        refine br_f h4 (br_f hne (br_f (nI_ge (b := 2) (by omega) (by omega)) (nm_r (e' := x6 &&& (((16777215 : Int64) <<< ((nI (24 * d)).toInt64 &&& 63)) ^^^ (-1))) (by rw [e1]) (nm_r (nI_1 _) (ih (d + 1) _ x8 (by omega) (fun y6 y8 hy => hK y6 y8 (key y6 y8 _ x8 (amf_clr (by omega) (fun i hi => ?_) (fun i hi => ?_)) hy)))))))
        · rw [lb_c24 (by omega) (by omega), decide_eq_true (show d < 2 by omega), Bool.true_and]
        · rw [decide_eq_false h2, Bool.false_and, Bool.false_and, Bool.not_false, Bool.and_true]
end Q29
end
section
section Q30
/-! the eligibility word, and the arming behind a call -/
def elg (x24 : Int64) (d t : Nat) : Nat := x24.toBitVec.toNat / 2 ^ ((d * 8 + t) * 2) % 2 ^ 2
theorem pl_elg {x24 : Int64} {d t : Nat} (hd : d < 4) (ht : t < 8) : ((((x24.toUInt64 >>> ((((nI d * 8) + nI t) * 2).toInt64.toUInt64 &&& Int64.toUInt64 63)).toInt64) &&& 3).toInt32) = nI (elg x24 d t) := by
  have e1 : (nI d * 8 + nI t) * 2 = nI ((d * 8 + t) * 2) := by
    rw [show nI d * 8 = nI (d * 8) from pk_mul _ 8, nI_add]
    exact pk_mul _ 2
  obtain ⟨m, hm, hz⟩ := wb_of x24
  have e4 : ((x24.toUInt64 >>> ((nI ((d * 8 + t) * 2)).toInt64.toUInt64 &&& Int64.toUInt64 63)).toInt64) &&& 3 = lN (m / 2 ^ ((d * 8 + t) * 2) % 2 ^ 2) := by
    rw [hz, wb_shr hm (by omega)]
    exact wb_mask (k := 2) (Nat.lt_of_le_of_lt (Nat.div_le_self _ _) hm) (by omega)
  rw [e1, e4, lN_i]
  unfold elg
  rw [hz, wb_tn hm]
theorem elg_lt (x24 : Int64) (d t : Nat) : elg x24 d t < 4 := Nat.mod_lt _ (by decide)
theorem amf_set {x6 x8 y6 y8 : Int64} {d s0 : Nat} (hd : d < 4) (h1 : 1 ≤ s0) (h2 : s0 ≤ 24) (h6 : ∀ i, i < 48 → lb y6 i = (lb x6 i || (decide (d < 2) && decide (i = 24 * d + s0 - 1)))) (h8 : ∀ i, i < 48 → lb y8 i = (lb x8 i || (decide (2 ≤ d) && decide (i = 24 * (d - 2) + s0 - 1)))) (d' s : Nat) (hd' : d' < 4) : amf y6 y8 d' s = true ↔ amf x6 x8 d' s = true ∨ (d' = d ∧ s = s0) := by
  unfold amf
  by_cases hs : 1 ≤ s ∧ s ≤ 24
  · rw [if_pos hs, if_pos hs]
    by_cases h : d' < 2
    · rw [if_pos h, if_pos h, h6 _ (by omega), Bool.or_eq_true, Bool.and_eq_true, decide_eq_true_iff, decide_eq_true_iff]
      constructor
      · rintro (z | z)
        · exact Or.inl z
        · exact Or.inr (by omega)
      · rintro (z | z)
        · exact Or.inl z
        · exact Or.inr (by omega)
    · rw [if_neg h, if_neg h, h8 _ (by omega), Bool.or_eq_true, Bool.and_eq_true, decide_eq_true_iff, decide_eq_true_iff]
      constructor
      · rintro (z | z)
        · exact Or.inl z
        · exact Or.inr (by omega)
      · rintro (z | z)
        · exact Or.inl z
        · exact Or.inr (by omega)
  · rw [if_neg hs, if_neg hs]
    constructor
    · intro z
      exact Or.inl z
    · rintro (z | z)
      · exact z
      · exact absurd (by omega) hs
theorem lw_1107 {p : TP} {k : TK} {r : TR} {l s : TL} {o : TO} {h : TA} {w : TW} {L : Nat} {xs : Nat → Int32} {post : Int32 → Prop} {J47 : TJ} {J : Int64 → Int64 → Int32 → Int32 → Prop} {x2 x4 x10 x24 : Int64} {x12 x13 x14 x15 x16 x17 x18 x19 x20 x28 : Int32} {kc ks s0 t q : Nat} (h1 : 1 ≤ s0) (h2 : s0 ≤ 24) (ht : t < 8) (hq : q < 4) :
    ∀ f d (x6 x8 : Int64), d + f = 4 → (∀ y6 y8, (∀ d' s', d' < 4 → (amf y6 y8 d' s' = true ↔ amf x6 x8 d' s' = true ∨ (s' = s0 ∧ d ≤ d' ∧ bt x28 d' = false ∧ q + 1 ≤ elg x24 d' t))) → J y6 y8 x13 (nI (s0 + 1))) → wL_law_1107 post L xs J47 J x2 x4 x10 x12 x13 x14 x15 x16 x17 x18 x19 x20 x24 x28 (nI s0) (nI t) (nI q) kc ks p.1 r.1 p.2.1 p.2.2.1 p.2.2.2.1 p.2.2.2.2 k.1 k.2.1 k.2.2.1 k.2.2.2 r.2.1 r.2.2 l.1 l.2.1 l.2.2 s.1 s.2.1 s.2.2 o.1 o.2.1 o.2.2.1 o.2.2.2.1 o.2.2.2.2.1 o.2.2.2.2.2 h w.1 w.2.1 w.2.2.1 w.2.2.2.1 w.2.2.2.2.1 w.2.2.2.2.2.1 w.2.2.2.2.2.2 (f + 1) x6 x8 (nI d) := by
  intro f
  induction f with
  | zero =>
    intro d x6 x8 hd hK
    obtain rfl : d = 4 := by omega
    refine br_t (by decide) (nm_r (nI_1 _) (hK x6 x8 (fun d' s' hd' => ⟨fun z => Or.inl z, ?_⟩)))
    rintro (z | z)
    · exact z
    · exact absurd z.2.1 (by omega)
  | succ f ih =>
    intro d x6 x8 hd hK
    have hd4 : d < 4 := by omega
    have h4 : ¬ (4 : Int32) ≤ nI d := nI_ge (b := 4) (by omega) (by omega)
    have hb := bt_t (x := x28) (show d < 32 by omega)
    have hel := elg_lt x24 d t
    have skip : ¬ (bt x28 d = false ∧ q + 1 ≤ elg x24 d t) → wL_law_1107 post L xs J47 J x2 x4 x10 x12 x13 x14 x15 x16 x17 x18 x19 x20 x24 x28 (nI s0) (nI t) (nI q) kc ks p.1 r.1 p.2.1 p.2.2.1 p.2.2.2.1 p.2.2.2.2 k.1 k.2.1 k.2.2.1 k.2.2.2 r.2.1 r.2.2 l.1 l.2.1 l.2.2 s.1 s.2.1 s.2.2 o.1 o.2.1 o.2.2.1 o.2.2.2.1 o.2.2.2.2.1 o.2.2.2.2.2 h w.1 w.2.1 w.2.2.1 w.2.2.2.1 w.2.2.2.2.1 w.2.2.2.2.2.1 w.2.2.2.2.2.2 (f + 1) x6 x8 (nI (d + 1)) := by
      intro hn
      refine ih (d + 1) x6 x8 (by omega) (fun y6 y8 hy => hK y6 y8 (fun d' s' hd' => (hy d' s' hd').trans ⟨?_, ?_⟩))
      · rintro (z | z)
        · exact Or.inl z
        · exact Or.inr ⟨z.1, by omega, z.2.2⟩
      · rintro (z | z)
        · exact Or.inl z
        · refine Or.inr ⟨z.1, ?_, z.2.2⟩
          rcases Nat.lt_or_ge d d' with g | g
          · omega
          · obtain rfl : d' = d := by omega
            exact absurd z.2.2 hn
    cases hg : bt x28 d with
    | true => exact br_f h4 (br_f (fun z => by rw [hb.mp z] at hg; exact absurd hg (by decide)) (nm_r (nI_1 _) (skip (fun z => by rw [hg] at z; exact absurd z.1 (by decide)))))
    | false =>
      refine br_f h4 (br_t (hb.mpr hg) ?_)
      rw [pl_elg hd4 ht, nI_1]
      by_cases hlt : elg x24 d t < q + 1
      · exact br_t (nI_lt hlt (by omega)) (nm_r (nI_1 _) (skip (fun z => by omega)))
      · refine br_f (nI_nlt (by omega) (by omega)) ?_
        have key : ∀ z6 z8 : Int64, (∀ d' s', d' < 4 → (amf z6 z8 d' s' = true ↔ amf x6 x8 d' s' = true ∨ (d' = d ∧ s' = s0))) → wL_law_1107 post L xs J47 J x2 x4 x10 x12 x13 x14 x15 x16 x17 x18 x19 x20 x24 x28 (nI s0) (nI t) (nI q) kc ks p.1 r.1 p.2.1 p.2.2.1 p.2.2.2.1 p.2.2.2.2 k.1 k.2.1 k.2.2.1 k.2.2.2 r.2.1 r.2.2 l.1 l.2.1 l.2.2 s.1 s.2.1 s.2.2 o.1 o.2.1 o.2.2.1 o.2.2.2.1 o.2.2.2.2.1 o.2.2.2.2.2 h w.1 w.2.1 w.2.2.1 w.2.2.2.1 w.2.2.2.2.1 w.2.2.2.2.2.1 w.2.2.2.2.2.2 (f + 1) z6 z8 (nI (d + 1)) := by
          intro z6 z8 hz
          refine ih (d + 1) z6 z8 (by omega) (fun y6 y8 hy => hK y6 y8 (fun d' s' hd' => (hy d' s' hd').trans ⟨?_, ?_⟩))
          · rintro (z | z)
            · rcases (hz d' s' hd').mp z with g | ⟨g, g2⟩
              · exact Or.inl g
              · subst g
                exact Or.inr ⟨g2, by omega, hg, by omega⟩
            · exact Or.inr ⟨z.1, by omega, z.2.2⟩
          · rintro (z | z)
            · exact Or.inl ((hz d' s' hd').mpr (Or.inl z))
            · rcases Nat.lt_or_ge d d' with g | g
              · exact Or.inr ⟨z.1, by omega, z.2.2⟩
              · exact Or.inl ((hz d' s' hd').mpr (Or.inr ⟨by omega, z.1⟩))
        by_cases hd2 : d < 2
        · have e : 24 * nI d + nI s0 - 1 = nI (24 * d + s0 - 1) := by
            rw [show (24 : Int32) * nI d = nI (24 * d) from pk_mul 24 _, nI_add]
            exact pk_sub (b := 1) (by omega)
          refine br_f (nI_ge (b := 2) hd2 (by omega)) (nm_e (nm_r (nI_1 _) (key _ _ (amf_set hd4 h1 h2 (fun i hi => ?_) (fun i hi => ?_)))))
          · rw [e, lb_s (by omega) (by omega), decide_eq_true hd2, Bool.true_and]
          · rw [decide_eq_false (show ¬ 2 ≤ d by omega), Bool.false_and, Bool.or_false]
        · have e : 24 * (nI d - 2) + nI s0 - 1 = nI (24 * (d - 2) + s0 - 1) := by
            rw [show nI d - 2 = nI (d - 2) from pk_sub (b := 2) (by omega), show (24 : Int32) * nI (d - 2) = nI (24 * (d - 2)) from pk_mul 24 _, nI_add]
            exact pk_sub (b := 1) (by omega)
          refine br_t (nI_le (a := 2) (by omega) (by omega)) (nm_e (nm_r (nI_1 _) (key _ _ (amf_set hd4 h1 h2 (fun i hi => ?_) (fun i hi => ?_)))))
          · rw [decide_eq_false hd2, Bool.false_and, Bool.or_false]
          · rw [e, lb_s (by omega) (by omega), decide_eq_true (show 2 ≤ d by omega), Bool.true_and]
end Q30
end
section
section Q31
/-- what is newly armed behind a call -/
def NEW (x24 : Int64) (x28 : Int32) (n : Nat) (b0 : Nat → Bool) (ac qu tp : Nat → Nat) (d s : Nat) : Prop := 1 ≤ s ∧ s ≤ n ∧ b0 s = false ∧ 1 ≤ ac s ∧ 1 ≤ qu s ∧ bt x28 d = false ∧ qu s + 1 ≤ elg x24 d (tp s)
theorem lw_1002 {p : TP} {k : TK} {r : TR} {l s : TL} {o : TO} {h : TA} {w : TW} {L : Nat} {xs : Nat → Int32} {post : Int32 → Prop} {J47 : TJ} {x2 x4 x10 x24 : Int64} {x12 x14 x15 x16 x17 x18 x19 x20 x28 : Int32} {kc ks n : Nat} {rc : Nat → Nat → Nat} {ac ov qu tp : Nat → Nat} {A0 : Nat → Nat → Bool} {b0 : Nat → Bool} (HK : pc_K k rc ac ov) (hn24 : n ≤ 24) (hac : ∀ s, ac s < 2 ^ 30) (hac1 : ∀ s, qu s = 2 → ac s ≤ 1) (hpm : ∀ s, 1 ≤ s → s ≤ 24 → bt x12 (s - 1) = decide (s ≤ n)) (hqu : ∀ s, 1 ≤ s → s ≤ n → qu s = nfo x2 x4 s / 8 ∧ qu s ≤ 2) (htp : ∀ s, 1 ≤ s → s ≤ n → tp s = nfo x2 x4 s % 8)
    (hK : ∀ y6 y8 y13, (∀ d s, d < 4 → (amf y6 y8 d s = true ↔ A0 d s = true ∨ NEW x24 x28 n b0 ac qu tp d s)) → (∀ s, 1 ≤ s → s ≤ 24 → (bt y13 (s - 1) = true ↔ b0 s = true ∨ (s ≤ n ∧ 1 ≤ ac s))) → ∃ fu1208, wL_law_1208 post L xs J47 x2 x4 x10 x12 y13 x14 x15 x16 x17 x18 x19 x20 x28 kc ks p.1 r.1 p.2.1 p.2.2.1 p.2.2.2.1 p.2.2.2.2 k.1 k.2.1 k.2.2.1 k.2.2.2 r.2.1 r.2.2 l.1 l.2.1 l.2.2 s.1 s.2.1 s.2.2 o.1 o.2.1 o.2.2.1 o.2.2.2.1 o.2.2.2.2.1 o.2.2.2.2.2 h w.1 w.2.1 w.2.2.1 w.2.2.2.1 w.2.2.2.2.1 w.2.2.2.2.2.1 w.2.2.2.2.2.2 fu1208 y6 y8 0) :
    ∀ f s0 (x6 x8 : Int64) (x13 : Int32), s0 + f = 25 → 1 ≤ s0 → (∀ d s, d < 4 → (amf x6 x8 d s = true ↔ A0 d s = true ∨ (s < s0 ∧ NEW x24 x28 n b0 ac qu tp d s))) → (∀ s, 1 ≤ s → s ≤ 24 → (bt x13 (s - 1) = true ↔ b0 s = true ∨ (s < s0 ∧ s ≤ n ∧ 1 ≤ ac s))) → wL_law_1002 post L xs J47 x2 x4 x10 x12 x14 x15 x16 x17 x18 x19 x20 x24 x28 kc ks p.1 r.1 p.2.1 p.2.2.1 p.2.2.2.1 p.2.2.2.2 k.1 k.2.1 k.2.2.1 k.2.2.2 r.2.1 r.2.2 l.1 l.2.1 l.2.2 s.1 s.2.1 s.2.2 o.1 o.2.1 o.2.2.1 o.2.2.2.1 o.2.2.2.2.1 o.2.2.2.2.2 h w.1 w.2.1 w.2.2.1 w.2.2.2.1 w.2.2.2.2.1 w.2.2.2.2.2.1 w.2.2.2.2.2.2 (f + 1) x6 x8 x13 (nI s0) := by
  intro f
  induction f with
  | zero =>
    intro s0 x6 x8 x13 hs g1 hA hB
    obtain rfl : s0 = 25 := by omega
    refine br_t (by decide) (hK x6 x8 x13 (fun d s hd => (hA d s hd).trans ⟨?_, ?_⟩) (fun s a b => (hB s a b).trans ⟨?_, ?_⟩))
    · rintro (z | z)
      · exact Or.inl z
      · exact Or.inr z.2
    · rintro (z | z)
      · exact Or.inl z
      · exact Or.inr ⟨by have := z.2.1; omega, z⟩
    · rintro (z | z)
      · exact Or.inl z
      · exact Or.inr z.2
    · rintro (z | z)
      · exact Or.inl z
      · exact Or.inr ⟨by omega, z⟩
  | succ f ih =>
    intro s0 x6 x8 x13 hs g1 hA hB
    have g2 : s0 ≤ 24 := by omega
    have h24 : ¬ (24 : Int32) < nI s0 := nI_nlt (a := 24) (by omega) (by omega)
    have e1 : nI s0 - 1 = nI (s0 - 1) := pk_sub (a := s0) (b := 1) g1
    have hb := bt_t (x := x12) (show s0 - 1 < 32 by omega)
    rw [← e1, hpm s0 g1 g2] at hb
    have hb13 := bt_t (x := x13) (show s0 - 1 < 32 by omega)
    rw [← e1] at hb13
    -- nothing happens at this serial
    have stay : (∀ d, d < 4 → ¬ NEW x24 x28 n b0 ac qu tp d s0) → (s0 ≤ n → 1 ≤ ac s0 → b0 s0 = true) → wL_law_1002 post L xs J47 x2 x4 x10 x12 x14 x15 x16 x17 x18 x19 x20 x24 x28 kc ks p.1 r.1 p.2.1 p.2.2.1 p.2.2.2.1 p.2.2.2.2 k.1 k.2.1 k.2.2.1 k.2.2.2 r.2.1 r.2.2 l.1 l.2.1 l.2.2 s.1 s.2.1 s.2.2 o.1 o.2.1 o.2.2.1 o.2.2.2.1 o.2.2.2.2.1 o.2.2.2.2.2 h w.1 w.2.1 w.2.2.1 w.2.2.2.1 w.2.2.2.2.1 w.2.2.2.2.2.1 w.2.2.2.2.2.2 (f + 1) x6 x8 x13 (nI (s0 + 1)) := by
      intro hno hb0
      refine ih (s0 + 1) x6 x8 x13 (by omega) (by omega) (fun d s' hd => (hA d s' hd).trans ⟨?_, ?_⟩) (fun s' a b => (hB s' a b).trans ⟨?_, ?_⟩)
      · rintro (z | z)
        · exact Or.inl z
        · exact Or.inr ⟨by omega, z.2⟩
      · rintro (z | z)
        · exact Or.inl z
        · rcases Nat.lt_or_ge s' s0 with g | g
          · exact Or.inr ⟨g, z.2⟩
          · obtain rfl : s' = s0 := by omega
            exact absurd z.2 (hno d hd)
      · rintro (z | z)
        · exact Or.inl z
        · exact Or.inr ⟨by omega, z.2⟩
      · rintro (z | z)
        · exact Or.inl z
        · rcases Nat.lt_or_ge s' s0 with g | g
          · exact Or.inr ⟨g, z.2⟩
          · obtain rfl : s' = s0 := by omega
            exact Or.inl (hb0 z.2.1 z.2.2)
    by_cases hn : s0 ≤ n
    · have hq := hqu s0 g1 hn
      have ha := hac s0
      have htl : tp s0 < 8 := by rw [htp s0 g1 hn]; exact Nat.mod_lt _ (by decide)
      have h1069 : wL_law_1069 post L xs J47 (wL_law_1002 post L xs J47 x2 x4 x10 x12 x14 x15 x16 x17 x18 x19 x20 x24 x28 kc ks p.1 r.1 p.2.1 p.2.2.1 p.2.2.2.1 p.2.2.2.2 k.1 k.2.1 k.2.2.1 k.2.2.2 r.2.1 r.2.2 l.1 l.2.1 l.2.2 s.1 s.2.1 s.2.2 o.1 o.2.1 o.2.2.1 o.2.2.2.1 o.2.2.2.2.1 o.2.2.2.2.2 h w.1 w.2.1 w.2.2.1 w.2.2.2.1 w.2.2.2.2.1 w.2.2.2.2.2.1 w.2.2.2.2.2.2 (f + 1)) x2 x4 x6 x8 x10 x12 x13 x14 x15 x16 x17 x18 x19 x20 x24 x28 (nI s0) (nI (tp s0)) (nI (qu s0)) (nI (ac s0)) kc ks p.1 r.1 p.2.1 p.2.2.1 p.2.2.2.1 p.2.2.2.2 k.1 k.2.1 k.2.2.1 k.2.2.2 r.2.1 r.2.2 l.1 l.2.1 l.2.2 s.1 s.2.1 s.2.2 o.1 o.2.1 o.2.2.1 o.2.2.2.1 o.2.2.2.2.1 o.2.2.2.2.2 h w.1 w.2.1 w.2.2.1 w.2.2.2.1 w.2.2.2.2.1 w.2.2.2.2.2.1 w.2.2.2.2.2.2 := by
        unfold wL_law_1069
        by_cases ha1 : 1 ≤ ac s0
        · refine br_f (nI_nlt (b := 1) ha1 (by omega)) ?_
          cases hb0 : b0 s0 with
          | true =>
            have : bt x13 (s0 - 1) = true := (hB s0 g1 g2).mpr (Or.inl hb0)
            exact br_f (fun z => by rw [hb13.mp z] at this; exact absurd this (by decide)) (nm_r (nI_1 _) (stay (fun d hd z => by have := z.2.2.1; rw [hb0] at this; exact absurd this (by decide)) (fun _ _ => hb0)))
          | false =>
            have hf : bt x13 (s0 - 1) = false := by
              cases hx : bt x13 (s0 - 1) with
              | false => rfl
              | true =>
                rcases (hB s0 g1 g2).mp hx with z | z
                · rw [hb0] at z; exact absurd z (by decide)
                · exact absurd z.1 (by omega)
            have hB' : ∀ s', 1 ≤ s' → s' ≤ 24 → (bt (x13 ||| ((1 : Int32) <<< (nI (s0 - 1) &&& 31))) (s' - 1) = true ↔ b0 s' = true ∨ (s' < s0 + 1 ∧ s' ≤ n ∧ 1 ≤ ac s')) := by
              intro s' a b
              rw [bt_s (by omega) (by omega), Bool.or_eq_true, decide_eq_true_iff, hB s' a b]
              constructor
              · rintro ((z | z) | z)
                · exact Or.inl z
                · exact Or.inr ⟨by omega, z.2⟩
                · obtain rfl : s' = s0 := by omega
                  exact Or.inr ⟨by omega, hn, ha1⟩
              · rintro (z | z)
                · exact Or.inl (Or.inl z)
                · rcases Nat.lt_or_ge s' s0 with g | g
                  · exact Or.inl (Or.inr ⟨g, z.2⟩)
                  · exact Or.inr (by omega)
            refine br_t (hb13.mpr hf) (nm_r (e' := x13 ||| ((1 : Int32) <<< (nI (s0 - 1) &&& 31))) (by rw [e1]) ?_)
            by_cases hq1 : 1 ≤ qu s0
            · refine br_f (nI_nlt (b := 1) hq1 (by omega)) ⟨5, lw_1107 g1 g2 htl (by omega) 4 0 x6 x8 (by omega) (fun y6 y8 hy => ih (s0 + 1) y6 y8 _ (by omega) (by omega) (fun d s' hd => (hy d s' hd).trans ⟨?_, ?_⟩) hB')⟩
              · rintro (z | z)
                · rcases (hA d s' hd).mp z with w | w
                  · exact Or.inl w
                  · exact Or.inr ⟨by omega, w.2⟩
                · obtain ⟨z1, _, z3, z4⟩ := z
                  subst z1
                  exact Or.inr ⟨by omega, g1, hn, hb0, ha1, hq1, z3, z4⟩
              · rintro (z | z)
                · exact Or.inl ((hA d s' hd).mpr (Or.inl z))
                · rcases Nat.lt_or_ge s' s0 with g | g
                  · exact Or.inl ((hA d s' hd).mpr (Or.inr ⟨g, z.2⟩))
                  · obtain rfl : s' = s0 := by omega
                    exact Or.inr ⟨rfl, by omega, z.2.2.2.2.2.2⟩
            · refine br_t (nI_lt (b := 1) (by omega) (by omega)) (nm_r (nI_1 _) (ih (s0 + 1) x6 x8 _ (by omega) (by omega) (fun d s' hd => (hA d s' hd).trans ⟨?_, ?_⟩) hB'))
              · rintro (z | z)
                · exact Or.inl z
                · exact Or.inr ⟨by omega, z.2⟩
              · rintro (z | z)
                · exact Or.inl z
                · rcases Nat.lt_or_ge s' s0 with g | g
                  · exact Or.inr ⟨g, z.2⟩
                  · obtain rfl : s' = s0 := by omega
                    exact absurd z.2.2.2.2.2.1 hq1
        · exact br_t (nI_lt (b := 1) (by omega) (by omega)) (nm_r (nI_1 _) (stay (fun d hd z => ha1 z.2.2.2.1) (fun _ z => absurd z ha1)))
      refine br_f h24 (br_f (fun z => by have := hb.mp z; rw [decide_eq_true hn] at this; exact absurd this (by decide)) (pl_info g1 g2 (nm_r (e' := nI (tp s0)) ?_ (nm_r (e' := nI (qu s0)) ?_ (pq_accepted HK g1 g2 (br_c (fun hq2 => br_t ?_ h1069) fun _ => h1069))))))
      · rw [pn_and7 (nfo_lt _ _ _), htp s0 g1 hn]
      · rw [pn_shr3 (nfo_lt _ _ _), hq.1]
      · exact nI_le (b := 1) (hac1 s0 ((nI_eq (b := 2) (by omega) (by omega)).mp hq2)) (by omega)
    · exact br_f h24 (br_t (hb.mpr (decide_eq_false hn)) (nm_r (nI_1 _) (stay (fun d hd z => hn z.2.1) (fun z _ => absurd z hn))))
end Q31
end
section
section Q32
/-! the overflow words, and who grew -/
def opv (x26 : Int64) (d : Nat) : Nat := x26.toBitVec.toNat / 2 ^ (16 * d) % 2 ^ 16
theorem pl_opv {x26 : Int64} {d : Nat} (hd : d < 4) : ((((x26.toUInt64 >>> ((16 * nI d).toInt64.toUInt64 &&& Int64.toUInt64 63)).toInt64) &&& 65535).toInt32) = nI (opv x26 d) := by
  have e1 : (16 : Int32) * nI d = nI (16 * d) := pk_mul 16 _
  obtain ⟨m, hm, hz⟩ := wb_of x26
  have e4 : ((x26.toUInt64 >>> ((nI (16 * d)).toInt64.toUInt64 &&& Int64.toUInt64 63)).toInt64) &&& 65535 = lN (m / 2 ^ (16 * d) % 2 ^ 16) := by
    rw [hz, wb_shr hm (by omega)]
    exact wb_mask (k := 16) (Nat.lt_of_le_of_lt (Nat.div_le_self _ _) hm) (by omega)
  rw [e1, e4, lN_i]
  unfold opv
  rw [hz, wb_tn hm]
theorem opv_lt (x26 : Int64) (d : Nat) : opv x26 d < 2 ^ 16 := Nat.mod_lt _ (by decide)
theorem lw_951 {p : TP} {k : TK} {r : TR} {l s : TL} {o : TO} {h : TA} {w : TW} {L : Nat} {xs : Nat → Int32} {post : Int32 → Prop} {J47 : TJ} {x2 x4 x6 x8 x10 x24 x26 : Int64} {x12 x13 x14 x15 x16 x17 x18 x19 x20 : Int32} {kc ks : Nat} {rc : Nat → Nat → Nat} {ac ov : Nat → Nat} (HK : pc_K k rc ac ov) (hov : ∀ d, d < 4 → ov d < 2 ^ 30)
    (hK : ∀ x28, (∀ d, d < 4 → (bt x28 d = true ↔ ¬ ov d % 2 ^ 16 = opv x26 d)) → ∃ fu1002, wL_law_1002 post L xs J47 x2 x4 x10 x12 x14 x15 x16 x17 x18 x19 x20 x24 x28 kc ks p.1 r.1 p.2.1 p.2.2.1 p.2.2.2.1 p.2.2.2.2 k.1 k.2.1 k.2.2.1 k.2.2.2 r.2.1 r.2.2 l.1 l.2.1 l.2.2 s.1 s.2.1 s.2.2 o.1 o.2.1 o.2.2.1 o.2.2.2.1 o.2.2.2.2.1 o.2.2.2.2.2 h w.1 w.2.1 w.2.2.1 w.2.2.2.1 w.2.2.2.2.1 w.2.2.2.2.2.1 w.2.2.2.2.2.2 fu1002 x6 x8 x13 1) :
    ∀ f d0 (x28 : Int32), d0 + f = 4 → (∀ d, d < 4 → (bt x28 d = true ↔ d < d0 ∧ ¬ ov d % 2 ^ 16 = opv x26 d)) → wL_law_951 post L xs J47 x2 x4 x6 x8 x10 x12 x13 x14 x15 x16 x17 x18 x19 x20 x24 x26 kc ks p.1 r.1 p.2.1 p.2.2.1 p.2.2.2.1 p.2.2.2.2 k.1 k.2.1 k.2.2.1 k.2.2.2 r.2.1 r.2.2 l.1 l.2.1 l.2.2 s.1 s.2.1 s.2.2 o.1 o.2.1 o.2.2.1 o.2.2.2.1 o.2.2.2.2.1 o.2.2.2.2.2 h w.1 w.2.1 w.2.2.1 w.2.2.2.1 w.2.2.2.2.1 w.2.2.2.2.2.1 w.2.2.2.2.2.2 (f + 1) x28 (nI d0) := by
  intro f
  induction f with
  | zero =>
    intro d0 x28 hd hG
    obtain rfl : d0 = 4 := by omega
    exact br_t (by decide) (hK x28 (fun d hd => (hG d hd).trans ⟨fun z => z.2, fun z => ⟨hd, z⟩⟩))
  | succ f ih =>
    intro d0 x28 hd hG
    have hd4 : d0 < 4 := by omega
    have h4 : ¬ (4 : Int32) ≤ nI d0 := nI_ge (b := 4) (by omega) (by omega)
    have ho := hov d0 hd4
    have hol := opv_lt x26 d0
    have e : nI (ov d0) &&& 65535 = nI (ov d0 % 2 ^ 16) := pk_andN (n := ov d0) (by omega) 16 (by decide)
    refine br_f h4 (pq_ovf HK hd4 ?_)
    rw [e, pl_opv hd4]
    by_cases hg : ov d0 % 2 ^ 16 = opv x26 d0
    · refine br_t (congrArg nI hg) (nm_r (nI_1 _) (ih (d0 + 1) x28 (by omega) (fun d hd => (hG d hd).trans ⟨fun z => ⟨by omega, z.2⟩, fun z => ⟨?_, z.2⟩⟩)))
      rcases Nat.lt_or_ge d d0 with g | g
      · exact g
      · obtain rfl : d = d0 := by omega
        exact absurd hg z.2
    · refine br_f (fun z => hg ((nI_eq (by omega) (by omega)).mp z)) (nm_e (nm_r (nI_1 _) (ih (d0 + 1) _ (by omega) (fun d hd => ?_))))
      rw [bt_s (by omega) (by omega), Bool.or_eq_true, decide_eq_true_iff, hG d hd]
      constructor
      · rintro (z | z)
        · exact ⟨by omega, z.2⟩
        · subst z
          exact ⟨by omega, hg⟩
      · intro z
        rcases Nat.lt_or_ge d d0 with g | g
        · exact Or.inl ⟨g, z.2⟩
        · exact Or.inr (by omega)
end Q32
end
section
section Q33
/-! fields of a word; the table of topics and of filters; the eligibility and the overflow before a call -/
def fld (x : Int64) (k w : Nat) : Nat := x.toBitVec.toNat / 2 ^ k % 2 ^ w
theorem fld_tb (x : Int64) (k w j : Nat) : (fld x k w).testBit j = (decide (j < w) && lb x (k + j)) := by
  unfold fld lb
  rw [Nat.testBit_mod_two_pow, Nat.testBit_div_two_pow, Nat.add_comm j k]
  rfl
theorem fld_get {y : Int64} {v k w : Nat} (hv : v < 2 ^ w) (h : ∀ j, j < w → lb y (k + j) = v.testBit j) : fld y k w = v := by
  apply Nat.eq_of_testBit_eq
  intro j
  rw [fld_tb]
  by_cases hj : j < w
  · rw [decide_eq_true hj, Bool.true_and, h j hj]
  · rw [decide_eq_false hj, Bool.false_and]
    exact (Nat.testBit_lt_two_pow (Nat.lt_of_lt_of_le hv (Nat.pow_le_pow_right (by decide) (by omega)))).symm
theorem fld_same {x y : Int64} {k w : Nat} (h : ∀ j, j < w → lb y (k + j) = lb x (k + j)) : fld y k w = fld x k w := by
  apply Nat.eq_of_testBit_eq
  intro j
  rw [fld_tb, fld_tb]
  by_cases hj : j < w
  · rw [h j hj]
  · rw [decide_eq_false hj, Bool.false_and, Bool.false_and]
theorem fld_b {x : Int64} {k w j : Nat} (h : fld x k w = 0) (hj : j < w) : lb x (k + j) = false := by
  have := fld_tb x k w j
  rw [h, Nat.zero_testBit, decide_eq_true hj, Bool.true_and] at this
  exact this.symm
theorem fld_set {x : Int64} {v k w : Nat} (hv : v < 2 ^ w) (hk : k < 64) (hw : k + w ≤ 64) : fld ((x &&& ((lN (2 ^ w - 1) <<< ((nI k).toInt64 &&& 63)) ^^^ (-1))) ||| (lN v <<< ((nI k).toInt64 &&& 63))) k w = v ∧ ∀ k' w', k' + w' ≤ 64 → (k' + w' ≤ k ∨ k + w ≤ k') → fld ((x &&& ((lN (2 ^ w - 1) <<< ((nI k).toInt64 &&& 63)) ^^^ (-1))) ||| (lN v <<< ((nI k).toInt64 &&& 63))) k' w' = fld x k' w' := by
  constructor
  · refine fld_get hv (fun j hj => ?_)
    rw [lb_or, lb_c (w := w) rfl hk (by omega), lb_shl hk (by omega), decide_eq_true (show k ≤ k + j by omega), decide_eq_true (show k + j - k < w by omega), show k + j - k = j by omega]
    simp
  · intro k' w' h1 h2
    refine fld_same (fun j hj => ?_)
    rw [lb_or, lb_c (w := w) rfl hk (by omega), lb_shl hk (by omega)]
    rcases h2 with h2 | h2
    · rw [decide_eq_false (show ¬ k ≤ k' + j by omega)]
      simp
    · rw [decide_eq_false (show ¬ k' + j - k < w by omega), Nat.testBit_lt_two_pow (Nat.lt_of_lt_of_le hv (Nat.pow_le_pow_right (by decide) (show w ≤ k' + j - k by omega)))]
      simp
theorem fld_or {x : Int64} {v k w : Nat} (hv : v < 2 ^ w) (hk : k < 64) (hw : k + w ≤ 64) (h0 : fld x k w = 0) : fld (x ||| (lN v <<< ((nI k).toInt64 &&& 63))) k w = v ∧ ∀ k' w', k' + w' ≤ 64 → (k' + w' ≤ k ∨ k + w ≤ k') → fld (x ||| (lN v <<< ((nI k).toInt64 &&& 63))) k' w' = fld x k' w' := by
  constructor
  · refine fld_get hv (fun j hj => ?_)
    rw [lb_or, lb_shl hk (by omega), decide_eq_true (show k ≤ k + j by omega), show k + j - k = j by omega, fld_b h0 hj]
    simp
  · intro k' w' h1 h2
    refine fld_same (fun j hj => ?_)
    rw [lb_or, lb_shl hk (by omega)]
    rcases h2 with h2 | h2
    · rw [decide_eq_false (show ¬ k ≤ k' + j by omega)]
      simp
    · rw [Nat.testBit_lt_two_pow (Nat.lt_of_lt_of_le hv (Nat.pow_le_pow_right (by decide) (show w ≤ k' + j - k by omega)))]
      simp
theorem i64 {m : Nat} (h : m < 2 ^ 31) : (nI m).toInt64 = lN m := by
  apply wb_inj
  have e : (nI m).toBitVec = BitVec.ofNat 32 m := rfl
  rw [Int32.toBitVec_toInt64, e, BitVec.signExtend_eq_setWidth_of_msb_false]
  · apply BitVec.eq_of_toNat_eq
    rw [BitVec.toNat_setWidth, wb_tb, BitVec.toNat_ofNat, BitVec.toNat_ofNat]
    omega
  · rw [BitVec.msb_eq_decide, BitVec.toNat_ofNat]
    exact decide_eq_false (by omega)
def tcv (i : Nat) : Int32 := if i = 0 then 1 else if i = 1 then 33 else if i = 2 then 49 else if i = 3 then 2 else if i = 4 then 18 else if i = 5 then 801 else if i = 6 then 561 else 274
def fcv (i : Nat) : Int32 := if i = 0 then 1 else if i = 1 then 225 else if i = 2 then 241 else if i = 3 then 242 else if i = 4 then 3822 else if i = 5 then 15 else if i = 6 then 801 else 30
theorem pl_tc {u : St2} {i : Nat} (hi : i < 8) {post : Int32 → Prop} (hp : post (tcv i)) : wpL_topicCode post u (nI i) := by
  unfold wpL_topicCode
  have : i = 0 ∨ i = 1 ∨ i = 2 ∨ i = 3 ∨ i = 4 ∨ i = 5 ∨ i = 6 ∨ i = 7 := by omega
  rcases this with rfl | rfl | rfl | rfl | rfl | rfl | rfl | rfl
  · exact br_f (by decide) (br_f (by decide) (br_t rfl hp))
  · exact br_f (by decide) (br_f (by decide) (br_f (by decide) (br_t rfl hp)))
  · exact br_f (by decide) (br_f (by decide) (br_f (by decide) (br_f (by decide) (br_t rfl hp))))
  · exact br_f (by decide) (br_f (by decide) (br_f (by decide) (br_f (by decide) (br_f (by decide) (br_t rfl hp)))))
  · exact br_f (by decide) (br_f (by decide) (br_f (by decide) (br_f (by decide) (br_f (by decide) (br_f (by decide) (br_t rfl hp))))))
  · exact br_f (by decide) (br_f (by decide) (br_f (by decide) (br_f (by decide) (br_f (by decide) (br_f (by decide) (br_f (by decide) (br_t rfl hp)))))))
  · exact br_f (by decide) (br_f (by decide) (br_f (by decide) (br_f (by decide) (br_f (by decide) (br_f (by decide) (br_f (by decide) (br_f (by decide) (br_t rfl hp))))))))
  · exact br_f (by decide) (br_t (by decide) hp)
theorem pl_fc {u : St2} {i : Nat} (hi : i < 8) {post : Int32 → Prop} (hp : post (fcv i)) : wpL_filterCode post u (nI i) := by
  unfold wpL_filterCode
  have : i = 0 ∨ i = 1 ∨ i = 2 ∨ i = 3 ∨ i = 4 ∨ i = 5 ∨ i = 6 ∨ i = 7 := by omega
  rcases this with rfl | rfl | rfl | rfl | rfl | rfl | rfl | rfl
  · exact br_f (by decide) (br_f (by decide) (br_t rfl hp))
  · exact br_f (by decide) (br_f (by decide) (br_f (by decide) (br_t rfl hp)))
  · exact br_f (by decide) (br_f (by decide) (br_f (by decide) (br_f (by decide) (br_t rfl hp))))
  · exact br_f (by decide) (br_f (by decide) (br_f (by decide) (br_f (by decide) (br_f (by decide) (br_t rfl hp)))))
  · exact br_f (by decide) (br_f (by decide) (br_f (by decide) (br_f (by decide) (br_f (by decide) (br_f (by decide) (br_t rfl hp))))))
  · exact br_f (by decide) (br_f (by decide) (br_f (by decide) (br_f (by decide) (br_f (by decide) (br_f (by decide) (br_f (by decide) (br_t rfl hp)))))))
  · exact br_f (by decide) (br_f (by decide) (br_f (by decide) (br_f (by decide) (br_f (by decide) (br_f (by decide) (br_f (by decide) (br_f (by decide) (br_t rfl hp))))))))
  · exact br_f (by decide) (br_t (by decide) hp)
/-- what the eligibility word promises -/
def ELG (se pe : Nat → Bool) (S : Nat → List (Int32 × Nat)) (x : Int64) : Prop := ∀ d t, d < 4 → t < 8 → 1 ≤ elg x d t → se d = true ∧ pe d = true ∧ ∃ f, f ∈ S d ∧ ma f.1 (tcv t) = true ∧ elg x d t ≤ f.2 + 1
theorem lw_452 {p : TP} {k : TK} {r : TR} {l s : TL} {o : TO} {h : TA} {w : TW} {L : Nat} {xs : Nat → Int32} {post : Int32 → Prop} {J47 : TJ} {J366 : Int64 → Int64 → Int32 → Prop} {J415 : Int64 → Int32 → Prop} {x2 x4 x6 x8 x10 x26 : Int64} {x12 x13 x14 x15 x16 x17 x18 x19 x20 x21 x22 x23 : Int32} {kc ks d i : Nat} {se pe : Nat → Bool} {S : Nat → List (Int32 × Nat)} {g : Int32 × Nat} (hd : d < 4) (hi : i < 8) (hse : se d = true) (hpe : pe d = true) (hg : g ∈ S d) (hgi : g.1 = fcv i) (hg2 : g.2 ≤ 2) (hK : ∀ y, ELG se pe S y → J415 y (nI (i + 1))) :
    ∀ f t (x24 : Int64), t + f = 8 → ELG se pe S x24 → wL_law_452 post L xs J47 J366 J415 x2 x4 x6 x8 x10 x12 x13 x14 x15 x16 x17 x18 x19 x20 x21 x22 x23 x26 (nI d) (nI i) (nI g.2) kc ks p.1 r.1 p.2.1 p.2.2.1 p.2.2.2.1 p.2.2.2.2 k.1 k.2.1 k.2.2.1 k.2.2.2 r.2.1 r.2.2 l.1 l.2.1 l.2.2 s.1 s.2.1 s.2.2 o.1 o.2.1 o.2.2.1 o.2.2.2.1 o.2.2.2.2.1 o.2.2.2.2.2 h w.1 w.2.1 w.2.2.1 w.2.2.2.1 w.2.2.2.2.1 w.2.2.2.2.2.1 w.2.2.2.2.2.2 (f + 1) x24 (nI t) := by
  intro f
  induction f with
  | zero =>
    intro t x24 ht hE
    obtain rfl : t = 8 := by omega
    exact br_t (by decide) (nm_r (nI_1 _) (hK x24 hE))
  | succ f ih =>
    intro t x24 ht hE
    have ht8 : t < 8 := by omega
    have h8 : ¬ (8 : Int32) ≤ nI t := nI_ge (b := 8) (by omega) (by omega)
    refine br_f h8 (pl_fc hi (pl_tc ht8 (pl_ma ?_)))
    cases hm : ma (fcv i) (tcv t) with
    | false => exact br_t rfl (nm_r (nI_1 _) (ih (t + 1) x24 (by omega) hE))
    | true =>
      have e1 : (nI d * 8 + nI t) * 2 = nI ((d * 8 + t) * 2) := by
        rw [show nI d * 8 = nI (d * 8) from pk_mul _ 8, nI_add]
        exact pk_mul _ 2
      refine br_f (by decide) (nm_e ?_)
      rw [pl_elg hd ht8, nI_1]
      have hel := elg_lt x24 d t
      by_cases hc : g.2 + 1 ≤ elg x24 d t
      · exact br_t (nI_le hc (by omega)) (nm_r (nI_1 _) (ih (t + 1) x24 (by omega) hE))
      · refine br_f (nI_ge (by omega) (by omega)) (nm_e (nm_r (nI_1 _) (ih (t + 1) _ (by omega) ?_)))
        rw [e1, i64 (show g.2 + 1 < 2 ^ 31 by omega)]
        obtain ⟨F1, F2⟩ := fld_set (x := x24) (v := g.2 + 1) (k := (d * 8 + t) * 2) (w := 2) (by omega) (by omega) (by omega)
        intro d' t' hd' ht' h
        by_cases e : d' = d ∧ t' = t
        · obtain ⟨rfl, rfl⟩ := e
          refine ⟨hse, hpe, g, hg, by rw [hgi]; exact hm, Nat.le_of_eq F1⟩
        · have := F2 ((d' * 8 + t') * 2) 2 (by omega) (by omega)
          have e3 : elg ((x24 &&& (((3 : Int64) <<< ((nI ((d * 8 + t) * 2)).toInt64 &&& 63)) ^^^ (-1))) ||| (lN (g.2 + 1) <<< ((nI ((d * 8 + t) * 2)).toInt64 &&& 63))) d' t' = elg x24 d' t' := this
          rw [e3] at h ⊢
          exact hE d' t' hd' ht' h
theorem lw_415 {p : TP} {k : TK} {r : TR} {l s : TL} {o : TO} {h : TA} {w : TW} {L : Nat} {xs : Nat → Int32} {post : Int32 → Prop} {J47 : TJ} {J366 : Int64 → Int64 → Int32 → Prop} {x2 x4 x6 x8 x10 x26 : Int64} {x12 x13 x14 x15 x16 x17 x18 x19 x20 x21 x22 x23 : Int32} {kc ks d : Nat} {se pe : Nat → Bool} {S : Nat → List (Int32 × Nat)} (HS : pc_S s S) (hd : d < 4) (hse : se d = true) (hpe : pe d = true) (hK : ∀ y, ELG se pe S y → J366 y x26 (nI (d + 1))) :
    ∀ f i (x24 : Int64), i + f = 8 → ELG se pe S x24 → wL_law_415 post L xs J47 J366 x2 x4 x6 x8 x10 x12 x13 x14 x15 x16 x17 x18 x19 x20 x21 x22 x23 x26 (nI d) kc ks p.1 r.1 p.2.1 p.2.2.1 p.2.2.2.1 p.2.2.2.2 k.1 k.2.1 k.2.2.1 k.2.2.2 r.2.1 r.2.2 l.1 l.2.1 l.2.2 s.1 s.2.1 s.2.2 o.1 o.2.1 o.2.2.1 o.2.2.2.1 o.2.2.2.2.1 o.2.2.2.2.2 h w.1 w.2.1 w.2.2.1 w.2.2.2.1 w.2.2.2.2.1 w.2.2.2.2.2.1 w.2.2.2.2.2.2 (f + 1) x24 (nI i) := by
  intro f
  induction f with
  | zero =>
    intro i x24 hi hE
    obtain rfl : i = 8 := by omega
    exact br_t (by decide) (nm_r (nI_1 _) (hK x24 hE))
  | succ f ih =>
    intro i x24 hi hE
    have hi8 : i < 8 := by omega
    have h8 : ¬ (8 : Int32) ≤ nI i := nI_ge (b := 8) (by omega) (by omega)
    obtain ⟨R, bX, hR⟩ := pq_sq HS hd (fcv i)
    refine br_f h8 (pl_fc hi8 (bX p k r l o h w _ ?_))
    rcases hR with rfl | ⟨g, hg, hgi, rfl, hg2⟩
    · exact br_t (by decide) (nm_r (nI_1 _) (ih (i + 1) x24 (by omega) hE))
    · exact br_f (nI_nlt (b := 0) (by omega) (by omega)) (br_t (nI_le (b := 2) hg2 (by omega)) ⟨9, lw_452 hd hi8 hse hpe hg hgi hg2 (fun y hy => ih (i + 1) y (by omega) hy) 8 0 x24 (by omega) hE⟩)
theorem lw_366 {p : TP} {k : TK} {r : TR} {l s : TL} {o : TO} {h : TA} {w : TW} {L : Nat} {xs : Nat → Int32} {post : Int32 → Prop} {J47 : TJ} {x2 x4 x6 x8 x10 : Int64} {x12 x13 x14 x15 x16 x17 x18 x19 x20 x21 x22 x23 : Int32} {kc ks : Nat} {up se pe : Nat → Bool} {S : Nat → List (Int32 × Nat)} {rc : Nat → Nat → Nat} {ac ov : Nat → Nat} (HK : pc_K k rc ac ov) (HL : pc_L l up se pe) (HS : pc_S s S) (hov : ∀ d, d < 4 → ov d < 2 ^ 30)
    (hT : ∀ x24 x26, ELG se pe S x24 → (∀ d, d < 4 → opv x26 d = ov d % 2 ^ 16) → wL_law_366 post L xs J47 x2 x4 x6 x8 x10 x12 x13 x14 x15 x16 x17 x18 x19 x20 x21 x22 x23 kc ks p.1 r.1 p.2.1 p.2.2.1 p.2.2.2.1 p.2.2.2.2 k.1 k.2.1 k.2.2.1 k.2.2.2 r.2.1 r.2.2 l.1 l.2.1 l.2.2 s.1 s.2.1 s.2.2 o.1 o.2.1 o.2.2.1 o.2.2.2.1 o.2.2.2.2.1 o.2.2.2.2.2 h w.1 w.2.1 w.2.2.1 w.2.2.2.1 w.2.2.2.2.1 w.2.2.2.2.2.1 w.2.2.2.2.2.2 1 x24 x26 4) :
    ∀ f d (x24 x26 : Int64), d + f = 4 → ELG se pe S x24 → (∀ d', d' < 4 → opv x26 d' = if d' < d then ov d' % 2 ^ 16 else 0) → wL_law_366 post L xs J47 x2 x4 x6 x8 x10 x12 x13 x14 x15 x16 x17 x18 x19 x20 x21 x22 x23 kc ks p.1 r.1 p.2.1 p.2.2.1 p.2.2.2.1 p.2.2.2.2 k.1 k.2.1 k.2.2.1 k.2.2.2 r.2.1 r.2.2 l.1 l.2.1 l.2.2 s.1 s.2.1 s.2.2 o.1 o.2.1 o.2.2.1 o.2.2.2.1 o.2.2.2.2.1 o.2.2.2.2.2 h w.1 w.2.1 w.2.2.1 w.2.2.2.1 w.2.2.2.2.1 w.2.2.2.2.2.1 w.2.2.2.2.2.2 (f + 1) x24 x26 (nI d) := by
  intro f
  induction f with
  | zero =>
    intro d x24 x26 hd hE hO
    obtain rfl : d = 4 := by omega
    exact hT x24 x26 hE (fun d hd => by rw [hO d hd, if_pos hd])
  | succ f ih =>
    intro d x24 x26 hd hE hO
    have hd4 : d < 4 := by omega
    have h4 : ¬ (4 : Int32) ≤ nI d := nI_ge (b := 4) (by omega) (by omega)
    have ho := hov d hd4
    have e : nI (ov d) &&& 65535 = nI (ov d % 2 ^ 16) := pk_andN (n := ov d) (by omega) 16 (by decide)
    have e1 : (16 : Int32) * nI d = nI (16 * d) := pk_mul 16 _
    have hv : ov d % 2 ^ 16 < 2 ^ 16 := Nat.mod_lt _ (by decide)
    have h0 : fld x26 (16 * d) 16 = 0 := by
      have := hO d hd4
      rw [if_neg (by omega)] at this
      exact this
    obtain ⟨F1, F2⟩ := fld_or (x := x26) (v := ov d % 2 ^ 16) (k := 16 * d) (w := 16) hv (by omega) (by omega) h0
    refine br_f h4 (pq_ovf HK hd4 (nm_r (e' := x26 ||| (lN (ov d % 2 ^ 16) <<< ((nI (16 * d)).toInt64 &&& 63))) (by rw [e, e1, i64 (by omega)]) (pq_status HL hd4 ?_)))
    have hO' : ∀ d', d' < 4 → opv (x26 ||| (lN (ov d % 2 ^ 16) <<< ((nI (16 * d)).toInt64 &&& 63))) d' = if d' < d + 1 then ov d' % 2 ^ 16 else 0 := by
      intro d' hd'
      by_cases g : d' = d
      · subst g
        rw [if_pos (by omega)]
        exact F1
      · have := F2 (16 * d') 16 (by omega) (by omega)
        have e3 : opv (x26 ||| (lN (ov d % 2 ^ 16) <<< ((nI (16 * d)).toInt64 &&& 63))) d' = opv x26 d' := this
        rw [e3, hO d' hd']
        by_cases g2 : d' < d
        · rw [if_pos g2, if_pos (by omega)]
        · rw [if_neg g2, if_neg (by omega)]
    have h6 : ∀ a b c : Bool, (nI (stv a b c) &&& 6) = 6 ↔ b = true ∧ c = true := by decide
    by_cases hs : se d = true ∧ pe d = true
    · exact br_t ((h6 _ _ _).mpr hs) ⟨9, lw_415 HS hd4 hs.1 hs.2 (fun y hy => ih (d + 1) y _ (by omega) hy hO') 8 0 x24 (by omega) hE⟩
    · exact br_f (fun z => hs ((h6 _ _ _).mp z)) (nm_r (nI_1 _) (ih (d + 1) x24 _ (by omega) hE hO'))
end Q33
end
section
section Q34
/-- behind a call: who grew, who is accepted, who is armed, the checks -/
theorem lw_back {p : TP} {k : TK} {r : TR} {l s : TL} {o : TO} {h : TA} {w : TW} {L : Nat} {xs : Nat → Int32} {post : Int32 → Prop} {J47 : TJ} {x2 x4 x6 x8 x10 x24 x26 : Int64} {x12 x13 x14 x15 x16 x17 x18 x19 x20 : Int32} {kc ks : Nat}
    {O W : Nat → List N5} {H : Nat → Nat → Bool} {up2 se pe pe2 : Nat → Bool} {S S2 : Nat → List (Int32 × Nat)} {rc : Nat → Nat → Nat} {ac ac2 ov ov2 : Nat → Nat} {n : Nat} {qu : Nat → Nat} {nq : Nat → Bool} (I : PINV O W H up2 pe2 S2 rc ac2 n qu (amf x6 x8) nq) (HO : pc_O o O) (HK : pc_K k rc ac2 ov2) (hn24 : n ≤ 24) (hrc : ∀ d s, rc d s < 2 ^ 30) (hac : ∀ s, ac2 s < 2 ^ 30) (hov : ∀ d, d < 4 → ov2 d < 2 ^ 30) (hnq : ∀ d, d < 4 → nq d = bt x14 d) (hpm : ∀ s, 1 ≤ s → s ≤ 24 → bt x12 (s - 1) = decide (s ≤ n)) (hqu : ∀ s, 1 ≤ s → s ≤ n → qu s = nfo x2 x4 s / 8 ∧ qu s ≤ 2)
    (hE : ELG se pe S x24) (hop : ∀ d, d < 4 → opv x26 d = ov d % 2 ^ 16) (hgr : ∀ d, d < 4 → ov d ≤ ov2 d ∧ ov2 d ≤ ov d + 16) (hacc : ∀ s, 1 ≤ s → s ≤ 24 → (bt x13 (s - 1) = true ↔ 1 ≤ ac s)) (hmo : ∀ s, ac s ≤ ac2 s)
    (hA : ∀ s d, d < 4 → 1 ≤ s → s ≤ n → ac s = 0 → 1 ≤ ac2 s → ov2 d = ov d → 1 ≤ qu s → pe d = true → (∃ f, f ∈ S d ∧ ma f.1 (tcv (nfo x2 x4 s % 8)) = true ∧ qu s ≤ f.2) → pe2 d = true ∧ (∃ e, e ∈ O (4 + d) ∧ e.1 = s ∧ e.2.2.2.1 = 0) ∧ (qu s = 2 → XO (O (4 + d)) (W (4 + d)) (H d) (rc d s) s))
    (hJ : ∀ y6 y8 y13, PINV O W H up2 pe2 S2 rc ac2 n qu (amf y6 y8) nq → (∀ s, 1 ≤ s → s ≤ 24 → (bt y13 (s - 1) = true ↔ 1 ≤ ac2 s)) → (∀ d s, d < 4 → ov2 d = ov d → amf x6 x8 d s = true → amf y6 y8 d s = true) →
      (x20 = 0 → J47 x2 x4 y6 y8 x10 x12 y13 x14 x15 x16 x17 (x19 + 1) p.1 r.1 p.2.1 p.2.2.1 p.2.2.2.1 p.2.2.2.2 k.1 k.2.1 k.2.2.1 k.2.2.2 r.2.1 r.2.2 l.1 l.2.1 l.2.2 s.1 s.2.1 s.2.2 o.1 o.2.1 o.2.2.1 o.2.2.2.1 o.2.2.2.2.1 o.2.2.2.2.2 h w.1 w.2.1 w.2.2.1 w.2.2.2.1 w.2.2.2.2.1 w.2.2.2.2.2.1 w.2.2.2.2.2.2) ∧ (¬ x20 = 0 → ¬ x16 + (-1) = 0 → J47 x2 x4 y6 y8 x10 x12 y13 x14 x15 (x16 + (-1)) x17 (x19 + 1) p.1 r.1 p.2.1 p.2.2.1 p.2.2.2.1 p.2.2.2.2 k.1 k.2.1 k.2.2.1 k.2.2.2 r.2.1 r.2.2 l.1 l.2.1 l.2.2 s.1 s.2.1 s.2.2 o.1 o.2.1 o.2.2.1 o.2.2.2.1 o.2.2.2.2.1 o.2.2.2.2.2 h w.1 w.2.1 w.2.2.1 w.2.2.2.1 w.2.2.2.2.1 w.2.2.2.2.2.1 w.2.2.2.2.2.2) ∧ (¬ x20 = 0 → x16 + (-1) = 0 → ∃ fu1419, wL_law_1419 post L xs J47 x2 x4 y6 y8 x10 x12 y13 x14 x15 (x16 + (-1)) x17 x18 x19 kc ks p.1 r.1 p.2.1 p.2.2.1 p.2.2.2.1 p.2.2.2.2 k.1 k.2.1 k.2.2.1 k.2.2.2 r.2.1 r.2.2 l.1 l.2.1 l.2.2 s.1 s.2.1 s.2.2 o.1 o.2.1 o.2.2.1 o.2.2.2.1 o.2.2.2.2.1 o.2.2.2.2.2 h w.1 w.2.1 w.2.2.1 w.2.2.2.1 w.2.2.2.2.1 w.2.2.2.2.2.1 w.2.2.2.2.2.2 fu1419 1)) :
    ∃ fu951, wL_law_951 post L xs J47 x2 x4 x6 x8 x10 x12 x13 x14 x15 x16 x17 x18 x19 x20 x24 x26 kc ks p.1 r.1 p.2.1 p.2.2.1 p.2.2.2.1 p.2.2.2.2 k.1 k.2.1 k.2.2.1 k.2.2.2 r.2.1 r.2.2 l.1 l.2.1 l.2.2 s.1 s.2.1 s.2.2 o.1 o.2.1 o.2.2.1 o.2.2.2.1 o.2.2.2.2.1 o.2.2.2.2.2 h w.1 w.2.1 w.2.2.1 w.2.2.2.1 w.2.2.2.2.1 w.2.2.2.2.2.1 w.2.2.2.2.2.2 fu951 0 0 := by
  refine ⟨5, lw_951 HK hov (fun x28 hG => ⟨25, lw_1002 (n := n) (qu := qu) (tp := fun s => nfo x2 x4 s % 8) (A0 := amf x6 x8) (b0 := fun s => decide (1 ≤ ac s)) HK hn24 hac I.2.2.2.2.2.2.1 hpm hqu (fun s _ _ => rfl) (fun z6 z8 y13 hz h13 => ⟨5, lw_1208 4 0 z6 z8 (by omega) (fun y6 y8 hy => ⟨25, ?_⟩)⟩) 24 1 x6 x8 x13 (by omega) (by omega) (fun d s' hd => ⟨fun z => Or.inl z, ?_⟩) (fun s' a b => (hacc s' a b).trans ⟨fun z => Or.inl (decide_eq_true z), ?_⟩)⟩) 4 0 0 (by omega) (fun d hd => ⟨fun z => ?_, fun z => absurd z.1 (by omega)⟩)⟩
  · -- the checks
    have hsame : ∀ d, d < 4 → bt x28 d = false → ov2 d = ov d := by
      intro d hd hb
      have h1 := hop d hd
      have h2 := hgr d hd
      have h3 : ov2 d % 2 ^ 16 = opv x26 d := by
        apply Classical.byContradiction
        intro z
        rw [(hG d hd).mpr z] at hb
        exact absurd hb (by decide)
      omega
    have hI : PINV O W H up2 pe2 S2 rc ac2 n qu (amf y6 y8) nq := by
      refine PINV_arm I (fun d s' hd ha => ?_)
      rw [hy d s' hd, Bool.and_eq_true] at ha
      rcases (hz d s' hd).mp ha.1 with z | z
      · exact Or.inl z
      · obtain ⟨z1, z2, z3, z4, z5, z6, z7⟩ := z
        have z8 : qu s' + 1 ≤ elg x24 d (nfo x2 x4 s' % 8) := z7
        clear z7
        have hs0 : ac s' = 0 := by
          have := of_decide_eq_false z3
          omega
        obtain ⟨e1, e2, g, hg, hm, hq⟩ := hE d (nfo x2 x4 s' % 8) hd (Nat.mod_lt _ (by decide)) (by omega)
        have X := hA s' d hd z1 z2 hs0 z4 (hsame d hd z6) z5 e2 ⟨g, hg, hm, by omega⟩
        exact Or.inr ⟨X.1, z4, z5, X.2.1, X.2.2⟩
    have h13' : ∀ s', 1 ≤ s' → s' ≤ 24 → (bt y13 (s' - 1) = true ↔ 1 ≤ ac2 s') := by
      intro s' a b
      refine (h13 s' a b).trans ⟨?_, fun z => ?_⟩
      · rintro (z | z)
        · have := of_decide_eq_true z
          have := hmo s'
          omega
        · exact z.2
      · refine Or.inr ⟨?_, z⟩
        apply Classical.byContradiction
        intro y
        have := I.2.2.2.2.2.2.2.2.1 s' (by omega)
        omega
    have hkeep : ∀ d s', d < 4 → ov2 d = ov d → amf x6 x8 d s' = true → amf y6 y8 d s' = true := by
      intro d s' hd he ha
      have hb : bt x28 d = false := by
        cases hx : bt x28 d with
        | false => rfl
        | true =>
          have := (hG d hd).mp hx
          rw [hop d hd, he] at this
          exact absurd rfl this
      rw [hy d s' hd, (hz d s' hd).mpr (Or.inl ha), hb, Bool.and_false]
      rfl
    obtain ⟨j0, j1, j2⟩ := hJ y6 y8 y13 hI h13' hkeep
    exact lw_1280 hI HO HK hrc hnq hpm hqu j0 j1 j2 24 1 (by omega) (by omega)
  · rintro (z | z)
    · exact z
    · exact absurd z.2.1 (by omega)
  · rintro (z | z)
    · exact of_decide_eq_true z
    · exact absurd z.1 (by omega)
  · rw [b_0] at z
    exact absurd z (by decide)
end Q34
end
section
section Q35
/-! while a link is up, an outbox has no more entries than the two wires have packets -/
theorem ndk_tl {e : N5} {E : List N5} (nd : ndk (e :: E)) : ndk E ∧ ∀ e', e' ∈ E → e'.2.2.1 ≠ e.2.2.1 := by
  constructor
  · intro i j a b hi hj hab
    have := nd (i + 1) (j + 1) a b hi hj hab
    omega
  · intro e' he' hh
    obtain ⟨j, hj⟩ := List.mem_iff_getElem?.mp he'
    have := nd 0 (j + 1) e e' rfl hj hh.symm
    omega
theorem pg_len : ∀ (E : List N5) (m : List Nat), ndk E → (∀ e, e ∈ E → e.2.2.1 ∈ m) → E.length ≤ m.length := by
  intro E
  induction E with
  | nil => intro m _ _; exact Nat.zero_le _
  | cons e E ih =>
    intro m nd h
    obtain ⟨n1, n2⟩ := ndk_tl nd
    have h0 := h e List.mem_cons_self
    have h1 := ih (m.erase e.2.2.1) n1 (fun e' he' => (List.mem_erase_of_ne (n2 e' he')).mpr (h e' (List.mem_cons_of_mem _ he')))
    have h2 := List.length_erase_of_mem h0
    have h3 := List.length_pos_of_mem h0
    rw [List.length_cons]
    omega
theorem mf_1 {F : List N5} {q : N5 → Bool} {t : N5} (h : F.filter q = [t]) : t ∈ F := by
  have : t ∈ F.filter q := by rw [h]; exact List.mem_cons_self
  exact (List.mem_filter.mp this).1
theorem TOK_len {E F B : List N5} {H : Nat → Bool} {tk : N5 → Prop} (T : TOK E F B H true tk) (hi : ∀ e, e ∈ E → 1 ≤ e.2.2.1 ∧ e.2.2.1 ≤ 16) : E.length ≤ F.length + B.length := by
  have := pg_len E ((F ++ B).map (fun t => t.2.1)) T.1 (fun e he => ?_)
  · rw [List.length_map, List.length_append] at this
    exact this
  · have t := T.2 e.2.2.1 (hi e he).1 (hi e he).2
    rw [lk_of T.1 he] at t
    have inF : ∀ x : N5, F.filter (isF e.2.2.1) = [x] → x.2.1 = e.2.2.1 → e.2.2.1 ∈ (F ++ B).map (fun t => t.2.1) := fun x hx hh => List.mem_map.mpr ⟨x, List.mem_append_left _ (mf_1 hx), hh⟩
    have inB : ∀ x : N5, B.filter (isB e.2.2.1) = [x] → x.2.1 = e.2.2.1 → e.2.2.1 ∈ (F ++ B).map (fun t => t.2.1) := fun x hx hh => List.mem_map.mpr ⟨x, List.mem_append_right _ (mf_1 hx), hh⟩
    rcases t with ⟨z, _⟩ | ⟨e', z, t⟩
    · exact absurd z (by simp)
    · rcases t with ⟨_, _, _, t⟩ | ⟨_, _, _, t⟩ | ⟨_, _, _, t⟩
      · rcases t with ⟨z, _⟩ | ⟨_, z, _⟩ | ⟨_, _, z, _⟩
        · exact absurd z (by decide)
        · exact inF _ z rfl
        · exact inB _ z rfl
      · rcases t with ⟨z, _⟩ | ⟨_, z, _⟩ | ⟨_, _, z, _⟩
        · exact absurd z (by decide)
        · exact inF _ z rfl
        · exact inB _ z rfl
      · rcases t with ⟨z, _⟩ | ⟨_, z, _⟩ | ⟨_, _, z, _⟩
        · exact absurd z (by decide)
        · exact inF _ z rfl
        · exact inB _ z rfl
theorem sw_ge {f : N5 → Nat} (h : ∀ t, 1 ≤ f t) : ∀ l : List N5, l.length ≤ sw f l := by
  intro l
  induction l with
  | nil => exact Nat.zero_le _
  | cons t l ih =>
    have := h t
    have e : sw f (t :: l) = f t + sw f l := rfl
    rw [e, List.length_cons]
    omega
theorem sw_le {f : N5 → Nat} {m : Nat} (h : ∀ t, f t ≤ m) : ∀ l : List N5, sw f l ≤ m * l.length := by
  intro l
  induction l with
  | nil => exact Nat.zero_le _
  | cons t l ih =>
    have := h t
    have e : sw f (t :: l) = f t + sw f l := rfl
    rw [e, List.length_cons, Nat.mul_add, Nat.mul_one]
    omega
theorem wu_le (t : N5) : 1 ≤ wu t ∧ wu t ≤ 8 := by
  have := wd_le t
  unfold wu
  split <;> omega
theorem k1_le (t : N5) : k1 t ≤ 1 := by
  unfold k1
  split <;> omega
/-- how a drain of client d stands, dl calls before its end -/
def DR (W : Nat → List N5) (up : Nat → Bool) (d dl : Nat) : Prop :=
  up d = true ∧ (W d).length + (W (4 + d)).length + sw k1 (W d) ≤ 12 ∧ (∀ d', d' < 4 → d' ≠ d → (W (4 + d')).length + sw k1 (W d) ≤ 8) ∧ (2 * (sw wu (W d) + sw wd (W (4 + d))) ≤ dl ∨ (dl % 2 = 1 ∧ W (4 + d) = [] ∧ 2 * (sw wu (W d) + sw wd (W (4 + d))) ≤ dl + 1))
theorem DR_start {W : Nat → List N5} {up : Nat → Bool} {d : Nat} (hd : d < 4) (hu : up d = true) (h : ∀ x, x < 8 → (W x).length ≤ 4) : DR W up d 200 := by
  have a := h d (by omega)
  have b := h (4 + d) (by omega)
  have c := sw_le k1_le (W d)
  have e := sw_le (fun t => (wu_le t).2) (W d)
  have g := sw_le (fun t => (wd_le t).2) (W (4 + d))
  refine ⟨hu, by omega, fun d' hd' _ => ?_, Or.inl (by omega)⟩
  have := h (4 + d') (by omega)
  omega
theorem DR_c {W W2 : Nat → List N5} {up : Nat → Bool} {d dl : Nat} (hd : d < 4) (h : DR W up d (dl + 1)) (he : (dl + 1) % 2 = 0) (m : MVC d W W2) : DR W2 up d dl := by
  obtain ⟨h1, h2, h3, h4⟩ := h
  obtain ⟨m1, m2, m3, m4, m5, m6, m7⟩ := m
  refine ⟨h1, by omega, fun d' hd' hn => ?_, ?_⟩
  · rw [m1 (4 + d') (by omega) (by omega)]
    have := h3 d' hd' hn
    omega
  · rcases h4 with h4 | h4
    · by_cases hw : W (4 + d) = []
      · refine Or.inr ⟨by omega, ?_, by omega⟩
        rw [hw] at m3
        exact List.eq_nil_of_length_eq_zero (Nat.le_zero.mp m3)
      · have := m6 hw
        exact Or.inl (by omega)
    · omega
theorem DR_b {W W2 : Nat → List N5} {up : Nat → Bool} {d dl : Nat} (hd : d < 4) (h : DR W up d (dl + 1)) (he : (dl + 1) % 2 = 1) (m : MVB d W W2) : DR W2 up d dl := by
  obtain ⟨h1, h2, h3, h4⟩ := h
  obtain ⟨m1, m2, m3, m4, m5, m6, m7, m8⟩ := m
  refine ⟨h1, by omega, fun d' hd' hn => ?_, Or.inl ?_⟩
  · have := h3 d' hd' hn
    have := (m4 d' hd' hn).2
    omega
  · rcases h4 with h4 | ⟨_, hw, h4⟩
    · omega
    · by_cases hz : W d = []
      · rw [hz, hw] at m8
        have : sw wu [] + sw wd [] = 0 := rfl
        omega
      · have := m7 hz
        omega
/-- at a drain's end nothing is on the way -/
theorem DR_end {W : Nat → List N5} {up : Nat → Bool} {d : Nat} (h : DR W up d 0) : W d = [] ∧ W (4 + d) = [] := by
  obtain ⟨h1, h2, h3, h4⟩ := h
  have a := sw_ge (fun t => (wu_le t).1) (W d)
  have b := sw_ge (fun t => (wd_le t).1) (W (4 + d))
  have z : sw wu (W d) + sw wd (W (4 + d)) = 0 := by
    rcases h4 with h4 | h4 <;> omega
  exact ⟨List.eq_nil_of_length_eq_zero (by omega), List.eq_nil_of_length_eq_zero (by omega)⟩
end Q35
end
section
section Q36
/-! what holds before every turn of the law -/
def LC (x2 x4 x6 x8 : Int64) (x12 x13 x14 : Int32) (st : Nat) (u : St1) (O W : Nat → List N5) (H : Nat → Nat → Bool) (up se pe : Nat → Bool) (S : Nat → List (Int32 × Nat)) (rc : Nat → Nat → Nat) (ac ov : Nat → Nat) (n : Nat) (tp : Nat → Int32) (qu : Nat → Nat) : Prop :=
  PIC u O W H up se pe S rc ac ov n tp qu ∧ PINV O W H up pe S rc ac n qu (amf x6 x8) (bt x14) ∧ n ≤ 24 ∧ (∀ x, x < 8 → (W x).length ≤ 28) ∧ (∀ d s, rc d s ≤ 8 * st) ∧ (∀ s, ac s ≤ 8 * st) ∧ (∀ d, d < 4 → ov d ≤ 8 * st) ∧ (∀ s, 1 ≤ s → s ≤ 24 → bt x12 (s - 1) = decide (s ≤ n)) ∧ (∀ s, 1 ≤ s → s ≤ n → qu s = nfo x2 x4 s / 8 ∧ qu s ≤ 2) ∧ (∀ s, 1 ≤ s → s ≤ n → tp s = tcv (nfo x2 x4 s % 8)) ∧ (∀ s, 1 ≤ s → s ≤ 24 → (bt x13 (s - 1) = true ↔ 1 ≤ ac s))
def LD (x6 x8 x10 : Int64) (x16 x17 : Int32) (W : Nat → List N5) (up : Nat → Bool) : Prop := ∃ dd dl, dd < 4 ∧ x17 = nI dd ∧ x16 = nI dl ∧ dl ≤ 200 ∧ (1 ≤ dl → DR W up dd dl ∧ ∀ s, 1 ≤ s → s ≤ 24 → lb x10 (s - 1) = true → amf x6 x8 dd s = true)
def LI (x2 x4 x6 x8 x10 : Int64) (x12 x13 x14 x16 x17 : Int32) (st : Nat) (u : St1) : Prop := ∃ (O W : Nat → List N5) (H : Nat → Nat → Bool) (up se pe : Nat → Bool) (S : Nat → List (Int32 × Nat)) (rc : Nat → Nat → Nat) (ac ov : Nat → Nat) (n : Nat) (tp : Nat → Int32) (qu : Nat → Nat), LC x2 x4 x6 x8 x12 x13 x14 st u O W H up se pe S rc ac ov n tp qu ∧ LD x6 x8 x10 x16 x17 W up
/-- the way back to the loop is open at this position, behind st turns -/
def JOK (J47 : TJ) (x15 : Int32) (st : Nat) : Prop := ∀ (p : TP) (k : TK) (r : TR) (l s : TL) (o : TO) (h : TA) (w : TW) y2 y4 y6 y8 y10 y12 y13 y14 y16 y17, LI y2 y4 y6 y8 y10 y12 y13 y14 y16 y17 st (XS p k r l s o h w) → J47 y2 y4 y6 y8 y10 y12 y13 y14 x15 y16 y17 (nI st) p.1 r.1 p.2.1 p.2.2.1 p.2.2.2.1 p.2.2.2.2 k.1 k.2.1 k.2.2.1 k.2.2.2 r.2.1 r.2.2 l.1 l.2.1 l.2.2 s.1 s.2.1 s.2.2 o.1 o.2.1 o.2.2.1 o.2.2.2.1 o.2.2.2.2.1 o.2.2.2.2.2 h w.1 w.2.1 w.2.2.1 w.2.2.2.1 w.2.2.2.2.1 w.2.2.2.2.2.1 w.2.2.2.2.2.2
theorem nI_dec (a : Nat) : nI (a + 1) + (-1) = nI a := by
  rw [← nI_1, Int32.add_assoc, show (1 : Int32) + (-1) = 0 from rfl, Int32.add_zero]
theorem lw_call {p : TP} {k : TK} {r : TR} {l s : TL} {o : TO} {h : TA} {w : TW} {L : Nat} {xs : Nat → Int32} {post : Int32 → Prop} {J47 : TJ} {x2 x4 x6 x8 x10 x24 x26 : Int64} {x12 x13 x14 x15 x16 x18 x20 : Int32} {kc ks st dd : Nat}
    {O W : Nat → List N5} {H : Nat → Nat → Bool} {up2 se se2 pe pe2 : Nat → Bool} {S S2 : Nat → List (Int32 × Nat)} {rc : Nat → Nat → Nat} {ac ac2 ov ov2 : Nat → Nat} {n : Nat} {tp : Nat → Int32} {qu : Nat → Nat}
    (HP : pc_P p n tp qu) (HK : pc_K k rc ac2 ov2) (HR : pc_R r) (HL : pc_L l up2 se2 pe2) (HS : pc_S s S2) (HO : pc_O o O) (HH : pc_H h H) (HW : pc_W w W)
    (I : PINV O W H up2 pe2 S2 rc ac2 n qu (amf x6 x8) (bt x14)) (hn24 : n ≤ 24) (hst : 8 * (st + 1) < 2 ^ 30) (hW : ∀ x, x < 8 → (W x).length ≤ 28) (hrc : ∀ d s, rc d s ≤ 8 * (st + 1)) (hac : ∀ s, ac2 s ≤ 8 * (st + 1)) (hov : ∀ d, d < 4 → ov2 d ≤ 8 * (st + 1)) (hpm : ∀ s, 1 ≤ s → s ≤ 24 → bt x12 (s - 1) = decide (s ≤ n)) (hqu : ∀ s, 1 ≤ s → s ≤ n → qu s = nfo x2 x4 s / 8 ∧ qu s ≤ 2) (htp : ∀ s, 1 ≤ s → s ≤ n → tp s = tcv (nfo x2 x4 s % 8))
    (hE : ELG se pe S x24) (hop : ∀ d, d < 4 → opv x26 d = ov d % 2 ^ 16) (hgr : ∀ d, d < 4 → ov d ≤ ov2 d ∧ ov2 d ≤ ov d + 16) (hacc : ∀ s, 1 ≤ s → s ≤ 24 → (bt x13 (s - 1) = true ↔ 1 ≤ ac s)) (hmo : ∀ s, ac s ≤ ac2 s)
    (hA : ∀ s d, d < 4 → ac s = 0 → 1 ≤ ac2 s → ov2 d = ov d → 1 ≤ qu s → pe d = true → (∃ f, f ∈ S d ∧ ma f.1 (tp s) = true ∧ qu s ≤ f.2) → pe2 d = true ∧ (∃ e, e ∈ O (4 + d) ∧ e.1 = s ∧ e.2.2.2.1 = 0) ∧ (qu s = 2 → XO (O (4 + d)) (W (4 + d)) (H d) (rc d s) s))
    (hd : dd < 4) (hx : (x20 = 0 ∧ x16 = 0) ∨ (¬ x20 = 0 ∧ ∃ dl, x16 = nI (dl + 1) ∧ dl + 1 ≤ 200 ∧ DR W up2 dd dl ∧ ov2 dd = ov dd ∧ ∀ s, 1 ≤ s → s ≤ 24 → lb x10 (s - 1) = true → amf x6 x8 dd s = true)) (hJ : JOK J47 x15 (st + 1)) :
    ∃ fu951, wL_law_951 post L xs J47 x2 x4 x6 x8 x10 x12 x13 x14 x15 x16 (nI dd) x18 (nI st) x20 x24 x26 kc ks p.1 r.1 p.2.1 p.2.2.1 p.2.2.2.1 p.2.2.2.2 k.1 k.2.1 k.2.2.1 k.2.2.2 r.2.1 r.2.2 l.1 l.2.1 l.2.2 s.1 s.2.1 s.2.2 o.1 o.2.1 o.2.2.1 o.2.2.2.1 o.2.2.2.2.1 o.2.2.2.2.2 h w.1 w.2.1 w.2.2.1 w.2.2.2.1 w.2.2.2.2.1 w.2.2.2.2.2.1 w.2.2.2.2.2.2 fu951 0 0 := by
  have hrc' : ∀ d s, rc d s < 2 ^ 30 := fun d s => by have := hrc d s; omega
  refine lw_back I HO HK hn24 hrc' (fun s => by have := hac s; omega) (fun d hd => by have := hov d hd; omega) (fun _ _ => rfl) hpm hqu hE hop hgr hacc hmo (fun s0 d hd h1 h2 h3 h4 h5 h6 h7 h8 => hA s0 d hd h3 h4 h5 h6 h7 (by rw [htp s0 h1 h2]; exact h8)) (fun y6 y8 y13 hI h13 hkeep => ?_)
  have go : ∀ x16', LD y6 y8 x10 x16' (nI dd) W up2 → J47 x2 x4 y6 y8 x10 x12 y13 x14 x15 x16' (nI dd) (nI st + 1) p.1 r.1 p.2.1 p.2.2.1 p.2.2.2.1 p.2.2.2.2 k.1 k.2.1 k.2.2.1 k.2.2.2 r.2.1 r.2.2 l.1 l.2.1 l.2.2 s.1 s.2.1 s.2.2 o.1 o.2.1 o.2.2.1 o.2.2.2.1 o.2.2.2.2.1 o.2.2.2.2.2 h w.1 w.2.1 w.2.2.1 w.2.2.2.1 w.2.2.2.2.1 w.2.2.2.2.2.1 w.2.2.2.2.2.2 := by
    intro x16' hD
    rw [nI_1]
    exact hJ p k r l s o h w x2 x4 y6 y8 x10 x12 y13 x14 x16' (nI dd) ⟨O, W, H, up2, se2, pe2, S2, rc, ac2, ov2, n, tp, qu, ⟨⟨p, k, r, l, s, o, h, w, rfl, HP, HK, HR, HL, HS, HO, HH, HW⟩, hI, hn24, hW, hrc, hac, hov, hpm, hqu, htp, h13⟩, hD⟩
  rcases hx with ⟨h0, h16⟩ | ⟨h0, dl, h16, hdl, hD, hv, hm⟩
  · refine ⟨fun _ => go x16 ⟨dd, 0, hd, rfl, h16, by omega, fun z => by omega⟩, fun z => absurd h0 z, fun z => absurd h0 z⟩
  · have hm' : ∀ s, 1 ≤ s → s ≤ 24 → lb x10 (s - 1) = true → amf y6 y8 dd s = true := fun s0 a b z => hkeep dd s0 hd hv (hm s0 a b z)
    have e16 : x16 + (-1) = nI dl := by rw [h16, nI_dec]
    have hLD : LD y6 y8 x10 (x16 + (-1)) (nI dd) W up2 := ⟨dd, dl, hd, rfl, e16, by omega, fun _ => ⟨hD, hm'⟩⟩
    refine ⟨fun z => absurd z h0, fun _ _ => go _ hLD, fun _ hz => ⟨25, lw_1419 hI HO HK hrc' hqu hd ?_ hm' (go _ hLD) 24 1 (by omega) (by omega)⟩⟩
    have hdl0 : dl = 0 := by
      rw [e16] at hz
      exact (nI_eq (b := 0) (by omega) (by omega)).mp hz
    subst hdl0
    obtain ⟨w1, w2⟩ := DR_end hD
    have T := hI.2.1 dd hd
    rw [hD.1] at T
    have := TOK_len T (fun e he => by
      have hok := (HO.1 (4 + dd) (by omega)).2.1 e he
      exact ⟨hok.2.2.2.2.1, hok.2.2.2.2.2.1⟩)
    rw [w1, w2] at this
    exact List.eq_nil_of_length_eq_zero (Nat.le_zero.mp this)
end Q36
end
section
section Q37
/-- a turn of a drain -/
theorem lw_t1 {p : TP} {k : TK} {r : TR} {l s : TL} {o : TO} {h : TA} {w : TW} {L : Nat} {xs : Nat → Int32} {post : Int32 → Prop} {J47 : TJ} {x2 x4 x6 x8 x10 x24 x26 : Int64} {x12 x13 x14 x15 x18 x21 x22 x23 : Int32} {kc ks st dd dl : Nat}
    {O W : Nat → List N5} {H : Nat → Nat → Bool} {up se pe : Nat → Bool} {S : Nat → List (Int32 × Nat)} {rc : Nat → Nat → Nat} {ac ov : Nat → Nat} {n : Nat} {tp : Nat → Int32} {qu : Nat → Nat}
    (C : LC x2 x4 x6 x8 x12 x13 x14 st (XS p k r l s o h w) O W H up se pe S rc ac ov n tp qu) (hst : 8 * (st + 1) < 2 ^ 30) (hd : dd < 4) (hdl : dl + 1 ≤ 200) (hD : DR W up dd (dl + 1)) (hm : ∀ s, 1 ≤ s → s ≤ 24 → lb x10 (s - 1) = true → amf x6 x8 dd s = true) (hE : ELG se pe S x24) (hop : ∀ d, d < 4 → opv x26 d = ov d % 2 ^ 16) (hJ : JOK J47 x15 (st + 1)) :
    wL_law_366 post L xs J47 x2 x4 x6 x8 x10 x12 x13 x14 x15 (nI (dl + 1)) (nI dd) x18 (nI st) 1 x21 x22 x23 kc ks p.1 r.1 p.2.1 p.2.2.1 p.2.2.2.1 p.2.2.2.2 k.1 k.2.1 k.2.2.1 k.2.2.2 r.2.1 r.2.2 l.1 l.2.1 l.2.2 s.1 s.2.1 s.2.2 o.1 o.2.1 o.2.2.1 o.2.2.2.1 o.2.2.2.2.1 o.2.2.2.2.2 h w.1 w.2.1 w.2.2.1 w.2.2.2.1 w.2.2.2.2.1 w.2.2.2.2.2.1 w.2.2.2.2.2.2 1 x24 x26 4 := by
  obtain ⟨P, I, hn24, hW, hrc, hac, hov, hpm, hqu, htp, hacc⟩ := C
  have e1 : (200 : Int32) - nI (dl + 1) = nI (200 - (dl + 1)) := pk_sub (a := 200) (b := dl + 1) hdl
  have e2 : nI (200 - (dl + 1)) - nI (200 - (dl + 1)) / 2 * 2 = nI ((200 - (dl + 1)) % 2) := pk_rem (a := 200 - (dl + 1)) (d := 2) (by omega) (by omega) (by omega)
  have hD12 := hD.2.1
  refine br_t (by decide) (br_f (by decide) ⟨by decide, ?_⟩)
  rw [e1, e2]
  by_cases hp : (dl + 1) % 2 = 0
  · obtain ⟨u', O2, W2, H2, rc2, R, P', I', M, hr2, hX⟩ := ql_tc P I hd (by omega)
    obtain ⟨p2, k2, r2, l2, s2, o2, h2, w2, rfl, HP, HK, HR, HL, HS, HO, HH, HW⟩ := P'
    have D2 := DR_c hd hD hp M
    have D12 := D2.2.1
    refine br_t (by rw [show (200 - (dl + 1)) % 2 = 0 by omega]; rfl) (hX _ ?_)
    refine lw_call HP HK HR HL HS HO HH HW I' hn24 hst (fun x hx => ?_) (fun d s' => ?_) (fun s' => ?_) (fun d hd' => ?_) hpm hqu htp hE hop (fun d _ => ⟨Nat.le_refl _, by omega⟩) hacc (fun _ => Nat.le_refl _) (fun s' d _ z1 z2 => by omega) hd (Or.inr ⟨by decide, dl, rfl, hdl, D2, rfl, hm⟩) hJ
    · by_cases a : x = dd
      · subst a; omega
      · by_cases b : x = 4 + dd
        · subst b; omega
        · rw [M.1 x a b]; exact hW x hx
    · have := hr2 d s'
      have := hrc d s'
      omega
    · have := hac s'
      omega
    · have := hov d hd'
      omega
  · have hl : ∀ d, d < 4 → (W (4 + d)).length ≤ 30 := fun d hd' => Nat.le_trans (hW (4 + d) (by omega)) (by omega)
    have hOl : (O (4 + dd)).length < 16 := by
      have T := I.2.1 dd hd
      rw [hD.1] at T
      obtain ⟨_, _, _, _, _, o1, _, _, _, _, _, _, _, _, HO, _, _⟩ := P
      have := TOK_len T (fun e he => by
        have hok := (HO.1 (4 + dd) (by omega)).2.1 e he
        exact ⟨hok.2.2.2.2.1, hok.2.2.2.2.2.1⟩)
      omega
    obtain ⟨u', O2, W2, H2, ac2, ov2, R, P', I', M, A, ha2, hv2, hX⟩ := ql_tb P I hd hl
    obtain ⟨p2, k2, r2, l2, s2, o2, h2, w2, rfl, HP, HK, HR, HL, HS, HO, HH, HW⟩ := P'
    have D2 := DR_b hd hD (by omega) M
    have D12 := D2.2.1
    have D8 := D2.2.2.1
    refine br_f (by rw [show (200 - (dl + 1)) % 2 = 1 by omega]; decide) (hX _ ?_)
    refine lw_call HP HK HR HL HS HO HH HW I' hn24 hst (fun x hx => ?_) (fun d s' => ?_) (fun s' => ?_) (fun d hd' => ?_) hpm hqu htp hE hop (fun d hd' => ⟨(hv2 d hd').1, by have := (hv2 d hd').2.1; omega⟩) hacc (fun s' => (ha2 s').1) (fun s' d hd' z1 z2 z3 z4 z5 z6 => ⟨z5, A s' d hd' z1 z2 z3 z4 z6⟩) hd (Or.inr ⟨by decide, dl, rfl, hdl, D2, (hv2 dd hd).2.2 hOl, hm⟩) hJ
    · by_cases a : x < 4
      · by_cases b : x = dd
        · subst b; omega
        · rw [M.1 x a b]; exact hW x hx
      · obtain ⟨d', rfl⟩ : ∃ d', x = 4 + d' := ⟨x - 4, by omega⟩
        by_cases b : d' = dd
        · subst b; omega
        · have := D8 d' (by omega) b
          omega
    · have := hrc d s'
      omega
    · have := (ha2 s').2
      have := hac s'
      omega
    · have := (hv2 d hd').2.1
      have := hov d hd'
      omega
end Q37
end
section
section Q38
theorem and7 (y : Int32) : ∃ m, m < 8 ∧ y &&& 7 = nI m := by
  obtain ⟨n, hn, rfl⟩ := wb_of32 y
  refine ⟨n % 2 ^ 3, Nat.mod_lt _ (by decide), Int32.toBitVec_inj.mp (BitVec.eq_of_toNat_eq ?_)⟩
  show (BitVec.ofNat 32 n &&& BitVec.ofNat 32 7).toNat = (BitVec.ofNat 32 (n % 2 ^ 3)).toNat
  rw [BitVec.toNat_and, BitVec.toNat_ofNat, BitVec.toNat_ofNat, BitVec.toNat_ofNat, Nat.mod_eq_of_lt hn, show 7 % 2 ^ 32 = 2 ^ 3 - 1 from rfl, Nat.and_two_pow_sub_one_eq_mod]
  omega
theorem and3 (y : Int32) : ∃ m, m < 4 ∧ y &&& 3 = nI m := by
  obtain ⟨n, hn, rfl⟩ := wb_of32 y
  refine ⟨n % 2 ^ 2, Nat.mod_lt _ (by decide), Int32.toBitVec_inj.mp (BitVec.eq_of_toNat_eq ?_)⟩
  show (BitVec.ofNat 32 n &&& BitVec.ofNat 32 3).toNat = (BitVec.ofNat 32 (n % 2 ^ 2)).toNat
  rw [BitVec.toNat_and, BitVec.toNat_ofNat, BitVec.toNat_ofNat, BitVec.toNat_ofNat, Nat.mod_eq_of_lt hn, show 3 % 2 ^ 32 = 2 ^ 2 - 1 from rfl, Nat.and_two_pow_sub_one_eq_mod]
  omega
/-- connecting -/
theorem lw_882 {p : TP} {k : TK} {r : TR} {l s : TL} {o : TO} {h : TA} {w : TW} {L : Nat} {xs : Nat → Int32} {post : Int32 → Prop} {J47 : TJ} {x2 x4 x6 x8 x10 x24 x26 : Int64} {x12 x13 x14 x15 x18 z0 : Int32} {kc ks st dd c : Nat}
    {O W : Nat → List N5} {H : Nat → Nat → Bool} {up se pe : Nat → Bool} {S : Nat → List (Int32 × Nat)} {rc : Nat → Nat → Nat} {ac ov : Nat → Nat} {n : Nat} {tp : Nat → Int32} {qu : Nat → Nat}
    (C : LC x2 x4 x6 x8 x12 x13 x14 st (XS p k r l s o h w) O W H up se pe S rc ac ov n tp qu) (hst : 8 * (st + 1) < 2 ^ 30) (hd : dd < 4) (hc : c < 4) (hE : ELG se pe S x24) (hop : ∀ d, d < 4 → opv x26 d = ov d % 2 ^ 16) (hJ : JOK J47 x15 (st + 1)) :
    wL_law_882 post L xs J47 x2 x4 x6 x8 x10 x12 x13 x14 x15 0 (nI dd) x18 (nI st) 0 (nI c) x24 x26 z0 kc ks p.1 r.1 p.2.1 p.2.2.1 p.2.2.2.1 p.2.2.2.2 k.1 k.2.1 k.2.2.1 k.2.2.2 r.2.1 r.2.2 l.1 l.2.1 l.2.2 s.1 s.2.1 s.2.2 o.1 o.2.1 o.2.2.1 o.2.2.2.1 o.2.2.2.2.1 o.2.2.2.2.2 h w.1 w.2.1 w.2.2.1 w.2.2.2.1 w.2.2.2.2.1 w.2.2.2.2.2.1 w.2.2.2.2.2.2 := by
  obtain ⟨P, I, hn24, hW, hrc, hac, hov, hpm, hqu, htp, hacc⟩ := C
  have key : ∀ y6 y8 : Int64, PINV O W H up pe S rc ac n qu (amf y6 y8) (bt x14) → (¬ z0 = 0 → ∀ s', amf y6 y8 c s' = false) → ∃ (p2 : TP) (k2 : TK) (r2 : TR) (l2 s2 : TL) (o2 : TO) (h2 : TA) (w2 : TW) (R : Int32), (∃ fu951, wL_law_951 post L xs J47 x2 x4 y6 y8 x10 x12 x13 x14 x15 0 (nI dd) x18 (nI st) 0 x24 x26 kc ks p2.1 r2.1 p2.2.1 p2.2.2.1 p2.2.2.2.1 p2.2.2.2.2 k2.1 k2.2.1 k2.2.2.1 k2.2.2.2 r2.2.1 r2.2.2 l2.1 l2.2.1 l2.2.2 s2.1 s2.2.1 s2.2.2 o2.1 o2.2.1 o2.2.2.1 o2.2.2.2.1 o2.2.2.2.2.1 o2.2.2.2.2.2 h2 w2.1 w2.2.1 w2.2.2.1 w2.2.2.2.1 w2.2.2.2.2.1 w2.2.2.2.2.2.1 w2.2.2.2.2.2.2 fu951 0 0) ∧ ∀ post : Int32 → St1 → Prop, post R (XS p2 k2 r2 l2 s2 o2 h2 w2) → wpX_connect post (XS p k r l s o h w) (nI c) z0 := by
    intro y6 y8 I1 hz
    obtain ⟨u', O2, W2, H2, up2, se2, pe2, S2, R, P', I', M, hX⟩ := ql_conn P I1 hc z0 hz
    obtain ⟨p2, k2, r2, l2, s2, o2, h2, w2, rfl, HP, HK, HR, HL, HS, HO, HH, HW⟩ := P'
    refine ⟨p2, k2, r2, l2, s2, o2, h2, w2, R, lw_call HP HK HR HL HS HO HH HW I' hn24 hst (fun x hx => ?_) (fun d s' => ?_) (fun s' => ?_) (fun d hd' => ?_) hpm hqu htp hE hop (fun d _ => ⟨Nat.le_refl _, by omega⟩) hacc (fun _ => Nat.le_refl _) (fun s' d _ z1 z2 => by omega) hd (Or.inl ⟨rfl, rfl⟩) hJ, hX⟩
    · have := hW x hx
      rcases M x with z | z <;> omega
    · have := hrc d s'
      omega
    · have := hac s'
      omega
    · have := hov d hd'
      omega
  unfold wL_law_882
  by_cases hz : z0 = 0
  · obtain ⟨p2, k2, r2, l2, s2, o2, h2, w2, R, h1, hX⟩ := key x6 x8 I (fun z => absurd hz z)
    exact hX _ (br_t hz h1)
  · by_cases hc2 : c < 2
    · have e : (24 : Int32) * nI c = nI (24 * c) := pk_mul 24 _
      have A : ∀ d' s', d' < 4 → amf (x6 &&& (((16777215 : Int64) <<< ((nI (24 * c)).toInt64 &&& 63)) ^^^ (-1))) x8 d' s' = (amf x6 x8 d' s' && !(decide (d' = c))) := amf_clr hc (fun i hi => by rw [lb_c24 (by omega) (by omega), decide_eq_true hc2, Bool.true_and]) (fun i hi => by rw [decide_eq_false (show ¬ 2 ≤ c by omega), Bool.false_and, Bool.false_and, Bool.not_false, Bool.and_true])
      obtain ⟨p2, k2, r2, l2, s2, o2, h2, w2, R, h1, hX⟩ := key (x6 &&& (((16777215 : Int64) <<< ((nI (24 * c)).toInt64 &&& 63)) ^^^ (-1))) x8 (PINV_am I (fun d s' hd' z => by rw [A d s' hd', Bool.and_eq_true] at z; exact z.1) (fun _ _ z => z)) (fun _ s' => by rw [A c s' hc, decide_eq_true rfl, Bool.not_true, Bool.and_false])
      refine hX _ (br_f hz (br_f (nI_ge (b := 2) hc2 (by omega)) (nm_r (e' := x6 &&& (((16777215 : Int64) <<< ((nI (24 * c)).toInt64 &&& 63)) ^^^ (-1))) (by rw [e]) h1)))
    · have e : (24 : Int32) * (nI c - 2) = nI (24 * (c - 2)) := by
        rw [show nI c - 2 = nI (c - 2) from pk_sub (b := 2) (by omega)]
        exact pk_mul 24 _
      have A : ∀ d' s', d' < 4 → amf x6 (x8 &&& (((16777215 : Int64) <<< ((nI (24 * (c - 2))).toInt64 &&& 63)) ^^^ (-1))) d' s' = (amf x6 x8 d' s' && !(decide (d' = c))) := amf_clr hc (fun i hi => by rw [decide_eq_false hc2, Bool.false_and, Bool.false_and, Bool.not_false, Bool.and_true]) (fun i hi => by rw [lb_c24 (by omega) (by omega), decide_eq_true (show 2 ≤ c by omega), Bool.true_and])
      obtain ⟨p2, k2, r2, l2, s2, o2, h2, w2, R, h1, hX⟩ := key x6 (x8 &&& (((16777215 : Int64) <<< ((nI (24 * (c - 2))).toInt64 &&& 63)) ^^^ (-1))) (PINV_am I (fun d s' hd' z => by rw [A d s' hd', Bool.and_eq_true] at z; exact z.1) (fun _ _ z => z)) (fun _ s' => by rw [A c s' hc, decide_eq_true rfl, Bool.not_true, Bool.and_false])
      refine hX _ (br_f hz (br_t (nI_le (a := 2) (by omega) (by omega)) (nm_r (e' := x8 &&& (((16777215 : Int64) <<< ((nI (24 * (c - 2))).toInt64 &&& 63)) ^^^ (-1))) (by rw [e]) h1)))
end Q38
end
section
section Q39
/-- a turn outside a drain; a publishing one is given -/
theorem lw_t0 {p : TP} {k : TK} {r : TR} {l s : TL} {o : TO} {h : TA} {w : TW} {L : Nat} {xs : Nat → Int32} {post : Int32 → Prop} {J47 : TJ} {x2 x4 x6 x8 x10 x24 x26 : Int64} {x12 x13 x14 x15 x18 x23 : Int32} {kc ks st dd c op : Nat}
    {O W : Nat → List N5} {H : Nat → Nat → Bool} {up se pe : Nat → Bool} {S : Nat → List (Int32 × Nat)} {rc : Nat → Nat → Nat} {ac ov : Nat → Nat} {n : Nat} {tp : Nat → Int32} {qu : Nat → Nat}
    (C : LC x2 x4 x6 x8 x12 x13 x14 st (XS p k r l s o h w) O W H up se pe S rc ac ov n tp qu) (hst : 8 * (st + 1) < 2 ^ 30) (hd : dd < 4) (hc : c < 4) (hop16 : op < 16) (hE : ELG se pe S x24) (hop : ∀ d, d < 4 → opv x26 d = ov d % 2 ^ 16) (hJ : JOK J47 x15 (st + 1))
    (g1 : 6 ≤ op → op ≤ 8 → (W c).length ≤ 24) (g2 : 3 ≤ op → op ≤ 5 → ∀ d, d < 4 → (W (4 + d)).length ≤ 24) (g3 : op = 9 → (W (4 + c)).length ≤ 20)
    (hpub : op ≤ 2 → ∀ (t qn : Nat) (z0 z2 : Int32), t < 8 → qn ≤ 2 → (z0 = 0 ∨ z0 = 4) → x23 &&& 7 = nI t → wL_law_635 post L xs J47 x2 x4 x6 x8 x10 x12 x13 x14 x15 0 (nI dd) x18 (nI st) 0 x23 x24 x26 (nI qn) z0 (nI qn) z2 (tcv t) (nI c) kc ks p.1 r.1 p.2.1 p.2.2.1 p.2.2.2.1 p.2.2.2.2 k.1 k.2.1 k.2.2.1 k.2.2.2 r.2.1 r.2.2 l.1 l.2.1 l.2.2 s.1 s.2.1 s.2.2 o.1 o.2.1 o.2.2.1 o.2.2.2.1 o.2.2.2.2.1 o.2.2.2.2.2 h w.1 w.2.1 w.2.2.1 w.2.2.2.1 w.2.2.2.2.1 w.2.2.2.2.2.1 w.2.2.2.2.2.2) :
    wL_law_366 post L xs J47 x2 x4 x6 x8 x10 x12 x13 x14 x15 0 (nI dd) x18 (nI st) 0 (nI op) (nI c) x23 kc ks p.1 r.1 p.2.1 p.2.2.1 p.2.2.2.1 p.2.2.2.2 k.1 k.2.1 k.2.2.1 k.2.2.2 r.2.1 r.2.2 l.1 l.2.1 l.2.2 s.1 s.2.1 s.2.2 o.1 o.2.1 o.2.2.1 o.2.2.2.1 o.2.2.2.2.1 o.2.2.2.2.2 h w.1 w.2.1 w.2.2.1 w.2.2.2.1 w.2.2.2.2.1 w.2.2.2.2.2.1 w.2.2.2.2.2.2 1 x24 x26 4 := by
  have C0 := C
  obtain ⟨P, I, hn24, hW, hrc, hac, hov, hpm, hqu, htp, hacc⟩ := C
  obtain ⟨t, ht, et⟩ := and7 x23
  have hrc' : ∀ d s', rc d s' ≤ 8 * (st + 1) := fun d s' => by have := hrc d s'; omega
  have hac' : ∀ s', ac s' ≤ 8 * (st + 1) := fun s' => by have := hac s'; omega
  have hov' : ∀ d, d < 4 → ov d ≤ 8 * (st + 1) := fun d hd' => by have := hov d hd'; omega
  refine br_t (by decide) (br_t rfl ?_)
  by_cases h2 : op ≤ 2
  · obtain ⟨m, hm, em⟩ := and3 (x23 >>> ((5 : Int32) &&& 31))
    have e2 : nI m - nI m / 3 * 3 = nI (m % 3) := pk_rem (a := m) (d := 3) (by omega) (by omega) (by omega)
    refine br_f (nI_nlt (a := 2) (by omega) (by omega)) ⟨by decide, nm_r (e' := nI (m % 3)) (by rw [em, e2]) ?_⟩
    rw [et]
    refine pl_tc ht (br_c (fun _ => ?_) fun _ => ?_)
    · exact hpub h2 t (m % 3) 0 _ ht (by omega) (Or.inl rfl) et
    · exact hpub h2 t (m % 3) 4 _ ht (by omega) (Or.inr rfl) et
  · refine br_t (nI_lt (a := 2) (by omega) (by omega)) ?_
    by_cases h5 : op ≤ 5
    · -- an up-packet is taken
      refine br_f (nI_nlt (a := 5) (by omega) (by omega)) ?_
      have hl := g2 (by omega) h5
      obtain ⟨u', O2, W2, H2, ac2, ov2, R, P', I', M, A, ha2, hv2, hX⟩ := ql_tb P I hc (fun d hd' => by have := hl d hd'; omega)
      obtain ⟨p2, k2, r2, l2, s2, o2, h2, w2, rfl, HP, HK, HR, HL, HS, HO, HH, HW⟩ := P'
      refine hX _ (lw_call HP HK HR HL HS HO HH HW I' hn24 hst (fun x hx => ?_) hrc' (fun s' => ?_) (fun d hd' => ?_) hpm hqu htp hE hop (fun d hd' => ⟨(hv2 d hd').1, by have := (hv2 d hd').2.1; omega⟩) hacc (fun s' => (ha2 s').1) (fun s' d hd' z1 z2 z3 z4 z5 z6 => ⟨z5, A s' d hd' z1 z2 z3 z4 z6⟩) hd (Or.inl ⟨rfl, rfl⟩) hJ)
      · by_cases a : x < 4
        · by_cases b : x = c
          · subst b
            have := M.2.1
            have := hW x hx
            omega
          · rw [M.1 x a b]; exact hW x hx
        · obtain ⟨d', rfl⟩ : ∃ d', x = 4 + d' := ⟨x - 4, by omega⟩
          have hl' := hl d' (by omega)
          by_cases b : d' = c
          · subst b
            have := M.2.2.1
            omega
          · have := (M.2.2.2.1 d' (by omega) b).1
            omega
      · have := (ha2 s').2
        have := hac s'
        omega
      · have := (hv2 d hd').2.1
        have := hov d hd'
        omega
    · refine br_t (nI_lt (a := 5) (by omega) (by omega)) ?_
      by_cases h8 : op ≤ 8
      · -- a down-packet is taken
        refine br_f (nI_nlt (a := 8) (by omega) (by omega)) ?_
        have hl := g1 (by omega) h8
        obtain ⟨u', O2, W2, H2, rc2, R, P', I', M, hr2, hX⟩ := ql_tc P I hc (by omega)
        obtain ⟨p2, k2, r2, l2, s2, o2, h2, w2, rfl, HP, HK, HR, HL, HS, HO, HH, HW⟩ := P'
        refine hX _ (lw_call HP HK HR HL HS HO HH HW I' hn24 hst (fun x hx => ?_) (fun d s' => ?_) hac' hov' hpm hqu htp hE hop (fun d _ => ⟨Nat.le_refl _, by omega⟩) hacc (fun _ => Nat.le_refl _) (fun s' d _ z1 z2 => by omega) hd (Or.inl ⟨rfl, rfl⟩) hJ)
        · by_cases a : x = c
          · subst a
            have := M.2.1
            omega
          · by_cases b : x = 4 + c
            · subst b
              have := M.2.2.1
              have := hW (4 + c) hx
              omega
            · rw [M.1 x a b]; exact hW x hx
        · have := hr2 d s'
          have := hrc d s'
          omega
      · refine br_t (nI_lt (a := 8) (by omega) (by omega)) ?_
        by_cases h9 : op = 9
        · -- a subscription
          subst h9
          have hl := g3 rfl
          obtain ⟨q, hq, eq⟩ := and3 (x23 >>> ((3 : Int32) &&& 31))
          refine br_t rfl (nm_r (e' := nI q) eq ?_)
          rw [et]
          refine pl_fc ht ?_
          rcases ql_sub P I hc (fcv t) (nI q) (by omega) with ⟨R, hR, hX⟩ | ⟨u', O2, W2, S2, ov2, qn, N, hQ, hqn, hN, P', hI', hw1, hw2, hv2, hX⟩
          · obtain ⟨p2, k2, r2, l2, s2, o2, h2, w2, eu, HP, HK, HR, HL, HS, HO, HH, HW⟩ := P
            refine hX _ ?_
            rw [eu]
            exact (br_t hR (lw_call HP HK HR HL HS HO HH HW I hn24 hst hW hrc' hac' hov' hpm hqu htp hE hop (fun d _ => ⟨Nat.le_refl _, by omega⟩) hacc (fun _ => Nat.le_refl _) (fun s' d _ z1 z2 => by omega) hd (Or.inl ⟨rfl, rfl⟩) hJ))
          · obtain ⟨p2, k2, r2, l2, s2, o2, h2, w2, rfl, HP, HK, HR, HL, HS, HO, HH, HW⟩ := P'
            have eqn : q = qn := (nI_eq (by omega) (by omega)).mp hQ
            have go : ∀ y14 : Int32, PINV O2 W2 H up pe S2 rc ac n qu (amf x6 x8) (bt y14) → ∃ fu951, wL_law_951 post L xs J47 x2 x4 x6 x8 x10 x12 x13 y14 x15 0 (nI dd) x18 (nI st) 0 x24 x26 kc ks p2.1 r2.1 p2.2.1 p2.2.2.1 p2.2.2.2.1 p2.2.2.2.2 k2.1 k2.2.1 k2.2.2.1 k2.2.2.2 r2.2.1 r2.2.2 l2.1 l2.2.1 l2.2.2 s2.1 s2.2.1 s2.2.2 o2.1 o2.2.1 o2.2.2.1 o2.2.2.2.1 o2.2.2.2.2.1 o2.2.2.2.2.2 h2 w2.1 w2.2.1 w2.2.2.1 w2.2.2.2.1 w2.2.2.2.2.1 w2.2.2.2.2.2.1 w2.2.2.2.2.2.2 fu951 0 0 := by
              intro y14 I'
              refine lw_call HP HK HR HL HS HO HH HW I' hn24 hst (fun x hx => ?_) hrc' hac' (fun d hd' => ?_) hpm hqu htp hE hop (fun d _ => ⟨(hv2 d).1, by have := (hv2 d).2; omega⟩) hacc (fun _ => Nat.le_refl _) (fun s' d _ z1 z2 => by omega) hd (Or.inl ⟨rfl, rfl⟩) hJ
              · by_cases a : x = 4 + c
                · subst a
                  omega
                · rw [hw1 x a]; exact hW x hx
              · have := (hv2 d).2
                have := hov d hd'
                omega
            refine hX _ (br_f (nI_nlt (b := 0) (by omega) (by omega)) (br_c (fun z => go x14 (hI' _ (fun _ _ y => y) (fun _ => ?_))) fun z => nm_e (go _ (hI' _ (fun d hd' y => ?_) (fun y => ?_)))))
            · rw [← eqn]
              exact (nI_eq (b := 2) (by omega) (by omega)).mp z
            · rw [bt_s (by omega) (by omega), Bool.or_eq_false_iff] at y
              exact y.1
            · rw [bt_s (by omega) (by omega), decide_eq_true rfl, Bool.or_true] at y
              exact absurd y (by decide)
        · refine br_f (fun z => h9 ((nI_eq (b := 9) (by omega) (by omega)).mp z)) ?_
          by_cases h10 : op = 10
          · subst h10
            refine br_t rfl ?_
            rw [et]
            refine pl_fc ht ?_
            obtain ⟨u', S2, R, P', I', hX⟩ := ql_uns P I hc (fcv t)
            obtain ⟨p2, k2, r2, l2, s2, o2, h2, w2, rfl, HP, HK, HR, HL, HS, HO, HH, HW⟩ := P'
            exact hX _ (lw_call HP HK HR HL HS HO HH HW I' hn24 hst hW hrc' hac' hov' hpm hqu htp hE hop (fun d _ => ⟨Nat.le_refl _, by omega⟩) hacc (fun _ => Nat.le_refl _) (fun s' d _ z1 z2 => by omega) hd (Or.inl ⟨rfl, rfl⟩) hJ)
          · refine br_f (fun z => h10 ((nI_eq (b := 10) (by omega) (by omega)).mp z)) (br_c (fun _ => ?_) fun _ => ?_)
            · obtain ⟨u', O2, W2, H2, up2, se2, pe2, S2, R, P', I', M, hX⟩ := ql_disc P I hc
              obtain ⟨p2, k2, r2, l2, s2, o2, h2, w2, rfl, HP, HK, HR, HL, HS, HO, HH, HW⟩ := P'
              exact hX _ (lw_call HP HK HR HL HS HO HH HW I' hn24 hst (fun x hx => Nat.le_trans (M x) (hW x hx)) hrc' hac' hov' hpm hqu htp hE hop (fun d _ => ⟨Nat.le_refl _, by omega⟩) hacc (fun _ => Nat.le_refl _) (fun s' d _ z1 z2 => by omega) hd (Or.inl ⟨rfl, rfl⟩) hJ)
            · exact br_c (fun _ => lw_882 C0 hst hd hc hE hop hJ) fun _ => lw_882 C0 hst hd hc hE hop hJ
end Q39
end
section
section Q40
/-- a serial's info is written -/
theorem nfo_set {x2 x4 : Int64} {n v : Nat} (hn : n < 24) (hv : v < 32) :
    (n < 12 → nfo ((x2 &&& (((31 : Int64) <<< ((nI (n % 12 * 5)).toInt64 &&& 63)) ^^^ (-1))) ||| (lN v <<< ((nI (n % 12 * 5)).toInt64 &&& 63))) x4 (n + 1) = v ∧ ∀ s, 1 ≤ s → s ≤ 24 → s ≠ n + 1 → nfo ((x2 &&& (((31 : Int64) <<< ((nI (n % 12 * 5)).toInt64 &&& 63)) ^^^ (-1))) ||| (lN v <<< ((nI (n % 12 * 5)).toInt64 &&& 63))) x4 s = nfo x2 x4 s)
    ∧ (¬ n < 12 → nfo x2 ((x4 &&& (((31 : Int64) <<< ((nI (n % 12 * 5)).toInt64 &&& 63)) ^^^ (-1))) ||| (lN v <<< ((nI (n % 12 * 5)).toInt64 &&& 63))) (n + 1) = v ∧ ∀ s, 1 ≤ s → s ≤ 24 → s ≠ n + 1 → nfo x2 ((x4 &&& (((31 : Int64) <<< ((nI (n % 12 * 5)).toInt64 &&& 63)) ^^^ (-1))) ||| (lN v <<< ((nI (n % 12 * 5)).toInt64 &&& 63))) s = nfo x2 x4 s) := by
  have hf : ∀ a b s, nfo a b s = fld (if s - 1 < 12 then a else b) ((s - 1) % 12 * 5) 5 := fun _ _ _ => rfl
  constructor
  · intro h
    obtain ⟨F1, F2⟩ := fld_set (x := x2) (v := v) (k := n % 12 * 5) (w := 5) (by omega) (by omega) (by omega)
    refine ⟨?_, fun s a b c => ?_⟩
    · rw [hf, if_pos (by omega), show n + 1 - 1 = n by omega]
      exact F1
    · rw [hf, hf]
      by_cases g : s - 1 < 12
      · rw [if_pos g, if_pos g]
        exact F2 _ 5 (by omega) (by omega)
      · rw [if_neg g, if_neg g]
  · intro h
    obtain ⟨F1, F2⟩ := fld_set (x := x4) (v := v) (k := n % 12 * 5) (w := 5) (by omega) (by omega) (by omega)
    refine ⟨?_, fun s a b c => ?_⟩
    · rw [hf, if_neg (by omega), show n + 1 - 1 = n by omega]
      exact F1
    · rw [hf, hf]
      by_cases g : s - 1 < 12
      · rw [if_pos g, if_pos g]
      · rw [if_neg g, if_neg g]
        exact F2 _ 5 (by omega) (by omega)
theorem pb_i : ∀ t, t < 8 → ∀ q, q < 3 → (nI t ||| (nI q <<< ((3 : Int32) &&& 31))).toInt64 = lN (t + 8 * q) := by decide
theorem pb_f : ∀ q, q < 3 → (nI q ||| 0) &&& 3 = nI q ∧ (nI q ||| 4) &&& 3 = nI q := by decide
theorem lw_635 {p : TP} {k : TK} {r : TR} {l s : TL} {o : TO} {h : TA} {w : TW} {L : Nat} {xs : Nat → Int32} {post : Int32 → Prop} {J47 : TJ} {x2 x4 x6 x8 x10 x24 x26 : Int64} {x12 x13 x14 x15 x18 x23 z0 z2 : Int32} {kc ks st dd c t qn : Nat}
    {O W : Nat → List N5} {H : Nat → Nat → Bool} {up se pe : Nat → Bool} {S : Nat → List (Int32 × Nat)} {rc : Nat → Nat → Nat} {ac ov : Nat → Nat} {n : Nat} {tp : Nat → Int32} {qu : Nat → Nat}
    (C : LC x2 x4 x6 x8 x12 x13 x14 st (XS p k r l s o h w) O W H up se pe S rc ac ov n tp qu) (hst : 8 * (st + 1) < 2 ^ 30) (hd : dd < 4) (hc : c < 4) (hE : ELG se pe S x24) (hop : ∀ d, d < 4 → opv x26 d = ov d % 2 ^ 16) (hJ : JOK J47 x15 (st + 1)) (hg : (W c).length ≤ 24) (ht : t < 8) (hqn : qn ≤ 2) (hz : z0 = 0 ∨ z0 = 4) (et : x23 &&& 7 = nI t) :
    wL_law_635 post L xs J47 x2 x4 x6 x8 x10 x12 x13 x14 x15 0 (nI dd) x18 (nI st) 0 x23 x24 x26 (nI qn) z0 (nI qn) z2 (tcv t) (nI c) kc ks p.1 r.1 p.2.1 p.2.2.1 p.2.2.2.1 p.2.2.2.2 k.1 k.2.1 k.2.2.1 k.2.2.2 r.2.1 r.2.2 l.1 l.2.1 l.2.2 s.1 s.2.1 s.2.2 o.1 o.2.1 o.2.2.1 o.2.2.2.1 o.2.2.2.2.1 o.2.2.2.2.2 h w.1 w.2.1 w.2.2.1 w.2.2.2.1 w.2.2.2.2.1 w.2.2.2.2.2.1 w.2.2.2.2.2.2 := by
  obtain ⟨P, I, hn24, hW, hrc, hac, hov, hpm, hqu, htp, hacc⟩ := C
  have hrc' : ∀ d s', rc d s' ≤ 8 * (st + 1) := fun d s' => by have := hrc d s'; omega
  have hac' : ∀ s', ac s' ≤ 8 * (st + 1) := fun s' => by have := hac s'; omega
  have hov' : ∀ d, d < 4 → ov d ≤ 8 * (st + 1) := fun d hd' => by have := hov d hd'; omega
  have hF : (nI qn ||| z0) &&& 3 = nI qn := by
    rcases hz with rfl | rfl
    · exact (pb_f qn (by omega)).1
    · exact (pb_f qn (by omega)).2
  unfold wL_law_635
  rcases ql_pub P I hc (T := tcv t) (Y := z2) hF hqn (by omega) with ⟨R, hR, hX⟩ | ⟨hn, u', O2, W2, P', I', hw1, hw2, hX⟩
  · obtain ⟨p2, k2, r2, l2, s2, o2, h2, w2, eu, HP, HK, HR, HL, HS, HO, HH, HW⟩ := P
    refine hX _ ?_
    rw [eu]
    exact (br_t (Int32.lt_trans hR (by decide)) (lw_call HP HK HR HL HS HO HH HW I hn24 hst hW hrc' hac' hov' hpm hqu htp hE hop (fun d _ => ⟨Nat.le_refl _, by omega⟩) hacc (fun _ => Nat.le_refl _) (fun s' d _ z1 z2 => by omega) hd (Or.inl ⟨rfl, rfl⟩) hJ))
  · obtain ⟨p2, k2, r2, l2, s2, o2, h2, w2, rfl, HP, HK, HR, HL, HS, HO, HH, HW⟩ := P'
    have e1 : nI (n + 1) - 1 = nI n := pk_sub (a := n + 1) (b := 1) (by omega)
    have e2 : nI n - nI n / 12 * 12 = nI (n % 12) := pk_rem (a := n) (d := 12) (by omega) (by omega) (by omega)
    have e3 : nI (n % 12) * 5 = nI (n % 12 * 5) := pk_mul _ 5
    have go : ∀ y2 y4 : Int64, (nfo y2 y4 (n + 1) = t + 8 * qn ∧ ∀ s, 1 ≤ s → s ≤ 24 → s ≠ n + 1 → nfo y2 y4 s = nfo x2 x4 s) → wL_law_728 post L xs J47 y2 y4 x6 x8 x10 x12 x13 x14 x15 0 (nI dd) x18 (nI st) 0 x24 x26 (nI (n + 1)) kc ks p2.1 r2.1 p2.2.1 p2.2.2.1 p2.2.2.2.1 p2.2.2.2.2 k2.1 k2.2.1 k2.2.2.1 k2.2.2.2 r2.2.1 r2.2.2 l2.1 l2.2.1 l2.2.2 s2.1 s2.2.1 s2.2.2 o2.1 o2.2.1 o2.2.2.1 o2.2.2.2.1 o2.2.2.2.2.1 o2.2.2.2.2.2 h2 w2.1 w2.2.1 w2.2.2.1 w2.2.2.2.1 w2.2.2.2.2.1 w2.2.2.2.2.2.1 w2.2.2.2.2.2.2 := by
      intro y2 y4 hy
      unfold wL_law_728
      refine nm_r (e' := x12 ||| ((1 : Int32) <<< (nI n &&& 31))) (by rw [e1]) (lw_call HP HK HR HL HS HO HH HW I' (by omega) hst (fun x hx => ?_) hrc' hac' hov' (fun s' a b => ?_) (fun s' a b => ?_) (fun s' a b => ?_) hE hop (fun d _ => ⟨Nat.le_refl _, by omega⟩) hacc (fun _ => Nat.le_refl _) (fun s' d _ z1 z2 => by omega) hd (Or.inl ⟨rfl, rfl⟩) hJ)
      · by_cases g : x = c
        · subst g; omega
        · rw [hw1 x g]; exact hW x hx
      · rw [bt_s (by omega) (by omega), hpm s' a b]
        by_cases g : s' ≤ n
        · rw [decide_eq_true g, decide_eq_true (show s' ≤ n + 1 by omega), Bool.true_or]
        · rw [decide_eq_false g, Bool.false_or]
          by_cases g2 : s' - 1 = n
          · rw [decide_eq_true g2, decide_eq_true (by omega)]
          · rw [decide_eq_false g2, decide_eq_false (by omega)]
      · by_cases g : s' = n + 1
        · subst g
          rw [fu_s, hy.1]
          omega
        · rw [fu_n g, hy.2 s' a (by omega) g]
          exact hqu s' a (by omega)
      · by_cases g : s' = n + 1
        · subst g
          rw [fu_s, hy.1, show (t + 8 * qn) % 8 = t by omega]
        · rw [fu_n g, hy.2 s' a (by omega) g]
          exact htp s' a (by omega)
    obtain ⟨N1, N2⟩ := nfo_set (x2 := x2) (x4 := x4) (n := n) (v := t + 8 * qn) hn (by omega)
    refine hX _ (br_f (nI_nlt (b := 1) (by omega) (by omega)) (br_f (nI_nlt (a := 24) (by omega) (by omega)) ⟨by decide, nm_r (e' := nI (n % 12 * 5)) (by rw [e1, e2, e3]) (nm_r (e' := lN (t + 8 * qn)) (by rw [et]; exact pb_i t ht qn (by omega)) ?_)⟩))
    by_cases h12 : n < 12
    · exact br_f (nI_nlt (a := 12) (by omega) (by omega)) (nm_e (go _ _ (N1 h12)))
    · exact br_t (nI_lt (a := 12) (by omega) (by omega)) (nm_e (go _ _ (N2 h12)))
end Q40
end
section
section Q41
theorem PIC_c {p : TP} {k : TK} {r : TR} {l s : TL} {o : TO} {h : TA} {w : TW} {O W : Nat → List N5} {H : Nat → Nat → Bool} {up se pe : Nat → Bool} {S : Nat → List (Int32 × Nat)} {rc : Nat → Nat → Nat} {ac ov : Nat → Nat} {n : Nat} {tp : Nat → Int32} {qu : Nat → Nat} (P : PIC (XS p k r l s o h w) O W H up se pe S rc ac ov n tp qu) : pc_P p n tp qu ∧ pc_K k rc ac ov ∧ pc_R r ∧ pc_L l up se pe ∧ pc_S s S ∧ pc_O o O ∧ pc_H h H ∧ pc_W w W := by
  obtain ⟨p2, k2, r2, l2, s2, o2, h2, w2, e, H1⟩ := P
  obtain ⟨_, _, _, _, _⟩ := p
  obtain ⟨_, _, _, _⟩ := k
  obtain ⟨_, _, _⟩ := r
  obtain ⟨_, _, _⟩ := l
  obtain ⟨_, _, _⟩ := s
  obtain ⟨_, _, _, _, _, _⟩ := o
  obtain ⟨_, _, _, _, _, _, _⟩ := w
  obtain ⟨_, _, _, _, _⟩ := p2
  obtain ⟨_, _, _, _⟩ := k2
  obtain ⟨_, _, _⟩ := r2
  obtain ⟨_, _, _⟩ := l2
  obtain ⟨_, _, _⟩ := s2
  obtain ⟨_, _, _, _, _, _⟩ := o2
  obtain ⟨_, _, _, _, _, _, _⟩ := w2
  simp only [XS, Prod.mk.injEq] at e
  obtain ⟨rfl, rfl, rfl, rfl, rfl, rfl, rfl, rfl, rfl, rfl, rfl, rfl, rfl, rfl, rfl, rfl, rfl, rfl, rfl, rfl, rfl, rfl, rfl, rfl, rfl, rfl, rfl, rfl, rfl, rfl, rfl, rfl⟩ := e
  exact H1
theorem ELG_0 {se pe : Nat → Bool} {S : Nat → List (Int32 × Nat)} : ELG se pe S 0 := by
  intro d t _ _ h
  have : elg 0 d t = 0 := by
    unfold elg
    rw [show (0 : Int64).toBitVec.toNat = 0 from rfl, Nat.zero_div]
  omega
theorem opv_0 (d : Nat) : opv 0 d = 0 := by
  unfold opv
  rw [show (0 : Int64).toBitVec.toNat = 0 from rfl, Nat.zero_div]
/-- nothing is done in this turn -/
theorem LC_st {x2 x4 x6 x8 : Int64} {x12 x13 x14 : Int32} {st : Nat} {u : St1} {O W : Nat → List N5} {H : Nat → Nat → Bool} {up se pe : Nat → Bool} {S : Nat → List (Int32 × Nat)} {rc : Nat → Nat → Nat} {ac ov : Nat → Nat} {n : Nat} {tp : Nat → Int32} {qu : Nat → Nat} (C : LC x2 x4 x6 x8 x12 x13 x14 st u O W H up se pe S rc ac ov n tp qu) : LC x2 x4 x6 x8 x12 x13 x14 (st + 1) u O W H up se pe S rc ac ov n tp qu := by
  obtain ⟨P, I, hn24, hW, hrc, hac, hov, hpm, hqu, htp, hacc⟩ := C
  exact ⟨P, I, hn24, hW, fun d s => by have := hrc d s; omega, fun s => by have := hac s; omega, fun d hd => by have := hov d hd; omega, hpm, hqu, htp, hacc⟩
/-- a turn outside a drain, from its eligibility on -/
theorem lw_e0 {p : TP} {k : TK} {r : TR} {l s : TL} {o : TO} {h : TA} {w : TW} {L : Nat} {xs : Nat → Int32} {post : Int32 → Prop} {J47 : TJ} {x2 x4 x6 x8 x10 : Int64} {x12 x13 x14 x15 x18 x23 : Int32} {kc ks st dd c op : Nat}
    {O W : Nat → List N5} {H : Nat → Nat → Bool} {up se pe : Nat → Bool} {S : Nat → List (Int32 × Nat)} {rc : Nat → Nat → Nat} {ac ov : Nat → Nat} {n : Nat} {tp : Nat → Int32} {qu : Nat → Nat}
    (C : LC x2 x4 x6 x8 x12 x13 x14 st (XS p k r l s o h w) O W H up se pe S rc ac ov n tp qu) (hst : 8 * (st + 1) < 2 ^ 30) (hd : dd < 4) (hc : c < 4) (hop16 : op < 16) (hJ : JOK J47 x15 (st + 1))
    (g1 : op ≤ 2 ∨ (6 ≤ op ∧ op ≤ 8) → (W c).length ≤ 24) (g2 : 3 ≤ op → op ≤ 5 → ∀ d, d < 4 → (W (4 + d)).length ≤ 24) (g3 : op = 9 → (W (4 + c)).length ≤ 20) :
    ∃ fu366, wL_law_366 post L xs J47 x2 x4 x6 x8 x10 x12 x13 x14 x15 0 (nI dd) x18 (nI st) 0 (nI op) (nI c) x23 kc ks p.1 r.1 p.2.1 p.2.2.1 p.2.2.2.1 p.2.2.2.2 k.1 k.2.1 k.2.2.1 k.2.2.2 r.2.1 r.2.2 l.1 l.2.1 l.2.2 s.1 s.2.1 s.2.2 o.1 o.2.1 o.2.2.1 o.2.2.2.1 o.2.2.2.2.1 o.2.2.2.2.2 h w.1 w.2.1 w.2.2.1 w.2.2.2.1 w.2.2.2.2.1 w.2.2.2.2.2.1 w.2.2.2.2.2.2 fu366 0 0 0 := by
  obtain ⟨HP, HK, HR, HL, HS, HO, HH, HW⟩ := PIC_c C.1
  have hov : ∀ d, d < 4 → ov d < 2 ^ 30 := fun d hd' => by have := C.2.2.2.2.2.2.1 d hd'; omega
  exact ⟨5, lw_366 HK HL HS hov (fun x24 x26 hE hop => lw_t0 C hst hd hc hop16 hE hop hJ (fun a b => g1 (Or.inr ⟨a, b⟩)) g2 g3 (fun h2 t qn z0 z2 ht hqn hz et => lw_635 C hst hd hc hE hop hJ (g1 (Or.inl h2)) ht hqn hz et)) 4 0 0 0 (by omega) ELG_0 (fun d' _ => by rw [opv_0, if_neg (by omega)])⟩
/-- a turn of a drain, from its eligibility on -/
theorem lw_e1 {p : TP} {k : TK} {r : TR} {l s : TL} {o : TO} {h : TA} {w : TW} {L : Nat} {xs : Nat → Int32} {post : Int32 → Prop} {J47 : TJ} {x2 x4 x6 x8 x10 : Int64} {x12 x13 x14 x15 x18 x21 x22 x23 : Int32} {kc ks st dd dl : Nat}
    {O W : Nat → List N5} {H : Nat → Nat → Bool} {up se pe : Nat → Bool} {S : Nat → List (Int32 × Nat)} {rc : Nat → Nat → Nat} {ac ov : Nat → Nat} {n : Nat} {tp : Nat → Int32} {qu : Nat → Nat}
    (C : LC x2 x4 x6 x8 x12 x13 x14 st (XS p k r l s o h w) O W H up se pe S rc ac ov n tp qu) (hst : 8 * (st + 1) < 2 ^ 30) (hd : dd < 4) (hdl : dl + 1 ≤ 200) (hD : DR W up dd (dl + 1)) (hm : ∀ s, 1 ≤ s → s ≤ 24 → lb x10 (s - 1) = true → amf x6 x8 dd s = true) (hJ : JOK J47 x15 (st + 1)) :
    ∃ fu366, wL_law_366 post L xs J47 x2 x4 x6 x8 x10 x12 x13 x14 x15 (nI (dl + 1)) (nI dd) x18 (nI st) 1 x21 x22 x23 kc ks p.1 r.1 p.2.1 p.2.2.1 p.2.2.2.1 p.2.2.2.2 k.1 k.2.1 k.2.2.1 k.2.2.2 r.2.1 r.2.2 l.1 l.2.1 l.2.2 s.1 s.2.1 s.2.2 o.1 o.2.1 o.2.2.1 o.2.2.2.1 o.2.2.2.2.1 o.2.2.2.2.2 h w.1 w.2.1 w.2.2.1 w.2.2.2.1 w.2.2.2.2.1 w.2.2.2.2.2.1 w.2.2.2.2.2.2 fu366 0 0 0 := by
  obtain ⟨HP, HK, HR, HL, HS, HO, HH, HW⟩ := PIC_c C.1
  have hov : ∀ d, d < 4 → ov d < 2 ^ 30 := fun d hd' => by have := C.2.2.2.2.2.2.1 d hd'; omega
  exact ⟨5, lw_366 HK HL HS hov (fun x24 x26 hE hop => lw_t1 C hst hd hdl hD hm hE hop hJ) 4 0 0 0 (by omega) ELG_0 (fun d' _ => by rw [opv_0, if_neg (by omega)])⟩
end Q41
end
section
section Q42
theorem lw_152 {p : TP} {k : TK} {r : TR} {l s : TL} {o : TO} {h : TA} {w : TW} {L : Nat} {xs : Nat → Int32} {post : Int32 → Prop} {J47 : TJ} {x2 x4 x6 x8 x10 : Int64} {x12 x13 x14 x15 x18 x23 : Int32} {kc ks st dd c op : Nat}
    {O W : Nat → List N5} {H : Nat → Nat → Bool} {up se pe : Nat → Bool} {S : Nat → List (Int32 × Nat)} {rc : Nat → Nat → Nat} {ac ov : Nat → Nat} {n : Nat} {tp : Nat → Int32} {qu : Nat → Nat}
    (C : LC x2 x4 x6 x8 x12 x13 x14 st (XS p k r l s o h w) O W H up se pe S rc ac ov n tp qu) (hst : 8 * (st + 1) < 2 ^ 30) (hd : dd < 4) (hc : c < 4) (hJ : JOK J47 x15 (st + 1)) (ho : op ≤ 2 ∨ (6 ≤ op ∧ op ≤ 8)) :
    wL_law_152 post L xs J47 x2 x4 x6 x8 x10 x12 x13 x14 x15 0 (nI dd) x18 (nI st) 0 (nI op) (nI c) x23 kc ks p.1 r.1 p.2.1 p.2.2.1 p.2.2.2.1 p.2.2.2.2 k.1 k.2.1 k.2.2.1 k.2.2.2 r.2.1 r.2.2 l.1 l.2.1 l.2.2 s.1 s.2.1 s.2.2 o.1 o.2.1 o.2.2.1 o.2.2.2.1 o.2.2.2.2.1 o.2.2.2.2.2 h w.1 w.2.1 w.2.2.1 w.2.2.2.1 w.2.2.2.2.1 w.2.2.2.2.2.1 w.2.2.2.2.2.2 := by
  obtain ⟨HP, HK, HR, HL, HS, HO, HH, HW⟩ := PIC_c C.1
  have hl := C.2.2.2.1 c (by omega)
  unfold wL_law_152
  refine pq_up HW hc ?_
  by_cases g : (W c).length ≤ 24
  · exact br_t (nI_le (b := 24) g (by omega)) (lw_e0 C hst hd hc (by omega) hJ (fun _ => g) (fun a b => by omega) (fun a => by omega))
  · refine br_f (nI_ge (a := 24) (by omega) (by omega)) (nm_r (nI_1 _) (hJ p k r l s o h w x2 x4 x6 x8 x10 x12 x13 x14 0 (nI dd) ⟨O, W, H, up, se, pe, S, rc, ac, ov, n, tp, qu, LC_st C, dd, 0, hd, rfl, rfl, by omega, fun z => by omega⟩))
theorem lw_179 {p : TP} {k : TK} {r : TR} {l s : TL} {o : TO} {h : TA} {w : TW} {L : Nat} {xs : Nat → Int32} {post : Int32 → Prop} {J47 : TJ} {x2 x4 x6 x8 x10 : Int64} {x12 x13 x14 x15 x18 x23 : Int32} {kc ks st dd c op : Nat}
    {O W : Nat → List N5} {H : Nat → Nat → Bool} {up se pe : Nat → Bool} {S : Nat → List (Int32 × Nat)} {rc : Nat → Nat → Nat} {ac ov : Nat → Nat} {n : Nat} {tp : Nat → Int32} {qu : Nat → Nat}
    (C : LC x2 x4 x6 x8 x12 x13 x14 st (XS p k r l s o h w) O W H up se pe S rc ac ov n tp qu) (hst : 8 * (st + 1) < 2 ^ 30) (hd : dd < 4) (hc : c < 4) (hJ : JOK J47 x15 (st + 1)) (ho : 3 ≤ op ∧ op ≤ 5) :
    ∀ f d (x24 : Int32), d + f = 4 → (x24 = 0 → ∀ d', d' < d → (W (4 + d')).length ≤ 24) → wL_law_179 post L xs J47 x2 x4 x6 x8 x10 x12 x13 x14 x15 0 (nI dd) x18 (nI st) 0 (nI op) (nI c) x23 kc ks p.1 r.1 p.2.1 p.2.2.1 p.2.2.2.1 p.2.2.2.2 k.1 k.2.1 k.2.2.1 k.2.2.2 r.2.1 r.2.2 l.1 l.2.1 l.2.2 s.1 s.2.1 s.2.2 o.1 o.2.1 o.2.2.1 o.2.2.2.1 o.2.2.2.2.1 o.2.2.2.2.2 h w.1 w.2.1 w.2.2.1 w.2.2.2.1 w.2.2.2.2.1 w.2.2.2.2.2.1 w.2.2.2.2.2.2 (f + 1) x24 (nI d) := by
  obtain ⟨HP, HK, HR, HL, HS, HO, HH, HW⟩ := PIC_c C.1
  intro f
  induction f with
  | zero =>
    intro d x24 hf hg
    obtain rfl : d = 4 := by omega
    refine br_t (by decide) (br_c (fun z => lw_e0 C hst hd hc (by omega) hJ (fun a => by omega) (fun _ _ d' hd' => hg z d' hd') (fun a => by omega)) fun _ => nm_r (nI_1 _) (hJ p k r l s o h w x2 x4 x6 x8 x10 x12 x13 x14 0 (nI dd) ⟨O, W, H, up, se, pe, S, rc, ac, ov, n, tp, qu, LC_st C, dd, 0, hd, rfl, rfl, by omega, fun z => by omega⟩))
  | succ f ih =>
    intro d x24 hf hg
    have hd4 : d < 4 := by omega
    have hl := C.2.2.2.1 (4 + d) (by omega)
    refine br_f (nI_ge (b := 4) hd4 (by omega)) (pq_down HW hd4 ?_)
    by_cases g : (W (4 + d)).length ≤ 24
    · refine br_t (nI_le (b := 24) g (by omega)) (nm_r (nI_1 _) (ih (d + 1) x24 (by omega) (fun z d' hd' => ?_)))
      by_cases e : d' = d
      · subst e; exact g
      · exact hg z d' (by omega)
    · exact br_f (nI_ge (a := 24) (by omega) (by omega)) (nm_r (nI_1 _) (ih (d + 1) 1 (by omega) (fun z => absurd z (by decide))))
end Q42
end
section
section Q43
theorem lw_340 {p : TP} {k : TK} {r : TR} {l s : TL} {o : TO} {h : TA} {w : TW} {L : Nat} {xs : Nat → Int32} {post : Int32 → Prop} {J47 : TJ} {x2 x4 x6 x8 z0 : Int64} {x12 x13 x14 x15 x18 : Int32} {kc ks st c : Nat}
    {O W : Nat → List N5} {H : Nat → Nat → Bool} {up se pe : Nat → Bool} {S : Nat → List (Int32 × Nat)} {rc : Nat → Nat → Nat} {ac ov : Nat → Nat} {n : Nat} {tp : Nat → Int32} {qu : Nat → Nat}
    (C : LC x2 x4 x6 x8 x12 x13 x14 st (XS p k r l s o h w) O W H up se pe S rc ac ov n tp qu) (hc : c < 4) (hJ : JOK J47 x15 (st + 1)) (hu : up c = true) (hw : ∀ x, x < 8 → (W x).length ≤ 4) (hz : z0 = if c < 2 then x6 else x8) :
    wL_law_340 post L xs J47 x2 x4 x6 x8 x12 x13 x14 x15 200 (nI c) x18 (nI st) (nI c) z0 kc ks p.1 r.1 p.2.1 p.2.2.1 p.2.2.2.1 p.2.2.2.2 k.1 k.2.1 k.2.2.1 k.2.2.2 r.2.1 r.2.2 l.1 l.2.1 l.2.2 s.1 s.2.1 s.2.2 o.1 o.2.1 o.2.2.1 o.2.2.2.1 o.2.2.2.2.1 o.2.2.2.2.2 h w.1 w.2.1 w.2.2.1 w.2.2.2.1 w.2.2.2.2.1 w.2.2.2.2.2.1 w.2.2.2.2.2.2 := by
  have e1 : nI c &&& 1 = nI (c % 2) := pk_andN (n := c) (by omega) 1 (by decide)
  have e2 : (24 : Int32) * nI (c % 2) = nI (24 * (c % 2)) := pk_mul 24 _
  obtain ⟨r0, hr, er, hb⟩ := fd_r (x := z0) (w := 24) (k := 24 * (c % 2)) (by omega) (by omega) (by omega)
  unfold wL_law_340
  refine nm_r (e' := lN r0) (by rw [e1, e2]; exact er) (nm_r (nI_1 _) (hJ p k r l s o h w x2 x4 x6 x8 (lN r0) x12 x13 x14 200 (nI c) ⟨O, W, H, up, se, pe, S, rc, ac, ov, n, tp, qu, LC_st C, c, 200, hc, rfl, rfl, by omega, fun _ => ⟨DR_start hc hu hw, fun s' a b hs => ?_⟩⟩))
  rw [lb_lN (by omega), hb (s' - 1) (by omega), hz] at hs
  unfold amf
  rw [if_pos ⟨a, b⟩]
  by_cases h2 : c < 2
  · rw [if_pos h2] at hs ⊢
    rw [show 24 * c + s' - 1 = 24 * (c % 2) + (s' - 1) by omega]
    exact hs
  · rw [if_neg h2] at hs ⊢
    rw [show 24 * (c - 2) + s' - 1 = 24 * (c % 2) + (s' - 1) by omega]
    exact hs
theorem lw_273 {p : TP} {k : TK} {r : TR} {l s : TL} {o : TO} {h : TA} {w : TW} {L : Nat} {xs : Nat → Int32} {post : Int32 → Prop} {J47 : TJ} {x2 x4 x6 x8 x10 : Int64} {x12 x13 x14 x15 x18 : Int32} {kc ks st dd c : Nat}
    {O W : Nat → List N5} {H : Nat → Nat → Bool} {up se pe : Nat → Bool} {S : Nat → List (Int32 × Nat)} {rc : Nat → Nat → Nat} {ac ov : Nat → Nat} {n : Nat} {tp : Nat → Int32} {qu : Nat → Nat}
    (C : LC x2 x4 x6 x8 x12 x13 x14 st (XS p k r l s o h w) O W H up se pe S rc ac ov n tp qu) (hd : dd < 4) (hc : c < 4) (hJ : JOK J47 x15 (st + 1)) (hu : up c = true) :
    ∀ f d (x24 : Int32), d + f = 4 → (x24 = 0 → ∀ d', d' < d → (W d').length ≤ 4 ∧ (W (4 + d')).length ≤ 4) → wL_law_273 post L xs J47 x2 x4 x6 x8 x10 x12 x13 x14 x15 0 (nI dd) x18 (nI st) (nI c) kc ks p.1 r.1 p.2.1 p.2.2.1 p.2.2.2.1 p.2.2.2.2 k.1 k.2.1 k.2.2.1 k.2.2.2 r.2.1 r.2.2 l.1 l.2.1 l.2.2 s.1 s.2.1 s.2.2 o.1 o.2.1 o.2.2.1 o.2.2.2.1 o.2.2.2.2.1 o.2.2.2.2.2 h w.1 w.2.1 w.2.2.1 w.2.2.2.1 w.2.2.2.2.1 w.2.2.2.2.2.1 w.2.2.2.2.2.2 (f + 1) x24 (nI d) := by
  obtain ⟨HP, HK, HR, HL, HS, HO, HH, HW⟩ := PIC_c C.1
  intro f
  induction f with
  | zero =>
    intro d x24 hf hg
    obtain rfl : d = 4 := by omega
    refine br_t (by decide) (br_c (fun z => ?_) fun _ => nm_r (nI_1 _) (hJ p k r l s o h w x2 x4 x6 x8 x10 x12 x13 x14 0 (nI dd) ⟨O, W, H, up, se, pe, S, rc, ac, ov, n, tp, qu, LC_st C, dd, 0, hd, rfl, rfl, by omega, fun z => by omega⟩))
    have hw : ∀ x, x < 8 → (W x).length ≤ 4 := by
      intro x hx
      by_cases a : x < 4
      · exact (hg z x a).1
      · have := (hg z (x - 4) (by omega)).2
        rw [show 4 + (x - 4) = x by omega] at this
        exact this
    by_cases h2 : c < 2
    · exact br_f (nI_ge (b := 2) h2 (by omega)) (lw_340 C hc hJ hu hw (if_pos h2).symm)
    · exact br_t (nI_le (a := 2) (by omega) (by omega)) (lw_340 C hc hJ hu hw (if_neg h2).symm)
  | succ f ih =>
    intro d x24 hf hg
    have hd4 : d < 4 := by omega
    have hl := C.2.2.2.1 (4 + d) (by omega)
    have hl2 := C.2.2.2.1 d (by omega)
    have no := ih (d + 1) 1 (by omega) (fun z => absurd z (by decide))
    refine br_f (nI_ge (b := 4) hd4 (by omega)) (pq_up HW hd4 ?_)
    by_cases g : (W d).length ≤ 4
    · refine br_f (nI_nlt (a := 4) (by omega) (by omega)) (pq_down HW hd4 ?_)
      by_cases g2 : (W (4 + d)).length ≤ 4
      · refine br_t (nI_le (b := 4) g2 (by omega)) (nm_r (nI_1 _) (ih (d + 1) x24 (by omega) (fun z d' hd' => ?_)))
        by_cases e : d' = d
        · subst e; exact ⟨g, g2⟩
        · exact hg z d' (by omega)
      · exact br_f (nI_ge (a := 4) (by omega) (by omega)) (nm_r (nI_1 _) no)
    · exact br_t (nI_lt (a := 4) (by omega) (by omega)) (nm_r (nI_1 _) no)
theorem lw_253 {p : TP} {k : TK} {r : TR} {l s : TL} {o : TO} {h : TA} {w : TW} {L : Nat} {xs : Nat → Int32} {post : Int32 → Prop} {J47 : TJ} {x2 x4 x6 x8 x10 : Int64} {x12 x13 x14 x15 x18 : Int32} {kc ks st dd c : Nat}
    {O W : Nat → List N5} {H : Nat → Nat → Bool} {up se pe : Nat → Bool} {S : Nat → List (Int32 × Nat)} {rc : Nat → Nat → Nat} {ac ov : Nat → Nat} {n : Nat} {tp : Nat → Int32} {qu : Nat → Nat}
    (C : LC x2 x4 x6 x8 x12 x13 x14 st (XS p k r l s o h w) O W H up se pe S rc ac ov n tp qu) (hd : dd < 4) (hc : c < 4) (hJ : JOK J47 x15 (st + 1)) :
    wL_law_253 post L xs J47 x2 x4 x6 x8 x10 x12 x13 x14 x15 0 (nI dd) x18 (nI st) (nI c) kc ks p.1 r.1 p.2.1 p.2.2.1 p.2.2.2.1 p.2.2.2.2 k.1 k.2.1 k.2.2.1 k.2.2.2 r.2.1 r.2.2 l.1 l.2.1 l.2.2 s.1 s.2.1 s.2.2 o.1 o.2.1 o.2.2.1 o.2.2.2.1 o.2.2.2.2.1 o.2.2.2.2.2 h w.1 w.2.1 w.2.2.1 w.2.2.2.1 w.2.2.2.2.1 w.2.2.2.2.2.1 w.2.2.2.2.2.2 := by
  obtain ⟨HP, HK, HR, HL, HS, HO, HH, HW⟩ := PIC_c C.1
  have h1 : ∀ a b c : Bool, (nI (stv a b c) &&& 1) = 0 ↔ a = false := by decide
  unfold wL_law_253
  refine pq_status HL hc ?_
  cases hu : up c with
  | false => exact br_t ((h1 _ _ _).mpr rfl) (nm_r (nI_1 _) (hJ p k r l s o h w x2 x4 x6 x8 x10 x12 x13 x14 0 (nI dd) ⟨O, W, H, up, se, pe, S, rc, ac, ov, n, tp, qu, LC_st C, dd, 0, hd, rfl, rfl, by omega, fun z => by omega⟩))
  | true => exact br_f (fun z => by have := (h1 _ _ _).mp z; exact absurd this (by decide)) ⟨5, lw_273 C hd hc hJ hu 4 0 0 (by omega) (fun _ d' z => by omega)⟩
end Q43
end
section
section Q44
theorem and15 (y : Int32) : ∃ m, m < 16 ∧ y &&& 15 = nI m := by
  obtain ⟨n, hn, rfl⟩ := wb_of32 y
  refine ⟨n % 2 ^ 4, Nat.mod_lt _ (by decide), Int32.toBitVec_inj.mp (BitVec.eq_of_toNat_eq ?_)⟩
  show (BitVec.ofNat 32 n &&& BitVec.ofNat 32 15).toNat = (BitVec.ofNat 32 (n % 2 ^ 4)).toNat
  rw [BitVec.toNat_and, BitVec.toNat_ofNat, BitVec.toNat_ofNat, BitVec.toNat_ofNat, Nat.mod_eq_of_lt hn, show 15 % 2 ^ 32 = 2 ^ 4 - 1 from rfl, Nat.and_two_pow_sub_one_eq_mod]
  omega
theorem pl_cell {L : Nat} {xs : Nat → Int32} {u : St2} {q : Nat} (hq : q < 2 ^ 30) (hL : L < 2 ^ 30) : ∃ v : Int32, ∀ post : Int32 → Prop, post v → wpL_cell post L xs u (nI q) := by
  by_cases h : L ≤ q
  · exact ⟨0, fun post hp => br_t (nI_le (a := L) h (by omega)) hp⟩
  · exact ⟨xs (nI q).toNatClampNeg, fun post hp => br_f (nI_ge (b := L) (by omega) (by omega)) ⟨vp_in_nI (by omega) (by omega), hp⟩⟩
theorem lw_167 {p : TP} {k : TK} {r : TR} {l s : TL} {o : TO} {h : TA} {w : TW} {L : Nat} {xs : Nat → Int32} {post : Int32 → Prop} {J47 : TJ} {x2 x4 x6 x8 x10 : Int64} {x12 x13 x14 x15 x18 x23 : Int32} {kc ks st dd c op : Nat}
    {O W : Nat → List N5} {H : Nat → Nat → Bool} {up se pe : Nat → Bool} {S : Nat → List (Int32 × Nat)} {rc : Nat → Nat → Nat} {ac ov : Nat → Nat} {n : Nat} {tp : Nat → Int32} {qu : Nat → Nat}
    (C : LC x2 x4 x6 x8 x12 x13 x14 st (XS p k r l s o h w) O W H up se pe S rc ac ov n tp qu) (hst : 8 * (st + 1) < 2 ^ 30) (hd : dd < 4) (hc : c < 4) (hJ : JOK J47 x15 (st + 1)) (ho : (3 ≤ op ∧ op ≤ 5) ∨ (9 ≤ op ∧ op < 16)) :
    wL_law_167 post L xs J47 x2 x4 x6 x8 x10 x12 x13 x14 x15 0 (nI dd) x18 (nI st) 0 (nI op) (nI c) x23 kc ks p.1 r.1 p.2.1 p.2.2.1 p.2.2.2.1 p.2.2.2.2 k.1 k.2.1 k.2.2.1 k.2.2.2 r.2.1 r.2.2 l.1 l.2.1 l.2.2 s.1 s.2.1 s.2.2 o.1 o.2.1 o.2.2.1 o.2.2.2.1 o.2.2.2.2.1 o.2.2.2.2.2 h w.1 w.2.1 w.2.2.1 w.2.2.2.1 w.2.2.2.2.1 w.2.2.2.2.2.1 w.2.2.2.2.2.2 := by
  obtain ⟨HP, HK, HR, HL, HS, HO, HH, HW⟩ := PIC_c C.1
  unfold wL_law_167
  by_cases h5 : op ≤ 5
  · exact br_f (nI_nlt (a := 5) (by omega) (by omega)) ⟨5, lw_179 C hst hd hc hJ (by omega) 4 0 0 (by omega) (fun _ d' z => by omega)⟩
  · refine br_t (nI_lt (a := 5) (by omega) (by omega)) ?_
    by_cases h9 : op = 9
    · subst h9
      have hl := C.2.2.2.1 (4 + c) (by omega)
      refine br_t rfl (pq_down HW hc ?_)
      by_cases g : (W (4 + c)).length ≤ 20
      · exact br_t (nI_le (b := 20) g (by omega)) (lw_e0 C hst hd hc (by omega) hJ (fun a => by omega) (fun a b => by omega) (fun _ => g))
      · exact br_f (nI_ge (a := 20) (by omega) (by omega)) (nm_r (nI_1 _) (hJ p k r l s o h w x2 x4 x6 x8 x10 x12 x13 x14 0 (nI dd) ⟨O, W, H, up, se, pe, S, rc, ac, ov, n, tp, qu, LC_st C, dd, 0, hd, rfl, rfl, by omega, fun z => by omega⟩))
    · exact br_f (fun z => h9 ((nI_eq (b := 9) (by omega) (by omega)).mp z)) (br_c (fun _ => lw_253 C hd hc hJ) fun _ => br_c (fun _ => lw_253 C hd hc hJ) fun _ => lw_e0 C hst hd hc (by omega) hJ (fun a => by omega) (fun a b => by omega) (fun a => by omega))
theorem lw_70 {p : TP} {k : TK} {r : TR} {l s : TL} {o : TO} {h : TA} {w : TW} {L : Nat} {xs : Nat → Int32} {post : Int32 → Prop} {J47 : TJ} {x2 x4 x6 x8 x10 : Int64} {x12 x13 x14 : Int32} {kc ks st dd pos : Nat}
    {O W : Nat → List N5} {H : Nat → Nat → Bool} {up se pe : Nat → Bool} {S : Nat → List (Int32 × Nat)} {rc : Nat → Nat → Nat} {ac ov : Nat → Nat} {n : Nat} {tp : Nat → Int32} {qu : Nat → Nat}
    (C : LC x2 x4 x6 x8 x12 x13 x14 st (XS p k r l s o h w) O W H up se pe S rc ac ov n tp qu) (hst : 8 * (st + 1) < 2 ^ 30) (hd : dd < 4) (hL : L < 2 ^ 20) (hp1 : post 1) (hJ : pos < L → JOK J47 (nI (pos + 3)) (st + 1)) (hps : pos < L + 3) :
    wL_law_70 post L xs J47 x2 x4 x6 x8 x10 x12 x13 x14 (nI pos) 0 (nI dd) (nI L) (nI st) 0 kc ks p.1 r.1 p.2.1 p.2.2.1 p.2.2.2.1 p.2.2.2.2 k.1 k.2.1 k.2.2.1 k.2.2.2 r.2.1 r.2.2 l.1 l.2.1 l.2.2 s.1 s.2.1 s.2.2 o.1 o.2.1 o.2.2.1 o.2.2.2.1 o.2.2.2.2.1 o.2.2.2.2.2 h w.1 w.2.1 w.2.2.1 w.2.2.2.1 w.2.2.2.2.1 w.2.2.2.2.2.1 w.2.2.2.2.2.2 := by
  unfold wL_law_70
  refine br_t rfl ?_
  by_cases hp : pos < L
  · have J := hJ hp
    obtain ⟨v1, c1⟩ := pl_cell (L := L) (xs := xs) (u := ()) (q := pos) (by omega) (by omega)
    obtain ⟨v2, c2⟩ := pl_cell (L := L) (xs := xs) (u := ()) (q := pos + 1) (by omega) (by omega)
    obtain ⟨v3, c3⟩ := pl_cell (L := L) (xs := xs) (u := ()) (q := pos + 2) (by omega) (by omega)
    obtain ⟨op, ho, eo⟩ := and15 v1
    obtain ⟨c, hc, ec⟩ := and3 v2
    have e1 : nI pos + 1 = nI (pos + 1) := nI_1 _
    have e2 : nI pos + 2 = nI (pos + 2) := nI_add pos 2
    have e3 : nI pos + 3 = nI (pos + 3) := nI_add pos 3
    refine br_t (nI_lt hp (by omega)) (c1 _ (nm_r eo ?_))
    rw [e1]
    refine c2 _ (nm_r ec ?_)
    rw [e2]
    refine c3 _ (nm_r e3 ?_)
    by_cases a : op ≤ 2
    · exact br_t (nI_le (b := 2) a (by omega)) (lw_152 C hst hd hc J (Or.inl a))
    · refine br_f (nI_ge (a := 2) (by omega) (by omega)) ?_
      by_cases b : op < 6
      · exact br_t (nI_lt (b := 6) b (by omega)) (lw_167 C hst hd hc J (Or.inl (by omega)))
      · refine br_f (nI_nlt (b := 6) (by omega) (by omega)) ?_
        by_cases d : 8 < op
        · exact br_t (nI_lt (a := 8) d (by omega)) (lw_167 C hst hd hc J (Or.inr (by omega)))
        · exact br_f (nI_nlt (a := 8) (by omega) (by omega)) (lw_152 C hst hd hc J (Or.inr (by omega)))
  · exact br_f (nI_nlt (by omega) (by omega)) hp1
end Q44
end
section
section Q45
theorem lw_47 {L : Nat} {xs : Nat → Int32} {post : Int32 → Prop} {kc ks : Nat} (hL : L < 2 ^ 16) (hp1 : post 1) :
    ∀ f st pos, st + f = 201 * (L + 1) → pos < L + 3 → JOK (wL_law_47 post L xs (nI L) kc ks (f + 1)) (nI pos) st := by
  intro f
  induction f with
  | zero =>
    intro st pos hf hps p k r l s o h w y2 y4 y6 y8 y10 y12 y13 y14 y16 y17 hI
    have e : (201 : Int32) * (nI L + 1) = nI (201 * (L + 1)) := by
      rw [nI_1]
      exact pk_mul 201 _
    refine br_t ?_ hp1
    rw [e]
    exact nI_le (by omega) (by omega)
  | succ f ih =>
    intro st pos hf hps p k r l s o h w y2 y4 y6 y8 y10 y12 y13 y14 y16 y17 hI
    have e : (201 : Int32) * (nI L + 1) = nI (201 * (L + 1)) := by
      rw [nI_1]
      exact pk_mul 201 _
    have hst : 8 * (st + 1) < 2 ^ 30 := by omega
    refine br_f (by rw [e]; exact nI_ge (by omega) (by omega)) ?_
    obtain ⟨O, W, H, up, se, pe, S, rc, ac, ov, n, tp, qu, C, dd, dl, hd, rfl, rfl, hdl, hD⟩ := hI
    by_cases z : dl = 0
    · subst z
      exact br_t (by decide) (lw_70 C hst hd (by omega) hp1 (fun hp => ih (st + 1) (pos + 3) (by omega) (by omega)) hps)
    · obtain ⟨m, rfl⟩ : ∃ m, dl = m + 1 := ⟨dl - 1, by omega⟩
      obtain ⟨D, hm⟩ := hD (by omega)
      exact br_f (nI_ge (b := m + 1) (a := 0) (by omega) (by omega)) (br_f (by decide) (lw_e1 C hst hd (by omega) D hm (ih (st + 1) pos (by omega) hps)))
end Q45
end
section
section Q46
abbrev z0A : TA := fun _ => 0
theorem LI_0 : LI 0 0 0 0 0 0 0 0 0 0 0 (XS (0, z0A, z0A, z0A, z0A) (z0A, z0A, z0A, z0A) (0, z0A, z0A) (z0A, z0A, z0A) (z0A, z0A, z0A) (z0A, z0A, z0A, z0A, z0A, z0A) z0A (z0A, z0A, z0A, z0A, z0A, z0A, z0A)) := by
  have am0 : ∀ d s, amf 0 0 d s = false := by
    intro d s
    unfold amf
    rw [lb_0, lb_0]
    split <;> simp
  refine ⟨fun _ => [], fun _ => [], fun _ _ => false, fun _ => false, fun _ => false, fun _ => false, fun _ => [], fun _ _ => 0, fun _ => 0, fun _ => 0, 0, fun _ => 0, fun _ => 0, ⟨⟨_, _, _, _, _, _, _, _, rfl, ?_, ?_, ?_, ?_, ?_, ?_, ?_, ?_⟩, ?_, by omega, ?_, ?_, ?_, ?_, ?_, ?_, ?_, ?_⟩, 0, 0, by omega, rfl, rfl, by omega, fun z => by omega⟩
  · exact ⟨rfl, by omega, fun _ _ => ⟨rfl, rfl, Nat.zero_le _⟩⟩
  · exact ⟨fun _ _ _ _ => rfl, fun _ _ => rfl, fun _ _ => rfl⟩
  · exact ⟨0, by omega, rfl, fun i hi => by omega⟩
  · exact fun _ _ => ⟨rfl, rfl, rfl⟩
  · exact fun _ _ => ⟨by simp, by simp, rfl, by simp⟩
  · exact ⟨fun _ _ => ⟨by simp, by simp, rfl, by simp⟩, fun _ => Or.inl rfl⟩
  · exact fun _ _ _ _ _ => rfl
  · exact ⟨fun _ _ => ⟨by simp, by simp, 0, by omega, rfl, rfl, by simp⟩, fun _ => Or.inl rfl⟩
  · have T : ∀ tk, TOK [] [] [] (fun _ => false) false tk := fun tk => ⟨ndk_nil, fun i _ _ => Or.inl ⟨rfl, rfl, rfl, rfl⟩⟩
    have N : ∀ s, NS [] [] 0 s := fun s => ⟨rfl, by simp, by simp⟩
    refine ⟨fun _ _ => T _, fun _ _ => T _, fun _ _ _ => ⟨rfl, rfl⟩, fun _ _ => ⟨by simp, by simp⟩, by simp, by simp, fun _ _ => Nat.zero_le _, by simp, fun _ _ => rfl, fun d s _ _ => N s, fun d s _ _ _ => XO_0 (N s), by simp, fun d s _ h => ?_⟩
    rw [am0] at h
    exact absurd h (by decide)
  · intro x _; simp
  · exact fun _ _ => Nat.zero_le _
  · exact fun _ => Nat.zero_le _
  · exact fun _ _ => Nat.zero_le _
  · intro s a b
    rw [b_0, decide_eq_false (by omega)]
  · intro s a b; omega
  · intro s a b; omega
  · intro s a b
    rw [b_0]
    simp
theorem i_vc (xs : Nat → Int32) (L : Nat) (hL : L ≤ 260) : wpL_law (fun r => r = 1) L xs := by
  refine ⟨30, 2377, by omega, by omega, ?_⟩
  unfold wpX_init
  refine ⟨by omega, by omega, by omega, by omega, by omega, by omega, by omega, by omega, by omega, by omega, by omega, by omega, by omega, by omega, by omega, by omega, by omega, by omega, by omega, by omega, by omega, by omega, by omega, by omega, by omega, by omega, by omega, by omega, by omega, by omega, by omega, by omega, by omega, by omega, by omega, by omega, by omega, by omega, by omega, by omega, by omega, by omega, by omega, by omega, by omega, by omega, by omega, by omega, by omega, by omega, by omega, by omega, by omega, by omega, by omega, by omega, by omega, by omega, by omega, by omega, ?_⟩
  have K := lw_47 (L := L) (xs := xs) (post := fun r => r = 1) (kc := 1 + 30) (ks := 32 + 2377) (by omega) rfl (201 * (L + 1)) 0 0 (by omega) (by omega) _ _ _ _ _ _ _ _ 0 0 0 0 0 0 0 0 0 0 LI_0
  rw [show nI 0 = (0 : Int32) from rfl] at K
  exact nm_e ⟨201 * (L + 1) + 1, K⟩
end Q46
end
