section Q22
/-- the class's state and its picture -/
def PIC (u : St1) (O W : Nat → List N5) (H : Nat → Nat → Bool) (up se pe : Nat → Bool) (S : Nat → List (Int32 × Nat)) (rc : Nat → Nat → Nat) (ac ov : Nat → Nat) (n : Nat) (tp : Nat → Int32) (qu : Nat → Nat) : Prop := ∃ (p : TP) (k : TK) (r : TR) (l s : TL) (o : TO) (h : TA) (w : TW), u = XS p k r l s o h w ∧ pc_P p n tp qu ∧ pc_K k rc ac ov ∧ pc_R r ∧ pc_L l up se pe ∧ pc_S s S ∧ pc_O o O ∧ pc_H h H ∧ pc_W w W
/-! what is still to be moved on a link -/
def sw (f : N5 → Nat) : List N5 → Nat
  | [] => 0
  | t :: l => f t + sw f l
theorem sw_app {f : N5 → Nat} {t : N5} : ∀ l, sw f (l ++ [t]) = sw f l + f t := by
  intro l
  induction l with
  | nil =>
    show f t + 0 = 0 + f t
    omega
  | cons a l ih =>
    show f a + sw f (l ++ [t]) = f a + sw f l + f t
    rw [ih]
    omega
/-- down: publication by quality 1, 2, 4; PUBACK 1, PUBREC 3, PUBREL 2, PUBCOMP 1; up: a publication may send one more down -/
def wd (t : N5) : Nat := if t.1 = 1 then (if t.2.2.2.1 = 0 then 1 else if t.2.2.2.1 = 1 then 2 else 4) else if t.1 = 3 then 3 else if t.1 = 4 then 2 else 1
def wu (t : N5) : Nat := wd t + (if t.1 = 1 then 4 else 0)
def k1 (t : N5) : Nat := if t.1 = 1 then 1 else 0
/-- one packet moved on link c, or nothing there -/
def MVC (c : Nat) (W W2 : Nat → List N5) : Prop := (∀ x, x ≠ c → x ≠ 4 + c → W2 x = W x) ∧ (W2 c).length ≤ (W c).length + 1 ∧ (W2 (4 + c)).length ≤ (W (4 + c)).length ∧ (W2 c).length + (W2 (4 + c)).length ≤ (W c).length + (W (4 + c)).length ∧ sw k1 (W2 c) ≤ sw k1 (W c) ∧ (W (4 + c) ≠ [] → sw wu (W2 c) + sw wd (W2 (4 + c)) < sw wu (W c) + sw wd (W (4 + c))) ∧ sw wu (W2 c) + sw wd (W2 (4 + c)) ≤ sw wu (W c) + sw wd (W (4 + c))
theorem MVC_0 {c : Nat} {W : Nat → List N5} (h : W (4 + c) = []) : MVC c W W := ⟨fun _ _ _ => rfl, by omega, Nat.le_refl _, Nat.le_refl _, Nat.le_refl _, fun z => absurd h z, Nat.le_refl _⟩
theorem MVC_r {c : Nat} {W W2 : Nat → List N5} {t r : N5} {L : List N5} (hW : W (4 + c) = t :: L) (w1 : W2 c = W c ++ [r]) (w2 : W2 (4 + c) = L) (w3 : ∀ x, x ≠ c → x ≠ 4 + c → W2 x = W x) (hr : r.1 ≠ 1) (hw : wd r < wd t) : MVC c W W2 := by
  have e1 : k1 r = 0 := if_neg hr
  have e2 : wu r = wd r := by unfold wu; rw [if_neg hr]; rfl
  have e3 : sw wd (W (4 + c)) = wd t + sw wd L := by rw [hW]; rfl
  refine ⟨w3, ?_, ?_, ?_, ?_, fun _ => ?_, ?_⟩
  · rw [w1, List.length_append, List.length_singleton]; omega
  · rw [w2, hW, List.length_cons]; omega
  · rw [w1, w2, hW, List.length_append, List.length_singleton, List.length_cons]; omega
  · rw [w1, sw_app, e1]; omega
  · rw [w1, w2, sw_app, e2, e3]; omega
  · rw [w1, w2, sw_app, e2, e3]; omega
theorem MVC_n {c : Nat} {W W2 : Nat → List N5} {t : N5} {L : List N5} (hW : W (4 + c) = t :: L) (w1 : W2 c = W c) (w2 : W2 (4 + c) = L) (w3 : ∀ x, x ≠ c → x ≠ 4 + c → W2 x = W x) (hw : 0 < wd t) : MVC c W W2 := by
  have e3 : sw wd (W (4 + c)) = wd t + sw wd L := by rw [hW]; rfl
  refine ⟨w3, ?_, ?_, ?_, ?_, fun _ => ?_, ?_⟩
  · rw [w1]; omega
  · rw [w2, hW, List.length_cons]; omega
  · rw [w1, w2, hW, List.length_cons]; omega
  · rw [w1]; exact Nat.le_refl _
  · rw [w1, w2, e3]; omega
  · rw [w1, w2, e3]; omega
theorem XO_sub {O W W' : List N5} {G : Nat → Bool} {r s : Nat} (h : XO O W G r s) (hw : ∀ t, t ∈ W' → t ∈ W) : XO O W' G r s := ⟨h.1, h.2.1, h.2.2.1, fun t ht => h.2.2.2 t (hw t ht)⟩
theorem px_tc_e {p : TP} {k : TK} {r : TR} {l s : TL} {o : TO} {h : TA} {w : TW} {up se pe : Nat → Bool} {W : Nat → List N5} (HL : pc_L l up se pe) (HW : pc_W w W) {c : Nat} (hc : c < 4) (hu : up c = true) (he : W (4 + c) = []) {post : Int32 → St1 → Prop} (hp : post 0 (XS p k r l s o h w)) : wpX_toClient post (XS p k r l s o h w) (nI c) := by
  obtain ⟨_, _, _, _, _, hcnt, _⟩ := HW.1 (4 + c) (by omega)
  have cc : (nI (4 + c)).toNatClampNeg = 4 + c := nI_clamp (by omega)
  rw [he] at hcnt
  unfold wpX_toClient
  exact nm_r (pn_4a c) (px_li1 (p := p) (k := k) (r := r) (l := l) (s := s) (o := o) (h := h) (w := w) HL hc hu (br_f (by decide) ⟨vp_in_nI (by omega) (by omega), br_t (by rw [cc, hcnt]; rfl) hp⟩))
theorem px_tc_d {p : TP} {k : TK} {r : TR} {l s : TL} {o : TO} {h : TA} {w : TW} {up se pe : Nat → Bool} (HL : pc_L l up se pe) {c : Nat} (hc : c < 4) (hu : up c = false) {post : Int32 → St1 → Prop} (hp : post 0 (XS p k r l s o h w)) : wpX_toClient post (XS p k r l s o h w) (nI c) := by
  unfold wpX_toClient
  exact nm_e (px_li0 (p := p) (k := k) (r := r) (l := l) (s := s) (o := o) (h := h) (w := w) HL hc hu (br_t rfl hp))
/-- the entry of a token -/
theorem lk_at {E : List N5} {i : Nat} {e : N5} (h : lk E i = some e) : ∃ j : Nat, E[j]? = some e ∧ e.2.2.1 = i := by
  obtain ⟨h1, h2⟩ := lk_mem h
  obtain ⟨j, hj⟩ := List.mem_iff_getElem?.mp h1
  exact ⟨j, hj, h2⟩
theorem isF_t {k i a b d : Nat} (hk : k = 1 ∨ k = 4) : isF i (k, i, a, b, d) = true := by
  unfold isF
  rcases hk with rfl | rfl <;> simp
theorem isB_t {k i a b d : Nat} (hk : k = 2 ∨ k = 3 ∨ k = 5) : isB i (k, i, a, b, d) = true := by
  unfold isB
  rcases hk with rfl | rfl | rfl <;> simp
end Q22
