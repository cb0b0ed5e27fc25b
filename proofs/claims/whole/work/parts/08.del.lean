section P8
theorem px_del {p : TP} {k : TK} {r : TR} {l s : TL} {o : TO} {h : TA} {w : TW} {x n j : Nat} (hx : x < 8) (hn : o.1 x = nI (n + 1)) (n16 : n < 16) (hj : j ≤ n) (hb : ps_B o.2.2.2.2.1) {post : SX → Prop}
    (hp : post (XS p k r l s (upd o.1 x (nI n), ps_sh o.2.1 (x * 16 + j) (x * 16 + n), ps_sh o.2.2.1 (x * 16 + j) (x * 16 + n), ps_sh o.2.2.2.1 (x * 16 + j) (x * 16 + n), ps_sh o.2.2.2.2.1 (x * 16 + j) (x * 16 + n), ps_sh o.2.2.2.2.2 (x * 16 + j) (x * 16 + n)) h w)) :
    wpX_removeEntry post (XS p k r l s o h w) (nI x) (nI (x * 16 + j)) := by
  have cx : (nI x).toNatClampNeg = x := nI_clamp (by omega)
  have i8 : vp_in (nI x) 8 := vp_in_nI hx (by omega)
  have hl : ∀ d i, j ≤ i → i + d = n → wX_removeEntry_17 post (nI x) (nI (x * 16 + n)) p.1 r.1 (d + 1) (nI (x * 16 + i)) p.2.1 p.2.2.1 p.2.2.2.1 p.2.2.2.2 k.1 k.2.1 k.2.2.1 k.2.2.2 r.2.1 r.2.2 l.1 l.2.1 l.2.2 s.1 s.2.1 s.2.2 o.1 (ps_sh o.2.1 (x * 16 + j) (x * 16 + i)) (ps_sh o.2.2.1 (x * 16 + j) (x * 16 + i)) (ps_sh o.2.2.2.1 (x * 16 + j) (x * 16 + i)) (ps_sh o.2.2.2.2.1 (x * 16 + j) (x * 16 + i)) (ps_sh o.2.2.2.2.2 (x * 16 + j) (x * 16 + i)) h w.1 w.2.1 w.2.2.1 w.2.2.2.1 w.2.2.2.2.1 w.2.2.2.2.2.1 w.2.2.2.2.2.2 := by
    intro d
    induction d with
    | zero =>
      intro i h1 hi
      obtain rfl : i = n := by omega
      exact br_t (nI_le (by omega) (by omega)) ⟨i8, i8, nm_r (e' := upd o.1 x (nI i)) (by rw [cx, hn, nI_pred]) hp⟩
    | succ d ih =>
      intro i h1 hi
      have a0 : vp_in (nI (x * 16 + i)) 128 := vp_in_nI (by omega) (by omega)
      have a1 : vp_in (nI (x * 16 + i) + 1) 128 := by rw [nI_1]; exact vp_in_nI (by omega) (by omega)
      exact br_f (nI_ge (by omega) (by omega)) ⟨a1, a0, nm_r (pn_sh rfl (nI_1 _) (by omega) (by omega)) ⟨a1, a0, nm_r (pn_sh rfl (nI_1 _) (by omega) (by omega)) ⟨a1, a0, nm_r (pn_sh rfl (nI_1 _) (by omega) (by omega)) ⟨a1, a0, nm_r (pn_shB hb rfl (nI_1 _) (by omega) (by omega)) ⟨a1, a0, nm_r (pn_sh rfl (nI_1 _) (by omega) (by omega)) (nm_r (nI_1 _) (ih (i + 1) (by omega) (by omega)))⟩⟩⟩⟩⟩
  have hl0 := hl (n - j) j (Nat.le_refl j) (by omega)
  rw [ps_sh0 (Nat.le_refl _), ps_sh0 (Nat.le_refl _), ps_sh0 (Nat.le_refl _), ps_sh0 (Nat.le_refl _), ps_sh0 (Nat.le_refl _)] at hl0
  exact ⟨i8, nm_r (e' := nI (x * 16 + n)) (by rw [cx, hn, pn_m16, nI_add, ← Nat.add_assoc, nI_pred]) ⟨n - j + 1, hl0⟩⟩
theorem py_del {p : TP} {k : TK} {q : TR} {l s : TL} {e : TO} {g m : TA} {z : TO} {t : T5} {y n j : Nat} (hy : y < 8) (hn : e.1 y = nI (n + 1)) (n16 : n < 16) (hj : j ≤ n) (hb : ps_B e.2.2.2.2.1) {post : SY → Prop}
    (hp : post (YS p k q l s (upd e.1 y (nI n), ps_sh e.2.1 (y * 16 + j) (y * 16 + n), ps_sh e.2.2.1 (y * 16 + j) (y * 16 + n), ps_sh e.2.2.2.1 (y * 16 + j) (y * 16 + n), ps_sh e.2.2.2.2.1 (y * 16 + j) (y * 16 + n), ps_sh e.2.2.2.2.2 (y * 16 + j) (y * 16 + n)) g m z t)) :
    wpY_removeEntry post (YS p k q l s e g m z t) (nI y) (nI j) := by
  have cy : (nI y).toNatClampNeg = y := nI_clamp (by omega)
  have i8 : vp_in (nI y) 8 := vp_in_nI hy (by omega)
  have hl : ∀ d i, j ≤ i → i + d = n → wY_removeEntry_2 post (nI y) p.1 q.1 t.1 t.2.1 t.2.2.1 t.2.2.2.1 t.2.2.2.2 (d + 1) (nI i) p.2.1 p.2.2.1 p.2.2.2.1 p.2.2.2.2 k.2.2.1 k.1 k.2.1 k.2.2.2 q.2.1 q.2.2 l.1 l.2.1 l.2.2 s.2.1 s.2.2 s.1 (ps_sh e.2.1 (y * 16 + j) (y * 16 + i)) (ps_sh e.2.2.1 (y * 16 + j) (y * 16 + i)) (ps_sh e.2.2.2.1 (y * 16 + j) (y * 16 + i)) (ps_sh e.2.2.2.2.1 (y * 16 + j) (y * 16 + i)) (ps_sh e.2.2.2.2.2 (y * 16 + j) (y * 16 + i)) e.1 g m z.2.1 z.2.2.1 z.2.2.2.1 z.2.2.2.2.1 z.2.2.2.2.2 z.1 := by
    intro d
    induction d with
    | zero =>
      intro i h1 hi
      obtain rfl : i = n := by omega
      exact ⟨i8, br_t (by rw [cy, hn, nI_1]; exact nI_le (by omega) (by omega)) ⟨i8, i8, nm_r (e' := upd e.1 y (nI i)) (by rw [cy, hn, nI_pred]) hp⟩⟩
    | succ d ih =>
      intro i h1 hi
      have a0 : vp_in (nI (y * 16 + i)) 128 := vp_in_nI (by omega) (by omega)
      have a1 : vp_in (nI (y * 16 + i) + 1) 128 := by rw [nI_1]; exact vp_in_nI (by omega) (by omega)
      exact ⟨i8, br_f (by rw [cy, hn, nI_1]; exact nI_ge (by omega) (by omega)) (nm_r (e' := nI (y * 16 + i)) (by rw [pn_m16, nI_add]) ⟨a1, a0, nm_r (pn_sh rfl (nI_1 _) (by omega) (by omega)) ⟨a1, a0, nm_r (pn_sh rfl (nI_1 _) (by omega) (by omega)) ⟨a1, a0, nm_r (pn_sh rfl (nI_1 _) (by omega) (by omega)) ⟨a1, a0, nm_r (pn_shB hb rfl (nI_1 _) (by omega) (by omega)) ⟨a1, a0, nm_r (pn_sh rfl (nI_1 _) (by omega) (by omega)) (nm_r (nI_1 _) (ih (i + 1) (by omega) (by omega)))⟩⟩⟩⟩⟩)⟩
  have hl0 := hl (n - j) j (Nat.le_refl j) (by omega)
  rw [ps_sh0 (Nat.le_refl _), ps_sh0 (Nat.le_refl _), ps_sh0 (Nat.le_refl _), ps_sh0 (Nat.le_refl _), ps_sh0 (Nat.le_refl _)] at hl0
  exact ⟨n - j + 1, hl0⟩
theorem pr_del {o e : TO} (H : ps_GO o e) {c b n j : Nat} (hc : c < 4) (hb : b < 2) (hn : o.1 (4 * b + c) = nI n) (n16 : n ≤ 16) (hj : j < n) : ∃ o' e', ps_GO o' e'
    ∧ (∀ p k r l s h w (post : SX → Prop), post (XS p k r l s o' h w) → wpX_removeEntry post (XS p k r l s o h w) (nI (4 * b + c)) (nI ((4 * b + c) * 16 + j)))
    ∧ (∀ p k q l s g m z t (post : SY → Prop), post (YS p k q l s e' g m z t) → wpY_removeEntry post (YS p k q l s e g m z t) (nI (2 * c + b)) (nI j)) := by
  obtain ⟨n', a1, a2, a3, a4⟩ := H.1 c b hc hb
  have hnn : n' = n := by
    have := a4.1
    rw [a2, nI_eq (by omega) (by omega)] at hn
    exact hn
  subst hnn
  obtain ⟨n, rfl⟩ : ∃ n, n' = n + 1 := ⟨n' - 1, by omega⟩
  exact ⟨_, _, ⟨ps_RO_del H.1 hc hb (by omega) (by omega) a2, ps_B_s H.2.1, ps_B_s H.2.2⟩, fun p k r l s h w post hp => px_del (by omega) a2 (by omega) (by omega) H.2.1 hp, fun p k q l s g m z t post hp => py_del (by omega) a3 (by omega) (by omega) H.2.2 hp⟩
/-- the entry with an id: at both sides the same, or at neither -/
theorem pr_fe {o e : TO} (H : ps_GO o e) {c b : Nat} (hc : c < 4) (hb : b < 2) (I : Int32) : ∃ n j, n ≤ 16 ∧ j ≤ n ∧ o.1 (4 * b + c) = nI n ∧ e.1 (2 * c + b) = nI n ∧ (j < n → ps_o5 o ((4 * b + c) * 16 + j) = ps_o5 e ((2 * c + b) * 16 + j) ∧ ps_EV (ps_o5 e ((2 * c + b) * 16 + j)) ∧ e.2.2.2.1 ((2 * c + b) * 16 + j) = I)
    ∧ (∀ p k r l s h w (post : Int32 → Prop), (j < n → post (nI ((4 * b + c) * 16 + j))) → (j = n → post (-1)) → wpX_findEntry post (XS p k r l s o h w) (nI (4 * b + c)) I)
    ∧ (∀ p k q l s g m z t (post : Int32 → Prop), (j < n → post (nI j)) → (j = n → post (-1)) → wpY_findEntry post (YS p k q l s e g m z t) (nI (2 * c + b)) I) := by
  obtain ⟨n, a1, a2, a3, a4⟩ := H.1 c b hc hb
  have heq : ∀ j, j < n → o.2.2.2.1 ((4 * b + c) * 16 + j) = e.2.2.2.1 ((2 * c + b) * 16 + j) := fun j hj => congrArg (fun t : T5 => t.2.2.1) (a4.2 j hj).1
  obtain ⟨j, F⟩ := ps_F_ex o.2.2.2.1 ((4 * b + c) * 16) I n
  have F' := ps_F_cg (g := e.2.2.2.1) (b := (2 * c + b) * 16) F heq
  exact ⟨n, j, a4.1, F.1, a2, a3, fun hj => ⟨(a4.2 j hj).1, (a4.2 j hj).2, F'.2.2 hj⟩, fun p k r l s h w post h1 h2 => px_fe (by omega) a2 a4.1 F h1 h2, fun p k q l s g m z t post h1 h2 => py_fe (by omega) a3 a4.1 F' h1 h2⟩
end P8
