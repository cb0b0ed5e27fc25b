section P10
/-! where a topic stands, or would stand -/
theorem ps_pl {n : Nat} {tX sX tY sY : TA} (H : ps_R n tX sX tY sY) (T : Int32) : ∃ pl, pl ≤ n ∧ (∀ i, i < pl → tX i < T) ∧ ∀ i, pl ≤ i → i < n → T ≤ tX i := by
  obtain ⟨pl, h1, h2⟩ := pk_least (fun i => i = n ∨ ¬ tX i < T) ⟨n, Or.inl rfl⟩
  have hle : pl ≤ n := by
    apply Classical.byContradiction
    intro hx
    exact h2 n (by omega) (Or.inl rfl)
  refine ⟨pl, hle, fun i hi => ?_, fun i hi hn => ?_⟩
  · apply Classical.byContradiction
    intro hx
    exact h2 i hi (Or.inr hx)
  · have h3 : ¬ tX pl < T := by
      rcases h1 with h1 | h1
      · omega
      · exact h1
    by_cases e : i = pl
    · rw [e]; exact Int32.not_lt.mp h3
    · exact Int32.le_trans (Int32.not_lt.mp h3) (Int32.le_of_lt (H.2.2.2.1 pl i (by omega) hn))
theorem px_pl_lp {p : TP} {k : TK} {r : TR} {l s : TL} {o : TO} {h : TA} {w : TW} {n pl : Nat} {T : Int32} (hn : r.1 = nI n) (n8 : n ≤ 8) (h1 : pl ≤ n) (h2 : ∀ i, i < pl → r.2.1 i < T) (h3 : ∀ i, pl ≤ i → i < n → T ≤ r.2.1 i) {post : Int32 → Prop} (hp : post (nI pl)) :
    ∀ d i P, i + d = n → (i ≤ pl → P = i) → (pl ≤ i → P = pl) → wX_retainedPlace_4 post T p.1 r.1 p.2.1 p.2.2.1 p.2.2.2.1 p.2.2.2.2 k.1 k.2.1 k.2.2.1 k.2.2.2 r.2.1 r.2.2 l.1 l.2.1 l.2.2 s.1 s.2.1 s.2.2 o.1 o.2.1 o.2.2.1 o.2.2.2.1 o.2.2.2.2.1 o.2.2.2.2.2 h w.1 w.2.1 w.2.2.1 w.2.2.2.1 w.2.2.2.2.1 w.2.2.2.2.2.1 w.2.2.2.2.2.2 (d + 1) (nI P) (nI i) := by
  intro d
  induction d with
  | zero =>
    intro i P hi hP hQ
    obtain rfl : i = n := by omega
    have := hQ h1
    subst this
    exact br_t (by rw [hn]; exact nI_le (by omega) (by omega)) hp
  | succ d ih =>
    intro i P hi hP hQ
    have hc : ¬ r.1 ≤ nI i := by rw [hn]; exact nI_ge (by omega) (by omega)
    have hi8 : vp_in (nI i) 8 := vp_in_nI (by omega) (by omega)
    by_cases hlt : i < pl
    · exact br_f hc ⟨hi8, br_f (by rw [nI_clamp (by omega)]; exact fun z => Int32.lt_irrefl (Int32.lt_of_lt_of_le (h2 i hlt) z)) (nm_r (nI_1 i) (nm_r (nI_1 i) (ih (i + 1) (i + 1) (by omega) (fun _ => rfl) (fun z => by omega))))⟩
    · exact br_f hc ⟨hi8, br_t (by rw [nI_clamp (by omega)]; exact h3 i (by omega) (by omega)) (nm_r (nI_1 i) (ih (i + 1) P (by omega) (fun z => by omega) (fun z => hQ (by omega))))⟩
theorem px_pl {p : TP} {k : TK} {r : TR} {l s : TL} {o : TO} {h : TA} {w : TW} {n pl : Nat} {T : Int32} (hn : r.1 = nI n) (n8 : n ≤ 8) (h1 : pl ≤ n) (h2 : ∀ i, i < pl → r.2.1 i < T) (h3 : ∀ i, pl ≤ i → i < n → T ≤ r.2.1 i) {post : Int32 → Prop} (hp : post (nI pl)) : wpX_retainedPlace post (XS p k r l s o h w) T :=
  ⟨n + 1, px_pl_lp hn n8 h1 h2 h3 hp n 0 0 (by omega) (fun _ => rfl) (fun z => by omega)⟩
theorem py_fr_lp {p : TP} {k : TK} {q : TR} {l s : TL} {e : TO} {g m : TA} {z : TO} {t : T5} {n j : Nat} {T : Int32} (hn : q.1 = nI n) (n8 : n ≤ 8) (F : ps_F q.2.1 0 n T j) {post : Int32 → Prop} (h1 : j < n → post (nI j)) (h2 : j = n → post (-1)) :
    ∀ d i, i + d = j → wY_findRetained_2 post T p.1 q.1 t.1 t.2.1 t.2.2.1 t.2.2.2.1 t.2.2.2.2 p.2.1 p.2.2.1 p.2.2.2.1 p.2.2.2.2 k.2.2.1 k.1 k.2.1 k.2.2.2 q.2.1 q.2.2 l.1 l.2.1 l.2.2 s.2.1 s.2.2 s.1 e.2.1 e.2.2.1 e.2.2.2.1 e.2.2.2.2.1 e.2.2.2.2.2 e.1 g m z.2.1 z.2.2.1 z.2.2.2.1 z.2.2.2.2.1 z.2.2.2.2.2 z.1 (d + 1) (nI i) := by
  intro d
  have hj := F.1
  induction d with
  | zero =>
    intro i hi
    obtain rfl : i = j := by omega
    by_cases hn' : i < n
    · exact br_f (by rw [hn]; exact nI_ge (by omega) (by omega)) ⟨vp_in_nI (by omega) (by omega), br_t (by rw [nI_clamp (by omega)]; have := F.2.2 hn'; rw [Nat.zero_add] at this; exact this) (h1 hn')⟩
    · exact br_t (by rw [hn]; exact nI_le (by omega) (by omega)) (h2 (by omega))
  | succ d ih =>
    intro i hi
    exact br_f (by rw [hn]; exact nI_ge (by omega) (by omega)) ⟨vp_in_nI (by omega) (by omega), br_f (by rw [nI_clamp (by omega)]; have := F.2.1 i (by omega); rw [Nat.zero_add] at this; exact this) (nm_r (nI_1 _) (ih (i + 1) (by omega)))⟩
theorem py_fr {p : TP} {k : TK} {q : TR} {l s : TL} {e : TO} {g m : TA} {z : TO} {t : T5} {n j : Nat} {T : Int32} (hn : q.1 = nI n) (n8 : n ≤ 8) (F : ps_F q.2.1 0 n T j) {post : Int32 → Prop} (h1 : j < n → post (nI j)) (h2 : j = n → post (-1)) : wpY_findRetained post (YS p k q l s e g m z t) T := ⟨j + 1, py_fr_lp hn n8 F h1 h2 j 0 (by omega)⟩
/-! X: an entry removed, inserted -/
theorem px_rrem {p : TP} {k : TK} {r : TR} {l s : TL} {o : TO} {h : TA} {w : TW} {n pl : Nat} (hn : r.1 = nI (n + 1)) (n8 : n < 8) (h1 : pl ≤ n) {post : SX → Prop} (hp : post (XS p k (nI n, ps_sh r.2.1 pl n, ps_sh r.2.2 pl n) l s o h w)) : wpX_removeRetained post (XS p k r l s o h w) (nI pl) := by
  have hl : ∀ d i, pl ≤ i → i + d = n → wX_removeRetained_2 post p.1 r.1 (d + 1) (nI i) p.2.1 p.2.2.1 p.2.2.2.1 p.2.2.2.2 k.1 k.2.1 k.2.2.1 k.2.2.2 (ps_sh r.2.1 pl i) (ps_sh r.2.2 pl i) l.1 l.2.1 l.2.2 s.1 s.2.1 s.2.2 o.1 o.2.1 o.2.2.1 o.2.2.2.1 o.2.2.2.2.1 o.2.2.2.2.2 h w.1 w.2.1 w.2.2.1 w.2.2.2.1 w.2.2.2.2.1 w.2.2.2.2.2.1 w.2.2.2.2.2.2 := by
    intro d
    induction d with
    | zero =>
      intro i h1 hi
      obtain rfl : i = n := by omega
      exact br_t (by rw [hn, nI_pred]; exact nI_le (by omega) (by omega)) (nm_r (e' := nI i) (by rw [hn, nI_pred]) hp)
    | succ d ih =>
      intro i h1 hi
      have a0 : vp_in (nI i) 8 := vp_in_nI (by omega) (by omega)
      have a1 : vp_in (nI i + 1) 8 := by rw [nI_1]; exact vp_in_nI (by omega) (by omega)
      exact br_f (by rw [hn, nI_pred]; exact nI_ge (by omega) (by omega)) ⟨a1, a0, nm_r (pn_sh rfl (nI_1 _) (by omega) (by omega)) ⟨a1, a0, nm_r (pn_sh rfl (nI_1 _) (by omega) (by omega)) (nm_r (nI_1 _) (ih (i + 1) (by omega) (by omega)))⟩⟩
  have hl0 := hl (n - pl) pl (Nat.le_refl pl) (by omega)
  rw [ps_sh0 (Nat.le_refl _), ps_sh0 (Nat.le_refl _)] at hl0
  exact ⟨n - pl + 1, hl0⟩
theorem pn_rs {f : TA} {i m : Nat} {x y : Int32} (hx : x = nI (i + 1)) (hy : y = nI i) (h : i + 1 ≤ m) (hm : m < 10000) : upd (ps_rs f (i + 1) m) x.toNatClampNeg (ps_rs f (i + 1) m y.toNatClampNeg) = ps_rs f i m := by
  rw [pn_cl hx (by omega), pn_cl hy (by omega)]
  exact ps_rsS h
theorem px_rins {p : TP} {k : TK} {r : TR} {l s : TL} {o : TO} {h : TA} {w : TW} {n pl : Nat} {T S : Int32} (hn : r.1 = nI n) (n8 : n < 8) (h1 : pl ≤ n) {post : SX → Prop} (hp : post (XS p k (nI (n + 1), upd (ps_rs r.2.1 pl n) pl T, upd (ps_rs r.2.2 pl n) pl S) l s o h w)) : wpX_insertRetained post (XS p k r l s o h w) (nI pl) T S := by
  have cp : (nI pl).toNatClampNeg = pl := nI_clamp (by omega)
  have i8 : vp_in (nI pl) 8 := vp_in_nI (by omega) (by omega)
  have hl : ∀ d i, i = pl + d → i ≤ n → wX_insertRetained_6 post (nI pl) T S p.1 r.1 (d + 1) (nI i) p.2.1 p.2.2.1 p.2.2.2.1 p.2.2.2.2 k.1 k.2.1 k.2.2.1 k.2.2.2 (ps_rs r.2.1 i n) (ps_rs r.2.2 i n) l.1 l.2.1 l.2.2 s.1 s.2.1 s.2.2 o.1 o.2.1 o.2.2.1 o.2.2.2.1 o.2.2.2.2.1 o.2.2.2.2.2 h w.1 w.2.1 w.2.2.1 w.2.2.2.1 w.2.2.2.2.1 w.2.2.2.2.2.1 w.2.2.2.2.2.2 := by
    intro d
    induction d with
    | zero =>
      intro i hi hin
      obtain rfl : i = pl := by omega
      exact br_t (nI_le (by omega) (by omega)) ⟨i8, nm_r (by rw [cp]) ⟨i8, nm_r (by rw [cp]) (nm_r (e' := nI (n + 1)) (by rw [hn, nI_1]) hp)⟩⟩
    | succ d ih =>
      intro i hi hin
      obtain ⟨i', rfl⟩ : ∃ i', i = i' + 1 := ⟨i - 1, by omega⟩
      have a0 : vp_in (nI (i' + 1)) 8 := vp_in_nI (by omega) (by omega)
      have a1 : vp_in (nI (i' + 1) - 1) 8 := by rw [nI_pred]; exact vp_in_nI (by omega) (by omega)
      exact br_f (nI_ge (by omega) (by omega)) ⟨a1, a0, nm_r (pn_rs rfl (nI_pred _) (by omega) (by omega)) ⟨a1, a0, nm_r (pn_rs rfl (nI_pred _) (by omega) (by omega)) (nm_r (pk_m1 _) (ih i' (by omega) (by omega)))⟩⟩
  have hl0 := hl (n - pl) n (by omega) (Nat.le_refl n)
  rw [ps_rs0, ps_rs0] at hl0
  refine ⟨n - pl + 1, ?_⟩
  show wX_insertRetained_6 post (nI pl) T S p.1 r.1 (n - pl + 1) r.1 p.2.1 p.2.2.1 p.2.2.2.1 p.2.2.2.2 k.1 k.2.1 k.2.2.1 k.2.2.2 r.2.1 r.2.2 l.1 l.2.1 l.2.2 s.1 s.2.1 s.2.2 o.1 o.2.1 o.2.2.1 o.2.2.2.1 o.2.2.2.2.1 o.2.2.2.2.2 h w.1 w.2.1 w.2.2.1 w.2.2.2.1 w.2.2.2.2.1 w.2.2.2.2.2.1 w.2.2.2.2.2.2
  rw [hn] at hl0 ⊢
  exact hl0
/-! the retained entry of an accepted serial -/
theorem px_u36 {p : TP} {k : TK} {r : TR} {l s : TL} {o : TO} {h : TA} {w : TW} {n pl sn : Nat} {T Z : Int32} (hs : sn < 25) (hn : r.1 = nI n) (n8 : n ≤ 8) (hpl : pl ≤ n) {post : SX → Prop}
    (h00 : p.2.2.1 sn = 0 → Z = 0 → post (XS p k r l s o h w))
    (h01 : p.2.2.1 sn = 0 → ¬ Z = 0 → wpX_removeRetained post (XS p k r l s o h w) (nI pl))
    (h10 : ¬ p.2.2.1 sn = 0 → Z = 0 → n = 8 → post (XS p k r l s o h w))
    (h11 : ¬ p.2.2.1 sn = 0 → Z = 0 → n < 8 → wpX_insertRetained post (XS p k r l s o h w) (nI pl) T (nI sn))
    (h12 : ¬ p.2.2.1 sn = 0 → ¬ Z = 0 → pl < 8 ∧ post (XS p k (r.1, r.2.1, upd r.2.2 pl (nI sn)) l s o h w)) : wX_updateRetained_36 post (nI sn) T (nI pl) Z p.1 r.1 p.2.1 p.2.2.1 p.2.2.2.1 p.2.2.2.2 k.1 k.2.1 k.2.2.1 k.2.2.2 r.2.1 r.2.2 l.1 l.2.1 l.2.2 s.1 s.2.1 s.2.2 o.1 o.2.1 o.2.2.1 o.2.2.2.1 o.2.2.2.2.1 o.2.2.2.2.2 h w.1 w.2.1 w.2.2.1 w.2.2.2.1 w.2.2.2.2.1 w.2.2.2.2.2.1 w.2.2.2.2.2.2 := by
  have cs : (nI sn).toNatClampNeg = sn := nI_clamp (by omega)
  refine ⟨vp_in_nI hs (by omega), br_c (fun a => ?_) fun a => ?_⟩
  · rw [cs] at a
    exact br_c (fun b => h00 a b) fun b => h01 a b
  · rw [cs] at a
    refine br_c (fun b => br_c (fun d => ?_) fun d => ?_) fun b => ?_
    · refine h10 a b ?_
      rw [hn] at d
      have := (nI_leI (a := 8) (by omega) (by omega)).mp d
      omega
    · refine h11 a b ?_
      rw [hn] at d
      apply Classical.byContradiction
      intro hx
      exact d (nI_le (a := 8) (by omega) (by omega))
    · obtain ⟨h8, hp⟩ := h12 a b
      exact ⟨vp_in_nI h8 (by omega), nm_r (by rw [nI_clamp (by omega)]) hp⟩
end P10
