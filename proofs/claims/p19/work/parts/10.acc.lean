section Q10
/-! the retained entries stay in their bounds -/
theorem px_pl {r : TR} {n : Nat} (hn : r.1 = nI n) (n8 : n ≤ 8) (T : Int32) : ∃ pl, pl ≤ n ∧ ∀ (p : TP) (k : TK) (l s : TL) (o : TO) (h : TA) (w : TW) (post : Int32 → Prop), post (nI pl) → wpX_retainedPlace post (XS p k r l s o h w) T := by
  have hl : ∀ d i P, i + d = n → P ≤ i → ∃ pl, pl ≤ n ∧ ∀ (p : TP) (k : TK) (l s : TL) (o : TO) (h : TA) (w : TW) (post : Int32 → Prop), post (nI pl) → wX_retainedPlace_4 post T p.1 r.1 p.2.1 p.2.2.1 p.2.2.2.1 p.2.2.2.2 k.1 k.2.1 k.2.2.1 k.2.2.2 r.2.1 r.2.2 l.1 l.2.1 l.2.2 s.1 s.2.1 s.2.2 o.1 o.2.1 o.2.2.1 o.2.2.2.1 o.2.2.2.2.1 o.2.2.2.2.2 h w.1 w.2.1 w.2.2.1 w.2.2.2.1 w.2.2.2.2.1 w.2.2.2.2.2.1 w.2.2.2.2.2.2 (d + 1) (nI P) (nI i) := by
    intro d
    induction d with
    | zero =>
      intro i P hi hP
      exact ⟨P, by omega, fun p k l s o h w post hp => br_t (by rw [hn]; exact nI_le (by omega) (by omega)) hp⟩
    | succ d ih =>
      intro i P hi hP
      have hc : ¬ r.1 ≤ nI i := by rw [hn]; exact nI_ge (by omega) (by omega)
      have hi8 : vp_in (nI i) 8 := vp_in_nI (by omega) (by omega)
      by_cases hle : T ≤ r.2.1 (nI i).toNatClampNeg
      · obtain ⟨pl, h1, h2⟩ := ih (i + 1) P (by omega) (by omega)
        exact ⟨pl, h1, fun p k l s o h w post hp => br_f hc ⟨hi8, br_t hle (nm_r (nI_1 i) (h2 p k l s o h w post hp))⟩⟩
      · obtain ⟨pl, h1, h2⟩ := ih (i + 1) (i + 1) (by omega) (by omega)
        exact ⟨pl, h1, fun p k l s o h w post hp => br_f hc ⟨hi8, br_f hle (nm_r (nI_1 i) (nm_r (nI_1 i) (h2 p k l s o h w post hp)))⟩⟩
  obtain ⟨pl, h1, h2⟩ := hl n 0 0 (by omega) (by omega)
  exact ⟨pl, h1, fun p k l s o h w post hp => ⟨n + 1, h2 p k l s o h w post hp⟩⟩
theorem px_rrem {p : TP} {k : TK} {r : TR} {l s : TL} {o : TO} {h : TA} {w : TW} {n pl : Nat} (hn : r.1 = nI (n + 1)) (n8 : n < 8) (h1 : pl ≤ n) {post : St1 → Prop} (hp : post (XS p k (nI n, ps_sh r.2.1 pl n, ps_sh r.2.2 pl n) l s o h w)) : wpX_removeRetained post (XS p k r l s o h w) (nI pl) := by
  have hl : ∀ d i, pl ≤ i → i + d = n → wX_removeRetained_2 post p.1 r.1 (d + 1) (nI i) p.2.1 p.2.2.1 p.2.2.2.1 p.2.2.2.2 k.1 k.2.1 k.2.2.1 k.2.2.2 (ps_sh r.2.1 pl i) (ps_sh r.2.2 pl i) l.1 l.2.1 l.2.2 s.1 s.2.1 s.2.2 o.1 o.2.1 o.2.2.1 o.2.2.2.1 o.2.2.2.2.1 o.2.2.2.2.2 h w.1 w.2.1 w.2.2.1 w.2.2.2.1 w.2.2.2.2.1 w.2.2.2.2.2.1 w.2.2.2.2.2.2 := by
    intro d
    induction d with
    | zero =>
      intro i h1 hi
      obtain rfl : i = n := by omega
      exact br_t (by rw [hn, nI_pred]; exact nI_le (by omega) (by omega)) (nm_r (e' := nI i) (by rw [hn, nI_pred]) hp)
    | succ d ih =>
      intro i h1 hi
      have a0 : vp_in (nI i) 8 := vp_in_nI (by omega) (by omega)
      have a1 : vp_in (nI i + 1) 8 := by rw [nI_1]; exact vp_in_nI (by omega) (by omega)
      exact br_f (by rw [hn, nI_pred]; exact nI_ge (by omega) (by omega)) ⟨a1, a0, nm_r (pn_sh rfl (nI_1 _) (by omega) (by omega)) ⟨a1, a0, nm_r (pn_sh rfl (nI_1 _) (by omega) (by omega)) (nm_r (nI_1 _) (ih (i + 1) (by omega) (by omega)))⟩⟩
  have hl0 := hl (n - pl) pl (Nat.le_refl pl) (by omega)
  rw [ps_sh0 (Nat.le_refl _), ps_sh0 (Nat.le_refl _)] at hl0
  exact ⟨n - pl + 1, hl0⟩
theorem pn_rs {f : TA} {i m : Nat} {x y : Int32} (hx : x = nI (i + 1)) (hy : y = nI i) (h : i + 1 ≤ m) (hm : m < 10000) : upd (ps_rs f (i + 1) m) x.toNatClampNeg (ps_rs f (i + 1) m y.toNatClampNeg) = ps_rs f i m := by
  rw [pn_cl hx (by omega), pn_cl hy (by omega)]
  exact ps_rsS h
theorem px_rins {p : TP} {k : TK} {r : TR} {l s : TL} {o : TO} {h : TA} {w : TW} {n pl : Nat} {T S : Int32} (hn : r.1 = nI n) (n8 : n < 8) (h1 : pl ≤ n) {post : St1 → Prop} (hp : post (XS p k (nI (n + 1), upd (ps_rs r.2.1 pl n) pl T, upd (ps_rs r.2.2 pl n) pl S) l s o h w)) : wpX_insertRetained post (XS p k r l s o h w) (nI pl) T S := by
  have cp : (nI pl).toNatClampNeg = pl := nI_clamp (by omega)
  have i8 : vp_in (nI pl) 8 := vp_in_nI (by omega) (by omega)
  have hl : ∀ d i, i = pl + d → i ≤ n → wX_insertRetained_6 post (nI pl) T S p.1 r.1 (d + 1) (nI i) p.2.1 p.2.2.1 p.2.2.2.1 p.2.2.2.2 k.1 k.2.1 k.2.2.1 k.2.2.2 (ps_rs r.2.1 i n) (ps_rs r.2.2 i n) l.1 l.2.1 l.2.2 s.1 s.2.1 s.2.2 o.1 o.2.1 o.2.2.1 o.2.2.2.1 o.2.2.2.2.1 o.2.2.2.2.2 h w.1 w.2.1 w.2.2.1 w.2.2.2.1 w.2.2.2.2.1 w.2.2.2.2.2.1 w.2.2.2.2.2.2 := by
    intro d
    induction d with
    | zero =>
      intro i hi hin
      obtain rfl : i = pl := by omega
      exact br_t (nI_le (by omega) (by omega)) ⟨i8, nm_r (by rw [cp]) ⟨i8, nm_r (by rw [cp]) (nm_r (e' := nI (n + 1)) (by rw [hn, nI_1]) hp)⟩⟩
    | succ d ih =>
      intro i hi hin
      obtain ⟨i', rfl⟩ : ∃ i', i = i' + 1 := ⟨i - 1, by omega⟩
      have a0 : vp_in (nI (i' + 1)) 8 := vp_in_nI (by omega) (by omega)
      have a1 : vp_in (nI (i' + 1) - 1) 8 := by rw [nI_pred]; exact vp_in_nI (by omega) (by omega)
      exact br_f (nI_ge (by omega) (by omega)) ⟨a1, a0, nm_r (pn_rs rfl (nI_pred _) (by omega) (by omega)) ⟨a1, a0, nm_r (pn_rs rfl (nI_pred _) (by omega) (by omega)) (nm_r (pk_m1 _) (ih i' (by omega) (by omega)))⟩⟩
  have hl0 := hl (n - pl) n (by omega) (Nat.le_refl n)
  rw [ps_rs0, ps_rs0] at hl0
  refine ⟨n - pl + 1, ?_⟩
  show wX_insertRetained_6 post (nI pl) T S p.1 r.1 (n - pl + 1) r.1 p.2.1 p.2.2.1 p.2.2.2.1 p.2.2.2.2 k.1 k.2.1 k.2.2.1 k.2.2.2 r.2.1 r.2.2 l.1 l.2.1 l.2.2 s.1 s.2.1 s.2.2 o.1 o.2.1 o.2.2.1 o.2.2.2.1 o.2.2.2.2.1 o.2.2.2.2.2 h w.1 w.2.1 w.2.2.1 w.2.2.2.1 w.2.2.2.2.1 w.2.2.2.2.2.1 w.2.2.2.2.2.2
  rw [hn] at hl0 ⊢
  exact hl0
theorem pc_R_del {r : TR} {n pl : Nat} (hr : ∀ i, i < n + 1 → ∃ s, 1 ≤ s ∧ s ≤ 24 ∧ r.2.2 i = nI s) (n8 : n < 8) : pc_R (nI n, ps_sh r.2.1 pl n, ps_sh r.2.2 pl n) := by
  refine ⟨n, by omega, rfl, fun i hi => ?_⟩
  show ∃ s, 1 ≤ s ∧ s ≤ 24 ∧ ps_sh r.2.2 pl n i = nI s
  unfold ps_sh
  split
  · exact hr (i + 1) (by omega)
  · exact hr i (by omega)
theorem pc_R_ins {r : TR} {n pl sn : Nat} {T : Int32} (hr : ∀ i, i < n → ∃ s, 1 ≤ s ∧ s ≤ 24 ∧ r.2.2 i = nI s) (n8 : n < 8) (h1 : pl ≤ n) (s1 : 1 ≤ sn) (s2 : sn ≤ 24) : pc_R (nI (n + 1), upd (ps_rs r.2.1 pl n) pl T, upd (ps_rs r.2.2 pl n) pl (nI sn)) := by
  refine ⟨n + 1, by omega, rfl, fun i hi => ?_⟩
  show ∃ s, 1 ≤ s ∧ s ≤ 24 ∧ upd (ps_rs r.2.2 pl n) pl (nI sn) i = nI s
  by_cases e : i = pl
  · exact ⟨sn, s1, s2, by rw [e, pk_us]⟩
  · rw [pk_un e]
    unfold ps_rs
    by_cases h : pl < i ∧ i ≤ n
    · rw [if_pos h]; exact hr (i - 1) (by omega)
    · rw [if_neg h]; exact hr i (by omega)
theorem pc_R_set {r : TR} {pl sn : Nat} (HR : pc_R r) (s1 : 1 ≤ sn) (s2 : sn ≤ 24) : pc_R (r.1, r.2.1, upd r.2.2 pl (nI sn)) := by
  obtain ⟨m, m8, hm, hr⟩ := HR
  refine ⟨m, m8, hm, fun i hi => ?_⟩
  show ∃ s, 1 ≤ s ∧ s ≤ 24 ∧ upd r.2.2 pl (nI sn) i = nI s
  by_cases e : i = pl
  · exact ⟨sn, s1, s2, by rw [e, pk_us]⟩
  · rw [pk_un e]; exact hr i hi
theorem pq_upd {p : TP} {r : TR} (HR : pc_R r) {sn : Nat} (s1 : 1 ≤ sn) (s2 : sn ≤ 24) : ∃ r', pc_R r' ∧ ∀ (k : TK) (l s : TL) (o : TO) (h : TA) (w : TW) (post : St1 → Prop), post (XS p k r' l s o h w) → wpX_updateRetained post (XS p k r l s o h w) (nI sn) := by
  obtain ⟨n, n8, hn, hr⟩ := id HR
  have cs : (nI sn).toNatClampNeg = sn := nI_clamp (by omega)
  have i25 : vp_in (nI sn) 25 := vp_in_nI (by omega) (by omega)
  obtain ⟨pl, p1, pX⟩ := px_pl hn n8 (p.2.1 (nI sn).toNatClampNeg)
  by_cases hz : p.2.2.1 (nI sn).toNatClampNeg = 0
  · by_cases hpr : pl < n ∧ r.2.1 (nI pl).toNatClampNeg = p.2.1 (nI sn).toNatClampNeg
    · obtain ⟨hlt, he⟩ := hpr
      obtain ⟨n, rfl⟩ : ∃ n', n = n' + 1 := ⟨n - 1, by omega⟩
      exact ⟨_, pc_R_del (pl := pl) hr (by omega), fun k l s o h w post hp => ⟨i25, nm_e (pX p k l s o h w _ (br_f (by rw [hn]; exact nI_ge (by omega) (by omega)) ⟨vp_in_nI (by omega) (by omega), br_t he ⟨i25, br_t hz (br_f (by decide) (px_rrem hn (by omega) (by omega) hp))⟩⟩))⟩⟩
    · refine ⟨r, HR, fun k l s o h w post hp => ⟨i25, nm_e (pX p k l s o h w _ (br_c (fun _ => ⟨i25, br_t hz (br_t rfl hp)⟩) fun a => ?_))⟩⟩
      have hlt : pl < n := by
        apply Classical.byContradiction
        intro hx
        exact a (by rw [hn]; exact nI_le (by omega) (by omega))
      exact ⟨vp_in_nI (by omega) (by omega), br_f (fun z => hpr ⟨hlt, z⟩) ⟨i25, br_t hz (br_t rfl hp)⟩⟩
  · by_cases hpr : pl < n ∧ r.2.1 (nI pl).toNatClampNeg = p.2.1 (nI sn).toNatClampNeg
    · obtain ⟨hlt, he⟩ := hpr
      exact ⟨_, pc_R_set (pl := pl) HR s1 s2, fun k l s o h w post hp => ⟨i25, nm_e (pX p k l s o h w _ (br_f (by rw [hn]; exact nI_ge (by omega) (by omega)) ⟨vp_in_nI (by omega) (by omega), br_t he ⟨i25, br_f hz (br_f (by decide) ⟨vp_in_nI (by omega) (by omega), nm_r (by rw [nI_clamp (by omega)]) hp⟩)⟩⟩))⟩⟩
    · by_cases h8 : n = 8
      · subst h8
        have hx : (8 : Int32) ≤ r.1 := by rw [hn]; decide
        refine ⟨r, HR, fun k l s o h w post hp => ⟨i25, nm_e (pX p k l s o h w _ (br_c (fun _ => ⟨i25, br_f hz (br_t rfl (br_t hx hp))⟩) fun a => ?_))⟩⟩
        have hlt : pl < 8 := by
          apply Classical.byContradiction
          intro hx
          exact a (by rw [hn]; exact nI_le (by omega) (by omega))
        exact ⟨vp_in_nI (by omega) (by omega), br_f (fun z => hpr ⟨hlt, z⟩) ⟨i25, br_f hz (br_t rfl (br_t hx hp))⟩⟩
      · have hx : ¬ (8 : Int32) ≤ r.1 := by rw [hn]; exact nI_ge (b := 8) (by omega) (by omega)
        refine ⟨_, pc_R_ins (T := p.2.1 (nI sn).toNatClampNeg) hr (by omega) p1 s1 s2, fun k l s o h w post hp => ⟨i25, nm_e (pX p k l s o h w _ (br_c (fun _ => ⟨i25, br_f hz (br_t rfl (br_f hx (px_rins hn (by omega) p1 hp)))⟩) fun a => ?_))⟩⟩
        have hlt : pl < n := by
          apply Classical.byContradiction
          intro hx
          exact a (by rw [hn]; exact nI_le (by omega) (by omega))
        exact ⟨vp_in_nI (by omega) (by omega), br_f (fun z => hpr ⟨hlt, z⟩) ⟨i25, br_f hz (br_t rfl (br_f hx (px_rins hn (by omega) p1 hp)))⟩⟩
/-! the greatest qos -/
def gqI (S : List (Int32 × Nat)) (T : Int32) (i : Nat) (cur : Int32) : Prop :=
  (cur = -1 ∧ ∀ (j : Nat) (f : Int32 × Nat), j < i → S[j]? = some f → ma f.1 T = false)
  ∨ ∃ b : Nat, b ≤ 2 ∧ cur = nI b ∧ (∃ (j : Nat) (f : Int32 × Nat), j < i ∧ S[j]? = some f ∧ ma f.1 T = true ∧ f.2 = b) ∧ ∀ (j : Nat) (f : Int32 × Nat), j < i → S[j]? = some f → ma f.1 T = true → f.2 ≤ b
theorem gq_skip {S : List (Int32 × Nat)} {T : Int32} {i : Nat} {cur : Int32} {f : Int32 × Nat} (H : gqI S T i cur) (hf : S[i]? = some f) (h : ma f.1 T = false ∨ ∃ b : Nat, b ≤ 2 ∧ cur = nI b ∧ f.2 ≤ b) : gqI S T (i + 1) cur := by
  have key : ∀ (j : Nat) (g : Int32 × Nat), j < i + 1 → S[j]? = some g → (j < i) ∨ g = f := by
    intro j g hj hg
    by_cases e : j = i
    · rw [e, hf] at hg
      exact Or.inr (Option.some.inj hg).symm
    · exact Or.inl (by omega)
  rcases H with ⟨h1, h2⟩ | ⟨b, b2, hb, ⟨j, g, j1, j2, j3, j4⟩, h2⟩
  · rcases h with h | ⟨b, b2, hb, _⟩
    · refine Or.inl ⟨h1, fun j g hj hg => ?_⟩
      rcases key j g hj hg with k | k
      · exact h2 j g k hg
      · rw [k]; exact h
    · rw [h1] at hb
      have := nI_pos (n := b) (by omega)
      rw [← hb] at this
      exact absurd (by decide) this
  · refine Or.inr ⟨b, b2, hb, ⟨j, g, by omega, j2, j3, j4⟩, fun j g hj hg hm => ?_⟩
    rcases key j g hj hg with k | k
    · exact h2 j g k hg hm
    · rcases h with h | ⟨b', b2', hb', h⟩
      · rw [k, h] at hm
        exact absurd hm (by decide)
      · rw [hb, nI_eq (by omega) (by omega)] at hb'
        rw [k, hb']
        exact h
theorem pq_gq {s : TL} {S : Nat → List (Int32 × Nat)} (HS : pc_S s S) {d : Nat} (hd : d < 4) (T : Int32) : ∃ B : Int32, ((B = -1 ∧ ∀ f, f ∈ S d → ma f.1 T = false) ∨ ∃ b : Nat, b ≤ 2 ∧ B = nI b ∧ (∃ f, f ∈ S d ∧ ma f.1 T = true ∧ f.2 = b) ∧ ∀ f, f ∈ S d → ma f.1 T = true → f.2 ≤ b)
    ∧ ∀ (p : TP) (k : TK) (r : TR) (l : TL) (o : TO) (h : TA) (w : TW) (post : Int32 → Prop), post B → wpX_greatestQos post (XS p k r l s o h w) (nI d) T := by
  obtain ⟨a1, a2, a3, a4⟩ := HS d hd
  have hl : ∀ f i (cur : Int32), i + f = (S d).length → gqI (S d) T i cur → ∃ B, gqI (S d) T (S d).length B ∧ ∀ (p : TP) (k : TK) (r : TR) (l : TL) (o : TO) (h : TA) (w : TW) (post : Int32 → Prop), post B → wX_greatestQos_22 post T (nI (d * 4 + (S d).length)) p.1 r.1 p.2.1 p.2.2.1 p.2.2.2.1 p.2.2.2.2 k.1 k.2.1 k.2.2.1 k.2.2.2 r.2.1 r.2.2 l.1 l.2.1 l.2.2 s.1 s.2.1 s.2.2 o.1 o.2.1 o.2.2.1 o.2.2.2.1 o.2.2.2.2.1 o.2.2.2.2.2 h w.1 w.2.1 w.2.2.1 w.2.2.2.1 w.2.2.2.2.1 w.2.2.2.2.2.1 w.2.2.2.2.2.2 (f + 1) cur (nI (d * 4 + i)) := by
    intro f
    induction f with
    | zero =>
      intro i cur hi hc
      obtain rfl : i = (S d).length := by omega
      exact ⟨cur, hc, fun p k r l o h w post hp => br_t (nI_le (by omega) (by omega)) hp⟩
    | succ f ih =>
      intro i cur hi hc
      obtain ⟨g, hg⟩ := ls_ex (show i < (S d).length by omega)
      have cc : (nI (d * 4 + i)).toNatClampNeg = d * 4 + i := nI_clamp (by omega)
      have ic : vp_in (nI (d * 4 + i)) 16 := vp_in_nI (by omega) (by omega)
      have hX : ¬ nI (d * 4 + (S d).length) ≤ nI (d * 4 + i) := nI_ge (by omega) (by omega)
      obtain ⟨g1, g2⟩ := a4 i g hg
      have hq2 := a2 g (ls_mem hg)
      have v1 : s.2.1 (nI (d * 4 + i)).toNatClampNeg = g.1 := by rw [cc]; exact g1
      have v2 : s.2.2 (nI (d * 4 + i)).toNatClampNeg = nI g.2 := by rw [cc]; exact g2
      by_cases hle : nI g.2 ≤ cur
      · have hb : ∃ b : Nat, b ≤ 2 ∧ cur = nI b ∧ g.2 ≤ b := by
          rcases hc with ⟨h1, _⟩ | ⟨b, b2, hb, _⟩
          · rw [h1] at hle
            exact absurd (Int32.le_trans (nI_pos' (n := g.2) (by omega)) hle) (by decide)
          · rw [hb, nI_leI (by omega) (by omega)] at hle
            exact ⟨b, b2, hb, hle⟩
        obtain ⟨B, b1, b2⟩ := ih (i + 1) cur (by omega) (gq_skip hc hg (Or.inr hb))
        exact ⟨B, b1, fun p k r l o h w post hp => br_f hX ⟨ic, br_t (by rw [v2]; exact hle) (nm_r (nI_1 _) (b2 p k r l o h w post hp))⟩⟩
      · cases hm : ma g.1 T with
        | false =>
          obtain ⟨B, b1, b2⟩ := ih (i + 1) cur (by omega) (gq_skip hc hg (Or.inl hm))
          exact ⟨B, b1, fun p k r l o h w post hp => br_f hX ⟨ic, br_f (by rw [v2]; exact hle) ⟨ic, by rw [v1]; exact px_ma (by rw [hm]; exact br_t rfl (nm_r (nI_1 _) (b2 p k r l o h w post hp)))⟩⟩⟩
        | true =>
          have hnew : gqI (S d) T (i + 1) (nI g.2) := by
            refine Or.inr ⟨g.2, hq2, rfl, ⟨i, g, by omega, hg, hm, rfl⟩, fun j g' hj hg' hm' => ?_⟩
            by_cases e : j = i
            · rw [e, hg] at hg'
              rw [← Option.some.inj hg']
              exact Nat.le_refl _
            · rcases hc with ⟨_, h2⟩ | ⟨b, b2, hb, _, h2⟩
              · rw [h2 j g' (by omega) hg'] at hm'
                exact absurd hm' (by decide)
              · have h3 := h2 j g' (by omega) hg' hm'
                rw [hb, nI_leI (by omega) (by omega)] at hle
                omega
          obtain ⟨B, b1, b2⟩ := ih (i + 1) (nI g.2) (by omega) hnew
          refine ⟨B, b1, fun p k r l o h w post hp => br_f hX ⟨ic, br_f (by rw [v2]; exact hle) ⟨ic, ?_⟩⟩⟩
          rw [v1]
          exact px_ma (by rw [hm]; exact br_f (by decide) ⟨ic, nm_r v2 (nm_r (nI_1 _) (b2 p k r l o h w post hp))⟩)
  obtain ⟨B, b1, b2⟩ := hl (S d).length 0 (-1) (by omega) (Or.inl ⟨rfl, fun j f hj => absurd hj (by omega)⟩)
  have cd : (nI d).toNatClampNeg = d := nI_clamp (by omega)
  refine ⟨B, ?_, fun p k r l o h w post hp => nm_r (pn_m4 d) ⟨vp_in_nI hd (by omega), nm_r (e' := nI (d * 4 + (S d).length)) (by rw [cd, a3, nI_add]) ⟨(S d).length + 1, b2 p k r l o h w post hp⟩⟩⟩
  rcases b1 with ⟨h1, h2⟩ | ⟨b, c2, hb, ⟨j, f, _, j2, j3, j4⟩, h2⟩
  · refine Or.inl ⟨h1, fun f hf => ?_⟩
    obtain ⟨j, hj⟩ := List.mem_iff_getElem?.mp hf
    exact h2 j f (ls_lt hj) hj
  · refine Or.inr ⟨b, c2, hb, ⟨f, ls_mem j2, j3, j4⟩, fun f hf hm => ?_⟩
    obtain ⟨j, hj⟩ := List.mem_iff_getElem?.mp hf
    exact h2 j f (ls_lt hj) hj hm
end Q10
