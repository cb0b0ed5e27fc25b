section Q8
def pc_S (s : TL) (S : Nat → List (Int32 × Nat)) : Prop := ∀ c, c < 4 → (S c).length ≤ 4 ∧ (∀ f, f ∈ S c → f.2 ≤ 2) ∧ s.1 c = nI (S c).length ∧ ∀ (j : Nat) (f : Int32 × Nat), (S c)[j]? = some f → s.2.1 (c * 4 + j) = f.1 ∧ s.2.2 (c * 4 + j) = nI f.2
def pc_P (p : TP) (n : Nat) (tp : Nat → Int32) (qu : Nat → Nat) : Prop := p.1 = nI n ∧ n ≤ 24 ∧ ∀ s, s ≤ 24 → p.2.1 s = tp s ∧ p.2.2.2.1 s = nI (qu s) ∧ qu s ≤ 2
def pc_R (r : TR) : Prop := ∃ m, m ≤ 8 ∧ r.1 = nI m ∧ ∀ i, i < m → ∃ s, 1 ≤ s ∧ s ≤ 24 ∧ r.2.2 i = nI s
theorem pq_up {p : TP} {k : TK} {r : TR} {l s : TL} {o : TO} {h : TA} {w : TW} {W : Nat → List N5} (HW : pc_W w W) {c : Nat} (hc : c < 4) {post : Int32 → Prop} (hp : post (nI (W c).length)) : wpX_pending post (XS p k r l s o h w) (nI c) 4 := by
  obtain ⟨_, _, _, _, _, a, _⟩ := HW.1 c (by omega)
  have cc : (nI c).toNatClampNeg = c := nI_clamp (by omega)
  unfold wpX_pending
  refine px_cl hc (br_f (by decide) (br_f (by decide) (br_f (by decide) (br_f (by decide) (br_f (by decide) (br_f (by decide) (br_f (by decide) (br_t rfl ⟨vp_in_nI (by omega) (by omega), ?_⟩))))))))
  show post (w.2.1 (nI c).toNatClampNeg)
  rw [cc, a]
  exact hp
theorem pq_down {p : TP} {k : TK} {r : TR} {l s : TL} {o : TO} {h : TA} {w : TW} {W : Nat → List N5} (HW : pc_W w W) {c : Nat} (hc : c < 4) {post : Int32 → Prop} (hp : post (nI (W (4 + c)).length)) : wpX_pending post (XS p k r l s o h w) (nI c) 5 := by
  obtain ⟨_, _, _, _, _, a, _⟩ := HW.1 (4 + c) (by omega)
  have cc : (4 + nI c).toNatClampNeg = 4 + c := by rw [pn_4a]; exact nI_clamp (by omega)
  unfold wpX_pending
  refine px_cl hc (br_f (by decide) (br_f (by decide) (br_f (by decide) (br_f (by decide) (br_f (by decide) (br_f (by decide) (br_f (by decide) (br_f (by decide) (br_t rfl ⟨by rw [pn_4a]; exact vp_in_nI (by omega) (by omega), ?_⟩)))))))))
  show post (w.2.1 (4 + nI c).toNatClampNeg)
  rw [cc, a]
  exact hp
theorem pq_ovf {p : TP} {k : TK} {r : TR} {l s : TL} {o : TO} {h : TA} {w : TW} {rc : Nat → Nat → Nat} {ac ov : Nat → Nat} (HK : pc_K k rc ac ov) {c : Nat} (hc : c < 4) {post : Int32 → Prop} (hp : post (nI (ov c))) : wpX_pending post (XS p k r l s o h w) (nI c) 6 := by
  have cc : (nI c).toNatClampNeg = c := nI_clamp (by omega)
  unfold wpX_pending
  refine px_cl hc (br_f (by decide) (br_f (by decide) (br_f (by decide) (br_f (by decide) (br_f (by decide) (br_f (by decide) (br_f (by decide) (br_f (by decide) (br_f (by decide) (br_t rfl ⟨vp_in_nI hc (by omega), ?_⟩))))))))))
  show post (k.2.2.2 (nI c).toNatClampNeg)
  rw [cc, HK.2.2 c hc]
  exact hp
theorem pq_received {p : TP} {k : TK} {r : TR} {l s : TL} {o : TO} {h : TA} {w : TW} {rc : Nat → Nat → Nat} {ac ov : Nat → Nat} (HK : pc_K k rc ac ov) {c s0 : Nat} (hc : c < 4) (h1 : 1 ≤ s0) (h2 : s0 ≤ 24) {post : Int32 → Prop} (hp : post (nI (rc c s0))) : wpX_received post (XS p k r l s o h w) (nI c) (nI s0) := by
  have eX : nI c * 25 + nI s0 = nI (c * 25 + s0) := by rw [pn_m25, nI_add]
  unfold wpX_received
  refine px_cl hc (br_f (by decide) (px_se h1 h2 (br_f (by decide) ⟨by rw [eX]; exact vp_in_nI (by omega) (by omega), ?_⟩)))
  show post (k.1 (nI c * 25 + nI s0).toNatClampNeg)
  rw [eX, nI_clamp (by omega), HK.1 c s0 hc h2]
  exact hp
theorem pq_accepted {p : TP} {k : TK} {r : TR} {l s : TL} {o : TO} {h : TA} {w : TW} {rc : Nat → Nat → Nat} {ac ov : Nat → Nat} (HK : pc_K k rc ac ov) {s0 : Nat} (h1 : 1 ≤ s0) (h2 : s0 ≤ 24) {post : Int32 → Prop} (hp : post (nI (ac s0))) : wpX_accepted post (XS p k r l s o h w) (nI s0) := by
  unfold wpX_accepted
  refine px_se h1 h2 (br_f (by decide) ⟨vp_in_nI (by omega) (by omega), ?_⟩)
  show post (k.2.2.1 (nI s0).toNatClampNeg)
  rw [nI_clamp (by omega), HK.2.1 s0 h2]
  exact hp
def stv (a b c : Bool) : Nat := (if a then 1 else 0) + (if b then 2 else 0) + (if c then 4 else 0)
theorem pq_status {p : TP} {k : TK} {r : TR} {l s : TL} {o : TO} {h : TA} {w : TW} {up se pe : Nat → Bool} (HL : pc_L l up se pe) {c : Nat} (hc : c < 4) {post : Int32 → Prop} (hp : post (nI (stv (up c) (se c) (pe c)))) : wpX_status post (XS p k r l s o h w) (nI c) := by
  have cc : (nI c).toNatClampNeg = c := nI_clamp (by omega)
  have i4 : vp_in (nI c) 4 := vp_in_nI hc (by omega)
  obtain ⟨a, b, d⟩ := HL c hc
  unfold wpX_status
  refine px_cl hc (br_f (by decide) ⟨i4, ?_⟩)
  have e0 : bI false = 0 := rfl
  have e1 : ¬ bI true = 0 := by decide
  cases h1 : up c <;> cases h2 : se c <;> cases h3 : pe c <;> rw [h1] at a <;> rw [h2] at b <;> rw [h3] at d <;> rw [h1, h2, h3] at hp
  · exact br_t (by rw [cc, a]; rfl) ⟨i4, br_t (by rw [cc, b]; rfl) ⟨i4, br_t (by rw [cc, d]; rfl) hp⟩⟩
  · exact br_t (by rw [cc, a]; rfl) ⟨i4, br_t (by rw [cc, b]; rfl) ⟨i4, br_f (by rw [cc, d]; decide) (nm_r (by decide) hp)⟩⟩
  · exact br_t (by rw [cc, a]; rfl) ⟨i4, br_f (by rw [cc, b]; decide) (nm_e ⟨i4, br_t (by rw [cc, d]; rfl) hp⟩)⟩
  · exact br_t (by rw [cc, a]; rfl) ⟨i4, br_f (by rw [cc, b]; decide) (nm_e ⟨i4, br_f (by rw [cc, d]; decide) (nm_r (by decide) hp)⟩)⟩
  · exact br_f (by rw [cc, a]; decide) (nm_e ⟨i4, br_t (by rw [cc, b]; rfl) ⟨i4, br_t (by rw [cc, d]; rfl) hp⟩⟩)
  · exact br_f (by rw [cc, a]; decide) (nm_e ⟨i4, br_t (by rw [cc, b]; rfl) ⟨i4, br_f (by rw [cc, d]; decide) (nm_r (by decide) hp)⟩⟩)
  · exact br_f (by rw [cc, a]; decide) (nm_e ⟨i4, br_f (by rw [cc, b]; decide) (nm_e ⟨i4, br_t (by rw [cc, d]; rfl) hp⟩)⟩)
  · exact br_f (by rw [cc, a]; decide) (nm_e ⟨i4, br_f (by rw [cc, b]; decide) (nm_e ⟨i4, br_f (by rw [cc, d]; decide) (nm_r (by decide) hp)⟩)⟩)
/-- a subscription looked for -/
theorem px_fs {p : TP} {k : TK} {r : TR} {l s : TL} {o : TO} {h : TA} {w : TW} {c n j : Nat} {F : Int32} (hc : c < 4) (hn : s.1 c = nI n) (n4 : n ≤ 4) (FF : ps_F s.2.1 (c * 4) n F j) {post : Int32 → Prop} (h1 : j < n → post (nI (c * 4 + j))) (h2 : j = n → post (-1)) :
    wpX_findSubscription post (XS p k r l s o h w) (nI c) F := by
  have hj := FF.1
  have hl : ∀ d i, i + d = j → wX_findSubscription_17 post F (nI (c * 4 + n)) p.1 r.1 p.2.1 p.2.2.1 p.2.2.2.1 p.2.2.2.2 k.1 k.2.1 k.2.2.1 k.2.2.2 r.2.1 r.2.2 l.1 l.2.1 l.2.2 s.1 s.2.1 s.2.2 o.1 o.2.1 o.2.2.1 o.2.2.2.1 o.2.2.2.2.1 o.2.2.2.2.2 h w.1 w.2.1 w.2.2.1 w.2.2.2.1 w.2.2.2.2.1 w.2.2.2.2.2.1 w.2.2.2.2.2.2 (d + 1) (nI (c * 4 + i)) := by
    intro d
    induction d with
    | zero =>
      intro i hi
      obtain rfl : i = j := by omega
      by_cases hn : i < n
      · exact br_f (nI_ge (by omega) (by omega)) ⟨vp_in_nI (by omega) (by omega), br_t (by rw [nI_clamp (by omega)]; exact FF.2.2 hn) (h1 hn)⟩
      · exact br_t (nI_le (by omega) (by omega)) (h2 (by omega))
    | succ d ih =>
      intro i hi
      exact br_f (nI_ge (by omega) (by omega)) ⟨vp_in_nI (by omega) (by omega), br_f (by rw [nI_clamp (by omega)]; exact FF.2.1 i (by omega)) (nm_r (nI_1 _) (ih (i + 1) (by omega)))⟩
  have cc : (nI c).toNatClampNeg = c := nI_clamp (by omega)
  exact nm_r (pn_m4 c) ⟨vp_in_nI hc (by omega), nm_r (e' := nI (c * 4 + n)) (by rw [cc, hn, nI_add]) ⟨j + 1, hl j 0 (by omega)⟩⟩
theorem pq_fs {s : TL} {S : Nat → List (Int32 × Nat)} (HS : pc_S s S) {c : Nat} (hc : c < 4) (F : Int32) : ∃ R : Int32, (∀ (p : TP) (k : TK) (r : TR) (l : TL) (o : TO) (h : TA) (w : TW) (post : Int32 → Prop), post R → wpX_findSubscription post (XS p k r l s o h w) (nI c) F)
    ∧ ((R = -1 ∧ ∀ f, f ∈ S c → f.1 ≠ F) ∨ ∃ (j : Nat) (f : Int32 × Nat), R = nI (c * 4 + j) ∧ j < 4 ∧ (S c)[j]? = some f ∧ f.1 = F) := by
  obtain ⟨a1, a2, a3, a4⟩ := HS c hc
  obtain ⟨j, FF⟩ := ps_F_ex s.2.1 (c * 4) F (S c).length
  have hj := FF.1
  by_cases hlt : j < (S c).length
  · obtain ⟨f, hf⟩ := ls_ex hlt
    have h1 := FF.2.2 hlt
    rw [(a4 j f hf).1] at h1
    exact ⟨nI (c * 4 + j), fun p k r l o h w post hp => px_fs hc a3 a1 FF (fun _ => hp) (fun z => absurd z (by omega)), Or.inr ⟨j, f, rfl, by omega, hf, h1⟩⟩
  · refine ⟨-1, fun p k r l o h w post hp => px_fs hc a3 a1 FF (fun z => absurd z hlt) (fun _ => hp), Or.inl ⟨rfl, fun f hf z => ?_⟩⟩
    obtain ⟨j', hj'⟩ := List.mem_iff_getElem?.mp hf
    have h1 := FF.2.1 j' (by have := ls_lt hj'; omega)
    rw [(a4 j' f hj').1] at h1
    exact h1 z
theorem pq_sq {s : TL} {S : Nat → List (Int32 × Nat)} (HS : pc_S s S) {c : Nat} (hc : c < 4) (F : Int32) : ∃ R : Int32, (∀ (p : TP) (k : TK) (r : TR) (l : TL) (o : TO) (h : TA) (w : TW) (post : Int32 → Prop), post R → wpX_subscriptionQos post (XS p k r l s o h w) (nI c) F)
    ∧ (R = -1 ∨ ∃ f, f ∈ S c ∧ f.1 = F ∧ R = nI f.2 ∧ f.2 ≤ 2) := by
  obtain ⟨a1, a2, a3, a4⟩ := HS c hc
  obtain ⟨R, hX, hR⟩ := pq_fs HS hc F
  rcases hR with ⟨rfl, _⟩ | ⟨j, f, rfl, hj, hf, hF⟩
  · refine ⟨-1, fun p k r l o h w post hp => ?_, Or.inl rfl⟩
    unfold wpX_subscriptionQos
    exact px_cl hc (br_f (by decide) (hX p k r l o h w _ (br_f (by decide) hp)))
  · refine ⟨nI f.2, fun p k r l o h w post hp => ?_, Or.inr ⟨f, ls_mem hf, hF, rfl, a2 f (ls_mem hf)⟩⟩
    unfold wpX_subscriptionQos
    refine px_cl hc (br_f (by decide) (hX p k r l o h w _ (br_t (nI_pos' (by omega)) ⟨vp_in_nI (by omega) (by omega), ?_⟩)))
    show post (s.2.2 (nI (c * 4 + j)).toNatClampNeg)
    rw [nI_clamp (by omega), (a4 j f hf).2]
    exact hp
/-- the stage of an unmarked entry, or none -/
theorem pq_bs {o : TO} {O : Nat → List N5} (HO : pc_O o O) {c s0 : Nat} (hc : c < 4) (h1 : 1 ≤ s0) (h2 : s0 ≤ 24) : ∃ R : Int32, (∀ (p : TP) (k : TK) (r : TR) (l s : TL) (h : TA) (w : TW) (post : Int32 → Prop), post R → wpX_brokerStage post (XS p k r l s o h w) (nI c) (nI s0))
    ∧ ((R = 0 ∧ ∀ e, e ∈ O (4 + c) → e.1 = s0 → e.2.2.2.1 = 1) ∨ ∃ e, e ∈ O (4 + c) ∧ e.1 = s0 ∧ e.2.2.2.1 = 0 ∧ R = nI e.2.2.2.2) := by
  obtain ⟨a1, a2, a3, a4⟩ := HO.1 (4 + c) (by omega)
  have hl : ∀ d i, i + d = (O (4 + c)).length → ∃ R : Int32, (∀ (p : TP) (k : TK) (r : TR) (l s : TL) (h : TA) (w : TW) (post : Int32 → Prop), post R → wX_brokerStage_38 post (nI s0) (nI ((4 + c) * 16 + (O (4 + c)).length)) p.1 r.1 p.2.1 p.2.2.1 p.2.2.2.1 p.2.2.2.2 k.1 k.2.1 k.2.2.1 k.2.2.2 r.2.1 r.2.2 l.1 l.2.1 l.2.2 s.1 s.2.1 s.2.2 o.1 o.2.1 o.2.2.1 o.2.2.2.1 o.2.2.2.2.1 o.2.2.2.2.2 h w.1 w.2.1 w.2.2.1 w.2.2.2.1 w.2.2.2.2.1 w.2.2.2.2.2.1 w.2.2.2.2.2.2 (d + 1) (nI ((4 + c) * 16 + i)))
      ∧ ((R = 0 ∧ ∀ (j : Nat) (e : N5), i ≤ j → (O (4 + c))[j]? = some e → e.1 = s0 → e.2.2.2.1 = 1) ∨ ∃ e, e ∈ O (4 + c) ∧ e.1 = s0 ∧ e.2.2.2.1 = 0 ∧ R = nI e.2.2.2.2) := by
    intro d
    induction d with
    | zero =>
      intro i hi
      refine ⟨0, fun p k r l s h w post hp => br_t (nI_le (by omega) (by omega)) hp, Or.inl ⟨rfl, fun j e hj he => ?_⟩⟩
      have := ls_lt he
      omega
    | succ d ih =>
      intro i hi
      obtain ⟨R, rX, rY⟩ := ih (i + 1) (by omega)
      obtain ⟨e, he⟩ := ls_ex (show i < (O (4 + c)).length by omega)
      have h5 := a4 i e he
      have hok := a2 e (ls_mem he)
      have g1 : o.2.1 ((4 + c) * 16 + i) = nI e.1 := congrArg (fun t : T5 => t.1) h5
      have g4 : o.2.2.2.2.1 ((4 + c) * 16 + i) = nI e.2.2.2.1 := congrArg (fun t : T5 => t.2.2.2.1) h5
      have g5 : o.2.2.2.2.2 ((4 + c) * 16 + i) = nI e.2.2.2.2 := congrArg (fun t : T5 => t.2.2.2.2) h5
      have cX : (nI ((4 + c) * 16 + i)).toNatClampNeg = (4 + c) * 16 + i := nI_clamp (by omega)
      have iX : vp_in (nI ((4 + c) * 16 + i)) 128 := vp_in_nI (by omega) (by omega)
      have nX : ¬ nI ((4 + c) * 16 + (O (4 + c)).length) ≤ nI ((4 + c) * 16 + i) := nI_ge (by omega) (by omega)
      have hb1 := hok.2.1
      have hb2 := hok.2.2.2.2.2.2.1
      by_cases hs : e.1 = s0
      · by_cases hm : e.2.2.2.1 = 0
        · refine ⟨nI e.2.2.2.2, fun p k r l s h w post hp => br_f nX ⟨iX, br_t (by rw [cX, g1, hs]) ⟨iX, br_t (by rw [cX, g4, hm]; rfl) ⟨iX, ?_⟩⟩⟩, Or.inr ⟨e, ls_mem he, hs, hm, rfl⟩⟩
          show post (o.2.2.2.2.2 (nI ((4 + c) * 16 + i)).toNatClampNeg)
          rw [cX, g5]
          exact hp
        · have hm1 : e.2.2.2.1 = 1 := by omega
          refine ⟨R, fun p k r l s h w post hp => br_f nX ⟨iX, br_t (by rw [cX, g1, hs]) ⟨iX, br_f (by rw [cX, g4, hm1]; decide) (nm_r (nI_1 _) (rX p k r l s h w post hp))⟩⟩, ?_⟩
          rcases rY with ⟨r0, rY⟩ | rY
          · refine Or.inl ⟨r0, fun j e' hj he' hs' => ?_⟩
            by_cases hji : j = i
            · rw [hji, he] at he'
              rw [← Option.some.inj he']
              exact hm1
            · exact rY j e' (by omega) he' hs'
          · exact Or.inr rY
      · refine ⟨R, fun p k r l s h w post hp => br_f nX ⟨iX, br_f (by rw [cX, g1, nI_eq (by omega) (by omega)]; exact hs) (nm_r (nI_1 _) (rX p k r l s h w post hp))⟩, ?_⟩
        rcases rY with ⟨r0, rY⟩ | rY
        · refine Or.inl ⟨r0, fun j e' hj he' hs' => ?_⟩
          by_cases hji : j = i
          · rw [hji, he] at he'
            rw [← Option.some.inj he'] at hs'
            exact absurd hs' hs
          · exact rY j e' (by omega) he' hs'
        · exact Or.inr rY
  obtain ⟨R, rX, rY⟩ := hl (O (4 + c)).length 0 (by omega)
  have cx : (4 + nI c).toNatClampNeg = 4 + c := by rw [pn_4a]; exact nI_clamp (by omega)
  refine ⟨R, fun p k r l s h w post hp => ?_, ?_⟩
  · unfold wpX_brokerStage
    exact px_cl hc (br_f (by decide) (px_se h1 h2 (br_f (by decide) (nm_r (e' := nI ((4 + c) * 16)) (by rw [pn_4a, pn_m16]) ⟨by rw [pn_4a]; exact vp_in_nI (by omega) (by omega), nm_r (e' := nI ((4 + c) * 16 + (O (4 + c)).length)) (by rw [cx, a3, nI_add]) ⟨(O (4 + c)).length + 1, rX p k r l s h w post hp⟩⟩))))
  · rcases rY with ⟨r0, rY⟩ | rY
    · refine Or.inl ⟨r0, fun e he hs => ?_⟩
      obtain ⟨j, hj⟩ := List.mem_iff_getElem?.mp he
      exact rY j e (by omega) hj hs
    · exact Or.inr rY
end Q8
