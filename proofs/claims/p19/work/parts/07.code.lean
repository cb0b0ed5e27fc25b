section Q7
/-! levels, topics, filters, the match -/
def lv (T : Int32) (i : Nat) : Int32 := (T >>> ((4 * nI i) &&& 31)) &&& 15
theorem px_lvN {u : St2} {T : Int32} {i : Nat} {post : Int32 → Prop} (h : post (lv T i)) : wpX_level post u T (nI (i + 1)) := by
  unfold wpX_level
  rw [nI_pred]
  exact h
theorem px_lv1 {u : St2} {T : Int32} {post : Int32 → Prop} (h : post (lv T 0)) : wpX_level post u T 1 := px_lvN (i := 0) h
theorem px_lv2 {u : St2} {T : Int32} {post : Int32 → Prop} (h : post (lv T 1)) : wpX_level post u T 2 := px_lvN (i := 1) h
theorem px_lv3 {u : St2} {T : Int32} {post : Int32 → Prop} (h : post (lv T 2)) : wpX_level post u T 3 := px_lvN (i := 2) h
def mt (F T : Int32) : Nat → Nat → Bool
  | 0, _ => true
  | d + 1, i => if lv F i = 15 then true else if lv F i = 0 then (if lv T i = 0 then true else false) else if lv T i = 0 then false else if lv F i = 14 then mt F T d (i + 1) else if lv F i = lv T i then mt F T d (i + 1) else false
def ma (F T : Int32) : Bool := mt F T 3 0
theorem mt_S (F T : Int32) (d i : Nat) : mt F T (d + 1) i = if lv F i = 15 then true else if lv F i = 0 then (if lv T i = 0 then true else false) else if lv T i = 0 then false else if lv F i = 14 then mt F T d (i + 1) else if lv F i = lv T i then mt F T d (i + 1) else false := rfl
theorem px_ma_lp (F T : Int32) {post : Int32 → Prop} : ∀ d i, i + d = 3 → post (bI (mt F T d i)) → wX_filterMatches_2 post F T (d + 1) (nI (i + 1)) := by
  intro d
  induction d with
  | zero =>
    intro i hi hp
    obtain rfl : i = 3 := by omega
    exact br_t (by decide) hp
  | succ d ih =>
    intro i hi hp
    have hX : ¬ (3 : Int32) < nI (i + 1) := nI_nlt (a := 3) (b := i + 1) (by omega) (by omega)
    rw [mt_S] at hp
    by_cases h15 : lv F i = 15
    · rw [if_pos h15] at hp
      exact br_f hX (px_lvN (px_lvN (br_t h15 hp)))
    · rw [if_neg h15] at hp
      by_cases h0 : lv F i = 0
      · rw [if_pos h0] at hp
        by_cases t0 : lv T i = 0
        · rw [if_pos t0] at hp
          exact br_f hX (px_lvN (px_lvN (br_f h15 (br_t h0 (br_t t0 hp)))))
        · rw [if_neg t0] at hp
          exact br_f hX (px_lvN (px_lvN (br_f h15 (br_t h0 (br_f t0 hp)))))
      · rw [if_neg h0] at hp
        by_cases t0 : lv T i = 0
        · rw [if_pos t0] at hp
          exact br_f hX (px_lvN (px_lvN (br_f h15 (br_f h0 (br_t t0 hp)))))
        · rw [if_neg t0] at hp
          by_cases h14 : lv F i = 14
          · rw [if_pos h14] at hp
            exact br_f hX (px_lvN (px_lvN (br_f h15 (br_f h0 (br_f t0 (br_t h14 (nm_r (nI_1 _) (ih (i + 1) (by omega) hp))))))))
          · rw [if_neg h14] at hp
            by_cases hE : lv F i = lv T i
            · rw [if_pos hE] at hp
              exact br_f hX (px_lvN (px_lvN (br_f h15 (br_f h0 (br_f t0 (br_f h14 (br_t hE (nm_r (nI_1 _) (ih (i + 1) (by omega) hp)))))))))
            · rw [if_neg hE] at hp
              exact br_f hX (px_lvN (px_lvN (br_f h15 (br_f h0 (br_f t0 (br_f h14 (br_f hE hp)))))))
theorem px_ma {u : St2} {F T : Int32} {post : Int32 → Prop} (hp : post (bI (ma F T))) : wpX_filterMatches post u F T := ⟨4, px_ma_lp F T 3 0 (by omega) hp⟩
theorem pl_ma_lp (F T : Int32) {post : Int32 → Prop} : ∀ d i, i + d = 3 → post (bI (mt F T d i)) → wL_matchRule_2 post F T (d + 1) (nI i) := by
  intro d
  induction d with
  | zero =>
    intro i hi hp
    obtain rfl : i = 3 := by omega
    exact br_t (by decide) hp
  | succ d ih =>
    intro i hi hp
    have hY : ¬ (3 : Int32) ≤ nI i := nI_ge (b := 3) (a := i) (by omega) (by omega)
    rw [mt_S] at hp
    refine br_f hY (nm_r (e' := lv F i) rfl (nm_r (e' := lv T i) rfl ?_))
    by_cases h15 : lv F i = 15
    · rw [if_pos h15] at hp
      exact br_t h15 hp
    · rw [if_neg h15] at hp
      by_cases h0 : lv F i = 0
      · rw [if_pos h0] at hp
        by_cases t0 : lv T i = 0
        · rw [if_pos t0] at hp
          exact br_f h15 (br_t h0 (br_t t0 hp))
        · rw [if_neg t0] at hp
          exact br_f h15 (br_t h0 (br_f t0 hp))
      · rw [if_neg h0] at hp
        by_cases t0 : lv T i = 0
        · rw [if_pos t0] at hp
          exact br_f h15 (br_f h0 (br_t t0 hp))
        · rw [if_neg t0] at hp
          by_cases h14 : lv F i = 14
          · rw [if_pos h14] at hp
            exact br_f h15 (br_f h0 (br_f t0 (br_t h14 (nm_r (nI_1 _) (ih (i + 1) (by omega) hp)))))
          · rw [if_neg h14] at hp
            by_cases hE : lv F i = lv T i
            · rw [if_pos hE] at hp
              exact br_f h15 (br_f h0 (br_f t0 (br_f h14 (br_t hE (nm_r (nI_1 _) (ih (i + 1) (by omega) hp))))))
            · rw [if_neg hE] at hp
              exact br_f h15 (br_f h0 (br_f t0 (br_f h14 (br_f hE hp))))
theorem pl_ma {u : St2} {F T : Int32} {post : Int32 → Prop} (hp : post (bI (ma F T))) : wpL_matchRule post u F T := ⟨4, pl_ma_lp F T 3 0 (by omega) hp⟩
/-! the tests end -/
theorem px_ub (T : Int32) (u : St2) : ∃ R : Int32, (R = 0 ∨ R = 1) ∧ ∀ post : Int32 → Prop, post R → wpX_hasUnbrokenLevels post u T := by
  by_cases h1 : T < 0
  · exact ⟨0, Or.inl rfl, fun post hp => br_t h1 hp⟩
  · by_cases h2 : 4095 < T
    · exact ⟨0, Or.inl rfl, fun post hp => br_f h1 (br_t h2 hp)⟩
    · by_cases e0 : lv T 0 = 0
      · exact ⟨0, Or.inl rfl, fun post hp => br_f h1 (br_f h2 (px_lv1 (br_t e0 hp)))⟩
      · by_cases e1 : lv T 1 = 0
        · by_cases e2 : lv T 2 = 0
          · exact ⟨1, Or.inr rfl, fun post hp => br_f h1 (br_f h2 (px_lv1 (br_f e0 (px_lv2 (br_t e1 (px_lv3 (br_t e2 hp)))))))⟩
          · exact ⟨0, Or.inl rfl, fun post hp => br_f h1 (br_f h2 (px_lv1 (br_f e0 (px_lv2 (br_t e1 (px_lv3 (br_f e2 hp)))))))⟩
        · exact ⟨1, Or.inr rfl, fun post hp => br_f h1 (br_f h2 (px_lv1 (br_f e0 (px_lv2 (br_f e1 hp)))))⟩
theorem px_tp (T : Int32) (u : St2) : ∃ R : Int32, (R = 0 ∨ R = 1) ∧ ∀ post : Int32 → Prop, post R → wpX_isTopic post u T := by
  obtain ⟨R, hR, hU⟩ := px_ub T ()
  have one : ¬ (1 : Int32) = 0 := by decide
  rcases hR with rfl | rfl
  · exact ⟨0, Or.inl rfl, fun post hp => hU _ (br_t rfl hp)⟩
  · by_cases a : 13 < lv T 0
    · exact ⟨0, Or.inl rfl, fun post hp => hU _ (br_f one (px_lv1 (br_t a hp)))⟩
    · by_cases b : 13 < lv T 1
      · exact ⟨0, Or.inl rfl, fun post hp => hU _ (br_f one (px_lv1 (br_f a (px_lv2 (br_t b hp)))))⟩
      · by_cases c : 13 < lv T 2
        · exact ⟨0, Or.inl rfl, fun post hp => hU _ (br_f one (px_lv1 (br_f a (px_lv2 (br_f b (px_lv3 (br_t c hp)))))))⟩
        · exact ⟨1, Or.inr rfl, fun post hp => hU _ (br_f one (px_lv1 (br_f a (px_lv2 (br_f b (px_lv3 (br_f c hp)))))))⟩
theorem px_fi (T : Int32) (u : St2) : ∃ R : Int32, (R = 0 ∨ R = 1) ∧ ∀ post : Int32 → Prop, post R → wpX_isFilter post u T := by
  obtain ⟨R, hR, hU⟩ := px_ub T ()
  have one : ¬ (1 : Int32) = 0 := by decide
  rcases hR with rfl | rfl
  · exact ⟨0, Or.inl rfl, fun post hp => hU _ (br_t rfl hp)⟩
  · have h32 : ∀ (z : Int32), ∃ R : Int32, (R = 0 ∨ R = 1) ∧ ∀ post : Int32 → Prop, post R → wX_isFilter_32 post T z := by
      intro z
      by_cases z0 : z = 0
      · refine ⟨0, Or.inl rfl, fun post hp => px_lv2 (br_c (fun b15 => px_lv3 (br_c (fun c0 => br_t z0 hp) fun c0 => br_t z0 hp)) fun b15 => br_t z0 hp)⟩
      · by_cases b15 : lv T 1 = 15
        · by_cases c0 : lv T 2 = 0
          · exact ⟨1, Or.inr rfl, fun post hp => px_lv2 (br_t b15 (px_lv3 (br_t c0 (br_f z0 (br_f one hp)))))⟩
          · exact ⟨0, Or.inl rfl, fun post hp => px_lv2 (br_t b15 (px_lv3 (br_f c0 (br_f z0 (br_t rfl hp)))))⟩
        · exact ⟨1, Or.inr rfl, fun post hp => px_lv2 (br_f b15 (br_f z0 (br_f one hp)))⟩
    obtain ⟨R1, h1, w1⟩ := h32 1
    obtain ⟨R0, h0, w0⟩ := h32 0
    by_cases a15 : lv T 0 = 15
    · by_cases b0 : lv T 1 = 0
      · exact ⟨R1, h1, fun post hp => hU _ (br_f one (px_lv1 (br_t a15 (px_lv2 (br_t b0 (w1 post hp))))))⟩
      · exact ⟨R0, h0, fun post hp => hU _ (br_f one (px_lv1 (br_t a15 (px_lv2 (br_f b0 (w0 post hp))))))⟩
    · exact ⟨R1, h1, fun post hp => hU _ (br_f one (px_lv1 (br_f a15 (w1 post hp))))⟩
/-! clients and serials -/
theorem px_cl {c : Nat} (hc : c < 4) {u : St2} {post : Int32 → Prop} (hp : post 1) : wpX_isClient post u (nI c) := br_f (nI_pos (by omega)) (br_f (nI_ge (b := 4) hc (by omega)) hp)
theorem px_se {s : Nat} (h1 : 1 ≤ s) (h2 : s ≤ 24) {u : St2} {post : Int32 → Prop} (hp : post 1) : wpX_isSerial post u (nI s) := br_f (nI_nlt (b := 1) h1 (by omega)) (br_f (nI_nlt (a := 24) h2 (by omega)) hp)
end Q7
