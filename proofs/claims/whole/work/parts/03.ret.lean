section P3
/-! the retained entries: sorted by topic at X, in the order of making at Y -/
def ps_R (n : Nat) (tX sX tY sY : Nat → Int32) : Prop :=
  n ≤ 8 ∧ (∀ i, i < n → ∃ t, t < 4096 ∧ tX i = nI t) ∧ (∀ i, i < n → ∃ s, 1 ≤ s ∧ s ≤ 24 ∧ sX i = nI s) ∧ (∀ i j, i < j → j < n → tX i < tX j) ∧ (∀ i j, i < j → j < n → tY i ≠ tY j)
    ∧ (∀ i, i < n → ∃ j, j < n ∧ tY j = tX i ∧ sY j = sX i) ∧ ∀ j, j < n → ∃ i, i < n ∧ tX i = tY j ∧ sX i = sY j
theorem ps_lt_ne {a b : Int32} (h : a < b) : a ≠ b := by
  intro e
  rw [e] at h
  exact Int32.lt_irrefl h
theorem ps_lt_asym {a b : Int32} (h : a < b) (h2 : b < a) : False := Int32.lt_irrefl (Int32.lt_trans h h2)
theorem ps_tri {a b : Int32} (h : ¬ a < b) (h2 : a ≠ b) : b < a := by
  rw [Int32.lt_iff_toInt_lt] at h ⊢
  have h3 : a.toInt ≠ b.toInt := fun e => h2 (Int32.toInt_inj.mp e)
  omega
/-- one topic stands at one place of X -/
theorem ps_R_uX {n : Nat} {tX sX tY sY : Nat → Int32} (H : ps_R n tX sX tY sY) {i j : Nat} (hi : i < n) (hj : j < n) (e : tX i = tX j) : i = j := by
  apply Classical.byContradiction
  intro hne
  by_cases h : i < j
  · exact ps_lt_ne (H.2.2.2.1 i j h hj) e
  · exact ps_lt_ne (H.2.2.2.1 j i (by omega) hi) e.symm
theorem ps_R_uY {n : Nat} {tX sX tY sY : Nat → Int32} (H : ps_R n tX sX tY sY) {i j : Nat} (hi : i < n) (hj : j < n) (e : tY i = tY j) : i = j := by
  apply Classical.byContradiction
  intro hne
  by_cases h : i < j
  · exact H.2.2.2.2.1 i j h hj e
  · exact H.2.2.2.2.1 j i (by omega) hi e.symm
/-- the same topic: the same serial -/
theorem ps_R_ser {n : Nat} {tX sX tY sY : Nat → Int32} (H : ps_R n tX sX tY sY) {i j : Nat} (hi : i < n) (hj : j < n) (e : tX i = tY j) : sX i = sY j := by
  obtain ⟨i', hi', e1, e2⟩ := H.2.2.2.2.2.2 j hj
  have : i = i' := ps_R_uX H hi hi' (e.trans e1.symm)
  rw [this]
  exact e2
theorem ps_R_set {n : Nat} {tX sX tY sY : Nat → Int32} (H : ps_R n tX sX tY sY) {i j s : Nat} (hi : i < n) (hj : j < n) (e : tX i = tY j) (h1 : 1 ≤ s) (h2 : s ≤ 24) : ps_R n tX (upd sX i (nI s)) tY (upd sY j (nI s)) := by
  refine ⟨H.1, H.2.1, fun k hk => ?_, H.2.2.2.1, H.2.2.2.2.1, fun k hk => ?_, fun k hk => ?_⟩
  · by_cases ek : k = i
    · exact ⟨s, h1, h2, by rw [ek, pk_us]⟩
    · rw [pk_un ek]
      exact H.2.2.1 k hk
  · by_cases ek : k = i
    · exact ⟨j, hj, by rw [ek, e], by rw [ek, pk_us, pk_us]⟩
    · obtain ⟨k', hk', a, b⟩ := H.2.2.2.2.2.1 k hk
      have : k' ≠ j := by
        intro e3
        rw [e3, ← e] at a
        exact ek (ps_R_uX H hk hi a.symm)
      exact ⟨k', hk', a, by rw [pk_un this, pk_un ek]; exact b⟩
  · by_cases ek : k = j
    · exact ⟨i, hi, by rw [ek, e], by rw [ek, pk_us, pk_us]⟩
    · obtain ⟨k', hk', a, b⟩ := H.2.2.2.2.2.2 k hk
      have : k' ≠ i := by
        intro e3
        rw [e3, e] at a
        exact ek (ps_R_uY H hk hj a.symm)
      exact ⟨k', hk', a, by rw [pk_un this, pk_un ek]; exact b⟩
theorem ps_shc {f : Nat → Int32} {a m : Nat} (i : Nat) (hi : i < m) : (i < a ∧ ps_sh f a m i = f i) ∨ (a ≤ i ∧ ps_sh f a m i = f (i + 1)) := by
  by_cases h : i < a
  · exact Or.inl ⟨h, ps_sh_lo h⟩
  · exact Or.inr ⟨by omega, ps_sh_in (by omega) hi⟩
/-- a place of a list less one entry -/
theorem ps_shx {a m k : Nat} (hk : k < m + 1) (hne : k ≠ a) : ∃ i, i < m + 1 ∧ (a ≤ m → i < m) ∧ ((i < a ∧ i = k) ∨ (a ≤ i ∧ i + 1 = k)) := by
  by_cases h : k < a
  · exact ⟨k, hk, fun _ => by omega, Or.inl ⟨h, rfl⟩⟩
  · exact ⟨k - 1, by omega, fun _ => by omega, Or.inr ⟨by omega, by omega⟩⟩
theorem ps_shv {f : Nat → Int32} {a m i k : Nat} (hi : i < m) (h : (i < a ∧ i = k) ∨ (a ≤ i ∧ i + 1 = k)) : ps_sh f a m i = f k := by
  rcases h with ⟨h1, rfl⟩ | ⟨h1, rfl⟩
  · exact ps_sh_lo h1
  · exact ps_sh_in h1 hi
theorem ps_R_del {n : Nat} {tX sX tY sY : Nat → Int32} (H : ps_R (n + 1) tX sX tY sY) {i j : Nat} (hi : i < n + 1) (hj : j < n + 1) (e : tX i = tY j) : ps_R n (ps_sh tX i n) (ps_sh sX i n) (ps_sh tY j n) (ps_sh sY j n) := by
  have h8 := H.1
  -- the k-th of the shortened list is the k'-th of the old one
  have fw : ∀ a k, a < n + 1 → k < n → ∃ k', k' < n + 1 ∧ k' ≠ a ∧ ((k < a ∧ k = k') ∨ (a ≤ k ∧ k + 1 = k')) := by
    intro a k ha hk
    by_cases h : k < a
    · exact ⟨k, by omega, by omega, Or.inl ⟨h, rfl⟩⟩
    · exact ⟨k + 1, by omega, by omega, Or.inr ⟨by omega, rfl⟩⟩
  refine ⟨by omega, fun k hk => ?_, fun k hk => ?_, fun a b hab hb => ?_, fun a b hab hb => ?_, fun k hk => ?_, fun k hk => ?_⟩
  · obtain ⟨k', h1, h2, h3⟩ := fw i k hi hk
    rw [ps_shv hk h3]
    exact H.2.1 k' h1
  · obtain ⟨k', h1, h2, h3⟩ := fw i k hi hk
    rw [ps_shv hk h3]
    exact H.2.2.1 k' h1
  · obtain ⟨a', a1, a2, a3⟩ := fw i a hi (by omega)
    obtain ⟨b', b1, b2, b3⟩ := fw i b hi hb
    rw [ps_shv (by omega) a3, ps_shv hb b3]
    exact H.2.2.2.1 a' b' (by omega) b1
  · obtain ⟨a', a1, a2, a3⟩ := fw j a hj (by omega)
    obtain ⟨b', b1, b2, b3⟩ := fw j b hj hb
    rw [ps_shv (by omega) a3, ps_shv hb b3]
    exact H.2.2.2.2.1 a' b' (by omega) b1
  · obtain ⟨k', h1, h2, h3⟩ := fw i k hi hk
    rw [ps_shv hk h3, ps_shv hk h3]
    obtain ⟨m, hm, e1, e2⟩ := H.2.2.2.2.2.1 k' h1
    have hne : m ≠ j := by
      intro e3
      rw [e3, ← e] at e1
      exact h2 (ps_R_uX H h1 hi e1.symm)
    obtain ⟨q, q1, q2, q3⟩ := ps_shx (a := j) (m := n) hm hne
    exact ⟨q, q2 (by omega), by rw [ps_shv (q2 (by omega)) q3]; exact e1, by rw [ps_shv (q2 (by omega)) q3]; exact e2⟩
  · obtain ⟨k', h1, h2, h3⟩ := fw j k hj hk
    rw [ps_shv hk h3, ps_shv hk h3]
    obtain ⟨m, hm, e1, e2⟩ := H.2.2.2.2.2.2 k' h1
    have hne : m ≠ i := by
      intro e3
      rw [e3, e] at e1
      exact h2 (ps_R_uY H h1 hj e1.symm)
    obtain ⟨q, q1, q2, q3⟩ := ps_shx (a := i) (m := n) hm hne
    exact ⟨q, q2 (by omega), by rw [ps_shv (q2 (by omega)) q3]; exact e1, by rw [ps_shv (q2 (by omega)) q3]; exact e2⟩
/-- the list with a new entry at p: the k-th is the new one, or the k'-th of the old -/
theorem ps_in_new {f : Nat → Int32} {p n : Nat} {v : Int32} : upd (ps_rs f p n) p v p = v := pk_us
theorem ps_in_lo {f : Nat → Int32} {p n k : Nat} {v : Int32} (h : k < p) : upd (ps_rs f p n) p v k = f k := by
  rw [pk_un (by omega), ps_rs_lo (by omega)]
theorem ps_in_hi {f : Nat → Int32} {p n k : Nat} {v : Int32} (h : p ≤ k) (h2 : k < n) : upd (ps_rs f p n) p v (k + 1) = f k := by
  rw [pk_un (by omega), ps_rs_in (by omega) (by omega), Nat.add_sub_cancel]
theorem ps_R_ins {n : Nat} {tX sX tY sY : Nat → Int32} (H : ps_R n tX sX tY sY) (hn : n < 8) {p t s : Nat} (hp : p ≤ n) (ht : t < 4096) (h1 : 1 ≤ s) (h2 : s ≤ 24)
    (hlo : ∀ i, i < p → tX i < nI t) (hhi : ∀ i, p ≤ i → i < n → nI t < tX i) : ps_R (n + 1) (upd (ps_rs tX p n) p (nI t)) (upd (ps_rs sX p n) p (nI s)) (upd tY n (nI t)) (upd sY n (nI s)) := by
  have cs : ∀ k, k < n + 1 → k = p ∨ (k < p ∧ k < n) ∨ ∃ k', p ≤ k' ∧ k' < n ∧ k = k' + 1 := by
    intro k hk
    by_cases a : k = p
    · exact Or.inl a
    · by_cases b : k < p
      · exact Or.inr (Or.inl ⟨b, by omega⟩)
      · exact Or.inr (Or.inr ⟨k - 1, by omega, by omega, by omega⟩)
  have hX : ∀ i, i < n → tX i ≠ nI t := by
    intro i hi
    by_cases b : i < p
    · exact ps_lt_ne (hlo i b)
    · exact (ps_lt_ne (hhi i (by omega) hi)).symm
  have hY : ∀ j, j < n → tY j ≠ nI t := by
    intro j hj e
    obtain ⟨i, hi, e1, _⟩ := H.2.2.2.2.2.2 j hj
    exact hX i hi (e1.trans e)
  refine ⟨by omega, fun k hk => ?_, fun k hk => ?_, fun a b hab hb => ?_, fun a b hab hb => ?_, fun k hk => ?_, fun k hk => ?_⟩
  · rcases cs k hk with rfl | ⟨a, b⟩ | ⟨k', a, b, rfl⟩
    · exact ⟨t, ht, ps_in_new⟩
    · rw [ps_in_lo a]; exact H.2.1 k b
    · rw [ps_in_hi a b]; exact H.2.1 k' b
  · rcases cs k hk with rfl | ⟨a, b⟩ | ⟨k', a, b, rfl⟩
    · exact ⟨s, h1, h2, ps_in_new⟩
    · rw [ps_in_lo a]; exact H.2.2.1 k b
    · rw [ps_in_hi a b]; exact H.2.2.1 k' b
  · rcases cs a (by omega) with rfl | ⟨a1, a2⟩ | ⟨a', a1, a2, rfl⟩
    · rcases cs b hb with rfl | ⟨b1, b2⟩ | ⟨b', b1, b2, rfl⟩
      · omega
      · omega
      · rw [ps_in_new, ps_in_hi b1 b2]
        exact hhi b' b1 b2
    · rw [ps_in_lo a1]
      rcases cs b hb with rfl | ⟨b1, b2⟩ | ⟨b', b1, b2, rfl⟩
      · rw [ps_in_new]
        exact hlo a a1
      · rw [ps_in_lo b1]
        exact H.2.2.2.1 a b hab b2
      · rw [ps_in_hi b1 b2]
        exact H.2.2.2.1 a b' (by omega) b2
    · rw [ps_in_hi a1 a2]
      rcases cs b hb with rfl | ⟨b1, b2⟩ | ⟨b', b1, b2, rfl⟩
      · omega
      · omega
      · rw [ps_in_hi b1 b2]
        exact H.2.2.2.1 a' b' (by omega) b2
  · rw [pk_un (j := a) (by omega)]
    by_cases e : b = n
    · rw [e, pk_us]
      exact hY a (by omega)
    · rw [pk_un e]
      exact H.2.2.2.2.1 a b hab (by omega)
  · rcases cs k hk with rfl | ⟨a, b⟩ | ⟨k', a, b, rfl⟩
    · exact ⟨n, by omega, by rw [pk_us, ps_in_new], by rw [pk_us, ps_in_new]⟩
    · rw [ps_in_lo a, ps_in_lo a]
      obtain ⟨j, hj, e1, e2⟩ := H.2.2.2.2.2.1 k b
      exact ⟨j, by omega, by rw [pk_un (by omega)]; exact e1, by rw [pk_un (by omega)]; exact e2⟩
    · rw [ps_in_hi a b, ps_in_hi a b]
      obtain ⟨j, hj, e1, e2⟩ := H.2.2.2.2.2.1 k' b
      exact ⟨j, by omega, by rw [pk_un (by omega)]; exact e1, by rw [pk_un (by omega)]; exact e2⟩
  · by_cases e : k = n
    · exact ⟨p, by omega, by rw [e, pk_us, pk_us], by rw [e, pk_us, pk_us]⟩
    · rw [pk_un e, pk_un e]
      obtain ⟨i, hi, e1, e2⟩ := H.2.2.2.2.2.2 k (by omega)
      by_cases b : i < p
      · exact ⟨i, by omega, by rw [ps_in_lo b]; exact e1, by rw [ps_in_lo b]; exact e2⟩
      · exact ⟨i + 1, by omega, by rw [ps_in_hi (by omega) hi]; exact e1, by rw [ps_in_hi (by omega) hi]; exact e2⟩
end P3
