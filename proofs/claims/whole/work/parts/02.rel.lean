section P2
/-! a ring of 32 cells against a list of 32 places -/
abbrev T5 : Type := Int32 × Int32 × Int32 × Int32 × Int32
def ps_5 (a b c d e : Nat → Int32) (i : Nat) : T5 := (a i, b i, c i, d i, e i)
theorem ps_5u {a b c d e : Nat → Int32} {k : Nat} {v1 v2 v3 v4 v5 : Int32} (i : Nat) : ps_5 (upd a k v1) (upd b k v2) (upd c k v3) (upd d k v4) (upd e k v5) i = if i = k then (v1, v2, v3, v4, v5) else ps_5 a b c d e i := by
  unfold ps_5 upd
  split <;> rfl
theorem ps_5s {a b c d e : Nat → Int32} {p m : Nat} (i : Nat) : ps_5 (ps_sh a p m) (ps_sh b p m) (ps_sh c p m) (ps_sh d p m) (ps_sh e p m) i = if p ≤ i ∧ i < m then ps_5 a b c d e (i + 1) else ps_5 a b c d e i := by
  unfold ps_5 ps_sh
  split <;> rfl
def ps_Q (V : T5 → Prop) (x y : Nat) (F G : Nat → T5) (h n : Nat) : Prop :=
  h < 32 ∧ n ≤ 32 ∧ ∀ j, j < n → F (x * 32 + (h + j) % 32) = G (y * 32 + j) ∧ V (G (y * 32 + j))
theorem ps_Q_put {V : T5 → Prop} {x y : Nat} {F G F' G' : Nat → T5} {h n : Nat} {t : T5} (H : ps_Q V x y F G h n) (hn : n < 32) (ht : V t)
    (hF : ∀ i, F' i = if i = x * 32 + (h + n) % 32 then t else F i) (hG : ∀ i, G' i = if i = y * 32 + n then t else G i) : ps_Q V x y F' G' h (n + 1) := by
  refine ⟨H.1, by omega, fun j hj => ?_⟩
  have h0 := H.1
  rw [hF, hG]
  by_cases e : j = n
  · subst e
    rw [if_pos rfl, if_pos rfl]
    exact ⟨rfl, ht⟩
  · have h2 : (h + j) % 32 ≠ (h + n) % 32 := by omega
    rw [if_neg (by omega), if_neg (by omega)]
    exact H.2.2 j (by omega)
theorem ps_Q_o {V : T5 → Prop} {x y : Nat} {F G F' G' : Nat → T5} {h n : Nat} (H : ps_Q V x y F G h n)
    (hF : ∀ i, x * 32 ≤ i → i < x * 32 + 32 → F' i = F i) (hG : ∀ i, y * 32 ≤ i → i < y * 32 + 32 → G' i = G i) : ps_Q V x y F' G' h n := by
  refine ⟨H.1, H.2.1, fun j hj => ?_⟩
  have h0 := H.1
  have h1 := H.2.1
  rw [hF _ (by omega) (by omega), hG _ (by omega) (by omega)]
  exact H.2.2 j hj
theorem ps_Q_pop {V : T5 → Prop} {x y : Nat} {F G G' : Nat → T5} {h n : Nat} (H : ps_Q V x y F G h (n + 1))
    (hG : ∀ i, y * 32 ≤ i → i < y * 32 + n → G' i = G (i + 1)) : ps_Q V x y F G' ((h + 1) % 32) n := by
  have h1 := H.2.1
  refine ⟨by omega, by omega, fun j hj => ?_⟩
  rw [hG _ (by omega) (by omega), show ((h + 1) % 32 + j) % 32 = (h + (j + 1)) % 32 by omega]
  exact H.2.2 (j + 1) (by omega)
theorem ps_Q_0 {V : T5 → Prop} {x y : Nat} {F G : Nat → T5} {h : Nat} (hh : h < 32) : ps_Q V x y F G h 0 := ⟨hh, by omega, fun j hj => absurd hj (by omega)⟩
/-! an outbox -/
def ps_O (V : T5 → Prop) (x y : Nat) (F G : Nat → T5) (n : Nat) : Prop :=
  n ≤ 16 ∧ ∀ j, j < n → F (x * 16 + j) = G (y * 16 + j) ∧ V (G (y * 16 + j))
theorem ps_O_put {V : T5 → Prop} {x y : Nat} {F G F' G' : Nat → T5} {n : Nat} {t : T5} (H : ps_O V x y F G n) (hn : n < 16) (ht : V t)
    (hF : ∀ i, F' i = if i = x * 16 + n then t else F i) (hG : ∀ i, G' i = if i = y * 16 + n then t else G i) : ps_O V x y F' G' (n + 1) := by
  refine ⟨by omega, fun j hj => ?_⟩
  rw [hF, hG]
  by_cases e : j = n
  · subst e
    rw [if_pos rfl, if_pos rfl]
    exact ⟨rfl, ht⟩
  · rw [if_neg (by omega), if_neg (by omega)]
    exact H.2 j (by omega)
theorem ps_O_o {V : T5 → Prop} {x y : Nat} {F G F' G' : Nat → T5} {n : Nat} (H : ps_O V x y F G n)
    (hF : ∀ i, x * 16 ≤ i → i < x * 16 + 16 → F' i = F i) (hG : ∀ i, y * 16 ≤ i → i < y * 16 + 16 → G' i = G i) : ps_O V x y F' G' n := by
  have h1 := H.1
  refine ⟨H.1, fun j hj => ?_⟩
  rw [hF _ (by omega) (by omega), hG _ (by omega) (by omega)]
  exact H.2 j hj
theorem ps_O_del {V : T5 → Prop} {x y : Nat} {F G F' G' : Nat → T5} {n j0 : Nat} (H : ps_O V x y F G (n + 1)) (hj : j0 ≤ n)
    (hF : ∀ i, F' i = if x * 16 + j0 ≤ i ∧ i < x * 16 + n then F (i + 1) else F i) (hG : ∀ i, G' i = if y * 16 + j0 ≤ i ∧ i < y * 16 + n then G (i + 1) else G i) : ps_O V x y F' G' n := by
  have h1 := H.1
  refine ⟨by omega, fun j hj => ?_⟩
  rw [hF, hG]
  by_cases e : j0 ≤ j
  · rw [if_pos (by omega), if_pos (by omega)]
    exact H.2 (j + 1) (by omega)
  · rw [if_neg (by omega), if_neg (by omega)]
    exact H.2 j (by omega)
theorem ps_O_mod {V : T5 → Prop} {x y : Nat} {F G F' G' : Nat → T5} {n j0 : Nat} {t : T5} (H : ps_O V x y F G n) (ht : V t)
    (hF : ∀ i, F' i = if i = x * 16 + j0 then t else F i) (hG : ∀ i, G' i = if i = y * 16 + j0 then t else G i) : ps_O V x y F' G' n := by
  refine ⟨H.1, fun j hj => ?_⟩
  rw [hF, hG]
  by_cases e : j = j0
  · subst e
    rw [if_pos rfl, if_pos rfl]
    exact ⟨rfl, ht⟩
  · rw [if_neg (by omega), if_neg (by omega)]
    exact H.2 j hj
theorem ps_O_0 {V : T5 → Prop} {x y : Nat} {F G : Nat → T5} : ps_O V x y F G 0 := ⟨by omega, fun j hj => absurd hj (by omega)⟩
/-! a set of ids: marked cells against a list without repeats -/
def ps_H (f : Nat → Int32) (x : Nat) (g : Nat → Int32) (y m : Nat) : Prop :=
  ps_hc f (x * 17) 16 = m ∧ (∀ i, 1 ≤ i → i ≤ 16 → (f (x * 17 + i) ≠ 0 ↔ ∃ j, j < m ∧ g (y * 16 + j) = nI i)) ∧ ∀ i j, i < j → j < m → g (y * 16 + i) ≠ g (y * 16 + j)
theorem ps_H_le {f : Nat → Int32} {x : Nat} {g : Nat → Int32} {y m : Nat} (H : ps_H f x g y m) : m ≤ 16 := by
  have := ps_hc_le f (x * 17) 16
  rw [H.1] at this
  exact this
theorem ps_H_add {f : Nat → Int32} {x : Nat} {g : Nat → Int32} {y m i : Nat} {v : Int32} (hv : v ≠ 0) (H : ps_H f x g y m) (h1 : 1 ≤ i) (h2 : i ≤ 16) (h0 : f (x * 17 + i) = 0) : m < 16 ∧ ps_H (upd f (x * 17 + i) v) x (upd g (y * 16 + m) (nI i)) y (m + 1) := by
  have hm : m < 16 := by
    rw [← H.1]
    exact ps_hc_lt 16 h1 h2 h0
  refine ⟨hm, ?_, fun k k1 k2 => ?_, fun a b hab hb => ?_⟩
  · rw [ps_hc_set hv 16 h1 h2 h0, H.1]
  · by_cases e : k = i
    · subst e
      rw [pk_us]
      exact ⟨fun _ => ⟨m, by omega, pk_us⟩, fun _ => hv⟩
    · rw [pk_un (by omega), H.2.1 k k1 k2]
      constructor
      · intro ⟨j, hj, ej⟩
        exact ⟨j, by omega, by rw [pk_un (by omega)]; exact ej⟩
      · intro ⟨j, hj, ej⟩
        by_cases e2 : j = m
        · subst e2
          rw [pk_us, nI_eq (by omega) (by omega)] at ej
          exact absurd ej.symm e
        · exact ⟨j, by omega, by rw [pk_un (by omega)] at ej; exact ej⟩
  · rw [pk_un (j := y * 16 + a) (by omega)]
    by_cases e2 : b = m
    · subst e2
      rw [pk_us]
      intro e
      exact ((H.2.1 i h1 h2).mpr ⟨a, by omega, e⟩) h0
    · rw [pk_un (by omega)]
      exact H.2.2 a b hab (by omega)
theorem ps_H_del {f : Nat → Int32} {x : Nat} {g : Nat → Int32} {y m i j0 : Nat} (H : ps_H f x g y (m + 1)) (h1 : 1 ≤ i) (h2 : i ≤ 16) (hj : j0 ≤ m) (h0 : g (y * 16 + j0) = nI i) : ps_H (upd f (x * 17 + i) 0) x (ps_sh g (y * 16 + j0) (y * 16 + m)) y m := by
  have hf : f (x * 17 + i) ≠ 0 := (H.2.1 i h1 h2).mpr ⟨j0, by omega, h0⟩
  have hg : ∀ j, j < m → (j < j0 ∧ ps_sh g (y * 16 + j0) (y * 16 + m) (y * 16 + j) = g (y * 16 + j)) ∨ (j0 ≤ j ∧ ps_sh g (y * 16 + j0) (y * 16 + m) (y * 16 + j) = g (y * 16 + (j + 1))) := by
    intro j hjm
    by_cases e : j < j0
    · exact Or.inl ⟨e, ps_sh_lo (by omega)⟩
    · exact Or.inr ⟨by omega, ps_sh_in (by omega) (by omega)⟩
  refine ⟨?_, fun k k1 k2 => ?_, fun a b hab hb => ?_⟩
  · have := ps_hc_clr 16 h1 h2 hf
    rw [H.1] at this
    omega
  · by_cases e : k = i
    · subst e
      rw [pk_us]
      refine ⟨fun h => absurd rfl h, fun ⟨j, hj, ej⟩ => ?_⟩
      rcases hg j hj with ⟨ha, hb⟩ | ⟨ha, hb⟩
      · rw [hb, ← h0] at ej
        exact absurd ej (H.2.2 j j0 (by omega) (by omega))
      · rw [hb, ← h0] at ej
        exact absurd ej.symm (H.2.2 j0 (j + 1) (by omega) (by omega))
    · rw [pk_un (by omega), H.2.1 k k1 k2]
      constructor
      · intro ⟨j, hj, ej⟩
        have hne : j ≠ j0 := by
          intro e3
          rw [e3, h0, nI_eq (by omega) (by omega)] at ej
          exact e ej.symm
        by_cases e2 : j < j0
        · refine ⟨j, by omega, ?_⟩
          rw [ps_sh_lo (by omega)]
          exact ej
        · obtain ⟨j', rfl⟩ : ∃ j', j = j' + 1 := ⟨j - 1, by omega⟩
          refine ⟨j', by omega, ?_⟩
          rw [ps_sh_in (by omega) (by omega)]
          exact ej
      · intro ⟨j, hj, ej⟩
        rcases hg j hj with ⟨ha, hb⟩ | ⟨ha, hb⟩
        · exact ⟨j, by omega, hb ▸ ej⟩
        · exact ⟨j + 1, by omega, hb ▸ ej⟩
  · rcases hg a (by omega) with ⟨ha, ea⟩ | ⟨ha, ea⟩ <;> rcases hg b hb with ⟨hb', eb⟩ | ⟨hb', eb⟩ <;> rw [ea, eb] <;> exact H.2.2 _ _ (by omega) (by omega)
theorem ps_H_o {f f' : Nat → Int32} {x : Nat} {g g' : Nat → Int32} {y m : Nat} (H : ps_H f x g y m) (hf : ∀ i, 1 ≤ i → i ≤ 16 → f' (x * 17 + i) = f (x * 17 + i)) (hg : ∀ i, y * 16 ≤ i → i < y * 16 + 16 → g' i = g i) : ps_H f' x g' y m := by
  have hm := ps_H_le H
  refine ⟨?_, fun k k1 k2 => ?_, fun a b hab hb => ?_⟩
  · rw [ps_hc_cg (g := f) (b2 := x * 17) 16 hf]
    exact H.1
  · rw [hf k k1 k2, H.2.1 k k1 k2]
    constructor
    · intro ⟨j, hj, ej⟩
      exact ⟨j, hj, by rw [hg _ (by omega) (by omega)]; exact ej⟩
    · intro ⟨j, hj, ej⟩
      exact ⟨j, hj, by rw [hg _ (by omega) (by omega)] at ej; exact ej⟩
  · rw [hg _ (by omega) (by omega), hg _ (by omega) (by omega)]
    exact H.2.2 a b hab hb
theorem ps_H_0 {f : Nat → Int32} {x : Nat} {g : Nat → Int32} {y : Nat} (hf : ∀ i, 1 ≤ i → i ≤ 16 → f (x * 17 + i) = 0) : ps_H f x g y 0 := by
  refine ⟨ps_hc_0 16 hf, fun k k1 k2 => ?_, fun a b hab hb => absurd hb (by omega)⟩
  rw [hf k k1 k2]
  exact ⟨fun h => absurd rfl h, fun ⟨j, hj, _⟩ => absurd hj (by omega)⟩
end P2
