section
section P1
/-! numbers and stores (rows of kit/rows, and own) -/
theorem pk_us {f : Nat → Int32} {k : Nat} {x : Int32} : upd f k x k = x := if_pos rfl
theorem pk_un {f : Nat → Int32} {k j : Nat} {x : Int32} (h : j ≠ k) : upd f k x j = f j := if_neg h
theorem pk_sub {a b : Nat} (h : b ≤ a) : nI a - nI b = nI (a - b) := by
  obtain ⟨c, rfl⟩ : ∃ c, a = c + b := ⟨a - b, by omega⟩
  rw [← nI_add, Int32.add_sub_cancel, Nat.add_sub_cancel]
theorem pk_m1 (n : Nat) : nI (n + 1) + (-1) = nI n := by
  rw [← nI_1, Int32.add_assoc, show (1 : Int32) + (-1) = 0 from rfl, Int32.add_zero]
theorem pk_mul (a b : Nat) : nI a * nI b = nI (a * b) := (Int32.ofNat_mul a b).symm
theorem pk_div {a d : Nat} (ha : a < 2 ^ 31) (h0 : 0 < d) (hd : d < 2 ^ 31) : nI a / nI d = nI (a / d) := by
  apply Int32.toInt_inj.mp
  rw [lg_idiv_nonneg (by rw [nI_toInt ha]; omega) (by rw [nI_toInt hd]; omega), nI_toInt ha, nI_toInt hd, nI_toInt (Nat.lt_of_le_of_lt (Nat.div_le_self a d) ha)]
  first | rfl | exact (Int.natCast_ediv _ _).symm
theorem pk_rem {a d : Nat} (ha : a < 2 ^ 31) (h0 : 0 < d) (hd : d < 2 ^ 31) : nI a - nI a / nI d * nI d = nI (a % d) := by
  rw [pk_div ha h0 hd, pk_mul, pk_sub (Nat.div_mul_le_self a d)]
  exact congrArg nI (by have := Nat.div_add_mod' a d; omega)
theorem pk_ix (x : Int32) {n : Nat} (hn : n < 2 ^ 31) : x < 0 ∨ nI n ≤ x ∨ ∃ j : Nat, j < n ∧ x = nI j := by
  by_cases h : x < 0
  · exact Or.inl h
  · obtain ⟨j, hj, rfl⟩ := nI_of h
    by_cases h2 : j < n
    · exact Or.inr (Or.inr ⟨j, h2, rfl⟩)
    · exact Or.inr (Or.inl (nI_le (by omega) hj))
theorem pk_least (P : Nat → Prop) (h : ∃ k, P k) : ∃ k, P k ∧ ∀ j, j < k → ¬ P j := by
  obtain ⟨k, hk⟩ := h
  induction k using Nat.strongRecOn with
  | _ k ih =>
    by_cases hx : ∃ j, j < k ∧ P j
    · obtain ⟨j, hj, hp⟩ := hx
      exact ih j hj hp
    · exact ⟨k, hk, fun j hj hp => hx ⟨j, hj, hp⟩⟩
/-! a block shifted down by one, a block shifted up by one -/
def ps_sh (f : Nat → Int32) (a m : Nat) : Nat → Int32 := fun i => if a ≤ i ∧ i < m then f (i + 1) else f i
theorem ps_sh0 {f : Nat → Int32} {a m : Nat} (h : m ≤ a) : ps_sh f a m = f := by
  funext i
  exact if_neg (by omega)
theorem ps_shS {f : Nat → Int32} {a m : Nat} (h : a ≤ m) : upd (ps_sh f a m) m (ps_sh f a m (m + 1)) = ps_sh f a (m + 1) := by
  funext i
  simp only [upd, ps_sh]
  by_cases h1 : i = m
  · subst h1
    rw [if_pos rfl, if_neg (by omega), if_pos (by omega)]
  · rw [if_neg h1]
    by_cases h2 : a ≤ i ∧ i < m
    · rw [if_pos h2, if_pos (by omega)]
    · rw [if_neg h2, if_neg (by omega)]
theorem ps_sh_in {f : Nat → Int32} {a m i : Nat} (h : a ≤ i) (h2 : i < m) : ps_sh f a m i = f (i + 1) := if_pos ⟨h, h2⟩
theorem ps_sh_lo {f : Nat → Int32} {a m i : Nat} (h : i < a) : ps_sh f a m i = f i := if_neg (by omega)
theorem ps_sh_hi {f : Nat → Int32} {a m i : Nat} (h : m ≤ i) : ps_sh f a m i = f i := if_neg (by omega)
def ps_rs (f : Nat → Int32) (a m : Nat) : Nat → Int32 := fun i => if a < i ∧ i ≤ m then f (i - 1) else f i
theorem ps_rs0 {f : Nat → Int32} {m : Nat} : ps_rs f m m = f := by
  funext i
  exact if_neg (by omega)
theorem ps_rsS {f : Nat → Int32} {i m : Nat} (h : i + 1 ≤ m) : upd (ps_rs f (i + 1) m) (i + 1) (ps_rs f (i + 1) m i) = ps_rs f i m := by
  funext j
  simp only [upd, ps_rs]
  by_cases h1 : j = i + 1
  · subst h1
    rw [if_pos rfl, if_neg (by omega), if_pos (by omega), Nat.add_sub_cancel]
  · rw [if_neg h1]
    by_cases h2 : i + 1 < j ∧ j ≤ m
    · rw [if_pos h2, if_pos (by omega)]
    · rw [if_neg h2, if_neg (by omega)]
theorem ps_rs_in {f : Nat → Int32} {a m i : Nat} (h : a < i) (h2 : i ≤ m) : ps_rs f a m i = f (i - 1) := if_pos ⟨h, h2⟩
theorem ps_rs_lo {f : Nat → Int32} {a m i : Nat} (h : i ≤ a) : ps_rs f a m i = f i := if_neg (by omega)
theorem ps_upd0 {f : Nat → Int32} {k : Nat} {x : Int32} (h : f k = x) : upd f k x = f := by
  funext i
  by_cases e : i = k
  · rw [e, pk_us, h]
  · exact pk_un e
/-! the smallest free id -/
theorem ps_pig : ∀ (n m : Nat) (g : Nat → Nat), (∀ i, i < m → ∃ j, j < n ∧ g j = i) → m ≤ n := by
  intro n
  induction n with
  | zero =>
    intro m g h
    cases m with
    | zero => exact Nat.le_refl 0
    | succ m =>
      obtain ⟨j, hj, _⟩ := h 0 (by omega)
      omega
  | succ n ih =>
    intro m g h
    cases m with
    | zero => exact Nat.zero_le _
    | succ m =>
      obtain ⟨j0, hj0, e0⟩ := h m (by omega)
      have h2 : m ≤ n := by
        refine ih m (fun j => if j = j0 then g n else g j) (fun i hi => ?_)
        obtain ⟨j, hj, e⟩ := h i (by omega)
        have hne : j ≠ j0 := by
          intro e1
          rw [e1, e0] at e
          omega
        by_cases hn : j = n
        · refine ⟨j0, by omega, ?_⟩
          show (if j0 = j0 then g n else g j0) = i
          rw [if_pos rfl, ← hn]
          exact e
        · refine ⟨j, by omega, ?_⟩
          show (if j = j0 then g n else g j) = i
          rw [if_neg hne]
          exact e
      omega
theorem ps_free (n : Nat) (hn : n < 1000) (ids : Nat → Int32) : ∃ i, 1 ≤ i ∧ i ≤ n + 1 ∧ (∀ j, j < n → ids j ≠ nI i) ∧ ∀ k, 1 ≤ k → k < i → ∃ j, j < n ∧ ids j = nI k := by
  have hex : ∃ i, (1 ≤ i ∧ i ≤ n + 1) ∧ ∀ j, j < n → ids j ≠ nI i := by
    apply Classical.byContradiction
    intro hc
    have h := ps_pig n (n + 1) (fun j => (ids j).toNatClampNeg - 1) (fun i hi => by
      apply Classical.byContradiction
      intro hd
      apply hc
      refine ⟨i + 1, ⟨by omega, by omega⟩, fun j hj e => hd ⟨j, hj, ?_⟩⟩
      show (ids j).toNatClampNeg - 1 = i
      rw [e, nI_clamp (by omega)]
      omega)
    omega
  obtain ⟨i, ⟨⟨h1, h2⟩, h3⟩, hl⟩ := pk_least (fun i => (1 ≤ i ∧ i ≤ n + 1) ∧ ∀ j, j < n → ids j ≠ nI i) hex
  refine ⟨i, h1, h2, h3, fun k hk hki => ?_⟩
  apply Classical.byContradiction
  intro hd
  exact hl k hki ⟨⟨hk, by omega⟩, fun j hj e => hd ⟨j, hj, e⟩⟩
/-! a number of marked cells -/
def ps_hc (f : Nat → Int32) (base : Nat) : Nat → Nat
  | 0 => 0
  | n + 1 => ps_hc f base n + (if f (base + (n + 1)) = 0 then 0 else 1)
theorem ps_hcS (f : Nat → Int32) (base n : Nat) : ps_hc f base (n + 1) = ps_hc f base n + (if f (base + (n + 1)) = 0 then 0 else 1) := rfl
theorem ps_hc_le (f : Nat → Int32) (base : Nat) : ∀ n, ps_hc f base n ≤ n := by
  intro n
  induction n with
  | zero => exact Nat.le_refl 0
  | succ n ih =>
    rw [ps_hcS]
    split <;> omega
theorem ps_hc_lt {f : Nat → Int32} {base i : Nat} : ∀ n, 1 ≤ i → i ≤ n → f (base + i) = 0 → ps_hc f base n < n := by
  intro n
  induction n with
  | zero => intro h1 h2; omega
  | succ n ih =>
    intro h1 h2 h3
    rw [ps_hcS]
    by_cases e : i = n + 1
    · subst e
      rw [if_pos h3]
      have := ps_hc_le f base n
      omega
    · have := ih h1 (by omega) h3
      split <;> omega
theorem ps_hc_cg {f g : Nat → Int32} {b1 b2 : Nat} : ∀ n, (∀ i, 1 ≤ i → i ≤ n → f (b1 + i) = g (b2 + i)) → ps_hc f b1 n = ps_hc g b2 n := by
  intro n
  induction n with
  | zero => intro _; rfl
  | succ n ih =>
    intro h
    rw [ps_hcS, ps_hcS, ih (fun i h1 h2 => h i h1 (by omega)), h (n + 1) (by omega) (by omega)]
theorem ps_hc_set {f : Nat → Int32} {base i : Nat} {v : Int32} (hv : v ≠ 0) : ∀ n, 1 ≤ i → i ≤ n → f (base + i) = 0 → ps_hc (upd f (base + i) v) base n = ps_hc f base n + 1 := by
  intro n
  induction n with
  | zero => intro h1 h2; omega
  | succ n ih =>
    intro h1 h2 h3
    rw [ps_hcS, ps_hcS]
    by_cases e : i = n + 1
    · subst e
      rw [if_pos h3, pk_us, if_neg hv, ps_hc_cg (g := f) (b2 := base) n (fun j h1 h2 => pk_un (by omega))]
    · rw [ih h1 (by omega) h3, pk_un (by omega)]
      omega
theorem ps_hc_clr {f : Nat → Int32} {base i : Nat} : ∀ n, 1 ≤ i → i ≤ n → f (base + i) ≠ 0 → ps_hc (upd f (base + i) 0) base n + 1 = ps_hc f base n := by
  intro n
  induction n with
  | zero => intro h1 h2; omega
  | succ n ih =>
    intro h1 h2 h3
    rw [ps_hcS, ps_hcS]
    by_cases e : i = n + 1
    · subst e
      rw [if_neg h3, pk_us, if_pos rfl, ps_hc_cg (g := f) (b2 := base) n (fun j h1 h2 => pk_un (by omega))]
    · have := ih h1 (by omega) h3
      rw [pk_un (by omega)]
      omega
theorem ps_hc_0 {f : Nat → Int32} {base : Nat} : ∀ n, (∀ i, 1 ≤ i → i ≤ n → f (base + i) = 0) → ps_hc f base n = 0 := by
  intro n
  induction n with
  | zero => intro _; rfl
  | succ n ih =>
    intro h
    rw [ps_hcS, ih (fun i h1 h2 => h i h1 (by omega)), if_pos (h (n + 1) (by omega) (by omega))]
end P1
end
section
section P2
/-! a ring of 32 cells against a list of 32 places -/
abbrev T5 : Type := Int32 × Int32 × Int32 × Int32 × Int32
def ps_5 (a b c d e : Nat → Int32) (i : Nat) : T5 := (a i, b i, c i, d i, e i)
theorem ps_5u {a b c d e : Nat → Int32} {k : Nat} {v1 v2 v3 v4 v5 : Int32} (i : Nat) : ps_5 (upd a k v1) (upd b k v2) (upd c k v3) (upd d k v4) (upd e k v5) i = if i = k then (v1, v2, v3, v4, v5) else ps_5 a b c d e i := by
  unfold ps_5 upd
  split <;> rfl
theorem ps_5s {a b c d e : Nat → Int32} {p m : Nat} (i : Nat) : ps_5 (ps_sh a p m) (ps_sh b p m) (ps_sh c p m) (ps_sh d p m) (ps_sh e p m) i = if p ≤ i ∧ i < m then ps_5 a b c d e (i + 1) else ps_5 a b c d e i := by
  unfold ps_5 ps_sh
  split <;> rfl
def ps_Q (V : T5 → Prop) (x y : Nat) (F G : Nat → T5) (h n : Nat) : Prop :=
  h < 32 ∧ n ≤ 32 ∧ ∀ j, j < n → F (x * 32 + (h + j) % 32) = G (y * 32 + j) ∧ V (G (y * 32 + j))
theorem ps_Q_put {V : T5 → Prop} {x y : Nat} {F G F' G' : Nat → T5} {h n : Nat} {t : T5} (H : ps_Q V x y F G h n) (hn : n < 32) (ht : V t)
    (hF : ∀ i, F' i = if i = x * 32 + (h + n) % 32 then t else F i) (hG : ∀ i, G' i = if i = y * 32 + n then t else G i) : ps_Q V x y F' G' h (n + 1) := by
  refine ⟨H.1, by omega, fun j hj => ?_⟩
  have h0 := H.1
  rw [hF, hG]
  by_cases e : j = n
  · subst e
    rw [if_pos rfl, if_pos rfl]
    exact ⟨rfl, ht⟩
  · have h2 : (h + j) % 32 ≠ (h + n) % 32 := by omega
    rw [if_neg (by omega), if_neg (by omega)]
    exact H.2.2 j (by omega)
theorem ps_Q_o {V : T5 → Prop} {x y : Nat} {F G F' G' : Nat → T5} {h n : Nat} (H : ps_Q V x y F G h n)
    (hF : ∀ i, x * 32 ≤ i → i < x * 32 + 32 → F' i = F i) (hG : ∀ i, y * 32 ≤ i → i < y * 32 + 32 → G' i = G i) : ps_Q V x y F' G' h n := by
  refine ⟨H.1, H.2.1, fun j hj => ?_⟩
  have h0 := H.1
  have h1 := H.2.1
  rw [hF _ (by omega) (by omega), hG _ (by omega) (by omega)]
  exact H.2.2 j hj
theorem ps_Q_pop {V : T5 → Prop} {x y : Nat} {F G G' : Nat → T5} {h n : Nat} (H : ps_Q V x y F G h (n + 1))
    (hG : ∀ i, y * 32 ≤ i → i < y * 32 + n → G' i = G (i + 1)) : ps_Q V x y F G' ((h + 1) % 32) n := by
  have h1 := H.2.1
  refine ⟨by omega, by omega, fun j hj => ?_⟩
  rw [hG _ (by omega) (by omega), show ((h + 1) % 32 + j) % 32 = (h + (j + 1)) % 32 by omega]
  exact H.2.2 (j + 1) (by omega)
theorem ps_Q_0 {V : T5 → Prop} {x y : Nat} {F G : Nat → T5} {h : Nat} (hh : h < 32) : ps_Q V x y F G h 0 := ⟨hh, by omega, fun j hj => absurd hj (by omega)⟩
/-! an outbox -/
def ps_O (V : T5 → Prop) (x y : Nat) (F G : Nat → T5) (n : Nat) : Prop :=
  n ≤ 16 ∧ ∀ j, j < n → F (x * 16 + j) = G (y * 16 + j) ∧ V (G (y * 16 + j))
theorem ps_O_put {V : T5 → Prop} {x y : Nat} {F G F' G' : Nat → T5} {n : Nat} {t : T5} (H : ps_O V x y F G n) (hn : n < 16) (ht : V t)
    (hF : ∀ i, F' i = if i = x * 16 + n then t else F i) (hG : ∀ i, G' i = if i = y * 16 + n then t else G i) : ps_O V x y F' G' (n + 1) := by
  refine ⟨by omega, fun j hj => ?_⟩
  rw [hF, hG]
  by_cases e : j = n
  · subst e
    rw [if_pos rfl, if_pos rfl]
    exact ⟨rfl, ht⟩
  · rw [if_neg (by omega), if_neg (by omega)]
    exact H.2 j (by omega)
theorem ps_O_o {V : T5 → Prop} {x y : Nat} {F G F' G' : Nat → T5} {n : Nat} (H : ps_O V x y F G n)
    (hF : ∀ i, x * 16 ≤ i → i < x * 16 + 16 → F' i = F i) (hG : ∀ i, y * 16 ≤ i → i < y * 16 + 16 → G' i = G i) : ps_O V x y F' G' n := by
  have h1 := H.1
  refine ⟨H.1, fun j hj => ?_⟩
  rw [hF _ (by omega) (by omega), hG _ (by omega) (by omega)]
  exact H.2 j hj
theorem ps_O_del {V : T5 → Prop} {x y : Nat} {F G F' G' : Nat → T5} {n j0 : Nat} (H : ps_O V x y F G (n + 1)) (hj : j0 ≤ n)
    (hF : ∀ i, F' i = if x * 16 + j0 ≤ i ∧ i < x * 16 + n then F (i + 1) else F i) (hG : ∀ i, G' i = if y * 16 + j0 ≤ i ∧ i < y * 16 + n then G (i + 1) else G i) : ps_O V x y F' G' n := by
  have h1 := H.1
  refine ⟨by omega, fun j hj => ?_⟩
  rw [hF, hG]
  by_cases e : j0 ≤ j
  · rw [if_pos (by omega), if_pos (by omega)]
    exact H.2 (j + 1) (by omega)
  · rw [if_neg (by omega), if_neg (by omega)]
    exact H.2 j (by omega)
theorem ps_O_mod {V : T5 → Prop} {x y : Nat} {F G F' G' : Nat → T5} {n j0 : Nat} {t : T5} (H : ps_O V x y F G n) (ht : V t)
    (hF : ∀ i, F' i = if i = x * 16 + j0 then t else F i) (hG : ∀ i, G' i = if i = y * 16 + j0 then t else G i) : ps_O V x y F' G' n := by
  refine ⟨H.1, fun j hj => ?_⟩
  rw [hF, hG]
  by_cases e : j = j0
  · subst e
    rw [if_pos rfl, if_pos rfl]
    exact ⟨rfl, ht⟩
  · rw [if_neg (by omega), if_neg (by omega)]
    exact H.2 j hj
theorem ps_O_0 {V : T5 → Prop} {x y : Nat} {F G : Nat → T5} : ps_O V x y F G 0 := ⟨by omega, fun j hj => absurd hj (by omega)⟩
/-! a set of ids: marked cells against a list without repeats -/
def ps_H (f : Nat → Int32) (x : Nat) (g : Nat → Int32) (y m : Nat) : Prop :=
  ps_hc f (x * 17) 16 = m ∧ (∀ i, 1 ≤ i → i ≤ 16 → (f (x * 17 + i) ≠ 0 ↔ ∃ j, j < m ∧ g (y * 16 + j) = nI i)) ∧ ∀ i j, i < j → j < m → g (y * 16 + i) ≠ g (y * 16 + j)
theorem ps_H_le {f : Nat → Int32} {x : Nat} {g : Nat → Int32} {y m : Nat} (H : ps_H f x g y m) : m ≤ 16 := by
  have := ps_hc_le f (x * 17) 16
  rw [H.1] at this
  exact this
theorem ps_H_add {f : Nat → Int32} {x : Nat} {g : Nat → Int32} {y m i : Nat} {v : Int32} (hv : v ≠ 0) (H : ps_H f x g y m) (h1 : 1 ≤ i) (h2 : i ≤ 16) (h0 : f (x * 17 + i) = 0) : m < 16 ∧ ps_H (upd f (x * 17 + i) v) x (upd g (y * 16 + m) (nI i)) y (m + 1) := by
  have hm : m < 16 := by
    rw [← H.1]
    exact ps_hc_lt 16 h1 h2 h0
  refine ⟨hm, ?_, fun k k1 k2 => ?_, fun a b hab hb => ?_⟩
  · rw [ps_hc_set hv 16 h1 h2 h0, H.1]
  · by_cases e : k = i
    · subst e
      rw [pk_us]
      exact ⟨fun _ => ⟨m, by omega, pk_us⟩, fun _ => hv⟩
    · rw [pk_un (by omega), H.2.1 k k1 k2]
      constructor
      · intro ⟨j, hj, ej⟩
        exact ⟨j, by omega, by rw [pk_un (by omega)]; exact ej⟩
      · intro ⟨j, hj, ej⟩
        by_cases e2 : j = m
        · subst e2
          rw [pk_us, nI_eq (by omega) (by omega)] at ej
          exact absurd ej.symm e
        · exact ⟨j, by omega, by rw [pk_un (by omega)] at ej; exact ej⟩
  · rw [pk_un (j := y * 16 + a) (by omega)]
    by_cases e2 : b = m
    · subst e2
      rw [pk_us]
      intro e
      exact ((H.2.1 i h1 h2).mpr ⟨a, by omega, e⟩) h0
    · rw [pk_un (by omega)]
      exact H.2.2 a b hab (by omega)
theorem ps_H_del {f : Nat → Int32} {x : Nat} {g : Nat → Int32} {y m i j0 : Nat} (H : ps_H f x g y (m + 1)) (h1 : 1 ≤ i) (h2 : i ≤ 16) (hj : j0 ≤ m) (h0 : g (y * 16 + j0) = nI i) : ps_H (upd f (x * 17 + i) 0) x (ps_sh g (y * 16 + j0) (y * 16 + m)) y m := by
  have hf : f (x * 17 + i) ≠ 0 := (H.2.1 i h1 h2).mpr ⟨j0, by omega, h0⟩
  have hg : ∀ j, j < m → (j < j0 ∧ ps_sh g (y * 16 + j0) (y * 16 + m) (y * 16 + j) = g (y * 16 + j)) ∨ (j0 ≤ j ∧ ps_sh g (y * 16 + j0) (y * 16 + m) (y * 16 + j) = g (y * 16 + (j + 1))) := by
    intro j hjm
    by_cases e : j < j0
    · exact Or.inl ⟨e, ps_sh_lo (by omega)⟩
    · exact Or.inr ⟨by omega, ps_sh_in (by omega) (by omega)⟩
  refine ⟨?_, fun k k1 k2 => ?_, fun a b hab hb => ?_⟩
  · have := ps_hc_clr 16 h1 h2 hf
    rw [H.1] at this
    omega
  · by_cases e : k = i
    · subst e
      rw [pk_us]
      refine ⟨fun h => absurd rfl h, fun ⟨j, hj, ej⟩ => ?_⟩
      rcases hg j hj with ⟨ha, hb⟩ | ⟨ha, hb⟩
      · rw [hb, ← h0] at ej
        exact absurd ej (H.2.2 j j0 (by omega) (by omega))
      · rw [hb, ← h0] at ej
        exact absurd ej.symm (H.2.2 j0 (j + 1) (by omega) (by omega))
    · rw [pk_un (by omega), H.2.1 k k1 k2]
      constructor
      · intro ⟨j, hj, ej⟩
        have hne : j ≠ j0 := by
          intro e3
          rw [e3, h0, nI_eq (by omega) (by omega)] at ej
          exact e ej.symm
        by_cases e2 : j < j0
        · refine ⟨j, by omega, ?_⟩
          rw [ps_sh_lo (by omega)]
          exact ej
        · obtain ⟨j', rfl⟩ : ∃ j', j = j' + 1 := ⟨j - 1, by omega⟩
          refine ⟨j', by omega, ?_⟩
          rw [ps_sh_in (by omega) (by omega)]
          exact ej
      · intro ⟨j, hj, ej⟩
        rcases hg j hj with ⟨ha, hb⟩ | ⟨ha, hb⟩
        · exact ⟨j, by omega, hb ▸ ej⟩
        · exact ⟨j + 1, by omega, hb ▸ ej⟩
  · rcases hg a (by omega) with ⟨ha, ea⟩ | ⟨ha, ea⟩ <;> rcases hg b hb with ⟨hb', eb⟩ | ⟨hb', eb⟩ <;> rw [ea, eb] <;> exact H.2.2 _ _ (by omega) (by omega)
theorem ps_H_o {f f' : Nat → Int32} {x : Nat} {g g' : Nat → Int32} {y m : Nat} (H : ps_H f x g y m) (hf : ∀ i, 1 ≤ i → i ≤ 16 → f' (x * 17 + i) = f (x * 17 + i)) (hg : ∀ i, y * 16 ≤ i → i < y * 16 + 16 → g' i = g i) : ps_H f' x g' y m := by
  have hm := ps_H_le H
  refine ⟨?_, fun k k1 k2 => ?_, fun a b hab hb => ?_⟩
  · rw [ps_hc_cg (g := f) (b2 := x * 17) 16 hf]
    exact H.1
  · rw [hf k k1 k2, H.2.1 k k1 k2]
    constructor
    · intro ⟨j, hj, ej⟩
      exact ⟨j, hj, by rw [hg _ (by omega) (by omega)]; exact ej⟩
    · intro ⟨j, hj, ej⟩
      exact ⟨j, hj, by rw [hg _ (by omega) (by omega)] at ej; exact ej⟩
  · rw [hg _ (by omega) (by omega), hg _ (by omega) (by omega)]
    exact H.2.2 a b hab hb
theorem ps_H_0 {f : Nat → Int32} {x : Nat} {g : Nat → Int32} {y : Nat} (hf : ∀ i, 1 ≤ i → i ≤ 16 → f (x * 17 + i) = 0) : ps_H f x g y 0 := by
  refine ⟨ps_hc_0 16 hf, fun k k1 k2 => ?_, fun a b hab hb => absurd hb (by omega)⟩
  rw [hf k k1 k2]
  exact ⟨fun h => absurd rfl h, fun ⟨j, hj, _⟩ => absurd hj (by omega)⟩
end P2
end
section
section P3
/-! the retained entries: sorted by topic at X, in the order of making at Y -/
def ps_R (n : Nat) (tX sX tY sY : Nat → Int32) : Prop :=
  n ≤ 8 ∧ (∀ i, i < n → ∃ t, t < 4096 ∧ tX i = nI t) ∧ (∀ i, i < n → ∃ s, 1 ≤ s ∧ s ≤ 24 ∧ sX i = nI s) ∧ (∀ i j, i < j → j < n → tX i < tX j) ∧ (∀ i j, i < j → j < n → tY i ≠ tY j)
    ∧ (∀ i, i < n → ∃ j, j < n ∧ tY j = tX i ∧ sY j = sX i) ∧ ∀ j, j < n → ∃ i, i < n ∧ tX i = tY j ∧ sX i = sY j
theorem ps_lt_ne {a b : Int32} (h : a < b) : a ≠ b := by
  intro e
  rw [e] at h
  exact Int32.lt_irrefl h
theorem ps_lt_asym {a b : Int32} (h : a < b) (h2 : b < a) : False := Int32.lt_irrefl (Int32.lt_trans h h2)
theorem ps_tri {a b : Int32} (h : ¬ a < b) (h2 : a ≠ b) : b < a := by
  rw [Int32.lt_iff_toInt_lt] at h ⊢
  have h3 : a.toInt ≠ b.toInt := fun e => h2 (Int32.toInt_inj.mp e)
  omega
/-- one topic stands at one place of X -/
theorem ps_R_uX {n : Nat} {tX sX tY sY : Nat → Int32} (H : ps_R n tX sX tY sY) {i j : Nat} (hi : i < n) (hj : j < n) (e : tX i = tX j) : i = j := by
  apply Classical.byContradiction
  intro hne
  by_cases h : i < j
  · exact ps_lt_ne (H.2.2.2.1 i j h hj) e
  · exact ps_lt_ne (H.2.2.2.1 j i (by omega) hi) e.symm
theorem ps_R_uY {n : Nat} {tX sX tY sY : Nat → Int32} (H : ps_R n tX sX tY sY) {i j : Nat} (hi : i < n) (hj : j < n) (e : tY i = tY j) : i = j := by
  apply Classical.byContradiction
  intro hne
  by_cases h : i < j
  · exact H.2.2.2.2.1 i j h hj e
  · exact H.2.2.2.2.1 j i (by omega) hi e.symm
/-- the same topic: the same serial -/
theorem ps_R_ser {n : Nat} {tX sX tY sY : Nat → Int32} (H : ps_R n tX sX tY sY) {i j : Nat} (hi : i < n) (hj : j < n) (e : tX i = tY j) : sX i = sY j := by
  obtain ⟨i', hi', e1, e2⟩ := H.2.2.2.2.2.2 j hj
  have : i = i' := ps_R_uX H hi hi' (e.trans e1.symm)
  rw [this]
  exact e2
theorem ps_R_set {n : Nat} {tX sX tY sY : Nat → Int32} (H : ps_R n tX sX tY sY) {i j s : Nat} (hi : i < n) (hj : j < n) (e : tX i = tY j) (h1 : 1 ≤ s) (h2 : s ≤ 24) : ps_R n tX (upd sX i (nI s)) tY (upd sY j (nI s)) := by
  refine ⟨H.1, H.2.1, fun k hk => ?_, H.2.2.2.1, H.2.2.2.2.1, fun k hk => ?_, fun k hk => ?_⟩
  · by_cases ek : k = i
    · exact ⟨s, h1, h2, by rw [ek, pk_us]⟩
    · rw [pk_un ek]
      exact H.2.2.1 k hk
  · by_cases ek : k = i
    · exact ⟨j, hj, by rw [ek, e], by rw [ek, pk_us, pk_us]⟩
    · obtain ⟨k', hk', a, b⟩ := H.2.2.2.2.2.1 k hk
      have : k' ≠ j := by
        intro e3
        rw [e3, ← e] at a
        exact ek (ps_R_uX H hk hi a.symm)
      exact ⟨k', hk', a, by rw [pk_un this, pk_un ek]; exact b⟩
  · by_cases ek : k = j
    · exact ⟨i, hi, by rw [ek, e], by rw [ek, pk_us, pk_us]⟩
    · obtain ⟨k', hk', a, b⟩ := H.2.2.2.2.2.2 k hk
      have : k' ≠ i := by
        intro e3
        rw [e3, e] at a
        exact ek (ps_R_uY H hk hj a.symm)
      exact ⟨k', hk', a, by rw [pk_un this, pk_un ek]; exact b⟩
theorem ps_shc {f : Nat → Int32} {a m : Nat} (i : Nat) (hi : i < m) : (i < a ∧ ps_sh f a m i = f i) ∨ (a ≤ i ∧ ps_sh f a m i = f (i + 1)) := by
  by_cases h : i < a
  · exact Or.inl ⟨h, ps_sh_lo h⟩
  · exact Or.inr ⟨by omega, ps_sh_in (by omega) hi⟩
/-- a place of a list less one entry -/
theorem ps_shx {a m k : Nat} (hk : k < m + 1) (hne : k ≠ a) : ∃ i, i < m + 1 ∧ (a ≤ m → i < m) ∧ ((i < a ∧ i = k) ∨ (a ≤ i ∧ i + 1 = k)) := by
  by_cases h : k < a
  · exact ⟨k, hk, fun _ => by omega, Or.inl ⟨h, rfl⟩⟩
  · exact ⟨k - 1, by omega, fun _ => by omega, Or.inr ⟨by omega, by omega⟩⟩
theorem ps_shv {f : Nat → Int32} {a m i k : Nat} (hi : i < m) (h : (i < a ∧ i = k) ∨ (a ≤ i ∧ i + 1 = k)) : ps_sh f a m i = f k := by
  rcases h with ⟨h1, rfl⟩ | ⟨h1, rfl⟩
  · exact ps_sh_lo h1
  · exact ps_sh_in h1 hi
theorem ps_R_del {n : Nat} {tX sX tY sY : Nat → Int32} (H : ps_R (n + 1) tX sX tY sY) {i j : Nat} (hi : i < n + 1) (hj : j < n + 1) (e : tX i = tY j) : ps_R n (ps_sh tX i n) (ps_sh sX i n) (ps_sh tY j n) (ps_sh sY j n) := by
  have h8 := H.1
  -- the k-th of the shortened list is the k'-th of the old one
  have fw : ∀ a k, a < n + 1 → k < n → ∃ k', k' < n + 1 ∧ k' ≠ a ∧ ((k < a ∧ k = k') ∨ (a ≤ k ∧ k + 1 = k')) := by
    intro a k ha hk
    by_cases h : k < a
    · exact ⟨k, by omega, by omega, Or.inl ⟨h, rfl⟩⟩
    · exact ⟨k + 1, by omega, by omega, Or.inr ⟨by omega, rfl⟩⟩
  refine ⟨by omega, fun k hk => ?_, fun k hk => ?_, fun a b hab hb => ?_, fun a b hab hb => ?_, fun k hk => ?_, fun k hk => ?_⟩
  · obtain ⟨k', h1, h2, h3⟩ := fw i k hi hk
    rw [ps_shv hk h3]
    exact H.2.1 k' h1
  · obtain ⟨k', h1, h2, h3⟩ := fw i k hi hk
    rw [ps_shv hk h3]
    exact H.2.2.1 k' h1
  · obtain ⟨a', a1, a2, a3⟩ := fw i a hi (by omega)
    obtain ⟨b', b1, b2, b3⟩ := fw i b hi hb
    rw [ps_shv (by omega) a3, ps_shv hb b3]
    exact H.2.2.2.1 a' b' (by omega) b1
  · obtain ⟨a', a1, a2, a3⟩ := fw j a hj (by omega)
    obtain ⟨b', b1, b2, b3⟩ := fw j b hj hb
    rw [ps_shv (by omega) a3, ps_shv hb b3]
    exact H.2.2.2.2.1 a' b' (by omega) b1
  · obtain ⟨k', h1, h2, h3⟩ := fw i k hi hk
    rw [ps_shv hk h3, ps_shv hk h3]
    obtain ⟨m, hm, e1, e2⟩ := H.2.2.2.2.2.1 k' h1
    have hne : m ≠ j := by
      intro e3
      rw [e3, ← e] at e1
      exact h2 (ps_R_uX H h1 hi e1.symm)
    obtain ⟨q, q1, q2, q3⟩ := ps_shx (a := j) (m := n) hm hne
    exact ⟨q, q2 (by omega), by rw [ps_shv (q2 (by omega)) q3]; exact e1, by rw [ps_shv (q2 (by omega)) q3]; exact e2⟩
  · obtain ⟨k', h1, h2, h3⟩ := fw j k hj hk
    rw [ps_shv hk h3, ps_shv hk h3]
    obtain ⟨m, hm, e1, e2⟩ := H.2.2.2.2.2.2 k' h1
    have hne : m ≠ i := by
      intro e3
      rw [e3, e] at e1
      exact h2 (ps_R_uY H h1 hj e1.symm)
    obtain ⟨q, q1, q2, q3⟩ := ps_shx (a := i) (m := n) hm hne
    exact ⟨q, q2 (by omega), by rw [ps_shv (q2 (by omega)) q3]; exact e1, by rw [ps_shv (q2 (by omega)) q3]; exact e2⟩
/-- the list with a new entry at p: the k-th is the new one, or the k'-th of the old -/
theorem ps_in_new {f : Nat → Int32} {p n : Nat} {v : Int32} : upd (ps_rs f p n) p v p = v := pk_us
theorem ps_in_lo {f : Nat → Int32} {p n k : Nat} {v : Int32} (h : k < p) : upd (ps_rs f p n) p v k = f k := by
  rw [pk_un (by omega), ps_rs_lo (by omega)]
theorem ps_in_hi {f : Nat → Int32} {p n k : Nat} {v : Int32} (h : p ≤ k) (h2 : k < n) : upd (ps_rs f p n) p v (k + 1) = f k := by
  rw [pk_un (by omega), ps_rs_in (by omega) (by omega), Nat.add_sub_cancel]
theorem ps_R_ins {n : Nat} {tX sX tY sY : Nat → Int32} (H : ps_R n tX sX tY sY) (hn : n < 8) {p t s : Nat} (hp : p ≤ n) (ht : t < 4096) (h1 : 1 ≤ s) (h2 : s ≤ 24)
    (hlo : ∀ i, i < p → tX i < nI t) (hhi : ∀ i, p ≤ i → i < n → nI t < tX i) : ps_R (n + 1) (upd (ps_rs tX p n) p (nI t)) (upd (ps_rs sX p n) p (nI s)) (upd tY n (nI t)) (upd sY n (nI s)) := by
  have cs : ∀ k, k < n + 1 → k = p ∨ (k < p ∧ k < n) ∨ ∃ k', p ≤ k' ∧ k' < n ∧ k = k' + 1 := by
    intro k hk
    by_cases a : k = p
    · exact Or.inl a
    · by_cases b : k < p
      · exact Or.inr (Or.inl ⟨b, by omega⟩)
      · exact Or.inr (Or.inr ⟨k - 1, by omega, by omega, by omega⟩)
  have hX : ∀ i, i < n → tX i ≠ nI t := by
    intro i hi
    by_cases b : i < p
    · exact ps_lt_ne (hlo i b)
    · exact (ps_lt_ne (hhi i (by omega) hi)).symm
  have hY : ∀ j, j < n → tY j ≠ nI t := by
    intro j hj e
    obtain ⟨i, hi, e1, _⟩ := H.2.2.2.2.2.2 j hj
    exact hX i hi (e1.trans e)
  refine ⟨by omega, fun k hk => ?_, fun k hk => ?_, fun a b hab hb => ?_, fun a b hab hb => ?_, fun k hk => ?_, fun k hk => ?_⟩
  · rcases cs k hk with rfl | ⟨a, b⟩ | ⟨k', a, b, rfl⟩
    · exact ⟨t, ht, ps_in_new⟩
    · rw [ps_in_lo a]; exact H.2.1 k b
    · rw [ps_in_hi a b]; exact H.2.1 k' b
  · rcases cs k hk with rfl | ⟨a, b⟩ | ⟨k', a, b, rfl⟩
    · exact ⟨s, h1, h2, ps_in_new⟩
    · rw [ps_in_lo a]; exact H.2.2.1 k b
    · rw [ps_in_hi a b]; exact H.2.2.1 k' b
  · rcases cs a (by omega) with rfl | ⟨a1, a2⟩ | ⟨a', a1, a2, rfl⟩
    · rcases cs b hb with rfl | ⟨b1, b2⟩ | ⟨b', b1, b2, rfl⟩
      · omega
      · omega
      · rw [ps_in_new, ps_in_hi b1 b2]
        exact hhi b' b1 b2
    · rw [ps_in_lo a1]
      rcases cs b hb with rfl | ⟨b1, b2⟩ | ⟨b', b1, b2, rfl⟩
      · rw [ps_in_new]
        exact hlo a a1
      · rw [ps_in_lo b1]
        exact H.2.2.2.1 a b hab b2
      · rw [ps_in_hi b1 b2]
        exact H.2.2.2.1 a b' (by omega) b2
    · rw [ps_in_hi a1 a2]
      rcases cs b hb with rfl | ⟨b1, b2⟩ | ⟨b', b1, b2, rfl⟩
      · omega
      · omega
      · rw [ps_in_hi b1 b2]
        exact H.2.2.2.1 a' b' (by omega) b2
  · rw [pk_un (j := a) (by omega)]
    by_cases e : b = n
    · rw [e, pk_us]
      exact hY a (by omega)
    · rw [pk_un e]
      exact H.2.2.2.2.1 a b hab (by omega)
  · rcases cs k hk with rfl | ⟨a, b⟩ | ⟨k', a, b, rfl⟩
    · exact ⟨n, by omega, by rw [pk_us, ps_in_new], by rw [pk_us, ps_in_new]⟩
    · rw [ps_in_lo a, ps_in_lo a]
      obtain ⟨j, hj, e1, e2⟩ := H.2.2.2.2.2.1 k b
      exact ⟨j, by omega, by rw [pk_un (by omega)]; exact e1, by rw [pk_un (by omega)]; exact e2⟩
    · rw [ps_in_hi a b, ps_in_hi a b]
      obtain ⟨j, hj, e1, e2⟩ := H.2.2.2.2.2.1 k' b
      exact ⟨j, by omega, by rw [pk_un (by omega)]; exact e1, by rw [pk_un (by omega)]; exact e2⟩
  · by_cases e : k = n
    · exact ⟨p, by omega, by rw [e, pk_us, pk_us], by rw [e, pk_us, pk_us]⟩
    · rw [pk_un e, pk_un e]
      obtain ⟨i, hi, e1, e2⟩ := H.2.2.2.2.2.2 k (by omega)
      by_cases b : i < p
      · exact ⟨i, by omega, by rw [ps_in_lo b]; exact e1, by rw [ps_in_lo b]; exact e2⟩
      · exact ⟨i + 1, by omega, by rw [ps_in_hi (by omega) hi]; exact e1, by rw [ps_in_hi (by omega) hi]; exact e2⟩
end P3
end
section
section P4
/-! the groups of fields, and the relation of each. Side (c, b): client c, b = 0 the client's end, b = 1 the broker's: X numbers it 4 b + c, Y 2 c + b -/
abbrev TA : Type := Nat → Int32
abbrev TO : Type := TA × TA × TA × TA × TA × TA
abbrev TW : Type := TA × TA × TA × TA × TA × TA × TA
abbrev TR : Type := Int32 × TA × TA
/-- a packet: kind, id, serial, quality, mark -/
def ps_PV (t : T5) : Prop := (∃ i, i ≤ 16 ∧ t.2.1 = nI i ∧ (t.1 = 1 → (∃ s, 1 ≤ s ∧ s ≤ 24 ∧ t.2.2.1 = nI s) ∧ (t.2.2.2.1 = 0 ∨ ((t.2.2.2.1 = 1 ∨ t.2.2.2.1 = 2) ∧ 1 ≤ i))) ∧ (¬ t.1 = 1 → 1 ≤ i)) ∧ (t.2.2.2.2 = 0 ∨ t.2.2.2.2 = 1)
/-- an entry: serial, quality, id, mark, stage -/
def ps_EV (t : T5) : Prop := (∃ s, 1 ≤ s ∧ s ≤ 24 ∧ t.1 = nI s) ∧ (t.2.1 = 1 ∨ t.2.1 = 2) ∧ (∃ i, 1 ≤ i ∧ i ≤ 16 ∧ t.2.2.1 = nI i) ∧ (t.2.2.2.1 = 0 ∨ t.2.2.2.1 = 1)
def ps_o5 (o : TO) : Nat → T5 := ps_5 o.2.1 o.2.2.1 o.2.2.2.1 o.2.2.2.2.1 o.2.2.2.2.2
def ps_w5 (w : TW) : Nat → T5 := ps_5 w.2.2.1 w.2.2.2.1 w.2.2.2.2.1 w.2.2.2.2.2.1 w.2.2.2.2.2.2
def ps_RO (o p : TO) : Prop := ∀ c b, c < 4 → b < 2 → ∃ n, (b = 0 → n ≤ 4) ∧ o.1 (4 * b + c) = nI n ∧ p.1 (2 * c + b) = nI n ∧ ps_O ps_EV (4 * b + c) (2 * c + b) (ps_o5 o) (ps_o5 p) n
def ps_RW (w : TW) (z : TO) : Prop := ∀ c b, c < 4 → b < 2 → ∃ h n, w.1 (4 * b + c) = nI h ∧ w.2.1 (4 * b + c) = nI n ∧ z.1 (2 * c + b) = nI n ∧ ps_Q ps_PV (4 * b + c) (2 * c + b) (ps_w5 w) (ps_o5 z) h n
def ps_RH (f : TA) (g m : TA) : Prop := ∀ c b, c < 4 → b < 2 → ∃ n, m (2 * c + b) = nI n ∧ ps_H f (4 * b + c) g (2 * c + b) n
def ps_RR (r q : TR) : Prop := ∃ n, r.1 = nI n ∧ q.1 = nI n ∧ ps_R n r.2.1 r.2.2 q.2.1 q.2.2
theorem ps_ne {c b c' b' : Nat} (hc : c < 4) (hc' : c' < 4) (hb : b < 2) (hb' : b' < 2) (h : ¬ (c' = c ∧ b' = b)) : 4 * b' + c' ≠ 4 * b + c ∧ 2 * c' + b' ≠ 2 * c + b := by omega
theorem ps_RO_put {o p : TO} (H : ps_RO o p) {c b n : Nat} (hc : c < 4) (hb : b < 2) (h4 : b = 0 → n < 4) (hn : n < 16) (e : o.1 (4 * b + c) = nI n) {s q i m g : Int32} (hv : ps_EV (s, q, i, m, g)) :
    ps_RO (upd o.1 (4 * b + c) (nI (n + 1)), upd o.2.1 ((4 * b + c) * 16 + n) s, upd o.2.2.1 ((4 * b + c) * 16 + n) q, upd o.2.2.2.1 ((4 * b + c) * 16 + n) i, upd o.2.2.2.2.1 ((4 * b + c) * 16 + n) m, upd o.2.2.2.2.2 ((4 * b + c) * 16 + n) g)
      (upd p.1 (2 * c + b) (nI (n + 1)), upd p.2.1 ((2 * c + b) * 16 + n) s, upd p.2.2.1 ((2 * c + b) * 16 + n) q, upd p.2.2.2.1 ((2 * c + b) * 16 + n) i, upd p.2.2.2.2.1 ((2 * c + b) * 16 + n) m, upd p.2.2.2.2.2 ((2 * c + b) * 16 + n) g) := by
  intro c' b' hc' hb'
  obtain ⟨n', a1, a2, a3, a4⟩ := H c' b' hc' hb'
  by_cases he : c' = c ∧ b' = b
  · obtain ⟨rfl, rfl⟩ := he
    have hnn : n' = n := by
      have := a4.1
      rw [a2, nI_eq (by omega) (by omega)] at e
      exact e
    subst hnn
    exact ⟨n' + 1, fun z => by have := h4 z; omega, pk_us, pk_us, ps_O_put a4 hn hv (fun i => ps_5u i) (fun i => ps_5u i)⟩
  · obtain ⟨x1, x2⟩ := ps_ne hc hc' hb hb' he
    exact ⟨n', a1, (pk_un x1).trans a2, (pk_un x2).trans a3, ps_O_o a4 (fun i h1 h2 => (ps_5u i).trans (if_neg (by omega))) (fun i h1 h2 => (ps_5u i).trans (if_neg (by omega)))⟩
theorem ps_RO_del {o p : TO} (H : ps_RO o p) {c b n j : Nat} (hc : c < 4) (hb : b < 2) (hj : j ≤ n) (hn : n < 16) (e : o.1 (4 * b + c) = nI (n + 1)) :
    ps_RO (upd o.1 (4 * b + c) (nI n), ps_sh o.2.1 ((4 * b + c) * 16 + j) ((4 * b + c) * 16 + n), ps_sh o.2.2.1 ((4 * b + c) * 16 + j) ((4 * b + c) * 16 + n), ps_sh o.2.2.2.1 ((4 * b + c) * 16 + j) ((4 * b + c) * 16 + n), ps_sh o.2.2.2.2.1 ((4 * b + c) * 16 + j) ((4 * b + c) * 16 + n), ps_sh o.2.2.2.2.2 ((4 * b + c) * 16 + j) ((4 * b + c) * 16 + n))
      (upd p.1 (2 * c + b) (nI n), ps_sh p.2.1 ((2 * c + b) * 16 + j) ((2 * c + b) * 16 + n), ps_sh p.2.2.1 ((2 * c + b) * 16 + j) ((2 * c + b) * 16 + n), ps_sh p.2.2.2.1 ((2 * c + b) * 16 + j) ((2 * c + b) * 16 + n), ps_sh p.2.2.2.2.1 ((2 * c + b) * 16 + j) ((2 * c + b) * 16 + n), ps_sh p.2.2.2.2.2 ((2 * c + b) * 16 + j) ((2 * c + b) * 16 + n)) := by
  intro c' b' hc' hb'
  obtain ⟨n', a1, a2, a3, a4⟩ := H c' b' hc' hb'
  by_cases he : c' = c ∧ b' = b
  · obtain ⟨rfl, rfl⟩ := he
    have hnn : n' = n + 1 := by
      have := a4.1
      rw [a2, nI_eq (by omega) (by omega)] at e
      exact e
    subst hnn
    exact ⟨n, fun z => by have := a1 z; omega, pk_us, pk_us, ps_O_del a4 hj (fun i => ps_5s i) (fun i => ps_5s i)⟩
  · obtain ⟨x1, x2⟩ := ps_ne hc hc' hb hb' he
    exact ⟨n', a1, (pk_un x1).trans a2, (pk_un x2).trans a3, ps_O_o a4 (fun i h1 h2 => (ps_5s i).trans (if_neg (by omega))) (fun i h1 h2 => (ps_5s i).trans (if_neg (by omega)))⟩
theorem ps_5g {a b c d e : TA} {k : Nat} {v : Int32} (i : Nat) : ps_5 a b c d (upd e k v) i = if i = k then (a k, b k, c k, d k, v) else ps_5 a b c d e i := by
  unfold ps_5 upd
  by_cases h : i = k
  · rw [if_pos h, if_pos h, h]
  · rw [if_neg h, if_neg h]
theorem ps_RO_mod {o p : TO} (H : ps_RO o p) {c b n j : Nat} (hc : c < 4) (hb : b < 2) (hj : j < n) (hn : n ≤ 16) (e : o.1 (4 * b + c) = nI n) {g : Int32} :
    ps_RO (o.1, o.2.1, o.2.2.1, o.2.2.2.1, o.2.2.2.2.1, upd o.2.2.2.2.2 ((4 * b + c) * 16 + j) g) (p.1, p.2.1, p.2.2.1, p.2.2.2.1, p.2.2.2.2.1, upd p.2.2.2.2.2 ((2 * c + b) * 16 + j) g) := by
  intro c' b' hc' hb'
  obtain ⟨n', a1, a2, a3, a4⟩ := H c' b' hc' hb'
  by_cases he : c' = c ∧ b' = b
  · obtain ⟨rfl, rfl⟩ := he
    have hnn : n' = n := by
      have := a4.1
      rw [a2, nI_eq (by omega) (by omega)] at e
      exact e
    subst hnn
    have hx := a4.2 j hj
    have ev : ps_EV (p.2.1 ((2 * c' + b') * 16 + j), p.2.2.1 ((2 * c' + b') * 16 + j), p.2.2.2.1 ((2 * c' + b') * 16 + j), p.2.2.2.2.1 ((2 * c' + b') * 16 + j), g) := hx.2
    refine ⟨n', a1, a2, a3, ps_O_mod a4 ev (j0 := j) (fun i => ?_) (fun i => ps_5g i)⟩
    refine (ps_5g i).trans ?_
    have hy := hx.1
    simp only [ps_o5, ps_5, Prod.mk.injEq] at hy
    rw [hy.1, hy.2.1, hy.2.2.1, hy.2.2.2.1]
    rfl
  · obtain ⟨x1, x2⟩ := ps_ne hc hc' hb hb' he
    exact ⟨n', a1, a2, a3, ps_O_o a4 (fun i h1 h2 => (ps_5g i).trans (if_neg (by omega))) (fun i h1 h2 => (ps_5g i).trans (if_neg (by omega)))⟩
/-- client c's two outboxes emptied -/
theorem ps_RO_clr {o p : TO} (H : ps_RO o p) {c : Nat} (hc : c < 4) {o1 p1 : TA} (ho : ∀ b, b < 2 → o1 (4 * b + c) = nI 0) (hp : ∀ b, b < 2 → p1 (2 * c + b) = nI 0)
    (ho' : ∀ b c', b < 2 → c' < 4 → c' ≠ c → o1 (4 * b + c') = o.1 (4 * b + c')) (hp' : ∀ b c', b < 2 → c' < 4 → c' ≠ c → p1 (2 * c' + b) = p.1 (2 * c' + b)) : ps_RO (o1, o.2) (p1, p.2) := by
  intro c' b' hc' hb'
  by_cases he : c' = c
  · subst he
    exact ⟨0, fun _ => by omega, ho b' hb', hp b' hb', ps_O_0⟩
  · obtain ⟨n', a1, a2, a3, a4⟩ := H c' b' hc' hb'
    exact ⟨n', a1, (ho' b' c' hb' hc' he).trans a2, (hp' b' c' hb' hc' he).trans a3, a4⟩
theorem ps_RW_put {w : TW} {z : TO} (H : ps_RW w z) {c b n h : Nat} (hc : c < 4) (hb : b < 2) (hn : n < 32) (hh : h < 32) (e : w.2.1 (4 * b + c) = nI n) (e2 : w.1 (4 * b + c) = nI h) {k i s q m : Int32} (hv : ps_PV (k, i, s, q, m)) :
    ps_RW (w.1, upd w.2.1 (4 * b + c) (nI (n + 1)), upd w.2.2.1 ((4 * b + c) * 32 + (h + n) % 32) k, upd w.2.2.2.1 ((4 * b + c) * 32 + (h + n) % 32) i, upd w.2.2.2.2.1 ((4 * b + c) * 32 + (h + n) % 32) s, upd w.2.2.2.2.2.1 ((4 * b + c) * 32 + (h + n) % 32) q, upd w.2.2.2.2.2.2 ((4 * b + c) * 32 + (h + n) % 32) m)
      (upd z.1 (2 * c + b) (nI (n + 1)), upd z.2.1 ((2 * c + b) * 32 + n) k, upd z.2.2.1 ((2 * c + b) * 32 + n) i, upd z.2.2.2.1 ((2 * c + b) * 32 + n) s, upd z.2.2.2.2.1 ((2 * c + b) * 32 + n) q, upd z.2.2.2.2.2 ((2 * c + b) * 32 + n) m) := by
  intro c' b' hc' hb'
  obtain ⟨h', n', a0, a2, a3, a4⟩ := H c' b' hc' hb'
  have l1 := a4.1
  have l2 := a4.2.1
  by_cases he : c' = c ∧ b' = b
  · obtain ⟨rfl, rfl⟩ := he
    have hnn : n' = n := by
      rw [a2, nI_eq (by omega) (by omega)] at e
      exact e
    have hhh : h' = h := by
      rw [a0, nI_eq (by omega) (by omega)] at e2
      exact e2
    subst hnn hhh
    exact ⟨h', n' + 1, a0, pk_us, pk_us, ps_Q_put a4 hn hv (fun i => ps_5u i) (fun i => ps_5u i)⟩
  · obtain ⟨x1, x2⟩ := ps_ne hc hc' hb hb' he
    exact ⟨h', n', a0, (pk_un x1).trans a2, (pk_un x2).trans a3, ps_Q_o a4 (fun i h1 h2 => (ps_5u i).trans (if_neg (by omega))) (fun i h1 h2 => (ps_5u i).trans (if_neg (by omega)))⟩
theorem ps_RW_pop {w : TW} {z : TO} (H : ps_RW w z) {c b n h : Nat} (hc : c < 4) (hb : b < 2) (hn : n < 32) (hh : h < 32) (e : w.2.1 (4 * b + c) = nI (n + 1)) (e2 : w.1 (4 * b + c) = nI h) :
    ps_RW (upd w.1 (4 * b + c) (nI ((h + 1) % 32)), upd w.2.1 (4 * b + c) (nI n), w.2.2)
      (upd z.1 (2 * c + b) (nI n), ps_sh z.2.1 ((2 * c + b) * 32) ((2 * c + b) * 32 + n), ps_sh z.2.2.1 ((2 * c + b) * 32) ((2 * c + b) * 32 + n), ps_sh z.2.2.2.1 ((2 * c + b) * 32) ((2 * c + b) * 32 + n), ps_sh z.2.2.2.2.1 ((2 * c + b) * 32) ((2 * c + b) * 32 + n), ps_sh z.2.2.2.2.2 ((2 * c + b) * 32) ((2 * c + b) * 32 + n)) := by
  intro c' b' hc' hb'
  obtain ⟨h', n', a0, a2, a3, a4⟩ := H c' b' hc' hb'
  have l1 := a4.1
  have l2 := a4.2.1
  by_cases he : c' = c ∧ b' = b
  · obtain ⟨rfl, rfl⟩ := he
    have hnn : n' = n + 1 := by
      rw [a2, nI_eq (by omega) (by omega)] at e
      exact e
    have hhh : h' = h := by
      rw [a0, nI_eq (by omega) (by omega)] at e2
      exact e2
    subst hnn hhh
    exact ⟨(h' + 1) % 32, n, pk_us, pk_us, pk_us, ps_Q_pop a4 (fun i h1 h2 => (ps_5s i).trans (if_pos (by omega)))⟩
  · obtain ⟨x1, x2⟩ := ps_ne hc hc' hb hb' he
    exact ⟨h', n', (pk_un x1).trans a0, (pk_un x1).trans a2, (pk_un x2).trans a3, ps_Q_o a4 (fun i h1 h2 => rfl) (fun i h1 h2 => (ps_5s i).trans (if_neg (by omega)))⟩
theorem ps_RW_clr {w : TW} {z : TO} (H : ps_RW w z) {c : Nat} (hc : c < 4) {w1 z1 : TA} (ho : ∀ b, b < 2 → w1 (4 * b + c) = nI 0) (hp : ∀ b, b < 2 → z1 (2 * c + b) = nI 0)
    (ho' : ∀ b c', b < 2 → c' < 4 → c' ≠ c → w1 (4 * b + c') = w.2.1 (4 * b + c')) (hp' : ∀ b c', b < 2 → c' < 4 → c' ≠ c → z1 (2 * c' + b) = z.1 (2 * c' + b)) : ps_RW (w.1, w1, w.2.2) (z1, z.2) := by
  intro c' b' hc' hb'
  obtain ⟨h', n', a0, a2, a3, a4⟩ := H c' b' hc' hb'
  by_cases he : c' = c
  · subst he
    exact ⟨h', 0, a0, ho b' hb', hp b' hb', ps_Q_0 a4.1⟩
  · exact ⟨h', n', a0, (ho' b' c' hb' hc' he).trans a2, (hp' b' c' hb' hc' he).trans a3, a4⟩
theorem ps_RH_add {f g m : TA} (H : ps_RH f g m) {c b n i : Nat} (hc : c < 4) (hb : b < 2) (e : m (2 * c + b) = nI n) (hn : n ≤ 16) (h1 : 1 ≤ i) (h2 : i ≤ 16) (h0 : f ((4 * b + c) * 17 + i) = 0) :
    n < 16 ∧ ps_RH (upd f ((4 * b + c) * 17 + i) 1) (upd g ((2 * c + b) * 16 + n) (nI i)) (upd m (2 * c + b) (nI (n + 1))) := by
  have one : (1 : Int32) ≠ 0 := by decide
  have key : ∀ n', m (2 * c + b) = nI n' → ps_H f (4 * b + c) g (2 * c + b) n' → n' = n := by
    intro n' a1 a2
    have := ps_H_le a2
    rw [a1, nI_eq (by omega) (by omega)] at e
    exact e
  obtain ⟨n', a1, a2⟩ := H c b hc hb
  cases key n' a1 a2
  obtain ⟨q1, q2⟩ := ps_H_add one a2 h1 h2 h0
  refine ⟨q1, fun c' b' hc' hb' => ?_⟩
  by_cases he : c' = c ∧ b' = b
  · obtain ⟨rfl, rfl⟩ := he
    exact ⟨n + 1, pk_us, q2⟩
  · obtain ⟨x1, x2⟩ := ps_ne hc hc' hb hb' he
    obtain ⟨n', a1, a2⟩ := H c' b' hc' hb'
    exact ⟨n', (pk_un x2).trans a1, ps_H_o a2 (fun i h1 h2 => pk_un (by omega)) (fun i h1 h2 => pk_un (by omega))⟩
theorem ps_RH_del {f g m : TA} (H : ps_RH f g m) {c b n i j : Nat} (hc : c < 4) (hb : b < 2) (e : m (2 * c + b) = nI (n + 1)) (hn : n < 16) (hj : j ≤ n) (h1 : 1 ≤ i) (h2 : i ≤ 16) (h0 : g ((2 * c + b) * 16 + j) = nI i) :
    ps_RH (upd f ((4 * b + c) * 17 + i) 0) (ps_sh g ((2 * c + b) * 16 + j) ((2 * c + b) * 16 + n)) (upd m (2 * c + b) (nI n)) := by
  intro c' b' hc' hb'
  obtain ⟨n', a1, a2⟩ := H c' b' hc' hb'
  by_cases he : c' = c ∧ b' = b
  · obtain ⟨rfl, rfl⟩ := he
    have hnn : n' = n + 1 := by
      have := ps_H_le a2
      rw [a1, nI_eq (by omega) (by omega)] at e
      exact e
    subst hnn
    exact ⟨n, pk_us, ps_H_del a2 h1 h2 hj h0⟩
  · obtain ⟨x1, x2⟩ := ps_ne hc hc' hb hb' he
    exact ⟨n', (pk_un x2).trans a1, ps_H_o a2 (fun i h1 h2 => pk_un (by omega)) (fun i h1 h2 => if_neg (by omega))⟩
theorem ps_RH_clr {f g m : TA} (H : ps_RH f g m) {c : Nat} (hc : c < 4) {f1 m1 : TA} (hf : ∀ b i, b < 2 → 1 ≤ i → i ≤ 16 → f1 ((4 * b + c) * 17 + i) = 0) (hf' : ∀ b c' i, b < 2 → c' < 4 → c' ≠ c → 1 ≤ i → i ≤ 16 → f1 ((4 * b + c') * 17 + i) = f ((4 * b + c') * 17 + i))
    (hm : ∀ b, b < 2 → m1 (2 * c + b) = nI 0) (hm' : ∀ b c', b < 2 → c' < 4 → c' ≠ c → m1 (2 * c' + b) = m (2 * c' + b)) : ps_RH f1 g m1 := by
  intro c' b' hc' hb'
  by_cases he : c' = c
  · subst he
    exact ⟨0, hm b' hb', ps_H_0 (fun i h1 h2 => hf b' i hb' h1 h2)⟩
  · obtain ⟨n', a1, a2⟩ := H c' b' hc' hb'
    exact ⟨n', (hm' b' c' hb' hc' he).trans a1, ps_H_o a2 (fun i h1 h2 => hf' b' c' i hb' hc' he h1 h2) (fun _ _ _ => rfl)⟩
end P4
end
section
section P5
/-! the states by their groups -/
abbrev TP : Type := Int32 × TA × TA × TA × TA
abbrev TK : Type := TA × TA × TA × TA
abbrev TL : Type := TA × TA × TA
abbrev XS (p : TP) (k : TK) (r : TR) (l s : TL) (o : TO) (h : TA) (w : TW) : SX := (p.1, r.1, p.2.1, p.2.2.1, p.2.2.2.1, p.2.2.2.2, k.1, k.2.1, k.2.2.1, k.2.2.2, r.2.1, r.2.2, l.1, l.2.1, l.2.2, s.1, s.2.1, s.2.2, o.1, o.2.1, o.2.2.1, o.2.2.2.1, o.2.2.2.2.1, o.2.2.2.2.2, h, w.1, w.2.1, w.2.2.1, w.2.2.2.1, w.2.2.2.2.1, w.2.2.2.2.2.1, w.2.2.2.2.2.2)
abbrev YS (p : TP) (k : TK) (q : TR) (l s : TL) (e : TO) (g m : TA) (z : TO) (t : T5) : SY := (p.1, q.1, t.1, t.2.1, t.2.2.1, t.2.2.2.1, t.2.2.2.2, p.2.1, p.2.2.1, p.2.2.2.1, p.2.2.2.2, k.2.2.1, k.1, k.2.1, k.2.2.2, q.2.1, q.2.2, l.1, l.2.1, l.2.2, s.2.1, s.2.2, s.1, e.2.1, e.2.2.1, e.2.2.2.1, e.2.2.2.2.1, e.2.2.2.2.2, e.1, g, m, z.2.1, z.2.2.1, z.2.2.2.1, z.2.2.2.2.1, z.2.2.2.2.2, z.1)
/-! numbers -/
theorem pn_m32 (a : Nat) : nI a * 32 = nI (a * 32) := pk_mul a 32
theorem pn_m17 (a : Nat) : nI a * 17 = nI (a * 17) := pk_mul a 17
theorem pn_m16 (a : Nat) : nI a * 16 = nI (a * 16) := pk_mul a 16
theorem pn_m25 (a : Nat) : nI a * 25 = nI (a * 25) := pk_mul a 25
theorem pn_m4 (a : Nat) : nI a * 4 = nI (a * 4) := pk_mul a 4
theorem pn_m2 (a : Nat) : nI a * 2 = nI (2 * a) := by rw [Nat.mul_comm 2 a]; exact pk_mul a 2
theorem pn_y1 (a : Nat) : nI a * 2 + 1 = nI (2 * a + 1) := by rw [pn_m2]; exact nI_1 _
theorem pn_4a (a : Nat) : 4 + nI a = nI (4 + a) := nI_add 4 a
theorem pn_s1 {n : Nat} (h : 0 < n) : nI n - 1 = nI (n - 1) := pk_sub (a := n) (b := 1) h
theorem pn_b {v : Int32} (h : v = 0 ∨ v = 1) : vp_nar .boolean v = v := by
  rcases h with rfl | rfl <;> decide
theorem pn_in {x : Int32} {n N : Nat} (hx : x = nI n) (h : n < N) (hN : N < 1000) : vp_in x N := by
  rw [hx]; exact vp_in_nI h (by omega)
theorem pn_cl {x : Int32} {n : Nat} (hx : x = nI n) (h : n < 100000) : x.toNatClampNeg = n := by
  rw [hx]; exact nI_clamp (by omega)
theorem pn_u {f : TA} {x : Int32} {n : Nat} {v v' : Int32} (hx : x = nI n) (h : n < 100000) (hv : v = v') : upd f x.toNatClampNeg v = upd f n v' := by
  rw [pn_cl hx h, hv]
theorem pn_g {f : TA} {x : Int32} {n : Nat} (hx : x = nI n) (h : n < 100000) : f x.toNatClampNeg = f n := by
  rw [pn_cl hx h]
theorem pn_sh {f : TA} {a j : Nat} {x y : Int32} (hx : x = nI j) (hy : y = nI (j + 1)) (h : a ≤ j) (hj : j < 10000) : upd (ps_sh f a j) x.toNatClampNeg (ps_sh f a j y.toNatClampNeg) = ps_sh f a (j + 1) := by
  rw [pn_cl hx (by omega), pn_cl hy (by omega)]
  exact ps_shS h
def ps_B (f : TA) : Prop := ∀ i, f i = 0 ∨ f i = 1
theorem ps_B_u {f : TA} (h : ps_B f) {k : Nat} {v : Int32} (hv : v = 0 ∨ v = 1) : ps_B (upd f k v) := by
  intro i
  by_cases e : i = k
  · rw [e, pk_us]; exact hv
  · rw [pk_un e]; exact h i
theorem ps_B_s {f : TA} (h : ps_B f) {a m : Nat} : ps_B (ps_sh f a m) := by
  intro i
  unfold ps_sh
  split
  · exact h _
  · exact h _
theorem pn_shB {f : TA} {a j : Nat} {x y : Int32} (hb : ps_B f) (hx : x = nI j) (hy : y = nI (j + 1)) (h : a ≤ j) (hj : j < 10000) : upd (ps_sh f a j) x.toNatClampNeg (vp_nar .boolean (ps_sh f a j y.toNatClampNeg)) = ps_sh f a (j + 1) := by
  rw [pn_b (ps_B_s hb _)]
  exact pn_sh hx hy h hj
def ps_GO (o e : TO) : Prop := ps_RO o e ∧ ps_B o.2.2.2.2.1 ∧ ps_B e.2.2.2.2.1
def ps_GW (w : TW) (z : TO) : Prop := ps_RW w z ∧ ps_B w.2.2.2.2.2.2 ∧ ps_B z.2.2.2.2.2
/-! a packet is put -/
theorem px_put {p : TP} {k : TK} {r : TR} {l s : TL} {o : TO} {h : TA} {w : TW} {x n d : Nat} (hx : x < 8) (hn : w.2.1 x = nI n) (hd : w.1 x = nI d) (n32 : n < 32) (d32 : d < 32) {K I S Q M : Int32} (hM : M = 0 ∨ M = 1) {post : SX → Prop}
    (hp : post (XS p k r l s o h (w.1, upd w.2.1 x (nI (n + 1)), upd w.2.2.1 (x * 32 + (d + n) % 32) K, upd w.2.2.2.1 (x * 32 + (d + n) % 32) I, upd w.2.2.2.2.1 (x * 32 + (d + n) % 32) S, upd w.2.2.2.2.2.1 (x * 32 + (d + n) % 32) Q, upd w.2.2.2.2.2.2 (x * 32 + (d + n) % 32) M))) :
    wpX_putPacket post (XS p k r l s o h w) (nI x) K I S Q M := by
  have cx : (nI x).toNatClampNeg = x := nI_clamp (by omega)
  have i8 : vp_in (nI x) 8 := vp_in_nI hx (by omega)
  have ic : vp_in (nI (x * 32 + (d + n) % 32)) 256 := vp_in_nI (by omega) (by omega)
  have cc : (nI (x * 32 + (d + n) % 32)).toNatClampNeg = x * 32 + (d + n) % 32 := nI_clamp (by omega)
  refine ⟨i8, br_f (by rw [cx, hn]; exact fun z => by rw [show (32 : Int32) = nI 32 from rfl, nI_eq (by omega) (by omega)] at z; omega) ⟨i8, i8, by decide, nm_r (e' := nI (x * 32 + (d + n) % 32)) ?_ ⟨ic, nm_r (by rw [cc]) ⟨ic, nm_r (by rw [cc]) ⟨ic, nm_r (by rw [cc]) ⟨ic, nm_r (by rw [cc]) ⟨ic, nm_r (by rw [cc, pn_b hM]) ⟨i8, i8, nm_r (e' := upd w.2.1 x (nI (n + 1))) (by rw [cx, hn, nI_1]) hp⟩⟩⟩⟩⟩⟩⟩⟩
  rw [cx, hn, hd, nI_add d n, pn_m32]
  exact (congrArg (nI (x * 32) + ·) (pk_rem (a := d + n) (d := 32) (by omega) (by omega) (by omega))).trans (nI_add _ _)
theorem px_put_f {p : TP} {k : TK} {r : TR} {l s : TL} {o : TO} {h : TA} {w : TW} {x : Nat} (hx : x < 8) (hn : w.2.1 x = nI 32) {K I S Q M : Int32} {post : SX → Prop}
    (hp : post (XS p k r l s o h w)) : wpX_putPacket post (XS p k r l s o h w) (nI x) K I S Q M := by
  have cx : (nI x).toNatClampNeg = x := nI_clamp (by omega)
  exact ⟨vp_in_nI hx (by omega), br_t (by rw [cx, hn]; rfl) hp⟩
theorem py_put {p : TP} {k : TK} {q : TR} {l s : TL} {e : TO} {g m : TA} {z : TO} {t : T5} {x n : Nat} (hx : x < 8) (hn : z.1 x = nI n) (n32 : n < 32) {K I S Q M : Int32} (hM : M = 0 ∨ M = 1) {post : SY → Prop}
    (hp : post (YS p k q l s e g m (upd z.1 x (nI (n + 1)), upd z.2.1 (x * 32 + n) K, upd z.2.2.1 (x * 32 + n) I, upd z.2.2.2.1 (x * 32 + n) S, upd z.2.2.2.2.1 (x * 32 + n) Q, upd z.2.2.2.2.2 (x * 32 + n) M) t)) :
    wpY_put post (YS p k q l s e g m z t) (nI x) K I S Q M := by
  have cx : (nI x).toNatClampNeg = x := nI_clamp (by omega)
  have i8 : vp_in (nI x) 8 := vp_in_nI hx (by omega)
  have ic : vp_in (nI (x * 32 + n)) 256 := vp_in_nI (by omega) (by omega)
  have cc : (nI (x * 32 + n)).toNatClampNeg = x * 32 + n := nI_clamp (by omega)
  exact ⟨i8, br_t (by rw [cx, hn]; exact nI_lt (b := 32) n32 (by omega)) ⟨i8, nm_r (e' := nI (x * 32 + n)) (by rw [cx, hn, pn_m32, nI_add]) ⟨ic, nm_r (by rw [cc]) ⟨ic, nm_r (by rw [cc]) ⟨ic, nm_r (by rw [cc]) ⟨ic, nm_r (by rw [cc]) ⟨ic, nm_r (by rw [cc, pn_b hM]) ⟨i8, i8, nm_r (e' := upd z.1 x (nI (n + 1))) (by rw [cx, hn, nI_1]) hp⟩⟩⟩⟩⟩⟩⟩⟩
theorem py_put_f {p : TP} {k : TK} {q : TR} {l s : TL} {e : TO} {g m : TA} {z : TO} {t : T5} {x : Nat} (hx : x < 8) (hn : z.1 x = nI 32) {K I S Q M : Int32} {post : SY → Prop}
    (hp : post (YS p k q l s e g m z t)) : wpY_put post (YS p k q l s e g m z t) (nI x) K I S Q M := by
  have cx : (nI x).toNatClampNeg = x := nI_clamp (by omega)
  exact ⟨vp_in_nI hx (by omega), br_f (by rw [cx, hn]; decide) hp⟩
theorem pr_put {w : TW} {z : TO} (H : ps_GW w z) {c b : Nat} (hc : c < 4) (hb : b < 2) {K I S Q M : Int32} (hv : ps_PV (K, I, S, Q, M)) : ∃ w' z', ps_GW w' z'
    ∧ (∀ p k r l s o h (post : SX → Prop), post (XS p k r l s o h w') → wpX_putPacket post (XS p k r l s o h w) (nI (4 * b + c)) K I S Q M)
    ∧ (∀ p k q l s e g m t (post : SY → Prop), post (YS p k q l s e g m z' t) → wpY_put post (YS p k q l s e g m z t) (nI (2 * c + b)) K I S Q M) := by
  obtain ⟨d, n, a1, a2, a3, a4⟩ := H.1 c b hc hb
  have hM : M = 0 ∨ M = 1 := hv.2
  by_cases hn : n = 32
  · subst hn
    exact ⟨w, z, H, fun p k r l s o h post hp => px_put_f (by omega) a2 hp, fun p k q l s e g m t post hp => py_put_f (by omega) a3 hp⟩
  · have h2 := a4.2.1
    exact ⟨_, _, ⟨ps_RW_put H.1 hc hb (by omega) a4.1 a2 a1 hv, ps_B_u H.2.1 hM, ps_B_u H.2.2 hM⟩, fun p k r l s o h post hp => px_put (by omega) a2 a1 (by omega) a4.1 hM hp, fun p k q l s e g m t post hp => py_put (by omega) a3 (by omega) hM hp⟩
theorem pr_reply {w : TW} {z : TO} (H : ps_GW w z) {c b : Nat} (hc : c < 4) (hb : b < 2) {K I : Int32} (hv : ps_PV (K, I, 0, 0, 0)) : ∃ w' z', ps_GW w' z'
    ∧ (∀ p k r l s o h (post : SX → Prop), post (XS p k r l s o h w') → wpX_putReply post (XS p k r l s o h w) (nI (4 * b + c)) K I)
    ∧ (∀ p k q l s e g m t (post : SY → Prop), post (YS p k q l s e g m z' t) → wpY_put post (YS p k q l s e g m z t) (nI (2 * c + b)) K I 0 0 0) := by
  obtain ⟨w', z', h1, h2, h3⟩ := pr_put H hc hb hv
  exact ⟨w', z', h1, fun p k r l s o h post hp => by unfold wpX_putReply; exact h2 p k r l s o h _ hp, h3⟩
end P5
end
section
section P6
/-! the oldest packet is taken off -/
theorem px_old {p : TP} {k : TK} {r : TR} {l s : TL} {o : TO} {h : TA} {w : TW} {x d : Nat} (hx : x < 8) (hd : w.1 x = nI d) {post : Int32 → Prop} (hp : post (nI (x * 32 + d))) : wpX_oldestPacket post (XS p k r l s o h w) (nI x) := by
  have cx : (nI x).toNatClampNeg = x := nI_clamp (by omega)
  refine ⟨vp_in_nI hx (by omega), ?_⟩
  show post (nI x * 32 + w.1 (nI x).toNatClampNeg)
  rw [cx, hd, pn_m32, nI_add]
  exact hp
theorem px_rem {p : TP} {k : TK} {r : TR} {l s : TL} {o : TO} {h : TA} {w : TW} {x d n : Nat} (hx : x < 8) (hd : w.1 x = nI d) (d32 : d < 32) (hn : w.2.1 x = nI (n + 1)) (n32 : n < 32) {post : SX → Prop}
    (hp : post (XS p k r l s o h (upd w.1 x (nI ((d + 1) % 32)), upd w.2.1 x (nI n), w.2.2))) : wpX_removeOldestPacket post (XS p k r l s o h w) (nI x) := by
  have cx : (nI x).toNatClampNeg = x := nI_clamp (by omega)
  have i8 : vp_in (nI x) 8 := vp_in_nI hx (by omega)
  refine ⟨i8, by decide, i8, nm_r (e' := upd w.1 x (nI ((d + 1) % 32))) ?_ ⟨i8, i8, nm_r (e' := upd w.2.1 x (nI n)) (by rw [cx, hn, nI_pred]) hp⟩⟩
  rw [cx, hd, nI_1]
  exact congrArg (upd w.1 x) (pk_rem (a := d + 1) (d := 32) (by omega) (by omega) (by omega))
theorem py_pop_lp {p : TP} {k : TK} {q : TR} {l s : TL} {e : TO} {g m : TA} {z : TO} {t : T5} {y n : Nat} (hy : y < 8) (hz : z.1 y = nI (n + 1)) (n32 : n < 32) (hb : ps_B z.2.2.2.2.2) {post : SY → Prop}
    (hp : post (YS p k q l s e g m (upd z.1 y (nI n), ps_sh z.2.1 (y * 32) (y * 32 + n), ps_sh z.2.2.1 (y * 32) (y * 32 + n), ps_sh z.2.2.2.1 (y * 32) (y * 32 + n), ps_sh z.2.2.2.2.1 (y * 32) (y * 32 + n), ps_sh z.2.2.2.2.2 (y * 32) (y * 32 + n)) t)) :
    ∀ d i, i + d = n → wY_pop_57 post (nI y) (nI (y * 32)) p.1 q.1 t.1 t.2.1 t.2.2.1 t.2.2.2.1 t.2.2.2.2 (d + 1) (nI i) p.2.1 p.2.2.1 p.2.2.2.1 p.2.2.2.2 k.2.2.1 k.1 k.2.1 k.2.2.2 q.2.1 q.2.2 l.1 l.2.1 l.2.2 s.2.1 s.2.2 s.1 e.2.1 e.2.2.1 e.2.2.2.1 e.2.2.2.2.1 e.2.2.2.2.2 e.1 g m (ps_sh z.2.1 (y * 32) (y * 32 + i)) (ps_sh z.2.2.1 (y * 32) (y * 32 + i)) (ps_sh z.2.2.2.1 (y * 32) (y * 32 + i)) (ps_sh z.2.2.2.2.1 (y * 32) (y * 32 + i)) (ps_sh z.2.2.2.2.2 (y * 32) (y * 32 + i)) z.1 := by
  have cy : (nI y).toNatClampNeg = y := nI_clamp (by omega)
  have i8 : vp_in (nI y) 8 := vp_in_nI hy (by omega)
  intro d
  induction d with
  | zero =>
    intro i hi
    obtain rfl : i = n := by omega
    exact ⟨i8, br_t (by rw [cy, hz, nI_1]; exact nI_le (by omega) (by omega)) ⟨i8, i8, nm_r (e' := upd z.1 y (nI i)) (by rw [cy, hz, nI_pred]) hp⟩⟩
  | succ d ih =>
    intro i hi
    have a0 : vp_in (nI (y * 32 + i)) 256 := vp_in_nI (by omega) (by omega)
    have a1 : vp_in (nI (y * 32 + i) + 1) 256 := by rw [nI_1]; exact vp_in_nI (by omega) (by omega)
    exact ⟨i8, br_f (by rw [cy, hz, nI_1]; exact nI_ge (by omega) (by omega)) (nm_r (e' := nI (y * 32 + i)) (nI_add _ _) ⟨a1, a0, nm_r (pn_sh rfl (nI_1 _) (by omega) (by omega)) ⟨a1, a0, nm_r (pn_sh rfl (nI_1 _) (by omega) (by omega)) ⟨a1, a0, nm_r (pn_sh rfl (nI_1 _) (by omega) (by omega)) ⟨a1, a0, nm_r (pn_sh rfl (nI_1 _) (by omega) (by omega)) ⟨a1, a0, nm_r (pn_shB hb rfl (nI_1 _) (by omega) (by omega)) (nm_r (nI_1 i) (ih (i + 1) (by omega)))⟩⟩⟩⟩⟩)⟩
theorem pn_fit {v : Int32} (h : v = 0 ∨ v = 1) : narrow .boolean (.int v) = .int v ∧ fits .boolean (.int v) = true := by
  rcases h with rfl | rfl <;> exact ⟨rfl, by decide⟩
theorem py_pop {p : TP} {k : TK} {q : TR} {l s : TL} {e : TO} {g m : TA} {z : TO} {t : T5} {y n : Nat} (hy : y < 8) (hz : z.1 y = nI (n + 1)) (n32 : n < 32) (hb : ps_B z.2.2.2.2.2) {post : SY → Prop}
    (hp : post (YS p k q l s e g m (upd z.1 y (nI n), ps_sh z.2.1 (y * 32) (y * 32 + n), ps_sh z.2.2.1 (y * 32) (y * 32 + n), ps_sh z.2.2.2.1 (y * 32) (y * 32 + n), ps_sh z.2.2.2.2.1 (y * 32) (y * 32 + n), ps_sh z.2.2.2.2.2 (y * 32) (y * 32 + n)) (ps_o5 z (y * 32)))) :
    wpY_pop post (YS p k q l s e g m z t) (nI y) := by
  have ic : vp_in (nI (y * 32)) 256 := vp_in_nI (by omega) (by omega)
  have cc : (nI (y * 32)).toNatClampNeg = y * 32 := nI_clamp (by omega)
  have hl := py_pop_lp (p := p) (k := k) (q := q) (l := l) (s := s) (e := e) (g := g) (m := m) (t := ps_o5 z (y * 32)) hy hz n32 hb hp n 0 (by omega)
  rw [Nat.add_zero (y * 32), ps_sh0 (Nat.le_refl _), ps_sh0 (Nat.le_refl _), ps_sh0 (Nat.le_refl _), ps_sh0 (Nat.le_refl _), ps_sh0 (Nat.le_refl _)] at hl
  exact nm_r (pn_m32 y) ⟨ic, nm_r (e' := z.2.1 (y * 32)) (by rw [cc]) ⟨ic, nm_r (e' := z.2.2.1 (y * 32)) (by rw [cc]) ⟨ic, nm_r (e' := z.2.2.2.1 (y * 32)) (by rw [cc]) ⟨ic, nm_r (e' := z.2.2.2.2.1 (y * 32)) (by rw [cc]) ⟨ic, nm_r (e' := z.2.2.2.2.2 (y * 32)) (by rw [cc]) ⟨(pn_fit (hb _)).1, (pn_fit (hb _)).2, n + 1, hl⟩⟩⟩⟩⟩⟩
/-- a wire that isn't empty: its oldest packet, at both sides -/
theorem pr_pop {w : TW} {z : TO} (H : ps_GW w z) {c b : Nat} (hc : c < 4) (hb : b < 2) (h0 : w.2.1 (4 * b + c) ≠ 0) : ∃ (w' : TW) (z' : TO) (t : T5) (d : Nat), ps_GW w' z' ∧ ps_PV t ∧ d < 32 ∧ ps_w5 w ((4 * b + c) * 32 + d) = t
    ∧ (∀ p k r l s o h (post : Int32 → Prop), post (nI ((4 * b + c) * 32 + d)) → wpX_oldestPacket post (XS p k r l s o h w) (nI (4 * b + c)))
    ∧ (∀ p k r l s o h (post : SX → Prop), post (XS p k r l s o h w') → wpX_removeOldestPacket post (XS p k r l s o h w) (nI (4 * b + c)))
    ∧ (∀ p k q l s e g m t' (post : SY → Prop), post (YS p k q l s e g m z' t) → wpY_pop post (YS p k q l s e g m z t') (nI (2 * c + b))) := by
  obtain ⟨d, n, a1, a2, a3, a4⟩ := H.1 c b hc hb
  have h2 := a4.2.1
  obtain ⟨n, rfl⟩ : ∃ n', n = n' + 1 := ⟨n - 1, by
    have : n ≠ 0 := by
      intro e
      rw [e] at a2
      exact h0 a2
    omega⟩
  have h3 := a4.2.2 0 (by omega)
  rw [Nat.add_zero, Nat.add_zero, Nat.mod_eq_of_lt a4.1] at h3
  exact ⟨_, _, ps_o5 z ((2 * c + b) * 32), d, ⟨ps_RW_pop H.1 hc hb (by omega) a4.1 a2 a1, H.2.1, ps_B_s H.2.2⟩, h3.2, a4.1, h3.1, fun p k r l s o h post hp => px_old (by omega) a1 hp, fun p k r l s o h post hp => px_rem (by omega) a1 a4.1 a2 (by omega) hp, fun p k q l s e g m t' post hp => py_pop (by omega) a3 (by omega) H.2.2 hp⟩
/-- an empty wire -/
theorem pr_emp {w : TW} {z : TO} (H : ps_GW w z) {c b : Nat} (hc : c < 4) (hb : b < 2) : w.2.1 (4 * b + c) = z.1 (2 * c + b) := by
  obtain ⟨d, n, a1, a2, a3, a4⟩ := H.1 c b hc hb
  rw [a2, a3]
end P6
end
section
section P7
/-! the first place of a value -/
def ps_F (f : TA) (a n : Nat) (I : Int32) (j : Nat) : Prop := j ≤ n ∧ (∀ i, i < j → f (a + i) ≠ I) ∧ (j < n → f (a + j) = I)
theorem ps_F_ex (f : TA) (a : Nat) (I : Int32) : ∀ n, ∃ j, ps_F f a n I j := by
  intro n
  induction n with
  | zero => exact ⟨0, Nat.le_refl 0, fun i hi => absurd hi (by omega), fun h => absurd h (by omega)⟩
  | succ n ih =>
    obtain ⟨j, h1, h2, h3⟩ := ih
    by_cases hj : j < n
    · exact ⟨j, by omega, h2, fun _ => h3 hj⟩
    · obtain rfl : j = n := by omega
      by_cases e : f (a + j) = I
      · exact ⟨j, by omega, h2, fun _ => e⟩
      · refine ⟨j + 1, by omega, fun i hi => ?_, fun h => absurd h (by omega)⟩
        by_cases e2 : i = j
        · rw [e2]; exact e
        · exact h2 i (by omega)
theorem ps_F_cg {f g : TA} {a b n : Nat} {I : Int32} {j : Nat} (H : ps_F f a n I j) (h : ∀ i, i < n → f (a + i) = g (b + i)) : ps_F g b n I j := by
  obtain ⟨h1, h2, h3⟩ := H
  exact ⟨h1, fun i hi => by rw [← h i (by omega)]; exact h2 i hi, fun hj => by rw [← h j hj]; exact h3 hj⟩
theorem px_fe_lp {p : TP} {k : TK} {r : TR} {l s : TL} {o : TO} {h : TA} {w : TW} {x n j : Nat} {I : Int32} (hx : x < 8) (n16 : n ≤ 16) (F : ps_F o.2.2.2.1 (x * 16) n I j) {post : Int32 → Prop} (h1 : j < n → post (nI (x * 16 + j))) (h2 : j = n → post (-1)) :
    ∀ d i, i + d = j → wX_findEntry_18 post I (nI (x * 16 + n)) p.1 r.1 p.2.1 p.2.2.1 p.2.2.2.1 p.2.2.2.2 k.1 k.2.1 k.2.2.1 k.2.2.2 r.2.1 r.2.2 l.1 l.2.1 l.2.2 s.1 s.2.1 s.2.2 o.1 o.2.1 o.2.2.1 o.2.2.2.1 o.2.2.2.2.1 o.2.2.2.2.2 h w.1 w.2.1 w.2.2.1 w.2.2.2.1 w.2.2.2.2.1 w.2.2.2.2.2.1 w.2.2.2.2.2.2 (d + 1) (nI (x * 16 + i)) := by
  intro d
  have hj := F.1
  induction d with
  | zero =>
    intro i hi
    obtain rfl : i = j := by omega
    by_cases hn : i < n
    · exact br_f (nI_ge (by omega) (by omega)) ⟨vp_in_nI (by omega) (by omega), br_t (by rw [nI_clamp (by omega)]; exact F.2.2 hn) (h1 hn)⟩
    · exact br_t (nI_le (by omega) (by omega)) (h2 (by omega))
  | succ d ih =>
    intro i hi
    exact br_f (nI_ge (by omega) (by omega)) ⟨vp_in_nI (by omega) (by omega), br_f (by rw [nI_clamp (by omega)]; exact F.2.1 i (by omega)) (nm_r (nI_1 _) (ih (i + 1) (by omega)))⟩
theorem px_fe {p : TP} {k : TK} {r : TR} {l s : TL} {o : TO} {h : TA} {w : TW} {x n j : Nat} {I : Int32} (hx : x < 8) (hn : o.1 x = nI n) (n16 : n ≤ 16) (F : ps_F o.2.2.2.1 (x * 16) n I j) {post : Int32 → Prop} (h1 : j < n → post (nI (x * 16 + j))) (h2 : j = n → post (-1)) :
    wpX_findEntry post (XS p k r l s o h w) (nI x) I := by
  have cx : (nI x).toNatClampNeg = x := nI_clamp (by omega)
  exact nm_r (pn_m16 x) ⟨vp_in_nI hx (by omega), nm_r (e' := nI (x * 16 + n)) (by rw [cx, hn, nI_add]) ⟨j + 1, px_fe_lp hx n16 F h1 h2 j 0 (by omega)⟩⟩
theorem py_fe_lp {p : TP} {k : TK} {q : TR} {l s : TL} {e : TO} {g m : TA} {z : TO} {t : T5} {y n j : Nat} {I : Int32} (hy : y < 8) (hn : e.1 y = nI n) (n16 : n ≤ 16) (F : ps_F e.2.2.2.1 (y * 16) n I j) {post : Int32 → Prop} (h1 : j < n → post (nI j)) (h2 : j = n → post (-1)) :
    ∀ d i, i + d = j → wY_findEntry_2 post (nI y) I p.1 q.1 t.1 t.2.1 t.2.2.1 t.2.2.2.1 t.2.2.2.2 p.2.1 p.2.2.1 p.2.2.2.1 p.2.2.2.2 k.2.2.1 k.1 k.2.1 k.2.2.2 q.2.1 q.2.2 l.1 l.2.1 l.2.2 s.2.1 s.2.2 s.1 e.2.1 e.2.2.1 e.2.2.2.1 e.2.2.2.2.1 e.2.2.2.2.2 e.1 g m z.2.1 z.2.2.1 z.2.2.2.1 z.2.2.2.2.1 z.2.2.2.2.2 z.1 (d + 1) (nI i) := by
  intro d
  have hj := F.1
  have cy : (nI y).toNatClampNeg = y := nI_clamp (by omega)
  have i8 : vp_in (nI y) 8 := vp_in_nI hy (by omega)
  induction d with
  | zero =>
    intro i hi
    obtain rfl : i = j := by omega
    by_cases hn' : i < n
    · exact ⟨i8, br_f (by rw [cy, hn]; exact nI_ge (by omega) (by omega)) ⟨by rw [pn_m16, nI_add]; exact vp_in_nI (by omega) (by omega), br_t (by rw [pn_m16, nI_add, nI_clamp (by omega)]; exact F.2.2 hn') (h1 hn')⟩⟩
    · exact ⟨i8, br_t (by rw [cy, hn]; exact nI_le (by omega) (by omega)) (h2 (by omega))⟩
  | succ d ih =>
    intro i hi
    exact ⟨i8, br_f (by rw [cy, hn]; exact nI_ge (by omega) (by omega)) ⟨by rw [pn_m16, nI_add]; exact vp_in_nI (by omega) (by omega), br_f (by rw [pn_m16, nI_add, nI_clamp (by omega)]; exact F.2.1 i (by omega)) (nm_r (nI_1 _) (ih (i + 1) (by omega)))⟩⟩
theorem py_fe {p : TP} {k : TK} {q : TR} {l s : TL} {e : TO} {g m : TA} {z : TO} {t : T5} {y n j : Nat} {I : Int32} (hy : y < 8) (hn : e.1 y = nI n) (n16 : n ≤ 16) (F : ps_F e.2.2.2.1 (y * 16) n I j) {post : Int32 → Prop} (h1 : j < n → post (nI j)) (h2 : j = n → post (-1)) :
    wpY_findEntry post (YS p k q l s e g m z t) (nI y) I := ⟨j + 1, py_fe_lp hy hn n16 F h1 h2 j 0 (by omega)⟩
/-! a new entry -/
theorem px_free {p : TP} {k : TK} {r : TR} {l s : TL} {o : TO} {h : TA} {w : TW} {x n fr : Nat} (hx : x < 8) (hn : o.1 x = nI n) (n16 : n ≤ 16) (f1 : 1 ≤ fr) (f2 : fr ≤ n + 1) (f3 : ∀ j, j < n → o.2.2.2.1 (x * 16 + j) ≠ nI fr) (f4 : ∀ i, 1 ≤ i → i < fr → ∃ j, j < n ∧ o.2.2.2.1 (x * 16 + j) = nI i) {post : Int32 → Prop} (hp : post (nI fr)) :
    ∀ d i, 1 ≤ i → i + d = fr → wX_smallestFreeId_2 post (nI x) p.1 r.1 p.2.1 p.2.2.1 p.2.2.2.1 p.2.2.2.2 k.1 k.2.1 k.2.2.1 k.2.2.2 r.2.1 r.2.2 l.1 l.2.1 l.2.2 s.1 s.2.1 s.2.2 o.1 o.2.1 o.2.2.1 o.2.2.2.1 o.2.2.2.2.1 o.2.2.2.2.2 h w.1 w.2.1 w.2.2.1 w.2.2.2.1 w.2.2.2.2.1 w.2.2.2.2.2.1 w.2.2.2.2.2.2 (d + 1) (nI i) := by
  have cx : (nI x).toNatClampNeg = x := nI_clamp (by omega)
  have i8 : vp_in (nI x) 8 := vp_in_nI hx (by omega)
  intro d
  induction d with
  | zero =>
    intro i hi hd
    obtain rfl : i = fr := by omega
    by_cases hk : i ≤ n
    · obtain ⟨j, F⟩ := ps_F_ex o.2.2.2.1 (x * 16) (nI i) n
      have hj : j = n := by
        apply Classical.byContradiction
        intro hne
        have := F.1
        exact f3 j (by omega) (F.2.2 (by omega))
      exact ⟨i8, br_f (by rw [cx, hn]; exact nI_nlt (by omega) (by omega)) (px_fe (p := p) (k := k) (r := r) (l := l) (s := s) (o := o) (h := h) (w := w) hx hn n16 F (fun hlt => absurd hlt (by omega)) (fun _ => br_f (by decide) hp))⟩
    · obtain rfl : i = n + 1 := by omega
      refine ⟨i8, br_t (by rw [cx, hn]; exact nI_lt (by omega) (by omega)) ⟨i8, ?_⟩⟩
      rw [cx, hn, nI_1]
      exact hp
  | succ d ih =>
    intro i hi hd
    obtain ⟨j, F⟩ := ps_F_ex o.2.2.2.1 (x * 16) (nI i) n
    obtain ⟨j', hj', ej'⟩ := f4 i hi (by omega)
    have hj : j < n := by
      apply Classical.byContradiction
      intro hne
      exact F.2.1 j' (by omega) ej'
    exact ⟨i8, br_f (by rw [cx, hn]; exact nI_nlt (by omega) (by omega)) (px_fe (p := p) (k := k) (r := r) (l := l) (s := s) (o := o) (h := h) (w := w) hx hn n16 F (fun _ => br_t (nI_pos' (by omega)) (nm_r (nI_1 _) (ih (i + 1) (by omega) (by omega)))) (fun h => absurd h (by omega)))⟩
theorem px_add {p : TP} {k : TK} {r : TR} {l s : TL} {o : TO} {h : TA} {w : TW} {x n fr : Nat} (hx : x < 8) (hn : o.1 x = nI n) (n16 : n < 16) (f1 : 1 ≤ fr) (f2 : fr ≤ n + 1) (f3 : ∀ j, j < n → o.2.2.2.1 (x * 16 + j) ≠ nI fr) (f4 : ∀ i, 1 ≤ i → i < fr → ∃ j, j < n ∧ o.2.2.2.1 (x * 16 + j) = nI i) {S Q M : Int32} (hM : M = 0 ∨ M = 1) {post : Int32 → SX → Prop}
    (hp : post (nI fr) (XS p k r l s (upd o.1 x (nI (n + 1)), upd o.2.1 (x * 16 + n) S, upd o.2.2.1 (x * 16 + n) Q, upd o.2.2.2.1 (x * 16 + n) (nI fr), upd o.2.2.2.2.1 (x * 16 + n) M, upd o.2.2.2.2.2 (x * 16 + n) 1) h w)) :
    wpX_appendEntry post (XS p k r l s o h w) (nI x) S Q M := by
  have cx : (nI x).toNatClampNeg = x := nI_clamp (by omega)
  have i8 : vp_in (nI x) 8 := vp_in_nI hx (by omega)
  have ic : vp_in (nI (x * 16 + n)) 128 := vp_in_nI (by omega) (by omega)
  have cc : (nI (x * 16 + n)).toNatClampNeg = x * 16 + n := nI_clamp (by omega)
  unfold wpX_appendEntry wpX_smallestFreeId
  exact ⟨fr - 1 + 1, px_free hx hn (by omega) f1 f2 f3 f4 ⟨i8, nm_r (e' := nI (x * 16 + n)) (by rw [cx, hn, pn_m16, nI_add]) ⟨ic, nm_r (by rw [cc]) ⟨ic, nm_r (by rw [cc]) ⟨ic, nm_r (by rw [cc]) ⟨ic, nm_r (by rw [cc, pn_b hM]) ⟨ic, nm_r (by rw [cc]) ⟨i8, i8, nm_r (e' := upd o.1 x (nI (n + 1))) (by rw [cx, hn, nI_1]) hp⟩⟩⟩⟩⟩⟩⟩ (fr - 1) 1 (by omega) (by omega)⟩
theorem py_add74 {p : TP} {k : TK} {q : TR} {l s : TL} {e : TO} {g m : TA} {z : TO} {t : T5} {y n fr : Nat} (hy : y < 8) (hn : e.1 y = nI n) (n16 : n < 16) {S Q M : Int32} (hM : M = 0 ∨ M = 1) {post : Int32 → SY → Prop}
    (hp : post (nI fr) (YS p k q l s (upd e.1 y (nI (n + 1)), upd e.2.1 (y * 16 + n) S, upd e.2.2.1 (y * 16 + n) Q, upd e.2.2.2.1 (y * 16 + n) (nI fr), upd e.2.2.2.2.1 (y * 16 + n) M, upd e.2.2.2.2.2 (y * 16 + n) 1) g m z t)) :
    wY_addEntry_74 post (nI y) S Q M (nI fr) p.1 q.1 t.1 t.2.1 t.2.2.1 t.2.2.2.1 t.2.2.2.2 p.2.1 p.2.2.1 p.2.2.2.1 p.2.2.2.2 k.2.2.1 k.1 k.2.1 k.2.2.2 q.2.1 q.2.2 l.1 l.2.1 l.2.2 s.2.1 s.2.2 s.1 e.2.1 e.2.2.1 e.2.2.2.1 e.2.2.2.2.1 e.2.2.2.2.2 e.1 g m z.2.1 z.2.2.1 z.2.2.2.1 z.2.2.2.2.1 z.2.2.2.2.2 z.1 := by
  have cy : (nI y).toNatClampNeg = y := nI_clamp (by omega)
  have i8 : vp_in (nI y) 8 := vp_in_nI hy (by omega)
  have ic : vp_in (nI (y * 16 + n)) 128 := vp_in_nI (by omega) (by omega)
  have cc : (nI (y * 16 + n)).toNatClampNeg = y * 16 + n := nI_clamp (by omega)
  exact ⟨i8, nm_r (e' := nI (y * 16 + n)) (by rw [cy, hn, pn_m16, nI_add]) ⟨ic, nm_r (by rw [cc]) ⟨ic, nm_r (by rw [cc]) ⟨ic, nm_r (by rw [cc]) ⟨ic, nm_r (by rw [cc, pn_b hM]) ⟨ic, nm_r (by rw [cc]) ⟨i8, i8, nm_r (e' := upd e.1 y (nI (n + 1))) (by rw [cy, hn, nI_1]) hp⟩⟩⟩⟩⟩⟩⟩
/-- the inner scan over an id that is free -/
theorem py_addF {p : TP} {k : TK} {q : TR} {l s : TL} {e : TO} {g m : TA} {z : TO} {t : T5} {y n : Nat} {I A B C D : Int32} (hy : y < 8) (hn : e.1 y = nI n) (n16 : n ≤ 16) (f3 : ∀ j, j < n → e.2.2.2.1 (y * 16 + j) ≠ I) {post : Int32 → SY → Prop} {J : Int32 → Prop}
    (hp : wY_addEntry_74 post (nI y) A B C I p.1 q.1 t.1 t.2.1 t.2.2.1 t.2.2.2.1 t.2.2.2.2 p.2.1 p.2.2.1 p.2.2.2.1 p.2.2.2.2 k.2.2.1 k.1 k.2.1 k.2.2.2 q.2.1 q.2.2 l.1 l.2.1 l.2.2 s.2.1 s.2.2 s.1 e.2.1 e.2.2.1 e.2.2.2.1 e.2.2.2.2.1 e.2.2.2.2.2 e.1 g m z.2.1 z.2.2.1 z.2.2.2.1 z.2.2.2.2.1 z.2.2.2.2.2 z.1) : ∀ d i, i + d = n → wY_addEntry_19 post J (nI y) A B C D I p.1 q.1 t.1 t.2.1 t.2.2.1 t.2.2.2.1 t.2.2.2.2 p.2.1 p.2.2.1 p.2.2.2.1 p.2.2.2.2 k.2.2.1 k.1 k.2.1 k.2.2.2 q.2.1 q.2.2 l.1 l.2.1 l.2.2 s.2.1 s.2.2 s.1 e.2.1 e.2.2.1 e.2.2.2.1 e.2.2.2.2.1 e.2.2.2.2.2 e.1 g m z.2.1 z.2.2.1 z.2.2.2.1 z.2.2.2.2.1 z.2.2.2.2.2 z.1 (d + 1) 0 (nI i) := by
  have cy : (nI y).toNatClampNeg = y := nI_clamp (by omega)
  have i8 : vp_in (nI y) 8 := vp_in_nI hy (by omega)
  intro d
  induction d with
  | zero =>
    intro i hi
    obtain rfl : i = n := by omega
    exact ⟨i8, br_t (by rw [cy, hn]; exact nI_le (by omega) (by omega)) (br_t rfl hp)⟩
  | succ d ih =>
    intro i hi
    exact ⟨i8, br_f (by rw [cy, hn]; exact nI_ge (by omega) (by omega)) ⟨by rw [pn_m16, nI_add]; exact vp_in_nI (by omega) (by omega), br_f (by rw [pn_m16, nI_add, nI_clamp (by omega)]; exact f3 i (by omega)) (nm_r (nI_1 _) (ih (i + 1) (by omega)))⟩⟩
/-- the inner scan over an id that is used -/
theorem py_addU {p : TP} {k : TK} {q : TR} {l s : TL} {e : TO} {g m : TA} {z : TO} {t : T5} {y n : Nat} {I A B C D : Int32} (hy : y < 8) (hn : e.1 y = nI n) (n16 : n ≤ 16) {post : Int32 → SY → Prop} {J : Int32 → Prop}
    (hp : J (I + 1)) : ∀ d i (f : Int32), i + d = n → (f ≠ 0 ∨ ∃ j, i ≤ j ∧ j < n ∧ e.2.2.2.1 (y * 16 + j) = I) → wY_addEntry_19 post J (nI y) A B C D I p.1 q.1 t.1 t.2.1 t.2.2.1 t.2.2.2.1 t.2.2.2.2 p.2.1 p.2.2.1 p.2.2.2.1 p.2.2.2.2 k.2.2.1 k.1 k.2.1 k.2.2.2 q.2.1 q.2.2 l.1 l.2.1 l.2.2 s.2.1 s.2.2 s.1 e.2.1 e.2.2.1 e.2.2.2.1 e.2.2.2.2.1 e.2.2.2.2.2 e.1 g m z.2.1 z.2.2.1 z.2.2.2.1 z.2.2.2.2.1 z.2.2.2.2.2 z.1 (d + 1) f (nI i) := by
  have cy : (nI y).toNatClampNeg = y := nI_clamp (by omega)
  have i8 : vp_in (nI y) 8 := vp_in_nI hy (by omega)
  intro d
  induction d with
  | zero =>
    intro i f hi hf
    obtain rfl : i = n := by omega
    have hf' : f ≠ 0 := by
      rcases hf with hf | ⟨j, h1, h2, _⟩
      · exact hf
      · omega
    exact ⟨i8, br_t (by rw [cy, hn]; exact nI_le (by omega) (by omega)) (br_f hf' (nm_e hp))⟩
  | succ d ih =>
    intro i f hi hf
    by_cases he : e.2.2.2.1 (y * 16 + i) = I
    · exact ⟨i8, br_f (by rw [cy, hn]; exact nI_ge (by omega) (by omega)) ⟨by rw [pn_m16, nI_add]; exact vp_in_nI (by omega) (by omega), br_t (by rw [pn_m16, nI_add, nI_clamp (by omega)]; exact he) (nm_r (nI_1 _) (ih (i + 1) 1 (by omega) (Or.inl (by decide))))⟩⟩
    · have hf' : f ≠ 0 ∨ ∃ j, i + 1 ≤ j ∧ j < n ∧ e.2.2.2.1 (y * 16 + j) = I := by
        rcases hf with hf | ⟨j, h1, h2, h3⟩
        · exact Or.inl hf
        · refine Or.inr ⟨j, ?_, h2, h3⟩
          by_cases hji : j = i
          · rw [hji] at h3; exact absurd h3 he
          · omega
      exact ⟨i8, br_f (by rw [cy, hn]; exact nI_ge (by omega) (by omega)) ⟨by rw [pn_m16, nI_add]; exact vp_in_nI (by omega) (by omega), br_f (by rw [pn_m16, nI_add, nI_clamp (by omega)]; exact he) (nm_r (nI_1 _) (ih (i + 1) f (by omega) hf'))⟩⟩
theorem py_add {p : TP} {k : TK} {q : TR} {l s : TL} {e : TO} {g m : TA} {z : TO} {t : T5} {y n fr : Nat} (hy : y < 8) (hn : e.1 y = nI n) (n16 : n < 16) (f1 : 1 ≤ fr) (f2 : fr ≤ n + 1) (f3 : ∀ j, j < n → e.2.2.2.1 (y * 16 + j) ≠ nI fr) (f4 : ∀ i, 1 ≤ i → i < fr → ∃ j, j < n ∧ e.2.2.2.1 (y * 16 + j) = nI i) {S Q M : Int32} (hM : M = 0 ∨ M = 1) {post : Int32 → SY → Prop}
    (hp : post (nI fr) (YS p k q l s (upd e.1 y (nI (n + 1)), upd e.2.1 (y * 16 + n) S, upd e.2.2.1 (y * 16 + n) Q, upd e.2.2.2.1 (y * 16 + n) (nI fr), upd e.2.2.2.2.1 (y * 16 + n) M, upd e.2.2.2.2.2 (y * 16 + n) 1) g m z t)) :
    wpY_addEntry post (YS p k q l s e g m z t) (nI y) S Q M := by
  have h74 := py_add74 (p := p) (k := k) (q := q) (l := l) (s := s) (e := e) (g := g) (m := m) (z := z) (t := t) hy hn n16 hM hp
  have hl : ∀ d i, 1 ≤ i → i + d = fr → wY_addEntry_6 post (nI y) S Q M 1 p.1 q.1 t.1 t.2.1 t.2.2.1 t.2.2.2.1 t.2.2.2.2 p.2.1 p.2.2.1 p.2.2.2.1 p.2.2.2.2 k.2.2.1 k.1 k.2.1 k.2.2.2 q.2.1 q.2.2 l.1 l.2.1 l.2.2 s.2.1 s.2.2 s.1 e.2.1 e.2.2.1 e.2.2.2.1 e.2.2.2.2.1 e.2.2.2.2.2 e.1 g m z.2.1 z.2.2.1 z.2.2.2.1 z.2.2.2.2.1 z.2.2.2.2.2 z.1 (d + 1) (nI i) := by
    intro d
    induction d with
    | zero =>
      intro i hi hd
      obtain rfl : i = fr := by omega
      exact br_f (nI_nlt (a := 16) (b := i) (by omega) (by omega)) ⟨n + 1, py_addF hy hn (by omega) f3 h74 n 0 (by omega)⟩
    | succ d ih =>
      intro i hi hd
      obtain ⟨j, hj, ej⟩ := f4 i hi (by omega)
      refine br_f (nI_nlt (a := 16) (b := i) (by omega) (by omega)) ⟨n + 1, py_addU hy hn (by omega) ?_ n 0 0 (by omega) (Or.inr ⟨j, by omega, hj, ej⟩)⟩
      rw [nI_1]
      exact ih (i + 1) (by omega) (by omega)
  exact ⟨fr - 1 + 1, hl (fr - 1) 1 (by omega) (by omega)⟩
theorem pr_add {o e : TO} (H : ps_GO o e) {c b n : Nat} (hc : c < 4) (hb : b < 2) (hn : o.1 (4 * b + c) = nI n) (h4 : b = 0 → n < 4) (n16 : n < 16) {S Q M : Int32} (hS : ∃ s, 1 ≤ s ∧ s ≤ 24 ∧ S = nI s) (hQ : Q = 1 ∨ Q = 2) (hM : M = 0 ∨ M = 1) : ∃ o' e' i, 1 ≤ i ∧ i ≤ 16 ∧ ps_GO o' e'
    ∧ (∀ p k r l s h w (post : Int32 → SX → Prop), post (nI i) (XS p k r l s o' h w) → wpX_appendEntry post (XS p k r l s o h w) (nI (4 * b + c)) S Q M)
    ∧ (∀ p k q l s g m z t (post : Int32 → SY → Prop), post (nI i) (YS p k q l s e' g m z t) → wpY_addEntry post (YS p k q l s e g m z t) (nI (2 * c + b)) S Q M) := by
  obtain ⟨n', a1, a2, a3, a4⟩ := H.1 c b hc hb
  have hnn : n' = n := by
    have := a4.1
    rw [a2, nI_eq (by omega) (by omega)] at hn
    exact hn
  subst hnn
  obtain ⟨i, i1, i2, i3, i4⟩ := ps_free n' (by omega) (fun j => o.2.2.2.1 ((4 * b + c) * 16 + j))
  have heq : ∀ j, j < n' → o.2.2.2.1 ((4 * b + c) * 16 + j) = e.2.2.2.1 ((2 * c + b) * 16 + j) := fun j hj => congrArg (fun t : T5 => t.2.2.1) (a4.2 j hj).1
  have i3' : ∀ j, j < n' → e.2.2.2.1 ((2 * c + b) * 16 + j) ≠ nI i := fun j hj => by rw [← heq j hj]; exact i3 j hj
  have i4' : ∀ a, 1 ≤ a → a < i → ∃ j, j < n' ∧ e.2.2.2.1 ((2 * c + b) * 16 + j) = nI a := fun a h1 h2 => by
    obtain ⟨j, hj, ej⟩ := i4 a h1 h2
    exact ⟨j, hj, by rw [← heq j hj]; exact ej⟩
  exact ⟨_, _, i, i1, by omega, ⟨ps_RO_put H.1 hc hb h4 n16 a2 (g := 1) (i := nI i) ⟨hS, hQ, ⟨i, i1, by omega, rfl⟩, hM⟩, ps_B_u H.2.1 hM, ps_B_u H.2.2 hM⟩, fun p k r l s h w post hp => px_add (by omega) a2 n16 i1 i2 i3 i4 hM hp, fun p k q l s g m z t post hp => py_add (by omega) a3 n16 i1 i2 i3' i4' hM hp⟩
end P7
end
section
section P8
theorem px_del {p : TP} {k : TK} {r : TR} {l s : TL} {o : TO} {h : TA} {w : TW} {x n j : Nat} (hx : x < 8) (hn : o.1 x = nI (n + 1)) (n16 : n < 16) (hj : j ≤ n) (hb : ps_B o.2.2.2.2.1) {post : SX → Prop}
    (hp : post (XS p k r l s (upd o.1 x (nI n), ps_sh o.2.1 (x * 16 + j) (x * 16 + n), ps_sh o.2.2.1 (x * 16 + j) (x * 16 + n), ps_sh o.2.2.2.1 (x * 16 + j) (x * 16 + n), ps_sh o.2.2.2.2.1 (x * 16 + j) (x * 16 + n), ps_sh o.2.2.2.2.2 (x * 16 + j) (x * 16 + n)) h w)) :
    wpX_removeEntry post (XS p k r l s o h w) (nI x) (nI (x * 16 + j)) := by
  have cx : (nI x).toNatClampNeg = x := nI_clamp (by omega)
  have i8 : vp_in (nI x) 8 := vp_in_nI hx (by omega)
  have hl : ∀ d i, j ≤ i → i + d = n → wX_removeEntry_17 post (nI x) (nI (x * 16 + n)) p.1 r.1 (d + 1) (nI (x * 16 + i)) p.2.1 p.2.2.1 p.2.2.2.1 p.2.2.2.2 k.1 k.2.1 k.2.2.1 k.2.2.2 r.2.1 r.2.2 l.1 l.2.1 l.2.2 s.1 s.2.1 s.2.2 o.1 (ps_sh o.2.1 (x * 16 + j) (x * 16 + i)) (ps_sh o.2.2.1 (x * 16 + j) (x * 16 + i)) (ps_sh o.2.2.2.1 (x * 16 + j) (x * 16 + i)) (ps_sh o.2.2.2.2.1 (x * 16 + j) (x * 16 + i)) (ps_sh o.2.2.2.2.2 (x * 16 + j) (x * 16 + i)) h w.1 w.2.1 w.2.2.1 w.2.2.2.1 w.2.2.2.2.1 w.2.2.2.2.2.1 w.2.2.2.2.2.2 := by
    intro d
    induction d with
    | zero =>
      intro i h1 hi
      obtain rfl : i = n := by omega
      exact br_t (nI_le (by omega) (by omega)) ⟨i8, i8, nm_r (e' := upd o.1 x (nI i)) (by rw [cx, hn, nI_pred]) hp⟩
    | succ d ih =>
      intro i h1 hi
      have a0 : vp_in (nI (x * 16 + i)) 128 := vp_in_nI (by omega) (by omega)
      have a1 : vp_in (nI (x * 16 + i) + 1) 128 := by rw [nI_1]; exact vp_in_nI (by omega) (by omega)
      exact br_f (nI_ge (by omega) (by omega)) ⟨a1, a0, nm_r (pn_sh rfl (nI_1 _) (by omega) (by omega)) ⟨a1, a0, nm_r (pn_sh rfl (nI_1 _) (by omega) (by omega)) ⟨a1, a0, nm_r (pn_sh rfl (nI_1 _) (by omega) (by omega)) ⟨a1, a0, nm_r (pn_shB hb rfl (nI_1 _) (by omega) (by omega)) ⟨a1, a0, nm_r (pn_sh rfl (nI_1 _) (by omega) (by omega)) (nm_r (nI_1 _) (ih (i + 1) (by omega) (by omega)))⟩⟩⟩⟩⟩
  have hl0 := hl (n - j) j (Nat.le_refl j) (by omega)
  rw [ps_sh0 (Nat.le_refl _), ps_sh0 (Nat.le_refl _), ps_sh0 (Nat.le_refl _), ps_sh0 (Nat.le_refl _), ps_sh0 (Nat.le_refl _)] at hl0
  exact ⟨i8, nm_r (e' := nI (x * 16 + n)) (by rw [cx, hn, pn_m16, nI_add, ← Nat.add_assoc, nI_pred]) ⟨n - j + 1, hl0⟩⟩
theorem py_del {p : TP} {k : TK} {q : TR} {l s : TL} {e : TO} {g m : TA} {z : TO} {t : T5} {y n j : Nat} (hy : y < 8) (hn : e.1 y = nI (n + 1)) (n16 : n < 16) (hj : j ≤ n) (hb : ps_B e.2.2.2.2.1) {post : SY → Prop}
    (hp : post (YS p k q l s (upd e.1 y (nI n), ps_sh e.2.1 (y * 16 + j) (y * 16 + n), ps_sh e.2.2.1 (y * 16 + j) (y * 16 + n), ps_sh e.2.2.2.1 (y * 16 + j) (y * 16 + n), ps_sh e.2.2.2.2.1 (y * 16 + j) (y * 16 + n), ps_sh e.2.2.2.2.2 (y * 16 + j) (y * 16 + n)) g m z t)) :
    wpY_removeEntry post (YS p k q l s e g m z t) (nI y) (nI j) := by
  have cy : (nI y).toNatClampNeg = y := nI_clamp (by omega)
  have i8 : vp_in (nI y) 8 := vp_in_nI hy (by omega)
  have hl : ∀ d i, j ≤ i → i + d = n → wY_removeEntry_2 post (nI y) p.1 q.1 t.1 t.2.1 t.2.2.1 t.2.2.2.1 t.2.2.2.2 (d + 1) (nI i) p.2.1 p.2.2.1 p.2.2.2.1 p.2.2.2.2 k.2.2.1 k.1 k.2.1 k.2.2.2 q.2.1 q.2.2 l.1 l.2.1 l.2.2 s.2.1 s.2.2 s.1 (ps_sh e.2.1 (y * 16 + j) (y * 16 + i)) (ps_sh e.2.2.1 (y * 16 + j) (y * 16 + i)) (ps_sh e.2.2.2.1 (y * 16 + j) (y * 16 + i)) (ps_sh e.2.2.2.2.1 (y * 16 + j) (y * 16 + i)) (ps_sh e.2.2.2.2.2 (y * 16 + j) (y * 16 + i)) e.1 g m z.2.1 z.2.2.1 z.2.2.2.1 z.2.2.2.2.1 z.2.2.2.2.2 z.1 := by
    intro d
    induction d with
    | zero =>
      intro i h1 hi
      obtain rfl : i = n := by omega
      exact ⟨i8, br_t (by rw [cy, hn, nI_1]; exact nI_le (by omega) (by omega)) ⟨i8, i8, nm_r (e' := upd e.1 y (nI i)) (by rw [cy, hn, nI_pred]) hp⟩⟩
    | succ d ih =>
      intro i h1 hi
      have a0 : vp_in (nI (y * 16 + i)) 128 := vp_in_nI (by omega) (by omega)
      have a1 : vp_in (nI (y * 16 + i) + 1) 128 := by rw [nI_1]; exact vp_in_nI (by omega) (by omega)
      exact ⟨i8, br_f (by rw [cy, hn, nI_1]; exact nI_ge (by omega) (by omega)) (nm_r (e' := nI (y * 16 + i)) (by rw [pn_m16, nI_add]) ⟨a1, a0, nm_r (pn_sh rfl (nI_1 _) (by omega) (by omega)) ⟨a1, a0, nm_r (pn_sh rfl (nI_1 _) (by omega) (by omega)) ⟨a1, a0, nm_r (pn_sh rfl (nI_1 _) (by omega) (by omega)) ⟨a1, a0, nm_r (pn_shB hb rfl (nI_1 _) (by omega) (by omega)) ⟨a1, a0, nm_r (pn_sh rfl (nI_1 _) (by omega) (by omega)) (nm_r (nI_1 _) (ih (i + 1) (by omega) (by omega)))⟩⟩⟩⟩⟩)⟩
  have hl0 := hl (n - j) j (Nat.le_refl j) (by omega)
  rw [ps_sh0 (Nat.le_refl _), ps_sh0 (Nat.le_refl _), ps_sh0 (Nat.le_refl _), ps_sh0 (Nat.le_refl _), ps_sh0 (Nat.le_refl _)] at hl0
  exact ⟨n - j + 1, hl0⟩
theorem pr_del {o e : TO} (H : ps_GO o e) {c b n j : Nat} (hc : c < 4) (hb : b < 2) (hn : o.1 (4 * b + c) = nI n) (n16 : n ≤ 16) (hj : j < n) : ∃ o' e', ps_GO o' e'
    ∧ (∀ p k r l s h w (post : SX → Prop), post (XS p k r l s o' h w) → wpX_removeEntry post (XS p k r l s o h w) (nI (4 * b + c)) (nI ((4 * b + c) * 16 + j)))
    ∧ (∀ p k q l s g m z t (post : SY → Prop), post (YS p k q l s e' g m z t) → wpY_removeEntry post (YS p k q l s e g m z t) (nI (2 * c + b)) (nI j)) := by
  obtain ⟨n', a1, a2, a3, a4⟩ := H.1 c b hc hb
  have hnn : n' = n := by
    have := a4.1
    rw [a2, nI_eq (by omega) (by omega)] at hn
    exact hn
  subst hnn
  obtain ⟨n, rfl⟩ : ∃ n, n' = n + 1 := ⟨n' - 1, by omega⟩
  exact ⟨_, _, ⟨ps_RO_del H.1 hc hb (by omega) (by omega) a2, ps_B_s H.2.1, ps_B_s H.2.2⟩, fun p k r l s h w post hp => px_del (by omega) a2 (by omega) (by omega) H.2.1 hp, fun p k q l s g m z t post hp => py_del (by omega) a3 (by omega) (by omega) H.2.2 hp⟩
/-- the entry with an id: at both sides the same, or at neither -/
theorem pr_fe {o e : TO} (H : ps_GO o e) {c b : Nat} (hc : c < 4) (hb : b < 2) (I : Int32) : ∃ n j, n ≤ 16 ∧ j ≤ n ∧ o.1 (4 * b + c) = nI n ∧ e.1 (2 * c + b) = nI n ∧ (j < n → ps_o5 o ((4 * b + c) * 16 + j) = ps_o5 e ((2 * c + b) * 16 + j) ∧ ps_EV (ps_o5 e ((2 * c + b) * 16 + j)) ∧ e.2.2.2.1 ((2 * c + b) * 16 + j) = I)
    ∧ (∀ p k r l s h w (post : Int32 → Prop), (j < n → post (nI ((4 * b + c) * 16 + j))) → (j = n → post (-1)) → wpX_findEntry post (XS p k r l s o h w) (nI (4 * b + c)) I)
    ∧ (∀ p k q l s g m z t (post : Int32 → Prop), (j < n → post (nI j)) → (j = n → post (-1)) → wpY_findEntry post (YS p k q l s e g m z t) (nI (2 * c + b)) I) := by
  obtain ⟨n, a1, a2, a3, a4⟩ := H.1 c b hc hb
  have heq : ∀ j, j < n → o.2.2.2.1 ((4 * b + c) * 16 + j) = e.2.2.2.1 ((2 * c + b) * 16 + j) := fun j hj => congrArg (fun t : T5 => t.2.2.1) (a4.2 j hj).1
  obtain ⟨j, F⟩ := ps_F_ex o.2.2.2.1 ((4 * b + c) * 16) I n
  have F' := ps_F_cg (g := e.2.2.2.1) (b := (2 * c + b) * 16) F heq
  exact ⟨n, j, a4.1, F.1, a2, a3, fun hj => ⟨(a4.2 j hj).1, (a4.2 j hj).2, F'.2.2 hj⟩, fun p k r l s h w post h1 h2 => px_fe (by omega) a2 a4.1 F h1 h2, fun p k q l s g m z t post h1 h2 => py_fe (by omega) a3 a4.1 F' h1 h2⟩
end P8
end
section
section P9
/-! levels, topics, filters, the match -/
def lv (T : Int32) (i : Nat) : Int32 := (T >>> ((4 * nI i) &&& 31)) &&& 15
theorem px_lvN {T : Int32} {i : Nat} {post : Int32 → Prop} (h : post (lv T i)) : wpX_level post T (nI (i + 1)) := by
  unfold wpX_level
  rw [nI_pred]
  exact h
theorem px_lv1 {T : Int32} {post : Int32 → Prop} (h : post (lv T 0)) : wpX_level post T 1 := px_lvN (i := 0) h
theorem px_lv2 {T : Int32} {post : Int32 → Prop} (h : post (lv T 1)) : wpX_level post T 2 := px_lvN (i := 1) h
theorem px_lv3 {T : Int32} {post : Int32 → Prop} (h : post (lv T 2)) : wpX_level post T 3 := px_lvN (i := 2) h
theorem py_lvN {u : SY} {T : Int32} {i : Nat} {post : Int32 → Prop} (h : post (lv T i)) : wpY_lvl post u T (nI i) := h
theorem py_lv0 {u : SY} {T : Int32} {post : Int32 → Prop} (h : post (lv T 0)) : wpY_lvl post u T 0 := py_lvN (i := 0) h
theorem py_lv1 {u : SY} {T : Int32} {post : Int32 → Prop} (h : post (lv T 1)) : wpY_lvl post u T 1 := py_lvN (i := 1) h
theorem py_lv2 {u : SY} {T : Int32} {post : Int32 → Prop} (h : post (lv T 2)) : wpY_lvl post u T 2 := py_lvN (i := 2) h
theorem pr_ma_lp (F T : Int32) : ∀ d i, i + d = 3 → ∃ R : Int32, (R = 0 ∨ R = 1) ∧ (∀ post : Int32 → Prop, post R → wX_filterMatches_2 post F T (d + 1) (nI (i + 1)))
    ∧ (∀ (p : TP) (k : TK) (q : TR) (l s : TL) (e : TO) (g m : TA) (z : TO) (t : T5) (post : Int32 → Prop), post R → wY_match_2 post F T p.1 q.1 t.1 t.2.1 t.2.2.1 t.2.2.2.1 t.2.2.2.2 p.2.1 p.2.2.1 p.2.2.2.1 p.2.2.2.2 k.2.2.1 k.1 k.2.1 k.2.2.2 q.2.1 q.2.2 l.1 l.2.1 l.2.2 s.2.1 s.2.2 s.1 e.2.1 e.2.2.1 e.2.2.2.1 e.2.2.2.2.1 e.2.2.2.2.2 e.1 g m z.2.1 z.2.2.1 z.2.2.2.1 z.2.2.2.2.1 z.2.2.2.2.2 z.1 (d + 1) (nI i)) := by
  intro d
  induction d with
  | zero =>
    intro i hi
    obtain rfl : i = 3 := by omega
    exact ⟨1, Or.inr rfl, fun post hp => br_t (by decide) hp, fun p k q l s e g m z t post hp => br_t (by decide) hp⟩
  | succ d ih =>
    intro i hi
    have hX : ¬ (3 : Int32) < nI (i + 1) := nI_nlt (a := 3) (b := i + 1) (by omega) (by omega)
    have hY : ¬ (3 : Int32) ≤ nI i := nI_ge (b := 3) (a := i) (by omega) (by omega)
    by_cases h15 : lv F i = 15
    · exact ⟨1, Or.inr rfl, fun post hp => br_f hX (px_lvN (px_lvN (br_t h15 hp))), fun p k q l s e g m z t post hp => br_f hY (py_lvN (py_lvN (br_t h15 hp)))⟩
    · by_cases h0 : lv F i = 0
      · by_cases t0 : lv T i = 0
        · exact ⟨1, Or.inr rfl, fun post hp => br_f hX (px_lvN (px_lvN (br_f h15 (br_t h0 (br_t t0 hp))))), fun p k q l s e g m z t post hp => br_f hY (py_lvN (py_lvN (br_f h15 (br_t h0 (br_t t0 hp)))))⟩
        · exact ⟨0, Or.inl rfl, fun post hp => br_f hX (px_lvN (px_lvN (br_f h15 (br_t h0 (br_f t0 hp))))), fun p k q l s e g m z t post hp => br_f hY (py_lvN (py_lvN (br_f h15 (br_t h0 (br_f t0 hp)))))⟩
      · by_cases t0 : lv T i = 0
        · exact ⟨0, Or.inl rfl, fun post hp => br_f hX (px_lvN (px_lvN (br_f h15 (br_f h0 (br_t t0 hp))))), fun p k q l s e g m z t post hp => br_f hY (py_lvN (py_lvN (br_f h15 (br_f h0 (br_t t0 hp)))))⟩
        · obtain ⟨R, h1, h2, h3⟩ := ih (i + 1) (by omega)
          by_cases h14 : lv F i = 14
          · exact ⟨R, h1, fun post hp => br_f hX (px_lvN (px_lvN (br_f h15 (br_f h0 (br_f t0 (br_t h14 (nm_r (nI_1 _) (h2 post hp)))))))), fun p k q l s e g m z t post hp => br_f hY (py_lvN (py_lvN (br_f h15 (br_f h0 (br_f t0 (br_t h14 (nm_r (nI_1 _) (h3 p k q l s e g m z t post hp))))))))⟩
          · by_cases hE : lv F i = lv T i
            · exact ⟨R, h1, fun post hp => br_f hX (px_lvN (px_lvN (br_f h15 (br_f h0 (br_f t0 (br_f h14 (br_t hE (nm_r (nI_1 _) (h2 post hp))))))))), fun p k q l s e g m z t post hp => br_f hY (py_lvN (py_lvN (br_f h15 (br_f h0 (br_f t0 (br_f h14 (br_t hE (nm_r (nI_1 _) (h3 p k q l s e g m z t post hp)))))))))⟩
            · exact ⟨0, Or.inl rfl, fun post hp => br_f hX (px_lvN (px_lvN (br_f h15 (br_f h0 (br_f t0 (br_f h14 (br_f hE hp))))))), fun p k q l s e g m z t post hp => br_f hY (py_lvN (py_lvN (br_f h15 (br_f h0 (br_f t0 (br_f h14 (br_f hE hp)))))))⟩
theorem pr_ma (F T : Int32) : ∃ R : Int32, (R = 0 ∨ R = 1) ∧ (∀ post : Int32 → Prop, post R → wpX_filterMatches post F T)
    ∧ (∀ p k q l s e g m z t (post : Int32 → Prop), post R → wpY_match post (YS p k q l s e g m z t) F T) := by
  obtain ⟨R, h1, h2, h3⟩ := pr_ma_lp F T 3 0 (by omega)
  exact ⟨R, h1, fun post hp => ⟨4, h2 post hp⟩, fun p k q l s e g m z t post hp => ⟨4, h3 p k q l s e g m z t post hp⟩⟩
def ps_ub (T : Int32) : Prop := ¬ T < 0 ∧ ¬ 4095 < T ∧ ¬ lv T 0 = 0 ∧ (¬ lv T 1 = 0 ∨ lv T 2 = 0)
theorem px_ub (T : Int32) : ∃ R : Int32, ((R = 0 ∧ ¬ ps_ub T) ∨ (R = 1 ∧ ps_ub T)) ∧ ∀ post : Int32 → Prop, post R → wpX_hasUnbrokenLevels post T := by
  by_cases h1 : T < 0
  · exact ⟨0, Or.inl ⟨rfl, fun h => h.1 h1⟩, fun post hp => br_t h1 hp⟩
  · by_cases h2 : 4095 < T
    · exact ⟨0, Or.inl ⟨rfl, fun h => h.2.1 h2⟩, fun post hp => br_f h1 (br_t h2 hp)⟩
    · by_cases e0 : lv T 0 = 0
      · exact ⟨0, Or.inl ⟨rfl, fun h => h.2.2.1 e0⟩, fun post hp => br_f h1 (br_f h2 (px_lv1 (br_t e0 hp)))⟩
      · by_cases e1 : lv T 1 = 0
        · by_cases e2 : lv T 2 = 0
          · exact ⟨1, Or.inr ⟨rfl, h1, h2, e0, Or.inr e2⟩, fun post hp => br_f h1 (br_f h2 (px_lv1 (br_f e0 (px_lv2 (br_t e1 (px_lv3 (br_t e2 hp)))))))⟩
          · exact ⟨0, Or.inl ⟨rfl, fun h => h.2.2.2.elim (fun z => z e1) e2⟩, fun post hp => br_f h1 (br_f h2 (px_lv1 (br_f e0 (px_lv2 (br_t e1 (px_lv3 (br_f e2 hp)))))))⟩
        · exact ⟨1, Or.inr ⟨rfl, h1, h2, e0, Or.inl e1⟩, fun post hp => br_f h1 (br_f h2 (px_lv1 (br_f e0 (px_lv2 (br_f e1 hp)))))⟩
theorem pn_le4095 {T : Int32} : T ≤ 4095 ↔ ¬ 4095 < T := Int32.not_lt.symm
theorem ps_ub_n {T : Int32} (h : ps_ub T) : ∃ n, n < 4096 ∧ T = nI n := by
  obtain ⟨n, hn, rfl⟩ := nI_of h.1
  refine ⟨n, ?_, rfl⟩
  apply Classical.byContradiction
  intro hx
  exact h.2.1 (nI_lt (a := 4095) (by omega) hn)
/-- Y's order of tests over the three levels -/
theorem py_tp_no {p : TP} {k : TK} {q : TR} {l s : TL} {e : TO} {g m : TA} {z : TO} {t : T5} {T : Int32} (hn : ¬ (ps_ub T ∧ ¬ 13 < lv T 0 ∧ ¬ 13 < lv T 1 ∧ ¬ 13 < lv T 2)) {post : Int32 → Prop} (hp : post 0) : wpY_validTopic post (YS p k q l s e g m z t) T := by
  refine br_c (fun _ => hp) fun h1 => br_c (fun h2 => py_lv0 (py_lv1 (py_lv2 (br_c (fun _ => hp) fun e0 => br_c (fun _ => hp) fun a => br_c (fun _ => hp) fun b => br_c (fun c => br_c (fun e1 => br_c (fun e2 => ?_) fun _ => hp) fun e1 => ?_) fun _ => hp)))) fun _ => hp
  · exact absurd ⟨⟨h1, pn_le4095.mp h2, e0, Or.inr e2⟩, a, b, Int32.not_lt.mpr c⟩ hn
  · exact absurd ⟨⟨h1, pn_le4095.mp h2, e0, Or.inl e1⟩, a, b, Int32.not_lt.mpr c⟩ hn
theorem py_tp_yes {p : TP} {k : TK} {q : TR} {l s : TL} {e : TO} {g m : TA} {z : TO} {t : T5} {T : Int32} (hn : ps_ub T ∧ ¬ 13 < lv T 0 ∧ ¬ 13 < lv T 1 ∧ ¬ 13 < lv T 2) {post : Int32 → Prop} (hp : post 1) : wpY_validTopic post (YS p k q l s e g m z t) T := by
  obtain ⟨⟨h1, h2, e0, ee⟩, a, b, c⟩ := hn
  exact br_f h1 (br_t (pn_le4095.mpr h2) (py_lv0 (py_lv1 (py_lv2 (br_f e0 (br_f a (br_f b (br_t (Int32.not_lt.mp c) (br_c (fun e1 => br_t (ee.elim (fun z => absurd e1 z) id) hp) fun _ => hp)))))))))
theorem pr_tp (T : Int32) : ∃ R : Int32, (R = 0 ∨ (R = 1 ∧ ∃ n, n < 4096 ∧ T = nI n)) ∧ (∀ post : Int32 → Prop, post R → wpX_isTopic post T)
    ∧ (∀ p k q l s e g m z t (post : Int32 → Prop), post R → wpY_validTopic post (YS p k q l s e g m z t) T) := by
  obtain ⟨R, hR, hU⟩ := px_ub T
  rcases hR with ⟨rfl, hn⟩ | ⟨rfl, hy⟩
  · exact ⟨0, Or.inl rfl, fun post hp => hU _ (br_t rfl hp), fun p k q l s e g m z t post hp => py_tp_no (fun h => hn h.1) hp⟩
  · have one : ¬ (1 : Int32) = 0 := by decide
    by_cases a : 13 < lv T 0
    · exact ⟨0, Or.inl rfl, fun post hp => hU _ (br_f one (px_lv1 (br_t a hp))), fun p k q l s e g m z t post hp => py_tp_no (fun h => h.2.1 a) hp⟩
    · by_cases b : 13 < lv T 1
      · exact ⟨0, Or.inl rfl, fun post hp => hU _ (br_f one (px_lv1 (br_f a (px_lv2 (br_t b hp))))), fun p k q l s e g m z t post hp => py_tp_no (fun h => h.2.2.1 b) hp⟩
      · by_cases c : 13 < lv T 2
        · exact ⟨0, Or.inl rfl, fun post hp => hU _ (br_f one (px_lv1 (br_f a (px_lv2 (br_f b (px_lv3 (br_t c hp))))))), fun p k q l s e g m z t post hp => py_tp_no (fun h => h.2.2.2 c) hp⟩
        · exact ⟨1, Or.inr ⟨rfl, ps_ub_n hy⟩, fun post hp => hU _ (br_f one (px_lv1 (br_f a (px_lv2 (br_f b (px_lv3 (br_f c hp))))))), fun p k q l s e g m z t post hp => py_tp_yes ⟨hy, a, b, c⟩ hp⟩
theorem py_fi_no {p : TP} {k : TK} {q : TR} {l s : TL} {e : TO} {g m : TA} {z : TO} {t : T5} {T : Int32} (hn : ¬ (ps_ub T ∧ (lv T 0 = 15 → lv T 1 = 0) ∧ (lv T 1 = 15 → lv T 2 = 0))) {post : Int32 → Prop} (hp : post 0) : wpY_validFilter post (YS p k q l s e g m z t) T := by
  have h52 : ∀ (hu : ps_ub T), wY_validFilter_52 post (lv T 0) (lv T 1) (lv T 2) p.1 q.1 t.1 t.2.1 t.2.2.1 t.2.2.2.1 t.2.2.2.2 p.2.1 p.2.2.1 p.2.2.2.1 p.2.2.2.2 k.2.2.1 k.1 k.2.1 k.2.2.2 q.2.1 q.2.2 l.1 l.2.1 l.2.2 s.2.1 s.2.2 s.1 e.2.1 e.2.2.1 e.2.2.2.1 e.2.2.2.2.1 e.2.2.2.2.2 e.1 g m z.2.1 z.2.2.1 z.2.2.2.1 z.2.2.2.2.1 z.2.2.2.2.2 z.1 := by
    intro hu
    have h64 : (lv T 0 = 15 → lv T 1 = 0) → wY_validFilter_64 post (lv T 1) (lv T 2) p.1 q.1 t.1 t.2.1 t.2.2.1 t.2.2.2.1 t.2.2.2.2 p.2.1 p.2.2.1 p.2.2.2.1 p.2.2.2.2 k.2.2.1 k.1 k.2.1 k.2.2.2 q.2.1 q.2.2 l.1 l.2.1 l.2.2 s.2.1 s.2.2 s.1 e.2.1 e.2.2.1 e.2.2.2.1 e.2.2.2.2.1 e.2.2.2.2.2 e.1 g m z.2.1 z.2.2.1 z.2.2.2.1 z.2.2.2.2.1 z.2.2.2.2.2 z.1 := fun ha => br_c (fun b15 => br_c (fun c0 => absurd ⟨hu, ha, fun _ => c0⟩ hn) fun _ => hp) fun b15 => absurd ⟨hu, ha, fun z => absurd z b15⟩ hn
    exact br_c (fun a15 => br_c (fun b0 => h64 (fun _ => b0)) fun _ => hp) fun a15 => h64 (fun z => absurd z a15)
  exact br_c (fun _ => hp) fun h1 => br_c (fun h2 => py_lv0 (py_lv1 (py_lv2 (br_c (fun _ => hp) fun e0 => br_c (fun e1 => br_c (fun e2 => h52 ⟨h1, pn_le4095.mp h2, e0, Or.inr e2⟩) fun _ => hp) fun e1 => h52 ⟨h1, pn_le4095.mp h2, e0, Or.inl e1⟩)))) fun _ => hp
theorem py_fi_yes {p : TP} {k : TK} {q : TR} {l s : TL} {e : TO} {g m : TA} {z : TO} {t : T5} {T : Int32} (hn : ps_ub T ∧ (lv T 0 = 15 → lv T 1 = 0) ∧ (lv T 1 = 15 → lv T 2 = 0)) {post : Int32 → Prop} (hp : post 1) : wpY_validFilter post (YS p k q l s e g m z t) T := by
  obtain ⟨⟨h1, h2, e0, ee⟩, ha, hb⟩ := hn
  have h64 : wY_validFilter_64 post (lv T 1) (lv T 2) p.1 q.1 t.1 t.2.1 t.2.2.1 t.2.2.2.1 t.2.2.2.2 p.2.1 p.2.2.1 p.2.2.2.1 p.2.2.2.2 k.2.2.1 k.1 k.2.1 k.2.2.2 q.2.1 q.2.2 l.1 l.2.1 l.2.2 s.2.1 s.2.2 s.1 e.2.1 e.2.2.1 e.2.2.2.1 e.2.2.2.2.1 e.2.2.2.2.2 e.1 g m z.2.1 z.2.2.1 z.2.2.2.1 z.2.2.2.2.1 z.2.2.2.2.2 z.1 := br_c (fun b15 => br_t (hb b15) hp) fun _ => hp
  have h52 : wY_validFilter_52 post (lv T 0) (lv T 1) (lv T 2) p.1 q.1 t.1 t.2.1 t.2.2.1 t.2.2.2.1 t.2.2.2.2 p.2.1 p.2.2.1 p.2.2.2.1 p.2.2.2.2 k.2.2.1 k.1 k.2.1 k.2.2.2 q.2.1 q.2.2 l.1 l.2.1 l.2.2 s.2.1 s.2.2 s.1 e.2.1 e.2.2.1 e.2.2.2.1 e.2.2.2.2.1 e.2.2.2.2.2 e.1 g m z.2.1 z.2.2.1 z.2.2.2.1 z.2.2.2.2.1 z.2.2.2.2.2 z.1 := br_c (fun a15 => br_t (ha a15) h64) fun _ => h64
  exact br_f h1 (br_t (pn_le4095.mpr h2) (py_lv0 (py_lv1 (py_lv2 (br_f e0 (br_c (fun e1 => br_t (ee.elim (fun z => absurd e1 z) id) h52) fun _ => h52))))))
theorem pr_fi (T : Int32) : ∃ R : Int32, (R = 0 ∨ R = 1) ∧ (∀ post : Int32 → Prop, post R → wpX_isFilter post T)
    ∧ (∀ p k q l s e g m z t (post : Int32 → Prop), post R → wpY_validFilter post (YS p k q l s e g m z t) T) := by
  obtain ⟨R, hR, hU⟩ := px_ub T
  rcases hR with ⟨rfl, hn⟩ | ⟨rfl, hy⟩
  · exact ⟨0, Or.inl rfl, fun post hp => hU _ (br_t rfl hp), fun p k q l s e g m z t post hp => py_fi_no (fun h => hn h.1) hp⟩
  · have one : ¬ (1 : Int32) = 0 := by decide
    -- the second test, and the end, at X
    have h32 : ∀ (post : Int32 → Prop) (z : Int32), (z = 0 → post 0) → (¬ z = 0 → (lv T 1 = 15 → lv T 2 = 0) → post 1) → (¬ z = 0 → ¬ (lv T 1 = 15 → lv T 2 = 0) → post 0) → wX_isFilter_32 post T z := by
      intro post z z0 z1 z2
      exact px_lv2 (br_c (fun b15 => px_lv3 (br_c (fun c0 => br_c z0 fun nz => br_f one (z1 nz fun _ => c0)) fun c0 => br_c z0 fun nz => br_t rfl (z2 nz fun h => c0 (h b15)))) fun b15 => br_c z0 fun nz => br_f one (z1 nz fun z => absurd z b15))
    by_cases ha : lv T 0 = 15 → lv T 1 = 0
    · have hX : ∀ (post : Int32 → Prop), wX_isFilter_32 post T 1 → wpX_isFilter post T := fun post h => hU _ (br_f one (px_lv1 (br_c (fun a15 => px_lv2 (br_t (ha a15) h)) fun _ => h)))
      by_cases hb : lv T 1 = 15 → lv T 2 = 0
      · exact ⟨1, Or.inr rfl, fun post hp => hX post (h32 post 1 (fun z => absurd z one) (fun _ _ => hp) (fun _ h => absurd hb h)), fun p k q l s e g m z t post hp => py_fi_yes ⟨hy, ha, hb⟩ hp⟩
      · exact ⟨0, Or.inl rfl, fun post hp => hX post (h32 post 1 (fun z => absurd z one) (fun _ h => absurd h hb) (fun _ _ => hp)), fun p k q l s e g m z t post hp => py_fi_no (fun h => hb h.2.2) hp⟩
    · have a15 : lv T 0 = 15 := Classical.byContradiction fun h => ha fun z => absurd z h
      have b0 : ¬ lv T 1 = 0 := fun h => ha fun _ => h
      exact ⟨0, Or.inl rfl, fun post hp => hU _ (br_f one (px_lv1 (br_t a15 (px_lv2 (br_f b0 (h32 post 0 (fun _ => hp) (fun h => absurd rfl h) (fun h => absurd rfl h))))))), fun p k q l s e g m z t post hp => py_fi_no (fun h => ha h.2.1) hp⟩
/-! clients and serials -/
theorem pr_cl (C : Int32) : ((∀ post : Int32 → Prop, post 0 → wpX_isClient post C) ∧ ∀ (u : SY) (post : Int32 → Prop), post 1 → wpY_bad post u C) ∨ ∃ c, c < 4 ∧ C = nI c ∧ (∀ post : Int32 → Prop, post 1 → wpX_isClient post C) ∧ ∀ (u : SY) (post : Int32 → Prop), post 0 → wpY_bad post u C := by
  rcases pk_ix C (n := 4) (by omega) with h | h | ⟨c, hc, rfl⟩
  · exact Or.inl ⟨fun post hp => br_t h hp, fun u post hp => br_t h hp⟩
  · have h0 : ¬ C < 0 := fun z => Int32.lt_irrefl (Int32.lt_of_lt_of_le z (Int32.le_trans (by decide) h))
    have h3 : ¬ C ≤ 3 := fun z => absurd (Int32.le_trans h z) (by decide)
    exact Or.inl ⟨fun post hp => br_f h0 (br_t h hp), fun u post hp => br_f h0 (br_f h3 hp)⟩
  · have h0 : ¬ nI c < 0 := nI_pos (by omega)
    exact Or.inr ⟨c, hc, rfl, fun post hp => br_f h0 (br_f (nI_ge (b := 4) hc (by omega)) hp), fun u post hp => br_f h0 (br_t (nI_le (b := 3) (by omega) (by omega)) hp)⟩
theorem pr_se (S : Int32) : ((∀ post : Int32 → Prop, post 0 → wpX_isSerial post S) ∧ (S < 1 ∨ (¬ S < 1 ∧ 24 < S))) ∨ ∃ s, 1 ≤ s ∧ s ≤ 24 ∧ S = nI s ∧ (∀ post : Int32 → Prop, post 1 → wpX_isSerial post S) ∧ ¬ S < 1 ∧ ¬ 24 < S ∧ S ≤ 24 := by
  by_cases h1 : S < 1
  · exact Or.inl ⟨fun post hp => br_t h1 hp, Or.inl h1⟩
  · by_cases h2 : 24 < S
    · exact Or.inl ⟨fun post hp => br_f h1 (br_t h2 hp), Or.inr ⟨h1, h2⟩⟩
    · obtain ⟨s, hs, rfl⟩ := nI_of (x := S) (fun z => h1 (Int32.lt_trans z (by decide)))
      have a : 1 ≤ s := by
        apply Classical.byContradiction
        intro hx
        exact h1 (nI_lt (b := 1) (by omega) (by omega))
      have b : s ≤ 24 := by
        apply Classical.byContradiction
        intro hx
        exact h2 (nI_lt (a := 24) (by omega) hs)
      exact Or.inr ⟨s, a, b, rfl, fun post hp => br_f h1 (br_f h2 hp), h1, h2, Int32.not_lt.mp h2⟩
end P9
end
section
section P10
/-! where a topic stands, or would stand -/
theorem ps_pl {n : Nat} {tX sX tY sY : TA} (H : ps_R n tX sX tY sY) (T : Int32) : ∃ pl, pl ≤ n ∧ (∀ i, i < pl → tX i < T) ∧ ∀ i, pl ≤ i → i < n → T ≤ tX i := by
  obtain ⟨pl, h1, h2⟩ := pk_least (fun i => i = n ∨ ¬ tX i < T) ⟨n, Or.inl rfl⟩
  have hle : pl ≤ n := by
    apply Classical.byContradiction
    intro hx
    exact h2 n (by omega) (Or.inl rfl)
  refine ⟨pl, hle, fun i hi => ?_, fun i hi hn => ?_⟩
  · apply Classical.byContradiction
    intro hx
    exact h2 i hi (Or.inr hx)
  · have h3 : ¬ tX pl < T := by
      rcases h1 with h1 | h1
      · omega
      · exact h1
    by_cases e : i = pl
    · rw [e]; exact Int32.not_lt.mp h3
    · exact Int32.le_trans (Int32.not_lt.mp h3) (Int32.le_of_lt (H.2.2.2.1 pl i (by omega) hn))
theorem px_pl_lp {p : TP} {k : TK} {r : TR} {l s : TL} {o : TO} {h : TA} {w : TW} {n pl : Nat} {T : Int32} (hn : r.1 = nI n) (n8 : n ≤ 8) (h1 : pl ≤ n) (h2 : ∀ i, i < pl → r.2.1 i < T) (h3 : ∀ i, pl ≤ i → i < n → T ≤ r.2.1 i) {post : Int32 → Prop} (hp : post (nI pl)) :
    ∀ d i P, i + d = n → (i ≤ pl → P = i) → (pl ≤ i → P = pl) → wX_retainedPlace_4 post T p.1 r.1 p.2.1 p.2.2.1 p.2.2.2.1 p.2.2.2.2 k.1 k.2.1 k.2.2.1 k.2.2.2 r.2.1 r.2.2 l.1 l.2.1 l.2.2 s.1 s.2.1 s.2.2 o.1 o.2.1 o.2.2.1 o.2.2.2.1 o.2.2.2.2.1 o.2.2.2.2.2 h w.1 w.2.1 w.2.2.1 w.2.2.2.1 w.2.2.2.2.1 w.2.2.2.2.2.1 w.2.2.2.2.2.2 (d + 1) (nI P) (nI i) := by
  intro d
  induction d with
  | zero =>
    intro i P hi hP hQ
    obtain rfl : i = n := by omega
    have := hQ h1
    subst this
    exact br_t (by rw [hn]; exact nI_le (by omega) (by omega)) hp
  | succ d ih =>
    intro i P hi hP hQ
    have hc : ¬ r.1 ≤ nI i := by rw [hn]; exact nI_ge (by omega) (by omega)
    have hi8 : vp_in (nI i) 8 := vp_in_nI (by omega) (by omega)
    by_cases hlt : i < pl
    · exact br_f hc ⟨hi8, br_f (by rw [nI_clamp (by omega)]; exact fun z => Int32.lt_irrefl (Int32.lt_of_lt_of_le (h2 i hlt) z)) (nm_r (nI_1 i) (nm_r (nI_1 i) (ih (i + 1) (i + 1) (by omega) (fun _ => rfl) (fun z => by omega))))⟩
    · exact br_f hc ⟨hi8, br_t (by rw [nI_clamp (by omega)]; exact h3 i (by omega) (by omega)) (nm_r (nI_1 i) (ih (i + 1) P (by omega) (fun z => by omega) (fun z => hQ (by omega))))⟩
theorem px_pl {p : TP} {k : TK} {r : TR} {l s : TL} {o : TO} {h : TA} {w : TW} {n pl : Nat} {T : Int32} (hn : r.1 = nI n) (n8 : n ≤ 8) (h1 : pl ≤ n) (h2 : ∀ i, i < pl → r.2.1 i < T) (h3 : ∀ i, pl ≤ i → i < n → T ≤ r.2.1 i) {post : Int32 → Prop} (hp : post (nI pl)) : wpX_retainedPlace post (XS p k r l s o h w) T :=
  ⟨n + 1, px_pl_lp hn n8 h1 h2 h3 hp n 0 0 (by omega) (fun _ => rfl) (fun z => by omega)⟩
theorem py_fr_lp {p : TP} {k : TK} {q : TR} {l s : TL} {e : TO} {g m : TA} {z : TO} {t : T5} {n j : Nat} {T : Int32} (hn : q.1 = nI n) (n8 : n ≤ 8) (F : ps_F q.2.1 0 n T j) {post : Int32 → Prop} (h1 : j < n → post (nI j)) (h2 : j = n → post (-1)) :
    ∀ d i, i + d = j → wY_findRetained_2 post T p.1 q.1 t.1 t.2.1 t.2.2.1 t.2.2.2.1 t.2.2.2.2 p.2.1 p.2.2.1 p.2.2.2.1 p.2.2.2.2 k.2.2.1 k.1 k.2.1 k.2.2.2 q.2.1 q.2.2 l.1 l.2.1 l.2.2 s.2.1 s.2.2 s.1 e.2.1 e.2.2.1 e.2.2.2.1 e.2.2.2.2.1 e.2.2.2.2.2 e.1 g m z.2.1 z.2.2.1 z.2.2.2.1 z.2.2.2.2.1 z.2.2.2.2.2 z.1 (d + 1) (nI i) := by
  intro d
  have hj := F.1
  induction d with
  | zero =>
    intro i hi
    obtain rfl : i = j := by omega
    by_cases hn' : i < n
    · exact br_f (by rw [hn]; exact nI_ge (by omega) (by omega)) ⟨vp_in_nI (by omega) (by omega), br_t (by rw [nI_clamp (by omega)]; have := F.2.2 hn'; rw [Nat.zero_add] at this; exact this) (h1 hn')⟩
    · exact br_t (by rw [hn]; exact nI_le (by omega) (by omega)) (h2 (by omega))
  | succ d ih =>
    intro i hi
    exact br_f (by rw [hn]; exact nI_ge (by omega) (by omega)) ⟨vp_in_nI (by omega) (by omega), br_f (by rw [nI_clamp (by omega)]; have := F.2.1 i (by omega); rw [Nat.zero_add] at this; exact this) (nm_r (nI_1 _) (ih (i + 1) (by omega)))⟩
theorem py_fr {p : TP} {k : TK} {q : TR} {l s : TL} {e : TO} {g m : TA} {z : TO} {t : T5} {n j : Nat} {T : Int32} (hn : q.1 = nI n) (n8 : n ≤ 8) (F : ps_F q.2.1 0 n T j) {post : Int32 → Prop} (h1 : j < n → post (nI j)) (h2 : j = n → post (-1)) : wpY_findRetained post (YS p k q l s e g m z t) T := ⟨j + 1, py_fr_lp hn n8 F h1 h2 j 0 (by omega)⟩
/-! X: an entry removed, inserted -/
theorem px_rrem {p : TP} {k : TK} {r : TR} {l s : TL} {o : TO} {h : TA} {w : TW} {n pl : Nat} (hn : r.1 = nI (n + 1)) (n8 : n < 8) (h1 : pl ≤ n) {post : SX → Prop} (hp : post (XS p k (nI n, ps_sh r.2.1 pl n, ps_sh r.2.2 pl n) l s o h w)) : wpX_removeRetained post (XS p k r l s o h w) (nI pl) := by
  have hl : ∀ d i, pl ≤ i → i + d = n → wX_removeRetained_2 post p.1 r.1 (d + 1) (nI i) p.2.1 p.2.2.1 p.2.2.2.1 p.2.2.2.2 k.1 k.2.1 k.2.2.1 k.2.2.2 (ps_sh r.2.1 pl i) (ps_sh r.2.2 pl i) l.1 l.2.1 l.2.2 s.1 s.2.1 s.2.2 o.1 o.2.1 o.2.2.1 o.2.2.2.1 o.2.2.2.2.1 o.2.2.2.2.2 h w.1 w.2.1 w.2.2.1 w.2.2.2.1 w.2.2.2.2.1 w.2.2.2.2.2.1 w.2.2.2.2.2.2 := by
    intro d
    induction d with
    | zero =>
      intro i h1 hi
      obtain rfl : i = n := by omega
      exact br_t (by rw [hn, nI_pred]; exact nI_le (by omega) (by omega)) (nm_r (e' := nI i) (by rw [hn, nI_pred]) hp)
    | succ d ih =>
      intro i h1 hi
      have a0 : vp_in (nI i) 8 := vp_in_nI (by omega) (by omega)
      have a1 : vp_in (nI i + 1) 8 := by rw [nI_1]; exact vp_in_nI (by omega) (by omega)
      exact br_f (by rw [hn, nI_pred]; exact nI_ge (by omega) (by omega)) ⟨a1, a0, nm_r (pn_sh rfl (nI_1 _) (by omega) (by omega)) ⟨a1, a0, nm_r (pn_sh rfl (nI_1 _) (by omega) (by omega)) (nm_r (nI_1 _) (ih (i + 1) (by omega) (by omega)))⟩⟩
  have hl0 := hl (n - pl) pl (Nat.le_refl pl) (by omega)
  rw [ps_sh0 (Nat.le_refl _), ps_sh0 (Nat.le_refl _)] at hl0
  exact ⟨n - pl + 1, hl0⟩
theorem pn_rs {f : TA} {i m : Nat} {x y : Int32} (hx : x = nI (i + 1)) (hy : y = nI i) (h : i + 1 ≤ m) (hm : m < 10000) : upd (ps_rs f (i + 1) m) x.toNatClampNeg (ps_rs f (i + 1) m y.toNatClampNeg) = ps_rs f i m := by
  rw [pn_cl hx (by omega), pn_cl hy (by omega)]
  exact ps_rsS h
theorem px_rins {p : TP} {k : TK} {r : TR} {l s : TL} {o : TO} {h : TA} {w : TW} {n pl : Nat} {T S : Int32} (hn : r.1 = nI n) (n8 : n < 8) (h1 : pl ≤ n) {post : SX → Prop} (hp : post (XS p k (nI (n + 1), upd (ps_rs r.2.1 pl n) pl T, upd (ps_rs r.2.2 pl n) pl S) l s o h w)) : wpX_insertRetained post (XS p k r l s o h w) (nI pl) T S := by
  have cp : (nI pl).toNatClampNeg = pl := nI_clamp (by omega)
  have i8 : vp_in (nI pl) 8 := vp_in_nI (by omega) (by omega)
  have hl : ∀ d i, i = pl + d → i ≤ n → wX_insertRetained_6 post (nI pl) T S p.1 r.1 (d + 1) (nI i) p.2.1 p.2.2.1 p.2.2.2.1 p.2.2.2.2 k.1 k.2.1 k.2.2.1 k.2.2.2 (ps_rs r.2.1 i n) (ps_rs r.2.2 i n) l.1 l.2.1 l.2.2 s.1 s.2.1 s.2.2 o.1 o.2.1 o.2.2.1 o.2.2.2.1 o.2.2.2.2.1 o.2.2.2.2.2 h w.1 w.2.1 w.2.2.1 w.2.2.2.1 w.2.2.2.2.1 w.2.2.2.2.2.1 w.2.2.2.2.2.2 := by
    intro d
    induction d with
    | zero =>
      intro i hi hin
      obtain rfl : i = pl := by omega
      exact br_t (nI_le (by omega) (by omega)) ⟨i8, nm_r (by rw [cp]) ⟨i8, nm_r (by rw [cp]) (nm_r (e' := nI (n + 1)) (by rw [hn, nI_1]) hp)⟩⟩
    | succ d ih =>
      intro i hi hin
      obtain ⟨i', rfl⟩ : ∃ i', i = i' + 1 := ⟨i - 1, by omega⟩
      have a0 : vp_in (nI (i' + 1)) 8 := vp_in_nI (by omega) (by omega)
      have a1 : vp_in (nI (i' + 1) - 1) 8 := by rw [nI_pred]; exact vp_in_nI (by omega) (by omega)
      exact br_f (nI_ge (by omega) (by omega)) ⟨a1, a0, nm_r (pn_rs rfl (nI_pred _) (by omega) (by omega)) ⟨a1, a0, nm_r (pn_rs rfl (nI_pred _) (by omega) (by omega)) (nm_r (pk_m1 _) (ih i' (by omega) (by omega)))⟩⟩
  have hl0 := hl (n - pl) n (by omega) (Nat.le_refl n)
  rw [ps_rs0, ps_rs0] at hl0
  refine ⟨n - pl + 1, ?_⟩
  show wX_insertRetained_6 post (nI pl) T S p.1 r.1 (n - pl + 1) r.1 p.2.1 p.2.2.1 p.2.2.2.1 p.2.2.2.2 k.1 k.2.1 k.2.2.1 k.2.2.2 r.2.1 r.2.2 l.1 l.2.1 l.2.2 s.1 s.2.1 s.2.2 o.1 o.2.1 o.2.2.1 o.2.2.2.1 o.2.2.2.2.1 o.2.2.2.2.2 h w.1 w.2.1 w.2.2.1 w.2.2.2.1 w.2.2.2.2.1 w.2.2.2.2.2.1 w.2.2.2.2.2.2
  rw [hn] at hl0 ⊢
  exact hl0
/-! the retained entry of an accepted serial -/
theorem px_u36 {p : TP} {k : TK} {r : TR} {l s : TL} {o : TO} {h : TA} {w : TW} {n pl sn : Nat} {T Z : Int32} (hs : sn < 25) (hn : r.1 = nI n) (n8 : n ≤ 8) (hpl : pl ≤ n) {post : SX → Prop}
    (h00 : p.2.2.1 sn = 0 → Z = 0 → post (XS p k r l s o h w))
    (h01 : p.2.2.1 sn = 0 → ¬ Z = 0 → wpX_removeRetained post (XS p k r l s o h w) (nI pl))
    (h10 : ¬ p.2.2.1 sn = 0 → Z = 0 → n = 8 → post (XS p k r l s o h w))
    (h11 : ¬ p.2.2.1 sn = 0 → Z = 0 → n < 8 → wpX_insertRetained post (XS p k r l s o h w) (nI pl) T (nI sn))
    (h12 : ¬ p.2.2.1 sn = 0 → ¬ Z = 0 → pl < 8 ∧ post (XS p k (r.1, r.2.1, upd r.2.2 pl (nI sn)) l s o h w)) : wX_updateRetained_36 post (nI sn) T (nI pl) Z p.1 r.1 p.2.1 p.2.2.1 p.2.2.2.1 p.2.2.2.2 k.1 k.2.1 k.2.2.1 k.2.2.2 r.2.1 r.2.2 l.1 l.2.1 l.2.2 s.1 s.2.1 s.2.2 o.1 o.2.1 o.2.2.1 o.2.2.2.1 o.2.2.2.2.1 o.2.2.2.2.2 h w.1 w.2.1 w.2.2.1 w.2.2.2.1 w.2.2.2.2.1 w.2.2.2.2.2.1 w.2.2.2.2.2.2 := by
  have cs : (nI sn).toNatClampNeg = sn := nI_clamp (by omega)
  refine ⟨vp_in_nI hs (by omega), br_c (fun a => ?_) fun a => ?_⟩
  · rw [cs] at a
    exact br_c (fun b => h00 a b) fun b => h01 a b
  · rw [cs] at a
    refine br_c (fun b => br_c (fun d => ?_) fun d => ?_) fun b => ?_
    · refine h10 a b ?_
      rw [hn] at d
      have := (nI_leI (a := 8) (by omega) (by omega)).mp d
      omega
    · refine h11 a b ?_
      rw [hn] at d
      apply Classical.byContradiction
      intro hx
      exact d (nI_le (a := 8) (by omega) (by omega))
    · obtain ⟨h8, hp⟩ := h12 a b
      exact ⟨vp_in_nI h8 (by omega), nm_r (by rw [nI_clamp (by omega)]) hp⟩
end P10
end
section
section P11
theorem px_upd_y {p : TP} {k : TK} {r : TR} {l s : TL} {o : TO} {h : TA} {w : TW} {n pl sn tn : Nat} (hs : sn < 25) (hT : p.2.1 sn = nI tn) (hn : r.1 = nI n) (n8 : n ≤ 8) (h1 : pl < n) (h2 : ∀ i, i < pl → r.2.1 i < nI tn) (h3 : ∀ i, pl ≤ i → i < n → nI tn ≤ r.2.1 i) (he : r.2.1 pl = nI tn) {post : SX → Prop}
    (hp : wX_updateRetained_36 post (nI sn) (nI tn) (nI pl) 1 p.1 r.1 p.2.1 p.2.2.1 p.2.2.2.1 p.2.2.2.2 k.1 k.2.1 k.2.2.1 k.2.2.2 r.2.1 r.2.2 l.1 l.2.1 l.2.2 s.1 s.2.1 s.2.2 o.1 o.2.1 o.2.2.1 o.2.2.2.1 o.2.2.2.2.1 o.2.2.2.2.2 h w.1 w.2.1 w.2.2.1 w.2.2.2.1 w.2.2.2.2.1 w.2.2.2.2.2.1 w.2.2.2.2.2.2) : wpX_updateRetained post (XS p k r l s o h w) (nI sn) := by
  have cs : (nI sn).toNatClampNeg = sn := nI_clamp (by omega)
  exact ⟨vp_in_nI hs (by omega), nm_r (e' := nI tn) (by rw [cs, hT]) (px_pl (p := p) (k := k) (r := r) (l := l) (s := s) (o := o) (h := h) (w := w) hn n8 (by omega) h2 h3 (br_f (by rw [hn]; exact nI_ge (by omega) (by omega)) ⟨vp_in_nI (by omega) (by omega), br_t (by rw [nI_clamp (by omega)]; exact he) hp⟩))⟩
theorem px_upd_n {p : TP} {k : TK} {r : TR} {l s : TL} {o : TO} {h : TA} {w : TW} {n pl sn tn : Nat} (hs : sn < 25) (hT : p.2.1 sn = nI tn) (hn : r.1 = nI n) (n8 : n ≤ 8) (h1 : pl ≤ n) (h2 : ∀ i, i < pl → r.2.1 i < nI tn) (h3 : ∀ i, pl ≤ i → i < n → nI tn ≤ r.2.1 i) (he : pl < n → ¬ r.2.1 pl = nI tn) {post : SX → Prop}
    (hp : wX_updateRetained_36 post (nI sn) (nI tn) (nI pl) 0 p.1 r.1 p.2.1 p.2.2.1 p.2.2.2.1 p.2.2.2.2 k.1 k.2.1 k.2.2.1 k.2.2.2 r.2.1 r.2.2 l.1 l.2.1 l.2.2 s.1 s.2.1 s.2.2 o.1 o.2.1 o.2.2.1 o.2.2.2.1 o.2.2.2.2.1 o.2.2.2.2.2 h w.1 w.2.1 w.2.2.1 w.2.2.2.1 w.2.2.2.2.1 w.2.2.2.2.2.1 w.2.2.2.2.2.2) : wpX_updateRetained post (XS p k r l s o h w) (nI sn) := by
  have cs : (nI sn).toNatClampNeg = sn := nI_clamp (by omega)
  refine ⟨vp_in_nI hs (by omega), nm_r (e' := nI tn) (by rw [cs, hT]) (px_pl (p := p) (k := k) (r := r) (l := l) (s := s) (o := o) (h := h) (w := w) hn n8 (by omega) h2 h3 (br_c (fun _ => hp) fun a => ?_))⟩
  have hlt : pl < n := by
    rw [hn] at a
    apply Classical.byContradiction
    intro hx
    exact a (nI_le (by omega) (by omega))
  exact ⟨vp_in_nI (by omega) (by omega), br_f (by rw [nI_clamp (by omega)]; exact he hlt) hp⟩
/-- Y's accept up to its sends -/
theorem py_acc_0 {p : TP} {k : TK} {q : TR} {l s : TL} {e : TO} {g m : TA} {z : TO} {t : T5} {sn : Nat} (h1 : 1 ≤ sn) (h2 : sn ≤ 24) (hr : p.2.2.2.2 sn = 0) {post : SY → Prop}
    (hp : ∃ n, wY_accept_177 post (nI sn) (p.2.1 sn) n 0 p.1 q.1 t.1 t.2.1 t.2.2.1 t.2.2.2.1 t.2.2.2.2 p.2.1 p.2.2.1 p.2.2.2.1 p.2.2.2.2 (upd k.2.2.1 sn (k.2.2.1 sn + 1)) k.1 k.2.1 k.2.2.2 q.2.1 q.2.2 l.1 l.2.1 l.2.2 s.2.1 s.2.2 s.1 e.2.1 e.2.2.1 e.2.2.2.1 e.2.2.2.2.1 e.2.2.2.2.2 e.1 g m z.2.1 z.2.2.1 z.2.2.2.1 z.2.2.2.2.1 z.2.2.2.2.2 z.1) : wpY_accept post (YS p k q l s e g m z t) (nI sn) := by
  have cs : (nI sn).toNatClampNeg = sn := nI_clamp (by omega)
  have i25 : vp_in (nI sn) 25 := vp_in_nI (by omega) (by omega)
  exact br_f (nI_nlt (b := 1) h1 (by omega)) (br_t (nI_le (b := 24) h2 (by omega)) ⟨i25, i25, nm_r (e' := upd k.2.2.1 sn (k.2.2.1 sn + 1)) (by rw [cs]) ⟨i25, nm_r (e' := p.2.1 sn) (by rw [cs]) ⟨i25, br_t (by rw [cs]; exact hr) hp⟩⟩⟩)
theorem py_acc_r {p : TP} {k : TK} {q : TR} {l s : TL} {e : TO} {g m : TA} {z : TO} {t : T5} {n j sn : Nat} (h1 : 1 ≤ sn) (h2 : sn ≤ 24) (hr : ¬ p.2.2.2.2 sn = 0) (hn : q.1 = nI n) (n8 : n ≤ 8) (F : ps_F q.2.1 0 n (p.2.1 sn) j) {post : SY → Prop}
    (h00 : p.2.2.1 sn = 0 → j = n → ∃ n, wY_accept_177 post (nI sn) (p.2.1 sn) n 0 p.1 q.1 t.1 t.2.1 t.2.2.1 t.2.2.2.1 t.2.2.2.2 p.2.1 p.2.2.1 p.2.2.2.1 p.2.2.2.2 (upd k.2.2.1 sn (k.2.2.1 sn + 1)) k.1 k.2.1 k.2.2.2 q.2.1 q.2.2 l.1 l.2.1 l.2.2 s.2.1 s.2.2 s.1 e.2.1 e.2.2.1 e.2.2.2.1 e.2.2.2.2.1 e.2.2.2.2.2 e.1 g m z.2.1 z.2.2.1 z.2.2.2.1 z.2.2.2.2.1 z.2.2.2.2.2 z.1)
    (h01 : p.2.2.1 sn = 0 → j < n → ∃ n', wY_accept_177 post (nI sn) (p.2.1 sn) n' 0 p.1 ((nI (n - 1), ps_sh q.2.1 j (n - 1), ps_sh q.2.2 j (n - 1)).1) t.1 t.2.1 t.2.2.1 t.2.2.2.1 t.2.2.2.2 p.2.1 p.2.2.1 p.2.2.2.1 p.2.2.2.2 (upd k.2.2.1 sn (k.2.2.1 sn + 1)) k.1 k.2.1 k.2.2.2 ((nI (n - 1), ps_sh q.2.1 j (n - 1), ps_sh q.2.2 j (n - 1)).2.1) ((nI (n - 1), ps_sh q.2.1 j (n - 1), ps_sh q.2.2 j (n - 1)).2.2) l.1 l.2.1 l.2.2 s.2.1 s.2.2 s.1 e.2.1 e.2.2.1 e.2.2.2.1 e.2.2.2.2.1 e.2.2.2.2.2 e.1 g m z.2.1 z.2.2.1 z.2.2.2.1 z.2.2.2.2.1 z.2.2.2.2.2 z.1)
    (h10 : ¬ p.2.2.1 sn = 0 → j = n → n = 8 → ∃ n, wY_accept_177 post (nI sn) (p.2.1 sn) n 0 p.1 q.1 t.1 t.2.1 t.2.2.1 t.2.2.2.1 t.2.2.2.2 p.2.1 p.2.2.1 p.2.2.2.1 p.2.2.2.2 (upd k.2.2.1 sn (k.2.2.1 sn + 1)) k.1 k.2.1 k.2.2.2 q.2.1 q.2.2 l.1 l.2.1 l.2.2 s.2.1 s.2.2 s.1 e.2.1 e.2.2.1 e.2.2.2.1 e.2.2.2.2.1 e.2.2.2.2.2 e.1 g m z.2.1 z.2.2.1 z.2.2.2.1 z.2.2.2.2.1 z.2.2.2.2.2 z.1)
    (h11 : ¬ p.2.2.1 sn = 0 → j = n → n < 8 → ∃ n', wY_accept_177 post (nI sn) (p.2.1 sn) n' 0 p.1 ((nI (n + 1), upd q.2.1 n (p.2.1 sn), upd q.2.2 n (nI sn)).1) t.1 t.2.1 t.2.2.1 t.2.2.2.1 t.2.2.2.2 p.2.1 p.2.2.1 p.2.2.2.1 p.2.2.2.2 (upd k.2.2.1 sn (k.2.2.1 sn + 1)) k.1 k.2.1 k.2.2.2 ((nI (n + 1), upd q.2.1 n (p.2.1 sn), upd q.2.2 n (nI sn)).2.1) ((nI (n + 1), upd q.2.1 n (p.2.1 sn), upd q.2.2 n (nI sn)).2.2) l.1 l.2.1 l.2.2 s.2.1 s.2.2 s.1 e.2.1 e.2.2.1 e.2.2.2.1 e.2.2.2.2.1 e.2.2.2.2.2 e.1 g m z.2.1 z.2.2.1 z.2.2.2.1 z.2.2.2.2.1 z.2.2.2.2.2 z.1)
    (h12 : ¬ p.2.2.1 sn = 0 → j < n → ∃ n, wY_accept_177 post (nI sn) (p.2.1 sn) n 0 p.1 ((q.1, q.2.1, upd q.2.2 j (nI sn)).1) t.1 t.2.1 t.2.2.1 t.2.2.2.1 t.2.2.2.2 p.2.1 p.2.2.1 p.2.2.2.1 p.2.2.2.2 (upd k.2.2.1 sn (k.2.2.1 sn + 1)) k.1 k.2.1 k.2.2.2 ((q.1, q.2.1, upd q.2.2 j (nI sn)).2.1) ((q.1, q.2.1, upd q.2.2 j (nI sn)).2.2) l.1 l.2.1 l.2.2 s.2.1 s.2.2 s.1 e.2.1 e.2.2.1 e.2.2.2.1 e.2.2.2.2.1 e.2.2.2.2.2 e.1 g m z.2.1 z.2.2.1 z.2.2.2.1 z.2.2.2.2.1 z.2.2.2.2.2 z.1) : wpY_accept post (YS p k q l s e g m z t) (nI sn) := by
  have cs : (nI sn).toNatClampNeg = sn := nI_clamp (by omega)
  have i25 : vp_in (nI sn) 25 := vp_in_nI (by omega) (by omega)
  have hj := F.1
  have m1 : (-1 : Int32) < 0 := by decide
  refine br_f (nI_nlt (b := 1) h1 (by omega)) (br_t (nI_le (b := 24) h2 (by omega)) ⟨i25, i25, nm_r (e' := upd k.2.2.1 sn (k.2.2.1 sn + 1)) (by rw [cs]) ⟨i25, nm_r (e' := p.2.1 sn) (by rw [cs]) ⟨i25, br_f (by rw [cs]; exact hr) (py_fr (p := p) (k := (k.1, k.2.1, upd k.2.2.1 sn (k.2.2.1 sn + 1), k.2.2.2)) (q := q) (l := l) (s := s) (e := e) (g := g) (m := m) (z := z) (t := t) hn n8 F (fun hlt => ?_) (fun heq => ?_))⟩⟩⟩)
  · have hp0 : ¬ nI j < 0 := nI_pos (by omega)
    refine ⟨i25, br_c (fun a => br_f hp0 ?_) (fun a => br_f hp0 ?_)⟩
    · rw [cs] at a
      obtain ⟨n, rfl⟩ : ∃ n', n = n' + 1 := ⟨n - 1, by omega⟩
      obtain ⟨f, hf⟩ := h01 a hlt
      rw [Nat.add_sub_cancel] at hf
      have hl : ∀ d i, j ≤ i → i + d = n → wY_accept_60 post (nI sn) (p.2.1 sn) p.1 q.1 t.1 t.2.1 t.2.2.1 t.2.2.2.1 t.2.2.2.2 (d + 1) (nI i) p.2.1 p.2.2.1 p.2.2.2.1 p.2.2.2.2 (upd k.2.2.1 sn (k.2.2.1 sn + 1)) k.1 k.2.1 k.2.2.2 (ps_sh q.2.1 j i) (ps_sh q.2.2 j i) l.1 l.2.1 l.2.2 s.2.1 s.2.2 s.1 e.2.1 e.2.2.1 e.2.2.2.1 e.2.2.2.2.1 e.2.2.2.2.2 e.1 g m z.2.1 z.2.2.1 z.2.2.2.1 z.2.2.2.2.1 z.2.2.2.2.2 z.1 := by
        intro d
        induction d with
        | zero =>
          intro i h1 hi
          obtain rfl : i = n := by omega
          exact br_t (by rw [hn, nI_1]; exact nI_le (by omega) (by omega)) (nm_r (e' := nI i) (by rw [hn, nI_pred]) ⟨f, hf⟩)
        | succ d ih =>
          intro i h1 hi
          have a0 : vp_in (nI i) 8 := vp_in_nI (by omega) (by omega)
          have a1 : vp_in (nI i + 1) 8 := by rw [nI_1]; exact vp_in_nI (by omega) (by omega)
          exact br_f (by rw [hn, nI_1]; exact nI_ge (by omega) (by omega)) ⟨a1, a0, nm_r (pn_sh rfl (nI_1 _) (by omega) (by omega)) ⟨a1, a0, nm_r (pn_sh rfl (nI_1 _) (by omega) (by omega)) (nm_r (nI_1 _) (ih (i + 1) (by omega) (by omega)))⟩⟩
      have hl0 := hl (n - j) j (Nat.le_refl j) (by omega)
      rw [ps_sh0 (Nat.le_refl _), ps_sh0 (Nat.le_refl _)] at hl0
      exact ⟨n - j + 1, hl0⟩
    · rw [cs] at a
      exact ⟨vp_in_nI (by omega) (by omega), nm_r (by rw [nI_clamp (by omega)]) (h12 a hlt)⟩
  · refine ⟨i25, br_c (fun a => br_t m1 ?_) (fun a => br_t m1 (br_c (fun b => ?_) fun b => ?_))⟩
    · rw [cs] at a
      exact h00 a heq
    · rw [cs] at a
      refine h10 a heq ?_
      rw [hn] at b
      have := (nI_leI (a := 8) (by omega) (by omega)).mp b
      omega
    · rw [cs] at a
      have hlt : n < 8 := by
        rw [hn] at b
        apply Classical.byContradiction
        intro hx
        exact b (nI_le (a := 8) (by omega) (by omega))
      have cn : q.1.toNatClampNeg = n := by rw [hn]; exact nI_clamp (by omega)
      have i8 : vp_in q.1 8 := by rw [hn]; exact vp_in_nI hlt (by omega)
      exact ⟨i8, nm_r (by rw [cn]) ⟨i8, nm_r (by rw [cn]) (nm_r (e' := nI (n + 1)) (by rw [hn, nI_1]) (h11 a heq hlt))⟩⟩
theorem pr_upd {p : TP} {r q : TR} (H : ps_RR r q) {sn tn : Nat} (h1 : 1 ≤ sn) (h2 : sn ≤ 24) (ht : tn < 4096) (hT : p.2.1 sn = nI tn) (hr : ¬ p.2.2.2.2 sn = 0) : ∃ r' q', ps_RR r' q'
    ∧ (∀ (k : TK) (l s : TL) (o : TO) (h : TA) (w : TW) (post : SX → Prop), post (XS p k r' l s o h w) → wpX_updateRetained post (XS p k r l s o h w) (nI sn))
    ∧ (∀ (k : TK) (l s : TL) (e : TO) (g m : TA) (z : TO) (t : T5) (post : SY → Prop), (∃ n, wY_accept_177 post (nI sn) (p.2.1 sn) n 0 p.1 q'.1 t.1 t.2.1 t.2.2.1 t.2.2.2.1 t.2.2.2.2 p.2.1 p.2.2.1 p.2.2.2.1 p.2.2.2.2 (upd k.2.2.1 sn (k.2.2.1 sn + 1)) k.1 k.2.1 k.2.2.2 q'.2.1 q'.2.2 l.1 l.2.1 l.2.2 s.2.1 s.2.2 s.1 e.2.1 e.2.2.1 e.2.2.2.1 e.2.2.2.2.1 e.2.2.2.2.2 e.1 g m z.2.1 z.2.2.1 z.2.2.2.1 z.2.2.2.2.1 z.2.2.2.2.2 z.1) → wpY_accept post (YS p k q l s e g m z t) (nI sn)) := by
  obtain ⟨n, e1, e2, hR⟩ := H
  have n8 := hR.1
  obtain ⟨pl, p1, p2, p3⟩ := ps_pl hR (nI tn)
  obtain ⟨j, F⟩ := ps_F_ex q.2.1 0 (p.2.1 sn) n
  have hj := F.1
  have hs : sn < 25 := by omega
  by_cases hpr : pl < n ∧ r.2.1 pl = nI tn
  · obtain ⟨hlt, he⟩ := hpr
    have hjn : j < n := by
      obtain ⟨j', hj', ej, _⟩ := hR.2.2.2.2.2.1 pl hlt
      apply Classical.byContradiction
      intro hx
      have := F.2.1 j' (by omega)
      rw [Nat.zero_add, hT, ej] at this
      exact this he
    have hej : r.2.1 pl = q.2.1 j := by
      have := F.2.2 hjn
      rw [Nat.zero_add, hT] at this
      rw [this]
      exact he
    have one : ¬ (1 : Int32) = 0 := by decide
    by_cases hp0 : p.2.2.1 sn = 0
    · obtain ⟨n, rfl⟩ : ∃ n', n = n' + 1 := ⟨n - 1, by omega⟩
      refine ⟨(nI n, ps_sh r.2.1 pl n, ps_sh r.2.2 pl n), (nI n, ps_sh q.2.1 j n, ps_sh q.2.2 j n), ⟨n, rfl, rfl, ps_R_del hR hlt hjn hej⟩, fun k l s o h w post hp => ?_, fun k l s e g m z t post hp => ?_⟩
      · exact px_upd_y hs hT e1 n8 hlt p2 p3 he (px_u36 hs e1 n8 p1 (fun _ z => absurd z one) (fun _ _ => px_rrem e1 (by omega) (by omega) hp) (fun z => absurd hp0 z) (fun z => absurd hp0 z) (fun z => absurd hp0 z))
      · exact py_acc_r h1 h2 hr e2 n8 F (fun _ z => by omega) (fun _ _ => hp) (fun z => absurd hp0 z) (fun z => absurd hp0 z) (fun z => absurd hp0 z)
    · refine ⟨(r.1, r.2.1, upd r.2.2 pl (nI sn)), (q.1, q.2.1, upd q.2.2 j (nI sn)), ⟨n, e1, e2, ps_R_set hR hlt hjn hej h1 h2⟩, fun k l s o h w post hp => ?_, fun k l s e g m z t post hp => ?_⟩
      · exact px_upd_y hs hT e1 n8 hlt p2 p3 he (px_u36 hs e1 n8 p1 (fun z => absurd z hp0) (fun z => absurd z hp0) (fun _ z => absurd z one) (fun _ z => absurd z one) (fun _ _ => ⟨by omega, hp⟩))
      · exact py_acc_r h1 h2 hr e2 n8 F (fun z => absurd z hp0) (fun z => absurd z hp0) (fun _ z => by omega) (fun _ z => by omega) (fun _ _ => hp)
  · have hab : pl < n → ¬ r.2.1 pl = nI tn := fun hlt he => hpr ⟨hlt, he⟩
    have hgt : ∀ i, pl ≤ i → i < n → nI tn < r.2.1 i := by
      intro i h1 h2
      have h3 := p3 i h1 h2
      have h4 : r.2.1 i ≠ nI tn := by
        intro e
        by_cases hi : i = pl
        · rw [hi] at e h2
          exact hab h2 e
        · have h5 := hR.2.2.2.1 pl i (by omega) h2
          rw [e] at h5
          exact Int32.lt_irrefl (Int32.lt_of_lt_of_le h5 (p3 pl (Nat.le_refl _) (by omega)))
      exact ps_tri (Int32.not_lt.mpr h3) h4
    have hno : ∀ i, i < n → r.2.1 i ≠ nI tn := by
      intro i hi
      by_cases b : i < pl
      · exact ps_lt_ne (p2 i b)
      · exact (ps_lt_ne (hgt i (by omega) hi)).symm
    have hjn : j = n := by
      apply Classical.byContradiction
      intro hx
      have h3 := F.2.2 (by omega)
      rw [Nat.zero_add, hT] at h3
      obtain ⟨i, hi, ei, _⟩ := hR.2.2.2.2.2.2 j (by omega)
      exact hno i hi (ei.trans h3)
    by_cases hp0 : p.2.2.1 sn = 0
    · refine ⟨r, q, ⟨n, e1, e2, hR⟩, fun k l s o h w post hp => ?_, fun k l s e g m z t post hp => ?_⟩
      · exact px_upd_n hs hT e1 n8 p1 p2 p3 hab (px_u36 hs e1 n8 p1 (fun _ _ => hp) (fun _ z => absurd rfl z) (fun z => absurd hp0 z) (fun z => absurd hp0 z) (fun z => absurd hp0 z))
      · exact py_acc_r h1 h2 hr e2 n8 F (fun _ _ => hp) (fun _ z => by omega) (fun z => absurd hp0 z) (fun z => absurd hp0 z) (fun z => absurd hp0 z)
    · by_cases h8 : n = 8
      · refine ⟨r, q, ⟨n, e1, e2, hR⟩, fun k l s o h w post hp => ?_, fun k l s e g m z t post hp => ?_⟩
        · exact px_upd_n hs hT e1 n8 p1 p2 p3 hab (px_u36 hs e1 n8 p1 (fun z => absurd z hp0) (fun z => absurd z hp0) (fun _ _ _ => hp) (fun _ _ z => by omega) (fun _ z => absurd rfl z))
        · exact py_acc_r h1 h2 hr e2 n8 F (fun z => absurd z hp0) (fun z => absurd z hp0) (fun _ _ _ => hp) (fun _ _ z => by omega) (fun _ z => by omega)
      · refine ⟨(nI (n + 1), upd (ps_rs r.2.1 pl n) pl (nI tn), upd (ps_rs r.2.2 pl n) pl (nI sn)), (nI (n + 1), upd q.2.1 n (nI tn), upd q.2.2 n (nI sn)), ⟨n + 1, rfl, rfl, ps_R_ins hR (by omega) p1 ht h1 h2 p2 hgt⟩, fun k l s o h w post hp => ?_, fun k l s e g m z t post hp => ?_⟩
        · exact px_upd_n hs hT e1 n8 p1 p2 p3 hab (px_u36 hs e1 n8 p1 (fun z => absurd z hp0) (fun z => absurd z hp0) (fun _ _ z => absurd z h8) (fun _ _ z => px_rins e1 z p1 hp) (fun _ z => absurd rfl z))
        · exact py_acc_r h1 h2 hr e2 n8 F (fun z => absurd z hp0) (fun z => absurd z hp0) (fun _ _ z => absurd z h8) (fun _ _ _ => by rw [hT] at hp ⊢; exact hp) (fun _ z => by omega)
end P11
end
section
section P12
def ps_q3 (Q : Int32) : Prop := Q = 0 ∨ Q = 1 ∨ Q = 2
theorem pr_send {k : TK} {l : TL} {o e : TO} {w : TW} {z : TO} (HO : ps_GO o e) (HW : ps_GW w z) {d sn : Nat} (hd : d < 4) (h1 : 1 ≤ sn) (h2 : sn ≤ 24) {Q M : Int32} (hQ : ps_q3 Q) (hM : M = 0 ∨ M = 1) : ∃ (k' : TK) (o' e' : TO) (w' : TW) (z' : TO), ps_GO o' e' ∧ ps_GW w' z'
    ∧ (∀ p r s h (post : SX → Prop), post (XS p k' r l s o' h w') → wpX_sendSerial post (XS p k r l s o h w) (nI d) (nI sn) Q M)
    ∧ (∀ p q s g m t (post : SY → Prop), post (YS p k' q l s e' g m z' t) → wpY_send post (YS p k q l s e g m z t) (nI d) (nI sn) Q M) := by
  have cd : (nI d).toNatClampNeg = d := nI_clamp (by omega)
  have i4 : vp_in (nI d) 4 := vp_in_nI hd (by omega)
  have x8 : vp_in (nI (4 + d)) 8 := vp_in_nI (by omega) (by omega)
  have y8 : vp_in (nI (2 * d + 1)) 8 := vp_in_nI (by omega) (by omega)
  by_cases q0 : Q = 0
  · subst q0
    have hlt : (0 : Int32) < 1 := by decide
    by_cases hl : l.1 d = 0
    · exact ⟨k, o, e, w, z, HO, HW, fun p r s h post hp => nm_r (pn_4a d) (br_t hlt ⟨i4, br_t (by rw [cd]; exact hl) hp⟩), fun p q s g m t post hp => br_t rfl ⟨i4, br_t (by rw [cd]; exact hl) hp⟩⟩
    · obtain ⟨w', z', a1, a2, a3⟩ := pr_put HW (c := d) (b := 1) hd (by omega) (K := 1) (I := 0) (S := nI sn) (Q := 0) (M := M) ⟨⟨0, by omega, rfl, fun _ => ⟨⟨sn, h1, h2, rfl⟩, Or.inl rfl⟩, fun h => absurd rfl h⟩, hM⟩
      exact ⟨k, o, e, w', z', HO, a1, fun p r s h post hp => nm_r (pn_4a d) (br_t hlt ⟨i4, br_f (by rw [cd]; exact hl) (a2 p k r l s o h _ hp)⟩), fun p q s g m t post hp => br_t rfl ⟨i4, br_f (by rw [cd]; exact hl) (by rw [pn_y1]; exact a3 p k q l s e g m t _ hp)⟩⟩
  · have hlt : ¬ Q < 1 := by
      rcases hQ with h | h | h
      · exact absurd h q0
      · rw [h]; decide
      · rw [h]; decide
    have hQ2 : Q = 1 ∨ Q = 2 := by
      rcases hQ with h | h | h
      · exact absurd h q0
      · exact Or.inl h
      · exact Or.inr h
    obtain ⟨n, b1, b2, b3, b4⟩ := HO.1 d 1 hd (by omega)
    have n16 := b4.1
    have cx : (nI (4 + d)).toNatClampNeg = 4 * 1 + d := nI_clamp (by omega)
    have cy : (nI (2 * d + 1)).toNatClampNeg = 2 * d + 1 := nI_clamp (by omega)
    by_cases hf : n = 16
    · subst hf
      exact ⟨(k.1, k.2.1, k.2.2.1, upd k.2.2.2 d (k.2.2.2 d + 1)), o, e, w, z, HO, HW, fun p r s h post hp => nm_r (pn_4a d) (br_f hlt ⟨x8, br_t (by rw [cx, b2]; rfl) ⟨i4, i4, nm_r (by rw [cd]) hp⟩⟩), fun p q s g m t post hp => br_f q0 (nm_r (pn_y1 d) ⟨y8, br_f (by rw [cy, b3]; decide) ⟨i4, i4, nm_r (by rw [cd]) hp⟩⟩)⟩
    · obtain ⟨o', e', i, i1, i2, c1, c2, c3⟩ := pr_add HO hd (b := 1) (by omega) b2 (fun h => absurd h (by decide)) (by omega) (S := nI sn) ⟨sn, h1, h2, rfl⟩ hQ2 hM
      have hx : ¬ o.1 (nI (4 + d)).toNatClampNeg = 16 := by
        rw [cx, b2]
        intro h
        have := (nI_eq (b := 16) (by omega) (by omega)).mp h
        omega
      have hy : e.1 (nI (2 * d + 1)).toNatClampNeg < 16 := by
        rw [cy, b3]
        exact nI_lt (b := 16) (by omega) (by omega)
      by_cases hl : l.1 d = 0
      · exact ⟨k, o', e', w, z, c1, HW, fun p r s h post hp => nm_r (pn_4a d) (br_f hlt ⟨x8, br_f hx (c2 p k r l s h w _ ⟨i4, br_t (by rw [cd]; exact hl) hp⟩)⟩), fun p q s g m t post hp => br_f q0 (nm_r (pn_y1 d) ⟨y8, br_t hy (c3 p k q l s g m z t _ ⟨i4, br_t (by rw [cd]; exact hl) hp⟩)⟩)⟩
      · obtain ⟨w', z', a1, a2, a3⟩ := pr_put HW (c := d) (b := 1) hd (by omega) (K := 1) (I := nI i) (S := nI sn) (Q := Q) (M := M) ⟨⟨i, i2, rfl, fun _ => ⟨⟨sn, h1, h2, rfl⟩, Or.inr ⟨hQ2, i1⟩⟩, fun h => absurd rfl h⟩, hM⟩
        exact ⟨k, o', e', w', z', c1, a1, fun p r s h post hp => nm_r (pn_4a d) (br_f hlt ⟨x8, br_f hx (c2 p k r l s h w _ ⟨i4, br_f (by rw [cd]; exact hl) (a2 p k r l s o' h _ hp)⟩)⟩), fun p q s g m t post hp => br_f q0 (nm_r (pn_y1 d) ⟨y8, br_t hy (c3 p k q l s g m z t _ ⟨i4, br_f (by rw [cd]; exact hl) (by rw [pn_y1]; exact a3 p k q l s e' g m t _ hp)⟩)⟩)⟩
/-! what holds of the shared groups -/
def ps_IP (p : TP) : Prop := ∃ n, n ≤ 24 ∧ p.1 = nI n ∧ ∀ i, (∃ t, t < 4096 ∧ p.2.1 i = nI t) ∧ ps_q3 (p.2.2.2.1 i)
def ps_IL (l s : TL) : Prop := ∀ c, c < 4 → (¬ l.2.2 c = 0 → ¬ l.2.1 c = 0) ∧ (¬ l.1 c = 0 → ¬ l.2.1 c = 0) ∧ ∃ n, n ≤ 4 ∧ s.1 c = nI n ∧ (l.2.1 c = 0 → n = 0) ∧ ∀ j, j < n → ps_q3 (s.2.2 (c * 4 + j))
/-- the greatest qos of d's matching subscriptions, or -1 -/
theorem pr_gq_lp {s : TL} {d n : Nat} (hd : d < 4) (hn : s.1 d = nI n) (n4 : n ≤ 4) (hq : ∀ j, j < n → ps_q3 (s.2.2 (d * 4 + j))) (T : Int32) : ∀ f i (cur : Int32), i + f = n → (cur = -1 ∨ ps_q3 cur) → ∃ B : Int32, (B = -1 ∨ ps_q3 B) ∧ (f = 0 → B = cur)
    ∧ (∀ (p : TP) (k : TK) (r : TR) (l : TL) (o : TO) (h : TA) (w : TW) (post : Int32 → Prop), post B → wX_greatestQos_22 post T (nI (d * 4 + n)) p.1 r.1 p.2.1 p.2.2.1 p.2.2.2.1 p.2.2.2.2 k.1 k.2.1 k.2.2.1 k.2.2.2 r.2.1 r.2.2 l.1 l.2.1 l.2.2 s.1 s.2.1 s.2.2 o.1 o.2.1 o.2.2.1 o.2.2.2.1 o.2.2.2.2.1 o.2.2.2.2.2 h w.1 w.2.1 w.2.2.1 w.2.2.2.1 w.2.2.2.2.1 w.2.2.2.2.2.1 w.2.2.2.2.2.2 (f + 1) cur (nI (d * 4 + i)))
    ∧ (∀ (p : TP) (k : TK) (q : TR) (l : TL) (e : TO) (g m : TA) (z : TO) (t : T5) (post : SY → Prop) J x1, wY_accept_200 post J x1 T (nI d) p.1 q.1 t.1 t.2.1 t.2.2.1 t.2.2.2.1 t.2.2.2.2 p.2.1 p.2.2.1 p.2.2.2.1 p.2.2.2.2 k.2.2.1 k.1 k.2.1 k.2.2.2 q.2.1 q.2.2 l.1 l.2.1 l.2.2 s.2.1 s.2.2 s.1 e.2.1 e.2.2.1 e.2.2.2.1 e.2.2.2.2.1 e.2.2.2.2.2 e.1 g m z.2.1 z.2.2.1 z.2.2.2.1 z.2.2.2.2.1 z.2.2.2.2.2 z.1 1 B (nI n) → wY_accept_200 post J x1 T (nI d) p.1 q.1 t.1 t.2.1 t.2.2.1 t.2.2.2.1 t.2.2.2.2 p.2.1 p.2.2.1 p.2.2.2.1 p.2.2.2.2 k.2.2.1 k.1 k.2.1 k.2.2.2 q.2.1 q.2.2 l.1 l.2.1 l.2.2 s.2.1 s.2.2 s.1 e.2.1 e.2.2.1 e.2.2.2.1 e.2.2.2.2.1 e.2.2.2.2.2 e.1 g m z.2.1 z.2.2.1 z.2.2.2.1 z.2.2.2.2.1 z.2.2.2.2.2 z.1 (f + 1) cur (nI i)) := by
  have cd : (nI d).toNatClampNeg = d := nI_clamp (by omega)
  have i4 : vp_in (nI d) 4 := vp_in_nI hd (by omega)
  intro f
  induction f with
  | zero =>
    intro i cur hi hc
    obtain rfl : i = n := by omega
    exact ⟨cur, hc, fun _ => rfl, fun p k r l o h w post hp => br_t (nI_le (by omega) (by omega)) hp, fun p k q l e g m z t post J x1 hp => hp⟩
  | succ f ih =>
    intro i cur hi hc
    have cc : (nI (d * 4 + i)).toNatClampNeg = d * 4 + i := nI_clamp (by omega)
    have ic : vp_in (nI (d * 4 + i)) 16 := vp_in_nI (by omega) (by omega)
    have hX : ¬ nI (d * 4 + n) ≤ nI (d * 4 + i) := nI_ge (by omega) (by omega)
    have hY : ¬ s.1 (nI d).toNatClampNeg ≤ nI i := by rw [cd, hn]; exact nI_ge (by omega) (by omega)
    have eY : nI d * 4 + nI i = nI (d * 4 + i) := by rw [pn_m4, nI_add]
    obtain ⟨R, hR, r1, r2⟩ := pr_ma (s.2.1 (nI (d * 4 + i)).toNatClampNeg) T
    by_cases hle : s.2.2 (nI (d * 4 + i)).toNatClampNeg ≤ cur
    · obtain ⟨B, b1, b2, b3, b4⟩ := ih (i + 1) cur (by omega) hc
      refine ⟨B, b1, fun h => by omega, fun p k r l o h w post hp => br_f hX ⟨ic, br_t hle (nm_r (nI_1 _) (b3 p k r l o h w post hp))⟩, fun p k q l e g m z t post J x1 hp => ⟨i4, br_f hY (nm_r eY ⟨ic, r2 p k q l s e g m z t _ ?_⟩)⟩⟩
      have hn := b4 p k q l e g m z t post J x1 hp
      exact br_c (fun _ => nm_r (nI_1 _) hn) fun _ => ⟨ic, br_t hle (nm_r (nI_1 _) hn)⟩
    · by_cases hR0 : R = 0
      · obtain ⟨B, b1, b2, b3, b4⟩ := ih (i + 1) cur (by omega) hc
        exact ⟨B, b1, fun h => by omega, fun p k r l o h w post hp => br_f hX ⟨ic, br_f hle ⟨ic, r1 _ (br_t hR0 (nm_r (nI_1 _) (b3 p k r l o h w post hp)))⟩⟩, fun p k q l e g m z t post J x1 hp => ⟨i4, br_f hY (nm_r eY ⟨ic, r2 p k q l s e g m z t _ (br_t hR0 (nm_r (nI_1 _) (b4 p k q l e g m z t post J x1 hp)))⟩)⟩⟩
      · obtain ⟨B, b1, b2, b3, b4⟩ := ih (i + 1) (s.2.2 (nI (d * 4 + i)).toNatClampNeg) (by omega) (Or.inr (by rw [cc]; exact hq i (by omega)))
        exact ⟨B, b1, fun h => by omega, fun p k r l o h w post hp => br_f hX ⟨ic, br_f hle ⟨ic, r1 _ (br_f hR0 ⟨ic, nm_e (nm_r (nI_1 _) (b3 p k r l o h w post hp))⟩)⟩⟩, fun p k q l e g m z t post J x1 hp => ⟨i4, br_f hY (nm_r eY ⟨ic, r2 p k q l s e g m z t _ (br_f hR0 ⟨ic, br_f hle ⟨ic, nm_e (nm_r (nI_1 _) (b4 p k q l e g m z t post J x1 hp))⟩⟩)⟩)⟩⟩
theorem pr_gq {s : TL} {d n : Nat} (hd : d < 4) (hn : s.1 d = nI n) (n4 : n ≤ 4) (hq : ∀ j, j < n → ps_q3 (s.2.2 (d * 4 + j))) (T : Int32) : ∃ B : Int32, (B = -1 ∨ ps_q3 B) ∧ (n = 0 → B = -1)
    ∧ (∀ (p : TP) (k : TK) (r : TR) (l : TL) (o : TO) (h : TA) (w : TW) (post : Int32 → Prop), post B → wpX_greatestQos post (XS p k r l s o h w) (nI d) T)
    ∧ (∀ (p : TP) (k : TK) (q : TR) (l : TL) (e : TO) (g m : TA) (z : TO) (t : T5) (post : SY → Prop) J x1, wY_accept_200 post J x1 T (nI d) p.1 q.1 t.1 t.2.1 t.2.2.1 t.2.2.2.1 t.2.2.2.2 p.2.1 p.2.2.1 p.2.2.2.1 p.2.2.2.2 k.2.2.1 k.1 k.2.1 k.2.2.2 q.2.1 q.2.2 l.1 l.2.1 l.2.2 s.2.1 s.2.2 s.1 e.2.1 e.2.2.1 e.2.2.2.1 e.2.2.2.2.1 e.2.2.2.2.2 e.1 g m z.2.1 z.2.2.1 z.2.2.2.1 z.2.2.2.2.1 z.2.2.2.2.2 z.1 1 B (nI n) → ∃ f, wY_accept_200 post J x1 T (nI d) p.1 q.1 t.1 t.2.1 t.2.2.1 t.2.2.2.1 t.2.2.2.2 p.2.1 p.2.2.1 p.2.2.2.1 p.2.2.2.2 k.2.2.1 k.1 k.2.1 k.2.2.2 q.2.1 q.2.2 l.1 l.2.1 l.2.2 s.2.1 s.2.2 s.1 e.2.1 e.2.2.1 e.2.2.2.1 e.2.2.2.2.1 e.2.2.2.2.2 e.1 g m z.2.1 z.2.2.1 z.2.2.2.1 z.2.2.2.2.1 z.2.2.2.2.2 z.1 f (-1) 0) := by
  obtain ⟨B, b1, b2, b3, b4⟩ := pr_gq_lp hd hn n4 hq T n 0 (-1) (by omega) (Or.inl rfl)
  have cd : (nI d).toNatClampNeg = d := nI_clamp (by omega)
  exact ⟨B, b1, b2, fun p k r l o h w post hp => nm_r (pn_m4 d) ⟨vp_in_nI hd (by omega), nm_r (e' := nI (d * 4 + n)) (by rw [cd, hn, nI_add]) ⟨n + 1, b3 p k r l o h w post hp⟩⟩, fun p k q l e g m z t post J x1 hp => ⟨n + 1, b4 p k q l e g m z t post J x1 hp⟩⟩
end P12
end
section
section P13
/-- the sends of an accepted serial -/
theorem pr_acl {p : TP} {l s : TL} (HP : ps_IP p) (HL : ps_IL l s) {sn : Nat} (h1 : 1 ≤ sn) (h2 : sn ≤ 24) : ∀ f d, d + f = 4 → ∀ (k : TK) (o e : TO) (w : TW) (z : TO), ps_GO o e → ps_GW w z → ∃ (k' : TK) (o' e' : TO) (w' : TW) (z' : TO), ps_GO o' e' ∧ ps_GW w' z'
    ∧ (∀ (r : TR) (h : TA) (post : SX → Prop), post (XS p k' r l s o' h w') → wX_acceptSerial_26 post (nI sn) (f + 1) (nI d) p.1 r.1 p.2.1 p.2.2.1 p.2.2.2.1 p.2.2.2.2 k.1 k.2.1 k.2.2.1 k.2.2.2 r.2.1 r.2.2 l.1 l.2.1 l.2.2 s.1 s.2.1 s.2.2 o.1 o.2.1 o.2.2.1 o.2.2.2.1 o.2.2.2.2.1 o.2.2.2.2.2 h w.1 w.2.1 w.2.2.1 w.2.2.2.1 w.2.2.2.2.1 w.2.2.2.2.2.1 w.2.2.2.2.2.2)
    ∧ (∀ (q : TR) (g m : TA) (t : T5) (post : SY → Prop), post (YS p k' q l s e' g m z' t) → wY_accept_177 post (nI sn) (p.2.1 sn) (f + 1) (nI d) p.1 q.1 t.1 t.2.1 t.2.2.1 t.2.2.2.1 t.2.2.2.2 p.2.1 p.2.2.1 p.2.2.2.1 p.2.2.2.2 k.2.2.1 k.1 k.2.1 k.2.2.2 q.2.1 q.2.2 l.1 l.2.1 l.2.2 s.2.1 s.2.2 s.1 e.2.1 e.2.2.1 e.2.2.2.1 e.2.2.2.2.1 e.2.2.2.2.2 e.1 g m z.2.1 z.2.2.1 z.2.2.2.1 z.2.2.2.2.1 z.2.2.2.2.2 z.1) := by
  have cs : (nI sn).toNatClampNeg = sn := nI_clamp (by omega)
  have i25 : vp_in (nI sn) 25 := vp_in_nI (by omega) (by omega)
  intro f
  induction f with
  | zero =>
    intro d hd k o e w z HO HW
    obtain rfl : d = 4 := by omega
    exact ⟨k, o, e, w, z, HO, HW, fun r h post hp => br_t (by decide) hp, fun q g m t post hp => br_t (by decide) hp⟩
  | succ f ih =>
    intro d hd k o e w z HO HW
    have cd : (nI d).toNatClampNeg = d := nI_clamp (by omega)
    have i4 : vp_in (nI d) 4 := vp_in_nI (by omega) (by omega)
    have h4 : ¬ (4 : Int32) ≤ nI d := nI_ge (b := 4) (by omega) (by omega)
    obtain ⟨_, _, n, n4, hn, hz, hq⟩ := HL d (by omega)
    obtain ⟨B, b1, b2, b3, b4⟩ := pr_gq (by omega) hn n4 hq (p.2.1 sn)
    have hend : s.1 (nI d).toNatClampNeg ≤ nI n := by rw [cd, hn]; exact nI_le (by omega) (by omega)
    by_cases hB : B < 0
    · obtain ⟨k', o', e', w', z', c1, c2, c3, c4⟩ := ih (d + 1) (by omega) k o e w z HO HW
      refine ⟨k', o', e', w', z', c1, c2, fun r h post hp => br_f h4 ⟨i25, by rw [cs]; exact b3 p k r l o h w _ (br_t hB (nm_r (nI_1 _) (c3 r h post hp)))⟩, fun q g m t post hp => br_f h4 ⟨i4, br_c (fun _ => nm_r (nI_1 _) (c4 q g m t post hp)) fun hs => ?_⟩⟩
      exact b4 p k q l e g m z t post _ _ ⟨i4, br_t hend (br_t hB (nm_r (nI_1 _) (c4 q g m t post hp)))⟩
    · have hB3 : ps_q3 B := by
        rcases b1 with h | h
        · rw [h] at hB; exact absurd (by decide) hB
        · exact h
      have hse : ¬ l.2.1 (nI d).toNatClampNeg = 0 := by
        rw [cd]
        intro h
        have := b2 (hz h)
        rw [this] at hB
        exact absurd (by decide) hB
      obtain ⟨_, _, _, HPa⟩ := HP
      by_cases hle : B ≤ p.2.2.2.1 (nI sn).toNatClampNeg
      · obtain ⟨k1, o1, e1, w1, z1, s1, s2, s3, s4⟩ := pr_send (k := k) (l := l) HO HW (d := d) (by omega) h1 h2 hB3 (M := 0) (Or.inl rfl)
        obtain ⟨k', o', e', w', z', c1, c2, c3, c4⟩ := ih (d + 1) (by omega) k1 o1 e1 w1 z1 s1 s2
        refine ⟨k', o', e', w', z', c1, c2, fun r h post hp => br_f h4 ⟨i25, by rw [cs]; exact b3 p k r l o h w _ (br_f hB ⟨i25, br_t (by rw [← cs]; exact hle) (s3 p r s h _ (nm_r (nI_1 _) (c3 r h post hp)))⟩)⟩, fun q g m t post hp => br_f h4 ⟨i4, br_f hse ?_⟩⟩
        exact b4 p k q l e g m z t post _ _ ⟨i4, br_t hend (br_f hB ⟨i25, br_t hle (s4 p q s g m t _ (nm_r (nI_1 _) (c4 q g m t post hp)))⟩)⟩
      · have hQ3 : ps_q3 (p.2.2.2.1 sn) := (HPa sn).2
        obtain ⟨k1, o1, e1, w1, z1, s1, s2, s3, s4⟩ := pr_send (k := k) (l := l) HO HW (d := d) (by omega) h1 h2 hQ3 (M := 0) (Or.inl rfl)
        obtain ⟨k', o', e', w', z', c1, c2, c3, c4⟩ := ih (d + 1) (by omega) k1 o1 e1 w1 z1 s1 s2
        have hle' : ¬ B ≤ p.2.2.2.1 sn := by rw [← cs]; exact hle
        refine ⟨k', o', e', w', z', c1, c2, fun r h post hp => br_f h4 ⟨i25, by rw [cs]; exact b3 p k r l o h w _ (br_f hB ⟨i25, br_f hle' (s3 p r s h _ (nm_r (nI_1 _) (c3 r h post hp)))⟩)⟩, fun q g m t post hp => br_f h4 ⟨i4, br_f hse ?_⟩⟩
        refine b4 p k q l e g m z t post _ _ ⟨i4, br_t hend (br_f hB ⟨i25, br_f hle ⟨i25, ?_⟩⟩)⟩
        unfold wY_accept_291
        rw [cs]
        exact s4 p q s g m t _ (nm_r (nI_1 _) (c4 q g m t post hp))
theorem pr_acc {p : TP} {l s : TL} (HP : ps_IP p) (HL : ps_IL l s) {k : TK} {r q : TR} {o e : TO} {w : TW} {z : TO} (HR : ps_RR r q) (HO : ps_GO o e) (HW : ps_GW w z) {sn : Nat} (h1 : 1 ≤ sn) (h2 : sn ≤ 24) : ∃ (k' : TK) (r' q' : TR) (o' e' : TO) (w' : TW) (z' : TO), ps_RR r' q' ∧ ps_GO o' e' ∧ ps_GW w' z'
    ∧ (∀ (h : TA) (post : SX → Prop), post (XS p k' r' l s o' h w') → wpX_acceptSerial post (XS p k r l s o h w) (nI sn))
    ∧ (∀ (g m : TA) (t : T5) (post : SY → Prop), post (YS p k' q' l s e' g m z' t) → wpY_accept post (YS p k q l s e g m z t) (nI sn)) := by
  have cs : (nI sn).toNatClampNeg = sn := nI_clamp (by omega)
  have i25 : vp_in (nI sn) 25 := vp_in_nI (by omega) (by omega)
  obtain ⟨k', o', e', w', z', c1, c2, c3, c4⟩ := pr_acl HP HL h1 h2 4 0 (by omega) (k.1, k.2.1, upd k.2.2.1 sn (k.2.2.1 sn + 1), k.2.2.2) o e w z HO HW
  by_cases hr : p.2.2.2.2 sn = 0
  · exact ⟨k', r, q, o', e', w', z', HR, c1, c2, fun h post hp => ⟨i25, i25, nm_r (e' := upd k.2.2.1 sn (k.2.2.1 sn + 1)) (by rw [cs]) ⟨i25, br_t (by rw [cs]; exact hr) ⟨5, c3 r h post hp⟩⟩⟩, fun g m t post hp => py_acc_0 h1 h2 hr ⟨5, c4 q g m t post hp⟩⟩
  · obtain ⟨_, _, _, HPa⟩ := HP
    obtain ⟨⟨tn, ht, hT⟩, _⟩ := HPa sn
    obtain ⟨r', q', d1, d2, d3⟩ := pr_upd HR h1 h2 ht hT hr
    exact ⟨k', r', q', o', e', w', z', d1, c1, c2, fun h post hp => ⟨i25, i25, nm_r (e' := upd k.2.2.1 sn (k.2.2.1 sn + 1)) (by rw [cs]) ⟨i25, br_f (by rw [cs]; exact hr) (d2 (k.1, k.2.1, upd k.2.2.1 sn (k.2.2.1 sn + 1), k.2.2.2) l s o h w _ ⟨5, c3 r' h post hp⟩)⟩⟩, fun g m t post hp => d3 k l s e g m z t post ⟨5, c4 q' g m t post hp⟩⟩
end P13
end
section
section P14
def ps_GH (f g m : TA) : Prop := ps_RH f g m ∧ ps_B f
theorem pn_yb (c b : Nat) : nI c * 2 + nI b = nI (2 * c + b) := by rw [pn_m2, nI_add]
theorem py_fh_lp {p : TP} {k : TK} {q : TR} {l s : TL} {e : TO} {g m : TA} {z : TO} {t : T5} {y n j : Nat} {I : Int32} (hy : y < 8) (hn : m y = nI n) (n16 : n ≤ 16) (F : ps_F g (y * 16) n I j) {post : Int32 → Prop} (h1 : j < n → post (nI j)) (h2 : j = n → post (-1)) :
    ∀ d i, i + d = j → wY_findHeld_2 post (nI y) I p.1 q.1 t.1 t.2.1 t.2.2.1 t.2.2.2.1 t.2.2.2.2 p.2.1 p.2.2.1 p.2.2.2.1 p.2.2.2.2 k.2.2.1 k.1 k.2.1 k.2.2.2 q.2.1 q.2.2 l.1 l.2.1 l.2.2 s.2.1 s.2.2 s.1 e.2.1 e.2.2.1 e.2.2.2.1 e.2.2.2.2.1 e.2.2.2.2.2 e.1 g m z.2.1 z.2.2.1 z.2.2.2.1 z.2.2.2.2.1 z.2.2.2.2.2 z.1 (d + 1) (nI i) := by
  intro d
  have hj := F.1
  have cy : (nI y).toNatClampNeg = y := nI_clamp (by omega)
  have i8 : vp_in (nI y) 8 := vp_in_nI hy (by omega)
  induction d with
  | zero =>
    intro i hi
    obtain rfl : i = j := by omega
    by_cases hn' : i < n
    · exact ⟨i8, br_f (by rw [cy, hn]; exact nI_ge (by omega) (by omega)) ⟨by rw [pn_m16, nI_add]; exact vp_in_nI (by omega) (by omega), br_t (by rw [pn_m16, nI_add, nI_clamp (by omega)]; exact F.2.2 hn') (h1 hn')⟩⟩
    · exact ⟨i8, br_t (by rw [cy, hn]; exact nI_le (by omega) (by omega)) (h2 (by omega))⟩
  | succ d ih =>
    intro i hi
    exact ⟨i8, br_f (by rw [cy, hn]; exact nI_ge (by omega) (by omega)) ⟨by rw [pn_m16, nI_add]; exact vp_in_nI (by omega) (by omega), br_f (by rw [pn_m16, nI_add, nI_clamp (by omega)]; exact F.2.1 i (by omega)) (nm_r (nI_1 _) (ih (i + 1) (by omega)))⟩⟩
theorem py_fh {p : TP} {k : TK} {q : TR} {l s : TL} {e : TO} {g m : TA} {z : TO} {t : T5} {y n j : Nat} {I : Int32} (hy : y < 8) (hn : m y = nI n) (n16 : n ≤ 16) (F : ps_F g (y * 16) n I j) {post : Int32 → Prop} (h1 : j < n → post (nI j)) (h2 : j = n → post (-1)) :
    wpY_findHeld post (YS p k q l s e g m z t) (nI y) I := ⟨j + 1, py_fh_lp hy hn n16 F h1 h2 j 0 (by omega)⟩
theorem py_rel {p : TP} {k : TK} {q : TR} {l s : TL} {e : TO} {g m : TA} {z : TO} {t : T5} {y n j : Nat} {I : Int32} (hy : y < 8) (hm : m y = nI (n + 1)) (n16 : n < 16) (hj : j ≤ n) {post : SY → Prop}
    (hp : wpY_put post (YS p k q l s e (ps_sh g (y * 16 + j) (y * 16 + n)) (upd m y (nI n)) z t) (nI y) 5 I 0 0 0) : ∃ f, wY_handle_313 post I (nI y) (nI y) p.1 q.1 t.1 t.2.1 t.2.2.1 t.2.2.2.1 t.2.2.2.2 f (nI j) p.2.1 p.2.2.1 p.2.2.2.1 p.2.2.2.2 k.2.2.1 k.1 k.2.1 k.2.2.2 q.2.1 q.2.2 l.1 l.2.1 l.2.2 s.2.1 s.2.2 s.1 e.2.1 e.2.2.1 e.2.2.2.1 e.2.2.2.2.1 e.2.2.2.2.2 e.1 g m z.2.1 z.2.2.1 z.2.2.2.1 z.2.2.2.2.1 z.2.2.2.2.2 z.1 := by
  have cy : (nI y).toNatClampNeg = y := nI_clamp (by omega)
  have i8 : vp_in (nI y) 8 := vp_in_nI hy (by omega)
  have hl : ∀ d i, j ≤ i → i + d = n → wY_handle_313 post I (nI y) (nI y) p.1 q.1 t.1 t.2.1 t.2.2.1 t.2.2.2.1 t.2.2.2.2 (d + 1) (nI i) p.2.1 p.2.2.1 p.2.2.2.1 p.2.2.2.2 k.2.2.1 k.1 k.2.1 k.2.2.2 q.2.1 q.2.2 l.1 l.2.1 l.2.2 s.2.1 s.2.2 s.1 e.2.1 e.2.2.1 e.2.2.2.1 e.2.2.2.2.1 e.2.2.2.2.2 e.1 (ps_sh g (y * 16 + j) (y * 16 + i)) m z.2.1 z.2.2.1 z.2.2.2.1 z.2.2.2.2.1 z.2.2.2.2.2 z.1 := by
    intro d
    induction d with
    | zero =>
      intro i h1 hi
      obtain rfl : i = n := by omega
      exact ⟨i8, br_t (by rw [cy, hm, nI_1]; exact nI_le (by omega) (by omega)) ⟨i8, i8, nm_r (e' := upd m y (nI i)) (by rw [cy, hm, nI_pred]) hp⟩⟩
    | succ d ih =>
      intro i h1 hi
      have ea : nI y * 16 + nI i = nI (y * 16 + i) := by rw [pn_m16, nI_add]
      have eb : nI y * 16 + nI i + 1 = nI (y * 16 + i + 1) := by rw [ea, nI_1]
      have a0 : vp_in (nI y * 16 + nI i) 128 := by rw [ea]; exact vp_in_nI (by omega) (by omega)
      have a1 : vp_in (nI y * 16 + nI i + 1) 128 := by rw [eb]; exact vp_in_nI (by omega) (by omega)
      exact ⟨i8, br_f (by rw [cy, hm, nI_1]; exact nI_ge (by omega) (by omega)) ⟨a1, a0, nm_r (pn_sh ea eb (by omega) (by omega)) (nm_r (nI_1 _) (ih (i + 1) (by omega) (by omega)))⟩⟩
  have hl0 := hl (n - j) j (Nat.le_refl j) (by omega)
  rw [ps_sh0 (Nat.le_refl _)] at hl0
  exact ⟨n - j + 1, hl0⟩
/-- what both sides do about a packet that is no publication -/
def ps_ANS (K I Q : Int32) (c b : Nat) (o e : TO) (h g m : TA) (w : TW) (z : TO) : Prop := ∃ (o' e' : TO) (h' g' m' : TA) (w' : TW) (z' : TO), ps_GO o' e' ∧ ps_GH h' g' m' ∧ ps_GW w' z'
    ∧ (∀ (p : TP) (k : TK) (r : TR) (l s : TL) (post : SX → Prop), post (XS p k r l s o' h' w') → wpX_answerPacket post (XS p k r l s o h w) (nI (4 * b + c)) K I Q)
    ∧ (∀ (p : TP) (k : TK) (q : TR) (l s : TL) (t : T5) (S M : Int32) (post : SY → Prop), post (YS p k q l s e' g' m' z' t) → wpY_handle post (YS p k q l s e g m z t) (nI c) (nI b) K I S Q M)
theorem px_a2 {p : TP} {k : TK} {r : TR} {l s : TL} {o : TO} {h : TA} {w : TW} {x : Nat} {I Q : Int32} {post : SX → Prop} (hp : wpX_endPublish post (XS p k r l s o h w) (nI x) I) : wpX_answerPacket post (XS p k r l s o h w) (nI x) 2 I Q := br_f (by decide) (br_f (by decide) (br_f (by decide) (br_t rfl hp)))
theorem px_a3 {p : TP} {k : TK} {r : TR} {l s : TL} {o : TO} {h : TA} {w : TW} {x : Nat} {I Q : Int32} {post : SX → Prop} (hp : wpX_releaseEntry post (XS p k r l s o h w) (nI x) I) : wpX_answerPacket post (XS p k r l s o h w) (nI x) 3 I Q := br_f (by decide) (br_f (by decide) (br_f (by decide) (br_f (by decide) (br_t rfl hp))))
theorem px_a5 {p : TP} {k : TK} {r : TR} {l s : TL} {o : TO} {h : TA} {w : TW} {x : Nat} {I Q : Int32} {post : SX → Prop} (hp : wpX_endRelease post (XS p k r l s o h w) (nI x) I) : wpX_answerPacket post (XS p k r l s o h w) (nI x) 5 I Q := br_f (by decide) (br_f (by decide) (br_f (by decide) (br_f (by decide) (br_f (by decide) (br_f (by decide) (br_t rfl hp))))))
theorem pr_k2 {o e : TO} {h g m : TA} {w : TW} {z : TO} (HO : ps_GO o e) (HH : ps_GH h g m) (HW : ps_GW w z) {c b : Nat} (hc : c < 4) (hb : b < 2) (I Q : Int32) : ps_ANS 2 I Q c b o e h g m w z := by
  obtain ⟨n, j, n16, hjn, o1, e1, hent, fX, fY⟩ := pr_fe HO hc hb I
  have m1 : (-1 : Int32) < 0 := by decide
  by_cases hlt : j < n
  · obtain ⟨he, hv, hi⟩ := hent hlt
    have hq : o.2.2.1 ((4 * b + c) * 16 + j) = e.2.2.1 ((2 * c + b) * 16 + j) := congrArg (fun t : T5 => t.2.1) he
    have hs : o.2.2.2.2.2 ((4 * b + c) * 16 + j) = e.2.2.2.2.2 ((2 * c + b) * 16 + j) := congrArg (fun t : T5 => t.2.2.2.2) he
    have ix : vp_in (nI ((4 * b + c) * 16 + j)) 128 := vp_in_nI (by omega) (by omega)
    have cX : (nI ((4 * b + c) * 16 + j)).toNatClampNeg = (4 * b + c) * 16 + j := nI_clamp (by omega)
    have ey : nI (2 * c + b) * 16 + nI j = nI ((2 * c + b) * 16 + j) := by rw [pn_m16, nI_add]
    have iy : vp_in (nI (2 * c + b) * 16 + nI j) 128 := by rw [ey]; exact vp_in_nI (by omega) (by omega)
    have cY : (nI (2 * c + b) * 16 + nI j).toNatClampNeg = (2 * c + b) * 16 + j := by rw [ey]; exact nI_clamp (by omega)
    have px : ¬ nI ((4 * b + c) * 16 + j) < 0 := nI_pos (by omega)
    have py : ¬ nI j < 0 := nI_pos (by omega)
    by_cases hP : e.2.2.1 ((2 * c + b) * 16 + j) = 1 ∧ e.2.2.2.2.2 ((2 * c + b) * 16 + j) = 1
    · obtain ⟨o', e', d1, d2, d3⟩ := pr_del HO hc hb o1 n16 hlt
      exact ⟨o', e', h, g, m, w, z, d1, HH, HW, fun p k r l s post hp => px_a2 (fX p k r l s h w _ (fun _ => br_f px ⟨ix, br_t (by rw [cX, hq]; exact hP.1) ⟨ix, br_t (by rw [cX, hs]; exact hP.2) (d2 p k r l s h w _ hp)⟩⟩) (fun h => absurd h (by omega))),
        fun p k q l s t S M post hp => nm_r (pn_yb c b) (nm_r (pn_yb c b) (br_f (by decide) (fY p k q l s g m z t _ (fun _ => br_t rfl (br_f py ⟨iy, br_t (by rw [cY]; exact hP.1) ⟨iy, br_t (by rw [cY]; exact hP.2) (d3 p k q l s g m z t _ hp)⟩⟩)) (fun h => absurd h (by omega)))))⟩
    · exact ⟨o, e, h, g, m, w, z, HO, HH, HW, fun p k r l s post hp => px_a2 (fX p k r l s h w _ (fun _ => br_f px ⟨ix, br_c (fun a => ⟨ix, br_c (fun b => absurd ⟨by rw [cX, hq] at a; exact a, by rw [cX, hs] at b; exact b⟩ hP) fun _ => hp⟩) fun _ => hp⟩) (fun h => absurd h (by omega))),
        fun p k q l s t S M post hp => nm_r (pn_yb c b) (nm_r (pn_yb c b) (br_f (by decide) (fY p k q l s g m z t _ (fun _ => br_t rfl (br_f py ⟨iy, br_c (fun a => ⟨iy, br_c (fun b => absurd ⟨by rw [cY] at a; exact a, by rw [cY] at b; exact b⟩ hP) fun _ => hp⟩) fun _ => hp⟩)) (fun h => absurd h (by omega)))))⟩
  · exact ⟨o, e, h, g, m, w, z, HO, HH, HW, fun p k r l s post hp => px_a2 (fX p k r l s h w _ (fun h => absurd h hlt) (fun _ => br_t m1 hp)),
      fun p k q l s t S M post hp => nm_r (pn_yb c b) (nm_r (pn_yb c b) (br_f (by decide) (fY p k q l s g m z t _ (fun h => absurd h hlt) (fun _ => br_t rfl (br_t m1 hp)))))⟩
theorem pr_k5 {o e : TO} {h g m : TA} {w : TW} {z : TO} (HO : ps_GO o e) (HH : ps_GH h g m) (HW : ps_GW w z) {c b : Nat} (hc : c < 4) (hb : b < 2) (I Q : Int32) : ps_ANS 5 I Q c b o e h g m w z := by
  obtain ⟨n, j, n16, hjn, o1, e1, hent, fX, fY⟩ := pr_fe HO hc hb I
  have m1 : (-1 : Int32) < 0 := by decide
  have hY : ∀ (p : TP) (k : TK) (q : TR) (l s : TL) (t : T5) (S M : Int32) (post : SY → Prop), (j < n → (((nI j) < 0 → post (YS p k q l s e g m z t)) ∧ (¬ nI j < 0 → (vp_in (nI (2 * c + b) * 16 + nI j) 128 ∧ ((e.2.2.2.2.2 (nI (2 * c + b) * 16 + nI j).toNatClampNeg = 2 → wpY_removeEntry post (YS p k q l s e g m z t) (nI (2 * c + b)) (nI j)) ∧ (¬ e.2.2.2.2.2 (nI (2 * c + b) * 16 + nI j).toNatClampNeg = 2 → post (YS p k q l s e g m z t))))))) → (j = n → post (YS p k q l s e g m z t)) → wpY_handle post (YS p k q l s e g m z t) (nI c) (nI b) 5 I S Q M :=
    fun p k q l s t S M post h1 h2 => nm_r (pn_yb c b) (nm_r (pn_yb c b) (br_f (by decide) (fY p k q l s g m z t _ (fun hl => br_f (by decide) (br_f (by decide) (br_f (by decide) (br_t rfl (h1 hl))))) (fun hl => br_f (by decide) (br_f (by decide) (br_f (by decide) (br_t rfl (br_t m1 (h2 hl)))))))))
  by_cases hlt : j < n
  · obtain ⟨he, hv, hi⟩ := hent hlt
    have hs : o.2.2.2.2.2 ((4 * b + c) * 16 + j) = e.2.2.2.2.2 ((2 * c + b) * 16 + j) := congrArg (fun t : T5 => t.2.2.2.2) he
    have ix : vp_in (nI ((4 * b + c) * 16 + j)) 128 := vp_in_nI (by omega) (by omega)
    have cX : (nI ((4 * b + c) * 16 + j)).toNatClampNeg = (4 * b + c) * 16 + j := nI_clamp (by omega)
    have ey : nI (2 * c + b) * 16 + nI j = nI ((2 * c + b) * 16 + j) := by rw [pn_m16, nI_add]
    have iy : vp_in (nI (2 * c + b) * 16 + nI j) 128 := by rw [ey]; exact vp_in_nI (by omega) (by omega)
    have cY : (nI (2 * c + b) * 16 + nI j).toNatClampNeg = (2 * c + b) * 16 + j := by rw [ey]; exact nI_clamp (by omega)
    have px : ¬ nI ((4 * b + c) * 16 + j) < 0 := nI_pos (by omega)
    have py : ¬ nI j < 0 := nI_pos (by omega)
    by_cases hP : e.2.2.2.2.2 ((2 * c + b) * 16 + j) = 2
    · obtain ⟨o', e', d1, d2, d3⟩ := pr_del HO hc hb o1 n16 hlt
      exact ⟨o', e', h, g, m, w, z, d1, HH, HW, fun p k r l s post hp => px_a5 (fX p k r l s h w _ (fun _ => br_f px ⟨ix, br_t (by rw [cX, hs]; exact hP) (d2 p k r l s h w _ hp)⟩) (fun h => absurd h (by omega))),
        fun p k q l s t S M post hp => hY p k q l s t S M post (fun _ => br_f py ⟨iy, br_t (by rw [cY]; exact hP) (d3 p k q l s g m z t _ hp)⟩) (fun h => absurd h (by omega))⟩
    · exact ⟨o, e, h, g, m, w, z, HO, HH, HW, fun p k r l s post hp => px_a5 (fX p k r l s h w _ (fun _ => br_f px ⟨ix, br_f (by rw [cX, hs]; exact hP) hp⟩) (fun h => absurd h (by omega))),
        fun p k q l s t S M post hp => hY p k q l s t S M post (fun _ => br_f py ⟨iy, br_f (by rw [cY]; exact hP) hp⟩) (fun h => absurd h (by omega))⟩
  · exact ⟨o, e, h, g, m, w, z, HO, HH, HW, fun p k r l s post hp => px_a5 (fX p k r l s h w _ (fun h => absurd h hlt) (fun _ => br_t m1 hp)), fun p k q l s t S M post hp => hY p k q l s t S M post (fun h => absurd h hlt) (fun _ => hp)⟩
theorem pr_k3 {o e : TO} {h g m : TA} {w : TW} {z : TO} (HO : ps_GO o e) (HH : ps_GH h g m) (HW : ps_GW w z) {c b : Nat} (hc : c < 4) (hb : b < 2) (I Q : Int32) : ps_ANS 3 I Q c b o e h g m w z := by
  obtain ⟨n, j, n16, hjn, o1, e1, hent, fX, fY⟩ := pr_fe HO hc hb I
  have m1 : (-1 : Int32) < 0 := by decide
  by_cases hlt : j < n
  · obtain ⟨he, hv, hi⟩ := hent hlt
    have hq : o.2.2.1 ((4 * b + c) * 16 + j) = e.2.2.1 ((2 * c + b) * 16 + j) := congrArg (fun t : T5 => t.2.1) he
    have hs : o.2.2.2.2.2 ((4 * b + c) * 16 + j) = e.2.2.2.2.2 ((2 * c + b) * 16 + j) := congrArg (fun t : T5 => t.2.2.2.2) he
    have ix : vp_in (nI ((4 * b + c) * 16 + j)) 128 := vp_in_nI (by omega) (by omega)
    have cX : (nI ((4 * b + c) * 16 + j)).toNatClampNeg = (4 * b + c) * 16 + j := nI_clamp (by omega)
    have ey : nI (2 * c + b) * 16 + nI j = nI ((2 * c + b) * 16 + j) := by rw [pn_m16, nI_add]
    have iy : vp_in (nI (2 * c + b) * 16 + nI j) 128 := by rw [ey]; exact vp_in_nI (by omega) (by omega)
    have cY : (nI (2 * c + b) * 16 + nI j).toNatClampNeg = (2 * c + b) * 16 + j := by rw [ey]; exact nI_clamp (by omega)
    have px : ¬ nI ((4 * b + c) * 16 + j) < 0 := nI_pos (by omega)
    have py : ¬ nI j < 0 := nI_pos (by omega)
    by_cases hP : e.2.2.1 ((2 * c + b) * 16 + j) = 2 ∧ e.2.2.2.2.2 ((2 * c + b) * 16 + j) = 1
    · obtain ⟨i, i1, i2, i3⟩ := hv.2.2.1
      have hI : I = nI i := hi.symm.trans i3
      obtain ⟨w', z', a1, a2, a3⟩ := pr_reply HW hc hb (K := 4) (I := I) ⟨⟨i, i2, hI, fun h => absurd h (by decide : ¬ (4 : Int32) = 1), fun _ => i1⟩, Or.inl rfl⟩
      exact ⟨_, _, h, g, m, w', z', ⟨ps_RO_mod HO.1 hc hb hlt n16 o1 (g := 2), HO.2⟩, HH, a1, fun p k r l s post hp => px_a3 (fX p k r l s h w _ (fun _ => br_f px ⟨ix, br_t (by rw [cX, hq]; exact hP.1) ⟨ix, br_t (by rw [cX, hs]; exact hP.2) ⟨ix, nm_r (by rw [cX]) (a2 p k r l s (o.1, o.2.1, o.2.2.1, o.2.2.2.1, o.2.2.2.2.1, upd o.2.2.2.2.2 ((4 * b + c) * 16 + j) 2) h _ hp)⟩⟩⟩) (fun h => absurd h (by omega))),
        fun p k q l s t S M post hp => nm_r (pn_yb c b) (nm_r (pn_yb c b) (br_f (by decide) (fY p k q l s g m z t _ (fun _ => br_f (by decide) (br_t rfl (br_f py ⟨iy, br_t (by rw [cY]; exact hP.1) ⟨iy, br_t (by rw [cY]; exact hP.2) ⟨iy, nm_r (by rw [cY]) (a3 p k q l s (e.1, e.2.1, e.2.2.1, e.2.2.2.1, e.2.2.2.2.1, upd e.2.2.2.2.2 ((2 * c + b) * 16 + j) 2) g m t _ hp)⟩⟩⟩))) (fun h => absurd h (by omega)))))⟩
    · exact ⟨o, e, h, g, m, w, z, HO, HH, HW, fun p k r l s post hp => px_a3 (fX p k r l s h w _ (fun _ => br_f px ⟨ix, br_c (fun a => ⟨ix, br_c (fun b => absurd ⟨by rw [cX, hq] at a; exact a, by rw [cX, hs] at b; exact b⟩ hP) fun _ => hp⟩) fun _ => hp⟩) (fun h => absurd h (by omega))),
        fun p k q l s t S M post hp => nm_r (pn_yb c b) (nm_r (pn_yb c b) (br_f (by decide) (fY p k q l s g m z t _ (fun _ => br_f (by decide) (br_t rfl (br_f py ⟨iy, br_c (fun a => ⟨iy, br_c (fun b => absurd ⟨by rw [cY] at a; exact a, by rw [cY] at b; exact b⟩ hP) fun _ => hp⟩) fun _ => hp⟩))) (fun h => absurd h (by omega)))))⟩
  · exact ⟨o, e, h, g, m, w, z, HO, HH, HW, fun p k r l s post hp => px_a3 (fX p k r l s h w _ (fun h => absurd h hlt) (fun _ => br_t m1 hp)),
      fun p k q l s t S M post hp => nm_r (pn_yb c b) (nm_r (pn_yb c b) (br_f (by decide) (fY p k q l s g m z t _ (fun h => absurd h hlt) (fun _ => br_f (by decide) (br_t rfl (br_t m1 hp))))))⟩
/-- is an id held: at both sides -/
theorem pr_held {h g m : TA} (HH : ps_GH h g m) {c b i : Nat} (hc : c < 4) (hb : b < 2) (h1 : 1 ≤ i) (h2 : i ≤ 16) : ∃ n j, n ≤ 16 ∧ m (2 * c + b) = nI n ∧ ps_F g ((2 * c + b) * 16) n (nI i) j ∧ (j < n ↔ ¬ h ((4 * b + c) * 17 + i) = 0) := by
  obtain ⟨n, a1, a2⟩ := HH.1 c b hc hb
  obtain ⟨j, F⟩ := ps_F_ex g ((2 * c + b) * 16) (nI i) n
  have hj := F.1
  refine ⟨n, j, ps_H_le a2, a1, F, ?_⟩
  have := a2.2.1 i h1 h2
  constructor
  · intro hlt
    exact this.mpr ⟨j, hlt, F.2.2 hlt⟩
  · intro hne
    obtain ⟨j', hj', ej'⟩ := this.mp hne
    apply Classical.byContradiction
    intro hx
    exact F.2.1 j' (by omega) ej'
theorem pr_k4 {o e : TO} {h g m : TA} {w : TW} {z : TO} (HO : ps_GO o e) (HH : ps_GH h g m) (HW : ps_GW w z) {c b i : Nat} (hc : c < 4) (hb : b < 2) (h1 : 1 ≤ i) (h2 : i ≤ 16) (Q : Int32) : ps_ANS 4 (nI i) Q c b o e h g m w z := by
  obtain ⟨n0, j0, n16, hjn, o1, e1, hent, fX, fY⟩ := pr_fe HO hc hb (nI i)
  obtain ⟨n, j, n16, hm, F, hiff⟩ := pr_held HH hc hb h1 h2
  have hj := F.1
  obtain ⟨w', z', a1, a2, a3⟩ := pr_reply HW hc hb (K := 5) (I := nI i) ⟨⟨i, h2, rfl, fun h => absurd h (by decide : ¬ (5 : Int32) = 1), fun _ => h1⟩, Or.inl rfl⟩
  have eX : nI (4 * b + c) * 17 + nI i = nI ((4 * b + c) * 17 + i) := by rw [pn_m17, nI_add]
  have ix : vp_in (nI (4 * b + c) * 17 + nI i) 136 := by rw [eX]; exact vp_in_nI (by omega) (by omega)
  have hX : ∀ (p : TP) (k : TK) (r : TR) (l s : TL) (post : SX → Prop), wpX_putReply post (XS p k r l s o (upd h ((4 * b + c) * 17 + i) 0) w) (nI (4 * b + c)) 5 (nI i) → wpX_answerPacket post (XS p k r l s o h w) (nI (4 * b + c)) 4 (nI i) Q :=
    fun p k r l s post hp => br_f (by decide) (br_f (by decide) (br_f (by decide) (br_f (by decide) (br_f (by decide) (br_t rfl ⟨ix, nm_r (pn_u eX (by omega) (pn_b (Or.inl rfl))) hp⟩)))))
  have m1 : (-1 : Int32) < 0 := by decide
  have hY : ∀ (p : TP) (k : TK) (q : TR) (l s : TL) (t : T5) (S M : Int32) (post : SY → Prop), (j = n → wpY_put post (YS p k q l s e g m z t) (nI (2 * c + b)) 5 (nI i) 0 0 0) → (j < n → ∃ f, wY_handle_313 post (nI i) (nI (2 * c + b)) (nI (2 * c + b)) p.1 q.1 t.1 t.2.1 t.2.2.1 t.2.2.2.1 t.2.2.2.2 f (nI j) p.2.1 p.2.2.1 p.2.2.2.1 p.2.2.2.2 k.2.2.1 k.1 k.2.1 k.2.2.2 q.2.1 q.2.2 l.1 l.2.1 l.2.2 s.2.1 s.2.2 s.1 e.2.1 e.2.2.1 e.2.2.2.1 e.2.2.2.2.1 e.2.2.2.2.2 e.1 g m z.2.1 z.2.2.1 z.2.2.2.1 z.2.2.2.2.1 z.2.2.2.2.2 z.1) → wpY_handle post (YS p k q l s e g m z t) (nI c) (nI b) 4 (nI i) S Q M := by
    intro p k q l s t S M post q1 q2
    have hf : wpY_findHeld (fun r => ((r < 0 → wY_handle_372 post (nI i) (nI (2 * c + b)) p.1 q.1 t.1 t.2.1 t.2.2.1 t.2.2.2.1 t.2.2.2.2 p.2.1 p.2.2.1 p.2.2.2.1 p.2.2.2.2 k.2.2.1 k.1 k.2.1 k.2.2.2 q.2.1 q.2.2 l.1 l.2.1 l.2.2 s.2.1 s.2.2 s.1 e.2.1 e.2.2.1 e.2.2.2.1 e.2.2.2.2.1 e.2.2.2.2.2 e.1 g m z.2.1 z.2.2.1 z.2.2.2.1 z.2.2.2.2.1 z.2.2.2.2.2 z.1) ∧ (¬ r < 0 → ∃ f, wY_handle_313 post (nI i) (nI (2 * c + b)) (nI (2 * c + b)) p.1 q.1 t.1 t.2.1 t.2.2.1 t.2.2.2.1 t.2.2.2.2 f r p.2.1 p.2.2.1 p.2.2.2.1 p.2.2.2.2 k.2.2.1 k.1 k.2.1 k.2.2.2 q.2.1 q.2.2 l.1 l.2.1 l.2.2 s.2.1 s.2.2 s.1 e.2.1 e.2.2.1 e.2.2.2.1 e.2.2.2.2.1 e.2.2.2.2.2 e.1 g m z.2.1 z.2.2.1 z.2.2.2.1 z.2.2.2.2.1 z.2.2.2.2.2 z.1))) (YS p k q l s e g m z t) (nI (2 * c + b)) (nI i) :=
      py_fh (by omega) hm n16 F (fun hl => br_f (nI_pos (by omega)) (q2 hl)) (fun hl => br_t m1 (q1 hl))
    exact nm_r (pn_yb c b) (nm_r (pn_yb c b) (br_f (by decide) (fY p k q l s g m z t _ (fun _ => br_f (by decide) (br_f (by decide) (br_t rfl hf))) (fun _ => br_f (by decide) (br_f (by decide) (br_t rfl hf))))))
  by_cases h0 : h ((4 * b + c) * 17 + i) = 0
  · have hjn : j = n := by
      apply Classical.byContradiction
      intro hx
      exact (hiff.mp (by omega)) h0
    refine ⟨o, e, h, g, m, w', z', HO, HH, a1, fun p k r l s post hp => hX p k r l s post ?_, fun p k q l s t S M post hp => hY p k q l s t S M post (fun _ => a3 p k q l s e g m t _ hp) (fun hl => absurd hl (by omega))⟩
    rw [ps_upd0 h0]
    exact a2 p k r l s o h _ hp
  · have hlt : j < n := hiff.mpr h0
    obtain ⟨n, rfl⟩ : ∃ n', n = n' + 1 := ⟨n - 1, by omega⟩
    exact ⟨o, e, _, _, _, w', z', HO, ⟨ps_RH_del HH.1 hc hb hm (by omega) (by omega) h1 h2 (F.2.2 hlt), ps_B_u HH.2 (Or.inl rfl)⟩, a1, fun p k r l s post hp => hX p k r l s post (a2 p k r l s o _ _ hp), fun p k q l s t S M post hp => hY p k q l s t S M post (fun hl => absurd hl (by omega)) (fun _ => py_rel (by omega) hm (by omega) (by omega) (a3 p k q l s e _ _ t _ hp))⟩
theorem pr_ko {o e : TO} {h g m : TA} {w : TW} {z : TO} (HO : ps_GO o e) (HH : ps_GH h g m) (HW : ps_GW w z) {c b : Nat} (hc : c < 4) (hb : b < 2) (K I Q : Int32) (k1 : ¬ K = 1) (k2 : ¬ K = 2) (k3 : ¬ K = 3) (k4 : ¬ K = 4) (k5 : ¬ K = 5) : ps_ANS K I Q c b o e h g m w z := by
  obtain ⟨n, j, n16, hjn, o1, e1, hent, fX, fY⟩ := pr_fe HO hc hb I
  exact ⟨o, e, h, g, m, w, z, HO, HH, HW, fun p k r l s post hp => br_c (fun _ => hp) fun _ => br_c (fun _ => hp) fun _ => br_f k1 (br_f k2 (br_f k3 (br_f k4 (br_f k5 trivial)))),
    fun p k q l s t S M post hp => nm_r (pn_yb c b) (nm_r (pn_yb c b) (br_f k1 (fY p k q l s g m z t _ (fun _ => br_f k2 (br_f k3 (br_f k4 (br_f k5 hp)))) (fun _ => br_f k2 (br_f k3 (br_f k4 (br_f k5 hp)))))))⟩
theorem pr_ans {o e : TO} {h g m : TA} {w : TW} {z : TO} (HO : ps_GO o e) (HH : ps_GH h g m) (HW : ps_GW w z) {c b : Nat} (hc : c < 4) (hb : b < 2) {t : T5} (hv : ps_PV t) (k1 : ¬ t.1 = 1) : ps_ANS t.1 t.2.1 t.2.2.2.1 c b o e h g m w z := by
  by_cases k2 : t.1 = 2
  · rw [k2]; exact pr_k2 HO HH HW hc hb _ _
  · by_cases k3 : t.1 = 3
    · rw [k3]; exact pr_k3 HO HH HW hc hb _ _
    · by_cases k4 : t.1 = 4
      · obtain ⟨⟨i, i2, hI, _, i1⟩, _⟩ := hv
        rw [k4, hI]; exact pr_k4 HO HH HW hc hb (i1 k1) i2 _
      · by_cases k5 : t.1 = 5
        · rw [k5]; exact pr_k5 HO HH HW hc hb _ _
        · exact pr_ko HO HH HW hc hb _ _ _ k1 k2 k3 k4 k5
end P14
end
section
section P15
theorem px_ap0 {p : TP} {k : TK} {r : TR} {l s : TL} {o : TO} {h : TA} {w : TW} {x : Nat} {I Q : Int32} (q1 : ¬ Q = 1) (q2 : ¬ Q = 2) {post : SX → Prop} (hp : post (XS p k r l s o h w)) : wpX_answerPacket post (XS p k r l s o h w) (nI x) 1 I Q := br_f (by decide) (br_f (by decide) (br_t rfl (br_f q1 (br_f q2 hp))))
theorem px_ap1 {p : TP} {k : TK} {r : TR} {l s : TL} {o : TO} {h : TA} {w : TW} {x : Nat} {I : Int32} {post : SX → Prop} (hp : wpX_putReply post (XS p k r l s o h w) (nI x) 2 I) : wpX_answerPacket post (XS p k r l s o h w) (nI x) 1 I 1 := br_f (by decide) (br_f (by decide) (br_t rfl (br_t rfl hp)))
theorem px_ap2 {p : TP} {k : TK} {r : TR} {l s : TL} {o : TO} {h : TA} {w : TW} {x i : Nat} (hx : x < 8) (hi : i ≤ 16) {post : SX → Prop} (hp : wpX_putReply post (XS p k r l s o (upd h (x * 17 + i) 1) w) (nI x) 3 (nI i)) : wpX_answerPacket post (XS p k r l s o h w) (nI x) 1 (nI i) 2 := by
  have eX : nI x * 17 + nI i = nI (x * 17 + i) := by rw [pn_m17, nI_add]
  have ix : vp_in (nI x * 17 + nI i) 136 := by rw [eX]; exact vp_in_nI (by omega) (by omega)
  exact br_f (by decide) (br_f (by decide) (br_t rfl (br_f (by decide) (br_t rfl ⟨ix, nm_r (pn_u eX (by omega) (pn_b (Or.inr rfl))) hp⟩))))
/-- a publication that arrives at side (c, b), its taking given -/
theorem pr_pub {p : TP} {l s : TL} {k k' : TK} {r r' q q' : TR} {o o' e e' : TO} {h g m : TA} {w w' : TW} {z z' : TO} (HR : ps_RR r q) (HO : ps_GO o e) (HH : ps_GH h g m) (HW : ps_GW w z) (HR' : ps_RR r' q') (HO' : ps_GO o' e') (HW' : ps_GW w' z') {c b i : Nat} (hc : c < 4) (hb : b < 2) (hi : i ≤ 16) {S Q M : Int32} (hQ : Q = 0 ∨ ((Q = 1 ∨ Q = 2) ∧ 1 ≤ i))
    (TX : (SX → Prop) → SX → Prop) (hTX : ∀ (h : TA) (post : SX → Prop), post (XS p k' r' l s o' h w') → TX post (XS p k r l s o h w)) (hTY : ∀ (g m : TA) (t : T5) (post : SY → Prop), post (YS p k' q' l s e' g m z' t) → wpY_take post (YS p k q l s e g m z t) (nI c) (nI b) S M) :
    ∃ (k2 : TK) (r2 q2 : TR) (o2 e2 : TO) (h2 g2 m2 : TA) (w2 : TW) (z2 : TO), ps_RR r2 q2 ∧ ps_GO o2 e2 ∧ ps_GH h2 g2 m2 ∧ ps_GW w2 z2
      ∧ (∀ post : SX → Prop, post (XS p k2 r2 l s o2 h2 w2) → ((Q = 2 → h ((4 * b + c) * 17 + i) = 0) → TX (fun u => wpX_answerPacket post u (nI (4 * b + c)) 1 (nI i) Q) (XS p k r l s o h w)) ∧ ((Q = 2 ∧ ¬ h ((4 * b + c) * 17 + i) = 0) → wpX_answerPacket post (XS p k r l s o h w) (nI (4 * b + c)) 1 (nI i) Q))
      ∧ (∀ (t : T5) (post : SY → Prop), post (YS p k2 q2 l s e2 g2 m2 z2 t) → wpY_handle post (YS p k q l s e g m z t) (nI c) (nI b) 1 (nI i) S Q M) := by
  rcases hQ with rfl | ⟨rfl | rfl, i1⟩
  · exact ⟨k', r', q', o', e', h, g, m, w', z', HR', HO', HH, HW', fun post hp => ⟨fun _ => hTX h _ (px_ap0 (by decide) (by decide) hp), fun a => absurd a.1 (by decide)⟩, fun t post hp => nm_r (pn_yb c b) (nm_r (pn_yb c b) (br_t rfl (br_t rfl (hTY g m t _ hp))))⟩
  · obtain ⟨w2, z2, a1, a2, a3⟩ := pr_reply HW' hc hb (K := 2) (I := nI i) ⟨⟨i, hi, rfl, fun h => absurd h (by decide : ¬ (2 : Int32) = 1), fun _ => i1⟩, Or.inl rfl⟩
    exact ⟨k', r', q', o', e', h, g, m, w2, z2, HR', HO', HH, a1, fun post hp => ⟨fun _ => hTX h _ (px_ap1 (a2 p k' r' l s o' h post hp)), fun a => absurd a.1 (by decide)⟩, fun t post hp => nm_r (pn_yb c b) (nm_r (pn_yb c b) (br_t rfl (br_f (by decide) (br_t rfl (hTY g m t _ (a3 p k' q' l s e' g m t _ hp))))))⟩
  · obtain ⟨n, j, n16, hm, F, hiff⟩ := pr_held HH hc hb i1 hi
    have hj := F.1
    by_cases h0 : h ((4 * b + c) * 17 + i) = 0
    · obtain ⟨w2, z2, a1, a2, a3⟩ := pr_reply HW' hc hb (K := 3) (I := nI i) ⟨⟨i, hi, rfl, fun h => absurd h (by decide : ¬ (3 : Int32) = 1), fun _ => i1⟩, Or.inl rfl⟩
      obtain ⟨n15, hadd⟩ := ps_RH_add HH.1 hc hb hm n16 i1 hi h0
      have hjn : j = n := by
        apply Classical.byContradiction
        intro hx
        exact (hiff.mp (by omega)) h0
      have y8 : vp_in (nI (2 * c + b)) 8 := vp_in_nI (by omega) (by omega)
      have cy : (nI (2 * c + b)).toNatClampNeg = 2 * c + b := nI_clamp (by omega)
      have ey : nI (2 * c + b) * 16 + m (nI (2 * c + b)).toNatClampNeg = nI ((2 * c + b) * 16 + n) := by rw [cy, hm, pn_m16, nI_add]
      have iy : vp_in (nI (2 * c + b) * 16 + m (nI (2 * c + b)).toNatClampNeg) 128 := by rw [ey]; exact vp_in_nI (by omega) (by omega)
      refine ⟨k', r', q', o', e', _, _, _, w2, z2, HR', HO', ⟨hadd, ps_B_u HH.2 (Or.inr rfl)⟩, a1, fun post hp => ⟨fun _ => hTX h _ (px_ap2 (by omega) hi (a2 p k' r' l s o' _ post hp)), fun a => absurd h0 a.2⟩, fun t post hp => nm_r (pn_yb c b) (nm_r (pn_yb c b) (br_t rfl (br_f (by decide) (br_f (by decide) (br_t rfl (py_fh (p := p) (k := k) (q := q) (l := l) (s := s) (e := e) (g := g) (m := m) (z := z) (t := t) (by omega) hm n16 F (fun hl => absurd hl (by omega)) (fun _ => br_f (by decide) ⟨y8, br_f (by rw [cy, hm]; exact nI_ge (b := 16) n15 (by omega)) ⟨y8, iy, nm_r (pn_u ey (by omega) rfl) ⟨y8, y8, nm_r (e' := upd m (2 * c + b) (nI (n + 1))) (by rw [cy, hm, nI_1]) ?_⟩⟩⟩)))))))⟩
      exact hTY _ _ t _ (a3 p k' q' l s e' _ _ t _ hp)
    · have h1 : h ((4 * b + c) * 17 + i) = 1 := (HH.2 _).resolve_left h0
      have hjn : j < n := hiff.mpr h0
      obtain ⟨w2, z2, a1, a2, a3⟩ := pr_reply HW hc hb (K := 3) (I := nI i) ⟨⟨i, hi, rfl, fun h => absurd h (by decide : ¬ (3 : Int32) = 1), fun _ => i1⟩, Or.inl rfl⟩
      exact ⟨k, r, q, o, e, h, g, m, w2, z2, HR, HO, HH, a1, fun post hp => ⟨fun a => absurd (a rfl) h0, fun _ => px_ap2 (by omega) hi (by rw [ps_upd0 h1]; exact a2 p k r l s o h post hp)⟩, fun t post hp => nm_r (pn_yb c b) (nm_r (pn_yb c b) (br_t rfl (br_f (by decide) (br_f (by decide) (br_t rfl (py_fh (p := p) (k := k) (q := q) (l := l) (s := s) (e := e) (g := g) (m := m) (z := z) (t := t) (by omega) hm n16 F (fun _ => br_t (nI_pos' (by omega)) (a3 p k q l s e g m t _ hp)) (fun hl => absurd hl (by omega))))))))⟩
/-- a delivery -/
theorem pr_dlv {k : TK} {c sn : Nat} (hc : c < 4) (h1 : 1 ≤ sn) (h2 : sn ≤ 24) (M : Int32) : ∃ k' : TK, (∀ (p : TP) (r : TR) (l s : TL) (o : TO) (h : TA) (w : TW) (post : SX → Prop), post (XS p k' r l s o h w) → wpX_deliver post (XS p k r l s o h w) (nI c) (nI sn) M)
    ∧ (∀ (p : TP) (q : TR) (l s : TL) (e : TO) (g m : TA) (z : TO) (t : T5) (post : SY → Prop), post (YS p k' q l s e g m z t) → wpY_take post (YS p k q l s e g m z t) (nI c) (nI 0) (nI sn) M) := by
  have eX : nI c * 25 + nI sn = nI (c * 25 + sn) := by rw [pn_m25, nI_add]
  have ix : vp_in (nI c * 25 + nI sn) 100 := by rw [eX]; exact vp_in_nI (by omega) (by omega)
  have cx : (nI c * 25 + nI sn).toNatClampNeg = c * 25 + sn := by rw [eX]; exact nI_clamp (by omega)
  have cc : (nI c).toNatClampNeg = c := nI_clamp (by omega)
  have i4 : vp_in (nI c) 4 := vp_in_nI hc (by omega)
  have s1 : ¬ nI sn < 1 := nI_nlt (b := 1) h1 (by omega)
  have s2 : ¬ (24 : Int32) < nI sn := nI_nlt (a := 24) h2 (by omega)
  by_cases hM : M = 0
  · exact ⟨(upd k.1 (c * 25 + sn) (k.1 (c * 25 + sn) + 1), k.2), fun p r l s o h w post hp => br_t hM ⟨ix, ix, nm_r (by rw [cx]) hp⟩, fun p q l s e g m z t post hp => br_f (by decide) (br_t hM (br_f s1 (br_f s2 ⟨ix, ix, nm_r (by rw [cx]) hp⟩)))⟩
  · exact ⟨(k.1, upd k.2.1 c (k.2.1 c + 1), k.2.2), fun p r l s o h w post hp => br_f hM ⟨i4, i4, nm_r (by rw [cc]) hp⟩, fun p q l s e g m z t post hp => br_f (by decide) (br_f hM ⟨i4, i4, nm_r (by rw [cc]) hp⟩)⟩
theorem px_li1 {p : TP} {k : TK} {r : TR} {l s : TL} {o : TO} {h : TA} {w : TW} {c : Nat} (hc : c < 4) (hl : ¬ l.1 c = 0) {post : Int32 → Prop} (hp : post 1) : wpX_isLinked post (XS p k r l s o h w) (nI c) := by
  have cc : (nI c).toNatClampNeg = c := nI_clamp (by omega)
  exact br_f (nI_pos (by omega)) (br_f (nI_ge (b := 4) hc (by omega)) (br_f (by decide) ⟨vp_in_nI hc (by omega), br_f (by rw [cc]; exact hl) hp⟩))
theorem px_li0 {p : TP} {k : TK} {r : TR} {l s : TL} {o : TO} {h : TA} {w : TW} {c : Nat} (hc : c < 4) (hl : l.1 c = 0) {post : Int32 → Prop} (hp : post 0) : wpX_isLinked post (XS p k r l s o h w) (nI c) := by
  have cc : (nI c).toNatClampNeg = c := nI_clamp (by omega)
  exact br_f (nI_pos (by omega)) (br_f (nI_ge (b := 4) hc (by omega)) (br_f (by decide) ⟨vp_in_nI hc (by omega), br_t (by rw [cc]; exact hl) hp⟩))
end P15
end
section
section P16
/-! the relation -/
def i_Rel (_ : Nat) (u : SX) (v : SY) : Prop := ∃ (p : TP) (k : TK) (r q : TR) (l s : TL) (o e : TO) (h g m : TA) (w : TW) (z : TO) (t : T5), u = XS p k r l s o h w ∧ v = YS p k q l s e g m z t ∧ ps_IP p ∧ ps_IL l s ∧ ps_RR r q ∧ ps_GO o e ∧ ps_GH h g m ∧ ps_GW w z
theorem i_up {k : Nat} {u : SX} {v : SY} (h : i_Rel k u v) : i_Rel (k + 5) u v := h
theorem ir_mk {n : Nat} {p : TP} {k : TK} {r q : TR} {l s : TL} {o e : TO} {h g m : TA} {w : TW} {z : TO} {t : T5} (HP : ps_IP p) (HL : ps_IL l s) (HR : ps_RR r q) (HO : ps_GO o e) (HH : ps_GH h g m) (HW : ps_GW w z) : i_Rel n (XS p k r l s o h w) (YS p k q l s e g m z t) := ⟨p, k, r, q, l, s, o, e, h, g, m, w, z, t, rfl, rfl, HP, HL, HR, HO, HH, HW⟩
def ps_z : TA := fun _ => 0
theorem i_vc0 : wpX_init (fun u => wpY_init (fun v => i_Rel 0 u v)) := by
  refine ⟨(0, ps_z, ps_z, ps_z, ps_z), (ps_z, ps_z, ps_z, ps_z), (0, ps_z, ps_z), (0, ps_z, ps_z), (ps_z, ps_z, ps_z), (ps_z, ps_z, ps_z), (ps_z, ps_z, ps_z, ps_z, ps_z, ps_z), (ps_z, ps_z, ps_z, ps_z, ps_z, ps_z), ps_z, ps_z, ps_z, (ps_z, ps_z, ps_z, ps_z, ps_z, ps_z, ps_z), (ps_z, ps_z, ps_z, ps_z, ps_z, ps_z), (0, 0, 0, 0, 0), rfl, rfl, ?_, ?_, ?_, ?_, ?_, ?_⟩
  · exact ⟨0, by omega, rfl, fun i => ⟨⟨0, by omega, rfl⟩, Or.inl rfl⟩⟩
  · exact fun c hc => ⟨fun h => absurd rfl h, fun h => absurd rfl h, 0, by omega, rfl, fun _ => rfl, fun j hj => absurd hj (by omega)⟩
  · exact ⟨0, rfl, rfl, by omega, fun i hi => absurd hi (by omega), fun i hi => absurd hi (by omega), fun i j _ hj => absurd hj (by omega), fun i j _ hj => absurd hj (by omega), fun i hi => absurd hi (by omega), fun i hi => absurd hi (by omega)⟩
  · exact ⟨fun c b hc hb => ⟨0, fun _ => by omega, rfl, rfl, ps_O_0⟩, fun i => Or.inl rfl, fun i => Or.inl rfl⟩
  · exact ⟨fun c b hc hb => ⟨0, rfl, ps_H_0 (fun i _ _ => rfl)⟩, fun i => Or.inl rfl⟩
  · exact ⟨fun c b hc hb => ⟨0, 0, rfl, rfl, rfl, ps_Q_0 (by omega)⟩, fun i => Or.inl rfl, fun i => Or.inl rfl⟩
/-! a packet moved -/
theorem px_tk {p : TP} {k : TK} {r : TR} {l s : TL} {o : TO} {h : TA} {w : TW} {x i : Nat} {K Q : Int32} (hx : x < 8) (hi : i ≤ 16) {post : Int32 → Prop} (h0 : (¬ K = 1 ∨ (Q = 2 ∧ ¬ h (x * 17 + i) = 0)) → post 0) (h1 : K = 1 → (Q = 2 → h (x * 17 + i) = 0) → post 1) : wpX_isTaken post (XS p k r l s o h w) (nI x) K (nI i) Q := by
  have eX : nI x * 17 + nI i = nI (x * 17 + i) := by rw [pn_m17, nI_add]
  have ix : vp_in (nI x * 17 + nI i) 136 := by rw [eX]; exact vp_in_nI (by omega) (by omega)
  have cx : (nI x * 17 + nI i).toNatClampNeg = x * 17 + i := by rw [eX]; exact nI_clamp (by omega)
  exact br_c (fun a => br_c (fun b => ⟨ix, br_c (fun d => h1 a (fun _ => by rw [cx] at d; exact d)) fun d => h0 (Or.inr ⟨b, by rw [cx] at d; exact d⟩)⟩) fun b => h1 a (fun z => absurd z b)) fun a => h0 (Or.inl a)
theorem px_tb {p : TP} {k : TK} {r : TR} {l s : TL} {o : TO} {h : TA} {w : TW} {c d i : Nat} {w' : TW} {K S Q M : Int32} (hc : c < 4) (hl : ¬ l.1 c = 0) (hw : ¬ w.2.1 c = 0) (hd : d < 32) (ht : ps_w5 w (c * 32 + d) = (K, nI i, S, Q, M)) (hi : i ≤ 16) (hold : ∀ post : Int32 → Prop, post (nI (c * 32 + d)) → wpX_oldestPacket post (XS p k r l s o h w) (nI c)) (hrem : ∀ post : SX → Prop, post (XS p k r l s o h w') → wpX_removeOldestPacket post (XS p k r l s o h w) (nI c)) {post : Int32 → SX → Prop}
    (h0 : (¬ K = 1 ∨ (Q = 2 ∧ ¬ h ((4 + c) * 17 + i) = 0)) → wpX_answerPacket (fun u => post K u) (XS p k r l s o h w') (nI (4 + c)) K (nI i) Q)
    (h1 : K = 1 → (Q = 2 → h ((4 + c) * 17 + i) = 0) → wpX_acceptSerial (fun u => wpX_answerPacket (fun u => post K u) u (nI (4 + c)) K (nI i) Q) (XS p k r l s o h w') S) : wpX_toBroker post (XS p k r l s o h w) (nI c) := by
  have cc : (nI c).toNatClampNeg = c := nI_clamp (by omega)
  have ic : vp_in (nI (c * 32 + d)) 256 := vp_in_nI (by omega) (by omega)
  have cd : (nI (c * 32 + d)).toNatClampNeg = c * 32 + d := nI_clamp (by omega)
  simp only [ps_w5, ps_5, Prod.mk.injEq] at ht
  obtain ⟨t1, t2, t3, t4, t5⟩ := ht
  unfold wpX_toBroker
  exact px_li1 (p := p) (k := k) (r := r) (l := l) (s := s) (o := o) (h := h) (w := w) hc hl (br_f (by decide) ⟨vp_in_nI (by omega) (by omega), br_f (by rw [cc]; exact hw) (nm_r (pn_4a c) (hold _ ⟨ic, nm_r (by rw [cd, t1]) ⟨ic, nm_r (by rw [cd, t2]) ⟨ic, nm_r (by rw [cd, t4]) ⟨ic, nm_r (by rw [cd, t3]) (hrem _ (px_tk (p := p) (k := k) (r := r) (l := l) (s := s) (o := o) (h := h) (w := w') (by omega) hi (fun a => br_t rfl (h0 a)) (fun a b => br_f (by decide) (h1 a b))))⟩⟩⟩⟩))⟩)
theorem px_tc {p : TP} {k : TK} {r : TR} {l s : TL} {o : TO} {h : TA} {w : TW} {c d i : Nat} {w' : TW} {K S Q M : Int32} (hc : c < 4) (hl : ¬ l.1 c = 0) (hw : ¬ w.2.1 (4 + c) = 0) (hd : d < 32) (ht : ps_w5 w ((4 + c) * 32 + d) = (K, nI i, S, Q, M)) (hi : i ≤ 16) (hold : ∀ post : Int32 → Prop, post (nI ((4 + c) * 32 + d)) → wpX_oldestPacket post (XS p k r l s o h w) (nI (4 + c))) (hrem : ∀ post : SX → Prop, post (XS p k r l s o h w') → wpX_removeOldestPacket post (XS p k r l s o h w) (nI (4 + c))) {post : Int32 → SX → Prop}
    (h0 : (¬ K = 1 ∨ (Q = 2 ∧ ¬ h (c * 17 + i) = 0)) → wpX_answerPacket (fun u => post K u) (XS p k r l s o h w') (nI c) K (nI i) Q)
    (h1 : K = 1 → (Q = 2 → h (c * 17 + i) = 0) → wpX_deliver (fun u => wpX_answerPacket (fun u => post K u) u (nI c) K (nI i) Q) (XS p k r l s o h w') (nI c) S M) : wpX_toClient post (XS p k r l s o h w) (nI c) := by
  have cc : (nI (4 + c)).toNatClampNeg = 4 + c := nI_clamp (by omega)
  have ic : vp_in (nI ((4 + c) * 32 + d)) 256 := vp_in_nI (by omega) (by omega)
  have cd : (nI ((4 + c) * 32 + d)).toNatClampNeg = (4 + c) * 32 + d := nI_clamp (by omega)
  simp only [ps_w5, ps_5, Prod.mk.injEq] at ht
  obtain ⟨t1, t2, t3, t4, t5⟩ := ht
  unfold wpX_toClient
  exact nm_r (pn_4a c) (px_li1 (p := p) (k := k) (r := r) (l := l) (s := s) (o := o) (h := h) (w := w) hc hl (br_f (by decide) ⟨vp_in_nI (by omega) (by omega), br_f (by rw [cc]; exact hw) (hold _ ⟨ic, nm_r (by rw [cd, t1]) ⟨ic, nm_r (by rw [cd, t2]) ⟨ic, nm_r (by rw [cd, t4]) ⟨ic, nm_r (by rw [cd, t3]) ⟨ic, nm_r (by rw [cd, t5]) (hrem _ (px_tk (p := p) (k := k) (r := r) (l := l) (s := s) (o := o) (h := h) (w := w') (by omega) hi (fun a => br_t rfl (h0 a)) (fun a b => br_f (by decide) (h1 a b))))⟩⟩⟩⟩⟩)⟩))
theorem i_vc_toBroker {k : Nat} {u : SX} {v : SY} (I : i_Rel k u v) (hk : k + 5 ≤ 2560) (v1 : Int32) : wpX_toBroker (fun r u' => wpY_toBroker (fun r' v' => r' = r ∧ i_Rel (k + 5) u' v') v v1) u v1 := by
  obtain ⟨p, kk, r, q, l, s, o, e, h, g, m, w, z, t, rfl, rfl, HP, HL, HR, HO, HH, HW⟩ := I
  have R : i_Rel (k + 5) (XS p kk r l s o h w) (YS p kk q l s e g m z t) := ir_mk HP HL HR HO HH HW
  rcases pr_cl v1 with ⟨cX, cY⟩ | ⟨c, hc, rfl, cX, cY⟩
  · unfold wpX_toBroker wpX_isLinked
    exact cX _ (br_t rfl (br_t rfl (by unfold wpY_toBroker; exact cY _ _ (br_f (by decide) ⟨rfl, R⟩))))
  · have cc : (nI c).toNatClampNeg = c := nI_clamp (by omega)
    have i4 : vp_in (nI c) 4 := vp_in_nI hc (by omega)
    have i8 : vp_in (nI c) 8 := vp_in_nI (by omega) (by omega)
    have e0 : 4 * 0 + c = c := by omega
    have cy : (nI c * 2).toNatClampNeg = 2 * c + 0 := by rw [pn_m2]; exact nI_clamp (by omega)
    have y8 : vp_in (nI c * 2) 8 := by rw [pn_m2]; exact vp_in_nI (by omega) (by omega)
    have hemp := pr_emp HW hc (b := 0) (by omega)
    rw [e0] at hemp
    by_cases hl : l.1 c = 0
    · unfold wpX_toBroker
      exact px_li0 (p := p) (k := kk) (r := r) (l := l) (s := s) (o := o) (h := h) (w := w) hc hl (br_t rfl (by unfold wpY_toBroker; exact cY _ _ (br_t rfl ⟨i4, br_t (by rw [cc]; exact hl) ⟨rfl, R⟩⟩)))
    · have hl' : ¬ l.1 (nI c).toNatClampNeg = 0 := by rw [cc]; exact hl
      by_cases hw : w.2.1 c = 0
      · unfold wpX_toBroker
        exact px_li1 (p := p) (k := kk) (r := r) (l := l) (s := s) (o := o) (h := h) (w := w) hc hl (br_f (by decide) ⟨i8, br_t (by rw [cc]; exact hw) (by unfold wpY_toBroker; exact cY _ _ (br_t rfl ⟨i4, br_f hl' ⟨y8, br_t (by rw [cy, ← hemp]; exact hw) ⟨rfl, R⟩⟩⟩))⟩)
      · have hz : ¬ z.1 (nI c * 2).toNatClampNeg = 0 := by rw [cy, ← hemp]; exact hw
        obtain ⟨w', z', ⟨K, I, S, Q, M⟩, d, W1, PV, hd, hwt, oX, rX, pY⟩ := pr_pop HW hc (b := 0) (by omega) (by rw [e0]; exact hw)
        rw [e0] at hwt oX rX
        obtain ⟨⟨i, hi, hI, pv1, pv2⟩, hM⟩ := PV
        simp only at hI pv1 pv2 hM
        subst hI
        have yb : nI c * 2 = nI (2 * c + 0) := pn_m2 c
        by_cases k1 : K = 1
        · subst k1
          obtain ⟨⟨sn, s1, s2, hS⟩, hQ⟩ := pv1 rfl
          subst hS
          obtain ⟨k', r', q', o', e', w1, z1, A1, A2, A3, aX, aY⟩ := pr_acc HP HL (k := kk) HR HO W1 s1 s2
          obtain ⟨k2, r2, q2, o2, e2, h2, g2, m2, w2, z2, B1, B2, B3, B4, bX, bY⟩ := pr_pub HR HO HH W1 A1 A2 A3 hc (b := 1) (by omega) hi (M := M) hQ (fun post u => wpX_acceptSerial post u (nI sn)) aX (fun g m t post hp => br_t rfl (aY g m t _ hp))
          have hY : wpY_toBroker (fun r' v' => r' = 1 ∧ i_Rel (k + 5) (XS p k2 r2 l s o2 h2 w2) v') (YS p kk q l s e g m z t) (nI c) := by unfold wpY_toBroker; exact cY _ _ (br_t rfl ⟨i4, br_f hl' ⟨y8, br_f hz (by rw [yb]; exact pY p kk q l s e g m t _ (bY _ _ ⟨rfl, ir_mk HP HL B1 B2 B3 B4⟩))⟩⟩)
          have hX := bX (fun u => wpY_toBroker (fun r' v' => r' = 1 ∧ i_Rel (k + 5) u v') (YS p kk q l s e g m z t) (nI c)) hY
          exact px_tb hc hl hw hd hwt hi (oX p kk r l s o h) (rX p kk r l s o h) (fun a => hX.2 (a.resolve_left (fun z => z rfl))) (fun _ a => hX.1 a)
        · obtain ⟨o2, e2, h2, g2, m2, w2, z2, B2, B3, B4, bX, bY⟩ := pr_ans HO HH W1 hc (b := 1) (by omega) (t := (K, nI i, S, Q, M)) ⟨⟨i, hi, rfl, pv1, pv2⟩, hM⟩ k1
          have hY : wpY_toBroker (fun r' v' => r' = K ∧ i_Rel (k + 5) (XS p kk r l s o2 h2 w2) v') (YS p kk q l s e g m z t) (nI c) := by unfold wpY_toBroker; exact cY _ _ (br_t rfl ⟨i4, br_f hl' ⟨y8, br_f hz (by rw [yb]; exact pY p kk q l s e g m t _ (bY p kk q l s _ S M _ ⟨rfl, ir_mk HP HL HR B2 B3 B4⟩))⟩⟩)
          exact px_tb hc hl hw hd hwt hi (oX p kk r l s o h) (rX p kk r l s o h) (fun _ => bX p kk r l s _ hY) (fun a => absurd a k1)
theorem i_vc_toClient {k : Nat} {u : SX} {v : SY} (I : i_Rel k u v) (hk : k + 5 ≤ 2560) (v1 : Int32) : wpX_toClient (fun r u' => wpY_toClient (fun r' v' => r' = r ∧ i_Rel (k + 5) u' v') v v1) u v1 := by
  obtain ⟨p, kk, r, q, l, s, o, e, h, g, m, w, z, t, rfl, rfl, HP, HL, HR, HO, HH, HW⟩ := I
  have R : i_Rel (k + 5) (XS p kk r l s o h w) (YS p kk q l s e g m z t) := ir_mk HP HL HR HO HH HW
  rcases pr_cl v1 with ⟨cX, cY⟩ | ⟨c, hc, rfl, cX, cY⟩
  · unfold wpX_toClient wpX_isLinked
    exact nm_e (cX _ (br_t rfl (br_t rfl (by unfold wpY_toClient; exact cY _ _ (br_f (by decide) ⟨rfl, R⟩)))))
  · have cc : (nI c).toNatClampNeg = c := nI_clamp (by omega)
    have c4 : (nI (4 + c)).toNatClampNeg = 4 + c := nI_clamp (by omega)
    have i4 : vp_in (nI c) 4 := vp_in_nI hc (by omega)
    have i8 : vp_in (nI (4 + c)) 8 := vp_in_nI (by omega) (by omega)
    have e1 : 4 * 1 + c = 4 + c := by omega
    have e0 : 4 * 0 + c = c := by omega
    have cy : (nI c * 2 + 1).toNatClampNeg = 2 * c + 1 := by rw [pn_y1]; exact nI_clamp (by omega)
    have y8 : vp_in (nI c * 2 + 1) 8 := by rw [pn_y1]; exact vp_in_nI (by omega) (by omega)
    have hemp := pr_emp HW hc (b := 1) (by omega)
    rw [e1] at hemp
    by_cases hl : l.1 c = 0
    · unfold wpX_toClient
      exact nm_r (pn_4a c) (px_li0 (p := p) (k := kk) (r := r) (l := l) (s := s) (o := o) (h := h) (w := w) hc hl (br_t rfl (by unfold wpY_toClient; exact cY _ _ (br_t rfl ⟨i4, br_t (by rw [cc]; exact hl) ⟨rfl, R⟩⟩))))
    · have hl' : ¬ l.1 (nI c).toNatClampNeg = 0 := by rw [cc]; exact hl
      by_cases hw : w.2.1 (4 + c) = 0
      · unfold wpX_toClient
        exact nm_r (pn_4a c) (px_li1 (p := p) (k := kk) (r := r) (l := l) (s := s) (o := o) (h := h) (w := w) hc hl (br_f (by decide) ⟨i8, br_t (by rw [c4]; exact hw) (by unfold wpY_toClient; exact cY _ _ (br_t rfl ⟨i4, br_f hl' ⟨y8, br_t (by rw [cy, ← hemp]; exact hw) ⟨rfl, R⟩⟩⟩))⟩))
      · have hz : ¬ z.1 (nI c * 2 + 1).toNatClampNeg = 0 := by rw [cy, ← hemp]; exact hw
        obtain ⟨w', z', ⟨K, I, S, Q, M⟩, d, W1, PV, hd, hwt, oX, rX, pY⟩ := pr_pop HW hc (b := 1) (by omega) (by rw [e1]; exact hw)
        rw [e1] at hwt oX rX
        obtain ⟨⟨i, hi, hI, pv1, pv2⟩, hM⟩ := PV
        simp only at hI pv1 pv2 hM
        subst hI
        have yb : nI c * 2 + 1 = nI (2 * c + 1) := pn_y1 c
        by_cases k1 : K = 1
        · subst k1
          obtain ⟨⟨sn, s1, s2, hS⟩, hQ⟩ := pv1 rfl
          subst hS
          obtain ⟨k', aX, aY⟩ := pr_dlv (k := kk) hc s1 s2 M
          obtain ⟨k2, r2, q2, o2, e2, h2, g2, m2, w2, z2, B1, B2, B3, B4, bX, bY⟩ := pr_pub (p := p) (l := l) (s := s) (k' := k') HR HO HH W1 HR HO W1 hc (b := 0) (by omega) hi (S := nI sn) (M := M) hQ (fun post u => wpX_deliver post u (nI c) (nI sn) M) (fun h post hp => aX p r l s o h w' post hp) (fun g m t post hp => aY p q l s e g m z' t post hp)
          rw [e0] at bX
          have hY : wpY_toClient (fun r' v' => r' = 1 ∧ i_Rel (k + 5) (XS p k2 r2 l s o2 h2 w2) v') (YS p kk q l s e g m z t) (nI c) := by unfold wpY_toClient; exact cY _ _ (br_t rfl ⟨i4, br_f hl' ⟨y8, br_f hz (by rw [yb]; exact pY p kk q l s e g m t _ (bY _ _ ⟨rfl, ir_mk HP HL B1 B2 B3 B4⟩))⟩⟩)
          have hX := bX (fun u => wpY_toClient (fun r' v' => r' = 1 ∧ i_Rel (k + 5) u v') (YS p kk q l s e g m z t) (nI c)) hY
          exact px_tc hc hl hw hd hwt hi (oX p kk r l s o h) (rX p kk r l s o h) (fun a => hX.2 (a.resolve_left (fun z => z rfl))) (fun _ a => hX.1 a)
        · obtain ⟨o2, e2, h2, g2, m2, w2, z2, B2, B3, B4, bX, bY⟩ := pr_ans HO HH W1 hc (b := 0) (by omega) (t := (K, nI i, S, Q, M)) ⟨⟨i, hi, rfl, pv1, pv2⟩, hM⟩ k1
          rw [e0] at bX
          have hY : wpY_toClient (fun r' v' => r' = K ∧ i_Rel (k + 5) (XS p kk r l s o2 h2 w2) v') (YS p kk q l s e g m z t) (nI c) := by unfold wpY_toClient; exact cY _ _ (br_t rfl ⟨i4, br_f hl' ⟨y8, br_f hz (by rw [yb]; exact pY p kk q l s e g m t _ (bY p kk q l s _ S M _ ⟨rfl, ir_mk HP HL HR B2 B3 B4⟩))⟩⟩)
          exact px_tc hc hl hw hd hwt hi (oX p kk r l s o h) (rX p kk r l s o h) (fun _ => bX p kk r l s _ hY) (fun a => absurd a k1)
end P16
end
section
section P17
theorem i_vc_received {k : Nat} {u : SX} {v : SY} (I : i_Rel k u v) (hk : k + 5 ≤ 2560) (v1 : Int32) (v2 : Int32) : wpX_received (fun r => wpY_received (fun r' => r' = r ∧ i_Rel (k + 5) u v) v v1 v2) u v1 v2 := by
  have R : i_Rel (k + 5) u v := I
  obtain ⟨p, kk, r, q, l, s, o, e, h, g, m, w, z, t, rfl, rfl, HP, HL, HR, HO, HH, HW⟩ := I
  unfold wpX_received
  rcases pr_cl v1 with ⟨cX, cY⟩ | ⟨c, hc, rfl, cX, cY⟩
  · exact cX _ (br_t rfl (by unfold wpY_received; exact cY _ _ (br_f (by decide) ⟨rfl, R⟩)))
  · rcases pr_se v2 with ⟨sX, s1 | ⟨s1, s2⟩⟩ | ⟨sn, n1, n2, rfl, sX, s1, s2, s3⟩
    · exact cX _ (br_f (by decide) (sX _ (br_t rfl (by unfold wpY_received; exact cY _ _ (br_t rfl (br_t s1 ⟨rfl, R⟩))))))
    · exact cX _ (br_f (by decide) (sX _ (br_t rfl (by unfold wpY_received; exact cY _ _ (br_t rfl (br_f s1 (br_f (Int32.not_le.mpr s2) ⟨rfl, R⟩)))))))
    · have eX : nI c * 25 + nI sn = nI (c * 25 + sn) := by rw [pn_m25, nI_add]
      have ix : vp_in (nI c * 25 + nI sn) 100 := by rw [eX]; exact vp_in_nI (by omega) (by omega)
      exact cX _ (br_f (by decide) (sX _ (br_f (by decide) ⟨ix, by unfold wpY_received; exact cY _ _ (br_t rfl (br_f s1 (br_t s3 ⟨ix, rfl, R⟩)))⟩)))
theorem i_vc_retainedReceived {k : Nat} {u : SX} {v : SY} (I : i_Rel k u v) (hk : k + 5 ≤ 2560) (v1 : Int32) : wpX_retainedReceived (fun r => wpY_retainedReceived (fun r' => r' = r ∧ i_Rel (k + 5) u v) v v1) u v1 := by
  have R : i_Rel (k + 5) u v := I
  obtain ⟨p, kk, r, q, l, s, o, e, h, g, m, w, z, t, rfl, rfl, HP, HL, HR, HO, HH, HW⟩ := I
  unfold wpX_retainedReceived
  rcases pr_cl v1 with ⟨cX, cY⟩ | ⟨c, hc, rfl, cX, cY⟩
  · exact cX _ (br_t rfl (by unfold wpY_retainedReceived; exact cY _ _ (br_f (by decide) ⟨rfl, R⟩)))
  · have i4 : vp_in (nI c) 4 := vp_in_nI hc (by omega)
    exact cX _ (br_f (by decide) ⟨i4, by unfold wpY_retainedReceived; exact cY _ _ (br_t rfl ⟨i4, rfl, R⟩)⟩)
theorem i_vc_accepted {k : Nat} {u : SX} {v : SY} (I : i_Rel k u v) (hk : k + 5 ≤ 2560) (v1 : Int32) : wpX_accepted (fun r => wpY_accepted (fun r' => r' = r ∧ i_Rel (k + 5) u v) v v1) u v1 := by
  have R : i_Rel (k + 5) u v := I
  obtain ⟨p, kk, r, q, l, s, o, e, h, g, m, w, z, t, rfl, rfl, HP, HL, HR, HO, HH, HW⟩ := I
  unfold wpX_accepted
  rcases pr_se v1 with ⟨sX, s1 | ⟨s1, s2⟩⟩ | ⟨sn, n1, n2, rfl, sX, s1, s2, s3⟩
  · exact sX _ (br_t rfl (br_t s1 ⟨rfl, R⟩))
  · exact sX _ (br_t rfl (br_f s1 (br_f (Int32.not_le.mpr s2) ⟨rfl, R⟩)))
  · have i25 : vp_in (nI sn) 25 := vp_in_nI (by omega) (by omega)
    exact sX _ (br_f (by decide) ⟨i25, br_f s1 (br_t s3 ⟨i25, rfl, R⟩)⟩)
/-- a topic is retained at both sides, or at neither -/
theorem ps_pres {n pl j : Nat} {tX sX tY sY : TA} {T : Int32} (H : ps_R n tX sX tY sY) (p1 : pl ≤ n) (p2 : ∀ i, i < pl → tX i < T) (p3 : ∀ i, pl ≤ i → i < n → T ≤ tX i) (F : ps_F tY 0 n T j) : (pl < n ∧ tX pl = T ∧ j < n ∧ sX pl = sY j) ∨ ((pl < n → ¬ tX pl = T) ∧ j = n) := by
  have hj := F.1
  by_cases hpr : pl < n ∧ tX pl = T
  · obtain ⟨hlt, he⟩ := hpr
    have hjn : j < n := by
      obtain ⟨j', hj', ej, _⟩ := H.2.2.2.2.2.1 pl hlt
      apply Classical.byContradiction
      intro hx
      have := F.2.1 j' (by omega)
      rw [Nat.zero_add, ej] at this
      exact this he
    have h3 := F.2.2 hjn
    rw [Nat.zero_add] at h3
    exact Or.inl ⟨hlt, he, hjn, ps_R_ser H hlt hjn (he.trans h3.symm)⟩
  · refine Or.inr ⟨fun hlt he => hpr ⟨hlt, he⟩, ?_⟩
    apply Classical.byContradiction
    intro hx
    have h3 := F.2.2 (by omega)
    rw [Nat.zero_add] at h3
    obtain ⟨i, hi, ei, _⟩ := H.2.2.2.2.2.2 j (by omega)
    have eT : tX i = T := ei.trans h3
    by_cases b : i < pl
    · exact ps_lt_ne (p2 i b) eT
    · by_cases hip : i = pl
      · rw [hip] at eT hi
        exact hpr ⟨hi, eT⟩
      · have h5 := H.2.2.2.1 pl i (by omega) hi
        rw [eT] at h5
        exact Int32.lt_irrefl (Int32.lt_of_lt_of_le h5 (p3 pl (Nat.le_refl _) (by omega)))
theorem i_vc_retainedSerial {k : Nat} {u : SX} {v : SY} (I : i_Rel k u v) (hk : k + 5 ≤ 2560) (v1 : Int32) : wpX_retainedSerial (fun r => wpY_retainedSerial (fun r' => r' = r ∧ i_Rel (k + 5) u v) v v1) u v1 := by
  have R : i_Rel (k + 5) u v := I
  obtain ⟨p, kk, r, q, l, s, o, e, h, g, m, w, z, t, rfl, rfl, HP, HL, HR, HO, HH, HW⟩ := I
  obtain ⟨n, e1, e2, hR⟩ := HR
  have n8 := hR.1
  obtain ⟨pl, p1, p2, p3⟩ := ps_pl hR v1
  obtain ⟨j, F⟩ := ps_F_ex q.2.1 0 v1 n
  unfold wpX_retainedSerial
  rcases ps_pres hR p1 p2 p3 F with ⟨hlt, he, hjn, hs⟩ | ⟨hno, hjn⟩
  · have cp : (nI pl).toNatClampNeg = pl := nI_clamp (by omega)
    have ip : vp_in (nI pl) 8 := vp_in_nI (by omega) (by omega)
    refine px_pl (p := p) (k := kk) (r := r) (l := l) (s := s) (o := o) (h := h) (w := w) e1 n8 p1 p2 p3 (br_f (by rw [e1, nI_eq (by omega) (by omega)]; omega) ⟨ip, br_t (by rw [cp]; exact he) ⟨ip, ?_⟩⟩)
    unfold wpY_retainedSerial
    exact py_fr (p := p) (k := kk) (q := q) (l := l) (s := s) (e := e) (g := g) (m := m) (z := z) (t := t) e2 n8 F (fun _ => br_t (nI_pos' (by omega)) ⟨vp_in_nI (by omega) (by omega), by rw [cp, nI_clamp (by omega)]; exact ⟨hs.symm, R⟩⟩) (fun z => absurd z (by omega))
  · have hY : wpY_retainedSerial (fun r' => r' = 0 ∧ i_Rel (k + 5) (XS p kk r l s o h w) (YS p kk q l s e g m z t)) (YS p kk q l s e g m z t) v1 := by
      unfold wpY_retainedSerial
      exact py_fr (p := p) (k := kk) (q := q) (l := l) (s := s) (e := e) (g := g) (m := m) (z := z) (t := t) e2 n8 F (fun z => absurd z (by omega)) (fun _ => br_f (by decide) ⟨rfl, R⟩)
    refine px_pl (p := p) (k := kk) (r := r) (l := l) (s := s) (o := o) (h := h) (w := w) e1 n8 p1 p2 p3 (br_c (fun _ => hY) fun a => ?_)
    have hlt : pl < n := by
      rw [e1, nI_eq (by omega) (by omega)] at a
      omega
    exact ⟨vp_in_nI (by omega) (by omega), br_f (by rw [nI_clamp (by omega)]; exact hno hlt) hY⟩
theorem pr_bs_lp {o e : TO} {x y n : Nat} (hx : x < 8) (hy : y < 8) (hn : e.1 y = nI n) (HO : ps_O ps_EV x y (ps_o5 o) (ps_o5 e) n) (S : Int32) : ∀ d i, i + d = n → ∃ R : Int32,
    (∀ (p : TP) (k : TK) (r : TR) (l s : TL) (h : TA) (w : TW) (post : Int32 → Prop), post R → wX_brokerStage_38 post S (nI (x * 16 + n)) p.1 r.1 p.2.1 p.2.2.1 p.2.2.2.1 p.2.2.2.2 k.1 k.2.1 k.2.2.1 k.2.2.2 r.2.1 r.2.2 l.1 l.2.1 l.2.2 s.1 s.2.1 s.2.2 o.1 o.2.1 o.2.2.1 o.2.2.2.1 o.2.2.2.2.1 o.2.2.2.2.2 h w.1 w.2.1 w.2.2.1 w.2.2.2.1 w.2.2.2.2.1 w.2.2.2.2.2.1 w.2.2.2.2.2.2 (d + 1) (nI (x * 16 + i)))
    ∧ (∀ (p : TP) (k : TK) (q : TR) (l s : TL) (g m : TA) (z : TO) (t : T5) (post : Int32 → Prop), post R → wY_brokerStage_30 post S (nI y) p.1 q.1 t.1 t.2.1 t.2.2.1 t.2.2.2.1 t.2.2.2.2 p.2.1 p.2.2.1 p.2.2.2.1 p.2.2.2.2 k.2.2.1 k.1 k.2.1 k.2.2.2 q.2.1 q.2.2 l.1 l.2.1 l.2.2 s.2.1 s.2.2 s.1 e.2.1 e.2.2.1 e.2.2.2.1 e.2.2.2.2.1 e.2.2.2.2.2 e.1 g m z.2.1 z.2.2.1 z.2.2.2.1 z.2.2.2.2.1 z.2.2.2.2.2 z.1 (d + 1) (nI i)) := by
  have cy : (nI y).toNatClampNeg = y := nI_clamp (by omega)
  have i8 : vp_in (nI y) 8 := vp_in_nI hy (by omega)
  have n16 := HO.1
  intro d
  induction d with
  | zero =>
    intro i hi
    obtain rfl : i = n := by omega
    exact ⟨0, fun p k r l s h w post hp => br_t (nI_le (by omega) (by omega)) hp, fun p k q l s g m z t post hp => ⟨i8, br_t (by rw [cy, hn]; exact nI_le (by omega) (by omega)) hp⟩⟩
  | succ d ih =>
    intro i hi
    obtain ⟨R, rX, rY⟩ := ih (i + 1) (by omega)
    have he := (HO.2 i (by omega)).1
    have h1 : o.2.1 (x * 16 + i) = e.2.1 (y * 16 + i) := congrArg (fun t : T5 => t.1) he
    have h4 : o.2.2.2.2.1 (x * 16 + i) = e.2.2.2.2.1 (y * 16 + i) := congrArg (fun t : T5 => t.2.2.2.1) he
    have h5 : o.2.2.2.2.2 (x * 16 + i) = e.2.2.2.2.2 (y * 16 + i) := congrArg (fun t : T5 => t.2.2.2.2) he
    have cX : (nI (x * 16 + i)).toNatClampNeg = x * 16 + i := nI_clamp (by omega)
    have iX : vp_in (nI (x * 16 + i)) 128 := vp_in_nI (by omega) (by omega)
    have cY : (nI (y * 16 + i)).toNatClampNeg = y * 16 + i := nI_clamp (by omega)
    have iY : vp_in (nI (y * 16 + i)) 128 := vp_in_nI (by omega) (by omega)
    have nX : ¬ nI (x * 16 + n) ≤ nI (x * 16 + i) := nI_ge (by omega) (by omega)
    have nY : ¬ e.1 (nI y).toNatClampNeg ≤ nI i := by rw [cy, hn]; exact nI_ge (by omega) (by omega)
    have eY : nI y * 16 + nI i = nI (y * 16 + i) := by rw [pn_m16, nI_add]
    by_cases a : e.2.1 (y * 16 + i) = S
    · by_cases b : e.2.2.2.2.1 (y * 16 + i) = 0
      · refine ⟨e.2.2.2.2.2 (y * 16 + i), fun p k r l s h w post hp => br_f nX ⟨iX, br_t (by rw [cX, h1]; exact a) ⟨iX, br_t (by rw [cX, h4]; exact b) ⟨iX, ?_⟩⟩⟩, fun p k q l s g m z t post hp => ⟨i8, br_f nY (nm_r eY ⟨iY, br_t (by rw [cY]; exact a) ⟨iY, br_t (by rw [cY]; exact b) ⟨iY, ?_⟩⟩⟩)⟩⟩
        · rw [cX, h5]; exact hp
        · rw [cY]; exact hp
      · exact ⟨R, fun p k r l s h w post hp => br_f nX ⟨iX, br_t (by rw [cX, h1]; exact a) ⟨iX, br_f (by rw [cX, h4]; exact b) (nm_r (nI_1 _) (rX p k r l s h w post hp))⟩⟩, fun p k q l s g m z t post hp => ⟨i8, br_f nY (nm_r eY ⟨iY, br_t (by rw [cY]; exact a) ⟨iY, br_f (by rw [cY]; exact b) (nm_r (nI_1 _) (rY p k q l s g m z t post hp))⟩⟩)⟩⟩
    · exact ⟨R, fun p k r l s h w post hp => br_f nX ⟨iX, br_f (by rw [cX, h1]; exact a) (nm_r (nI_1 _) (rX p k r l s h w post hp))⟩, fun p k q l s g m z t post hp => ⟨i8, br_f nY (nm_r eY ⟨iY, br_f (by rw [cY]; exact a) (nm_r (nI_1 _) (rY p k q l s g m z t post hp))⟩)⟩⟩
theorem i_vc_brokerStage {k : Nat} {u : SX} {v : SY} (I : i_Rel k u v) (hk : k + 5 ≤ 2560) (v1 : Int32) (v2 : Int32) : wpX_brokerStage (fun r => wpY_brokerStage (fun r' => r' = r ∧ i_Rel (k + 5) u v) v v1 v2) u v1 v2 := by
  have R : i_Rel (k + 5) u v := I
  obtain ⟨p, kk, r, q, l, s, o, e, h, g, m, w, z, t, rfl, rfl, HP, HL, HR, HO, HH, HW⟩ := I
  unfold wpX_brokerStage
  rcases pr_cl v1 with ⟨cX, cY⟩ | ⟨c, hc, rfl, cX, cY⟩
  · exact cX _ (br_t rfl (by unfold wpY_brokerStage; exact cY _ _ (br_f (by decide) ⟨rfl, R⟩)))
  · rcases pr_se v2 with ⟨sX, s1 | ⟨s1, s2⟩⟩ | ⟨sn, n1, n2, rfl, sX, s1, s2, s3⟩
    · exact cX _ (br_f (by decide) (sX _ (br_t rfl (by unfold wpY_brokerStage; exact cY _ _ (br_t rfl (br_t s1 ⟨rfl, R⟩))))))
    · exact cX _ (br_f (by decide) (sX _ (br_t rfl (by unfold wpY_brokerStage; exact cY _ _ (br_t rfl (br_f s1 (br_f (Int32.not_le.mpr s2) ⟨rfl, R⟩)))))))
    · obtain ⟨n, a1, a2, a3, a4⟩ := HO.1 c 1 hc (by omega)
      have e1 : 4 * 1 + c = 4 + c := by omega
      rw [e1] at a2 a4
      obtain ⟨V, vX, vY⟩ := pr_bs_lp (by omega) (by omega) a3 a4 (nI sn) n 0 (by omega)
      have cx : (4 + nI c).toNatClampNeg = 4 + c := by rw [pn_4a]; exact nI_clamp (by omega)
      have hY : wpY_brokerStage (fun r' => r' = V ∧ i_Rel (k + 5) (XS p kk r l s o h w) (YS p kk q l s e g m z t)) (YS p kk q l s e g m z t) (nI c) (nI sn) := by
        unfold wpY_brokerStage
        exact cY _ _ (br_t rfl (br_f s1 (br_t s3 (nm_r (pn_y1 c) ⟨n + 1, vY p kk q l s g m z t _ ⟨rfl, R⟩⟩))))
      exact cX _ (br_f (by decide) (sX _ (br_f (by decide) (nm_r (e' := nI ((4 + c) * 16)) (by rw [pn_4a, pn_m16]) ⟨by rw [pn_4a]; exact vp_in_nI (by omega) (by omega), nm_r (e' := nI ((4 + c) * 16 + n)) (by rw [cx, a2, nI_add]) ⟨n + 1, vX p kk r l s h w _ hY⟩⟩))))
theorem px_hs_lp {p : TP} {k : TK} {r : TR} {l s : TL} {o : TO} {h : TA} {w : TW} {x : Nat} (hx : x < 8) {post : Int32 → Prop} (hp : post (nI (ps_hc h (x * 17) 16))) : ∀ d i, i + d = 16 → wX_heldSize_4 post (nI x) p.1 r.1 p.2.1 p.2.2.1 p.2.2.2.1 p.2.2.2.2 k.1 k.2.1 k.2.2.1 k.2.2.2 r.2.1 r.2.2 l.1 l.2.1 l.2.2 s.1 s.2.1 s.2.2 o.1 o.2.1 o.2.2.1 o.2.2.2.1 o.2.2.2.2.1 o.2.2.2.2.2 h w.1 w.2.1 w.2.2.1 w.2.2.2.1 w.2.2.2.2.1 w.2.2.2.2.2.1 w.2.2.2.2.2.2 (d + 1) (nI (ps_hc h (x * 17) i)) (nI (i + 1)) := by
  intro d
  induction d with
  | zero =>
    intro i hi
    obtain rfl : i = 16 := by omega
    exact br_t (by decide) hp
  | succ d ih =>
    intro i hi
    have hn := ih (i + 1) (by omega)
    have eX : nI x * 17 + nI (i + 1) = nI (x * 17 + (i + 1)) := by rw [pn_m17, nI_add]
    have ix : vp_in (nI x * 17 + nI (i + 1)) 136 := by rw [eX]; exact vp_in_nI (by omega) (by omega)
    have cx : (nI x * 17 + nI (i + 1)).toNatClampNeg = x * 17 + (i + 1) := by rw [eX]; exact nI_clamp (by omega)
    rw [ps_hcS] at hn
    by_cases a : h (x * 17 + (i + 1)) = 0
    · rw [if_pos a] at hn
      exact br_f (nI_nlt (a := 16) (by omega) (by omega)) ⟨ix, br_t (by rw [cx]; exact a) (nm_r (nI_1 _) hn)⟩
    · rw [if_neg a] at hn
      exact br_f (nI_nlt (a := 16) (by omega) (by omega)) ⟨ix, br_f (by rw [cx]; exact a) (nm_r (nI_1 _) (nm_r (nI_1 _) hn))⟩
theorem px_hs {p : TP} {k : TK} {r : TR} {l s : TL} {o : TO} {h : TA} {w : TW} {x : Nat} (hx : x < 8) {post : Int32 → Prop} (hp : post (nI (ps_hc h (x * 17) 16))) : wpX_heldSize post (XS p k r l s o h w) (nI x) := ⟨17, px_hs_lp hx hp 16 0 (by omega)⟩
theorem i_vc_pending {k : Nat} {u : SX} {v : SY} (I : i_Rel k u v) (hk : k + 5 ≤ 2560) (v1 : Int32) (v2 : Int32) : wpX_pending (fun r => wpY_pending (fun r' => r' = r ∧ i_Rel (k + 5) u v) v v1 v2) u v1 v2 := by
  have R : i_Rel (k + 5) u v := I
  obtain ⟨p, kk, r, q, l, s, o, e, h, g, m, w, z, t, rfl, rfl, HP, HL, HR, HO, HH, HW⟩ := I
  unfold wpX_pending
  rcases pr_cl v1 with ⟨cX, cY⟩ | ⟨c, hc, rfl, cX, cY⟩
  · exact cX _ (br_t rfl (by unfold wpY_pending; exact cY _ _ (br_f (by decide) ⟨rfl, R⟩)))
  · refine cX _ (br_f (by decide) ?_)
    have cc : (nI c).toNatClampNeg = c := nI_clamp (by omega)
    have c4 : (4 + nI c).toNatClampNeg = 4 + c := by rw [pn_4a]; exact nI_clamp (by omega)
    have i4 : vp_in (nI c) 4 := vp_in_nI hc (by omega)
    have x0 : vp_in (nI c) 8 := vp_in_nI (by omega) (by omega)
    have x1 : vp_in (4 + nI c) 8 := by rw [pn_4a]; exact vp_in_nI (by omega) (by omega)
    have e0 : 4 * 0 + c = c := by omega
    have e1 : 4 * 1 + c = 4 + c := by omega
    have y0 : vp_in (nI c * 2) 8 := by rw [pn_m2]; exact vp_in_nI (by omega) (by omega)
    have y1 : vp_in (nI c * 2 + 1) 8 := by rw [pn_y1]; exact vp_in_nI (by omega) (by omega)
    have d0 : (nI c * 2).toNatClampNeg = 2 * c + 0 := by rw [pn_m2]; exact nI_clamp (by omega)
    have d1 : (nI c * 2 + 1).toNatClampNeg = 2 * c + 1 := by rw [pn_y1]; exact nI_clamp (by omega)
    obtain ⟨no0, _, oa0, ob0, _⟩ := HO.1 c 0 hc (by omega)
    obtain ⟨no1, _, oa1, ob1, _⟩ := HO.1 c 1 hc (by omega)
    obtain ⟨nh0, ha0, hb0⟩ := HH.1 c 0 hc (by omega)
    obtain ⟨nh1, ha1, hb1⟩ := HH.1 c 1 hc (by omega)
    have hw0 := pr_emp HW hc (b := 0) (by omega)
    have hw1 := pr_emp HW hc (b := 1) (by omega)
    rw [e0] at oa0 hb0 hw0
    rw [e1] at oa1 hb1 hw1
    rcases pk_ix v2 (n := 7) (by omega) with h | h | ⟨j, hj, rfl⟩
    · exact br_t h (by unfold wpY_pending; exact cY _ _ (br_t rfl (br_t h ⟨rfl, R⟩)))
    · have h0 : ¬ v2 < 0 := fun z => Int32.lt_irrefl (Int32.lt_of_lt_of_le z (Int32.le_trans (by decide) h))
      have h6 : 6 < v2 := Int32.lt_of_lt_of_le (by decide) h
      exact br_f h0 (br_t h6 (by unfold wpY_pending; exact cY _ _ (br_t rfl (br_f h0 (br_f (Int32.not_le.mpr h6) ⟨rfl, R⟩)))))
    · have hj' : j = 0 ∨ j = 1 ∨ j = 2 ∨ j = 3 ∨ j = 4 ∨ j = 5 ∨ j = 6 := by omega
      rcases hj' with rfl | rfl | rfl | rfl | rfl | rfl | rfl
      · exact br_f (by decide) (br_f (by decide) (br_t rfl ⟨x0, by unfold wpY_pending; exact cY _ _ (br_t rfl (br_f (by decide) (br_t (by decide) (br_t rfl ⟨y0, by rw [d0, cc, oa0, ob0], R⟩))))⟩))
      · exact br_f (by decide) (br_f (by decide) (br_f (by decide) (br_t rfl ⟨x1, by unfold wpY_pending; exact cY _ _ (br_t rfl (br_f (by decide) (br_t (by decide) (br_f (by decide) (br_t rfl ⟨y1, by rw [d1, c4, oa1, ob1], R⟩)))))⟩)))
      · exact br_f (by decide) (br_f (by decide) (br_f (by decide) (br_f (by decide) (br_t rfl (px_hs (p := p) (k := kk) (r := r) (l := l) (s := s) (o := o) (h := h) (w := w) (by omega) (by unfold wpY_pending; exact cY _ _ (br_t rfl (br_f (by decide) (br_t (by decide) (br_f (by decide) (br_f (by decide) (br_t rfl ⟨y0, by rw [d0, ha0, hb0.1], R⟩))))))))))))
      · refine br_f (by decide) (br_f (by decide) (br_f (by decide) (br_f (by decide) (br_f (by decide) (br_t rfl ?_)))))
        rw [pn_4a]
        exact px_hs (p := p) (k := kk) (r := r) (l := l) (s := s) (o := o) (h := h) (w := w) (by omega) (by unfold wpY_pending; exact cY _ _ (br_t rfl (br_f (by decide) (br_t (by decide) (br_f (by decide) (br_f (by decide) (br_f (by decide) (br_t rfl ⟨y1, by rw [d1, ha1, hb1.1], R⟩))))))))
      · exact br_f (by decide) (br_f (by decide) (br_f (by decide) (br_f (by decide) (br_f (by decide) (br_f (by decide) (br_t rfl ⟨x0, by unfold wpY_pending; exact cY _ _ (br_t rfl (br_f (by decide) (br_t (by decide) (br_f (by decide) (br_f (by decide) (br_f (by decide) (br_f (by decide) (br_t rfl ⟨y0, by rw [d0, cc, hw0], R⟩))))))))⟩))))))
      · exact br_f (by decide) (br_f (by decide) (br_f (by decide) (br_f (by decide) (br_f (by decide) (br_f (by decide) (br_f (by decide) (br_t rfl ⟨x1, by unfold wpY_pending; exact cY _ _ (br_t rfl (br_f (by decide) (br_t (by decide) (br_f (by decide) (br_f (by decide) (br_f (by decide) (br_f (by decide) (br_f (by decide) (br_t rfl ⟨y1, by rw [d1, c4, hw1], R⟩)))))))))⟩)))))))
      · exact br_f (by decide) (br_f (by decide) (br_f (by decide) (br_f (by decide) (br_f (by decide) (br_f (by decide) (br_f (by decide) (br_f (by decide) (br_t rfl ⟨i4, by unfold wpY_pending; exact cY _ _ (br_t rfl (br_f (by decide) (br_t (by decide) (br_f (by decide) (br_f (by decide) (br_f (by decide) (br_f (by decide) (br_f (by decide) (br_f (by decide) ⟨i4, rfl, R⟩)))))))))⟩))))))))
theorem i_vc_status {k : Nat} {u : SX} {v : SY} (I : i_Rel k u v) (hk : k + 5 ≤ 2560) (v1 : Int32) : wpX_status (fun r => wpY_status (fun r' => r' = r ∧ i_Rel (k + 5) u v) v v1) u v1 := by
  have R : i_Rel (k + 5) u v := I
  obtain ⟨p, kk, r, q, l, s, o, e, h, g, m, w, z, t, rfl, rfl, HP, HL, HR, HO, HH, HW⟩ := I
  unfold wpX_status
  rcases pr_cl v1 with ⟨cX, cY⟩ | ⟨c, hc, rfl, cX, cY⟩
  · exact cX _ (br_t rfl (by unfold wpY_status; exact cY _ _ (br_f (by decide) ⟨rfl, R⟩)))
  · have cc : (nI c).toNatClampNeg = c := nI_clamp (by omega)
    have i4 : vp_in (nI c) 4 := vp_in_nI hc (by omega)
    have hps := (HL c hc).1
    rw [← cc] at hps
    -- from the sum so far on
    have h2 : ∀ A : Int32, (∀ B : Int32, wY_status_24 (fun r' => r' = B ∧ i_Rel (k + 5) (XS p kk r l s o h w) (YS p kk q l s e g m z t)) (nI c) A p.1 q.1 t.1 t.2.1 t.2.2.1 t.2.2.2.1 t.2.2.2.2 p.2.1 p.2.2.1 p.2.2.2.1 p.2.2.2.2 kk.2.2.1 kk.1 kk.2.1 kk.2.2.2 q.2.1 q.2.2 l.1 l.2.1 l.2.2 s.2.1 s.2.2 s.1 e.2.1 e.2.2.1 e.2.2.2.1 e.2.2.2.2.1 e.2.2.2.2.2 e.1 g m z.2.1 z.2.2.1 z.2.2.2.1 z.2.2.2.2.1 z.2.2.2.2.2 z.1 → wpY_status (fun r' => r' = B ∧ i_Rel (k + 5) (XS p kk r l s o h w) (YS p kk q l s e g m z t)) (YS p kk q l s e g m z t) (nI c)) → wX_status_23 (fun r' => wpY_status (fun r'' => r'' = r' ∧ i_Rel (k + 5) (XS p kk r l s o h w) (YS p kk q l s e g m z t)) (YS p kk q l s e g m z t) (nI c)) (nI c) A p.1 r.1 p.2.1 p.2.2.1 p.2.2.2.1 p.2.2.2.2 kk.1 kk.2.1 kk.2.2.1 kk.2.2.2 r.2.1 r.2.2 l.1 l.2.1 l.2.2 s.1 s.2.1 s.2.2 o.1 o.2.1 o.2.2.1 o.2.2.2.1 o.2.2.2.2.1 o.2.2.2.2.2 h w.1 w.2.1 w.2.2.1 w.2.2.2.1 w.2.2.2.2.1 w.2.2.2.2.2.1 w.2.2.2.2.2.2 := by
      intro A hA
      exact ⟨i4, br_c (fun a => ⟨i4, br_c (fun b => hA A ⟨i4, br_t a ⟨i4, br_t a ⟨rfl, R⟩⟩⟩) fun b => absurd a (hps b)⟩) fun a => nm_e ⟨i4, br_c (fun b => hA (A + 2) ⟨i4, br_f a (nm_e ⟨i4, br_f a ⟨i4, br_t b ⟨rfl, R⟩⟩⟩)⟩) fun b => nm_e (hA (A + 2 + 4) ⟨i4, br_f a (nm_e ⟨i4, br_f a ⟨i4, br_f b (nm_e ⟨rfl, R⟩)⟩⟩)⟩)⟩⟩
    exact cX _ (br_f (by decide) ⟨i4, br_c (fun a => h2 0 (fun B hB => by unfold wpY_status; exact cY _ _ (br_t rfl ⟨i4, br_t a hB⟩))) fun a => nm_e (h2 (0 + 1) (fun B hB => by unfold wpY_status; exact cY _ _ (br_t rfl ⟨i4, br_f a (nm_e hB)⟩)))⟩)
theorem i_vc_matches {k : Nat} {u : SX} {v : SY} (I : i_Rel k u v) (hk : k + 5 ≤ 2560) (v1 : Int32) (v2 : Int32) : wpX_matches (fun r => wpY_matches (fun r' => r' = r ∧ i_Rel (k + 5) u v) v v1 v2) u v1 v2 := by
  have R : i_Rel (k + 5) u v := I
  obtain ⟨p, kk, r, q, l, s, o, e, h, g, m, w, z, t, rfl, rfl, HP, HL, HR, HO, HH, HW⟩ := I
  obtain ⟨A, _, aX, aY⟩ := pr_fi v1
  obtain ⟨B, _, bX, bY⟩ := pr_tp v2
  obtain ⟨C, _, mX, mY⟩ := pr_ma v1 v2
  unfold wpX_matches
  refine aX _ (br_c (fun a => ?_) fun a => bX _ (br_c (fun b => ?_) fun b => mX _ (br_c (fun d => ?_) fun d => ?_)))
  · unfold wpY_matches
    exact aY p kk q l s e g m z t _ (br_t a ⟨rfl, R⟩)
  · unfold wpY_matches
    exact aY p kk q l s e g m z t _ (br_f a (bY p kk q l s e g m z t _ (br_t b ⟨rfl, R⟩)))
  · unfold wpY_matches
    exact aY p kk q l s e g m z t _ (br_f a (bY p kk q l s e g m z t _ (br_f b (mY p kk q l s e g m z t _ (br_t d ⟨rfl, R⟩)))))
  · unfold wpY_matches
    exact aY p kk q l s e g m z t _ (br_f a (bY p kk q l s e g m z t _ (br_f b (mY p kk q l s e g m z t _ (br_f d ⟨rfl, R⟩)))))
end P17
end
section
section P18
/-! a subscription found -/
theorem px_fs {p : TP} {k : TK} {r : TR} {l s : TL} {o : TO} {h : TA} {w : TW} {c n j : Nat} {F : Int32} (hc : c < 4) (hn : s.1 c = nI n) (n4 : n ≤ 4) (FF : ps_F s.2.1 (c * 4) n F j) {post : Int32 → Prop} (h1 : j < n → post (nI (c * 4 + j))) (h2 : j = n → post (-1)) :
    wpX_findSubscription post (XS p k r l s o h w) (nI c) F := by
  have hj := FF.1
  have hl : ∀ d i, i + d = j → wX_findSubscription_17 post F (nI (c * 4 + n)) p.1 r.1 p.2.1 p.2.2.1 p.2.2.2.1 p.2.2.2.2 k.1 k.2.1 k.2.2.1 k.2.2.2 r.2.1 r.2.2 l.1 l.2.1 l.2.2 s.1 s.2.1 s.2.2 o.1 o.2.1 o.2.2.1 o.2.2.2.1 o.2.2.2.2.1 o.2.2.2.2.2 h w.1 w.2.1 w.2.2.1 w.2.2.2.1 w.2.2.2.2.1 w.2.2.2.2.2.1 w.2.2.2.2.2.2 (d + 1) (nI (c * 4 + i)) := by
    intro d
    induction d with
    | zero =>
      intro i hi
      obtain rfl : i = j := by omega
      by_cases hn : i < n
      · exact br_f (nI_ge (by omega) (by omega)) ⟨vp_in_nI (by omega) (by omega), br_t (by rw [nI_clamp (by omega)]; exact FF.2.2 hn) (h1 hn)⟩
      · exact br_t (nI_le (by omega) (by omega)) (h2 (by omega))
    | succ d ih =>
      intro i hi
      exact br_f (nI_ge (by omega) (by omega)) ⟨vp_in_nI (by omega) (by omega), br_f (by rw [nI_clamp (by omega)]; exact FF.2.1 i (by omega)) (nm_r (nI_1 _) (ih (i + 1) (by omega)))⟩
  have cc : (nI c).toNatClampNeg = c := nI_clamp (by omega)
  exact nm_r (pn_m4 c) ⟨vp_in_nI hc (by omega), nm_r (e' := nI (c * 4 + n)) (by rw [cc, hn, nI_add]) ⟨j + 1, hl j 0 (by omega)⟩⟩
theorem py_fs {p : TP} {k : TK} {q : TR} {l s : TL} {e : TO} {g m : TA} {z : TO} {t : T5} {c n j : Nat} {F : Int32} (hc : c < 4) (hn : s.1 c = nI n) (n4 : n ≤ 4) (FF : ps_F s.2.1 (c * 4) n F j) {post : Int32 → Prop} (h1 : j < n → post (nI j)) (h2 : j = n → post (-1)) :
    wpY_findSub post (YS p k q l s e g m z t) (nI c) F := by
  have hj := FF.1
  have cc : (nI c).toNatClampNeg = c := nI_clamp (by omega)
  have i4 : vp_in (nI c) 4 := vp_in_nI hc (by omega)
  have hl : ∀ d i, i + d = j → wY_findSub_2 post (nI c) F p.1 q.1 t.1 t.2.1 t.2.2.1 t.2.2.2.1 t.2.2.2.2 p.2.1 p.2.2.1 p.2.2.2.1 p.2.2.2.2 k.2.2.1 k.1 k.2.1 k.2.2.2 q.2.1 q.2.2 l.1 l.2.1 l.2.2 s.2.1 s.2.2 s.1 e.2.1 e.2.2.1 e.2.2.2.1 e.2.2.2.2.1 e.2.2.2.2.2 e.1 g m z.2.1 z.2.2.1 z.2.2.2.1 z.2.2.2.2.1 z.2.2.2.2.2 z.1 (d + 1) (nI i) := by
    intro d
    induction d with
    | zero =>
      intro i hi
      obtain rfl : i = j := by omega
      by_cases hn' : i < n
      · exact ⟨i4, br_f (by rw [cc, hn]; exact nI_ge (by omega) (by omega)) ⟨by rw [pn_m4, nI_add]; exact vp_in_nI (by omega) (by omega), br_t (by rw [pn_m4, nI_add, nI_clamp (by omega)]; exact FF.2.2 hn') (h1 hn')⟩⟩
      · exact ⟨i4, br_t (by rw [cc, hn]; exact nI_le (by omega) (by omega)) (h2 (by omega))⟩
    | succ d ih =>
      intro i hi
      exact ⟨i4, br_f (by rw [cc, hn]; exact nI_ge (by omega) (by omega)) ⟨by rw [pn_m4, nI_add]; exact vp_in_nI (by omega) (by omega), br_f (by rw [pn_m4, nI_add, nI_clamp (by omega)]; exact FF.2.1 i (by omega)) (nm_r (nI_1 _) (ih (i + 1) (by omega)))⟩⟩
  exact ⟨j + 1, hl j 0 (by omega)⟩
theorem i_vc_subscriptionQos {k : Nat} {u : SX} {v : SY} (I : i_Rel k u v) (hk : k + 5 ≤ 2560) (v1 : Int32) (v2 : Int32) : wpX_subscriptionQos (fun r => wpY_subscriptionQos (fun r' => r' = r ∧ i_Rel (k + 5) u v) v v1 v2) u v1 v2 := by
  have R : i_Rel (k + 5) u v := I
  obtain ⟨p, kk, r, q, l, s, o, e, h, g, m, w, z, t, rfl, rfl, HP, HL, HR, HO, HH, HW⟩ := I
  unfold wpX_subscriptionQos
  rcases pr_cl v1 with ⟨cX, cY⟩ | ⟨c, hc, rfl, cX, cY⟩
  · exact cX _ (br_t rfl (by unfold wpY_subscriptionQos; exact cY _ _ (br_f (by decide) ⟨rfl, R⟩)))
  · obtain ⟨_, _, n, n4, hn, _, _⟩ := HL c hc
    obtain ⟨j, FF⟩ := ps_F_ex s.2.1 (c * 4) v2 n
    have hj := FF.1
    refine cX _ (br_f (by decide) (px_fs (p := p) (k := kk) (r := r) (l := l) (s := s) (o := o) (h := h) (w := w) hc hn n4 FF (fun hlt => br_t (nI_pos' (by omega)) ⟨vp_in_nI (by omega) (by omega), ?_⟩) (fun heq => br_f (by decide) ?_)))
    · unfold wpY_subscriptionQos
      have eY : nI c * 4 + nI j = nI (c * 4 + j) := by rw [pn_m4, nI_add]
      exact cY _ _ (br_t rfl (py_fs (p := p) (k := kk) (q := q) (l := l) (s := s) (e := e) (g := g) (m := m) (z := z) (t := t) hc hn n4 FF (fun _ => br_t (nI_pos' (by omega)) (by rw [eY]; exact ⟨vp_in_nI (by omega) (by omega), rfl, R⟩)) (fun z => absurd z (by omega))))
    · unfold wpY_subscriptionQos
      exact cY _ _ (br_t rfl (py_fs (p := p) (k := kk) (q := q) (l := l) (s := s) (e := e) (g := g) (m := m) (z := z) (t := t) hc hn n4 FF (fun z => absurd z (by omega)) (fun _ => br_f (by decide) ⟨rfl, R⟩)))
theorem ps_IL_uns {l s : TL} (HL : ps_IL l s) {c n j : Nat} (hc : c < 4) (hn : s.1 c = nI (n + 1)) (n4 : n < 4) (hj : j ≤ n) : ps_IL l (upd s.1 c (nI n), ps_sh s.2.1 (c * 4 + j) (c * 4 + n), ps_sh s.2.2 (c * 4 + j) (c * 4 + n)) := by
  intro c' hc'
  obtain ⟨a, b, n', n4', hn', hz, hq⟩ := HL c' hc'
  refine ⟨a, b, ?_⟩
  by_cases hcc : c' = c
  · subst hcc
    have : n' = n + 1 := by
      rw [hn', nI_eq (by omega) (by omega)] at hn
      exact hn
    subst this
    refine ⟨n, by omega, pk_us, fun x => absurd (hz x) (by omega), fun i hi => ?_⟩
    show ps_q3 (ps_sh s.2.2 (c' * 4 + j) (c' * 4 + n) (c' * 4 + i))
    by_cases hlt : i < j
    · rw [ps_sh_lo (by omega)]; exact hq i (by omega)
    · rw [ps_sh_in (by omega) (by omega)]; exact hq (i + 1) (by omega)
  · refine ⟨n', n4', (pk_un hcc).trans hn', hz, fun i hi => ?_⟩
    show ps_q3 (ps_sh s.2.2 (c * 4 + j) (c * 4 + n) (c' * 4 + i))
    have hx : ps_sh s.2.2 (c * 4 + j) (c * 4 + n) (c' * 4 + i) = s.2.2 (c' * 4 + i) := if_neg (by omega)
    rw [hx]
    exact hq i hi
theorem i_vc_unsubscribe {k : Nat} {u : SX} {v : SY} (I : i_Rel k u v) (hk : k + 5 ≤ 2560) (v1 : Int32) (v2 : Int32) : wpX_unsubscribe (fun r u' => wpY_unsubscribe (fun r' v' => r' = r ∧ i_Rel (k + 5) u' v') v v1 v2) u v1 v2 := by
  have R : i_Rel (k + 5) u v := I
  obtain ⟨p, kk, r, q, l, s, o, e, h, g, m, w, z, t, rfl, rfl, HP, HL, HR, HO, HH, HW⟩ := I
  unfold wpX_unsubscribe
  rcases pr_cl v1 with ⟨cX, cY⟩ | ⟨c, hc, rfl, cX, cY⟩
  · unfold wpX_isLinked
    exact cX _ (br_t rfl (br_t rfl (by unfold wpY_unsubscribe; exact cY _ _ (br_f (by decide) ⟨rfl, R⟩))))
  · have cc : (nI c).toNatClampNeg = c := nI_clamp (by omega)
    have i4 : vp_in (nI c) 4 := vp_in_nI hc (by omega)
    by_cases hl : l.1 c = 0
    · exact px_li0 (p := p) (k := kk) (r := r) (l := l) (s := s) (o := o) (h := h) (w := w) hc hl (br_t rfl (by unfold wpY_unsubscribe; exact cY _ _ (br_t rfl ⟨i4, br_t (by rw [cc]; exact hl) ⟨rfl, R⟩⟩)))
    · have hl' : ¬ l.1 (nI c).toNatClampNeg = 0 := by rw [cc]; exact hl
      obtain ⟨_, _, n, n4, hn, _, _⟩ := HL c hc
      obtain ⟨j, FF⟩ := ps_F_ex s.2.1 (c * 4) v2 n
      have hj := FF.1
      refine px_li1 (p := p) (k := kk) (r := r) (l := l) (s := s) (o := o) (h := h) (w := w) hc hl (br_f (by decide) (px_fs (p := p) (k := kk) (r := r) (l := l) (s := s) (o := o) (h := h) (w := w) hc hn n4 FF (fun hlt => br_t (nI_pos' (by omega)) ⟨i4, ?_⟩) (fun heq => br_f (by decide) ?_)))
      · obtain ⟨n, rfl⟩ : ∃ n', n = n' + 1 := ⟨n - 1, by omega⟩
        have R2 : i_Rel (k + 5) (XS p kk r l (upd s.1 c (nI n), ps_sh s.2.1 (c * 4 + j) (c * 4 + n), ps_sh s.2.2 (c * 4 + j) (c * 4 + n)) o h w) (YS p kk q l (upd s.1 c (nI n), ps_sh s.2.1 (c * 4 + j) (c * 4 + n), ps_sh s.2.2 (c * 4 + j) (c * 4 + n)) e g m z t) := ir_mk HP (ps_IL_uns HL hc hn (by omega) (by omega)) HR HO HH HW
        have hY : ∀ d i, j ≤ i → i + d = n → wY_unsubscribe_35 (fun r' v' => r' = 1 ∧ i_Rel (k + 5) (XS p kk r l (upd s.1 c (nI n), ps_sh s.2.1 (c * 4 + j) (c * 4 + n), ps_sh s.2.2 (c * 4 + j) (c * 4 + n)) o h w) v') (nI c) p.1 q.1 t.1 t.2.1 t.2.2.1 t.2.2.2.1 t.2.2.2.2 (d + 1) (nI i) p.2.1 p.2.2.1 p.2.2.2.1 p.2.2.2.2 kk.2.2.1 kk.1 kk.2.1 kk.2.2.2 q.2.1 q.2.2 l.1 l.2.1 l.2.2 (ps_sh s.2.1 (c * 4 + j) (c * 4 + i)) (ps_sh s.2.2 (c * 4 + j) (c * 4 + i)) s.1 e.2.1 e.2.2.1 e.2.2.2.1 e.2.2.2.2.1 e.2.2.2.2.2 e.1 g m z.2.1 z.2.2.1 z.2.2.2.1 z.2.2.2.2.1 z.2.2.2.2.2 z.1 := by
          intro d
          induction d with
          | zero =>
            intro i h1 hi
            obtain rfl : i = n := by omega
            exact ⟨i4, br_t (by rw [cc, hn, nI_1]; exact nI_le (by omega) (by omega)) ⟨i4, i4, nm_r (e' := upd s.1 c (nI i)) (by rw [cc, hn, nI_pred]) ⟨rfl, R2⟩⟩⟩
          | succ d ih =>
            intro i h1 hi
            have ea : nI c * 4 + nI i = nI (c * 4 + i) := by rw [pn_m4, nI_add]
            have eb : nI c * 4 + nI i + 1 = nI (c * 4 + i + 1) := by rw [ea, nI_1]
            have a0 : vp_in (nI c * 4 + nI i) 16 := by rw [ea]; exact vp_in_nI (by omega) (by omega)
            have a1 : vp_in (nI c * 4 + nI i + 1) 16 := by rw [eb]; exact vp_in_nI (by omega) (by omega)
            exact ⟨i4, br_f (by rw [cc, hn, nI_1]; exact nI_ge (by omega) (by omega)) ⟨a1, a0, nm_r (pn_sh ea eb (by omega) (by omega)) ⟨a1, a0, nm_r (pn_sh ea eb (by omega) (by omega)) (nm_r (nI_1 _) (ih (i + 1) (by omega) (by omega)))⟩⟩⟩
        have hY0 := hY (n - j) j (Nat.le_refl j) (by omega)
        rw [ps_sh0 (Nat.le_refl _), ps_sh0 (Nat.le_refl _)] at hY0
        have hYY : wpY_unsubscribe (fun r' v' => r' = 1 ∧ i_Rel (k + 5) (XS p kk r l (upd s.1 c (nI n), ps_sh s.2.1 (c * 4 + j) (c * 4 + n), ps_sh s.2.2 (c * 4 + j) (c * 4 + n)) o h w) v') (YS p kk q l s e g m z t) (nI c) v2 := by
          unfold wpY_unsubscribe
          exact cY _ _ (br_t rfl ⟨i4, br_f hl' (py_fs (p := p) (k := kk) (q := q) (l := l) (s := s) (e := e) (g := g) (m := m) (z := z) (t := t) hc hn n4 FF (fun _ => br_t (nI_pos' (by omega)) ⟨n - j + 1, hY0⟩) (fun z => absurd z (by omega)))⟩)
        have hX : ∀ d i, j ≤ i → i + d = n → wX_unsubscribe_40 (fun r u' => wpY_unsubscribe (fun r' v' => r' = r ∧ i_Rel (k + 5) u' v') (YS p kk q l s e g m z t) (nI c) v2) (nI c) (nI (c * 4 + n)) p.1 r.1 (d + 1) (nI (c * 4 + i)) p.2.1 p.2.2.1 p.2.2.2.1 p.2.2.2.2 kk.1 kk.2.1 kk.2.2.1 kk.2.2.2 r.2.1 r.2.2 l.1 l.2.1 l.2.2 s.1 (ps_sh s.2.1 (c * 4 + j) (c * 4 + i)) (ps_sh s.2.2 (c * 4 + j) (c * 4 + i)) o.1 o.2.1 o.2.2.1 o.2.2.2.1 o.2.2.2.2.1 o.2.2.2.2.2 h w.1 w.2.1 w.2.2.1 w.2.2.2.1 w.2.2.2.2.1 w.2.2.2.2.2.1 w.2.2.2.2.2.2 := by
          intro d
          induction d with
          | zero =>
            intro i h1 hi
            obtain rfl : i = n := by omega
            exact br_t (nI_le (by omega) (by omega)) ⟨i4, i4, nm_r (e' := upd s.1 c (nI i)) (by rw [cc, hn, nI_pred]) hYY⟩
          | succ d ih =>
            intro i h1 hi
            have a0 : vp_in (nI (c * 4 + i)) 16 := vp_in_nI (by omega) (by omega)
            have a1 : vp_in (nI (c * 4 + i) + 1) 16 := by rw [nI_1]; exact vp_in_nI (by omega) (by omega)
            exact br_f (nI_ge (by omega) (by omega)) ⟨a1, a0, nm_r (pn_sh rfl (nI_1 _) (by omega) (by omega)) ⟨a1, a0, nm_r (pn_sh rfl (nI_1 _) (by omega) (by omega)) (nm_r (nI_1 _) (ih (i + 1) (by omega) (by omega)))⟩⟩
        have hX0 := hX (n - j) j (Nat.le_refl j) (by omega)
        rw [ps_sh0 (Nat.le_refl _), ps_sh0 (Nat.le_refl _)] at hX0
        exact nm_r (e' := nI (c * 4 + n)) (by rw [cc, hn, pn_m4, nI_add, ← Nat.add_assoc, nI_pred]) ⟨n - j + 1, hX0⟩
      · unfold wpY_unsubscribe
        exact cY _ _ (br_t rfl ⟨i4, br_f hl' (py_fs (p := p) (k := kk) (q := q) (l := l) (s := s) (e := e) (g := g) (m := m) (z := z) (t := t) hc hn n4 FF (fun z => absurd z (by omega)) (fun _ => br_f (by decide) ⟨rfl, R⟩))⟩)
end P18
end
section
section P19
/-! a side emptied -/
def ps_zr (f : TA) (a b : Nat) : TA := fun i => if a ≤ i ∧ i < b then 0 else f i
theorem ps_zr0 {f : TA} {a : Nat} : ps_zr f a a = f := by
  funext i
  exact if_neg (by omega)
theorem ps_zrS {f : TA} {a b : Nat} (h : a ≤ b) : upd (ps_zr f a b) b 0 = ps_zr f a (b + 1) := by
  funext i
  simp only [upd, ps_zr]
  by_cases h1 : i = b
  · rw [if_pos h1, if_pos (by omega)]
  · rw [if_neg h1]
    by_cases h2 : a ≤ i ∧ i < b
    · rw [if_pos h2, if_pos (by omega)]
    · rw [if_neg h2, if_neg (by omega)]
theorem px_es {p : TP} {k : TK} {r : TR} {l s : TL} {o : TO} {h : TA} {w : TW} {x : Nat} (hx : x < 8) {post : SX → Prop} (hp : post (XS p k r l s (upd o.1 x 0, o.2) (ps_zr h (x * 17 + 1) (x * 17 + 17)) w)) : wpX_emptySide post (XS p k r l s o h w) (nI x) := by
  have cx : (nI x).toNatClampNeg = x := nI_clamp (by omega)
  have hl : ∀ d i, i + d = 17 → 1 ≤ i → wX_emptySide_9 post (nI x) p.1 r.1 (d + 1) (nI i) p.2.1 p.2.2.1 p.2.2.2.1 p.2.2.2.2 k.1 k.2.1 k.2.2.1 k.2.2.2 r.2.1 r.2.2 l.1 l.2.1 l.2.2 s.1 s.2.1 s.2.2 (upd o.1 x 0) o.2.1 o.2.2.1 o.2.2.2.1 o.2.2.2.2.1 o.2.2.2.2.2 (ps_zr h (x * 17 + 1) (x * 17 + i)) w.1 w.2.1 w.2.2.1 w.2.2.2.1 w.2.2.2.2.1 w.2.2.2.2.2.1 w.2.2.2.2.2.2 := by
    intro d
    induction d with
    | zero =>
      intro i hi h1
      obtain rfl : i = 17 := by omega
      exact br_t (by decide) hp
    | succ d ih =>
      intro i hi h1
      have ea : nI x * 17 + nI i = nI (x * 17 + i) := by rw [pn_m17, nI_add]
      have a0 : vp_in (nI x * 17 + nI i) 136 := by rw [ea]; exact vp_in_nI (by omega) (by omega)
      exact br_f (nI_nlt (a := 16) (by omega) (by omega)) ⟨a0, nm_r (e' := ps_zr h (x * 17 + 1) (x * 17 + i + 1)) ((pn_u ea (by omega) (pn_b (Or.inl rfl))).trans (ps_zrS (by omega))) (nm_r (nI_1 _) (ih (i + 1) (by omega) (by omega)))⟩
  have hl0 := hl 16 1 (by omega) (by omega)
  rw [ps_zr0] at hl0
  exact ⟨vp_in_nI hx (by omega), nm_r (by rw [cx]) ⟨17, hl0⟩⟩
theorem px_dis {p : TP} {k : TK} {r : TR} {l s : TL} {o : TO} {h : TA} {w : TW} {c : Nat} (hc : c < 4) {post : SX → Prop} (hp : post (XS p k r (l.1, upd l.2.1 c 0, upd l.2.2 c 0) (upd s.1 c 0, s.2) (upd (upd o.1 c 0) (4 + c) 0, o.2) (ps_zr (ps_zr h (c * 17 + 1) (c * 17 + 17)) ((4 + c) * 17 + 1) ((4 + c) * 17 + 17)) w)) : wpX_discardSession post (XS p k r l s o h w) (nI c) := by
  have cc : (nI c).toNatClampNeg = c := nI_clamp (by omega)
  have i4 : vp_in (nI c) 4 := vp_in_nI hc (by omega)
  refine ⟨i4, nm_r (e' := upd s.1 c 0) (by rw [cc]) ?_⟩
  refine px_es (p := p) (k := k) (r := r) (l := l) (s := (upd s.1 c 0, s.2)) (o := o) (h := h) (w := w) (x := c) (by omega) ?_
  show wpX_emptySide _ (XS p k r l (upd s.1 c 0, s.2) (upd o.1 c 0, o.2) (ps_zr h (c * 17 + 1) (c * 17 + 17)) w) (4 + nI c)
  rw [pn_4a]
  refine px_es (p := p) (k := k) (r := r) (l := l) (s := (upd s.1 c 0, s.2)) (o := (upd o.1 c 0, o.2)) (h := ps_zr h (c * 17 + 1) (c * 17 + 17)) (w := w) (x := 4 + c) (by omega) ?_
  exact ⟨i4, nm_r (by rw [cc, pn_b (Or.inl rfl)]) ⟨i4, nm_r (by rw [cc, pn_b (Or.inl rfl)]) hp⟩⟩
theorem py_dis {p : TP} {k : TK} {q : TR} {l s : TL} {e : TO} {g m : TA} {z : TO} {t : T5} {c : Nat} (hc : c < 4) {post : SY → Prop} (hp : post (YS p k q (l.1, upd l.2.1 c 0, upd l.2.2 c 0) (upd s.1 c 0, s.2) (upd (upd e.1 (2 * c) 0) (2 * c + 1) 0, e.2) g (upd (upd m (2 * c) 0) (2 * c + 1) 0) z t)) : wpY_discard post (YS p k q l s e g m z t) (nI c) := by
  have cc : (nI c).toNatClampNeg = c := nI_clamp (by omega)
  have i4 : vp_in (nI c) 4 := vp_in_nI hc (by omega)
  have y0 : vp_in (nI c * 2) 8 := by rw [pn_m2]; exact vp_in_nI (by omega) (by omega)
  have y1 : vp_in (nI c * 2 + 1) 8 := by rw [pn_y1]; exact vp_in_nI (by omega) (by omega)
  have d0 : (nI c * 2).toNatClampNeg = 2 * c := by rw [pn_m2]; exact nI_clamp (by omega)
  have d1 : (nI c * 2 + 1).toNatClampNeg = 2 * c + 1 := by rw [pn_y1]; exact nI_clamp (by omega)
  exact ⟨i4, nm_r (by rw [cc]) ⟨y0, nm_r (by rw [d0]) ⟨y1, nm_r (by rw [d1]) ⟨y0, nm_r (by rw [d0]) ⟨y1, nm_r (by rw [d1]) ⟨i4, nm_r (by rw [cc, pn_b (Or.inl rfl)]) ⟨i4, nm_r (by rw [cc, pn_b (Or.inl rfl)]) hp⟩⟩⟩⟩⟩⟩⟩
theorem pn_uu1 {f : TA} {a b i : Nat} (h : i = a ∨ i = b) : upd (upd f a 0) b 0 i = nI 0 := by
  by_cases e : i = b
  · rw [e, pk_us]; rfl
  · rw [pk_un e]
    rcases h with h | h
    · rw [h, pk_us]; rfl
    · exact absurd h e
theorem pn_uu2 {f : TA} {a b i : Nat} (h : i ≠ a) (h2 : i ≠ b) : upd (upd f a 0) b 0 i = f i := by
  rw [pk_un h2, pk_un h]
theorem pr_dis {o e : TO} {h g m : TA} (HO : ps_GO o e) (HH : ps_GH h g m) {c : Nat} (hc : c < 4) :
    ps_GO (upd (upd o.1 c 0) (4 + c) 0, o.2) (upd (upd e.1 (2 * c) 0) (2 * c + 1) 0, e.2) ∧ ps_GH (ps_zr (ps_zr h (c * 17 + 1) (c * 17 + 17)) ((4 + c) * 17 + 1) ((4 + c) * 17 + 17)) g (upd (upd m (2 * c) 0) (2 * c + 1) 0) := by
  have hB : ∀ {f : TA} {a b : Nat}, ps_B f → ps_B (ps_zr f a b) := by
    intro f a b hf i
    unfold ps_zr
    split
    · exact Or.inl rfl
    · exact hf i
  refine ⟨⟨ps_RO_clr HO.1 hc (fun b hb => pn_uu1 (by omega)) (fun b hb => pn_uu1 (by omega)) (fun b c' hb hc' hne => pn_uu2 (by omega) (by omega)) (fun b c' hb hc' hne => pn_uu2 (by omega) (by omega)), HO.2⟩, ps_RH_clr HH.1 hc (fun b i hb h1 h2 => ?_) (fun b c' i hb hc' hne h1 h2 => ?_) (fun b hb => pn_uu1 (by omega)) (fun b c' hb hc' hne => pn_uu2 (by omega) (by omega)), hB (hB HH.2)⟩
  · unfold ps_zr
    by_cases hb1 : b = 1
    · exact if_pos (by omega)
    · rw [if_neg (by omega)]
      exact if_pos (by omega)
  · unfold ps_zr
    rw [if_neg (by omega)]
    exact if_neg (by omega)
/-! a side's entries sent again -/
theorem pr_rs {o e : TO} (HO : ps_GO o e) {c b : Nat} (hc : c < 4) (hb : b < 2) : ∀ (w : TW) (z : TO), ps_GW w z → ∃ (w' : TW) (z' : TO), ps_GW w' z'
    ∧ (∀ (p : TP) (k : TK) (r : TR) (l s : TL) (h : TA) (post : SX → Prop), post (XS p k r l s o h w') → wpX_resend post (XS p k r l s o h w) (nI (4 * b + c)))
    ∧ (∀ (p : TP) (k : TK) (q : TR) (l s : TL) (g m : TA) (t : T5) (post : SY → Prop), post (YS p k q l s e g m z' t) → wpY_resend post (YS p k q l s e g m z t) (nI c) (nI b)) := by
  obtain ⟨n, a1, a2, a3, a4⟩ := HO.1 c b hc hb
  have n16 := a4.1
  have cy : (nI (2 * c + b)).toNatClampNeg = 2 * c + b := nI_clamp (by omega)
  have y8 : vp_in (nI (2 * c + b)) 8 := vp_in_nI (by omega) (by omega)
  have cx : (nI (4 * b + c)).toNatClampNeg = 4 * b + c := nI_clamp (by omega)
  have hl : ∀ d i, i + d = n → ∀ (w : TW) (z : TO), ps_GW w z → ∃ (w' : TW) (z' : TO), ps_GW w' z'
      ∧ (∀ (p : TP) (k : TK) (r : TR) (l s : TL) (h : TA) (post : SX → Prop), post (XS p k r l s o h w') → wX_resend_17 post (nI (4 * b + c)) (nI ((4 * b + c) * 16 + n)) (d + 1) (nI ((4 * b + c) * 16 + i)) p.1 r.1 p.2.1 p.2.2.1 p.2.2.2.1 p.2.2.2.2 k.1 k.2.1 k.2.2.1 k.2.2.2 r.2.1 r.2.2 l.1 l.2.1 l.2.2 s.1 s.2.1 s.2.2 o.1 o.2.1 o.2.2.1 o.2.2.2.1 o.2.2.2.2.1 o.2.2.2.2.2 h w.1 w.2.1 w.2.2.1 w.2.2.2.1 w.2.2.2.2.1 w.2.2.2.2.2.1 w.2.2.2.2.2.2)
      ∧ (∀ (p : TP) (k : TK) (q : TR) (l s : TL) (g m : TA) (t : T5) (post : SY → Prop), post (YS p k q l s e g m z' t) → wY_resend_9 post (nI c) (nI b) (nI (2 * c + b)) (d + 1) (nI i) p.1 q.1 t.1 t.2.1 t.2.2.1 t.2.2.2.1 t.2.2.2.2 p.2.1 p.2.2.1 p.2.2.2.1 p.2.2.2.2 k.2.2.1 k.1 k.2.1 k.2.2.2 q.2.1 q.2.2 l.1 l.2.1 l.2.2 s.2.1 s.2.2 s.1 e.2.1 e.2.2.1 e.2.2.2.1 e.2.2.2.2.1 e.2.2.2.2.2 e.1 g m z.2.1 z.2.2.1 z.2.2.2.1 z.2.2.2.2.1 z.2.2.2.2.2 z.1) := by
    intro d
    induction d with
    | zero =>
      intro i hi w z HW
      obtain rfl : i = n := by omega
      exact ⟨w, z, HW, fun p k r l s h post hp => br_t (nI_le (by omega) (by omega)) hp, fun p k q l s g m t post hp => ⟨y8, br_t (by rw [cy, a3]; exact nI_le (by omega) (by omega)) hp⟩⟩
    | succ d ih =>
      intro i hi w z HW
      obtain ⟨he, hv⟩ := a4.2 i (by omega)
      obtain ⟨⟨sn, s1, s2, hS⟩, hQ, ⟨j, j1, j2, hI⟩, hM⟩ := hv
      have h1 : o.2.1 ((4 * b + c) * 16 + i) = e.2.1 ((2 * c + b) * 16 + i) := congrArg (fun t : T5 => t.1) he
      have h2 : o.2.2.1 ((4 * b + c) * 16 + i) = e.2.2.1 ((2 * c + b) * 16 + i) := congrArg (fun t : T5 => t.2.1) he
      have h3 : o.2.2.2.1 ((4 * b + c) * 16 + i) = e.2.2.2.1 ((2 * c + b) * 16 + i) := congrArg (fun t : T5 => t.2.2.1) he
      have h4 : o.2.2.2.2.1 ((4 * b + c) * 16 + i) = e.2.2.2.2.1 ((2 * c + b) * 16 + i) := congrArg (fun t : T5 => t.2.2.2.1) he
      have h5 : o.2.2.2.2.2 ((4 * b + c) * 16 + i) = e.2.2.2.2.2 ((2 * c + b) * 16 + i) := congrArg (fun t : T5 => t.2.2.2.2) he
      have cX : (nI ((4 * b + c) * 16 + i)).toNatClampNeg = (4 * b + c) * 16 + i := nI_clamp (by omega)
      have iX : vp_in (nI ((4 * b + c) * 16 + i)) 128 := vp_in_nI (by omega) (by omega)
      have cY : (nI ((2 * c + b) * 16 + i)).toNatClampNeg = (2 * c + b) * 16 + i := nI_clamp (by omega)
      have iY : vp_in (nI ((2 * c + b) * 16 + i)) 128 := vp_in_nI (by omega) (by omega)
      have nX : ¬ nI ((4 * b + c) * 16 + n) ≤ nI ((4 * b + c) * 16 + i) := nI_ge (by omega) (by omega)
      have nY : ¬ e.1 (nI (2 * c + b)).toNatClampNeg ≤ nI i := by rw [cy, a3]; exact nI_ge (by omega) (by omega)
      have eY : nI (2 * c + b) * 16 + nI i = nI ((2 * c + b) * 16 + i) := by rw [pn_m16, nI_add]
      by_cases hst : e.2.2.2.2.2 ((2 * c + b) * 16 + i) = 1
      · obtain ⟨w1, z1, b1, b2, b3⟩ := pr_put HW hc hb (K := 1) (I := e.2.2.2.1 ((2 * c + b) * 16 + i)) (S := e.2.1 ((2 * c + b) * 16 + i)) (Q := e.2.2.1 ((2 * c + b) * 16 + i)) (M := e.2.2.2.2.1 ((2 * c + b) * 16 + i)) ⟨⟨j, j2, hI, fun _ => ⟨⟨sn, s1, s2, hS⟩, Or.inr ⟨hQ, j1⟩⟩, fun z => absurd rfl z⟩, hM⟩
        obtain ⟨w', z', c1, c2, c3⟩ := ih (i + 1) (by omega) w1 z1 b1
        refine ⟨w', z', c1, fun p k r l s h post hp => br_f nX ⟨iX, br_t (by rw [cX, h5]; exact hst) ⟨iX, iX, iX, iX, ?_⟩⟩, fun p k q l s g m t post hp => ⟨y8, br_f nY (nm_r eY ⟨iY, br_t (by rw [cY]; exact hst) ⟨iY, iY, iY, iY, ?_⟩⟩)⟩⟩
        · rw [cX, h1, h2, h3, h4]
          exact b2 p k r l s o h _ (nm_r (nI_1 _) (c2 p k r l s h post hp))
        · rw [cY, pn_yb]
          exact b3 p k q l s e g m t _ (nm_r (nI_1 _) (c3 p k q l s g m t post hp))
      · obtain ⟨w1, z1, b1, b2, b3⟩ := pr_reply HW hc hb (K := 4) (I := e.2.2.2.1 ((2 * c + b) * 16 + i)) ⟨⟨j, j2, hI, fun z => absurd z (by decide : ¬ (4 : Int32) = 1), fun _ => j1⟩, Or.inl rfl⟩
        obtain ⟨w', z', c1, c2, c3⟩ := ih (i + 1) (by omega) w1 z1 b1
        refine ⟨w', z', c1, fun p k r l s h post hp => br_f nX ⟨iX, br_f (by rw [cX, h5]; exact hst) ⟨iX, ?_⟩⟩, fun p k q l s g m t post hp => ⟨y8, br_f nY (nm_r eY ⟨iY, br_f (by rw [cY]; exact hst) ⟨iY, ?_⟩⟩)⟩⟩
        · rw [cX, h3]
          exact b2 p k r l s o h _ (nm_r (nI_1 _) (c2 p k r l s h post hp))
        · rw [cY, pn_yb]
          exact b3 p k q l s e g m t _ (nm_r (nI_1 _) (c3 p k q l s g m t post hp))
  intro w z HW
  obtain ⟨w', z', c1, c2, c3⟩ := hl n 0 (by omega) w z HW
  exact ⟨w', z', c1, fun p k r l s h post hp => nm_r (pn_m16 _) ⟨vp_in_nI (by omega) (by omega), nm_r (e' := nI ((4 * b + c) * 16 + n)) (by rw [cx, a2, nI_add]) ⟨n + 1, c2 p k r l s h post hp⟩⟩, fun p k q l s g m t post hp => nm_r (pn_yb c b) ⟨n + 1, c3 p k q l s g m t post hp⟩⟩
/-- the link is up: the shared groups -/
theorem ps_IL_up {l s : TL} (HL : ps_IL l s) {c : Nat} (hc : c < 4) (P : Int32) : ps_IL (upd l.1 c 1, upd l.2.1 c 1, upd l.2.2 c P) s := by
  intro c' hc'
  obtain ⟨a, b, n, n4, hn, hz, hq⟩ := HL c' hc'
  have one : ¬ (1 : Int32) = 0 := by decide
  by_cases hcc : c' = c
  · subst hcc
    refine ⟨fun _ => ?_, fun _ => ?_, n, n4, hn, fun x => ?_, hq⟩
    · show ¬ upd l.2.1 c' 1 c' = 0
      rw [pk_us]; exact one
    · show ¬ upd l.2.1 c' 1 c' = 0
      rw [pk_us]; exact one
    · have x' : upd l.2.1 c' 1 c' = 0 := x
      rw [pk_us] at x'
      exact absurd x' one
  · have u1 : upd l.1 c 1 c' = l.1 c' := pk_un hcc
    have u2 : upd l.2.1 c 1 c' = l.2.1 c' := pk_un hcc
    have u3 : upd l.2.2 c P c' = l.2.2 c' := pk_un hcc
    show (¬ upd l.2.2 c P c' = 0 → ¬ upd l.2.1 c 1 c' = 0) ∧ (¬ upd l.1 c 1 c' = 0 → ¬ upd l.2.1 c 1 c' = 0) ∧ ∃ n, n ≤ 4 ∧ s.1 c' = nI n ∧ (upd l.2.1 c 1 c' = 0 → n = 0) ∧ ∀ j, j < n → ps_q3 (s.2.2 (c' * 4 + j))
    rw [u1, u2, u3]
    exact ⟨a, b, n, n4, hn, hz, hq⟩
/-- the session is discarded, the link being down -/
theorem ps_IL_dis {l s : TL} (HL : ps_IL l s) {c : Nat} (hc : c < 4) (h0 : l.1 c = 0) : ps_IL (l.1, upd l.2.1 c 0, upd l.2.2 c 0) (upd s.1 c 0, s.2) := by
  intro c' hc'
  obtain ⟨a, b, n, n4, hn, hz, hq⟩ := HL c' hc'
  show (¬ upd l.2.2 c 0 c' = 0 → ¬ upd l.2.1 c 0 c' = 0) ∧ (¬ l.1 c' = 0 → ¬ upd l.2.1 c 0 c' = 0) ∧ ∃ n, n ≤ 4 ∧ upd s.1 c 0 c' = nI n ∧ (upd l.2.1 c 0 c' = 0 → n = 0) ∧ ∀ j, j < n → ps_q3 (s.2.2 (c' * 4 + j))
  by_cases hcc : c' = c
  · subst hcc
    rw [pk_us, pk_us, pk_us]
    exact ⟨fun x => absurd rfl x, fun x => absurd h0 x, 0, by omega, rfl, fun _ => rfl, fun j hj => absurd hj (by omega)⟩
  · rw [pk_un hcc, pk_un hcc, pk_un hcc]
    exact ⟨a, b, n, n4, hn, hz, hq⟩
theorem ps_IL_down {l s : TL} (HL : ps_IL l s) {c : Nat} (hc : c < 4) : ps_IL (upd l.1 c 0, l.2) s := by
  intro c' hc'
  obtain ⟨a, b, n, n4, hn, hz, hq⟩ := HL c' hc'
  refine ⟨a, fun x => ?_, n, n4, hn, hz, hq⟩
  have x' : ¬ upd l.1 c 0 c' = 0 := x
  by_cases hcc : c' = c
  · rw [hcc, pk_us] at x'
    exact absurd rfl x'
  · rw [pk_un hcc] at x'
    exact b x'
end P19
end
section
section P20
theorem px_c0 {p : TP} {k : TK} {r : TR} {l s : TL} {o : TO} {h : TA} {w : TW} {c : Nat} {B P : Int32} (hc : c < 4) (hP : (B = 0 ∧ P = 1) ∨ (¬ B = 0 ∧ P = 0)) {post : Int32 → SX → Prop}
    (hp : post 0 (XS p k r (upd l.1 c 1, upd (upd l.2.1 c 0) c 1, upd (upd l.2.2 c 0) c P) (upd s.1 c 0, s.2) (upd (upd o.1 c 0) (4 + c) 0, o.2) (ps_zr (ps_zr h (c * 17 + 1) (c * 17 + 17)) ((4 + c) * 17 + 1) ((4 + c) * 17 + 17)) w)) : wX_connect_39 post (nI c) B 0 p.1 r.1 p.2.1 p.2.2.1 p.2.2.2.1 p.2.2.2.2 k.1 k.2.1 k.2.2.1 k.2.2.2 r.2.1 r.2.2 l.1 l.2.1 l.2.2 s.1 s.2.1 s.2.2 o.1 o.2.1 o.2.2.1 o.2.2.2.1 o.2.2.2.2.1 o.2.2.2.2.2 h w.1 w.2.1 w.2.2.1 w.2.2.2.1 w.2.2.2.2.1 w.2.2.2.2.2.1 w.2.2.2.2.2.2 := by
  have cc : (nI c).toNatClampNeg = c := nI_clamp (by omega)
  have i4 : vp_in (nI c) 4 := vp_in_nI hc (by omega)
  refine br_t rfl (px_dis (p := p) (k := k) (r := r) (l := l) (s := s) (o := o) (h := h) (w := w) hc ?_)
  rcases hP with ⟨hB, rfl⟩ | ⟨hB, rfl⟩
  · exact ⟨i4, nm_r (by rw [cc, pn_b (Or.inr rfl)]) ⟨i4, nm_r (by rw [cc, pn_b (Or.inr rfl)]) (br_t hB ⟨i4, nm_r (by rw [cc, pn_b (Or.inr rfl)]) (br_t rfl hp)⟩)⟩⟩
  · exact ⟨i4, nm_r (by rw [cc, pn_b (Or.inr rfl)]) ⟨i4, nm_r (by rw [cc, pn_b (Or.inr rfl)]) (br_f hB ⟨i4, nm_r (by rw [cc, pn_b (Or.inl rfl)]) (br_t rfl hp)⟩)⟩⟩
theorem py_c0 {p : TP} {k : TK} {q : TR} {l s : TL} {e : TO} {g m : TA} {z : TO} {t : T5} {c : Nat} {B P : Int32} (hc : c < 4) (hP : (B = 0 ∧ P = 1) ∨ (¬ B = 0 ∧ P = 0)) {post : Int32 → SY → Prop}
    (hp : post 0 (YS p k q (upd l.1 c 1, upd (upd l.2.1 c 0) c 1, upd (upd l.2.2 c 0) c P) (upd s.1 c 0, s.2) (upd (upd e.1 (2 * c) 0) (2 * c + 1) 0, e.2) g (upd (upd m (2 * c) 0) (2 * c + 1) 0) z t)) : wY_connect_49 post (nI c) B 0 p.1 q.1 t.1 t.2.1 t.2.2.1 t.2.2.2.1 t.2.2.2.2 p.2.1 p.2.2.1 p.2.2.2.1 p.2.2.2.2 k.2.2.1 k.1 k.2.1 k.2.2.2 q.2.1 q.2.2 l.1 l.2.1 l.2.2 s.2.1 s.2.2 s.1 e.2.1 e.2.2.1 e.2.2.2.1 e.2.2.2.2.1 e.2.2.2.2.2 e.1 g m z.2.1 z.2.2.1 z.2.2.2.1 z.2.2.2.2.1 z.2.2.2.2.2 z.1 := by
  have cc : (nI c).toNatClampNeg = c := nI_clamp (by omega)
  have i4 : vp_in (nI c) 4 := vp_in_nI hc (by omega)
  refine br_t rfl (py_dis (p := p) (k := k) (q := q) (l := l) (s := s) (e := e) (g := g) (m := m) (z := z) (t := t) hc ?_)
  rcases hP with ⟨hB, rfl⟩ | ⟨hB, rfl⟩
  · exact ⟨i4, nm_r (by rw [cc, pn_b (Or.inr rfl)]) ⟨i4, nm_r (by rw [cc, pn_b (Or.inr rfl)]) (br_t hB ⟨i4, nm_r (by rw [cc, pn_b (Or.inr rfl)]) (br_t rfl (br_t rfl hp))⟩)⟩⟩
  · exact ⟨i4, nm_r (by rw [cc, pn_b (Or.inr rfl)]) ⟨i4, nm_r (by rw [cc, pn_b (Or.inr rfl)]) (br_f hB ⟨i4, nm_r (by rw [cc, pn_b (Or.inl rfl)]) (br_t rfl (br_t rfl hp))⟩)⟩⟩
theorem i_vc_connect {k : Nat} {u : SX} {v : SY} (I : i_Rel k u v) (hk : k + 5 ≤ 2560) (v1 : Int32) (v2 : Int32) : wpX_connect (fun r u' => wpY_connect (fun r' v' => r' = r ∧ i_Rel (k + 5) u' v') v v1 (lw_bz v2)) u v1 (lw_bz v2) := by
  have R : i_Rel (k + 5) u v := I
  obtain ⟨p, kk, r, q, l, s, o, e, h, g, m, w, z, t, rfl, rfl, HP, HL, HR, HO, HH, HW⟩ := I
  generalize lw_bz v2 = B
  unfold wpX_connect
  rcases pr_cl v1 with ⟨cX, cY⟩ | ⟨c, hc, rfl, cX, cY⟩
  · exact cX _ (br_t rfl (by unfold wpY_connect; exact cY _ _ (br_f (by decide) ⟨rfl, R⟩)))
  · have cc : (nI c).toNatClampNeg = c := nI_clamp (by omega)
    have i4 : vp_in (nI c) 4 := vp_in_nI hc (by omega)
    by_cases hl : l.1 c = 0
    · have hl' : l.1 (nI c).toNatClampNeg = 0 := by rw [cc]; exact hl
      obtain ⟨D1, D2⟩ := pr_dis HO HH hc
      -- a session made anew
      have fresh : ∀ P : Int32, (B = 0 ∧ P = 1) ∨ (¬ B = 0 ∧ P = 0) → i_Rel (k + 5) (XS p kk r (upd l.1 c 1, upd (upd l.2.1 c 0) c 1, upd (upd l.2.2 c 0) c P) (upd s.1 c 0, s.2) (upd (upd o.1 c 0) (4 + c) 0, o.2) (ps_zr (ps_zr h (c * 17 + 1) (c * 17 + 17)) ((4 + c) * 17 + 1) ((4 + c) * 17 + 17)) w) (YS p kk q (upd l.1 c 1, upd (upd l.2.1 c 0) c 1, upd (upd l.2.2 c 0) c P) (upd s.1 c 0, s.2) (upd (upd e.1 (2 * c) 0) (2 * c + 1) 0, e.2) g (upd (upd m (2 * c) 0) (2 * c + 1) 0) z t) :=
        fun P _ => ir_mk HP (ps_IL_up (ps_IL_dis HL hc hl) hc P) HR D1 D2 HW
      by_cases hB : B = 0
      · by_cases hp : l.2.2 c = 0
        · have hp' : l.2.2 (nI c).toNatClampNeg = 0 := by rw [cc]; exact hp
          refine cX _ (br_f (by decide) ⟨i4, br_t hl' (br_t hB ⟨i4, br_t hp' (px_c0 hc (Or.inl ⟨hB, rfl⟩) ?_)⟩)⟩)
          unfold wpY_connect
          have hy := py_c0 (p := p) (k := kk) (q := q) (l := l) (s := s) (e := e) (g := g) (m := m) (z := z) (t := t) hc (Or.inl ⟨hB, rfl⟩) (post := fun r' v' => r' = 0 ∧ i_Rel (k + 5) (XS p kk r (upd l.1 c 1, upd (upd l.2.1 c 0) c 1, upd (upd l.2.2 c 0) c 1) (upd s.1 c 0, s.2) (upd (upd o.1 c 0) (4 + c) 0, o.2) (ps_zr (ps_zr h (c * 17 + 1) (c * 17 + 17)) ((4 + c) * 17 + 1) ((4 + c) * 17 + 17)) w) v') ⟨rfl, fresh 1 (Or.inl ⟨hB, rfl⟩)⟩
          exact cY _ _ (br_t rfl ⟨i4, br_t hl' (br_t hB ⟨i4, br_c (fun _ => hy) fun _ => ⟨i4, br_t hp' hy⟩⟩)⟩)
        · have hp' : ¬ l.2.2 (nI c).toNatClampNeg = 0 := by rw [cc]; exact hp
          have hs' : ¬ l.2.1 (nI c).toNatClampNeg = 0 := by rw [cc]; exact (HL c hc).1 hp
          obtain ⟨w1, z1, b1, b2, b3⟩ := pr_rs HO hc (b := 0) (by omega) w z HW
          obtain ⟨w2, z2, c1, c2, c3⟩ := pr_rs HO hc (b := 1) (by omega) w1 z1 b1
          rw [show 4 * 0 + c = c by omega] at b2
          rw [show 4 * 1 + c = 4 + c by omega] at c2
          have hy : wpY_connect (fun r' v' => r' = 1 ∧ i_Rel (k + 5) (XS p kk r (upd l.1 c 1, upd l.2.1 c 1, upd l.2.2 c 1) s o h w2) v') (YS p kk q l s e g m z t) (nI c) B := by
            unfold wpY_connect
            exact cY _ _ (br_t rfl ⟨i4, br_t hl' (br_t hB ⟨i4, br_f hs' ⟨i4, br_f hp' (br_f (by decide) ⟨i4, nm_r (by rw [cc, pn_b (Or.inr rfl)]) ⟨i4, nm_r (by rw [cc, pn_b (Or.inr rfl)]) (br_t hB ⟨i4, nm_r (by rw [cc, pn_b (Or.inr rfl)]) (br_f (by decide) (b3 p kk q (upd l.1 c 1, upd l.2.1 c 1, upd l.2.2 c 1) s g m t _ (c3 p kk q (upd l.1 c 1, upd l.2.1 c 1, upd l.2.2 c 1) s g m t _ (br_f (by decide) ⟨rfl, ir_mk HP (ps_IL_up HL hc 1) HR HO HH c1⟩))))⟩)⟩⟩)⟩⟩)⟩)
          refine cX _ (br_f (by decide) ⟨i4, br_t hl' (br_t hB ⟨i4, br_f hp' (br_f (by decide) ⟨i4, nm_r (by rw [cc, pn_b (Or.inr rfl)]) ⟨i4, nm_r (by rw [cc, pn_b (Or.inr rfl)]) (br_t hB ⟨i4, nm_r (by rw [cc, pn_b (Or.inr rfl)]) (br_f (by decide) (b2 p kk r (upd l.1 c 1, upd l.2.1 c 1, upd l.2.2 c 1) s h _ ?_))⟩)⟩⟩)⟩)⟩)
          show wpX_resend _ (XS p kk r (upd l.1 c 1, upd l.2.1 c 1, upd l.2.2 c 1) s o h w1) (4 + nI c)
          rw [pn_4a]
          exact c2 p kk r (upd l.1 c 1, upd l.2.1 c 1, upd l.2.2 c 1) s h _ hy
      · refine cX _ (br_f (by decide) ⟨i4, br_t hl' (br_f hB (px_c0 hc (Or.inr ⟨hB, rfl⟩) ?_))⟩)
        unfold wpY_connect
        have hy := py_c0 (p := p) (k := kk) (q := q) (l := l) (s := s) (e := e) (g := g) (m := m) (z := z) (t := t) hc (Or.inr ⟨hB, rfl⟩) (post := fun r' v' => r' = 0 ∧ i_Rel (k + 5) (XS p kk r (upd l.1 c 1, upd (upd l.2.1 c 0) c 1, upd (upd l.2.2 c 0) c 0) (upd s.1 c 0, s.2) (upd (upd o.1 c 0) (4 + c) 0, o.2) (ps_zr (ps_zr h (c * 17 + 1) (c * 17 + 17)) ((4 + c) * 17 + 1) ((4 + c) * 17 + 17)) w) v') ⟨rfl, fresh 0 (Or.inr ⟨hB, rfl⟩)⟩
        exact cY _ _ (br_t rfl ⟨i4, br_t hl' (br_f hB hy)⟩)
    · have hl' : ¬ l.1 (nI c).toNatClampNeg = 0 := by rw [cc]; exact hl
      exact cX _ (br_f (by decide) ⟨i4, br_f hl' (by unfold wpY_connect; exact cY _ _ (br_t rfl ⟨i4, br_f hl' ⟨rfl, R⟩⟩))⟩)
theorem i_vc_disconnect {k : Nat} {u : SX} {v : SY} (I : i_Rel k u v) (hk : k + 5 ≤ 2560) (v1 : Int32) : wpX_disconnect (fun r u' => wpY_disconnect (fun r' v' => r' = r ∧ i_Rel (k + 5) u' v') v v1) u v1 := by
  have R : i_Rel (k + 5) u v := I
  obtain ⟨p, kk, r, q, l, s, o, e, h, g, m, w, z, t, rfl, rfl, HP, HL, HR, HO, HH, HW⟩ := I
  unfold wpX_disconnect
  rcases pr_cl v1 with ⟨cX, cY⟩ | ⟨c, hc, rfl, cX, cY⟩
  · unfold wpX_isLinked
    exact cX _ (br_t rfl (br_t rfl (by unfold wpY_disconnect; exact cY _ _ (br_f (by decide) ⟨rfl, R⟩))))
  · have cc : (nI c).toNatClampNeg = c := nI_clamp (by omega)
    have c4 : (4 + nI c).toNatClampNeg = 4 + c := by rw [pn_4a]; exact nI_clamp (by omega)
    have i4 : vp_in (nI c) 4 := vp_in_nI hc (by omega)
    have x0 : vp_in (nI c) 8 := vp_in_nI (by omega) (by omega)
    have x1 : vp_in (4 + nI c) 8 := by rw [pn_4a]; exact vp_in_nI (by omega) (by omega)
    have y0 : vp_in (nI c * 2) 8 := by rw [pn_m2]; exact vp_in_nI (by omega) (by omega)
    have y1 : vp_in (nI c * 2 + 1) 8 := by rw [pn_y1]; exact vp_in_nI (by omega) (by omega)
    have d0 : (nI c * 2).toNatClampNeg = 2 * c := by rw [pn_m2]; exact nI_clamp (by omega)
    have d1 : (nI c * 2 + 1).toNatClampNeg = 2 * c + 1 := by rw [pn_y1]; exact nI_clamp (by omega)
    by_cases hl : l.1 c = 0
    · exact px_li0 (p := p) (k := kk) (r := r) (l := l) (s := s) (o := o) (h := h) (w := w) hc hl (br_t rfl (by unfold wpY_disconnect; exact cY _ _ (br_t rfl ⟨i4, br_t (by rw [cc]; exact hl) ⟨rfl, R⟩⟩)))
    · have hl' : ¬ l.1 (nI c).toNatClampNeg = 0 := by rw [cc]; exact hl
      have hs' : ¬ l.2.1 (nI c).toNatClampNeg = 0 := by rw [cc]; exact (HL c hc).2.1 hl
      have W2 : ps_GW (w.1, upd (upd w.2.1 c 0) (4 + c) 0, w.2.2) (upd (upd z.1 (2 * c) 0) (2 * c + 1) 0, z.2) := ⟨ps_RW_clr HW.1 hc (fun b hb => pn_uu1 (by omega)) (fun b hb => pn_uu1 (by omega)) (fun b c' hb hc' hne => pn_uu2 (by omega) (by omega)) (fun b c' hb hc' hne => pn_uu2 (by omega) (by omega)), HW.2⟩
      have L2 := ps_IL_down HL hc
      refine px_li1 (p := p) (k := kk) (r := r) (l := l) (s := s) (o := o) (h := h) (w := w) hc hl (br_f (by decide) ⟨i4, nm_r (e' := upd l.1 c 0) (by rw [cc, pn_b (Or.inl rfl)]) ⟨x0, nm_r (e' := upd w.2.1 c 0) (by rw [cc]) ⟨x1, nm_r (e' := upd (upd w.2.1 c 0) (4 + c) 0) (by rw [c4]) ⟨i4, br_c (fun a => ?_) fun a => ?_⟩⟩⟩⟩)
      · refine px_dis (p := p) (k := kk) (r := r) (l := (upd l.1 c 0, l.2)) (s := s) (o := o) (h := h) (w := (w.1, upd (upd w.2.1 c 0) (4 + c) 0, w.2.2)) hc ?_
        obtain ⟨D1, D2⟩ := pr_dis HO HH hc
        show wpY_disconnect _ _ _
        unfold wpY_disconnect
        exact cY _ _ (br_t rfl ⟨i4, br_f hl' ⟨i4, nm_r (e' := upd l.1 c 0) (by rw [cc, pn_b (Or.inl rfl)]) ⟨y0, nm_r (e' := upd z.1 (2 * c) 0) (by rw [d0]) ⟨y1, nm_r (e' := upd (upd z.1 (2 * c) 0) (2 * c + 1) 0) (by rw [d1]) ⟨i4, br_f hs' ⟨i4, br_t a (py_dis (p := p) (k := kk) (q := q) (l := (upd l.1 c 0, l.2)) (s := s) (e := e) (g := g) (m := m) (z := (upd (upd z.1 (2 * c) 0) (2 * c + 1) 0, z.2)) (t := t) hc ⟨rfl, ir_mk HP (ps_IL_dis L2 hc pk_us) HR D1 D2 W2⟩)⟩⟩⟩⟩⟩⟩)
      · unfold wpY_disconnect
        exact cY _ _ (br_t rfl ⟨i4, br_f hl' ⟨i4, nm_r (e' := upd l.1 c 0) (by rw [cc, pn_b (Or.inl rfl)]) ⟨y0, nm_r (e' := upd z.1 (2 * c) 0) (by rw [d0]) ⟨y1, nm_r (e' := upd (upd z.1 (2 * c) 0) (2 * c + 1) 0) (by rw [d1]) ⟨i4, br_f hs' ⟨i4, br_f a ⟨rfl, ir_mk (l := (upd l.1 c 0, l.2)) (w := (w.1, upd (upd w.2.1 c 0) (4 + c) 0, w.2.2)) (z := (upd (upd z.1 (2 * c) 0) (2 * c + 1) 0, z.2)) HP L2 HR HO HH W2⟩⟩⟩⟩⟩⟩⟩)
end P20
end
section
section P21
theorem pk_tn {n : Nat} (h : n < 2 ^ 32) : (nI n).toBitVec.toNat = n := Nat.mod_eq_of_lt h
theorem pk_and (x : Int32) {m : Int32} (k : Nat) (hm : m.toBitVec.toNat = 2 ^ k - 1) : x &&& m = nI (x.toBitVec.toNat % 2 ^ k) := by
  apply Int32.toBitVec_inj.mp
  apply BitVec.eq_of_toNat_eq
  rw [Int32.toBitVec_and, BitVec.toNat_and, hm, Nat.and_two_pow_sub_one_eq_mod]
  show _ = (BitVec.ofNat 32 _).toNat
  rw [BitVec.toNat_ofNat]
  exact (Nat.mod_eq_of_lt (Nat.lt_of_le_of_lt (Nat.mod_le _ _) x.toBitVec.isLt)).symm
theorem pk_andE (x : Int32) {m : Int32} (k : Nat) (hm : m.toBitVec.toNat = 2 ^ k - 1) : ∃ j : Nat, j < 2 ^ k ∧ x &&& m = nI j := ⟨_, Nat.mod_lt _ (Nat.two_pow_pos k), pk_and x k hm⟩
theorem ps_IP_put {p : TP} (HP : ps_IP p) {n tn : Nat} {P Q Z : Int32} (hn : n < 24) (ht : tn < 4096) (hQ : ps_q3 Q) : ps_IP (nI (n + 1), upd p.2.1 (n + 1) (nI tn), upd p.2.2.1 (n + 1) P, upd p.2.2.2.1 (n + 1) Q, upd p.2.2.2.2 (n + 1) Z) := by
  obtain ⟨_, _, _, H⟩ := HP
  refine ⟨n + 1, by omega, rfl, fun i => ?_⟩
  show (∃ t, t < 4096 ∧ upd p.2.1 (n + 1) (nI tn) i = nI t) ∧ ps_q3 (upd p.2.2.2.1 (n + 1) Q i)
  by_cases e : i = n + 1
  · rw [e, pk_us, pk_us]
    exact ⟨⟨tn, ht, rfl⟩, hQ⟩
  · rw [pk_un e, pk_un e]
    exact H i
/-- an accepted publish -/
theorem pr_p86 {p : TP} (HP : ps_IP p) {o e : TO} {w : TW} {z : TO} (HO : ps_GO o e) (HW : ps_GW w z) {c n tn : Nat} (hc : c < 4) (hn : p.1 = nI n) (n24 : n < 24) (ht : tn < 4096) {P F Q : Int32} (hQ : ps_q3 Q) (hf : ¬ Q = 0 → ∃ a, a < 4 ∧ o.1 c = nI a) : ∃ (p' : TP) (o' e' : TO) (w' : TW) (z' : TO), ps_IP p' ∧ ps_GO o' e' ∧ ps_GW w' z'
    ∧ (∀ (k : TK) (r : TR) (l s : TL) (h : TA) (post : Int32 → SX → Prop), post (nI (n + 1)) (XS p' k r l s o' h w') → wX_publish_86 post (nI c) (nI tn) P F Q p.1 r.1 p.2.1 p.2.2.1 p.2.2.2.1 p.2.2.2.2 k.1 k.2.1 k.2.2.1 k.2.2.2 r.2.1 r.2.2 l.1 l.2.1 l.2.2 s.1 s.2.1 s.2.2 o.1 o.2.1 o.2.2.1 o.2.2.2.1 o.2.2.2.2.1 o.2.2.2.2.2 h w.1 w.2.1 w.2.2.1 w.2.2.2.1 w.2.2.2.2.1 w.2.2.2.2.2.1 w.2.2.2.2.2.2)
    ∧ (∀ (k : TK) (q : TR) (l s : TL) (g m : TA) (t : T5) (post : Int32 → SY → Prop), post (nI (n + 1)) (YS p' k q l s e' g m z' t) → wY_publish_92 post (nI c) (nI tn) P F Q p.1 q.1 t.1 t.2.1 t.2.2.1 t.2.2.2.1 t.2.2.2.2 p.2.1 p.2.2.1 p.2.2.2.1 p.2.2.2.2 k.2.2.1 k.1 k.2.1 k.2.2.2 q.2.1 q.2.2 l.1 l.2.1 l.2.2 s.2.1 s.2.2 s.1 e.2.1 e.2.2.1 e.2.2.2.1 e.2.2.2.2.1 e.2.2.2.2.2 e.1 g m z.2.1 z.2.2.1 z.2.2.2.1 z.2.2.2.2.1 z.2.2.2.2.2 z.1) := by
  have i25 : vp_in (nI (n + 1)) 25 := vp_in_nI (by omega) (by omega)
  have cs : (nI (n + 1)).toNatClampNeg = n + 1 := nI_clamp (by omega)
  have en : p.1 + 1 = nI (n + 1) := by rw [hn, nI_1]
  have e0 : 4 * 0 + c = c := by omega
  have yb : nI c * 2 = nI (2 * c + 0) := pn_m2 c
  have hZ : ∃ Z : Int32, (Z = 0 ∨ Z = 1) ∧ ((F &&& 4 = 0 ∧ Z = 0) ∨ (¬ F &&& 4 = 0 ∧ Z = 1)) := by
    by_cases h4 : F &&& 4 = 0
    · exact ⟨0, Or.inl rfl, Or.inl ⟨h4, rfl⟩⟩
    · exact ⟨1, Or.inr rfl, Or.inr ⟨h4, rfl⟩⟩
  obtain ⟨Z, hZ1, hZ2⟩ := hZ
  have HP' := ps_IP_put HP (P := P) (Z := Z) n24 ht hQ
  -- up to the retain flag, at both sides
  have hX : ∀ (k : TK) (r : TR) (l s : TL) (h : TA) (post : Int32 → SX → Prop), ((Q < 1 → wX_publish_167 post (nI c) Q (nI (n + 1)) 0 ((nI (n + 1), upd p.2.1 (n + 1) (nI tn), upd p.2.2.1 (n + 1) P, upd p.2.2.2.1 (n + 1) Q, upd p.2.2.2.2 (n + 1) Z).1) r.1 ((nI (n + 1), upd p.2.1 (n + 1) (nI tn), upd p.2.2.1 (n + 1) P, upd p.2.2.2.1 (n + 1) Q, upd p.2.2.2.2 (n + 1) Z).2.1) ((nI (n + 1), upd p.2.1 (n + 1) (nI tn), upd p.2.2.1 (n + 1) P, upd p.2.2.2.1 (n + 1) Q, upd p.2.2.2.2 (n + 1) Z).2.2.1) ((nI (n + 1), upd p.2.1 (n + 1) (nI tn), upd p.2.2.1 (n + 1) P, upd p.2.2.2.1 (n + 1) Q, upd p.2.2.2.2 (n + 1) Z).2.2.2.1) ((nI (n + 1), upd p.2.1 (n + 1) (nI tn), upd p.2.2.1 (n + 1) P, upd p.2.2.2.1 (n + 1) Q, upd p.2.2.2.2 (n + 1) Z).2.2.2.2) k.1 k.2.1 k.2.2.1 k.2.2.2 r.2.1 r.2.2 l.1 l.2.1 l.2.2 s.1 s.2.1 s.2.2 o.1 o.2.1 o.2.2.1 o.2.2.2.1 o.2.2.2.2.1 o.2.2.2.2.2 h w.1 w.2.1 w.2.2.1 w.2.2.2.1 w.2.2.2.2.1 w.2.2.2.2.2.1 w.2.2.2.2.2.2) ∧ (¬ Q < 1 → wpX_appendEntry (fun i u => match u with | (f1, f2, a1, a2, a3, a4, a5, a6, a7, a8, a9, a10, a11, a12, a13, a14, a15, a16, a17, a18, a19, a20, a21, a22, a23, a24, a25, a26, a27, a28, a29, a30) => wX_publish_167 post (nI c) Q (nI (n + 1)) i f1 f2 a1 a2 a3 a4 a5 a6 a7 a8 a9 a10 a11 a12 a13 a14 a15 a16 a17 a18 a19 a20 a21 a22 a23 a24 a25 a26 a27 a28 a29 a30) (XS (nI (n + 1), upd p.2.1 (n + 1) (nI tn), upd p.2.2.1 (n + 1) P, upd p.2.2.2.1 (n + 1) Q, upd p.2.2.2.2 (n + 1) Z) k r l s o h w) (nI c) (nI (n + 1)) Q 0)) → wX_publish_86 post (nI c) (nI tn) P F Q p.1 r.1 p.2.1 p.2.2.1 p.2.2.2.1 p.2.2.2.2 k.1 k.2.1 k.2.2.1 k.2.2.2 r.2.1 r.2.2 l.1 l.2.1 l.2.2 s.1 s.2.1 s.2.2 o.1 o.2.1 o.2.2.1 o.2.2.2.1 o.2.2.2.2.1 o.2.2.2.2.2 h w.1 w.2.1 w.2.2.1 w.2.2.2.1 w.2.2.2.2.1 w.2.2.2.2.2.1 w.2.2.2.2.2.2 := by
    intro k r l s h post hp
    have h145 : wX_publish_145 post (nI c) Q (nI (n + 1)) Z (nI (n + 1)) (nI (n + 1)) r.1 (upd p.2.1 (n + 1) (nI tn)) (upd p.2.2.1 (n + 1) P) (upd p.2.2.2.1 (n + 1) Q) p.2.2.2.2 k.1 k.2.1 k.2.2.1 k.2.2.2 r.2.1 r.2.2 l.1 l.2.1 l.2.2 s.1 s.2.1 s.2.2 o.1 o.2.1 o.2.2.1 o.2.2.2.1 o.2.2.2.2.1 o.2.2.2.2.2 h w.1 w.2.1 w.2.2.1 w.2.2.2.1 w.2.2.2.2.1 w.2.2.2.2.2.1 w.2.2.2.2.2.2 := ⟨i25, nm_r (by rw [cs, pn_b hZ1]) hp⟩
    refine nm_r en ⟨i25, nm_r (by rw [cs]) ⟨i25, nm_r (by rw [cs]) ⟨i25, nm_r (by rw [cs]) ?_⟩⟩⟩
    rcases hZ2 with ⟨h4, rfl⟩ | ⟨h4, rfl⟩
    · exact br_t h4 h145
    · exact br_f h4 h145
  have hY : ∀ (k : TK) (q : TR) (l s : TL) (g m : TA) (t : T5) (post : Int32 → SY → Prop), ((Q = 0 → wpY_put (fun u => post (nI (n + 1)) u) (YS (nI (n + 1), upd p.2.1 (n + 1) (nI tn), upd p.2.2.1 (n + 1) P, upd p.2.2.2.1 (n + 1) Q, upd p.2.2.2.2 (n + 1) Z) k q l s e g m z t) (nI c * 2) 1 0 (nI (n + 1)) 0 0) ∧ (¬ Q = 0 → wpY_addEntry (fun i u => wpY_put (fun u => post (nI (n + 1)) u) u (nI c * 2) 1 i (nI (n + 1)) Q 0) (YS (nI (n + 1), upd p.2.1 (n + 1) (nI tn), upd p.2.2.1 (n + 1) P, upd p.2.2.2.1 (n + 1) Q, upd p.2.2.2.2 (n + 1) Z) k q l s e g m z t) (nI c * 2) (nI (n + 1)) Q 0)) → wY_publish_92 post (nI c) (nI tn) P F Q p.1 q.1 t.1 t.2.1 t.2.2.1 t.2.2.2.1 t.2.2.2.2 p.2.1 p.2.2.1 p.2.2.2.1 p.2.2.2.2 k.2.2.1 k.1 k.2.1 k.2.2.2 q.2.1 q.2.2 l.1 l.2.1 l.2.2 s.2.1 s.2.2 s.1 e.2.1 e.2.2.1 e.2.2.2.1 e.2.2.2.2.1 e.2.2.2.2.2 e.1 g m z.2.1 z.2.2.1 z.2.2.2.1 z.2.2.2.2.1 z.2.2.2.2.2 z.1 := by
    intro k q l s g m t post hp
    have h151 : wY_publish_151 post (nI c) Q (nI (n + 1)) Z (nI (n + 1)) (nI (n + 1)) q.1 t.1 t.2.1 t.2.2.1 t.2.2.2.1 t.2.2.2.2 (upd p.2.1 (n + 1) (nI tn)) (upd p.2.2.1 (n + 1) P) (upd p.2.2.2.1 (n + 1) Q) p.2.2.2.2 k.2.2.1 k.1 k.2.1 k.2.2.2 q.2.1 q.2.2 l.1 l.2.1 l.2.2 s.2.1 s.2.2 s.1 e.2.1 e.2.2.1 e.2.2.2.1 e.2.2.2.2.1 e.2.2.2.2.2 e.1 g m z.2.1 z.2.2.1 z.2.2.2.1 z.2.2.2.2.1 z.2.2.2.2.2 z.1 := ⟨i25, nm_r (by rw [cs, pn_b hZ1]) hp⟩
    refine nm_r en ⟨i25, nm_r (by rw [cs]) ⟨i25, nm_r (by rw [cs]) ⟨i25, nm_r (by rw [cs]) ?_⟩⟩⟩
    rcases hZ2 with ⟨h4, rfl⟩ | ⟨h4, rfl⟩
    · exact br_t h4 h151
    · exact br_f h4 h151
  by_cases q0 : Q = 0
  · subst q0
    obtain ⟨w', z', a1, a2, a3⟩ := pr_put HW hc (b := 0) (by omega) (K := 1) (I := 0) (S := nI (n + 1)) (Q := 0) (M := 0) ⟨⟨0, by omega, rfl, fun _ => ⟨⟨n + 1, by omega, by omega, rfl⟩, Or.inl rfl⟩, fun h => absurd rfl h⟩, Or.inl rfl⟩
    rw [e0] at a2
    exact ⟨_, o, e, w', z', HP', HO, a1, fun k r l s h post hp => hX k r l s h post (br_t (by decide) (a2 _ k r l s o h _ hp)), fun k q l s g m t post hp => hY k q l s g m t post (br_t rfl (by rw [yb]; exact a3 _ k q l s e g m t _ hp))⟩
  · obtain ⟨a, a4, ha⟩ := hf q0
    have hQ2 : Q = 1 ∨ Q = 2 := by
      rcases hQ with h | h | h
      · exact absurd h q0
      · exact Or.inl h
      · exact Or.inr h
    have hlt : ¬ Q < 1 := by
      rcases hQ2 with h | h <;> rw [h] <;> decide
    obtain ⟨o', e', i, i1, i2, c1, c2, c3⟩ := pr_add HO hc (b := 0) (by omega) (by rw [e0]; exact ha) (fun _ => a4) (by omega) (S := nI (n + 1)) (Q := Q) (M := 0) ⟨n + 1, by omega, by omega, rfl⟩ hQ2 (Or.inl rfl)
    obtain ⟨w', z', a1, a2, a3⟩ := pr_put HW hc (b := 0) (by omega) (K := 1) (I := nI i) (S := nI (n + 1)) (Q := Q) (M := 0) ⟨⟨i, i2, rfl, fun _ => ⟨⟨n + 1, by omega, by omega, rfl⟩, Or.inr ⟨hQ2, i1⟩⟩, fun h => absurd rfl h⟩, Or.inl rfl⟩
    rw [e0] at a2 c2
    exact ⟨_, o', e', w', z', HP', c1, a1, fun k r l s h post hp => hX k r l s h post (br_f hlt (c2 _ k r l s h w _ (a2 _ k r l s o' h _ hp))), fun k q l s g m t post hp => hY k q l s g m t post (br_f q0 (by rw [yb]; exact c3 _ k q l s g m z t _ (a3 _ k q l s e' g m t _ hp)))⟩
theorem i_vc_publish {k : Nat} {u : SX} {v : SY} (I : i_Rel k u v) (hk : k + 5 ≤ 2560) (v1 : Int32) (v2 : Int32) (v3 : Int32) (v4 : Int32) : wpX_publish (fun r u' => wpY_publish (fun r' v' => r' = r ∧ i_Rel (k + 5) u' v') v v1 v2 v3 v4) u v1 v2 v3 v4 := by
  have R : i_Rel (k + 5) u v := I
  obtain ⟨p, kk, r, q, l, s, o, e, h, g, m, w, z, t, rfl, rfl, HP, HL, HR, HO, HH, HW⟩ := I
  unfold wpX_publish
  rcases pr_cl v1 with ⟨cX, cY⟩ | ⟨c, hc, rfl, cX, cY⟩
  · exact cX _ (br_t rfl (by unfold wpY_publish; exact cY _ _ (br_f (by decide) ⟨rfl, R⟩)))
  · have cc : (nI c).toNatClampNeg = c := nI_clamp (by omega)
    have i4 : vp_in (nI c) 4 := vp_in_nI hc (by omega)
    have x0 : vp_in (nI c) 8 := vp_in_nI (by omega) (by omega)
    have y0 : vp_in (nI c * 2) 8 := by rw [pn_m2]; exact vp_in_nI (by omega) (by omega)
    have d0 : (nI c * 2).toNatClampNeg = 2 * c + 0 := by rw [pn_m2]; exact nI_clamp (by omega)
    have e0 : 4 * 0 + c = c := by omega
    by_cases hl : l.1 c = 0
    · have hl' : l.1 (nI c).toNatClampNeg = 0 := by rw [cc]; exact hl
      exact cX _ (br_f (by decide) ⟨i4, br_t hl' (by unfold wpY_publish; exact cY _ _ (br_t rfl ⟨i4, br_t hl' ⟨rfl, R⟩⟩))⟩)
    · have hl' : ¬ l.1 (nI c).toNatClampNeg = 0 := by rw [cc]; exact hl
      obtain ⟨T, hT, tX, tY⟩ := pr_tp v2
      rcases hT with rfl | ⟨rfl, tn, ht, rfl⟩
      · exact cX _ (br_f (by decide) ⟨i4, br_f hl' (nm_e (tX _ (br_t rfl (by unfold wpY_publish; exact cY _ _ (br_t rfl ⟨i4, br_f hl' (tY p kk q l s e g m z t _ (br_t rfl ⟨rfl, R⟩))⟩)))))⟩)
      · by_cases f0 : v4 < 0
        · exact cX _ (br_f (by decide) ⟨i4, br_f hl' (nm_e (tX _ (br_f (by decide) (br_t f0 (by unfold wpY_publish; exact cY _ _ (br_t rfl ⟨i4, br_f hl' (tY p kk q l s e g m z t _ (br_f (by decide) (br_t f0 ⟨rfl, R⟩)))⟩))))))⟩)
        · by_cases f6 : 6 < v4
          · exact cX _ (br_f (by decide) ⟨i4, br_f hl' (nm_e (tX _ (br_f (by decide) (br_f f0 (br_t f6 (by unfold wpY_publish; exact cY _ _ (br_t rfl ⟨i4, br_f hl' (tY p kk q l s e g m z t _ (br_f (by decide) (br_f f0 (br_t f6 ⟨rfl, R⟩))))⟩)))))))⟩)
          · by_cases f3 : v4 &&& 3 = 3
            · exact cX _ (br_f (by decide) ⟨i4, br_f hl' (nm_e (tX _ (br_f (by decide) (br_f f0 (br_f f6 (br_t f3 (by unfold wpY_publish; exact cY _ _ (br_t rfl ⟨i4, br_f hl' (tY p kk q l s e g m z t _ (br_f (by decide) (br_f f0 (br_f f6 (br_t f3 ⟨rfl, R⟩)))))⟩))))))))⟩)
            · have hQ : ps_q3 (v4 &&& 3) := by
                obtain ⟨j, hj, ej⟩ := pk_andE v4 (m := 3) 2 (by decide)
                rw [ej] at f3 ⊢
                have h4 : j = 0 ∨ j = 1 ∨ j = 2 ∨ j = 3 := by omega
                rcases h4 with rfl | rfl | rfl | rfl
                · exact Or.inl rfl
                · exact Or.inr (Or.inl rfl)
                · exact Or.inr (Or.inr rfl)
                · exact absurd rfl f3
              generalize hQe : v4 &&& 3 = Q at hQ f3
              obtain ⟨n, n24, hn, HPa⟩ := id HP
              by_cases hfull : n = 24
              · subst hfull
                have hx : p.1 = 24 := hn
                have hy : ¬ p.1 < 24 := by rw [hx]; decide
                exact cX _ (br_f (by decide) ⟨i4, br_f hl' (nm_e (tX _ (br_f (by decide) (br_f f0 (br_f f6 (br_f f3 (br_t hx (by unfold wpY_publish; exact cY _ _ (br_t rfl ⟨i4, br_f hl' (tY p kk q l s e g m z t _ (br_f (by decide) (br_f f0 (br_f f6 (br_f (by rw [hQe]; exact f3) (br_f hy ⟨rfl, R⟩))))))⟩)))))))))⟩)
              · have hx : ¬ p.1 = 24 := by
                  rw [hn]
                  intro x
                  have := (nI_eq (b := 24) (by omega) (by omega)).mp x
                  omega
                have hy : p.1 < 24 := by rw [hn]; exact nI_lt (b := 24) (by omega) (by omega)
                obtain ⟨a, a4, a1, a2, _⟩ := HO.1 c 0 hc (by omega)
                have a4' := a4 rfl
                rw [e0] at a1
                -- what is left of Y's walk, its last branch given
                have hYY : ∀ (post : Int32 → SY → Prop), (((Q < 1 → wY_publish_92 post (nI c) (nI tn) v3 v4 Q p.1 q.1 t.1 t.2.1 t.2.2.1 t.2.2.2.1 t.2.2.2.2 p.2.1 p.2.2.1 p.2.2.2.1 p.2.2.2.2 kk.2.2.1 kk.1 kk.2.1 kk.2.2.2 q.2.1 q.2.2 l.1 l.2.1 l.2.2 s.2.1 s.2.2 s.1 e.2.1 e.2.2.1 e.2.2.2.1 e.2.2.2.2.1 e.2.2.2.2.2 e.1 g m z.2.1 z.2.2.1 z.2.2.2.1 z.2.2.2.2.1 z.2.2.2.2.2 z.1) ∧ (¬ Q < 1 → (vp_in (nI c * 2) 8 ∧ ((e.1 (nI c * 2).toNatClampNeg < 4 → wY_publish_92 post (nI c) (nI tn) v3 v4 Q p.1 q.1 t.1 t.2.1 t.2.2.1 t.2.2.2.1 t.2.2.2.2 p.2.1 p.2.2.1 p.2.2.2.1 p.2.2.2.2 kk.2.2.1 kk.1 kk.2.1 kk.2.2.2 q.2.1 q.2.2 l.1 l.2.1 l.2.2 s.2.1 s.2.2 s.1 e.2.1 e.2.2.1 e.2.2.2.1 e.2.2.2.2.1 e.2.2.2.2.2 e.1 g m z.2.1 z.2.2.1 z.2.2.2.1 z.2.2.2.2.1 z.2.2.2.2.2 z.1) ∧ (¬ e.1 (nI c * 2).toNatClampNeg < 4 → post (-5) (YS p kk q l s e g m z t))))))) → wpY_publish post (YS p kk q l s e g m z t) (nI c) (nI tn) v3 v4 := by
                  intro post hp
                  unfold wpY_publish
                  exact cY _ _ (br_t rfl ⟨i4, br_f hl' (tY p kk q l s e g m z t _ (br_f (by decide) (br_f f0 (br_f f6 (br_f (by rw [hQe]; exact f3) (br_t hy (nm_r hQe hp)))))))⟩)
                by_cases hcap : ¬ Q < 1 ∧ a = 4
                · obtain ⟨hq1, rfl⟩ := hcap
                  exact cX _ (br_f (by decide) ⟨i4, br_f hl' (nm_e (tX _ (br_f (by decide) (br_f f0 (br_f f6 (br_f f3 (br_f hx (br_f hq1 ⟨x0, br_t (by rw [cc, a1]; rfl) (hYY _ (br_f hq1 ⟨y0, br_f (by rw [d0, a2]; decide) ⟨rfl, R⟩⟩))⟩))))))))⟩)
                · obtain ⟨p', o', e', w', z', P1, P2, P3, pX, pY⟩ := pr_p86 HP HO HW (P := v3) (F := v4) hc hn (by omega) ht hQ (fun hne => ⟨a, by
                    have : ¬ Q < 1 := by
                      rcases hQ with h | h | h
                      · exact absurd h hne
                      · rw [h]; decide
                      · rw [h]; decide
                    have h2 : a ≠ 4 := fun h => hcap ⟨this, h⟩
                    omega, a1⟩)
                  have hend : wpY_publish (fun r' v' => r' = nI (n + 1) ∧ i_Rel (k + 5) (XS p' kk r l s o' h w') v') (YS p kk q l s e g m z t) (nI c) (nI tn) v3 v4 := by
                    have hy92 := pY kk q l s g m t (fun r' v' => r' = nI (n + 1) ∧ i_Rel (k + 5) (XS p' kk r l s o' h w') v') ⟨rfl, ir_mk P1 HL HR P2 HH P3⟩
                    refine hYY _ (br_c (fun _ => hy92) fun hq1 => ⟨y0, br_t ?_ hy92⟩)
                    rw [d0, a2]
                    exact nI_lt (b := 4) (by have h2 : a ≠ 4 := fun h => hcap ⟨hq1, h⟩; omega) (by omega)
                  have hx86 := pX kk r l s h (fun r u' => wpY_publish (fun r' v' => r' = r ∧ i_Rel (k + 5) u' v') (YS p kk q l s e g m z t) (nI c) (nI tn) v3 v4) hend
                  refine cX _ (br_f (by decide) ⟨i4, br_f hl' (nm_e (tX _ (br_f (by decide) (br_f f0 (br_f f6 (br_f f3 (br_f hx (br_c (fun _ => hx86) fun hq1 => ⟨x0, br_f ?_ hx86⟩))))))))⟩)
                  rw [cc, a1]
                  intro x
                  have := (nI_eq (b := 4) (by omega) (by omega)).mp x
                  exact hcap ⟨hq1, this⟩
end P21
end
section
section P22
theorem pn_next {x : Int32} {a : Nat} (hx : ∃ b, b < 4096 ∧ x = nI b) (ha : a < 4096) (h : nI a < x) : nI (a + 1) ≤ x := by
  obtain ⟨b, hb, rfl⟩ := hx
  have := (nI_ltI (by omega) (by omega)).mp h
  exact nI_le (by omega) (by omega)
/-- the retained entries sent: X by its places, Y by the topic codes -/
theorem pr_sr {p : TP} (HP : ps_IP p) {l s : TL} {r q : TR} {n c : Nat} (e1 : r.1 = nI n) (e2 : q.1 = nI n) (hR : ps_R n r.2.1 r.2.2 q.2.1 q.2.2) (hc : c < 4) (F Qs : Int32) (hQs : ps_q3 Qs) :
    ∀ d a, a + d = 4096 → ∀ (i : Nat) (cnt : Int32) (k : TK) (o e : TO) (w : TW) (z : TO), i ≤ n → (∀ j, j < i → r.2.1 j < nI a) → (∀ j, i ≤ j → j < n → nI a ≤ r.2.1 j) → ps_GO o e → ps_GW w z → ∃ (N : Int32) (k' : TK) (o' e' : TO) (w' : TW) (z' : TO), ps_GO o' e' ∧ ps_GW w' z'
      ∧ (∀ (h : TA) (post : Int32 → SX → Prop), post N (XS p k' r l s o' h w') → wX_sendRetained_6 post (nI c) F Qs (n - i + 1) cnt (nI i) p.1 r.1 p.2.1 p.2.2.1 p.2.2.2.1 p.2.2.2.2 k.1 k.2.1 k.2.2.1 k.2.2.2 r.2.1 r.2.2 l.1 l.2.1 l.2.2 s.1 s.2.1 s.2.2 o.1 o.2.1 o.2.2.1 o.2.2.2.1 o.2.2.2.2.1 o.2.2.2.2.2 h w.1 w.2.1 w.2.2.1 w.2.2.2.1 w.2.2.2.2.1 w.2.2.2.2.2.1 w.2.2.2.2.2.2)
      ∧ (∀ (g m : TA) (t : T5) (post : Int32 → SY → Prop), post N (YS p k' q l s e' g m z' t) → wY_subscribe_136 post (nI c) F Qs (d + 1) cnt (nI a) p.1 q.1 t.1 t.2.1 t.2.2.1 t.2.2.2.1 t.2.2.2.2 p.2.1 p.2.2.1 p.2.2.2.1 p.2.2.2.2 k.2.2.1 k.1 k.2.1 k.2.2.2 q.2.1 q.2.2 l.1 l.2.1 l.2.2 s.2.1 s.2.2 s.1 e.2.1 e.2.2.1 e.2.2.2.1 e.2.2.2.2.1 e.2.2.2.2.2 e.1 g m z.2.1 z.2.2.1 z.2.2.2.1 z.2.2.2.2.1 z.2.2.2.2.2 z.1) := by
  have n8 := hR.1
  obtain ⟨_, _, _, HPa⟩ := id HP
  intro d
  induction d with
  | zero =>
    intro a ha i cnt k o e w z hi hlo hhi HO HW
    obtain rfl : a = 4096 := by omega
    have hin : i = n := by
      apply Classical.byContradiction
      intro hx
      obtain ⟨t, ht, et⟩ := hR.2.1 i (by omega)
      have := hhi i (Nat.le_refl i) (by omega)
      rw [et, nI_leI (by omega) (by omega)] at this
      omega
    subst hin
    refine ⟨cnt, k, o, e, w, z, HO, HW, fun h post hp => ?_, fun g m t post hp => br_t (by decide) hp⟩
    rw [Nat.sub_self]
    exact br_t (by rw [e1]; exact nI_le (by omega) (by omega)) hp
  | succ d ih =>
    intro a ha i cnt k o e w z hi hlo hhi HO HW
    have hY : ¬ (4095 : Int32) < nI a := nI_nlt (a := 4095) (by omega) (by omega)
    obtain ⟨j, FF⟩ := ps_F_ex q.2.1 0 (nI a) n
    have hj := FF.1
    have hnx : nI a < nI (a + 1) := nI_lt (by omega) (by omega)
    have hlo' : ∀ j, j < i → r.2.1 j < nI (a + 1) := fun j hj => Int32.lt_trans (hlo j hj) hnx
    rcases ps_pres hR hi hlo hhi FF with ⟨hlt, he, hjn, hs⟩ | ⟨hno, hjn⟩
    · have hlo2 : ∀ j, j < i + 1 → r.2.1 j < nI (a + 1) := by
        intro j hj
        by_cases x : j = i
        · rw [x, he]; exact hnx
        · exact hlo' j (by omega)
      have hhi2 : ∀ j, i + 1 ≤ j → j < n → nI (a + 1) ≤ r.2.1 j := by
        intro j h1 h2
        have h3 := hR.2.2.2.1 i j (by omega) h2
        rw [he] at h3
        exact pn_next (hR.2.1 j h2) (by omega) h3
      have ci : (nI i).toNatClampNeg = i := nI_clamp (by omega)
      have cj : (nI j).toNatClampNeg = j := nI_clamp (by omega)
      have i8 : vp_in (nI i) 8 := vp_in_nI (by omega) (by omega)
      have j8 : vp_in (nI j) 8 := vp_in_nI (by omega) (by omega)
      have hX : ¬ r.1 ≤ nI i := by rw [e1]; exact nI_ge (by omega) (by omega)
      have jp : ¬ nI j < 0 := nI_pos (by omega)
      have hti : r.2.1 (nI i).toNatClampNeg = nI a := by rw [ci]; exact he
      have hfu : n - i + 1 = (n - (i + 1) + 1) + 1 := by omega
      obtain ⟨V, hV, mX, mY⟩ := pr_ma F (nI a)
      by_cases hV0 : V = 0
      · obtain ⟨N, k', o', e', w', z', c1, c2, c3, c4⟩ := ih (a + 1) (by omega) (i + 1) cnt k o e w z (by omega) hlo2 hhi2 HO HW
        refine ⟨N, k', o', e', w', z', c1, c2, fun h post hp => ?_, fun g m t post hp => br_f hY (py_fr (p := p) (k := k) (q := q) (l := l) (s := s) (e := e) (g := g) (m := m) (z := z) (t := t) e2 n8 FF (fun _ => br_f jp (mY p k q l s e g m z t _ (br_t hV0 (nm_r (nI_1 _) (c4 g m t post hp))))) (fun x => absurd x (by omega)))⟩
        rw [hfu]
        exact br_f hX ⟨i8, by rw [hti]; exact mX _ (br_t hV0 (nm_r (nI_1 _) (c3 h post hp)))⟩
      · obtain ⟨sn, s1, s2, hsn⟩ := hR.2.2.1 i hlt
        have cs : (nI sn).toNatClampNeg = sn := nI_clamp (by omega)
        have i25 : vp_in (nI sn) 25 := vp_in_nI (by omega) (by omega)
        by_cases hle : Qs ≤ p.2.2.2.1 (nI sn).toNatClampNeg
        · obtain ⟨k1, o1, e1', w1, z1, b1, b2, b3, b4⟩ := pr_send (k := k) (l := l) HO HW hc s1 s2 hQs (M := 1) (Or.inr rfl)
          obtain ⟨N, k', o', e', w', z', c1, c2, c3, c4⟩ := ih (a + 1) (by omega) (i + 1) (cnt + 1) k1 o1 e1' w1 z1 (by omega) hlo2 hhi2 b1 b2
          refine ⟨N, k', o', e', w', z', c1, c2, fun h post hp => ?_, fun g m t post hp => br_f hY (py_fr (p := p) (k := k) (q := q) (l := l) (s := s) (e := e) (g := g) (m := m) (z := z) (t := t) e2 n8 FF (fun _ => br_f jp (mY p k q l s e g m z t _ (br_f hV0 ⟨j8, nm_r (e' := nI sn) (by rw [cj, ← hs, hsn]) (nm_e ⟨i25, br_t hle (b4 p q s g m t _ (nm_r (nI_1 _) (c4 g m t post hp)))⟩)⟩))) (fun x => absurd x (by omega)))⟩
          rw [hfu]
          refine br_f hX ⟨i8, ?_⟩
          rw [hti]
          exact mX _ (br_f hV0 ⟨i8, nm_r (e' := nI sn) (by rw [ci, hsn]) ⟨i25, br_t hle (b3 p r s h _ (nm_e (nm_r (nI_1 _) (c3 h post hp))))⟩⟩)
        · have hq3 : ps_q3 (p.2.2.2.1 (nI sn).toNatClampNeg) := (HPa _).2
          obtain ⟨k1, o1, e1', w1, z1, b1, b2, b3, b4⟩ := pr_send (k := k) (l := l) HO HW hc s1 s2 hq3 (M := 1) (Or.inr rfl)
          obtain ⟨N, k', o', e', w', z', c1, c2, c3, c4⟩ := ih (a + 1) (by omega) (i + 1) (cnt + 1) k1 o1 e1' w1 z1 (by omega) hlo2 hhi2 b1 b2
          refine ⟨N, k', o', e', w', z', c1, c2, fun h post hp => ?_, fun g m t post hp => br_f hY (py_fr (p := p) (k := k) (q := q) (l := l) (s := s) (e := e) (g := g) (m := m) (z := z) (t := t) e2 n8 FF (fun _ => br_f jp (mY p k q l s e g m z t _ (br_f hV0 ⟨j8, nm_r (e' := nI sn) (by rw [cj, ← hs, hsn]) (nm_e ⟨i25, br_f hle ⟨i25, b4 p q s g m t _ (nm_r (nI_1 _) (c4 g m t post hp))⟩⟩)⟩))) (fun x => absurd x (by omega)))⟩
          rw [hfu]
          refine br_f hX ⟨i8, ?_⟩
          rw [hti]
          exact mX _ (br_f hV0 ⟨i8, nm_r (e' := nI sn) (by rw [ci, hsn]) ⟨i25, br_f hle (b3 p r s h _ (nm_e (nm_r (nI_1 _) (c3 h post hp))))⟩⟩)
    · have hhi2 : ∀ j, i ≤ j → j < n → nI (a + 1) ≤ r.2.1 j := by
        intro j h1 h2
        have h3 : nI a < r.2.1 j := by
          by_cases x : j = i
          · subst x
            exact ps_tri (Int32.not_lt.mpr (hhi j (Nat.le_refl j) h2)) (hno h2)
          · exact Int32.lt_of_le_of_lt (hhi i (Nat.le_refl i) (by omega)) (hR.2.2.2.1 i j (by omega) h2)
        exact pn_next (hR.2.1 j h2) (by omega) h3
      obtain ⟨N, k', o', e', w', z', c1, c2, c3, c4⟩ := ih (a + 1) (by omega) i cnt k o e w z hi hlo' hhi2 HO HW
      exact ⟨N, k', o', e', w', z', c1, c2, c3, fun g m t post hp => br_f hY (py_fr (p := p) (k := k) (q := q) (l := l) (s := s) (e := e) (g := g) (m := m) (z := z) (t := t) e2 n8 FF (fun x => absurd x (by omega)) (fun _ => br_t (by decide) (nm_r (nI_1 _) (c4 g m t post hp))))⟩
theorem ps_IL_set {l s : TL} (HL : ps_IL l s) {c n j : Nat} (hc : c < 4) (hn : s.1 c = nI n) (n4 : n ≤ 4) (hj : j < n) {Q : Int32} (hQ : ps_q3 Q) : ps_IL l (s.1, s.2.1, upd s.2.2 (c * 4 + j) Q) := by
  intro c' hc'
  obtain ⟨a, b, n', n4', hn', hz, hq⟩ := HL c' hc'
  refine ⟨a, b, n', n4', hn', hz, fun i hi => ?_⟩
  show ps_q3 (upd s.2.2 (c * 4 + j) Q (c' * 4 + i))
  by_cases x : c' * 4 + i = c * 4 + j
  · rw [x, pk_us]; exact hQ
  · rw [pk_un x]; exact hq i hi
theorem ps_IL_new {l s : TL} (HL : ps_IL l s) {c n : Nat} (hc : c < 4) (hn : s.1 c = nI n) (n4 : n < 4) (hu : ¬ l.1 c = 0) {F Q : Int32} (hQ : ps_q3 Q) : ps_IL l (upd s.1 c (nI (n + 1)), upd s.2.1 (c * 4 + n) F, upd s.2.2 (c * 4 + n) Q) := by
  intro c' hc'
  obtain ⟨a, b, n', n4', hn', hz, hq⟩ := HL c' hc'
  refine ⟨a, b, ?_⟩
  by_cases hcc : c' = c
  · subst hcc
    have : n' = n := by
      rw [hn', nI_eq (by omega) (by omega)] at hn
      exact hn
    subst this
    refine ⟨n' + 1, by omega, pk_us, fun x => absurd x (b hu), fun i hi => ?_⟩
    show ps_q3 (upd s.2.2 (c' * 4 + n') Q (c' * 4 + i))
    by_cases x : i = n'
    · rw [x, pk_us]; exact hQ
    · rw [pk_un (by omega)]; exact hq i (by omega)
  · refine ⟨n', n4', (pk_un hcc).trans hn', hz, fun i hi => ?_⟩
    show ps_q3 (upd s.2.2 (c * 4 + n) Q (c' * 4 + i))
    rw [pk_un (by omega)]
    exact hq i hi
theorem i_vc_subscribe {k : Nat} {u : SX} {v : SY} (I : i_Rel k u v) (hk : k + 5 ≤ 2560) (v1 : Int32) (v2 : Int32) (v3 : Int32) : wpX_subscribe (fun r u' => wpY_subscribe (fun r' v' => r' = r ∧ i_Rel (k + 5) u' v') v v1 v2 v3) u v1 v2 v3 := by
  have R : i_Rel (k + 5) u v := I
  obtain ⟨p, kk, r, q, l, s, o, e, h, g, m, w, z, t, rfl, rfl, HP, HL, HR, HO, HH, HW⟩ := I
  unfold wpX_subscribe
  rcases pr_cl v1 with ⟨cX, cY⟩ | ⟨c, hc, rfl, cX, cY⟩
  · exact cX _ (br_t rfl (by unfold wpY_subscribe; exact cY _ _ (br_f (by decide) ⟨rfl, R⟩)))
  · have cc : (nI c).toNatClampNeg = c := nI_clamp (by omega)
    have i4 : vp_in (nI c) 4 := vp_in_nI hc (by omega)
    by_cases hl : l.1 c = 0
    · have hl' : l.1 (nI c).toNatClampNeg = 0 := by rw [cc]; exact hl
      exact cX _ (br_f (by decide) ⟨i4, br_t hl' (by unfold wpY_subscribe; exact cY _ _ (br_t rfl ⟨i4, br_t hl' ⟨rfl, R⟩⟩))⟩)
    · have hl' : ¬ l.1 (nI c).toNatClampNeg = 0 := by rw [cc]; exact hl
      obtain ⟨A, hA, aX, aY⟩ := pr_fi v2
      by_cases hA0 : A = 0
      · exact cX _ (br_f (by decide) ⟨i4, br_f hl' (aX _ (br_t hA0 (by unfold wpY_subscribe; exact cY _ _ (br_t rfl ⟨i4, br_f hl' (aY p kk q l s e g m z t _ (br_t hA0 ⟨rfl, R⟩))⟩))))⟩)
      · by_cases q0 : v3 < 0
        · exact cX _ (br_f (by decide) ⟨i4, br_f hl' (aX _ (br_f hA0 (br_t q0 (by unfold wpY_subscribe; exact cY _ _ (br_t rfl ⟨i4, br_f hl' (aY p kk q l s e g m z t _ (br_f hA0 (br_t q0 ⟨rfl, R⟩)))⟩)))))⟩)
        · by_cases q2 : v3 ≤ 2
          · have hQ : ps_q3 v3 := by
              obtain ⟨j, hj, rfl⟩ := nI_of2 (M := 2) (n := 2) (by decide) q0 q2
              have h3 : j = 0 ∨ j = 1 ∨ j = 2 := by omega
              rcases h3 with rfl | rfl | rfl
              · exact Or.inl rfl
              · exact Or.inr (Or.inl rfl)
              · exact Or.inr (Or.inr rfl)
            obtain ⟨rn, r1, r2, hR⟩ := id HR
            obtain ⟨_, _, n, n4, hn, _, _⟩ := HL c hc
            obtain ⟨j, FF⟩ := ps_F_ex s.2.1 (c * 4) v2 n
            have hj := FF.1
            -- Y's walk up to the search's end
            have hYY : ∀ (post : Int32 → SY → Prop), (j < n → wY_subscribe_68 post (nI c) v2 v3 (nI j) p.1 q.1 t.1 t.2.1 t.2.2.1 t.2.2.2.1 t.2.2.2.2 p.2.1 p.2.2.1 p.2.2.2.1 p.2.2.2.2 kk.2.2.1 kk.1 kk.2.1 kk.2.2.2 q.2.1 q.2.2 l.1 l.2.1 l.2.2 s.2.1 s.2.2 s.1 e.2.1 e.2.2.1 e.2.2.2.1 e.2.2.2.2.1 e.2.2.2.2.2 e.1 g m z.2.1 z.2.2.1 z.2.2.2.1 z.2.2.2.2.1 z.2.2.2.2.2 z.1) → (j = n → n < 4 → wY_subscribe_68 post (nI c) v2 v3 (-1) p.1 q.1 t.1 t.2.1 t.2.2.1 t.2.2.2.1 t.2.2.2.2 p.2.1 p.2.2.1 p.2.2.2.1 p.2.2.2.2 kk.2.2.1 kk.1 kk.2.1 kk.2.2.2 q.2.1 q.2.2 l.1 l.2.1 l.2.2 s.2.1 s.2.2 s.1 e.2.1 e.2.2.1 e.2.2.2.1 e.2.2.2.2.1 e.2.2.2.2.2 e.1 g m z.2.1 z.2.2.1 z.2.2.2.1 z.2.2.2.2.1 z.2.2.2.2.2 z.1) → (j = n → n = 4 → post (-5) (YS p kk q l s e g m z t)) → wpY_subscribe post (YS p kk q l s e g m z t) (nI c) v2 v3 := by
              intro post h1 h2 h3
              unfold wpY_subscribe
              refine cY _ _ (br_t rfl ⟨i4, br_f hl' (aY p kk q l s e g m z t _ (br_f hA0 (br_f q0 (br_t q2 (py_fs (p := p) (k := kk) (q := q) (l := l) (s := s) (e := e) (g := g) (m := m) (z := z) (t := t) hc hn n4 FF (fun hlt => br_t (nI_pos' (by omega)) (h1 hlt)) (fun heq => br_f (by decide) ⟨i4, br_c (fun x => h2 heq ?_) fun x => h3 heq ?_⟩))))))⟩)
              · rw [cc, hn] at x
                exact (nI_ltI (b := 4) (by omega) (by omega)).mp x
              · rw [cc, hn] at x
                apply Classical.byContradiction
                intro hx
                exact x (nI_lt (b := 4) (by omega) (by omega))
            refine cX _ (br_f (by decide) ⟨i4, br_f hl' (aX _ (br_f hA0 (br_f q0 (br_t q2 (px_fs (p := p) (k := kk) (r := r) (l := l) (s := s) (o := o) (h := h) (w := w) hc hn n4 FF (fun hlt => br_t (nI_pos' (by omega)) ?_) (fun heq => br_f (by decide) ⟨i4, br_c (fun x => ?_) fun x => ?_⟩))))))⟩)
            · -- the subscription is there: its new qos
              obtain ⟨N, k', o', e', w', z', c1, c2, c3, c4⟩ := pr_sr HP (l := l) (s := (s.1, s.2.1, upd s.2.2 (c * 4 + j) v3)) r1 r2 hR hc v2 v3 hQ 4096 0 (by omega) 0 0 kk o e w z (by omega) (fun j hj => absurd hj (by omega)) (fun j _ hj => by obtain ⟨t, ht, et⟩ := hR.2.1 j hj; rw [et]; exact nI_le (by omega) (by omega)) HO HW
              have hend : wpY_subscribe (fun r' v' => r' = N ∧ i_Rel (k + 5) (XS p k' r l (s.1, s.2.1, upd s.2.2 (c * 4 + j) v3) o' h w') v') (YS p kk q l s e g m z t) (nI c) v2 v3 := by
                have eY : nI c * 4 + nI j = nI (c * 4 + j) := by rw [pn_m4, nI_add]
                refine hYY _ (fun _ => br_f (nI_pos (by omega)) ⟨by rw [eY]; exact vp_in_nI (by omega) (by omega), nm_r (e' := upd s.2.2 (c * 4 + j) v3) (by rw [eY, nI_clamp (by omega)]) ⟨4097, c4 g m t _ ⟨rfl, ir_mk HP (ps_IL_set HL hc hn n4 hlt hQ) HR c1 HH c2⟩⟩⟩) (fun x => absurd x (by omega)) (fun x => absurd x (by omega))
              exact ⟨vp_in_nI (by omega) (by omega), nm_r (e' := upd s.2.2 (c * 4 + j) v3) (by rw [nI_clamp (by omega)]) ⟨_, c3 h _ hend⟩⟩
            · -- no room
              have hn4 : n = 4 := by
                rw [cc, hn] at x
                exact (nI_eq (b := 4) (by omega) (by omega)).mp x
              exact hYY _ (fun x => absurd x (by omega)) (fun _ x => absurd x (by omega)) (fun _ _ => ⟨rfl, R⟩)
            · -- a new subscription
              have hn4 : n < 4 := by
                rw [cc, hn] at x
                apply Classical.byContradiction
                intro hx
                apply x
                rw [show n = 4 by omega]
                rfl
              obtain ⟨N, k', o', e', w', z', c1, c2, c3, c4⟩ := pr_sr HP (l := l) (s := (upd s.1 c (nI (n + 1)), upd s.2.1 (c * 4 + n) v2, upd s.2.2 (c * 4 + n) v3)) r1 r2 hR hc v2 v3 hQ 4096 0 (by omega) 0 0 kk o e w z (by omega) (fun j hj => absurd hj (by omega)) (fun j _ hj => by obtain ⟨t, ht, et⟩ := hR.2.1 j hj; rw [et]; exact nI_le (by omega) (by omega)) HO HW
              have eX : nI c * 4 + s.1 (nI c).toNatClampNeg = nI (c * 4 + n) := by rw [cc, hn, pn_m4, nI_add]
              have cn : (nI (c * 4 + n)).toNatClampNeg = c * 4 + n := nI_clamp (by omega)
              have i16 : vp_in (nI (c * 4 + n)) 16 := vp_in_nI (by omega) (by omega)
              have hend : wpY_subscribe (fun r' v' => r' = N ∧ i_Rel (k + 5) (XS p k' r l (upd s.1 c (nI (n + 1)), upd s.2.1 (c * 4 + n) v2, upd s.2.2 (c * 4 + n) v3) o' h w') v') (YS p kk q l s e g m z t) (nI c) v2 v3 := by
                refine hYY _ (fun x => absurd x (by omega)) (fun _ _ => br_t (by decide) ⟨i4, by rw [eX]; exact i16, nm_r (e' := upd s.2.1 (c * 4 + n) v2) (by rw [eX, cn]) ⟨i4, by rw [eX]; exact i16, nm_r (e' := upd s.2.2 (c * 4 + n) v3) (by rw [eX, cn]) ⟨i4, i4, nm_r (e' := upd s.1 c (nI (n + 1))) (by rw [cc, hn, nI_1]) ⟨4097, c4 g m t _ ⟨rfl, ir_mk HP (ps_IL_new HL hc hn hn4 hl hQ) HR c1 HH c2⟩⟩⟩⟩⟩) (fun _ x => absurd x (by omega))
              exact ⟨i4, nm_r eX ⟨i16, nm_r (e' := upd s.2.1 (c * 4 + n) v2) (by rw [cn]) ⟨i4, i4, nm_r (e' := upd s.1 c (nI (n + 1))) (by rw [cc, hn, nI_1]) ⟨i16, nm_r (e' := upd s.2.2 (c * 4 + n) v3) (by rw [cn]) ⟨_, c3 h _ hend⟩⟩⟩⟩⟩
          · exact cX _ (br_f (by decide) ⟨i4, br_f hl' (aX _ (br_f hA0 (br_f q0 (br_f q2 (by unfold wpY_subscribe; exact cY _ _ (br_t rfl ⟨i4, br_f hl' (aY p kk q l s e g m z t _ (br_f hA0 (br_f q0 (br_f q2 ⟨rfl, R⟩))))⟩))))))⟩)
end P22
end
