section P4
/-! the groups of fields, and the relation of each. Side (c, b): client c, b = 0 the client's end, b = 1 the broker's: X numbers it 4 b + c, Y 2 c + b -/
abbrev TA : Type := Nat → Int32
abbrev TO : Type := TA × TA × TA × TA × TA × TA
abbrev TW : Type := TA × TA × TA × TA × TA × TA × TA
abbrev TR : Type := Int32 × TA × TA
/-- a packet: kind, id, serial, quality, mark -/
def ps_PV (t : T5) : Prop := (∃ i, i ≤ 16 ∧ t.2.1 = nI i ∧ (t.1 = 1 → (∃ s, 1 ≤ s ∧ s ≤ 24 ∧ t.2.2.1 = nI s) ∧ (t.2.2.2.1 = 0 ∨ ((t.2.2.2.1 = 1 ∨ t.2.2.2.1 = 2) ∧ 1 ≤ i))) ∧ (¬ t.1 = 1 → 1 ≤ i)) ∧ (t.2.2.2.2 = 0 ∨ t.2.2.2.2 = 1)
/-- an entry: serial, quality, id, mark, stage -/
def ps_EV (t : T5) : Prop := (∃ s, 1 ≤ s ∧ s ≤ 24 ∧ t.1 = nI s) ∧ (t.2.1 = 1 ∨ t.2.1 = 2) ∧ (∃ i, 1 ≤ i ∧ i ≤ 16 ∧ t.2.2.1 = nI i) ∧ (t.2.2.2.1 = 0 ∨ t.2.2.2.1 = 1)
def ps_o5 (o : TO) : Nat → T5 := ps_5 o.2.1 o.2.2.1 o.2.2.2.1 o.2.2.2.2.1 o.2.2.2.2.2
def ps_w5 (w : TW) : Nat → T5 := ps_5 w.2.2.1 w.2.2.2.1 w.2.2.2.2.1 w.2.2.2.2.2.1 w.2.2.2.2.2.2
def ps_RO (o p : TO) : Prop := ∀ c b, c < 4 → b < 2 → ∃ n, (b = 0 → n ≤ 4) ∧ o.1 (4 * b + c) = nI n ∧ p.1 (2 * c + b) = nI n ∧ ps_O ps_EV (4 * b + c) (2 * c + b) (ps_o5 o) (ps_o5 p) n
def ps_RW (w : TW) (z : TO) : Prop := ∀ c b, c < 4 → b < 2 → ∃ h n, w.1 (4 * b + c) = nI h ∧ w.2.1 (4 * b + c) = nI n ∧ z.1 (2 * c + b) = nI n ∧ ps_Q ps_PV (4 * b + c) (2 * c + b) (ps_w5 w) (ps_o5 z) h n
def ps_RH (f : TA) (g m : TA) : Prop := ∀ c b, c < 4 → b < 2 → ∃ n, m (2 * c + b) = nI n ∧ ps_H f (4 * b + c) g (2 * c + b) n
def ps_RR (r q : TR) : Prop := ∃ n, r.1 = nI n ∧ q.1 = nI n ∧ ps_R n r.2.1 r.2.2 q.2.1 q.2.2
theorem ps_ne {c b c' b' : Nat} (hc : c < 4) (hc' : c' < 4) (hb : b < 2) (hb' : b' < 2) (h : ¬ (c' = c ∧ b' = b)) : 4 * b' + c' ≠ 4 * b + c ∧ 2 * c' + b' ≠ 2 * c + b := by omega
theorem ps_RO_put {o p : TO} (H : ps_RO o p) {c b n : Nat} (hc : c < 4) (hb : b < 2) (h4 : b = 0 → n < 4) (hn : n < 16) (e : o.1 (4 * b + c) = nI n) {s q i m g : Int32} (hv : ps_EV (s, q, i, m, g)) :
    ps_RO (upd o.1 (4 * b + c) (nI (n + 1)), upd o.2.1 ((4 * b + c) * 16 + n) s, upd o.2.2.1 ((4 * b + c) * 16 + n) q, upd o.2.2.2.1 ((4 * b + c) * 16 + n) i, upd o.2.2.2.2.1 ((4 * b + c) * 16 + n) m, upd o.2.2.2.2.2 ((4 * b + c) * 16 + n) g)
      (upd p.1 (2 * c + b) (nI (n + 1)), upd p.2.1 ((2 * c + b) * 16 + n) s, upd p.2.2.1 ((2 * c + b) * 16 + n) q, upd p.2.2.2.1 ((2 * c + b) * 16 + n) i, upd p.2.2.2.2.1 ((2 * c + b) * 16 + n) m, upd p.2.2.2.2.2 ((2 * c + b) * 16 + n) g) := by
  intro c' b' hc' hb'
  obtain ⟨n', a1, a2, a3, a4⟩ := H c' b' hc' hb'
  by_cases he : c' = c ∧ b' = b
  · obtain ⟨rfl, rfl⟩ := he
    have hnn : n' = n := by
      have := a4.1
      rw [a2, nI_eq (by omega) (by omega)] at e
      exact e
    subst hnn
    exact ⟨n' + 1, fun z => by have := h4 z; omega, pk_us, pk_us, ps_O_put a4 hn hv (fun i => ps_5u i) (fun i => ps_5u i)⟩
  · obtain ⟨x1, x2⟩ := ps_ne hc hc' hb hb' he
    exact ⟨n', a1, (pk_un x1).trans a2, (pk_un x2).trans a3, ps_O_o a4 (fun i h1 h2 => (ps_5u i).trans (if_neg (by omega))) (fun i h1 h2 => (ps_5u i).trans (if_neg (by omega)))⟩
theorem ps_RO_del {o p : TO} (H : ps_RO o p) {c b n j : Nat} (hc : c < 4) (hb : b < 2) (hj : j ≤ n) (hn : n < 16) (e : o.1 (4 * b + c) = nI (n + 1)) :
    ps_RO (upd o.1 (4 * b + c) (nI n), ps_sh o.2.1 ((4 * b + c) * 16 + j) ((4 * b + c) * 16 + n), ps_sh o.2.2.1 ((4 * b + c) * 16 + j) ((4 * b + c) * 16 + n), ps_sh o.2.2.2.1 ((4 * b + c) * 16 + j) ((4 * b + c) * 16 + n), ps_sh o.2.2.2.2.1 ((4 * b + c) * 16 + j) ((4 * b + c) * 16 + n), ps_sh o.2.2.2.2.2 ((4 * b + c) * 16 + j) ((4 * b + c) * 16 + n))
      (upd p.1 (2 * c + b) (nI n), ps_sh p.2.1 ((2 * c + b) * 16 + j) ((2 * c + b) * 16 + n), ps_sh p.2.2.1 ((2 * c + b) * 16 + j) ((2 * c + b) * 16 + n), ps_sh p.2.2.2.1 ((2 * c + b) * 16 + j) ((2 * c + b) * 16 + n), ps_sh p.2.2.2.2.1 ((2 * c + b) * 16 + j) ((2 * c + b) * 16 + n), ps_sh p.2.2.2.2.2 ((2 * c + b) * 16 + j) ((2 * c + b) * 16 + n)) := by
  intro c' b' hc' hb'
  obtain ⟨n', a1, a2, a3, a4⟩ := H c' b' hc' hb'
  by_cases he : c' = c ∧ b' = b
  · obtain ⟨rfl, rfl⟩ := he
    have hnn : n' = n + 1 := by
      have := a4.1
      rw [a2, nI_eq (by omega) (by omega)] at e
      exact e
    subst hnn
    exact ⟨n, fun z => by have := a1 z; omega, pk_us, pk_us, ps_O_del a4 hj (fun i => ps_5s i) (fun i => ps_5s i)⟩
  · obtain ⟨x1, x2⟩ := ps_ne hc hc' hb hb' he
    exact ⟨n', a1, (pk_un x1).trans a2, (pk_un x2).trans a3, ps_O_o a4 (fun i h1 h2 => (ps_5s i).trans (if_neg (by omega))) (fun i h1 h2 => (ps_5s i).trans (if_neg (by omega)))⟩
theorem ps_5g {a b c d e : TA} {k : Nat} {v : Int32} (i : Nat) : ps_5 a b c d (upd e k v) i = if i = k then (a k, b k, c k, d k, v) else ps_5 a b c d e i := by
  unfold ps_5 upd
  by_cases h : i = k
  · rw [if_pos h, if_pos h, h]
  · rw [if_neg h, if_neg h]
theorem ps_RO_mod {o p : TO} (H : ps_RO o p) {c b n j : Nat} (hc : c < 4) (hb : b < 2) (hj : j < n) (hn : n ≤ 16) (e : o.1 (4 * b + c) = nI n) {g : Int32} :
    ps_RO (o.1, o.2.1, o.2.2.1, o.2.2.2.1, o.2.2.2.2.1, upd o.2.2.2.2.2 ((4 * b + c) * 16 + j) g) (p.1, p.2.1, p.2.2.1, p.2.2.2.1, p.2.2.2.2.1, upd p.2.2.2.2.2 ((2 * c + b) * 16 + j) g) := by
  intro c' b' hc' hb'
  obtain ⟨n', a1, a2, a3, a4⟩ := H c' b' hc' hb'
  by_cases he : c' = c ∧ b' = b
  · obtain ⟨rfl, rfl⟩ := he
    have hnn : n' = n := by
      have := a4.1
      rw [a2, nI_eq (by omega) (by omega)] at e
      exact e
    subst hnn
    have hx := a4.2 j hj
    have ev : ps_EV (p.2.1 ((2 * c' + b') * 16 + j), p.2.2.1 ((2 * c' + b') * 16 + j), p.2.2.2.1 ((2 * c' + b') * 16 + j), p.2.2.2.2.1 ((2 * c' + b') * 16 + j), g) := hx.2
    refine ⟨n', a1, a2, a3, ps_O_mod a4 ev (j0 := j) (fun i => ?_) (fun i => ps_5g i)⟩
    refine (ps_5g i).trans ?_
    have hy := hx.1
    simp only [ps_o5, ps_5, Prod.mk.injEq] at hy
    rw [hy.1, hy.2.1, hy.2.2.1, hy.2.2.2.1]
    rfl
  · obtain ⟨x1, x2⟩ := ps_ne hc hc' hb hb' he
    exact ⟨n', a1, a2, a3, ps_O_o a4 (fun i h1 h2 => (ps_5g i).trans (if_neg (by omega))) (fun i h1 h2 => (ps_5g i).trans (if_neg (by omega)))⟩
/-- client c's two outboxes emptied -/
theorem ps_RO_clr {o p : TO} (H : ps_RO o p) {c : Nat} (hc : c < 4) {o1 p1 : TA} (ho : ∀ b, b < 2 → o1 (4 * b + c) = nI 0) (hp : ∀ b, b < 2 → p1 (2 * c + b) = nI 0)
    (ho' : ∀ b c', b < 2 → c' < 4 → c' ≠ c → o1 (4 * b + c') = o.1 (4 * b + c')) (hp' : ∀ b c', b < 2 → c' < 4 → c' ≠ c → p1 (2 * c' + b) = p.1 (2 * c' + b)) : ps_RO (o1, o.2) (p1, p.2) := by
  intro c' b' hc' hb'
  by_cases he : c' = c
  · subst he
    exact ⟨0, fun _ => by omega, ho b' hb', hp b' hb', ps_O_0⟩
  · obtain ⟨n', a1, a2, a3, a4⟩ := H c' b' hc' hb'
    exact ⟨n', a1, (ho' b' c' hb' hc' he).trans a2, (hp' b' c' hb' hc' he).trans a3, a4⟩
theorem ps_RW_put {w : TW} {z : TO} (H : ps_RW w z) {c b n h : Nat} (hc : c < 4) (hb : b < 2) (hn : n < 32) (hh : h < 32) (e : w.2.1 (4 * b + c) = nI n) (e2 : w.1 (4 * b + c) = nI h) {k i s q m : Int32} (hv : ps_PV (k, i, s, q, m)) :
    ps_RW (w.1, upd w.2.1 (4 * b + c) (nI (n + 1)), upd w.2.2.1 ((4 * b + c) * 32 + (h + n) % 32) k, upd w.2.2.2.1 ((4 * b + c) * 32 + (h + n) % 32) i, upd w.2.2.2.2.1 ((4 * b + c) * 32 + (h + n) % 32) s, upd w.2.2.2.2.2.1 ((4 * b + c) * 32 + (h + n) % 32) q, upd w.2.2.2.2.2.2 ((4 * b + c) * 32 + (h + n) % 32) m)
      (upd z.1 (2 * c + b) (nI (n + 1)), upd z.2.1 ((2 * c + b) * 32 + n) k, upd z.2.2.1 ((2 * c + b) * 32 + n) i, upd z.2.2.2.1 ((2 * c + b) * 32 + n) s, upd z.2.2.2.2.1 ((2 * c + b) * 32 + n) q, upd z.2.2.2.2.2 ((2 * c + b) * 32 + n) m) := by
  intro c' b' hc' hb'
  obtain ⟨h', n', a0, a2, a3, a4⟩ := H c' b' hc' hb'
  have l1 := a4.1
  have l2 := a4.2.1
  by_cases he : c' = c ∧ b' = b
  · obtain ⟨rfl, rfl⟩ := he
    have hnn : n' = n := by
      rw [a2, nI_eq (by omega) (by omega)] at e
      exact e
    have hhh : h' = h := by
      rw [a0, nI_eq (by omega) (by omega)] at e2
      exact e2
    subst hnn hhh
    exact ⟨h', n' + 1, a0, pk_us, pk_us, ps_Q_put a4 hn hv (fun i => ps_5u i) (fun i => ps_5u i)⟩
  · obtain ⟨x1, x2⟩ := ps_ne hc hc' hb hb' he
    exact ⟨h', n', a0, (pk_un x1).trans a2, (pk_un x2).trans a3, ps_Q_o a4 (fun i h1 h2 => (ps_5u i).trans (if_neg (by omega))) (fun i h1 h2 => (ps_5u i).trans (if_neg (by omega)))⟩
theorem ps_RW_pop {w : TW} {z : TO} (H : ps_RW w z) {c b n h : Nat} (hc : c < 4) (hb : b < 2) (hn : n < 32) (hh : h < 32) (e : w.2.1 (4 * b + c) = nI (n + 1)) (e2 : w.1 (4 * b + c) = nI h) :
    ps_RW (upd w.1 (4 * b + c) (nI ((h + 1) % 32)), upd w.2.1 (4 * b + c) (nI n), w.2.2)
      (upd z.1 (2 * c + b) (nI n), ps_sh z.2.1 ((2 * c + b) * 32) ((2 * c + b) * 32 + n), ps_sh z.2.2.1 ((2 * c + b) * 32) ((2 * c + b) * 32 + n), ps_sh z.2.2.2.1 ((2 * c + b) * 32) ((2 * c + b) * 32 + n), ps_sh z.2.2.2.2.1 ((2 * c + b) * 32) ((2 * c + b) * 32 + n), ps_sh z.2.2.2.2.2 ((2 * c + b) * 32) ((2 * c + b) * 32 + n)) := by
  intro c' b' hc' hb'
  obtain ⟨h', n', a0, a2, a3, a4⟩ := H c' b' hc' hb'
  have l1 := a4.1
  have l2 := a4.2.1
  by_cases he : c' = c ∧ b' = b
  · obtain ⟨rfl, rfl⟩ := he
    have hnn : n' = n + 1 := by
      rw [a2, nI_eq (by omega) (by omega)] at e
      exact e
    have hhh : h' = h := by
      rw [a0, nI_eq (by omega) (by omega)] at e2
      exact e2
    subst hnn hhh
    exact ⟨(h' + 1) % 32, n, pk_us, pk_us, pk_us, ps_Q_pop a4 (fun i h1 h2 => (ps_5s i).trans (if_pos (by omega)))⟩
  · obtain ⟨x1, x2⟩ := ps_ne hc hc' hb hb' he
    exact ⟨h', n', (pk_un x1).trans a0, (pk_un x1).trans a2, (pk_un x2).trans a3, ps_Q_o a4 (fun i h1 h2 => rfl) (fun i h1 h2 => (ps_5s i).trans (if_neg (by omega)))⟩
theorem ps_RW_clr {w : TW} {z : TO} (H : ps_RW w z) {c : Nat} (hc : c < 4) {w1 z1 : TA} (ho : ∀ b, b < 2 → w1 (4 * b + c) = nI 0) (hp : ∀ b, b < 2 → z1 (2 * c + b) = nI 0)
    (ho' : ∀ b c', b < 2 → c' < 4 → c' ≠ c → w1 (4 * b + c') = w.2.1 (4 * b + c')) (hp' : ∀ b c', b < 2 → c' < 4 → c' ≠ c → z1 (2 * c' + b) = z.1 (2 * c' + b)) : ps_RW (w.1, w1, w.2.2) (z1, z.2) := by
  intro c' b' hc' hb'
  obtain ⟨h', n', a0, a2, a3, a4⟩ := H c' b' hc' hb'
  by_cases he : c' = c
  · subst he
    exact ⟨h', 0, a0, ho b' hb', hp b' hb', ps_Q_0 a4.1⟩
  · exact ⟨h', n', a0, (ho' b' c' hb' hc' he).trans a2, (hp' b' c' hb' hc' he).trans a3, a4⟩
theorem ps_RH_add {f g m : TA} (H : ps_RH f g m) {c b n i : Nat} (hc : c < 4) (hb : b < 2) (e : m (2 * c + b) = nI n) (hn : n ≤ 16) (h1 : 1 ≤ i) (h2 : i ≤ 16) (h0 : f ((4 * b + c) * 17 + i) = 0) :
    n < 16 ∧ ps_RH (upd f ((4 * b + c) * 17 + i) 1) (upd g ((2 * c + b) * 16 + n) (nI i)) (upd m (2 * c + b) (nI (n + 1))) := by
  have one : (1 : Int32) ≠ 0 := by decide
  have key : ∀ n', m (2 * c + b) = nI n' → ps_H f (4 * b + c) g (2 * c + b) n' → n' = n := by
    intro n' a1 a2
    have := ps_H_le a2
    rw [a1, nI_eq (by omega) (by omega)] at e
    exact e
  obtain ⟨n', a1, a2⟩ := H c b hc hb
  cases key n' a1 a2
  obtain ⟨q1, q2⟩ := ps_H_add one a2 h1 h2 h0
  refine ⟨q1, fun c' b' hc' hb' => ?_⟩
  by_cases he : c' = c ∧ b' = b
  · obtain ⟨rfl, rfl⟩ := he
    exact ⟨n + 1, pk_us, q2⟩
  · obtain ⟨x1, x2⟩ := ps_ne hc hc' hb hb' he
    obtain ⟨n', a1, a2⟩ := H c' b' hc' hb'
    exact ⟨n', (pk_un x2).trans a1, ps_H_o a2 (fun i h1 h2 => pk_un (by omega)) (fun i h1 h2 => pk_un (by omega))⟩
theorem ps_RH_del {f g m : TA} (H : ps_RH f g m) {c b n i j : Nat} (hc : c < 4) (hb : b < 2) (e : m (2 * c + b) = nI (n + 1)) (hn : n < 16) (hj : j ≤ n) (h1 : 1 ≤ i) (h2 : i ≤ 16) (h0 : g ((2 * c + b) * 16 + j) = nI i) :
    ps_RH (upd f ((4 * b + c) * 17 + i) 0) (ps_sh g ((2 * c + b) * 16 + j) ((2 * c + b) * 16 + n)) (upd m (2 * c + b) (nI n)) := by
  intro c' b' hc' hb'
  obtain ⟨n', a1, a2⟩ := H c' b' hc' hb'
  by_cases he : c' = c ∧ b' = b
  · obtain ⟨rfl, rfl⟩ := he
    have hnn : n' = n + 1 := by
      have := ps_H_le a2
      rw [a1, nI_eq (by omega) (by omega)] at e
      exact e
    subst hnn
    exact ⟨n, pk_us, ps_H_del a2 h1 h2 hj h0⟩
  · obtain ⟨x1, x2⟩ := ps_ne hc hc' hb hb' he
    exact ⟨n', (pk_un x2).trans a1, ps_H_o a2 (fun i h1 h2 => pk_un (by omega)) (fun i h1 h2 => if_neg (by omega))⟩
theorem ps_RH_clr {f g m : TA} (H : ps_RH f g m) {c : Nat} (hc : c < 4) {f1 m1 : TA} (hf : ∀ b i, b < 2 → 1 ≤ i → i ≤ 16 → f1 ((4 * b + c) * 17 + i) = 0) (hf' : ∀ b c' i, b < 2 → c' < 4 → c' ≠ c → 1 ≤ i → i ≤ 16 → f1 ((4 * b + c') * 17 + i) = f ((4 * b + c') * 17 + i))
    (hm : ∀ b, b < 2 → m1 (2 * c + b) = nI 0) (hm' : ∀ b c', b < 2 → c' < 4 → c' ≠ c → m1 (2 * c' + b) = m (2 * c' + b)) : ps_RH f1 g m1 := by
  intro c' b' hc' hb'
  by_cases he : c' = c
  · subst he
    exact ⟨0, hm b' hb', ps_H_0 (fun i h1 h2 => hf b' i hb' h1 h2)⟩
  · obtain ⟨n', a1, a2⟩ := H c' b' hc' hb'
    exact ⟨n', (hm' b' c' hb' hc' he).trans a1, ps_H_o a2 (fun i h1 h2 => hf' b' c' i hb' hc' he h1 h2) (fun _ _ _ => rfl)⟩
end P4
