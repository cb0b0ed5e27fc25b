section Q45
theorem lw_47 {L : Nat} {xs : Nat → Int32} {post : Int32 → Prop} {kc ks : Nat} (hL : L < 2 ^ 16) (hp1 : post 1) :
    ∀ f st pos, st + f = 201 * (L + 1) → pos < L + 3 → JOK (wL_law_47 post L xs (nI L) kc ks (f + 1)) (nI pos) st := by
  intro f
  induction f with
  | zero =>
    intro st pos hf hps p k r l s o h w y2 y4 y6 y8 y10 y12 y13 y14 y16 y17 hI
    have e : (201 : Int32) * (nI L + 1) = nI (201 * (L + 1)) := by
      rw [nI_1]
      exact pk_mul 201 _
    refine br_t ?_ hp1
    rw [e]
    exact nI_le (by omega) (by omega)
  | succ f ih =>
    intro st pos hf hps p k r l s o h w y2 y4 y6 y8 y10 y12 y13 y14 y16 y17 hI
    have e : (201 : Int32) * (nI L + 1) = nI (201 * (L + 1)) := by
      rw [nI_1]
      exact pk_mul 201 _
    have hst : 8 * (st + 1) < 2 ^ 30 := by omega
    refine br_f (by rw [e]; exact nI_ge (by omega) (by omega)) ?_
    obtain ⟨O, W, H, up, se, pe, S, rc, ac, ov, n, tp, qu, C, dd, dl, hd, rfl, rfl, hdl, hD⟩ := hI
    by_cases z : dl = 0
    · subst z
      exact br_t (by decide) (lw_70 C hst hd (by omega) hp1 (fun hp => ih (st + 1) (pos + 3) (by omega) (by omega)) hps)
    · obtain ⟨m, rfl⟩ : ∃ m, dl = m + 1 := ⟨dl - 1, by omega⟩
      obtain ⟨D, hm⟩ := hD (by omega)
      exact br_f (nI_ge (b := m + 1) (a := 0) (by omega) (by omega)) (br_f (by decide) (lw_e1 C hst hd (by omega) D hm (ih (st + 1) pos (by omega) hps)))
end Q45
