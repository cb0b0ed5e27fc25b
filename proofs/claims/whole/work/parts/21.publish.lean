section P21
theorem pk_tn {n : Nat} (h : n < 2 ^ 32) : (nI n).toBitVec.toNat = n := Nat.mod_eq_of_lt h
theorem pk_and (x : Int32) {m : Int32} (k : Nat) (hm : m.toBitVec.toNat = 2 ^ k - 1) : x &&& m = nI (x.toBitVec.toNat % 2 ^ k) := by
  apply Int32.toBitVec_inj.mp
  apply BitVec.eq_of_toNat_eq
  rw [Int32.toBitVec_and, BitVec.toNat_and, hm, Nat.and_two_pow_sub_one_eq_mod]
  show _ = (BitVec.ofNat 32 _).toNat
  rw [BitVec.toNat_ofNat]
  exact (Nat.mod_eq_of_lt (Nat.lt_of_le_of_lt (Nat.mod_le _ _) x.toBitVec.isLt)).symm
theorem pk_andE (x : Int32) {m : Int32} (k : Nat) (hm : m.toBitVec.toNat = 2 ^ k - 1) : ∃ j : Nat, j < 2 ^ k ∧ x &&& m = nI j := ⟨_, Nat.mod_lt _ (Nat.two_pow_pos k), pk_and x k hm⟩
theorem ps_IP_put {p : TP} (HP : ps_IP p) {n tn : Nat} {P Q Z : Int32} (hn : n < 24) (ht : tn < 4096) (hQ : ps_q3 Q) : ps_IP (nI (n + 1), upd p.2.1 (n + 1) (nI tn), upd p.2.2.1 (n + 1) P, upd p.2.2.2.1 (n + 1) Q, upd p.2.2.2.2 (n + 1) Z) := by
  obtain ⟨_, _, _, H⟩ := HP
  refine ⟨n + 1, by omega, rfl, fun i => ?_⟩
  show (∃ t, t < 4096 ∧ upd p.2.1 (n + 1) (nI tn) i = nI t) ∧ ps_q3 (upd p.2.2.2.1 (n + 1) Q i)
  by_cases e : i = n + 1
  · rw [e, pk_us, pk_us]
    exact ⟨⟨tn, ht, rfl⟩, hQ⟩
  · rw [pk_un e, pk_un e]
    exact H i
/-- an accepted publish -/
theorem pr_p86 {p : TP} (HP : ps_IP p) {o e : TO} {w : TW} {z : TO} (HO : ps_GO o e) (HW : ps_GW w z) {c n tn : Nat} (hc : c < 4) (hn : p.1 = nI n) (n24 : n < 24) (ht : tn < 4096) {P F Q : Int32} (hQ : ps_q3 Q) (hf : ¬ Q = 0 → ∃ a, a < 4 ∧ o.1 c = nI a) : ∃ (p' : TP) (o' e' : TO) (w' : TW) (z' : TO), ps_IP p' ∧ ps_GO o' e' ∧ ps_GW w' z'
    ∧ (∀ (k : TK) (r : TR) (l s : TL) (h : TA) (post : Int32 → SX → Prop), post (nI (n + 1)) (XS p' k r l s o' h w') → wX_publish_86 post (nI c) (nI tn) P F Q p.1 r.1 p.2.1 p.2.2.1 p.2.2.2.1 p.2.2.2.2 k.1 k.2.1 k.2.2.1 k.2.2.2 r.2.1 r.2.2 l.1 l.2.1 l.2.2 s.1 s.2.1 s.2.2 o.1 o.2.1 o.2.2.1 o.2.2.2.1 o.2.2.2.2.1 o.2.2.2.2.2 h w.1 w.2.1 w.2.2.1 w.2.2.2.1 w.2.2.2.2.1 w.2.2.2.2.2.1 w.2.2.2.2.2.2)
    ∧ (∀ (k : TK) (q : TR) (l s : TL) (g m : TA) (t : T5) (post : Int32 → SY → Prop), post (nI (n + 1)) (YS p' k q l s e' g m z' t) → wY_publish_92 post (nI c) (nI tn) P F Q p.1 q.1 t.1 t.2.1 t.2.2.1 t.2.2.2.1 t.2.2.2.2 p.2.1 p.2.2.1 p.2.2.2.1 p.2.2.2.2 k.2.2.1 k.1 k.2.1 k.2.2.2 q.2.1 q.2.2 l.1 l.2.1 l.2.2 s.2.1 s.2.2 s.1 e.2.1 e.2.2.1 e.2.2.2.1 e.2.2.2.2.1 e.2.2.2.2.2 e.1 g m z.2.1 z.2.2.1 z.2.2.2.1 z.2.2.2.2.1 z.2.2.2.2.2 z.1) := by
  have i25 : vp_in (nI (n + 1)) 25 := vp_in_nI (by omega) (by omega)
  have cs : (nI (n + 1)).toNatClampNeg = n + 1 := nI_clamp (by omega)
  have en : p.1 + 1 = nI (n + 1) := by rw [hn, nI_1]
  have e0 : 4 * 0 + c = c := by omega
  have yb : nI c * 2 = nI (2 * c + 0) := pn_m2 c
  have hZ : ∃ Z : Int32, (Z = 0 ∨ Z = 1) ∧ ((F &&& 4 = 0 ∧ Z = 0) ∨ (¬ F &&& 4 = 0 ∧ Z = 1)) := by
    by_cases h4 : F &&& 4 = 0
    · exact ⟨0, Or.inl rfl, Or.inl ⟨h4, rfl⟩⟩
    · exact ⟨1, Or.inr rfl, Or.inr ⟨h4, rfl⟩⟩
  obtain ⟨Z, hZ1, hZ2⟩ := hZ
  have HP' := ps_IP_put HP (P := P) (Z := Z) n24 ht hQ
  -- up to the retain flag, at both sides
  have hX : ∀ (k : TK) (r : TR) (l s : TL) (h : TA) (post : Int32 → SX → Prop), ((Q < 1 → wX_publish_167 post (nI c) Q (nI (n + 1)) 0 ((nI (n + 1), upd p.2.1 (n + 1) (nI tn), upd p.2.2.1 (n + 1) P, upd p.2.2.2.1 (n + 1) Q, upd p.2.2.2.2 (n + 1) Z).1) r.1 ((nI (n + 1), upd p.2.1 (n + 1) (nI tn), upd p.2.2.1 (n + 1) P, upd p.2.2.2.1 (n + 1) Q, upd p.2.2.2.2 (n + 1) Z).2.1) ((nI (n + 1), upd p.2.1 (n + 1) (nI tn), upd p.2.2.1 (n + 1) P, upd p.2.2.2.1 (n + 1) Q, upd p.2.2.2.2 (n + 1) Z).2.2.1) ((nI (n + 1), upd p.2.1 (n + 1) (nI tn), upd p.2.2.1 (n + 1) P, upd p.2.2.2.1 (n + 1) Q, upd p.2.2.2.2 (n + 1) Z).2.2.2.1) ((nI (n + 1), upd p.2.1 (n + 1) (nI tn), upd p.2.2.1 (n + 1) P, upd p.2.2.2.1 (n + 1) Q, upd p.2.2.2.2 (n + 1) Z).2.2.2.2) k.1 k.2.1 k.2.2.1 k.2.2.2 r.2.1 r.2.2 l.1 l.2.1 l.2.2 s.1 s.2.1 s.2.2 o.1 o.2.1 o.2.2.1 o.2.2.2.1 o.2.2.2.2.1 o.2.2.2.2.2 h w.1 w.2.1 w.2.2.1 w.2.2.2.1 w.2.2.2.2.1 w.2.2.2.2.2.1 w.2.2.2.2.2.2) ∧ (¬ Q < 1 → wpX_appendEntry (fun i u => match u with | (f1, f2, a1, a2, a3, a4, a5, a6, a7, a8, a9, a10, a11, a12, a13, a14, a15, a16, a17, a18, a19, a20, a21, a22, a23, a24, a25, a26, a27, a28, a29, a30) => wX_publish_167 post (nI c) Q (nI (n + 1)) i f1 f2 a1 a2 a3 a4 a5 a6 a7 a8 a9 a10 a11 a12 a13 a14 a15 a16 a17 a18 a19 a20 a21 a22 a23 a24 a25 a26 a27 a28 a29 a30) (XS (nI (n + 1), upd p.2.1 (n + 1) (nI tn), upd p.2.2.1 (n + 1) P, upd p.2.2.2.1 (n + 1) Q, upd p.2.2.2.2 (n + 1) Z) k r l s o h w) (nI c) (nI (n + 1)) Q 0)) → wX_publish_86 post (nI c) (nI tn) P F Q p.1 r.1 p.2.1 p.2.2.1 p.2.2.2.1 p.2.2.2.2 k.1 k.2.1 k.2.2.1 k.2.2.2 r.2.1 r.2.2 l.1 l.2.1 l.2.2 s.1 s.2.1 s.2.2 o.1 o.2.1 o.2.2.1 o.2.2.2.1 o.2.2.2.2.1 o.2.2.2.2.2 h w.1 w.2.1 w.2.2.1 w.2.2.2.1 w.2.2.2.2.1 w.2.2.2.2.2.1 w.2.2.2.2.2.2 := by
    intro k r l s h post hp
    have h145 : wX_publish_145 post (nI c) Q (nI (n + 1)) Z (nI (n + 1)) (nI (n + 1)) r.1 (upd p.2.1 (n + 1) (nI tn)) (upd p.2.2.1 (n + 1) P) (upd p.2.2.2.1 (n + 1) Q) p.2.2.2.2 k.1 k.2.1 k.2.2.1 k.2.2.2 r.2.1 r.2.2 l.1 l.2.1 l.2.2 s.1 s.2.1 s.2.2 o.1 o.2.1 o.2.2.1 o.2.2.2.1 o.2.2.2.2.1 o.2.2.2.2.2 h w.1 w.2.1 w.2.2.1 w.2.2.2.1 w.2.2.2.2.1 w.2.2.2.2.2.1 w.2.2.2.2.2.2 := ⟨i25, nm_r (by rw [cs, pn_b hZ1]) hp⟩
    refine nm_r en ⟨i25, nm_r (by rw [cs]) ⟨i25, nm_r (by rw [cs]) ⟨i25, nm_r (by rw [cs]) ?_⟩⟩⟩
    rcases hZ2 with ⟨h4, rfl⟩ | ⟨h4, rfl⟩
    · exact br_t h4 h145
    · exact br_f h4 h145
  have hY : ∀ (k : TK) (q : TR) (l s : TL) (g m : TA) (t : T5) (post : Int32 → SY → Prop), ((Q = 0 → wpY_put (fun u => post (nI (n + 1)) u) (YS (nI (n + 1), upd p.2.1 (n + 1) (nI tn), upd p.2.2.1 (n + 1) P, upd p.2.2.2.1 (n + 1) Q, upd p.2.2.2.2 (n + 1) Z) k q l s e g m z t) (nI c * 2) 1 0 (nI (n + 1)) 0 0) ∧ (¬ Q = 0 → wpY_addEntry (fun i u => wpY_put (fun u => post (nI (n + 1)) u) u (nI c * 2) 1 i (nI (n + 1)) Q 0) (YS (nI (n + 1), upd p.2.1 (n + 1) (nI tn), upd p.2.2.1 (n + 1) P, upd p.2.2.2.1 (n + 1) Q, upd p.2.2.2.2 (n + 1) Z) k q l s e g m z t) (nI c * 2) (nI (n + 1)) Q 0)) → wY_publish_92 post (nI c) (nI tn) P F Q p.1 q.1 t.1 t.2.1 t.2.2.1 t.2.2.2.1 t.2.2.2.2 p.2.1 p.2.2.1 p.2.2.2.1 p.2.2.2.2 k.2.2.1 k.1 k.2.1 k.2.2.2 q.2.1 q.2.2 l.1 l.2.1 l.2.2 s.2.1 s.2.2 s.1 e.2.1 e.2.2.1 e.2.2.2.1 e.2.2.2.2.1 e.2.2.2.2.2 e.1 g m z.2.1 z.2.2.1 z.2.2.2.1 z.2.2.2.2.1 z.2.2.2.2.2 z.1 := by
    intro k q l s g m t post hp
    have h151 : wY_publish_151 post (nI c) Q (nI (n + 1)) Z (nI (n + 1)) (nI (n + 1)) q.1 t.1 t.2.1 t.2.2.1 t.2.2.2.1 t.2.2.2.2 (upd p.2.1 (n + 1) (nI tn)) (upd p.2.2.1 (n + 1) P) (upd p.2.2.2.1 (n + 1) Q) p.2.2.2.2 k.2.2.1 k.1 k.2.1 k.2.2.2 q.2.1 q.2.2 l.1 l.2.1 l.2.2 s.2.1 s.2.2 s.1 e.2.1 e.2.2.1 e.2.2.2.1 e.2.2.2.2.1 e.2.2.2.2.2 e.1 g m z.2.1 z.2.2.1 z.2.2.2.1 z.2.2.2.2.1 z.2.2.2.2.2 z.1 := ⟨i25, nm_r (by rw [cs, pn_b hZ1]) hp⟩
    refine nm_r en ⟨i25, nm_r (by rw [cs]) ⟨i25, nm_r (by rw [cs]) ⟨i25, nm_r (by rw [cs]) ?_⟩⟩⟩
    rcases hZ2 with ⟨h4, rfl⟩ | ⟨h4, rfl⟩
    · exact br_t h4 h151
    · exact br_f h4 h151
  by_cases q0 : Q = 0
  · subst q0
    obtain ⟨w', z', a1, a2, a3⟩ := pr_put HW hc (b := 0) (by omega) (K := 1) (I := 0) (S := nI (n + 1)) (Q := 0) (M := 0) ⟨⟨0, by omega, rfl, fun _ => ⟨⟨n + 1, by omega, by omega, rfl⟩, Or.inl rfl⟩, fun h => absurd rfl h⟩, Or.inl rfl⟩
    rw [e0] at a2
    exact ⟨_, o, e, w', z', HP', HO, a1, fun k r l s h post hp => hX k r l s h post (br_t (by decide) (a2 _ k r l s o h _ hp)), fun k q l s g m t post hp => hY k q l s g m t post (br_t rfl (by rw [yb]; exact a3 _ k q l s e g m t _ hp))⟩
  · obtain ⟨a, a4, ha⟩ := hf q0
    have hQ2 : Q = 1 ∨ Q = 2 := by
      rcases hQ with h | h | h
      · exact absurd h q0
      · exact Or.inl h
      · exact Or.inr h
    have hlt : ¬ Q < 1 := by
      rcases hQ2 with h | h <;> rw [h] <;> decide
    obtain ⟨o', e', i, i1, i2, c1, c2, c3⟩ := pr_add HO hc (b := 0) (by omega) (by rw [e0]; exact ha) (fun _ => a4) (by omega) (S := nI (n + 1)) (Q := Q) (M := 0) ⟨n + 1, by omega, by omega, rfl⟩ hQ2 (Or.inl rfl)
    obtain ⟨w', z', a1, a2, a3⟩ := pr_put HW hc (b := 0) (by omega) (K := 1) (I := nI i) (S := nI (n + 1)) (Q := Q) (M := 0) ⟨⟨i, i2, rfl, fun _ => ⟨⟨n + 1, by omega, by omega, rfl⟩, Or.inr ⟨hQ2, i1⟩⟩, fun h => absurd rfl h⟩, Or.inl rfl⟩
    rw [e0] at a2 c2
    exact ⟨_, o', e', w', z', HP', c1, a1, fun k r l s h post hp => hX k r l s h post (br_f hlt (c2 _ k r l s h w _ (a2 _ k r l s o' h _ hp))), fun k q l s g m t post hp => hY k q l s g m t post (br_f q0 (by rw [yb]; exact c3 _ k q l s g m z t _ (a3 _ k q l s e' g m t _ hp)))⟩
theorem i_vc_publish {k : Nat} {u : SX} {v : SY} (I : i_Rel k u v) (hk : k + 5 ≤ 2560) (v1 : Int32) (v2 : Int32) (v3 : Int32) (v4 : Int32) : wpX_publish (fun r u' => wpY_publish (fun r' v' => r' = r ∧ i_Rel (k + 5) u' v') v v1 v2 v3 v4) u v1 v2 v3 v4 := by
  have R : i_Rel (k + 5) u v := I
  obtain ⟨p, kk, r, q, l, s, o, e, h, g, m, w, z, t, rfl, rfl, HP, HL, HR, HO, HH, HW⟩ := I
  unfold wpX_publish
  rcases pr_cl v1 with ⟨cX, cY⟩ | ⟨c, hc, rfl, cX, cY⟩
  · exact cX _ (br_t rfl (by unfold wpY_publish; exact cY _ _ (br_f (by decide) ⟨rfl, R⟩)))
  · have cc : (nI c).toNatClampNeg = c := nI_clamp (by omega)
    have i4 : vp_in (nI c) 4 := vp_in_nI hc (by omega)
    have x0 : vp_in (nI c) 8 := vp_in_nI (by omega) (by omega)
    have y0 : vp_in (nI c * 2) 8 := by rw [pn_m2]; exact vp_in_nI (by omega) (by omega)
    have d0 : (nI c * 2).toNatClampNeg = 2 * c + 0 := by rw [pn_m2]; exact nI_clamp (by omega)
    have e0 : 4 * 0 + c = c := by omega
    by_cases hl : l.1 c = 0
    · have hl' : l.1 (nI c).toNatClampNeg = 0 := by rw [cc]; exact hl
      exact cX _ (br_f (by decide) ⟨i4, br_t hl' (by unfold wpY_publish; exact cY _ _ (br_t rfl ⟨i4, br_t hl' ⟨rfl, R⟩⟩))⟩)
    · have hl' : ¬ l.1 (nI c).toNatClampNeg = 0 := by rw [cc]; exact hl
      obtain ⟨T, hT, tX, tY⟩ := pr_tp v2
      rcases hT with rfl | ⟨rfl, tn, ht, rfl⟩
      · exact cX _ (br_f (by decide) ⟨i4, br_f hl' (nm_e (tX _ (br_t rfl (by unfold wpY_publish; exact cY _ _ (br_t rfl ⟨i4, br_f hl' (tY p kk q l s e g m z t _ (br_t rfl ⟨rfl, R⟩))⟩)))))⟩)
      · by_cases f0 : v4 < 0
        · exact cX _ (br_f (by decide) ⟨i4, br_f hl' (nm_e (tX _ (br_f (by decide) (br_t f0 (by unfold wpY_publish; exact cY _ _ (br_t rfl ⟨i4, br_f hl' (tY p kk q l s e g m z t _ (br_f (by decide) (br_t f0 ⟨rfl, R⟩)))⟩))))))⟩)
        · by_cases f6 : 6 < v4
          · exact cX _ (br_f (by decide) ⟨i4, br_f hl' (nm_e (tX _ (br_f (by decide) (br_f f0 (br_t f6 (by unfold wpY_publish; exact cY _ _ (br_t rfl ⟨i4, br_f hl' (tY p kk q l s e g m z t _ (br_f (by decide) (br_f f0 (br_t f6 ⟨rfl, R⟩))))⟩)))))))⟩)
          · by_cases f3 : v4 &&& 3 = 3
            · exact cX _ (br_f (by decide) ⟨i4, br_f hl' (nm_e (tX _ (br_f (by decide) (br_f f0 (br_f f6 (br_t f3 (by unfold wpY_publish; exact cY _ _ (br_t rfl ⟨i4, br_f hl' (tY p kk q l s e g m z t _ (br_f (by decide) (br_f f0 (br_f f6 (br_t f3 ⟨rfl, R⟩)))))⟩))))))))⟩)
            · have hQ : ps_q3 (v4 &&& 3) := by
                obtain ⟨j, hj, ej⟩ := pk_andE v4 (m := 3) 2 (by decide)
                rw [ej] at f3 ⊢
                have h4 : j = 0 ∨ j = 1 ∨ j = 2 ∨ j = 3 := by omega
                rcases h4 with rfl | rfl | rfl | rfl
                · exact Or.inl rfl
                · exact Or.inr (Or.inl rfl)
                · exact Or.inr (Or.inr rfl)
                · exact absurd rfl f3
              generalize hQe : v4 &&& 3 = Q at hQ f3
              obtain ⟨n, n24, hn, HPa⟩ := id HP
              by_cases hfull : n = 24
              · subst hfull
                have hx : p.1 = 24 := hn
                have hy : ¬ p.1 < 24 := by rw [hx]; decide
                exact cX _ (br_f (by decide) ⟨i4, br_f hl' (nm_e (tX _ (br_f (by decide) (br_f f0 (br_f f6 (br_f f3 (br_t hx (by unfold wpY_publish; exact cY _ _ (br_t rfl ⟨i4, br_f hl' (tY p kk q l s e g m z t _ (br_f (by decide) (br_f f0 (br_f f6 (br_f (by rw [hQe]; exact f3) (br_f hy ⟨rfl, R⟩))))))⟩)))))))))⟩)
              · have hx : ¬ p.1 = 24 := by
                  rw [hn]
                  intro x
                  have := (nI_eq (b := 24) (by omega) (by omega)).mp x
                  omega
                have hy : p.1 < 24 := by rw [hn]; exact nI_lt (b := 24) (by omega) (by omega)
                obtain ⟨a, a4, a1, a2, _⟩ := HO.1 c 0 hc (by omega)
                have a4' := a4 rfl
                rw [e0] at a1
                -- what is left of Y's walk, its last branch given
                have hYY : ∀ (post : Int32 → SY → Prop), (((Q < 1 → wY_publish_92 post (nI c) (nI tn) v3 v4 Q p.1 q.1 t.1 t.2.1 t.2.2.1 t.2.2.2.1 t.2.2.2.2 p.2.1 p.2.2.1 p.2.2.2.1 p.2.2.2.2 kk.2.2.1 kk.1 kk.2.1 kk.2.2.2 q.2.1 q.2.2 l.1 l.2.1 l.2.2 s.2.1 s.2.2 s.1 e.2.1 e.2.2.1 e.2.2.2.1 e.2.2.2.2.1 e.2.2.2.2.2 e.1 g m z.2.1 z.2.2.1 z.2.2.2.1 z.2.2.2.2.1 z.2.2.2.2.2 z.1) ∧ (¬ Q < 1 → (vp_in (nI c * 2) 8 ∧ ((e.1 (nI c * 2).toNatClampNeg < 4 → wY_publish_92 post (nI c) (nI tn) v3 v4 Q p.1 q.1 t.1 t.2.1 t.2.2.1 t.2.2.2.1 t.2.2.2.2 p.2.1 p.2.2.1 p.2.2.2.1 p.2.2.2.2 kk.2.2.1 kk.1 kk.2.1 kk.2.2.2 q.2.1 q.2.2 l.1 l.2.1 l.2.2 s.2.1 s.2.2 s.1 e.2.1 e.2.2.1 e.2.2.2.1 e.2.2.2.2.1 e.2.2.2.2.2 e.1 g m z.2.1 z.2.2.1 z.2.2.2.1 z.2.2.2.2.1 z.2.2.2.2.2 z.1) ∧ (¬ e.1 (nI c * 2).toNatClampNeg < 4 → post (-5) (YS p kk q l s e g m z t))))))) → wpY_publish post (YS p kk q l s e g m z t) (nI c) (nI tn) v3 v4 := by
                  intro post hp
                  unfold wpY_publish
                  exact cY _ _ (br_t rfl ⟨i4, br_f hl' (tY p kk q l s e g m z t _ (br_f (by decide) (br_f f0 (br_f f6 (br_f (by rw [hQe]; exact f3) (br_t hy (nm_r hQe hp)))))))⟩)
                by_cases hcap : ¬ Q < 1 ∧ a = 4
                · obtain ⟨hq1, rfl⟩ := hcap
                  exact cX _ (br_f (by decide) ⟨i4, br_f hl' (nm_e (tX _ (br_f (by decide) (br_f f0 (br_f f6 (br_f f3 (br_f hx (br_f hq1 ⟨x0, br_t (by rw [cc, a1]; rfl) (hYY _ (br_f hq1 ⟨y0, br_f (by rw [d0, a2]; decide) ⟨rfl, R⟩⟩))⟩))))))))⟩)
                · obtain ⟨p', o', e', w', z', P1, P2, P3, pX, pY⟩ := pr_p86 HP HO HW (P := v3) (F := v4) hc hn (by omega) ht hQ (fun hne => ⟨a, by
                    have : ¬ Q < 1 := by
                      rcases hQ with h | h | h
                      · exact absurd h hne
                      · rw [h]; decide
                      · rw [h]; decide
                    have h2 : a ≠ 4 := fun h => hcap ⟨this, h⟩
                    omega, a1⟩)
                  have hend : wpY_publish (fun r' v' => r' = nI (n + 1) ∧ i_Rel (k + 5) (XS p' kk r l s o' h w') v') (YS p kk q l s e g m z t) (nI c) (nI tn) v3 v4 := by
                    have hy92 := pY kk q l s g m t (fun r' v' => r' = nI (n + 1) ∧ i_Rel (k + 5) (XS p' kk r l s o' h w') v') ⟨rfl, ir_mk P1 HL HR P2 HH P3⟩
                    refine hYY _ (br_c (fun _ => hy92) fun hq1 => ⟨y0, br_t ?_ hy92⟩)
                    rw [d0, a2]
                    exact nI_lt (b := 4) (by have h2 : a ≠ 4 := fun h => hcap ⟨hq1, h⟩; omega) (by omega)
                  have hx86 := pX kk r l s h (fun r u' => wpY_publish (fun r' v' => r' = r ∧ i_Rel (k + 5) u' v') (YS p kk q l s e g m z t) (nI c) (nI tn) v3 v4) hend
                  refine cX _ (br_f (by decide) ⟨i4, br_f hl' (nm_e (tX _ (br_f (by decide) (br_f f0 (br_f f6 (br_f f3 (br_f hx (br_c (fun _ => hx86) fun hq1 => ⟨x0, br_f ?_ hx86⟩))))))))⟩)
                  rw [cc, a1]
                  intro x
                  have := (nI_eq (b := 4) (by omega) (by omega)).mp x
                  exact hcap ⟨hq1, this⟩
end P21
