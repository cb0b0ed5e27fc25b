section Q24
theorem XO_app {O W : List N5} {G : Nat → Bool} {r s : Nat} {t : N5} (h : XO O W G r s) (ht : t.1 ≠ 1) : XO O (W ++ [t]) G r s := by
  refine ⟨h.1, h.2.1, h.2.2.1, fun x hx hk => ?_⟩
  rcases List.mem_append.mp hx with z | z
  · exact h.2.2.2 x z hk
  · rw [List.mem_singleton.mp z] at hk
    exact absurd hk ht
theorem px_tb_e {p : TP} {k : TK} {r : TR} {l s : TL} {o : TO} {h : TA} {w : TW} {up se pe : Nat → Bool} {W : Nat → List N5} (HL : pc_L l up se pe) (HW : pc_W w W) {c : Nat} (hc : c < 4) (hu : up c = true) (he : W c = []) {post : Int32 → St1 → Prop} (hp : post 0 (XS p k r l s o h w)) : wpX_toBroker post (XS p k r l s o h w) (nI c) := by
  obtain ⟨_, _, _, _, _, hcnt, _⟩ := HW.1 c (by omega)
  have cc : (nI c).toNatClampNeg = c := nI_clamp (by omega)
  rw [he] at hcnt
  unfold wpX_toBroker
  exact px_li1 (p := p) (k := k) (r := r) (l := l) (s := s) (o := o) (h := h) (w := w) HL hc hu (br_f (by decide) ⟨vp_in_nI (by omega) (by omega), br_t (by rw [cc, hcnt]; rfl) hp⟩)
theorem px_tb_d {p : TP} {k : TK} {r : TR} {l s : TL} {o : TO} {h : TA} {w : TW} {up se pe : Nat → Bool} (HL : pc_L l up se pe) {c : Nat} (hc : c < 4) (hu : up c = false) {post : Int32 → St1 → Prop} (hp : post 0 (XS p k r l s o h w)) : wpX_toBroker post (XS p k r l s o h w) (nI c) := by
  unfold wpX_toBroker
  exact px_li0 (p := p) (k := k) (r := r) (l := l) (s := s) (o := o) (h := h) (w := w) HL hc hu (br_t rfl hp)
/-- one packet moved up on link c, or nothing there -/
def MVB (c : Nat) (W W2 : Nat → List N5) : Prop := (∀ x, x < 4 → x ≠ c → W2 x = W x) ∧ (W2 c).length ≤ (W c).length ∧ (W2 (4 + c)).length ≤ (W (4 + c)).length + 2 ∧ (∀ d, d < 4 → d ≠ c → (W2 (4 + d)).length ≤ (W (4 + d)).length + 1 ∧ (W2 (4 + d)).length + sw k1 (W2 c) ≤ (W (4 + d)).length + sw k1 (W c))
  ∧ (W2 c).length + (W2 (4 + c)).length + sw k1 (W2 c) ≤ (W c).length + (W (4 + c)).length + sw k1 (W c) ∧ sw k1 (W2 c) ≤ sw k1 (W c) ∧ (W c ≠ [] → sw wu (W2 c) + sw wd (W2 (4 + c)) < sw wu (W c) + sw wd (W (4 + c))) ∧ sw wu (W2 c) + sw wd (W2 (4 + c)) ≤ sw wu (W c) + sw wd (W (4 + c))
theorem MVB_0 {c : Nat} {W : Nat → List N5} (h : W c = []) : MVB c W W := ⟨fun _ _ _ => rfl, Nat.le_refl _, by omega, fun _ _ _ => ⟨by omega, Nat.le_refl _⟩, Nat.le_refl _, Nat.le_refl _, fun z => absurd h z, Nat.le_refl _⟩
/-- an answer moved up: at most one reply -/
theorem MVB_a {c : Nat} {W W2 : Nat → List N5} {t : N5} {L A : List N5} (hc : c < 4) (hW : W c = t :: L) (w1 : W2 c = L) (w2 : W2 (4 + c) = W (4 + c) ++ A) (w3 : ∀ x, x ≠ c → x ≠ 4 + c → W2 x = W x) (hA : A = [] ∨ ∃ r, A = [r] ∧ wd r < wd t) (ht : 0 < wd t) : MVB c W W2 := by
  have e1 : sw k1 (W c) = k1 t + sw k1 L := by rw [hW]; rfl
  have e2 : sw wu (W c) = wu t + sw wu L := by rw [hW]; rfl
  have e3 : wd t ≤ wu t := by unfold wu; omega
  have e4 : (W c).length = L.length + 1 := by rw [hW]; rfl
  refine ⟨fun x hx hxc => w3 x hxc (by omega), by rw [w1]; omega, ?_, fun d hd hdc => ?_, ?_, by rw [w1]; omega, fun _ => ?_, ?_⟩
  · rcases hA with rfl | ⟨r, rfl, _⟩
    · rw [w2, List.append_nil]; omega
    · rw [w2, List.length_append, List.length_singleton]; omega
  · rw [w3 (4 + d) (by omega) (by omega), w1]; omega
  · rcases hA with rfl | ⟨r, rfl, _⟩
    · rw [w1, w2, List.append_nil]; omega
    · rw [w1, w2, List.length_append, List.length_singleton]; omega
  · rcases hA with rfl | ⟨r, rfl, hr⟩
    · rw [w1, w2, List.append_nil]; omega
    · rw [w1, w2, sw_app]; omega
  · rcases hA with rfl | ⟨r, rfl, hr⟩
    · rw [w1, w2, List.append_nil]; omega
    · rw [w1, w2, sw_app]; omega
theorem wd_le (t : N5) : 1 ≤ wd t ∧ wd t ≤ 4 := by
  unfold wd
  by_cases a : t.1 = 1
  · rw [if_pos a]
    by_cases b : t.2.2.2.1 = 0
    · rw [if_pos b]; omega
    · rw [if_neg b]
      by_cases e : t.2.2.2.1 = 1
      · rw [if_pos e]; omega
      · rw [if_neg e]; omega
  · rw [if_neg a]
    by_cases b : t.1 = 3
    · rw [if_pos b]; omega
    · rw [if_neg b]
      by_cases e : t.1 = 4
      · rw [if_pos e]; omega
      · rw [if_neg e]; omega
theorem SND_sw {up : Bool} {s e m v v' : Nat} {O W O' W' : List N5} (h : SND up s e m O W v O' W' v') : sw wd W' ≤ sw wd W + 4 := by
  rcases h with ⟨_, _, _, h⟩ | ⟨_, _, _, h, _⟩ | ⟨_, _, i, _, _, _, _, h⟩ <;> rw [h]
  · cases up
    · simp
    · simp only [if_true, sw_app]
      have := (wd_le (1, 0, s, 0, m)).2
      omega
  · omega
  · cases up
    · simp
    · simp only [if_true, sw_app]
      have := (wd_le (1, i, s, e, m)).2
      omega
theorem ACD_sw {S : List (Int32 × Nat)} {T : Int32} {q sn v v' : Nat} {up : Bool} {O W O' W' : List N5} (h : ACD S T q up sn O W v O' W' v') : sw wd W' ≤ sw wd W + 4 := by
  rcases h with ⟨_, _, h2, _⟩ | ⟨b, _, _, _, h⟩
  · rw [h2]; omega
  · exact SND_sw h
theorem ACD_v {S : List (Int32 × Nat)} {T : Int32} {q sn v v' : Nat} {up : Bool} {O W O' W' : List N5} (h : ACD S T q up sn O W v O' W' v') : v ≤ v' ∧ v' ≤ v + 1 := by
  rcases h with ⟨_, _, _, h⟩ | ⟨b, _, _, _, ⟨_, _, h, _⟩ | ⟨_, _, _, _, h⟩ | ⟨_, h, _⟩⟩ <;> omega
/-- a publication moved up: the sends, at most one reply -/
theorem MVB_p {c : Nat} {W W2 : Nat → List N5} {V : Nat → List N5} {t : N5} {L A : List N5} (hc : c < 4) (hW : W c = t :: L) (ht : t.1 = 1) (w1 : W2 c = L) (w2 : ∀ x, x < 4 → x ≠ c → W2 x = W x) (w3 : W2 (4 + c) = V c ++ A) (w4 : ∀ d, d < 4 → d ≠ c → W2 (4 + d) = V d) (hV : ∀ d, d < 4 → (V d).length ≤ (W (4 + d)).length + 1 ∧ sw wd (V d) ≤ sw wd (W (4 + d)) + 4) (hA : A = [] ∨ ∃ r, A = [r] ∧ wd r < wd t) : MVB c W W2 := by
  have e1 : sw k1 (W c) = 1 + sw k1 L := by
    rw [hW]
    show k1 t + sw k1 L = _
    unfold k1
    rw [if_pos ht]
  have e2 : sw wu (W c) = wd t + 4 + sw wu L := by
    rw [hW]
    show wu t + sw wu L = _
    unfold wu
    rw [if_pos ht]
  have e4 : (W c).length = L.length + 1 := by rw [hW]; rfl
  have hpos := (wd_le t).1
  obtain ⟨v1, v2⟩ := hV c hc
  refine ⟨w2, by rw [w1]; omega, ?_, fun d hd hdc => ?_, ?_, by rw [w1]; omega, fun _ => ?_, ?_⟩
  · rcases hA with rfl | ⟨r, rfl, _⟩
    · rw [w3, List.append_nil]; omega
    · rw [w3, List.length_append, List.length_singleton]; omega
  · have := (hV d hd).1
    rw [w4 d hd hdc, w1]; omega
  · rcases hA with rfl | ⟨r, rfl, _⟩
    · rw [w1, w3, List.append_nil]; omega
    · rw [w1, w3, List.length_append, List.length_singleton]; omega
  · rcases hA with rfl | ⟨r, rfl, hr⟩
    · rw [w1, w3, List.append_nil]; omega
    · rw [w1, w3, sw_app]; omega
  · rcases hA with rfl | ⟨r, rfl, hr⟩
    · rw [w1, w3, List.append_nil]; omega
    · rw [w1, w3, sw_app]; omega
/-- what may be armed behind a call -/
def ARM (S : Nat → List (Int32 × Nat)) (tp : Nat → Int32) (qu ac ac2 ov ov2 : Nat → Nat) (O2 W2 : Nat → List N5) (H2 : Nat → Nat → Bool) (rc : Nat → Nat → Nat) : Prop := ∀ s d, d < 4 → ac s = 0 → 1 ≤ ac2 s → ov2 d = ov d → 1 ≤ qu s → (∃ f, f ∈ S d ∧ ma f.1 (tp s) = true ∧ qu s ≤ f.2) → (∃ e, e ∈ O2 (4 + d) ∧ e.1 = s ∧ e.2.2.2.1 = 0) ∧ (qu s = 2 → XO (O2 (4 + d)) (W2 (4 + d)) (H2 d) (rc d s) s)
theorem ARM_0 {S : Nat → List (Int32 × Nat)} {tp : Nat → Int32} {qu ac ov ov2 : Nat → Nat} {O2 W2 : Nat → List N5} {H2 : Nat → Nat → Bool} {rc : Nat → Nat → Nat} : ARM S tp qu ac ac ov ov2 O2 W2 H2 rc := fun s d _ h1 h2 => by omega
end Q24
