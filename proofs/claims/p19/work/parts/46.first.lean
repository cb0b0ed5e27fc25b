section Q46
abbrev z0A : TA := fun _ => 0
theorem LI_0 : LI 0 0 0 0 0 0 0 0 0 0 0 (XS (0, z0A, z0A, z0A, z0A) (z0A, z0A, z0A, z0A) (0, z0A, z0A) (z0A, z0A, z0A) (z0A, z0A, z0A) (z0A, z0A, z0A, z0A, z0A, z0A) z0A (z0A, z0A, z0A, z0A, z0A, z0A, z0A)) := by
  have am0 : ∀ d s, amf 0 0 d s = false := by
    intro d s
    unfold amf
    rw [lb_0, lb_0]
    split <;> simp
  refine ⟨fun _ => [], fun _ => [], fun _ _ => false, fun _ => false, fun _ => false, fun _ => false, fun _ => [], fun _ _ => 0, fun _ => 0, fun _ => 0, 0, fun _ => 0, fun _ => 0, ⟨⟨_, _, _, _, _, _, _, _, rfl, ?_, ?_, ?_, ?_, ?_, ?_, ?_, ?_⟩, ?_, by omega, ?_, ?_, ?_, ?_, ?_, ?_, ?_, ?_⟩, 0, 0, by omega, rfl, rfl, by omega, fun z => by omega⟩
  · exact ⟨rfl, by omega, fun _ _ => ⟨rfl, rfl, Nat.zero_le _⟩⟩
  · exact ⟨fun _ _ _ _ => rfl, fun _ _ => rfl, fun _ _ => rfl⟩
  · exact ⟨0, by omega, rfl, fun i hi => by omega⟩
  · exact fun _ _ => ⟨rfl, rfl, rfl⟩
  · exact fun _ _ => ⟨by simp, by simp, rfl, by simp⟩
  · exact ⟨fun _ _ => ⟨by simp, by simp, rfl, by simp⟩, fun _ => Or.inl rfl⟩
  · exact fun _ _ _ _ _ => rfl
  · exact ⟨fun _ _ => ⟨by simp, by simp, 0, by omega, rfl, rfl, by simp⟩, fun _ => Or.inl rfl⟩
  · have T : ∀ tk, TOK [] [] [] (fun _ => false) false tk := fun tk => ⟨ndk_nil, fun i _ _ => Or.inl ⟨rfl, rfl, rfl, rfl⟩⟩
    have N : ∀ s, NS [] [] 0 s := fun s => ⟨rfl, by simp, by simp⟩
    refine ⟨fun _ _ => T _, fun _ _ => T _, fun _ _ _ => ⟨rfl, rfl⟩, fun _ _ => ⟨by simp, by simp⟩, by simp, by simp, fun _ _ => Nat.zero_le _, by simp, fun _ _ => rfl, fun d s _ _ => N s, fun d s _ _ _ => XO_0 (N s), by simp, fun d s _ h => ?_⟩
    rw [am0] at h
    exact absurd h (by decide)
  · intro x _; simp
  · exact fun _ _ => Nat.zero_le _
  · exact fun _ => Nat.zero_le _
  · exact fun _ _ => Nat.zero_le _
  · intro s a b
    rw [b_0, decide_eq_false (by omega)]
  · intro s a b; omega
  · intro s a b; omega
  · intro s a b
    rw [b_0]
    simp
theorem i_vc (xs : Nat → Int32) (L : Nat) (hL : L ≤ 260) : wpL_law (fun r => r = 1) L xs := by
  refine ⟨30, 2377, by omega, by omega, ?_⟩
  unfold wpX_init
  refine ⟨by omega, by omega, by omega, by omega, by omega, by omega, by omega, by omega, by omega, by omega, by omega, by omega, by omega, by omega, by omega, by omega, by omega, by omega, by omega, by omega, by omega, by omega, by omega, by omega, by omega, by omega, by omega, by omega, by omega, by omega, by omega, by omega, by omega, by omega, by omega, by omega, by omega, by omega, by omega, by omega, by omega, by omega, by omega, by omega, by omega, by omega, by omega, by omega, by omega, by omega, by omega, by omega, by omega, by omega, by omega, by omega, by omega, by omega, by omega, by omega, ?_⟩
  have K := lw_47 (L := L) (xs := xs) (post := fun r => r = 1) (kc := 1 + 30) (ks := 32 + 2377) (by omega) rfl (201 * (L + 1)) 0 0 (by omega) (by omega) _ _ _ _ _ _ _ _ 0 0 0 0 0 0 0 0 0 0 LI_0
  rw [show nI 0 = (0 : Int32) from rfl] at K
  exact nm_e ⟨201 * (L + 1) + 1, K⟩
end Q46
