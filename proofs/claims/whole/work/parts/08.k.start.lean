/-! ## what the constructors leave -/
def chIx (a : Nat) : Nat := if a < 26 then (a - 6) % 7 else if a < 200 then (a - 30) % 7 else (a - 222) % 7
def M0 : Mem := fun a j => if kd a = 2 then (if j = 0 then nI (chIx a) else 0) else if kd a = 4 then (if j = 2 then -1 else 0) else if a = 27 then nI j else if a = 235 then -1 else 0
theorem M0_0 {a : Nat} (h2 : kd a ≠ 2) (h4 : kd a ≠ 4) (h27 : a ≠ 27) (h235 : a ≠ 235) (j : Nat) : M0 a j = 0 := by
  unfold M0
  rw [if_neg h2, if_neg h4, if_neg h27, if_neg h235]
theorem VS_0 : VS (fun _ => 0) := ⟨Nat.zero_le _, Nat.zero_le _, fun _ => rfl, Nat.zero_le _, by decide, fun j hj => absurd (show j < 0 from hj) (by omega)⟩
theorem inv_M0 : Inv M0 := by
  refine ⟨fun r hr => Or.inl ?_, ⟨0, by omega, M0_0 (by decide) (by decide) (by decide) (by decide) _, M0_0 (by decide) (by decide) (by decide) (by decide) _, fun k hk => absurd hk (by omega)⟩, ⟨fun _ => 0, ⟨M0_0 (by decide) (by decide) (by decide) (by decide) _, M0_0 (by decide) (by decide) (by decide) (by decide) _, M0_0 (by decide) (by decide) (by decide) (by decide) _, M0_0 (by decide) (by decide) (by decide) (by decide) _, fun j hj => absurd (show j < 0 from hj) (by omega)⟩, ⟨M0_0 (by decide) (by decide) (by decide) (by decide) _, M0_0 (by decide) (by decide) (by decide) (by decide) _, M0_0 (by decide) (by decide) (by decide) (by decide) _, M0_0 (by decide) (by decide) (by decide) (by decide) _, fun j hj => absurd (show j < 0 from hj) (by omega), fun j _ _ => M0_0 (by decide) (by decide) (by decide) (by decide) _⟩, VS_0, fun j hj => ?_⟩, acts_join (n := 0) (p := fun i => i) (A := fun _ _ => 0) ⟨by omega, M0_0 (by decide) (by decide) (by decide) (by decide) _, fun i hi => ⟨?_, hi⟩, fun i j _ _ h => h, fun i hi => absurd hi (by omega)⟩ ⟨M0_0 (by decide) (by decide) (by decide) (by decide) _, fun i hi => absurd hi (by omega)⟩ (fun i hi => absurd hi (by omega)), fun k hk => Or.inl ⟨?_, M0_0 (by decide) (by decide) (by decide) (by decide) _⟩, ⟨0, by omega, M0_0 (by decide) (by decide) (by decide) (by decide) _, M0_0 (by decide) (by decide) (by decide) (by decide) _, fun k hk => absurd hk (by omega)⟩, ?_, ?_⟩
  · have h : ∀ r, r < 8 → M0 (204 + 2 * r) 2 = -1 ∧ M0 235 r = -1 := by decide +kernel
    exact h r hr
  · have h : ∀ j, j < 5 → M0 (6 + j) 0 = nI j := by decide +kernel
    exact h j hj
  · have h : ∀ i, i < 24 → M0 27 i = nI i := by decide +kernel
    exact h i hi
  · have h : ∀ k, k < 2 → M0 (220 + 7 * k) 1 = 0 := by decide +kernel
    exact h k hk
  · rw [M0_0 (by decide) (by decide) (by decide) (by decide), M0_0 (by decide) (by decide) (by decide) (by decide)]
  · rw [M0_0 (by decide) (by decide) (by decide) (by decide), M0_0 (by decide) (by decide) (by decide) (by decide)]
