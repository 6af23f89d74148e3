/-! what 9h and 9q take of elsewhere -/
section
variable {D : qD}
theorem an_Q (hw : WF0 D) {b : Nat} (hb' : b < nb D) : qR (an D b) ∧ (an D b ≠ -1 → 0 ≤ an D b ∧ (an D b).toNat < nb D) := by
  have hS := hw.2.2.2.2.2.1 b hb'
  have hn := hw.1.2.2
  refine ⟨?_, fun h => (hS.2.2.2.2.1).resolve_left h⟩
  rcases hS.2.2.2.2.1 with z | z
  · rw [z]; unfold qR; omega
  · unfold qR; omega
end
