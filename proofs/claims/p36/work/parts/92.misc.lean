/-! what 9h and 9q take of elsewhere -/
section
variable {D D1 : qD}
theorem an_Q (hw : WF0 D) {b : Nat} (hb' : b < nb D) : qR (an D b) ∧ (an D b ≠ -1 → 0 ≤ an D b ∧ (an D b).toNat < nb D) := by
  have hS := hw.2.2.2.2.2.1 b hb'
  have hn := hw.1.2.2
  refine ⟨?_, fun h => (hS.2.2.2.2.1).resolve_left h⟩
  rcases hS.2.2.2.2.1 with z | z
  · rw [z]; unfold qR; omega
  · unfold qR; omega
theorem OK_one {p : Nat} (hw : WF D) (hnp : np D1 = np D) (hp' : p < np D) (hly : ∀ p', p' < np D → p' ≠ p → LyEq D D1 p') : (∀ p', p' < np D1 → OKp D1 p') ↔ OKp D1 p := by
  refine ⟨fun z => z p (by omega), fun z p' hp2 => ?_⟩
  by_cases c : p' = p
  · rw [c]; exact z
  · exact (LyEq_OK (WF0_Pg hw.1 (by omega)) (hly p' (by omega) c)).mpr (hw.2.1 p' (by omega))
theorem hs_len4 (hw : WF0 D) {q : Nat} (hq : q < nq D) : (hs D q).length ≤ 4 := (hw.2.2.2.2.1 q hq).2.2.1.2.2.1
end
