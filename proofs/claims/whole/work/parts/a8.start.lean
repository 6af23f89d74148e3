/-! the law: its start -/
section
variable {A : Nat → Nat → Nat} {D : qD} {σ σ' : qS}
theorem MR_same {A' : Nat → Nat → Nat} (h30 : A' 30 0 = A 30 0 ∧ qSame σ σ' (A 30 0)) (hT : ∀ t ∈ mTab, A' (t.1 - 280) 0 = A (t.1 - 280) 0 ∧ qSame σ σ' (A (t.1 - 280) 0)) (h : MR A D σ) : MR A' D σ' := by
  have hS := h.1.1
  obtain ⟨a30, s30⟩ := h30
  have hg : ∀ t ∈ mTab, ∀ i, gA σ' (A' (t.1 - 280) 0) i = gA σ (A (t.1 - 280) 0) i := fun t ht i => by rw [(hT t ht).1]; exact qSame_mA (hT t ht).2

  have g44 : ∀ i, gA σ' (A' 44 0) i = gA σ (A 44 0) i := hg (324, 20, 10) (by decide)
  have g45 : ∀ i, gA σ' (A' 45 0) i = gA σ (A 45 0) i := hg (325, 20, 10) (by decide)
  have g46 : ∀ i, gA σ' (A' 46 0) i = gA σ (A 46 0) i := hg (326, 20, 80) (by decide)
  have g47 : ∀ i, gA σ' (A' 47 0) i = gA σ (A 47 0) i := hg (327, 21, 10) (by decide)
  have g48 : ∀ i, gA σ' (A' 48 0) i = gA σ (A 48 0) i := hg (328, 20, 3) (by decide)
  have g49 : ∀ i, gA σ' (A' 49 0) i = gA σ (A 49 0) i := hg (329, 20, 50) (by decide)
  have g50 : ∀ i, gA σ' (A' 50 0) i = gA σ (A 50 0) i := hg (330, 20, 50) (by decide)
  have g51 : ∀ i, gA σ' (A' 51 0) i = gA σ (A 51 0) i := hg (331, 20, 50) (by decide)
  have g52 : ∀ i, gA σ' (A' 52 0) i = gA σ (A 52 0) i := hg (332, 20, 50) (by decide)
  have g53 : ∀ i, gA σ' (A' 53 0) i = gA σ (A 53 0) i := hg (333, 20, 50) (by decide)
  have g54 : ∀ i, gA σ' (A' 54 0) i = gA σ (A 54 0) i := hg (334, 20, 300) (by decide)
  have g55 : ∀ i, gA σ' (A' 55 0) i = gA σ (A 55 0) i := hg (335, 20, 50) (by decide)
  have g56 : ∀ i, gA σ' (A' 56 0) i = gA σ (A 56 0) i := hg (336, 20, 200) (by decide)
  have g57 : ∀ i, gA σ' (A' 57 0) i = gA σ (A 57 0) i := hg (337, 20, 80) (by decide)
  have g58 : ∀ i, gA σ' (A' 58 0) i = gA σ (A 58 0) i := hg (338, 20, 80) (by decide)
  have g59 : ∀ i, gA σ' (A' 59 0) i = gA σ (A 59 0) i := hg (339, 20, 80) (by decide)
  have g60 : ∀ i, gA σ' (A' 60 0) i = gA σ (A 60 0) i := hg (340, 20, 250) (by decide)
  have g61 : ∀ i, gA σ' (A' 61 0) i = gA σ (A 61 0) i := hg (341, 20, 320) (by decide)
  have g62 : ∀ i, gA σ' (A' 62 0) i = gA σ (A 62 0) i := hg (342, 20, 384) (by decide)
  have g63 : ∀ i, gA σ' (A' 63 0) i = gA σ (A 63 0) i := hg (343, 20, 10) (by decide)
  have g76 : ∀ i, gA σ' (A' 76 0) i = gA σ (A 76 0) i := hg (356, 20, 8192) (by decide)
  have hI : ∀ f, gI σ' f (A' 30 0) = gI σ f (A 30 0) := fun f => by rw [a30]; exact s30.2.1 f
  have hMS : MS A' σ' := ⟨by rw [a30, s30.1]; exact hS.1, fun t ht => by
    obtain ⟨e1, e2⟩ := hT t ht
    rw [a30, e1, s30.2.2.1, e2.1, e2.2.2.2.2.2.2]
    exact hS.2 t ht⟩
  obtain ⟨⟨-, h1, h2⟩, h3, h4, h5, h6, h7⟩ := h
  refine ⟨⟨hMS, ?_, ?_⟩, ?_, ?_, ?_, ?_, ?_⟩
  · unfold MA1 tid at h1 ⊢
    simp only [g44, g45, g46, g48, g49, g53, g55, g56, g57]
    exact h1
  · unfold MA2 at h2 ⊢
    simp only [g47, g50, g51, g52, g54, g58, g59]
    exact h2
  · unfold MSc at h3 ⊢
    simp only [hI]
    exact h3
  · unfold MRd at h4 ⊢
    simp only [hI, g76]
    exact h4
  · unfold MZ at h5 ⊢
    simp only [g63]
    exact h5
  · unfold ML MBox at h6 ⊢
    simp only [g60, g61, g63]
    exact h6
  · unfold MGo at h7 ⊢
    simp only [g60]
    exact h7
def cT : List Nat := [0, 1, 2, 3, 4, 8, 9, 18, 19]
theorem CR_live (h : CR A D0 σ) : ∀ t ∈ cT, gK σ (A t 0) ≠ 0 ∧ gK σ (A t 0) ≠ 40 := by
  obtain ⟨h1, h2, h3, -⟩ := h
  unfold BsR at h1
  unfold LyR at h2
  unfold RdR at h3
  intro t ht
  simp only [cT, List.mem_cons, List.not_mem_nil, or_false] at ht
  rcases ht with rfl | rfl | rfl | rfl | rfl | rfl | rfl | rfl | rfl
  · rw [h1.1]; decide
  · rw [h1.2.2.2.2.2.2.1]; decide
  · rw [h1.2.2.2.2.2.2.2.2.1]; decide
  · rw [h1.2.2.2.2.2.2.2.2.2.2.1]; decide
  · rw [h2.1]; decide
  · rw [h3.1]; decide
  · rw [h2.2.2.2.1]; decide
  · rw [h2.2.2.2.2.2.2.1]; decide
  · rw [h3.2.2.1]; decide
theorem CR_D0 {A' : Nat → Nat → Nat} (h : CR A D0 σ) (hs : ∀ t ∈ cT, A' t 0 = A t 0 ∧ qSame σ σ' (A t 0)) : CR A' D0 σ' := by
  obtain ⟨h1, h2, h3, -⟩ := h
  obtain ⟨a0, s0⟩ := hs 0 (by decide)
  obtain ⟨a1, s1⟩ := hs 1 (by decide)
  obtain ⟨a2, s2⟩ := hs 2 (by decide)
  obtain ⟨a3, s3⟩ := hs 3 (by decide)
  obtain ⟨a4, s4⟩ := hs 4 (by decide)
  obtain ⟨a8, s8⟩ := hs 8 (by decide)
  obtain ⟨a9, s9⟩ := hs 9 (by decide)
  obtain ⟨a18, s18⟩ := hs 18 (by decide)
  obtain ⟨a19, s19⟩ := hs 19 (by decide)
  refine ⟨?_, ?_, ?_, fun p h => absurd h (Nat.not_lt_zero _), fun q h => absurd h (Nat.not_lt_zero _), fun b h => absurd h (Nat.not_lt_zero _)⟩
  · unfold BsR at h1 ⊢
    rw [a0, a1, a2, a3, a4, a8, s0.1, s0.2.2.1, s0.2.2.1, s0.2.2.1, s0.2.2.1, s0.2.2.1, s1.1, s1.2.2.2.2.2.1, s2.1, s2.2.2.2.2.2.1, s3.1, s3.2.2.2.2.2.1]
    exact h1
  · unfold LyR at h2 ⊢
    rw [a4, a9, a18, s4.1, s4.2.2.1, s4.2.2.1, s9.1, s9.2.2.2.2.2.2, s18.1, s18.2.2.2.2.2.2]
    simp only [s9.2.2.2.1]
    exact h2
  · unfold RdR at h3 ⊢
    rw [a8, a19, s8.1, s8.2.2.1, s8.2.2.1, s8.2.1, s19.1, s19.2.2.2.2.2.2]
    refine ⟨h3.1, h3.2.1, h3.2.2.1, h3.2.2.2.1, h3.2.2.2.2.1, fun i hi => absurd hi (Nat.not_lt_zero _), h3.2.2.2.2.2.2⟩
end
