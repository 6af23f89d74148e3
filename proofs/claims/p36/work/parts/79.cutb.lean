/-! the book without a balloon -/
def dGb (D : qD) (b : Nat) : qD := dI D 8 b 1
def dCb (D : qD) (b : Nat) : qD := dGb (dHs D (hb D b) ((hs D (hb D b)).eraseIdx ((hs D (hb D b)).idxOf b))) b
section
variable {D : qD}
theorem gb_at {b b' : Nat} : gb (dGb D b) b' = if b' = b then 1 else gb D b' := by
  unfold gb dGb dI q_u2
  by_cases c : b' = b
  · rw [if_pos c]; exact if_pos ⟨rfl, c⟩
  · rw [if_neg c]; exact if_neg (fun z => c z.2)
theorem hs_Cb {b q : Nat} : hs (dCb D b) q = if q = hb D b then (hs D (hb D b)).eraseIdx ((hs D (hb D b)).idxOf b) else hs D q := hs_at
theorem gb_Cb {b b' : Nat} : gb (dCb D b) b' = if b' = b then 1 else gb D b' := gb_at
theorem WF0_Cb (hw : WF0 D) {b : Nat} (hb' : alB D b) (hna : ¬ isAn D b) : WF0 (dCb D b) := by
  obtain ⟨hq, hm⟩ := alB_home hw hb'
  obtain ⟨w1, w2, w3, w4, w5, w6, w7, w8, w9⟩ := hw
  have hnd := (w5 _ hq.1).2.2.1.2.1
  refine ⟨w1, w2, w3, w4, fun q hqn => ?_, fun b' hbn => ?_, w7, w8, w9⟩
  · obtain ⟨a1, a2, ⟨f1, f2, f3, f4, f5⟩, a4, a5⟩ := w5 q hqn
    refine ⟨a1, a2, ⟨f1, ?_, ?_, fun x hx => ?_, f5⟩, a4, fun hg x hx => ?_⟩
    · rw [hs_Cb]
      split
      · exact List.Nodup.eraseIdx _ hnd
      · exact f2
    · rw [hs_Cb]
      split
      · rename_i c
        rw [ers_len hm, ← c]; omega
      · exact f3
    · rw [hs_Cb] at hx
      by_cases c : q = hb D b
      · rw [if_pos c] at hx
        exact f4 x (by rw [c]; exact List.mem_of_mem_eraseIdx hx)
      · rw [if_neg c] at hx
        exact f4 x hx
    · have hne : x ≠ b ∧ x ∈ hs D q := by
        rw [hs_Cb] at hx
        by_cases c : q = hb D b
        · rw [if_pos c, ers_mem hnd hm] at hx
          rw [c]; exact hx
        · rw [if_neg c] at hx
          refine ⟨fun z => c ?_, hx⟩
          have := (a5 hg x hx).2
          rw [z] at this
          exact this.symm
      obtain ⟨g1, g2⟩ := a5 hg x hne.2
      exact ⟨⟨g1.1, by rw [gb_Cb, if_neg hne.1]; exact g1.2⟩, g2⟩
  · obtain ⟨a1, a2, a3, a4, a5, a6⟩ := w6 b' hbn
    refine ⟨?_, a2, a3, fun hg => ?_, a5, fun hg hv => ?_⟩
    · rw [gb_Cb]
      split
      · exact Or.inr rfl
      · exact a1
    · rw [gb_Cb] at hg
      by_cases c : b' = b
      · rw [if_pos c] at hg; omega
      · rw [if_neg c] at hg
        obtain ⟨g1, g2⟩ := a4 hg
        refine ⟨g1, ?_⟩
        rw [hs_Cb]
        show b' ∈ (if hb D b' = hb D b then _ else hs D (hb D b'))
        by_cases d : hb D b' = hb D b
        · rw [if_pos d, ers_mem hnd hm, ← d]
          exact ⟨c, g2⟩
        · rw [if_neg d]; exact g2
    · rw [gb_Cb] at hg
      by_cases c : b' = b
      · rw [if_pos c] at hg; omega
      · rw [if_neg c] at hg
        have hv' : an D b' ≠ -1 := hv
        have g := a6 hg hv'
        show gb (dCb D b) (an D b').toNat = 0
        rw [gb_Cb, if_neg]
        · exact g
        · intro z
          refine hna ⟨b', ⟨hbn, hg⟩, ?_⟩
          rcases a5 with y | y
          · exact absurd y hv'
          · omega
end
section
variable {g : qG} {l : Launch} {A : Nat → Nat → Nat} {D : qD} {σ : qS}
/-- trying does not look whether a balloon is gone -/
theorem LR_gb (h : SR A D σ) {b p : Nat} (hw1 : WF0 (dGb D b)) (hp' : p < np D) : LR A (dGb D b) σ p := by
  obtain ⟨c1, c2, c3, c4, c5, c6⟩ := h
  obtain ⟨w1, w2, w3, w4, w5, w6, w7, w8, w9⟩ := hw1
  obtain ⟨p1, p2, p3, p4⟩ := w2 p hp'
  refine ⟨c2, (c4 p hp').1, fun q hq => ⟨(c5 q (p4 q hq).1.1).1, (p4 q hq).2, fun b hb => (c6 b ((w5 q (p4 q hq).1.1).2.2.2.2 (p4 q hq).1.2 b hb).1.1).1⟩⟩
theorem SR_gb (hA : qInj A) {σ' : qS} {b : Nat} (hs' : σ' = sI σ 6 (A 7 b) 1) (h : SR A D σ) : SR A (dGb D b) σ' := by
  have i1 : ∀ f x, f ≠ 6 → gI σ' f x = gI σ f x := fun f x hf => by rw [hs']; exact gI_ne (fun z => hf z.1)
  have iK : gK σ' = gK σ := by rw [hs']; rfl
  have iL : gL σ' = gL σ := by rw [hs']; rfl
  have iN : gN σ' = gN σ := by rw [hs']; rfl
  have iP : gP σ' = gP σ := by rw [hs']; rfl
  have iA : gA σ' = gA σ := by rw [hs']; rfl
  have iR : gR σ' = gR σ := by rw [hs']; rfl
  obtain ⟨h1, h2, h3, h4, h5, h6⟩ := h
  refine ⟨?_, ?_, ?_, fun p' hp' => ?_, fun q hq => ?_, fun b' hb => ?_⟩
  · unfold BsR at h1 ⊢
    rw [iK, iL, iP]
    exact h1
  · unfold LyR at h2 ⊢
    rw [iK, iN, iP, iA]
    exact h2
  · unfold RdR at h3 ⊢
    rw [iK, iN, iP, iR, i1 241 _ (by decide)]
    exact h3
  · obtain ⟨⟨p1, p2, p3, p4, p5, p6⟩, p7⟩ := h4 p' hp'
    unfold PgR
    rw [iK, iL, iP, i1 160 _ (by decide), i1 165 _ (by decide), i1 162 _ (by decide)]
    exact ⟨⟨p1, p2, p3, p4, p5, p6⟩, p7⟩
  · obtain ⟨⟨a1, a2, a3, a4, a5, a6, a7, a8, a9, a10, a11, a12, a13, a14, a15, a16, a17⟩, p2⟩ := h5 q hq
    unfold PnR FcR
    rw [iK, iL, iP, i1 200 _ (by decide), i1 202 _ (by decide), i1 203 _ (by decide), i1 204 _ (by decide), i1 211 _ (by decide)]
    refine ⟨⟨a1, a2, a3, a4, a5, a6, a7, a8, a9, a10, a11, a12, a13, a14, a15, a16, fun i hi => ?_⟩, p2⟩
    rw [i1 80 _ (by decide), i1 81 _ (by decide), i1 82 _ (by decide)]
    exact a17 i hi
  · obtain ⟨p1, p2, p3⟩ := h6 b' hb
    unfold BlR
    rw [iK, iP, i1 0 _ (by decide), i1 1 _ (by decide), gb_at]
    refine ⟨p1, ?_, p3⟩
    rw [hs', gI_sI]
    by_cases c : b' = b
    · rw [if_pos c, if_pos ⟨rfl, by rw [c]⟩]
    · rw [if_neg c, if_neg (fun z => c (qInj_i hA z.2))]
      exact p2
end
