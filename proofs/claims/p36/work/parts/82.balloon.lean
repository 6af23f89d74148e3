/-! the class: balloon -/
section
variable {A : Nat → Nat → Nat} {D : qD} {σ : qS}
theorem LR_L {x p : Nat} {xs : List Nat} (hA : qInj A) (hx : x = A 2 0 ∨ x = A 3 0) (h : LR A D (sL σ x xs) p) : LR A D σ p := by
  have hL : ∀ k i, 10 ≤ k → gL (sL σ x xs) (A k i) = gL σ (A k i) := fun k i hk => if_neg (fun z => by rcases hx with y | y <;> (rw [y, hA.1] at z; omega))
  obtain ⟨h1, h2, h3⟩ := h
  refine ⟨h1, ?_, fun q hq => ?_⟩
  · unfold PgR at h2 ⊢
    rw [hL 10 p (by omega)] at h2
    exact h2
  · obtain ⟨a, b, c⟩ := h3 q hq
    refine ⟨?_, b, c⟩
    unfold PnR at a ⊢
    rw [hL 11 q (by omega), hL 12 q (by omega)] at a
    exact a
theorem LyEq_Nb {q i p : Nat} {v : Int} (hw : WF0 D) (hp' : p < np D) (h : q ∉ row D p) : LyEq D (dNb D q i v) p := by
  refine ⟨rfl, rfl, rfl, fun q' hq' => ⟨rfl, rfl, rfl, rfl, ?_, fun b hb => ?_⟩⟩
  · have hne : q' ≠ q := fun z => h (by rw [← z]; exact hq')
    rw [hs_Nb, if_neg hne]
  · have h1 := (hw.2.1 p hp').2.2.2 q' hq'
    have h2 := ((hw.2.2.2.2.1 q' h1.1.1).2.2.2.2 h1.1.2 b hb).1.1
    rw [lt_Nb, if_neg (by omega)]
/-- the new balloon stands -/
def NewB (A : Nat → Nat → Nat) (σ : qS) (q b : Nat) (v : Int) : Prop := (gK σ (A 7 b) = 1 ∧ gI σ 0 (A 7 b) = b ∧ gI σ 1 (A 7 b) = v ∧ gP σ 2 (A 7 b) = A 16 b ∧ gP σ 3 (A 7 b) = A 17 b ∧ gP σ 4 (A 7 b) = A 6 q ∧ gK σ (A 16 b) = 2 ∧ gK σ (A 17 b) = 2) ∧ gI σ 6 (A 7 b) = 0 ∧ gP σ 5 (A 7 b) = 0
theorem SR_Nb (hA : qInj A) {σ' : qS} {q i : Nat} {v : Int} (h : SR A (dHs D q ((hs D q).insertIdx i (nb D))) σ) (hN : NewB A σ q (nb D) v) (hs' : σ' = sL σ (A 3 0) ((List.range (nb D + 1)).map (A 7))) : SR A (dNb D q i v) σ' := by
  have iK : gK σ' = gK σ := by rw [hs']; rfl
  have iI : gI σ' = gI σ := by rw [hs']; rfl
  have iN : gN σ' = gN σ := by rw [hs']; rfl
  have iP : gP σ' = gP σ := by rw [hs']; rfl
  have iA : gA σ' = gA σ := by rw [hs']; rfl
  have iR : gR σ' = gR σ := by rw [hs']; rfl
  have iL : ∀ x, x ≠ A 3 0 → gL σ' x = gL σ x := fun x hx => by rw [hs']; exact if_neg hx
  obtain ⟨h1, h2, h3, h4, h5, h6⟩ := h
  refine ⟨?_, ?_, ?_, fun p' hp' => ?_, fun q' hq => ?_, fun b hb => ?_⟩
  · obtain ⟨b1, b2, b3, b4, b5, b6, b7, b8, b9, b10, b11, b12⟩ := h1
    unfold BsR
    rw [iK, iP, iL (A 1 0) (by rw [Ne, hA.1]; omega), iL (A 2 0) (by rw [Ne, hA.1]; omega), np_Nb, nq_Nb, nb_Nb]
    refine ⟨b1, b2, b3, b4, b5, b6, b7, b8, b9, b10, b11, ?_⟩
    rw [hs']; exact if_pos rfl
  · unfold LyR at h2 ⊢
    rw [iK, iN, iP, iA]
    exact h2
  · unfold RdR at h3 ⊢
    rw [iK, iN, iP, iR, iI]
    exact h3
  · rw [np_Nb] at hp'
    have := h4 p' hp'
    unfold PgR at this ⊢
    rw [iK, iP, iI, iL (A 10 p') (by rw [Ne, hA.1]; omega)]
    exact this
  · rw [nq_Nb] at hq
    have := h5 q' hq
    unfold PnR FcR at this ⊢
    rw [iK, iP, iI, iL (A 11 q') (by rw [Ne, hA.1]; omega), iL (A 12 q') (by rw [Ne, hA.1]; omega), hp_Nb]
    exact this
  · rw [nb_Nb] at hb
    unfold BlR
    rw [iK, iP, iI, hb_Nb, lt_Nb, gb_Nb, an_Nb]
    by_cases c : b = nb D
    · subst c
      rw [if_pos rfl, if_pos rfl, if_pos rfl, if_pos rfl]
      exact ⟨hN.1, hN.2.1, hN.2.2⟩
    · rw [if_neg c, if_neg c, if_neg c, if_neg c]
      exact h6 b (show b < nb D by omega)
end
section
variable {g : qG} {l : Launch} {A : Nat → Nat → Nat} {D : qD} {σ : qS}
/-- what a balloon's constructor leaves -/
theorem spec_initB (hl : l.stackTraces = false) {r h0 : Nat} {n v : Int} (hr : r ≠ 0) (hK : gK σ r = 1) (h6 : gI σ 6 r = 0) (h5 : gP σ 5 r = 0) :
    qMet g l M_X0_init [vr r, vi n, vr h0, vi v] σ (qTv0 (fun σ' => ∃ r2 r3, gK σ r2 = 0 ∧ r2 ≠ 0 ∧ gK σ r3 = 0 ∧ r3 ≠ 0 ∧ r3 ≠ r2 ∧ (∀ x, gK σ x ≠ 0 → x ≠ r → qSame σ σ' x) ∧ gK σ' r = 1 ∧ gI σ' 0 r = n ∧ gI σ' 1 r = v ∧ gP σ' 2 r = r2 ∧ gP σ' 3 r = r3 ∧ gP σ' 4 r = h0 ∧ gK σ' r2 = 2 ∧ gK σ' r3 = 2 ∧ gI σ' 6 r = 0 ∧ gP σ' 5 r = 0)) := by
  refine wm_X0_init hl ⟨hr, fun r2 hz2 hr2 σ5 h5' => ⟨fun s => s = σ5, wm_X1_init hl ⟨hr2, rfl, rfl⟩, fun σ13 h13 => ?_⟩⟩
  subst h13
  have hne2 : r ≠ r2 := fun z => by rw [z] at hK; omega
  have k5 : gK σ13 r = 1 := by rw [h5']; exact (if_neg hne2).trans hK
  refine ⟨k5, fun σ16 h16 r3 hz3 hr3 σ21 h21 => ⟨fun s => s = σ21, wm_X1_init hl ⟨hr3, rfl, rfl⟩, fun σ29 h29 => ?_⟩⟩
  subst h29
  have k16 : gK σ16 = gK σ13 := by rw [h16]; rfl
  have hne3 : r ≠ r3 := fun z => by rw [k16, ← z, k5] at hz3; omega
  have h32 : r3 ≠ r2 := fun z => by
    rw [k16, z, h5'] at hz3
    have : gK (nO σ r2 2) r2 = 2 := if_pos rfl
    omega
  have hz3' : gK σ r3 = 0 := by
    rw [k16, h5'] at hz3
    have : gK (nO σ r2 2) r3 = gK σ r3 := if_neg h32
    rw [this] at hz3; exact hz3
  have k21 : gK σ29 r = 1 := by rw [h21]; exact (if_neg hne3).trans ((congrFun k16 r).trans k5)
  refine ⟨k21, fun σ32 h32' σ34 h34 σ36 h36 σ38 h38 => ⟨rfl, r2, r3, hz2, hr2, hz3', hr3, h32, fun x hx hxr => ?_, ?_⟩⟩
  · have n2 : x ≠ r2 := fun z => hx (by rw [z]; exact hz2)
    have n3 : x ≠ r3 := fun z => hx (by rw [z]; exact hz3')
    rw [h38, h36, h34, h32', h21, h16, h5']
    refine ⟨?_, fun f => ?_, fun f => ?_, fun _ => rfl, fun _ => rfl, rfl, rfl⟩
    · show (if x = r3 then 2 else if x = r2 then 2 else gK σ x) = _
      rw [if_neg n3, if_neg n2]
    · show (if f = 1 ∧ x = r then v else if f = 0 ∧ x = r then n else if x = r3 then 0 else if x = r2 then 0 else gI σ f x) = _
      rw [if_neg (fun z => hxr z.2), if_neg (fun z => hxr z.2), if_neg n3, if_neg n2]
    · show (if f = 4 ∧ x = r then h0 else if f = 3 ∧ x = r then r3 else if x = r3 then 0 else if f = 2 ∧ x = r then r2 else if x = r2 then 0 else gP σ f x) = _
      rw [if_neg (fun z => hxr z.2), if_neg (fun z => hxr z.2), if_neg n3, if_neg (fun z => hxr z.2), if_neg n2]
  · have eK : ∀ x, gK σ38 x = if x = r3 then 2 else if x = r2 then 2 else gK σ x := fun x => by rw [h38, h36, h34, h32', h21, h16, h5']; rfl
    have eI : ∀ f, gI σ38 f r = if f = 1 ∧ r = r then v else if f = 0 ∧ r = r then n else if r = r3 then 0 else if r = r2 then 0 else gI σ f r := fun f => by rw [h38, h36, h34, h32', h21, h16, h5']; rfl
    have eP : ∀ f, gP σ38 f r = if f = 4 ∧ r = r then h0 else if f = 3 ∧ r = r then r3 else if r = r3 then 0 else if f = 2 ∧ r = r then r2 else if r = r2 then 0 else gP σ f r := fun f => by rw [h38, h36, h34, h32', h21, h16, h5']; rfl
    refine ⟨?_, ?_, ?_, ?_, ?_, ?_, ?_, ?_, ?_, ?_⟩
    · rw [eK, if_neg hne3, if_neg hne2]; exact hK
    · rw [eI]; simp
    · rw [eI]; simp
    · rw [eP]; simp [hne3]
    · rw [eP]; simp
    · rw [eP]; simp
    · rw [eK, if_neg (fun z => h32 z.symm), if_pos rfl]
    · rw [eK, if_pos rfl]
    · rw [eI]; simp [hne2, hne3, h6]
    · rw [eP]; simp [hne2, hne3, h5]
end
