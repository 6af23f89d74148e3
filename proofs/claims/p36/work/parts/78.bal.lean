/-! a panel's balloons changed: takeOut and putIn of a panel -/
section
variable {g : qG} {l : Launch} {A : Nat → Nat → Nat} {D : qD} {σ : qS}
theorem dHs_back {q : Nat} {xs : List Nat} : dHs (dHs D q xs) q (hs D q) = D := by
  have : q_u2 (q_u2 D.2.2.1 1 q xs) 1 q (hs D q) = D.2.2.1 := by
    funext a b
    unfold q_u2
    by_cases c : a = 1 ∧ b = q
    · rw [if_pos c, c.1, c.2]; rfl
    · rw [if_neg c, if_neg c]
  show (D.1, D.2.1, q_u2 (q_u2 D.2.2.1 1 q xs) 1 q (hs D q), D.2.2.2) = D
  rw [this]
theorem dHs_dHs {q : Nat} {xs ys : List Nat} : dHs (dHs D q xs) q ys = dHs D q ys := by
  have : q_u2 (q_u2 D.2.2.1 1 q xs) 1 q ys = q_u2 D.2.2.1 1 q ys := by
    funext a b
    unfold q_u2
    by_cases c : a = 1 ∧ b = q
    · rw [if_pos c, if_pos c]
    · rw [if_neg c, if_neg c, if_neg c]
  show (D.1, D.2.1, q_u2 (q_u2 D.2.2.1 1 q xs) 1 q ys, D.2.2.2) = (D.1, D.2.1, q_u2 D.2.2.1 1 q ys, D.2.2.2)
  rw [this]
/-- the pages whose row has not the panel q are as they were -/
theorem LyEq_hs {q p : Nat} {xs : List Nat} (h : q ∉ row D p) : LyEq D (dHs D q xs) p := by
  refine ⟨rfl, rfl, rfl, fun q' hq' => ⟨rfl, rfl, rfl, rfl, ?_, fun b _ => rfl⟩⟩
  have hne : q' ≠ q := fun z => h (by rw [← z]; exact hq')
  rw [hs_at, if_neg hne]
theorem SR_hs (hA : qInj A) {σ' : qS} {q : Nat} {xs : List Nat} (hs' : σ' = sL σ (A 12 q) (xs.map (A 7))) (h : SR A D σ) : SR A (dHs D q xs) σ' := by
  have iK : gK σ' = gK σ := by rw [hs']; rfl
  have iI : gI σ' = gI σ := by rw [hs']; rfl
  have iN : gN σ' = gN σ := by rw [hs']; rfl
  have iP : gP σ' = gP σ := by rw [hs']; rfl
  have iA : gA σ' = gA σ := by rw [hs']; rfl
  have iR : gR σ' = gR σ := by rw [hs']; rfl
  have iL : ∀ x, x ≠ A 12 q → gL σ' x = gL σ x := fun x hx => by rw [hs']; exact if_neg hx
  obtain ⟨h1, h2, h3, h4, h5, h6⟩ := h
  refine ⟨?_, ?_, ?_, fun p' hp' => ?_, fun q' hq => ?_, fun b hb => ?_⟩
  · unfold BsR at h1 ⊢
    rw [iK, iP, iL (A 1 0) (by rw [Ne, hA.1]; omega), iL (A 2 0) (by rw [Ne, hA.1]; omega), iL (A 3 0) (by rw [Ne, hA.1]; omega)]
    exact h1
  · unfold LyR at h2 ⊢
    rw [iK, iN, iP, iA]
    exact h2
  · unfold RdR at h3 ⊢
    rw [iK, iN, iP, iR, iI]
    exact h3
  · have := h4 p' hp'
    unfold PgR at this ⊢
    rw [iK, iP, iI, iL (A 10 p') (by rw [Ne, hA.1]; omega)]
    exact this
  · obtain ⟨⟨a1, a2, a3, a4, a5, a6, a7, a8, a9, a10, a11, a12, a13, a14, a15, a16, a17⟩, p2⟩ := h5 q' hq
    unfold PnR FcR
    rw [iK, iP, iI, iL (A 11 q') (by rw [Ne, hA.1]; omega), hs_at]
    refine ⟨⟨a1, a2, a3, a4, a5, a6, a7, a8, a9, a10, a11, a12, a13, ?_, a15, a16, a17⟩, p2⟩
    by_cases c : q' = q
    · rw [if_pos c, c, hs']; exact if_pos rfl
    · rw [if_neg c, iL _ (fun z => c (qInj_i hA z))]; exact a14
  · have := h6 b hb
    unfold BlR at this ⊢
    rw [iK, iP, iI]
    exact this
theorem spec_takeB (hl : l.stackTraces = false) {q : Nat} (h : PnR A D σ q) {i : Nat} (hi : i < (hs D q).length) (h8 : (hs D q).length ≤ 4) : qMet g l M_X5_takeOut [vr (A 6 q), vi (i : Int)] σ (qTv0 (fun σ' => σ' = sL σ (A 12 q) (((hs D q).eraseIdx i).map (A 7)))) := by
  obtain ⟨a1, a2, a3, a4, a5, a6, a7, a8, a9, a10, a11, a12, a13, a14, a15, a16, a17⟩ := h
  refine wm_X5_takeOut hl ⟨by unfold qR; omega, fun z => by omega, fun _ => ⟨a1, ?_⟩⟩
  rw [a8]
  refine ⟨a13, _, spec_sizeM hl a13 a14, by unfold qR; omega, fun z => by omega, fun _ => ⟨_, spec_remove hl a13 (by rw [a14, List.length_map]; omega), fun σ' v h' => ⟨rfl, ?_⟩⟩⟩
  rw [h', a14, Int.toNat_natCast, map_eraseIdx']
theorem spec_putB (hl : l.stackTraces = false) {q b : Nat} (h : PnR A D σ q) {i : Nat} (hi : i ≤ (hs D q).length) (h8 : (hs D q).length ≤ 4) (hb : gK σ (A 7 b) = 1) : qMet g l M_X5_putIn [vr (A 6 q), vi (i : Int), vr (A 7 b)] σ (qTv0 (fun σ' => σ' = sL σ (A 12 q) (((hs D q).insertIdx i b).map (A 7)))) := by
  obtain ⟨a1, a2, a3, a4, a5, a6, a7, a8, a9, a10, a11, a12, a13, a14, a15, a16, a17⟩ := h
  refine wm_X5_putIn hl ⟨by unfold qR; omega, fun z => by omega, fun _ => ⟨a1, ?_⟩⟩
  rw [a8]
  refine ⟨a13, _, spec_sizeM hl a13 a14, by unfold qR; omega, fun z => by omega, fun _ => ⟨_, spec_insert hl a13 (by omega) (by rw [a14, List.length_map]; omega) (by rw [a14, List.length_map]; omega), fun σ' h' => ⟨rfl, ?_⟩⟩⟩
  rw [h', a14, Int.toNat_natCast, map_insertIdx']
end
