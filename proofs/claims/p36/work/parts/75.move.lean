/-! rows changed: takeOut and putIn of a page -/
def dRow (D : qD) (p : Nat) (xs : List Nat) : qD := dL D 0 p xs
def dHs (D : qD) (q : Nat) (xs : List Nat) : qD := dL D 1 q xs
section
variable {D : qD}
theorem row_at {p p' : Nat} {xs : List Nat} : row (dRow D p xs) p' = if p' = p then xs else row D p' := by
  unfold row dRow dL q_u2
  by_cases c : p' = p
  · rw [if_pos c]; exact if_pos ⟨rfl, c⟩
  · rw [if_neg c]; exact if_neg (fun z => c z.2)
theorem hs_at {q q' : Nat} {xs : List Nat} : hs (dHs D q xs) q' = if q' = q then xs else hs D q' := by
  unfold hs dHs dL q_u2
  by_cases c : q' = q
  · rw [if_pos c]; exact if_pos ⟨rfl, c⟩
  · rw [if_neg c]; exact if_neg (fun z => c z.2)
theorem dRow_back {p : Nat} {xs : List Nat} : dRow (dRow D p xs) p (row D p) = D := by
  have : q_u2 (q_u2 D.2.2.1 0 p xs) 0 p (row D p) = D.2.2.1 := by
    funext a b
    unfold q_u2
    by_cases c : a = 0 ∧ b = p
    · rw [if_pos c, c.1, c.2]; rfl
    · rw [if_neg c, if_neg c]
  show (D.1, D.2.1, q_u2 (q_u2 D.2.2.1 0 p xs) 0 p (row D p), D.2.2.2) = D
  rw [this]
theorem dRow_dRow {p : Nat} {xs ys : List Nat} : dRow (dRow D p xs) p ys = dRow D p ys := by
  have : q_u2 (q_u2 D.2.2.1 0 p xs) 0 p ys = q_u2 D.2.2.1 0 p ys := by
    funext a b
    unfold q_u2
    by_cases c : a = 0 ∧ b = p
    · rw [if_pos c, if_pos c]
    · rw [if_neg c, if_neg c, if_neg c]
  show (D.1, D.2.1, q_u2 (q_u2 D.2.2.1 0 p xs) 0 p ys, D.2.2.2) = (D.1, D.2.1, q_u2 D.2.2.1 0 p ys, D.2.2.2)
  rw [this]
theorem LyEq_row {p p' : Nat} {xs : List Nat} (h : p' ≠ p) : LyEq D (dRow D p xs) p' := ⟨by rw [row_at, if_neg h], rfl, rfl, fun q _ => ⟨rfl, rfl, rfl, rfl, rfl, fun b _ => rfl⟩⟩
/-- a row of the same panels in another order -/
theorem WF0_row (hw : WF0 D) {p : Nat} (hp' : p < np D) {xs : List Nat} (hnd : xs.Nodup) (hl : xs.length ≤ 8) (hm : ∀ q, q ∈ xs ↔ q ∈ row D p) : WF0 (dRow D p xs) := by
  obtain ⟨w1, w2, w3, w4, w5, w6, w7, w8, w9⟩ := hw
  refine ⟨w1, fun p' h => ?_, fun p' h => ?_, w4, fun q hq => ?_, w6, w7, w8, w9⟩
  · obtain ⟨a, b, c, d⟩ := w2 p' h
    refine ⟨a, ?_, ?_, fun q hq => ?_⟩
    · rw [row_at]
      split
      · exact hnd
      · exact b
    · unfold pn
      rw [row_at]
      split
      · exact hl
      · exact c
    · rw [row_at] at hq
      by_cases e : p' = p
      · rw [if_pos e] at hq
        subst e
        exact d q ((hm q).mp hq)
      · rw [if_neg e] at hq
        exact d q hq
  · obtain ⟨a, b, c⟩ := w3 p' h
    refine ⟨a, b, ?_⟩
    rw [row_at, if_neg]
    · exact c
    · intro z
      have : np D ≤ p' := h
      omega
  · obtain ⟨a, b, c, d, e⟩ := w5 q hq
    refine ⟨a, b, c, fun hg => ?_, e⟩
    have := d hg
    rw [row_at]
    show q ∈ (if hp D q = p then xs else row D (hp D q))
    by_cases f : hp D q = p
    · rw [if_pos f, hm, ← f]; exact this
    · rw [if_neg f]; exact this
end
section
variable {g : qG} {l : Launch} {A : Nat → Nat → Nat} {D : qD} {σ : qS}
theorem SR_row (hA : qInj A) {σ' : qS} {p : Nat} {xs : List Nat} (hs : σ' = sL σ (A 10 p) (xs.map (A 6))) (h : SR A D σ) : SR A (dRow D p xs) σ' := by
  have iK : gK σ' = gK σ := by rw [hs]; rfl
  have iI : gI σ' = gI σ := by rw [hs]; rfl
  have iN : gN σ' = gN σ := by rw [hs]; rfl
  have iP : gP σ' = gP σ := by rw [hs]; rfl
  have iA : gA σ' = gA σ := by rw [hs]; rfl
  have iR : gR σ' = gR σ := by rw [hs]; rfl
  have iL : ∀ x, x ≠ A 10 p → gL σ' x = gL σ x := fun x hx => by rw [hs]; exact if_neg hx
  obtain ⟨h1, h2, h3, h4, h5, h6⟩ := h
  refine ⟨?_, ?_, ?_, fun p' hp' => ?_, fun q hq => ?_, fun b hb => ?_⟩
  · unfold BsR at h1 ⊢
    rw [iK, iP, iL (A 1 0) (by rw [Ne, hA.1]; omega), iL (A 2 0) (by rw [Ne, hA.1]; omega), iL (A 3 0) (by rw [Ne, hA.1]; omega)]
    exact h1
  · unfold LyR at h2 ⊢
    rw [iK, iN, iP, iA]
    exact h2
  · unfold RdR at h3 ⊢
    rw [iK, iN, iP, iR, iI]
    exact h3
  · obtain ⟨⟨p1, p2, p3, p4, p5, p6⟩, p7⟩ := h4 p' hp'
    unfold PgR
    rw [iK, iP, iI, row_at]
    refine ⟨⟨p1, p2, p3, p4, p5, ?_⟩, p7⟩
    by_cases c : p' = p
    · rw [if_pos c, c, hs]; exact if_pos rfl
    · rw [if_neg c, iL _ (fun z => c (qInj_i hA z))]; exact p6
  · have := h5 q hq
    unfold PnR FcR at this ⊢
    rw [iK, iP, iI, iL (A 11 q) (by rw [Ne, hA.1]; omega), iL (A 12 q) (by rw [Ne, hA.1]; omega)]
    exact this
  · have := h6 b hb
    unfold BlR at this ⊢
    rw [iK, iP, iI]
    exact this
theorem map_eraseIdx' {f : Nat → Nat} (xs : List Nat) (i : Nat) : (xs.map f).eraseIdx i = (xs.eraseIdx i).map f := by
  induction xs generalizing i with
  | nil => rfl
  | cons a xs ih =>
    cases i with
    | zero => rfl
    | succ i => simp [ih]
theorem map_insertIdx' {f : Nat → Nat} (xs : List Nat) (i x : Nat) : (xs.map f).insertIdx i (f x) = (xs.insertIdx i x).map f := by
  induction xs generalizing i with
  | nil => cases i <;> rfl
  | cons a xs ih =>
    cases i with
    | zero => rfl
    | succ i => simp [ih]
theorem spec_takeP (hl : l.stackTraces = false) {p : Nat} (h : PgR A D σ p) {i : Nat} (hi : i < (row D p).length) (h8 : (row D p).length ≤ 8) : qMet g l M_X4_takeOut [vr (A 5 p), vi (i : Int)] σ (qTv0 (fun σ' => σ' = sL σ (A 10 p) (((row D p).eraseIdx i).map (A 6)))) := by
  obtain ⟨p1, p2, p3, p4, p5, p6⟩ := h
  refine wm_X4_takeOut hl ⟨by unfold qR; omega, fun z => by omega, fun _ => ⟨p1, ?_⟩⟩
  rw [p3]
  refine ⟨p5, _, spec_sizeM hl p5 p6, by unfold qR; omega, fun z => by omega, fun _ => ⟨_, spec_remove hl p5 (by rw [p6, List.length_map]; omega), fun σ' v h' => ⟨rfl, ?_⟩⟩⟩
  rw [h', p6, Int.toNat_natCast, map_eraseIdx']
theorem spec_putP (hl : l.stackTraces = false) {p q : Nat} (h : PgR A D σ p) {i : Nat} (hi : i ≤ (row D p).length) (h8 : (row D p).length ≤ 8) (hq : gK σ (A 6 q) = 6) : qMet g l M_X4_putIn [vr (A 5 p), vi (i : Int), vr (A 6 q)] σ (qTv0 (fun σ' => σ' = sL σ (A 10 p) (((row D p).insertIdx i q).map (A 6)))) := by
  obtain ⟨p1, p2, p3, p4, p5, p6⟩ := h
  refine wm_X4_putIn hl ⟨by unfold qR; omega, fun z => by omega, fun _ => ⟨p1, ?_⟩⟩
  rw [p3]
  refine ⟨p5, _, spec_sizeM hl p5 p6, by unfold qR; omega, fun z => by omega, fun _ => ⟨_, spec_insert hl p5 (by omega) (by rw [p6, List.length_map]; omega) (by rw [p6, List.length_map]; omega), fun σ' h' => ⟨rfl, ?_⟩⟩⟩
  rw [h', p6, Int.toNat_natCast, map_insertIdx']
end
