/-! new objects: the addresses chosen anew -/
def swA (A : Nat → Nat → Nat) (k i r : Nat) : Nat → Nat → Nat := fun k' i' => if A k' i' = r then A k i else if k' = k ∧ i' = i then r else A k' i'
theorem swA_at {A : Nat → Nat → Nat} {k i r : Nat} : swA A k i r k i = r := by
  unfold swA
  by_cases c : A k i = r
  · rw [if_pos c, c]
  · rw [if_neg c, if_pos ⟨rfl, rfl⟩]
theorem swA_ne {A : Nat → Nat → Nat} {k i r k' i' : Nat} (h : A k' i' ≠ r) (h2 : ¬ (k' = k ∧ i' = i)) : swA A k i r k' i' = A k' i' := by
  unfold swA
  rw [if_neg h, if_neg h2]
theorem swA_inj {A : Nat → Nat → Nat} {k i r : Nat} (hA : qInj A) (hr : r ≠ 0) : qInj (swA A k i r) := by
  have hi : ∀ {a b c d : Nat}, A a b = A c d → a = c ∧ b = d := fun {a b c d} h => by rw [hA.1] at h; exact h
  refine ⟨fun k1 i1 k2 i2 => propext ⟨fun h => ?_, fun h => by rw [h.1, h.2]⟩, fun k1 i1 => ?_⟩
  · unfold swA at h
    by_cases c1 : A k1 i1 = r
    · rw [if_pos c1] at h
      by_cases c2 : A k2 i2 = r
      · exact hi (c1.trans c2.symm)
      · rw [if_neg c2] at h
        by_cases d2 : k2 = k ∧ i2 = i
        · rw [if_pos d2] at h
          have := hi (c1.trans h.symm)
          omega
        · rw [if_neg d2] at h
          have := hi h
          omega
    · rw [if_neg c1] at h
      by_cases d1 : k1 = k ∧ i1 = i
      · rw [if_pos d1] at h
        by_cases c2 : A k2 i2 = r
        · rw [if_pos c2] at h
          rw [d1.1, d1.2] at c1
          exact absurd h.symm c1
        · rw [if_neg c2] at h
          by_cases d2 : k2 = k ∧ i2 = i
          · omega
          · rw [if_neg d2] at h
            exact absurd h.symm c2
      · rw [if_neg d1] at h
        by_cases c2 : A k2 i2 = r
        · rw [if_pos c2] at h
          exact absurd (hi h) d1
        · rw [if_neg c2] at h
          by_cases d2 : k2 = k ∧ i2 = i
          · rw [if_pos d2] at h
            exact absurd h c1
          · rw [if_neg d2] at h
            exact hi h
  · unfold swA
    split
    · exact hA.2 _ _
    · split
      · exact hr
      · exact hA.2 _ _
/-- the indices that the book has -/
def Liv (D : qD) (k i : Nat) : Prop := ((k = 5 ∨ k = 10) → i < np D) ∧ ((k = 6 ∨ (11 ≤ k ∧ k ≤ 14)) → i < nq D) ∧ ((k = 7 ∨ k = 16 ∨ k = 17) → i < nb D) ∧ (k = 15 → ∃ q j, q < nq D ∧ i = 2 * q + j ∧ j < (fc D q).length)
theorem liv {D : qD} {k i : Nat} (hk : k ≠ 15) (h5 : (k = 5 ∨ k = 10) → i < np D) (h6 : (k = 6 ∨ (11 ≤ k ∧ k ≤ 14)) → i < nq D) (h7 : (k = 7 ∨ k = 16 ∨ k = 17) → i < nb D) : Liv D k i := ⟨h5, h6, h7, fun z => absurd z hk⟩
section
variable {A A' : Nat → Nat → Nat} {D : qD} {σ : qS}
theorem LyR_sw (hag : ∀ k i, gK σ (A k i) ≠ 0 → Liv D k i → A' k i = A k i) (h : LyR A D σ) : LyR A' D σ := by
  obtain ⟨y1, y2, y3, y4, y5, y6, y7, y8⟩ := h
  unfold LyR
  rw [hag 4 0 (by omega) (liv (by decide) (by omega) (by omega) (by omega)), hag 9 0 (by omega) (liv (by decide) (by omega) (by omega) (by omega)), hag 18 0 (by omega) (liv (by decide) (by omega) (by omega) (by omega))]
  exact ⟨y1, y2, y3, y4, y5, y6, y7, y8⟩
theorem SR_sw (hw : WF0 D) (hag : ∀ k i, gK σ (A k i) ≠ 0 → Liv D k i → A' k i = A k i) (h : SR A D σ) : SR A' D σ := by
  obtain ⟨h1, h2, h3, h4, h5, h6⟩ := h
  have e5 : ∀ p, p < np D → A' 5 p = A 5 p := fun p hp' => hag 5 p (by have := (h4 p hp').1.1; omega) (liv (by decide) (by omega) (by omega) (by omega))
  have e6 : ∀ q, q < nq D → A' 6 q = A 6 q := fun q hq => hag 6 q (by have := (h5 q hq).1.1; omega) (liv (by decide) (by omega) (by omega) (by omega))
  have e7 : ∀ b, b < nb D → A' 7 b = A 7 b := fun b hb => hag 7 b (by have := (h6 b hb).1.1; omega) (liv (by decide) (by omega) (by omega) (by omega))
  refine ⟨?_, LyR_sw hag h2, ?_, fun p hp' => ?_, fun q hq => ?_, fun b hb => ?_⟩
  · obtain ⟨b1, b2, b3, b4, b5, b6, b7, b8, b9, b10, b11, b12⟩ := h1
    unfold BsR
    rw [hag 0 0 (by omega) (liv (by decide) (by omega) (by omega) (by omega)), hag 1 0 (by omega) (liv (by decide) (by omega) (by omega) (by omega)), hag 2 0 (by omega) (liv (by decide) (by omega) (by omega) (by omega)), hag 3 0 (by omega) (liv (by decide) (by omega) (by omega) (by omega)), hag 4 0 (by have := h2.1; omega) (liv (by decide) (by omega) (by omega) (by omega)), hag 8 0 (by have := h3.1; omega) (liv (by decide) (by omega) (by omega) (by omega))]
    refine ⟨b1, b2, b3, b4, b5, b6, b7, b8.trans (List.map_congr_left fun x hx => (e5 x (List.mem_range.mp hx)).symm), b9, b10.trans (List.map_congr_left fun x hx => (e6 x (List.mem_range.mp hx)).symm), b11, b12.trans (List.map_congr_left fun x hx => (e7 x (List.mem_range.mp hx)).symm)⟩
  · obtain ⟨r1, r2, r3, r4, r5, r6, r7⟩ := h3
    unfold RdR
    rw [hag 8 0 (by omega) (liv (by decide) (by omega) (by omega) (by omega)), hag 19 0 (by omega) (liv (by decide) (by omega) (by omega) (by omega))]
    refine ⟨r1, r2, r3, r4, r5, fun i hi => ?_, ?_⟩
    · rw [e6, r6 i hi]
      refine (hw.2.2.2.2.2.2.2.1 _ ?_).1
      rw [List.getD_eq_getElem?_getD, List.getElem?_eq_getElem hi]
      exact List.getElem_mem _
    · rw [r7]
      unfold pRef
      split
      · rfl
      · rename_i hc
        rcases hw.2.2.2.2.2.2.1 with z | z
        · exact absurd z hc
        · rw [e6 _ z.2.1]
  · obtain ⟨⟨p1, p2, p3, p4, p5, p6⟩, p7⟩ := h4 p hp'
    unfold PgR
    rw [e5 p hp', hag 10 p (by omega) (liv (by decide) (by omega) (by omega) (by omega))]
    refine ⟨⟨p1, p2, p3, p4, p5, p6.trans (List.map_congr_left fun x hx => (e6 x ((hw.2.1 p hp').2.2.2 x hx).1.1).symm)⟩, p7⟩
  · obtain ⟨⟨a1, a2, a3, a4, a5, a6, a7, a8, a9, a10, a11, a12, a13, a14, a15, a16, a17⟩, p2⟩ := h5 q hq
    have hS := hw.2.2.2.2.1 q hq
    have e15 : ∀ i, i < (fc D q).length → A' 15 (2 * q + i) = A 15 (2 * q + i) := fun i hi => hag 15 _ (by have := (a17 i hi).1; omega) ⟨by omega, by omega, by omega, fun _ => ⟨q, i, hq, rfl, hi⟩⟩
    unfold PnR
    rw [e6 q hq, e5 _ hS.2.1, hag 11 q (by omega) (liv (by decide) (by omega) (by omega) (by omega)), hag 12 q (by omega) (liv (by decide) (by omega) (by omega) (by omega)), hag 13 q (by omega) (liv (by decide) (by omega) (by omega) (by omega)), hag 14 q (by omega) (liv (by decide) (by omega) (by omega) (by omega))]
    refine ⟨⟨a1, a2, a3, a4, a5, a6, a7, a8, a9, a10, a11, a12.trans (List.map_congr_left fun x hx => (e15 x (List.mem_range.mp hx)).symm), a13, a14.trans (List.map_congr_left fun x hx => (e7 x (hS.2.2.1.2.2.2.1 x hx).2).symm), a15, a16, fun i hi => ?_⟩, p2⟩
    unfold FcR
    rw [e15 i hi]
    exact a17 i hi
  · obtain ⟨⟨b1, b2, b3, b4, b5, b6, b7, b8⟩, p2, p3⟩ := h6 b hb
    have hS := hw.2.2.2.2.2.1 b hb
    unfold BlR
    rw [e7 b hb, e6 _ hS.2.1, hag 16 b (by omega) (liv (by decide) (by omega) (by omega) (by omega)), hag 17 b (by omega) (liv (by decide) (by omega) (by omega) (by omega))]
    refine ⟨⟨b1, b2, b3, b4, b5, b6, b7, b8⟩, p2, ?_⟩
    rw [p3]
    unfold bRef
    split
    · rfl
    · rename_i hc
      rcases hS.2.2.2.2.1 with z | z
      · exact absurd z hc
      · rw [e7 _ z.2]
theorem LaR_sw (hw : WF0 D) (hag : ∀ k i, gK σ (A k i) ≠ 0 → Liv D k i → A' k i = A k i) (hS : SR A D σ) {p : Nat} (hp' : p < np D) (h : LaR A D σ p) : LaR A' D σ p := by
  obtain ⟨h1, h2⟩ := h
  obtain ⟨s1, s2, s3, s4, s5, s6⟩ := hS
  refine ⟨?_, fun q hq => ?_⟩
  · rw [hag 5 p (by have := (s4 p hp').1.1; omega) (liv (by decide) (by omega) (by omega) (by omega))]
    exact h1
  · obtain ⟨k1, k2⟩ := (hw.2.1 p hp').2.2.2 q hq
    have hP := (s5 q k1.1).1
    have hq1 := k1.1
    obtain ⟨l1, l2, l3⟩ := h2 q hq
    rw [hag 6 q (by have := hP.1; omega) (liv (by decide) (by omega) (by omega) (by omega)), hag 13 q (by have := hP.2.2.2.2.2.2.2.2.2.2.2.2.2.2.1; omega) (liv (by decide) (by omega) (by omega) (by omega))]
    refine ⟨l1, l2, fun b hb => ?_⟩
    have hb1 := ((hw.2.2.2.2.1 q k1.1).2.2.2.2 k1.2 b hb).1.1
    have hB := (s6 b hb1).1
    rw [hag 16 b (by have := hB.2.2.2.2.2.2.1; omega) (liv (by decide) (by omega) (by omega) (by omega))]
    exact l3 b hb
end
