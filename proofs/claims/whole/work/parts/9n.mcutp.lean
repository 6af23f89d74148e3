/-! the model: cutPanel, its loops -/
section
variable {g : qG} {l : Launch} {A : Nat → Nat → Nat} {D D1 : qD} {σ σ0 σ1 σ2 σ' : qS} {c : Nat → Int}
theorem mforget (hA : qInj A) (hS : MS A σ) (h355 : gI σ 355 (A 30 0) = (kp D).length) (h76 : ∀ i : Nat, i < (kp D).length → gA σ (A 76 0) (i : Int) = (kp D).getD i 0) (hk : (kp D).length ≤ 512) (hv : ∀ x, x ∈ kp D → x < 50) {q : Nat} (hq : q < 50) {Post : qS → qRs → Prop} {x25 : Int} (hP : ∀ σ109 σ114 : qS, qMc A noI (fun t _ => t = 76) σ σ109 → (∀ j : Nat, j < (kpC D q).length → gA σ109 (A 76 0) (j : Int) = (kpC D q).getD j 0) → σ114 = sI σ109 355 (A 30 0) (kpC D q).length → Post σ114 (.inl (some (vi x25)))) :
    ∃ Inv103 : Nat → Int → Int → qS → Prop, (∃ n : Nat, Inv103 n 0 0 σ) ∧ ∀ (n104 : Nat) (x101 : Int) (x102 : Int) (σ109 : qS), Inv103 n104 x101 x102 σ109 → (gK σ109 (A 30 0) = 9 ∧ qR x102 ∧ qR (gI σ109 355 (A 30 0)) ∧ (((gI σ109 355 (A 30 0)) ≤ x102 → (∀ σ114 : qS, σ114 = sI σ109 355 (A 30 0) x101 → Post σ114 (.inl (some (vi x25))))) ∧ (¬ ((gI σ109 355 (A 30 0)) ≤ x102) → q_isA σ109 0 (gP σ109 356 (A 30 0)) ∧ q_in σ109 (gP σ109 356 (A 30 0)) x102 ∧ gK σ109 (gP σ109 356 (A 30 0)) = 20 ∧ q_in σ109 (gP σ109 356 (A 30 0)) x101 ∧ (∀ σ120 : qS, σ120 = sA σ109 (gP σ109 356 (A 30 0)) x101 (gA σ109 (gP σ109 356 (A 30 0)) x102) → q_isA σ120 0 (gP σ120 356 (A 30 0)) ∧ q_in σ120 (gP σ120 356 (A 30 0)) x102 ∧ ((qR (gA σ120 (gP σ120 356 (A 30 0)) x102) ∧ qR (q : Int)) ∧ ∀ v127 : Int, v127 = (if ¬ (gA σ120 (gP σ120 356 (A 30 0)) x102) = (q : Int) then 1 else 0) → ∀ x133 : Int, x133 = x101 + v127 → ∀ x135 : Int, x135 = x102 + 1 → ∃ n137 : Nat, n137 < n104 ∧ Inv103 n137 x133 x135 σ120))))) := by
  have hlen : ∀ k : Nat, (((kp D).take k).filter (fun x => decide (x ≠ q))).length ≤ ((kp D).take k).length := fun k => List.length_filter_le _ _
  refine ⟨fun n x1 x2 σ3 => ∃ k : Nat, x2 = k ∧ k ≤ (kp D).length ∧ n = (kp D).length - k ∧ x1 = ((((kp D).take k).filter (fun x => decide (x ≠ q))).length : Nat) ∧ qMc A noI (fun t _ => t = 76) σ σ3 ∧ (∀ i : Nat, i < (((kp D).take k).filter (fun x => decide (x ≠ q))).length → gA σ3 (A 76 0) (i : Int) = (((kp D).take k).filter (fun x => decide (x ≠ q))).getD i 0) ∧ ∀ i : Nat, k ≤ i → i < (kp D).length → gA σ3 (A 76 0) (i : Int) = (kp D).getD i 0, ⟨_, 0, rfl, Nat.zero_le _, rfl, rfl, qMc_rf, fun i hi => absurd hi (Nat.not_lt_zero _), fun i _ hi => h76 i hi⟩, ?_⟩
  rintro n x1 x2 σ3 ⟨k, rfl, hkk, rfl, rfl, hc, hdone, hrest⟩
  have hl2 := hlen k
  rw [List.length_take] at hl2
  have S3 := MS_c hc hS
  obtain ⟨a1, a2, a3⟩ := m356 S3
  have h3 : gI σ3 355 (A 30 0) = (kp D).length := by rw [qMc_f hc (fun z => z)]; exact h355
  rw [h3, a1]
  refine ⟨S3.1, by unfold qR; omega, by unfold qR; omega, fun hd σ114 h114 => ?_, fun hd => ?_⟩
  · have hke : k = (kp D).length := by omega
    have e : (kp D).take k = kp D := by rw [hke]; exact List.take_length
    rw [e] at hdone h114
    exact hP σ3 σ114 hc hdone h114
  have hkl : k < (kp D).length := by omega
  have hm : (kp D).getD k 0 ∈ kp D := by
    rw [List.getD_eq_getElem?_getD, List.getElem?_eq_getElem hkl]
    exact List.getElem_mem _
  have hv1 := hv _ hm
  have hgk := hrest k (Nat.le_refl _) hkl
  rw [hgk]
  refine ⟨q_isA0 a2, ⟨by omega, by rw [a3]; omega⟩, a2, ⟨by omega, by rw [a3]; omega⟩, fun σ120 h120 => ?_⟩
  have hc2 : qMc A noI (fun t _ => t = 76) σ σ120 := qMc_tr hc (by rw [h120]; exact qMc_A rfl)
  have S120 := MS_c hc2 hS
  obtain ⟨a1, a2, a3⟩ := m356 S120
  have g76 : ∀ j : Int, gA σ120 (A 76 0) j = if j = ((((kp D).take k).filter (fun x => decide (x ≠ q))).length : Nat) then ((kp D).getD k 0 : Int) else gA σ3 (A 76 0) j := fun j => by
    rw [h120, gA_at hA]; simp only [true_and]
  have hk2 : gA σ120 (A 76 0) (k : Int) = ((kp D).getD k 0 : Nat) := by
    rw [g76]
    split
    · rfl
    · exact hgk
  rw [a1, hk2]
  refine ⟨q_isA0 a2, ⟨by omega, by rw [a3]; omega⟩, ⟨by unfold qR; omega, by unfold qR; omega⟩, fun v127 h127 x133 h133 x135 h135 => ?_⟩
  have ef := filter_take (q := q) hkl
  by_cases e : (kp D).getD k 0 = q
  · rw [if_neg (fun z => z (by omega))] at h127
    rw [if_pos e, List.append_nil] at ef
    refine ⟨(kp D).length - (k + 1), by omega, k + 1, by omega, by omega, rfl, by rw [ef]; omega, hc2, fun i hi => ?_, fun i hi hi2 => ?_⟩
    · rw [ef] at hi ⊢
      rw [g76, if_neg (by omega)]; exact hdone i hi
    · rw [g76, if_neg (by omega)]; exact hrest i (by omega) hi2
  · rw [if_pos (fun z => e (by omega))] at h127
    rw [if_neg e] at ef
    refine ⟨(kp D).length - (k + 1), by omega, k + 1, by omega, by omega, rfl, by rw [ef, List.length_append, List.length_singleton]; omega, hc2, fun i hi => ?_, fun i hi hi2 => ?_⟩
    · rw [ef, List.length_append, List.length_singleton] at hi
      rw [ef, g76]
      by_cases c : i = (((kp D).take k).filter (fun x => decide (x ≠ q))).length
      · rw [if_pos (by omega), c, getD_app_r]
      · rw [if_neg (by omega), hdone i (by omega), getD_app_l (by omega)]
    · rw [g76, if_neg (by omega)]; exact hrest i (by omega) hi2
def isAnEK (D : qD) (q k : Nat) : Prop := ∃ c, c < k ∧ gb D c = 0 ∧ hb D c ≠ q ∧ an D c ≠ -1 ∧ hb D (an D c).toNat = q
theorem isAnEK_nb {q : Nat} : isAnEK D q (nb D) ↔ isAnE D q := ⟨fun ⟨c, h1, h2, h3⟩ => ⟨c, ⟨h1, h2⟩, h3⟩, fun ⟨c, h1, h3⟩ => ⟨c, h1.1, h1.2, h3⟩⟩
theorem isAnEK_s {q k : Nat} : isAnEK D q (k + 1) ↔ isAnEK D q k ∨ (gb D k = 0 ∧ hb D k ≠ q ∧ an D k ≠ -1 ∧ hb D (an D k).toNat = q) := by
  constructor
  · rintro ⟨c, h1, h2⟩
    by_cases e : c = k
    · rw [e] at h2; exact Or.inr h2
    · exact Or.inl ⟨c, by omega, h2⟩
  · rintro (⟨c, h1, h2⟩ | h2)
    · exact ⟨c, by omega, h2⟩
    · exact ⟨k, by omega, h2⟩
/-- the model's data without the panel -/
theorem mcp_B (hA : qInj A) {SA : Nat → Int → Prop} {q : Nat} (hw : WF0 D) (hq : alP D q) (h : MB A D σ) (hc : qMc A noI SA σ σ') (hS : ∀ t i, SA t i → (t = 45 ∧ i = (hp D q : Int)) ∨ (t = 46 ∧ 8 * (hp D q : Int) ≤ i ∧ i < 8 * (hp D q : Int) + 8) ∨ (t = 49 ∧ i = (q : Int)) ∨ t = 57) (h45 : gA σ' (A 45 0) (hp D q : Int) = ((rowC D q).length : Nat)) (h46 : ∀ j : Nat, j < (rowC D q).length → gA σ' (A 46 0) (8 * (hp D q : Int) + (j : Int)) = ((rowC D q).getD j 0 : Nat)) (h49 : gA σ' (A 49 0) (q : Int) = -1) (h57 : ∀ b : Nat, b < nb D → gA σ' (A 57 0) (b : Int) = cif (b ∈ hs D q) (-1) (pnv D b)) : MB A (dCp D q) σ' ∧ MA2 A D σ' := by
  obtain ⟨h1, ⟨b1, b2, b3, b4⟩, h2⟩ := h
  have h2' : MA2 A D σ' := MA2_c hA hc (fun t i ht z => by have := hS t i z; omega) h2
  have h2n : MA2 A (dCp D q) σ' := by
    obtain ⟨d1, d2, d3⟩ := h2'
    refine ⟨fun p hp' => by rw [sp_Cp]; exact d1 p hp', fun q' hq' => ?_, fun b hb => by rw [lt_Cp, an_Cp]; exact d3 b hb⟩
    rw [wt_Cp, wd_Cp, ht_Cp]
    exact d2 q' hq'
  refine ⟨⟨MS_c hc h1, ⟨fun p' hp' => ?_, fun t ht => ?_, fun q' hq' => ?_, fun b hb => ?_⟩, h2n⟩, h2'⟩
  · obtain ⟨x1, y1, z1⟩ := b1 p' hp'
    refine ⟨?_, ?_, fun j hj => ?_⟩
    · show gA σ' (A 44 0) (p' : Int) = _
      rw [qMc_at hA hc (fun z => by have := hS _ _ z; omega), tg_Cp]; exact x1
    · show gA σ' (A 45 0) (p' : Int) = ((row (dCp D q) p').length : Nat)
      rw [row_Cp]
      by_cases e : p' = hp D q
      · rw [if_pos e, e]; exact h45
      · rw [if_neg e, qMc_at hA hc (fun z => by have := hS _ _ z; omega)]; exact y1
    · have hj' : j < (row (dCp D q) p').length := hj
      show gA σ' (A 46 0) (8 * (p' : Int) + (j : Int)) = ((row (dCp D q) p').getD j 0 : Nat)
      rw [row_Cp] at hj' ⊢
      by_cases e : p' = hp D q
      · rw [if_pos e] at hj' ⊢
        rw [e]; exact h46 j hj'
      · rw [if_neg e] at hj' ⊢
        have hl8' : (row D p').length ≤ 8 := by
          rcases Nat.lt_or_ge p' (np D) with d | d
          · exact (hw.2.1 p' d).2.2.1
          · rw [(hw.2.2.1 p' d).2.2]; exact Nat.zero_le _
        rw [qMc_at hA hc (fun z => by have := hS _ _ z; omega)]
        exact z1 j hj'
  · show gA σ' (A 48 0) (t : Int) = _
    rw [qMc_at hA hc (fun z => by have := hS _ _ z; omega), gr_Cp]; exact b2 t ht
  · obtain ⟨x1, y1, z1, w1⟩ := b3 q' hq'
    refine ⟨?_, ?_, ?_, fun k hk => ?_⟩
    · show gA σ' (A 49 0) (q' : Int) = pgv (dCp D q) q'
      unfold pgv
      rw [gq_Cp]
      by_cases e : q' = q
      · rw [if_pos e, if_neg (by decide), e]; exact h49
      · rw [if_neg e, qMc_at hA hc (fun z => by have := hS _ _ z; omega)]; exact x1
    · show gA σ' (A 53 0) (q' : Int) = _
      rw [qMc_at hA hc (fun z => by have := hS _ _ z; omega)]; exact y1
    · show gA σ' (A 55 0) (q' : Int) = _
      rw [qMc_at hA hc (fun z => by have := hS _ _ z; omega), hs_Cp]; exact z1
    · show gA σ' (A 56 0) (4 * (q' : Int) + (k : Int)) = ((hs (dCp D q) q').getD k 0 : Nat)
      rw [hs_Cp] at hk ⊢
      rw [qMc_at hA hc (fun z => by have := hS _ _ z; omega)]; exact w1 k hk
  · show gA σ' (A 57 0) (b : Int) = pnv (dCp D q) b
    rw [h57 b hb]
    unfold pnv
    rw [gb_Cp]
    by_cases e : b ∈ hs D q
    · rw [cif_pos e, if_pos e, if_neg (by decide)]
    · rw [cif_neg e, if_neg e]; rfl
end
