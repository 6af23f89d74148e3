/-! the model: face -/
section
variable {g : qG} {l : Launch} {A : Nat → Nat → Nat} {D D1 : qD} {σ σ0 σ1 σ' : qS} {c : Nat → Int}
theorem in1 {P : Prop} [Decidable P] (h : ¬ (if P then (1 : Int) else 0) = 0) : P := by
  by_cases z : P
  · exact z
  · rw [if_neg z] at h; exact absurd rfl h
theorem in0 {P : Prop} [Decidable P] (h : (if P then (1 : Int) else 0) = 0) : ¬ P := fun z => by rw [if_pos z] at h; exact absurd h (by decide)
theorem inQ {P : Prop} [Decidable P] : qR (if P then (1 : Int) else 0) := by split <;> (unfold qR; omega)
theorem fc_len2 (hw : WF0 D) {q : Nat} (hq : q < nq D) : (fc D q).length ≤ 2 := (hw.2.2.2.2.1 q hq).2.2.1.1.1
theorem mfc_B (hA : qInj A) {q : Nat} {f : Fc3} {σ2 σ3 : qS} (hw : WF0 D) (hq : q < nq D) (hl : (fc D q).length < 2) (h : MB A D σ) (s1 : σ1 = sA σ (A 54 0) (6 * (q : Int) + 3 * ((fc D q).length : Int)) f.1) (s2 : σ2 = sA σ1 (A 54 0) (6 * (q : Int) + 3 * ((fc D q).length : Int) + 1) f.2.1) (s3 : σ3 = sA σ2 (A 54 0) (6 * (q : Int) + 3 * ((fc D q).length : Int) + 2) f.2.2) (s4 : σ' = sA σ3 (A 53 0) q ((fc D q).length + 1)) : MB A (dFc D q f) σ' ∧ MA2 A D σ' ∧ qMc A noI (fun t _ => t = 53 ∨ t = 54) σ σ' := by
  have hc : qMc A noI (fun t _ => t = 53 ∨ t = 54) σ σ' := by
    refine qMc_tr (σ1 := σ3) (qMc_tr (σ1 := σ2) (qMc_tr (σ1 := σ1) ?_ ?_) ?_) ?_
    · rw [s1]; exact qMc_A (Or.inr rfl)
    · rw [s2]; exact qMc_A (Or.inr rfl)
    · rw [s3]; exact qMc_A (Or.inr rfl)
    · rw [s4]; exact qMc_A (Or.inl rfl)
  have g54 : ∀ j : Int, gA σ' (A 54 0) j = if j = 6 * (q : Int) + 3 * ((fc D q).length : Int) + 2 then f.2.2 else if j = 6 * (q : Int) + 3 * ((fc D q).length : Int) + 1 then f.2.1 else if j = 6 * (q : Int) + 3 * ((fc D q).length : Int) then f.1 else gA σ (A 54 0) j := fun j => by
    rw [s4, gA_at hA, if_neg (by omega), s3, gA_at hA, s2, gA_at hA, s1, gA_at hA]
    simp only [true_and]
  have g53 : ∀ j : Int, gA σ' (A 53 0) j = if j = (q : Int) then ((fc D q).length : Int) + 1 else gA σ (A 53 0) j := fun j => by
    have : gA σ3 (A 53 0) j = gA σ (A 53 0) j := by rw [s3, gA_at hA, if_neg (fun z => absurd z.1 (by decide)), s2, gA_at hA, if_neg (fun z => absurd z.1 (by decide)), s1, gA_at hA, if_neg (fun z => absurd z.1 (by decide))]
    rw [s4, gA_at hA, this]
    simp only [true_and]
  obtain ⟨h1, ⟨b1, b2, b3, b4⟩, c1, c2, c3⟩ := h
  have old : ∀ q' : Nat, q' < nq D → ∀ i : Nat, i < (fc D q').length → ∀ k : Int, 0 ≤ k → k ≤ 2 → gA σ' (A 54 0) (6 * (q' : Int) + 3 * (i : Int) + k) = gA σ (A 54 0) (6 * (q' : Int) + 3 * (i : Int) + k) := by
    intro q' hq' i hi k k0 k1
    have hl' := fc_len2 hw hq'
    have hlt : (q' : Int) = q → i < (fc D q).length := fun z => by
      have : q' = q := by omega
      rw [this] at hi; exact hi
    rw [g54, if_neg (by omega), if_neg (by omega), if_neg (by omega)]
  have hold : MA2 A D σ' := ⟨fun p hp' => by rw [qMc_at hA hc (by decide)]; exact c1 p hp', fun q' hq' => by
    obtain ⟨x, y, z, w⟩ := c2 q' hq'
    refine ⟨by rw [qMc_at hA hc (by decide)]; exact x, by rw [qMc_at hA hc (by decide)]; exact y, by rw [qMc_at hA hc (by decide)]; exact z, fun i hi => ?_⟩
    have o := old q' hq' i hi
    have o0 := o 0 (by omega) (by omega)
    rw [Int.add_zero] at o0
    rw [o0, o 1 (by omega) (by omega), o 2 (by omega) (by omega)]
    exact w i hi, fun b hb => by rw [qMc_at hA hc (by decide), qMc_at hA hc (by decide)]; exact c3 b hb⟩
  refine ⟨⟨MS_c hc h1, ⟨fun p hp' => ?_, fun t ht => ?_, fun q' hq' => ?_, fun b hb => ?_⟩, hold.1, fun q' hq' => ?_, hold.2.2⟩, hold, hc⟩
  · obtain ⟨x, y, z⟩ := b1 p hp'
    exact ⟨by rw [qMc_at hA hc (by decide)]; exact x, by rw [qMc_at hA hc (by decide)]; exact y, fun i hi => by rw [qMc_at hA hc (by decide)]; exact z i hi⟩
  · rw [qMc_at hA hc (by decide)]; exact b2 t ht
  · obtain ⟨x, y, z, w⟩ := b3 q' hq'
    refine ⟨by rw [qMc_at hA hc (by decide)]; exact x, ?_, by rw [qMc_at hA hc (by decide)]; exact z, fun k hk => by rw [qMc_at hA hc (by decide)]; exact w k hk⟩
    show gA σ' (A 53 0) (q' : Int) = ((fc (dF D q (fc D q ++ [f])) q').length : Int)
    rw [g53, fc_at]
    by_cases e : q' = q
    · rw [if_pos (by omega), if_pos e, List.length_append]; simp
    · rw [if_neg (by omega), if_neg e]; exact y
  · rw [qMc_at hA hc (by decide)]; exact b4 b hb
  · obtain ⟨x, y, z, w⟩ := hold.2.1 q' hq'
    refine ⟨x, y, z, fun i hi => ?_⟩
    have hi' : i < (fc (dF D q (fc D q ++ [f])) q').length := hi
    show gA σ' (A 54 0) (6 * (q' : Int) + 3 * (i : Int)) = ((fc (dF D q (fc D q ++ [f])) q').getD i (0, 0, 0)).1 ∧ gA σ' (A 54 0) (6 * (q' : Int) + 3 * (i : Int) + 1) = ((fc (dF D q (fc D q ++ [f])) q').getD i (0, 0, 0)).2.1 ∧ gA σ' (A 54 0) (6 * (q' : Int) + 3 * (i : Int) + 2) = ((fc (dF D q (fc D q ++ [f])) q').getD i (0, 0, 0)).2.2
    rw [fc_at] at hi' ⊢
    by_cases e : q' = q
    · rw [if_pos e] at hi' ⊢
      rw [List.length_append] at hi'
      simp only [List.length_singleton] at hi'
      by_cases d : i < (fc D q).length
      · rw [List.getD_eq_getElem?_getD, List.getElem?_append_left d, ← List.getD_eq_getElem?_getD, ← e]
        exact w i (by rw [e]; exact d)
      · have hii : i = (fc D q).length := by omega
        rw [List.getD_eq_getElem?_getD, List.getElem?_append_right (by omega), hii, Nat.sub_self, e]
        refine ⟨?_, ?_, ?_⟩
        · rw [g54, if_neg (by omega), if_neg (by omega), if_pos rfl]; rfl
        · rw [g54, if_neg (by omega), if_pos rfl]; rfl
        · rw [g54, if_pos rfl]; rfl
    · rw [if_neg e] at hi' ⊢
      exact w i hi'
theorem spec_mface (hl : l.stackTraces = false) (hA : qInj A) (h : MR A D σ) (hw : WF D) {q x y z : Int} (hq : qR q) (hx : qR x) (hy : qR y) (hz : qR z) : qMet g l M_X8_face [vr (A 30 0), vi q, vi x, vi y, vi z] σ (qTi0 (qMO A σ c3 (o_face D q x y z) (d_face D q x y z))) := by
  have hn := hw.1.1
  unfold o_face d_face
  have hf1 : ∀ σ6 : qS, σ6 = sI σ 320 (A 30 0) 2 → pnOk D q → ¬ fcOk (x, y, z) → qTi0 (qMO A σ c3 (cif (¬ pnOk D q) (.inr 2) (cif (fcOk (x, y, z)) (cif ((fc D q.toNat).length < 2 ∧ OKp (dFc D q.toNat (x, y, z)) (hp D q.toNat)) (.inl (LB (dFc D q.toNat (x, y, z)) q.toNat).2.2.2) (.inr 0)) (.inr 1))) (cif (pnOk D q ∧ fcOk (x, y, z) ∧ (fc D q.toNat).length < 2 ∧ OKp (dFc D q.toNat (x, y, z)) (hp D q.toNat)) (dFc D q.toNat (x, y, z)) D)) σ6 (.inl (some (vi 0))) := by
    intro σ6 h6 hok hno
    obtain ⟨m1, m2, m3⟩ := MR_t hA h h6
    rw [cif_neg (fun z => z hok), cif_neg hno, cif_neg (fun z => hno z.2.1)]
    exact ⟨_, rfl, qMP_q hA h m2 m3⟩
  refine wm_X8_face hl ⟨h.1.1.1, _, spec_isPanel hl h.1 h.2.1 hw.1 hq, cifQ, fun hz1 => ?_, fun hz1 σ99 h99 => ?_⟩
  rotate_left
  · obtain ⟨m1, m2, m3⟩ := MR_t hA h h99
    have hno := cif0 hz1
    rw [cif_pos hno, cif_neg (fun z => hno z.1)]
    exact ⟨_, rfl, qMP_q hA h m2 m3⟩
  have hok := cif1 hz1
  have hok1 := hok.1
  have hok2 := hok.2.1
  obtain ⟨hpn, hmq⟩ := alP_home hw.1 hok.2
  refine ⟨_, spec_in hl hx (by unfold qR; omega) (by unfold qR; omega), inQ, fun hz2 σ10 h10 => hf1 σ10 h10 hok (fun z => in0 hz2 z.1), fun hz2 => ⟨_, spec_in hl hy (by unfold qR; omega) (by unfold qR; omega), inQ, fun hz3 σ10 h10 => hf1 σ10 h10 hok (fun z => in0 hz3 z.2.1), fun hz3 => ⟨_, spec_in hl hz (by unfold qR; omega) (by unfold qR; omega), ?_⟩⟩⟩
  have e1 := in1 hz2
  have e2 := in1 hz3
  have hl2 := fc_len2 hw.1 hok2
  have hft : ∀ σ2, MR A D σ2 → gA σ2 (A 53 0) q = (fc D q.toNat).length := fun σ2 h2 => by
    have := (h2.1.2.1.2.2.1 q.toNat hok2).2.1
    rwa [Int.toNat_of_nonneg hok1] at this
  obtain ⟨a1, a2, a3⟩ := m333 h.1.1
  rw [a1, hft σ h]
  refine ⟨⟨inQ, fun _ => ⟨q_isA0 a2, ⟨hok1, by rw [a3]; omega⟩, by unfold qR; omega⟩⟩, fun v26 h26 σ31 h31 => ?_⟩
  by_cases e3 : 1 ≤ z ∧ z ≤ 8
  rotate_left
  · rw [if_neg e3, if_neg (fun z => z rfl)] at h26
    subst h26
    exact ⟨fun z => absurd z (by decide), fun _ => hf1 σ31 h31 hok (fun z => e3 z.2.2)⟩
  rw [if_pos e3, if_pos (by decide)] at h26
  have hfo : fcOk (x, y, z) := ⟨e1, e2, e3⟩
  rw [cif_neg (fun z => z hok), cif_pos hfo]
  by_cases e4 : (fc D q.toNat).length < 2
  rotate_left
  · rw [if_neg (by omega)] at h26
    subst h26
    obtain ⟨m1, m2, m3⟩ := MR_t hA h h31
    rw [cif_neg (fun z => e4 z.1), cif_neg (fun z => e4 z.2.2.1)]
    exact ⟨fun z => absurd z (by decide), fun _ => ⟨_, rfl, qMP_q hA h m2 m3⟩⟩
  rw [if_pos (by omega)] at h26
  subst h26
  refine ⟨fun _ => ⟨_, spec_keeps hl hA (MR_t hA h h31).1.1.1, fun σ39 h39 => ?_⟩, fun z => absurd (Int.le_refl 0) z⟩
  obtain ⟨k1, k2, k3, k4⟩ := kept0 hA hw.1 h h31 h39
  obtain ⟨a1, a2, a3⟩ := m333 k1.1.1
  obtain ⟨b1, b2, b3⟩ := m334 k1.1.1
  rw [a1, b1, hft σ39 k1]
  refine ⟨k1.1.1.1, q_isA0 a2, ⟨hok1, by rw [a3]; omega⟩, fun x44 h44 => ⟨b2, ⟨by omega, by rw [b3]; omega⟩, fun σ48 h48 => ?_⟩⟩
  have hP48 : gP σ48 = gP σ39 := by rw [h48]; rfl
  have hN48 : gN σ48 = gN σ39 := by rw [h48]; rfl
  have hK48 : gK σ48 = gK σ39 := by rw [h48]; rfl
  rw [hP48, b1]
  refine ⟨by rw [hK48]; exact b2, ⟨by omega, by rw [hN48, b3]; omega⟩, fun σ52 h52 => ?_⟩
  have hP52 : gP σ52 = gP σ39 := by rw [h52]; exact hP48
  have hN52 : gN σ52 = gN σ39 := by rw [h52]; exact hN48
  have hK52 : gK σ52 = gK σ39 := by rw [h52]; exact hK48
  rw [hP52, b1]
  refine ⟨by rw [hK52]; exact b2, ⟨by omega, by rw [hN52, b3]; omega⟩, fun σ56 h56 => ?_⟩
  have hP56 : gP σ56 = gP σ39 := by rw [h56]; exact hP52
  have hN56 : gN σ56 = gN σ39 := by rw [h56]; exact hN52
  have hK56 : gK σ56 = gK σ39 := by rw [h56]; exact hK52
  have h53 : gA σ56 (A 53 0) q = (fc D q.toNat).length := by
    rw [h56, gA_at hA, if_neg (fun z => absurd z.1 (by decide)), h52, gA_at hA, if_neg (fun z => absurd z.1 (by decide)), h48, gA_at hA, if_neg (fun z => absurd z.1 (by decide))]
    exact hft σ39 k1
  rw [hP56, a1, h53]
  refine ⟨q_isA0 (by rw [hK56]; exact a2), ⟨hok1, by rw [hN56, a3]; omega⟩, by rw [hK56]; exact a2, fun σ61 h61 => ?_⟩
  subst h44
  have hqq : q = (q.toNat : Int) := (Int.toNat_of_nonneg hok1).symm
  obtain ⟨hB, hB2, hcl⟩ := mfc_B (σ := σ39) (σ1 := σ48) (σ2 := σ52) (σ3 := σ56) (σ' := σ61) (f := (x, y, z)) hA hw.1 hok2 e4 k1.1 (by rw [← hqq]; exact h48) (by rw [← hqq]; exact h52) (by rw [← hqq]; exact h56) (by rw [← hqq]; exact h61)
  have hw1 : WF0 (dFc D q.toNat (x, y, z)) := WF0_Fc hw.1 e4 hfo
  have hc1 : qMc A modI modA σ σ61 := qMc_tr k2 (low_mod hcl (fun t i z => by omega))
  have hsc := MSc_c hcl (fun _ _ _ z => z) k1.2.1
  refine ⟨_, spec_stays hl hA hB hw1 hsc.1 hsc.2.2 (MA1_c hA hcl (fun t i ht z => by have := told_hi t; omega) k3) hB2 hw rfl, fun σ68 v70 h35 => ?_⟩
  have hly : ∀ p', p' < np D → p' ≠ hp D q.toNat → LyEq D (dFc D q.toNat (x, y, z)) p' := fun p' hp2 hne => LyEq_Fc (fun z => hne (((hom hw.1 hp2) _ z).1).symm)
  have hone := OK_one (D1 := dFc D q.toNat (x, y, z)) hw rfl hpn hly
  rcases mfin hA h hw hw1 rfl rfl (fun _ _ => rfl) ⟨rfl, rfl⟩ hc1 hsc hsc h35 with ⟨rfl, hall, hans, hW1, hM, hmm, hk⟩ | ⟨rfl, hno, hM, hmm⟩
  · refine ⟨by unfold qR; omega, fun v40 h40 => ⟨hM.1.1.1, fun σ46 h46 => ?_⟩⟩
    rw [if_neg (by decide)] at h40
    subst h40
    obtain ⟨n1, n2, n3⟩ := MR_t hA hM h46
    have hok1' := hone.mp hall
    rw [cif_pos ⟨e4, hok1'⟩, cif_pos ⟨hok, hfo, e4, hok1'⟩]
    obtain ⟨d1, d2, d3⟩ := m340 n1.1.1
    rw [d1]
    refine ⟨fun _ => ⟨q_isA0 d2, ⟨by omega, by rw [d3]; omega⟩⟩, fun v84 h84 => ⟨_, rfl, n1, qMc_tr hmm (mod_mA n2 (fun _ _ z => z.elim)), ?_, n3⟩⟩
    have := (ML_al n1 hw1 (q := q.toNat) hok.2).2.1.2.2.2
    rw [h84, if_pos (by decide), ← this]
    congr 1
    omega
  · refine ⟨by unfold qR; omega, fun v40 h40 => ⟨hM.1.1.1, fun σ46 h46 => ?_⟩⟩
    rw [if_pos rfl] at h40
    subst h40
    obtain ⟨n1, n2, n3⟩ := MR_t hA hM h46
    have hno1 : ¬ OKp (dFc D q.toNat (x, y, z)) (hp D q.toNat) := fun z => hno ⟨hone.mpr z, hw.2.2⟩
    rw [cif_neg (fun z => hno1 z.2), cif_neg (fun z => hno1 z.2.2.2)]
    exact ⟨fun z => absurd z (by decide), fun v84 h84 => ⟨_, rfl, n1, qMc_tr hmm (mod_mA n2 (fun _ _ z => z.elim)), n3⟩⟩
end
