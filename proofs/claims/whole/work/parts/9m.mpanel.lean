/-! the model: panel -/
section
variable {g : qG} {l : Launch} {A : Nat → Nat → Nat} {D D1 : qD} {σ σ0 σ1 σ2 σ' : qS} {c : Nat → Int}
/-- the number of the panels put back -/
theorem MR_322 (hA : qInj A) {v : Int} (hB : MB A D σ) (hL : ∀ p, p < np D → ML A D σ p) (k1 : MRd A D σ) (k2 : MZ A D σ) (k3 : MGo A D σ) (h1 : gI σ 321 (A 30 0) = np D) (h2 : gI σ 323 (A 30 0) = nb D) (hv : v = nq D) (hs : σ' = sI σ 322 (A 30 0) v) : MR A D σ' ∧ qMc A (fun f => f = 322) noA σ σ' := by
  have hc : qMc A (fun f => f = 322) noA σ σ' := by rw [hs]; exact qMc_I rfl
  exact ⟨⟨MB_c hA hc (fun _ _ _ _ z => z) hB, ⟨by rw [qMc_f hc (by decide)]; exact h1, by rw [hs, gI_eq, hv], by rw [qMc_f hc (by decide)]; exact h2⟩, MRd_c hA hc ⟨by decide, by decide⟩ (fun _ z => z) k1, MZ_c hA hc (fun _ _ z => z) k2, fun p hp' => ML_c hA hc (fun _ _ _ _ z => z) (hL p hp'), fun q hq hg i i0 i1 => by rw [qMc_at hA hc (fun z => z)]; exact k3 q hq hg i i0 i1⟩, hc⟩
/-- a write at the number of the panels -/
theorem wr_q (hA : qInj A) {t : Nat} {v : Int} (hS : MS A σ) (hn : gI σ 322 (A 30 0) = nq D) (hq : nq D < 50) (hN : gN σ (A t 0) = 50) (hs : σ' = sA σ (A t 0) (nq D : Int) v) : qMc A noI (fun u _ => u = t) σ σ' ∧ MS A σ' ∧ gI σ' 322 (A 30 0) = nq D := by
  have hc : qMc A noI (fun u _ => u = t) σ σ' := by rw [hs]; exact qMc_A rfl
  exact ⟨hc, MS_c hc hS, by rw [qMc_f hc (fun z => z)]; exact hn⟩
theorem spec_mpanel (hl : l.stackTraces = false) (hA : qInj A) (h : MR A D σ) (hw : WF D) {p i w x y : Int} (hpq : qR p) (hiq : qR i) (hwq : qR w) (hxq : qR x) (hyq : qR y) : qMet g l M_X8_panel [vr (A 30 0), vi p, vi i, vi w, vi x, vi y] σ (qTi0 (qMO A σ c3 (o_panel D p i w x y) (d_panel D p i w x y))) := by
  have hn := hw.1.1
  unfold o_panel d_panel
  have hrf : qMc A m320 noA σ σ := qMc_rf
  refine wm_X8_panel hl ⟨h.1.1.1, _, spec_isPage hl h.1.1 h.2.1 hw.1 hpq, cifQ, fun hz1 => ⟨_, fails_q hl hA (c := c3) (n := 2) h hrf rfl, fun σ3 v3 h3 => ⟨v3, rfl, ?_⟩⟩, fun hz1 => ?_⟩
  · have hno := cif0 hz1
    rw [cif_neg (fun z => hno z.1), cif_neg (fun z => hno z.1.1)]; exact h3
  have hok := cif1 hz1
  have hp1 : 0 ≤ p := hok.1
  have hp2 : p.toNat < np D := by have := hok.2; omega
  have hpv : p = (p.toNat : Int) := (Int.toNat_of_nonneg hp1).symm
  obtain ⟨a1, a2, a3⟩ := m325 h.1.1
  have h45 : ∀ σ1, MR A D σ1 → gA σ1 (A 45 0) p = pn D p.toNat := fun σ1 h1 => by
    have := (h1.1.2.1.1 p.toNat (by omega)).2.1
    rwa [← hpv] at this
  have hl8 := (hw.1.2.1 _ hp2).2.2.1
  have h322 := h.2.1.2.1
  rw [a1, h45 σ h, h322]
  refine ⟨q_isA0 a2, ⟨hp1, by rw [a3]; omega⟩, _, spec_in hl hiq (by unfold qR; omega) (by unfold qR; omega), inQ, fun hz2 => ?_, fun hz2 => ⟨_, fails_q hl hA (c := c3) (n := 2) h hrf rfl, fun σ3 v3 h3 => ⟨v3, rfl, ?_⟩⟩⟩
  rotate_left
  · have hno := in0 hz2
    rw [cif_neg (fun z => hno z.2), cif_neg (fun z => hno z.1.2)]; exact h3
  have hpl : pgOk D p ∧ 0 ≤ i ∧ i ≤ (pn D p.toNat : Int) := ⟨hok, in1 hz2⟩
  have hpl2 := hpl.2
  rw [cif_pos hpl]
  have hbad : ∀ σ6 : qS, σ6 = sI σ 320 (A 30 0) 2 → ¬ pnOkV w x y → qTi0 (qMO A σ c3 (cif (pnOkV w x y) (cif (pn D p.toNat < 8 ∧ nq D < 50 ∧ OKp (dNp D p.toNat i.toNat w x y) p.toNat) (.inl (nq D)) (.inr 0)) (.inr 1)) (cif ((pgOk D p ∧ 0 ≤ i ∧ i ≤ (pn D p.toNat : Int)) ∧ pnOkV w x y ∧ pn D p.toNat < 8 ∧ nq D < 50 ∧ OKp (dNp D p.toNat i.toNat w x y) p.toNat) (dNp D p.toNat i.toNat w x y) D)) σ6 (.inl (some (vi 0))) := by
    intro σ6 h6 hno
    obtain ⟨m1, m2, m3⟩ := MR_t hA h h6
    rw [cif_neg hno, cif_neg (fun z => hno z.2.1)]
    exact ⟨_, rfl, qMP_q hA h m2 m3⟩
  refine ⟨_, spec_in hl hwq (by unfold qR; omega) (by unfold qR; omega), inQ, fun hz3 σ6 h6 => hbad σ6 h6 (fun z => in0 hz3 z.1), fun hz3 => ⟨_, spec_in hl hxq (by unfold qR; omega) (by unfold qR; omega), inQ, fun hz4 σ6 h6 => hbad σ6 h6 (fun z => in0 hz4 z.2.1), fun hz4 => ⟨_, spec_in hl hyq (by unfold qR; omega) (by unfold qR; omega), ⟨inQ, fun _ => ⟨by unfold qR; omega, fun _ => by unfold qR; omega⟩⟩, fun v40 h28 σ33 h33 => ?_⟩⟩⟩
  have e1 := in1 hz3
  have e2 := in1 hz4
  by_cases ey : 3 ≤ y ∧ y ≤ 12
  rotate_left
  · rw [if_neg ey, if_neg (fun z => z rfl)] at h28
    subst h28
    exact ⟨fun z => absurd z (by decide), fun _ => hbad σ33 h33 (fun z => ey z.2.2)⟩
  rw [if_pos ey, if_pos (by decide)] at h28
  have ev : pnOkV w x y := ⟨e1, e2, ey⟩
  obtain ⟨t1, t2, t3⟩ := MR_t hA h h33
  rw [cif_pos ev]
  by_cases em : pn D p.toNat < 8 ∧ nq D < 50
  rotate_left
  · have e3 : v40 = 3 := by
      rw [h28]
      by_cases e : (pn D p.toNat : Int) = 8
      · rw [if_pos e]
      · rw [if_neg e, if_neg (fun z => em ⟨by omega, by omega⟩)]
    subst e3
    rw [cif_neg (fun z => em ⟨z.1, z.2.1⟩), cif_neg (fun z => em ⟨z.2.2.1, z.2.2.2.1⟩)]
    exact ⟨fun z => absurd z (by decide), fun _ => ⟨_, rfl, qMP_q hA h t2 t3⟩⟩
  rw [if_neg (by omega), if_pos (by omega)] at h28
  subst h28
  refine ⟨fun _ => ⟨_, spec_keeps hl hA t1.1.1, fun σ53 h41 => ?_⟩, fun z => absurd (Int.le_refl 0) z⟩
  obtain ⟨k1, k2, k3, k4⟩ := kept0 hA hw.1 h h33 h41
  have k320 : gI σ53 320 (A 30 0) = 0 := by rw [qMc_f h41.1 (fun z => z)]; exact t3
  have hw1 := WF0_Np hw.1 hp2 em.1 em.2 (i := i.toNat) (by omega) ev
  have hnq := em.2
  obtain ⟨a1, a2, a3⟩ := m329 k1.1.1
  rw [a1, k1.2.1.2.1]
  refine ⟨k1.1.1.1, a2, ⟨by omega, by rw [a3]; omega⟩, fun σ58 h58 => ?_⟩
  obtain ⟨c58, S58, n58⟩ := wr_q hA k1.1.1 k1.2.1.2.1 em.2 a3 h58
  obtain ⟨a1, a2, a3⟩ := m330 S58
  rw [a1, n58]
  refine ⟨a2, ⟨by omega, by rw [a3]; omega⟩, fun σ62 h62 => ?_⟩
  obtain ⟨c62, S62, n62⟩ := wr_q hA S58 n58 em.2 a3 h62
  obtain ⟨a1, a2, a3⟩ := m331 S62
  rw [a1, n62]
  refine ⟨a2, ⟨by omega, by rw [a3]; omega⟩, fun σ66 h66 => ?_⟩
  obtain ⟨c66, S66, n66⟩ := wr_q hA S62 n62 em.2 a3 h66
  obtain ⟨a1, a2, a3⟩ := m332 S66
  rw [a1, n66]
  refine ⟨a2, ⟨by omega, by rw [a3]; omega⟩, fun σ70 h70 => ?_⟩
  obtain ⟨c70, S70, n70⟩ := wr_q hA S66 n66 em.2 a3 h70
  obtain ⟨a1, a2, a3⟩ := m333 S70
  rw [a1, n70]
  refine ⟨a2, ⟨by omega, by rw [a3]; omega⟩, fun σ74 h74 => ?_⟩
  obtain ⟨c74, S74, n74⟩ := wr_q hA S70 n70 em.2 a3 h74
  obtain ⟨a1, a2, a3⟩ := m335 S74
  rw [a1, n74]
  refine ⟨a2, ⟨by omega, by rw [a3]; omega⟩, fun σ78 h78 => ?_⟩
  obtain ⟨c78, S78, n78⟩ := wr_q hA S74 n74 em.2 a3 h78
  have cN : qMc A noI (fun t _ => 49 ≤ t ∧ t ≤ 53 ∨ t = 55) σ53 σ78 := qMc_tr (qMc_tr (qMc_tr (qMc_tr (qMc_tr (qMc_mono c58 (fun _ z => z) (fun t i z => by omega)) (qMc_mono c62 (fun _ z => z) (fun t i z => by omega))) (qMc_mono c66 (fun _ z => z) (fun t i z => by omega))) (qMc_mono c70 (fun _ z => z) (fun t i z => by omega))) (qMc_mono c74 (fun _ z => z) (fun t i z => by omega))) (qMc_mono c78 (fun _ z => z) (fun t i z => by omega))
  obtain ⟨a1, a2, a3⟩ := m325 S78
  obtain ⟨b1, b2, b3⟩ := m326 S78
  have r45 : gA σ78 (A 45 0) p = pn D p.toNat := by rw [qMc_at hA cN (fun z => by omega)]; exact h45 σ53 k1
  rw [a1, b1, n78, r45, hpv, ← Int.toNat_of_nonneg hpl2.1]
  have hrow : ∀ j : Nat, j < (row D p.toNat).length → gA σ78 (A 46 0) (8 * (p.toNat : Int) + (j : Int)) = (row D p.toNat).getD j 0 := fun j hj => by
    rw [qMc_at hA cN (fun z => by omega)]
    exact (k1.1.2.1.1 p.toNat (by omega)).2.2 j hj
  have hpnl : pn D p.toNat = (row D p.toNat).length := rfl
  have hil : i.toNat ≤ (row D p.toNat).length := by omega
  refine ⟨q_isA0 a2, ⟨by omega, by rw [a3]; omega⟩, _, spec_ins hl hA (xs := row D p.toNat) (its := nq D) (i := i.toNat) b2 b3 (by omega) (by omega) (by decide) hrow hil, fun σ87 h87 => ?_⟩
  obtain ⟨c87, v87⟩ := h87
  have S87 := MS_c c87 S78
  have n87 : gI σ87 322 (A 30 0) = nq D := by rw [qMc_f c87 (fun z => z)]; exact n78
  obtain ⟨a1, a2, a3⟩ := m325 S87
  have r45 : gA σ87 (A 45 0) (p.toNat : Int) = pn D p.toNat := by rw [qMc_at hA c87 (fun z => by omega), ← hpv]; exact r45
  rw [a1, r45]
  refine ⟨S87.1, q_isA0 a2, ⟨by omega, by rw [a3]; omega⟩, a2, fun σ93 h93 σ95 h95 => ?_⟩
  rw [Int.toNat_of_nonneg hpl2.1, ← hpv]
  have c93 : qMc A noI (fun t _ => t = 45) σ87 σ93 := by rw [h93]; exact qMc_A rfl
  have n93 : gI σ93 322 (A 30 0) = nq D := by rw [qMc_f c93 (fun z => z)]; exact n87
  rw [n93] at h95
  have c87' : qMc A noI (fun t j => t = 46 ∧ 8 * (p.toNat : Int) ≤ j ∧ j < 8 * (p.toNat : Int) + 8) σ78 σ87 := qMc_mono c87 (fun _ z => z) (fun t j z => ⟨z.1, z.2.1, by have := z.2.2; omega⟩)
  have hcl : qMc A noI (fun t _ => 45 ≤ t ∧ t ≤ 55 ∧ t ≠ 47 ∧ t ≠ 48 ∧ t ≠ 54) σ53 σ93 := qMc_tr (qMc_tr (qMc_mono cN (fun _ z => z) (fun t i z => by omega)) (qMc_mono c87 (fun _ z => z) (fun t i z => by omega))) (qMc_mono c93 (fun _ z => z) (fun t i z => by omega))
  have gq' : ∀ t : Nat, 49 ≤ t → ∀ j, gA σ93 (A t 0) j = gA σ78 (A t 0) j := fun t ht j => by rw [qMc_at hA c93 (fun z => by omega), qMc_at hA c87 (fun z => by omega)]
  have g49 : ∀ j : Int, gA σ93 (A 49 0) j = if j = (nq D : Int) then p else gA σ53 (A 49 0) j := fun j => by
    rw [gq' 49 (by decide), qMc_at hA c78 (fun z => by omega), qMc_at hA c74 (fun z => by omega), qMc_at hA c70 (fun z => by omega), qMc_at hA c66 (fun z => by omega), qMc_at hA c62 (fun z => by omega), h58, gA_at hA]
    simp only [true_and]
  have g50 : ∀ j : Int, gA σ93 (A 50 0) j = if j = (nq D : Int) then w else gA σ53 (A 50 0) j := fun j => by
    rw [gq' 50 (by decide), qMc_at hA c78 (fun z => by omega), qMc_at hA c74 (fun z => by omega), qMc_at hA c70 (fun z => by omega), qMc_at hA c66 (fun z => by omega), h62, gA_at hA, qMc_at hA c58 (fun z => by omega)]
    simp only [true_and]
  have g51 : ∀ j : Int, gA σ93 (A 51 0) j = if j = (nq D : Int) then x else gA σ53 (A 51 0) j := fun j => by
    rw [gq' 51 (by decide), qMc_at hA c78 (fun z => by omega), qMc_at hA c74 (fun z => by omega), qMc_at hA c70 (fun z => by omega), h66, gA_at hA, qMc_at hA c62 (fun z => by omega), qMc_at hA c58 (fun z => by omega)]
    simp only [true_and]
  have g52 : ∀ j : Int, gA σ93 (A 52 0) j = if j = (nq D : Int) then y else gA σ53 (A 52 0) j := fun j => by
    rw [gq' 52 (by decide), qMc_at hA c78 (fun z => by omega), qMc_at hA c74 (fun z => by omega), h70, gA_at hA, qMc_at hA c66 (fun z => by omega), qMc_at hA c62 (fun z => by omega), qMc_at hA c58 (fun z => by omega)]
    simp only [true_and]
  have g53 : ∀ j : Int, gA σ93 (A 53 0) j = if j = (nq D : Int) then 0 else gA σ53 (A 53 0) j := fun j => by
    rw [gq' 53 (by decide), qMc_at hA c78 (fun z => by omega), h74, gA_at hA, qMc_at hA c70 (fun z => by omega), qMc_at hA c66 (fun z => by omega), qMc_at hA c62 (fun z => by omega), qMc_at hA c58 (fun z => by omega)]
    simp only [true_and]
  have g55 : ∀ j : Int, gA σ93 (A 55 0) j = if j = (nq D : Int) then 0 else gA σ53 (A 55 0) j := fun j => by
    rw [gq' 55 (by decide), h78, gA_at hA, qMc_at hA c74 (fun z => by omega), qMc_at hA c70 (fun z => by omega), qMc_at hA c66 (fun z => by omega), qMc_at hA c62 (fun z => by omega), qMc_at hA c58 (fun z => by omega)]
    simp only [true_and]
  obtain ⟨⟨b1, b2, b3, b4⟩, d1, d2, d3⟩ := k1.1.2
  have e47 : ∀ p : Nat, p < 10 → gA σ93 (A 47 0) (p : Int) = sp D p := fun p hp' => by rw [qMc_at hA hcl (fun z => by omega)]; exact d1 p hp'
  have e58 : ∀ b : Nat, b < nb D → gA σ93 (A 58 0) (b : Int) = lt D b ∧ gA σ93 (A 59 0) (b : Int) = an D b := fun b hb => by rw [qMc_at hA hcl (fun z => by omega), qMc_at hA hcl (fun z => by omega)]; exact d3 b hb
  have h54 : ∀ j, gA σ93 (A 54 0) j = gA σ53 (A 54 0) j := fun j => qMc_at hA hcl (fun z => by omega)
  have h2 : MA2 A D σ93 := ⟨e47, fun q' hq' => by
    have hE : ¬ (q' : Int) = (nq D : Int) := by omega
    rw [g50, g51, g52, if_neg hE, if_neg hE, if_neg hE]
    obtain ⟨x1, y1, z1, w1⟩ := d2 q' hq'
    exact ⟨x1, y1, z1, fun i hi => by rw [h54, h54, h54]; exact w1 i hi⟩, e58⟩
  have h2n : MA2 A (dNp D p.toNat i.toNat w x y) σ93 := ⟨e47, fun q' hq' => by
    rw [nq_Np] at hq'
    rw [g50, g51, g52, wt_Np, wd_Np, ht_Np, fc_Np]
    by_cases e : q' = nq D
    · have hE : (q' : Int) = (nq D : Int) := by omega
      rw [if_pos hE, if_pos hE, if_pos hE, if_pos e, if_pos e, if_pos e, if_pos e]
      exact ⟨rfl, rfl, rfl, fun i hi => absurd hi (Nat.not_lt_zero _)⟩
    · have hE : ¬ (q' : Int) = (nq D : Int) := by omega
      rw [if_neg hE, if_neg hE, if_neg hE, if_neg e, if_neg e, if_neg e, if_neg e]
      obtain ⟨x1, y1, z1, w1⟩ := d2 q' (by omega)
      exact ⟨x1, y1, z1, fun i hi => by rw [h54, h54, h54]; exact w1 i hi⟩, fun b hb => e58 b (by rw [nb_Np] at hb; exact hb)⟩
  have hnil : ∀ t i, t = 44 ∨ t = 48 ∨ t = 56 ∨ t = 57 → gA σ93 (A t 0) i = gA σ53 (A t 0) i := fun t i ht => qMc_at hA hcl (fun z => by omega)
  have g45 : ∀ j : Int, gA σ93 (A 45 0) j = if j = (p.toNat : Int) then (pn D p.toNat : Int) + 1 else gA σ53 (A 45 0) j := fun j => by
    rw [h93, gA_at hA, qMc_at hA c87 (fun z => by omega), qMc_at hA cN (fun z => by omega)]
    simp only [true_and]
  have hlenI : ((row D p.toNat).insertIdx i.toNat (nq D)).length = (row D p.toNat).length + 1 := by rw [List.length_insertIdx, if_pos hil]
  have hMA1 : MA1 A tid (dNp D p.toNat i.toNat w x y) σ93 := by
    refine ⟨fun p' hp' => ?_, fun t ht => ?_, fun q' hq' => ?_, fun b hb => ?_⟩
    · obtain ⟨x1, y1, z1⟩ := b1 p' hp'
      refine ⟨?_, ?_, fun j hj => ?_⟩
      · exact (hnil 44 _ (by omega)).trans x1
      · show gA σ93 (A 45 0) (p' : Int) = ((row (dNp D p.toNat i.toNat w x y) p').length : Nat)
        rw [g45, row_Np]
        by_cases e : p' = p.toNat
        · rw [if_pos (by omega), if_pos e, hlenI]; omega
        · rw [if_neg (by omega), if_neg e]; exact y1
      · have hj' : j < (row (dNp D p.toNat i.toNat w x y) p').length := hj
        show gA σ93 (A 46 0) (8 * (p' : Int) + (j : Int)) = ((row (dNp D p.toNat i.toNat w x y) p').getD j 0 : Nat)
        rw [row_Np] at hj' ⊢
        rw [qMc_at hA c93 (fun z => by omega)]
        by_cases e : p' = p.toNat
        · rw [if_pos e] at hj' ⊢
          rw [e]
          exact v87 j (by omega)
        · rw [if_neg e] at hj' ⊢
          have hl8' : (row D p').length ≤ 8 := by
            rcases Nat.lt_or_ge p' (np D) with d | d
            · exact (hw.1.2.1 p' d).2.2.1
            · rw [(hw.1.2.2.1 p' d).2.2]; exact Nat.zero_le _
          rw [qMc_at hA c87' (fun z => by omega), qMc_at hA cN (fun z => by omega)]
          exact z1 j hj'
    · exact (hnil 48 _ (by omega)).trans (b2 t ht)
    · rw [nq_Np] at hq'
      show gA σ93 (A 49 0) (q' : Int) = pgv (dNp D p.toNat i.toNat w x y) q' ∧ gA σ93 (A 53 0) (q' : Int) = ((fc (dNp D p.toNat i.toNat w x y) q').length : Nat) ∧ gA σ93 (A 55 0) (q' : Int) = ((hs (dNp D p.toNat i.toNat w x y) q').length : Nat) ∧ ∀ k : Nat, k < (hs (dNp D p.toNat i.toNat w x y) q').length → gA σ93 (A 56 0) (4 * (q' : Int) + (k : Int)) = ((hs (dNp D p.toNat i.toNat w x y) q').getD k 0 : Nat)
      unfold pgv
      rw [g49, g53, g55, gq_Np, hp_Np, hs_Np, fc_Np]
      by_cases e : q' = nq D
      · have hE : (q' : Int) = (nq D : Int) := by omega
        rw [if_pos hE, if_pos hE, if_pos hE, if_pos e, if_pos e, if_pos e, if_pos e, if_pos rfl]
        exact ⟨hpv, rfl, rfl, fun i hi => absurd hi (Nat.not_lt_zero _)⟩
      · have hE : ¬ (q' : Int) = (nq D : Int) := by omega
        rw [if_neg hE, if_neg hE, if_neg hE, if_neg e, if_neg e, if_neg e, if_neg e]
        obtain ⟨x1, y1, z1, w1⟩ := b3 q' (by omega)
        exact ⟨x1, y1, z1, fun k hk => (hnil 56 _ (by omega)).trans (w1 k hk)⟩
    · rw [nb_Np] at hb
      refine (hnil 57 _ (by omega)).trans ((b4 b hb).trans ?_)
      unfold pnv
      rw [hb_Np]; rfl
  have c95 : qMc A (fun f => f = 322) noA σ93 σ95 := by rw [h95]; exact qMc_I rfl
  have hB : MB A (dNp D p.toNat i.toNat w x y) σ95 := MB_c hA c95 (fun _ _ _ _ z => z) ⟨MS_c c93 S87, hMA1, h2n⟩
  have hsc : MSc A (dNp D p.toNat i.toNat w x y) σ95 := by
    have s := MSc_c hcl (fun _ _ _ z => z) k1.2.1
    refine ⟨?_, ?_, ?_⟩
    · rw [qMc_f c95 (by decide), np_Np]; exact s.1
    · rw [h95, gI_eq, nq_Np]; omega
    · rw [qMc_f c95 (by decide), nb_Np]; exact s.2.2
  have c0 : qMc A modI modA σ σ93 := qMc_tr k2 (low_mod hcl (fun t i z => by omega))
  have hc1 : qMc A modI modA σ σ95 := qMc_tr c0 (qMc_mono c95 (fun f z => by unfold modI; omega) (fun _ _ z => z.elim))
  have t320 : gI σ95 320 (A 30 0) = 0 := by rw [qMc_f c95 (by decide), qMc_f hcl (fun z => z)]; exact k320
  refine ⟨_, spec_stays hl hA hB hw1 hsc.1 hsc.2.2 (MA1_c hA c95 (fun _ _ _ z => z) (MA1_c hA hcl (fun t i ht z => by have := told_hi t; omega) k3)) (MA2_c hA c95 (fun _ _ _ z => z) h2) hw np_Np.symm, fun σ102 v80 h35 => ?_⟩
  have hone := OK_one (D1 := dNp D p.toNat i.toNat w x y) hw np_Np hp2 (fun p' hp3 hne => LyEq_Np hw.1 hp3 hne)
  have hgo : ∀ q : Nat, q < nq (dNp D p.toNat i.toNat w x y) → gq (dNp D p.toNat i.toNat w x y) q ≠ 0 → q < nq D ∧ gq D q ≠ 0 := fun q' hq' hg => by
    rw [nq_Np] at hq'
    rw [gq_Np] at hg
    by_cases e : q' = nq D
    · rw [if_pos e] at hg; exact absurd rfl hg
    · rw [if_neg e] at hg; exact ⟨by omega, hg⟩
  obtain ⟨hs1, hs2⟩ := h35
  have hmm : qMc A mI mA σ σ102 := mI_tr hc1 hs1 (fun t i z => by unfold modA at z; omega) (fun t i z => stSA_lo z)
  have t102 : gI σ102 320 (A 30 0) = 0 := by rw [qMc_f hs1 (fun z => z)]; exact t320
  have n102 : gI σ102 322 (A 30 0) = (nq D : Int) + 1 := by rw [qMc_f hs1 (fun z => z), hsc.2.1, nq_Np]; omega
  rcases hs2 with ⟨rfl, hok1, hans, hB1, hL, hall⟩ | ⟨rfl, hno, hB1, hL⟩
  · obtain ⟨j1, j2, j3, j4⟩ := st_core hA hw1 h np_Np hc1 hsc hall (fun q' hq' hg => h.2.2.2.2.2 q' (hgo q' hq' hg).1 (hgo q' hq' hg).2)
    have hM : MR A (dNp D p.toNat i.toNat w x y) σ102 := ⟨hB1, j1, j2, j3, hL, j4⟩
    refine ⟨by unfold qR; omega, fun _ => ⟨hM.1.1.1, ?_⟩, fun z => absurd z (by decide)⟩
    have ho := hone.mp hok1
    rw [cif_pos ⟨em.1, em.2, ho⟩, cif_pos ⟨hpl, ev, em.1, em.2, ho⟩, n102]
    exact ⟨_, rfl, hM, hmm, by omega, t102⟩
  · refine ⟨by unfold qR; omega, fun z => absurd rfl z, fun _ => ⟨hB1.1.1, fun σ109 h109 => ?_⟩⟩
    obtain ⟨j1, j2, j3⟩ := st_no hA h hc1 hs1 (fun q' hq' hg z => by
      have := z.2
      rw [gq_Np, if_neg (by omega)] at this
      exact hg this)
    have h321 : gI σ102 321 (A 30 0) = np D := by rw [qMc_f hs1 (fun z => z), hsc.1, np_Np]
    have h323 : gI σ102 323 (A 30 0) = nb D := by rw [qMc_f hs1 (fun z => z), hsc.2.2, nb_Np]
    obtain ⟨hM, cM⟩ := MR_322 hA hB1 hL j1 j2 j3 h321 h323 (by rw [n102]; omega) h109
    have hno1 : ¬ OKp (dNp D p.toNat i.toNat w x y) p.toNat := fun z => hno ⟨hone.mpr z, Ans_Np hw hw1⟩
    rw [cif_neg (fun z => hno1 z.2.2), cif_neg (fun z => hno1 z.2.2.2.2)]
    exact ⟨_, fails_q hl hA (c := c3) (n := 0) hM qMc_rf rfl, fun σ3 v3 h3 => ⟨v3, rfl, h3.1, qMc_tr (qMc_tr hmm (mod_mA cM (fun _ _ z => z.elim))) h3.2.1, h3.2.2⟩⟩
end
