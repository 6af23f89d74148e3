/-! the model: cutPanel -/
section
variable {g : qG} {l : Launch} {A : Nat → Nat → Nat} {D D1 : qD} {σ σ0 σ1 σ2 σ' : qS} {c : Nat → Int}
theorem spec_mcutPanel (hl : l.stackTraces = false) (hA : qInj A) (h : MR A D σ) (hw : WF D) (hk : (kp D).length ≤ 512) {q : Int} (hqq : qR q) : qMet g l M_X8_cutPanel [vr (A 30 0), vi q] σ (qTi0 (qMO A σ c2 (o_cutPanel D q) (d_cutPanel D q))) := by
  have hn := hw.1.1
  unfold o_cutPanel d_cutPanel
  have hrf : qMc A m320 noA σ σ := qMc_rf
  refine wm_X8_cutPanel hl ⟨h.1.1.1, _, spec_isPanel hl h.1 h.2.1 hw.1 hqq, cifQ, fun hz1 => ?_, fun hz1 => ⟨_, fails_q hl hA (c := c2) (n := 2) h hrf rfl, fun σ3 v3 h3 => ⟨v3, rfl, ?_⟩⟩⟩
  rotate_left
  · have hno := cif0 hz1
    rw [cif_pos hno, cif_neg (fun z => hno z.1)]; exact h3
  have hok := cif1 hz1
  have hq1 := hok.1
  have hq2 := hok.2.1
  have hqv : q = (q.toNat : Int) := (Int.toNat_of_nonneg hq1).symm
  rw [cif_neg (fun z => z hok)]
  obtain ⟨hpn, hmq⟩ := alP_home hw.1 hok.2
  obtain ⟨a1, a2, a3⟩ := m337 h.1.1
  obtain ⟨b1, b2, b3⟩ := m339 h.1.1
  have h323 := h.2.1.2.2
  refine ⟨fun n x1 x2 => ∃ k : Nat, x2 = k ∧ k ≤ nb D ∧ n = nb D - k ∧ x1 = cif (isAnEK D q.toNat k) 1 0, ⟨_, 0, rfl, Nat.zero_le _, rfl, by rw [cif_neg (fun z => by obtain ⟨c, h1, -⟩ := z; omega)]⟩, ?_⟩
  rintro n x1 x2 ⟨k, rfl, hkk, rfl, rfl⟩
  rw [h323, a1, b1]
  refine ⟨by unfold qR; omega, by unfold qR; omega, fun hd => ⟨cifQ, fun hz => ?_, fun hz => ?_⟩, fun hd => ?_⟩
  rotate_left
  · have hk2 : k = nb D := by omega
    have ha : isAnE D q.toNat := by rw [← isAnEK_nb, ← hk2]; exact cif1 hz
    refine ⟨_, fails_q hl hA (c := c2) (n := 0) h hrf rfl, fun σ3 v3 h3 => ⟨v3, rfl, ?_⟩⟩
    rw [cif_pos ha, cif_neg (fun z => z.2.1 ha)]; exact h3
  · have hkn : k < nb D := by omega
    have hpk : gA σ (A 57 0) (k : Int) = pnv D k := h.1.2.1.2.2.2 k hkn
    have hak : gA σ (A 59 0) (k : Int) = an D k := (h.1.2.2.2.2 k hkn).2
    have han := an_Q hw.1 hkn
    have i7 : q_in σ (A 57 0) (k : Int) := ⟨by omega, by rw [a3]; omega⟩
    have i9 : q_in σ (A 59 0) (k : Int) := ⟨by omega, by rw [b3]; omega⟩
    rw [hpk, hak]
    refine ⟨q_isA0 a2, i7, ⟨pnv_Q hw.1 hkn, fun _ => ⟨hqq, fun _ => ⟨q_isA0 b2, i9, han.1⟩⟩⟩, fun v178 h178 => ?_⟩
    have hP : ¬ v178 = 0 → gb D k = 0 ∧ hb D k ≠ q.toNat ∧ an D k ≠ -1 := by
      intro hv
      by_cases e1 : pnv D k = -1
      · rw [if_pos e1] at h178; exact absurd h178 hv
      · rw [if_neg e1] at h178
        have g0 : gb D k = 0 := by
          by_cases y : gb D k = 0
          · exact y
          · exact absurd (pnv_ne.mpr y) e1
        by_cases e2 : pnv D k = q
        · rw [if_pos e2] at h178; exact absurd h178 hv
        · rw [if_neg e2] at h178
          rw [pnv_al (⟨hkn, g0⟩ : alB D k)] at e2
          by_cases e3 : an D k = -1
          · rw [if_pos e3] at h178; exact absurd h178 hv
          · exact ⟨g0, fun z => e2 (by omega), e3⟩
    have hP2 : v178 = 0 → ¬ (gb D k = 0 ∧ hb D k ≠ q.toNat ∧ an D k ≠ -1 ∧ hb D (an D k).toNat = q.toNat) := by
      rintro hv ⟨g0, e2, e3, -⟩
      have hp := pnv_al (⟨hkn, g0⟩ : alB D k)
      rw [if_neg (fun z => pnv_ne.mp z g0), hp, if_neg (fun z => e2 (by omega)), if_neg e3] at h178
      omega
    have hT : ¬ v178 = 0 → alB D (an D k).toNat ∧ 0 ≤ an D k ∧ gA σ (A 57 0) (an D k) = hb D (an D k).toNat := by
      intro hv
      obtain ⟨g0, e2, e3⟩ := hP hv
      have ha2 := han.2 e3
      have hal : alB D (an D k).toNat := ⟨ha2.2, (hw.1.2.2.2.2.2.1 k hkn).2.2.2.2.2 g0 e3⟩
      refine ⟨hal, ha2.1, ?_⟩
      have := h.1.2.1.2.2.2 (an D k).toNat hal.1
      rw [pnv_al hal] at this
      rw [Int.toNat_of_nonneg ha2.1] at this
      exact this
    refine ⟨⟨cifQ, fun _ hv => ?_⟩, fun v193 h193 x199 h199 => ⟨nb D - (k + 1), by omega, k + 1, by omega, by omega, rfl, ?_⟩⟩
    · obtain ⟨hal, hge, hval⟩ := hT hv
      have := hal.1
      have hbl := (hw.1.2.2.2.2.2.1 _ hal.1).2.1
      rw [hval]
      exact ⟨q_isA0 b2, i9, ⟨hge, by rw [a3]; omega⟩, by unfold qR; omega, hqq⟩
    · rw [h193]
      by_cases e : isAnEK D q.toNat k
      · rw [cif_pos e, if_pos (by decide), cif_pos (isAnEK_s.mpr (Or.inl e))]
      · rw [cif_neg e, if_neg (fun z => z rfl)]
        by_cases hv : v178 = 0
        · rw [if_pos hv, cif_neg (fun z => (isAnEK_s.mp z).elim e (hP2 hv))]
        · rw [if_neg hv, (hT hv).2.2]
          obtain ⟨g0, e2, e3⟩ := hP hv
          by_cases e4 : hb D (an D k).toNat = q.toNat
          · rw [if_neg (fun z => z (by omega)), cif_pos (isAnEK_s.mpr (Or.inr ⟨g0, e2, e3, e4⟩))]
          · rw [if_pos (fun z => e4 (by omega)), cif_neg (fun z => (isAnEK_s.mp z).elim e (fun y => e4 y.2.2.2))]
  have hk2 : k = nb D := by omega
  have hna : ¬ isAnE D q.toNat := by rw [← isAnEK_nb, ← hk2]; exact cif0 hz
  rw [cif_neg hna]
  have hw1 := WF0_Cp hw.1 hok.2 hna
  have hl4 := hs_len4 hw.1 hq2
  obtain ⟨g1, g2, g3, g4⟩ := hw.1.2.1 _ hpn
  obtain ⟨c1, c2', c3'⟩ := m329 h.1.1
  obtain ⟨d1, d2, d3⟩ := m335 h.1.1
  have h49 : gA σ (A 49 0) q = hp D q.toNat := by
    have := (h.1.2.1.2.2.1 q.toNat hq2).1
    rw [pgv_al hok.2] at this
    rwa [← hqv] at this
  have h55 : gA σ (A 55 0) q = (hs D q.toNat).length := by
    have := (HS_of h.1 q.toNat hq2).1
    rwa [← hqv] at this
  rw [c1, h49, d1, h55]
  refine ⟨q_isA0 c2', ⟨hq1, by rw [c3']; omega⟩, fun x21 h21 => ⟨q_isA0 d2, ⟨hq1, by rw [d3]; omega⟩, fun x25 h25 => ?_⟩⟩
  subst h21
  have hn1 := spec_nbr1 (g := g) hl h.1 hw.1 h.2.1.2.1 hok.2
  have hn2 := spec_nbr2 (g := g) hl h.1 hw.1 h.2.1.2.1 hok.2
  rw [← hqv] at hn1 hn2
  refine ⟨_, hn1, _, hn2, _, spec_keeps hl hA h.1.1, fun σ36 h36 => ?_⟩
  obtain ⟨k1, k2, k3, k4⟩ := MR_kept hA hw.1 h h36
  refine ⟨fun n x σ3 => ∃ k : Nat, x = k ∧ k ≤ (hs D q.toNat).length ∧ n = (hs D q.toNat).length - k ∧ qMc A noI (fun t _ => t = 57) σ36 σ3 ∧ ∀ b : Nat, b < nb D → gA σ3 (A 57 0) (b : Int) = cif (∃ j, j < k ∧ bl D q.toNat j = b) (-1) (pnv D b), ⟨_, 0, rfl, Nat.zero_le _, rfl, qMc_rf, fun b hb => by rw [cif_neg (fun z => by obtain ⟨j, hj, -⟩ := z; omega)]; exact k1.1.2.1.2.2.2 b hb⟩, ?_⟩
  rintro n x σ45 ⟨j, rfl, hj, rfl, hc45, hv45⟩
  have S45 := MS_c hc45 k1.1.1
  subst h25
  refine ⟨by unfold qR; omega, by unfold qR; omega, fun hd2 => ?_, fun hd2 => ?_⟩
  rotate_left
  · have hjl : j < (hs D q.toNat).length := by omega
    have hm := bl_mem hjl
    have hbn := ((hw.1.2.2.2.2.1 _ hq2).2.2.1.2.2.2.1 _ hm).2
    obtain ⟨a1, a2, a3⟩ := m336 S45
    obtain ⟨b1, b2, b3⟩ := m337 S45
    have h56 : gA σ45 (A 56 0) (4 * q + (j : Int)) = (bl D q.toNat j : Nat) := by
      rw [qMc_at hA hc45 (fun z => absurd z (by decide))]
      have := (HS_of k1.1 q.toNat hq2).2 j hjl
      rw [← hqv] at this
      exact this
    rw [a1, h56, b1]
    refine ⟨S45.1, q_isA0 a2, ⟨by omega, by rw [a3]; omega⟩, b2, ⟨by omega, by rw [b3]; omega⟩, fun σ154 h154 x156 h156 => ⟨(hs D q.toNat).length - (j + 1), by omega, j + 1, by omega, by omega, rfl, qMc_tr hc45 (by rw [h154]; exact qMc_A rfl), fun b hb => ?_⟩⟩
    rw [h154, gA_at hA]
    by_cases e : b = bl D q.toNat j
    · rw [if_pos ⟨rfl, by omega⟩, cif_pos ⟨j, by omega, e.symm⟩]
    · rw [if_neg (fun z => e (by omega)), hv45 b hb]
      by_cases e2 : ∃ i, i < j ∧ bl D q.toNat i = b
      · obtain ⟨i, i1, i2⟩ := e2
        rw [cif_pos ⟨i, i1, i2⟩, cif_pos ⟨i, by omega, i2⟩]
      · rw [cif_neg e2, cif_neg (fun ⟨i, i1, i2⟩ => by
          by_cases e3 : i = j
          · exact e (by rw [← i2, e3])
          · exact e2 ⟨i, by omega, i2⟩)]
  have hjl : j = (hs D q.toNat).length := by omega
  have hv57 : ∀ b : Nat, b < nb D → gA σ45 (A 57 0) (b : Int) = cif (b ∈ hs D q.toNat) (-1) (pnv D b) := fun b hb => by
    rw [hv45 b hb]
    congr 1
    refine propext ⟨fun ⟨i, i1, i2⟩ => by rw [← i2]; exact bl_mem (by omega), fun z => ⟨(hs D q.toNat).idxOf b, by rw [hjl]; exact ix_lt z, ix_get z⟩⟩
  have hix := ix_lt hmq
  have hel := ers_len hmq
  have hpnl : pn D (hp D q.toNat) = (row D (hp D q.toNat)).length := rfl
  obtain ⟨a1, a2, a3⟩ := m325 S45
  obtain ⟨b1, b2, b3⟩ := m326 S45
  have h45 : gA σ45 (A 45 0) (hp D q.toNat : Int) = ((row D (hp D q.toNat)).length : Nat) := by
    rw [qMc_at hA hc45 (fun z => absurd z (by decide))]; exact (k1.1.2.1.1 _ (by omega)).2.1
  have hrow : ∀ j : Nat, j < (row D (hp D q.toNat)).length → gA σ45 (A 46 0) (8 * (hp D q.toNat : Int) + (j : Int)) = (row D (hp D q.toNat)).getD j 0 := fun j hj => by
    rw [qMc_at hA hc45 (fun z => absurd z (by decide))]; exact (k1.1.2.1.1 _ (by omega)).2.2 j hj
  have hfind := spec_find (g := g) hl (its := q.toNat) b2 b3 (f := 8 * (hp D q.toNat : Int)) (by omega) (by omega) (by decide) hrow hmq (fun y hy => by have := row_lt hw.1 hpn hy; omega)
  rw [← hqv] at hfind
  rw [a1, b1, h45]
  refine ⟨S45.1, q_isA0 a2, ⟨by omega, by rw [a3]; omega⟩, _, hfind, _, spec_rem hl hA (xs := row D (hp D q.toNat)) b2 b3 (by omega) (by omega) (by decide) hrow hix, fun σ59 h59 => ?_⟩
  obtain ⟨hc59, hv59⟩ := h59
  have S59 := MS_c hc59 S45
  obtain ⟨a1, a2, a3⟩ := m325 S59
  have r45 : gA σ59 (A 45 0) (hp D q.toNat : Int) = ((row D (hp D q.toNat)).length : Nat) := by rw [qMc_at hA hc59 (fun z => absurd z.1 (by decide))]; exact h45
  rw [a1, r45]
  refine ⟨S59.1, q_isA0 a2, ⟨by omega, by rw [a3]; omega⟩, a2, fun σ65 h65 => ?_⟩
  have hc65 : qMc A noI (fun t i => t = 45 ∧ i = (hp D q.toNat : Int)) σ59 σ65 := by rw [h65]; exact qMc_A ⟨rfl, rfl⟩
  have S65 := MS_c hc65 S59
  obtain ⟨a1, a2, a3⟩ := m329 S65
  rw [a1]
  refine ⟨a2, ⟨hq1, by rw [a3]; omega⟩, fun σ69 h69 => ?_⟩
  rw [hqv] at h69
  have hc69 : qMc A noI (fun t i => t = 49 ∧ i = (q.toNat : Int)) σ65 σ69 := by rw [h69]; exact qMc_A ⟨rfl, rfl⟩
  have hcl : qMc A noI (fun t i => (t = 45 ∧ i = (hp D q.toNat : Int)) ∨ (t = 46 ∧ 8 * (hp D q.toNat : Int) ≤ i ∧ i < 8 * (hp D q.toNat : Int) + 8) ∨ (t = 49 ∧ i = (q.toNat : Int)) ∨ t = 57) σ36 σ69 := qMc_tr (qMc_tr (qMc_tr (qMc_mono hc45 (fun _ z => z) (fun t i z => Or.inr (Or.inr (Or.inr z)))) (qMc_mono hc59 (fun _ z => z) (fun t i z => Or.inr (Or.inl ⟨z.1, z.2.1, by have := z.2.2; omega⟩)))) (qMc_mono hc65 (fun _ z => z) (fun t i z => Or.inl z))) (qMc_mono hc69 (fun _ z => z) (fun t i z => Or.inr (Or.inr (Or.inl z))))
  have hrl : ((rowC D q.toNat).length : Int) = ((row D (hp D q.toNat)).length : Int) - 1 := by unfold rowC; rw [hel]; omega
  obtain ⟨hB, h2⟩ := mcp_B hA hw.1 hok.2 k1.1 hcl (fun t i z => z) (by
    rw [qMc_at hA hc69 (fun z => absurd z.1 (by decide)), h65, gA_at hA, if_pos ⟨rfl, rfl⟩, hrl]) (fun j hj => by
    rw [qMc_at hA hc69 (fun z => absurd z.1 (by decide)), qMc_at hA hc65 (fun z => absurd z.1 (by decide))]
    exact hv59 j (by omega)) (by rw [h69, gA_at hA, if_pos ⟨rfl, rfl⟩]) (fun b hb => by
    rw [qMc_at hA hc69 (fun z => absurd z.1 (by decide)), qMc_at hA hc65 (fun z => absurd z.1 (by decide)), qMc_at hA hc59 (fun z => absurd z.1 (by decide))]
    exact hv57 b hb)
  have hclm : qMc A noI (fun t _ => 45 ≤ t ∧ t ≤ 57) σ36 σ69 := qMc_mono hcl (fun _ z => z) (fun t i z => by omega)
  have hc1 : qMc A modI modA σ σ69 := qMc_tr (kept_mod k2) (low_mod hclm (fun t i z => by omega))
  have hsc : MSc A D σ69 := MSc_c hcl (fun _ _ _ z => z) k1.2.1
  have hsc1 : MSc A (dCp D q.toNat) σ69 := hsc
  refine ⟨_, spec_stays hl hA hB hw1 hsc.1 hsc.2.2 (MA1_c hA hclm (fun t i ht z => by have := told_hi t; omega) k3) h2 hw rfl, fun σ76 v78 h35 => ?_⟩
  have hone := OK_one (D1 := dCp D q.toNat) hw rfl hpn (fun p' hp2 hne => LyEq_Cp hne)
  obtain ⟨hs1, hs2⟩ := h35
  have hmm : qMc A mI mA σ σ76 := mI_tr hc1 hs1 (fun t i z => by unfold modA at z; omega) (fun t i z => stSA_lo z)
  rcases hs2 with ⟨rfl, hok1, hans, hB1, hL, hall⟩ | ⟨rfl, hno, hB1, hL⟩
  rotate_left
  · refine ⟨by unfold qR; omega, fun v81 h81 => ⟨hB1.1.1, fun σ87 h87 => ?_⟩⟩
    rw [if_pos rfl] at h81
    subst h81
    obtain ⟨j1, j2, j3⟩ := st_no hA h hc1 hs1 (fun q' hq' hg z => by
      have := z.2
      rw [gq_Cp] at this
      by_cases e : q' = q.toNat
      · rw [if_pos e] at this; omega
      · rw [if_neg e] at this; exact hg this)
    have hM : MR A D σ76 := ⟨hB1, MSc_c hs1 (fun _ _ _ z => z) hsc, j1, j2, hL, j3⟩
    obtain ⟨n1, n2, n3⟩ := MR_t hA hM h87
    have hno1 : ¬ OKp (dCp D q.toNat) (hp D q.toNat) := fun z => hno ⟨hone.mpr z, Ans_Cp hw hw1⟩
    rw [cif_neg hno1, cif_neg (fun z => hno1 z.2.2)]
    exact ⟨fun z => absurd z (by decide), fun _ => ⟨_, rfl, n1, qMc_tr hmm (mod_mA n2 (fun _ _ z => z.elim)), n3⟩⟩
  refine ⟨by unfold qR; omega, fun v81 h81 => ⟨hB1.1.1, fun σ87 h87 => ?_⟩⟩
  rw [if_neg (by decide)] at h81
  subst h81
  have ho := hone.mp hok1
  rw [cif_pos ho, cif_pos ⟨hok, hna, ho⟩]
  obtain ⟨j1, j2, j3, j4⟩ := st_core hA hw1 h rfl hc1 hsc1 hall (fun q' hq' hg i i0 i1 => by
    rw [gq_Cp] at hg
    by_cases e : q' = q.toNat
    · rw [e] at i0 i1
      obtain ⟨l1, l2, -⟩ := ML_al h hw.1 hok.2
      obtain ⟨y1, y2, y3, y4⟩ := LB_Q hw hok.2
      obtain ⟨z1, z2, z3, z4⟩ := l2
      have hkb : kq D q.toNat ≤ 8 := by
        have hPg := WF0_Pg hw.1 hpn
        have s := kOf_sp hPg (i := ixP D q.toNat) hix
        have t := rS_ge hPg (kOf D (hp D q.toNat) (ixP D q.toNat))
        show kOf D (hp D q.toNat) (ixP D q.toNat) ≤ 8
        omega
      have hcase : i = 5 * (q.toNat : Int) ∨ i = 5 * (q.toNat : Int) + 1 ∨ i = 5 * (q.toNat : Int) + 1 + 1 ∨ i = 5 * (q.toNat : Int) + 1 + 2 ∨ i = 5 * (q.toNat : Int) + 1 + 3 := by omega
      rcases hcase with r | r | r | r | r
      · rw [r, l1]; unfold qR; omega
      · rw [r, z1]; exact y1
      · rw [r, z2]; exact y2
      · rw [r, z3]; exact y3
      · rw [r, z4]; exact y4
    · rw [if_neg e] at hg
      exact h.2.2.2.2.2 q' hq' hg i i0 i1)
  refine ⟨fun _ => ?_, fun z => absurd (Int.le_refl 0) z⟩
  have c87 : qMc A m320 noA σ76 σ87 := by rw [h87]; exact qMc_I rfl
  obtain ⟨r1, r2, r3⟩ := j2
  have h354 : gI σ87 354 (A 30 0) = he D := by rw [qMc_f c87 (by unfold m320; decide)]; exact r1
  rw [h354]
  have heQ : qR (he D) := by
    rcases hw.1.2.2.2.2.2.2.1 with z | z
    · rw [z]; unfold qR; omega
    · have := z.2.1; unfold qR; omega
  have hnx : qR (nxt D q) := by
    rcases nxt_sp (D := D) q with z | ⟨x, y, -⟩
    · rw [z.1]; unfold qR; omega
    · have := y.1; unfold qR; omega
  refine ⟨⟨heQ, hqq, fun _ => hnx⟩, fun v95 h95 σ99 h99 => ?_⟩
  have hv95 : v95 = he (dCp D q.toNat) := by
    rw [h95, he_Cp]
    unfold hereC heir
    rw [← hqv]
  have c99 : qMc A (fun f => f = 354) noA σ87 σ99 := by rw [h99]; exact qMc_I rfl
  have cA : qMc A (fun f => f = 320 ∨ f = 354) noA σ76 σ99 := qMc_tr (qMc_mono c87 (fun f z => Or.inl z) (fun _ _ z => z)) (qMc_mono c99 (fun f z => Or.inr z) (fun _ _ z => z))
  have h99v : gI σ99 354 (A 30 0) = he (dCp D q.toNat) := by rw [h99, gI_eq, hv95]
  have t99 : gI σ99 320 (A 30 0) = 0 := by rw [qMc_f c99 (by decide), h87, gI_eq]
  rw [hqv]
  refine mforget hA (D := D) (MS_c cA hB1.1) (by rw [qMc_f cA (by decide)]; exact r2) (fun i hi => by rw [qMc_at hA cA (fun z => z)]; exact r3 i hi) hk (fun x hx => by have := (hw.1.2.2.2.2.2.2.2.1 x hx).1; omega) (by omega) (fun σ109 σ114 c109 hv109 h114 => ?_)
  have c114 : qMc A (fun f => f = 355) noA σ109 σ114 := by rw [h114]; exact qMc_I rfl
  have cB : qMc A (fun f => f = 320 ∨ f = 354 ∨ f = 355) (fun t _ => t = 76) σ76 σ114 := qMc_tr (qMc_tr (qMc_mono cA (fun f z => by omega) (fun _ _ z => z.elim)) (qMc_mono c109 (fun _ z => z.elim) (fun _ _ z => z))) (qMc_mono c114 (fun f z => by omega) (fun _ _ z => z.elim))
  have hMR : MR A (dCp D q.toNat) σ114 := by
    refine ⟨MB_c hA cB (fun t i t1 t2 z => by omega) hB1, MSc_c cB (fun f f1 f2 z => by omega) j1, ⟨?_, ?_, fun i hi => ?_⟩, MZ_c hA cB (fun i _ z => by omega) j3, fun p hp' => ML_c hA cB (fun t i t1 t2 z => by omega) (hL p hp'), fun q' hq' hg i i0 i1 => by rw [qMc_at hA cB (by decide)]; exact j4 q' hq' hg i i0 i1⟩
    · rw [qMc_f c114 (by decide), qMc_f c109 (fun z => z)]; exact h99v
    · rw [h114, gI_eq]; rfl
    · rw [qMc_at hA c114 (fun z => z)]; exact hv109 i hi
  have t114 : gI σ114 320 (A 30 0) = 0 := by rw [qMc_f c114 (by decide), qMc_f c109 (fun z => z)]; exact t99
  exact ⟨_, rfl, hMR, qMc_tr hmm (mod_mA cB (fun t i z => by omega)), rfl, t114⟩
end
