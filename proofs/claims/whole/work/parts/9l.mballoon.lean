/-! the model: balloon -/
section
variable {g : qG} {l : Launch} {A : Nat → Nat → Nat} {D D1 : qD} {σ σ0 σ1 σ2 σ' : qS} {c : Nat → Int}
theorem mI_tr {SI SI' : Nat → Prop} {SA SA' : Nat → Int → Prop} (h1 : qMc A SI SA σ σ1) (h2 : qMc A SI' SA' σ1 σ') (s1 : ∀ t i, SA t i → 40 ≤ t) (s2 : ∀ t i, SA' t i → 40 ≤ t) : qMc A mI mA σ σ' := qMc_tr (mod_mA h1 s1) (mod_mA h2 s2)
/-- the number of the balloons put back -/
theorem MR_323 (hA : qInj A) {v : Int} (hB : MB A D σ) (hL : ∀ p, p < np D → ML A D σ p) (k1 : MRd A D σ) (k2 : MZ A D σ) (k3 : MGo A D σ) (h1 : gI σ 321 (A 30 0) = np D) (h2 : gI σ 322 (A 30 0) = nq D) (hv : v = nb D) (hs : σ' = sI σ 323 (A 30 0) v) : MR A D σ' ∧ qMc A (fun f => f = 323) noA σ σ' := by
  have hc : qMc A (fun f => f = 323) noA σ σ' := by rw [hs]; exact qMc_I rfl
  exact ⟨⟨MB_c hA hc (fun _ _ _ _ z => z) hB, ⟨by rw [qMc_f hc (by decide)]; exact h1, by rw [qMc_f hc (by decide)]; exact h2, by rw [hs, gI_eq, hv]⟩, MRd_c hA hc ⟨by decide, by decide⟩ (fun _ z => z) k1, MZ_c hA hc (fun _ _ z => z) k2, fun p hp' => ML_c hA hc (fun _ _ _ _ z => z) (hL p hp'), fun q hq hg i i0 i1 => by rw [qMc_at hA hc (fun z => z)]; exact k3 q hq hg i i0 i1⟩, hc⟩
theorem spec_mballoon (hl : l.stackTraces = false) (hA : qInj A) (h : MR A D σ) (hw : WF D) {q i v : Int} (hqq : qR q) (hiq : qR i) (hvq : qR v) : qMet g l M_X8_balloon [vr (A 30 0), vi q, vi i, vi v] σ (qTi0 (qMO A σ c3 (o_balloon D q i v) (d_balloon D q i v))) := by
  have hn := hw.1.1
  unfold o_balloon d_balloon
  have hrf : qMc A m320 noA σ σ := qMc_rf
  refine wm_X8_balloon hl ⟨h.1.1.1, _, spec_isPanel hl h.1 h.2.1 hw.1 hqq, cifQ, fun hz1 => ⟨_, fails_q hl hA (c := c3) (n := 2) h hrf rfl, fun σ3 v3 h3 => ⟨v3, rfl, ?_⟩⟩, fun hz1 => ?_⟩
  · have hno := cif0 hz1
    rw [cif_neg (fun z => hno z.1), cif_neg (fun z => hno z.1.1)]; exact h3
  have hok := cif1 hz1
  have hq1 := hok.1
  have hq2 := hok.2.1
  have hqv : q = (q.toNat : Int) := (Int.toNat_of_nonneg hq1).symm
  obtain ⟨a1, a2, a3⟩ := m335 h.1.1
  have h55 : gA σ (A 55 0) q = (hs D q.toNat).length := by
    have := (HS_of h.1 q.toNat hq2).1
    rwa [← hqv] at this
  have hl4 := hs_len4 hw.1 hq2
  have h323 := h.2.1.2.2
  rw [a1, h55, h323]
  refine ⟨q_isA0 a2, ⟨hq1, by rw [a3]; omega⟩, _, spec_in hl hiq (by unfold qR; omega) (by unfold qR; omega), inQ, fun hz2 => ?_, fun hz2 => ⟨_, fails_q hl hA (c := c3) (n := 2) h hrf rfl, fun σ3 v3 h3 => ⟨v3, rfl, ?_⟩⟩⟩
  rotate_left
  · have hno := in0 hz2
    rw [cif_neg (fun z => hno z.2), cif_neg (fun z => hno z.1.2)]; exact h3
  have hpl : pnOk D q ∧ 0 ≤ i ∧ i ≤ ((hs D q.toNat).length : Int) := ⟨hok, in1 hz2⟩
  have hpl2 := hpl.2
  rw [cif_pos hpl]
  refine ⟨_, spec_in hl hvq (by unfold qR; omega) (by unfold qR; omega), ⟨inQ, fun _ => ⟨by unfold qR; omega, fun _ => by unfold qR; omega⟩⟩, fun v28 h28 σ33 h33 => ?_⟩
  obtain ⟨t1, t2, t3⟩ := MR_t hA h h33
  by_cases ev : 1 ≤ v ∧ v ≤ 60
  rotate_left
  · rw [if_neg ev, if_neg (fun z => z rfl)] at h28
    subst h28
    rw [cif_neg ev, cif_neg (fun z => ev z.2.1)]
    exact ⟨fun z => absurd z (by decide), fun _ => ⟨_, rfl, qMP_q hA h t2 t3⟩⟩
  rw [if_pos ev, if_pos (by decide)] at h28
  rw [cif_pos ev]
  by_cases em : (hs D q.toNat).length < 4 ∧ nb D < 80
  rotate_left
  · have e3 : v28 = 3 := by
      rw [h28]
      by_cases e : ((hs D q.toNat).length : Int) = 4
      · rw [if_pos e]
      · rw [if_neg e, if_neg (fun z => em ⟨by omega, by omega⟩)]
    subst e3
    rw [cif_neg (fun z => em ⟨z.1, z.2.1⟩), cif_neg (fun z => em ⟨z.2.2.1, z.2.2.2.1⟩)]
    exact ⟨fun z => absurd z (by decide), fun _ => ⟨_, rfl, qMP_q hA h t2 t3⟩⟩
  rw [if_neg (by omega), if_pos (by omega)] at h28
  subst h28
  refine ⟨fun _ => ⟨_, spec_keeps hl hA t1.1.1, fun σ41 h41 => ?_⟩, fun z => absurd (Int.le_refl 0) z⟩
  obtain ⟨k1, k2, k3, k4⟩ := kept0 hA hw.1 h h33 h41
  have k320 : gI σ41 320 (A 30 0) = 0 := by rw [qMc_f h41.1 (fun z => z)]; exact t3
  have hw1 := WF0_Nb hw.1 hok.2 em.1 em.2 (i := i.toNat) (by omega) ev
  obtain ⟨a1, a2, a3⟩ := m337 k1.1.1
  rw [a1, k1.2.1.2.2]
  refine ⟨k1.1.1.1, a2, ⟨by omega, by rw [a3]; omega⟩, fun σ46 h46 => ?_⟩
  have c46 : qMc A noI (fun t _ => t = 57) σ41 σ46 := by rw [h46]; exact qMc_A rfl
  have S46 := MS_c c46 k1.1.1
  have n46 : gI σ46 323 (A 30 0) = nb D := by rw [qMc_f c46 (fun z => z)]; exact k1.2.1.2.2
  obtain ⟨a1, a2, a3⟩ := m338 S46
  rw [a1, n46]
  refine ⟨a2, ⟨by omega, by rw [a3]; omega⟩, fun σ50 h50 => ?_⟩
  have c50 : qMc A noI (fun t _ => t = 58) σ46 σ50 := by rw [h50]; exact qMc_A rfl
  have S50 := MS_c c50 S46
  have n50 : gI σ50 323 (A 30 0) = nb D := by rw [qMc_f c50 (fun z => z)]; exact n46
  obtain ⟨a1, a2, a3⟩ := m339 S50
  rw [a1, n50]
  refine ⟨a2, ⟨by omega, by rw [a3]; omega⟩, fun σ54 h54 => ?_⟩
  have c54 : qMc A noI (fun t _ => t = 59) σ50 σ54 := by rw [h54]; exact qMc_A rfl
  have S54 := MS_c c54 S50
  have n54 : gI σ54 323 (A 30 0) = nb D := by rw [qMc_f c54 (fun z => z)]; exact n50
  have c54' : qMc A noI (fun t _ => 57 ≤ t ∧ t ≤ 59) σ41 σ54 := qMc_tr (qMc_tr (qMc_mono c46 (fun _ z => z) (fun t i z => by omega)) (qMc_mono c50 (fun _ z => z) (fun t i z => by omega))) (qMc_mono c54 (fun _ z => z) (fun t i z => by omega))
  have hH : HSm A (nq D) (hs D) σ54 := HS_f hA c54' (fun t i ht z => by omega) (HS_of k1.1)
  rw [n54, hqv, ← Int.toNat_of_nonneg hpl2.1]
  refine pt_b hl hA S54 hH hq2 hn.2.1 (fun q hq => hs_len4 hw.1 hq) em.1 (by omega) (fun σ69 h69 hH2 => ?_)
  rw [← hqv, Int.toNat_of_nonneg hpl2.1]
  intro σ71 h71
  have hcl : qMc A noI (fun t _ => 55 ≤ t ∧ t ≤ 59) σ41 σ69 := qMc_tr (qMc_mono c54' (fun _ z => z) (fun t i z => by omega)) (qMc_mono h69 (fun _ z => z) (fun t i z => by omega))
  have n69 : gI σ69 323 (A 30 0) = nb D := by rw [qMc_f h69 (fun z => z)]; exact n54
  rw [n69] at h71
  have hH1 : HSm A (nq D) (hs (dNb D q.toNat i.toNat v)) σ69 := by
    have e : hs (dNb D q.toNat i.toNat v) = updL (hs D) q.toNat ((hs D q.toNat).insertIdx i.toNat (nb D)) := funext (fun q' => hs_Nb)
    rw [e]; exact hH2
  have g57 : ∀ j : Int, gA σ69 (A 57 0) j = if j = (nb D : Int) then q else gA σ41 (A 57 0) j := fun j => by
    rw [qMc_at hA h69 (fun z => by omega), qMc_at hA c54 (fun z => by omega), qMc_at hA c50 (fun z => by omega), h46, gA_at hA]
    simp only [true_and]
  have g58 : ∀ j : Int, gA σ69 (A 58 0) j = if j = (nb D : Int) then v else gA σ41 (A 58 0) j := fun j => by
    rw [qMc_at hA h69 (fun z => by omega), qMc_at hA c54 (fun z => by omega), h50, gA_at hA, qMc_at hA c46 (fun z => by omega)]
    simp only [true_and]
  have g59 : ∀ j : Int, gA σ69 (A 59 0) j = if j = (nb D : Int) then -1 else gA σ41 (A 59 0) j := fun j => by
    rw [qMc_at hA h69 (fun z => by omega), h54, gA_at hA, qMc_at hA c50 (fun z => by omega), qMc_at hA c46 (fun z => by omega)]
    simp only [true_and]
  obtain ⟨d1, d2, d3⟩ := k1.1.2.2
  have e1 : ∀ p : Nat, p < 10 → gA σ69 (A 47 0) (p : Int) = sp D p := fun p hp' => by rw [qMc_at hA hcl (fun z => by omega)]; exact d1 p hp'
  have e2 : ∀ q : Nat, q < nq D → gA σ69 (A 50 0) (q : Int) = wt D q ∧ gA σ69 (A 51 0) (q : Int) = wd D q ∧ gA σ69 (A 52 0) (q : Int) = ht D q ∧ ∀ i : Nat, i < (fc D q).length → gA σ69 (A 54 0) (6 * (q : Int) + 3 * (i : Int)) = ((fc D q).getD i (0, 0, 0)).1 ∧ gA σ69 (A 54 0) (6 * (q : Int) + 3 * (i : Int) + 1) = ((fc D q).getD i (0, 0, 0)).2.1 ∧ gA σ69 (A 54 0) (6 * (q : Int) + 3 * (i : Int) + 2) = ((fc D q).getD i (0, 0, 0)).2.2 := fun q' hq' => by
    obtain ⟨x, y, z, w⟩ := d2 q' hq'
    exact ⟨by rw [qMc_at hA hcl (fun z => by omega)]; exact x, by rw [qMc_at hA hcl (fun z => by omega)]; exact y, by rw [qMc_at hA hcl (fun z => by omega)]; exact z, fun i hi => by rw [qMc_at hA hcl (fun z => by omega), qMc_at hA hcl (fun z => by omega), qMc_at hA hcl (fun z => by omega)]; exact w i hi⟩
  have h2 : MA2 A D σ69 := ⟨e1, e2, fun b' hb2 => by
    rw [g58, g59, if_neg (by omega), if_neg (by omega)]
    exact d3 b' hb2⟩
  have h2n : MA2 A (dNb D q.toNat i.toNat v) σ69 := ⟨e1, e2, fun b' hb2 => by
    rw [nb_Nb] at hb2
    rw [g58, g59, lt_Nb, an_Nb]
    by_cases e : b' = nb D
    · have hE : (b' : Int) = (nb D : Int) := by omega
      rw [if_pos hE, if_pos hE, if_pos e, if_pos e]; exact ⟨rfl, rfl⟩
    · have hE : ¬ (b' : Int) = (nb D : Int) := by omega
      rw [if_neg hE, if_neg hE, if_neg e, if_neg e]
      exact d3 b' (by omega)⟩
  have h57 : ∀ b' : Nat, b' < nb (dNb D q.toNat i.toNat v) → gA σ69 (A 57 0) (b' : Int) = pnv (dNb D q.toNat i.toNat v) b' := by
    intro b' hb2
    rw [nb_Nb] at hb2
    unfold pnv
    rw [gb_Nb, hb_Nb, g57]
    by_cases e : b' = nb D
    · rw [if_pos (by omega), if_pos e, if_pos rfl, if_pos e]; exact hqv
    · rw [if_neg (by omega), if_neg e, if_neg e]
      exact k1.1.2.1.2.2.2 b' (by omega)
  have hB69 : MB A (dNb D q.toNat i.toNat v) σ69 := MB_hs hA hcl (fun t i z => z) k1.1 nq_Nb hH1 h57 (fun _ => rfl) (fun _ => rfl) (fun _ => rfl) (fun _ => rfl) (fun _ => rfl) h2n
  have c71 : qMc A (fun f => f = 323) noA σ69 σ71 := by rw [h71]; exact qMc_I rfl
  have hB : MB A (dNb D q.toNat i.toNat v) σ71 := MB_c hA c71 (fun _ _ _ _ z => z) hB69
  have hsc : MSc A (dNb D q.toNat i.toNat v) σ71 := by
    have s := MSc_c hcl (fun _ _ _ z => z) k1.2.1
    refine ⟨?_, ?_, ?_⟩
    · rw [qMc_f c71 (by decide), np_Nb]; exact s.1
    · rw [qMc_f c71 (by decide), nq_Nb]; exact s.2.1
    · rw [h71, gI_eq, nb_Nb]; omega
  have c0 : qMc A modI modA σ σ69 := qMc_tr k2 (low_mod hcl (fun t i z => by omega))
  have hc1 : qMc A modI modA σ σ71 := qMc_tr c0 (qMc_mono c71 (fun f z => by unfold modI; omega) (fun _ _ z => z.elim))
  have t320 : gI σ71 320 (A 30 0) = 0 := by rw [qMc_f c71 (by decide), qMc_f hcl (fun z => z)]; exact k320
  refine ⟨_, spec_stays hl hA hB hw1 hsc.1 hsc.2.2 (MA1_c hA c71 (fun _ _ _ z => z) (MA1_c hA hcl (fun t i ht z => by have := told_hi t; omega) k3)) (MA2_c hA c71 (fun _ _ _ z => z) h2) hw np_Nb.symm, fun σ78 v80 h35 => ?_⟩
  have hly : ∀ p', p' < np D → p' ≠ hp D q.toNat → LyEq D (dNb D q.toNat i.toNat v) p' := fun p' hp2 hne => LyEq_Nb hw.1 hp2 (fun z => hne (((hom hw.1 hp2) _ z).1).symm)
  have hone := OK_one (D1 := dNb D q.toNat i.toNat v) hw np_Nb (alP_home hw.1 hok.2).1 hly
  obtain ⟨hs1, hs2⟩ := h35
  have hmm : qMc A mI mA σ σ78 := mI_tr hc1 hs1 (fun t i z => by unfold modA at z; omega) (fun t i z => stSA_lo z)
  have t78 : gI σ78 320 (A 30 0) = 0 := by rw [qMc_f hs1 (fun z => z)]; exact t320
  have n78 : gI σ78 323 (A 30 0) = (nb D : Int) + 1 := by rw [qMc_f hs1 (fun z => z), hsc.2.2, nb_Nb]; omega
  rcases hs2 with ⟨rfl, hok1, hans, hB1, hL, hall⟩ | ⟨rfl, hno, hB1, hL⟩
  · obtain ⟨j1, j2, j3, j4⟩ := st_core hA hw1 h np_Nb hc1 hsc hall (fun q' hq' hg => h.2.2.2.2.2 q' (by rw [nq_Nb] at hq'; exact hq') hg)
    have hM : MR A (dNb D q.toNat i.toNat v) σ78 := ⟨hB1, j1, j2, j3, hL, j4⟩
    refine ⟨by unfold qR; omega, fun _ => ⟨hM.1.1.1, ?_⟩, fun z => absurd z (by decide)⟩
    have ho := hone.mp hok1
    rw [cif_pos ⟨em.1, em.2, ho⟩, cif_pos ⟨hpl, ev, em.1, em.2, ho⟩, n78]
    exact ⟨_, rfl, hM, hmm, by omega, t78⟩
  · refine ⟨by unfold qR; omega, fun z => absurd rfl z, fun _ => ⟨hB1.1.1, fun σ85 h85 => ?_⟩⟩
    obtain ⟨j1, j2, j3⟩ := st_no hA h hc1 hs1 (fun q' hq' hg z => hg z.2)
    have h321 : gI σ78 321 (A 30 0) = np D := by rw [qMc_f hs1 (fun z => z), hsc.1, np_Nb]
    have h322 : gI σ78 322 (A 30 0) = nq D := by rw [qMc_f hs1 (fun z => z), hsc.2.1, nq_Nb]
    obtain ⟨hM, cM⟩ := MR_323 hA hB1 hL j1 j2 j3 h321 h322 (by rw [n78]; omega) h85
    have hno1 : ¬ OKp (dNb D q.toNat i.toNat v) (hp D q.toNat) := fun z => hno ⟨hone.mpr z, Ans_Nb hw hw1⟩
    rw [cif_neg (fun z => hno1 z.2.2), cif_neg (fun z => hno1 z.2.2.2.2)]
    exact ⟨_, fails_q hl hA (c := c3) (n := 0) hM qMc_rf rfl, fun σ3 v3 h3 => ⟨v3, rfl, h3.1, qMc_tr (qMc_tr hmm (mod_mA cM (fun _ _ z => z.elim))) h3.2.1, h3.2.2⟩⟩
end
