/-! the class: moveBalloon -/
section
variable {g : qG} {l : Launch} {A : Nat → Nat → Nat} {D : qD} {σ : qS}
def mbPl (D : qD) (b q i : Int) : Prop := 0 ≤ i ∧ i ≤ ((hs D q.toNat).length : Int) - (if q.toNat = hb D b.toNat then 1 else 0)
def mbSt (D : qD) (b q i : Nat) : Prop := ¬ (q ≠ hb D b ∧ 4 ≤ (hs D q).length) ∧ OKp (dMb D b q i) (hp D (hb D b)) ∧ OKp (dMb D b q i) (hp D q) ∧ Ans (dMb D b q i)
noncomputable def o_moveBalloon (D : qD) (b q i : Int) : Int ⊕ Nat := cif (blOk D b ∧ pnOk D q ∧ mbPl D b q i) (cif (mbSt D b.toNat q.toNat i.toNat) (.inl 0) (.inr 0)) (.inr 2)
noncomputable def d_moveBalloon (D : qD) (b q i : Int) : qD := cif ((blOk D b ∧ pnOk D q ∧ mbPl D b q i) ∧ mbSt D b.toNat q.toNat i.toNat) (dMb D b.toNat q.toNat i.toNat) D
theorem OK_Mb (hw : WF D) {b q i : Nat} (hb' : alB D b) (hq : alP D q) (h1 : OKp (dMb D b q i) (hp D (hb D b))) (h2 : OKp (dMb D b q i) (hp D q)) : ∀ p, p < np D → OKp (dMb D b q i) p := by
  intro p hp'
  by_cases c1 : p = hp D (hb D b)
  · rw [c1]; exact h1
  · by_cases c2 : p = hp D q
    · rw [c2]; exact h2
    · have hh := hom hw.1 hp'
      exact (LyEq_OK (WF0_Pg hw.1 hp') (LyEq_Mb (fun z => c2 ((hh _ z).1).symm) (fun z => c1 ((hh _ z).1).symm))).mpr (hw.2.1 p hp')
theorem spec_moveBalloon (hl : l.stackTraces = false) (hA : qInj A) (h : CR A D σ) (hw : WF D) {b q i : Int} (hbq : qR b) (hqq : qR q) (hiq : qR i) : qMet g l M_X7_moveBalloon [vr (A 0 0), vi b, vi q, vi i] σ (qClV A σ (o_moveBalloon D b q i) (d_moveBalloon D b q i)) := by
  unfold o_moveBalloon d_moveBalloon
  have hsame : ∀ o, qClV A σ o D σ (resv o) := fun o => ⟨A, hA, fun _ _ _ _ => rfl, h, frm_rf, rfl⟩
  refine wm_X7_moveBalloon hl ⟨h.1.1, _, _, spec_needBalloon hl h hw.1 hbq, fun σ1 v1 h1 => ?_, fun σ1 n h1 => ?_⟩
  rotate_left
  · obtain ⟨rfl, hok, rfl⟩ := h1
    rw [cif_neg (fun z => hok z.1), cif_neg (fun z => hok z.1.1)]
    exact hsame (.inr 2)
  obtain ⟨rfl, hokb, rfl⟩ := h1
  refine ⟨h.1.1, _, _, spec_needPanel hl h hw.1 hqq, fun σ2 v1 h1 => ?_, fun σ1 n h1 => ?_⟩
  rotate_left
  · obtain ⟨rfl, hok, rfl⟩ := h1
    rw [cif_neg (fun z => hok z.2.1), cif_neg (fun z => hok z.1.2.1)]
    exact hsame (.inr 2)
  obtain ⟨rfl, hokq, rfl⟩ := h1
  have hS0 := CR_SR h
  obtain ⟨hal, hm⟩ := alB_home hw.1 hokb.2
  obtain ⟨hpn1, hmq1⟩ := alP_home hw.1 hal
  obtain ⟨hpn2, hmq2⟩ := alP_home hw.1 hokq.2
  obtain ⟨⟨b1, b2, b3, b4, b5, b6, b7, b8⟩, -⟩ := CR_bl h hokb.2
  have hPf := (CR_pn h hal).1
  have hPq := (CR_pn h hokq.2).1
  have hPWf := (hw.1.2.2.2.2.1 _ hal.1).2.2.1
  have hPWq := (hw.1.2.2.2.2.1 _ hokq.2.1).2.2.1
  have hl4 := hPWq.2.2.1
  have hltb : q.toNat = hb D b.toNat → ((toB D b.toNat q.toNat).length : Int) = ((hs D q.toNat).length : Int) - 1 := by
    intro c
    unfold toB erB
    rw [if_pos c, ers_len hm, ← c]
    have := ix_lt hm
    rw [← c] at this
    omega
  have hltn : q.toNat ≠ hb D b.toNat → toB D b.toNat q.toNat = hs D q.toNat := by
    intro c
    unfold toB
    rw [if_neg c]
  -- the common road
  have hK : 0 ≤ i → i.toNat ≤ (toB D b.toNat q.toNat).length → (toB D b.toNat q.toNat).length < 4 → blOk D b ∧ pnOk D q ∧ mbPl D b q i → ¬ (q.toNat ≠ hb D b.toNat ∧ 4 ≤ (hs D q.toNat).length) →
      gK σ2 (A 6 (hb D b.toNat)) = 6 ∧ (∃ v37 : Int, qMet g l M_X5_indexOf [vr (A 6 (hb D b.toNat)), vr (A 7 b.toNat)] σ2 (qPi σ2 v37) ∧ (gK σ2 (A 7 b.toNat) = 1 ∧ (∃ Mid40 : qS → Prop, qMet g l M_X0_goTo [vr (A 7 b.toNat), vr (A 6 q.toNat), vi i] σ2 (qTv0 Mid40) ∧ ∀ (σ44 : qS), Mid40 σ44 → gK σ44 (A 0 0) = 8 ∧ gK σ44 (A 6 (hb D b.toNat)) = 6 ∧ gK σ44 (gP σ44 283 (A 0 0)) = 4 ∧ (∃ Mid50 : qS → Int → Prop, qMet g l M_X3_tryPage [vr (gP σ44 283 (A 0 0)), vr (gP σ44 201 (A 6 (hb D b.toNat)))] σ44 (qTi0 Mid50) ∧ ∀ (σ54 : qS) (v56 : Int), Mid50 σ54 v56 → qR v56 ∧ ((v56 = 0 → gK σ54 (A 7 b.toNat) = 1 ∧ (∃ Mid61 : qS → Prop, qMet g l M_X0_goTo [vr (A 7 b.toNat), vr (A 6 (hb D b.toNat)), vi v37] σ54 (qTv0 Mid61) ∧ ∀ (σ65 : qS), Mid61 σ65 → qClV A σ2 (cif (blOk D b ∧ pnOk D q ∧ mbPl D b q i) (cif (mbSt D b.toNat q.toNat i.toNat) (.inl 0) (.inr 0)) (.inr 2)) (cif ((blOk D b ∧ pnOk D q ∧ mbPl D b q i) ∧ mbSt D b.toNat q.toNat i.toNat) (dMb D b.toNat q.toNat i.toNat) D) σ65 (.inr 0))) ∧ (¬ (v56 = 0) → gK σ54 (A 0 0) = 8 ∧ gK σ54 (A 6 q.toNat) = 6 ∧ gK σ54 (gP σ54 283 (A 0 0)) = 4 ∧ (∃ Mid71 : qS → Int → Prop, qMet g l M_X3_tryPage [vr (gP σ54 283 (A 0 0)), vr (gP σ54 201 (A 6 q.toNat))] σ54 (qTi0 Mid71) ∧ ∀ (σ75 : qS) (v77 : Int), Mid71 σ75 v77 → qR v77 ∧ ((v77 = 0 → gK σ75 (A 7 b.toNat) = 1 ∧ (∃ Mid82 : qS → Prop, qMet g l M_X0_goTo [vr (A 7 b.toNat), vr (A 6 (hb D b.toNat)), vi v37] σ75 (qTv0 Mid82) ∧ ∀ (σ86 : qS), Mid82 σ86 → qClV A σ2 (cif (blOk D b ∧ pnOk D q ∧ mbPl D b q i) (cif (mbSt D b.toNat q.toNat i.toNat) (.inl 0) (.inr 0)) (.inr 2)) (cif ((blOk D b ∧ pnOk D q ∧ mbPl D b q i) ∧ mbSt D b.toNat q.toNat i.toNat) (dMb D b.toNat q.toNat i.toNat) D) σ86 (.inr 0))) ∧ (¬ (v77 = 0) → gK σ75 (A 0 0) = 8 ∧ (∃ v90 : Int, qMet g l M_X7_answersComeLater [vr (A 0 0)] σ75 (qPi σ75 v90) ∧ (qR v90 ∧ ((¬ v90 = 0 → gK σ75 (A 6 (hb D b.toNat)) = 6 ∧ gK σ75 (gP σ75 201 (A 6 (hb D b.toNat))) = 5 ∧ (∃ Mid96 : qS → Int → Prop, qMet g l M_X4_keepTrial [vr (gP σ75 201 (A 6 (hb D b.toNat)))] σ75 (qTi0 Mid96) ∧ ∀ (σ100 : qS) (v102 : Int), Mid96 σ100 v102 → gK σ100 (A 6 q.toNat) = 6 ∧ gK σ100 (gP σ100 201 (A 6 q.toNat)) = 5 ∧ (∃ Mid106 : qS → Int → Prop, qMet g l M_X4_keepTrial [vr (gP σ100 201 (A 6 q.toNat))] σ100 (qTi0 Mid106) ∧ ∀ (σ110 : qS) (v112 : Int), Mid106 σ110 v112 → qClV A σ2 (cif (blOk D b ∧ pnOk D q ∧ mbPl D b q i) (cif (mbSt D b.toNat q.toNat i.toNat) (.inl 0) (.inr 0)) (.inr 2)) (cif ((blOk D b ∧ pnOk D q ∧ mbPl D b q i) ∧ mbSt D b.toNat q.toNat i.toNat) (dMb D b.toNat q.toNat i.toNat) D) σ110 (.inl none)))) ∧ (v90 = 0 → gK σ75 (A 7 b.toNat) = 1 ∧ (∃ Mid115 : qS → Prop, qMet g l M_X0_goTo [vr (A 7 b.toNat), vr (A 6 (hb D b.toNat)), vi v37] σ75 (qTv0 Mid115) ∧ ∀ (σ119 : qS), Mid115 σ119 → qClV A σ2 (cif (blOk D b ∧ pnOk D q ∧ mbPl D b q i) (cif (mbSt D b.toNat q.toNat i.toNat) (.inl 0) (.inr 0)) (.inr 2)) (cif ((blOk D b ∧ pnOk D q ∧ mbPl D b q i) ∧ mbSt D b.toNat q.toNat i.toNat) (dMb D b.toNat q.toNat i.toNat) D) σ119 (.inr 0))))))))))))))) := by
    intro hi0 hi hlt hin h44
    have ei : i = (i.toNat : Int) := by omega
    rw [cif_pos hin]
    have hgo := spec_goToB (g := g) hl hA hS0 hw.1 hokb.2 hokq.2 hi (by omega)
    rw [← ei] at hgo
    have hw1 := WF0_Mb hw.1 hokb.2 hokq.2 hi hlt
    have hbk := dMb_back hw.1 hokb.2 hokq.2 hi
    have hhb1 : hb (dMb D b.toNat q.toNat i.toNat) b.toNat = q.toNat := by rw [hb_Mb, if_pos rfl]
    -- the way back
    have hback : (∀ c : Prop, (c ↔ mbSt D b.toNat q.toNat i.toNat) → ¬ c → ∀ σ44 σx : qS, gI σ44 = gI σ2 → qFrm A σ2 σ44 → qChg (tr2 A) σ44 σx → SR A (dMb D b.toNat q.toNat i.toNat) σx → gK σx (A 7 b.toNat) = 1 ∧ (∃ Mid61 : qS → Prop, qMet g l M_X0_goTo [vr (A 7 b.toNat), vr (A 6 (hb D b.toNat)), vi ((hs D (hb D b.toNat)).idxOf b.toNat : Nat)] σx (qTv0 Mid61) ∧ ∀ (σ65 : qS), Mid61 σ65 → qClV A σ2 (cif (mbSt D b.toNat q.toNat i.toNat) (.inl 0) (.inr 0)) (cif ((blOk D b ∧ pnOk D q ∧ mbPl D b q i) ∧ mbSt D b.toNat q.toNat i.toNat) (dMb D b.toNat q.toNat i.toNat) D) σ65 (.inr 0))) := by
      intro c hc hnc σ44 σx hI44 hf44 hcx hSx
      have hns : ¬ mbSt D b.toNat q.toNat i.toNat := fun z => hnc (hc.mpr z)
      have het : toB (dMb D b.toNat q.toNat i.toNat) b.toNat (hb D b.toNat) = erB D b.toNat := by
        unfold toB
        rw [hhb1]
        by_cases d : hb D b.toNat = q.toNat
        · rw [if_pos d]
          have : erB (dMb D b.toNat q.toNat i.toNat) b.toNat = toB D b.toNat q.toNat := by
            have h1 : (toB D b.toNat q.toNat).insertIdx i.toNat b.toNat = hs (dMb D b.toNat q.toNat i.toNat) q.toNat := by rw [hs_Mb, if_pos rfl]
            have hnd := (hw1.2.2.2.2.1 q.toNat hokq.2.1).2.2.1.2.1
            rw [← h1] at hnd
            have h2 := ix_at hnd (i := i.toNat) (by rw [List.length_insertIdx, if_pos hi]; omega)
            have h3 : ((toB D b.toNat q.toNat).insertIdx i.toNat b.toNat).getD i.toNat 0 = b.toNat := by
              rw [List.getD_eq_getElem?_getD, List.getElem?_insertIdx_self, if_pos hi]; rfl
            rw [h3] at h2
            unfold erB
            rw [hhb1, ← h1, h2, List.eraseIdx_insertIdx_self]
          rw [this]
          unfold toB
          rw [if_pos d.symm]
        · rw [if_neg d, hs_Mb, if_neg d, if_pos rfl]
      have hel : (erB D b.toNat).length = (hs D (hb D b.toNat)).length - 1 := ers_len hm
      have hix := ix_lt hm
      have hgb := spec_goToB (g := g) hl hA hSx hw1 (b := b.toNat) (q := hb D b.toNat) (i := (hs D (hb D b.toNat)).idxOf b.toNat) ⟨hokb.2.1, hokb.2.2⟩ ⟨hal.1, hal.2⟩ (by rw [het, hel]; omega) (by rw [het, hel]; have := hPWf.2.2.1; omega)
      rw [hbk] at hgb
      rw [cif_neg hns, cif_neg (fun z => hns z.2)]
      refine ⟨(hSx.2.2.2.2.2 b.toNat hokb.2.1).1.1, _, hgb, fun σ65 h65 => ⟨A, hA, fun _ _ _ _ => rfl, SR_CR h65.1 hw.1 (fun p' hp2 => ?_), frm_tr hf44 (frm_tr (frm_chg hcx (fun f x z => z.2)) h65.2.2), rfl⟩⟩
      exact LaR_I (LaR_tr hA hw.1 hp2 (LaR_I (CR_La h hw.1 hp2) hI44) (qChg_mono hcx (fun fl x z => z.1))) h65.2.1
    refine ⟨hPf.1, _, spec_indexB hl hA hPf hPWf.2.1 hPWf.2.2.1 hm, b1, _, hgo, fun σ44 h44' => ?_⟩
    obtain ⟨hS44, hI44, hf44⟩ := h44'
    have hPf44 := (hS44.2.2.2.2.1 _ hal.1).1
    rw [hS44.1.2.2.2.2.1, show gP σ44 201 (A 6 (hb D b.toNat)) = A 5 (hp D (hb D b.toNat)) from hPf44.2.2.1]
    refine ⟨hS44.1.1, hPf44.1, hS44.2.1.1, _, spec_tryS hl hA hS44 hw1 (p := hp D (hb D b.toNat)) hpn1, fun σ54 v56 h54 => ?_⟩
    obtain ⟨hc1, hv1⟩ := h54
    have hS54 := SR_chg hA (qChg_mono hc1 (fun fl x z => Or.inl (roW_tr z))) hS44
    rcases hv1 with ⟨rfl, hok1, hT1⟩ | ⟨rfl, hno1⟩
    rotate_left
    · exact ⟨by unfold qR; omega, fun _ => hback _ Iff.rfl (fun z => hno1 z.2.1) σ44 σ54 hI44 hf44 (tryS_chg hc1) hS54, fun z => absurd rfl z⟩
    have hPq54 := (hS54.2.2.2.2.1 _ hokq.2.1).1
    rw [hS54.1.2.2.2.2.1, show gP σ54 201 (A 6 q.toNat) = A 5 (hp D q.toNat) from hPq54.2.2.1]
    refine ⟨by unfold qR; omega, fun z => by omega, fun _ => ⟨hS54.1.1, hPq54.1, hS54.2.1.1, _, spec_tryS hl hA hS54 hw1 (p := hp D q.toNat) hpn2, fun σ75 v77 h75 => ?_⟩⟩
    obtain ⟨hc2, hv2⟩ := h75
    have hS75 := SR_chg hA (qChg_mono hc2 (fun fl x z => Or.inl (roW_tr z))) hS54
    have hc12 : qChg (tr2 A) σ44 σ75 := qChg_tr (tryS_chg hc1) (tryS_chg hc2) (fun _ _ z => z) (fun _ _ z => z)
    rcases hv2 with ⟨rfl, hok2, hT2⟩ | ⟨rfl, hno2⟩
    rotate_left
    · exact ⟨by unfold qR; omega, fun _ => hback _ Iff.rfl (fun z => hno2 z.2.2.1) σ44 σ75 hI44 hf44 hc12 hS75, fun z => absurd rfl z⟩
    have hPf75 := (hS75.2.2.2.2.1 _ hal.1).1
    rw [show gP σ75 201 (A 6 (hb D b.toNat)) = A 5 (hp D (hb D b.toNat)) from hPf75.2.2.1]
    refine ⟨by unfold qR; omega, fun z => by omega, fun _ => ⟨hS75.1.1, _, spec_answersComeLater hl hA (SR_XR hS75) hw1, by unfold cif; split <;> (unfold qR; omega), fun ha => ?_, fun ha => hback _ Iff.rfl (fun z => by rw [cif_pos z.2.2.2] at ha; exact absurd ha (by decide)) σ44 σ75 hI44 hf44 hc12 hS75⟩⟩
    have hans : Ans (dMb D b.toNat q.toNat i.toNat) := by
      by_cases c : Ans (dMb D b.toNat q.toNat i.toNat)
      · exact c
      · rw [cif_neg c] at ha; exact absurd rfl ha
    have hst : mbSt D b.toNat q.toNat i.toNat := ⟨h44, hok1, hok2, hans⟩
    have hokall := OK_Mb hw hokb.2 hokq.2 hok1 hok2
    have hWF1 : WF (dMb D b.toNat q.toNat i.toNat) := ⟨hw1, hokall, hans⟩
    have hT1' : TrP A (dMb D b.toNat q.toNat i.toNat) σ75 (hp D (hb D b.toNat)) := by
      by_cases c : hp D (hb D b.toNat) = hp D q.toNat
      · rw [c]; exact hT2
      · exact TrP_out hA hw1 (show hp D (hb D b.toNat) < np D from hpn1) (show hp D q.toNat < np D from hpn2) c hc2 hT1
    have hB75 : ∀ p, p < np D → ∀ q', q' ∈ row D p → BxR σ75 (A 13 q') (LB D q') := by
      intro p hp' q' hq'
      have := (LaR_tr hA hw.1 hp' (LaR_I (CR_La h hw.1 hp') hI44) (qChg_mono hc12 (fun fl x z => z.1))).2 q' hq'
      exact this.2.1
    refine ⟨hPf75.1, (hS75.2.2.2.1 (hp D (hb D b.toNat)) hpn1).1.1, _, spec_keepS hl hA hS75 hw1 (p := hp D (hb D b.toNat)) hpn1 hok1 hT1' (fun q' hq' => La_Q hw hpn1 hq' (hB75 _ hpn1 q' hq')), fun σ100 v102 h100 => ?_⟩
    obtain ⟨k1, k2, -⟩ := h100
    obtain ⟨m1, m2, m3, m4⟩ := keepS_post hA hS75 hw1 (p := hp D (hb D b.toNat)) hpn1 k1 k2
    have hPq100 := (m1.2.2.2.2.1 _ hokq.2.1).1
    rw [show gP σ100 201 (A 6 q.toNat) = A 5 (hp D q.toNat) from hPq100.2.2.1]
    have hT2' := TrP_kp hA (qChg_mono m2 (fun fl x z => z.1)) hT2
    refine ⟨hPq100.1, (m1.2.2.2.1 (hp D q.toNat) hpn2).1.1, _, spec_keepS hl hA m1 hw1 (p := hp D q.toNat) hpn2 hok2 hT2' (fun q' hq' => ?_), fun σ110 v112 h110 => ?_⟩
    · by_cases c : hp D q.toNat = hp D (hb D b.toNat)
      · rw [c] at hq'
        exact La_Q hWF1 (p := hp D (hb D b.toNat)) hpn1 hq' (m3.2 q' hq').2.1
      · have hni : q' ∉ row (dMb D b.toNat q.toNat i.toNat) (hp D (hb D b.toNat)) := by
          intro z
          have e1 := (hom hw.1 hpn1 q' z).1
          have e2 := (hom hw.1 hpn2 q' hq').1
          exact c (e2.symm.trans e1)
        have := La_Q hw hpn2 hq' (hB75 _ hpn2 q' hq')
        unfold BxQ at this ⊢
        rw [k1.2.2.2.2.2.1 40 _ (kpW_13 hA hni (by omega) (by omega)), k1.2.2.2.2.2.1 41 _ (kpW_13 hA hni (by omega) (by omega)), k1.2.2.2.2.2.1 42 _ (kpW_13 hA hni (by omega) (by omega)), k1.2.2.2.2.2.1 43 _ (kpW_13 hA hni (by omega) (by omega))]
        exact this
    obtain ⟨k3, k4, -⟩ := h110
    obtain ⟨j1, j2, j3, j4⟩ := keepS_post hA m1 hw1 (p := hp D q.toNat) hpn2 k3 k4
    rw [cif_pos hst, cif_pos ⟨hin, hst⟩]
    refine ⟨A, hA, fun _ _ _ _ => rfl, SR_CR j1 hw1 (fun p' hp2 => ?_), frm_tr hf44 (frm_tr (frm_chg hc12 (fun f x z => z.2)) (frm_tr (frm_chg m2 (fun f x z => z.2)) (frm_chg j2 (fun f x z => z.2)))), rfl⟩
    by_cases c2 : p' = hp D q.toNat
    · rw [c2]; exact j3
    · refine j4 p' hp2 c2 ?_
      by_cases c1 : p' = hp D (hb D b.toNat)
      · rw [c1]; exact m3
      · refine m4 p' hp2 c1 ?_
        have hp3 : p' < np D := hp2
        have hh := hom hw.1 hp3
        refine LaR_tr hA hw1 hp2 ?_ (qChg_mono hc12 (fun fl x z => z.1))
        have n1 : q.toNat ∉ row D p' := fun z => c2 ((hh _ z).1).symm
        have n2 : hb D b.toNat ∉ row D p' := fun z => c1 ((hh _ z).1).symm
        exact LaR_of (WF0_Pg hw.1 hp3) (CR_La h hw.1 hp3) (LyEq_Mb n1 n2) (fun q' hq2 => ⟨(hh q' hq2).1, (hh q' hq2).1, fun b' hb2 => ⟨(hh q' hq2).2 b' hb2, by
          rw [hb_Mb, if_neg (fun z => n2 (by rw [← z, (hh q' hq2).2 b' hb2]; exact hq2))]
          exact (hh q' hq2).2 b' hb2⟩⟩) (by rw [hI44]) (fun q' hq2 => ⟨by rw [hI44], fun f _ _ => by rw [hI44], fun b hb f _ _ => by rw [hI44]⟩)
  refine ⟨b1, fun x20 h20 => ?_⟩
  rw [b6] at h20
  subst h20
  have c12 : gK σ2 (A 12 q.toNat) = 50 := hPq.2.2.2.2.2.2.2.2.2.2.2.2.1
  have c14 : gL σ2 (A 12 q.toNat) = (hs D q.toNat).map (A 7) := hPq.2.2.2.2.2.2.2.2.2.2.2.2.2.1
  rw [hPq.2.2.2.2.2.2.2.1]
  refine ⟨fun hne => ⟨hPq.1, c12, _, spec_sizeM hl c12 c14, _, _, spec_needPlace hl hiq (by unfold qR; omega), fun σ3 h3 => ?_, fun σ3 n h3 => ?_⟩, fun heq => ⟨hPq.1, c12, _, spec_sizeM hl c12 c14, _, _, spec_needPlace hl hiq (by unfold qR; omega), fun σ3 h3 => ?_, fun σ3 n h3 => ?_⟩⟩
  · obtain ⟨rfl, hi1⟩ := h3
    have hne' : q.toNat ≠ hb D b.toNat := fun z => hne (by rw [z])
    have hin : blOk D b ∧ pnOk D q ∧ mbPl D b q i := ⟨hokb, hokq, hi1.1, by rw [if_neg hne']; omega⟩
    rw [hPq.2.2.2.2.2.2.2.1]
    refine ⟨fun z => absurd z hne, fun _ => ⟨hPq.1, c12, _, spec_sizeM hl c12 c14, by unfold qR; omega, fun h4 => ?_, fun h4 => ?_⟩⟩
    · exact hK hi1.1 (by rw [hltn hne']; omega) (by rw [hltn hne']; omega) hin (fun z => by omega)
    · rw [cif_pos hin, cif_neg (fun z => z.1 ⟨hne', by omega⟩), cif_neg (fun z => z.2.1 ⟨hne', by omega⟩)]
      exact hsame (.inr 0)
  · obtain ⟨rfl, hi1, rfl⟩ := h3
    have hne' : q.toNat ≠ hb D b.toNat := fun z => hne (by rw [z])
    have hnp : ¬ mbPl D b q i := fun z => hi1 ⟨z.1, by have := z.2; rw [if_neg hne'] at this; omega⟩
    rw [cif_neg (fun z => hnp z.2.2), cif_neg (fun z => hnp z.1.2.2)]
    exact hsame (.inr 2)
  · obtain ⟨rfl, hi1⟩ := h3
    have heq' : q.toNat = hb D b.toNat := qInj_i hA heq
    have hin : blOk D b ∧ pnOk D q ∧ mbPl D b q i := ⟨hokb, hokq, hi1.1, by rw [if_pos heq']; omega⟩
    refine ⟨fun _ => hK hi1.1 (by have := hltb heq'; omega) (by have := hltb heq'; omega) hin (fun z => z.1 heq'), fun z => absurd heq z⟩
  · obtain ⟨rfl, hi1, rfl⟩ := h3
    have heq' : q.toNat = hb D b.toNat := qInj_i hA heq
    have hnp : ¬ mbPl D b q i := fun z => hi1 ⟨z.1, by have := z.2; rw [if_pos heq'] at this; omega⟩
    rw [cif_neg (fun z => hnp z.2.2), cif_neg (fun z => hnp z.1.2.2)]
    exact hsame (.inr 2)
end
