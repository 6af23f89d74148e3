/-! the class: cutBalloon -/
section
variable {g : qG} {l : Launch} {A : Nat → Nat → Nat} {D : qD} {σ : qS}
noncomputable def o_cutBalloon (D : qD) (b : Int) : Int ⊕ Nat := cif (¬ blOk D b) (.inr 2) (cif (isAn D b.toNat) (.inr 0) (cif (OKp (dCb D b.toNat) (hp D (hb D b.toNat))) (.inl (hb D b.toNat)) (.inr 0)))
noncomputable def d_cutBalloon (D : qD) (b : Int) : qD := cif (blOk D b ∧ ¬ isAn D b.toNat ∧ OKp (dCb D b.toNat) (hp D (hb D b.toNat))) (dCb D b.toNat) D
theorem spec_cutBalloon (hl : l.stackTraces = false) (hA : qInj A) (h : CR A D σ) (hw : WF D) {b : Int} (hbq : qR b) : qMet g l M_X7_cutBalloon [vr (A 0 0), vi b] σ (qClP A σ (o_cutBalloon D b) (d_cutBalloon D b)) := by
  unfold o_cutBalloon d_cutBalloon
  refine wm_X7_cutBalloon hl ⟨h.1.1, _, _, spec_needBalloon hl h hw.1 hbq, fun σ1 v h1 => ?_, fun σ1 n h1 => ?_⟩
  rotate_left
  · obtain ⟨rfl, hok, rfl⟩ := h1
    rw [cif_pos hok, cif_neg (fun z => hok z.1)]
    exact ⟨A, hA, fun _ _ _ _ => rfl, h, frm_rf, rfl⟩
  obtain ⟨rfl, hok, rfl⟩ := h1
  rw [cif_neg (fun z => z hok)]
  have hS0 := CR_SR h
  obtain ⟨hal, hm⟩ := alB_home hw.1 hok.2
  obtain ⟨hpn, hmq⟩ := alP_home hw.1 hal
  obtain ⟨⟨b1, b2, b3, b4, b5, b6, b7, b8⟩, -⟩ := CR_bl h hok.2
  have hPn := (CR_pn h hal).1
  have hPW := (hw.1.2.2.2.2.1 _ hal.1).2.2.1
  refine ⟨b1, fun x11 h11 => ⟨h.1.1, _, spec_isAnswered hl hA h hw.1, by unfold cif; split <;> (unfold qR; omega), fun hz => ?_, fun hz => ?_⟩⟩
  rotate_left
  · have ha : isAn D b.toNat := by
      by_cases c : isAn D b.toNat
      · exact c
      · rw [cif_neg c] at hz; exact absurd rfl hz
    rw [cif_pos ha, cif_neg (fun z => z.2.1 ha)]
    exact ⟨A, hA, fun _ _ _ _ => rfl, h, frm_rf, rfl⟩
  have hna : ¬ isAn D b.toNat := fun c => by rw [cif_pos c] at hz; exact absurd hz (by decide)
  rw [cif_neg hna]
  rw [b6] at h11
  subst h11
  have hw1 := WF0_Cb hw.1 hok.2 hna
  have hix := ix_lt hm
  refine ⟨hPn.1, _, spec_indexB hl hA hPn hPW.2.1 hPW.2.2.1 hm, _, spec_takeB hl hPn hix hPW.2.2.1, fun σ3 h3 => ?_⟩
  have hSa := SR_hs hA h3 hS0
  have hI3 : gI σ3 = gI σ1 := by rw [h3]; rfl
  have hf3 : qFrm A σ1 σ3 := by rw [h3]; exact frm_L ⟨12, _, by omega, rfl⟩
  have hLR : LR A (dCb D b.toNat) σ3 (hp D (hb D b.toNat)) := LR_gb hSa hw1 hpn
  have hPn3 := (hSa.2.2.2.2.1 _ hal.1).1
  have hPg := WF0_Pg hw1 (p := hp D (hb D b.toNat)) hpn
  rw [hSa.1.2.2.2.2.1]
  have e3 : gP σ3 201 (A 6 (hb D b.toNat)) = A 5 (hp D (hb D b.toNat)) := hPn3.2.2.1
  rw [e3]
  refine ⟨hSa.1.1, hPn3.1, hSa.2.1.1, _, spec_tryPage hl hA hLR hPg, fun σ5 v5 h5 => ?_⟩
  obtain ⟨hc, hv⟩ := h5
  have hS5 := SR_chg hA (qChg_mono hc (fun fl x z => Or.inl (roW_tr z))) hSa
  have hPn5 := (hS5.2.2.2.2.1 _ hal.1).1
  have e5 : gP σ5 201 (A 6 (hb D b.toNat)) = A 5 (hp D (hb D b.toNat)) := hPn5.2.2.1
  have hrow : ∀ p', p' < np D → p' ≠ hp D (hb D b.toNat) → hb D b.toNat ∉ row D p' := fun p' hp2 hne z => hne ((hom hw.1 hp2 _ z).1).symm
  have hLa3 : ∀ p', p' < np D → p' ≠ hp D (hb D b.toNat) → LaR A (dCb D b.toNat) σ3 p' := by
    intro p' hp2 hne
    have hh := hom hw.1 hp2
    have hly : LyEq D (dCb D b.toNat) p' := LyEq_hs (hrow p' hp2 hne)
    exact LaR_of (WF0_Pg hw.1 hp2) (CR_La h hw.1 hp2) hly (fun q' hq2 => ⟨(hh q' hq2).1, (hh q' hq2).1, fun b hb => ⟨(hh q' hq2).2 b hb, (hh q' hq2).2 b hb⟩⟩) (by rw [hI3]) (fun q' hq2 => ⟨by rw [hI3], fun f _ _ => by rw [hI3], fun b hb f _ _ => by rw [hI3]⟩)
  rcases hv with ⟨rfl, hok1, hT⟩ | ⟨rfl, hno⟩
  · rw [e5, cif_pos hok1, cif_pos ⟨hok, hna, hok1⟩]
    have hQ : ∀ i, i < pn (dCb D b.toNat) (hp D (hb D b.toNat)) → BxQ σ5 (A 13 (pq (dCb D b.toNat) (hp D (hb D b.toNat)) i)) := by
      intro i hi
      have hq2 : pq (dCb D b.toNat) (hp D (hb D b.toNat)) i ∈ row D (hp D (hb D b.toNat)) := pq_mem hi
      have hb5 := ((CR_La h hw.1 hpn).2 _ hq2).2.1
      refine La_Q hw hpn hq2 ?_
      unfold BxR at hb5 ⊢
      rw [hc.2.2.2.2.2.1 40 _ (roW_13 hA (by omega) (by omega)), hc.2.2.2.2.2.1 41 _ (roW_13 hA (by omega) (by omega)), hc.2.2.2.2.2.1 42 _ (roW_13 hA (by omega) (by omega)), hc.2.2.2.2.2.1 43 _ (roW_13 hA (by omega) (by omega)), hI3]
      exact hb5
    refine ⟨by unfold qR; omega, fun _ => ⟨hPn5.1, hS5.2.2.2.1 _ hpn |>.1.1, _, spec_keep hl hA (LR_tr hA (qChg_mono hc (fun fl x z => roW_tr z)) hLR) hPg hok1 hT hQ, fun σ6 v6 h6 => ?_⟩, fun z => by omega⟩
    obtain ⟨k1, k2, k3⟩ := h6
    have hS6 := SR_chg hA (qChg_mono k1 (fun fl x z => Or.inr (kpW_kp z))) hS5
    refine ⟨(hS6.2.2.2.2.2 _ hok.2.1).1.1, fun σ7 h7 => ?_⟩
    have hS7 : SR A (dCb D b.toNat) σ7 := SR_gb hA h7 hS6
    have hPn7 := (hS7.2.2.2.2.1 _ hal.1).1
    have hi7 : ∀ f x, f ≠ 6 → gI σ7 f x = gI σ6 f x := fun f x hf => by rw [h7]; exact gI_ne (fun z => hf z.1)
    have hLa7 : ∀ p', p' < np D → LaR A (dCb D b.toNat) σ6 p' → LaR A (dCb D b.toNat) σ7 p' := by
      intro p' hp2 hl6
      have hh := hom hw1 (p := p') hp2
      exact LaR_of (WF0_Pg hw1 (p := p') hp2) hl6 LyEq_rf (fun q' hq2 => ⟨(hh q' hq2).1, (hh q' hq2).1, fun b hb => ⟨(hh q' hq2).2 b hb, (hh q' hq2).2 b hb⟩⟩) (hi7 _ _ (by decide)) (fun q' hq2 => ⟨hi7 _ _ (by decide), fun f f1 _ => hi7 _ _ (by omega), fun b hb f f1 _ => hi7 _ _ (by omega)⟩)
    refine ⟨hPn7.1, A, hA, fun _ _ _ _ => rfl, SR_CR hS7 hw1 (fun p' hp2 => hLa7 p' hp2 ?_), ?_, ?_⟩
    · by_cases c : p' = hp D (hb D b.toNat)
      · rw [c]; exact LdP_La hw1 hpn k2
      · exact LaR_kp hA hw1 (p := hp D (hb D b.toNat)) hpn hp2 c (LaR_tr hA hw1 hp2 (hLa3 p' hp2 c) (qChg_mono hc (fun fl x z => roW_tr z))) k1
    · refine frm_tr hf3 (frm_tr (frm_chg hc (fun f x z => roW_cls z)) (frm_tr (frm_chg k1 (fun f x z => kpW_cls z)) ?_))
      intro x hx hn
      rw [h7]
      exact ⟨rfl, fun f => gI_ne (fun z => hn 7 _ (by omega) z.2), fun _ => rfl, fun _ => rfl, fun _ => rfl, rfl, rfl⟩
    · rw [hPn7.2.1]; rfl
  · rw [cif_neg hno, cif_neg (fun z => hno z.2.2)]
    have hra : hs (dHs D (hb D b.toNat) ((hs D (hb D b.toNat)).eraseIdx ((hs D (hb D b.toNat)).idxOf b.toNat))) (hb D b.toNat) = (hs D (hb D b.toNat)).eraseIdx ((hs D (hb D b.toNat)).idxOf b.toNat) := by rw [hs_at, if_pos rfl]
    have hel := ers_len hm
    have hpt := spec_putB (g := g) hl hPn5 (i := (hs D (hb D b.toNat)).idxOf b.toNat) (b := b.toNat) (by rw [hra]; omega) (by rw [hra]; have := hPW.2.2.1; omega) (hS5.2.2.2.2.2 _ hok.2.1).1.1
    rw [hra, ers_back hm] at hpt
    refine ⟨by unfold qR; omega, fun z => absurd rfl z, fun _ => ⟨hPn5.1, _, hpt, fun σ6 h6 => ?_⟩⟩
    have hS6 := SR_hs hA h6 hS5
    have hD : dHs D (hb D b.toNat) (hs D (hb D b.toNat)) = D := by
      have := dHs_back (D := D) (q := hb D b.toNat) (xs := hs D (hb D b.toNat))
      rw [dHs_dHs] at this
      exact this
    rw [dHs_dHs, hD] at hS6
    have hI6 : gI σ6 = gI σ5 := by rw [h6]; rfl
    refine ⟨A, hA, fun _ _ _ _ => rfl, SR_CR hS6 hw.1 (fun p' hp2 => LaR_I (LaR_tr hA hw.1 hp2 (LaR_I (CR_La h hw.1 hp2) hI3) (qChg_mono hc (fun fl x z => roW_tr z))) hI6), ?_, rfl⟩
    refine frm_tr hf3 (frm_tr (frm_chg hc (fun f x z => roW_cls z)) ?_)
    rw [h6]; exact frm_L ⟨12, _, by omega, rfl⟩
end
