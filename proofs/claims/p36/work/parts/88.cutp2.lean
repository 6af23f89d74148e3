/-! the class: cutPanel -/
section
variable {g : qG} {l : Launch} {A : Nat → Nat → Nat} {D : qD} {σ : qS}
noncomputable def o_cutPanel (D : qD) (q : Int) : Int ⊕ Nat := cif (¬ pnOk D q) (.inr 2) (cif (isAnE D q.toNat) (.inr 0) (cif (OKp (dCp D q.toNat) (hp D q.toNat)) (.inl (hs D q.toNat).length) (.inr 0)))
noncomputable def d_cutPanel (D : qD) (q : Int) : qD := cif (pnOk D q ∧ ¬ isAnE D q.toNat ∧ OKp (dCp D q.toNat) (hp D q.toNat)) (dCp D q.toNat) D
theorem LR_Cp {xs : List Nat} {q p : Nat} (h : SR A (dRow D (hp D q) (rowC D q)) σ) (hw1 : WF0 (dCp D q)) (hp' : p < np D) : LR A (dCp D q) σ p := by
  obtain ⟨c1, c2, c3, c4, c5, c6⟩ := h
  obtain ⟨w1, w2, w3, w4, w5, w6, w7, w8, w9⟩ := hw1
  obtain ⟨p1, p2, p3, p4⟩ := w2 p hp'
  refine ⟨?_, ?_, fun q' hq' => ⟨?_, (p4 q' hq').2, fun b hb => ?_⟩⟩
  · obtain ⟨y1, y2, y3, y4, y5, y6, y7, y8⟩ := c2
    exact ⟨y1, y2, y3, y4, y5, fun t ht => (y6 t ht).trans gr_Cp.symm, y7, y8⟩
  · obtain ⟨y1, y2, y3, y4, y5, y6⟩ := (c4 p hp').1
    refine ⟨y1, y2, y3, y4.trans tg_Cp.symm, y5, y6.trans ?_⟩
    rw [row_Cp, row_at]
  · have := (c5 q' (p4 q' hq').1.1).1
    unfold PnR at this ⊢
    rw [wt_Cp, wd_Cp, ht_Cp, hs_Cp]
    exact this
  · have := (c6 b ((w5 q' (p4 q' hq').1.1).2.2.2.2 (p4 q' hq').1.2 b hb).1.1).1
    unfold BlR at this ⊢
    rw [lt_Cp]
    exact this
theorem spec_cutPanel (hl : l.stackTraces = false) (hA : qInj A) (h : CR A D σ) (hw : WF D) (hk : (kp D).length ≤ 512) {q : Int} (hqq : qR q) : qMet g l M_X7_cutPanel [vr (A 0 0), vi q] σ (qClP A σ (o_cutPanel D q) (d_cutPanel D q)) := by
  unfold o_cutPanel d_cutPanel
  have hsame : ∀ o, qClP A σ o D σ (res o) := fun o => ⟨A, hA, fun _ _ _ _ => rfl, h, frm_rf, rfl⟩
  refine wm_X7_cutPanel hl ⟨h.1.1, _, _, spec_needPanel hl h hw.1 hqq, fun σ1 v1 h1 => ?_, fun σ1 n h1 => ?_⟩
  rotate_left
  · obtain ⟨rfl, hok, rfl⟩ := h1
    rw [cif_pos hok, cif_neg (fun z => hok z.1)]
    exact hsame (.inr 2)
  obtain ⟨rfl, hok, rfl⟩ := h1
  rw [cif_neg (fun z => z hok)]
  have hS0 := CR_SR h
  obtain ⟨hpn, hmq⟩ := alP_home hw.1 hok.2
  have hPn := (CR_pn h hok.2).1
  have hP := (h.2.2.2.1 _ hpn).1
  obtain ⟨g1, g2, g3, g4⟩ := hw.1.2.1 _ hpn
  have hq0 : q = (q.toNat : Int) := by have := hok.1; omega
  have hpr : A 6 q.toNat = pRef A q := by unfold pRef; rw [if_neg (by have := hok.1; omega)]
  refine ⟨hPn.1, fun x11 h11 => ⟨h.1.1, _, spec_isAnsweredE hl hA h hw.1, by unfold cif; split <;> (unfold qR; omega), fun hz => ?_, fun hz => ?_⟩⟩
  rotate_left
  · have ha : isAnE D q.toNat := by
      by_cases c : isAnE D q.toNat
      · exact c
      · rw [cif_neg c] at hz; exact absurd rfl hz
    rw [cif_pos ha, cif_neg (fun z => z.2.1 ha)]
    exact hsame (.inr 0)
  have hna : ¬ isAnE D q.toNat := fun c => by rw [cif_pos c] at hz; exact absurd hz (by decide)
  rw [cif_neg hna]
  rw [hPn.2.2.1] at h11
  subst h11
  have hw1 := WF0_Cp hw.1 hok.2 hna
  have hix := ix_lt hmq
  -- behind the heir
  have hK : ∀ hr : Nat, hr = pRef A (heir D q.toNat) → gK σ1 (A 5 (hp D q.toNat)) = 5 ∧ (∃ v23 : Int, qMet g l M_X4_indexOf [vr (A 5 (hp D q.toNat)), vr (A 6 q.toNat)] σ1 (qPi σ1 v23) ∧ ((∃ Mid25 : qS → Prop, qMet g l M_X4_takeOut [vr (A 5 (hp D q.toNat)), vi v23] σ1 (qTv0 Mid25) ∧ ∀ (σ29 : qS), Mid25 σ29 → gK σ29 (A 0 0) = 8 ∧ gK σ29 (gP σ29 283 (A 0 0)) = 4 ∧ (∃ Mid34 : qS → Int → Prop, qMet g l M_X3_tryPage [vr (gP σ29 283 (A 0 0)), vr (A 5 (hp D q.toNat))] σ29 (qTi0 Mid34) ∧ ∀ (σ38 : qS) (v40 : Int), Mid34 σ38 v40 → qR v40 ∧ ((¬ v40 = 0 → gK σ38 (A 5 (hp D q.toNat)) = 5 ∧ (∃ Mid45 : qS → Int → Prop, qMet g l M_X4_keepTrial [vr (A 5 (hp D q.toNat))] σ38 (qTi0 Mid45) ∧ ∀ (σ49 : qS) (v51 : Int), Mid45 σ49 v51 → gK σ49 (A 6 q.toNat) = 6 ∧ (∃ Mid54 : qS → Prop, qMet g l M_X5_leave [vr (A 6 q.toNat)] σ49 (qTv0 Mid54) ∧ ∀ (σ58 : qS), Mid54 σ58 → gK σ58 (A 0 0) = 8 ∧ gK σ58 (gP σ58 284 (A 0 0)) = 7 ∧ (∃ Mid63 : qS → Prop, qMet g l M_X6_forget [vr (gP σ58 284 (A 0 0)), vr (A 6 q.toNat), vr hr] σ58 (qTv0 Mid63) ∧ ∀ (σ67 : qS), Mid63 σ67 → gK σ67 (A 6 q.toNat) = 6 ∧ gK σ67 (gP σ67 206 (A 6 q.toNat)) = 50 ∧ (∃ v72 : Int, qMet g l M_Jx4a65c_size_8abf5 [vr (gP σ67 206 (A 6 q.toNat))] σ67 (qPi σ67 v72) ∧ (qClP A σ1 (cif (OKp (dCp D q.toNat) (hp D q.toNat)) (.inl (hs D q.toNat).length) (.inr 0)) (cif (pnOk D q ∧ ¬ isAnE D q.toNat ∧ OKp (dCp D q.toNat) (hp D q.toNat)) (dCp D q.toNat) D) σ67 (.inl (some (vi v72))))))))) ∧ (v40 = 0 → gK σ38 (A 5 (hp D q.toNat)) = 5 ∧ (∃ Mid75 : qS → Prop, qMet g l M_X4_putIn [vr (A 5 (hp D q.toNat)), vi v23, vr (A 6 q.toNat)] σ38 (qTv0 Mid75) ∧ ∀ (σ79 : qS), Mid75 σ79 → qClP A σ1 (cif (OKp (dCp D q.toNat) (hp D q.toNat)) (.inl (hs D q.toNat).length) (.inr 0)) (cif (pnOk D q ∧ ¬ isAnE D q.toNat ∧ OKp (dCp D q.toNat) (hp D q.toNat)) (dCp D q.toNat) D) σ79 (.inr 0)))))))) := by
    intro hr hhr
    refine ⟨hP.1, _, spec_indexP hl hA hP g2 g3 hmq, _, spec_takeP hl hP hix g3, fun σ3 h3 => ?_⟩
    have hSa := SR_row hA h3 hS0
    have hI3 : gI σ3 = gI σ1 := by rw [h3]; rfl
    have hf3 : qFrm A σ1 σ3 := by rw [h3]; exact frm_L ⟨10, _, by omega, rfl⟩
    have hLR : LR A (dCp D q.toNat) σ3 (hp D q.toNat) := LR_Cp (xs := []) hSa hw1 hpn
    have hPg := WF0_Pg hw1 (p := hp D q.toNat) hpn
    rw [hSa.1.2.2.2.2.1]
    refine ⟨hSa.1.1, hSa.2.1.1, _, spec_tryPage hl hA hLR hPg, fun σ5 v5 h5 => ?_⟩
    obtain ⟨hc, hv⟩ := h5
    have hS5 := SR_chg hA (qChg_mono hc (fun fl x z => Or.inl (roW_tr z))) hSa
    have hP5 := (hS5.2.2.2.1 (hp D q.toNat) hpn).1
    have hPn5 := (hS5.2.2.2.2.1 q.toNat hok.2.1).1
    have hLa3 : ∀ p', p' < np D → p' ≠ hp D q.toNat → LaR A (dCp D q.toNat) σ3 p' := by
      intro p' hp2 hne
      have hh := hom hw.1 hp2
      exact LaR_of (WF0_Pg hw.1 hp2) (CR_La h hw.1 hp2) (LyEq_Cp hne) (fun q' hq2 => ⟨(hh q' hq2).1, (hh q' hq2).1, fun b hb => ⟨(hh q' hq2).2 b hb, (hh q' hq2).2 b hb⟩⟩) (by rw [hI3]) (fun q' hq2 => ⟨by rw [hI3], fun f _ _ => by rw [hI3], fun b hb f _ _ => by rw [hI3]⟩)
    rcases hv with ⟨rfl, hok1, hT⟩ | ⟨rfl, hno⟩
    · rw [cif_pos hok1, cif_pos ⟨hok, hna, hok1⟩]
      have hrowC : ∀ q', q' ∈ row (dCp D q.toNat) (hp D q.toNat) → q' ∈ row D (hp D q.toNat) := by
        intro q' hq'
        rw [row_Cp, if_pos rfl] at hq'
        exact List.mem_of_mem_eraseIdx hq'
      have hQ : ∀ i, i < pn (dCp D q.toNat) (hp D q.toNat) → BxQ σ5 (A 13 (pq (dCp D q.toNat) (hp D q.toNat) i)) := by
        intro i hi
        have hq2 : pq (dCp D q.toNat) (hp D q.toNat) i ∈ row D (hp D q.toNat) := hrowC _ (pq_mem hi)
        have hb5 := ((CR_La h hw.1 hpn).2 _ hq2).2.1
        refine La_Q hw hpn hq2 ?_
        unfold BxR at hb5 ⊢
        rw [hc.2.2.2.2.2.1 40 _ (roW_13 hA (by omega) (by omega)), hc.2.2.2.2.2.1 41 _ (roW_13 hA (by omega) (by omega)), hc.2.2.2.2.2.1 42 _ (roW_13 hA (by omega) (by omega)), hc.2.2.2.2.2.1 43 _ (roW_13 hA (by omega) (by omega)), hI3]
        exact hb5
      refine ⟨by unfold qR; omega, fun _ => ⟨hP5.1, _, spec_keep hl hA (LR_tr hA (qChg_mono hc (fun fl x z => roW_tr z)) hLR) hPg hok1 hT hQ, fun σ6 v6 h6 => ?_⟩, fun z => by omega⟩
      obtain ⟨k1, k2, k3⟩ := h6
      have hS6 := SR_chg hA (qChg_mono k1 (fun fl x z => Or.inr (kpW_kp z))) hS5
      have hPn6 := (hS6.2.2.2.2.1 q.toNat hok.2.1).1
      have hsD : (hs (dRow D (hp D q.toNat) (rowC D q.toNat)) q.toNat) = hs D q.toNat := rfl
      have hbl : ∀ b, b ∈ hs D q.toNat → b < nb D := fun b hb => ((hw.1.2.2.2.2.1 _ hok.2.1).2.2.1.2.2.2.1 b hb).2
      refine ⟨hPn6.1, _, spec_leave hl hA hPn6 (fun b hb => (hS6.2.2.2.2.2 b (hbl b hb)).1.1) ((hw.1.2.2.2.2.1 _ hok.2.1).2.2.1.2.2.1), fun σ7 h7 => ?_⟩
      obtain ⟨n1, n2, n3⟩ := h7
      have hS7 : SR A (dGone (dRow D (hp D q.toNat) (rowC D q.toNat)) q.toNat) σ7 := SR_gone hA hS6 n1 n2 n3
      rw [hS7.1.2.2.2.2.2.1]
      have hkp : kp (dGone (dRow D (hp D q.toNat) (rowC D q.toNat)) q.toNat) = kp D := rfl
      have hhe : he (dGone (dRow D (hp D q.toNat) (rowC D q.toNat)) q.toNat) = he D := I_G (by decide) (by decide)
      refine ⟨hS7.1.1, hS7.2.2.1.1, _, spec_forget hl hA hS7.2.2.1 (by rw [hkp]; exact hk) (fun x hx => ?_) (by rw [hhe]; rcases hw.1.2.2.2.2.2.2.1 with z | z; exact Or.inl z; exact Or.inr z.1) hhr, fun σ8 h8 => ?_⟩
      · rw [hkp] at hx
        exact (hS7.2.2.2.2.1 x (hw.1.2.2.2.2.2.2.2.1 x hx).1).1.1
      obtain ⟨m1, m2, m3, m4⟩ := h8
      rw [hhe] at m4
      have hS8 : SR A (dCp D q.toNat) σ8 := SR_rd hA hS7 m1 ⟨m2, m3, m4⟩
      have hPn8 := (hS8.2.2.2.2.1 q.toNat hok.2.1).1
      rw [show gP σ8 206 (A 6 q.toNat) = A 12 q.toNat from hPn8.2.2.2.2.2.2.2.1]
      have l12 := hPn8.2.2.2.2.2.2.2.2.2.2.2.2.2.1
      have k12 := hPn8.2.2.2.2.2.2.2.2.2.2.2.2.1
      rw [hs_Cp] at l12
      have hi8 : ∀ f x, f ≠ 6 → f ≠ 211 → f ≠ 241 → gI σ8 f x = gI σ6 f x := fun f x h6 h211 h241 => (m1.2.2.2.2.1 f x (fun z => h241 z.1)).trans (n1.2.2.2.2.2.1 f x (by rintro (z | z); exact h211 z.1; exact h6 z.1))
      refine ⟨hPn8.1, k12, _, spec_sizeM hl k12 l12, A, hA, fun _ _ _ _ => rfl, SR_CR hS8 hw1 (fun p' hp2 => ?_), ?_, rfl⟩
      · have hl6 : LaR A (dCp D q.toNat) σ6 p' := by
          by_cases c : p' = hp D q.toNat
          · rw [c]; exact LdP_La hw1 hpn k2
          · exact LaR_kp hA hw1 (p := hp D q.toNat) hpn hp2 c (LaR_tr hA hw1 hp2 (hLa3 p' hp2 c) (qChg_mono hc (fun fl x z => roW_tr z))) k1
        have hh := hom hw1 (p := p') hp2
        exact LaR_of (WF0_Pg hw1 (p := p') hp2) hl6 LyEq_rf (fun q' hq2 => ⟨(hh q' hq2).1, (hh q' hq2).1, fun b hb => ⟨(hh q' hq2).2 b hb, (hh q' hq2).2 b hb⟩⟩) (hi8 _ _ (by decide) (by decide) (by decide)) (fun q' hq2 => ⟨hi8 _ _ (by decide) (by decide) (by decide), fun f f1 f2 => hi8 _ _ (by omega) (by omega) (by omega), fun b hb f f1 f2 => hi8 _ _ (by omega) (by omega) (by omega)⟩)
      · refine frm_tr hf3 (frm_tr (frm_chg hc (fun f x z => roW_cls z)) (frm_tr (frm_chg k1 (fun f x z => kpW_cls z)) (frm_tr (σ1 := σ7) (frm_chg n1 ?_) (frm_rd hA m1))))
        rintro f x (z | ⟨-, b, -, z⟩)
        · exact ⟨6, _, by omega, z.2⟩
        · exact ⟨7, _, by omega, z⟩
    · rw [cif_neg hno, cif_neg (fun z => hno z.2.2)]
      have hra : row (dRow D (hp D q.toNat) ((row D (hp D q.toNat)).eraseIdx ((row D (hp D q.toNat)).idxOf q.toNat))) (hp D q.toNat) = (row D (hp D q.toNat)).eraseIdx ((row D (hp D q.toNat)).idxOf q.toNat) := by rw [row_at, if_pos rfl]
      have hel := ers_len hmq
      have hpt := spec_putP (g := g) hl hP5 (i := (row D (hp D q.toNat)).idxOf q.toNat) (q := q.toNat) (by rw [hra]; omega) (by rw [hra]; unfold pn at g3; omega) hPn5.1
      rw [hra, ers_back hmq] at hpt
      refine ⟨by unfold qR; omega, fun z => absurd rfl z, fun _ => ⟨hP5.1, _, hpt, fun σ6 h6 => ?_⟩⟩
      have hS6 := SR_row hA h6 hS5
      have hD : dRow D (hp D q.toNat) (row D (hp D q.toNat)) = D := by
        have := dRow_back (D := D) (p := hp D q.toNat) (xs := row D (hp D q.toNat))
        rw [dRow_dRow] at this
        exact this
      rw [dRow_dRow, hD] at hS6
      have hI6 : gI σ6 = gI σ5 := by rw [h6]; rfl
      refine ⟨A, hA, fun _ _ _ _ => rfl, SR_CR hS6 hw.1 (fun p' hp2 => LaR_I (LaR_tr hA hw.1 hp2 (LaR_I (CR_La h hw.1 hp2) hI3) (qChg_mono hc (fun fl x z => roW_tr z))) hI6), ?_, rfl⟩
      refine frm_tr hf3 (frm_tr (frm_chg hc (fun f x z => roW_cls z)) ?_)
      rw [h6]; exact frm_L ⟨10, _, by omega, rfl⟩
  have hrb := spec_readBehind (g := g) hl hA h hw.1 (kv := q) (Or.inr hok)
  rw [← hpr] at hrb
  refine ⟨_, hrb, fun hnz => hK _ ?_, fun hz0 => ⟨_, spec_readAhead hl hA h hw.1 hok.2, hK _ ?_⟩⟩
  · unfold heir
    rw [← hq0, if_neg (fun z => hnz (by unfold pRef; rw [if_pos z]))]
  · unfold heir
    have : nxt D q = -1 := by
      rcases nxt_al (D := D) q with z | z
      · exact z
      · unfold pRef at hz0
        rw [if_neg (by omega)] at hz0
        exact absurd hz0 (hA.2 _ _)
    rw [← hq0, if_pos this]
end
