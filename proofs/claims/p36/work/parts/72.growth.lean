/-! the class: a growth -/
def dGr (D : qD) (t : Nat) (v : Int) : qD := dI D 3 t v
section
variable {g : qG} {l : Launch} {A : Nat → Nat → Nat} {D : qD} {σ : qS}
theorem gr_at {t t' : Nat} {v : Int} : gr (dGr D t v) t' = if t' = t then v else gr D t' := by
  unfold gr dGr dI q_u2
  by_cases c : t' = t
  · rw [if_pos c]; exact if_pos ⟨rfl, c⟩
  · rw [if_neg c]; exact if_neg (fun z => c z.2)
theorem WF0_gr {t : Nat} {v : Int} (hw : WF0 D) (hv : 50 ≤ v ∧ v ≤ 250) : WF0 (dGr D t v) := by
  obtain ⟨w1, w2, w3, w4, w5, w6, w7, w8, w9⟩ := hw
  refine ⟨w1, w2, w3, fun t' h => ?_, w5, w6, w7, w8, w9⟩
  rw [gr_at]
  split
  · exact hv
  · exact w4 t' h
theorem dGr_back {t : Nat} {v : Int} : dGr (dGr D t v) t (gr D t) = D := by
  have : q_u2 (q_u2 D.2.1 3 t v) 3 t (gr D t) = D.2.1 := by
    funext a b
    unfold q_u2
    by_cases c : a = 3 ∧ b = t
    · rw [if_pos c, c.1, c.2]; rfl
    · rw [if_neg c, if_neg c]
  show (D.1, q_u2 (q_u2 D.2.1 3 t v) 3 t (gr D t), D.2.2) = D
  rw [this]
theorem SR_gr {σ' : qS} {t : Nat} {v : Int} (hA : qInj A) (hs : σ' = sA σ (A 9 0) t v) (h : SR A D σ) : SR A (dGr D t v) σ' := by
  have iK : gK σ' = gK σ := by rw [hs]; rfl
  have iL : gL σ' = gL σ := by rw [hs]; rfl
  have iN : gN σ' = gN σ := by rw [hs]; rfl
  have iP : gP σ' = gP σ := by rw [hs]; rfl
  have iI : gI σ' = gI σ := by rw [hs]; rfl
  have iR : gR σ' = gR σ := by rw [hs]; rfl
  obtain ⟨h1, h2, h3, h4, h5, h6⟩ := h
  refine ⟨?_, ?_, ?_, fun p' hp' => ?_, fun q hq => ?_, fun b hb => ?_⟩
  · unfold BsR at h1 ⊢
    rw [iK, iL, iP]
    exact h1
  · obtain ⟨y1, y2, y3, y4, y5, y6, y7, y8⟩ := h2
    unfold LyR
    rw [iK, iN, iP]
    refine ⟨y1, y2, y3, y4, y5, fun t' ht' => ?_, y7, y8⟩
    rw [hs, gA_sA, gr_at]
    by_cases c : t' = t
    · rw [if_pos c, if_pos ⟨rfl, by omega⟩]
    · rw [if_neg c, if_neg (fun z => c (by omega))]
      exact y6 t' ht'
  · unfold RdR at h3 ⊢
    rw [iK, iN, iP, iR, iI]
    exact h3
  · have := h4 p' hp'
    unfold PgR at this ⊢
    rw [iK, iL, iP, iI]
    exact this
  · have := h5 q hq
    unfold PnR FcR at this ⊢
    rw [iK, iL, iP, iI]
    exact this
  · have := h6 b hb
    unfold BlR at this ⊢
    rw [iK, iP, iI]
    exact this
/-- what was tried of a page stays where another is tried -/
theorem TrP_out (hA : qInj A) (hw : WF0 D) {σ' : qS} {p p' : Nat} (hp' : p < np D) (hp2 : p' < np D) (hne : p ≠ p') (hc : qChg (roW A D p' 0 (pn D p')) σ σ') (h : TrP A D σ p) : TrP A D σ' p := by
  have h1 := hom hw hp'
  have h2 := hom hw hp2
  have hqn : ∀ i i', i < pn D p → i' < pn D p' → pq D p i ≠ pq D p' i' := fun i i' a b z => by
    have e1 := (h1 _ (pq_mem a)).1
    have e2 := (h2 _ (pq_mem b)).1
    rw [z] at e1; omega
  have hbn : ∀ i i' b, i < pn D p → i' < pn D p' → b ∈ hs D (pq D p i) → b ∈ hs D (pq D p' i') → False := fun i i' b a c d e => by
    have e1 := (h1 _ (pq_mem a)).2 b d
    have e2 := (h2 _ (pq_mem c)).2 b e
    exact hqn i i' a c (by omega)
  have hun : ∀ fl i, i < pn D p → fl ≠ 999 → ∀ x, (x = A 6 (pq D p i) ∨ x = A 14 (pq D p i) ∨ ∃ j, j < (hs D (pq D p i)).length ∧ x = A 17 (bl D (pq D p i) j)) → gI σ' fl x = gI σ fl x := by
    intro fl i hi hfl x hx
    refine hc.2.2.2.2.2.1 fl x ?_
    rintro (h | ⟨-, i', -, hi', h⟩ | (⟨h, -⟩ | ⟨i', -, hi', ⟨-, h⟩ | ⟨-, -, b, hb, h⟩⟩) | ⟨i', -, hi', ⟨-, h⟩ | ⟨-, h⟩⟩)
    · rcases hx with rfl | rfl | ⟨j, -, rfl⟩ <;> (have := h.2; rw [hA.1] at this; omega)
    · rcases hx with rfl | rfl | ⟨j, -, rfl⟩
      · rw [hA.1] at h; omega
      · exact hqn i i' hi hi' (qInj_i hA h)
      · rw [hA.1] at h; omega
    · exact hfl h
    · rcases hx with rfl | rfl | ⟨j, -, rfl⟩
      · rw [hA.1] at h; omega
      · exact hqn i i' hi hi' (qInj_i hA h)
      · rw [hA.1] at h; omega
    · rcases hx with rfl | rfl | ⟨j, hj, rfl⟩
      · rw [hA.1] at h; omega
      · rw [hA.1] at h; omega
      · have e := qInj_i hA h
        exact hbn i i' b hi hi' (e ▸ bl_mem hj) hb
    · rcases hx with rfl | rfl | ⟨j, -, rfl⟩
      · exact hqn i i' hi hi' (qInj_i hA h)
      · rw [hA.1] at h; omega
      · rw [hA.1] at h; omega
    · rcases hx with rfl | rfl | ⟨j, -, rfl⟩
      · rw [hA.1] at h; omega
      · exact hqn i i' hi hi' (qInj_i hA h)
      · rw [hA.1] at h; omega
  refine ⟨fun k hk i a b => ?_, ?_⟩
  · have hi : i < pn D p := by have := rS_le (WF0_Pg hw hp') (k + 1); omega
    obtain ⟨t1, t2, t3⟩ := h.1 k hk i a b
    refine ⟨(hun 210 i hi (by decide) _ (Or.inl rfl)).trans t1, ?_, fun j hj => ?_⟩
    · unfold BxR at t2 ⊢
      rw [hun 40 i hi (by decide) _ (Or.inr (Or.inl rfl)), hun 41 i hi (by decide) _ (Or.inr (Or.inl rfl)), hun 42 i hi (by decide) _ (Or.inr (Or.inl rfl)), hun 43 i hi (by decide) _ (Or.inr (Or.inl rfl))]
      exact t2
    · have t := t3 j hj
      unfold BxR at t ⊢
      rw [hun 40 i hi (by decide) _ (Or.inr (Or.inr ⟨j, hj, rfl⟩)), hun 41 i hi (by decide) _ (Or.inr (Or.inr ⟨j, hj, rfl⟩)), hun 42 i hi (by decide) _ (Or.inr (Or.inr ⟨j, hj, rfl⟩)), hun 43 i hi (by decide) _ (Or.inr (Or.inr ⟨j, hj, rfl⟩))]
      exact t
  · rw [hc.2.2.2.2.2.1 164 _ ?_]
    · exact h.2
    · rintro (z | ⟨z, -⟩ | (⟨z, -⟩ | ⟨i', -, -, ⟨z, -⟩ | ⟨-, z, -⟩⟩) | ⟨i', -, -, ⟨z, -⟩ | ⟨z, -⟩⟩)
      · exact hne (qInj_i hA z.2)
      all_goals omega
theorem TrP_kp (hA : qInj A) {σ' : qS} {p : Nat} (hc : qChg (kp1 A) σ σ') (h : TrP A D σ p) : TrP A D σ' p := by
  have hbx : ∀ x b, (∀ i, x ≠ A 13 i ∧ x ≠ A 16 i) → BxR σ x b → BxR σ' x b := by
    intro x b hx hb
    have hun : ∀ f, 40 ≤ f → f ≤ 43 → gI σ' f x = gI σ f x := fun f f1 f2 => hc.2.2.2.2.2.1 f x (by
      rintro (z | z | ⟨-, -, i, z | z⟩)
      · omega
      · omega
      · exact (hx i).1 z
      · exact (hx i).2 z)
    unfold BxR at hb ⊢
    rw [hun 40 (by omega) (by omega), hun 41 (by omega) (by omega), hun 42 (by omega) (by omega), hun 43 (by omega) (by omega)]
    exact hb
  refine ⟨fun k hk i a b => ?_, ?_⟩
  · obtain ⟨t1, t2, t3⟩ := h.1 k hk i a b
    refine ⟨(hc.2.2.2.2.2.1 210 _ (by unfold kp1; omega)).trans t1, hbx _ _ (fun i => ?_) t2, fun j hj => hbx _ _ (fun i => ?_) (t3 j hj)⟩
    · simp [hA.1]
    · simp [hA.1]
  · rw [hc.2.2.2.2.2.1 164 _ (by unfold kp1; omega)]
    exact h.2
noncomputable def o_setGrowth (D : qD) (t v : Int) : Int ⊕ Nat := cif ((0 ≤ t ∧ t ≤ 2) ∧ 50 ≤ v ∧ v ≤ 250) (cif (∀ p, p < np D → OKp (dGr D t.toNat v) p) (.inl (sm (chg D (dGr D t.toNat v)) (np D))) (.inr 0)) (.inr 1)
noncomputable def d_setGrowth (D : qD) (t v : Int) : qD := cif (((0 ≤ t ∧ t ≤ 2) ∧ 50 ≤ v ∧ v ≤ 250) ∧ ∀ p, p < np D → OKp (dGr D t.toNat v) p) (dGr D t.toNat v) D
theorem spec_setGrowth (hl : l.stackTraces = false) (hA : qInj A) (h : CR A D σ) (hw : WF D) {t v : Int} (ht : qR t) (hv : qR v) : qMet g l M_X7_setGrowth [vr (A 0 0), vi t, vi v] σ (qClP A σ (o_setGrowth D t v) (d_setGrowth D t v)) := by
  have hn := hw.1.1.1
  unfold o_setGrowth d_setGrowth
  refine wm_X7_setGrowth hl ⟨_, _, spec_needWithin hl ht (by unfold qR; omega) (by unfold qR; omega), fun σ1 h1 => ?_, fun σ1 n h1 => ?_⟩
  rotate_left
  · obtain ⟨rfl, h2, rfl⟩ := h1
    rw [cif_neg (fun z => h2 z.1), cif_neg (fun z => h2 z.1.1)]
    exact ⟨A, hA, fun _ _ _ _ => rfl, h, frm_rf, rfl⟩
  obtain ⟨rfl, ht1⟩ := h1
  refine ⟨_, _, spec_needWithin hl hv (by unfold qR; omega) (by unfold qR; omega), fun σ1 h1 => ?_, fun σ1 n h1 => ?_⟩
  rotate_left
  · obtain ⟨rfl, h2, rfl⟩ := h1
    rw [cif_neg (fun z => h2 z.2), cif_neg (fun z => h2 z.1.2)]
    exact ⟨A, hA, fun _ _ _ _ => rfl, h, frm_rf, rfl⟩
  obtain ⟨rfl, hv1⟩ := h1
  rw [cif_pos ⟨ht1, hv1⟩]
  obtain ⟨y1, y2, y3, y4, y5, y6, y7, y8⟩ := h.2.1
  rw [h.1.2.2.2.2.1, y2]
  refine ⟨h.1.1, y1, ⟨by decide, Or.inl y4⟩, ⟨ht1.1, by rw [y5]; omega⟩, fun x19 h19 => ⟨y4, fun σ22 h22 => ?_⟩⟩
  have e1 : t = (t.toNat : Int) := by omega
  rw [e1] at h22 h19
  rw [y6 _ (by omega)] at h19
  have hS1 := SR_gr hA h22 (CR_SR h)
  have hw1 := WF0_gr (t := t.toNat) hw.1 hv1
  have hI22 : gI σ22 = gI σ1 := by rw [h22]; rfl
  have hLa : ∀ p, p < np D → LaR A D σ22 p := fun p hp2 => by
    have := CR_La h hw.1 hp2
    unfold LaR BxR at this ⊢
    rw [hI22]
    exact this
  have hfr0 : qFrm A σ1 σ22 := by
    intro x hx hn2
    rw [h22]
    exact ⟨rfl, fun _ => rfl, fun _ => rfl, fun i => if_neg (fun z => hn2 9 0 (by omega) z.1), fun _ => rfl, rfl, rfl⟩
  refine ⟨fun n x24 σ2 => ∃ k : Nat, x24 = k ∧ k ≤ np D ∧ n = 20 - k ∧ qChg (tr2 A) σ22 σ2 ∧ ∀ p, p < k → OKp (dGr D t.toNat v) p ∧ TrP A (dGr D t.toNat v) σ2 p, ⟨_, 0, rfl, Nat.zero_le _, rfl, qChg_rf, fun p z => absurd z (Nat.not_lt_zero _)⟩, ?_⟩
  rintro n x24 σ2 ⟨k, rfl, hk, rfl, hc2, hall⟩
  have hc2' : qChg (tr1 A) σ22 σ2 := qChg_mono hc2 (fun _ _ z => z.1)
  have hS2 : SR A (dGr D t.toNat v) σ2 := SR_chg hA (qChg_mono hc2 (fun fl x z => Or.inl z.1)) hS1
  have hLa2 : ∀ p, p < np D → LaR A D σ2 p := fun p hp2 => LaR_tr hA hw.1 hp2 (hLa p hp2) hc2'
  have hfr2 : qFrm A σ1 σ2 := frm_tr hfr0 (frm_chg hc2 (fun f x z => z.2))
  have hsz : ∀ σ3, SR A (dGr D t.toNat v) σ3 → qMet g l M_Jx4a65c_size_8abf5 [vr (A 1 0)] σ3 (qPi σ3 (np D)) := fun σ3 h3 => by
    have := spec_sizeM (g := g) hl h3.1.2.2.2.2.2.2.1 h3.1.2.2.2.2.2.2.2.1
    rwa [List.length_range] at this
  have hgt : ∀ σ3, SR A (dGr D t.toNat v) σ3 → ∀ i : Nat, i < np D → qMet g l M_Jx4a65c_get_915e3 [vr (A 1 0), vi (i : Int)] σ3 (qPr σ3 (A 5 i)) := fun σ3 h3 i hi => by
    have := spec_getM (g := g) (i := (i : Int)) (k := i) hl h3.1.2.2.2.2.2.2.1 h3.1.2.2.2.2.2.2.2.1 rfl (by rw [List.length_range]; exact hi)
    have e := getD_range (n := np (dGr D t.toNat v)) (i := i) hi
    rwa [e] at this
  rw [hS2.1.2.1]
  refine ⟨hS2.1.1, hS2.1.2.2.2.2.2.2.1, _, hsz σ2 hS2, by unfold qR; omega, by unfold qR; omega, fun hd => ?_, fun hd => ?_⟩
  · -- all can be laid: they are kept
    have hk2 : k = np D := by omega
    subst hk2
    have hokall : ∀ p, p < np D → OKp (dGr D t.toNat v) p := fun p hp2 => (hall p hp2).1
    rw [cif_pos hokall, cif_pos ⟨⟨ht1, hv1⟩, hokall⟩]
    refine ⟨fun n x39 x40 σ3 => ∃ i : Nat, x40 = i ∧ i ≤ np D ∧ n = 20 - i ∧ x39 = sm (chg D (dGr D t.toNat v)) i ∧ qChg (kp2 A) σ2 σ3 ∧ (∀ p, p < i → LaR A (dGr D t.toNat v) σ3 p) ∧ ∀ p, i ≤ p → p < np D → LaR A D σ3 p, ⟨_, 0, rfl, Nat.zero_le _, rfl, rfl, qChg_rf, fun p z => absurd z (Nat.not_lt_zero _), fun p _ hp2 => hLa2 p hp2⟩, ?_⟩
    rintro n x39 x40 σ3 ⟨i, rfl, hi, rfl, rfl, hc3, hdone, hrest⟩
    have hS3 : SR A (dGr D t.toNat v) σ3 := SR_chg hA (qChg_mono hc3 (fun fl x z => Or.inr z.1)) hS2
    rw [hS3.1.2.1]
    refine ⟨hS3.1.1, hS3.1.2.2.2.2.2.2.1, _, hsz σ3 hS3, by unfold qR; omega, by unfold qR; omega, fun hd3 => ?_, fun hd3 => ?_⟩
    · have hi2 : i = np D := by omega
      subst hi2
      exact ⟨A, hA, fun _ _ _ _ => rfl, SR_CR hS3 hw1 hdone, frm_tr hfr2 (frm_chg hc3 (fun f x z => z.2)), rfl⟩
    · have hin : i < np D := by omega
      have hT3 : TrP A (dGr D t.toNat v) σ3 i := TrP_kp hA (qChg_mono hc3 (fun _ _ z => z.1)) (hall i hin).2
      have hB3 : ∀ q, q ∈ row D i → BxR σ3 (A 13 q) (LB D q) := fun q hq => ((hrest i (Nat.le_refl _) hin).2 q hq).2.1
      have hpgi := (hS3.2.2.2.1 i hin).1
      refine ⟨A 5 i, hgt σ3 hS3 i hin, Or.inr hpgi.1, hpgi.1, _, spec_keepS hl hA hS3 hw1 (p := i) hin (hokall i hin) hT3 (fun q hq => La_Q hw hin hq (hB3 q hq)), fun σ4 v66 h4 x67 h67 x69 h69 => ?_⟩
      obtain ⟨k1, k2, k3⟩ := h4
      obtain ⟨m1, m2, m3, m4⟩ := keepS_post hA hS3 hw1 (p := i) hin k1 k2
      refine ⟨_, ?_, i + 1, by omega, by omega, rfl, ?_, qChg_tr hc3 m2 (fun _ _ z => z) (fun _ _ z => z), fun p hp2 => ?_, fun p hp2 hp3 => ?_⟩
      · omega
      · rw [h67, k3, chg_eq hA (D := D) hw1 hin hT3 (σ1 := σ3) qChg_rf hB3]
        rfl
      · by_cases c : p = i
        · rw [c]; exact m3
        · exact m4 p (show p < np D by omega) c (hdone p (by omega))
      · have hwP := WF0_Pg hw.1 hp3
        have hh := hom hw.1 hp3
        have hne : p ≠ i := by omega
        have hhi := hom hw1 (p := i) hin
        have hr := hrest p (by omega) hp3
        refine LaR_of hwP hr LyEq_rf (fun q hq2 => ⟨(hh q hq2).1, (hh q hq2).1, fun b hb => ⟨(hh q hq2).2 b hb, (hh q hq2).2 b hb⟩⟩) (k1.2.2.2.2.2.1 163 _ ?_) (fun q hq => ⟨k1.2.2.2.2.2.1 209 _ ?_, fun f f1 f2 => k1.2.2.2.2.2.1 f _ ?_, fun b hb f f1 f2 => k1.2.2.2.2.2.1 f _ ?_⟩)
        · rintro (⟨-, z⟩ | ⟨i', hi', ⟨z, -⟩ | ⟨z1, z2, -⟩⟩)
          · exact hne (qInj_i hA z)
          · omega
          · omega
        · rintro (⟨z, -⟩ | ⟨i', hi', ⟨-, z⟩ | ⟨z1, z2, -⟩⟩)
          · omega
          · have e := qInj_i hA z
            have e1 := (hhi _ (pq_mem hi')).1
            have e2 := (hh q hq).1
            rw [e] at e2
            exact hne (e2.symm.trans e1)
          · omega
        · rintro (⟨z, -⟩ | ⟨i', hi', ⟨z, -⟩ | ⟨z1, z2, z | ⟨b, -, z⟩⟩⟩)
          · omega
          · omega
          · have e := qInj_i hA z
            have e1 := (hhi _ (pq_mem hi')).1
            have e2 := (hh q hq).1
            rw [e] at e2
            exact hne (e2.symm.trans e1)
          · rw [hA.1] at z; omega
        · rintro (⟨z, -⟩ | ⟨i', hi', ⟨z, -⟩ | ⟨z1, z2, z | ⟨b', hb', z⟩⟩⟩)
          · omega
          · omega
          · rw [hA.1] at z; omega
          · have e := qInj_i hA z
            have h1 := hhi _ (pq_mem hi')
            have h2 := hh q hq
            have h3 := h1.2 b' hb'
            have h4 := h2.2 b hb
            rw [e] at h4
            have h5 : q = pq (dGr D t.toNat v) i i' := h4.symm.trans h3
            have h6 := h2.1
            rw [h5] at h6
            exact hne (h6.symm.trans h1.1)
  · have hkn : k < np D := by omega
    have hpg := (hS2.2.2.2.1 k hkn).1
    rw [hS2.1.2.2.2.2.1]
    refine ⟨A 5 k, hgt σ2 hS2 k hkn, Or.inr hpg.1, hS2.2.1.1, _, spec_tryS hl hA hS2 hw1 (p := k) hkn, fun σ3 v84 h3 => ?_⟩
    obtain ⟨hc3, hv3⟩ := h3
    rcases hv3 with ⟨rfl, hok1, hT⟩ | ⟨rfl, hno⟩
    · refine ⟨by unfold qR; omega, fun _ x87 h87 => ⟨_, ?_, k + 1, by omega, by omega, rfl, qChg_tr hc2 (tryS_chg hc3) (fun _ _ z => z) (fun _ _ z => z), fun p hp2 => ?_⟩, fun z => by omega⟩
      · omega
      · by_cases c : p = k
        · rw [c]; exact ⟨hok1, hT⟩
        · have := hall p (by omega)
          exact ⟨this.1, TrP_out hA hw1 (show p < np D by omega) (show k < np D by omega) c hc3 this.2⟩
    · have hS3 : SR A (dGr D t.toNat v) σ3 := SR_chg hA (qChg_mono hc3 (fun fl x z => Or.inl (roW_tr z))) hS2
      obtain ⟨z1, z2, z3, z4, z5, z6, z7, z8⟩ := hS3.2.1
      rw [hS3.1.2.2.2.2.1, z2]
      refine ⟨by unfold qR; omega, fun z => absurd rfl z, fun _ => ⟨hS3.1.1, z1, z4, ⟨ht1.1, by rw [z5]; omega⟩, fun σ94 h94 => ?_⟩⟩
      rw [cif_neg (fun z => hno (z k hkn)), cif_neg (fun z => hno (z.2 k hkn))]
      rw [e1, h19] at h94
      have hS4 := SR_gr hA h94 hS3
      rw [dGr_back] at hS4
      refine ⟨A, hA, fun _ _ _ _ => rfl, SR_CR hS4 hw.1 (fun p hp2 => ?_), frm_tr hfr2 (frm_tr (frm_chg hc3 (fun f x z => roW_cls z)) ?_), rfl⟩
      · have h5 := LaR_tr hA hw.1 hp2 (hLa2 p hp2) (qChg_mono hc3 (fun fl x z => roW_tr z))
        have hI94 : gI σ94 = gI σ3 := by rw [h94]; rfl
        unfold LaR BxR at h5 ⊢
        rw [hI94]
        exact h5
      · intro x hx hn2
        rw [h94]
        exact ⟨rfl, fun _ => rfl, fun _ => rfl, fun i => if_neg (fun z => hn2 9 0 (by omega) z.1), fun _ => rfl, rfl, rfl⟩
end
