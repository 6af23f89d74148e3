/-! the model: moveBalloon -/
def qMV (A : Nat → Nat → Nat) (σ : qS) (c : Nat → Int) (o : Int ⊕ Nat) (D' : qD) : qS → Prop := fun σ' => qMP A D' σ c o σ' 0
section
variable {g : qG} {l : Launch} {A : Nat → Nat → Nat} {D D1 : qD} {σ σ0 σ1 σ2 σ' : qS} {c : Nat → Int}
theorem spec_mmoveBalloon (hl : l.stackTraces = false) (hA : qInj A) (h : MR A D σ) (hw : WF D) {b q i : Int} (hbq : qR b) (hqq : qR q) (hiq : qR i) : qMet g l M_X8_moveBalloon [vr (A 30 0), vi b, vi q, vi i] σ (qTv0 (qMV A σ c2 (o_moveBalloon D b q i) (d_moveBalloon D b q i))) := by
  have hn := hw.1.1
  unfold o_moveBalloon d_moveBalloon
  have hbad : ∀ σ6 : qS, σ6 = sI σ 320 (A 30 0) 1 → ¬ (blOk D b ∧ pnOk D q ∧ mbPl D b q i) → qTv0 (qMV A σ c2 (cif (blOk D b ∧ pnOk D q ∧ mbPl D b q i) (cif (mbSt D b.toNat q.toNat i.toNat) (.inl 0) (.inr 0)) (.inr 2)) (cif ((blOk D b ∧ pnOk D q ∧ mbPl D b q i) ∧ mbSt D b.toNat q.toNat i.toNat) (dMb D b.toNat q.toNat i.toNat) D)) σ6 (.inl none) := by
    intro σ6 h6 hno
    obtain ⟨m1, m2, m3⟩ := MR_t hA h h6
    rw [cif_neg hno, cif_neg (fun z => hno z.1)]
    exact ⟨rfl, qMP_q hA h m2 m3⟩
  refine wm_X8_moveBalloon hl ⟨h.1.1.1, _, spec_isBalloon hl h.1 h.2.1 hw.1 hbq, cifQ, fun hz1 σ6 h6 => hbad σ6 h6 (fun z => cif0 hz1 z.1), fun hz1 => ⟨_, spec_isPanel hl h.1 h.2.1 hw.1 hqq, cifQ, fun v12 h12 => ⟨fun hz σ6 h6 => ?_, fun hz => ?_⟩⟩⟩
  · have hno : ¬ pnOk D q := fun z => by rw [cif_pos z, if_neg (by decide)] at h12; omega
    exact hbad σ6 h6 (fun z => hno z.2.1)
  have hokb := cif1 hz1
  have hokq : pnOk D q := by
    by_cases e : pnOk D q
    · exact e
    · rw [cif_neg e, if_pos rfl] at h12; exact absurd h12 hz
  have hb1 := hokb.1
  have hb2 := hokb.2.1
  have hq1 := hokq.1
  have hq2 := hokq.2.1
  obtain ⟨hal, hm⟩ := alB_home hw.1 hokb.2
  have hal1 := hal.1
  have hbb : b = (b.toNat : Int) := (Int.toNat_of_nonneg hb1).symm
  have hqv : q = (q.toNat : Int) := (Int.toNat_of_nonneg hq1).symm
  obtain ⟨a1, a2, a3⟩ := m335 h.1.1
  obtain ⟨b1, b2, b3⟩ := m337 h.1.1
  have h55 : ∀ σ1, MR A D σ1 → gA σ1 (A 55 0) q = (hs D q.toNat).length := fun σ1 h1 => by
    have := (HS_of h1.1 q.toNat hq2).1
    rwa [← hqv] at this
  have h57 : ∀ σ1, MR A D σ1 → gA σ1 (A 57 0) b = hb D b.toNat := fun σ1 h1 => by
    have := h1.1.2.1.2.2.2 b.toNat hb2
    rw [← hbb, pnv_al hokb.2] at this
    exact this
  have hl4 := hs_len4 hw.1 hq2
  have hl4' := hs_len4 hw.1 hal1
  rw [a1, b1, h55 σ h, h57 σ h]
  refine ⟨q_isA0 a2, ⟨hq1, by rw [a3]; omega⟩, q_isA0 b2, ⟨hb1, by rw [b3]; omega⟩, ⟨by unfold qR; omega, hqq⟩, fun v28 h28 => ?_⟩
  have e28 : v28 = if q.toNat = hb D b.toNat then 1 else 0 := by
    rw [h28]
    by_cases e : q.toNat = hb D b.toNat
    · rw [if_pos e, if_neg (fun z => z (by omega))]
    · rw [if_neg e, if_pos (fun z => e (by omega))]
  have hv28 : 0 ≤ v28 ∧ v28 ≤ 1 := by rw [e28]; split <;> omega
  refine ⟨_, spec_in hl hiq (by unfold qR; omega) (by unfold qR; omega), inQ, fun v38 h38 σ44 h44 => ?_⟩
  rw [e28] at h38
  by_cases hpl : mbPl D b q i
  rotate_left
  · have hz0 : ¬ (0 ≤ i ∧ i ≤ ((hs D q.toNat).length : Int) - (if q.toNat = hb D b.toNat then 1 else 0)) := hpl
    rw [if_neg hz0, if_pos rfl] at h38
    subst h38
    exact ⟨fun z => absurd z (by decide), fun _ => hbad σ44 h44 (fun z => hpl z.2.2)⟩
  have hz0 : (0 ≤ i ∧ i ≤ ((hs D q.toNat).length : Int) - (if q.toNat = hb D b.toNat then 1 else 0)) := hpl
  rw [if_pos hz0, if_neg (by decide)] at h38
  subst h38
  rw [cif_pos ⟨hokb, hokq, hpl⟩]
  obtain ⟨t1, t2, t3⟩ := MR_t hA h h44
  obtain ⟨a1, a2, a3⟩ := m335 t1.1.1
  obtain ⟨b1, b2, b3⟩ := m337 t1.1.1
  rw [a1, b1, h55 σ44 t1, h57 σ44 t1]
  refine ⟨fun _ => ⟨q_isA0 b2, ⟨hb1, by rw [b3]; omega⟩, fun x49 h49 => ?_⟩, fun z => absurd (Int.le_refl 0) z⟩
  subst h49
  refine ⟨⟨by unfold qR; omega, hqq, fun _ => ⟨q_isA0 a2, ⟨hq1, by rw [a3]; omega⟩, by unfold qR; omega⟩⟩, fun v58 h58 σ63 h63 => ?_⟩
  by_cases hfull : q.toNat ≠ hb D b.toNat ∧ 4 ≤ (hs D q.toNat).length
  · rw [if_neg (by omega), if_neg (fun z => z (by omega))] at h58
    subst h58
    obtain ⟨m1, m2, m3⟩ := MR_t hA t1 h63
    have hno : ¬ mbSt D b.toNat q.toNat i.toNat := fun z => z.1 hfull
    rw [cif_neg hno, cif_neg (fun z => hno z.2)]
    exact ⟨fun z => absurd z (by decide), fun _ => ⟨rfl, qMP_q hA h (qMc_tr t2 m2) m3⟩⟩
  have h58' : v58 = 0 := by
    rw [h58]
    by_cases e : (hb D b.toNat : Int) = q
    · rw [if_pos e]
    · rw [if_neg e, if_pos (fun z => hfull ⟨fun y => e (by omega), by omega⟩)]
  subst h58'
  refine ⟨fun _ => ⟨_, spec_keeps hl hA (MR_t hA t1 h63).1.1.1, fun σ71 h71 => ?_⟩, fun z => absurd (Int.le_refl 0) z⟩
  obtain ⟨k1, k2, k3, k4⟩ := kept0 hA hw.1 t1 h63 h71
  have htl : (toB D b.toNat q.toNat).length < 4 ∧ i.toNat ≤ (toB D b.toNat q.toNat).length := by
    have hel := ers_len hm
    have hix := ix_lt hm
    unfold toB erB
    by_cases e : q.toNat = hb D b.toNat
    · rw [if_pos e] at hz0 ⊢
      rw [e] at hz0
      rw [hel]; omega
    · rw [if_neg e] at hz0 ⊢
      exact ⟨by omega, by omega⟩
  have hw1 := WF0_Mb hw.1 hokb.2 hokq.2 htl.2 htl.1
  rw [hbb, hqv]
  have hHl : ∀ q', q' < nq D → (updL (hs D) (hb D b.toNat) (erB D b.toNat) q').length ≤ 4 := fun q' hq' => by
    unfold updL
    split
    · unfold erB; rw [ers_len hm]; omega
    · exact hs_len4 hw.1 hq'
  have hto : updL (hs D) (hb D b.toNat) (erB D b.toNat) q.toNat = toB D b.toNat q.toNat := rfl
  refine tk_b hl hA k1.1.1 (HS_of k1.1) hal.1 hn.2.1 (fun q hq => hs_len4 hw.1 hq) hm (fun y hy => hs_lt hw.1 hal.1 hy) (fun σ89 h89 hH => ?_)
  have hS89 := MS_c h89 k1.1.1
  rw [← Int.toNat_of_nonneg hz0.1]
  refine pt_b hl hA hS89 (H := updL (hs D) (hb D b.toNat) (erB D b.toNat)) hH hq2 hn.2.1 hHl (by rw [hto]; exact htl.1) (by rw [hto]; exact htl.2) (fun σ104 h104 hH2 => ?_)
  rw [← hbb, ← hqv, Int.toNat_of_nonneg hz0.1]
  have hS104 := MS_c h104 hS89
  obtain ⟨b1, b2, b3⟩ := m337 hS104
  rw [b1]
  refine ⟨b2, ⟨hb1, by rw [b3]; omega⟩, fun σ108 h108 => ?_⟩
  rw [hbb] at h108
  have hcl : qMc A noI (fun t _ => 55 ≤ t ∧ t ≤ 57) σ71 σ108 := qMc_tr (qMc_tr (qMc_mono h89 (fun _ z => z) (fun t i z => by omega)) (qMc_mono h104 (fun _ z => z) (fun t i z => by omega))) (by rw [h108]; exact qMc_A (by decide))
  have hH1 : HSm A (nq D) (hs (dMb D b.toNat q.toNat i.toNat)) σ108 := by
    have e : hs (dMb D b.toNat q.toNat i.toNat) = updL (updL (hs D) (hb D b.toNat) (erB D b.toNat)) q.toNat ((updL (hs D) (hb D b.toNat) (erB D b.toNat) q.toNat).insertIdx i.toNat b.toNat) := funext (fun q' => by rw [hto]; exact hs_Mb)
    rw [e]
    exact HS_f hA (show qMc A noI (fun t _ => t = 57) σ104 σ108 by rw [h108]; exact qMc_A rfl) (fun t i ht z => by omega) hH2
  have h2 : MA2 A D σ108 := MA2_c hA hcl (fun t i ht z => by omega) k1.1.2.2
  have h57' : ∀ b' : Nat, b' < nb D → gA σ108 (A 57 0) (b' : Int) = pnv (dMb D b.toNat q.toNat i.toNat) b' := by
    intro b' hb3
    have hold : gA σ71 (A 57 0) (b' : Int) = pnv D b' := k1.1.2.1.2.2.2 b' hb3
    show _ = if gb D b' = 0 then (hb (dMb D b.toNat q.toNat i.toNat) b' : Int) else -1
    rw [hb_Mb, h108, gA_at hA]
    by_cases e : b' = b.toNat
    · rw [if_pos ⟨rfl, by omega⟩, if_pos e, e, if_pos hokb.2.2]; exact hqv
    · rw [if_neg (fun z => e (by omega)), if_neg e, qMc_at hA h104 (fun z => by omega), qMc_at hA h89 (fun z => by omega)]
      exact hold
  have hB : MB A (dMb D b.toNat q.toNat i.toNat) σ108 := MB_hs hA hcl (fun t i z => by omega) k1.1 rfl hH1 h57' (fun _ => rfl) (fun _ => rfl) (fun _ => rfl) (fun _ => rfl) (fun _ => rfl) h2
  have hc1 : qMc A modI modA σ44 σ108 := qMc_tr k2 (low_mod hcl (fun t i z => by omega))
  have hsc := MSc_c hcl (fun _ _ _ z => z) k1.2.1
  have t2' : qMc A mI mA σ σ44 := mod_mA t2 (fun _ _ z => z.elim)
  refine ⟨_, spec_stays hl hA hB hw1 hsc.1 hsc.2.2 (MA1_c hA hcl (fun t i ht z => by have := told_hi t; omega) k3) h2 hw rfl, fun σ57 v59 h35 => ?_⟩
  rcases mfin hA t1 hw hw1 rfl rfl (fun _ _ => rfl) ⟨rfl, rfl⟩ hc1 hsc hsc h35 with ⟨rfl, hall, hans, hW1, hM, hmm, hk⟩ | ⟨rfl, hno, hM, hmm⟩
  · refine ⟨by unfold qR; omega, fun v40 h40 => ⟨hM.1.1.1, fun σ46 h46 => ?_⟩⟩
    rw [if_neg (by decide)] at h40
    subst h40
    obtain ⟨n1, n2, n3⟩ := MR_t hA hM h46
    have hst : mbSt D b.toNat q.toNat i.toNat := ⟨hfull, hall _ (alP_home hw.1 hal).1, hall _ (alP_home hw.1 hokq.2).1, hans⟩
    rw [cif_pos hst, cif_pos ⟨⟨hokb, hokq, hpl⟩, hst⟩]
    exact ⟨rfl, n1, qMc_tr t2' (qMc_tr hmm (mod_mA n2 (fun _ _ z => z.elim))), rfl, n3⟩
  · refine ⟨by unfold qR; omega, fun v40 h40 => ⟨hM.1.1.1, fun σ46 h46 => ?_⟩⟩
    rw [if_pos rfl] at h40
    subst h40
    obtain ⟨n1, n2, n3⟩ := MR_t hA hM h46
    have hno1 : ¬ mbSt D b.toNat q.toNat i.toNat := fun z => hno ⟨OK_Mb hw hokb.2 hokq.2 z.2.1 z.2.2.1, z.2.2.2⟩
    rw [cif_neg hno1, cif_neg (fun z => hno1 z.2)]
    exact ⟨rfl, n1, qMc_tr t2' (qMc_tr hmm (mod_mA n2 (fun _ _ z => z.elim))), n3⟩
end
