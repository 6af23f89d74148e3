/-! the model: cutBalloon -/
section
variable {g : qG} {l : Launch} {A : Nat → Nat → Nat} {D D1 : qD} {σ σ0 σ1 σ2 σ' : qS} {c : Nat → Int}
def isAnK (D : qD) (b k : Nat) : Prop := ∃ c, c < k ∧ gb D c = 0 ∧ an D c = b
theorem isAnK_nb {b : Nat} : isAnK D b (nb D) ↔ isAn D b := ⟨fun ⟨c, h1, h2, h3⟩ => ⟨c, ⟨h1, h2⟩, h3⟩, fun ⟨c, h1, h3⟩ => ⟨c, h1.1, h1.2, h3⟩⟩
theorem isAnK_s {b k : Nat} : isAnK D b (k + 1) ↔ isAnK D b k ∨ (gb D k = 0 ∧ an D k = b) := by
  constructor
  · rintro ⟨c, h1, h2, h3⟩
    by_cases e : c = k
    · rw [e] at h2 h3; exact Or.inr ⟨h2, h3⟩
    · exact Or.inl ⟨c, by omega, h2, h3⟩
  · rintro (⟨c, h1, h2, h3⟩ | ⟨h2, h3⟩)
    · exact ⟨c, by omega, h2, h3⟩
    · exact ⟨k, by omega, h2, h3⟩
theorem spec_mcutBalloon (hl : l.stackTraces = false) (hA : qInj A) (h : MR A D σ) (hw : WF D) {b : Int} (hbq : qR b) : qMet g l M_X8_cutBalloon [vr (A 30 0), vi b] σ (qTi0 (qMO A σ c2 (o_cutBalloon D b) (d_cutBalloon D b))) := by
  have hn := hw.1.1
  unfold o_cutBalloon d_cutBalloon
  have hrf : qMc A m320 noA σ σ := qMc_rf
  refine wm_X8_cutBalloon hl ⟨h.1.1.1, _, spec_isBalloon hl h.1 h.2.1 hw.1 hbq, cifQ, fun hz1 => ?_, fun hz1 => ⟨_, fails_q hl hA (c := c2) (n := 2) h hrf rfl, fun σ3 v3 h3 => ⟨v3, rfl, ?_⟩⟩⟩
  rotate_left
  · have hno := cif0 hz1
    rw [cif_pos hno, cif_neg (fun z => hno z.1)]; exact h3
  have hok := cif1 hz1
  have hok1 := hok.1
  have hok2 := hok.2.1
  rw [cif_neg (fun z => z hok)]
  obtain ⟨hal, hm⟩ := alB_home hw.1 hok.2
  obtain ⟨hpn, hmq⟩ := alP_home hw.1 hal
  have hal1 := hal.1
  obtain ⟨a1, a2, a3⟩ := m337 h.1.1
  obtain ⟨b1, b2, b3⟩ := m339 h.1.1
  have h323 := h.2.1.2.2
  have hbb : b = (b.toNat : Int) := (Int.toNat_of_nonneg hok1).symm
  refine ⟨fun n x1 x2 => ∃ k : Nat, x2 = k ∧ k ≤ nb D ∧ n = nb D - k ∧ x1 = cif (isAnK D b.toNat k) 1 0, ⟨_, 0, rfl, Nat.zero_le _, rfl, by rw [cif_neg (fun z => by obtain ⟨c, h1, -⟩ := z; omega)]⟩, ?_⟩
  rintro n x1 x2 ⟨k, rfl, hk, rfl, rfl⟩
  rw [h323, a1, b1]
  refine ⟨by unfold qR; omega, by unfold qR; omega, fun hd => ⟨cifQ, fun hz => ?_, fun hz => ?_⟩, fun hd => ?_⟩
  rotate_left
  · have hk2 : k = nb D := by omega
    have ha : isAn D b.toNat := by rw [← isAnK_nb, ← hk2]; exact cif1 hz
    refine ⟨_, fails_q hl hA (c := c2) (n := 0) h hrf rfl, fun σ3 v3 h3 => ⟨v3, rfl, ?_⟩⟩
    rw [cif_pos ha, cif_neg (fun z => z.2.1 ha)]; exact h3
  · have hkn : k < nb D := by omega
    have hpk : gA σ (A 57 0) (k : Int) = pnv D k := h.1.2.1.2.2.2 k hkn
    have hak : gA σ (A 59 0) (k : Int) = an D k := (h.1.2.2.2.2 k hkn).2
    rw [hpk, hak]
    refine ⟨⟨cifQ, fun _ => ⟨q_isA0 a2, ⟨by omega, by rw [a3]; omega⟩, pnv_Q hw.1 hkn, fun _ => ⟨q_isA0 b2, ⟨by omega, by rw [b3]; omega⟩, (an_Q hw.1 hkn).1, hbq⟩⟩⟩, fun v97 h97 x103 h103 => ⟨nb D - (k + 1), by omega, k + 1, by omega, by omega, rfl, ?_⟩⟩
    rw [h97]
    by_cases e : isAnK D b.toNat k
    · rw [cif_pos e, if_pos (by decide), cif_pos (isAnK_s.mpr (Or.inl e))]
    · rw [cif_neg e, if_neg (fun z => z rfl)]
      by_cases e2 : gb D k = 0
      · rw [if_neg (fun z => pnv_ne.mp z e2)]
        by_cases e3 : an D k = b
        · rw [if_neg (fun z => z e3), cif_pos (isAnK_s.mpr (Or.inr ⟨e2, by omega⟩))]
        · rw [if_pos e3, cif_neg (fun z => (isAnK_s.mp z).elim e (fun y => e3 (by omega)))]
      · rw [if_pos (pnv_ne.mpr e2), cif_neg (fun z => (isAnK_s.mp z).elim e (fun y => e2 y.1))]
  have hk2 : k = nb D := by omega
  have hna : ¬ isAn D b.toNat := by rw [← isAnK_nb, ← hk2]; exact cif0 hz
  rw [cif_neg hna]
  have hpb : gA σ (A 57 0) b = hb D b.toNat := by
    have := h.1.2.1.2.2.2 b.toNat hok2
    rw [← hbb] at this
    have t : gA σ (A 57 0) b = pnv D b.toNat := this
    rw [t, pnv_al hok.2]
  rw [hpb]
  refine ⟨q_isA0 a2, ⟨hok1, by rw [a3]; omega⟩, fun x21 h21 => ?_⟩
  subst h21
  refine ⟨_, spec_keeps hl hA h.1.1, fun σ28 h28 => ?_⟩
  obtain ⟨k1, k2, k3, k4⟩ := MR_kept hA hw.1 h h28
  have hw1 := WF0_Cb hw.1 hok.2 hna
  rw [hbb]
  refine tk_b hl hA k1.1.1 (HS_of k1.1) hal.1 hn.2.1 (fun q hq => hs_len4 hw.1 hq) hm (fun y hy => hs_lt hw.1 hal.1 hy) (fun σ46 h46 hH => ?_)
  rw [← hbb]
  have hS46 := MS_c h46 k1.1.1
  obtain ⟨a1, a2, a3⟩ := m337 hS46
  rw [a1]
  refine ⟨a2, ⟨hok1, by rw [a3]; omega⟩, fun σ50 h50 => ?_⟩
  rw [hbb] at h50
  have hcl : qMc A noI (fun t _ => 55 ≤ t ∧ t ≤ 57) σ28 σ50 := qMc_tr (qMc_mono h46 (fun _ z => z) (fun t i z => by omega)) (by rw [h50]; exact qMc_A (by decide))
  have hH1 : HSm A (nq D) (hs (dCb D b.toNat)) σ50 := by
    have e : hs (dCb D b.toNat) = updL (hs D) (hb D b.toNat) ((hs D (hb D b.toNat)).eraseIdx ((hs D (hb D b.toNat)).idxOf b.toNat)) := funext (fun q => hs_Cb)
    rw [e]
    exact HS_f hA (show qMc A noI (fun t _ => t = 57) σ46 σ50 by rw [h50]; exact qMc_A rfl) (fun t i ht z => by omega) hH
  have h2 : MA2 A D σ50 := MA2_c hA hcl (fun t i ht z => by omega) k1.1.2.2
  have h57 : ∀ b' : Nat, b' < nb D → gA σ50 (A 57 0) (b' : Int) = pnv (dCb D b.toNat) b' := by
    intro b' hb2
    unfold pnv
    rw [gb_Cb, h50, gA_at hA]
    by_cases e : b' = b.toNat
    · rw [if_pos ⟨rfl, by omega⟩, if_pos e, if_neg (by decide)]
    · rw [if_neg (fun z => e (by omega)), if_neg e, qMc_at hA h46 (fun z => by omega)]
      exact k1.1.2.1.2.2.2 b' hb2
  have hB : MB A (dCb D b.toNat) σ50 := MB_hs hA hcl (fun t i z => by omega) k1.1 rfl hH1 h57 (fun _ => rfl) (fun _ => rfl) (fun _ => rfl) (fun _ => rfl) (fun _ => rfl) h2
  have hc1 : qMc A modI modA σ σ50 := qMc_tr (kept_mod k2) (low_mod hcl (fun t i z => by omega))
  have hsc := MSc_c hcl (fun _ _ _ z => z) k1.2.1
  refine ⟨_, spec_stays hl hA hB hw1 hsc.1 hsc.2.2 (MA1_c hA hcl (fun t i ht z => by have := told_hi t; omega) k3) h2 hw rfl, fun σ57 v59 h35 => ?_⟩
  have hly : ∀ p', p' < np D → p' ≠ hp D (hb D b.toNat) → LyEq D (dCb D b.toNat) p' := fun p' hp2 hne => LyEq_hs (fun z => hne (((hom hw.1 hp2) _ z).1).symm)
  have hone := OK_one (D1 := dCb D b.toNat) hw rfl hpn hly
  rcases mfin hA h hw hw1 rfl rfl (fun _ _ => rfl) ⟨rfl, rfl⟩ hc1 hsc hsc h35 with ⟨rfl, hall, hans, hW1, hM, hmm, hk⟩ | ⟨rfl, hno, hM, hmm⟩
  · refine ⟨by unfold qR; omega, fun v40 h40 => ⟨hM.1.1.1, fun σ46 h46 v71 h71 => ?_⟩⟩
    rw [if_neg (by decide)] at h40
    subst h40
    obtain ⟨n1, n2, n3⟩ := MR_t hA hM h46
    have hok1' := hone.mp hall
    rw [cif_pos hok1', cif_pos ⟨hok, hna, hok1'⟩]
    exact ⟨_, rfl, n1, qMc_tr hmm (mod_mA n2 (fun _ _ z => z.elim)), by rw [h71, if_pos (by decide)], n3⟩
  · refine ⟨by unfold qR; omega, fun v40 h40 => ⟨hM.1.1.1, fun σ46 h46 v71 h71 => ?_⟩⟩
    rw [if_pos rfl] at h40
    subst h40
    obtain ⟨n1, n2, n3⟩ := MR_t hA hM h46
    have hno1 : ¬ OKp (dCb D b.toNat) (hp D (hb D b.toNat)) := fun z => hno ⟨hone.mpr z, Ans_Cb hw hok.2 hw1⟩
    rw [cif_neg hno1, cif_neg (fun z => hno1 z.2.2)]
    exact ⟨_, rfl, n1, qMc_tr hmm (mod_mA n2 (fun _ _ z => z.elim)), n3⟩
end
