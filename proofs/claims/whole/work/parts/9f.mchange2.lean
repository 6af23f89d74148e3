/-! the model: translate, setGrowth, movePanel, face -/
section
variable {g : qG} {l : Launch} {A : Nat → Nat → Nat} {D D1 : qD} {σ σ0 σ1 σ' : qS} {c : Nat → Int}
def qMO (A : Nat → Nat → Nat) (σ : qS) (c : Nat → Int) (o : Int ⊕ Nat) (D' : qD) : qS → Int → Prop := fun σ' v => qMP A D' σ c o σ' v
theorem m320_mod (h : qMc A m320 noA σ σ') : qMc A modI modA σ σ' := qMc_mono h (fun f z => by have : f = 320 := z; unfold modI; omega) (fun _ _ z => z.elim)
theorem kept_mod (h : qMc A noI (fun t _ => 64 ≤ t ∧ t ≤ 73) σ σ') : qMc A modI modA σ σ' := qMc_mono h (fun _ z => z.elim) (fun t i z => Or.inr z)
theorem low_mod {SA : Nat → Int → Prop} (h : qMc A noI SA σ σ') (h1 : ∀ t i, SA t i → 44 ≤ t ∧ t ≤ 59) : qMc A modI modA σ σ' := qMc_mono h (fun _ z => z.elim) (fun t i z => Or.inl (h1 t i z))
/-- keeps behind a thrown that is set -/
theorem kept0 (hA : qInj A) (hw : WF0 D) (h : MR A D σ) {σ1 : qS} (h1 : σ1 = sI σ 320 (A 30 0) 0) (hc : cpI A cpK σ1 σ') : MR A D σ' ∧ qMc A modI modA σ σ' ∧ MA1 A told D σ' ∧ (∀ i, 0 ≤ i → i < 250 → gA σ' (A 73 0) i = gA σ (A 60 0) i) := by
  obtain ⟨m1, m2, m3⟩ := MR_t hA h h1
  obtain ⟨k1, k2, k3, k4⟩ := MR_kept hA hw m1 hc
  exact ⟨k1, qMc_tr (m320_mod m2) (kept_mod k2), k3, fun i i0 i1 => by rw [k4 i i0 i1, qMc_at hA m2 (fun z => z)]⟩
theorem mtr_B (hA : qInj A) {p : Nat} {t : Int} (h : MB A D σ) (hs : σ' = sA σ (A 44 0) p t) : MB A (dTg D p t) σ' ∧ MA2 A D σ' := by
  have hc : qMc A noI (fun u _ => u = 44) σ σ' := by rw [hs]; exact qMc_A rfl
  obtain ⟨h1, ⟨b1, b2, b3, b4⟩, h3⟩ := h
  have h3' := MA2_c hA hc (fun t i ht z => by omega) h3
  refine ⟨⟨MS_c hc h1, ⟨fun p' hp' => ?_, fun t' ht' => ?_, fun q hq => ?_, fun b hb => ?_⟩, h3'⟩, h3'⟩
  · obtain ⟨x, y, z⟩ := b1 p' hp'
    refine ⟨?_, by rw [qMc_at hA hc (by decide)]; exact y, fun i hi => by rw [qMc_at hA hc (by decide)]; exact z i hi⟩
    show gA σ' (A 44 0) (p' : Int) = tg (dTg D p t) p'
    rw [hs, gA_at hA, tg_at]
    by_cases e : p' = p
    · rw [if_pos ⟨rfl, by omega⟩, if_pos e]
    · rw [if_neg (fun w => e (by omega)), if_neg e]
      exact x
  · rw [qMc_at hA hc (by decide)]; exact b2 t' ht'
  · obtain ⟨x, y, z, w⟩ := b3 q hq
    exact ⟨by rw [qMc_at hA hc (by decide)]; exact x, by rw [qMc_at hA hc (by decide)]; exact y, by rw [qMc_at hA hc (by decide)]; exact z, fun k hk => by rw [qMc_at hA hc (by decide)]; exact w k hk⟩
  · rw [qMc_at hA hc (by decide)]; exact b4 b hb
theorem spec_mtranslate (hl : l.stackTraces = false) (hA : qInj A) (h : MR A D σ) (hw : WF D) {p t : Int} (hp' : qR p) (ht : qR t) : qMet g l M_X8_translate [vr (A 30 0), vi p, vi t] σ (qTi0 (qMO A σ c3 (o_translate D p t) (d_translate D p t))) := by
  have hn := hw.1.1.1
  unfold o_translate d_translate
  refine wm_X8_translate hl ⟨h.1.1.1, _, spec_isPage hl h.1.1 h.2.1 hw.1 hp', cifQ, fun hz => ⟨_, spec_in hl ht (by unfold qR; omega) (by unfold qR; omega), by split <;> (unfold qR; omega), fun v10 h10 σ15 h15 => ?_⟩, fun hz σ55 h55 => ?_⟩
  rotate_left
  · obtain ⟨m1, m2, m3⟩ := MR_t hA h h55
    rw [cif_pos (cif0 hz), cif_neg (fun z => cif0 hz z.1)]
    exact ⟨_, rfl, qMP_q hA h m2 m3⟩
  have hok := cif1 hz
  have hpn : p.toNat < np D := by unfold pgOk at hok; omega
  have hok2 : 0 ≤ p ∧ p < np D := hok
  rw [cif_neg (fun z => z hok)]
  by_cases e : 0 ≤ t ∧ t ≤ 2
  rotate_left
  · rw [if_neg e, if_pos rfl] at h10
    subst h10
    obtain ⟨m1, m2, m3⟩ := MR_t hA h h15
    rw [cif_neg e, cif_neg (fun z => e z.2.1)]
    exact ⟨fun z => absurd z (by decide), fun _ => ⟨_, rfl, qMP_q hA h m2 m3⟩⟩
  rw [if_pos e, if_neg (by decide)] at h10
  subst h10
  rw [cif_pos e]
  obtain ⟨m1, m2, m3⟩ := MR_t hA h h15
  refine ⟨fun _ => ⟨_, spec_keeps hl hA m1.1.1, fun σ23 h23 => ?_⟩, fun z => absurd (Int.le_refl 0) z⟩
  obtain ⟨k1, k2, k3, k4⟩ := kept0 hA hw.1 h h15 h23
  obtain ⟨a1, a2, a3⟩ := m324 k1.1.1
  rw [a1]
  refine ⟨k1.1.1.1, a2, ⟨hok.1, by rw [a3]; omega⟩, fun σ28 h28 => ?_⟩
  have h28' : σ28 = sA σ23 (A 44 0) (p.toNat : Int) t := by rw [h28, Int.toNat_of_nonneg hok.1]
  obtain ⟨hB, hB2⟩ := mtr_B hA k1.1 h28'
  have hw1 := WF0_tg hw.1 hpn e
  have hcl : qMc A noI (fun u _ => u = 44) σ23 σ28 := by rw [h28]; exact qMc_A rfl
  have hc1 : qMc A modI modA σ σ28 := qMc_tr k2 (low_mod hcl (fun t i z => by omega))
  have hsc := MSc_c hcl (fun _ _ _ z => z) k1.2.1
  refine ⟨_, spec_stays hl hA hB hw1 hsc.1 hsc.2.2 (MA1_c hA hcl (fun t i ht z => by have := told_hi t; omega) k3) hB2 hw rfl, fun σ35 v37 h35 => ?_⟩
  have hly : ∀ p', p' < np D → p' ≠ p.toNat → LyEq D (dTg D p.toNat t) p' := fun p' _ hne => LyEq_tg hne
  have hone := OK_one (D1 := dTg D p.toNat t) hw rfl hpn hly
  have h73 : ∀ i, 0 ≤ i → i < 250 → gA σ28 (A 73 0) i = gA σ (A 60 0) i := fun i i0 i1 => by rw [qMc_at hA hcl (by decide)]; exact k4 i i0 i1
  rcases mfin hA h hw hw1 rfl rfl (fun _ _ => rfl) ⟨rfl, rfl⟩ hc1 hsc hsc h35 with ⟨rfl, hall, hans, hW1, hM, hmm, hk⟩ | ⟨rfl, hno, hM, hmm⟩
  · refine ⟨by unfold qR; omega, fun v40 h40 => ⟨hM.1.1.1, fun σ46 h46 => ?_⟩⟩
    rw [if_neg (by decide)] at h40
    subst h40
    obtain ⟨n1, n2, n3⟩ := MR_t hA hM h46
    have hok1 := hone.mp hall
    rw [cif_pos hok1, cif_pos ⟨hok, e, hok1⟩]
    refine ⟨fun _ => ⟨_, spec_changedLB hl hA n1 h hW1 hw rfl (fun _ _ => rfl) (fun i i0 i1 => by rw [qMc_at hA n2 (fun z => z), hk]; exact h73 i i0 i1) hp', _, rfl, n1, qMc_tr hmm (mod_mA n2 (fun _ _ z => z.elim)), ?_, n3⟩, fun z => absurd (Int.le_refl 0) z⟩
    rw [show p = (p.toNat : Int) by omega, ct_pageI, Int.toNat_natCast]
    exact chg_ct hw1 (p := p.toNat) hpn
  · refine ⟨by unfold qR; omega, fun v40 h40 => ⟨hM.1.1.1, fun σ46 h46 => ?_⟩⟩
    rw [if_pos rfl] at h40
    subst h40
    obtain ⟨n1, n2, n3⟩ := MR_t hA hM h46
    have hno1 : ¬ OKp (dTg D p.toNat t) p.toNat := fun z => hno ⟨hone.mpr z, hw.2.2⟩
    rw [cif_neg hno1, cif_neg (fun z => hno1 z.2.2)]
    exact ⟨fun z => absurd z (by decide), fun _ => ⟨_, rfl, n1, qMc_tr hmm (mod_mA n2 (fun _ _ z => z.elim)), n3⟩⟩
theorem mgr_B (hA : qInj A) {t : Nat} {v : Int} (h : MB A D σ) (hs : σ' = sA σ (A 48 0) t v) : MB A (dGr D t v) σ' ∧ MA2 A D σ' := by
  have hc : qMc A noI (fun u _ => u = 48) σ σ' := by rw [hs]; exact qMc_A rfl
  obtain ⟨h1, ⟨b1, b2, b3, b4⟩, h3⟩ := h
  have h3' := MA2_c hA hc (fun t i ht z => by omega) h3
  refine ⟨⟨MS_c hc h1, ⟨fun p' hp' => ?_, fun t' ht' => ?_, fun q hq => ?_, fun b hb => ?_⟩, h3'⟩, h3'⟩
  · obtain ⟨x, y, z⟩ := b1 p' hp'
    exact ⟨by rw [qMc_at hA hc (by decide)]; exact x, by rw [qMc_at hA hc (by decide)]; exact y, fun i hi => by rw [qMc_at hA hc (by decide)]; exact z i hi⟩
  · show gA σ' (A 48 0) (t' : Int) = gr (dGr D t v) t'
    rw [hs, gA_at hA, gr_at]
    by_cases e : t' = t
    · rw [if_pos ⟨rfl, by omega⟩, if_pos e]
    · rw [if_neg (fun w => e (by omega)), if_neg e]
      exact b2 t' ht'
  · obtain ⟨x, y, z, w⟩ := b3 q hq
    exact ⟨by rw [qMc_at hA hc (by decide)]; exact x, by rw [qMc_at hA hc (by decide)]; exact y, by rw [qMc_at hA hc (by decide)]; exact z, fun k hk => by rw [qMc_at hA hc (by decide)]; exact w k hk⟩
  · rw [qMc_at hA hc (by decide)]; exact b4 b hb
theorem spec_msetGrowth (hl : l.stackTraces = false) (hA : qInj A) (h : MR A D σ) (hw : WF D) {t v : Int} (ht : qR t) (hv : qR v) : qMet g l M_X8_setGrowth [vr (A 30 0), vi t, vi v] σ (qTi0 (qMO A σ c1 (o_setGrowth D t v) (d_setGrowth D t v))) := by
  unfold o_setGrowth d_setGrowth
  refine wm_X8_setGrowth hl ⟨_, spec_in hl ht (by unfold qR; omega) (by unfold qR; omega), by split <;> (unfold qR; omega), fun hz => ⟨h.1.1.1, fun σ6 h6 => ?_⟩, fun hz => ⟨_, spec_in hl hv (by unfold qR; omega) (by unfold qR; omega), by split <;> (unfold qR; omega), fun v12 h12 => ⟨h.1.1.1, fun σ19 h19 => ?_⟩⟩⟩
  · obtain ⟨m1, m2, m3⟩ := MR_t hA h h6
    have hno : ¬ (0 ≤ t ∧ t ≤ 2) := fun z => by rw [if_pos z] at hz; exact absurd hz (by decide)
    rw [cif_neg (fun z => hno z.1), cif_neg (fun z => hno z.1.1)]
    exact ⟨_, rfl, qMP_q hA h m2 m3⟩
  have e1 : 0 ≤ t ∧ t ≤ 2 := by
    by_cases z : 0 ≤ t ∧ t ≤ 2
    · exact z
    · rw [if_neg z] at hz; exact absurd rfl hz
  by_cases e : 50 ≤ v ∧ v ≤ 250
  rotate_left
  · rw [if_neg e, if_pos rfl] at h12
    subst h12
    obtain ⟨m1, m2, m3⟩ := MR_t hA h h19
    rw [cif_neg (fun z => e z.2), cif_neg (fun z => e z.1.2)]
    exact ⟨fun z => absurd z (by decide), fun _ => ⟨_, rfl, qMP_q hA h m2 m3⟩⟩
  rw [if_pos e, if_neg (by decide)] at h12
  subst h12
  rw [cif_pos ⟨e1, e⟩]
  obtain ⟨m1, m2, m3⟩ := MR_t hA h h19
  refine ⟨fun _ => ⟨_, spec_keeps hl hA m1.1.1, fun σ23 h23 => ?_⟩, fun z => absurd (Int.le_refl 0) z⟩
  obtain ⟨k1, k2, k3, k4⟩ := kept0 hA hw.1 h h19 h23
  obtain ⟨a1, a2, a3⟩ := m328 k1.1.1
  rw [a1]
  refine ⟨k1.1.1.1, a2, ⟨e1.1, by rw [a3]; omega⟩, fun σ28 h28 => ?_⟩
  have h28' : σ28 = sA σ23 (A 48 0) (t.toNat : Int) v := by rw [h28, Int.toNat_of_nonneg e1.1]
  obtain ⟨hB, hB2⟩ := mgr_B hA k1.1 h28'
  have hw1 := WF0_gr (t := t.toNat) hw.1 e
  have hcl : qMc A noI (fun u _ => u = 48) σ23 σ28 := by rw [h28]; exact qMc_A rfl
  have hc1 : qMc A modI modA σ σ28 := qMc_tr k2 (low_mod hcl (fun t i z => by omega))
  have hsc := MSc_c hcl (fun _ _ _ z => z) k1.2.1
  refine ⟨_, spec_stays hl hA hB hw1 hsc.1 hsc.2.2 (MA1_c hA hcl (fun t i ht z => by have := told_hi t; omega) k3) hB2 hw rfl, fun σ35 v37 h35 => ?_⟩
  have h73 : ∀ i, 0 ≤ i → i < 250 → gA σ28 (A 73 0) i = gA σ (A 60 0) i := fun i i0 i1 => by rw [qMc_at hA hcl (by decide)]; exact k4 i i0 i1
  rcases mfin hA h hw hw1 rfl rfl (fun _ _ => rfl) ⟨rfl, rfl⟩ hc1 hsc hsc h35 with ⟨rfl, hall, hans, hW1, hM, hmm, hk⟩ | ⟨rfl, hno, hM, hmm⟩
  · refine ⟨by unfold qR; omega, fun v40 h40 => ⟨hM.1.1.1, fun σ46 h46 => ?_⟩⟩
    rw [if_neg (by decide)] at h40
    subst h40
    obtain ⟨n1, n2, n3⟩ := MR_t hA hM h46
    have hall' : ∀ p, p < np D → OKp (dGr D t.toNat v) p := hall
    rw [cif_pos hall', cif_pos ⟨⟨e1, e⟩, hall'⟩]
    refine ⟨fun _ => ⟨_, spec_changedLB hl hA n1 h hW1 hw rfl (fun _ _ => rfl) (fun i i0 i1 => by rw [qMc_at hA n2 (fun z => z), hk]; exact h73 i i0 i1) (by unfold qR; omega), _, rfl, n1, qMc_tr hmm (mod_mA n2 (fun _ _ z => z.elim)), ?_, n3⟩, fun z => absurd (Int.le_refl 0) z⟩
    have : ct (fun q => gq (dGr D t.toNat v) q = 0 ∧ ((-1 : Int) = -1 ∨ (-1 : Int) = hp (dGr D t.toNat v) q) ∧ LB D q ≠ LB (dGr D t.toNat v) q) (nq (dGr D t.toNat v)) = ct (fun q => gq (dGr D t.toNat v) q = 0 ∧ LB D q ≠ LB (dGr D t.toNat v) q) (nq (dGr D t.toNat v)) := ct_congr (fun q _ => ⟨fun z => ⟨z.1, z.2.2⟩, fun z => ⟨z.1, Or.inl rfl, z.2⟩⟩)
    rw [this]
    exact chgs_all hw1
  · refine ⟨by unfold qR; omega, fun v40 h40 => ⟨hM.1.1.1, fun σ46 h46 => ?_⟩⟩
    rw [if_pos rfl] at h40
    subst h40
    obtain ⟨n1, n2, n3⟩ := MR_t hA hM h46
    have hno1 : ¬ ∀ p, p < np D → OKp (dGr D t.toNat v) p := fun z => hno ⟨z, hw.2.2⟩
    rw [cif_neg hno1, cif_neg (fun z => hno1 z.2)]
    exact ⟨fun z => absurd z (by decide), fun _ => ⟨_, rfl, n1, qMc_tr hmm (mod_mA n2 (fun _ _ z => z.elim)), n3⟩⟩
/-- a row of the model written anew -/
theorem mrow_B (hA : qInj A) {p : Nat} {xs : List Nat} {SA : Nat → Int → Prop} (hw : WF0 D) (hp' : p < np D) (h : MB A D σ) (hc : qMc A noI SA σ σ') (hS : ∀ t i, SA t i → t = 46 ∧ 8 * (p : Int) ≤ i ∧ i < 8 * (p : Int) + 8) (hlen : xs.length = pn D p) (hv : ∀ j : Nat, j < xs.length → gA σ' (A 46 0) (8 * (p : Int) + j) = xs.getD j 0) : MB A (dRow D p xs) σ' ∧ MA2 A D σ' := by
  have hn := hw.1.1
  have hno : ∀ t i, t ≠ 46 → ¬ SA t i := fun t i ht z => ht (hS t i z).1
  obtain ⟨h1, ⟨b1, b2, b3, b4⟩, h3⟩ := h
  have h3' := MA2_c hA hc (fun t i ht => hno t i (by omega)) h3
  refine ⟨⟨MS_c hc h1, ⟨fun p' hp2 => ?_, fun t' ht' => ?_, fun q hq => ?_, fun b hb => ?_⟩, h3'⟩, h3'⟩
  · obtain ⟨x, y, z⟩ := b1 p' hp2
    have hpn : pn (dRow D p xs) p' = pn D p' := by
      unfold pn
      rw [row_at]
      by_cases e : p' = p
      · rw [if_pos e, hlen, e]; rfl
      · rw [if_neg e]
    refine ⟨by rw [qMc_at hA hc (hno _ _ (by decide))]; exact x, by rw [qMc_at hA hc (hno _ _ (by decide)), hpn]; exact y, fun i hi => ?_⟩
    rw [hpn] at hi
    show gA σ' (A 46 0) (8 * (p' : Int) + i) = ((row (dRow D p xs) p').getD i 0 : Nat)
    rw [row_at]
    by_cases e : p' = p
    · rw [if_pos e, e]
      exact hv i (by rw [hlen, ← e]; exact hi)
    · rw [if_neg e, qMc_at hA hc (fun w => by
        have := (hS _ _ w).2
        have hp8 : pn D p' ≤ 8 := by
          rcases Nat.lt_or_ge p' (np D) with d | d
          · exact (hw.2.1 p' d).2.2.1
          · unfold pn; rw [(hw.2.2.1 p' d).2.2]; exact Nat.zero_le _
        omega)]
      exact z i hi
  · rw [qMc_at hA hc (hno _ _ (by decide))]; exact b2 t' ht'
  · obtain ⟨x, y, z, w⟩ := b3 q hq
    exact ⟨by rw [qMc_at hA hc (hno _ _ (by decide))]; exact x, by rw [qMc_at hA hc (hno _ _ (by decide))]; exact y, by rw [qMc_at hA hc (hno _ _ (by decide))]; exact z, fun k hk => by rw [qMc_at hA hc (hno _ _ (by decide))]; exact w k hk⟩
  · rw [qMc_at hA hc (hno _ _ (by decide))]; exact b4 b hb
theorem spec_mmovePanel (hl : l.stackTraces = false) (hA : qInj A) (h : MR A D σ) (hw : WF D) {q i : Int} (hq : qR q) (hi : qR i) : qMet g l M_X8_movePanel [vr (A 30 0), vi q, vi i] σ (qTi0 (qMO A σ c2 (o_movePanel D q i) (d_movePanel D q i))) := by
  have hn := hw.1.1
  unfold o_movePanel d_movePanel
  have hrf : qMc A m320 noA σ σ := qMc_rf
  refine wm_X8_movePanel hl ⟨h.1.1.1, _, spec_isPanel hl h.1 h.2.1 hw.1 hq, cifQ, fun hz => ⟨_, fails_q hl hA (c := c2) (n := 2) h hrf rfl, fun σ3 v3 h3 => ⟨v3, rfl, ?_⟩⟩, fun hz => ?_⟩
  · rw [cif_neg (fun z => cif0 hz z.1), cif_neg (fun z => cif0 hz z.1.1)]; exact h3
  have hok := cif1 hz
  have hok1 := hok.1
  have hok2 := hok.2.1
  obtain ⟨hpn, hmq⟩ := alP_home hw.1 hok.2
  obtain ⟨g1, g2, g3, g4⟩ := hw.1.2.1 _ hpn
  obtain ⟨a1, a2, a3⟩ := m329 h.1.1
  obtain ⟨b1, b2, b3⟩ := m325 h.1.1
  have hpg : gA σ (A 49 0) q = hp D q.toNat := by
    have := (h.1.2.1.2.2.1 q.toNat hok2).1
    rw [pgv_al hok.2] at this
    rwa [Int.toNat_of_nonneg hok1] at this
  have hcnt : gA σ (A 45 0) (hp D q.toNat : Int) = pn D (hp D q.toNat) := (h.1.2.1.1 _ (by omega)).2.1
  rw [a1, hpg, b1, hcnt]
  refine ⟨q_isA0 a2, ⟨hok1, by rw [a3]; omega⟩, q_isA0 b2, ⟨by omega, by rw [b3]; omega⟩, _, spec_in hl hi (by unfold qR; omega) (by unfold qR; omega), by split <;> (unfold qR; omega), fun hz2 x22 h22 => ?_, fun hz2 => ⟨_, fails_q hl hA (c := c2) (n := 2) h hrf rfl, fun σ3 v3 h3 => ⟨v3, rfl, ?_⟩⟩⟩
  rotate_left
  · have hno : ¬ (0 ≤ i ∧ i ≤ (pn D (hp D q.toNat) : Int) - 1) := fun z => by rw [if_pos z] at hz2; exact absurd hz2 (by decide)
    rw [cif_neg (fun z => hno z.2), cif_neg (fun z => hno z.1.2)]; exact h3
  have hi1 : 0 ≤ i ∧ i ≤ (pn D (hp D q.toNat) : Int) - 1 := by
    by_cases e : 0 ≤ i ∧ i ≤ (pn D (hp D q.toNat) : Int) - 1
    · exact e
    · rw [if_neg e] at hz2; exact absurd rfl hz2
  subst h22
  have hin : pnOk D q ∧ 0 ≤ i ∧ i ≤ (pn D (hp D q.toNat) : Int) - 1 := ⟨hok, hi1⟩
  rw [cif_pos hin]
  refine ⟨_, spec_keeps hl hA h.1.1, fun σ29 h29 => ?_⟩
  obtain ⟨k1, k2, k3, k4⟩ := MR_kept hA hw.1 h h29
  obtain ⟨b1, b2, b3⟩ := m325 k1.1.1
  obtain ⟨c1', c2', c3'⟩ := m326 k1.1.1
  have hcnt2 : gA σ29 (A 45 0) (hp D q.toNat : Int) = pn D (hp D q.toNat) := (k1.1.2.1.1 _ (by omega)).2.1
  have hrow : ∀ j : Nat, j < (row D (hp D q.toNat)).length → gA σ29 (A 46 0) (8 * (hp D q.toNat : Int) + j) = (row D (hp D q.toNat)).getD j 0 := (k1.1.2.1.1 _ (by omega)).2.2
  have hlen : (row D (hp D q.toNat)).length = pn D (hp D q.toNat) := rfl
  have hix := ix_lt hmq
  have hel := ers_len hmq
  have hfind := spec_find (g := g) hl (its := q.toNat) c2' c3' (f := 8 * (hp D q.toNat : Int)) (by omega) (by omega) (by decide) hrow hmq (fun y hy => by have := row_lt hw.1 hpn hy; omega)
  rw [Int.toNat_of_nonneg hok1] at hfind
  rw [b1, c1', hcnt2]
  refine ⟨k1.1.1.1, q_isA0 b2, ⟨by omega, by rw [b3]; omega⟩, _, hfind, _, spec_rem hl hA (xs := row D (hp D q.toNat)) c2' c3' (by omega) (by omega) (by decide) hrow hix, fun σ41 h41 => ?_⟩
  obtain ⟨hc41, hv41⟩ := h41
  have hcs : ∀ t i', (fun t' (j : Int) => t' = 46 ∧ 8 * (hp D q.toNat : Int) ≤ j ∧ j < 8 * (hp D q.toNat : Int) + (row D (hp D q.toNat)).length) t i' → t = 46 ∧ 8 * (hp D q.toNat : Int) ≤ i' ∧ i' < 8 * (hp D q.toNat : Int) + 8 := fun t i' z => ⟨z.1, z.2.1, by have := z.2.2; omega⟩
  have hS41 : MS A σ41 := MS_c hc41 k1.1.1
  obtain ⟨b1, b2, b3⟩ := m325 hS41
  obtain ⟨c1', c2', c3'⟩ := m326 hS41
  have hcnt3 : gA σ41 (A 45 0) (hp D q.toNat : Int) = pn D (hp D q.toNat) := by rw [qMc_at hA hc41 (fun z => by omega)]; exact hcnt2
  have hins := spec_ins (g := g) (i := i.toNat) (its := q.toNat) hl hA (xs := (row D (hp D q.toNat)).eraseIdx ((row D (hp D q.toNat)).idxOf q.toNat)) c2' c3' (f := 8 * (hp D q.toNat : Int)) (by omega) (by rw [hel]; omega) (by decide) (fun j hj => hv41 j (by rw [hel] at hj; exact hj)) (by rw [hel]; omega)
  rw [hel, Int.toNat_of_nonneg hok1, Int.toNat_of_nonneg hi1.1, show (((row D (hp D q.toNat)).length - 1 : Nat) : Int) = (pn D (hp D q.toNat) : Int) - 1 by omega] at hins
  rw [b1, c1', hcnt3]
  refine ⟨hS41.1, q_isA0 b2, ⟨by omega, by rw [b3]; omega⟩, _, hins, fun σ51 h51 => ?_⟩
  obtain ⟨hc51, hv51⟩ := h51
  obtain ⟨m1, m2, m3⟩ := mv_sp (i := i.toNat) g2 hmq (by omega)
  have hcl : qMc A noI (fun t' (j : Int) => t' = 46 ∧ 8 * (hp D q.toNat : Int) ≤ j ∧ j < 8 * (hp D q.toNat : Int) + 8) σ29 σ51 := qMc_tr (qMc_mono hc41 (fun _ z => z) (fun t j z => ⟨z.1, z.2.1, by have := z.2.2; omega⟩)) (qMc_mono hc51 (fun _ z => z) (fun t j z => ⟨z.1, z.2.1, by have := z.2.2; omega⟩))
  obtain ⟨hB, hB2⟩ := mrow_B hA hw.1 hpn k1.1 hcl (fun t j z => z) (xs := mvd_ (row D (hp D q.toNat)) q.toNat i.toNat) (by rw [m2]; rfl) (fun j hj => hv51 j (by rw [m2] at hj; omega))
  have hw1 : WF0 (dMv D q.toNat i.toNat) := WF0_row hw.1 hpn m1 (by rw [m2]; exact g3) m3
  have hc1 : qMc A modI modA σ σ51 := qMc_tr (kept_mod k2) (low_mod hcl (fun t i z => by omega))
  have hsc := MSc_c hcl (fun _ _ _ z => z) k1.2.1
  refine ⟨MS_c hcl k1.1.1 |>.1, _, spec_stays hl hA (D1 := dMv D q.toNat i.toNat) hB hw1 hsc.1 hsc.2.2 (MA1_c hA hcl (fun t i ht z => by have := told_hi t; omega) k3) hB2 hw rfl, fun σ35 v37 h35 => ?_⟩
  have hly : ∀ p', p' < np D → p' ≠ hp D q.toNat → LyEq D (dMv D q.toNat i.toNat) p' := fun p' _ hne => LyEq_row hne
  have hone := OK_one (D1 := dMv D q.toNat i.toNat) hw rfl hpn hly
  have h73 : ∀ i, 0 ≤ i → i < 250 → gA σ51 (A 73 0) i = gA σ (A 60 0) i := fun i i0 i1 => by rw [qMc_at hA hcl (fun z => by omega)]; exact k4 i i0 i1
  rcases mfin hA h hw hw1 rfl rfl (fun _ _ => rfl) ⟨rfl, rfl⟩ hc1 hsc hsc h35 with ⟨rfl, hall, hans, hW1, hM, hmm, hk⟩ | ⟨rfl, hno, hM, hmm⟩
  · refine ⟨by unfold qR; omega, fun v40 h40 => ⟨hM.1.1.1, fun σ46 h46 => ?_⟩⟩
    rw [if_neg (by decide)] at h40
    subst h40
    obtain ⟨n1, n2, n3⟩ := MR_t hA hM h46
    have hok1' := hone.mp hall
    rw [cif_pos ⟨hok1', hans⟩, cif_pos ⟨hin, hok1', hans⟩]
    refine ⟨fun _ => ⟨_, spec_changedLB hl hA n1 h hW1 hw rfl (fun _ _ => rfl) (fun i i0 i1 => by rw [qMc_at hA n2 (fun z => z), hk]; exact h73 i i0 i1) (by unfold qR; omega), _, rfl, n1, qMc_tr hmm (mod_mA n2 (fun _ _ z => z.elim)), ?_, n3⟩, fun z => absurd (Int.le_refl 0) z⟩
    rw [ct_pageI]
    exact chg_ct hw1 (p := hp D q.toNat) hpn
  · refine ⟨by unfold qR; omega, fun v40 h40 => ⟨hM.1.1.1, fun σ46 h46 => ?_⟩⟩
    rw [if_pos rfl] at h40
    subst h40
    obtain ⟨n1, n2, n3⟩ := MR_t hA hM h46
    have hno1 : ¬ (OKp (dMv D q.toNat i.toNat) (hp D q.toNat) ∧ Ans (dMv D q.toNat i.toNat)) := fun z => hno ⟨hone.mpr z.1, z.2⟩
    rw [cif_neg hno1, cif_neg (fun z => hno1 z.2)]
    exact ⟨fun z => absurd z (by decide), fun _ => ⟨_, rfl, n1, qMc_tr hmm (mod_mA n2 (fun _ _ z => z.elim)), n3⟩⟩
end
