/-! the model: spreads, the reader, a page, an answer -/
section
variable {g : qG} {l : Launch} {A : Nat → Nat → Nat} {D : qD} {σ σ' : qS} {c : Nat → Int}
theorem ML_ly {D' : qD} {p : Nat} (hw : PgW D p) (h : ML A D σ p) (hly : LyEq D D' p) (hh : ∀ q, q ∈ row D p → hp D q = p ∧ hp D' q = p ∧ ∀ b, b ∈ hs D q → hb D b = q ∧ hb D' b = q) : ML A D' σ p := by
  refine ⟨h.1.trans (by rw [LyEq_rows hly]), fun q hq => ?_⟩
  rw [hly.1] at hq
  obtain ⟨k1, k2, k3⟩ := h.2 q hq
  obtain ⟨e1, e2, e3⟩ := hh q hq
  obtain ⟨g1, g2⟩ := LyEq_LB hw hly hq e1 e2
  rw [g1, g2]
  refine ⟨k1, k2, fun b hb => ?_⟩
  rw [(hly.2.2.2 q hq).2.2.2.2.1] at hb
  rw [LyEq_FB hw hly hq e1 e2 (e3 b hb).1 (e3 b hb).2]
  exact k3 b hb
theorem MR_sp (hA : qInj A) (hw : WF0 D) {p : Nat} {v : Int} (h : MR A D σ) (hs : σ' = sA σ (A 47 0) p v) : MR A (dSp D p v) σ' := by
  have hc : qMc A noI (fun t _ => t = 47) σ σ' := by rw [hs]; exact qMc_A rfl
  obtain ⟨⟨h1, h2, h3, h4, h5⟩, h6, h7, h8, h9, h10⟩ := h
  have hm2 : MA2 A (dSp D p v) σ' := by
    refine ⟨fun p' hp' => ?_, fun q hq => ?_, fun b hb' => ?_⟩
    · rw [hs, gA_at hA, sp_at]
      by_cases e : p' = p
      · rw [if_pos ⟨rfl, by omega⟩, if_pos e]
      · rw [if_neg (fun z => e (by omega)), if_neg e]
        exact h3 p' hp'
    · have := h4 q hq
      rw [qMc_at hA hc (by decide), qMc_at hA hc (by decide), qMc_at hA hc (by decide)]
      refine ⟨this.1, this.2.1, this.2.2.1, fun i hi => ?_⟩
      rw [qMc_at hA hc (by decide), qMc_at hA hc (by decide), qMc_at hA hc (by decide)]
      exact this.2.2.2 i hi
    · have := h5 b hb'
      rw [qMc_at hA hc (by decide), qMc_at hA hc (by decide)]
      exact this
  have h2' : MA1 A tid (dSp D p v) σ' := MA1_c hA hc (fun t i ht z => by unfold tid at z; omega) h2
  refine ⟨⟨MS_c hc h1, h2', hm2⟩, MSc_c hc (fun _ _ _ z => z) h6, MRd_c hA hc ⟨fun z => z, fun z => z⟩ (fun i z => by omega) h7, MZ_c hA hc (fun i _ z => by omega) h8, fun p' hp' => ?_, fun q hq hg i i0 i1 => by rw [qMc_at hA hc (by decide)]; exact h10 q hq hg i i0 i1⟩
  have hh := hom hw (p := p') hp'
  exact ML_c hA hc (fun t i t1 t2 z => by omega) (ML_ly (WF0_Pg hw (p := p') hp') (h9 p' hp') LyEq_sp (fun q hq => ⟨(hh q hq).1, (hh q hq).1, fun b hb => ⟨(hh q hq).2 b hb, (hh q hq).2 b hb⟩⟩))
theorem spec_mspread (hl : l.stackTraces = false) (hA : qInj A) (h : MR A D σ) (hw : WF0 D) {p : Int} (hp' : qR p) : qMet g l M_X8_spread [vr (A 30 0), vi p] σ (qTi0 (qMP A (d_spread D p) σ c2 (o_spread D p))) := by
  have hn := hw.1.1
  unfold o_spread d_spread
  refine wm_X8_spread hl ⟨h.1.1.1, _, spec_isPage hl h.1.1 h.2.1 hw hp', cifQ, fun hz σ6 h6 => ?_, fun hz => ?_⟩
  · obtain ⟨m1, m2, m3⟩ := MR_t hA h h6
    have hno : ¬ (0 ≤ p ∧ p + 1 < np D) := fun z => cif0 hz ⟨z.1, by omega⟩
    rw [cif_neg hno, cif_neg hno]
    exact ⟨_, rfl, qMP_q hA h m2 m3⟩
  have hok := cif1 hz
  have hok2 : 0 ≤ p ∧ p < np D := hok
  refine ⟨_, spec_isPage hl h.1.1 h.2.1 hw (by unfold qR; omega), cifQ, fun v12 h12 σ18 h18 => ?_⟩
  obtain ⟨m1, m2, m3⟩ := MR_t hA h h18
  by_cases e : pgOk D (p + 1)
  rotate_left
  · rw [cif_neg e, if_pos rfl] at h12
    subst h12
    have hno : ¬ (0 ≤ p ∧ p + 1 < np D) := fun z => e ⟨by omega, z.2⟩
    rw [cif_neg hno, cif_neg hno]
    exact ⟨fun z => absurd z (by decide), fun _ => ⟨_, rfl, qMP_q hA h m2 m3⟩⟩
  have hin : 0 ≤ p ∧ p + 1 < np D := ⟨hok2.1, e.2⟩
  rw [cif_pos e, if_neg (by decide)] at h12
  subst h12
  rw [cif_pos hin, cif_pos hin]
  obtain ⟨a1, a2, a3⟩ := m327 m1.1.1
  have hsp : ∀ i : Int, 0 ≤ i → i < 10 → gA σ18 (A 47 0) i = sp D i.toNat := fun i i0 i1 => by
    have := m1.1.2.2.1 i.toNat (by omega)
    rwa [Int.toNat_of_nonneg i0] at this
  have e0 := sp_01 hw p.toNat
  have e1 := sp_01 hw (p.toNat - 1)
  have e2 := sp_01 hw (p.toNat + 1)
  rw [a1, hsp (p + 1) (by omega) (by omega), hsp p (by omega) (by omega), show (p + 1).toNat = p.toNat + 1 by omega]
  have hm1 : 0 < p → gA σ18 (A 47 0) (p - 1) = sp D (p.toNat - 1) := fun h0 => by
    rw [hsp (p - 1) (by omega) (by omega), show (p - 1).toNat = p.toNat - 1 by omega]
  refine ⟨fun _ => ⟨⟨hp', fun h0 => ⟨q_isA1 a2, ⟨by omega, by rw [a3]; omega⟩, by unfold qR; omega⟩, fun h0 => ⟨q_isA1 a2, ⟨by omega, by rw [a3]; omega⟩, by rw [hm1 (by omega)]; unfold qR; omega, fun _ => ⟨⟨by omega, by rw [a3]; omega⟩, by unfold qR; omega⟩⟩⟩, fun v34 h34 => ⟨q_isA1 a2, ⟨by omega, by rw [a3]; omega⟩, by unfold qR; omega, ?_⟩⟩, fun y => absurd (Int.le_refl 0) y⟩
  have hv34 : ¬ v34 = 0 ↔ spN D p := by
    rw [h34]
    unfold spN
    by_cases h0 : p ≤ 0
    · rw [if_pos h0]
      by_cases f : sp D (p.toNat + 1) = 0
      · rw [if_pos f]
        refine ⟨fun y => absurd rfl y, fun y => ?_⟩
        rcases y with y | y
        · omega
        · omega
      · rw [if_neg f]
        exact ⟨fun _ => Or.inr (by omega), fun _ => by decide⟩
    · rw [if_neg h0, hm1 (by omega)]
      by_cases k : sp D (p.toNat - 1) = 0
      · rw [if_neg (fun y => y k)]
        by_cases f : sp D (p.toNat + 1) = 0
        · rw [if_pos f]
          refine ⟨fun y => absurd rfl y, fun y => ?_⟩
          rcases y with y | y
          · omega
          · omega
        · rw [if_neg f]
          exact ⟨fun _ => Or.inr (by omega), fun _ => by decide⟩
      · rw [if_pos k]
        exact ⟨fun _ => Or.inl ⟨by omega, by omega⟩, fun _ => by decide⟩
  have hflip : ¬ spN D p → ∀ v45 : Int, v45 = (if ¬ sp D p.toNat = 0 then 0 else 1) → gK σ18 (A 47 0) = 21 ∧ ∀ σ52 : qS, σ52 = sA σ18 (A 47 0) p v45 → q_isA σ52 1 (gP σ52 327 (A 30 0)) ∧ q_in σ52 (gP σ52 327 (A 30 0)) p ∧ ((gA σ52 (gP σ52 327 (A 30 0)) p) = 0 ∨ (gA σ52 (gP σ52 327 (A 30 0)) p) = 1) ∧ qTi0 (qMP A (cif (spN D p) D (dSp D p.toNat (1 - sp D p.toNat))) σ c2 (cif (spN D p) (.inr 0) (.inl (1 - sp D p.toNat)))) σ52 (.inl (some (vi (gA σ52 (gP σ52 327 (A 30 0)) p)))) := by
    intro hns v45 h45
    have hv : v45 = 1 - sp D p.toNat := by
      rw [h45]
      rcases e0 with y | y
      · rw [if_neg (fun z => z y)]; omega
      · rw [if_pos (by omega)]; omega
    refine ⟨a2, fun σ52 h52 => ?_⟩
    have hr := MR_sp (p := p.toNat) (v := v45) (σ' := σ52) hA hw m1 (by rw [h52, Int.toNat_of_nonneg hin.1])
    obtain ⟨b1, b2, b3⟩ := m327 hr.1.1
    have hval : gA σ52 (A 47 0) p = v45 := by rw [h52, gA_at hA, if_pos ⟨rfl, rfl⟩]
    rw [b1, hval, cif_neg hns, cif_neg hns]
    refine ⟨q_isA1 b2, ⟨by omega, by rw [b3]; omega⟩, by omega, _, rfl, by rw [← hv]; exact hr, ?_, hv, ?_⟩
    · exact qMc_tr (qMc_mono m2 (fun _ _ => trivial) (fun _ _ z => z.elim)) (by rw [h52]; exact qMc_A (show 40 ≤ 47 by decide))
    · rw [h52]; exact m3
  refine ⟨fun hne => hflip (fun y => ?_), fun hz0 => ⟨fun hv0 => hflip (fun y => hv34.mpr y hv0), fun hvn σ73 h73 => ?_⟩⟩
  · have hS := hw.2.2.2.2.2.2.2.2 p.toNat (by omega)
    rcases y with ⟨y1, y2⟩ | y
    · have hS2 := (hw.2.2.2.2.2.2.2.2 (p.toNat - 1) (by omega)).2 y2
      rw [show p.toNat - 1 + 1 = p.toNat by omega] at hS2
      exact hne hS2.2
    · have := (hS.2 (by omega)).2
      omega
  · have hsn := hv34.mp hvn
    rw [cif_pos hsn, cif_pos hsn]
    refine ⟨_, rfl, qMP_q hA h (qMc_tr m2 (by rw [h73]; exact qMc_I rfl)) ?_⟩
    show gI σ73 320 (A 30 0) = c2 0
    rw [h73, gI_eq]; rfl
/-- only the reader changes -/
def mRdI : Nat → Prop := fun f => f = 320 ∨ f = 354 ∨ f = 355
def mRdA : Nat → Int → Prop := fun t _ => t = 76
theorem MR_rd (hA : qInj A) (hw : WF0 D) {ks : List Nat} {v : Int} (h : MR A D σ) (hc : qMc A mRdI mRdA σ σ') (hr : gI σ' 354 (A 30 0) = v ∧ gI σ' 355 (A 30 0) = ks.length ∧ ∀ i : Nat, i < ks.length → gA σ' (A 76 0) i = ks.getD i 0) : MR A (dRd D ks v) σ' := by
  obtain ⟨h1, h2, h3, h4, h5, h6⟩ := h
  have b1 := MB_c hA hc (fun t i t1 t2 z => by unfold mRdA at z; omega) h1
  have b2 := MSc_c hc (fun f f1 f2 z => by unfold mRdI at z; omega) h2
  have b4 := MZ_c hA hc (fun i _ z => by unfold mRdA at z; omega) h4
  exact ⟨b1, b2, hr, b4, fun p hp' => ML_c hA hc (fun t i t1 t2 z => by unfold mRdA at z; omega) (ML_ly (WF0_Pg hw (p := p) hp') (h5 p hp') LyEq_rd (fun q hq => ⟨(hom hw (p := p) hp' q hq).1, (hom hw (p := p) hp' q hq).1, fun b hb => ⟨(hom hw (p := p) hp' q hq).2 b hb, (hom hw (p := p) hp' q hq).2 b hb⟩⟩)), fun q hq hg i i0 i1 => by rw [qMc_at hA hc (by unfold mRdA; decide)]; exact h6 q hq hg i i0 i1⟩
theorem spec_mgoesTo (hl : l.stackTraces = false) (hA : qInj A) (h : MR A D σ) (hw : WF0 D) {q : Nat} (hk : (kp D).length < 512) : qMet g l M_X8_goesTo [vr (A 30 0), vi (q : Int)] σ (qTv0 (fun σ' => MR A (dGo D q) σ' ∧ qMc A mRdI mRdA σ σ' ∧ gI σ' 320 (A 30 0) = gI σ 320 (A 30 0))) := by
  have hn := hw.1.2.1
  obtain ⟨r1, r2, r3⟩ := h.2.2.1
  have hheal := hw.2.2.2.2.2.2.1
  obtain ⟨a1, a2, a3⟩ := m356 h.1.1
  refine wm_X8_goesTo hl ⟨h.1.1.1, ?_⟩
  rw [r1, r2, a1]
  have hq354 : qR (he D) := by
    rcases hheal with z | z
    · rw [z]; unfold qR; omega
    · have := z.2.1; unfold qR; omega
  refine ⟨hq354, fun he0 σ4 h4 => ⟨rfl, ?_, ?_, ?_⟩, fun he0 => ⟨by unfold qR; omega, fun z => by omega, fun _ => ⟨a2, ⟨by omega, by rw [a3]; omega⟩, fun σ12 h12 σ14 h14 σ16 h16 => ⟨rfl, ?_, ?_, ?_⟩⟩⟩⟩
  · have e2 : dGo D q = dRd D (kp D) q := by unfold dGo; rw [if_pos he0]
    rw [e2]
    refine MR_rd hA hw h (by rw [h4]; exact qMc_I (Or.inr (Or.inl rfl))) ⟨by rw [h4, gI_eq], by rw [h4, gI_ne (fun z => absurd z.1 (by decide))]; exact r2, by rw [h4]; exact r3⟩
  · rw [h4]; exact qMc_I (Or.inr (Or.inl rfl))
  · rw [h4, gI_ne (fun z => absurd z.1 (by decide))]
  · have e2 : dGo D q = dRd D (kp D ++ [(he D).toNat]) q := by unfold dGo; rw [if_neg he0]
    have h0 : 0 ≤ he D := by
      rcases hheal with z | z
      · exact absurd z he0
      · exact z.1
    rw [e2]
    refine MR_rd hA hw h ?_ ⟨by rw [h16, gI_eq], ?_, fun i hi => ?_⟩
    · rw [h16, h14, h12]
      exact qMc_tr (σ1 := sA σ (A 76 0) (kp D).length (he D)) (qMc_A rfl) (qMc_tr (σ1 := sI (sA σ (A 76 0) (kp D).length (he D)) 355 (A 30 0) (gI (sA σ (A 76 0) (kp D).length (he D)) 355 (A 30 0) + 1)) (qMc_I (Or.inr (Or.inr rfl))) (qMc_I (Or.inr (Or.inl rfl))))
    · rw [h16, gI_ne (fun z => absurd z.1 (by decide)), h14, gI_eq, h12]
      show gI σ 355 (A 30 0) + 1 = _
      rw [r2, List.length_append, List.length_singleton]; omega
    · rw [List.length_append, List.length_singleton] at hi
      rw [h16, h14, h12]
      show gA (sA σ (A 76 0) (kp D).length (he D)) (A 76 0) i = _
      rw [gA_at hA]
      by_cases e : i = (kp D).length
      · rw [if_pos ⟨rfl, by omega⟩, e, getD_app_r]; omega
      · rw [if_neg (fun z => e (by omega)), getD_app_l (by omega)]
        exact r3 i (by omega)
  · rw [h16, h14, h12]
    exact qMc_tr (σ1 := sA σ (A 76 0) (kp D).length (he D)) (qMc_A rfl) (qMc_tr (σ1 := sI (sA σ (A 76 0) (kp D).length (he D)) 355 (A 30 0) (gI (sA σ (A 76 0) (kp D).length (he D)) 355 (A 30 0) + 1)) (qMc_I (Or.inr (Or.inr rfl))) (qMc_I (Or.inr (Or.inl rfl))))
  · rw [h16, gI_ne (fun z => absurd z.1 (by decide)), h14, gI_ne (fun z => absurd z.1 (by decide)), h12]; rfl
theorem spec_mopen (hl : l.stackTraces = false) (hA : qInj A) (h : MR A D σ) (hw : WF0 D) : qMet g l M_X8_open [vr (A 30 0)] σ (qTi0 (qMP A (d_open D) σ c (.inl (nxt D (-1))))) := by
  have hn := hw.1
  have hx : ∀ v, NX D (-1) v → nxt D (-1) = v := fun v hv => tho_eq (by unfold rkv; rw [if_pos rfl]; exact hv) (fun v' hv' => NX_u hw hv (by unfold rkv at hv'; rw [if_pos rfl] at hv'; exact hv'))
  refine wm_X8_open hl ⟨h.1.1.1, fun σ2 h2 σ4 h4 σ6 h6 => ⟨fun n x8 s => ∃ k : Nat, x8 = k ∧ k ≤ nq D ∧ n = nq D - k ∧ qMc A mRdI noA σ s ∧ gI s 320 (A 30 0) = 0 ∧ gI s 355 (A 30 0) = 0 ∧ ((gI s 354 (A 30 0) = -1 ∧ ∀ w, w < k → gq D w ≠ 0) ∨ (0 ≤ gI s 354 (A 30 0) ∧ alP D (gI s 354 (A 30 0)).toNat ∧ ∀ w, w < k → gq D w = 0 → rk D (gI s 354 (A 30 0)).toNat ≤ rk D w)), ⟨_, 0, rfl, Nat.zero_le _, rfl, ?_, ?_, ?_, Or.inl ⟨?_, fun w z => absurd z (Nat.not_lt_zero _)⟩⟩, ?_⟩⟩
  · rw [h6, h4, h2]
    exact qMc_tr (σ1 := sI σ 320 (A 30 0) 0) (qMc_I (Or.inl rfl)) (qMc_tr (σ1 := sI (sI σ 320 (A 30 0) 0) 355 (A 30 0) 0) (qMc_I (Or.inr (Or.inr rfl))) (qMc_I (Or.inr (Or.inl rfl))))
  · rw [h6, gI_ne (fun z => absurd z.1 (by decide)), h4, gI_ne (fun z => absurd z.1 (by decide)), h2, gI_eq]
  · rw [h6, gI_ne (fun z => absurd z.1 (by decide)), h4, gI_eq]
  · rw [h6, gI_eq]
  rintro n x8 s ⟨k, rfl, hk, rfl, hc, h320, h355, hor⟩
  have hB : MB A D s := MB_c hA hc (fun _ _ _ _ z => z) h.1
  have h322 : gI s 322 (A 30 0) = nq D := by rw [qMc_f hc (by unfold mRdI; decide)]; exact h.2.1.2.1
  obtain ⟨a1, a2, a3⟩ := m329 hB.1
  have hr354 : qR (gI s 354 (A 30 0)) := by
    rcases hor with ⟨z, -⟩ | ⟨z, z2, -⟩
    · rw [z]; unfold qR; omega
    · have := z2.1; unfold qR; omega
  rw [h322, a1]
  have hnext : ∀ (v : Int) (s' : qS), s' = sI s 354 (A 30 0) v → ((v = -1 ∧ ∀ w, w < k + 1 → gq D w ≠ 0) ∨ (0 ≤ v ∧ alP D v.toNat ∧ ∀ w, w < k + 1 → gq D w = 0 → rk D v.toNat ≤ rk D w)) → k < nq D → ∀ x26 : Int, x26 = (k : Int) + 1 → ∃ n28 : Nat, n28 < nq D - k ∧ ∃ k' : Nat, x26 = k' ∧ k' ≤ nq D ∧ n28 = nq D - k' ∧ qMc A mRdI noA σ s' ∧ gI s' 320 (A 30 0) = 0 ∧ gI s' 355 (A 30 0) = 0 ∧ ((gI s' 354 (A 30 0) = -1 ∧ ∀ w, w < k' → gq D w ≠ 0) ∨ (0 ≤ gI s' 354 (A 30 0) ∧ alP D (gI s' 354 (A 30 0)).toNat ∧ ∀ w, w < k' → gq D w = 0 → rk D (gI s' 354 (A 30 0)).toNat ≤ rk D w)) := by
    intro v s' hs' hv hkn x26 h26
    refine ⟨_, ?_, k + 1, by omega, by omega, rfl, qMc_tr hc (by rw [hs']; exact qMc_I (Or.inr (Or.inl rfl))), ?_, ?_, ?_⟩
    · omega
    · rw [hs', gI_ne (fun z => absurd z.1 (by decide))]; exact h320
    · rw [hs', gI_ne (fun z => absurd z.1 (by decide))]; exact h355
    · rw [hs', gI_eq]; exact hv
  refine ⟨hB.1.1, by unfold qR; omega, by unfold qR; omega, fun hd => ⟨_, rfl, ?_, ?_, ?_, h320⟩, fun hd => ?_⟩
  · have hke : k = nq D := by omega
    subst hke
    have hnx : nxt D (-1) = gI s 354 (A 30 0) := by
      rw [hx _ ?_]
      rcases hor with ⟨z, z2⟩ | ⟨z, z2, z3⟩
      · exact Or.inl ⟨z, fun w hw' => absurd hw'.2 (z2 w hw'.1)⟩
      · exact Or.inr ⟨z, z2, by have := rk_b hw z2; omega, fun w hw' _ => z3 w hw'.1 hw'.2⟩
    exact MR_rd hA hw h (qMc_mono hc (fun _ z => z) (fun _ _ z => z.elim)) ⟨hnx.symm, h355, fun i hi => absurd hi (Nat.not_lt_zero _)⟩
  · exact qMc_mono hc (fun _ _ => trivial) (fun _ _ z => z.elim)
  · have hke : k = nq D := by omega
    subst hke
    rw [hx _ ?_]
    rcases hor with ⟨z, z2⟩ | ⟨z, z2, z3⟩
    · exact Or.inl ⟨z, fun w hw' => absurd hw'.2 (z2 w hw'.1)⟩
    · exact Or.inr ⟨z, z2, by have := rk_b hw z2; omega, fun w hw' _ => z3 w hw'.1 hw'.2⟩
  have hkn : k < nq D := by omega
  rw [show gA s (A 49 0) (k : Int) = pgv D k from (hB.2.1.2.2.1 k hkn).1]
  refine ⟨q_isA0 a2, ⟨by omega, by rw [a3]; omega⟩, pgv_Q hw hkn, fun hg σ24 h24 => hnext _ σ24 h24 ?_ hkn, fun hg => ⟨hr354, fun hm1 σ31 h31 => hnext _ σ31 h31 (Or.inr ⟨by omega, ?_, ?_⟩) hkn, fun hm1 => ?_⟩⟩
  · rcases hor with ⟨z, z2⟩ | ⟨z, z2, z3⟩
    · refine Or.inl ⟨z, fun w hw' => ?_⟩
      by_cases e : w = k
      · rw [e]; exact pgv_ne.mp hg
      · exact z2 w (by omega)
    · refine Or.inr ⟨z, z2, fun w hw' hgw => ?_⟩
      by_cases e : w = k
      · rw [e] at hgw; exact absurd hgw (pgv_ne.mp hg)
      · exact z3 w (by omega) hgw
  · have hg0 : gq D k = 0 := by
      by_cases e : gq D k = 0
      · exact e
      · exact absurd (pgv_ne.mpr e) hg
    rw [Int.toNat_natCast]; exact ⟨hkn, hg0⟩
  · intro w hw' hgw
    rw [Int.toNat_natCast]
    by_cases e : w = k
    · rw [e]; exact Int.le_refl _
    · rcases hor with ⟨z, z2⟩ | ⟨z, -⟩
      · exact absurd hgw (z2 w (by omega))
      · omega
  · have hg0 : gq D k = 0 := by
      by_cases e : gq D k = 0
      · exact e
      · exact absurd (pgv_ne.mpr e) hg
    rcases hor with ⟨z, -⟩ | ⟨z, z2, z3⟩
    · exact absurd z hm1
    have hr1 := spec_mrank (g := g) hl hB hw z2
    rw [Int.toNat_of_nonneg z] at hr1
    have hb1 := rk_b hw z2
    have hb2 := rk_b hw (show alP D k from ⟨hkn, hg0⟩)
    refine ⟨_, spec_mrank hl hB hw ⟨hkn, hg0⟩, _, hr1, ⟨by unfold qR; omega, by unfold qR; omega⟩, fun v43 h43 σ47 h47 => hnext _ σ47 h47 ?_ hkn⟩
    rw [h43]
    by_cases e : rk D (gI s 354 (A 30 0)).toNat ≤ rk D k
    · rw [if_pos e]
      refine Or.inr ⟨z, z2, fun w hw' hgw => ?_⟩
      by_cases f : w = k
      · rw [f]; exact e
      · exact z3 w (by omega) hgw
    · rw [if_neg e]
      refine Or.inr ⟨by omega, by rw [Int.toNat_natCast]; exact ⟨hkn, hg0⟩, fun w hw' hgw => ?_⟩
      rw [Int.toNat_natCast]
      by_cases f : w = k
      · rw [f]; exact Int.le_refl _
      · have := z3 w (by omega) hgw; omega
theorem qMP_of {D' : qD} {o : Int ⊕ Nat} {v : Int} {SI : Nat → Prop} {SA : Nat → Int → Prop} (h : MR A D' σ') (hc : qMc A SI SA σ σ') (h1 : ∀ t i, SA t i → 40 ≤ t) (ho : mOut A σ' c o v) : qMP A D' σ c o σ' v := ⟨h, qMc_mono hc (fun _ _ => trivial) h1, ho⟩
theorem spec_mforth (hl : l.stackTraces = false) (hA : qInj A) (h : MR A D σ) (hw : WF0 D) (hk : (kp D).length < 512) : qMet g l M_X8_forth [vr (A 30 0)] σ (qTi0 (qMP A (d_forth D) σ c (.inl (o_forth D)))) := by
  have hheal := hw.2.2.2.2.2.2.1
  have hn := hw.1
  unfold o_forth d_forth
  refine wm_X8_forth hl ⟨h.1.1.1, fun σ2 h2 => ?_⟩
  obtain ⟨m1, m2, m3⟩ := MR_t hA h h2
  rw [m1.2.2.1.1]
  refine ⟨?_, fun hne => ?_, fun he0 => ?_⟩
  · rcases hheal with z | z
    · rw [z]; unfold qR; omega
    · have := z.2.1; unfold qR; omega
  · have hal : 0 ≤ he D ∧ alP D (he D).toNat := by
      rcases hheal with z | z
      · exact absurd z hne
      · exact z
    have hnb := spec_nbr1 (g := g) hl m1.1 hw m1.2.1.2.1 hal.2
    rw [Int.toNat_of_nonneg hal.1] at hnb
    have hnx := nxt_al (D := D) (he D)
    rw [if_neg hne]
    refine ⟨_, hnb, ?_, fun hz => ⟨_, rfl, ?_⟩, fun hz => ?_⟩
    · rcases hnx with z | z
      · rw [z]; unfold qR; omega
      · have := z.2.1; unfold qR; omega
    · rw [if_pos (Or.inr hz)]
      exact qMP_q hA h m2 ⟨rfl, m3⟩
    · have hnx2 : 0 ≤ nxt D (he D) := by
        rcases hnx with z | z
        · exact absurd z hz
        · exact z.1
      rw [if_neg (fun z => z.elim hne hz)]
      have hgo := spec_mgoesTo (g := g) (q := (nxt D (he D)).toNat) hl hA m1 hw hk
      rw [Int.toNat_of_nonneg hnx2] at hgo
      refine ⟨_, hgo, fun σ15 h15 => ⟨_, rfl, h15.1, ?_, rfl, by rw [h15.2.2]; exact m3⟩⟩
      exact qMc_tr (qMc_mono m2 (fun _ _ => trivial) (fun _ _ z => z.elim)) (qMc_mono h15.2.1 (fun _ _ => trivial) (fun t i z => by have : t = 76 := z; show 40 ≤ t; omega))
  · rw [if_pos he0, if_pos (Or.inl he0)]
    exact ⟨_, rfl, qMP_q hA h m2 ⟨rfl, m3⟩⟩
theorem spec_mjump (hl : l.stackTraces = false) (hA : qInj A) (h : MR A D σ) (hw : WF0 D) (hk : (kp D).length < 512) {q : Int} (hq : qR q) : qMet g l M_X8_jump [vr (A 30 0), vi q] σ (qTi0 (qMP A (d_jump D q) σ c2 (o_jump D q))) := by
  unfold o_jump d_jump
  have hrf : qMc A m320 noA σ σ := qMc_rf
  refine wm_X8_jump hl ⟨h.1.1.1, _, spec_isPanel hl h.1 h.2.1 hw hq, cifQ, fun hz σ6 h6 => ?_, fun hz => ⟨_, fails_q hl hA (c := c2) (n := 2) h hrf rfl, fun σ3 v3 h3 => ⟨v3, rfl, ?_⟩⟩⟩
  · have hok := cif1 hz
    obtain ⟨m1, m2, m3⟩ := MR_t hA h h6
    rw [cif_pos hok, cif_pos hok]
    have hgo := spec_mgoesTo (g := g) (q := q.toNat) hl hA m1 hw hk
    rw [Int.toNat_of_nonneg hok.1] at hgo
    refine ⟨_, hgo, fun σ13 h13 => ⟨h13.1.1.1.1, _, rfl, h13.1, ?_, h13.1.2.2.1.2.1, by rw [h13.2.2]; exact m3⟩⟩
    exact qMc_tr (qMc_mono m2 (fun _ _ => trivial) (fun _ _ z => z.elim)) (qMc_mono h13.2.1 (fun _ _ => trivial) (fun t i z => by have : t = 76 := z; show 40 ≤ t; omega))
  · rw [cif_neg (cif0 hz), cif_neg (cif0 hz)]; exact h3
theorem spec_mback (hl : l.stackTraces = false) (hA : qInj A) (h : MR A D σ) (hw : WF0 D) (hk : (kp D).length ≤ 512) : qMet g l M_X8_back [vr (A 30 0)] σ (qTi0 (qMP A (d_back D) σ c (.inl (o_back D)))) := by
  unfold o_back d_back
  refine wm_X8_back hl ⟨h.1.1.1, fun σ2 h2 => ?_⟩
  obtain ⟨m1, m2, m3⟩ := MR_t hA h h2
  rw [m1.2.2.1.2.1]
  refine ⟨by unfold qR; omega, fun hne σ6 h6 => ?_, fun he0 => ?_⟩
  · have hl0 : (kp D).length ≠ 0 := by omega
    have hc6 : qMc A mRdI noA σ2 σ6 := by rw [h6]; exact qMc_I (Or.inr (Or.inr rfl))
    obtain ⟨a1, a2, a3⟩ := m356 (MS_c hc6 m1.1.1)
    have hval : gA σ6 (A 76 0) (((kp D).length : Int) - 1) = lastK D := by
      have := m1.2.2.1.2.2 ((kp D).length - 1) (by omega)
      rw [show (((kp D).length - 1 : Nat) : Int) = ((kp D).length : Int) - 1 by omega] at this
      rw [h6]; exact this
    rw [a1, hval, if_neg hl0, if_neg hl0]
    have hlen : ((kp D).take ((kp D).length - 1)).length = (kp D).length - 1 := by rw [List.length_take]; omega
    refine ⟨q_isA0 a2, ⟨by omega, by rw [a3]; omega⟩, fun σ10 h10 => ⟨_, rfl, ?_, ?_, rfl, ?_⟩⟩
    · refine MR_rd hA hw m1 ?_ ⟨by rw [h10, gI_eq], ?_, fun i hi => ?_⟩
      · exact qMc_tr (qMc_mono hc6 (fun _ z => z) (fun _ _ z => z.elim)) (by rw [h10]; exact qMc_I (Or.inr (Or.inl rfl)))
      · rw [h10, gI_ne (fun z => absurd z.1 (by decide)), h6, gI_eq, hlen]; omega
      · rw [hlen] at hi
        rw [h10, h6]
        show gA σ2 (A 76 0) i = _
        rw [m1.2.2.1.2.2 i (by omega), List.getD_eq_getElem?_getD, List.getD_eq_getElem?_getD, List.getElem?_take, if_pos hi]
    · refine qMc_tr (qMc_mono m2 (fun _ _ => trivial) (fun _ _ z => z.elim)) (qMc_tr (qMc_mono hc6 (fun _ _ => trivial) (fun _ _ z => z.elim)) (by rw [h10]; exact qMc_I trivial))
    · rw [h10, gI_ne (fun z => absurd z.1 (by decide)), h6, gI_ne (fun z => absurd z.1 (by decide))]; exact m3
  · have hl0 : (kp D).length = 0 := by omega
    rw [if_pos hl0, if_pos hl0]
    exact ⟨_, rfl, qMP_q hA h m2 ⟨rfl, m3⟩⟩
theorem spec_mpage (hl : l.stackTraces = false) (hA : qInj A) (h : MR A D σ) (hw : WF0 D) : qMet g l M_X8_page [vr (A 30 0)] σ (qTi0 (qMP A (d_page D) σ c0 (o_page D))) := by
  have hn := hw.1.1
  unfold o_page d_page
  refine wm_X8_page hl ⟨h.1.1.1, by rw [h.2.1.1]; unfold qR; omega, fun v4 h4 σ10 h10 => ?_⟩
  obtain ⟨m1, m2, m3⟩ := MR_t hA h h10
  rw [h.2.1.1] at h4
  rw [m1.2.1.1]
  by_cases e : np D < 10
  · rw [if_pos (by omega)] at h4
    subst h4
    rw [cif_pos e, cif_pos e]
    refine ⟨fun _ σ13 h13 => ⟨_, rfl, ?_, ?_, ?_, ?_⟩, fun y => absurd (Int.le_refl 0) y⟩
    · have hc : qMc A (fun f => f = 321) noA σ10 σ13 := by rw [h13]; exact qMc_I rfl
      obtain ⟨p1, p2, p3, p4, p5, p6⟩ := m1
      have z0 := hw.2.2.1 (np D) (Nat.le_refl _)
      refine ⟨MB_c hA hc (fun _ _ _ _ z => z) p1, ⟨?_, ?_, ?_⟩, MRd_c hA hc ⟨by decide, by decide⟩ (fun _ z => z) p3, fun p hp' hp2 => ?_, fun p hp' => ?_, fun q hq hg i i0 i1 => by rw [qMc_at hA hc (fun z => z)]; exact p6 q hq hg i i0 i1⟩
      · rw [h13, gI_eq, np_Pg]; omega
      · rw [qMc_f hc (by decide)]; exact p2.2.1
      · rw [qMc_f hc (by decide)]; exact p2.2.2
      · rw [np_Pg] at hp'
        rw [qMc_at hA hc (fun z => z)]; exact p4 p (by omega) hp2
      · rw [np_Pg] at hp'
        by_cases f : p = np D
        · subst f
          refine ⟨?_, fun q hq => ?_⟩
          · rw [qMc_at hA hc (fun z => z), p4 _ (Nat.le_refl _) e]
            have e' : pn (dPg D) (np D) = 0 := by
              show (row D (np D)).length = 0
              rw [z0.2.2]; rfl
            unfold rowsOf
            rw [e']
            rfl
          · have : q ∈ row D (np D) := hq
            rw [z0.2.2] at this
            exact absurd this List.not_mem_nil
        · have hp3 : p < np D := by omega
          have hh := hom hw hp3
          exact ML_c hA hc (fun _ _ _ _ z => z) (ML_ly (WF0_Pg hw hp3) (p5 p hp3) LyEq_Pg (fun q hq => ⟨(hh q hq).1, (hh q hq).1, fun b hb => ⟨(hh q hq).2 b hb, (hh q hq).2 b hb⟩⟩))
    · exact qMc_tr (qMc_mono m2 (fun _ _ => trivial) (fun _ _ z => z.elim)) (by rw [h13]; exact qMc_I trivial)
    · show ((np D : Int) + 1 - 1) = np D
      omega
    · rw [h13, gI_ne (fun z => absurd z.1 (by decide))]; exact m3
  · rw [if_neg (by omega)] at h4
    subst h4
    rw [cif_neg e, cif_neg e]
    exact ⟨fun y => absurd y (by decide), fun _ => ⟨_, rfl, qMP_q hA h m2 m3⟩⟩
end
