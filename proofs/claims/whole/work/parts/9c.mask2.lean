/-! the model: cells, depth, spreads, leaves -/
section
variable {g : qG} {l : Launch} {A : Nat → Nat → Nat} {D : qD} {σ σ' : qS} {c : Nat → Int}
theorem spec_mcell (hl : l.stackTraces = false) (hA : qInj A) (h : MR A D σ) (hw : WF D) {q x y : Int} (hq : qR q) (hx : qR x) (hy : qR y) : qMet g l M_X8_cell [vr (A 30 0), vi q, vi x, vi y] σ (qTi0 (qMP A D σ c2 (o_cell D q x y))) := by
  have hn := hw.1.1.2.1
  unfold o_cell
  have hbad : ∀ σ6 : qS, σ6 = sI σ 320 (A 30 0) 1 → ¬ (pnOk D q ∧ (0 ≤ x ∧ x ≤ (LB D q.toNat).2.2.1 - 1) ∧ 0 ≤ y ∧ y ≤ (LB D q.toNat).2.2.2 - 1) → qTi0 (qMP A D σ c2 (cif (pnOk D q ∧ (0 ≤ x ∧ x ≤ (LB D q.toNat).2.2.1 - 1) ∧ 0 ≤ y ∧ y ≤ (LB D q.toNat).2.2.2 - 1) (.inl (celV D q.toNat x y)) (.inr 2))) σ6 (.inl (some (vi 0))) := by
    intro σ6 h6 hno
    obtain ⟨m1, m2, m3⟩ := MR_t hA h h6
    rw [cif_neg hno]
    exact ⟨_, rfl, qMP_q hA h m2 m3⟩
  obtain ⟨a1, a2, a3⟩ := m340 h.1.1
  refine wm_X8_cell hl ⟨h.1.1.1, _, spec_isPanel hl h.1 h.2.1 hw.1 hq, cifQ, fun hz σ6 h6 => hbad σ6 h6 (fun z => cif0 hz z.1), fun hz => ?_⟩
  have hok := cif1 hz
  have hok1 := hok.1
  have hok2 := hok.2.1
  obtain ⟨hfit, hW, hH⟩ := LB_fit hw hok.2
  obtain ⟨k1, ⟨k2, k3, k4, k5⟩, kf⟩ := ML_al h hw.1 hok.2
  rw [Int.toNat_of_nonneg hok.1] at k4 k5
  rw [show 5 * q + 1 + 2 = 5 * q + 3 by omega] at k4
  rw [show 5 * q + 1 + 3 = 5 * q + 4 by omega] at k5
  rw [a1, k4, k5]
  refine ⟨q_isA0 a2, ⟨by omega, by rw [a3]; omega⟩, _, spec_in hl hx (by unfold qR; omega) (by unfold qR; omega), by split <;> (unfold qR; omega), fun hz2 σ6 h6 => hbad σ6 h6 (fun z => by rw [if_pos z.2.1] at hz2; exact absurd hz2 (by decide)), fun hz2 => ⟨⟨by omega, by rw [a3]; omega⟩, _, spec_in hl hy (by unfold qR; omega) (by unfold qR; omega), by split <;> (unfold qR; omega), fun v21 h21 σ27 h27 => ?_⟩⟩
  have hx1 : 0 ≤ x ∧ x ≤ (LB D q.toNat).2.2.1 - 1 := by
    by_cases e : 0 ≤ x ∧ x ≤ (LB D q.toNat).2.2.1 - 1
    · exact e
    · rw [if_neg e] at hz2; exact absurd rfl hz2
  by_cases e : 0 ≤ y ∧ y ≤ (LB D q.toNat).2.2.2 - 1
  · rw [if_pos e, if_neg (by decide)] at h21
    subst h21
    obtain ⟨m1, m2, m3⟩ := MR_t hA h h27
    obtain ⟨b1, b2, b3⟩ := m340 m1.1.1
    refine ⟨fun _ => ?_, fun z => absurd (Int.le_refl 0) z⟩
    have g60 : ∀ i, gA σ27 (A 60 0) i = gA σ (A 60 0) i := fun i => qMc_at hA m2 (fun z => z)
    rw [b1, g60, g60, k4, k5]
    refine ⟨q_isA0 b2, ⟨by omega, by rw [b3]; omega⟩, ⟨by omega, by rw [b3]; omega⟩, _, by
      have := spec_mplaces (g := g) hl hA m1.1 hw.1 hok.2 (W := (LB D q.toNat).2.2.1) (H := (LB D q.toNat).2.2.2) (by omega) (by omega)
      rw [Int.toNat_of_nonneg hok.1] at this
      exact this, fun σ38 v40 h38 => ?_⟩
    obtain ⟨hc38, hres⟩ := h38
    rcases hres with ⟨-, -, hfl, hcel⟩ | ⟨-, hnf⟩
    rotate_left
    · exact absurd hfit hnf
    have hB38 : MB A D σ38 := MB_c hA hc38 (fun t i t1 t2 z => by rcases z with z | z <;> omega) m1.1
    obtain ⟨d1, d2, d3⟩ := m340 hB38.1
    obtain ⟨e1, e2, e3⟩ := m342 hB38.1
    have h60' : ∀ i, gA σ38 (A 60 0) i = gA σ27 (A 60 0) i := fun i => qMc_at hA hc38 (by rintro (z | z) <;> omega)
    rw [d1, e1, h60', g60, k4]
    have hb := ci_b (W := (LB D q.toNat).2.2.1) (H := (LB D q.toNat).2.2.2) (x := x) (y := y) (by omega) (by omega) (by omega) (by omega)
    refine ⟨hB38.1.1, q_isA0 d2, ⟨by omega, by rw [d3]; omega⟩, q_isA0 e2, ⟨hb.1, by rw [e3]; omega⟩, _, rfl, ?_⟩
    rw [cif_pos ⟨hok, hx1, e⟩]
    have hbx : ∀ j, j < (hs D q.toNat).length → box D (hp D q.toNat) q.toNat (LB D q.toNat).2.2.1 (LB D q.toNat).2.2.2 j = FBq D q.toNat j := fun j _ => rfl
    have hcl : ∀ v, CL D q.toNat x y v → celV D q.toNat x y = v := fun v hv => tho_eq hv (fun v' => CL_u hw hok.2 hv)
    obtain ⟨f1, f2⟩ := hcel x y (by omega) (by omega) (by omega) (by omega)
    refine ⟨?_, ?_, ?_, ?_⟩
    · obtain ⟨p1, p2, p3, p4, p5, p6⟩ := m1
      refine ⟨hB38, MSc_c hc38 (fun _ _ _ z => z) p2, MRd_c hA hc38 ⟨fun z => z, fun z => z⟩ (fun i z => by rcases z with z | z <;> omega) p3, MZ_c hA hc38 (fun i _ z => by rcases z with z | z <;> omega) p4, fun p hp' => ?_, fun q' hq' hg i i0 i1 => by rw [h60']; exact p6 q' hq' hg i i0 i1⟩
      obtain ⟨r1, r2⟩ := p5 p hp'
      refine ⟨by rw [qMc_at hA hc38 (fun z => by rcases z with z | z <;> omega)]; exact r1, fun q' hq' => ?_⟩
      obtain ⟨s1, s2, s3⟩ := r2 q' hq'
      refine ⟨by rw [h60']; exact s1, MBox_c hA hc38 (fun j _ _ z => by rcases z with z | z <;> omega) s2, fun b hb' => ?_⟩
      by_cases f : b ∈ hs D q.toNat
      · have hix := ix_lt f
        have h9 := hfl _ hix
        have hgb : bl D q.toNat ((hs D q.toNat).idxOf b) = b := ix_get f
        rw [hgb, hbx _ hix] at h9
        have h10 := FB_eq hw.1 hok.2 hix
        rw [hgb] at h10
        rw [h10]; exact h9
      · refine MBox_c hA hc38 (fun j j0 j1 z => ?_) (s3 b hb')
        rcases z with z | ⟨-, b', hb1, hb2⟩
        · omega
        · have : b = b' := by omega
          rw [this] at f
          exact f hb1
    · exact qMc_tr (qMc_mono m2 (fun _ _ => trivial) (fun _ _ z => z.elim)) (qMc_mono hc38 (fun _ z => z.elim) (fun t i z => by show 40 ≤ t; rcases z with z | z <;> omega))
    · show _ = celV D q.toNat x y
      by_cases d : ∃ j, j < (hs D q.toNat).length ∧ inB (FBq D q.toNat j) x y
      · obtain ⟨j, hj, hin⟩ := d
        rw [f1 j hj (by rw [hbx j hj]; exact hin), hcl _ (Or.inl ⟨j, hj, hin, rfl⟩)]
      · have hno : ∀ j, j < (hs D q.toNat).length → ¬ inB (FBq D q.toNat j) x y := fun j hj hin => d ⟨j, hj, hin⟩
        have f3 := f2 (fun j hj hin => hno j hj (by rw [← hbx j hj]; exact hin))
        rw [hcl _ (Or.inr ⟨hno, rfl⟩)]
        by_cases e' : covF (fc D q.toNat) (LB D q.toNat).2.2.2 x y
        · rw [f3.1 e', cif_pos e']
        · rw [f3.2 e', cif_neg e']
    · rw [qMc_f hc38 (fun z => z)]; exact m3
  · rw [if_neg e, if_pos rfl] at h21
    subst h21
    exact ⟨fun z => absurd z (by decide), fun _ => hbad σ27 h27 (fun z => e z.2.2)⟩
theorem ct_n (P : Nat → Prop) : ∀ m : Nat, 0 ≤ ct P m ∧ ct P m ≤ m
  | 0 => ⟨Int.le_refl _, Int.le_refl _⟩
  | m + 1 => by
    have ih := ct_n P m
    rw [ct_s]
    split <;> omega
theorem cnt_lt (hw : WF0 D) {b c' : Nat} (hb' : alB D b) (hlt : ky D b < ky D c') : cntB D (ky D b) < cntB D (ky D c') := by
  have h1 := cnt_step hw hb'
  have h2 := cnt_mono (D := D) (show ky D b + 1 ≤ ky D c' by omega)
  omega
theorem spec_mdepth (hl : l.stackTraces = false) (hA : qInj A) (h : MR A D σ) (hw : WF D) {b : Int} (hb' : qR b) : qMet g l M_X8_depth [vr (A 30 0), vi b] σ (qTi0 (qMP A D σ c2 (o_depth D b))) := by
  have hn := hw.1.1
  unfold o_depth
  have hrf : qMc A m320 noA σ σ := qMc_rf
  refine wm_X8_depth hl ⟨h.1.1.1, _, spec_isBalloon hl h.1 h.2.1 hw.1 hb', cifQ, fun hz σ6 h6 => ?_, fun hz => ⟨_, fails_q hl hA (c := c2) (n := 2) h hrf rfl, fun σ3 v3 h3 => ⟨v3, rfl, ?_⟩⟩⟩
  rotate_left
  · rw [cif_neg (cif0 hz)]; exact h3
  have hok := cif1 hz
  have hok1 := hok.1
  have hok2 := hok.2.1
  rw [cif_pos hok]
  obtain ⟨m1, m2, m3⟩ := MR_t hA h h6
  obtain ⟨a1, a2, a3⟩ := m339 m1.1.1
  have han : ∀ x : Int, 0 ≤ x → x < nb D → gA σ6 (A 59 0) x = an D x.toNat := fun x x0 x1 => by
    have := (m1.1.2.2.2.2 x.toNat (by omega)).2
    rwa [Int.toNat_of_nonneg x0] at this
  rw [a1, han b hok.1 (by omega)]
  have hnx : ∀ x : Nat, alB D x → an D x = -1 ∨ (0 ≤ an D x ∧ alB D (an D x).toNat ∧ cntB D (ky D (an D x).toNat) < cntB D (ky D x)) := by
    intro x hx
    by_cases e : an D x = -1
    · exact Or.inl e
    · have hS := hw.1.2.2.2.2.2.1 x hx.1
      have h2 := (an_Q hw.1 hx.1).2 e
      have hal : alB D (an D x).toNat := ⟨h2.2, hS.2.2.2.2.2 hx.2 e⟩
      exact Or.inr ⟨h2.1, hal, cnt_lt hw.1 hal (hw.2.2 x hx e)⟩
  have hcb := fun K => ct_n (fun b => gb D b = 0 ∧ ky D b < K) (nb D)
  have hcb0 := (hcb (ky D b.toNat)).2
  have hdef : ∀ K, cntB D K = ct (fun b => gb D b = 0 ∧ ky D b < K) (nb D) := fun K => rfl
  refine ⟨q_isA0 a2, ⟨by omega, by rw [a3]; omega⟩, fun x10 h10 => ?_⟩
  subst h10
  refine ⟨fun n x12 x13 => ∃ k : Nat, x12 = k ∧ k ≤ 80 ∧ (k : Int) + dpt D (80 - k) x13 = dpt D 80 (an D b.toNat) ∧ ((x13 = -1 ∧ n = 0) ∨ (0 ≤ x13 ∧ alB D x13.toNat ∧ (k : Int) + cntB D (ky D x13.toNat) < 80 ∧ n = (cntB D (ky D x13.toNat)).toNat + 1)), ?_, ?_⟩
  · rcases hnx _ hok.2 with e | ⟨e1, e2, e3⟩
    · exact ⟨_, 0, rfl, by omega, by simp, Or.inl ⟨e, rfl⟩⟩
    · rw [hdef (ky D b.toNat)] at e3
      exact ⟨_, 0, rfl, by omega, by simp, Or.inr ⟨e1, e2, by omega, rfl⟩⟩
  rintro n x12 x13 ⟨k, rfl, hk, hdp, hor⟩
  have hx13 : qR x13 := by
    rcases hor with ⟨z, -⟩ | ⟨z, z2, -⟩
    · rw [z]; unfold qR; omega
    · have := z2.1; unfold qR; omega
  refine ⟨hx13, fun he => ⟨_, rfl, qMP_q hA h m2 ⟨?_, m3⟩⟩, fun hne x22 h22 => ?_⟩
  · have : dpt D (80 - k) x13 = 0 := by
      cases 80 - k with
      | zero => rfl
      | succ m => show (if x13 = -1 then 0 else _) = (0 : Int); rw [if_pos he]
    rw [this] at hdp
    omega
  · rcases hor with ⟨z, -⟩ | ⟨z, z2, z3, rfl⟩
    · exact absurd z hne
    have hlt := z2.1
    rw [han x13 z (by omega)]
    refine ⟨⟨z, by rw [a3]; omega⟩, fun x25 h25 => ?_⟩
    subst h25
    have hc0 := (hcb (ky D x13.toNat)).1
    rw [← hdef] at hc0
    have e1 : dpt D (80 - k) x13 = 1 + dpt D (80 - (k + 1)) (an D x13.toNat) := by
      obtain ⟨m, hm⟩ : ∃ m, 80 - k = m + 1 := ⟨79 - k, by omega⟩
      rw [hm, show 80 - (k + 1) = m by omega]
      show (if x13 = -1 then 0 else _) = _
      rw [if_neg hne]
    rcases hnx _ z2 with e | ⟨f1, f2, f3⟩
    · exact ⟨0, by omega, k + 1, by omega, by omega, by omega, Or.inl ⟨e, rfl⟩⟩
    · have hc1 := (hcb (ky D (an D x13.toNat).toNat)).1
      rw [← hdef] at hc1
      exact ⟨_, by omega, k + 1, by omega, by omega, by omega, Or.inr ⟨f1, f2, by omega, rfl⟩⟩
theorem spec_isSize (hl : l.stackTraces = false) {z : Int} (hz : qR z) : qMet g l M_X8_isSize [vi z] σ (qPi σ (cif (szOk z) 1 0)) := by
  refine wm_X8_isSize hl ⟨hz, fun v hv => ⟨rfl, ?_⟩⟩
  rw [hv]
  by_cases h4 : z = 4
  · rw [if_pos h4, cif_pos (show szOk z from Or.inl h4)]
  by_cases h8 : z = 8
  · rw [if_neg h4, if_pos h8, cif_pos (show szOk z from Or.inr (Or.inl h8))]
  by_cases h12 : z = 12
  · rw [if_neg h4, if_neg h8, if_pos h12, cif_pos (show szOk z from Or.inr (Or.inr (Or.inl h12)))]
  by_cases h16 : z = 16
  · rw [if_neg h4, if_neg h8, if_neg h12, if_neg (fun y => y h16), cif_pos (show szOk z from Or.inr (Or.inr (Or.inr h16)))]
  · rw [if_neg h4, if_neg h8, if_neg h12, if_pos h16, cif_neg (fun y => by unfold szOk at y; omega)]
theorem q_isA1 {x : Nat} (h : gK σ x = 21) : q_isA σ 1 x := ⟨by decide, Or.inl h⟩
theorem spec_moved (hl : l.stackTraces = false) (h : MB A D σ) (hw : WF0 D) {p : Nat} {lf z : Int} (hp' : p < 10) (hz : szOk z) (hlf : 0 ≤ lf ∧ lf ≤ 1000) : qMet g l M_X8_moved [vr (A 30 0), vi (p : Int), vi lf, vi z] σ (qPi σ (mvd D z p lf)) := by
  obtain ⟨a1, a2, a3⟩ := m327 h.1
  have hsp : gA σ (A 47 0) (p : Int) = sp D p := h.2.2.1 p hp'
  have h01 := sp_01 hw p
  have hzb := sz_b hz
  refine wm_X8_moved hl ⟨fun n x1 => (lf ≤ x1 ∧ x1 ≤ mvd D z p lf) ∧ n = (mvd D z p lf - x1).toNat, ⟨_, ⟨Int.le_refl _, (mvd_b (D := D) (p := p) hz hlf.1).1⟩, rfl⟩, ?_⟩
  rintro n x1 ⟨hx1, rfl⟩
  have hmb := (mvd_b (D := D) (p := p) hz hlf.1).2
  rw [a1, hsp]
  refine ⟨h.1.1, q_isA1 a2, ⟨by omega, by rw [a3]; omega⟩, by unfold qR; omega, fun h0 => ⟨rfl, ?_⟩, fun h0 => ⟨by omega, by omega, by omega, ?_, by unfold qR; omega, fun he => ⟨rfl, ?_⟩, fun hne x19 h19 => ⟨_, ?_, ⟨by omega, ?_⟩, rfl⟩⟩⟩
  · unfold mvd at hx1 ⊢
    rw [if_pos h0] at hx1 ⊢
    rw [show x1 = lf by omega]
  · have := Int.emod_lt_of_pos x1 (show 0 < z by omega)
    have := Int.emod_nonneg x1 (show z ≠ 0 by omega)
    unfold qR; omega
  · have e : x1 = mvd D z p lf := by
      unfold mvd at hx1 ⊢
      rw [if_neg h0] at hx1 ⊢
      unfold szOk at hz
      rcases hz with rfl | rfl | rfl | rfl <;> (split at hx1 <;> (rename_i hh; first | rw [if_pos hh] | rw [if_neg hh]) <;> omega)
    rw [e]
  · have : x1 ≠ mvd D z p lf := by
      intro e
      apply hne
      rw [e]
      unfold mvd
      rw [if_neg h0]
      unfold szOk at hz
      rcases hz with rfl | rfl | rfl | rfl <;> (split <;> omega)
    omega
  · have : x1 ≠ mvd D z p lf := by
      intro e
      apply hne
      rw [e]
      unfold mvd
      rw [if_neg h0]
      unfold szOk at hz
      rcases hz with rfl | rfl | rfl | rfl <;> (split <;> omega)
    omega
theorem spec_mleafOf (hl : l.stackTraces = false) (h : MB A D σ) (hw : WF0 D) (hnp : gI σ 321 (A 30 0) = np D) {p : Nat} {z : Int} (hp' : p ≤ np D) (hz : szOk z) : qMet g l M_X8_leafOf [vr (A 30 0), vi (p : Int), vi z] σ (qPi σ (if p < np D then lfo D z p else nxl D z p)) := by
  have hn := hw.1.1
  refine wm_X8_leafOf hl ⟨fun n x1 x2 => ∃ k : Nat, x2 = k ∧ k ≤ p ∧ x1 = nxl D z k ∧ n = p - k, ⟨_, 0, rfl, Nat.zero_le _, rfl, rfl⟩, ?_⟩
  rintro n x1 x2 ⟨k, rfl, hk, rfl, rfl⟩
  have hb1 := nxl_b (D := D) hz k
  rw [hnp]
  refine ⟨by unfold qR; omega, by unfold qR; omega, fun hd => ?_, fun hd => ⟨h.1.1, _, spec_moved hl h hw (by omega) hz (by omega), fun x20 h20 x22 h22 => ⟨_, ?_, k + 1, by omega, by omega, by rw [h20]; rfl, rfl⟩⟩⟩
  · have : k = p := by omega
    subst this
    refine ⟨h.1.1, by unfold qR; omega, fun hd2 => ⟨rfl, by rw [if_neg (by omega)]⟩, fun hd2 => ⟨_, spec_moved hl h hw (by omega) hz (by omega), rfl, ?_⟩⟩
    rw [if_pos (by omega)]; rfl
  · omega
theorem spec_mleaves (hl : l.stackTraces = false) (hA : qInj A) (h : MR A D σ) (hw : WF0 D) {z : Int} (hz : qR z) : qMet g l M_X8_leaves [vr (A 30 0), vi z] σ (qTi0 (qMP A D σ c1 (o_leaves D z))) := by
  have hn := hw.1.1
  unfold o_leaves
  refine wm_X8_leaves hl ⟨_, spec_isSize hl hz, cifQ, fun v5 h5 => ⟨h.1.1.1, fun σ2 h2 => ?_⟩⟩
  obtain ⟨m1, m2, m3⟩ := MR_t hA h h2
  by_cases e : szOk z
  · rw [cif_pos e, if_neg (by decide)] at h5
    subst h5
    have hb := nxl_b (D := D) e (np D)
    have hzb := sz_b e
    have hlo := spec_mleafOf (g := g) hl m1.1 hw m1.2.1.1 (p := np D) (Nat.le_refl _) e
    rw [if_neg (Nat.lt_irrefl _)] at hlo
    rw [m1.2.1.1, cif_pos e]
    exact ⟨fun _ => ⟨_, hlo, by omega, by omega, _, rfl, qMP_q hA h m2 ⟨rfl, m3⟩⟩, fun y => absurd (Int.le_refl 0) y⟩
  · rw [cif_neg e, if_pos rfl] at h5
    subst h5
    rw [cif_neg e]
    exact ⟨fun y => absurd y (by decide), fun _ => ⟨_, rfl, qMP_q hA h m2 m3⟩⟩
theorem spec_mleaf (hl : l.stackTraces = false) (hA : qInj A) (h : MR A D σ) (hw : WF0 D) {p z : Int} (hp' : qR p) (hz : qR z) : qMet g l M_X8_leaf [vr (A 30 0), vi p, vi z] σ (qTi0 (qMP A D σ c2 (o_leaf D p z))) := by
  have hn := hw.1.1
  unfold o_leaf
  refine wm_X8_leaf hl ⟨h.1.1.1, _, spec_isPage hl h.1.1 h.2.1 hw hp', cifQ, fun hz1 => ⟨_, spec_isSize hl hz, cifQ, fun v10 h10 σ2 h2 => ?_⟩, fun hz1 σ2 h2 => ?_⟩
  · have hok := cif1 hz1
    have hok2 : 0 ≤ p ∧ p < np D := hok
    obtain ⟨m1, m2, m3⟩ := MR_t hA h h2
    rw [cif_neg (fun y => y hok)]
    by_cases e : szOk z
    · rw [cif_pos e, if_neg (by decide)] at h10
      subst h10
      have hlo := spec_mleafOf (g := g) hl m1.1 hw m1.2.1.1 (p := p.toNat) (by omega) e
      rw [if_pos (by omega), Int.toNat_of_nonneg hok.1] at hlo
      rw [cif_pos e]
      exact ⟨fun _ => ⟨_, hlo, _, rfl, qMP_q hA h m2 ⟨rfl, m3⟩⟩, fun y => absurd (Int.le_refl 0) y⟩
    · rw [cif_neg e, if_pos rfl] at h10
      subst h10
      rw [cif_neg e]
      exact ⟨fun y => absurd y (by decide), fun _ => ⟨_, rfl, qMP_q hA h m2 m3⟩⟩
  · obtain ⟨m1, m2, m3⟩ := MR_t hA h h2
    rw [cif_pos (cif0 hz1)]
    exact ⟨_, rfl, qMP_q hA h m2 m3⟩
theorem spec_msheet (hl : l.stackTraces = false) (hA : qInj A) (h : MR A D σ) (hw : WF0 D) {p z : Int} (hp' : qR p) (hz : qR z) : qMet g l M_X8_sheet [vr (A 30 0), vi p, vi z] σ (qTi0 (qMP A D σ c2 (o_sheet D p z))) := by
  have hn := hw.1.1
  unfold o_sheet
  refine wm_X8_sheet hl ⟨h.1.1.1, _, spec_isPage hl h.1.1 h.2.1 hw hp', cifQ, fun hz1 => ⟨_, spec_isSize hl hz, cifQ, fun v10 h10 σ2 h2 => ?_⟩, fun hz1 σ2 h2 => ?_⟩
  · have hok := cif1 hz1
    have hok2 : 0 ≤ p ∧ p < np D := hok
    obtain ⟨m1, m2, m3⟩ := MR_t hA h h2
    rw [cif_neg (fun y => y hok)]
    by_cases e : szOk z
    · rw [cif_pos e, if_neg (by decide)] at h10
      subst h10
      have hzb := sz_b e
      have hb1 := lfo_b (D := D) e p.toNat
      have hlo := spec_mleafOf (g := g) hl m1.1 hw m1.2.1.1 (p := p.toNat) (by omega) e
      rw [if_pos (by omega), Int.toNat_of_nonneg hok.1] at hlo
      have hm : 0 ≤ lfo D z p.toNat % z ∧ lfo D z p.toNat % z < z := ⟨Int.emod_nonneg _ (by omega), Int.emod_lt_of_pos _ (by omega)⟩
      rw [cif_pos e]
      refine ⟨fun _ => ⟨_, hlo, by omega, by omega, fun x22 h22 x24 h24 => ⟨⟨by unfold qR; omega, by unfold qR; omega⟩, fun v29 h29 => ⟨_, rfl, qMP_q hA h m2 ⟨?_, m3⟩⟩⟩⟩, fun y => absurd (Int.le_refl 0) y⟩
      rw [h29]
      split <;> omega
    · rw [cif_neg e, if_pos rfl] at h10
      subst h10
      rw [cif_neg e]
      exact ⟨fun y => absurd y (by decide), fun _ => ⟨_, rfl, qMP_q hA h m2 m3⟩⟩
  · obtain ⟨m1, m2, m3⟩ := MR_t hA h h2
    rw [cif_pos (cif0 hz1)]
    exact ⟨_, rfl, qMP_q hA h m2 m3⟩
theorem spec_mbeside (hl : l.stackTraces = false) (hA : qInj A) (h : MR A D σ) (hw : WF0 D) {p z : Int} (hp' : qR p) (hz : qR z) : qMet g l M_X8_beside [vr (A 30 0), vi p, vi z] σ (qTi0 (qMP A D σ c2 (o_beside D p z))) := by
  have hn := hw.1.1
  unfold o_beside
  refine wm_X8_beside hl ⟨h.1.1.1, _, spec_isPage hl h.1.1 h.2.1 hw hp', cifQ, fun hz1 => ⟨_, spec_isSize hl hz, cifQ, fun v10 h10 σ2 h2 => ?_⟩, fun hz1 σ2 h2 => ?_⟩
  · have hok := cif1 hz1
    have hok2 : 0 ≤ p ∧ p < np D := hok
    obtain ⟨m1, m2, m3⟩ := MR_t hA h h2
    rw [cif_neg (fun y => y hok)]
    by_cases e : szOk z
    · rw [cif_pos e, if_neg (by decide)] at h10
      subst h10
      have hzb := sz_b e
      have hb1 := lfo_b (D := D) e p.toNat
      have hlo := spec_mleafOf (g := g) hl m1.1 hw m1.2.1.1 (p := p.toNat) (by omega) e
      rw [if_pos (by omega), Int.toNat_of_nonneg hok.1] at hlo
      have hm : 0 ≤ lfo D z p.toNat % z ∧ lfo D z p.toNat % z < z := ⟨Int.emod_nonneg _ (by omega), Int.emod_lt_of_pos _ (by omega)⟩
      have hdm := Int.mul_ediv_add_emod (lfo D z p.toNat) z
      rw [Int.mul_comm] at hdm
      rw [cif_pos e]
      refine ⟨fun _ => ⟨_, hlo, by omega, by omega, by omega, by omega, fun x24 h24 => ?_⟩, fun y => absurd (Int.le_refl 0) y⟩
      rw [← h24]
      refine ⟨fun n x26 x27 => ∃ k : Nat, x27 = k ∧ k ≤ np D ∧ n = np D - k ∧ ((x26 = -1 ∧ ∀ i, i < k → lfo D z i ≠ x24) ∨ (0 ≤ x26 ∧ x26.toNat < k ∧ lfo D z x26.toNat = x24)), ⟨_, 0, rfl, Nat.zero_le _, rfl, Or.inl ⟨rfl, fun i hi => absurd hi (Nat.not_lt_zero _)⟩⟩, ?_⟩
      rintro n x26 x27 ⟨k, rfl, hk, rfl, hor⟩
      rw [m1.2.1.1]
      refine ⟨by unfold qR; omega, by unfold qR; omega, fun hd => ⟨_, rfl, qMP_q hA h m2 ⟨?_, m3⟩⟩, fun hd => ?_⟩
      · have hke : k = np D := by omega
        subst hke
        have hB : BS D z x24 x26 := by
          rcases hor with y | y
          · exact Or.inl y
          · exact Or.inr y
        exact (tho_eq hB (fun v' hv => BS_u e hB hv)).symm
      · have hb2 := lfo_b (D := D) e k
        have hlk := spec_mleafOf (g := g) hl m1.1 hw m1.2.1.1 (p := k) (by omega) e
        rw [if_pos (by omega)] at hlk
        refine ⟨_, hlk, ⟨by unfold qR; omega, by unfold qR; omega⟩, fun v42 h42 x46 h46 => ⟨_, ?_, k + 1, by omega, by omega, rfl, ?_⟩⟩
        · omega
        · rw [h42]
          by_cases f : lfo D z k = x24
          · rw [if_neg (fun y => y f)]
            exact Or.inr ⟨by omega, by omega, by rw [Int.toNat_natCast]; exact f⟩
          · rw [if_pos f]
            rcases hor with ⟨y, y2⟩ | ⟨y, y2, y3⟩
            · refine Or.inl ⟨y, fun i hi => ?_⟩
              by_cases g' : i = k
              · rw [g']; exact f
              · exact y2 i (by omega)
            · exact Or.inr ⟨y, by omega, y3⟩
    · rw [cif_neg e, if_pos rfl] at h10
      subst h10
      rw [cif_neg e]
      exact ⟨fun y => absurd y (by decide), fun _ => ⟨_, rfl, qMP_q hA h m2 m3⟩⟩
  · obtain ⟨m1, m2, m3⟩ := MR_t hA h h2
    rw [cif_pos (cif0 hz1)]
    exact ⟨_, rfl, qMP_q hA h m2 m3⟩
end
