/-! p36: the law's look at a balloon -/
section
variable {D : qD}
theorem dpt_m1 : ∀ n, dpt D n (-1) = 0
  | 0 => rfl
  | n + 1 => by show (if (-1 : Int) = -1 then 0 else _) = (0 : Int); rw [if_pos rfl]
theorem dpt_st {n b : Nat} : dpt D (n + 1) (b : Int) = 1 + dpt D n (an D b) := by
  show (if (b : Int) = -1 then 0 else 1 + dpt D n (an D (b : Int).toNat)) = _
  rw [if_neg (by omega), Int.toNat_natCast]
theorem cnt_lt (hw : WF0 D) {b c : Nat} (hb' : alB D b) (h : ky D b < ky D c) : cntB D (ky D b) < cntB D (ky D c) := by
  have h1 := cnt_step hw hb'
  have h2 := cnt_mono (D := D) (show ky D b + 1 ≤ ky D c by omega)
  omega
theorem ct_n {P : Nat → Prop} : ∀ n : Nat, 0 ≤ ct P n ∧ ct P n ≤ n
  | 0 => ⟨Int.le_refl 0, Int.le_refl 0⟩
  | n + 1 => by
    have ih := ct_n (P := P) n
    rw [ct_s]
    split <;> omega
theorem cnt_b (hw : WF0 D) {b : Nat} (hb' : alB D b) : 0 ≤ cntB D (ky D b) ∧ cntB D (ky D b) + 1 ≤ nb D := by
  have h1 := cnt_step hw hb'
  have h2 := ct_n (P := fun c => gb D c = 0 ∧ ky D c < ky D b + 1) (nb D)
  have h3 := ct_n (P := fun c => gb D c = 0 ∧ ky D c < ky D b) (nb D)
  unfold cntB at h1 ⊢
  omega
theorem an_ok (hw : WF D) {b : Nat} (hb' : alB D b) (hv : an D b ≠ -1) : ∃ c : Nat, an D b = c ∧ alB D c ∧ cntB D (ky D c) < cntB D (ky D b) := by
  obtain ⟨a1, a2, a3, a4, a5, a6⟩ := hw.1.2.2.2.2.2.1 b hb'.1
  have h1 := a5.resolve_left hv
  have hal : alB D (an D b).toNat := ⟨h1.2, a6 hb'.2 hv⟩
  exact ⟨(an D b).toNat, by omega, hal, cnt_lt hw.1 hal (hw.2.2 b hb' hv)⟩
theorem dpt_b (hw : WF D) : ∀ (n b : Nat), alB D b → cntB D (ky D b) < (n : Int) → (∀ m : Nat, cntB D (ky D b) < (m : Int) → dpt D n b = dpt D m b) ∧ 0 ≤ dpt D n b ∧ dpt D n b ≤ cntB D (ky D b) + 1
  | 0, b, hb', h => by
    have := (cnt_b hw.1 hb').1
    omega
  | n + 1, b, hb', h => by
    have hb0 := (cnt_b hw.1 hb').1
    rw [dpt_st]
    by_cases hv : an D b = -1
    · rw [hv, dpt_m1]
      refine ⟨fun m hm => ?_, by omega, by omega⟩
      obtain ⟨m', rfl⟩ : ∃ m', m = m' + 1 := ⟨m - 1, by omega⟩
      rw [dpt_st, hv, dpt_m1]
    · obtain ⟨c, e, hc, hlt⟩ := an_ok hw hb' hv
      obtain ⟨i1, i2, i3⟩ := dpt_b hw n c hc (by omega)
      rw [e]
      refine ⟨fun m hm => ?_, by omega, by omega⟩
      obtain ⟨m', rfl⟩ : ∃ m', m = m' + 1 := ⟨m - 1, by omega⟩
      rw [dpt_st, e, i1 m' (by omega)]
theorem depth_le (hw : WF D) {b : Nat} (hb' : alB D b) : 0 ≤ dpt D 80 (an D b) ∧ dpt D 80 (an D b) ≤ cntB D (ky D b) := by
  have hb0 := cnt_b hw.1 hb'
  have hn := hw.1.1.2.2
  by_cases hv : an D b = -1
  · rw [hv, dpt_m1]; omega
  · obtain ⟨c, e, hc, hlt⟩ := an_ok hw hb' hv
    obtain ⟨i1, i2, i3⟩ := dpt_b hw 80 c hc (by omega)
    rw [e]; omega
theorem depth_s (hw : WF D) {o : Nat} (ho : alB D o) : dpt D 80 (o : Int) = 1 + dpt D 80 (an D o) := by
  have hb0 := cnt_b hw.1 ho
  have hn := hw.1.1.2.2
  rw [show (80 : Nat) = 79 + 1 from rfl, dpt_st]
  by_cases hv : an D o = -1
  · rw [hv, dpt_m1, dpt_m1]
  · obtain ⟨c, e, hc, hlt⟩ := an_ok hw ho hv
    obtain ⟨i1, i2, i3⟩ := dpt_b hw 79 c hc (by omega)
    rw [e, i1 (79 + 1) (by omega)]
theorem FB_in (hw : WF D) {b : Nat} (hb' : alB D b) : (0 ≤ (FB D b).1 ∧ (FB D b).1 + (FB D b).2.2.1 ≤ (LB D (hb D b)).2.2.1) ∧ (0 ≤ (FB D b).2.1 ∧ (FB D b).2.1 + (FB D b).2.2.2 ≤ (LB D (hb D b)).2.2.2) ∧ 1 ≤ (FB D b).2.2.1 ∧ 1 ≤ (FB D b).2.2.2 := by
  obtain ⟨hal, hm⟩ := alB_home hw.1 hb'
  obtain ⟨hfit, hW, hH⟩ := LB_fit hw hal
  obtain ⟨w, h, e, hw1, hh1, k1, k2⟩ := FB_at hw hal (j := ixB D b) (ix_lt hm)
  have e' : FB D b = FBq D (hb D b) (ixB D b) := rfl
  rw [e', e]
  generalize plN (tg D (hp D (hb D b))) (gro D (hp D (hb D b))) (LB D (hb D b)).2.2.1 (LB D (hb D b)).2.2.2 (fc D (hb D b)) (lts D (hb D b)) (ixB D b) = s at k1 k2
  have m0 : 0 ≤ (s : Int) % (LB D (hb D b)).2.2.1 := Int.emod_nonneg _ (by omega)
  have m1 : 0 ≤ (s : Int) / (LB D (hb D b)).2.2.1 := Int.ediv_nonneg (by omega) (by omega)
  unfold cnd
  refine ⟨?_, ⟨m1, k2⟩, hw1.1, hh1⟩
  show 0 ≤ (if tg D (hp D (hb D b)) = 1 then (LB D (hb D b)).2.2.1 - (s : Int) % (LB D (hb D b)).2.2.1 - w else (s : Int) % (LB D (hb D b)).2.2.1) ∧ (if tg D (hp D (hb D b)) = 1 then (LB D (hb D b)).2.2.1 - (s : Int) % (LB D (hb D b)).2.2.1 - w else (s : Int) % (LB D (hb D b)).2.2.1) + w ≤ (LB D (hb D b)).2.2.1
  split <;> omega
theorem cell_at (hw : WF D) {b : Nat} (hb' : alB D b) {x y : Int} (h : inB (FB D b) x y) : o_cell D (hb D b : Int) x y = .inl (b : Int) := by
  obtain ⟨hal, hm⟩ := alB_home hw.1 hb'
  obtain ⟨⟨a1, a2⟩, ⟨a3, a4⟩, a5, a6⟩ := FB_in hw hb'
  obtain ⟨i1, i2, i3, i4⟩ := id h
  unfold o_cell
  rw [Int.toNat_natCast, cif_pos ⟨pnOk_c hal, ⟨by omega, by omega⟩, by omega, by omega⟩]
  have hC : CL D (hb D b) x y (b : Int) := Or.inl ⟨ixB D b, ix_lt hm, h, by unfold bl ixB; rw [ix_get hm]⟩
  have : celV D (hb D b) x y = (b : Int) := tho_eq hC (fun v' hv => CL_u hw hal hC hv)
  rw [this]
theorem read_at (hw : WF0 D) {b : Nat} (hb' : alB D b) : o_read D (cntB D (ky D b)) = .inl (b : Int) := by
  have hR : RB D (cntB D (ky D b)) (b : Int) := Or.inr ⟨by omega, by rw [Int.toNat_natCast]; exact hb', by rw [Int.toNat_natCast]⟩
  have : rda D (cntB D (ky D b)) = (b : Int) := tho_eq hR (fun v' hv => RB_u hw hR hv)
  unfold o_read
  rw [this, cif_pos ⟨(cnt_b hw hb').1, by omega⟩]
theorem place_at {b : Nat} (hb' : alB D b) : o_placeOf D (b : Int) = .inl (cntB D (ky D b)) := by
  unfold o_placeOf
  rw [cif_pos (blOk_c hb'), Int.toNat_natCast]
theorem depth_at {b : Nat} (hb' : alB D b) : o_depth D (b : Int) = .inl (dpt D 80 (an D b)) := by
  unfold o_depth
  rw [cif_pos (blOk_c hb'), Int.toNat_natCast]
end
section
variable {g : qG} {l : Launch} {A : Nat → Nat → Nat} {D : qD} {σ : qS}
theorem spec_isBalloon (hl : l.stackTraces = false) (hA : qInj A) (h : CR A D σ) (hw : WF D) {b : Nat} (hb' : alB D b) : qMet g l M_L_isBalloon [vr (A 0 0), vi (b : Int), vi (hb D b : Int)] σ (qPi σ 1) := by
  obtain ⟨hal, hm⟩ := alB_home hw.1 hb'
  obtain ⟨⟨a1, a2⟩, ⟨a3, a4⟩, a5, a6⟩ := FB_in hw hb'
  have hLB := (LB_fit hw hal).2
  have h8 := h.1.1
  have hn := hw.1.1
  have hbn := hb'.1
  have hqn := hal.1
  have qb : qR (b : Int) := by unfold qR; omega
  have qq : qR (hb D b : Int) := by unfold qR; omega
  have sf : ∀ w : Int, 0 ≤ w → w ≤ 4 → qMet g l M_X7_floats [vr (A 0 0), vi (b : Int), vi w] σ (qTi (fun σ' v => σ' = σ ∧ v = bxV (hb D b) (FB D b) w) (fun _ _ => False)) := fun w w0 w4 => cq (spec_floats hl h hw.1 qb (by unfold qR; omega)) (floats_at hb' ⟨w0, w4⟩)
  have sl : ∀ w : Int, 0 ≤ w → w ≤ 4 → qMet g l M_X7_lies [vr (A 0 0), vi (hb D b : Int), vi w] σ (qTi (fun σ' v => σ' = σ ∧ v = bxV (kq D (hb D b)) (LB D (hb D b)) w) (fun _ _ => False)) := fun w w0 w4 => cq (spec_lies hl h hw.1 qq (by unfold qR; omega)) (lies_at hal ⟨w0, w4⟩)
  have sc : ∀ x y : Int, inB (FB D b) x y → qMet g l M_X7_cell [vr (A 0 0), vi (hb D b : Int), vi x, vi y] σ (qTi (fun σ' v => σ' = σ ∧ v = (b : Int)) (fun _ _ => False)) := fun x y hi => cq (spec_cell hl hA h hw qq (by obtain ⟨i1, i2, i3, i4⟩ := hi; unfold qR; omega) (by obtain ⟨i1, i2, i3, i4⟩ := hi; unfold qR; omega)) (cell_at hw hb' hi)
  have f0 : bxV (hb D b : Int) (FB D b) 0 = (hb D b : Int) := rfl
  have f1 : bxV (hb D b : Int) (FB D b) 1 = (FB D b).1 := rfl
  have f2 : bxV (hb D b : Int) (FB D b) 2 = (FB D b).2.1 := rfl
  have f3 : bxV (hb D b : Int) (FB D b) 3 = (FB D b).2.2.1 := rfl
  have f4 : bxV (hb D b : Int) (FB D b) 4 = (FB D b).2.2.2 := rfl
  have l3 : bxV (kq D (hb D b) : Int) (LB D (hb D b)) 3 = (LB D (hb D b)).2.2.1 := rfl
  have l4 : bxV (kq D (hb D b) : Int) (LB D (hb D b)) 4 = (LB D (hb D b)).2.2.2 := rfl
  have hcnt := cnt_b hw.1 hb'
  have hdep := depth_le hw hb'
  refine wm_L_isBalloon hl ⟨h8, _, _, sf 1 (by decide) (by decide), fun σ1 v1 h1 => ?_, fun _ _ z => z⟩
  obtain ⟨rfl, rfl⟩ := h1
  refine ⟨h8, _, _, sf 2 (by decide) (by decide), fun σ1 v1 h1 => ?_, fun _ _ z => z⟩
  obtain ⟨rfl, rfl⟩ := h1
  refine ⟨h8, _, _, sf 3 (by decide) (by decide), fun σ1 v1 h1 x28 h28 => ?_, fun _ _ z => z⟩
  obtain ⟨rfl, rfl⟩ := h1
  refine ⟨h8, _, _, sf 4 (by decide) (by decide), fun σ1 v1 h1 x39 h39 => ?_, fun _ _ z => z⟩
  obtain ⟨rfl, rfl⟩ := h1
  refine ⟨h8, _, _, sf 0 (by decide) (by decide), fun σ1 v1 h1 => ?_, fun _ _ z => z⟩
  obtain ⟨rfl, rfl⟩ := h1
  rw [f0, f1, f2]
  rw [f1, f3] at h28
  rw [f2, f4] at h39
  refine ⟨qq, qq, fun z => absurd rfl z, fun _ => ⟨by unfold qR; omega, fun z => by omega, fun _ => ⟨by unfold qR; omega, fun z => by omega, fun _ => ⟨h8, _, _, sl 3 (by decide) (by decide), fun σ1 v1 h1 => ?_, fun _ _ z => z⟩⟩⟩⟩
  obtain ⟨rfl, rfl⟩ := h1
  rw [l3]
  refine ⟨by unfold qR; omega, by unfold qR; omega, fun z => by omega, fun _ => ⟨h8, _, _, sl 4 (by decide) (by decide), fun σ1 v1 h1 => ?_, fun _ _ z => z⟩⟩
  obtain ⟨rfl, rfl⟩ := h1
  rw [l4]
  refine ⟨⟨by unfold qR; omega, by unfold qR; omega⟩, fun v117 h117 => ?_⟩
  rw [if_neg (by omega)] at h117
  subst h117
  refine ⟨fun z => absurd z (by decide), fun _ => ⟨h8, _, _, sc _ _ ⟨by omega, by omega, by omega, by omega⟩, fun σ1 v1 h1 => ?_, fun _ _ z => z⟩⟩
  obtain ⟨rfl, rfl⟩ := h1
  refine ⟨qb, qb, fun z => absurd rfl z, fun _ => ⟨h8, _, _, sc _ _ ⟨by omega, by omega, by omega, by omega⟩, fun σ1 v1 h1 => ?_, fun _ _ z => z⟩⟩
  obtain ⟨rfl, rfl⟩ := h1
  refine ⟨qb, fun z => absurd rfl z, fun _ => ⟨h8, _, _, sc _ _ ⟨by omega, by omega, by omega, by omega⟩, fun σ1 v1 h1 => ?_, fun _ _ z => z⟩⟩
  obtain ⟨rfl, rfl⟩ := h1
  refine ⟨qb, fun v185 h185 => ?_⟩
  rw [if_neg (fun z => z rfl)] at h185
  subst h185
  refine ⟨h8, _, _, cq (spec_placeOf hl hA h hw.1 qb) (place_at hb'), fun σ1 v1 h1 => ?_, fun _ _ z => z⟩
  obtain ⟨rfl, rfl⟩ := h1
  refine ⟨fun z => absurd z (by decide), fun _ => ⟨h8, _, _, cq (spec_placeByPairs hl hA h hw qb) (place_at hb'), fun σ1 v1 h1 => ?_, fun _ _ z => z⟩⟩
  obtain ⟨rfl, rfl⟩ := h1
  refine ⟨by unfold qR; omega, by unfold qR; omega, fun z => absurd rfl z, fun _ => ⟨h8, _, _, cq (spec_read hl hA h hw.1 (by unfold qR; omega)) (read_at hw.1 hb'), fun σ1 v1 h1 => ?_, fun _ _ z => z⟩⟩
  obtain ⟨rfl, rfl⟩ := h1
  refine ⟨qb, fun z => absurd rfl z, fun _ => ⟨h8, _, _, cq (spec_depth hl hA h hw.1 qb) (depth_at hb'), fun σ1 v1 h1 => ?_, fun _ _ z => z⟩⟩
  obtain ⟨rfl, rfl⟩ := h1
  refine ⟨by unfold qR; omega, fun v235 h235 => ⟨rfl, ?_⟩⟩
  rw [h235, if_neg (by omega)]
end
