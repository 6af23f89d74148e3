/-! the class: the balloon at a place, cells, pairs -/
section
variable {D : qD}
theorem ky_at (hw : WF0 D) {q j : Nat} (hq : alP D q) (hj : j < (hs D q).length) : alB D (bl D q j) ∧ ky D (bl D q j) = 4 * rk D q + j ∧ ixB D (bl D q j) = j ∧ hb D (bl D q j) = q := by
  have hP := hw.2.2.2.2.1 q hq.1
  obtain ⟨h1, h2⟩ := hP.2.2.2.2 hq.2 _ (bl_mem hj)
  have h3 : ixB D (bl D q j) = j := by
    unfold ixB
    rw [h2]
    exact ix_at hP.2.2.1.2.1 hj
  refine ⟨h1, ?_, h3, h2⟩
  unfold ky
  rw [h3, h2]
theorem cnt_row (hw : WF0 D) {q : Nat} (hq : alP D q) : ∀ j : Nat, j ≤ (hs D q).length → cntB D (4 * rk D q + j) = cntB D (4 * rk D q) + j
  | 0, _ => by simp
  | j + 1, hj => by
    have ih := cnt_row hw hq j (by omega)
    obtain ⟨h1, h2, -⟩ := ky_at hw hq (j := j) (by omega)
    have h3 := cnt_step hw h1
    rw [h2] at h3
    rw [show 4 * rk D q + ((j + 1 : Nat) : Int) = 4 * rk D q + j + 1 by omega, h3, ih]
    omega
theorem cnt_panel (hw : WF0 D) {q : Nat} (hq : alP D q) : cntB D (4 * (rk D q + 1)) = cntB D (4 * rk D q) + (hs D q).length := by
  have hlen := (hw.2.2.2.2.1 q hq.1).2.2.1.2.2.1
  rw [← cnt_row hw hq _ (Nat.le_refl _)]
  refine cnt_gap (by omega) (fun b hb' hh => ?_)
  obtain ⟨h1, h2⟩ := alB_home hw hb'
  have h3 := ixB_lt hw hb'
  have h4 : ky D b = 4 * rk D (hb D b) + ixB D b := rfl
  have h5 := rk_inj hw h1 hq (by omega)
  rw [h5] at h3 h4
  omega
theorem cnt_page (hw : WF0 D) {i : Nat} (hi : i < np D) : cntB D (4 * (8 * (i : Int) + pn D i)) = cntB D (4 * (8 * (i + 1 : Nat))) := by
  have hn := (hw.2.1 i hi).2.2.1
  refine (cnt_gap (by omega) (fun b hb' hh => ?_)).symm
  obtain ⟨h1, h2⟩ := alB_home hw hb'
  have h3 := ixB_lt hw hb'
  have h4 : ky D b = 4 * rk D (hb D b) + ixB D b := rfl
  exact rk_page hw h1 (i := i) (by omega) (by omega)
theorem cnt_0 (hw : WF0 D) : cntB D 0 = 0 := by
  have : ∀ n, n ≤ nb D → ct (fun b => gb D b = 0 ∧ ky D b < 0) n = 0 := by
    intro n
    induction n with
    | zero => intro _; rfl
    | succ n ih =>
      intro hn
      rw [ct_s, ih (by omega), if_neg]
      · rfl
      · rintro ⟨z1, z2⟩
        have := ky_b hw (show alB D n from ⟨by omega, z1⟩)
        omega
  exact this _ (Nat.le_refl _)
end
section
variable {g : qG} {l : Launch} {A : Nat → Nat → Nat} {D : qD} {σ : qS}
theorem spec_balloonReadAt (hl : l.stackTraces = false) (hA : qInj A) (h : CR A D σ) (hw : WF0 D) {pl : Int} (hpl : 0 ≤ pl ∧ qR pl) : qMet g l M_X7_balloonReadAt [vr (A 0 0), vi pl] σ (qPr σ (bRef A (rda D pl))) := by
  have hn := hw.1.1
  have hx : ∀ v, RB D pl v → rda D pl = v := fun v hv => tho_eq hv (fun v' => RB_u hw hv)
  refine wm_X7_balloonReadAt hl ⟨fun n x1 x2 => ∃ i : Nat, x2 = i ∧ i ≤ np D ∧ x1 = pl - cntB D (4 * (8 * (i : Int))) ∧ 0 ≤ x1 ∧ n = 20 - i, ⟨_, 0, rfl, Nat.zero_le _, by rw [show 4 * (8 * ((0 : Nat) : Int)) = 0 by omega, cnt_0 hw]; omega, hpl.1, rfl⟩, ?_⟩
  rintro n x1 x2 ⟨i, rfl, hi, hx1, h0, rfl⟩
  rw [h.1.2.1]
  have hqR : qR pl := hpl.2
  refine ⟨h.1.1, h.1.2.2.2.2.2.2.1, _, spec_sizePg hl h, by unfold qR; omega, by unfold qR; omega, fun hd => ⟨rfl, ?_⟩, fun hd => ?_⟩
  · have hi2 : i = np D := by omega
    rw [hx (-1) (Or.inl ⟨rfl, fun b hb' he => ?_⟩)]
    · unfold bRef; rw [if_pos rfl]
    · obtain ⟨h1, h2⟩ := alB_home hw hb'
      have h3 := cnt_step hw hb'
      have h4 : ky D b + 1 ≤ 4 * (8 * (i : Int)) := by
        have h5 := (alP_home hw h1).1
        have h6 := (ixP_lt hw h1).2
        have h7 := (ixB_lt hw hb').2
        unfold ky rk
        omega
      have := cnt_mono (D := D) h4
      omega
  have hin : i < np D := by omega
  have hpn8 := (hw.2.1 i hin).2.2.1
  obtain ⟨p1, p2, p3, p4, p5, p6⟩ := (h.2.2.2.1 i hin).1
  refine ⟨A 5 i, spec_getPg hl h hin, Or.inr p1, fun n x19 x20 => ∃ j : Nat, x20 = j ∧ j ≤ pn D i ∧ x19 = pl - cntB D (4 * (8 * (i : Int) + j)) ∧ 0 ≤ x19 ∧ n = 20 - j, ⟨_, 0, rfl, Nat.zero_le _, by rw [hx1]; simp, h0, rfl⟩, ?_⟩
  rintro n x19 x20 ⟨j, rfl, hj, hx19, h19, rfl⟩
  rw [p3]
  have hll : ((row D i).length : Int) = (pn D i : Int) := rfl
  refine ⟨p1, p5, _, spec_sizeM hl p5 p6, by unfold qR; omega, by unfold qR; omega, fun he x34 h34 => ⟨_, ?_, i + 1, by omega, by omega, ?_, h19, rfl⟩, fun he => ?_⟩
  · omega
  · have : j = pn D i := by omega
    rw [hx19, this, cnt_page hw hin]
  have hjn : j < pn D i := by omega
  obtain ⟨y1, y2, y3, y4⟩ := pq_rk hw hin hjn
  have hP := CR_pn h y1
  obtain ⟨r1, r2, r3, r4, r5, r6, r7, r8, r9, r10, r11, r12, r13, r14, r15, r16, r17⟩ := hP.1
  have hlen := (hw.2.2.2.2.1 _ y1.1).2.2.1.2.2.1
  have hct0 : 0 ≤ cntB D (4 * (8 * (i : Int) + j)) := by
    rw [← cnt_0 hw]
    exact cnt_mono (by omega)
  have hpan := cnt_panel hw y1
  rw [y2] at hpan
  refine ⟨A 6 (pq D i j), spec_getM hl p5 p6 rfl hjn, Or.inr r1, by unfold qR at hqR ⊢; omega, fun hneg => by omega, fun _ => ⟨r1, ?_⟩⟩
  rw [r8]
  refine ⟨r13, _, spec_sizeM hl r13 r14, by unfold qR; omega, fun hge => ⟨_, spec_sizeM hl r13 r14, fun x59 h59 x61 h61 => ⟨_, ?_, j + 1, by omega, by omega, ?_, by omega, rfl⟩⟩, fun hlt => ?_⟩
  · omega
  · rw [h59, hx19, show 4 * (8 * (i : Int) + ((j + 1 : Nat) : Int)) = 4 * (8 * (i : Int) + j + 1) by omega, hpan]
    omega
  · obtain ⟨t, ht⟩ : ∃ t : Nat, x19 = t := ⟨x19.toNat, by omega⟩
    have htl : t < (hs D (pq D i j)).length := by omega
    obtain ⟨z1, z2, z3, z4⟩ := ky_at hw y1 htl
    have hrow := cnt_row hw y1 t (by omega)
    rw [y2] at hrow z2
    refine ⟨A 7 (bl D (pq D i j) t), spec_getM hl r13 r14 ht htl, Or.inr (CR_bl h z1).1.1, rfl, ?_⟩
    rw [hx (bl D (pq D i j) t : Nat) (Or.inr ⟨by omega, by rw [Int.toNat_natCast]; exact z1, by rw [Int.toNat_natCast, z2, hrow]; omega⟩)]
    unfold bRef
    rw [if_neg (by omega), Int.toNat_natCast]
noncomputable def o_read (D : qD) (pl : Int) : Int ⊕ Nat := cif (0 ≤ pl ∧ rda D pl ≠ -1) (.inl (rda D pl)) (.inr 2)
theorem rda_al {pl : Int} : rda D pl = -1 ∨ (0 ≤ rda D pl ∧ alB D (rda D pl).toNat) := by
  by_cases c : ∃ v, RB D pl v
  · have := tho_sp c
    rcases this with h | h
    · exact Or.inl h.1
    · exact Or.inr ⟨h.1, h.2.1⟩
  · left
    unfold rda tho
    rw [dif_neg c]
theorem spec_read (hl : l.stackTraces = false) (hA : qInj A) (h : CR A D σ) (hw : WF0 D) {pl : Int} (hpl : qR pl) : qMet g l M_X7_read [vr (A 0 0), vi pl] σ (qQo σ (o_read D pl)) := by
  unfold o_read
  refine wm_X7_read hl ⟨hpl, fun h0 => ⟨h.1.1, _, spec_balloonReadAt hl hA h hw ⟨h0, hpl⟩, fun hne => ?_, fun he => ?_⟩, fun h0 => ?_⟩
  · have hv : rda D pl ≠ -1 := fun z => hne (by unfold bRef; rw [if_pos z])
    have e : bRef A (rda D pl) = A 7 (rda D pl).toNat := by unfold bRef; rw [if_neg hv]
    have hal : 0 ≤ rda D pl ∧ alB D (rda D pl).toNat := by
      rcases rda_al (D := D) (pl := pl) with z | z
      · exact absurd z hv
      · exact z
    have hb := (CR_bl h hal.2).1
    rw [e, cif_pos ⟨h0, hv⟩, hb.2.1]
    refine ⟨hb.1, rfl, ?_⟩
    rw [Int.toNat_of_nonneg hal.1]
  · have hv : rda D pl = -1 := by
      by_cases c : rda D pl = -1
      · exact c
      · unfold bRef at he
        rw [if_neg c] at he
        exact absurd he (hA.2 _ _)
    rw [cif_neg (fun z => z.2 hv)]
    exact ⟨rfl, rfl⟩
  · rw [cif_neg (fun z => h0 z.1)]
    exact ⟨rfl, rfl⟩
/-! cells -/
def inBx (D : qD) (q j : Nat) (x y : Int) : Prop := inB (FBq D q j) x y
def CL (D : qD) (q : Nat) (x y v : Int) : Prop := (∃ j, j < (hs D q).length ∧ inB (FBq D q j) x y ∧ v = bl D q j) ∨ ((∀ j, j < (hs D q).length → ¬ inB (FBq D q j) x y) ∧ v = cif (covF (fc D q) (LB D q).2.2.2 x y) (-2) (-1))
noncomputable def celV (D : qD) (q : Nat) (x y : Int) : Int := tho (CL D q x y)
/-- the panel alive lies, and holds its balloons -/
theorem LB_fit (hw : WF D) {q : Nat} (hq : alP D q) : Fit D (hp D q) q (LB D q).2.2.1 (LB D q).2.2.2 ∧ (4 ≤ (LB D q).2.2.1 ∧ (LB D q).2.2.1 ≤ 24) ∧ 3 ≤ (LB D q).2.2.2 ∧ (LB D q).2.2.2 ≤ 16 := by
  obtain ⟨h1, h2⟩ := alP_home hw.1 hq
  have hP := WF0_Pg hw.1 h1
  have hok := hw.2.1 _ h1
  have hi := (ixP_lt hw.1 hq).1
  obtain ⟨k1, k2, k3⟩ := kOf_sp hP hi
  have hB := pB_b hP hok k1 k2 k3
  have hrH := (hok _ k1).1
  have hsp := (lsp_sp (fun h => ∀ i, rS D (hp D q) (kOf D (hp D q) (ixP D q)) ≤ i → i < rS D (hp D q) (kOf D (hp D q) (ixP D q) + 1) → ht D (pq D (hp D q) i) ≤ h ∧ Fit D (hp D q) (pq D (hp D q) i) (pW D (hp D q) (rS D (hp D q) (kOf D (hp D q) (ixP D q))) (rS D (hp D q) (kOf D (hp D q) (ixP D q) + 1)) i) h) 17).2.2
  have hrH' : lsp (fun h => ∀ i, rS D (hp D q) (kOf D (hp D q) (ixP D q)) ≤ i → i < rS D (hp D q) (kOf D (hp D q) (ixP D q) + 1) → ht D (pq D (hp D q) i) ≤ h ∧ Fit D (hp D q) (pq D (hp D q) i) (pW D (hp D q) (rS D (hp D q) (kOf D (hp D q) (ixP D q))) (rS D (hp D q) (kOf D (hp D q) (ixP D q) + 1)) i) h) 17 = rH D (hp D q) (rS D (hp D q) (kOf D (hp D q) (ixP D q))) (rS D (hp D q) (kOf D (hp D q) (ixP D q) + 1)) := rfl
  rw [hrH'] at hsp
  have hfit := hsp (by omega) (ixP D q) k2 k3
  have hpq : pq D (hp D q) (ixP D q) = q := ix_get h2
  rw [hpq] at hfit
  have e1 : (LB D q).2.2.1 = pWd D (hp D q) (kOf D (hp D q) (ixP D q)) (ixP D q) := rfl
  have e2 : (LB D q).2.2.2 = pH D (hp D q) (kOf D (hp D q) (ixP D q)) := rfl
  have e3 : pH D (hp D q) (kOf D (hp D q) (ixP D q)) = (rH D (hp D q) (rS D (hp D q) (kOf D (hp D q) (ixP D q))) (rS D (hp D q) (kOf D (hp D q) (ixP D q) + 1)) : Nat) := rfl
  have h3 := (hw.1.2.2.2.2.1 q hq.1).2.2.1.2.2.2.2.2.2.1
  rw [e1, e2]
  exact ⟨hfit.2, hB.1, by rw [e3]; omega, hB.2.2.2.2⟩
/-- the boxes of a panel are apart -/
theorem box_ok {t gg W Ht : Int} {fc : List (Int × Int × Int)} {f : Nat → Int} {c j : Nat} (hf : pFit t gg W Ht fc f c) (hj : j < c) : (pl t gg W Ht fc f c).2 j = plB t gg W Ht fc f j ∧ okS t W Ht fc j (pl t gg W Ht fc f j).2 (wde W (mny gg (f j))) (hgh (mny gg (f j)) (wde W (mny gg (f j)))) (plN t gg W Ht fc f j) ∧ (pl t gg W Ht fc f j).1 ≤ plN t gg W Ht fc f j ∧ plN t gg W Ht fc f j < (W * Ht).toNat := by
  have h1 := hf j hj
  rw [pl_1] at h1
  have h2 := (lsp_sp (plS t gg W Ht fc f j) (W * Ht).toNat).2.2 h1
  exact ⟨pl_at hj, h2.2, h2.1, h1⟩
theorem box_sep {t gg W Ht : Int} {fc : List (Int × Int × Int)} {f : Nat → Int} {c j j' : Nat} (hf : pFit t gg W Ht fc f c) (hj : j < j') (hj' : j' < c) {x y : Int} (h : inB ((pl t gg W Ht fc f c).2 j') x y) : ¬ inB ((pl t gg W Ht fc f c).2 j) x y ∧ ¬ covF fc Ht x y := by
  obtain ⟨e1, e2, -⟩ := box_ok hf hj'
  rw [e1] at h
  obtain ⟨h1, h2⟩ := e2.2.2 x y h
  refine ⟨?_, h1⟩
  have := h2 j hj
  rwa [pl_at hj, ← pl_at (k := c) (by omega)] at this
theorem CL_u (hw : WF D) {q : Nat} (hq : alP D q) {x y v v' : Int} (h : CL D q x y v) (h' : CL D q x y v') : v' = v := by
  have hfit := (LB_fit hw hq).1
  rcases h with ⟨j, a, b, c⟩ | ⟨a, b⟩
  · rcases h' with ⟨j', a', b', c'⟩ | ⟨a', b'⟩
    · rcases Nat.lt_trichotomy j j' with d | d | d
      · exact absurd b (box_sep hfit d a' b').1
      · rw [c, c', d]
      · exact absurd b' (box_sep hfit d a b).1
    · exact absurd b (a' j a)
  · rcases h' with ⟨j', a', b', c'⟩ | ⟨a', b'⟩
    · exact absurd b' (a j' a')
    · rw [b, b']
noncomputable def o_cell (D : qD) (q x y : Int) : Int ⊕ Nat := cif (pnOk D q ∧ (0 ≤ x ∧ x ≤ (LB D q.toNat).2.2.1 - 1) ∧ 0 ≤ y ∧ y ≤ (LB D q.toNat).2.2.2 - 1) (.inl (celV D q.toNat x y)) (.inr 2)
theorem spec_hasFace (hl : l.stackTraces = false) (hA : qInj A) {q : Nat} (hq : PnC A D σ q) (hg : gq D q = 0) (hf : FcW (fc D q)) {x y H : Int} (hH : (LB D q).2.2.2 = H) (hH2 : 0 ≤ H ∧ H ≤ 16) (hx : qR x) (hy : qR y) : qMet g l M_X5_hasFaceAt [vr (A 6 q), vi x, vi y] σ (qPi σ (cif (covF (fc D q) H x y) 1 0)) := by
  obtain ⟨⟨r1, r2, r3, r4, r5, r6, r7, r8, r9, r10, r11, r12, r13, r14, r15, r16, r17⟩, -, d3⟩ := hq
  obtain ⟨-, d4⟩ := d3 hg
  have d5 : gI σ 43 (A 13 q) = H := d4.2.2.2.trans hH
  have hf2 := hf.1
  refine wm_X5_hasFaceAt hl ⟨fun n i => ∃ k : Nat, i = k ∧ k ≤ (fc D q).length ∧ n = 10 - k ∧ ∀ j, j < k → ¬ (((fc D q).getD j (0, 0, 0)).1 ≤ x ∧ x < ((fc D q).getD j (0, 0, 0)).1 + ((fc D q).getD j (0, 0, 0)).2.1 ∧ H - ((fc D q).getD j (0, 0, 0)).2.2 ≤ y), ⟨_, 0, rfl, Nat.zero_le _, rfl, fun j hj => absurd hj (Nat.not_lt_zero _)⟩, ?_⟩
  rintro n i ⟨k, rfl, hk, rfl, hno⟩
  rw [r7, r9, d5]
  have hsz := spec_sizeM (g := g) hl r11 r12
  rw [List.length_range] at hsz
  refine ⟨r1, r11, _, hsz, by unfold qR; omega, by unfold qR; omega, fun hd => ⟨rfl, ?_⟩, fun hd => ?_⟩
  · rw [cif_neg]
    rintro ⟨f, hf1, hf3⟩
    obtain ⟨j, hj, rfl⟩ := List.getElem_of_mem hf1
    have := hno j (by omega)
    rw [List.getD_eq_getElem?_getD, List.getElem?_eq_getElem hj] at this
    exact this hf3
  · have hkl : k < (fc D q).length := by omega
    obtain ⟨f1, f2, f3, f4⟩ := r17 k hkl
    have hmem : (fc D q).getD k (0, 0, 0) ∈ fc D q := by
      rw [List.getD_eq_getElem?_getD, List.getElem?_eq_getElem hkl]
      exact List.getElem_mem _
    have hwf := hf.2 _ hmem
    have hget := spec_getM (g := g) hl r11 r12 (i := (k : Int)) rfl (by rw [List.length_range]; omega)
    rw [List.getD_eq_getElem?_getD, List.getElem?_range (by omega)] at hget
    have hstep : ¬ (((fc D q).getD k (0, 0, 0)).1 ≤ x ∧ x < ((fc D q).getD k (0, 0, 0)).1 + ((fc D q).getD k (0, 0, 0)).2.1 ∧ H - ((fc D q).getD k (0, 0, 0)).2.2 ≤ y) → ∀ x22 : Int, x22 = (k : Int) + 1 → ∃ n24 : Nat, n24 < 10 - k ∧ ∃ k' : Nat, x22 = k' ∧ k' ≤ (fc D q).length ∧ n24 = 10 - k' ∧ ∀ j, j < k' → ¬ (((fc D q).getD j (0, 0, 0)).1 ≤ x ∧ x < ((fc D q).getD j (0, 0, 0)).1 + ((fc D q).getD j (0, 0, 0)).2.1 ∧ H - ((fc D q).getD j (0, 0, 0)).2.2 ≤ y) := by
      intro hh x22 h22
      refine ⟨_, ?_, k + 1, by omega, by omega, rfl, fun j hj => ?_⟩
      · omega
      · by_cases c : j = k
        · rw [c]; exact hh
        · exact hno j (by omega)
    refine ⟨A 15 (2 * q + k), hget, Or.inr f1, f1, hx, ?_⟩
    rw [f2, f3, f4]
    refine ⟨by unfold qR; omega, fun c1 => hstep (fun z => by omega), fun c1 => ⟨by unfold qR; omega, fun c2 => hstep (fun z => by omega), fun c2 => ⟨r15, hy, by unfold qR; omega, fun c3 => hstep (fun z => by omega), fun c3 => ⟨rfl, ?_⟩⟩⟩⟩
    rw [cif_pos ⟨_, hmem, by omega, by omega, by omega⟩]
theorem FB_eq (hw : WF0 D) {q j : Nat} (hq : alP D q) (hj : j < (hs D q).length) : FB D (bl D q j) = FBq D q j := by
  obtain ⟨z1, z2, z3, z4⟩ := ky_at hw hq hj
  unfold FB
  rw [z3, z4]
end
