/-! p36: the law's small methods, and its look at a page -/
theorem and31 (v : Int) : 0 ≤ (Int32.ofInt v &&& Int32.ofInt 2147483647).toInt ∧ (Int32.ofInt v &&& Int32.ofInt 2147483647).toInt < 2147483648 := by
  have hm : (Int32.ofInt v &&& Int32.ofInt 2147483647).toBitVec.msb = false := by
    rw [Int32.toBitVec_and, BitVec.msb_and]
    have : (Int32.ofInt 2147483647).toBitVec.msb = false := by decide
    rw [this, Bool.and_false]
  have h1 : (Int32.ofInt v &&& Int32.ofInt 2147483647).toInt = ((Int32.ofInt v &&& Int32.ofInt 2147483647).toBitVec.toNat : Int) := BitVec.toInt_eq_toNat_of_msb hm
  have h2 := Int32.toInt_lt (Int32.ofInt v &&& Int32.ofInt 2147483647)
  omega
section
variable {g : qG} {l : Launch} {A : Nat → Nat → Nat} {D : qD} {σ : qS}
theorem spec_low (hl : l.stackTraces = false) {v n : Int} (hn : 0 < n ∧ n ≤ 1000) : ∃ z : Int, qMet g l M_L_low [vi v, vi n] σ (qPi σ z) ∧ 0 ≤ z ∧ z < n :=
  ⟨_, wm_L_low hl ⟨and31 v, ⟨hn.1, by omega⟩, rfl, rfl⟩, Int.emod_nonneg _ (by omega), Int.emod_lt_of_pos _ hn.1⟩
theorem spec_lcell (hl : l.stackTraces = false) {sc : Nat} (hsc : sc = g.2.2.1 8 + 1) (hL : @LE.le Nat instLENat (g.2.2.1 9) 3072) {k : Int} (hk : 0 ≤ k ∧ k ≤ 1000) : ∃ z : Int, qMet g l M_L_cell [vr sc, vi k] σ (qPi σ z) := by
  by_cases c : (g.2.2.1 9 : Int) ≤ k
  · refine ⟨7919 * (k + 3) * (k + 11), ?_⟩
    refine qMet_of hl (by decide +kernel) (Nat.le_of_ble_eq_true rfl) (List.forall_mem_cons.mpr ⟨trivial, List.forall_mem_cons.mpr ⟨trivial, fun _ h => nomatch h⟩⟩) ?_
    show qW g l M_L_cell 0 0 0 [some (vr sc), some (vi k)] [] σ _
    refine wp_iload_n dL_cell_0 rfl ?_
    refine wp_aload_n dL_cell_1 rfl ?_
    refine wp_alenS hsc dL_cell_2 ?_
    refine wp_icmp_ge (tgt := 12) dL_cell_3 (by decide) (by unfold qR; omega) (by unfold qR; omega) (fun _ => ?_) (fun c9 => absurd c c9)
    refine wp_sipush dL_cell_12 (by decide) ?_
    refine wp_iload_n dL_cell_15 rfl ?_
    refine wp_iconst dL_cell_16 ?_
    refine wp_iadd dL_cell_17 ?_
    refine wp_imul dL_cell_18 ?_
    refine wp_iload_n dL_cell_19 rfl ?_
    refine wp_bipush dL_cell_20 (by decide) ?_
    refine wp_iadd dL_cell_22 ?_
    refine wp_imul dL_cell_23 ?_
    exact wp_ret_i dL_cell_24 rfl rfl ⟨rfl, rfl⟩
  · refine ⟨nrm (scv g k), ?_⟩
    refine qMet_of hl (by decide +kernel) (Nat.le_of_ble_eq_true rfl) (List.forall_mem_cons.mpr ⟨trivial, List.forall_mem_cons.mpr ⟨trivial, fun _ h => nomatch h⟩⟩) ?_
    show qW g l M_L_cell 0 0 0 [some (vr sc), some (vi k)] [] σ _
    refine wp_iload_n dL_cell_0 rfl ?_
    refine wp_aload_n dL_cell_1 rfl ?_
    refine wp_alenS hsc dL_cell_2 ?_
    refine wp_icmp_ge (tgt := 12) dL_cell_3 (by decide) (by unfold qR; omega) (by unfold qR; omega) (fun c9 => absurd c9 c) (fun _ => ?_)
    refine wp_aload_n dL_cell_6 rfl ?_
    refine wp_iload_n dL_cell_7 rfl ?_
    refine wp_ialoadS hsc dL_cell_8 hk.1 (by omega) ?_
    refine wp_goto (tgt := 24) dL_cell_9 (by decide) ?_
    exact wp_ret_i dL_cell_24 rfl rfl ⟨rfl, rfl⟩
theorem pnOk_c {q : Nat} (h : alP D q) : pnOk D (q : Int) := ⟨by omega, by rw [Int.toNat_natCast]; exact h⟩
theorem blOk_c {b : Nat} (h : alB D b) : blOk D (b : Int) := ⟨by omega, by rw [Int.toNat_natCast]; exact h⟩
theorem pgOk_c {p : Nat} (h : p < np D) : pgOk D (p : Int) := ⟨by omega, by omega⟩
theorem lies_at {q : Nat} {w : Int} (h : alP D q) (h0 : 0 ≤ w ∧ w ≤ 4) : o_lies D (q : Int) w = .inl (bxV (kq D q) (LB D q) w) := by
  unfold o_lies
  rw [cif_neg (fun z => z (pnOk_c h)), cif_pos h0, Int.toNat_natCast]
theorem floats_at {b : Nat} {w : Int} (h : alB D b) (h0 : 0 ≤ w ∧ w ≤ 4) : o_floats D (b : Int) w = .inl (bxV (hb D b) (FB D b) w) := by
  unfold o_floats
  rw [cif_neg (fun z => z (blOk_c h)), cif_pos h0, Int.toNat_natCast]
theorem rT_end (hw : WF D) {p : Nat} (hp' : p < np D) : rT D p (rowsOf D p) ≤ 50 := by
  have hP := WF0_Pg hw.1 hp'
  obtain ⟨h1, h2, h3⟩ := lsp_sp (fun k => rS D p k = pn D p) (pn D p)
  have e : lsp (fun k => rS D p k = pn D p) (pn D p) = rowsOf D p := rfl
  rw [e] at h1 h2 h3
  cases c : rowsOf D p with
  | zero => exact (by decide : (0 : Int) ≤ 50)
  | succ k =>
    have h4 := h2 k (by omega)
    have h5 := rS_le hP k
    have h6 : ¬ rS D p k = pn D p := h4
    exact (hw.2.1 p hp' k (by omega)).2
theorem row_lt' (hw : WF D) {p r : Nat} (hp' : p < np D) (h : r < rowsOf D p) : rS D p r < pn D p := by
  have hP := WF0_Pg hw.1 hp'
  obtain ⟨h1, h2, h3⟩ := lsp_sp (fun k => rS D p k = pn D p) (pn D p)
  have e : lsp (fun k => rS D p k = pn D p) (pn D p) = rowsOf D p := rfl
  rw [e] at h1 h2 h3
  have h4 : ¬ rS D p r = pn D p := h2 r h
  have h5 := rS_le hP r
  omega
theorem rowsOf_le {p : Nat} : rowsOf D p ≤ pn D p := (lsp_sp (fun k => rS D p k = pn D p) (pn D p)).1
/-- where the panel at k of a page lies -/
theorem pq_at (hw : WF D) {p k : Nat} (hp' : p < np D) (hk : k < pn D p) : alP D (pq D p k) ∧ kq D (pq D p k) = kOf D p k ∧ LB D (pq D p k) = pB D p (kOf D p k) k := by
  obtain ⟨g1, g2, g3, g4⟩ := hw.1.2.1 p hp'
  obtain ⟨a, b⟩ := g4 _ (pq_mem hk)
  have e : ixP D (pq D p k) = k := by
    unfold ixP
    rw [b]
    exact ix_at g2 hk
  refine ⟨a, ?_, ?_⟩
  · unfold kq; rw [b, e]
  · unfold LB kq; rw [b, e]
theorem spec_isPage (hl : l.stackTraces = false) (hA : qInj A) (h : CR A D σ) (hw : WF D) {p : Nat} (hp' : p < np D) : qMet g l M_L_isPage [vr (A 0 0), vi (p : Int)] σ (qPi σ 1) := by
  have hP := WF0_Pg hw.1 hp'
  have hok := hw.2.1 p hp'
  have hn := hw.1.1
  have hn8 := hP.2.2.1
  have hqp : qR (p : Int) := by unfold qR; omega
  have h8 := h.1.1
  have e1 : o_panels D (p : Int) = .inl (pn D p : Int) := by unfold o_panels; rw [cif_pos (pgOk_c hp'), Int.toNat_natCast]
  have e2 : o_rows D (p : Int) = .inl (rowsOf D p : Int) := by unfold o_rows; rw [cif_pos (pgOk_c hp'), Int.toNat_natCast]
  have hro : rowsOf D p ≤ pn D p := rowsOf_le
  have hT : ∀ r, r ≤ rowsOf D p → 0 ≤ rT D p r ∧ rT D p r ≤ 16 * r := by
    intro r
    induction r with
    | zero => intro _; exact ⟨Int.le_refl 0, by show (0 : Int) ≤ 16 * ((0 : Nat) : Int); decide⟩
    | succ r ih =>
      intro hr
      have := ih (by omega)
      have h2 := (hok r (row_lt' hw hp' (by omega))).1
      have h3 : rT D p (r + 1) = rT D p r + (rH D p (rS D p r) (rS D p (r + 1)) : Nat) := rfl
      rw [h3]
      omega
  refine wm_L_isPage hl ⟨h8, _, _, cq (spec_panels hl h hw.1 hqp) e1, fun σ1 v1 h1 => ?_, fun _ _ z => z⟩
  obtain ⟨rfl, rfl⟩ := h1
  refine ⟨fun n x10 x11 x12 σ' => ∃ r : Nat, x12 = r ∧ r ≤ rowsOf D p ∧ x10 = 1 ∧ x11 = rT D p r ∧ n = rowsOf D p - r ∧ σ' = σ1, ⟨rowsOf D p, by omega, 0, rfl, Nat.zero_le _, rfl, rfl, rfl, rfl⟩, ?_⟩
  rintro n x10 x11 x12 σ' ⟨r, rfl, hr, rfl, rfl, rfl, rfl⟩
  refine ⟨h8, _, _, cq (spec_rows hl h hw.1 hqp) e2, fun σ2 v2 h2 => ?_, fun _ _ z => z⟩
  obtain ⟨rfl, rfl⟩ := h2
  have hTr := hT r hr
  refine ⟨by unfold qR; omega, by unfold qR; omega, fun hd => ⟨⟨by unfold qR; omega, fun _ => by unfold qR; omega⟩, fun v36 h36 => ⟨rfl, ?_⟩⟩, fun hd => ?_⟩
  · have er : r = rowsOf D p := by omega
    have := rT_end hw hp'
    rw [h36, if_neg (by decide), if_neg (by rw [er]; omega)]
  have hk := row_lt' hw hp' (show r < rowsOf D p by omega)
  obtain ⟨n1, n2, -, -⟩ := rS_nx hP hk
  have hH : pH D p r = ((rH D p (rS D p r) (rS D p (r + 1)) : Nat) : Int) := rfl
  have hHb : 3 ≤ pH D p r ∧ pH D p r ≤ 16 := by
    have hb := pB_b hP hok hk (Nat.le_refl _) n1
    have hal := pq_at hw hp' hk
    have := (LB_fit hw hal.1).2.2
    have e : (LB D (pq D p (rS D p r))).2.2.2 = pH D p (kOf D p (rS D p r)) := by rw [hal.2.2]; rfl
    rw [e, kOf_eq hP hk (Nat.le_refl _) n1] at this
    exact this
  refine ⟨fun n x46 x47 x48 x49 σ' => ∃ k : Nat, x49 = k ∧ k ≤ pn D p ∧ x46 = 1 ∧ x47 = (if k ≤ rS D p r then 0 else pX D p r (min k (rS D p (r + 1)))) ∧ x48 = (if k ≤ rS D p r then 0 else pH D p r) ∧ n = pn D p - k ∧ σ' = σ2, ⟨pn D p, by omega, 0, rfl, Nat.zero_le _, rfl, by rw [if_pos (Nat.zero_le _)], by rw [if_pos (Nat.zero_le _)], rfl, rfl⟩, ?_⟩
  rintro n x46 x47 x48 x49 σ' ⟨k, rfl, hkn, rfl, h47, h48, rfl, rfl⟩
  refine ⟨by unfold qR; omega, by unfold qR; omega, fun hd2 => ?_, fun hd2 => ?_⟩
  · have ek : k = pn D p := by omega
    rw [if_neg (by omega), show min k (rS D p (r + 1)) = rS D p (r + 1) by omega, row_sum hP hk] at h47
    rw [if_neg (by omega)] at h48
    subst h47
    subst h48
    refine ⟨⟨by unfold qR; omega, fun _ => ⟨by unfold qR; omega, fun _ => by unfold qR; omega⟩⟩, fun v67 h67 x73 h73 x75 h75 => ⟨rowsOf D p - (r + 1), by omega, r + 1, by omega, by omega, ?_, ?_, rfl, rfl⟩⟩
    · rw [h67, if_neg (by decide), if_neg (by omega), if_neg (by omega), if_neg (by omega)]
    · rw [h73]; rfl
  · have hkn2 : k < pn D p := by omega
    obtain ⟨hal, hkq, hLB⟩ := pq_at hw hp' hkn2
    have hqn := hal.1
    have e3 : o_panelAt D (p : Int) (k : Int) = .inl (pq D p k : Int) := by
      unfold o_panelAt
      rw [cif_pos ⟨pgOk_c hp', by omega, by rw [Int.toNat_natCast]; omega⟩, Int.toNat_natCast, Int.toNat_natCast]
    have hqq : qR ((pq D p k : Nat) : Int) := by unfold qR; omega
    have sl : ∀ w : Int, 0 ≤ w → w ≤ 4 → qMet g l M_X7_lies [vr (A 0 0), vi ((pq D p k : Nat) : Int), vi w] σ' (qTi (fun σ'' v => σ'' = σ' ∧ v = bxV (kq D (pq D p k)) (LB D (pq D p k)) w) (fun _ _ => False)) := fun w w0 w4 => cq (spec_lies hl h hw.1 hqq (by unfold qR; omega)) (lies_at hal ⟨w0, w4⟩)
    refine ⟨h8, _, _, cq (spec_panelAt hl h hw.1 hqp (by unfold qR; omega)) e3, fun σ3 v3 h3 => ?_, fun _ _ z => z⟩
    obtain ⟨rfl, rfl⟩ := h3
    refine ⟨h8, _, _, sl 0 (by decide) (by decide), fun σ4 v4 h4 => ?_, fun _ _ z => z⟩
    obtain ⟨rfl, rfl⟩ := h4
    have b0 : bxV (kq D (pq D p k)) (LB D (pq D p k)) 0 = (kOf D p k : Int) := by rw [hkq]; rfl
    rw [b0]
    obtain ⟨k1, k2, k3⟩ := kOf_sp hP hkn2
    have hk8 : kOf D p k ≤ pn D p := (lsp_sp (fun t => k < rS D p (t + 1)) (pn D p)).1
    refine ⟨by unfold qR; omega, fun hne x105 h105 => ⟨pn D p - (k + 1), by omega, k + 1, by omega, by omega, rfl, ?_, ?_, rfl, rfl⟩, fun he => ?_⟩
    · rw [h47]
      by_cases c : k < rS D p r
      · rw [if_pos (by omega), if_pos (by omega)]
      · have : rS D p (r + 1) ≤ k := by
          rcases Nat.lt_or_ge k (rS D p (r + 1)) with d | d
          · exact absurd (kOf_eq hP hk (by omega) d) (by omega)
          · exact d
        rw [if_neg (by omega), if_neg (by omega), show min k (rS D p (r + 1)) = rS D p (r + 1) by omega, show min (k + 1) (rS D p (r + 1)) = rS D p (r + 1) by omega]
    · rw [h48]
      by_cases c : k < rS D p r
      · rw [if_pos (by omega), if_pos (by omega)]
      · have : rS D p (r + 1) ≤ k := by
          rcases Nat.lt_or_ge k (rS D p (r + 1)) with d | d
          · exact absurd (kOf_eq hP hk (by omega) d) (by omega)
          · exact d
        rw [if_neg (by omega), if_neg (by omega)]
    have ekr : kOf D p k = r := by omega
    rw [ekr] at k1 k2 k3 hLB
    obtain ⟨i1, i2, i3⟩ := pX_in hP hok hk k2 k3
    have b3 : bxV (kq D (pq D p k)) (LB D (pq D p k)) 3 = pWd D p r k := by rw [hLB]; rfl
    have b4 : bxV (kq D (pq D p k)) (LB D (pq D p k)) 4 = pH D p r := by rw [hLB]; rfl
    have b2 : bxV (kq D (pq D p k)) (LB D (pq D p k)) 2 = rT D p r := by rw [hLB]; rfl
    have b1 : bxV (kq D (pq D p k)) (LB D (pq D p k)) 1 = if tg D p = 1 then 24 - pX D p r k - pWd D p r k else pX D p r k := by rw [hLB]; rfl
    have b1b : 0 ≤ bxV (kq D (pq D p k)) (LB D (pq D p k)) 1 ∧ bxV (kq D (pq D p k)) (LB D (pq D p k)) 1 + pWd D p r k ≤ 24 := by
      rw [b1]; split <;> omega
    refine ⟨h8, _, _, sl 3 (by decide) (by decide), fun σ5 v5 h5 x117 h117 => ?_, fun _ _ z => z⟩
    obtain ⟨rfl, rfl⟩ := h5
    refine ⟨h8, _, _, sl 4 (by decide) (by decide), fun σ6 v6 h6 => ?_, fun _ _ z => z⟩
    obtain ⟨rfl, rfl⟩ := h6
    refine ⟨by unfold qR; omega, fun z => absurd z (by decide), fun _ => ⟨h8, _, _, sl 2 (by decide) (by decide), fun σ7 v7 h7 => ?_, fun _ _ z => z⟩⟩
    obtain ⟨rfl, rfl⟩ := h7
    rw [b2]
    refine ⟨by unfold qR; omega, by unfold qR; omega, fun z => absurd rfl z, fun _ => ⟨h8, _, _, sl 1 (by decide) (by decide), fun σ8 v8 h8' => ?_, fun _ _ z => z⟩⟩
    obtain ⟨rfl, rfl⟩ := h8'
    refine ⟨by unfold qR; omega, fun z => by omega, fun _ => ⟨h8, _, _, sl 1 (by decide) (by decide), fun σ9 v9 h9 => ?_, fun _ _ z => z⟩⟩
    obtain ⟨rfl, rfl⟩ := h9
    refine ⟨h8, _, _, sl 3 (by decide) (by decide), fun σ10 v10 h10 => ?_, fun _ _ z => z⟩
    obtain ⟨rfl, rfl⟩ := h10
    rw [b3, b4]
    rw [b3] at h117
    refine ⟨by unfold qR; omega, fun v182 h182 x188 h188 => ⟨pn D p - (k + 1), by omega, k + 1, by omega, by omega, ?_, ?_, ?_, rfl, rfl⟩⟩
    · rw [h182, if_neg (by omega)]
    · rw [h117, h47, if_neg (show ¬ k + 1 ≤ rS D p r by omega), show min (k + 1) (rS D p (r + 1)) = k + 1 by omega, pX_s]
      by_cases c : k = rS D p r
      · rw [if_pos (by omega), c, pX_0]
      · rw [if_neg (by omega), show min k (rS D p (r + 1)) = k by omega]
    · rw [if_neg (show ¬ k + 1 ≤ rS D p r by omega)]
end
