/-! p36: a turn's work, the other cases -/
section
variable {D : qD} {f1 f2 f3 f4 : Int → Int}
theorem Ct_rd (h : Ct D f1 f2 f3 f4) {ks : List Nat} {v : Int} : Ct (dRd D ks v) f1 f2 f3 f4 := by
  obtain ⟨c1, c2, c3, c4⟩ := h
  exact ⟨c1, c2, c3, c4⟩
theorem NoA_rd (h : NoA D) {ks : List Nat} {v : Int} : NoA (dRd D ks v) := fun b hb' => h b hb'
theorem he_rd {ks : List Nat} {v : Int} : he (dRd D ks v) = v := rfl
theorem kp_rd {ks : List Nat} {v : Int} : kp (dRd D ks v) = ks := rfl
theorem Ct_forth (h : Ct D f1 f2 f3 f4) : Ct (d_forth D) f1 f2 f3 f4 := by
  unfold d_forth dGo
  split
  · exact h
  · split <;> exact Ct_rd h
theorem Ct_back (h : Ct D f1 f2 f3 f4) : Ct (d_back D) f1 f2 f3 f4 := by
  unfold d_back
  split
  · exact h
  · exact Ct_rd h
theorem NoA_forth (h : NoA D) : NoA (d_forth D) := by
  unfold d_forth dGo
  split
  · exact h
  · split <;> exact NoA_rd h
theorem NoA_back (h : NoA D) : NoA (d_back D) := by
  unfold d_back
  split
  · exact h
  · exact NoA_rd h
theorem nx_forth : nq (d_forth D) = nq D ∧ nb (d_forth D) = nb D := by
  unfold d_forth dGo
  split
  · exact ⟨rfl, rfl⟩
  · split <;> exact ⟨rfl, rfl⟩
theorem nx_back : nq (d_back D) = nq D ∧ nb (d_back D) = nb D := by
  unfold d_back
  split <;> exact ⟨rfl, rfl⟩
/-- the reader opened, gone forth and back, is where it opened -/
theorem he_back : he (d_back (d_forth (d_open D))) = nxt D (-1) := by
  have e1 : he (d_open D) = nxt D (-1) := rfl
  have e2 : kp (d_open D) = [] := rfl
  by_cases c : he (d_open D) = -1 ∨ nxt (d_open D) (he (d_open D)) = -1
  · have e3 : d_forth (d_open D) = d_open D := by unfold d_forth; rw [if_pos c]
    have e4 : d_back (d_open D) = d_open D := by unfold d_back; rw [if_pos (by rw [e2]; rfl)]
    rw [e3, e4, e1]
  · have h1 : he (d_open D) ≠ -1 := fun z => c (Or.inl z)
    have e3 : d_forth (d_open D) = dRd (d_open D) [(he (d_open D)).toNat] (nxt (d_open D) (he (d_open D))).toNat := by
      unfold d_forth dGo
      rw [if_neg c, if_neg h1, e2]; rfl
    rw [e3]
    unfold d_back
    rw [kp_rd, if_neg (by simp), he_rd]
    unfold lastK
    rw [kp_rd]
    have : (([(he (d_open D)).toNat].getD ([(he (d_open D)).toNat].length - 1) 0 : Nat) : Int) = ((he (d_open D)).toNat : Int) := rfl
    rw [this, e1]
    rcases nxt_al (D := D) (-1) with z | z
    · rw [e1] at h1; exact absurd z h1
    · omega
theorem nxt_b (hw : WF0 D) (v : Int) : -1 ≤ nxt D v ∧ nxt D v ≤ 50 := by
  have := hw.1
  rcases nxt_al (D := D) v with z | z
  · omega
  · have := z.2.1; omega
theorem forth_b (hw : WF0 D) : -1 ≤ o_forth D ∧ o_forth D ≤ 50 := by
  unfold o_forth
  have := nxt_b hw (he D)
  split <;> omega
theorem back_b (hw : WF0 D) : -1 ≤ o_back D ∧ o_back D ≤ 50 := by
  unfold o_back
  by_cases c : (kp D).length = 0
  · rw [if_pos c]; omega
  · rw [if_neg c]
    have h1 : lastK D ∈ kp D := by
      unfold lastK
      have hl : (kp D).length - 1 < (kp D).length := by omega
      rw [List.getD_eq_getElem?_getD, List.getElem?_eq_getElem hl]
      exact List.getElem_mem _
    have h2 := (hw.2.2.2.2.2.2.2.1 _ h1).1
    have := hw.1
    omega
theorem sm_c {f : Nat → Int} {c : Int} : ∀ {n : Nat}, (∀ i, i < n → 0 ≤ f i ∧ f i ≤ 8) → 0 ≤ sm f n ∧ sm f n ≤ 8 * n
  | 0, _ => by
    show (0 : Int) ≤ 0 ∧ (0 : Int) ≤ 8 * ((0 : Nat) : Int)
    omega
  | n + 1, h => by
    have ih := sm_c (c := c) (n := n) (fun i hi => h i (by omega))
    have := h n (by omega)
    show 0 ≤ sm f n + f n ∧ sm f n + f n ≤ 8 * ((n + 1 : Nat) : Int)
    omega
end
section
variable {g : qG} {l : Launch} {nm : String} {hh : List (Nat × Nat × Nat × Nat)} {ca sa : Nat} {A : Nat → Nat → Nat} {D : qD} {σ : qS} {Post : qS → qRs → Prop} {sc x pg mn fa of : Nat} {nP nB aN tn v w wh p b it iu : Int} {K : Nat}
theorem op_movep (hl : l.stackTraces = false) (h : Lw A D σ x pg mn fa of nP nB aN K) (hK : K ≤ 400) (hit : it = 0 ∨ (it = 1 ∧ ∃ q : Nat, p = (q : Int) ∧ alP D q)) (kn : Kn g l nm hh ca sa Post sc x pg mn fa of tn w (K + 3)) : qW g l (M_law nm hh) (ca + 200) (sa + 4000) 516 (l3 sc x pg mn fa of nP nB aN tn v w wh p b it iu) [] σ Post := by
  have h0 := h
  obtain ⟨hB, hct, rfl, rfl, ha, hno, hk⟩ := h
  have hS := hB.2.2.2.2.1
  have hw := hB.2.2.2.1
  have hnq := hS.2.1
  have hnp := hS.1
  refine ls_movep hl ⟨by rcases hit with z | z <;> (unfold qR; omega), fun _ => kn A D σ _ _ _ (Lw_le h0), fun hne => ?_⟩
  obtain ⟨q, rfl, hq⟩ := (hit.resolve_left hne).2
  have hqn := hq.1
  obtain ⟨hpn, hmq⟩ := alP_home hw.1 hq
  have hg : gA σ pg (q : Int) = (hp D q : Int) := by rw [hct.1 q hqn, if_pos hq.2]
  have hpos := (ixP_lt hw.1 hq).1
  have hpn4 := hS.2.2.2.1 _ hpn
  refine ⟨by unfold qR; omega, fun _ => kn A D σ _ _ _ (Lw_le h0), fun haz => ⟨Lw_A hB rpg, Lw_in hB rpg ⟨by omega, by omega⟩, Lb_x hB, _, _, by rw [hg]; exact lq_panels hl hB hpn, fun σ2 v2 hM => ?_, fun _ _ z => z⟩⟩
  obtain ⟨rfl, rfl⟩ := hM
  obtain ⟨z2, m2, a2, c2⟩ := spec_low (g := g) (σ := σ2) hl (v := (Int32.ofInt w >>> (Int32.ofInt 6 &&& 31)).toInt) (n := (pn D (hp D q) : Int)) ⟨by omega, by omega⟩
  obtain ⟨ii, rfl⟩ := Int.eq_ofNat_of_zero_le a2
  refine ⟨_, m2, Lb_x hB, _, _, lc_movePanel hl hB (hno haz) hq (by omega), fun σ7 v9 hM => ?_, fun _ _ z => z⟩
  obtain ⟨rfl, A', b1, ⟨s1, s2, s3, s4⟩, k1⟩ := hM
  have hpn' : hp D q < np (dMv D q ii) := hpn
  have hg1 : gA σ7 pg (q : Int) = (hp D q : Int) := by rw [s1]; exact hg
  have hchg : 0 ≤ chg D (dMv D q ii) (hp D q) ∧ chg D (dMv D q ii) (hp D q) ≤ pn (dMv D q ii) (hp D q) := ct_n _
  have hpn8 := b1.2.2.2.2.1.2.2.2.1 _ hpn'
  refine ⟨Lw_A b1 rpg, Lw_in b1 rpg ⟨by omega, by omega⟩, Lb_x b1, _, _, by rw [hg1]; exact lq_panels hl b1 hpn', fun σ9 v10 hM => ?_, fun _ _ z => z⟩
  obtain ⟨rfl, rfl⟩ := hM
  refine ⟨⟨by unfold qR; omega, by unfold qR; omega⟩, fun v16 h16 => ?_⟩
  rw [if_neg (by omega)] at h16
  subst h16
  refine kn A' _ σ9 _ _ _ ⟨b1, by rw [s1, s2, s3, s4]; exact hct, rfl, rfl, ⟨by omega, by omega⟩, hno, by omega⟩
theorem op_mb (hl : l.stackTraces = false) (h : Lw A D σ x pg mn fa of nP nB aN K) (hK : K ≤ 400) (hiu : iu = 0 ∨ (iu = 1 ∧ ∃ q : Nat, b = (q : Int) ∧ alB D q)) {to : Int} (hto : 0 ≤ to ∧ (nP ≠ 0 → to < nP)) (kn : Kn g l nm hh ca sa Post sc x pg mn fa of tn w (K + 3)) : qW g l (M_law nm hh) (ca + 200) (sa + 4000) 595 (l3 sc x pg mn fa of nP nB aN tn v w wh p b it iu) [vi to] σ Post := by
  have h0 := h
  obtain ⟨hB, hct, rfl, rfl, ha, hno, hk⟩ := h
  have hS := hB.2.2.2.2.1
  have hw := hB.2.2.2.1
  have hnq := hS.2.1
  have hnb := hS.2.2.1
  refine ls_mb hl ⟨by rcases hiu with z | z <;> (unfold qR; omega), fun _ => kn A D σ _ _ _ (Lw_le h0), fun hne => ?_⟩
  obtain ⟨c, rfl, hc⟩ := (hiu.resolve_left hne).2
  have hcn := hc.1
  obtain ⟨hal, hm⟩ := alB_home hw.1 hc
  have haln := hal.1
  have hg4 : gA σ of (c : Int) = (hb D c : Int) := by rw [hct.2.2.2 c hcn, if_pos hc.2]
  obtain ⟨q, rfl⟩ := Int.eq_ofNat_of_zero_le hto.1
  have hqn : q < nq D := by have := hto.2 (by omega); omega
  have hg1 := hct.1 q hqn
  by_cases haz : aN = 0
  rotate_left
  · exact ⟨by unfold qR; omega, fun _ => kn A D σ _ _ _ (Lw_le h0), fun z => absurd z haz⟩
  refine ⟨by unfold qR; omega, fun _ => kn A D σ _ _ _ (Lw_le h0), fun _ => ⟨Lw_A hB rpg, Lw_in hB rpg ⟨by omega, by omega⟩, ?_, fun _ => kn A D σ _ _ _ (Lw_le h0), fun hge => ?_⟩⟩
  · rw [hg1]
    have := hw.1.1
    have := (hw.1.2.2.2.2.1 q hqn).2.1
    split <;> (unfold qR; omega)
  have hgq : gq D q = 0 := by
    by_cases z : gq D q = 0
    · exact z
    · rw [hg1, if_neg z] at hge; omega
  have hq : alP D q := ⟨hqn, hgq⟩
  have hm2 := (hct.2.1 q hq).1
  have hsl := (hS.2.2.2.2.1 q hq).2.1
  have hmh := (hct.2.1 _ hal).1
  refine ⟨Lw_A hB rof, Lw_in hB rof ⟨by omega, by omega⟩, by unfold qR; omega, by rw [hg4]; unfold qR; omega, fun _ => kn A D σ _ _ _ (Lw_le h0), fun hne2 => ⟨Lw_A hB rmn, Lw_in hB rmn ⟨by omega, by omega⟩, by rw [hm2]; unfold qR; omega, fun _ => kn A D σ _ _ _ (Lw_le h0), fun hlt2 => ⟨by rw [hg4]; exact Lw_in hB rmn ⟨by omega, by omega⟩, (hB.2.2.2.2.2 _ rmn).1, fun σ8 h8 => ?_⟩⟩⟩
  have hne3 : q ≠ hb D c := fun z => hne2 (by rw [hg4, z])
  rw [hm2] at hlt2
  rw [hg4] at h8
  have b2 := Lb_w2 hB rmn h8
  have e8 : gA σ8 mn = fup (gA σ mn) (hb D c : Int) (gA σ mn (hb D c : Int) - 1) := by rw [h8, gA_w]
  have e8q : gA σ8 mn (q : Int) = ((hs D q).length : Int) := by
    rw [e8, ← hm2]
    unfold fup
    rw [if_neg (by omega)]
  rw [e8q]
  obtain ⟨z2, m2, a2, c2⟩ := spec_low (g := g) (σ := σ8) hl (v := (Int32.ofInt w >>> (Int32.ofInt 11 &&& 31)).toInt) (n := ((hs D q).length : Int) + 1) ⟨by omega, by omega⟩
  obtain ⟨ii, rfl⟩ := Int.eq_ofNat_of_zero_le a2
  refine ⟨_, m2, Lb_x b2, _, _, lc_moveBalloon hl b2 (hno haz) hc hq hne3 (by omega) (by omega), fun σ7 hM => ?_, fun _ _ z => z⟩
  obtain ⟨A', b1, ⟨s1, s2, s3, s4⟩, k1⟩ := hM
  refine ⟨(b1.2.2.2.2.2 _ rof).1, Lw_in b1 rof ⟨by omega, by omega⟩, fun σ9 h9 => ?_⟩
  have b3 := Lb_w2 b1 rof h9
  refine ⟨Lw_A b3 rmn, Lw_in b3 rmn ⟨by omega, by omega⟩, (b3.2.2.2.2.2 _ rmn).1, fun σ10 h10 => ?_⟩
  have b4 := Lb_w2 b3 rmn h10
  obtain ⟨n1, n2, n3, n4, n5, n6⟩ := Lb_ne b1
  have e9 : gA σ9 mn = gA σ8 mn := by rw [h9, gA_w' n5, s2]
  have e1 : gA σ10 pg = gA σ pg := by rw [h10, gA_w' n1, h9, gA_w' n3, s1, h8, gA_w' n1]
  have e2 : gA σ10 mn = fup (fup (gA σ mn) (hb D c : Int) (gA σ mn (hb D c : Int) - 1)) (q : Int) (gA σ mn (q : Int) + 1) := by
    rw [h10, gA_w, e9, e8q, hm2, e8]
  have e3 : gA σ10 fa = gA σ fa := by rw [h10, gA_w' n4.symm, h9, gA_w' n6, s3, h8, gA_w' n4.symm]
  have e4 : gA σ10 of = fup (gA σ of) (c : Int) (q : Int) := by rw [h10, gA_w' n5.symm, h9, gA_w, s4, h8, gA_w' n5.symm]
  refine kn A' _ σ10 _ _ _ ⟨b4, by rw [e1, e2, e3, e4]; exact Ct_Mb hw.1 hct hc hq hne3 (by omega), rfl, rfl, ⟨by omega, by omega⟩, fun z => NoA_Mb (hno z), by omega⟩
theorem op_an (hl : l.stackTraces = false) (h : Lw A D σ x pg mn fa of nP nB aN K) (hK : K ≤ 400) (hiu : iu = 0 ∨ (iu = 1 ∧ ∃ q : Nat, b = (q : Int) ∧ alB D q)) {ot : Int} (hot : 0 ≤ ot ∧ (nB ≠ 0 → ot < nB)) (kn : Kn g l nm hh ca sa Post sc x pg mn fa of tn w (K + 3)) : qW g l (M_law nm hh) (ca + 200) (sa + 4000) 709 (l3 sc x pg mn fa of nP nB aN tn v w wh p b it iu) [vi ot] σ Post := by
  have h0 := h
  obtain ⟨hB, hct, rfl, rfl, ha, hno, hk⟩ := h
  have hS := hB.2.2.2.2.1
  have hw := hB.2.2.2.1
  have hnq := hS.2.1
  have hnb := hS.2.2.1
  refine ls_an hl ⟨by rcases hiu with z | z <;> (unfold qR; omega), fun _ => kn A D σ _ _ _ (Lw_le h0), fun hne => ?_⟩
  obtain ⟨c, rfl, hc⟩ := (hiu.resolve_left hne).2
  have hcn := hc.1
  obtain ⟨o, rfl⟩ := Int.eq_ofNat_of_zero_le hot.1
  have hon : o < nb D := by have := hot.2 (by omega); omega
  have hg4 := hct.2.2.2 o hon
  refine ⟨Lw_A hB rof, Lw_in hB rof ⟨by omega, by omega⟩, ?_, fun _ => kn A D σ _ _ _ (Lw_le h0), fun hge => ?_⟩
  · rw [hg4]
    have := (hw.1.2.2.2.2.2.1 o hon).2.1
    split <;> (unfold qR; omega)
  have hgb : gb D o = 0 := by
    by_cases z : gb D o = 0
    · exact z
    · rw [hg4, if_neg z] at hge; omega
  have ho : alB D o := ⟨hon, hgb⟩
  have ho1 := cnt_b hw.1 ho
  have hc1 := cnt_b hw.1 hc
  refine ⟨Lb_x hB, _, _, lq_placeOf hl hB ho, fun σ2 v2 hM => ?_, fun _ _ z => z⟩
  obtain ⟨rfl, rfl⟩ := hM
  refine ⟨Lb_x hB, _, _, lq_placeOf hl hB hc, fun σ3 v3 hM => ?_, fun _ _ z => z⟩
  obtain ⟨rfl, rfl⟩ := hM
  refine ⟨by unfold qR; omega, by unfold qR; omega, fun _ => kn A D σ3 _ _ _ (Lw_le h0), fun hlt => ?_⟩
  have hky : ky D o < ky D c := by
    rcases Int.lt_or_le (ky D o) (ky D c) with z | z
    · exact z
    · have := cnt_mono (D := D) z; omega
  refine ⟨Lb_x hB, _, _, lc_answer hl hB hc ho hky, fun σ7 v9 hM => ?_, fun _ _ z => z⟩
  obtain ⟨rfl, A', b1, ⟨s1, s2, s3, s4⟩, k1⟩ := hM
  have han := (an_Q hw.1 hcn).1
  have hw' := b1.2.2.2.1
  have hc' : alB (dAn D c (o : Int)) c := hc
  have ho' : alB (dAn D c (o : Int)) o := ho
  have hac : an (dAn D c (o : Int)) c = (o : Int) := by rw [an_at, if_pos rfl]
  have hd1 := depth_le hw' hc'
  have hd2 := depth_le hw' ho'
  have hcb := cnt_b hw'.1 hc'
  have hob := cnt_b hw'.1 ho'
  have hnb' := b1.2.2.2.2.1.2.2.1
  refine ⟨han, fun v39 h39 x45 h45 => ⟨Lb_x b1, _, _, lq_depth hl b1 hc', fun σ9 v10 hM => ?_, fun _ _ z => z⟩⟩
  obtain ⟨rfl, rfl⟩ := hM
  refine ⟨Lb_x b1, _, _, lq_depth hl b1 ho', fun σ10 v11 hM => ?_, fun _ _ z => z⟩
  obtain ⟨rfl, rfl⟩ := hM
  have hds := depth_s hw' ho'
  rw [hac] at hd1 ⊢
  refine ⟨⟨by unfold qR; omega, by unfold qR; omega⟩, fun v16 h16 => ?_⟩
  rw [if_neg (fun z => z (by omega))] at h16
  subst h16
  have h39' : (v39 = 0 ∧ 0 ≤ an D c) ∨ (v39 = 1 ∧ an D c < 0) := by
    by_cases z : 0 ≤ an D c
    · rw [if_pos z] at h39; exact Or.inl ⟨h39, z⟩
    · rw [if_neg z] at h39; exact Or.inr ⟨h39, by omega⟩
  refine kn A' _ σ10 _ _ _ ⟨b1, by rw [s1, s2, s3, s4]; exact hct, rfl, rfl, ⟨by omega, by omega⟩, fun z => ?_, by omega⟩
  exfalso
  rcases h39' with y | y
  · have hz : aN = 0 := by omega
    have := hno hz c hc
    omega
  · omega
theorem op_cutp (hl : l.stackTraces = false) (h : Lw A D σ x pg mn fa of nP nB aN K) (hK : K ≤ 400) {q : Nat} (hq : alP D q) (haz : aN = 0) (hz : gA σ mn (q : Int) = 0) (kn : Kn g l nm hh ca sa Post sc x pg mn fa of tn w (K + 3)) : qMet g l M_X7_cutPanel [vr x, vi (q : Int)] σ (qTi (fun σ' r => r = 0 ∧ Cg D σ x pg mn fa of (dCp D q) σ') (fun _ _ => False)) ∧ ∀ (σ7 : qS) (v9 : Int), (v9 = 0 ∧ Cg D σ x pg mn fa of (dCp D q) σ7) → ((qR v9) ∧ ∀ v22 : Int, v22 = (if ¬ v9 = 0 then 0 else 1) → gK σ7 pg = 20 ∧ q_in σ7 pg (q : Int) ∧ (∀ σ30 : qS, σ30 = sA σ7 pg (q : Int) (-1) → v22 = 1 ∧ qW g l (M_law nm hh) ca sa 1014 (lT sc x pg mn fa of nP nB aN tn w) [] σ30 Post)) := by
  obtain ⟨hB, hct, rfl, rfl, ha, hno, hk⟩ := h
  have hS := hB.2.2.2.2.1
  have hnq := hS.2.1
  have hqn := hq.1
  have hm := (hct.2.1 q hq).1
  have hs0 : hs D q = [] := List.eq_nil_of_length_eq_zero (by omega)
  refine ⟨lc_cutPanel hl hB (hno haz) (by omega) hq hs0, ?_⟩
  rintro σ7 v9 ⟨rfl, A', b1, ⟨s1, s2, s3, s4⟩, k1⟩
  refine ⟨by unfold qR; omega, fun v22 h22 => ⟨(b1.2.2.2.2.2 _ rpg).1, Lw_in b1 rpg ⟨by omega, by omega⟩, fun σ9 h9 => ⟨by rw [h22, if_neg (fun z => z rfl)], ?_⟩⟩⟩
  have b2 := Lb_w2 b1 rpg h9
  obtain ⟨n1, n2, n3, n4, n5, n6⟩ := Lb_ne b1
  have e1 : gA σ9 pg = fup (gA σ pg) (q : Int) (-1) := by rw [h9, gA_w, s1]
  have e2 : gA σ9 mn = gA σ mn := by rw [h9, gA_w' n1.symm, s2]
  have e3 : gA σ9 fa = gA σ fa := by rw [h9, gA_w' n2.symm, s3]
  have e4 : gA σ9 of = gA σ of := by rw [h9, gA_w' n3.symm, s4]
  exact kn A' _ σ9 _ _ _ ⟨b2, by rw [e1, e2, e3, e4]; exact Ct_Cp hct hq hs0, rfl, rfl, ⟨by omega, by omega⟩, fun z => NoA_Cp (hno z) hs0, by omega⟩
theorem op_cut (hl : l.stackTraces = false) (h : Lw A D σ x pg mn fa of nP nB aN K) (hK : K ≤ 400) (hit : it = 0 ∨ (it = 1 ∧ ∃ q : Nat, p = (q : Int) ∧ alP D q)) (hiu : iu = 0 ∨ (iu = 1 ∧ ∃ q : Nat, b = (q : Int) ∧ alB D q)) (kn : Kn g l nm hh ca sa Post sc x pg mn fa of tn w (K + 3)) : qW g l (M_law nm hh) (ca + 200) (sa + 4000) 798 (l3 sc x pg mn fa of nP nB aN tn v w wh p b it iu) [] σ Post := by
  have h0 := h
  obtain ⟨hB, hct, e5, e6, ha, hno, hk⟩ := h
  have hS := hB.2.2.2.2.1
  have hw := hB.2.2.2.1
  have hnq := hS.2.1
  have hnb := hS.2.2.1
  have qit : qR it := by rcases hit with z | z <;> (unfold qR; omega)
  have qan : qR aN := by unfold qR; omega
  have k0 : qW g l (M_law nm hh) ca sa 1014 (lT sc x pg mn fa of nP nB aN tn w) [] σ Post := kn A D σ _ _ _ (Lw_le h0)
  refine ls_cut hl ⟨by rcases hiu with z | z <;> (unfold qR; omega), fun _ => ⟨qit, fun _ => k0, fun hne => ⟨qan, fun _ => k0, fun haz => ?_⟩⟩, fun hne => ⟨qan, fun hna => ⟨qit, fun _ => k0, fun _ => ⟨fun _ => k0, fun haz => absurd haz hna⟩⟩, fun haz => ?_⟩⟩
  · obtain ⟨q, rfl, hq⟩ := (hit.resolve_left hne).2
    have hqn := hq.1
    have hm := (hct.2.1 q hq).1
    have hsl := (hS.2.2.2.2.1 q hq).2.1
    refine ⟨Lw_A hB rmn, Lw_in hB rmn ⟨by omega, by omega⟩, by rw [hm]; unfold qR; omega, fun _ => k0, fun hz => ?_⟩
    obtain ⟨c1, c2⟩ := op_cutp hl h0 hK hq haz hz kn
    refine ⟨Lb_x hB, _, _, c1, fun σ7 v9 hM => ?_, fun _ _ z => z⟩
    obtain ⟨d1, d2⟩ := c2 σ7 v9 hM
    refine ⟨d1, fun v22 h22 => ?_⟩
    obtain ⟨f1, f2, f3⟩ := d2 v22 h22
    refine ⟨f1, f2, fun σ9 h9 => ?_⟩
    obtain ⟨g1, g2⟩ := f3 σ9 h9
    subst g1
    exact g2
  · obtain ⟨c, rfl, hc⟩ := (hiu.resolve_left hne).2
    have hcn := hc.1
    obtain ⟨hal, hm⟩ := alB_home hw.1 hc
    have haln := hal.1
    have hg4 : gA σ of (c : Int) = (hb D c : Int) := by rw [hct.2.2.2 c hcn, if_pos hc.2]
    refine ⟨Lb_x hB, _, _, lc_cutBalloon hl hB (hno haz) hc, fun σ7 v9 hM => ?_, fun _ _ z => z⟩
    obtain ⟨rfl, A', b1, ⟨s1, s2, s3, s4⟩, k1⟩ := hM
    have hg4' : gA σ7 of (c : Int) = (hb D c : Int) := by rw [s4]; exact hg4
    rw [hg4']
    refine ⟨Lw_A b1 rof, Lw_in b1 rof ⟨by omega, by omega⟩, ⟨by unfold qR; omega, by unfold qR; omega⟩, fun v16 h16 => ?_⟩
    rw [if_neg (fun z => z rfl)] at h16
    subst h16
    refine ⟨Lw_A b1 rmn, Lw_in b1 rmn ⟨by omega, by omega⟩, (b1.2.2.2.2.2 _ rmn).1, fun σ8 h8 => ?_⟩
    have b2 := Lb_w2 b1 rmn h8
    refine ⟨(b2.2.2.2.2.2 _ rof).1, fun σ9 h9 => ?_⟩
    have b3 := Lb_w2 b2 rof h9
    obtain ⟨n1, n2, n3, n4, n5, n6⟩ := Lb_ne b1
    have e1 : gA σ9 pg = gA σ pg := by rw [h9, gA_w' n3, h8, gA_w' n1, s1]
    have e2 : gA σ9 mn = fup (gA σ mn) (hb D c : Int) (gA σ mn (hb D c : Int) - 1) := by rw [h9, gA_w' n5, h8, gA_w, s2]
    have e3 : gA σ9 fa = gA σ fa := by rw [h9, gA_w' n6, h8, gA_w' n4.symm, s3]
    have e4 : gA σ9 of = fup (gA σ of) (c : Int) (-1) := by rw [h9, gA_w, h8, gA_w' n5.symm, s4]
    exact kn A' _ σ9 _ _ _ ⟨b3, by rw [e1, e2, e3, e4]; exact Ct_Cb hw.1 hct hc, e5, e6, ⟨by omega, by omega⟩, fun z => NoA_Cb (hno z), by omega⟩
theorem op_tr (hl : l.stackTraces = false) (h : Lw A D σ x pg mn fa of nP nB aN K) (hn0 : 0 < np D) (kn : Kn g l nm hh ca sa Post sc x pg mn fa of tn w (K + 3)) : qW g l (M_law nm hh) (ca + 200) (sa + 4000) 904 (l3 sc x pg mn fa of nP nB aN tn v w wh p b it iu) [] σ Post := by
  obtain ⟨hB, hct, rfl, rfl, ha, hno, hk⟩ := h
  have hS := hB.2.2.2.2.1
  have hnp := hS.1
  obtain ⟨z1, m1, a1, c1⟩ := spec_low (g := g) (σ := σ) hl (v := w) (n := (np D : Int)) ⟨by omega, by omega⟩
  obtain ⟨z2, m2, a2, c2⟩ := spec_low (g := g) (σ := σ) hl (v := (Int32.ofInt w >>> (Int32.ofInt 4 &&& 31)).toInt) (n := 3) ⟨by omega, by omega⟩
  obtain ⟨pp, rfl⟩ := Int.eq_ofNat_of_zero_le a1
  have hpp : pp < np D := by omega
  refine ls_tr hl ⟨Lb_x hB, _, lq_pages hl hB, _, m1, _, m2, _, _, lc_translate hl hB hpp ⟨by omega, by omega⟩, fun σ7 v9 hM => ?_, fun _ _ z => z⟩
  obtain ⟨rfl, A', b1, ⟨s1, s2, s3, s4⟩, k1⟩ := hM
  have hpn' : pp < np (dTg D pp z2) := hpp
  have hchg : 0 ≤ chg D (dTg D pp z2) pp ∧ chg D (dTg D pp z2) pp ≤ pn (dTg D pp z2) pp := ct_n _
  have hpn8 := b1.2.2.2.2.1.2.2.2.1 _ hpn'
  refine ⟨by unfold qR; omega, fun v16 h16 => ?_⟩
  rw [if_neg (by omega)] at h16
  subst h16
  exact kn A' _ σ7 _ _ _ ⟨b1, by rw [s1, s2, s3, s4]; exact hct, rfl, rfl, ⟨by omega, by omega⟩, hno, by omega⟩
theorem op_gr (hl : l.stackTraces = false) (h : Lw A D σ x pg mn fa of nP nB aN K) (kn : Kn g l nm hh ca sa Post sc x pg mn fa of tn w (K + 3)) : qW g l (M_law nm hh) (ca + 200) (sa + 4000) 936 (l3 sc x pg mn fa of nP nB aN tn v w wh p b it iu) [] σ Post := by
  obtain ⟨hB, hct, rfl, rfl, ha, hno, hk⟩ := h
  have hS := hB.2.2.2.2.1
  have hnp := hS.1
  obtain ⟨z1, m1, a1, c1⟩ := spec_low (g := g) (σ := σ) hl (v := w) (n := 3) ⟨by omega, by omega⟩
  obtain ⟨z2, m2, a2, c2⟩ := spec_low (g := g) (σ := σ) hl (v := (Int32.ofInt w >>> (Int32.ofInt 4 &&& 31)).toInt) (n := 201) ⟨by omega, by omega⟩
  refine ls_gr hl ⟨_, m1, _, m2, Lb_x hB, _, _, lc_setGrowth hl hB ⟨by omega, by omega⟩ ⟨by omega, by omega⟩, fun σ7 v9 hM => ?_, fun _ _ z => z⟩
  obtain ⟨rfl, A', b1, ⟨s1, s2, s3, s4⟩, k1⟩ := hM
  have hsum := sm_c (c := 0) (f := chg D (dGr D z1.toNat (50 + z2))) (n := np D) (fun i hi => by
    have hchg : 0 ≤ chg D (dGr D z1.toNat (50 + z2)) i ∧ chg D (dGr D z1.toNat (50 + z2)) i ≤ pn (dGr D z1.toNat (50 + z2)) i := ct_n _
    have hpn8 := b1.2.2.2.2.1.2.2.2.1 i hi
    omega)
  refine ⟨by unfold qR; omega, fun v16 h16 => ?_⟩
  rw [if_neg (by omega)] at h16
  subst h16
  exact kn A' _ σ7 _ _ _ ⟨b1, by rw [s1, s2, s3, s4]; exact hct, rfl, rfl, ⟨by omega, by omega⟩, hno, by omega⟩
theorem op_rd (hl : l.stackTraces = false) (h : Lw A D σ x pg mn fa of nP nB aN K) (hK : K ≤ 400) (kn : Kn g l nm hh ca sa Post sc x pg mn fa of tn w (K + 3)) : qW g l (M_law nm hh) (ca + 200) (sa + 4000) 972 (l3 sc x pg mn fa of nP nB aN tn v w wh p b it iu) [] σ Post := by
  obtain ⟨hB, hct, rfl, rfl, ha, hno, hk⟩ := h
  have hw := hB.2.2.2.1
  have hn1 := nxt_b hw.1 (-1)
  refine ls_rd hl ⟨Lb_x hB, _, lc_open hl hB, fun σ7 v9 hM => ?_⟩
  obtain ⟨rfl, A1, b1, ⟨s1, s2, s3, s4⟩, k1⟩ := hM
  have hf := forth_b b1.2.2.2.1.1
  refine ⟨Lb_x b1, _, lc_forth hl b1 (by omega), fun σ8 v10 hM => ?_⟩
  obtain ⟨rfl, A2, b2, ⟨t1, t2, t3, t4⟩, k2⟩ := hM
  have hbk := back_b b2.2.2.2.1.1
  refine ⟨by unfold qR; omega, fun _ => ⟨Lb_x b2, _, lc_back hl b2 (by omega), fun σ9 v11 hM => ?_⟩, fun z => absurd hf.1 z⟩
  obtain ⟨rfl, A3, b3, ⟨u1, u2, u3, u4⟩, k3⟩ := hM
  refine ⟨by unfold qR; omega, fun _ => ⟨Lb_x b3, _, lq_here hl b3, ?_⟩, fun z => absurd hbk.1 z⟩
  rw [he_back]
  refine ⟨⟨by unfold qR; omega, by unfold qR; omega⟩, fun v16 h16 => ?_⟩
  rw [if_neg (fun z => z rfl)] at h16
  subst h16
  refine kn A3 _ σ9 _ _ _ ⟨b3, by rw [u1, u2, u3, u4, t1, t2, t3, t4, s1, s2, s3, s4]; exact Ct_back (Ct_forth (Ct_rd hct)), ?_, ?_, ⟨by omega, by omega⟩, fun z => NoA_back (NoA_forth (NoA_rd (hno z))), by omega⟩
  · rw [nx_back.1, nx_forth.1]; rfl
  · rw [nx_back.2, nx_forth.2]; rfl
end
