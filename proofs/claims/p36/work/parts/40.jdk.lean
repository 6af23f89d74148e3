/-! printed: the walks -/
set_option maxRecDepth 100000 in
set_option maxHeartbeats 4000000 in
theorem wm_Jxa1e45_init_da8c8 {g : qG} {l : Launch} (hl : l.stackTraces = false) {a0 : Nat} {σ : qS} {Post : qS → qRs → Prop}
    (h : a0 ≠ 0 ∧ Post σ (.inl none)) : qMet g l M_Jxa1e45_init_da8c8 [vr a0] σ Post := by
  refine qMet_of hl (by decide +kernel) (Nat.le_of_ble_eq_true rfl) (List.forall_mem_cons.mpr ⟨trivial, fun _ h => nomatch h⟩) ?_
  show qW g l M_Jxa1e45_init_da8c8 0 0 0 [some (vr a0)] [] σ Post
  refine wp_aload_n dJxa1e45_init_da8c8_0 rfl ?_
  obtain ⟨hz1, h⟩ := h
  refine wp_objInit dJxa1e45_init_da8c8_1 wd_43 hz1 (q_small_of (Nat.le_of_ble_eq_true rfl)) ⟨Nat.le_of_ble_eq_true rfl, Nat.le_of_ble_eq_true rfl⟩ ?_
  exact wp_ret_v dJxa1e45_init_da8c8_4 rfl h

set_option maxRecDepth 100000 in
set_option maxHeartbeats 4000000 in
theorem wm_Jxc12de_init_da8c8 {g : qG} {l : Launch} (hl : l.stackTraces = false) {a0 : Nat} {σ : qS} {Post : qS → qRs → Prop}
    (h : a0 ≠ 0 ∧ (∃ Mid3 : qS → Prop, qMet g l M_Jxa1e45_init_da8c8 [vr a0] σ (qTv0 Mid3) ∧ ∀ (σ7 : qS), Mid3 σ7 → gK σ7 a0 = 10 ∧ (∀ σ10 : qS, σ10 = sI σ7 360 a0 0 → Post σ10 (.inl none)))) : qMet g l M_Jxc12de_init_da8c8 [vr a0] σ Post := by
  refine qMet_of hl (by decide +kernel) (Nat.le_of_ble_eq_true rfl) (List.forall_mem_cons.mpr ⟨trivial, fun _ h => nomatch h⟩) ?_
  show qW g l M_Jxc12de_init_da8c8 0 0 0 [some (vr a0)] [] σ Post
  refine wp_aload_n dJxc12de_init_da8c8_0 rfl ?_
  obtain ⟨hz2, h⟩ := h
  obtain ⟨Mid3, hm1, hk5⟩ := h
  refine wp_callI (M' := M_Jxa1e45_init_da8c8) (As := []) (st := []) dJxc12de_init_da8c8_1 cee_Jxa1e45_init_da8c8 np_Jxa1e45_init_da8c8 rfl ⟨Nat.le_of_ble_eq_true rfl, Nat.le_of_ble_eq_true rfl, Nat.le_of_ble_eq_true rfl, Nat.le_of_ble_eq_true rfl⟩ wd_40 wd_41 rfl rfl hz2 (q_small_of (Nat.le_of_ble_eq_true rfl)) hm1 (q_kTv0 (fun σ7 hM8 => ?_)) q_kTv00
  refine wp_less (ac2 := 0) (as2 := 0) (Nat.le_of_ble_eq_true rfl) (Nat.le_of_ble_eq_true rfl) ?_
  have h := hk5 σ7 hM8
  refine wp_aload_n dJxc12de_init_da8c8_4 rfl ?_
  refine wp_iconst dJxc12de_init_da8c8_5 ?_
  obtain ⟨hk9, h⟩ := h
  refine wp_put (v := vi 0) dJxc12de_init_da8c8_6 fs_RJxc12de_7 (fun _ => rfl) hk9 (Or.inl rfl) ?_
  refine wp_nmS (fun σ10 hs11 => ?_)
  replace h := h σ10 hs11
  exact wp_ret_v dJxc12de_init_da8c8_9 rfl h

set_option maxRecDepth 100000 in
set_option maxHeartbeats 4000000 in
theorem wm_Jx4a65c_init_da8c8 {g : qG} {l : Launch} (hl : l.stackTraces = false) {a0 : Nat} {σ : qS} {Post : qS → qRs → Prop}
    (h : a0 ≠ 0 ∧ (∃ Mid3 : qS → Prop, qMet g l M_Jxc12de_init_da8c8 [vr a0] σ (qTv0 Mid3) ∧ ∀ (σ7 : qS), Mid3 σ7 → gK σ7 a0 = 10 ∧ (∀ σ10 : qS, σ10 = sP σ7 361 a0 (g.2.2.2 + 1) → (∃ σ9 : qS, (∀ H9, qRep g σ10 H9 → qRep g σ9 H9) ∧ Post σ9 (.inl none))))) : qMet g l M_Jx4a65c_init_da8c8 [vr a0] σ Post := by
  refine qMet_of hl (by decide +kernel) (Nat.le_of_ble_eq_true rfl) (List.forall_mem_cons.mpr ⟨trivial, fun _ h => nomatch h⟩) ?_
  show qW g l M_Jx4a65c_init_da8c8 0 0 0 [some (vr a0)] [] σ Post
  refine wp_aload_n dJx4a65c_init_da8c8_0 rfl ?_
  obtain ⟨hz2, h⟩ := h
  obtain ⟨Mid3, hm1, hk5⟩ := h
  refine wp_callI (M' := M_Jxc12de_init_da8c8) (As := []) (st := []) dJx4a65c_init_da8c8_1 cee_Jxc12de_init_da8c8 np_Jxc12de_init_da8c8 rfl ⟨Nat.le_of_ble_eq_true rfl, Nat.le_of_ble_eq_true rfl, Nat.le_of_ble_eq_true rfl, Nat.le_of_ble_eq_true rfl⟩ wd_37 wd_38 rfl rfl hz2 (q_small_of (Nat.le_of_ble_eq_true rfl)) hm1 (q_kTv0 (fun σ7 hM8 => ?_)) q_kTv00
  refine wp_less (ac2 := 0) (as2 := 0) (Nat.le_of_ble_eq_true rfl) (Nat.le_of_ble_eq_true rfl) ?_
  have h := hk5 σ7 hM8
  refine wp_aload_n dJx4a65c_init_da8c8_4 rfl ?_
  refine wp_getDef dJx4a65c_init_da8c8_5 wd_44 ?_
  obtain ⟨hk9, h⟩ := h
  refine wp_put (v := vr (g.2.2.2 + 1)) dJx4a65c_init_da8c8_8 fs_RJx4a65c_9 (fun _ => rfl) hk9 rfl ?_
  refine wp_nmS (fun σ10 hs11 => ?_)
  replace h := h σ10 hs11
  obtain ⟨σ9, hrp, h⟩ := h
  refine wp_rep hrp ?_
  exact wp_ret_v dJx4a65c_init_da8c8_11 rfl h

set_option maxRecDepth 100000 in
set_option maxHeartbeats 4000000 in
theorem wm_Jx4a65c_grow_92f84 {g : qG} {l : Launch} (hl : l.stackTraces = false) {a0 : Nat} {a1 : Int} {σ : qS} {Post : qS → qRs → Prop}
    (h : gK σ a0 = 10 ∧ q_isA σ 4 (gP σ 361 a0) ∧ ∀ x3 : Int, x3 = gN σ (gP σ 361 a0) → qR x3 ∧ ((0 < x3 → (∃ v8 : Int, qMet g l M_J8_newLength_cabcc [vi x3, vi (a1 - x3), vi ((Int32.ofInt x3 >>> (Int32.ofInt 1 &&& 31)).toInt)] σ (qPi σ v8) ∧ ((∃ Mid10 : qS → Nat → Prop, qMet g l M_J7_copyOf_1904c [vr (gP σ 361 a0), vi v8] σ (qTr0 Mid10) ∧ ∀ (σ14 : qS) (v16 : Nat), Mid10 σ14 v16 → gK σ14 a0 = 10 ∧ (∀ σ18 : qS, σ18 = sP σ14 361 a0 v16 → Post σ18 (.inl (some (vr v16)))))))) ∧ (¬ (0 < x3) → (((gP σ 361 a0) = (g.2.2.2 + 1) → qR a1 ∧ (0 ≤ (max 10 a1) ∧ (max 10 a1) ≤ 200) ∧ (∀ r22 : Nat, gK σ r22 = 0 → r22 ≠ 0 → ∀ σ26 : qS, σ26 = nA σ r22 24 (max 10 a1) → gK σ26 a0 = 10 ∧ (∀ σ30 : qS, σ30 = sP σ26 361 a0 r22 → Post σ30 (.inl (some (vr r22)))))) ∧ (¬ ((gP σ 361 a0) = (g.2.2.2 + 1)) → (∃ v33 : Int, qMet g l M_J8_newLength_cabcc [vi x3, vi (a1 - x3), vi ((Int32.ofInt x3 >>> (Int32.ofInt 1 &&& 31)).toInt)] σ (qPi σ v33) ∧ ((∃ Mid35 : qS → Nat → Prop, qMet g l M_J7_copyOf_1904c [vr (gP σ 361 a0), vi v33] σ (qTr0 Mid35) ∧ ∀ (σ39 : qS) (v41 : Nat), Mid35 σ39 v41 → gK σ39 a0 = 10 ∧ (∀ σ43 : qS, σ43 = sP σ39 361 a0 v41 → Post σ43 (.inl (some (vr v41)))))))))))) : qMet g l M_Jx4a65c_grow_92f84 [vr a0, vi a1] σ Post := by
  refine qMet_of hl (by decide +kernel) (Nat.le_of_ble_eq_true rfl) (List.forall_mem_cons.mpr ⟨trivial, List.forall_mem_cons.mpr ⟨trivial, fun _ h => nomatch h⟩⟩) ?_
  show qW g l M_Jx4a65c_grow_92f84 1 200 0 [some (vr a0), some (vi a1), none, none] [] σ Post
  refine wp_aload_n dJx4a65c_grow_92f84_0 rfl ?_
  obtain ⟨hk1, h⟩ := h
  refine wp_get (v := vr (gP σ 361 a0)) dJx4a65c_grow_92f84_1 fl_RJx4a65c_9 hk1 rfl ?_
  obtain ⟨ha2, h⟩ := h
  refine wp_alen dJx4a65c_grow_92f84_4 ha2 ?_
  refine wp_nmI (fun x3 hx4 => ?_)
  replace h := h x3 hx4
  refine wp_istore_n' (ls' := [some (vr a0), some (vi a1), some (vi x3), none]) dJx4a65c_grow_92f84_5 (Nat.le_of_ble_eq_true rfl) rfl ?_
  refine wp_iload_n dJx4a65c_grow_92f84_6 rfl ?_
  obtain ⟨hr5, h⟩ := h
  refine wp_if_gt (tgt := 20) dJx4a65c_grow_92f84_7 (by decide) hr5 (fun c6 => ?_) (fun c6 => ?_)
  · replace h := h.1 c6
    refine wp_iload_n dJx4a65c_grow_92f84_20 rfl ?_
    refine wp_iload_n dJx4a65c_grow_92f84_21 rfl ?_
    refine wp_iload_n dJx4a65c_grow_92f84_22 rfl ?_
    refine wp_isub dJx4a65c_grow_92f84_23 ?_
    refine wp_iload_n dJx4a65c_grow_92f84_24 rfl ?_
    refine wp_iconst dJx4a65c_grow_92f84_25 ?_
    refine wp_ishr dJx4a65c_grow_92f84_26 ?_
    obtain ⟨v8, hm7, h⟩ := h
    refine wp_callS (M' := M_J8_newLength_cabcc) (As := [vi x3, vi (a1 - x3), vi ((Int32.ofInt x3 >>> (Int32.ofInt 1 &&& 31)).toInt)]) (st := []) dJx4a65c_grow_92f84_27 cee_J8_newLength_cabcc np_J8_newLength_cabcc rfl ⟨Nat.le_of_ble_eq_true rfl, Nat.le_of_ble_eq_true rfl, Nat.le_of_ble_eq_true rfl, Nat.le_of_ble_eq_true rfl⟩ wd_234 wd_235 (q_small_of (Nat.le_of_ble_eq_true rfl)) hm7 (q_kPi ?_) q_kPi0
    refine wp_less (ac2 := 1) (as2 := 200) (Nat.le_of_ble_eq_true rfl) (Nat.le_of_ble_eq_true rfl) ?_
    refine wp_istore_n' (ls' := [some (vr a0), some (vi a1), some (vi x3), some (vi v8)]) dJx4a65c_grow_92f84_30 (Nat.le_of_ble_eq_true rfl) rfl ?_
    refine wp_aload_n dJx4a65c_grow_92f84_31 rfl ?_
    refine wp_aload_n dJx4a65c_grow_92f84_32 rfl ?_
    refine wp_get (v := vr (gP σ 361 a0)) dJx4a65c_grow_92f84_33 fl_RJx4a65c_9 hk1 rfl ?_
    refine wp_iload_n dJx4a65c_grow_92f84_36 rfl ?_
    obtain ⟨Mid10, hm9, hk12⟩ := h
    refine wp_callS (M' := M_J7_copyOf_1904c) (As := [vr (gP σ 361 a0), vi v8]) (st := [vr a0]) dJx4a65c_grow_92f84_37 cee_J7_copyOf_1904c np_J7_copyOf_1904c rfl ⟨Nat.le_of_ble_eq_true rfl, Nat.le_of_ble_eq_true rfl, Nat.le_of_ble_eq_true rfl, Nat.le_of_ble_eq_true rfl⟩ wd_244 wd_245 (q_small_of (Nat.le_of_ble_eq_true rfl)) hm9 (q_kTr0 (fun σ14 v16 hM15 => ?_)) q_kTr00
    refine wp_less (ac2 := 0) (as2 := 0) (Nat.le_of_ble_eq_true rfl) (Nat.le_of_ble_eq_true rfl) ?_
    have h := hk12 σ14 v16 hM15
    refine wp_dup_x1 dJx4a65c_grow_92f84_40 trivial trivial ?_
    obtain ⟨hk17, h⟩ := h
    refine wp_put (v := vr v16) dJx4a65c_grow_92f84_41 fs_RJx4a65c_9 (fun h => absurd h (by decide)) hk17 rfl ?_
    refine wp_nmS (fun σ18 hs19 => ?_)
    replace h := h σ18 hs19
    exact wp_ret_a dJx4a65c_grow_92f84_44 rfl (Or.inr ⟨_, rfl⟩) h
  · replace h := h.2 c6
    refine wp_aload_n dJx4a65c_grow_92f84_10 rfl ?_
    refine wp_get (v := vr (gP σ 361 a0)) dJx4a65c_grow_92f84_11 fl_RJx4a65c_9 hk1 rfl ?_
    refine wp_getDef dJx4a65c_grow_92f84_14 wd_44 ?_
    refine wp_acmp_eq (tgt := 45) dJx4a65c_grow_92f84_17 (by decide) (fun c20 => ?_) (fun c20 => ?_)
    · replace h := h.1 c20
      refine wp_aload_n dJx4a65c_grow_92f84_45 rfl ?_
      refine wp_bipush dJx4a65c_grow_92f84_46 (by decide) ?_
      refine wp_iload_n dJx4a65c_grow_92f84_48 rfl ?_
      obtain ⟨hr21, h⟩ := h
      refine wp_mmax dJx4a65c_grow_92f84_49 wd_275 (by unfold qR; omega) hr21 (q_small_of (Nat.le_of_ble_eq_true rfl)) ⟨Nat.le_of_ble_eq_true rfl, Nat.le_of_ble_eq_true rfl⟩ ?_
      obtain ⟨hn25, h⟩ := h
      refine wp_anewarray (j := 4) dJx4a65c_grow_92f84_52 (Or.inr ⟨rfl, rfl⟩) wd_276 ⟨hn25.1, by omega⟩ (Nat.le_of_ble_eq_true rfl) (by omega) (fun r22 hz23 hq24 => ?_)
      refine wp_less (ac2 := 0) (as2 := 0) (by omega) (by omega) ?_
      replace h := h r22 hz23 hq24
      refine wp_nmS (fun σ26 hs27 => ?_)
      replace h := h σ26 hs27
      have hk28 : gK σ26 r22 = 24 := by rw [hs27]; exact if_pos rfl
      refine wp_dup_x1 dJx4a65c_grow_92f84_55 trivial trivial ?_
      obtain ⟨hk29, h⟩ := h
      refine wp_put (v := vr r22) dJx4a65c_grow_92f84_56 fs_RJx4a65c_9 (fun h => absurd h (by decide)) hk29 rfl ?_
      refine wp_nmS (fun σ30 hs31 => ?_)
      replace h := h σ30 hs31
      exact wp_ret_a dJx4a65c_grow_92f84_59 rfl (Or.inr ⟨_, rfl⟩) h
    · replace h := h.2 c20
      refine wp_iload_n dJx4a65c_grow_92f84_20 rfl ?_
      refine wp_iload_n dJx4a65c_grow_92f84_21 rfl ?_
      refine wp_iload_n dJx4a65c_grow_92f84_22 rfl ?_
      refine wp_isub dJx4a65c_grow_92f84_23 ?_
      refine wp_iload_n dJx4a65c_grow_92f84_24 rfl ?_
      refine wp_iconst dJx4a65c_grow_92f84_25 ?_
      refine wp_ishr dJx4a65c_grow_92f84_26 ?_
      obtain ⟨v33, hm32, h⟩ := h
      refine wp_callS (M' := M_J8_newLength_cabcc) (As := [vi x3, vi (a1 - x3), vi ((Int32.ofInt x3 >>> (Int32.ofInt 1 &&& 31)).toInt)]) (st := []) dJx4a65c_grow_92f84_27 cee_J8_newLength_cabcc np_J8_newLength_cabcc rfl ⟨Nat.le_of_ble_eq_true rfl, Nat.le_of_ble_eq_true rfl, Nat.le_of_ble_eq_true rfl, Nat.le_of_ble_eq_true rfl⟩ wd_234 wd_235 (q_small_of (Nat.le_of_ble_eq_true rfl)) hm32 (q_kPi ?_) q_kPi0
      refine wp_less (ac2 := 1) (as2 := 200) (Nat.le_of_ble_eq_true rfl) (Nat.le_of_ble_eq_true rfl) ?_
      refine wp_istore_n' (ls' := [some (vr a0), some (vi a1), some (vi x3), some (vi v33)]) dJx4a65c_grow_92f84_30 (Nat.le_of_ble_eq_true rfl) rfl ?_
      refine wp_aload_n dJx4a65c_grow_92f84_31 rfl ?_
      refine wp_aload_n dJx4a65c_grow_92f84_32 rfl ?_
      refine wp_get (v := vr (gP σ 361 a0)) dJx4a65c_grow_92f84_33 fl_RJx4a65c_9 hk1 rfl ?_
      refine wp_iload_n dJx4a65c_grow_92f84_36 rfl ?_
      obtain ⟨Mid35, hm34, hk37⟩ := h
      refine wp_callS (M' := M_J7_copyOf_1904c) (As := [vr (gP σ 361 a0), vi v33]) (st := [vr a0]) dJx4a65c_grow_92f84_37 cee_J7_copyOf_1904c np_J7_copyOf_1904c rfl ⟨Nat.le_of_ble_eq_true rfl, Nat.le_of_ble_eq_true rfl, Nat.le_of_ble_eq_true rfl, Nat.le_of_ble_eq_true rfl⟩ wd_244 wd_245 (q_small_of (Nat.le_of_ble_eq_true rfl)) hm34 (q_kTr0 (fun σ39 v41 hM40 => ?_)) q_kTr00
      refine wp_less (ac2 := 0) (as2 := 0) (Nat.le_of_ble_eq_true rfl) (Nat.le_of_ble_eq_true rfl) ?_
      have h := hk37 σ39 v41 hM40
      refine wp_dup_x1 dJx4a65c_grow_92f84_40 trivial trivial ?_
      obtain ⟨hk42, h⟩ := h
      refine wp_put (v := vr v41) dJx4a65c_grow_92f84_41 fs_RJx4a65c_9 (fun h => absurd h (by decide)) hk42 rfl ?_
      refine wp_nmS (fun σ43 hs44 => ?_)
      replace h := h σ43 hs44
      exact wp_ret_a dJx4a65c_grow_92f84_44 rfl (Or.inr ⟨_, rfl⟩) h

set_option maxRecDepth 100000 in
set_option maxHeartbeats 4000000 in
theorem wm_Jx4a65c_grow_d5877 {g : qG} {l : Launch} (hl : l.stackTraces = false) {a0 : Nat} {σ : qS} {Post : qS → qRs → Prop}
    (h : gK σ a0 = 10 ∧ (∃ Mid3 : qS → Nat → Prop, qMet g l M_Jx4a65c_grow_92f84 [vr a0, vi ((gI σ 362 a0) + 1)] σ (qTr0 Mid3) ∧ ∀ (σ7 : qS) (v9 : Nat), Mid3 σ7 v9 → Post σ7 (.inl (some (vr v9))))) : qMet g l M_Jx4a65c_grow_d5877 [vr a0] σ Post := by
  refine qMet_of hl (by decide +kernel) (Nat.le_of_ble_eq_true rfl) (List.forall_mem_cons.mpr ⟨trivial, fun _ h => nomatch h⟩) ?_
  show qW g l M_Jx4a65c_grow_d5877 2 400 0 [some (vr a0)] [] σ Post
  refine wp_aload_n dJx4a65c_grow_d5877_0 rfl ?_
  refine wp_aload_n dJx4a65c_grow_d5877_1 rfl ?_
  obtain ⟨hk1, h⟩ := h
  refine wp_get (v := vi (gI σ 362 a0)) dJx4a65c_grow_d5877_2 fl_RJx4a65c_48 hk1 rfl ?_
  refine wp_iconst dJx4a65c_grow_d5877_5 ?_
  refine wp_iadd dJx4a65c_grow_d5877_6 ?_
  obtain ⟨Mid3, hm2, hk5⟩ := h
  refine wp_callV (M' := M_Jx4a65c_grow_92f84) (As := [vi ((gI σ 362 a0) + 1)]) (st := []) (ci := 9) dJx4a65c_grow_d5877_7 cee_Jx4a65c_grow_92f84 np_Jx4a65c_grow_92f84 rfl ⟨Nat.le_of_ble_eq_true rfl, Nat.le_of_ble_eq_true rfl, Nat.le_of_ble_eq_true rfl, Nat.le_of_ble_eq_true rfl⟩ wd_230 wd_232 sel_Jx4a65c_grow_92f84 rfl (Or.inl hk1) (q_small_of (Nat.le_of_ble_eq_true rfl)) hm2 (q_kTr0 (fun σ7 v9 hM8 => ?_)) q_kTr00
  refine wp_less (ac2 := 1) (as2 := 200) (Nat.le_of_ble_eq_true rfl) (Nat.le_of_ble_eq_true rfl) ?_
  have h := hk5 σ7 v9 hM8
  exact wp_ret_a dJx4a65c_grow_d5877_10 rfl (Or.inr ⟨_, rfl⟩) h

set_option maxRecDepth 100000 in
set_option maxHeartbeats 4000000 in
theorem wm_Jx4a65c_size_8abf5 {g : qG} {l : Launch} (hl : l.stackTraces = false) {a0 : Nat} {σ : qS} {Post : qS → qRs → Prop}
    (h : gK σ a0 = 50 ∧ ∀ (e : Nat) (mo n : Int) (f : Int → Nat), q_opn g σ a0 e n f → ∀ σ0 : qS, σ0 = q_open g σ a0 e mo n f → gK σ0 (g.2.2.2 + 1) = 34 → gN σ0 (g.2.2.2 + 1) = 0 → gK σ0 0 = 0 → (∃ σ9 : qS, (∀ H9, qRep g σ0 H9 → qRep g σ9 H9) ∧ Post σ9 (.inl (some (vi (gI σ0 362 a0)))))) : qMet g l M_Jx4a65c_size_8abf5 [vr a0] σ Post := by
  refine qMet_of hl (by decide +kernel) (Nat.le_of_ble_eq_true rfl) (List.forall_mem_cons.mpr ⟨trivial, fun _ h => nomatch h⟩) ?_
  show qW g l M_Jx4a65c_size_8abf5 0 0 0 [some (vr a0)] [] σ Post
  obtain ⟨hk_c, h⟩ := h
  refine wp_open hk_c (fun e mo n f ho => ?_)
  replace h := h e mo n f ho
  refine wp_nmS (fun σ0 hs_o => ?_)
  replace h := h σ0 hs_o
  refine wp_def (fun hd1 hd2 hd3 => ?_)
  replace h := h hd1 hd2 hd3
  have hk_o : gK σ0 a0 = 10 := by rw [hs_o]; exact q_oKr ho
  refine wp_aload_n dJx4a65c_size_8abf5_0 rfl ?_
  refine wp_get (v := vi (gI σ0 362 a0)) dJx4a65c_size_8abf5_1 fl_RJx4a65c_48 hk_o rfl ?_
  obtain ⟨σ9, hrp, h⟩ := h
  refine wp_rep hrp ?_
  exact wp_ret_i dJx4a65c_size_8abf5_4 rfl rfl h

set_option maxRecDepth 100000 in
set_option maxHeartbeats 4000000 in
theorem wm_Jx4a65c_elementData_915e3 {g : qG} {l : Launch} (hl : l.stackTraces = false) {a0 : Nat} {a1 : Int} {σ : qS} {Post : qS → qRs → Prop}
    (h : gK σ a0 = 10 ∧ q_isA σ 4 (gP σ 361 a0) ∧ q_in σ (gP σ 361 a0) a1 ∧ Post σ (.inl (some (vr (gR σ (gP σ 361 a0) a1))))) : qMet g l M_Jx4a65c_elementData_915e3 [vr a0, vi a1] σ Post := by
  refine qMet_of hl (by decide +kernel) (Nat.le_of_ble_eq_true rfl) (List.forall_mem_cons.mpr ⟨trivial, List.forall_mem_cons.mpr ⟨trivial, fun _ h => nomatch h⟩⟩) ?_
  show qW g l M_Jx4a65c_elementData_915e3 0 0 0 [some (vr a0), some (vi a1)] [] σ Post
  refine wp_aload_n dJx4a65c_elementData_915e3_0 rfl ?_
  obtain ⟨hk1, h⟩ := h
  refine wp_get (v := vr (gP σ 361 a0)) dJx4a65c_elementData_915e3_1 fl_RJx4a65c_9 hk1 rfl ?_
  refine wp_iload_n dJx4a65c_elementData_915e3_4 rfl ?_
  obtain ⟨ha2, hi3, h⟩ := h
  refine wp_aaload dJx4a65c_elementData_915e3_5 (by decide) ha2 hi3 ?_
  exact wp_ret_a dJx4a65c_elementData_915e3_6 rfl (Or.inl ⟨_, rfl⟩) h

set_option maxRecDepth 100000 in
set_option maxHeartbeats 4000000 in
theorem wm_Jx4a65c_get_915e3 {g : qG} {l : Launch} (hl : l.stackTraces = false) {a0 : Nat} {a1 : Int} {σ : qS} {Post : qS → qRs → Prop}
    (h : gK σ a0 = 50 ∧ ∀ (e : Nat) (mo n : Int) (f : Int → Nat), q_opn g σ a0 e n f → ∀ σ0 : qS, σ0 = q_open g σ a0 e mo n f → gK σ0 (g.2.2.2 + 1) = 34 → gN σ0 (g.2.2.2 + 1) = 0 → gK σ0 0 = 0 → (∃ v2 : Int, qMet g l M_J15_checkIndex_7cf53 [vi a1, vi (gI σ0 362 a0)] σ0 (qPi σ0 v2) ∧ ((∃ v4 : Nat, qMet g l M_Jx4a65c_elementData_915e3 [vr a0, vi a1] σ0 (qPr σ0 v4) ∧ ((∃ σ9 : qS, (∀ H9, qRep g σ0 H9 → qRep g σ9 H9) ∧ Post σ9 (.inl (some (vr v4))))))))) : qMet g l M_Jx4a65c_get_915e3 [vr a0, vi a1] σ Post := by
  refine qMet_of hl (by decide +kernel) (Nat.le_of_ble_eq_true rfl) (List.forall_mem_cons.mpr ⟨trivial, List.forall_mem_cons.mpr ⟨trivial, fun _ h => nomatch h⟩⟩) ?_
  show qW g l M_Jx4a65c_get_915e3 0 0 0 [some (vr a0), some (vi a1)] [] σ Post
  obtain ⟨hk_c, h⟩ := h
  refine wp_open hk_c (fun e mo n f ho => ?_)
  replace h := h e mo n f ho
  refine wp_nmS (fun σ0 hs_o => ?_)
  replace h := h σ0 hs_o
  refine wp_def (fun hd1 hd2 hd3 => ?_)
  replace h := h hd1 hd2 hd3
  have hk_o : gK σ0 a0 = 10 := by rw [hs_o]; exact q_oKr ho
  refine wp_iload_n dJx4a65c_get_915e3_0 rfl ?_
  refine wp_aload_n dJx4a65c_get_915e3_1 rfl ?_
  refine wp_get (v := vi (gI σ0 362 a0)) dJx4a65c_get_915e3_2 fl_RJx4a65c_48 hk_o rfl ?_
  obtain ⟨v2, hm1, h⟩ := h
  refine wp_callS (M' := M_J15_checkIndex_7cf53) (As := [vi a1, vi (gI σ0 362 a0)]) (st := []) dJx4a65c_get_915e3_5 cee_J15_checkIndex_7cf53 np_J15_checkIndex_7cf53 rfl ⟨Nat.le_of_ble_eq_true rfl, Nat.le_of_ble_eq_true rfl, Nat.le_of_ble_eq_true rfl, Nat.le_of_ble_eq_true rfl⟩ wd_305 wd_306 (q_small_of (Nat.le_of_ble_eq_true rfl)) hm1 (q_kPi ?_) q_kPi0
  refine wp_less (ac2 := 0) (as2 := 0) (Nat.le_of_ble_eq_true rfl) (Nat.le_of_ble_eq_true rfl) ?_
  refine wp_pop dJx4a65c_get_915e3_8 trivial ?_
  refine wp_aload_n dJx4a65c_get_915e3_9 rfl ?_
  refine wp_iload_n dJx4a65c_get_915e3_10 rfl ?_
  obtain ⟨v4, hm3, h⟩ := h
  refine wp_callV (M' := M_Jx4a65c_elementData_915e3) (As := [vi a1]) (st := []) (ci := 9) dJx4a65c_get_915e3_11 cee_Jx4a65c_elementData_915e3 np_Jx4a65c_elementData_915e3 rfl ⟨Nat.le_of_ble_eq_true rfl, Nat.le_of_ble_eq_true rfl, Nat.le_of_ble_eq_true rfl, Nat.le_of_ble_eq_true rfl⟩ wd_311 wd_312 wd_313 rfl (Or.inl hk_o) (q_small_of (Nat.le_of_ble_eq_true rfl)) hm3 (q_kPr ?_) q_kPr0
  refine wp_less (ac2 := 0) (as2 := 0) (Nat.le_of_ble_eq_true rfl) (Nat.le_of_ble_eq_true rfl) ?_
  obtain ⟨σ9, hrp, h⟩ := h
  refine wp_rep hrp ?_
  exact wp_ret_a dJx4a65c_get_915e3_14 rfl (Or.inl ⟨_, rfl⟩) h

set_option maxRecDepth 100000 in
set_option maxHeartbeats 4000000 in
theorem wm_Jx4a65c_add_72be8 {g : qG} {l : Launch} (hl : l.stackTraces = false) {a0 : Nat} {a1 : Nat} {a2 : Nat} {a3 : Int} {σ : qS} {Post : qS → qRs → Prop}
    (h : q_isA σ 4 a2 ∧ qR a3 ∧ qR (gN σ a2) ∧ ((¬ a3 = (gN σ a2) → gK σ a2 = 24 ∧ q_in σ a2 a3 ∧ q_elok σ 4 a1 ∧ (∀ σ8 : qS, σ8 = sR σ a2 a3 a1 → gK σ8 a0 = 10 ∧ (∀ σ11 : qS, σ11 = sI σ8 362 a0 (a3 + 1) → Post σ11 (.inl none)))) ∧ (a3 = (gN σ a2) → gK σ a0 = 10 ∧ (∃ Mid15 : qS → Nat → Prop, qMet g l M_Jx4a65c_grow_d5877 [vr a0] σ (qTr0 Mid15) ∧ ∀ (σ19 : qS) (v21 : Nat), Mid15 σ19 v21 → gK σ19 v21 = 24 ∧ q_in σ19 v21 a3 ∧ q_elok σ19 4 a1 ∧ (∀ σ25 : qS, σ25 = sR σ19 v21 a3 a1 → gK σ25 a0 = 10 ∧ (∀ σ28 : qS, σ28 = sI σ25 362 a0 (a3 + 1) → Post σ28 (.inl none))))))) : qMet g l M_Jx4a65c_add_72be8 [vr a0, vr a1, vr a2, vi a3] σ Post := by
  refine qMet_of hl (by decide +kernel) (Nat.le_of_ble_eq_true rfl) (List.forall_mem_cons.mpr ⟨trivial, List.forall_mem_cons.mpr ⟨trivial, List.forall_mem_cons.mpr ⟨trivial, List.forall_mem_cons.mpr ⟨trivial, fun _ h => nomatch h⟩⟩⟩⟩) ?_
  show qW g l M_Jx4a65c_add_72be8 2 400 0 [some (vr a0), some (vr a1), some (vr a2), some (vi a3)] [] σ Post
  refine wp_iload_n dJx4a65c_add_72be8_0 rfl ?_
  refine wp_aload_n dJx4a65c_add_72be8_1 rfl ?_
  obtain ⟨ha1, h⟩ := h
  refine wp_alen dJx4a65c_add_72be8_2 ha1 ?_
  obtain ⟨hr2, hr3, h⟩ := h
  refine wp_icmp_ne (tgt := 11) dJx4a65c_add_72be8_3 (by decide) hr2 hr3 (fun c4 => ?_) (fun c4 => ?_)
  · replace h := h.1 c4
    refine wp_aload_n dJx4a65c_add_72be8_11 rfl ?_
    refine wp_iload_n dJx4a65c_add_72be8_12 rfl ?_
    refine wp_aload_n dJx4a65c_add_72be8_13 rfl ?_
    obtain ⟨hk5, hi6, he7, h⟩ := h
    refine wp_aastore dJx4a65c_add_72be8_14 hk5 (by decide) hi6 he7 ?_
    refine wp_nmS (fun σ8 hs9 => ?_)
    replace h := h σ8 hs9
    refine wp_aload_n dJx4a65c_add_72be8_15 rfl ?_
    refine wp_iload_n dJx4a65c_add_72be8_16 rfl ?_
    refine wp_iconst dJx4a65c_add_72be8_17 ?_
    refine wp_iadd dJx4a65c_add_72be8_18 ?_
    obtain ⟨hk10, h⟩ := h
    refine wp_put (v := vi (a3 + 1)) dJx4a65c_add_72be8_19 fs_RJx4a65c_48 (fun h => absurd h (by decide)) hk10 (Or.inl rfl) ?_
    refine wp_nmS (fun σ11 hs12 => ?_)
    replace h := h σ11 hs12
    exact wp_ret_v dJx4a65c_add_72be8_22 rfl h
  · replace h := h.2 c4
    refine wp_aload_n dJx4a65c_add_72be8_6 rfl ?_
    obtain ⟨hk14, h⟩ := h
    obtain ⟨Mid15, hm13, hk17⟩ := h
    refine wp_callV (M' := M_Jx4a65c_grow_d5877) (As := []) (st := []) (ci := 9) dJx4a65c_add_72be8_7 cee_Jx4a65c_grow_d5877 np_Jx4a65c_grow_d5877 rfl ⟨Nat.le_of_ble_eq_true rfl, Nat.le_of_ble_eq_true rfl, Nat.le_of_ble_eq_true rfl, Nat.le_of_ble_eq_true rfl⟩ wd_226 wd_228 sel_Jx4a65c_grow_d5877 rfl (Or.inl hk14) (q_small_of (Nat.le_of_ble_eq_true rfl)) hm13 (q_kTr0 (fun σ19 v21 hM20 => ?_)) q_kTr00
    refine wp_less (ac2 := 0) (as2 := 0) (Nat.le_of_ble_eq_true rfl) (Nat.le_of_ble_eq_true rfl) ?_
    have h := hk17 σ19 v21 hM20
    refine wp_astore_n' (ls' := [some (vr a0), some (vr a1), some (vr v21), some (vi a3)]) dJx4a65c_add_72be8_10 (Nat.le_of_ble_eq_true rfl) rfl ?_
    refine wp_aload_n dJx4a65c_add_72be8_11 rfl ?_
    refine wp_iload_n dJx4a65c_add_72be8_12 rfl ?_
    refine wp_aload_n dJx4a65c_add_72be8_13 rfl ?_
    obtain ⟨hk22, hi23, he24, h⟩ := h
    refine wp_aastore dJx4a65c_add_72be8_14 hk22 (by decide) hi23 he24 ?_
    refine wp_nmS (fun σ25 hs26 => ?_)
    replace h := h σ25 hs26
    refine wp_aload_n dJx4a65c_add_72be8_15 rfl ?_
    refine wp_iload_n dJx4a65c_add_72be8_16 rfl ?_
    refine wp_iconst dJx4a65c_add_72be8_17 ?_
    refine wp_iadd dJx4a65c_add_72be8_18 ?_
    obtain ⟨hk27, h⟩ := h
    refine wp_put (v := vi (a3 + 1)) dJx4a65c_add_72be8_19 fs_RJx4a65c_48 (fun h => absurd h (by decide)) hk27 (Or.inl rfl) ?_
    refine wp_nmS (fun σ28 hs29 => ?_)
    replace h := h σ28 hs29
    exact wp_ret_v dJx4a65c_add_72be8_22 rfl h

set_option maxRecDepth 100000 in
set_option maxHeartbeats 4000000 in
theorem wm_Jx4a65c_add_9ea2d {g : qG} {l : Launch} (hl : l.stackTraces = false) {a0 : Nat} {a1 : Nat} {σ : qS} {Post : qS → qRs → Prop}
    (h : gK σ a0 = 50 ∧ ∀ (e : Nat) (mo n : Int) (f : Int → Nat), q_opn g σ a0 e n f → ∀ σ0 : qS, σ0 = q_open g σ a0 e mo n f → gK σ0 (g.2.2.2 + 1) = 34 → gN σ0 (g.2.2.2 + 1) = 0 → gK σ0 0 = 0 → (∀ σ1 : qS, σ1 = sI σ0 360 a0 ((gI σ0 360 a0) + 1) → (∃ Mid4 : qS → Prop, qMet g l M_Jx4a65c_add_72be8 [vr a0, vr a1, vr (gP σ1 361 a0), vi (gI σ1 362 a0)] σ1 (qTv0 Mid4) ∧ ∀ (σ8 : qS), Mid4 σ8 → (∃ σ9 : qS, (∀ H9, qRep g σ8 H9 → qRep g σ9 H9) ∧ Post σ9 (.inl (some (vi 1))))))) : qMet g l M_Jx4a65c_add_9ea2d [vr a0, vr a1] σ Post := by
  refine qMet_of hl (by decide +kernel) (Nat.le_of_ble_eq_true rfl) (List.forall_mem_cons.mpr ⟨trivial, List.forall_mem_cons.mpr ⟨trivial, fun _ h => nomatch h⟩⟩) ?_
  show qW g l M_Jx4a65c_add_9ea2d 2 400 0 [some (vr a0), some (vr a1)] [] σ Post
  obtain ⟨hk_c, h⟩ := h
  refine wp_open hk_c (fun e mo n f ho => ?_)
  replace h := h e mo n f ho
  refine wp_nmS (fun σ0 hs_o => ?_)
  replace h := h σ0 hs_o
  refine wp_def (fun hd1 hd2 hd3 => ?_)
  replace h := h hd1 hd2 hd3
  have hk_o : gK σ0 a0 = 10 := by rw [hs_o]; exact q_oKr ho
  refine wp_aload_n dJx4a65c_add_9ea2d_0 rfl ?_
  refine wp_dup dJx4a65c_add_9ea2d_1 trivial ?_
  refine wp_get (v := vi (gI σ0 360 a0)) dJx4a65c_add_9ea2d_2 fl_RJx4a65c_63 hk_o rfl ?_
  refine wp_iconst dJx4a65c_add_9ea2d_5 ?_
  refine wp_iadd dJx4a65c_add_9ea2d_6 ?_
  refine wp_put (v := vi ((gI σ0 360 a0) + 1)) dJx4a65c_add_9ea2d_7 fs_RJx4a65c_63 (fun h => absurd h (by decide)) hk_o (Or.inl rfl) ?_
  refine wp_nmS (fun σ1 hs2 => ?_)
  replace h := h σ1 hs2
  refine wp_aload_n dJx4a65c_add_9ea2d_10 rfl ?_
  refine wp_aload_n dJx4a65c_add_9ea2d_11 rfl ?_
  refine wp_aload_n dJx4a65c_add_9ea2d_12 rfl ?_
  refine wp_get (v := vr (gP σ1 361 a0)) dJx4a65c_add_9ea2d_13 fl_RJx4a65c_9 (by rw [hs2]; exact hk_o) rfl ?_
  refine wp_aload_n dJx4a65c_add_9ea2d_16 rfl ?_
  refine wp_get (v := vi (gI σ1 362 a0)) dJx4a65c_add_9ea2d_17 fl_RJx4a65c_48 (by rw [hs2]; exact hk_o) rfl ?_
  obtain ⟨Mid4, hm3, hk6⟩ := h
  refine wp_callV (M' := M_Jx4a65c_add_72be8) (As := [vr a1, vr (gP σ1 361 a0), vi (gI σ1 362 a0)]) (st := []) (ci := 9) dJx4a65c_add_9ea2d_20 cee_Jx4a65c_add_72be8 np_Jx4a65c_add_72be8 rfl ⟨Nat.le_of_ble_eq_true rfl, Nat.le_of_ble_eq_true rfl, Nat.le_of_ble_eq_true rfl, Nat.le_of_ble_eq_true rfl⟩ wd_222 wd_224 sel_Jx4a65c_add_72be8 rfl (Or.inl (by rw [hs2]; exact hk_o)) (q_small_of (Nat.le_of_ble_eq_true rfl)) hm3 (q_kTv0 (fun σ8 hM9 => ?_)) q_kTv00
  refine wp_less (ac2 := 0) (as2 := 0) (Nat.le_of_ble_eq_true rfl) (Nat.le_of_ble_eq_true rfl) ?_
  have h := hk6 σ8 hM9
  refine wp_iconst dJx4a65c_add_9ea2d_23 ?_
  obtain ⟨σ9, hrp, h⟩ := h
  refine wp_rep hrp ?_
  exact wp_ret_z dJx4a65c_add_9ea2d_24 rfl (Or.inr rfl) h

set_option maxRecDepth 100000 in
set_option maxHeartbeats 4000000 in
theorem wm_Jx4a65c_add_7a177 {g : qG} {l : Launch} (hl : l.stackTraces = false) {a0 : Nat} {a1 : Int} {a2 : Nat} {σ : qS} {Post : qS → qRs → Prop}
    (h : gK σ a0 = 50 ∧ ∀ (e : Nat) (mo n : Int) (f : Int → Nat), q_opn g σ a0 e n f → ∀ σ0 : qS, σ0 = q_open g σ a0 e mo n f → gK σ0 (g.2.2.2 + 1) = 34 → gN σ0 (g.2.2.2 + 1) = 0 → gK σ0 0 = 0 → (∃ Mid2 : qS → Prop, qMet g l M_Jx4a65c_rangeCheckForAdd_d00df [vr a0, vi a1] σ0 (qTv0 Mid2) ∧ ∀ (σ6 : qS), Mid2 σ6 → gK σ6 a0 = 10 ∧ (∀ σ9 : qS, σ9 = sI σ6 360 a0 ((gI σ6 360 a0) + 1) → ∀ x11 : Int, x11 = gI σ9 362 a0 → ∀ x13 : Nat, x13 = gP σ9 361 a0 → q_isA σ9 4 (gP σ9 361 a0) ∧ qR (gI σ9 362 a0) ∧ qR (gN σ9 (gP σ9 361 a0)) ∧ ((¬ (gI σ9 362 a0) = (gN σ9 (gP σ9 361 a0)) → q_isA σ9 4 x13 ∧ gK σ9 x13 = 24 ∧ q_cpok σ9 x13 a1 x13 (a1 + 1) (x11 - a1) ∧ (∀ σ22 : qS, σ22 = sRow σ9 x13 (q_cpy (gR σ9 x13) (gR σ9 x13) a1 (a1 + 1) (x11 - a1)) → q_in σ22 x13 a1 ∧ q_elok σ22 4 a2 ∧ (∀ σ26 : qS, σ26 = sR σ22 x13 a1 a2 → (∀ σ28 : qS, σ28 = sI σ26 362 a0 (x11 + 1) → (∃ σ9 : qS, (∀ H9, qRep g σ28 H9 → qRep g σ9 H9) ∧ Post σ9 (.inl none)))))) ∧ ((gI σ9 362 a0) = (gN σ9 (gP σ9 361 a0)) → (∃ Mid31 : qS → Nat → Prop, qMet g l M_Jx4a65c_grow_d5877 [vr a0] σ9 (qTr0 Mid31) ∧ ∀ (σ35 : qS) (v37 : Nat), Mid31 σ35 v37 → q_isA σ35 4 v37 ∧ gK σ35 v37 = 24 ∧ q_cpok σ35 v37 a1 v37 (a1 + 1) (x11 - a1) ∧ (∀ σ41 : qS, σ41 = sRow σ35 v37 (q_cpy (gR σ35 v37) (gR σ35 v37) a1 (a1 + 1) (x11 - a1)) → q_in σ41 v37 a1 ∧ q_elok σ41 4 a2 ∧ (∀ σ45 : qS, σ45 = sR σ41 v37 a1 a2 → gK σ45 a0 = 10 ∧ (∀ σ48 : qS, σ48 = sI σ45 362 a0 (x11 + 1) → (∃ σ9 : qS, (∀ H9, qRep g σ48 H9 → qRep g σ9 H9) ∧ Post σ9 (.inl none))))))))))) : qMet g l M_Jx4a65c_add_7a177 [vr a0, vi a1, vr a2] σ Post := by
  refine qMet_of hl (by decide +kernel) (Nat.le_of_ble_eq_true rfl) (List.forall_mem_cons.mpr ⟨trivial, List.forall_mem_cons.mpr ⟨trivial, List.forall_mem_cons.mpr ⟨trivial, fun _ h => nomatch h⟩⟩⟩) ?_
  show qW g l M_Jx4a65c_add_7a177 2 400 0 [some (vr a0), some (vi a1), some (vr a2), none, none] [] σ Post
  obtain ⟨hk_c, h⟩ := h
  refine wp_open hk_c (fun e mo n f ho => ?_)
  replace h := h e mo n f ho
  refine wp_nmS (fun σ0 hs_o => ?_)
  replace h := h σ0 hs_o
  refine wp_def (fun hd1 hd2 hd3 => ?_)
  replace h := h hd1 hd2 hd3
  have hk_o : gK σ0 a0 = 10 := by rw [hs_o]; exact q_oKr ho
  refine wp_aload_n dJx4a65c_add_7a177_0 rfl ?_
  refine wp_iload_n dJx4a65c_add_7a177_1 rfl ?_
  obtain ⟨Mid2, hm1, hk4⟩ := h
  refine wp_callV (M' := M_Jx4a65c_rangeCheckForAdd_d00df) (As := [vi a1]) (st := []) (ci := 9) dJx4a65c_add_7a177_2 cee_Jx4a65c_rangeCheckForAdd_d00df np_Jx4a65c_rangeCheckForAdd_d00df rfl ⟨Nat.le_of_ble_eq_true rfl, Nat.le_of_ble_eq_true rfl, Nat.le_of_ble_eq_true rfl, Nat.le_of_ble_eq_true rfl⟩ wd_442 wd_444 sel_Jx4a65c_rangeCheckForAdd_d00df rfl (Or.inl hk_o) (q_small_of (Nat.le_of_ble_eq_true rfl)) hm1 (q_kTv0 (fun σ6 hM7 => ?_)) q_kTv00
  refine wp_less (ac2 := 2) (as2 := 400) (Nat.le_of_ble_eq_true rfl) (Nat.le_of_ble_eq_true rfl) ?_
  have h := hk4 σ6 hM7
  refine wp_aload_n dJx4a65c_add_7a177_5 rfl ?_
  refine wp_dup dJx4a65c_add_7a177_6 trivial ?_
  obtain ⟨hk8, h⟩ := h
  refine wp_get (v := vi (gI σ6 360 a0)) dJx4a65c_add_7a177_7 fl_RJx4a65c_63 hk8 rfl ?_
  refine wp_iconst dJx4a65c_add_7a177_10 ?_
  refine wp_iadd dJx4a65c_add_7a177_11 ?_
  refine wp_put (v := vi ((gI σ6 360 a0) + 1)) dJx4a65c_add_7a177_12 fs_RJx4a65c_63 (fun h => absurd h (by decide)) hk8 (Or.inl rfl) ?_
  refine wp_nmS (fun σ9 hs10 => ?_)
  replace h := h σ9 hs10
  refine wp_aload_n dJx4a65c_add_7a177_15 rfl ?_
  refine wp_get (v := vi (gI σ9 362 a0)) dJx4a65c_add_7a177_16 fl_RJx4a65c_48 (by rw [hs10]; exact hk8) rfl ?_
  refine wp_dup dJx4a65c_add_7a177_19 trivial ?_
  refine wp_nmI (fun x11 hx12 => ?_)
  replace h := h x11 hx12
  refine wp_istore_n' (ls' := [some (vr a0), some (vi a1), some (vr a2), some (vi x11), none]) dJx4a65c_add_7a177_20 (Nat.le_of_ble_eq_true rfl) rfl ?_
  refine wp_aload_n dJx4a65c_add_7a177_21 rfl ?_
  refine wp_get (v := vr (gP σ9 361 a0)) dJx4a65c_add_7a177_22 fl_RJx4a65c_9 (by rw [hs10]; exact hk8) rfl ?_
  refine wp_dup dJx4a65c_add_7a177_25 trivial ?_
  refine wp_nmR (fun x13 hx14 => ?_)
  replace h := h x13 hx14
  refine wp_astore' (ls' := [some (vr a0), some (vi a1), some (vr a2), some (vi x11), some (vr x13)]) dJx4a65c_add_7a177_26 (Nat.le_of_ble_eq_true rfl) rfl ?_
  obtain ⟨ha15, h⟩ := h
  refine wp_alen dJx4a65c_add_7a177_28 ha15 ?_
  obtain ⟨hr16, hr17, h⟩ := h
  refine wp_icmp_ne (tgt := 38) dJx4a65c_add_7a177_29 (by decide) hr16 hr17 (fun c18 => ?_) (fun c18 => ?_)
  · replace h := h.1 c18
    refine wp_aload dJx4a65c_add_7a177_38 rfl ?_
    refine wp_iload_n dJx4a65c_add_7a177_40 rfl ?_
    refine wp_aload dJx4a65c_add_7a177_41 rfl ?_
    refine wp_iload_n dJx4a65c_add_7a177_43 rfl ?_
    refine wp_iconst dJx4a65c_add_7a177_44 ?_
    refine wp_iadd dJx4a65c_add_7a177_45 ?_
    refine wp_iload_n dJx4a65c_add_7a177_46 rfl ?_
    refine wp_iload_n dJx4a65c_add_7a177_47 rfl ?_
    refine wp_isub dJx4a65c_add_7a177_48 ?_
    obtain ⟨ha19, hk20, hcp21, h⟩ := h
    refine wp_acopy dJx4a65c_add_7a177_49 wd_446 ha19 hk20 hcp21.1 hcp21.2.1 hcp21.2.2.1 hcp21.2.2.2.1 hcp21.2.2.2.2.1 hcp21.2.2.2.2.2 (q_small_of (Nat.le_of_ble_eq_true rfl)) ⟨Nat.le_of_ble_eq_true rfl, Nat.le_of_ble_eq_true rfl⟩ ?_
    refine wp_nmS (fun σ22 hs23 => ?_)
    replace h := h σ22 hs23
    refine wp_aload dJx4a65c_add_7a177_52 rfl ?_
    refine wp_iload_n dJx4a65c_add_7a177_54 rfl ?_
    refine wp_aload_n dJx4a65c_add_7a177_55 rfl ?_
    obtain ⟨hi24, he25, h⟩ := h
    refine wp_aastore dJx4a65c_add_7a177_56 (by rw [hs23]; exact hk20) (by decide) hi24 he25 ?_
    refine wp_nmS (fun σ26 hs27 => ?_)
    replace h := h σ26 hs27
    refine wp_aload_n dJx4a65c_add_7a177_57 rfl ?_
    refine wp_iload_n dJx4a65c_add_7a177_58 rfl ?_
    refine wp_iconst dJx4a65c_add_7a177_59 ?_
    refine wp_iadd dJx4a65c_add_7a177_60 ?_
    refine wp_put (v := vi (x11 + 1)) dJx4a65c_add_7a177_61 fs_RJx4a65c_48 (fun h => absurd h (by decide)) (by rw [hs27, hs23, hs10]; exact hk8) (Or.inl rfl) ?_
    refine wp_nmS (fun σ28 hs29 => ?_)
    replace h := h σ28 hs29
    obtain ⟨σ9, hrp, h⟩ := h
    refine wp_rep hrp ?_
    exact wp_ret_v dJx4a65c_add_7a177_64 rfl h
  · replace h := h.2 c18
    refine wp_aload_n dJx4a65c_add_7a177_32 rfl ?_
    obtain ⟨Mid31, hm30, hk33⟩ := h
    refine wp_callV (M' := M_Jx4a65c_grow_d5877) (As := []) (st := []) (ci := 9) dJx4a65c_add_7a177_33 cee_Jx4a65c_grow_d5877 np_Jx4a65c_grow_d5877 rfl ⟨Nat.le_of_ble_eq_true rfl, Nat.le_of_ble_eq_true rfl, Nat.le_of_ble_eq_true rfl, Nat.le_of_ble_eq_true rfl⟩ wd_226 wd_228 sel_Jx4a65c_grow_d5877 rfl (Or.inl (by rw [hs10]; exact hk8)) (q_small_of (Nat.le_of_ble_eq_true rfl)) hm30 (q_kTr0 (fun σ35 v37 hM36 => ?_)) q_kTr00
    refine wp_less (ac2 := 0) (as2 := 0) (Nat.le_of_ble_eq_true rfl) (Nat.le_of_ble_eq_true rfl) ?_
    have h := hk33 σ35 v37 hM36
    refine wp_astore' (ls' := [some (vr a0), some (vi a1), some (vr a2), some (vi x11), some (vr v37)]) dJx4a65c_add_7a177_36 (Nat.le_of_ble_eq_true rfl) rfl ?_
    refine wp_aload dJx4a65c_add_7a177_38 rfl ?_
    refine wp_iload_n dJx4a65c_add_7a177_40 rfl ?_
    refine wp_aload dJx4a65c_add_7a177_41 rfl ?_
    refine wp_iload_n dJx4a65c_add_7a177_43 rfl ?_
    refine wp_iconst dJx4a65c_add_7a177_44 ?_
    refine wp_iadd dJx4a65c_add_7a177_45 ?_
    refine wp_iload_n dJx4a65c_add_7a177_46 rfl ?_
    refine wp_iload_n dJx4a65c_add_7a177_47 rfl ?_
    refine wp_isub dJx4a65c_add_7a177_48 ?_
    obtain ⟨ha38, hk39, hcp40, h⟩ := h
    refine wp_acopy dJx4a65c_add_7a177_49 wd_446 ha38 hk39 hcp40.1 hcp40.2.1 hcp40.2.2.1 hcp40.2.2.2.1 hcp40.2.2.2.2.1 hcp40.2.2.2.2.2 (q_small_of (Nat.le_of_ble_eq_true rfl)) ⟨Nat.le_of_ble_eq_true rfl, Nat.le_of_ble_eq_true rfl⟩ ?_
    refine wp_nmS (fun σ41 hs42 => ?_)
    replace h := h σ41 hs42
    refine wp_aload dJx4a65c_add_7a177_52 rfl ?_
    refine wp_iload_n dJx4a65c_add_7a177_54 rfl ?_
    refine wp_aload_n dJx4a65c_add_7a177_55 rfl ?_
    obtain ⟨hi43, he44, h⟩ := h
    refine wp_aastore dJx4a65c_add_7a177_56 (by rw [hs42]; exact hk39) (by decide) hi43 he44 ?_
    refine wp_nmS (fun σ45 hs46 => ?_)
    replace h := h σ45 hs46
    refine wp_aload_n dJx4a65c_add_7a177_57 rfl ?_
    refine wp_iload_n dJx4a65c_add_7a177_58 rfl ?_
    refine wp_iconst dJx4a65c_add_7a177_59 ?_
    refine wp_iadd dJx4a65c_add_7a177_60 ?_
    obtain ⟨hk47, h⟩ := h
    refine wp_put (v := vi (x11 + 1)) dJx4a65c_add_7a177_61 fs_RJx4a65c_48 (fun h => absurd h (by decide)) hk47 (Or.inl rfl) ?_
    refine wp_nmS (fun σ48 hs49 => ?_)
    replace h := h σ48 hs49
    obtain ⟨σ9, hrp, h⟩ := h
    refine wp_rep hrp ?_
    exact wp_ret_v dJx4a65c_add_7a177_64 rfl h

set_option maxRecDepth 100000 in
set_option maxHeartbeats 4000000 in
theorem wm_Jx4a65c_remove_915e3 {g : qG} {l : Launch} (hl : l.stackTraces = false) {a0 : Nat} {a1 : Int} {σ : qS} {Post : qS → qRs → Prop}
    (h : gK σ a0 = 50 ∧ ∀ (e : Nat) (mo n : Int) (f : Int → Nat), q_opn g σ a0 e n f → ∀ σ0 : qS, σ0 = q_open g σ a0 e mo n f → gK σ0 (g.2.2.2 + 1) = 34 → gN σ0 (g.2.2.2 + 1) = 0 → gK σ0 0 = 0 → (∃ v2 : Int, qMet g l M_J15_checkIndex_7cf53 [vi a1, vi (gI σ0 362 a0)] σ0 (qPi σ0 v2) ∧ (∀ x3 : Nat, x3 = gP σ0 361 a0 → q_isA σ0 4 x3 ∧ q_in σ0 x3 a1 ∧ ∀ x7 : Nat, x7 = gR σ0 x3 a1 → (∃ Mid10 : qS → Prop, qMet g l M_Jx4a65c_fastRemove_b59b0 [vr a0, vr x3, vi a1] σ0 (qTv0 Mid10) ∧ ∀ (σ14 : qS), Mid10 σ14 → (∃ σ9 : qS, (∀ H9, qRep g σ14 H9 → qRep g σ9 H9) ∧ Post σ9 (.inl (some (vr x7)))))))) : qMet g l M_Jx4a65c_remove_915e3 [vr a0, vi a1] σ Post := by
  refine qMet_of hl (by decide +kernel) (Nat.le_of_ble_eq_true rfl) (List.forall_mem_cons.mpr ⟨trivial, List.forall_mem_cons.mpr ⟨trivial, fun _ h => nomatch h⟩⟩) ?_
  show qW g l M_Jx4a65c_remove_915e3 0 0 0 [some (vr a0), some (vi a1), none, none] [] σ Post
  obtain ⟨hk_c, h⟩ := h
  refine wp_open hk_c (fun e mo n f ho => ?_)
  replace h := h e mo n f ho
  refine wp_nmS (fun σ0 hs_o => ?_)
  replace h := h σ0 hs_o
  refine wp_def (fun hd1 hd2 hd3 => ?_)
  replace h := h hd1 hd2 hd3
  have hk_o : gK σ0 a0 = 10 := by rw [hs_o]; exact q_oKr ho
  refine wp_iload_n dJx4a65c_remove_915e3_0 rfl ?_
  refine wp_aload_n dJx4a65c_remove_915e3_1 rfl ?_
  refine wp_get (v := vi (gI σ0 362 a0)) dJx4a65c_remove_915e3_2 fl_RJx4a65c_48 hk_o rfl ?_
  obtain ⟨v2, hm1, h⟩ := h
  refine wp_callS (M' := M_J15_checkIndex_7cf53) (As := [vi a1, vi (gI σ0 362 a0)]) (st := []) dJx4a65c_remove_915e3_5 cee_J15_checkIndex_7cf53 np_J15_checkIndex_7cf53 rfl ⟨Nat.le_of_ble_eq_true rfl, Nat.le_of_ble_eq_true rfl, Nat.le_of_ble_eq_true rfl, Nat.le_of_ble_eq_true rfl⟩ wd_305 wd_306 (q_small_of (Nat.le_of_ble_eq_true rfl)) hm1 (q_kPi ?_) q_kPi0
  refine wp_less (ac2 := 0) (as2 := 0) (Nat.le_of_ble_eq_true rfl) (Nat.le_of_ble_eq_true rfl) ?_
  refine wp_pop dJx4a65c_remove_915e3_8 trivial ?_
  refine wp_aload_n dJx4a65c_remove_915e3_9 rfl ?_
  refine wp_get (v := vr (gP σ0 361 a0)) dJx4a65c_remove_915e3_10 fl_RJx4a65c_9 hk_o rfl ?_
  refine wp_nmR (fun x3 hx4 => ?_)
  replace h := h x3 hx4
  refine wp_astore_n' (ls' := [some (vr a0), some (vi a1), some (vr x3), none]) dJx4a65c_remove_915e3_13 (Nat.le_of_ble_eq_true rfl) rfl ?_
  refine wp_aload_n dJx4a65c_remove_915e3_14 rfl ?_
  refine wp_iload_n dJx4a65c_remove_915e3_15 rfl ?_
  obtain ⟨ha5, hi6, h⟩ := h
  refine wp_aaload dJx4a65c_remove_915e3_16 (by decide) ha5 hi6 ?_
  refine wp_nmR (fun x7 hx8 => ?_)
  replace h := h x7 hx8
  refine wp_astore_n' (ls' := [some (vr a0), some (vi a1), some (vr x3), some (vr x7)]) dJx4a65c_remove_915e3_17 (Nat.le_of_ble_eq_true rfl) rfl ?_
  refine wp_aload_n dJx4a65c_remove_915e3_18 rfl ?_
  refine wp_aload_n dJx4a65c_remove_915e3_19 rfl ?_
  refine wp_iload_n dJx4a65c_remove_915e3_20 rfl ?_
  obtain ⟨Mid10, hm9, hk12⟩ := h
  refine wp_callV (M' := M_Jx4a65c_fastRemove_b59b0) (As := [vr x3, vi a1]) (st := []) (ci := 9) dJx4a65c_remove_915e3_21 cee_Jx4a65c_fastRemove_b59b0 np_Jx4a65c_fastRemove_b59b0 rfl ⟨Nat.le_of_ble_eq_true rfl, Nat.le_of_ble_eq_true rfl, Nat.le_of_ble_eq_true rfl, Nat.le_of_ble_eq_true rfl⟩ wd_517 wd_519 sel_Jx4a65c_fastRemove_b59b0 rfl (Or.inl hk_o) (q_small_of (Nat.le_of_ble_eq_true rfl)) hm9 (q_kTv0 (fun σ14 hM15 => ?_)) q_kTv00
  refine wp_less (ac2 := 0) (as2 := 0) (Nat.le_of_ble_eq_true rfl) (Nat.le_of_ble_eq_true rfl) ?_
  have h := hk12 σ14 hM15
  refine wp_aload_n dJx4a65c_remove_915e3_24 rfl ?_
  obtain ⟨σ9, hrp, h⟩ := h
  refine wp_rep hrp ?_
  exact wp_ret_a dJx4a65c_remove_915e3_25 rfl (Or.inl ⟨_, rfl⟩) h

set_option maxRecDepth 100000 in
set_option maxHeartbeats 4000000 in
theorem wm_Jx4a65c_fastRemove_b59b0 {g : qG} {l : Launch} (hl : l.stackTraces = false) {a0 : Nat} {a1 : Nat} {a2 : Int} {σ : qS} {Post : qS → qRs → Prop}
    (h : gK σ a0 = 10 ∧ (∀ σ2 : qS, σ2 = sI σ 360 a0 ((gI σ 360 a0) + 1) → ∀ x4 : Int, x4 = (gI σ2 362 a0) - 1 → qR ((gI σ2 362 a0) - 1) ∧ qR a2 ∧ ((((gI σ2 362 a0) - 1) ≤ a2 → (∀ σ9 : qS, σ9 = sI σ2 362 a0 x4 → gK σ9 a1 = 24 ∧ q_in σ9 a1 x4 ∧ q_elok σ9 4 0 ∧ (∀ σ14 : qS, σ14 = sR σ9 a1 x4 0 → Post σ14 (.inl none)))) ∧ (¬ (((gI σ2 362 a0) - 1) ≤ a2) → q_isA σ2 4 a1 ∧ gK σ2 a1 = 24 ∧ q_cpok σ2 a1 (a2 + 1) a1 a2 (x4 - a2) ∧ (∀ σ19 : qS, σ19 = sRow σ2 a1 (q_cpy (gR σ2 a1) (gR σ2 a1) (a2 + 1) a2 (x4 - a2)) → (∀ σ21 : qS, σ21 = sI σ19 362 a0 x4 → q_in σ21 a1 x4 ∧ q_elok σ21 4 0 ∧ (∀ σ25 : qS, σ25 = sR σ21 a1 x4 0 → Post σ25 (.inl none)))))))) : qMet g l M_Jx4a65c_fastRemove_b59b0 [vr a0, vr a1, vi a2] σ Post := by
  refine qMet_of hl (by decide +kernel) (Nat.le_of_ble_eq_true rfl) (List.forall_mem_cons.mpr ⟨trivial, List.forall_mem_cons.mpr ⟨trivial, List.forall_mem_cons.mpr ⟨trivial, fun _ h => nomatch h⟩⟩⟩) ?_
  show qW g l M_Jx4a65c_fastRemove_b59b0 0 0 0 [some (vr a0), some (vr a1), some (vi a2), none] [] σ Post
  refine wp_aload_n dJx4a65c_fastRemove_b59b0_0 rfl ?_
  refine wp_dup dJx4a65c_fastRemove_b59b0_1 trivial ?_
  obtain ⟨hk1, h⟩ := h
  refine wp_get (v := vi (gI σ 360 a0)) dJx4a65c_fastRemove_b59b0_2 fl_RJx4a65c_63 hk1 rfl ?_
  refine wp_iconst dJx4a65c_fastRemove_b59b0_5 ?_
  refine wp_iadd dJx4a65c_fastRemove_b59b0_6 ?_
  refine wp_put (v := vi ((gI σ 360 a0) + 1)) dJx4a65c_fastRemove_b59b0_7 fs_RJx4a65c_63 (fun h => absurd h (by decide)) hk1 (Or.inl rfl) ?_
  refine wp_nmS (fun σ2 hs3 => ?_)
  replace h := h σ2 hs3
  refine wp_aload_n dJx4a65c_fastRemove_b59b0_10 rfl ?_
  refine wp_get (v := vi (gI σ2 362 a0)) dJx4a65c_fastRemove_b59b0_11 fl_RJx4a65c_48 (by rw [hs3]; exact hk1) rfl ?_
  refine wp_iconst dJx4a65c_fastRemove_b59b0_14 ?_
  refine wp_isub dJx4a65c_fastRemove_b59b0_15 ?_
  refine wp_dup dJx4a65c_fastRemove_b59b0_16 trivial ?_
  refine wp_nmI (fun x4 hx5 => ?_)
  replace h := h x4 hx5
  refine wp_istore_n' (ls' := [some (vr a0), some (vr a1), some (vi a2), some (vi x4)]) dJx4a65c_fastRemove_b59b0_17 (Nat.le_of_ble_eq_true rfl) rfl ?_
  refine wp_iload_n dJx4a65c_fastRemove_b59b0_18 rfl ?_
  obtain ⟨hr6, hr7, h⟩ := h
  refine wp_icmp_le (tgt := 34) dJx4a65c_fastRemove_b59b0_19 (by decide) hr6 hr7 (fun c8 => ?_) (fun c8 => ?_)
  · replace h := h.1 c8
    refine wp_aload_n dJx4a65c_fastRemove_b59b0_34 rfl ?_
    refine wp_aload_n dJx4a65c_fastRemove_b59b0_35 rfl ?_
    refine wp_iload_n dJx4a65c_fastRemove_b59b0_36 rfl ?_
    refine wp_dup_x1 dJx4a65c_fastRemove_b59b0_37 trivial trivial ?_
    refine wp_put (v := vi x4) dJx4a65c_fastRemove_b59b0_38 fs_RJx4a65c_48 (fun h => absurd h (by decide)) (by rw [hs3]; exact hk1) (Or.inl rfl) ?_
    refine wp_nmS (fun σ9 hs10 => ?_)
    replace h := h σ9 hs10
    refine wp_null dJx4a65c_fastRemove_b59b0_41 ?_
    obtain ⟨hk11, hi12, he13, h⟩ := h
    refine wp_aastore dJx4a65c_fastRemove_b59b0_42 hk11 (by decide) hi12 he13 ?_
    refine wp_nmS (fun σ14 hs15 => ?_)
    replace h := h σ14 hs15
    exact wp_ret_v dJx4a65c_fastRemove_b59b0_43 rfl h
  · replace h := h.2 c8
    refine wp_aload_n dJx4a65c_fastRemove_b59b0_22 rfl ?_
    refine wp_iload_n dJx4a65c_fastRemove_b59b0_23 rfl ?_
    refine wp_iconst dJx4a65c_fastRemove_b59b0_24 ?_
    refine wp_iadd dJx4a65c_fastRemove_b59b0_25 ?_
    refine wp_aload_n dJx4a65c_fastRemove_b59b0_26 rfl ?_
    refine wp_iload_n dJx4a65c_fastRemove_b59b0_27 rfl ?_
    refine wp_iload_n dJx4a65c_fastRemove_b59b0_28 rfl ?_
    refine wp_iload_n dJx4a65c_fastRemove_b59b0_29 rfl ?_
    refine wp_isub dJx4a65c_fastRemove_b59b0_30 ?_
    obtain ⟨ha16, hk17, hcp18, h⟩ := h
    refine wp_acopy dJx4a65c_fastRemove_b59b0_31 wd_446 ha16 hk17 hcp18.1 hcp18.2.1 hcp18.2.2.1 hcp18.2.2.2.1 hcp18.2.2.2.2.1 hcp18.2.2.2.2.2 (q_small_of (Nat.le_of_ble_eq_true rfl)) ⟨Nat.le_of_ble_eq_true rfl, Nat.le_of_ble_eq_true rfl⟩ ?_
    refine wp_nmS (fun σ19 hs20 => ?_)
    replace h := h σ19 hs20
    refine wp_aload_n dJx4a65c_fastRemove_b59b0_34 rfl ?_
    refine wp_aload_n dJx4a65c_fastRemove_b59b0_35 rfl ?_
    refine wp_iload_n dJx4a65c_fastRemove_b59b0_36 rfl ?_
    refine wp_dup_x1 dJx4a65c_fastRemove_b59b0_37 trivial trivial ?_
    refine wp_put (v := vi x4) dJx4a65c_fastRemove_b59b0_38 fs_RJx4a65c_48 (fun h => absurd h (by decide)) (by rw [hs20, hs3]; exact hk1) (Or.inl rfl) ?_
    refine wp_nmS (fun σ21 hs22 => ?_)
    replace h := h σ21 hs22
    refine wp_null dJx4a65c_fastRemove_b59b0_41 ?_
    obtain ⟨hi23, he24, h⟩ := h
    refine wp_aastore dJx4a65c_fastRemove_b59b0_42 (by rw [hs22, hs20]; exact hk17) (by decide) hi23 he24 ?_
    refine wp_nmS (fun σ25 hs26 => ?_)
    replace h := h σ25 hs26
    exact wp_ret_v dJx4a65c_fastRemove_b59b0_43 rfl h

set_option maxRecDepth 100000 in
set_option maxHeartbeats 4000000 in
theorem wm_Jx4a65c_rangeCheckForAdd_d00df {g : qG} {l : Launch} (hl : l.stackTraces = false) {a0 : Nat} {a1 : Int} {σ : qS} {Post : qS → qRs → Prop}
    (h : gK σ a0 = 10 ∧ qR a1 ∧ qR (gI σ 362 a0) ∧ (((gI σ 362 a0) < a1 → False) ∧ (¬ ((gI σ 362 a0) < a1) → ((0 ≤ a1 → Post σ (.inl none)) ∧ (¬ (0 ≤ a1) → False))))) : qMet g l M_Jx4a65c_rangeCheckForAdd_d00df [vr a0, vi a1] σ Post := by
  refine qMet_of hl (by decide +kernel) (Nat.le_of_ble_eq_true rfl) (List.forall_mem_cons.mpr ⟨trivial, List.forall_mem_cons.mpr ⟨trivial, fun _ h => nomatch h⟩⟩) ?_
  show qW g l M_Jx4a65c_rangeCheckForAdd_d00df 0 0 0 [some (vr a0), some (vi a1)] [] σ Post
  refine wp_iload_n dJx4a65c_rangeCheckForAdd_d00df_0 rfl ?_
  refine wp_aload_n dJx4a65c_rangeCheckForAdd_d00df_1 rfl ?_
  obtain ⟨hk1, h⟩ := h
  refine wp_get (v := vi (gI σ 362 a0)) dJx4a65c_rangeCheckForAdd_d00df_2 fl_RJx4a65c_48 hk1 rfl ?_
  obtain ⟨hr2, hr3, h⟩ := h
  refine wp_icmp_gt (tgt := 12) dJx4a65c_rangeCheckForAdd_d00df_5 (by decide) hr2 hr3 (fun c4 => ?_) (fun c4 => ?_)
  · replace h := h.1 c4
    exact h.elim
  · replace h := h.2 c4
    refine wp_iload_n dJx4a65c_rangeCheckForAdd_d00df_8 rfl ?_
    refine wp_if_ge (tgt := 25) dJx4a65c_rangeCheckForAdd_d00df_9 (by decide) hr2 (fun c5 => ?_) (fun c5 => ?_)
    · replace h := h.1 c5
      exact wp_ret_v dJx4a65c_rangeCheckForAdd_d00df_25 rfl h
    · replace h := h.2 c5
      exact h.elim

set_option maxRecDepth 100000 in
set_option maxHeartbeats 4000000 in
theorem wm_J7_copyOf_1904c {g : qG} {l : Launch} (hl : l.stackTraces = false) {a0 : Nat} {a1 : Int} {σ : qS} {Post : qS → qRs → Prop}
    (h : q_isA σ 4 a0 ∧ (∃ Mid3 : qS → Nat → Prop, qMet g l M_J7_copyOf_6403c [vr a0, vi a1, vr (g.2.2.1 7 + 1)] σ (qTr0 Mid3) ∧ ∀ (σ7 : qS) (v9 : Nat), Mid3 σ7 v9 → Post σ7 (.inl (some (vr v9))))) : qMet g l M_J7_copyOf_1904c [vr a0, vi a1] σ Post := by
  refine qMet_of hl (by decide +kernel) (Nat.le_of_ble_eq_true rfl) (List.forall_mem_cons.mpr ⟨trivial, List.forall_mem_cons.mpr ⟨trivial, fun _ h => nomatch h⟩⟩) ?_
  show qW g l M_J7_copyOf_1904c 1 200 0 [some (vr a0), some (vi a1)] [] σ Post
  refine wp_aload_n dJ7_copyOf_1904c_0 rfl ?_
  refine wp_iload_n dJ7_copyOf_1904c_1 rfl ?_
  refine wp_aload_n dJ7_copyOf_1904c_2 rfl ?_
  obtain ⟨ha1, h⟩ := h
  refine wp_getC dJ7_copyOf_1904c_3 wd_247 ha1 (q_small_of (Nat.le_of_ble_eq_true rfl)) ⟨Nat.le_of_ble_eq_true rfl, Nat.le_of_ble_eq_true rfl⟩ ?_
  obtain ⟨Mid3, hm2, hk5⟩ := h
  refine wp_callS (M' := M_J7_copyOf_6403c) (As := [vr a0, vi a1, vr (g.2.2.1 7 + 1)]) (st := []) dJ7_copyOf_1904c_6 cee_J7_copyOf_6403c np_J7_copyOf_6403c rfl ⟨Nat.le_of_ble_eq_true rfl, Nat.le_of_ble_eq_true rfl, Nat.le_of_ble_eq_true rfl, Nat.le_of_ble_eq_true rfl⟩ wd_263 wd_264 (q_small_of (Nat.le_of_ble_eq_true rfl)) hm2 (q_kTr0 (fun σ7 v9 hM8 => ?_)) q_kTr00
  refine wp_less (ac2 := 0) (as2 := 0) (Nat.le_of_ble_eq_true rfl) (Nat.le_of_ble_eq_true rfl) ?_
  have h := hk5 σ7 v9 hM8
  exact wp_ret_a dJ7_copyOf_1904c_9 rfl (Or.inr ⟨_, rfl⟩) h

set_option maxRecDepth 100000 in
set_option maxHeartbeats 4000000 in
theorem wm_J7_copyOf_6403c {g : qG} {l : Launch} (hl : l.stackTraces = false) {a0 : Nat} {a1 : Int} {a2 : Nat} {σ : qS} {Post : qS → qRs → Prop}
    (h : ((¬ a2 = (g.2.2.1 7 + 1) → False) ∧ (a2 = (g.2.2.1 7 + 1) → (0 ≤ a1 ∧ a1 ≤ 200) ∧ (∀ r2 : Nat, gK σ r2 = 0 → r2 ≠ 0 → ∀ σ6 : qS, σ6 = nA σ r2 24 a1 → q_isA σ6 4 a0 ∧ qR (gN σ6 a0) ∧ qR a1 ∧ q_cpok σ6 a0 0 r2 0 (min (gN σ6 a0) a1) ∧ (∀ σ13 : qS, σ13 = sRow σ6 r2 (q_cpy (gR σ6 a0) (gR σ6 r2) 0 0 (min (gN σ6 a0) a1)) → Post σ13 (.inl (some (vr r2)))))))) : qMet g l M_J7_copyOf_6403c [vr a0, vi a1, vr a2] σ Post := by
  refine qMet_of hl (by decide +kernel) (Nat.le_of_ble_eq_true rfl) (List.forall_mem_cons.mpr ⟨trivial, List.forall_mem_cons.mpr ⟨trivial, List.forall_mem_cons.mpr ⟨trivial, fun _ h => nomatch h⟩⟩⟩) ?_
  show qW g l M_J7_copyOf_6403c 1 200 0 [some (vr a0), some (vi a1), some (vr a2), none] [] σ Post
  refine wp_aload_n dJ7_copyOf_6403c_0 rfl ?_
  refine wp_ldcM dJ7_copyOf_6403c_1 wd_266 ?_
  refine wp_acmp_ne (tgt := 13) dJ7_copyOf_6403c_3 (by decide) (fun c1 => ?_) (fun c1 => ?_)
  · replace h := h.1 c1
    refine wp_aload_n dJ7_copyOf_6403c_13 rfl ?_
    exact h.elim
  · replace h := h.2 c1
    refine wp_iload_n dJ7_copyOf_6403c_6 rfl ?_
    obtain ⟨hn5, h⟩ := h
    refine wp_anewarray (j := 4) dJ7_copyOf_6403c_7 (Or.inr ⟨rfl, rfl⟩) wd_268 ⟨hn5.1, by omega⟩ (Nat.le_of_ble_eq_true rfl) (by omega) (fun r2 hz3 hq4 => ?_)
    refine wp_less (ac2 := 0) (as2 := 0) (by omega) (by omega) ?_
    replace h := h r2 hz3 hq4
    refine wp_nmS (fun σ6 hs7 => ?_)
    replace h := h σ6 hs7
    have hk8 : gK σ6 r2 = 24 := by rw [hs7]; exact if_pos rfl
    refine wp_goto (tgt := 24) dJ7_copyOf_6403c_10 (by decide) ?_
    refine wp_astore_n' (ls' := [some (vr a0), some (vi a1), some (vr a2), some (vr r2)]) dJ7_copyOf_6403c_24 (Nat.le_of_ble_eq_true rfl) rfl ?_
    refine wp_aload_n dJ7_copyOf_6403c_25 rfl ?_
    refine wp_iconst dJ7_copyOf_6403c_26 ?_
    refine wp_aload_n dJ7_copyOf_6403c_27 rfl ?_
    refine wp_iconst dJ7_copyOf_6403c_28 ?_
    refine wp_aload_n dJ7_copyOf_6403c_29 rfl ?_
    obtain ⟨ha9, h⟩ := h
    refine wp_alen dJ7_copyOf_6403c_30 ha9 ?_
    refine wp_iload_n dJ7_copyOf_6403c_31 rfl ?_
    obtain ⟨hr10, hr11, h⟩ := h
    refine wp_mmin dJ7_copyOf_6403c_32 wd_269 hr10 hr11 (q_small_of (Nat.le_of_ble_eq_true rfl)) ⟨Nat.le_of_ble_eq_true rfl, Nat.le_of_ble_eq_true rfl⟩ ?_
    obtain ⟨hcp12, h⟩ := h
    refine wp_acopy dJ7_copyOf_6403c_35 wd_272 ha9 hk8 hcp12.1 hcp12.2.1 hcp12.2.2.1 hcp12.2.2.2.1 hcp12.2.2.2.2.1 hcp12.2.2.2.2.2 (q_small_of (Nat.le_of_ble_eq_true rfl)) ⟨Nat.le_of_ble_eq_true rfl, Nat.le_of_ble_eq_true rfl⟩ ?_
    refine wp_nmS (fun σ13 hs14 => ?_)
    replace h := h σ13 hs14
    refine wp_aload_n dJ7_copyOf_6403c_38 rfl ?_
    exact wp_ret_a dJ7_copyOf_6403c_39 rfl (Or.inr ⟨_, rfl⟩) h

set_option maxRecDepth 100000 in
set_option maxHeartbeats 4000000 in
theorem wm_J15_checkIndex_7cf53 {g : qG} {l : Launch} (hl : l.stackTraces = false) {a0 : Int} {a1 : Int} {σ : qS} {Post : qS → qRs → Prop}
    (h : (∃ v2 : Int, qMet g l M_J3_checkIndex_8e157 [vi a0, vi a1, vr 0] σ (qPi σ v2) ∧ (Post σ (.inl (some (vi v2)))))) : qMet g l M_J15_checkIndex_7cf53 [vi a0, vi a1] σ Post := by
  refine qMet_of hl (by decide +kernel) (Nat.le_of_ble_eq_true rfl) (List.forall_mem_cons.mpr ⟨trivial, List.forall_mem_cons.mpr ⟨trivial, fun _ h => nomatch h⟩⟩) ?_
  show qW g l M_J15_checkIndex_7cf53 0 0 0 [some (vi a0), some (vi a1)] [] σ Post
  refine wp_iload_n dJ15_checkIndex_7cf53_0 rfl ?_
  refine wp_iload_n dJ15_checkIndex_7cf53_1 rfl ?_
  refine wp_null dJ15_checkIndex_7cf53_2 ?_
  obtain ⟨v2, hm1, h⟩ := h
  refine wp_callS (M' := M_J3_checkIndex_8e157) (As := [vi a0, vi a1, vr 0]) (st := []) dJ15_checkIndex_7cf53_3 cee_J3_checkIndex_8e157 np_J3_checkIndex_8e157 rfl ⟨Nat.le_of_ble_eq_true rfl, Nat.le_of_ble_eq_true rfl, Nat.le_of_ble_eq_true rfl, Nat.le_of_ble_eq_true rfl⟩ wd_308 wd_309 (q_small_of (Nat.le_of_ble_eq_true rfl)) hm1 (q_kPi ?_) q_kPi0
  refine wp_less (ac2 := 0) (as2 := 0) (Nat.le_of_ble_eq_true rfl) (Nat.le_of_ble_eq_true rfl) ?_
  exact wp_ret_i dJ15_checkIndex_7cf53_6 rfl rfl h

set_option maxRecDepth 100000 in
set_option maxHeartbeats 4000000 in
theorem wm_J8_newLength_cabcc {g : qG} {l : Launch} (hl : l.stackTraces = false) {a0 : Int} {a1 : Int} {a2 : Int} {σ : qS} {Post : qS → qRs → Prop}
    (h : qR a1 ∧ qR a2 ∧ ∀ x3 : Int, x3 = a0 + (max a1 a2) → qR x3 ∧ ((x3 ≤ 0 → False) ∧ (¬ (x3 ≤ 0) → ((2147483639 < x3 → False) ∧ (¬ (2147483639 < x3) → Post σ (.inl (some (vi x3)))))))) : qMet g l M_J8_newLength_cabcc [vi a0, vi a1, vi a2] σ Post := by
  refine qMet_of hl (by decide +kernel) (Nat.le_of_ble_eq_true rfl) (List.forall_mem_cons.mpr ⟨trivial, List.forall_mem_cons.mpr ⟨trivial, List.forall_mem_cons.mpr ⟨trivial, fun _ h => nomatch h⟩⟩⟩) ?_
  show qW g l M_J8_newLength_cabcc 0 0 0 [some (vi a0), some (vi a1), some (vi a2), none] [] σ Post
  refine wp_iload_n dJ8_newLength_cabcc_0 rfl ?_
  refine wp_iload_n dJ8_newLength_cabcc_1 rfl ?_
  refine wp_iload_n dJ8_newLength_cabcc_2 rfl ?_
  obtain ⟨hr1, hr2, h⟩ := h
  refine wp_mmax dJ8_newLength_cabcc_3 wd_237 hr1 hr2 (q_small_of (Nat.le_of_ble_eq_true rfl)) ⟨Nat.le_of_ble_eq_true rfl, Nat.le_of_ble_eq_true rfl⟩ ?_
  refine wp_iadd dJ8_newLength_cabcc_6 ?_
  refine wp_nmI (fun x3 hx4 => ?_)
  replace h := h x3 hx4
  refine wp_istore_n' (ls' := [some (vi a0), some (vi a1), some (vi a2), some (vi x3)]) dJ8_newLength_cabcc_7 (Nat.le_of_ble_eq_true rfl) rfl ?_
  refine wp_iconst dJ8_newLength_cabcc_8 ?_
  refine wp_iload_n dJ8_newLength_cabcc_9 rfl ?_
  obtain ⟨hr5, h⟩ := h
  refine wp_icmp_ge (tgt := 21) dJ8_newLength_cabcc_10 (by decide) (by unfold qR; omega) hr5 (fun c6 => ?_) (fun c6 => ?_)
  · replace h := h.1 c6
    refine wp_iload_n dJ8_newLength_cabcc_21 rfl ?_
    refine wp_iload_n dJ8_newLength_cabcc_22 rfl ?_
    exact h.elim
  · replace h := h.2 c6
    refine wp_iload_n dJ8_newLength_cabcc_13 rfl ?_
    refine wp_ldcI (z := 2147483639) dJ8_newLength_cabcc_14 wd_240 (by decide +kernel) ?_
    refine wp_icmp_gt (tgt := 21) dJ8_newLength_cabcc_16 (by decide) hr5 (by unfold qR; omega) (fun c7 => ?_) (fun c7 => ?_)
    · replace h := h.1 c7
      refine wp_iload_n dJ8_newLength_cabcc_21 rfl ?_
      refine wp_iload_n dJ8_newLength_cabcc_22 rfl ?_
      exact h.elim
    · replace h := h.2 c7
      refine wp_iload_n dJ8_newLength_cabcc_19 rfl ?_
      exact wp_ret_i dJ8_newLength_cabcc_20 rfl rfl h

set_option maxRecDepth 100000 in
set_option maxHeartbeats 4000000 in
theorem wm_J3_checkIndex_8e157 {g : qG} {l : Launch} (hl : l.stackTraces = false) {a0 : Int} {a1 : Int} {a2 : Nat} {σ : qS} {Post : qS → qRs → Prop}
    (h : qR a0 ∧ ((a0 < 0 → False) ∧ (¬ (a0 < 0) → qR a1 ∧ ((a0 < a1 → Post σ (.inl (some (vi a0)))) ∧ (¬ (a0 < a1) → False))))) : qMet g l M_J3_checkIndex_8e157 [vi a0, vi a1, vr a2] σ Post := by
  refine qMet_of hl (by decide +kernel) (Nat.le_of_ble_eq_true rfl) (List.forall_mem_cons.mpr ⟨trivial, List.forall_mem_cons.mpr ⟨trivial, List.forall_mem_cons.mpr ⟨trivial, fun _ h => nomatch h⟩⟩⟩) ?_
  show qW g l M_J3_checkIndex_8e157 0 0 0 [some (vi a0), some (vi a1), some (vr a2)] [] σ Post
  refine wp_iload_n dJ3_checkIndex_8e157_0 rfl ?_
  obtain ⟨hr1, h⟩ := h
  refine wp_if_lt (tgt := 9) dJ3_checkIndex_8e157_1 (by decide) hr1 (fun c2 => ?_) (fun c2 => ?_)
  · replace h := h.1 c2
    refine wp_aload_n dJ3_checkIndex_8e157_9 rfl ?_
    refine wp_iload_n dJ3_checkIndex_8e157_10 rfl ?_
    refine wp_iload_n dJ3_checkIndex_8e157_11 rfl ?_
    exact h.elim
  · replace h := h.2 c2
    refine wp_iload_n dJ3_checkIndex_8e157_4 rfl ?_
    refine wp_iload_n dJ3_checkIndex_8e157_5 rfl ?_
    obtain ⟨hr3, h⟩ := h
    refine wp_icmp_lt (tgt := 16) dJ3_checkIndex_8e157_6 (by decide) hr1 hr3 (fun c4 => ?_) (fun c4 => ?_)
    · replace h := h.1 c4
      refine wp_iload_n dJ3_checkIndex_8e157_16 rfl ?_
      exact wp_ret_i dJ3_checkIndex_8e157_17 rfl rfl h
    · replace h := h.2 c4
      refine wp_aload_n dJ3_checkIndex_8e157_9 rfl ?_
      refine wp_iload_n dJ3_checkIndex_8e157_10 rfl ?_
      refine wp_iload_n dJ3_checkIndex_8e157_11 rfl ?_
      exact h.elim
