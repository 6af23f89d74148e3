/-! printed: the walks -/
set_option maxRecDepth 100000 in
set_option maxHeartbeats 4000000 in
theorem wm_X0_init {g : qG} {l : Launch} (hl : l.stackTraces = false) {a0 : Nat} {a1 : Int} {a2 : Nat} {a3 : Int} {σ : qS} {Post : qS → qRs → Prop}
    (h : a0 ≠ 0 ∧ ∀ r2 : Nat, gK σ r2 = 0 → r2 ≠ 0 → ∀ σ5 : qS, σ5 = nO σ r2 2 → (∃ Mid9 : qS → Prop, qMet g l M_X1_init [vr r2] σ5 (qTv0 Mid9) ∧ ∀ (σ13 : qS), Mid9 σ13 → gK σ13 a0 = 1 ∧ (∀ σ16 : qS, σ16 = sP σ13 2 a0 r2 → ∀ r18 : Nat, gK σ16 r18 = 0 → r18 ≠ 0 → ∀ σ21 : qS, σ21 = nO σ16 r18 2 → (∃ Mid25 : qS → Prop, qMet g l M_X1_init [vr r18] σ21 (qTv0 Mid25) ∧ ∀ (σ29 : qS), Mid25 σ29 → gK σ29 a0 = 1 ∧ (∀ σ32 : qS, σ32 = sP σ29 3 a0 r18 → (∀ σ34 : qS, σ34 = sI σ32 0 a0 a1 → (∀ σ36 : qS, σ36 = sP σ34 4 a0 a2 → (∀ σ38 : qS, σ38 = sI σ36 1 a0 a3 → Post σ38 (.inl none))))))))) : qMet g l M_X0_init [vr a0, vi a1, vr a2, vi a3] σ Post := by
  refine qMet_of hl (by decide +kernel) (Nat.le_of_ble_eq_true rfl) (List.forall_mem_cons.mpr ⟨trivial, List.forall_mem_cons.mpr ⟨trivial, List.forall_mem_cons.mpr ⟨trivial, List.forall_mem_cons.mpr ⟨trivial, fun _ h => nomatch h⟩⟩⟩⟩) ?_
  show qW g l M_X0_init 2 8 0 [some (vr a0), some (vi a1), some (vr a2), some (vi a3)] [] σ Post
  refine wp_aload_n dX0_init_0 rfl ?_
  obtain ⟨hz1, h⟩ := h
  refine wp_objInit dX0_init_1 wd_637 hz1 (q_small_of (Nat.le_of_ble_eq_true rfl)) ⟨Nat.le_of_ble_eq_true rfl, Nat.le_of_ble_eq_true rfl⟩ ?_
  refine wp_aload_n dX0_init_4 rfl ?_
  refine wp_new (n := 4) dX0_init_5 nw_RX0_9 rfl (Nat.le_of_ble_eq_true rfl) (Nat.le_of_ble_eq_true rfl) (fun r2 hz3 hq4 => ?_)
  refine wp_less (ac2 := 1) (as2 := 4) (Nat.le_of_ble_eq_true rfl) (Nat.le_of_ble_eq_true rfl) ?_
  replace h := h r2 hz3 hq4
  refine wp_nmS (fun σ5 hs6 => ?_)
  replace h := h σ5 hs6
  have hk7 : gK σ5 r2 = 2 := by rw [hs6]; exact if_pos rfl
  refine wp_dup dX0_init_8 trivial ?_
  obtain ⟨Mid9, hm8, hk11⟩ := h
  refine wp_callIN (M' := M_X1_init) (As := []) (st := [vr r2, vr a0]) dX0_init_9 cee_X1_init np_X1_init rfl ⟨Nat.le_of_ble_eq_true rfl, Nat.le_of_ble_eq_true rfl, Nat.le_of_ble_eq_true rfl, Nat.le_of_ble_eq_true rfl⟩ wd_639 wd_350 rfl rfl hq4 (q_small_of (Nat.le_of_ble_eq_true rfl)) hm8 (q_kTv0 (fun σ13 hM14 => ?_)) q_kTv00
  refine wp_less (ac2 := 1) (as2 := 4) (Nat.le_of_ble_eq_true rfl) (Nat.le_of_ble_eq_true rfl) ?_
  have h := hk11 σ13 hM14
  obtain ⟨hk15, h⟩ := h
  refine wp_put (v := vr r2) dX0_init_12 fs_RX0_12 (fun _ => rfl) hk15 rfl ?_
  refine wp_nmS (fun σ16 hs17 => ?_)
  replace h := h σ16 hs17
  refine wp_aload_n dX0_init_15 rfl ?_
  refine wp_new (n := 4) dX0_init_16 nw_RX0_9 rfl (Nat.le_of_ble_eq_true rfl) (Nat.le_of_ble_eq_true rfl) (fun r18 hz19 hq20 => ?_)
  refine wp_less (ac2 := 0) (as2 := 0) (Nat.le_of_ble_eq_true rfl) (Nat.le_of_ble_eq_true rfl) ?_
  replace h := h r18 hz19 hq20
  refine wp_nmS (fun σ21 hs22 => ?_)
  replace h := h σ21 hs22
  have hk23 : gK σ21 r18 = 2 := by rw [hs22]; exact if_pos rfl
  refine wp_dup dX0_init_19 trivial ?_
  obtain ⟨Mid25, hm24, hk27⟩ := h
  refine wp_callIN (M' := M_X1_init) (As := []) (st := [vr r18, vr a0]) dX0_init_20 cee_X1_init np_X1_init rfl ⟨Nat.le_of_ble_eq_true rfl, Nat.le_of_ble_eq_true rfl, Nat.le_of_ble_eq_true rfl, Nat.le_of_ble_eq_true rfl⟩ wd_639 wd_350 rfl rfl hq20 (q_small_of (Nat.le_of_ble_eq_true rfl)) hm24 (q_kTv0 (fun σ29 hM30 => ?_)) q_kTv00
  refine wp_less (ac2 := 0) (as2 := 0) (Nat.le_of_ble_eq_true rfl) (Nat.le_of_ble_eq_true rfl) ?_
  have h := hk27 σ29 hM30
  obtain ⟨hk31, h⟩ := h
  refine wp_put (v := vr r18) dX0_init_23 fs_RX0_18 (fun _ => rfl) hk31 rfl ?_
  refine wp_nmS (fun σ32 hs33 => ?_)
  replace h := h σ32 hs33
  refine wp_aload_n dX0_init_26 rfl ?_
  refine wp_iload_n dX0_init_27 rfl ?_
  refine wp_put (v := vi a1) dX0_init_28 fs_RX0_21 (fun _ => rfl) (by rw [hs33]; exact hk31) (Or.inl rfl) ?_
  refine wp_nmS (fun σ34 hs35 => ?_)
  replace h := h σ34 hs35
  refine wp_aload_n dX0_init_31 rfl ?_
  refine wp_aload_n dX0_init_32 rfl ?_
  refine wp_put (v := vr a2) dX0_init_33 fs_RX0_25 (fun _ => rfl) (by rw [hs35, hs33]; exact hk31) rfl ?_
  refine wp_nmS (fun σ36 hs37 => ?_)
  replace h := h σ36 hs37
  refine wp_aload_n dX0_init_36 rfl ?_
  refine wp_iload_n dX0_init_37 rfl ?_
  refine wp_put (v := vi a3) dX0_init_38 fs_RX0_29 (fun _ => rfl) (by rw [hs37, hs35, hs33]; exact hk31) (Or.inl rfl) ?_
  refine wp_nmS (fun σ38 hs39 => ?_)
  replace h := h σ38 hs39
  exact wp_ret_v dX0_init_41 rfl h

set_option maxRecDepth 100000 in
set_option maxHeartbeats 4000000 in
theorem wm_X0_goTo {g : qG} {l : Launch} (hl : l.stackTraces = false) {a0 : Nat} {a1 : Nat} {a2 : Int} {σ : qS} {Post : qS → qRs → Prop}
    (h : gK σ a0 = 1 ∧ gK σ (gP σ 4 a0) = 6 ∧ (∃ v4 : Int, qMet g l M_X5_indexOf [vr (gP σ 4 a0), vr a0] σ (qPi σ v4) ∧ ((∃ Mid6 : qS → Prop, qMet g l M_X5_takeOut [vr (gP σ 4 a0), vi v4] σ (qTv0 Mid6) ∧ ∀ (σ10 : qS), Mid6 σ10 → gK σ10 a1 = 6 ∧ (∃ Mid14 : qS → Prop, qMet g l M_X5_putIn [vr a1, vi a2, vr a0] σ10 (qTv0 Mid14) ∧ ∀ (σ18 : qS), Mid14 σ18 → gK σ18 a0 = 1 ∧ (∀ σ21 : qS, σ21 = sP σ18 4 a0 a1 → Post σ21 (.inl none))))))) : qMet g l M_X0_goTo [vr a0, vr a1, vi a2] σ Post := by
  refine qMet_of hl (by decide +kernel) (Nat.le_of_ble_eq_true rfl) (List.forall_mem_cons.mpr ⟨trivial, List.forall_mem_cons.mpr ⟨trivial, List.forall_mem_cons.mpr ⟨trivial, fun _ h => nomatch h⟩⟩⟩) ?_
  show qW g l M_X0_goTo 2 400 0 [some (vr a0), some (vr a1), some (vi a2)] [] σ Post
  refine wp_aload_n dX0_goTo_0 rfl ?_
  obtain ⟨hk1, h⟩ := h
  refine wp_get (v := vr (gP σ 4 a0)) dX0_goTo_1 fl_RX0_25 hk1 rfl ?_
  refine wp_aload_n dX0_goTo_4 rfl ?_
  refine wp_get (v := vr (gP σ 4 a0)) dX0_goTo_5 fl_RX0_25 hk1 rfl ?_
  refine wp_aload_n dX0_goTo_8 rfl ?_
  obtain ⟨hk3, h⟩ := h
  obtain ⟨v4, hm2, h⟩ := h
  refine wp_callV (M' := M_X5_indexOf) (As := [vr a0]) (st := [vr (gP σ 4 a0)]) (ci := 5) dX0_goTo_9 cee_X5_indexOf np_X5_indexOf rfl ⟨Nat.le_of_ble_eq_true rfl, Nat.le_of_ble_eq_true rfl, Nat.le_of_ble_eq_true rfl, Nat.le_of_ble_eq_true rfl⟩ wd_566 wd_567 wd_568 rfl (Or.inl hk3) (q_small_of (Nat.le_of_ble_eq_true rfl)) hm2 (q_kPi ?_) q_kPi0
  refine wp_less (ac2 := 2) (as2 := 400) (Nat.le_of_ble_eq_true rfl) (Nat.le_of_ble_eq_true rfl) ?_
  obtain ⟨Mid6, hm5, hk8⟩ := h
  refine wp_callV (M' := M_X5_takeOut) (As := [vi v4]) (st := []) (ci := 5) dX0_goTo_12 cee_X5_takeOut np_X5_takeOut rfl ⟨Nat.le_of_ble_eq_true rfl, Nat.le_of_ble_eq_true rfl, Nat.le_of_ble_eq_true rfl, Nat.le_of_ble_eq_true rfl⟩ wd_694 wd_676 wd_677 rfl (Or.inl hk3) (q_small_of (Nat.le_of_ble_eq_true rfl)) hm5 (q_kTv0 (fun σ10 hM11 => ?_)) q_kTv00
  refine wp_less (ac2 := 2) (as2 := 400) (Nat.le_of_ble_eq_true rfl) (Nat.le_of_ble_eq_true rfl) ?_
  have h := hk8 σ10 hM11
  refine wp_aload_n dX0_goTo_15 rfl ?_
  refine wp_iload_n dX0_goTo_16 rfl ?_
  refine wp_aload_n dX0_goTo_17 rfl ?_
  obtain ⟨hk13, h⟩ := h
  obtain ⟨Mid14, hm12, hk16⟩ := h
  refine wp_callV (M' := M_X5_putIn) (As := [vi a2, vr a0]) (st := []) (ci := 5) dX0_goTo_18 cee_X5_putIn np_X5_putIn rfl ⟨Nat.le_of_ble_eq_true rfl, Nat.le_of_ble_eq_true rfl, Nat.le_of_ble_eq_true rfl, Nat.le_of_ble_eq_true rfl⟩ wd_695 wd_671 wd_672 rfl (Or.inl hk13) (q_small_of (Nat.le_of_ble_eq_true rfl)) hm12 (q_kTv0 (fun σ18 hM19 => ?_)) q_kTv00
  refine wp_less (ac2 := 0) (as2 := 0) (Nat.le_of_ble_eq_true rfl) (Nat.le_of_ble_eq_true rfl) ?_
  have h := hk16 σ18 hM19
  refine wp_aload_n dX0_goTo_21 rfl ?_
  refine wp_aload_n dX0_goTo_22 rfl ?_
  obtain ⟨hk20, h⟩ := h
  refine wp_put (v := vr a1) dX0_goTo_23 fs_RX0_25 (fun h => absurd h (by decide)) hk20 rfl ?_
  refine wp_nmS (fun σ21 hs22 => ?_)
  replace h := h σ21 hs22
  exact wp_ret_v dX0_goTo_26 rfl h

set_option maxRecDepth 100000 in
set_option maxHeartbeats 4000000 in
theorem wm_X0_readingKey {g : qG} {l : Launch} (hl : l.stackTraces = false) {a0 : Nat} {σ : qS} {Post : qS → qRs → Prop}
    (h : gK σ a0 = 1 ∧ gK σ (gP σ 4 a0) = 6 ∧ ∀ x3 : Nat, x3 = gP σ 201 (gP σ 4 a0) → gK σ x3 = 5 ∧ (∃ v7 : Int, qMet g l M_X4_indexOf [vr x3, vr (gP σ 4 a0)] σ (qPi σ v7) ∧ (∀ x8 : Int, x8 = ((gI σ 160 x3) * 8) + v7 → (∃ v11 : Int, qMet g l M_X5_indexOf [vr (gP σ 4 a0), vr a0] σ (qPi σ v11) ∧ (Post σ (.inl (some (vi ((x8 * 4) + v11))))))))) : qMet g l M_X0_readingKey [vr a0] σ Post := by
  refine qMet_of hl (by decide +kernel) (Nat.le_of_ble_eq_true rfl) (List.forall_mem_cons.mpr ⟨trivial, fun _ h => nomatch h⟩) ?_
  show qW g l M_X0_readingKey 0 0 0 [some (vr a0), none, none] [] σ Post
  refine wp_aload_n dX0_readingKey_0 rfl ?_
  obtain ⟨hk1, h⟩ := h
  refine wp_get (v := vr (gP σ 4 a0)) dX0_readingKey_1 fl_RX0_25 hk1 rfl ?_
  obtain ⟨hk2, h⟩ := h
  refine wp_get (v := vr (gP σ 201 (gP σ 4 a0))) dX0_readingKey_4 fl_RX0_46 hk2 rfl ?_
  refine wp_nmR (fun x3 hx4 => ?_)
  replace h := h x3 hx4
  refine wp_astore_n' (ls' := [some (vr a0), some (vr x3), none]) dX0_readingKey_7 (Nat.le_of_ble_eq_true rfl) rfl ?_
  refine wp_aload_n dX0_readingKey_8 rfl ?_
  obtain ⟨hk5, h⟩ := h
  refine wp_get (v := vi (gI σ 160 x3)) dX0_readingKey_9 fl_RX0_49 hk5 rfl ?_
  refine wp_bipush dX0_readingKey_12 (by decide) ?_
  refine wp_imul dX0_readingKey_14 ?_
  refine wp_aload_n dX0_readingKey_15 rfl ?_
  refine wp_aload_n dX0_readingKey_16 rfl ?_
  refine wp_get (v := vr (gP σ 4 a0)) dX0_readingKey_17 fl_RX0_25 hk1 rfl ?_
  obtain ⟨v7, hm6, h⟩ := h
  refine wp_callV (M' := M_X4_indexOf) (As := [vr (gP σ 4 a0)]) (st := [vi ((gI σ 160 x3) * 8)]) (ci := 4) dX0_readingKey_20 cee_X4_indexOf np_X4_indexOf rfl ⟨Nat.le_of_ble_eq_true rfl, Nat.le_of_ble_eq_true rfl, Nat.le_of_ble_eq_true rfl, Nat.le_of_ble_eq_true rfl⟩ wd_565 wd_553 wd_554 rfl (Or.inl hk5) (q_small_of (Nat.le_of_ble_eq_true rfl)) hm6 (q_kPi ?_) q_kPi0
  refine wp_less (ac2 := 0) (as2 := 0) (Nat.le_of_ble_eq_true rfl) (Nat.le_of_ble_eq_true rfl) ?_
  refine wp_iadd dX0_readingKey_23 ?_
  refine wp_nmI (fun x8 hx9 => ?_)
  replace h := h x8 hx9
  refine wp_istore_n' (ls' := [some (vr a0), some (vr x3), some (vi x8)]) dX0_readingKey_24 (Nat.le_of_ble_eq_true rfl) rfl ?_
  refine wp_iload_n dX0_readingKey_25 rfl ?_
  refine wp_iconst dX0_readingKey_26 ?_
  refine wp_imul dX0_readingKey_27 ?_
  refine wp_aload_n dX0_readingKey_28 rfl ?_
  refine wp_get (v := vr (gP σ 4 a0)) dX0_readingKey_29 fl_RX0_25 hk1 rfl ?_
  refine wp_aload_n dX0_readingKey_32 rfl ?_
  obtain ⟨v11, hm10, h⟩ := h
  refine wp_callV (M' := M_X5_indexOf) (As := [vr a0]) (st := [vi (x8 * 4)]) (ci := 5) dX0_readingKey_33 cee_X5_indexOf np_X5_indexOf rfl ⟨Nat.le_of_ble_eq_true rfl, Nat.le_of_ble_eq_true rfl, Nat.le_of_ble_eq_true rfl, Nat.le_of_ble_eq_true rfl⟩ wd_566 wd_567 wd_568 rfl (Or.inl hk2) (q_small_of (Nat.le_of_ble_eq_true rfl)) hm10 (q_kPi ?_) q_kPi0
  refine wp_less (ac2 := 0) (as2 := 0) (Nat.le_of_ble_eq_true rfl) (Nat.le_of_ble_eq_true rfl) ?_
  refine wp_iadd dX0_readingKey_36 ?_
  exact wp_ret_i dX0_readingKey_37 rfl rfl h

set_option maxRecDepth 100000 in
set_option maxHeartbeats 4000000 in
theorem wm_X0_liesBefore {g : qG} {l : Launch} (hl : l.stackTraces = false) {a0 : Nat} {a1 : Nat} {σ : qS} {Post : qS → qRs → Prop}
    (h : gK σ a1 = 1 ∧ ∀ x2 : Nat, x2 = gP σ 4 a1 → gK σ a0 = 1 ∧ gK σ (gP σ 4 a0) = 6 ∧ ∀ x6 : Nat, x6 = gP σ 201 (gP σ 4 a0) → gK σ x6 = 5 ∧ (∃ v10 : Int, qMet g l M_X4_isFromRight [vr x6] σ (qPi σ v10) ∧ (gK σ x2 = 6 ∧ ((x6 = (gP σ 201 x2) → qR (gI σ 209 (gP σ 4 a0)) ∧ qR (gI σ 209 x2) ∧ (((gI σ 209 (gP σ 4 a0)) = (gI σ 209 x2) → (((gP σ 4 a0) = x2 → gK σ (gP σ 2 a0) = 2 ∧ gK σ (gP σ 2 a1) = 2 ∧ qR (gI σ 41 (gP σ 2 a0)) ∧ qR (gI σ 41 (gP σ 2 a1)) ∧ (((gI σ 41 (gP σ 2 a0)) = (gI σ 41 (gP σ 2 a1)) → gK σ (gP σ 207 (gP σ 4 a0)) = 2 ∧ (∃ v24 : Int, qMet g l M_X0_isNearer [vr (gP σ 2 a0), vr (gP σ 2 a1), vi (gI σ 42 (gP σ 207 (gP σ 4 a0))), vi v10] σ (qPi σ v24) ∧ ((v24 = 0 ∨ v24 = 1) ∧ Post σ (.inl (some (vi v24)))))) ∧ (¬ ((gI σ 41 (gP σ 2 a0)) = (gI σ 41 (gP σ 2 a1))) → (∀ v27 : Int, v27 = (if (gI σ 41 (gP σ 2 a1)) ≤ (gI σ 41 (gP σ 2 a0)) then 0 else 1) → Post σ (.inl (some (vi v27))))))) ∧ (¬ ((gP σ 4 a0) = x2) → (∃ v35 : Int, qMet g l M_X0_isNearer [vr (gP σ 207 (gP σ 4 a0)), vr (gP σ 207 x2), vi 24, vi v10] σ (qPi σ v35) ∧ ((v35 = 0 ∨ v35 = 1) ∧ Post σ (.inl (some (vi v35)))))))) ∧ (¬ ((gI σ 209 (gP σ 4 a0)) = (gI σ 209 x2)) → (∀ v38 : Int, v38 = (if (gI σ 209 x2) ≤ (gI σ 209 (gP σ 4 a0)) then 0 else 1) → Post σ (.inl (some (vi v38))))))) ∧ (¬ (x6 = (gP σ 201 x2)) → gK σ (gP σ 201 x2) = 5 ∧ ((qR (gI σ 160 x6) ∧ qR (gI σ 160 (gP σ 201 x2))) ∧ ∀ v49 : Int, v49 = (if (gI σ 160 (gP σ 201 x2)) ≤ (gI σ 160 x6) then 0 else 1) → Post σ (.inl (some (vi v49))))))))) : qMet g l M_X0_liesBefore [vr a0, vr a1] σ Post := by
  refine qMet_of hl (by decide +kernel) (Nat.le_of_ble_eq_true rfl) (List.forall_mem_cons.mpr ⟨trivial, List.forall_mem_cons.mpr ⟨trivial, fun _ h => nomatch h⟩⟩) ?_
  show qW g l M_X0_liesBefore 0 0 0 [some (vr a0), some (vr a1), none, none, none] [] σ Post
  refine wp_aload_n dX0_liesBefore_0 rfl ?_
  obtain ⟨hk1, h⟩ := h
  refine wp_get (v := vr (gP σ 4 a1)) dX0_liesBefore_1 fl_RX0_25 hk1 rfl ?_
  refine wp_nmR (fun x2 hx3 => ?_)
  replace h := h x2 hx3
  refine wp_astore_n' (ls' := [some (vr a0), some (vr a1), some (vr x2), none, none]) dX0_liesBefore_4 (Nat.le_of_ble_eq_true rfl) rfl ?_
  refine wp_aload_n dX0_liesBefore_5 rfl ?_
  obtain ⟨hk4, h⟩ := h
  refine wp_get (v := vr (gP σ 4 a0)) dX0_liesBefore_6 fl_RX0_25 hk4 rfl ?_
  obtain ⟨hk5, h⟩ := h
  refine wp_get (v := vr (gP σ 201 (gP σ 4 a0))) dX0_liesBefore_9 fl_RX0_46 hk5 rfl ?_
  refine wp_nmR (fun x6 hx7 => ?_)
  replace h := h x6 hx7
  refine wp_astore_n' (ls' := [some (vr a0), some (vr a1), some (vr x2), some (vr x6), none]) dX0_liesBefore_12 (Nat.le_of_ble_eq_true rfl) rfl ?_
  refine wp_aload_n dX0_liesBefore_13 rfl ?_
  obtain ⟨hk9, h⟩ := h
  obtain ⟨v10, hm8, h⟩ := h
  refine wp_callV (M' := M_X4_isFromRight) (As := []) (st := []) (ci := 4) dX0_liesBefore_14 cee_X4_isFromRight np_X4_isFromRight rfl ⟨Nat.le_of_ble_eq_true rfl, Nat.le_of_ble_eq_true rfl, Nat.le_of_ble_eq_true rfl, Nat.le_of_ble_eq_true rfl⟩ wd_829 wd_471 wd_472 rfl (Or.inl hk9) (q_small_of (Nat.le_of_ble_eq_true rfl)) hm8 (q_kPi ?_) q_kPi0
  refine wp_less (ac2 := 0) (as2 := 0) (Nat.le_of_ble_eq_true rfl) (Nat.le_of_ble_eq_true rfl) ?_
  refine wp_istore' (ls' := [some (vr a0), some (vr a1), some (vr x2), some (vr x6), some (vi v10)]) dX0_liesBefore_17 (Nat.le_of_ble_eq_true rfl) rfl ?_
  refine wp_aload_n dX0_liesBefore_19 rfl ?_
  refine wp_aload_n dX0_liesBefore_20 rfl ?_
  obtain ⟨hk11, h⟩ := h
  refine wp_get (v := vr (gP σ 201 x2)) dX0_liesBefore_21 fl_RX0_46 hk11 rfl ?_
  refine wp_acmp_eq (tgt := 47) dX0_liesBefore_24 (by decide) (fun c12 => ?_) (fun c12 => ?_)
  · replace h := h.1 c12
    refine wp_aload_n dX0_liesBefore_47 rfl ?_
    refine wp_get (v := vr (gP σ 4 a0)) dX0_liesBefore_48 fl_RX0_25 hk4 rfl ?_
    refine wp_get (v := vi (gI σ 209 (gP σ 4 a0))) dX0_liesBefore_51 fl_RX0_59 hk5 rfl ?_
    refine wp_aload_n dX0_liesBefore_54 rfl ?_
    refine wp_get (v := vi (gI σ 209 x2)) dX0_liesBefore_55 fl_RX0_59 hk11 rfl ?_
    obtain ⟨hr13, hr14, h⟩ := h
    refine wp_icmp_eq (tgt := 81) dX0_liesBefore_58 (by decide) hr13 hr14 (fun c15 => ?_) (fun c15 => ?_)
    · replace h := h.1 c15
      refine wp_aload_n dX0_liesBefore_81 rfl ?_
      refine wp_get (v := vr (gP σ 4 a0)) dX0_liesBefore_82 fl_RX0_25 hk4 rfl ?_
      refine wp_aload_n dX0_liesBefore_85 rfl ?_
      refine wp_acmp_eq (tgt := 108) dX0_liesBefore_86 (by decide) (fun c16 => ?_) (fun c16 => ?_)
      · replace h := h.1 c16
        refine wp_aload_n dX0_liesBefore_108 rfl ?_
        refine wp_get (v := vr (gP σ 2 a0)) dX0_liesBefore_109 fl_RX0_12 hk4 rfl ?_
        obtain ⟨hk17, h⟩ := h
        refine wp_get (v := vi (gI σ 41 (gP σ 2 a0))) dX0_liesBefore_112 fl_RX0_67 hk17 rfl ?_
        refine wp_aload_n dX0_liesBefore_115 rfl ?_
        refine wp_get (v := vr (gP σ 2 a1)) dX0_liesBefore_116 fl_RX0_12 hk1 rfl ?_
        obtain ⟨hk18, h⟩ := h
        refine wp_get (v := vi (gI σ 41 (gP σ 2 a1))) dX0_liesBefore_119 fl_RX0_67 hk18 rfl ?_
        obtain ⟨hr19, hr20, h⟩ := h
        refine wp_icmp_eq (tgt := 148) dX0_liesBefore_122 (by decide) hr19 hr20 (fun c21 => ?_) (fun c21 => ?_)
        · replace h := h.1 c21
          refine wp_aload_n dX0_liesBefore_148 rfl ?_
          refine wp_get (v := vr (gP σ 2 a0)) dX0_liesBefore_149 fl_RX0_12 hk4 rfl ?_
          refine wp_aload_n dX0_liesBefore_152 rfl ?_
          refine wp_get (v := vr (gP σ 2 a1)) dX0_liesBefore_153 fl_RX0_12 hk1 rfl ?_
          refine wp_aload_n dX0_liesBefore_156 rfl ?_
          refine wp_get (v := vr (gP σ 4 a0)) dX0_liesBefore_157 fl_RX0_25 hk4 rfl ?_
          refine wp_get (v := vr (gP σ 207 (gP σ 4 a0))) dX0_liesBefore_160 fl_RX0_62 hk5 rfl ?_
          obtain ⟨hk22, h⟩ := h
          refine wp_get (v := vi (gI σ 42 (gP σ 207 (gP σ 4 a0)))) dX0_liesBefore_163 fl_RX0_70 hk22 rfl ?_
          refine wp_iload dX0_liesBefore_166 rfl ?_
          obtain ⟨v24, hm23, h⟩ := h
          refine wp_callS (M' := M_X0_isNearer) (As := [vr (gP σ 2 a0), vr (gP σ 2 a1), vi (gI σ 42 (gP σ 207 (gP σ 4 a0))), vi v10]) (st := []) dX0_liesBefore_168 cee_X0_isNearer np_X0_isNearer rfl ⟨Nat.le_of_ble_eq_true rfl, Nat.le_of_ble_eq_true rfl, Nat.le_of_ble_eq_true rfl, Nat.le_of_ble_eq_true rfl⟩ wd_830 wd_831 (q_small_of (Nat.le_of_ble_eq_true rfl)) hm23 (q_kPi ?_) q_kPi0
          refine wp_less (ac2 := 0) (as2 := 0) (Nat.le_of_ble_eq_true rfl) (Nat.le_of_ble_eq_true rfl) ?_
          obtain ⟨hv25, h⟩ := h
          exact wp_ret_z dX0_liesBefore_171 rfl hv25 h
        · replace h := h.2 c21
          refine wp_aload_n dX0_liesBefore_125 rfl ?_
          refine wp_get (v := vr (gP σ 2 a0)) dX0_liesBefore_126 fl_RX0_12 hk4 rfl ?_
          refine wp_get (v := vi (gI σ 41 (gP σ 2 a0))) dX0_liesBefore_129 fl_RX0_67 hk17 rfl ?_
          refine wp_aload_n dX0_liesBefore_132 rfl ?_
          refine wp_get (v := vr (gP σ 2 a1)) dX0_liesBefore_133 fl_RX0_12 hk1 rfl ?_
          refine wp_get (v := vi (gI σ 41 (gP σ 2 a1))) dX0_liesBefore_136 fl_RX0_67 hk18 rfl ?_
          have key29 : ∀ v27 : Int, v27 = (if (gI σ 41 (gP σ 2 a1)) ≤ (gI σ 41 (gP σ 2 a0)) then 0 else 1) → qW g l M_X0_liesBefore 0 0 147 [some (vr a0), some (vr a1), some (vr x2), some (vr x6), some (vi v10)] [vi v27] σ Post := by
            intro v27 hv28
            replace h := h v27 hv28
            have hr31 : qR v27 := by (rw [hv28]; unfold qR; repeat' split) <;> omega
            have hz32 : v27 = 0 ∨ v27 = 1 := by (rw [hv28]; repeat' split) <;> first | exact Or.inl rfl | exact Or.inr rfl
            exact wp_ret_z dX0_liesBefore_147 rfl hz32 h
          refine wp_icmp_ge (tgt := 146) dX0_liesBefore_139 (by decide) hr19 hr20 (fun c33 => ?_) (fun c33 => ?_)
          · refine wp_iconst dX0_liesBefore_146 ?_
            exact key29 _ (by rw [if_pos c33])
          · refine wp_iconst dX0_liesBefore_142 ?_
            refine wp_goto (tgt := 147) dX0_liesBefore_143 (by decide) ?_
            exact key29 _ (by rw [if_neg c33])
      · replace h := h.2 c16
        refine wp_aload_n dX0_liesBefore_89 rfl ?_
        refine wp_get (v := vr (gP σ 4 a0)) dX0_liesBefore_90 fl_RX0_25 hk4 rfl ?_
        refine wp_get (v := vr (gP σ 207 (gP σ 4 a0))) dX0_liesBefore_93 fl_RX0_62 hk5 rfl ?_
        refine wp_aload_n dX0_liesBefore_96 rfl ?_
        refine wp_get (v := vr (gP σ 207 x2)) dX0_liesBefore_97 fl_RX0_62 hk11 rfl ?_
        refine wp_bipush dX0_liesBefore_100 (by decide) ?_
        refine wp_iload dX0_liesBefore_102 rfl ?_
        obtain ⟨v35, hm34, h⟩ := h
        refine wp_callS (M' := M_X0_isNearer) (As := [vr (gP σ 207 (gP σ 4 a0)), vr (gP σ 207 x2), vi 24, vi v10]) (st := []) dX0_liesBefore_104 cee_X0_isNearer np_X0_isNearer rfl ⟨Nat.le_of_ble_eq_true rfl, Nat.le_of_ble_eq_true rfl, Nat.le_of_ble_eq_true rfl, Nat.le_of_ble_eq_true rfl⟩ wd_830 wd_831 (q_small_of (Nat.le_of_ble_eq_true rfl)) hm34 (q_kPi ?_) q_kPi0
        refine wp_less (ac2 := 0) (as2 := 0) (Nat.le_of_ble_eq_true rfl) (Nat.le_of_ble_eq_true rfl) ?_
        obtain ⟨hv36, h⟩ := h
        exact wp_ret_z dX0_liesBefore_107 rfl hv36 h
    · replace h := h.2 c15
      refine wp_aload_n dX0_liesBefore_61 rfl ?_
      refine wp_get (v := vr (gP σ 4 a0)) dX0_liesBefore_62 fl_RX0_25 hk4 rfl ?_
      refine wp_get (v := vi (gI σ 209 (gP σ 4 a0))) dX0_liesBefore_65 fl_RX0_59 hk5 rfl ?_
      refine wp_aload_n dX0_liesBefore_68 rfl ?_
      refine wp_get (v := vi (gI σ 209 x2)) dX0_liesBefore_69 fl_RX0_59 hk11 rfl ?_
      have key40 : ∀ v38 : Int, v38 = (if (gI σ 209 x2) ≤ (gI σ 209 (gP σ 4 a0)) then 0 else 1) → qW g l M_X0_liesBefore 0 0 80 [some (vr a0), some (vr a1), some (vr x2), some (vr x6), some (vi v10)] [vi v38] σ Post := by
        intro v38 hv39
        replace h := h v38 hv39
        have hr42 : qR v38 := by (rw [hv39]; unfold qR; repeat' split) <;> omega
        have hz43 : v38 = 0 ∨ v38 = 1 := by (rw [hv39]; repeat' split) <;> first | exact Or.inl rfl | exact Or.inr rfl
        exact wp_ret_z dX0_liesBefore_80 rfl hz43 h
      refine wp_icmp_ge (tgt := 79) dX0_liesBefore_72 (by decide) hr13 hr14 (fun c44 => ?_) (fun c44 => ?_)
      · refine wp_iconst dX0_liesBefore_79 ?_
        exact key40 _ (by rw [if_pos c44])
      · refine wp_iconst dX0_liesBefore_75 ?_
        refine wp_goto (tgt := 80) dX0_liesBefore_76 (by decide) ?_
        exact key40 _ (by rw [if_neg c44])
  · replace h := h.2 c12
    refine wp_aload_n dX0_liesBefore_27 rfl ?_
    refine wp_get (v := vi (gI σ 160 x6)) dX0_liesBefore_28 fl_RX0_49 hk9 rfl ?_
    refine wp_aload_n dX0_liesBefore_31 rfl ?_
    refine wp_get (v := vr (gP σ 201 x2)) dX0_liesBefore_32 fl_RX0_46 hk11 rfl ?_
    obtain ⟨hk45, h⟩ := h
    refine wp_get (v := vi (gI σ 160 (gP σ 201 x2))) dX0_liesBefore_35 fl_RX0_49 hk45 rfl ?_
    obtain ⟨h, hk52⟩ := h
    have key51 : ∀ v49 : Int, v49 = (if (gI σ 160 (gP σ 201 x2)) ≤ (gI σ 160 x6) then 0 else 1) → qW g l M_X0_liesBefore 0 0 46 [some (vr a0), some (vr a1), some (vr x2), some (vr x6), some (vi v10)] [vi v49] σ Post := by
      intro v49 hv50
      have h := hk52 v49 hv50
      have hr53 : qR v49 := by (rw [hv50]; unfold qR; repeat' split) <;> omega
      have hz54 : v49 = 0 ∨ v49 = 1 := by (rw [hv50]; repeat' split) <;> first | exact Or.inl rfl | exact Or.inr rfl
      exact wp_ret_z dX0_liesBefore_46 rfl hz54 h
    obtain ⟨hr55, hr56⟩ := h
    refine wp_icmp_ge (tgt := 45) dX0_liesBefore_38 (by decide) hr55 hr56 (fun c57 => ?_) (fun c57 => ?_)
    · refine wp_iconst dX0_liesBefore_45 ?_
      exact key51 _ (by rw [if_pos c57])
    · refine wp_iconst dX0_liesBefore_41 ?_
      refine wp_goto (tgt := 46) dX0_liesBefore_42 (by decide) ?_
      exact key51 _ (by rw [if_neg c57])

set_option maxRecDepth 100000 in
set_option maxHeartbeats 4000000 in
theorem wm_X0_isNearer {g : qG} {l : Launch} (hl : l.stackTraces = false) {a0 : Nat} {a1 : Nat} {a2 : Int} {a3 : Int} {σ : qS} {Post : qS → qRs → Prop}
    (h : gK σ a0 = 2 ∧ (∃ v3 : Int, qMet g l M_X7_turned [vi (gI σ 40 a0), vi (gI σ 42 a0), vi a2, vi a3] σ (qPi σ v3) ∧ (gK σ a1 = 2 ∧ (∃ v6 : Int, qMet g l M_X7_turned [vi (gI σ 40 a1), vi (gI σ 42 a1), vi a2, vi a3] σ (qPi σ v6) ∧ (((qR v3 ∧ qR v6) ∧ ∀ v10 : Int, v10 = (if v6 ≤ v3 then 0 else 1) → Post σ (.inl (some (vi v10))))))))) : qMet g l M_X0_isNearer [vr a0, vr a1, vi a2, vi a3] σ Post := by
  refine qMet_of hl (by decide +kernel) (Nat.le_of_ble_eq_true rfl) (List.forall_mem_cons.mpr ⟨trivial, List.forall_mem_cons.mpr ⟨trivial, List.forall_mem_cons.mpr ⟨trivial, List.forall_mem_cons.mpr ⟨trivial, fun _ h => nomatch h⟩⟩⟩⟩) ?_
  show qW g l M_X0_isNearer 0 0 0 [some (vr a0), some (vr a1), some (vi a2), some (vi a3)] [] σ Post
  refine wp_aload_n dX0_isNearer_0 rfl ?_
  obtain ⟨hk1, h⟩ := h
  refine wp_get (v := vi (gI σ 40 a0)) dX0_isNearer_1 fl_RX0_73 hk1 rfl ?_
  refine wp_aload_n dX0_isNearer_4 rfl ?_
  refine wp_get (v := vi (gI σ 42 a0)) dX0_isNearer_5 fl_RX0_70 hk1 rfl ?_
  refine wp_iload_n dX0_isNearer_8 rfl ?_
  refine wp_iload_n dX0_isNearer_9 rfl ?_
  obtain ⟨v3, hm2, h⟩ := h
  refine wp_callSN (M' := M_X7_turned) (As := [vi (gI σ 40 a0), vi (gI σ 42 a0), vi a2, vi a3]) (st := []) dX0_isNearer_10 cee_X7_turned np_X7_turned rfl ⟨Nat.le_of_ble_eq_true rfl, Nat.le_of_ble_eq_true rfl, Nat.le_of_ble_eq_true rfl, Nat.le_of_ble_eq_true rfl⟩ wd_833 wd_504 (q_small_of (Nat.le_of_ble_eq_true rfl)) hm2 (q_kPi ?_) q_kPi0
  refine wp_less (ac2 := 0) (as2 := 0) (Nat.le_of_ble_eq_true rfl) (Nat.le_of_ble_eq_true rfl) ?_
  refine wp_aload_n dX0_isNearer_13 rfl ?_
  obtain ⟨hk4, h⟩ := h
  refine wp_get (v := vi (gI σ 40 a1)) dX0_isNearer_14 fl_RX0_73 hk4 rfl ?_
  refine wp_aload_n dX0_isNearer_17 rfl ?_
  refine wp_get (v := vi (gI σ 42 a1)) dX0_isNearer_18 fl_RX0_70 hk4 rfl ?_
  refine wp_iload_n dX0_isNearer_21 rfl ?_
  refine wp_iload_n dX0_isNearer_22 rfl ?_
  obtain ⟨v6, hm5, h⟩ := h
  refine wp_callSN (M' := M_X7_turned) (As := [vi (gI σ 40 a1), vi (gI σ 42 a1), vi a2, vi a3]) (st := [vi v3]) dX0_isNearer_23 cee_X7_turned np_X7_turned rfl ⟨Nat.le_of_ble_eq_true rfl, Nat.le_of_ble_eq_true rfl, Nat.le_of_ble_eq_true rfl, Nat.le_of_ble_eq_true rfl⟩ wd_833 wd_504 (q_small_of (Nat.le_of_ble_eq_true rfl)) hm5 (q_kPi ?_) q_kPi0
  refine wp_less (ac2 := 0) (as2 := 0) (Nat.le_of_ble_eq_true rfl) (Nat.le_of_ble_eq_true rfl) ?_
  obtain ⟨h, hk13⟩ := h
  have key12 : ∀ v10 : Int, v10 = (if v6 ≤ v3 then 0 else 1) → qW g l M_X0_isNearer 0 0 34 [some (vr a0), some (vr a1), some (vi a2), some (vi a3)] [vi v10] σ Post := by
    intro v10 hv11
    have h := hk13 v10 hv11
    have hr14 : qR v10 := by (rw [hv11]; unfold qR; repeat' split) <;> omega
    have hz15 : v10 = 0 ∨ v10 = 1 := by (rw [hv11]; repeat' split) <;> first | exact Or.inl rfl | exact Or.inr rfl
    exact wp_ret_z dX0_isNearer_34 rfl hz15 h
  obtain ⟨hr16, hr17⟩ := h
  refine wp_icmp_ge (tgt := 33) dX0_isNearer_26 (by decide) hr16 hr17 (fun c18 => ?_) (fun c18 => ?_)
  · refine wp_iconst dX0_isNearer_33 ?_
    exact key12 _ (by rw [if_pos c18])
  · refine wp_iconst dX0_isNearer_29 ?_
    refine wp_goto (tgt := 34) dX0_isNearer_30 (by decide) ?_
    exact key12 _ (by rw [if_neg c18])

set_option maxRecDepth 100000 in
set_option maxHeartbeats 4000000 in
theorem wm_X1_init {g : qG} {l : Launch} (hl : l.stackTraces = false) {a0 : Nat} {σ : qS} {Post : qS → qRs → Prop}
    (h : a0 ≠ 0 ∧ Post σ (.inl none)) : qMet g l M_X1_init [vr a0] σ Post := by
  refine qMet_of hl (by decide +kernel) (Nat.le_of_ble_eq_true rfl) (List.forall_mem_cons.mpr ⟨trivial, fun _ h => nomatch h⟩) ?_
  show qW g l M_X1_init 0 0 0 [some (vr a0)] [] σ Post
  refine wp_aload_n dX1_init_0 rfl ?_
  obtain ⟨hz1, h⟩ := h
  refine wp_objInit dX1_init_1 wd_352 hz1 (q_small_of (Nat.le_of_ble_eq_true rfl)) ⟨Nat.le_of_ble_eq_true rfl, Nat.le_of_ble_eq_true rfl⟩ ?_
  exact wp_ret_v dX1_init_4 rfl h

set_option maxRecDepth 100000 in
set_option maxHeartbeats 4000000 in
theorem wm_X1_set {g : qG} {l : Launch} (hl : l.stackTraces = false) {a0 : Nat} {a1 : Nat} {σ : qS} {Post : qS → qRs → Prop}
    (h : gK σ a1 = 2 ∧ gK σ a0 = 2 ∧ (∀ σ3 : qS, σ3 = sI σ 40 a0 (gI σ 40 a1) → (∀ σ5 : qS, σ5 = sI σ3 41 a0 (gI σ3 41 a1) → (∀ σ7 : qS, σ7 = sI σ5 42 a0 (gI σ5 42 a1) → (∀ σ9 : qS, σ9 = sI σ7 43 a0 (gI σ7 43 a1) → Post σ9 (.inl none)))))) : qMet g l M_X1_set [vr a0, vr a1] σ Post := by
  refine qMet_of hl (by decide +kernel) (Nat.le_of_ble_eq_true rfl) (List.forall_mem_cons.mpr ⟨trivial, List.forall_mem_cons.mpr ⟨trivial, fun _ h => nomatch h⟩⟩) ?_
  show qW g l M_X1_set 0 0 0 [some (vr a0), some (vr a1)] [] σ Post
  refine wp_aload_n dX1_set_0 rfl ?_
  refine wp_aload_n dX1_set_1 rfl ?_
  obtain ⟨hk1, h⟩ := h
  refine wp_get (v := vi (gI σ 40 a1)) dX1_set_2 fl_RX1_7 hk1 rfl ?_
  obtain ⟨hk2, h⟩ := h
  refine wp_put (v := vi (gI σ 40 a1)) dX1_set_5 fs_RX1_7 (fun h => absurd h (by decide)) hk2 (Or.inl rfl) ?_
  refine wp_nmS (fun σ3 hs4 => ?_)
  replace h := h σ3 hs4
  refine wp_aload_n dX1_set_8 rfl ?_
  refine wp_aload_n dX1_set_9 rfl ?_
  refine wp_get (v := vi (gI σ3 41 a1)) dX1_set_10 fl_RX1_13 (by rw [hs4]; exact hk1) rfl ?_
  refine wp_put (v := vi (gI σ3 41 a1)) dX1_set_13 fs_RX1_13 (fun h => absurd h (by decide)) (by rw [hs4]; exact hk2) (Or.inl rfl) ?_
  refine wp_nmS (fun σ5 hs6 => ?_)
  replace h := h σ5 hs6
  refine wp_aload_n dX1_set_16 rfl ?_
  refine wp_aload_n dX1_set_17 rfl ?_
  refine wp_get (v := vi (gI σ5 42 a1)) dX1_set_18 fl_RX1_16 (by rw [hs6, hs4]; exact hk1) rfl ?_
  refine wp_put (v := vi (gI σ5 42 a1)) dX1_set_21 fs_RX1_16 (fun h => absurd h (by decide)) (by rw [hs6, hs4]; exact hk2) (Or.inl rfl) ?_
  refine wp_nmS (fun σ7 hs8 => ?_)
  replace h := h σ7 hs8
  refine wp_aload_n dX1_set_24 rfl ?_
  refine wp_aload_n dX1_set_25 rfl ?_
  refine wp_get (v := vi (gI σ7 43 a1)) dX1_set_26 fl_RX1_19 (by rw [hs8, hs6, hs4]; exact hk1) rfl ?_
  refine wp_put (v := vi (gI σ7 43 a1)) dX1_set_29 fs_RX1_19 (fun h => absurd h (by decide)) (by rw [hs8, hs6, hs4]; exact hk2) (Or.inl rfl) ?_
  refine wp_nmS (fun σ9 hs10 => ?_)
  replace h := h σ9 hs10
  exact wp_ret_v dX1_set_32 rfl h

set_option maxRecDepth 100000 in
set_option maxHeartbeats 4000000 in
theorem wm_X1_isLike {g : qG} {l : Launch} (hl : l.stackTraces = false) {a0 : Nat} {a1 : Nat} {σ : qS} {Post : qS → qRs → Prop}
    (h : gK σ a0 = 2 ∧ gK σ a1 = 2 ∧ ((qR (gI σ 40 a0) ∧ qR (gI σ 40 a1) ∧ ((gI σ 40 a0) = (gI σ 40 a1) → qR (gI σ 41 a0) ∧ qR (gI σ 41 a1) ∧ ((gI σ 41 a0) = (gI σ 41 a1) → qR (gI σ 42 a0) ∧ qR (gI σ 42 a1) ∧ ((gI σ 42 a0) = (gI σ 42 a1) → qR (gI σ 43 a0) ∧ qR (gI σ 43 a1))))) ∧ ∀ v15 : Int, v15 = (if ¬ (gI σ 40 a0) = (gI σ 40 a1) then 0 else (if ¬ (gI σ 41 a0) = (gI σ 41 a1) then 0 else (if ¬ (gI σ 42 a0) = (gI σ 42 a1) then 0 else (if ¬ (gI σ 43 a0) = (gI σ 43 a1) then 0 else 1)))) → Post σ (.inl (some (vi v15))))) : qMet g l M_X1_isLike [vr a0, vr a1] σ Post := by
  refine qMet_of hl (by decide +kernel) (Nat.le_of_ble_eq_true rfl) (List.forall_mem_cons.mpr ⟨trivial, List.forall_mem_cons.mpr ⟨trivial, fun _ h => nomatch h⟩⟩) ?_
  show qW g l M_X1_isLike 0 0 0 [some (vr a0), some (vr a1)] [] σ Post
  refine wp_aload_n dX1_isLike_0 rfl ?_
  obtain ⟨hk1, h⟩ := h
  refine wp_get (v := vi (gI σ 40 a0)) dX1_isLike_1 fl_RX1_7 hk1 rfl ?_
  refine wp_aload_n dX1_isLike_4 rfl ?_
  obtain ⟨hk2, h⟩ := h
  refine wp_get (v := vi (gI σ 40 a1)) dX1_isLike_5 fl_RX1_7 hk2 rfl ?_
  obtain ⟨h, hk18⟩ := h
  have key17 : ∀ v15 : Int, v15 = (if ¬ (gI σ 40 a0) = (gI σ 40 a1) then 0 else (if ¬ (gI σ 41 a0) = (gI σ 41 a1) then 0 else (if ¬ (gI σ 42 a0) = (gI σ 42 a1) then 0 else (if ¬ (gI σ 43 a0) = (gI σ 43 a1) then 0 else 1)))) → qW g l M_X1_isLike 0 0 49 [some (vr a0), some (vr a1)] [vi v15] σ Post := by
    intro v15 hv16
    have h := hk18 v15 hv16
    have hr19 : qR v15 := by (rw [hv16]; unfold qR; repeat' split) <;> omega
    have hz20 : v15 = 0 ∨ v15 = 1 := by (rw [hv16]; repeat' split) <;> first | exact Or.inl rfl | exact Or.inr rfl
    exact wp_ret_z dX1_isLike_49 rfl hz20 h
  obtain ⟨hr21, hr22, h⟩ := h
  refine wp_icmp_ne (tgt := 48) dX1_isLike_8 (by decide) hr21 hr22 (fun c23 => ?_) (fun c23 => ?_)
  · refine wp_iconst dX1_isLike_48 ?_
    exact key17 _ (by rw [if_pos c23])
  · replace h := h c23
    refine wp_aload_n dX1_isLike_11 rfl ?_
    refine wp_get (v := vi (gI σ 41 a0)) dX1_isLike_12 fl_RX1_13 hk1 rfl ?_
    refine wp_aload_n dX1_isLike_15 rfl ?_
    refine wp_get (v := vi (gI σ 41 a1)) dX1_isLike_16 fl_RX1_13 hk2 rfl ?_
    obtain ⟨hr24, hr25, h⟩ := h
    refine wp_icmp_ne (tgt := 48) dX1_isLike_19 (by decide) hr24 hr25 (fun c26 => ?_) (fun c26 => ?_)
    · refine wp_iconst dX1_isLike_48 ?_
      exact key17 _ (by rw [if_neg (fun z => z c23), if_pos c26])
    · replace h := h c26
      refine wp_aload_n dX1_isLike_22 rfl ?_
      refine wp_get (v := vi (gI σ 42 a0)) dX1_isLike_23 fl_RX1_16 hk1 rfl ?_
      refine wp_aload_n dX1_isLike_26 rfl ?_
      refine wp_get (v := vi (gI σ 42 a1)) dX1_isLike_27 fl_RX1_16 hk2 rfl ?_
      obtain ⟨hr27, hr28, h⟩ := h
      refine wp_icmp_ne (tgt := 48) dX1_isLike_30 (by decide) hr27 hr28 (fun c29 => ?_) (fun c29 => ?_)
      · refine wp_iconst dX1_isLike_48 ?_
        exact key17 _ (by rw [if_neg (fun z => z c23), if_neg (fun z => z c26), if_pos c29])
      · replace h := h c29
        refine wp_aload_n dX1_isLike_33 rfl ?_
        refine wp_get (v := vi (gI σ 43 a0)) dX1_isLike_34 fl_RX1_19 hk1 rfl ?_
        refine wp_aload_n dX1_isLike_37 rfl ?_
        refine wp_get (v := vi (gI σ 43 a1)) dX1_isLike_38 fl_RX1_19 hk2 rfl ?_
        obtain ⟨hr30, hr31⟩ := h
        refine wp_icmp_ne (tgt := 48) dX1_isLike_41 (by decide) hr30 hr31 (fun c32 => ?_) (fun c32 => ?_)
        · refine wp_iconst dX1_isLike_48 ?_
          exact key17 _ (by rw [if_neg (fun z => z c23), if_neg (fun z => z c26), if_neg (fun z => z c29), if_pos c32])
        · refine wp_iconst dX1_isLike_44 ?_
          refine wp_goto (tgt := 49) dX1_isLike_45 (by decide) ?_
          exact key17 _ (by rw [if_neg (fun z => z c23), if_neg (fun z => z c26), if_neg (fun z => z c29), if_neg (fun z => z c32)])

set_option maxRecDepth 100000 in
set_option maxHeartbeats 4000000 in
theorem wm_X1_holds {g : qG} {l : Launch} (hl : l.stackTraces = false) {a0 : Nat} {a1 : Int} {a2 : Int} {σ : qS} {Post : qS → qRs → Prop}
    (h : gK σ a0 = 2 ∧ ((qR a1 ∧ qR (gI σ 40 a0) ∧ (¬ (a1 < (gI σ 40 a0)) → qR ((gI σ 40 a0) + (gI σ 42 a0)) ∧ (¬ (((gI σ 40 a0) + (gI σ 42 a0)) ≤ a1) → qR a2 ∧ qR (gI σ 41 a0) ∧ (¬ (a2 < (gI σ 41 a0)) → qR ((gI σ 41 a0) + (gI σ 43 a0)))))) ∧ ∀ v12 : Int, v12 = (if a1 < (gI σ 40 a0) then 0 else (if ((gI σ 40 a0) + (gI σ 42 a0)) ≤ a1 then 0 else (if a2 < (gI σ 41 a0) then 0 else (if ((gI σ 41 a0) + (gI σ 43 a0)) ≤ a2 then 0 else 1)))) → Post σ (.inl (some (vi v12))))) : qMet g l M_X1_holds [vr a0, vi a1, vi a2] σ Post := by
  refine qMet_of hl (by decide +kernel) (Nat.le_of_ble_eq_true rfl) (List.forall_mem_cons.mpr ⟨trivial, List.forall_mem_cons.mpr ⟨trivial, List.forall_mem_cons.mpr ⟨trivial, fun _ h => nomatch h⟩⟩⟩) ?_
  show qW g l M_X1_holds 0 0 0 [some (vr a0), some (vi a1), some (vi a2)] [] σ Post
  refine wp_iload_n dX1_holds_0 rfl ?_
  refine wp_aload_n dX1_holds_1 rfl ?_
  obtain ⟨hk1, h⟩ := h
  refine wp_get (v := vi (gI σ 40 a0)) dX1_holds_2 fl_RX1_7 hk1 rfl ?_
  obtain ⟨h, hk15⟩ := h
  have key14 : ∀ v12 : Int, v12 = (if a1 < (gI σ 40 a0) then 0 else (if ((gI σ 40 a0) + (gI σ 42 a0)) ≤ a1 then 0 else (if a2 < (gI σ 41 a0) then 0 else (if ((gI σ 41 a0) + (gI σ 43 a0)) ≤ a2 then 0 else 1)))) → qW g l M_X1_holds 0 0 47 [some (vr a0), some (vi a1), some (vi a2)] [vi v12] σ Post := by
    intro v12 hv13
    have h := hk15 v12 hv13
    have hr16 : qR v12 := by (rw [hv13]; unfold qR; repeat' split) <;> omega
    have hz17 : v12 = 0 ∨ v12 = 1 := by (rw [hv13]; repeat' split) <;> first | exact Or.inl rfl | exact Or.inr rfl
    exact wp_ret_z dX1_holds_47 rfl hz17 h
  obtain ⟨hr18, hr19, h⟩ := h
  refine wp_icmp_lt (tgt := 46) dX1_holds_5 (by decide) hr18 hr19 (fun c20 => ?_) (fun c20 => ?_)
  · refine wp_iconst dX1_holds_46 ?_
    exact key14 _ (by rw [if_pos c20])
  · replace h := h c20
    refine wp_iload_n dX1_holds_8 rfl ?_
    refine wp_aload_n dX1_holds_9 rfl ?_
    refine wp_get (v := vi (gI σ 40 a0)) dX1_holds_10 fl_RX1_7 hk1 rfl ?_
    refine wp_aload_n dX1_holds_13 rfl ?_
    refine wp_get (v := vi (gI σ 42 a0)) dX1_holds_14 fl_RX1_16 hk1 rfl ?_
    refine wp_iadd dX1_holds_17 ?_
    obtain ⟨hr21, h⟩ := h
    refine wp_icmp_ge (tgt := 46) dX1_holds_18 (by decide) hr18 hr21 (fun c22 => ?_) (fun c22 => ?_)
    · refine wp_iconst dX1_holds_46 ?_
      exact key14 _ (by rw [if_neg c20, if_pos c22])
    · replace h := h c22
      refine wp_iload_n dX1_holds_21 rfl ?_
      refine wp_aload_n dX1_holds_22 rfl ?_
      refine wp_get (v := vi (gI σ 41 a0)) dX1_holds_23 fl_RX1_13 hk1 rfl ?_
      obtain ⟨hr23, hr24, h⟩ := h
      refine wp_icmp_lt (tgt := 46) dX1_holds_26 (by decide) hr23 hr24 (fun c25 => ?_) (fun c25 => ?_)
      · refine wp_iconst dX1_holds_46 ?_
        exact key14 _ (by rw [if_neg c20, if_neg c22, if_pos c25])
      · replace h := h c25
        refine wp_iload_n dX1_holds_29 rfl ?_
        refine wp_aload_n dX1_holds_30 rfl ?_
        refine wp_get (v := vi (gI σ 41 a0)) dX1_holds_31 fl_RX1_13 hk1 rfl ?_
        refine wp_aload_n dX1_holds_34 rfl ?_
        refine wp_get (v := vi (gI σ 43 a0)) dX1_holds_35 fl_RX1_19 hk1 rfl ?_
        refine wp_iadd dX1_holds_38 ?_
        have hr26 := h
        refine wp_icmp_ge (tgt := 46) dX1_holds_39 (by decide) hr23 hr26 (fun c27 => ?_) (fun c27 => ?_)
        · refine wp_iconst dX1_holds_46 ?_
          exact key14 _ (by rw [if_neg c20, if_neg c22, if_neg c25, if_pos c27])
        · refine wp_iconst dX1_holds_42 ?_
          refine wp_goto (tgt := 47) dX1_holds_43 (by decide) ?_
          exact key14 _ (by rw [if_neg c20, if_neg c22, if_neg c25, if_neg c27])

set_option maxRecDepth 100000 in
set_option maxHeartbeats 4000000 in
theorem wm_X1_measure {g : qG} {l : Launch} (hl : l.stackTraces = false) {a0 : Nat} {a1 : Int} {σ : qS} {Post : qS → qRs → Prop}
    (h : qR a1 ∧ ((a1 = 1 → gK σ a0 = 2 ∧ Post σ (.inl (some (vi (gI σ 40 a0))))) ∧ (a1 = 2 → gK σ a0 = 2 ∧ Post σ (.inl (some (vi (gI σ 41 a0))))) ∧ (a1 = 3 → gK σ a0 = 2 ∧ Post σ (.inl (some (vi (gI σ 42 a0))))) ∧ (a1 < 1 ∨ 3 < a1 → gK σ a0 = 2 ∧ Post σ (.inl (some (vi (gI σ 43 a0))))))) : qMet g l M_X1_measure [vr a0, vi a1] σ Post := by
  refine qMet_of hl (by decide +kernel) (Nat.le_of_ble_eq_true rfl) (List.forall_mem_cons.mpr ⟨trivial, List.forall_mem_cons.mpr ⟨trivial, fun _ h => nomatch h⟩⟩) ?_
  show qW g l M_X1_measure 0 0 0 [some (vr a0), some (vi a1)] [] σ Post
  refine wp_iload_n dX1_measure_0 rfl ?_
  obtain ⟨hr1, h⟩ := h
  obtain ⟨hs1_0, hs1_1, hs1_2, hs1_3⟩ := h
  by_cases c2 : a1 = 1
  · have h := hs1_0 c2
    refine wp_tableIn (off := 27) (tgt := 28) dX1_measure_1 hr1 (by omega) (by omega) (by rw [c2]; rfl) (by decide) ?_
    refine wp_aload_n dX1_measure_28 rfl ?_
    obtain ⟨hk3, h⟩ := h
    refine wp_get (v := vi (gI σ 40 a0)) dX1_measure_29 fl_RX1_7 hk3 rfl ?_
    exact wp_ret_i dX1_measure_32 rfl rfl h
  by_cases c4 : a1 = 2
  · have h := hs1_1 c4
    refine wp_tableIn (off := 32) (tgt := 33) dX1_measure_1 hr1 (by omega) (by omega) (by rw [c4]; rfl) (by decide) ?_
    refine wp_aload_n dX1_measure_33 rfl ?_
    obtain ⟨hk5, h⟩ := h
    refine wp_get (v := vi (gI σ 41 a0)) dX1_measure_34 fl_RX1_13 hk5 rfl ?_
    exact wp_ret_i dX1_measure_37 rfl rfl h
  by_cases c6 : a1 = 3
  · have h := hs1_2 c6
    refine wp_tableIn (off := 37) (tgt := 38) dX1_measure_1 hr1 (by omega) (by omega) (by rw [c6]; rfl) (by decide) ?_
    refine wp_aload_n dX1_measure_38 rfl ?_
    obtain ⟨hk7, h⟩ := h
    refine wp_get (v := vi (gI σ 42 a0)) dX1_measure_39 fl_RX1_16 hk7 rfl ?_
    exact wp_ret_i dX1_measure_42 rfl rfl h
  have h := hs1_3 (by omega)
  refine wp_tableOut (tgt := 43) dX1_measure_1 hr1 (by omega) (by decide) ?_
  refine wp_aload_n dX1_measure_43 rfl ?_
  obtain ⟨hk8, h⟩ := h
  refine wp_get (v := vi (gI σ 43 a0)) dX1_measure_44 fl_RX1_19 hk8 rfl ?_
  exact wp_ret_i dX1_measure_47 rfl rfl h

set_option maxRecDepth 100000 in
set_option maxHeartbeats 4000000 in
theorem wm_X2_init {g : qG} {l : Launch} (hl : l.stackTraces = false) {a0 : Nat} {a1 : Int} {a2 : Int} {a3 : Int} {σ : qS} {Post : qS → qRs → Prop}
    (h : a0 ≠ 0 ∧ gK σ a0 = 3 ∧ (∀ σ3 : qS, σ3 = sI σ 80 a0 a1 → (∀ σ5 : qS, σ5 = sI σ3 81 a0 a2 → (∀ σ7 : qS, σ7 = sI σ5 82 a0 a3 → Post σ7 (.inl none))))) : qMet g l M_X2_init [vr a0, vi a1, vi a2, vi a3] σ Post := by
  refine qMet_of hl (by decide +kernel) (Nat.le_of_ble_eq_true rfl) (List.forall_mem_cons.mpr ⟨trivial, List.forall_mem_cons.mpr ⟨trivial, List.forall_mem_cons.mpr ⟨trivial, List.forall_mem_cons.mpr ⟨trivial, fun _ h => nomatch h⟩⟩⟩⟩) ?_
  show qW g l M_X2_init 0 0 0 [some (vr a0), some (vi a1), some (vi a2), some (vi a3)] [] σ Post
  refine wp_aload_n dX2_init_0 rfl ?_
  obtain ⟨hz1, h⟩ := h
  refine wp_objInit dX2_init_1 wd_606 hz1 (q_small_of (Nat.le_of_ble_eq_true rfl)) ⟨Nat.le_of_ble_eq_true rfl, Nat.le_of_ble_eq_true rfl⟩ ?_
  refine wp_aload_n dX2_init_4 rfl ?_
  refine wp_iload_n dX2_init_5 rfl ?_
  obtain ⟨hk2, h⟩ := h
  refine wp_put (v := vi a1) dX2_init_6 fs_RX2_7 (fun _ => rfl) hk2 (Or.inl rfl) ?_
  refine wp_nmS (fun σ3 hs4 => ?_)
  replace h := h σ3 hs4
  refine wp_aload_n dX2_init_9 rfl ?_
  refine wp_iload_n dX2_init_10 rfl ?_
  refine wp_put (v := vi a2) dX2_init_11 fs_RX2_13 (fun _ => rfl) (by rw [hs4]; exact hk2) (Or.inl rfl) ?_
  refine wp_nmS (fun σ5 hs6 => ?_)
  replace h := h σ5 hs6
  refine wp_aload_n dX2_init_14 rfl ?_
  refine wp_iload_n dX2_init_15 rfl ?_
  refine wp_put (v := vi a3) dX2_init_16 fs_RX2_16 (fun _ => rfl) (by rw [hs6, hs4]; exact hk2) (Or.inl rfl) ?_
  refine wp_nmS (fun σ7 hs8 => ?_)
  replace h := h σ7 hs8
  exact wp_ret_v dX2_init_19 rfl h

set_option maxRecDepth 100000 in
set_option maxHeartbeats 4000000 in
theorem wm_X4_init {g : qG} {l : Launch} (hl : l.stackTraces = false) {a0 : Nat} {a1 : Int} {σ : qS} {Post : qS → qRs → Prop}
    (h : a0 ≠ 0 ∧ ∀ r2 : Nat, gK σ r2 = 0 → r2 ≠ 0 → ∀ σ5 : qS, σ5 = nO σ r2 10 → (∃ Mid9 : qS → Prop, qMet g l M_Jx4a65c_init_da8c8 [vr r2] σ5 (qTv0 Mid9) ∧ ∀ (σ13 : qS), Mid9 σ13 → gK σ13 a0 = 5 ∧ (∀ σ16 : qS, σ16 = sP σ13 161 a0 r2 → (∀ σ18 : qS, σ18 = sI σ16 160 a0 a1 → Post σ18 (.inl none))))) : qMet g l M_X4_init [vr a0, vi a1] σ Post := by
  refine qMet_of hl (by decide +kernel) (Nat.le_of_ble_eq_true rfl) (List.forall_mem_cons.mpr ⟨trivial, List.forall_mem_cons.mpr ⟨trivial, fun _ h => nomatch h⟩⟩) ?_
  show qW g l M_X4_init 1 3 0 [some (vr a0), some (vi a1)] [] σ Post
  refine wp_aload_n dX4_init_0 rfl ?_
  obtain ⟨hz1, h⟩ := h
  refine wp_objInit dX4_init_1 wd_189 hz1 (q_small_of (Nat.le_of_ble_eq_true rfl)) ⟨Nat.le_of_ble_eq_true rfl, Nat.le_of_ble_eq_true rfl⟩ ?_
  refine wp_aload_n dX4_init_4 rfl ?_
  refine wp_new (n := 3) dX4_init_5 nw_RX4_9 rfl (Nat.le_of_ble_eq_true rfl) (Nat.le_of_ble_eq_true rfl) (fun r2 hz3 hq4 => ?_)
  refine wp_less (ac2 := 0) (as2 := 0) (Nat.le_of_ble_eq_true rfl) (Nat.le_of_ble_eq_true rfl) ?_
  replace h := h r2 hz3 hq4
  refine wp_nmS (fun σ5 hs6 => ?_)
  replace h := h σ5 hs6
  have hk7 : gK σ5 r2 = 10 := by rw [hs6]; exact if_pos rfl
  refine wp_dup dX4_init_8 trivial ?_
  obtain ⟨Mid9, hm8, hk11⟩ := h
  refine wp_callI (M' := M_Jx4a65c_init_da8c8) (As := []) (st := [vr r2, vr a0]) dX4_init_9 cee_Jx4a65c_init_da8c8 np_Jx4a65c_init_da8c8 rfl ⟨Nat.le_of_ble_eq_true rfl, Nat.le_of_ble_eq_true rfl, Nat.le_of_ble_eq_true rfl, Nat.le_of_ble_eq_true rfl⟩ wd_191 wd_35 rfl rfl hq4 (q_small_of (Nat.le_of_ble_eq_true rfl)) hm8 (q_kTv0 (fun σ13 hM14 => ?_)) q_kTv00
  refine wp_less (ac2 := 0) (as2 := 0) (Nat.le_of_ble_eq_true rfl) (Nat.le_of_ble_eq_true rfl) ?_
  have h := hk11 σ13 hM14
  obtain ⟨hk15, h⟩ := h
  refine wp_put (v := vr r2) dX4_init_12 fs_RX4_12 (fun _ => rfl) hk15 rfl ?_
  refine wp_nmS (fun σ16 hs17 => ?_)
  replace h := h σ16 hs17
  refine wp_aload_n dX4_init_15 rfl ?_
  refine wp_iload_n dX4_init_16 rfl ?_
  refine wp_put (v := vi a1) dX4_init_17 fs_RX4_18 (fun _ => rfl) (by rw [hs17]; exact hk15) (Or.inl rfl) ?_
  refine wp_nmS (fun σ18 hs19 => ?_)
  replace h := h σ18 hs19
  exact wp_ret_v dX4_init_20 rfl h

set_option maxRecDepth 100000 in
set_option maxHeartbeats 4000000 in
theorem wm_X4_isFromRight {g : qG} {l : Launch} (hl : l.stackTraces = false) {a0 : Nat} {σ : qS} {Post : qS → qRs → Prop}
    (h : gK σ a0 = 5 ∧ ((qR (gI σ 162 a0)) ∧ ∀ v4 : Int, v4 = (if ¬ (gI σ 162 a0) = 1 then 0 else 1) → Post σ (.inl (some (vi v4))))) : qMet g l M_X4_isFromRight [vr a0] σ Post := by
  refine qMet_of hl (by decide +kernel) (Nat.le_of_ble_eq_true rfl) (List.forall_mem_cons.mpr ⟨trivial, fun _ h => nomatch h⟩) ?_
  show qW g l M_X4_isFromRight 0 0 0 [some (vr a0)] [] σ Post
  refine wp_aload_n dX4_isFromRight_0 rfl ?_
  obtain ⟨hk1, h⟩ := h
  refine wp_get (v := vi (gI σ 162 a0)) dX4_isFromRight_1 fl_RX4_22 hk1 rfl ?_
  refine wp_iconst dX4_isFromRight_4 ?_
  obtain ⟨h, hk7⟩ := h
  have key6 : ∀ v4 : Int, v4 = (if ¬ (gI σ 162 a0) = 1 then 0 else 1) → qW g l M_X4_isFromRight 0 0 13 [some (vr a0)] [vi v4] σ Post := by
    intro v4 hv5
    have h := hk7 v4 hv5
    have hr8 : qR v4 := by (rw [hv5]; unfold qR; repeat' split) <;> omega
    have hz9 : v4 = 0 ∨ v4 = 1 := by (rw [hv5]; repeat' split) <;> first | exact Or.inl rfl | exact Or.inr rfl
    exact wp_ret_z dX4_isFromRight_13 rfl hz9 h
  have hr10 := h
  refine wp_icmp_ne (tgt := 12) dX4_isFromRight_5 (by decide) hr10 (by unfold qR; omega) (fun c11 => ?_) (fun c11 => ?_)
  · refine wp_iconst dX4_isFromRight_12 ?_
    exact key6 _ (by rw [if_pos c11])
  · refine wp_iconst dX4_isFromRight_8 ?_
    refine wp_goto (tgt := 13) dX4_isFromRight_9 (by decide) ?_
    exact key6 _ (by rw [if_neg (fun z => z c11)])

set_option maxRecDepth 100000 in
set_option maxHeartbeats 4000000 in
theorem wm_X4_indexOf {g : qG} {l : Launch} (hl : l.stackTraces = false) {a0 : Nat} {a1 : Nat} {σ : qS} {Post : qS → qRs → Prop}
    (h : ∃ Inv2 : Nat → Int → Prop, (∃ n : Nat, Inv2 n 0) ∧ ∀ (n3 : Nat) (x1 : Int), Inv2 n3 x1 → (gK σ a0 = 5 ∧ gK σ (gP σ 161 a0) = 50 ∧ (∃ v11 : Int, qMet g l M_Jx4a65c_size_8abf5 [vr (gP σ 161 a0)] σ (qPi σ v11) ∧ (qR x1 ∧ qR v11 ∧ ((v11 ≤ x1 → Post σ (.inl (some (vi ((-1)))))) ∧ (¬ (v11 ≤ x1) → (∃ v16 : Nat, qMet g l M_Jx4a65c_get_915e3 [vr (gP σ 161 a0), vi x1] σ (qPr σ v16) ∧ (((¬ v16 = a1 → ∀ x18 : Int, x18 = x1 + 1 → ∃ n20 : Nat, n20 < n3 ∧ Inv2 n20 x18) ∧ (v16 = a1 → Post σ (.inl (some (vi x1))))))))))))) : qMet g l M_X4_indexOf [vr a0, vr a1] σ Post := by
  refine qMet_of hl (by decide +kernel) (Nat.le_of_ble_eq_true rfl) (List.forall_mem_cons.mpr ⟨trivial, List.forall_mem_cons.mpr ⟨trivial, fun _ h => nomatch h⟩⟩) ?_
  show qW g l M_X4_indexOf 0 0 0 [some (vr a0), some (vr a1), none] [] σ Post
  refine wp_iconst dX4_indexOf_0 ?_
  refine wp_istore_n' (ls' := [some (vr a0), some (vr a1), some (vi 0)]) dX4_indexOf_1 (Nat.le_of_ble_eq_true rfl) rfl ?_
  obtain ⟨Inv2, ⟨n3_0, h07⟩, hb6⟩ := h
  have loop21 : ∀ (n3 : Nat) (x1 : Int), Inv2 n3 x1 → qW g l M_X4_indexOf 0 0 2 [some (vr a0), some (vr a1), some (vi x1)] [] σ Post := by
    intro n3
    induction n3 using Nat.strongRecOn with
    | ind n3 ih4 =>
      intro x1 hI5
      have h := hb6 n3 x1 hI5
      refine wp_iload_n dX4_indexOf_2 rfl ?_
      refine wp_aload_n dX4_indexOf_3 rfl ?_
      obtain ⟨hk8, h⟩ := h
      refine wp_get (v := vr (gP σ 161 a0)) dX4_indexOf_4 fl_RX4_12 hk8 rfl ?_
      obtain ⟨hk10, h⟩ := h
      obtain ⟨v11, hm9, h⟩ := h
      refine wp_callV (M' := M_Jx4a65c_size_8abf5) (As := []) (st := [vi x1]) (ci := 9) dX4_indexOf_7 cee_Jx4a65c_size_8abf5 np_Jx4a65c_size_8abf5 rfl ⟨Nat.le_of_ble_eq_true rfl, Nat.le_of_ble_eq_true rfl, Nat.le_of_ble_eq_true rfl, Nat.le_of_ble_eq_true rfl⟩ wd_437 wd_113 wd_114 rfl (Or.inr ⟨hk10, rfl⟩) (q_small_of (Nat.le_of_ble_eq_true rfl)) hm9 (q_kPi ?_) q_kPi0
      refine wp_less (ac2 := 0) (as2 := 0) (Nat.le_of_ble_eq_true rfl) (Nat.le_of_ble_eq_true rfl) ?_
      obtain ⟨hr12, hr13, h⟩ := h
      refine wp_icmp_ge (tgt := 33) dX4_indexOf_10 (by decide) hr12 hr13 (fun c14 => ?_) (fun c14 => ?_)
      · replace h := h.1 c14
        refine wp_iconst dX4_indexOf_33 ?_
        exact wp_ret_i dX4_indexOf_34 rfl rfl h
      · replace h := h.2 c14
        refine wp_aload_n dX4_indexOf_13 rfl ?_
        refine wp_get (v := vr (gP σ 161 a0)) dX4_indexOf_14 fl_RX4_12 hk8 rfl ?_
        refine wp_iload_n dX4_indexOf_17 rfl ?_
        obtain ⟨v16, hm15, h⟩ := h
        refine wp_callV (M' := M_Jx4a65c_get_915e3) (As := [vi x1]) (st := []) (ci := 9) dX4_indexOf_18 cee_Jx4a65c_get_915e3 np_Jx4a65c_get_915e3 rfl ⟨Nat.le_of_ble_eq_true rfl, Nat.le_of_ble_eq_true rfl, Nat.le_of_ble_eq_true rfl, Nat.le_of_ble_eq_true rfl⟩ wd_526 wd_302 wd_303 rfl (Or.inr ⟨hk10, rfl⟩) (q_small_of (Nat.le_of_ble_eq_true rfl)) hm15 (q_kPr ?_) q_kPr0
        refine wp_less (ac2 := 0) (as2 := 0) (Nat.le_of_ble_eq_true rfl) (Nat.le_of_ble_eq_true rfl) ?_
        refine wp_aload_n dX4_indexOf_21 rfl ?_
        refine wp_acmp_ne (tgt := 27) dX4_indexOf_22 (by decide) (fun c17 => ?_) (fun c17 => ?_)
        · replace h := h.1 c17
          refine wp_nmT (x1 + 1) (fun x18 hx19 => ?_)
          replace h := h x18 hx19
          refine wp_iinc' (z' := x18) (ls' := [some (vr a0), some (vr a1), some (vi x18)]) dX4_indexOf_27 (Nat.le_of_ble_eq_true rfl) rfl hx19 rfl ?_
          refine wp_goto (tgt := 2) dX4_indexOf_30 (by decide) ?_
          obtain ⟨n20, hlt, h⟩ := h
          exact wp_lsub (ls' := [some (vr a0), some (vr a1), some (vi x18)]) ⟨rfl, ⟨rfl, ⟨rfl, trivial⟩⟩⟩ (ih4 n20 hlt _ h)
        · replace h := h.2 c17
          refine wp_iload_n dX4_indexOf_25 rfl ?_
          exact wp_ret_i dX4_indexOf_26 rfl rfl h
  exact wp_lsub (ls' := [some (vr a0), some (vr a1), some (vi 0)]) ⟨rfl, ⟨rfl, ⟨rfl, trivial⟩⟩⟩ (loop21 _ _ h07)

set_option maxRecDepth 100000 in
set_option maxHeartbeats 4000000 in
theorem wm_X4_takeOut {g : qG} {l : Launch} (hl : l.stackTraces = false) {a0 : Nat} {a1 : Int} {σ : qS} {Post : qS → qRs → Prop}
    (h : qR a1 ∧ ((a1 < 0 → Post σ (.inl none)) ∧ (¬ (a1 < 0) → gK σ a0 = 5 ∧ gK σ (gP σ 161 a0) = 50 ∧ (∃ v6 : Int, qMet g l M_Jx4a65c_size_8abf5 [vr (gP σ 161 a0)] σ (qPi σ v6) ∧ (qR v6 ∧ ((v6 ≤ a1 → Post σ (.inl none)) ∧ (¬ (v6 ≤ a1) → (∃ Mid10 : qS → Nat → Prop, qMet g l M_Jx4a65c_remove_915e3 [vr (gP σ 161 a0), vi a1] σ (qTr0 Mid10) ∧ ∀ (σ14 : qS) (v16 : Nat), Mid10 σ14 v16 → Post σ14 (.inl none))))))))) : qMet g l M_X4_takeOut [vr a0, vi a1] σ Post := by
  refine qMet_of hl (by decide +kernel) (Nat.le_of_ble_eq_true rfl) (List.forall_mem_cons.mpr ⟨trivial, List.forall_mem_cons.mpr ⟨trivial, fun _ h => nomatch h⟩⟩) ?_
  show qW g l M_X4_takeOut 0 0 0 [some (vr a0), some (vi a1)] [] σ Post
  refine wp_iload_n dX4_takeOut_0 rfl ?_
  obtain ⟨hr1, h⟩ := h
  refine wp_if_lt (tgt := 24) dX4_takeOut_1 (by decide) hr1 (fun c2 => ?_) (fun c2 => ?_)
  · replace h := h.1 c2
    exact wp_ret_v dX4_takeOut_24 rfl h
  · replace h := h.2 c2
    refine wp_iload_n dX4_takeOut_4 rfl ?_
    refine wp_aload_n dX4_takeOut_5 rfl ?_
    obtain ⟨hk3, h⟩ := h
    refine wp_get (v := vr (gP σ 161 a0)) dX4_takeOut_6 fl_RX4_12 hk3 rfl ?_
    obtain ⟨hk5, h⟩ := h
    obtain ⟨v6, hm4, h⟩ := h
    refine wp_callV (M' := M_Jx4a65c_size_8abf5) (As := []) (st := [vi a1]) (ci := 9) dX4_takeOut_9 cee_Jx4a65c_size_8abf5 np_Jx4a65c_size_8abf5 rfl ⟨Nat.le_of_ble_eq_true rfl, Nat.le_of_ble_eq_true rfl, Nat.le_of_ble_eq_true rfl, Nat.le_of_ble_eq_true rfl⟩ wd_437 wd_113 wd_114 rfl (Or.inr ⟨hk5, rfl⟩) (q_small_of (Nat.le_of_ble_eq_true rfl)) hm4 (q_kPi ?_) q_kPi0
    refine wp_less (ac2 := 0) (as2 := 0) (Nat.le_of_ble_eq_true rfl) (Nat.le_of_ble_eq_true rfl) ?_
    obtain ⟨hr7, h⟩ := h
    refine wp_icmp_ge (tgt := 24) dX4_takeOut_12 (by decide) hr1 hr7 (fun c8 => ?_) (fun c8 => ?_)
    · replace h := h.1 c8
      exact wp_ret_v dX4_takeOut_24 rfl h
    · replace h := h.2 c8
      refine wp_aload_n dX4_takeOut_15 rfl ?_
      refine wp_get (v := vr (gP σ 161 a0)) dX4_takeOut_16 fl_RX4_12 hk3 rfl ?_
      refine wp_iload_n dX4_takeOut_19 rfl ?_
      obtain ⟨Mid10, hm9, hk12⟩ := h
      refine wp_callV (M' := M_Jx4a65c_remove_915e3) (As := [vi a1]) (st := []) (ci := 9) dX4_takeOut_20 cee_Jx4a65c_remove_915e3 np_Jx4a65c_remove_915e3 rfl ⟨Nat.le_of_ble_eq_true rfl, Nat.le_of_ble_eq_true rfl, Nat.le_of_ble_eq_true rfl, Nat.le_of_ble_eq_true rfl⟩ wd_513 wd_514 wd_515 rfl (Or.inr ⟨hk5, rfl⟩) (q_small_of (Nat.le_of_ble_eq_true rfl)) hm9 (q_kTr0 (fun σ14 v16 hM15 => ?_)) q_kTr00
      refine wp_less (ac2 := 0) (as2 := 0) (Nat.le_of_ble_eq_true rfl) (Nat.le_of_ble_eq_true rfl) ?_
      have h := hk12 σ14 v16 hM15
      refine wp_pop dX4_takeOut_23 trivial ?_
      exact wp_ret_v dX4_takeOut_24 rfl h

set_option maxRecDepth 100000 in
set_option maxHeartbeats 4000000 in
theorem wm_X4_putIn {g : qG} {l : Launch} (hl : l.stackTraces = false) {a0 : Nat} {a1 : Int} {a2 : Nat} {σ : qS} {Post : qS → qRs → Prop}
    (h : qR a1 ∧ ((a1 < 0 → Post σ (.inl none)) ∧ (¬ (a1 < 0) → gK σ a0 = 5 ∧ gK σ (gP σ 161 a0) = 50 ∧ (∃ v6 : Int, qMet g l M_Jx4a65c_size_8abf5 [vr (gP σ 161 a0)] σ (qPi σ v6) ∧ (qR v6 ∧ ((v6 < a1 → Post σ (.inl none)) ∧ (¬ (v6 < a1) → (∃ Mid10 : qS → Prop, qMet g l M_Jx4a65c_add_7a177 [vr (gP σ 161 a0), vi a1, vr a2] σ (qTv0 Mid10) ∧ ∀ (σ14 : qS), Mid10 σ14 → Post σ14 (.inl none))))))))) : qMet g l M_X4_putIn [vr a0, vi a1, vr a2] σ Post := by
  refine qMet_of hl (by decide +kernel) (Nat.le_of_ble_eq_true rfl) (List.forall_mem_cons.mpr ⟨trivial, List.forall_mem_cons.mpr ⟨trivial, List.forall_mem_cons.mpr ⟨trivial, fun _ h => nomatch h⟩⟩⟩) ?_
  show qW g l M_X4_putIn 2 400 0 [some (vr a0), some (vi a1), some (vr a2)] [] σ Post
  refine wp_iload_n dX4_putIn_0 rfl ?_
  obtain ⟨hr1, h⟩ := h
  refine wp_if_lt (tgt := 24) dX4_putIn_1 (by decide) hr1 (fun c2 => ?_) (fun c2 => ?_)
  · replace h := h.1 c2
    exact wp_ret_v dX4_putIn_24 rfl h
  · replace h := h.2 c2
    refine wp_iload_n dX4_putIn_4 rfl ?_
    refine wp_aload_n dX4_putIn_5 rfl ?_
    obtain ⟨hk3, h⟩ := h
    refine wp_get (v := vr (gP σ 161 a0)) dX4_putIn_6 fl_RX4_12 hk3 rfl ?_
    obtain ⟨hk5, h⟩ := h
    obtain ⟨v6, hm4, h⟩ := h
    refine wp_callV (M' := M_Jx4a65c_size_8abf5) (As := []) (st := [vi a1]) (ci := 9) dX4_putIn_9 cee_Jx4a65c_size_8abf5 np_Jx4a65c_size_8abf5 rfl ⟨Nat.le_of_ble_eq_true rfl, Nat.le_of_ble_eq_true rfl, Nat.le_of_ble_eq_true rfl, Nat.le_of_ble_eq_true rfl⟩ wd_437 wd_113 wd_114 rfl (Or.inr ⟨hk5, rfl⟩) (q_small_of (Nat.le_of_ble_eq_true rfl)) hm4 (q_kPi ?_) q_kPi0
    refine wp_less (ac2 := 2) (as2 := 400) (Nat.le_of_ble_eq_true rfl) (Nat.le_of_ble_eq_true rfl) ?_
    obtain ⟨hr7, h⟩ := h
    refine wp_icmp_gt (tgt := 24) dX4_putIn_12 (by decide) hr1 hr7 (fun c8 => ?_) (fun c8 => ?_)
    · replace h := h.1 c8
      exact wp_ret_v dX4_putIn_24 rfl h
    · replace h := h.2 c8
      refine wp_aload_n dX4_putIn_15 rfl ?_
      refine wp_get (v := vr (gP σ 161 a0)) dX4_putIn_16 fl_RX4_12 hk3 rfl ?_
      refine wp_iload_n dX4_putIn_19 rfl ?_
      refine wp_aload_n dX4_putIn_20 rfl ?_
      obtain ⟨Mid10, hm9, hk12⟩ := h
      refine wp_callV (M' := M_Jx4a65c_add_7a177) (As := [vi a1, vr a2]) (st := []) (ci := 9) dX4_putIn_21 cee_Jx4a65c_add_7a177 np_Jx4a65c_add_7a177 rfl ⟨Nat.le_of_ble_eq_true rfl, Nat.le_of_ble_eq_true rfl, Nat.le_of_ble_eq_true rfl, Nat.le_of_ble_eq_true rfl⟩ wd_438 wd_439 wd_440 rfl (Or.inr ⟨hk5, rfl⟩) (q_small_of (Nat.le_of_ble_eq_true rfl)) hm9 (q_kTv0 (fun σ14 hM15 => ?_)) q_kTv00
      refine wp_less (ac2 := 0) (as2 := 0) (Nat.le_of_ble_eq_true rfl) (Nat.le_of_ble_eq_true rfl) ?_
      have h := hk12 σ14 hM15
      exact wp_ret_v dX4_putIn_24 rfl h

set_option maxRecDepth 100000 in
set_option maxHeartbeats 4000000 in
theorem wm_X4_keepTrial {g : qG} {l : Launch} (hl : l.stackTraces = false) {a0 : Nat} {σ : qS} {Post : qS → qRs → Prop}
    (h : ∃ Inv3 : Nat → Int → Int → qS → Prop, (∃ n : Nat, Inv3 n 0 0 σ) ∧ ∀ (n4 : Nat) (x1 : Int) (x2 : Int) (σ9 : qS), Inv3 n4 x1 x2 σ9 → (gK σ9 a0 = 5 ∧ gK σ9 (gP σ9 161 a0) = 50 ∧ (∃ v13 : Int, qMet g l M_Jx4a65c_size_8abf5 [vr (gP σ9 161 a0)] σ9 (qPi σ9 v13) ∧ (qR x2 ∧ qR v13 ∧ ((v13 ≤ x2 → (∀ σ17 : qS, σ17 = sI σ9 163 a0 (gI σ9 164 a0) → Post σ17 (.inl (some (vi x1))))) ∧ (¬ (v13 ≤ x2) → (∃ v20 : Nat, qMet g l M_Jx4a65c_get_915e3 [vr (gP σ9 161 a0), vi x2] σ9 (qPr σ9 v20) ∧ ((v20 = 0 ∨ gK σ9 v20 = 6) ∧ gK σ9 v20 = 6 ∧ gK σ9 (gP σ9 207 v20) = 2 ∧ (∃ v25 : Int, qMet g l M_X1_isLike [vr (gP σ9 207 v20), vr (gP σ9 208 v20)] σ9 (qPi σ9 v25) ∧ (qR v25 ∧ ((¬ v25 = 0 → (∃ Mid29 : qS → Prop, qMet g l M_X5_keepTrial [vr v20] σ9 (qTv0 Mid29) ∧ ∀ (σ33 : qS), Mid29 σ33 → ∀ x35 : Int, x35 = x2 + 1 → ∃ n37 : Nat, n37 < n4 ∧ Inv3 n37 x1 x35 σ33)) ∧ (v25 = 0 → ∀ x38 : Int, x38 = x1 + 1 → (∃ Mid41 : qS → Prop, qMet g l M_X5_keepTrial [vr v20] σ9 (qTv0 Mid41) ∧ ∀ (σ45 : qS), Mid41 σ45 → ∀ x47 : Int, x47 = x2 + 1 → ∃ n49 : Nat, n49 < n4 ∧ Inv3 n49 x38 x47 σ45))))))))))))) : qMet g l M_X4_keepTrial [vr a0] σ Post := by
  refine qMet_of hl (by decide +kernel) (Nat.le_of_ble_eq_true rfl) (List.forall_mem_cons.mpr ⟨trivial, fun _ h => nomatch h⟩) ?_
  show qW g l M_X4_keepTrial 0 0 0 [some (vr a0), none, none, none] [] σ Post
  refine wp_iconst dX4_keepTrial_0 ?_
  refine wp_istore_n' (ls' := [some (vr a0), some (vi 0), none, none]) dX4_keepTrial_1 (Nat.le_of_ble_eq_true rfl) rfl ?_
  refine wp_iconst dX4_keepTrial_2 ?_
  refine wp_istore_n' (ls' := [some (vr a0), some (vi 0), some (vi 0), none]) dX4_keepTrial_3 (Nat.le_of_ble_eq_true rfl) rfl ?_
  obtain ⟨Inv3, ⟨n4_0, h08⟩, hb7⟩ := h
  have loop50 : ∀ (n4 : Nat) (x1 : Int) (x2 : Int) (σ9 : qS), Inv3 n4 x1 x2 σ9 → qW g l M_X4_keepTrial 0 0 4 [some (vr a0), some (vi x1), some (vi x2), none] [] σ9 Post := by
    intro n4
    induction n4 using Nat.strongRecOn with
    | ind n4 ih5 =>
      intro x1 x2 σ9 hI6
      have h := hb7 n4 x1 x2 σ9 hI6
      refine wp_iload_n dX4_keepTrial_4 rfl ?_
      refine wp_aload_n dX4_keepTrial_5 rfl ?_
      obtain ⟨hk10, h⟩ := h
      refine wp_get (v := vr (gP σ9 161 a0)) dX4_keepTrial_6 fl_RX4_12 hk10 rfl ?_
      obtain ⟨hk12, h⟩ := h
      obtain ⟨v13, hm11, h⟩ := h
      refine wp_callV (M' := M_Jx4a65c_size_8abf5) (As := []) (st := [vi x2]) (ci := 9) dX4_keepTrial_9 cee_Jx4a65c_size_8abf5 np_Jx4a65c_size_8abf5 rfl ⟨Nat.le_of_ble_eq_true rfl, Nat.le_of_ble_eq_true rfl, Nat.le_of_ble_eq_true rfl, Nat.le_of_ble_eq_true rfl⟩ wd_437 wd_113 wd_114 rfl (Or.inr ⟨hk12, rfl⟩) (q_small_of (Nat.le_of_ble_eq_true rfl)) hm11 (q_kPi ?_) q_kPi0
      refine wp_less (ac2 := 0) (as2 := 0) (Nat.le_of_ble_eq_true rfl) (Nat.le_of_ble_eq_true rfl) ?_
      obtain ⟨hr14, hr15, h⟩ := h
      refine wp_icmp_ge (tgt := 54) dX4_keepTrial_12 (by decide) hr14 hr15 (fun c16 => ?_) (fun c16 => ?_)
      · replace h := h.1 c16
        refine wp_aload_n dX4_keepTrial_54 rfl ?_
        refine wp_aload_n dX4_keepTrial_55 rfl ?_
        refine wp_get (v := vi (gI σ9 164 a0)) dX4_keepTrial_56 fl_RX4_58 hk10 rfl ?_
        refine wp_put (v := vi (gI σ9 164 a0)) dX4_keepTrial_59 fs_RX4_61 (fun h => absurd h (by decide)) hk10 (Or.inl rfl) ?_
        refine wp_nmS (fun σ17 hs18 => ?_)
        replace h := h σ17 hs18
        refine wp_iload_n dX4_keepTrial_62 rfl ?_
        exact wp_ret_i dX4_keepTrial_63 rfl rfl h
      · replace h := h.2 c16
        refine wp_aload_n dX4_keepTrial_15 rfl ?_
        refine wp_get (v := vr (gP σ9 161 a0)) dX4_keepTrial_16 fl_RX4_12 hk10 rfl ?_
        refine wp_iload_n dX4_keepTrial_19 rfl ?_
        obtain ⟨v20, hm19, h⟩ := h
        refine wp_callV (M' := M_Jx4a65c_get_915e3) (As := [vi x2]) (st := []) (ci := 9) dX4_keepTrial_20 cee_Jx4a65c_get_915e3 np_Jx4a65c_get_915e3 rfl ⟨Nat.le_of_ble_eq_true rfl, Nat.le_of_ble_eq_true rfl, Nat.le_of_ble_eq_true rfl, Nat.le_of_ble_eq_true rfl⟩ wd_526 wd_302 wd_303 rfl (Or.inr ⟨hk12, rfl⟩) (q_small_of (Nat.le_of_ble_eq_true rfl)) hm19 (q_kPr ?_) q_kPr0
        refine wp_less (ac2 := 0) (as2 := 0) (Nat.le_of_ble_eq_true rfl) (Nat.le_of_ble_eq_true rfl) ?_
        obtain ⟨hc21, h⟩ := h
        refine wp_cast (ci := 5) dX4_keepTrial_23 ⟨_, rfl, wd_527⟩ hc21 ?_
        refine wp_astore_n' (ls' := [some (vr a0), some (vi x1), some (vi x2), some (vr v20)]) dX4_keepTrial_26 (Nat.le_of_ble_eq_true rfl) rfl ?_
        refine wp_aload_n dX4_keepTrial_27 rfl ?_
        obtain ⟨hk22, h⟩ := h
        refine wp_get (v := vr (gP σ9 207 v20)) dX4_keepTrial_28 fl_RX4_42 hk22 rfl ?_
        refine wp_aload_n dX4_keepTrial_31 rfl ?_
        refine wp_get (v := vr (gP σ9 208 v20)) dX4_keepTrial_32 fl_RX4_46 hk22 rfl ?_
        obtain ⟨hk24, h⟩ := h
        obtain ⟨v25, hm23, h⟩ := h
        refine wp_callV (M' := M_X1_isLike) (As := [vr (gP σ9 208 v20)]) (st := []) (ci := 1) dX4_keepTrial_35 cee_X1_isLike np_X1_isLike rfl ⟨Nat.le_of_ble_eq_true rfl, Nat.le_of_ble_eq_true rfl, Nat.le_of_ble_eq_true rfl, Nat.le_of_ble_eq_true rfl⟩ wd_528 wd_529 wd_530 rfl (Or.inl hk24) (q_small_of (Nat.le_of_ble_eq_true rfl)) hm23 (q_kPi ?_) q_kPi0
        refine wp_less (ac2 := 0) (as2 := 0) (Nat.le_of_ble_eq_true rfl) (Nat.le_of_ble_eq_true rfl) ?_
        obtain ⟨hr26, h⟩ := h
        refine wp_if_ne (tgt := 44) dX4_keepTrial_38 (by decide) hr26 (fun c27 => ?_) (fun c27 => ?_)
        · replace h := h.1 c27
          refine wp_aload_n dX4_keepTrial_44 rfl ?_
          obtain ⟨Mid29, hm28, hk31⟩ := h
          refine wp_callV (M' := M_X5_keepTrial) (As := []) (st := []) (ci := 5) dX4_keepTrial_45 cee_X5_keepTrial np_X5_keepTrial rfl ⟨Nat.le_of_ble_eq_true rfl, Nat.le_of_ble_eq_true rfl, Nat.le_of_ble_eq_true rfl, Nat.le_of_ble_eq_true rfl⟩ wd_532 wd_533 wd_534 rfl (Or.inl hk22) (q_small_of (Nat.le_of_ble_eq_true rfl)) hm28 (q_kTv0 (fun σ33 hM34 => ?_)) q_kTv00
          refine wp_less (ac2 := 0) (as2 := 0) (Nat.le_of_ble_eq_true rfl) (Nat.le_of_ble_eq_true rfl) ?_
          have h := hk31 σ33 hM34
          refine wp_nmT (x2 + 1) (fun x35 hx36 => ?_)
          replace h := h x35 hx36
          refine wp_iinc' (z' := x35) (ls' := [some (vr a0), some (vi x1), some (vi x35), some (vr v20)]) dX4_keepTrial_48 (Nat.le_of_ble_eq_true rfl) rfl hx36 rfl ?_
          refine wp_goto (tgt := 4) dX4_keepTrial_51 (by decide) ?_
          obtain ⟨n37, hlt, h⟩ := h
          exact wp_lsub (ls' := [some (vr a0), some (vi x1), some (vi x35), none]) ⟨rfl, ⟨rfl, ⟨rfl, trivial⟩⟩⟩ (ih5 n37 hlt _ _ _ h)
        · replace h := h.2 c27
          refine wp_nmT (x1 + 1) (fun x38 hx39 => ?_)
          replace h := h x38 hx39
          refine wp_iinc' (z' := x38) (ls' := [some (vr a0), some (vi x38), some (vi x2), some (vr v20)]) dX4_keepTrial_41 (Nat.le_of_ble_eq_true rfl) rfl hx39 rfl ?_
          refine wp_aload_n dX4_keepTrial_44 rfl ?_
          obtain ⟨Mid41, hm40, hk43⟩ := h
          refine wp_callV (M' := M_X5_keepTrial) (As := []) (st := []) (ci := 5) dX4_keepTrial_45 cee_X5_keepTrial np_X5_keepTrial rfl ⟨Nat.le_of_ble_eq_true rfl, Nat.le_of_ble_eq_true rfl, Nat.le_of_ble_eq_true rfl, Nat.le_of_ble_eq_true rfl⟩ wd_532 wd_533 wd_534 rfl (Or.inl hk22) (q_small_of (Nat.le_of_ble_eq_true rfl)) hm40 (q_kTv0 (fun σ45 hM46 => ?_)) q_kTv00
          refine wp_less (ac2 := 0) (as2 := 0) (Nat.le_of_ble_eq_true rfl) (Nat.le_of_ble_eq_true rfl) ?_
          have h := hk43 σ45 hM46
          refine wp_nmT (x2 + 1) (fun x47 hx48 => ?_)
          replace h := h x47 hx48
          refine wp_iinc' (z' := x47) (ls' := [some (vr a0), some (vi x38), some (vi x47), some (vr v20)]) dX4_keepTrial_48 (Nat.le_of_ble_eq_true rfl) rfl hx48 rfl ?_
          refine wp_goto (tgt := 4) dX4_keepTrial_51 (by decide) ?_
          obtain ⟨n49, hlt, h⟩ := h
          exact wp_lsub (ls' := [some (vr a0), some (vi x38), some (vi x47), none]) ⟨rfl, ⟨rfl, ⟨rfl, trivial⟩⟩⟩ (ih5 n49 hlt _ _ _ h)
  exact wp_lsub (ls' := [some (vr a0), some (vi 0), some (vi 0), none]) ⟨rfl, ⟨rfl, ⟨rfl, trivial⟩⟩⟩ (loop50 _ _ _ _ h08)

set_option maxRecDepth 100000 in
set_option maxHeartbeats 4000000 in
theorem wm_X5_init {g : qG} {l : Launch} (hl : l.stackTraces = false) {a0 : Nat} {a1 : Int} {a2 : Nat} {a3 : Int} {a4 : Int} {a5 : Int} {σ : qS} {Post : qS → qRs → Prop}
    (h : a0 ≠ 0 ∧ ∀ r2 : Nat, gK σ r2 = 0 → r2 ≠ 0 → ∀ σ5 : qS, σ5 = nO σ r2 10 → (∃ Mid9 : qS → Prop, qMet g l M_Jx4a65c_init_da8c8 [vr r2] σ5 (qTv0 Mid9) ∧ ∀ (σ13 : qS), Mid9 σ13 → gK σ13 a0 = 6 ∧ (∀ σ16 : qS, σ16 = sP σ13 205 a0 r2 → ∀ r18 : Nat, gK σ16 r18 = 0 → r18 ≠ 0 → ∀ σ21 : qS, σ21 = nO σ16 r18 10 → (∃ Mid25 : qS → Prop, qMet g l M_Jx4a65c_init_da8c8 [vr r18] σ21 (qTv0 Mid25) ∧ ∀ (σ29 : qS), Mid25 σ29 → gK σ29 a0 = 6 ∧ (∀ σ32 : qS, σ32 = sP σ29 206 a0 r18 → ∀ r34 : Nat, gK σ32 r34 = 0 → r34 ≠ 0 → ∀ σ37 : qS, σ37 = nO σ32 r34 2 → (∃ Mid41 : qS → Prop, qMet g l M_X1_init [vr r34] σ37 (qTv0 Mid41) ∧ ∀ (σ45 : qS), Mid41 σ45 → gK σ45 a0 = 6 ∧ (∀ σ48 : qS, σ48 = sP σ45 207 a0 r34 → ∀ r50 : Nat, gK σ48 r50 = 0 → r50 ≠ 0 → ∀ σ53 : qS, σ53 = nO σ48 r50 2 → (∃ Mid57 : qS → Prop, qMet g l M_X1_init [vr r50] σ53 (qTv0 Mid57) ∧ ∀ (σ61 : qS), Mid57 σ61 → gK σ61 a0 = 6 ∧ (∀ σ64 : qS, σ64 = sP σ61 208 a0 r50 → (∀ σ66 : qS, σ66 = sI σ64 200 a0 a1 → (∀ σ68 : qS, σ68 = sP σ66 201 a0 a2 → (∀ σ70 : qS, σ70 = sI σ68 202 a0 a3 → (∀ σ72 : qS, σ72 = sI σ70 203 a0 a4 → (∀ σ74 : qS, σ74 = sI σ72 204 a0 a5 → Post σ74 (.inl none))))))))))))))) : qMet g l M_X5_init [vr a0, vi a1, vr a2, vi a3, vi a4, vi a5] σ Post := by
  refine qMet_of hl (by decide +kernel) (Nat.le_of_ble_eq_true rfl) (List.forall_mem_cons.mpr ⟨trivial, List.forall_mem_cons.mpr ⟨trivial, List.forall_mem_cons.mpr ⟨trivial, List.forall_mem_cons.mpr ⟨trivial, List.forall_mem_cons.mpr ⟨trivial, List.forall_mem_cons.mpr ⟨trivial, fun _ h => nomatch h⟩⟩⟩⟩⟩⟩) ?_
  show qW g l M_X5_init 4 14 0 [some (vr a0), some (vi a1), some (vr a2), some (vi a3), some (vi a4), some (vi a5)] [] σ Post
  refine wp_aload_n dX5_init_0 rfl ?_
  obtain ⟨hz1, h⟩ := h
  refine wp_objInit dX5_init_1 wd_344 hz1 (q_small_of (Nat.le_of_ble_eq_true rfl)) ⟨Nat.le_of_ble_eq_true rfl, Nat.le_of_ble_eq_true rfl⟩ ?_
  refine wp_aload_n dX5_init_4 rfl ?_
  refine wp_new (n := 3) dX5_init_5 nw_RX5_7 rfl (Nat.le_of_ble_eq_true rfl) (Nat.le_of_ble_eq_true rfl) (fun r2 hz3 hq4 => ?_)
  refine wp_less (ac2 := 3) (as2 := 11) (Nat.le_of_ble_eq_true rfl) (Nat.le_of_ble_eq_true rfl) ?_
  replace h := h r2 hz3 hq4
  refine wp_nmS (fun σ5 hs6 => ?_)
  replace h := h σ5 hs6
  have hk7 : gK σ5 r2 = 10 := by rw [hs6]; exact if_pos rfl
  refine wp_dup dX5_init_8 trivial ?_
  obtain ⟨Mid9, hm8, hk11⟩ := h
  refine wp_callI (M' := M_Jx4a65c_init_da8c8) (As := []) (st := [vr r2, vr a0]) dX5_init_9 cee_Jx4a65c_init_da8c8 np_Jx4a65c_init_da8c8 rfl ⟨Nat.le_of_ble_eq_true rfl, Nat.le_of_ble_eq_true rfl, Nat.le_of_ble_eq_true rfl, Nat.le_of_ble_eq_true rfl⟩ wd_346 wd_35 rfl rfl hq4 (q_small_of (Nat.le_of_ble_eq_true rfl)) hm8 (q_kTv0 (fun σ13 hM14 => ?_)) q_kTv00
  refine wp_less (ac2 := 3) (as2 := 11) (Nat.le_of_ble_eq_true rfl) (Nat.le_of_ble_eq_true rfl) ?_
  have h := hk11 σ13 hM14
  obtain ⟨hk15, h⟩ := h
  refine wp_put (v := vr r2) dX5_init_12 fs_RX5_10 (fun _ => rfl) hk15 rfl ?_
  refine wp_nmS (fun σ16 hs17 => ?_)
  replace h := h σ16 hs17
  refine wp_aload_n dX5_init_15 rfl ?_
  refine wp_new (n := 3) dX5_init_16 nw_RX5_7 rfl (Nat.le_of_ble_eq_true rfl) (Nat.le_of_ble_eq_true rfl) (fun r18 hz19 hq20 => ?_)
  refine wp_less (ac2 := 2) (as2 := 8) (Nat.le_of_ble_eq_true rfl) (Nat.le_of_ble_eq_true rfl) ?_
  replace h := h r18 hz19 hq20
  refine wp_nmS (fun σ21 hs22 => ?_)
  replace h := h σ21 hs22
  have hk23 : gK σ21 r18 = 10 := by rw [hs22]; exact if_pos rfl
  refine wp_dup dX5_init_19 trivial ?_
  obtain ⟨Mid25, hm24, hk27⟩ := h
  refine wp_callI (M' := M_Jx4a65c_init_da8c8) (As := []) (st := [vr r18, vr a0]) dX5_init_20 cee_Jx4a65c_init_da8c8 np_Jx4a65c_init_da8c8 rfl ⟨Nat.le_of_ble_eq_true rfl, Nat.le_of_ble_eq_true rfl, Nat.le_of_ble_eq_true rfl, Nat.le_of_ble_eq_true rfl⟩ wd_346 wd_35 rfl rfl hq20 (q_small_of (Nat.le_of_ble_eq_true rfl)) hm24 (q_kTv0 (fun σ29 hM30 => ?_)) q_kTv00
  refine wp_less (ac2 := 2) (as2 := 8) (Nat.le_of_ble_eq_true rfl) (Nat.le_of_ble_eq_true rfl) ?_
  have h := hk27 σ29 hM30
  obtain ⟨hk31, h⟩ := h
  refine wp_put (v := vr r18) dX5_init_23 fs_RX5_16 (fun _ => rfl) hk31 rfl ?_
  refine wp_nmS (fun σ32 hs33 => ?_)
  replace h := h σ32 hs33
  refine wp_aload_n dX5_init_26 rfl ?_
  refine wp_new (n := 4) dX5_init_27 nw_RX5_19 rfl (Nat.le_of_ble_eq_true rfl) (Nat.le_of_ble_eq_true rfl) (fun r34 hz35 hq36 => ?_)
  refine wp_less (ac2 := 1) (as2 := 4) (Nat.le_of_ble_eq_true rfl) (Nat.le_of_ble_eq_true rfl) ?_
  replace h := h r34 hz35 hq36
  refine wp_nmS (fun σ37 hs38 => ?_)
  replace h := h σ37 hs38
  have hk39 : gK σ37 r34 = 2 := by rw [hs38]; exact if_pos rfl
  refine wp_dup dX5_init_30 trivial ?_
  obtain ⟨Mid41, hm40, hk43⟩ := h
  refine wp_callIN (M' := M_X1_init) (As := []) (st := [vr r34, vr a0]) dX5_init_31 cee_X1_init np_X1_init rfl ⟨Nat.le_of_ble_eq_true rfl, Nat.le_of_ble_eq_true rfl, Nat.le_of_ble_eq_true rfl, Nat.le_of_ble_eq_true rfl⟩ wd_349 wd_350 rfl rfl hq36 (q_small_of (Nat.le_of_ble_eq_true rfl)) hm40 (q_kTv0 (fun σ45 hM46 => ?_)) q_kTv00
  refine wp_less (ac2 := 1) (as2 := 4) (Nat.le_of_ble_eq_true rfl) (Nat.le_of_ble_eq_true rfl) ?_
  have h := hk43 σ45 hM46
  obtain ⟨hk47, h⟩ := h
  refine wp_put (v := vr r34) dX5_init_34 fs_RX5_22 (fun _ => rfl) hk47 rfl ?_
  refine wp_nmS (fun σ48 hs49 => ?_)
  replace h := h σ48 hs49
  refine wp_aload_n dX5_init_37 rfl ?_
  refine wp_new (n := 4) dX5_init_38 nw_RX5_19 rfl (Nat.le_of_ble_eq_true rfl) (Nat.le_of_ble_eq_true rfl) (fun r50 hz51 hq52 => ?_)
  refine wp_less (ac2 := 0) (as2 := 0) (Nat.le_of_ble_eq_true rfl) (Nat.le_of_ble_eq_true rfl) ?_
  replace h := h r50 hz51 hq52
  refine wp_nmS (fun σ53 hs54 => ?_)
  replace h := h σ53 hs54
  have hk55 : gK σ53 r50 = 2 := by rw [hs54]; exact if_pos rfl
  refine wp_dup dX5_init_41 trivial ?_
  obtain ⟨Mid57, hm56, hk59⟩ := h
  refine wp_callIN (M' := M_X1_init) (As := []) (st := [vr r50, vr a0]) dX5_init_42 cee_X1_init np_X1_init rfl ⟨Nat.le_of_ble_eq_true rfl, Nat.le_of_ble_eq_true rfl, Nat.le_of_ble_eq_true rfl, Nat.le_of_ble_eq_true rfl⟩ wd_349 wd_350 rfl rfl hq52 (q_small_of (Nat.le_of_ble_eq_true rfl)) hm56 (q_kTv0 (fun σ61 hM62 => ?_)) q_kTv00
  refine wp_less (ac2 := 0) (as2 := 0) (Nat.le_of_ble_eq_true rfl) (Nat.le_of_ble_eq_true rfl) ?_
  have h := hk59 σ61 hM62
  obtain ⟨hk63, h⟩ := h
  refine wp_put (v := vr r50) dX5_init_45 fs_RX5_26 (fun _ => rfl) hk63 rfl ?_
  refine wp_nmS (fun σ64 hs65 => ?_)
  replace h := h σ64 hs65
  refine wp_aload_n dX5_init_48 rfl ?_
  refine wp_iload_n dX5_init_49 rfl ?_
  refine wp_put (v := vi a1) dX5_init_50 fs_RX5_29 (fun _ => rfl) (by rw [hs65]; exact hk63) (Or.inl rfl) ?_
  refine wp_nmS (fun σ66 hs67 => ?_)
  replace h := h σ66 hs67
  refine wp_aload_n dX5_init_53 rfl ?_
  refine wp_aload_n dX5_init_54 rfl ?_
  refine wp_put (v := vr a2) dX5_init_55 fs_RX5_33 (fun _ => rfl) (by rw [hs67, hs65]; exact hk63) rfl ?_
  refine wp_nmS (fun σ68 hs69 => ?_)
  replace h := h σ68 hs69
  refine wp_aload_n dX5_init_58 rfl ?_
  refine wp_iload_n dX5_init_59 rfl ?_
  refine wp_put (v := vi a3) dX5_init_60 fs_RX5_37 (fun _ => rfl) (by rw [hs69, hs67, hs65]; exact hk63) (Or.inl rfl) ?_
  refine wp_nmS (fun σ70 hs71 => ?_)
  replace h := h σ70 hs71
  refine wp_aload_n dX5_init_63 rfl ?_
  refine wp_iload dX5_init_64 rfl ?_
  refine wp_put (v := vi a4) dX5_init_66 fs_RX5_40 (fun _ => rfl) (by rw [hs71, hs69, hs67, hs65]; exact hk63) (Or.inl rfl) ?_
  refine wp_nmS (fun σ72 hs73 => ?_)
  replace h := h σ72 hs73
  refine wp_aload_n dX5_init_69 rfl ?_
  refine wp_iload dX5_init_70 rfl ?_
  refine wp_put (v := vi a5) dX5_init_72 fs_RX5_43 (fun _ => rfl) (by rw [hs73, hs71, hs69, hs67, hs65]; exact hk63) (Or.inl rfl) ?_
  refine wp_nmS (fun σ74 hs75 => ?_)
  replace h := h σ74 hs75
  exact wp_ret_v dX5_init_75 rfl h

set_option maxRecDepth 100000 in
set_option maxHeartbeats 4000000 in
theorem wm_X5_indexOf {g : qG} {l : Launch} (hl : l.stackTraces = false) {a0 : Nat} {a1 : Nat} {σ : qS} {Post : qS → qRs → Prop}
    (h : ∃ Inv2 : Nat → Int → Prop, (∃ n : Nat, Inv2 n 0) ∧ ∀ (n3 : Nat) (x1 : Int), Inv2 n3 x1 → (gK σ a0 = 6 ∧ gK σ (gP σ 206 a0) = 50 ∧ (∃ v11 : Int, qMet g l M_Jx4a65c_size_8abf5 [vr (gP σ 206 a0)] σ (qPi σ v11) ∧ (qR x1 ∧ qR v11 ∧ ((v11 ≤ x1 → Post σ (.inl (some (vi ((-1)))))) ∧ (¬ (v11 ≤ x1) → (∃ v16 : Nat, qMet g l M_Jx4a65c_get_915e3 [vr (gP σ 206 a0), vi x1] σ (qPr σ v16) ∧ (((¬ v16 = a1 → ∀ x18 : Int, x18 = x1 + 1 → ∃ n20 : Nat, n20 < n3 ∧ Inv2 n20 x18) ∧ (v16 = a1 → Post σ (.inl (some (vi x1))))))))))))) : qMet g l M_X5_indexOf [vr a0, vr a1] σ Post := by
  refine qMet_of hl (by decide +kernel) (Nat.le_of_ble_eq_true rfl) (List.forall_mem_cons.mpr ⟨trivial, List.forall_mem_cons.mpr ⟨trivial, fun _ h => nomatch h⟩⟩) ?_
  show qW g l M_X5_indexOf 0 0 0 [some (vr a0), some (vr a1), none] [] σ Post
  refine wp_iconst dX5_indexOf_0 ?_
  refine wp_istore_n' (ls' := [some (vr a0), some (vr a1), some (vi 0)]) dX5_indexOf_1 (Nat.le_of_ble_eq_true rfl) rfl ?_
  obtain ⟨Inv2, ⟨n3_0, h07⟩, hb6⟩ := h
  have loop21 : ∀ (n3 : Nat) (x1 : Int), Inv2 n3 x1 → qW g l M_X5_indexOf 0 0 2 [some (vr a0), some (vr a1), some (vi x1)] [] σ Post := by
    intro n3
    induction n3 using Nat.strongRecOn with
    | ind n3 ih4 =>
      intro x1 hI5
      have h := hb6 n3 x1 hI5
      refine wp_iload_n dX5_indexOf_2 rfl ?_
      refine wp_aload_n dX5_indexOf_3 rfl ?_
      obtain ⟨hk8, h⟩ := h
      refine wp_get (v := vr (gP σ 206 a0)) dX5_indexOf_4 fl_RX5_16 hk8 rfl ?_
      obtain ⟨hk10, h⟩ := h
      obtain ⟨v11, hm9, h⟩ := h
      refine wp_callV (M' := M_Jx4a65c_size_8abf5) (As := []) (st := [vi x1]) (ci := 9) dX5_indexOf_7 cee_Jx4a65c_size_8abf5 np_Jx4a65c_size_8abf5 rfl ⟨Nat.le_of_ble_eq_true rfl, Nat.le_of_ble_eq_true rfl, Nat.le_of_ble_eq_true rfl, Nat.le_of_ble_eq_true rfl⟩ wd_540 wd_113 wd_114 rfl (Or.inr ⟨hk10, rfl⟩) (q_small_of (Nat.le_of_ble_eq_true rfl)) hm9 (q_kPi ?_) q_kPi0
      refine wp_less (ac2 := 0) (as2 := 0) (Nat.le_of_ble_eq_true rfl) (Nat.le_of_ble_eq_true rfl) ?_
      obtain ⟨hr12, hr13, h⟩ := h
      refine wp_icmp_ge (tgt := 33) dX5_indexOf_10 (by decide) hr12 hr13 (fun c14 => ?_) (fun c14 => ?_)
      · replace h := h.1 c14
        refine wp_iconst dX5_indexOf_33 ?_
        exact wp_ret_i dX5_indexOf_34 rfl rfl h
      · replace h := h.2 c14
        refine wp_aload_n dX5_indexOf_13 rfl ?_
        refine wp_get (v := vr (gP σ 206 a0)) dX5_indexOf_14 fl_RX5_16 hk8 rfl ?_
        refine wp_iload_n dX5_indexOf_17 rfl ?_
        obtain ⟨v16, hm15, h⟩ := h
        refine wp_callV (M' := M_Jx4a65c_get_915e3) (As := [vi x1]) (st := []) (ci := 9) dX5_indexOf_18 cee_Jx4a65c_get_915e3 np_Jx4a65c_get_915e3 rfl ⟨Nat.le_of_ble_eq_true rfl, Nat.le_of_ble_eq_true rfl, Nat.le_of_ble_eq_true rfl, Nat.le_of_ble_eq_true rfl⟩ wd_541 wd_302 wd_303 rfl (Or.inr ⟨hk10, rfl⟩) (q_small_of (Nat.le_of_ble_eq_true rfl)) hm15 (q_kPr ?_) q_kPr0
        refine wp_less (ac2 := 0) (as2 := 0) (Nat.le_of_ble_eq_true rfl) (Nat.le_of_ble_eq_true rfl) ?_
        refine wp_aload_n dX5_indexOf_21 rfl ?_
        refine wp_acmp_ne (tgt := 27) dX5_indexOf_22 (by decide) (fun c17 => ?_) (fun c17 => ?_)
        · replace h := h.1 c17
          refine wp_nmT (x1 + 1) (fun x18 hx19 => ?_)
          replace h := h x18 hx19
          refine wp_iinc' (z' := x18) (ls' := [some (vr a0), some (vr a1), some (vi x18)]) dX5_indexOf_27 (Nat.le_of_ble_eq_true rfl) rfl hx19 rfl ?_
          refine wp_goto (tgt := 2) dX5_indexOf_30 (by decide) ?_
          obtain ⟨n20, hlt, h⟩ := h
          exact wp_lsub (ls' := [some (vr a0), some (vr a1), some (vi x18)]) ⟨rfl, ⟨rfl, ⟨rfl, trivial⟩⟩⟩ (ih4 n20 hlt _ h)
        · replace h := h.2 c17
          refine wp_iload_n dX5_indexOf_25 rfl ?_
          exact wp_ret_i dX5_indexOf_26 rfl rfl h
  exact wp_lsub (ls' := [some (vr a0), some (vr a1), some (vi 0)]) ⟨rfl, ⟨rfl, ⟨rfl, trivial⟩⟩⟩ (loop21 _ _ h07)

set_option maxRecDepth 100000 in
set_option maxHeartbeats 4000000 in
theorem wm_X5_takeOut {g : qG} {l : Launch} (hl : l.stackTraces = false) {a0 : Nat} {a1 : Int} {σ : qS} {Post : qS → qRs → Prop}
    (h : qR a1 ∧ ((a1 < 0 → Post σ (.inl none)) ∧ (¬ (a1 < 0) → gK σ a0 = 6 ∧ gK σ (gP σ 206 a0) = 50 ∧ (∃ v6 : Int, qMet g l M_Jx4a65c_size_8abf5 [vr (gP σ 206 a0)] σ (qPi σ v6) ∧ (qR v6 ∧ ((v6 ≤ a1 → Post σ (.inl none)) ∧ (¬ (v6 ≤ a1) → (∃ Mid10 : qS → Nat → Prop, qMet g l M_Jx4a65c_remove_915e3 [vr (gP σ 206 a0), vi a1] σ (qTr0 Mid10) ∧ ∀ (σ14 : qS) (v16 : Nat), Mid10 σ14 v16 → Post σ14 (.inl none))))))))) : qMet g l M_X5_takeOut [vr a0, vi a1] σ Post := by
  refine qMet_of hl (by decide +kernel) (Nat.le_of_ble_eq_true rfl) (List.forall_mem_cons.mpr ⟨trivial, List.forall_mem_cons.mpr ⟨trivial, fun _ h => nomatch h⟩⟩) ?_
  show qW g l M_X5_takeOut 0 0 0 [some (vr a0), some (vi a1)] [] σ Post
  refine wp_iload_n dX5_takeOut_0 rfl ?_
  obtain ⟨hr1, h⟩ := h
  refine wp_if_lt (tgt := 24) dX5_takeOut_1 (by decide) hr1 (fun c2 => ?_) (fun c2 => ?_)
  · replace h := h.1 c2
    exact wp_ret_v dX5_takeOut_24 rfl h
  · replace h := h.2 c2
    refine wp_iload_n dX5_takeOut_4 rfl ?_
    refine wp_aload_n dX5_takeOut_5 rfl ?_
    obtain ⟨hk3, h⟩ := h
    refine wp_get (v := vr (gP σ 206 a0)) dX5_takeOut_6 fl_RX5_16 hk3 rfl ?_
    obtain ⟨hk5, h⟩ := h
    obtain ⟨v6, hm4, h⟩ := h
    refine wp_callV (M' := M_Jx4a65c_size_8abf5) (As := []) (st := [vi a1]) (ci := 9) dX5_takeOut_9 cee_Jx4a65c_size_8abf5 np_Jx4a65c_size_8abf5 rfl ⟨Nat.le_of_ble_eq_true rfl, Nat.le_of_ble_eq_true rfl, Nat.le_of_ble_eq_true rfl, Nat.le_of_ble_eq_true rfl⟩ wd_540 wd_113 wd_114 rfl (Or.inr ⟨hk5, rfl⟩) (q_small_of (Nat.le_of_ble_eq_true rfl)) hm4 (q_kPi ?_) q_kPi0
    refine wp_less (ac2 := 0) (as2 := 0) (Nat.le_of_ble_eq_true rfl) (Nat.le_of_ble_eq_true rfl) ?_
    obtain ⟨hr7, h⟩ := h
    refine wp_icmp_ge (tgt := 24) dX5_takeOut_12 (by decide) hr1 hr7 (fun c8 => ?_) (fun c8 => ?_)
    · replace h := h.1 c8
      exact wp_ret_v dX5_takeOut_24 rfl h
    · replace h := h.2 c8
      refine wp_aload_n dX5_takeOut_15 rfl ?_
      refine wp_get (v := vr (gP σ 206 a0)) dX5_takeOut_16 fl_RX5_16 hk3 rfl ?_
      refine wp_iload_n dX5_takeOut_19 rfl ?_
      obtain ⟨Mid10, hm9, hk12⟩ := h
      refine wp_callV (M' := M_Jx4a65c_remove_915e3) (As := [vi a1]) (st := []) (ci := 9) dX5_takeOut_20 cee_Jx4a65c_remove_915e3 np_Jx4a65c_remove_915e3 rfl ⟨Nat.le_of_ble_eq_true rfl, Nat.le_of_ble_eq_true rfl, Nat.le_of_ble_eq_true rfl, Nat.le_of_ble_eq_true rfl⟩ wd_627 wd_514 wd_515 rfl (Or.inr ⟨hk5, rfl⟩) (q_small_of (Nat.le_of_ble_eq_true rfl)) hm9 (q_kTr0 (fun σ14 v16 hM15 => ?_)) q_kTr00
      refine wp_less (ac2 := 0) (as2 := 0) (Nat.le_of_ble_eq_true rfl) (Nat.le_of_ble_eq_true rfl) ?_
      have h := hk12 σ14 v16 hM15
      refine wp_pop dX5_takeOut_23 trivial ?_
      exact wp_ret_v dX5_takeOut_24 rfl h

set_option maxRecDepth 100000 in
set_option maxHeartbeats 4000000 in
theorem wm_X5_putIn {g : qG} {l : Launch} (hl : l.stackTraces = false) {a0 : Nat} {a1 : Int} {a2 : Nat} {σ : qS} {Post : qS → qRs → Prop}
    (h : qR a1 ∧ ((a1 < 0 → Post σ (.inl none)) ∧ (¬ (a1 < 0) → gK σ a0 = 6 ∧ gK σ (gP σ 206 a0) = 50 ∧ (∃ v6 : Int, qMet g l M_Jx4a65c_size_8abf5 [vr (gP σ 206 a0)] σ (qPi σ v6) ∧ (qR v6 ∧ ((v6 < a1 → Post σ (.inl none)) ∧ (¬ (v6 < a1) → (∃ Mid10 : qS → Prop, qMet g l M_Jx4a65c_add_7a177 [vr (gP σ 206 a0), vi a1, vr a2] σ (qTv0 Mid10) ∧ ∀ (σ14 : qS), Mid10 σ14 → Post σ14 (.inl none))))))))) : qMet g l M_X5_putIn [vr a0, vi a1, vr a2] σ Post := by
  refine qMet_of hl (by decide +kernel) (Nat.le_of_ble_eq_true rfl) (List.forall_mem_cons.mpr ⟨trivial, List.forall_mem_cons.mpr ⟨trivial, List.forall_mem_cons.mpr ⟨trivial, fun _ h => nomatch h⟩⟩⟩) ?_
  show qW g l M_X5_putIn 2 400 0 [some (vr a0), some (vi a1), some (vr a2)] [] σ Post
  refine wp_iload_n dX5_putIn_0 rfl ?_
  obtain ⟨hr1, h⟩ := h
  refine wp_if_lt (tgt := 24) dX5_putIn_1 (by decide) hr1 (fun c2 => ?_) (fun c2 => ?_)
  · replace h := h.1 c2
    exact wp_ret_v dX5_putIn_24 rfl h
  · replace h := h.2 c2
    refine wp_iload_n dX5_putIn_4 rfl ?_
    refine wp_aload_n dX5_putIn_5 rfl ?_
    obtain ⟨hk3, h⟩ := h
    refine wp_get (v := vr (gP σ 206 a0)) dX5_putIn_6 fl_RX5_16 hk3 rfl ?_
    obtain ⟨hk5, h⟩ := h
    obtain ⟨v6, hm4, h⟩ := h
    refine wp_callV (M' := M_Jx4a65c_size_8abf5) (As := []) (st := [vi a1]) (ci := 9) dX5_putIn_9 cee_Jx4a65c_size_8abf5 np_Jx4a65c_size_8abf5 rfl ⟨Nat.le_of_ble_eq_true rfl, Nat.le_of_ble_eq_true rfl, Nat.le_of_ble_eq_true rfl, Nat.le_of_ble_eq_true rfl⟩ wd_540 wd_113 wd_114 rfl (Or.inr ⟨hk5, rfl⟩) (q_small_of (Nat.le_of_ble_eq_true rfl)) hm4 (q_kPi ?_) q_kPi0
    refine wp_less (ac2 := 2) (as2 := 400) (Nat.le_of_ble_eq_true rfl) (Nat.le_of_ble_eq_true rfl) ?_
    obtain ⟨hr7, h⟩ := h
    refine wp_icmp_gt (tgt := 24) dX5_putIn_12 (by decide) hr1 hr7 (fun c8 => ?_) (fun c8 => ?_)
    · replace h := h.1 c8
      exact wp_ret_v dX5_putIn_24 rfl h
    · replace h := h.2 c8
      refine wp_aload_n dX5_putIn_15 rfl ?_
      refine wp_get (v := vr (gP σ 206 a0)) dX5_putIn_16 fl_RX5_16 hk3 rfl ?_
      refine wp_iload_n dX5_putIn_19 rfl ?_
      refine wp_aload_n dX5_putIn_20 rfl ?_
      obtain ⟨Mid10, hm9, hk12⟩ := h
      refine wp_callV (M' := M_Jx4a65c_add_7a177) (As := [vi a1, vr a2]) (st := []) (ci := 9) dX5_putIn_21 cee_Jx4a65c_add_7a177 np_Jx4a65c_add_7a177 rfl ⟨Nat.le_of_ble_eq_true rfl, Nat.le_of_ble_eq_true rfl, Nat.le_of_ble_eq_true rfl, Nat.le_of_ble_eq_true rfl⟩ wd_674 wd_439 wd_440 rfl (Or.inr ⟨hk5, rfl⟩) (q_small_of (Nat.le_of_ble_eq_true rfl)) hm9 (q_kTv0 (fun σ14 hM15 => ?_)) q_kTv00
      refine wp_less (ac2 := 0) (as2 := 0) (Nat.le_of_ble_eq_true rfl) (Nat.le_of_ble_eq_true rfl) ?_
      have h := hk12 σ14 hM15
      exact wp_ret_v dX5_putIn_24 rfl h

set_option maxRecDepth 100000 in
set_option maxHeartbeats 4000000 in
theorem wm_X5_dropLastFace {g : qG} {l : Launch} (hl : l.stackTraces = false) {a0 : Nat} {σ : qS} {Post : qS → qRs → Prop}
    (h : gK σ a0 = 6 ∧ gK σ (gP σ 205 a0) = 50 ∧ (∃ v4 : Int, qMet g l M_Jx4a65c_size_8abf5 [vr (gP σ 205 a0)] σ (qPi σ v4) ∧ (qR v4 ∧ ((v4 ≤ 0 → Post σ (.inl none)) ∧ (¬ (v4 ≤ 0) → (∃ v8 : Int, qMet g l M_Jx4a65c_size_8abf5 [vr (gP σ 205 a0)] σ (qPi σ v8) ∧ ((∃ Mid10 : qS → Nat → Prop, qMet g l M_Jx4a65c_remove_915e3 [vr (gP σ 205 a0), vi (v8 - 1)] σ (qTr0 Mid10) ∧ ∀ (σ14 : qS) (v16 : Nat), Mid10 σ14 v16 → Post σ14 (.inl none))))))))) : qMet g l M_X5_dropLastFace [vr a0] σ Post := by
  refine qMet_of hl (by decide +kernel) (Nat.le_of_ble_eq_true rfl) (List.forall_mem_cons.mpr ⟨trivial, fun _ h => nomatch h⟩) ?_
  show qW g l M_X5_dropLastFace 0 0 0 [some (vr a0)] [] σ Post
  refine wp_aload_n dX5_dropLastFace_0 rfl ?_
  obtain ⟨hk1, h⟩ := h
  refine wp_get (v := vr (gP σ 205 a0)) dX5_dropLastFace_1 fl_RX5_10 hk1 rfl ?_
  obtain ⟨hk3, h⟩ := h
  obtain ⟨v4, hm2, h⟩ := h
  refine wp_callV (M' := M_Jx4a65c_size_8abf5) (As := []) (st := []) (ci := 9) dX5_dropLastFace_4 cee_Jx4a65c_size_8abf5 np_Jx4a65c_size_8abf5 rfl ⟨Nat.le_of_ble_eq_true rfl, Nat.le_of_ble_eq_true rfl, Nat.le_of_ble_eq_true rfl, Nat.le_of_ble_eq_true rfl⟩ wd_540 wd_113 wd_114 rfl (Or.inr ⟨hk3, rfl⟩) (q_small_of (Nat.le_of_ble_eq_true rfl)) hm2 (q_kPi ?_) q_kPi0
  refine wp_less (ac2 := 0) (as2 := 0) (Nat.le_of_ble_eq_true rfl) (Nat.le_of_ble_eq_true rfl) ?_
  obtain ⟨hr5, h⟩ := h
  refine wp_if_le (tgt := 27) dX5_dropLastFace_7 (by decide) hr5 (fun c6 => ?_) (fun c6 => ?_)
  · replace h := h.1 c6
    exact wp_ret_v dX5_dropLastFace_27 rfl h
  · replace h := h.2 c6
    refine wp_aload_n dX5_dropLastFace_10 rfl ?_
    refine wp_get (v := vr (gP σ 205 a0)) dX5_dropLastFace_11 fl_RX5_10 hk1 rfl ?_
    refine wp_aload_n dX5_dropLastFace_14 rfl ?_
    refine wp_get (v := vr (gP σ 205 a0)) dX5_dropLastFace_15 fl_RX5_10 hk1 rfl ?_
    obtain ⟨v8, hm7, h⟩ := h
    refine wp_callV (M' := M_Jx4a65c_size_8abf5) (As := []) (st := [vr (gP σ 205 a0)]) (ci := 9) dX5_dropLastFace_18 cee_Jx4a65c_size_8abf5 np_Jx4a65c_size_8abf5 rfl ⟨Nat.le_of_ble_eq_true rfl, Nat.le_of_ble_eq_true rfl, Nat.le_of_ble_eq_true rfl, Nat.le_of_ble_eq_true rfl⟩ wd_540 wd_113 wd_114 rfl (Or.inr ⟨hk3, rfl⟩) (q_small_of (Nat.le_of_ble_eq_true rfl)) hm7 (q_kPi ?_) q_kPi0
    refine wp_less (ac2 := 0) (as2 := 0) (Nat.le_of_ble_eq_true rfl) (Nat.le_of_ble_eq_true rfl) ?_
    refine wp_iconst dX5_dropLastFace_21 ?_
    refine wp_isub dX5_dropLastFace_22 ?_
    obtain ⟨Mid10, hm9, hk12⟩ := h
    refine wp_callV (M' := M_Jx4a65c_remove_915e3) (As := [vi (v8 - 1)]) (st := []) (ci := 9) dX5_dropLastFace_23 cee_Jx4a65c_remove_915e3 np_Jx4a65c_remove_915e3 rfl ⟨Nat.le_of_ble_eq_true rfl, Nat.le_of_ble_eq_true rfl, Nat.le_of_ble_eq_true rfl, Nat.le_of_ble_eq_true rfl⟩ wd_627 wd_514 wd_515 rfl (Or.inr ⟨hk3, rfl⟩) (q_small_of (Nat.le_of_ble_eq_true rfl)) hm9 (q_kTr0 (fun σ14 v16 hM15 => ?_)) q_kTr00
    refine wp_less (ac2 := 0) (as2 := 0) (Nat.le_of_ble_eq_true rfl) (Nat.le_of_ble_eq_true rfl) ?_
    have h := hk12 σ14 v16 hM15
    refine wp_pop dX5_dropLastFace_26 trivial ?_
    exact wp_ret_v dX5_dropLastFace_27 rfl h

set_option maxRecDepth 100000 in
set_option maxHeartbeats 4000000 in
theorem wm_X5_hasFaceAt {g : qG} {l : Launch} (hl : l.stackTraces = false) {a0 : Nat} {a1 : Int} {a2 : Int} {σ : qS} {Post : qS → qRs → Prop}
    (h : ∃ Inv2 : Nat → Int → Prop, (∃ n : Nat, Inv2 n 0) ∧ ∀ (n3 : Nat) (x1 : Int), Inv2 n3 x1 → (gK σ a0 = 6 ∧ gK σ (gP σ 205 a0) = 50 ∧ (∃ v11 : Int, qMet g l M_Jx4a65c_size_8abf5 [vr (gP σ 205 a0)] σ (qPi σ v11) ∧ (qR x1 ∧ qR v11 ∧ ((v11 ≤ x1 → Post σ (.inl (some (vi 0)))) ∧ (¬ (v11 ≤ x1) → (∃ v16 : Nat, qMet g l M_Jx4a65c_get_915e3 [vr (gP σ 205 a0), vi x1] σ (qPr σ v16) ∧ ((v16 = 0 ∨ gK σ v16 = 3) ∧ gK σ v16 = 3 ∧ qR a1 ∧ qR (gI σ 80 v16) ∧ ((a1 < (gI σ 80 v16) → ∀ x22 : Int, x22 = x1 + 1 → ∃ n24 : Nat, n24 < n3 ∧ Inv2 n24 x22) ∧ (¬ (a1 < (gI σ 80 v16)) → qR ((gI σ 80 v16) + (gI σ 81 v16)) ∧ ((((gI σ 80 v16) + (gI σ 81 v16)) ≤ a1 → ∀ x27 : Int, x27 = x1 + 1 → ∃ n29 : Nat, n29 < n3 ∧ Inv2 n29 x27) ∧ (¬ (((gI σ 80 v16) + (gI σ 81 v16)) ≤ a1) → gK σ (gP σ 207 a0) = 2 ∧ qR a2 ∧ qR ((gI σ 43 (gP σ 207 a0)) - (gI σ 82 v16)) ∧ ((a2 < ((gI σ 43 (gP σ 207 a0)) - (gI σ 82 v16)) → ∀ x34 : Int, x34 = x1 + 1 → ∃ n36 : Nat, n36 < n3 ∧ Inv2 n36 x34) ∧ (¬ (a2 < ((gI σ 43 (gP σ 207 a0)) - (gI σ 82 v16))) → Post σ (.inl (some (vi 1))))))))))))))))) : qMet g l M_X5_hasFaceAt [vr a0, vi a1, vi a2] σ Post := by
  refine qMet_of hl (by decide +kernel) (Nat.le_of_ble_eq_true rfl) (List.forall_mem_cons.mpr ⟨trivial, List.forall_mem_cons.mpr ⟨trivial, List.forall_mem_cons.mpr ⟨trivial, fun _ h => nomatch h⟩⟩⟩) ?_
  show qW g l M_X5_hasFaceAt 0 0 0 [some (vr a0), some (vi a1), some (vi a2), none, none] [] σ Post
  refine wp_iconst dX5_hasFaceAt_0 ?_
  refine wp_istore_n' (ls' := [some (vr a0), some (vi a1), some (vi a2), some (vi 0), none]) dX5_hasFaceAt_1 (Nat.le_of_ble_eq_true rfl) rfl ?_
  obtain ⟨Inv2, ⟨n3_0, h07⟩, hb6⟩ := h
  have loop37 : ∀ (n3 : Nat) (x1 : Int), Inv2 n3 x1 → qW g l M_X5_hasFaceAt 0 0 2 [some (vr a0), some (vi a1), some (vi a2), some (vi x1), none] [] σ Post := by
    intro n3
    induction n3 using Nat.strongRecOn with
    | ind n3 ih4 =>
      intro x1 hI5
      have h := hb6 n3 x1 hI5
      refine wp_iload_n dX5_hasFaceAt_2 rfl ?_
      refine wp_aload_n dX5_hasFaceAt_3 rfl ?_
      obtain ⟨hk8, h⟩ := h
      refine wp_get (v := vr (gP σ 205 a0)) dX5_hasFaceAt_4 fl_RX5_10 hk8 rfl ?_
      obtain ⟨hk10, h⟩ := h
      obtain ⟨v11, hm9, h⟩ := h
      refine wp_callV (M' := M_Jx4a65c_size_8abf5) (As := []) (st := [vi x1]) (ci := 9) dX5_hasFaceAt_7 cee_Jx4a65c_size_8abf5 np_Jx4a65c_size_8abf5 rfl ⟨Nat.le_of_ble_eq_true rfl, Nat.le_of_ble_eq_true rfl, Nat.le_of_ble_eq_true rfl, Nat.le_of_ble_eq_true rfl⟩ wd_540 wd_113 wd_114 rfl (Or.inr ⟨hk10, rfl⟩) (q_small_of (Nat.le_of_ble_eq_true rfl)) hm9 (q_kPi ?_) q_kPi0
      refine wp_less (ac2 := 0) (as2 := 0) (Nat.le_of_ble_eq_true rfl) (Nat.le_of_ble_eq_true rfl) ?_
      obtain ⟨hr12, hr13, h⟩ := h
      refine wp_icmp_ge (tgt := 75) dX5_hasFaceAt_10 (by decide) hr12 hr13 (fun c14 => ?_) (fun c14 => ?_)
      · replace h := h.1 c14
        refine wp_iconst dX5_hasFaceAt_75 ?_
        exact wp_ret_z dX5_hasFaceAt_76 rfl (Or.inl rfl) h
      · replace h := h.2 c14
        refine wp_aload_n dX5_hasFaceAt_13 rfl ?_
        refine wp_get (v := vr (gP σ 205 a0)) dX5_hasFaceAt_14 fl_RX5_10 hk8 rfl ?_
        refine wp_iload_n dX5_hasFaceAt_17 rfl ?_
        obtain ⟨v16, hm15, h⟩ := h
        refine wp_callV (M' := M_Jx4a65c_get_915e3) (As := [vi x1]) (st := []) (ci := 9) dX5_hasFaceAt_18 cee_Jx4a65c_get_915e3 np_Jx4a65c_get_915e3 rfl ⟨Nat.le_of_ble_eq_true rfl, Nat.le_of_ble_eq_true rfl, Nat.le_of_ble_eq_true rfl, Nat.le_of_ble_eq_true rfl⟩ wd_541 wd_302 wd_303 rfl (Or.inr ⟨hk10, rfl⟩) (q_small_of (Nat.le_of_ble_eq_true rfl)) hm15 (q_kPr ?_) q_kPr0
        refine wp_less (ac2 := 0) (as2 := 0) (Nat.le_of_ble_eq_true rfl) (Nat.le_of_ble_eq_true rfl) ?_
        obtain ⟨hc17, h⟩ := h
        refine wp_cast (ci := 2) dX5_hasFaceAt_21 ⟨_, rfl, wd_820⟩ hc17 ?_
        refine wp_astore' (ls' := [some (vr a0), some (vi a1), some (vi a2), some (vi x1), some (vr v16)]) dX5_hasFaceAt_24 (Nat.le_of_ble_eq_true rfl) rfl ?_
        refine wp_iload_n dX5_hasFaceAt_26 rfl ?_
        refine wp_aload dX5_hasFaceAt_27 rfl ?_
        obtain ⟨hk18, h⟩ := h
        refine wp_get (v := vi (gI σ 80 v16)) dX5_hasFaceAt_29 fl_RX5_63 hk18 rfl ?_
        obtain ⟨hr19, hr20, h⟩ := h
        refine wp_icmp_lt (tgt := 69) dX5_hasFaceAt_32 (by decide) hr19 hr20 (fun c21 => ?_) (fun c21 => ?_)
        · replace h := h.1 c21
          refine wp_nmT (x1 + 1) (fun x22 hx23 => ?_)
          replace h := h x22 hx23
          refine wp_iinc' (z' := x22) (ls' := [some (vr a0), some (vi a1), some (vi a2), some (vi x22), some (vr v16)]) dX5_hasFaceAt_69 (Nat.le_of_ble_eq_true rfl) rfl hx23 rfl ?_
          refine wp_goto (tgt := 2) dX5_hasFaceAt_72 (by decide) ?_
          obtain ⟨n24, hlt, h⟩ := h
          exact wp_lsub (ls' := [some (vr a0), some (vi a1), some (vi a2), some (vi x22), none]) ⟨rfl, ⟨rfl, ⟨rfl, ⟨rfl, trivial⟩⟩⟩⟩ (ih4 n24 hlt _ h)
        · replace h := h.2 c21
          refine wp_iload_n dX5_hasFaceAt_35 rfl ?_
          refine wp_aload dX5_hasFaceAt_36 rfl ?_
          refine wp_get (v := vi (gI σ 80 v16)) dX5_hasFaceAt_38 fl_RX5_63 hk18 rfl ?_
          refine wp_aload dX5_hasFaceAt_41 rfl ?_
          refine wp_get (v := vi (gI σ 81 v16)) dX5_hasFaceAt_43 fl_RX5_66 hk18 rfl ?_
          refine wp_iadd dX5_hasFaceAt_46 ?_
          obtain ⟨hr25, h⟩ := h
          refine wp_icmp_ge (tgt := 69) dX5_hasFaceAt_47 (by decide) hr19 hr25 (fun c26 => ?_) (fun c26 => ?_)
          · replace h := h.1 c26
            refine wp_nmT (x1 + 1) (fun x27 hx28 => ?_)
            replace h := h x27 hx28
            refine wp_iinc' (z' := x27) (ls' := [some (vr a0), some (vi a1), some (vi a2), some (vi x27), some (vr v16)]) dX5_hasFaceAt_69 (Nat.le_of_ble_eq_true rfl) rfl hx28 rfl ?_
            refine wp_goto (tgt := 2) dX5_hasFaceAt_72 (by decide) ?_
            obtain ⟨n29, hlt, h⟩ := h
            exact wp_lsub (ls' := [some (vr a0), some (vi a1), some (vi a2), some (vi x27), none]) ⟨rfl, ⟨rfl, ⟨rfl, ⟨rfl, trivial⟩⟩⟩⟩ (ih4 n29 hlt _ h)
          · replace h := h.2 c26
            refine wp_iload_n dX5_hasFaceAt_50 rfl ?_
            refine wp_aload_n dX5_hasFaceAt_51 rfl ?_
            refine wp_get (v := vr (gP σ 207 a0)) dX5_hasFaceAt_52 fl_RX5_22 hk8 rfl ?_
            obtain ⟨hk30, h⟩ := h
            refine wp_get (v := vi (gI σ 43 (gP σ 207 a0))) dX5_hasFaceAt_55 fl_RX5_69 hk30 rfl ?_
            refine wp_aload dX5_hasFaceAt_58 rfl ?_
            refine wp_get (v := vi (gI σ 82 v16)) dX5_hasFaceAt_60 fl_RX5_72 hk18 rfl ?_
            refine wp_isub dX5_hasFaceAt_63 ?_
            obtain ⟨hr31, hr32, h⟩ := h
            refine wp_icmp_lt (tgt := 69) dX5_hasFaceAt_64 (by decide) hr31 hr32 (fun c33 => ?_) (fun c33 => ?_)
            · replace h := h.1 c33
              refine wp_nmT (x1 + 1) (fun x34 hx35 => ?_)
              replace h := h x34 hx35
              refine wp_iinc' (z' := x34) (ls' := [some (vr a0), some (vi a1), some (vi a2), some (vi x34), some (vr v16)]) dX5_hasFaceAt_69 (Nat.le_of_ble_eq_true rfl) rfl hx35 rfl ?_
              refine wp_goto (tgt := 2) dX5_hasFaceAt_72 (by decide) ?_
              obtain ⟨n36, hlt, h⟩ := h
              exact wp_lsub (ls' := [some (vr a0), some (vi a1), some (vi a2), some (vi x34), none]) ⟨rfl, ⟨rfl, ⟨rfl, ⟨rfl, trivial⟩⟩⟩⟩ (ih4 n36 hlt _ h)
            · replace h := h.2 c33
              refine wp_iconst dX5_hasFaceAt_67 ?_
              exact wp_ret_z dX5_hasFaceAt_68 rfl (Or.inr rfl) h
  exact wp_lsub (ls' := [some (vr a0), some (vi a1), some (vi a2), some (vi 0), none]) ⟨rfl, ⟨rfl, ⟨rfl, ⟨rfl, trivial⟩⟩⟩⟩ (loop37 _ _ h07)

set_option maxRecDepth 100000 in
set_option maxHeartbeats 4000000 in
theorem wm_X5_keepTrial {g : qG} {l : Launch} (hl : l.stackTraces = false) {a0 : Nat} {σ : qS} {Post : qS → qRs → Prop}
    (h : gK σ a0 = 6 ∧ gK σ (gP σ 207 a0) = 2 ∧ (∃ Mid4 : qS → Prop, qMet g l M_X1_set [vr (gP σ 207 a0), vr (gP σ 208 a0)] σ (qTv0 Mid4) ∧ ∀ (σ8 : qS), Mid4 σ8 → gK σ8 a0 = 6 ∧ (∀ σ11 : qS, σ11 = sI σ8 209 a0 (gI σ8 210 a0) → ∃ Inv14 : Nat → Int → qS → Prop, (∃ n : Nat, Inv14 n 0 σ11) ∧ ∀ (n15 : Nat) (x13 : Int) (σ20 : qS), Inv14 n15 x13 σ20 → (gK σ20 a0 = 6 ∧ gK σ20 (gP σ20 206 a0) = 50 ∧ (∃ v24 : Int, qMet g l M_Jx4a65c_size_8abf5 [vr (gP σ20 206 a0)] σ20 (qPi σ20 v24) ∧ (qR x13 ∧ qR v24 ∧ ((v24 ≤ x13 → Post σ20 (.inl none)) ∧ (¬ (v24 ≤ x13) → (∃ v29 : Nat, qMet g l M_Jx4a65c_get_915e3 [vr (gP σ20 206 a0), vi x13] σ20 (qPr σ20 v29) ∧ ((v29 = 0 ∨ gK σ20 v29 = 1) ∧ gK σ20 v29 = 1 ∧ (∃ v33 : Nat, qMet g l M_Jx4a65c_get_915e3 [vr (gP σ20 206 a0), vi x13] σ20 (qPr σ20 v33) ∧ ((v33 = 0 ∨ gK σ20 v33 = 1) ∧ gK σ20 v33 = 1 ∧ gK σ20 (gP σ20 2 v29) = 2 ∧ (∃ Mid38 : qS → Prop, qMet g l M_X1_set [vr (gP σ20 2 v29), vr (gP σ20 3 v33)] σ20 (qTv0 Mid38) ∧ ∀ (σ42 : qS), Mid38 σ42 → ∀ x44 : Int, x44 = x13 + 1 → ∃ n46 : Nat, n46 < n15 ∧ Inv14 n46 x44 σ42))))))))))))) : qMet g l M_X5_keepTrial [vr a0] σ Post := by
  refine qMet_of hl (by decide +kernel) (Nat.le_of_ble_eq_true rfl) (List.forall_mem_cons.mpr ⟨trivial, fun _ h => nomatch h⟩) ?_
  show qW g l M_X5_keepTrial 0 0 0 [some (vr a0), none] [] σ Post
  refine wp_aload_n dX5_keepTrial_0 rfl ?_
  obtain ⟨hk1, h⟩ := h
  refine wp_get (v := vr (gP σ 207 a0)) dX5_keepTrial_1 fl_RX5_22 hk1 rfl ?_
  refine wp_aload_n dX5_keepTrial_4 rfl ?_
  refine wp_get (v := vr (gP σ 208 a0)) dX5_keepTrial_5 fl_RX5_26 hk1 rfl ?_
  obtain ⟨hk3, h⟩ := h
  obtain ⟨Mid4, hm2, hk6⟩ := h
  refine wp_callV (M' := M_X1_set) (As := [vr (gP σ 208 a0)]) (st := []) (ci := 1) dX5_keepTrial_8 cee_X1_set np_X1_set rfl ⟨Nat.le_of_ble_eq_true rfl, Nat.le_of_ble_eq_true rfl, Nat.le_of_ble_eq_true rfl, Nat.le_of_ble_eq_true rfl⟩ wd_536 wd_537 wd_538 rfl (Or.inl hk3) (q_small_of (Nat.le_of_ble_eq_true rfl)) hm2 (q_kTv0 (fun σ8 hM9 => ?_)) q_kTv00
  refine wp_less (ac2 := 0) (as2 := 0) (Nat.le_of_ble_eq_true rfl) (Nat.le_of_ble_eq_true rfl) ?_
  have h := hk6 σ8 hM9
  refine wp_aload_n dX5_keepTrial_11 rfl ?_
  refine wp_aload_n dX5_keepTrial_12 rfl ?_
  obtain ⟨hk10, h⟩ := h
  refine wp_get (v := vi (gI σ8 210 a0)) dX5_keepTrial_13 fl_RX5_77 hk10 rfl ?_
  refine wp_put (v := vi (gI σ8 210 a0)) dX5_keepTrial_16 fs_RX5_80 (fun h => absurd h (by decide)) hk10 (Or.inl rfl) ?_
  refine wp_nmS (fun σ11 hs12 => ?_)
  replace h := h σ11 hs12
  refine wp_iconst dX5_keepTrial_19 ?_
  refine wp_istore_n' (ls' := [some (vr a0), some (vi 0)]) dX5_keepTrial_20 (Nat.le_of_ble_eq_true rfl) rfl ?_
  obtain ⟨Inv14, ⟨n15_0, h019⟩, hb18⟩ := h
  have loop47 : ∀ (n15 : Nat) (x13 : Int) (σ20 : qS), Inv14 n15 x13 σ20 → qW g l M_X5_keepTrial 0 0 21 [some (vr a0), some (vi x13)] [] σ20 Post := by
    intro n15
    induction n15 using Nat.strongRecOn with
    | ind n15 ih16 =>
      intro x13 σ20 hI17
      have h := hb18 n15 x13 σ20 hI17
      refine wp_iload_n dX5_keepTrial_21 rfl ?_
      refine wp_aload_n dX5_keepTrial_22 rfl ?_
      obtain ⟨hk21, h⟩ := h
      refine wp_get (v := vr (gP σ20 206 a0)) dX5_keepTrial_23 fl_RX5_16 hk21 rfl ?_
      obtain ⟨hk23, h⟩ := h
      obtain ⟨v24, hm22, h⟩ := h
      refine wp_callV (M' := M_Jx4a65c_size_8abf5) (As := []) (st := [vi x13]) (ci := 9) dX5_keepTrial_26 cee_Jx4a65c_size_8abf5 np_Jx4a65c_size_8abf5 rfl ⟨Nat.le_of_ble_eq_true rfl, Nat.le_of_ble_eq_true rfl, Nat.le_of_ble_eq_true rfl, Nat.le_of_ble_eq_true rfl⟩ wd_540 wd_113 wd_114 rfl (Or.inr ⟨hk23, rfl⟩) (q_small_of (Nat.le_of_ble_eq_true rfl)) hm22 (q_kPi ?_) q_kPi0
      refine wp_less (ac2 := 0) (as2 := 0) (Nat.le_of_ble_eq_true rfl) (Nat.le_of_ble_eq_true rfl) ?_
      obtain ⟨hr25, hr26, h⟩ := h
      refine wp_icmp_ge (tgt := 69) dX5_keepTrial_29 (by decide) hr25 hr26 (fun c27 => ?_) (fun c27 => ?_)
      · replace h := h.1 c27
        exact wp_ret_v dX5_keepTrial_69 rfl h
      · replace h := h.2 c27
        refine wp_aload_n dX5_keepTrial_32 rfl ?_
        refine wp_get (v := vr (gP σ20 206 a0)) dX5_keepTrial_33 fl_RX5_16 hk21 rfl ?_
        refine wp_iload_n dX5_keepTrial_36 rfl ?_
        obtain ⟨v29, hm28, h⟩ := h
        refine wp_callV (M' := M_Jx4a65c_get_915e3) (As := [vi x13]) (st := []) (ci := 9) dX5_keepTrial_37 cee_Jx4a65c_get_915e3 np_Jx4a65c_get_915e3 rfl ⟨Nat.le_of_ble_eq_true rfl, Nat.le_of_ble_eq_true rfl, Nat.le_of_ble_eq_true rfl, Nat.le_of_ble_eq_true rfl⟩ wd_541 wd_302 wd_303 rfl (Or.inr ⟨hk23, rfl⟩) (q_small_of (Nat.le_of_ble_eq_true rfl)) hm28 (q_kPr ?_) q_kPr0
        refine wp_less (ac2 := 0) (as2 := 0) (Nat.le_of_ble_eq_true rfl) (Nat.le_of_ble_eq_true rfl) ?_
        obtain ⟨hc30, h⟩ := h
        refine wp_cast (ci := 0) dX5_keepTrial_40 ⟨_, rfl, wd_542⟩ hc30 ?_
        obtain ⟨hk31, h⟩ := h
        refine wp_get (v := vr (gP σ20 2 v29)) dX5_keepTrial_43 fl_RX5_85 hk31 rfl ?_
        refine wp_aload_n dX5_keepTrial_46 rfl ?_
        refine wp_get (v := vr (gP σ20 206 a0)) dX5_keepTrial_47 fl_RX5_16 hk21 rfl ?_
        refine wp_iload_n dX5_keepTrial_50 rfl ?_
        obtain ⟨v33, hm32, h⟩ := h
        refine wp_callV (M' := M_Jx4a65c_get_915e3) (As := [vi x13]) (st := [vr (gP σ20 2 v29)]) (ci := 9) dX5_keepTrial_51 cee_Jx4a65c_get_915e3 np_Jx4a65c_get_915e3 rfl ⟨Nat.le_of_ble_eq_true rfl, Nat.le_of_ble_eq_true rfl, Nat.le_of_ble_eq_true rfl, Nat.le_of_ble_eq_true rfl⟩ wd_541 wd_302 wd_303 rfl (Or.inr ⟨hk23, rfl⟩) (q_small_of (Nat.le_of_ble_eq_true rfl)) hm32 (q_kPr ?_) q_kPr0
        refine wp_less (ac2 := 0) (as2 := 0) (Nat.le_of_ble_eq_true rfl) (Nat.le_of_ble_eq_true rfl) ?_
        obtain ⟨hc34, h⟩ := h
        refine wp_cast (ci := 0) dX5_keepTrial_54 ⟨_, rfl, wd_542⟩ hc34 ?_
        obtain ⟨hk35, h⟩ := h
        refine wp_get (v := vr (gP σ20 3 v33)) dX5_keepTrial_57 fl_RX5_86 hk35 rfl ?_
        obtain ⟨hk37, h⟩ := h
        obtain ⟨Mid38, hm36, hk40⟩ := h
        refine wp_callV (M' := M_X1_set) (As := [vr (gP σ20 3 v33)]) (st := []) (ci := 1) dX5_keepTrial_60 cee_X1_set np_X1_set rfl ⟨Nat.le_of_ble_eq_true rfl, Nat.le_of_ble_eq_true rfl, Nat.le_of_ble_eq_true rfl, Nat.le_of_ble_eq_true rfl⟩ wd_536 wd_537 wd_538 rfl (Or.inl hk37) (q_small_of (Nat.le_of_ble_eq_true rfl)) hm36 (q_kTv0 (fun σ42 hM43 => ?_)) q_kTv00
        refine wp_less (ac2 := 0) (as2 := 0) (Nat.le_of_ble_eq_true rfl) (Nat.le_of_ble_eq_true rfl) ?_
        have h := hk40 σ42 hM43
        refine wp_nmT (x13 + 1) (fun x44 hx45 => ?_)
        replace h := h x44 hx45
        refine wp_iinc' (z' := x44) (ls' := [some (vr a0), some (vi x44)]) dX5_keepTrial_63 (Nat.le_of_ble_eq_true rfl) rfl hx45 rfl ?_
        refine wp_goto (tgt := 21) dX5_keepTrial_66 (by decide) ?_
        obtain ⟨n46, hlt, h⟩ := h
        exact wp_lsub (ls' := [some (vr a0), some (vi x44)]) ⟨rfl, ⟨rfl, trivial⟩⟩ (ih16 n46 hlt _ _ h)
  exact wp_lsub (ls' := [some (vr a0), some (vi 0)]) ⟨rfl, ⟨rfl, trivial⟩⟩ (loop47 _ _ _ h019)

set_option maxRecDepth 100000 in
set_option maxHeartbeats 4000000 in
theorem wm_X5_leave {g : qG} {l : Launch} (hl : l.stackTraces = false) {a0 : Nat} {σ : qS} {Post : qS → qRs → Prop}
    (h : gK σ a0 = 6 ∧ (∀ σ2 : qS, σ2 = sI σ 211 a0 1 → ∃ Inv5 : Nat → Int → qS → Prop, (∃ n : Nat, Inv5 n 0 σ2) ∧ ∀ (n6 : Nat) (x4 : Int) (σ11 : qS), Inv5 n6 x4 σ11 → (gK σ11 a0 = 6 ∧ gK σ11 (gP σ11 206 a0) = 50 ∧ (∃ v15 : Int, qMet g l M_Jx4a65c_size_8abf5 [vr (gP σ11 206 a0)] σ11 (qPi σ11 v15) ∧ (qR x4 ∧ qR v15 ∧ ((v15 ≤ x4 → Post σ11 (.inl none)) ∧ (¬ (v15 ≤ x4) → (∃ v20 : Nat, qMet g l M_Jx4a65c_get_915e3 [vr (gP σ11 206 a0), vi x4] σ11 (qPr σ11 v20) ∧ ((v20 = 0 ∨ gK σ11 v20 = 1) ∧ gK σ11 v20 = 1 ∧ (∀ σ23 : qS, σ23 = sI σ11 6 v20 1 → ∀ x25 : Int, x25 = x4 + 1 → ∃ n27 : Nat, n27 < n6 ∧ Inv5 n27 x25 σ23)))))))))) : qMet g l M_X5_leave [vr a0] σ Post := by
  refine qMet_of hl (by decide +kernel) (Nat.le_of_ble_eq_true rfl) (List.forall_mem_cons.mpr ⟨trivial, fun _ h => nomatch h⟩) ?_
  show qW g l M_X5_leave 0 0 0 [some (vr a0), none] [] σ Post
  refine wp_aload_n dX5_leave_0 rfl ?_
  refine wp_iconst dX5_leave_1 ?_
  obtain ⟨hk1, h⟩ := h
  refine wp_put (v := vi 1) dX5_leave_2 fs_RX5_87 (fun h => absurd h (by decide)) hk1 (Or.inr ⟨rfl, (Or.inr rfl)⟩) ?_
  refine wp_nmS (fun σ2 hs3 => ?_)
  replace h := h σ2 hs3
  refine wp_iconst dX5_leave_5 ?_
  refine wp_istore_n' (ls' := [some (vr a0), some (vi 0)]) dX5_leave_6 (Nat.le_of_ble_eq_true rfl) rfl ?_
  obtain ⟨Inv5, ⟨n6_0, h010⟩, hb9⟩ := h
  have loop28 : ∀ (n6 : Nat) (x4 : Int) (σ11 : qS), Inv5 n6 x4 σ11 → qW g l M_X5_leave 0 0 7 [some (vr a0), some (vi x4)] [] σ11 Post := by
    intro n6
    induction n6 using Nat.strongRecOn with
    | ind n6 ih7 =>
      intro x4 σ11 hI8
      have h := hb9 n6 x4 σ11 hI8
      refine wp_iload_n dX5_leave_7 rfl ?_
      refine wp_aload_n dX5_leave_8 rfl ?_
      obtain ⟨hk12, h⟩ := h
      refine wp_get (v := vr (gP σ11 206 a0)) dX5_leave_9 fl_RX5_16 hk12 rfl ?_
      obtain ⟨hk14, h⟩ := h
      obtain ⟨v15, hm13, h⟩ := h
      refine wp_callV (M' := M_Jx4a65c_size_8abf5) (As := []) (st := [vi x4]) (ci := 9) dX5_leave_12 cee_Jx4a65c_size_8abf5 np_Jx4a65c_size_8abf5 rfl ⟨Nat.le_of_ble_eq_true rfl, Nat.le_of_ble_eq_true rfl, Nat.le_of_ble_eq_true rfl, Nat.le_of_ble_eq_true rfl⟩ wd_540 wd_113 wd_114 rfl (Or.inr ⟨hk14, rfl⟩) (q_small_of (Nat.le_of_ble_eq_true rfl)) hm13 (q_kPi ?_) q_kPi0
      refine wp_less (ac2 := 0) (as2 := 0) (Nat.le_of_ble_eq_true rfl) (Nat.le_of_ble_eq_true rfl) ?_
      obtain ⟨hr16, hr17, h⟩ := h
      refine wp_icmp_ge (tgt := 39) dX5_leave_15 (by decide) hr16 hr17 (fun c18 => ?_) (fun c18 => ?_)
      · replace h := h.1 c18
        exact wp_ret_v dX5_leave_39 rfl h
      · replace h := h.2 c18
        refine wp_aload_n dX5_leave_18 rfl ?_
        refine wp_get (v := vr (gP σ11 206 a0)) dX5_leave_19 fl_RX5_16 hk12 rfl ?_
        refine wp_iload_n dX5_leave_22 rfl ?_
        obtain ⟨v20, hm19, h⟩ := h
        refine wp_callV (M' := M_Jx4a65c_get_915e3) (As := [vi x4]) (st := []) (ci := 9) dX5_leave_23 cee_Jx4a65c_get_915e3 np_Jx4a65c_get_915e3 rfl ⟨Nat.le_of_ble_eq_true rfl, Nat.le_of_ble_eq_true rfl, Nat.le_of_ble_eq_true rfl, Nat.le_of_ble_eq_true rfl⟩ wd_541 wd_302 wd_303 rfl (Or.inr ⟨hk14, rfl⟩) (q_small_of (Nat.le_of_ble_eq_true rfl)) hm19 (q_kPr ?_) q_kPr0
        refine wp_less (ac2 := 0) (as2 := 0) (Nat.le_of_ble_eq_true rfl) (Nat.le_of_ble_eq_true rfl) ?_
        obtain ⟨hc21, h⟩ := h
        refine wp_cast (ci := 0) dX5_leave_26 ⟨_, rfl, wd_542⟩ hc21 ?_
        refine wp_iconst dX5_leave_29 ?_
        obtain ⟨hk22, h⟩ := h
        refine wp_put (v := vi 1) dX5_leave_30 fs_RX5_91 (fun h => absurd h (by decide)) hk22 (Or.inr ⟨rfl, (Or.inr rfl)⟩) ?_
        refine wp_nmS (fun σ23 hs24 => ?_)
        replace h := h σ23 hs24
        refine wp_nmT (x4 + 1) (fun x25 hx26 => ?_)
        replace h := h x25 hx26
        refine wp_iinc' (z' := x25) (ls' := [some (vr a0), some (vi x25)]) dX5_leave_33 (Nat.le_of_ble_eq_true rfl) rfl hx26 rfl ?_
        refine wp_goto (tgt := 7) dX5_leave_36 (by decide) ?_
        obtain ⟨n27, hlt, h⟩ := h
        exact wp_lsub (ls' := [some (vr a0), some (vi x25)]) ⟨rfl, ⟨rfl, trivial⟩⟩ (ih7 n27 hlt _ _ h)
  exact wp_lsub (ls' := [some (vr a0), some (vi 0)]) ⟨rfl, ⟨rfl, trivial⟩⟩ (loop28 _ _ _ h010)

set_option maxRecDepth 100000 in
set_option maxHeartbeats 4000000 in
theorem wm_X6_init {g : qG} {l : Launch} (hl : l.stackTraces = false) {a0 : Nat} {σ : qS} {Post : qS → qRs → Prop}
    (h : a0 ≠ 0 ∧ (∀ r2 : Nat, gK σ r2 = 0 → r2 ≠ 0 → ∀ σ5 : qS, σ5 = nA σ r2 23 512 → gK σ5 a0 = 7 ∧ (∀ σ9 : qS, σ9 = sP σ5 240 a0 r2 → Post σ9 (.inl none)))) : qMet g l M_X6_init [vr a0] σ Post := by
  refine qMet_of hl (by decide +kernel) (Nat.le_of_ble_eq_true rfl) (List.forall_mem_cons.mpr ⟨trivial, fun _ h => nomatch h⟩) ?_
  show qW g l M_X6_init 1 512 0 [some (vr a0)] [] σ Post
  refine wp_aload_n dX6_init_0 rfl ?_
  obtain ⟨hz1, h⟩ := h
  refine wp_objInit dX6_init_1 wd_78 hz1 (q_small_of (Nat.le_of_ble_eq_true rfl)) ⟨Nat.le_of_ble_eq_true rfl, Nat.le_of_ble_eq_true rfl⟩ ?_
  refine wp_aload_n dX6_init_4 rfl ?_
  refine wp_sipush dX6_init_5 (by decide) ?_
  refine wp_anewarray (j := 3) dX6_init_8 (Or.inl ⟨rfl, rfl⟩) wd_79 (by decide) (Nat.le_of_ble_eq_true rfl) (Nat.le_of_ble_eq_true rfl) (fun r2 hz3 hq4 => ?_)
  refine wp_less (ac2 := 0) (as2 := 0) (Nat.le_of_ble_eq_true rfl) (Nat.le_of_ble_eq_true rfl) ?_
  replace h := h r2 hz3 hq4
  refine wp_nmS (fun σ5 hs6 => ?_)
  replace h := h σ5 hs6
  have hk7 : gK σ5 r2 = 23 := by rw [hs6]; exact if_pos rfl
  obtain ⟨hk8, h⟩ := h
  refine wp_put (v := vr r2) dX6_init_11 fs_RX6_11 (fun _ => rfl) hk8 rfl ?_
  refine wp_nmS (fun σ9 hs10 => ?_)
  replace h := h σ9 hs10
  exact wp_ret_v dX6_init_14 rfl h

set_option maxRecDepth 100000 in
set_option maxHeartbeats 4000000 in
theorem wm_X6_beginAt {g : qG} {l : Launch} (hl : l.stackTraces = false) {a0 : Nat} {a1 : Nat} {σ : qS} {Post : qS → qRs → Prop}
    (h : gK σ a0 = 7 ∧ (∀ σ2 : qS, σ2 = sP σ 242 a0 a1 → (∀ σ4 : qS, σ4 = sI σ2 241 a0 0 → Post σ4 (.inl none)))) : qMet g l M_X6_beginAt [vr a0, vr a1] σ Post := by
  refine qMet_of hl (by decide +kernel) (Nat.le_of_ble_eq_true rfl) (List.forall_mem_cons.mpr ⟨trivial, List.forall_mem_cons.mpr ⟨trivial, fun _ h => nomatch h⟩⟩) ?_
  show qW g l M_X6_beginAt 0 0 0 [some (vr a0), some (vr a1)] [] σ Post
  refine wp_aload_n dX6_beginAt_0 rfl ?_
  refine wp_aload_n dX6_beginAt_1 rfl ?_
  obtain ⟨hk1, h⟩ := h
  refine wp_put (v := vr a1) dX6_beginAt_2 fs_RX6_17 (fun h => absurd h (by decide)) hk1 rfl ?_
  refine wp_nmS (fun σ2 hs3 => ?_)
  replace h := h σ2 hs3
  refine wp_aload_n dX6_beginAt_5 rfl ?_
  refine wp_iconst dX6_beginAt_6 ?_
  refine wp_put (v := vi 0) dX6_beginAt_7 fs_RX6_21 (fun h => absurd h (by decide)) (by rw [hs3]; exact hk1) (Or.inl rfl) ?_
  refine wp_nmS (fun σ4 hs5 => ?_)
  replace h := h σ4 hs5
  exact wp_ret_v dX6_beginAt_10 rfl h

set_option maxRecDepth 100000 in
set_option maxHeartbeats 4000000 in
theorem wm_X6_goTo {g : qG} {l : Launch} (hl : l.stackTraces = false) {a0 : Nat} {a1 : Nat} {σ : qS} {Post : qS → qRs → Prop}
    (h : gK σ a0 = 7 ∧ (((gP σ 242 a0) = 0 → (∀ σ3 : qS, σ3 = sP σ 242 a0 a1 → Post σ3 (.inl none))) ∧ (¬ ((gP σ 242 a0) = 0) → qR (gI σ 241 a0) ∧ (((gI σ 241 a0) < 0 → (∀ σ7 : qS, σ7 = sP σ 242 a0 a1 → Post σ7 (.inl none))) ∧ (¬ ((gI σ 241 a0) < 0) → q_isA σ 3 (gP σ 240 a0) ∧ qR (gN σ (gP σ 240 a0)) ∧ (((gN σ (gP σ 240 a0)) ≤ (gI σ 241 a0) → (∀ σ12 : qS, σ12 = sP σ 242 a0 a1 → Post σ12 (.inl none))) ∧ (¬ ((gN σ (gP σ 240 a0)) ≤ (gI σ 241 a0)) → gK σ (gP σ 240 a0) = 23 ∧ q_in σ (gP σ 240 a0) (gI σ 241 a0) ∧ q_elok σ 3 (gP σ 242 a0) ∧ (∀ σ17 : qS, σ17 = sR σ (gP σ 240 a0) (gI σ 241 a0) (gP σ 242 a0) → (∀ σ19 : qS, σ19 = sI σ17 241 a0 ((gI σ17 241 a0) + 1) → (∀ σ21 : qS, σ21 = sP σ19 242 a0 a1 → Post σ21 (.inl none))))))))))) : qMet g l M_X6_goTo [vr a0, vr a1] σ Post := by
  refine qMet_of hl (by decide +kernel) (Nat.le_of_ble_eq_true rfl) (List.forall_mem_cons.mpr ⟨trivial, List.forall_mem_cons.mpr ⟨trivial, fun _ h => nomatch h⟩⟩) ?_
  show qW g l M_X6_goTo 0 0 0 [some (vr a0), some (vr a1)] [] σ Post
  refine wp_aload_n dX6_goTo_0 rfl ?_
  obtain ⟨hk1, h⟩ := h
  refine wp_get (v := vr (gP σ 242 a0)) dX6_goTo_1 fl_RX6_17 hk1 rfl ?_
  refine wp_ifnull (tgt := 49) dX6_goTo_4 (by decide) (fun c2 => ?_) (fun c2 => ?_)
  · replace h := h.1 c2
    refine wp_aload_n dX6_goTo_49 rfl ?_
    refine wp_aload_n dX6_goTo_50 rfl ?_
    refine wp_put (v := vr a1) dX6_goTo_51 fs_RX6_17 (fun h => absurd h (by decide)) hk1 rfl ?_
    refine wp_nmS (fun σ3 hs4 => ?_)
    replace h := h σ3 hs4
    exact wp_ret_v dX6_goTo_54 rfl h
  · replace h := h.2 c2
    refine wp_aload_n dX6_goTo_7 rfl ?_
    refine wp_get (v := vi (gI σ 241 a0)) dX6_goTo_8 fl_RX6_21 hk1 rfl ?_
    obtain ⟨hr5, h⟩ := h
    refine wp_if_lt (tgt := 49) dX6_goTo_11 (by decide) hr5 (fun c6 => ?_) (fun c6 => ?_)
    · replace h := h.1 c6
      refine wp_aload_n dX6_goTo_49 rfl ?_
      refine wp_aload_n dX6_goTo_50 rfl ?_
      refine wp_put (v := vr a1) dX6_goTo_51 fs_RX6_17 (fun h => absurd h (by decide)) hk1 rfl ?_
      refine wp_nmS (fun σ7 hs8 => ?_)
      replace h := h σ7 hs8
      exact wp_ret_v dX6_goTo_54 rfl h
    · replace h := h.2 c6
      refine wp_aload_n dX6_goTo_14 rfl ?_
      refine wp_get (v := vi (gI σ 241 a0)) dX6_goTo_15 fl_RX6_21 hk1 rfl ?_
      refine wp_aload_n dX6_goTo_18 rfl ?_
      refine wp_get (v := vr (gP σ 240 a0)) dX6_goTo_19 fl_RX6_11 hk1 rfl ?_
      obtain ⟨ha9, h⟩ := h
      refine wp_alen dX6_goTo_22 ha9 ?_
      obtain ⟨hr10, h⟩ := h
      refine wp_icmp_ge (tgt := 49) dX6_goTo_23 (by decide) hr5 hr10 (fun c11 => ?_) (fun c11 => ?_)
      · replace h := h.1 c11
        refine wp_aload_n dX6_goTo_49 rfl ?_
        refine wp_aload_n dX6_goTo_50 rfl ?_
        refine wp_put (v := vr a1) dX6_goTo_51 fs_RX6_17 (fun h => absurd h (by decide)) hk1 rfl ?_
        refine wp_nmS (fun σ12 hs13 => ?_)
        replace h := h σ12 hs13
        exact wp_ret_v dX6_goTo_54 rfl h
      · replace h := h.2 c11
        refine wp_aload_n dX6_goTo_26 rfl ?_
        refine wp_get (v := vr (gP σ 240 a0)) dX6_goTo_27 fl_RX6_11 hk1 rfl ?_
        refine wp_aload_n dX6_goTo_30 rfl ?_
        refine wp_get (v := vi (gI σ 241 a0)) dX6_goTo_31 fl_RX6_21 hk1 rfl ?_
        refine wp_aload_n dX6_goTo_34 rfl ?_
        refine wp_get (v := vr (gP σ 242 a0)) dX6_goTo_35 fl_RX6_17 hk1 rfl ?_
        obtain ⟨hk14, hi15, he16, h⟩ := h
        refine wp_aastore dX6_goTo_38 hk14 (by decide) hi15 he16 ?_
        refine wp_nmS (fun σ17 hs18 => ?_)
        replace h := h σ17 hs18
        refine wp_aload_n dX6_goTo_39 rfl ?_
        refine wp_dup dX6_goTo_40 trivial ?_
        refine wp_get (v := vi (gI σ17 241 a0)) dX6_goTo_41 fl_RX6_21 (by rw [hs18]; exact hk1) rfl ?_
        refine wp_iconst dX6_goTo_44 ?_
        refine wp_iadd dX6_goTo_45 ?_
        refine wp_put (v := vi ((gI σ17 241 a0) + 1)) dX6_goTo_46 fs_RX6_21 (fun h => absurd h (by decide)) (by rw [hs18]; exact hk1) (Or.inl rfl) ?_
        refine wp_nmS (fun σ19 hs20 => ?_)
        replace h := h σ19 hs20
        refine wp_aload_n dX6_goTo_49 rfl ?_
        refine wp_aload_n dX6_goTo_50 rfl ?_
        refine wp_put (v := vr a1) dX6_goTo_51 fs_RX6_17 (fun h => absurd h (by decide)) (by rw [hs20, hs18]; exact hk1) rfl ?_
        refine wp_nmS (fun σ21 hs22 => ?_)
        replace h := h σ21 hs22
        exact wp_ret_v dX6_goTo_54 rfl h

set_option maxRecDepth 100000 in
set_option maxHeartbeats 4000000 in
theorem wm_X6_goBack {g : qG} {l : Launch} (hl : l.stackTraces = false) {a0 : Nat} {σ : qS} {Post : qS → qRs → Prop}
    (h : gK σ a0 = 7 ∧ qR (gI σ 241 a0) ∧ (((gI σ 241 a0) ≤ 0 → Post σ (.inl (some (vi 0)))) ∧ (¬ ((gI σ 241 a0) ≤ 0) → q_isA σ 3 (gP σ 240 a0) ∧ qR (gN σ (gP σ 240 a0)) ∧ (((gI σ 241 a0) ≤ (gN σ (gP σ 240 a0)) → (∀ σ7 : qS, σ7 = sI σ 241 a0 ((gI σ 241 a0) - 1) → q_isA σ7 3 (gP σ7 240 a0) ∧ q_in σ7 (gP σ7 240 a0) ((gI σ 241 a0) - 1) ∧ (∀ σ11 : qS, σ11 = sP σ7 242 a0 (gR σ7 (gP σ7 240 a0) ((gI σ 241 a0) - 1)) → Post σ11 (.inl (some (vi 1)))))) ∧ (¬ ((gI σ 241 a0) ≤ (gN σ (gP σ 240 a0))) → Post σ (.inl (some (vi 0)))))))) : qMet g l M_X6_goBack [vr a0] σ Post := by
  refine qMet_of hl (by decide +kernel) (Nat.le_of_ble_eq_true rfl) (List.forall_mem_cons.mpr ⟨trivial, fun _ h => nomatch h⟩) ?_
  show qW g l M_X6_goBack 0 0 0 [some (vr a0)] [] σ Post
  refine wp_aload_n dX6_goBack_0 rfl ?_
  obtain ⟨hk1, h⟩ := h
  refine wp_get (v := vi (gI σ 241 a0)) dX6_goBack_1 fl_RX6_21 hk1 rfl ?_
  obtain ⟨hr2, h⟩ := h
  refine wp_if_le (tgt := 19) dX6_goBack_4 (by decide) hr2 (fun c3 => ?_) (fun c3 => ?_)
  · replace h := h.1 c3
    refine wp_iconst dX6_goBack_19 ?_
    exact wp_ret_z dX6_goBack_20 rfl (Or.inl rfl) h
  · replace h := h.2 c3
    refine wp_aload_n dX6_goBack_7 rfl ?_
    refine wp_get (v := vi (gI σ 241 a0)) dX6_goBack_8 fl_RX6_21 hk1 rfl ?_
    refine wp_aload_n dX6_goBack_11 rfl ?_
    refine wp_get (v := vr (gP σ 240 a0)) dX6_goBack_12 fl_RX6_11 hk1 rfl ?_
    obtain ⟨ha4, h⟩ := h
    refine wp_alen dX6_goBack_15 ha4 ?_
    obtain ⟨hr5, h⟩ := h
    refine wp_icmp_le (tgt := 21) dX6_goBack_16 (by decide) hr2 hr5 (fun c6 => ?_) (fun c6 => ?_)
    · replace h := h.1 c6
      refine wp_aload_n dX6_goBack_21 rfl ?_
      refine wp_dup dX6_goBack_22 trivial ?_
      refine wp_get (v := vi (gI σ 241 a0)) dX6_goBack_23 fl_RX6_21 hk1 rfl ?_
      refine wp_iconst dX6_goBack_26 ?_
      refine wp_isub dX6_goBack_27 ?_
      refine wp_put (v := vi ((gI σ 241 a0) - 1)) dX6_goBack_28 fs_RX6_21 (fun h => absurd h (by decide)) hk1 (Or.inl rfl) ?_
      refine wp_nmS (fun σ7 hs8 => ?_)
      replace h := h σ7 hs8
      refine wp_aload_n dX6_goBack_31 rfl ?_
      refine wp_aload_n dX6_goBack_32 rfl ?_
      refine wp_get (v := vr (gP σ7 240 a0)) dX6_goBack_33 fl_RX6_11 (by rw [hs8]; exact hk1) rfl ?_
      refine wp_aload_n dX6_goBack_36 rfl ?_
      refine wp_get (v := vi ((gI σ 241 a0) - 1)) dX6_goBack_37 fl_RX6_21 (by rw [hs8]; exact hk1) (by rw [hs8]; exact q_memI) ?_
      obtain ⟨ha9, hi10, h⟩ := h
      refine wp_aaload dX6_goBack_40 (by decide) ha9 hi10 ?_
      refine wp_put (v := vr (gR σ7 (gP σ7 240 a0) ((gI σ 241 a0) - 1))) dX6_goBack_41 fs_RX6_17 (fun h => absurd h (by decide)) (by rw [hs8]; exact hk1) rfl ?_
      refine wp_nmS (fun σ11 hs12 => ?_)
      replace h := h σ11 hs12
      refine wp_iconst dX6_goBack_44 ?_
      exact wp_ret_z dX6_goBack_45 rfl (Or.inr rfl) h
    · replace h := h.2 c6
      refine wp_iconst dX6_goBack_19 ?_
      exact wp_ret_z dX6_goBack_20 rfl (Or.inl rfl) h

set_option maxRecDepth 100000 in
set_option maxHeartbeats 4000000 in
theorem wm_X6_forget {g : qG} {l : Launch} (hl : l.stackTraces = false) {a0 : Nat} {a1 : Nat} {a2 : Nat} {σ : qS} {Post : qS → qRs → Prop}
    (h : ∃ Inv3 : Nat → Int → Int → qS → Prop, (∃ n : Nat, Inv3 n 0 0 σ) ∧ ∀ (n4 : Nat) (x1 : Int) (x2 : Int) (σ9 : qS), Inv3 n4 x1 x2 σ9 → (gK σ9 a0 = 7 ∧ qR x2 ∧ qR (gI σ9 241 a0) ∧ (((gI σ9 241 a0) ≤ x2 → (∀ σ14 : qS, σ14 = sI σ9 241 a0 x1 → ((¬ (gP σ14 242 a0) = a1 → Post σ14 (.inl none)) ∧ ((gP σ14 242 a0) = a1 → (∀ σ17 : qS, σ17 = sP σ14 242 a0 a2 → Post σ17 (.inl none)))))) ∧ (¬ ((gI σ9 241 a0) ≤ x2) → q_isA σ9 3 (gP σ9 240 a0) ∧ qR (gN σ9 (gP σ9 240 a0)) ∧ (((gN σ9 (gP σ9 240 a0)) ≤ x2 → (∀ σ22 : qS, σ22 = sI σ9 241 a0 x1 → ((¬ (gP σ22 242 a0) = a1 → Post σ22 (.inl none)) ∧ ((gP σ22 242 a0) = a1 → (∀ σ25 : qS, σ25 = sP σ22 242 a0 a2 → Post σ25 (.inl none)))))) ∧ (¬ ((gN σ9 (gP σ9 240 a0)) ≤ x2) → q_in σ9 (gP σ9 240 a0) x2 ∧ (((gR σ9 (gP σ9 240 a0) x2) = a1 → ∀ x29 : Int, x29 = x2 + 1 → ∃ n31 : Nat, n31 < n4 ∧ Inv3 n31 x1 x29 σ9) ∧ (¬ ((gR σ9 (gP σ9 240 a0) x2) = a1) → gK σ9 (gP σ9 240 a0) = 23 ∧ q_in σ9 (gP σ9 240 a0) x1 ∧ q_elok σ9 3 (gR σ9 (gP σ9 240 a0) x2) ∧ (∀ σ35 : qS, σ35 = sR σ9 (gP σ9 240 a0) x1 (gR σ9 (gP σ9 240 a0) x2) → ∀ x37 : Int, x37 = x1 + 1 → ∀ x39 : Int, x39 = x2 + 1 → ∃ n41 : Nat, n41 < n4 ∧ Inv3 n41 x37 x39 σ35))))))))) : qMet g l M_X6_forget [vr a0, vr a1, vr a2] σ Post := by
  refine qMet_of hl (by decide +kernel) (Nat.le_of_ble_eq_true rfl) (List.forall_mem_cons.mpr ⟨trivial, List.forall_mem_cons.mpr ⟨trivial, List.forall_mem_cons.mpr ⟨trivial, fun _ h => nomatch h⟩⟩⟩) ?_
  show qW g l M_X6_forget 0 0 0 [some (vr a0), some (vr a1), some (vr a2), none, none] [] σ Post
  refine wp_iconst dX6_forget_0 ?_
  refine wp_istore_n' (ls' := [some (vr a0), some (vr a1), some (vr a2), some (vi 0), none]) dX6_forget_1 (Nat.le_of_ble_eq_true rfl) rfl ?_
  refine wp_iconst dX6_forget_2 ?_
  refine wp_istore' (ls' := [some (vr a0), some (vr a1), some (vr a2), some (vi 0), some (vi 0)]) dX6_forget_3 (Nat.le_of_ble_eq_true rfl) rfl ?_
  obtain ⟨Inv3, ⟨n4_0, h08⟩, hb7⟩ := h
  have loop42 : ∀ (n4 : Nat) (x1 : Int) (x2 : Int) (σ9 : qS), Inv3 n4 x1 x2 σ9 → qW g l M_X6_forget 0 0 5 [some (vr a0), some (vr a1), some (vr a2), some (vi x1), some (vi x2)] [] σ9 Post := by
    intro n4
    induction n4 using Nat.strongRecOn with
    | ind n4 ih5 =>
      intro x1 x2 σ9 hI6
      have h := hb7 n4 x1 x2 σ9 hI6
      refine wp_iload dX6_forget_5 rfl ?_
      refine wp_aload_n dX6_forget_7 rfl ?_
      obtain ⟨hk10, h⟩ := h
      refine wp_get (v := vi (gI σ9 241 a0)) dX6_forget_8 fl_RX6_21 hk10 rfl ?_
      obtain ⟨hr11, hr12, h⟩ := h
      refine wp_icmp_ge (tgt := 57) dX6_forget_11 (by decide) hr11 hr12 (fun c13 => ?_) (fun c13 => ?_)
      · replace h := h.1 c13
        refine wp_aload_n dX6_forget_57 rfl ?_
        refine wp_iload_n dX6_forget_58 rfl ?_
        refine wp_put (v := vi x1) dX6_forget_59 fs_RX6_21 (fun h => absurd h (by decide)) hk10 (Or.inl rfl) ?_
        refine wp_nmS (fun σ14 hs15 => ?_)
        replace h := h σ14 hs15
        refine wp_aload_n dX6_forget_62 rfl ?_
        refine wp_get (v := vr (gP σ14 242 a0)) dX6_forget_63 fl_RX6_17 (by rw [hs15]; exact hk10) rfl ?_
        refine wp_aload_n dX6_forget_66 rfl ?_
        refine wp_acmp_ne (tgt := 75) dX6_forget_67 (by decide) (fun c16 => ?_) (fun c16 => ?_)
        · replace h := h.1 c16
          exact wp_ret_v dX6_forget_75 rfl h
        · replace h := h.2 c16
          refine wp_aload_n dX6_forget_70 rfl ?_
          refine wp_aload_n dX6_forget_71 rfl ?_
          refine wp_put (v := vr a2) dX6_forget_72 fs_RX6_17 (fun h => absurd h (by decide)) (by rw [hs15]; exact hk10) rfl ?_
          refine wp_nmS (fun σ17 hs18 => ?_)
          replace h := h σ17 hs18
          exact wp_ret_v dX6_forget_75 rfl h
      · replace h := h.2 c13
        refine wp_iload dX6_forget_14 rfl ?_
        refine wp_aload_n dX6_forget_16 rfl ?_
        refine wp_get (v := vr (gP σ9 240 a0)) dX6_forget_17 fl_RX6_11 hk10 rfl ?_
        obtain ⟨ha19, h⟩ := h
        refine wp_alen dX6_forget_20 ha19 ?_
        obtain ⟨hr20, h⟩ := h
        refine wp_icmp_ge (tgt := 57) dX6_forget_21 (by decide) hr11 hr20 (fun c21 => ?_) (fun c21 => ?_)
        · replace h := h.1 c21
          refine wp_aload_n dX6_forget_57 rfl ?_
          refine wp_iload_n dX6_forget_58 rfl ?_
          refine wp_put (v := vi x1) dX6_forget_59 fs_RX6_21 (fun h => absurd h (by decide)) hk10 (Or.inl rfl) ?_
          refine wp_nmS (fun σ22 hs23 => ?_)
          replace h := h σ22 hs23
          refine wp_aload_n dX6_forget_62 rfl ?_
          refine wp_get (v := vr (gP σ22 242 a0)) dX6_forget_63 fl_RX6_17 (by rw [hs23]; exact hk10) rfl ?_
          refine wp_aload_n dX6_forget_66 rfl ?_
          refine wp_acmp_ne (tgt := 75) dX6_forget_67 (by decide) (fun c24 => ?_) (fun c24 => ?_)
          · replace h := h.1 c24
            exact wp_ret_v dX6_forget_75 rfl h
          · replace h := h.2 c24
            refine wp_aload_n dX6_forget_70 rfl ?_
            refine wp_aload_n dX6_forget_71 rfl ?_
            refine wp_put (v := vr a2) dX6_forget_72 fs_RX6_17 (fun h => absurd h (by decide)) (by rw [hs23]; exact hk10) rfl ?_
            refine wp_nmS (fun σ25 hs26 => ?_)
            replace h := h σ25 hs26
            exact wp_ret_v dX6_forget_75 rfl h
        · replace h := h.2 c21
          refine wp_aload_n dX6_forget_24 rfl ?_
          refine wp_get (v := vr (gP σ9 240 a0)) dX6_forget_25 fl_RX6_11 hk10 rfl ?_
          refine wp_iload dX6_forget_28 rfl ?_
          obtain ⟨hi27, h⟩ := h
          refine wp_aaload dX6_forget_30 (by decide) ha19 hi27 ?_
          refine wp_aload_n dX6_forget_31 rfl ?_
          refine wp_acmp_eq (tgt := 51) dX6_forget_32 (by decide) (fun c28 => ?_) (fun c28 => ?_)
          · replace h := h.1 c28
            refine wp_nmT (x2 + 1) (fun x29 hx30 => ?_)
            replace h := h x29 hx30
            refine wp_iinc' (z' := x29) (ls' := [some (vr a0), some (vr a1), some (vr a2), some (vi x1), some (vi x29)]) dX6_forget_51 (Nat.le_of_ble_eq_true rfl) rfl hx30 rfl ?_
            refine wp_goto (tgt := 5) dX6_forget_54 (by decide) ?_
            obtain ⟨n31, hlt, h⟩ := h
            exact wp_lsub (ls' := [some (vr a0), some (vr a1), some (vr a2), some (vi x1), some (vi x29)]) ⟨rfl, ⟨rfl, ⟨rfl, ⟨rfl, ⟨rfl, trivial⟩⟩⟩⟩⟩ (ih5 n31 hlt _ _ _ h)
          · replace h := h.2 c28
            refine wp_aload_n dX6_forget_35 rfl ?_
            refine wp_get (v := vr (gP σ9 240 a0)) dX6_forget_36 fl_RX6_11 hk10 rfl ?_
            refine wp_iload_n dX6_forget_39 rfl ?_
            refine wp_aload_n dX6_forget_40 rfl ?_
            refine wp_get (v := vr (gP σ9 240 a0)) dX6_forget_41 fl_RX6_11 hk10 rfl ?_
            refine wp_iload dX6_forget_44 rfl ?_
            refine wp_aaload dX6_forget_46 (by decide) ha19 hi27 ?_
            obtain ⟨hk32, hi33, he34, h⟩ := h
            refine wp_aastore dX6_forget_47 hk32 (by decide) hi33 he34 ?_
            refine wp_nmS (fun σ35 hs36 => ?_)
            replace h := h σ35 hs36
            refine wp_nmT (x1 + 1) (fun x37 hx38 => ?_)
            replace h := h x37 hx38
            refine wp_iinc' (z' := x37) (ls' := [some (vr a0), some (vr a1), some (vr a2), some (vi x37), some (vi x2)]) dX6_forget_48 (Nat.le_of_ble_eq_true rfl) rfl hx38 rfl ?_
            refine wp_nmT (x2 + 1) (fun x39 hx40 => ?_)
            replace h := h x39 hx40
            refine wp_iinc' (z' := x39) (ls' := [some (vr a0), some (vr a1), some (vr a2), some (vi x37), some (vi x39)]) dX6_forget_51 (Nat.le_of_ble_eq_true rfl) rfl hx40 rfl ?_
            refine wp_goto (tgt := 5) dX6_forget_54 (by decide) ?_
            obtain ⟨n41, hlt, h⟩ := h
            exact wp_lsub (ls' := [some (vr a0), some (vr a1), some (vr a2), some (vi x37), some (vi x39)]) ⟨rfl, ⟨rfl, ⟨rfl, ⟨rfl, ⟨rfl, trivial⟩⟩⟩⟩⟩ (ih5 n41 hlt _ _ _ h)
  exact wp_lsub (ls' := [some (vr a0), some (vr a1), some (vr a2), some (vi 0), some (vi 0)]) ⟨rfl, ⟨rfl, ⟨rfl, ⟨rfl, ⟨rfl, trivial⟩⟩⟩⟩⟩ (loop42 _ _ _ _ h08)
