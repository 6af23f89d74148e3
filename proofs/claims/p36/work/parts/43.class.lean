/-! printed: the walks -/
set_option maxRecDepth 100000 in
set_option maxHeartbeats 4000000 in
theorem wm_X7_init {g : qG} {l : Launch} (hl : l.stackTraces = false) {a0 : Nat} {σ : qS} {Post : qS → qRs → Prop}
    (h : a0 ≠ 0 ∧ ∀ r2 : Nat, gK σ r2 = 0 → r2 ≠ 0 → ∀ σ5 : qS, σ5 = nO σ r2 10 → (∃ Mid9 : qS → Prop, qMet g l M_Jx4a65c_init_da8c8 [vr r2] σ5 (qTv0 Mid9) ∧ ∀ (σ13 : qS), Mid9 σ13 → gK σ13 a0 = 8 ∧ (∀ σ16 : qS, σ16 = sP σ13 280 a0 r2 → ∀ r18 : Nat, gK σ16 r18 = 0 → r18 ≠ 0 → ∀ σ21 : qS, σ21 = nO σ16 r18 10 → (∃ Mid25 : qS → Prop, qMet g l M_Jx4a65c_init_da8c8 [vr r18] σ21 (qTv0 Mid25) ∧ ∀ (σ29 : qS), Mid25 σ29 → gK σ29 a0 = 8 ∧ (∀ σ32 : qS, σ32 = sP σ29 281 a0 r18 → ∀ r34 : Nat, gK σ32 r34 = 0 → r34 ≠ 0 → ∀ σ37 : qS, σ37 = nO σ32 r34 10 → (∃ Mid41 : qS → Prop, qMet g l M_Jx4a65c_init_da8c8 [vr r34] σ37 (qTv0 Mid41) ∧ ∀ (σ45 : qS), Mid41 σ45 → gK σ45 a0 = 8 ∧ (∀ σ48 : qS, σ48 = sP σ45 282 a0 r34 → ∀ r50 : Nat, gK σ48 r50 = 0 → r50 ≠ 0 → ∀ σ53 : qS, σ53 = nO σ48 r50 4 → (∃ Mid57 : qS → Prop, qMet g l M_X3_init [vr r50] σ53 (qTv0 Mid57) ∧ ∀ (σ61 : qS), Mid57 σ61 → gK σ61 a0 = 8 ∧ (∀ σ64 : qS, σ64 = sP σ61 283 a0 r50 → ∀ r66 : Nat, gK σ64 r66 = 0 → r66 ≠ 0 → ∀ σ69 : qS, σ69 = nO σ64 r66 7 → (∃ Mid73 : qS → Prop, qMet g l M_X6_init [vr r66] σ69 (qTv0 Mid73) ∧ ∀ (σ77 : qS), Mid73 σ77 → gK σ77 a0 = 8 ∧ (∀ σ80 : qS, σ80 = sP σ77 284 a0 r66 → Post σ80 (.inl none)))))))))))) : qMet g l M_X7_init [vr a0] σ Post := by
  refine qMet_of hl (by decide +kernel) (Nat.le_of_ble_eq_true rfl) (List.forall_mem_cons.mpr ⟨trivial, fun _ h => nomatch h⟩) ?_
  show qW g l M_X7_init 8 545 0 [some (vr a0)] [] σ Post
  refine wp_aload_n dX7_init_0 rfl ?_
  obtain ⟨hz1, h⟩ := h
  refine wp_objInit dX7_init_1 wd_29 hz1 (q_small_of (Nat.le_of_ble_eq_true rfl)) ⟨Nat.le_of_ble_eq_true rfl, Nat.le_of_ble_eq_true rfl⟩ ?_
  refine wp_aload_n dX7_init_4 rfl ?_
  refine wp_new (n := 3) dX7_init_5 nw_RX7_7 rfl (Nat.le_of_ble_eq_true rfl) (Nat.le_of_ble_eq_true rfl) (fun r2 hz3 hq4 => ?_)
  refine wp_less (ac2 := 7) (as2 := 542) (Nat.le_of_ble_eq_true rfl) (Nat.le_of_ble_eq_true rfl) ?_
  replace h := h r2 hz3 hq4
  refine wp_nmS (fun σ5 hs6 => ?_)
  replace h := h σ5 hs6
  have hk7 : gK σ5 r2 = 10 := by rw [hs6]; exact if_pos rfl
  refine wp_dup dX7_init_8 trivial ?_
  obtain ⟨Mid9, hm8, hk11⟩ := h
  refine wp_callI (M' := M_Jx4a65c_init_da8c8) (As := []) (st := [vr r2, vr a0]) dX7_init_9 cee_Jx4a65c_init_da8c8 np_Jx4a65c_init_da8c8 rfl ⟨Nat.le_of_ble_eq_true rfl, Nat.le_of_ble_eq_true rfl, Nat.le_of_ble_eq_true rfl, Nat.le_of_ble_eq_true rfl⟩ wd_34 wd_35 rfl rfl hq4 (q_small_of (Nat.le_of_ble_eq_true rfl)) hm8 (q_kTv0 (fun σ13 hM14 => ?_)) q_kTv00
  refine wp_less (ac2 := 7) (as2 := 542) (Nat.le_of_ble_eq_true rfl) (Nat.le_of_ble_eq_true rfl) ?_
  have h := hk11 σ13 hM14
  obtain ⟨hk15, h⟩ := h
  refine wp_put (v := vr r2) dX7_init_12 fs_RX7_10 (fun _ => rfl) hk15 rfl ?_
  refine wp_nmS (fun σ16 hs17 => ?_)
  replace h := h σ16 hs17
  refine wp_aload_n dX7_init_15 rfl ?_
  refine wp_new (n := 3) dX7_init_16 nw_RX7_7 rfl (Nat.le_of_ble_eq_true rfl) (Nat.le_of_ble_eq_true rfl) (fun r18 hz19 hq20 => ?_)
  refine wp_less (ac2 := 6) (as2 := 539) (Nat.le_of_ble_eq_true rfl) (Nat.le_of_ble_eq_true rfl) ?_
  replace h := h r18 hz19 hq20
  refine wp_nmS (fun σ21 hs22 => ?_)
  replace h := h σ21 hs22
  have hk23 : gK σ21 r18 = 10 := by rw [hs22]; exact if_pos rfl
  refine wp_dup dX7_init_19 trivial ?_
  obtain ⟨Mid25, hm24, hk27⟩ := h
  refine wp_callI (M' := M_Jx4a65c_init_da8c8) (As := []) (st := [vr r18, vr a0]) dX7_init_20 cee_Jx4a65c_init_da8c8 np_Jx4a65c_init_da8c8 rfl ⟨Nat.le_of_ble_eq_true rfl, Nat.le_of_ble_eq_true rfl, Nat.le_of_ble_eq_true rfl, Nat.le_of_ble_eq_true rfl⟩ wd_34 wd_35 rfl rfl hq20 (q_small_of (Nat.le_of_ble_eq_true rfl)) hm24 (q_kTv0 (fun σ29 hM30 => ?_)) q_kTv00
  refine wp_less (ac2 := 6) (as2 := 539) (Nat.le_of_ble_eq_true rfl) (Nat.le_of_ble_eq_true rfl) ?_
  have h := hk27 σ29 hM30
  obtain ⟨hk31, h⟩ := h
  refine wp_put (v := vr r18) dX7_init_23 fs_RX7_16 (fun _ => rfl) hk31 rfl ?_
  refine wp_nmS (fun σ32 hs33 => ?_)
  replace h := h σ32 hs33
  refine wp_aload_n dX7_init_26 rfl ?_
  refine wp_new (n := 3) dX7_init_27 nw_RX7_7 rfl (Nat.le_of_ble_eq_true rfl) (Nat.le_of_ble_eq_true rfl) (fun r34 hz35 hq36 => ?_)
  refine wp_less (ac2 := 5) (as2 := 536) (Nat.le_of_ble_eq_true rfl) (Nat.le_of_ble_eq_true rfl) ?_
  replace h := h r34 hz35 hq36
  refine wp_nmS (fun σ37 hs38 => ?_)
  replace h := h σ37 hs38
  have hk39 : gK σ37 r34 = 10 := by rw [hs38]; exact if_pos rfl
  refine wp_dup dX7_init_30 trivial ?_
  obtain ⟨Mid41, hm40, hk43⟩ := h
  refine wp_callI (M' := M_Jx4a65c_init_da8c8) (As := []) (st := [vr r34, vr a0]) dX7_init_31 cee_Jx4a65c_init_da8c8 np_Jx4a65c_init_da8c8 rfl ⟨Nat.le_of_ble_eq_true rfl, Nat.le_of_ble_eq_true rfl, Nat.le_of_ble_eq_true rfl, Nat.le_of_ble_eq_true rfl⟩ wd_34 wd_35 rfl rfl hq36 (q_small_of (Nat.le_of_ble_eq_true rfl)) hm40 (q_kTv0 (fun σ45 hM46 => ?_)) q_kTv00
  refine wp_less (ac2 := 5) (as2 := 536) (Nat.le_of_ble_eq_true rfl) (Nat.le_of_ble_eq_true rfl) ?_
  have h := hk43 σ45 hM46
  obtain ⟨hk47, h⟩ := h
  refine wp_put (v := vr r34) dX7_init_34 fs_RX7_19 (fun _ => rfl) hk47 rfl ?_
  refine wp_nmS (fun σ48 hs49 => ?_)
  replace h := h σ48 hs49
  refine wp_aload_n dX7_init_37 rfl ?_
  refine wp_new (n := 2) dX7_init_38 nw_RX7_22 rfl (Nat.le_of_ble_eq_true rfl) (Nat.le_of_ble_eq_true rfl) (fun r50 hz51 hq52 => ?_)
  refine wp_less (ac2 := 4) (as2 := 534) (Nat.le_of_ble_eq_true rfl) (Nat.le_of_ble_eq_true rfl) ?_
  replace h := h r50 hz51 hq52
  refine wp_nmS (fun σ53 hs54 => ?_)
  replace h := h σ53 hs54
  have hk55 : gK σ53 r50 = 4 := by rw [hs54]; exact if_pos rfl
  refine wp_dup dX7_init_41 trivial ?_
  obtain ⟨Mid57, hm56, hk59⟩ := h
  refine wp_callI (M' := M_X3_init) (As := []) (st := [vr r50, vr a0]) dX7_init_42 cee_X3_init np_X3_init rfl ⟨Nat.le_of_ble_eq_true rfl, Nat.le_of_ble_eq_true rfl, Nat.le_of_ble_eq_true rfl, Nat.le_of_ble_eq_true rfl⟩ wd_60 wd_61 rfl rfl hq52 (q_small_of (Nat.le_of_ble_eq_true rfl)) hm56 (q_kTv0 (fun σ61 hM62 => ?_)) q_kTv00
  refine wp_less (ac2 := 2) (as2 := 515) (Nat.le_of_ble_eq_true rfl) (Nat.le_of_ble_eq_true rfl) ?_
  have h := hk59 σ61 hM62
  obtain ⟨hk63, h⟩ := h
  refine wp_put (v := vr r50) dX7_init_45 fs_RX7_25 (fun _ => rfl) hk63 rfl ?_
  refine wp_nmS (fun σ64 hs65 => ?_)
  replace h := h σ64 hs65
  refine wp_aload_n dX7_init_48 rfl ?_
  refine wp_new (n := 3) dX7_init_49 nw_RX7_29 rfl (Nat.le_of_ble_eq_true rfl) (Nat.le_of_ble_eq_true rfl) (fun r66 hz67 hq68 => ?_)
  refine wp_less (ac2 := 1) (as2 := 512) (Nat.le_of_ble_eq_true rfl) (Nat.le_of_ble_eq_true rfl) ?_
  replace h := h r66 hz67 hq68
  refine wp_nmS (fun σ69 hs70 => ?_)
  replace h := h σ69 hs70
  have hk71 : gK σ69 r66 = 7 := by rw [hs70]; exact if_pos rfl
  refine wp_dup dX7_init_52 trivial ?_
  obtain ⟨Mid73, hm72, hk75⟩ := h
  refine wp_callIN (M' := M_X6_init) (As := []) (st := [vr r66, vr a0]) dX7_init_53 cee_X6_init np_X6_init rfl ⟨Nat.le_of_ble_eq_true rfl, Nat.le_of_ble_eq_true rfl, Nat.le_of_ble_eq_true rfl, Nat.le_of_ble_eq_true rfl⟩ wd_75 wd_76 rfl rfl hq68 (q_small_of (Nat.le_of_ble_eq_true rfl)) hm72 (q_kTv0 (fun σ77 hM78 => ?_)) q_kTv00
  refine wp_less (ac2 := 0) (as2 := 0) (Nat.le_of_ble_eq_true rfl) (Nat.le_of_ble_eq_true rfl) ?_
  have h := hk75 σ77 hM78
  obtain ⟨hk79, h⟩ := h
  refine wp_put (v := vr r66) dX7_init_56 fs_RX7_32 (fun _ => rfl) hk79 rfl ?_
  refine wp_nmS (fun σ80 hs81 => ?_)
  replace h := h σ80 hs81
  exact wp_ret_v dX7_init_59 rfl h

set_option maxRecDepth 100000 in
set_option maxHeartbeats 4000000 in
theorem wm_X7_page {g : qG} {l : Launch} (hl : l.stackTraces = false) {a0 : Nat} {σ : qS} {Post : qS → qRs → Prop}
    (h : gK σ a0 = 8 ∧ gK σ (gP σ 280 a0) = 50 ∧ (∃ v4 : Int, qMet g l M_Jx4a65c_size_8abf5 [vr (gP σ 280 a0)] σ (qPi σ v4) ∧ (qR v4 ∧ ((v4 < 10 → ∀ r7 : Nat, gK σ r7 = 0 → r7 ≠ 0 → ∀ σ10 : qS, σ10 = nO σ r7 5 → gK σ10 a0 = 8 ∧ gK σ10 (gP σ10 280 a0) = 50 ∧ (∃ v16 : Int, qMet g l M_Jx4a65c_size_8abf5 [vr (gP σ10 280 a0)] σ10 (qPi σ10 v16) ∧ ((∃ Mid18 : qS → Prop, qMet g l M_X4_init [vr r7, vi v16] σ10 (qTv0 Mid18) ∧ ∀ (σ22 : qS), Mid18 σ22 → gK σ22 a0 = 8 ∧ gK σ22 (gP σ22 280 a0) = 50 ∧ (∃ Mid27 : qS → Int → Prop, qMet g l M_Jx4a65c_add_9ea2d [vr (gP σ22 280 a0), vr r7] σ22 (qTi0 Mid27) ∧ ∀ (σ31 : qS) (v33 : Int), Mid27 σ31 v33 → gK σ31 r7 = 5 ∧ Post σ31 (.inl (some (vi (gI σ31 160 r7))))))))) ∧ (¬ (v4 < 10) → Post σ (.inr 0)))))) : qMet g l M_X7_page [vr a0] σ Post := by
  refine qMet_of hl (by decide +kernel) (Nat.le_of_ble_eq_true rfl) (List.forall_mem_cons.mpr ⟨trivial, fun _ h => nomatch h⟩) ?_
  show qW g l M_X7_page 5 415 0 [some (vr a0), none] [] σ Post
  refine wp_aload_n dX7_page_0 rfl ?_
  obtain ⟨hk1, h⟩ := h
  refine wp_get (v := vr (gP σ 280 a0)) dX7_page_1 fl_RX7_10 hk1 rfl ?_
  obtain ⟨hk3, h⟩ := h
  obtain ⟨v4, hm2, h⟩ := h
  refine wp_callV (M' := M_Jx4a65c_size_8abf5) (As := []) (st := []) (ci := 9) dX7_page_4 cee_Jx4a65c_size_8abf5 np_Jx4a65c_size_8abf5 rfl ⟨Nat.le_of_ble_eq_true rfl, Nat.le_of_ble_eq_true rfl, Nat.le_of_ble_eq_true rfl, Nat.le_of_ble_eq_true rfl⟩ wd_112 wd_113 wd_114 rfl (Or.inr ⟨hk3, rfl⟩) (q_small_of (Nat.le_of_ble_eq_true rfl)) hm2 (q_kPi ?_) q_kPi0
  refine wp_less (ac2 := 5) (as2 := 415) (Nat.le_of_ble_eq_true rfl) (Nat.le_of_ble_eq_true rfl) ?_
  refine wp_bipush dX7_page_7 (by decide) ?_
  obtain ⟨hr5, h⟩ := h
  refine wp_icmp_lt (tgt := 22) dX7_page_9 (by decide) hr5 (by unfold qR; omega) (fun c6 => ?_) (fun c6 => ?_)
  · replace h := h.1 c6
    refine wp_new (n := 6) dX7_page_22 nw_RX7_47 rfl (Nat.le_of_ble_eq_true rfl) (Nat.le_of_ble_eq_true rfl) (fun r7 hz8 hq9 => ?_)
    refine wp_less (ac2 := 4) (as2 := 409) (Nat.le_of_ble_eq_true rfl) (Nat.le_of_ble_eq_true rfl) ?_
    replace h := h r7 hz8 hq9
    refine wp_nmS (fun σ10 hs11 => ?_)
    replace h := h σ10 hs11
    have hk12 : gK σ10 r7 = 5 := by rw [hs11]; exact if_pos rfl
    refine wp_dup dX7_page_25 trivial ?_
    refine wp_aload_n dX7_page_26 rfl ?_
    obtain ⟨hk13, h⟩ := h
    refine wp_get (v := vr (gP σ10 280 a0)) dX7_page_27 fl_RX7_10 hk13 rfl ?_
    obtain ⟨hk15, h⟩ := h
    obtain ⟨v16, hm14, h⟩ := h
    refine wp_callV (M' := M_Jx4a65c_size_8abf5) (As := []) (st := [vr r7, vr r7]) (ci := 9) dX7_page_30 cee_Jx4a65c_size_8abf5 np_Jx4a65c_size_8abf5 rfl ⟨Nat.le_of_ble_eq_true rfl, Nat.le_of_ble_eq_true rfl, Nat.le_of_ble_eq_true rfl, Nat.le_of_ble_eq_true rfl⟩ wd_112 wd_113 wd_114 rfl (Or.inr ⟨hk15, rfl⟩) (q_small_of (Nat.le_of_ble_eq_true rfl)) hm14 (q_kPi ?_) q_kPi0
    refine wp_less (ac2 := 4) (as2 := 409) (Nat.le_of_ble_eq_true rfl) (Nat.le_of_ble_eq_true rfl) ?_
    obtain ⟨Mid18, hm17, hk20⟩ := h
    refine wp_callI (M' := M_X4_init) (As := [vi v16]) (st := [vr r7]) dX7_page_33 cee_X4_init np_X4_init rfl ⟨Nat.le_of_ble_eq_true rfl, Nat.le_of_ble_eq_true rfl, Nat.le_of_ble_eq_true rfl, Nat.le_of_ble_eq_true rfl⟩ wd_186 wd_187 rfl rfl hq9 (q_small_of (Nat.le_of_ble_eq_true rfl)) hm17 (q_kTv0 (fun σ22 hM23 => ?_)) q_kTv00
    refine wp_less (ac2 := 3) (as2 := 406) (Nat.le_of_ble_eq_true rfl) (Nat.le_of_ble_eq_true rfl) ?_
    have h := hk20 σ22 hM23
    refine wp_astore_n' (ls' := [some (vr a0), some (vr r7)]) dX7_page_36 (Nat.le_of_ble_eq_true rfl) rfl ?_
    refine wp_aload_n dX7_page_37 rfl ?_
    obtain ⟨hk24, h⟩ := h
    refine wp_get (v := vr (gP σ22 280 a0)) dX7_page_38 fl_RX7_10 hk24 rfl ?_
    refine wp_aload_n dX7_page_41 rfl ?_
    obtain ⟨hk26, h⟩ := h
    obtain ⟨Mid27, hm25, hk29⟩ := h
    refine wp_callV (M' := M_Jx4a65c_add_9ea2d) (As := [vr r7]) (st := []) (ci := 9) dX7_page_42 cee_Jx4a65c_add_9ea2d np_Jx4a65c_add_9ea2d rfl ⟨Nat.le_of_ble_eq_true rfl, Nat.le_of_ble_eq_true rfl, Nat.le_of_ble_eq_true rfl, Nat.le_of_ble_eq_true rfl⟩ wd_218 wd_219 wd_220 rfl (Or.inr ⟨hk26, rfl⟩) (q_small_of (Nat.le_of_ble_eq_true rfl)) hm25 (q_kTi0 (fun σ31 v33 hM32 => ?_)) q_kTi00
    refine wp_less (ac2 := 1) (as2 := 6) (Nat.le_of_ble_eq_true rfl) (Nat.le_of_ble_eq_true rfl) ?_
    have h := hk29 σ31 v33 hM32
    refine wp_pop dX7_page_45 trivial ?_
    refine wp_aload_n dX7_page_46 rfl ?_
    obtain ⟨hk34, h⟩ := h
    refine wp_get (v := vi (gI σ31 160 r7)) dX7_page_47 fl_RX7_56 hk34 rfl ?_
    exact wp_ret_i dX7_page_50 rfl rfl h
  · replace h := h.2 c6
    exact wp_throw (n := 0) (text := "there are all pages") (by decide) rfl rfl (by decide +kernel) dX7_page_12 dX7_page_15 dX7_page_16 dX7_page_18 dX7_page_21 (q_small_of (Nat.le_of_ble_eq_true rfl)) ⟨Nat.le_of_ble_eq_true rfl, Nat.le_of_ble_eq_true rfl⟩ (Nat.le_of_ble_eq_true rfl) (Nat.le_of_ble_eq_true rfl) h

set_option maxRecDepth 100000 in
set_option maxHeartbeats 4000000 in
theorem wm_X7_panel {g : qG} {l : Launch} (hl : l.stackTraces = false) {a0 : Nat} {a1 : Int} {a2 : Int} {a3 : Int} {a4 : Int} {a5 : Int} {σ : qS} {Post : qS → qRs → Prop}
    (h : gK σ a0 = 8 ∧ (∃ (Mid3 : qS → Nat → Prop) (MidX4 : qS → Nat → Prop), qMet g l M_X7_needPage [vr a0, vi a1] σ (qTr Mid3 MidX4) ∧ (∀ (σ7 : qS) (v9 : Nat), Mid3 σ7 v9 → gK σ7 v9 = 5 ∧ gK σ7 (gP σ7 161 v9) = 50 ∧ (∃ v13 : Int, qMet g l M_Jx4a65c_size_8abf5 [vr (gP σ7 161 v9)] σ7 (qPi σ7 v13) ∧ ((∃ (Mid15 : qS → Prop) (MidX16 : qS → Nat → Prop), qMet g l M_X7_needPlace [vi a2, vi v13] σ7 (qTv Mid15 MidX16) ∧ (∀ (σ19 : qS), Mid15 σ19 → (∃ (Mid22 : qS → Prop) (MidX23 : qS → Nat → Prop), qMet g l M_X7_needWithin [vi a3, vi 1, vi 9] σ19 (qTv Mid22 MidX23) ∧ (∀ (σ26 : qS), Mid22 σ26 → (∃ (Mid29 : qS → Prop) (MidX30 : qS → Nat → Prop), qMet g l M_X7_needWithin [vi a4, vi 4, vi 24] σ26 (qTv Mid29 MidX30) ∧ (∀ (σ33 : qS), Mid29 σ33 → (∃ (Mid36 : qS → Prop) (MidX37 : qS → Nat → Prop), qMet g l M_X7_needWithin [vi a5, vi 3, vi 12] σ33 (qTv Mid36 MidX37) ∧ (∀ (σ40 : qS), Mid36 σ40 → gK σ40 v9 = 5 ∧ gK σ40 (gP σ40 161 v9) = 50 ∧ (∃ v45 : Int, qMet g l M_Jx4a65c_size_8abf5 [vr (gP σ40 161 v9)] σ40 (qPi σ40 v45) ∧ (qR v45 ∧ ((8 ≤ v45 → Post σ40 (.inr 0)) ∧ (¬ (8 ≤ v45) → gK σ40 a0 = 8 ∧ gK σ40 (gP σ40 281 a0) = 50 ∧ (∃ v51 : Int, qMet g l M_Jx4a65c_size_8abf5 [vr (gP σ40 281 a0)] σ40 (qPi σ40 v51) ∧ (qR v51 ∧ ((v51 < 50 → ∀ r54 : Nat, gK σ40 r54 = 0 → r54 ≠ 0 → ∀ σ57 : qS, σ57 = nO σ40 r54 6 → gK σ57 a0 = 8 ∧ gK σ57 (gP σ57 281 a0) = 50 ∧ (∃ v63 : Int, qMet g l M_Jx4a65c_size_8abf5 [vr (gP σ57 281 a0)] σ57 (qPi σ57 v63) ∧ ((∃ Mid65 : qS → Prop, qMet g l M_X5_init [vr r54, vi v63, vr v9, vi a3, vi a4, vi a5] σ57 (qTv0 Mid65) ∧ ∀ (σ69 : qS), Mid65 σ69 → gK σ69 v9 = 5 ∧ (∃ Mid73 : qS → Prop, qMet g l M_X4_putIn [vr v9, vi a2, vr r54] σ69 (qTv0 Mid73) ∧ ∀ (σ77 : qS), Mid73 σ77 → gK σ77 a0 = 8 ∧ gK σ77 (gP σ77 283 a0) = 4 ∧ (∃ Mid82 : qS → Int → Prop, qMet g l M_X3_tryPage [vr (gP σ77 283 a0), vr v9] σ77 (qTi0 Mid82) ∧ ∀ (σ86 : qS) (v88 : Int), Mid82 σ86 v88 → qR v88 ∧ ((¬ v88 = 0 → gK σ86 a0 = 8 ∧ gK σ86 (gP σ86 281 a0) = 50 ∧ (∃ Mid94 : qS → Int → Prop, qMet g l M_Jx4a65c_add_9ea2d [vr (gP σ86 281 a0), vr r54] σ86 (qTi0 Mid94) ∧ ∀ (σ98 : qS) (v100 : Int), Mid94 σ98 v100 → gK σ98 v9 = 5 ∧ (∃ Mid103 : qS → Int → Prop, qMet g l M_X4_keepTrial [vr v9] σ98 (qTi0 Mid103) ∧ ∀ (σ107 : qS) (v109 : Int), Mid103 σ107 v109 → gK σ107 r54 = 6 ∧ Post σ107 (.inl (some (vi (gI σ107 200 r54))))))) ∧ (v88 = 0 → gK σ86 v9 = 5 ∧ (∃ Mid113 : qS → Prop, qMet g l M_X4_takeOut [vr v9, vi a2] σ86 (qTv0 Mid113) ∧ ∀ (σ117 : qS), Mid113 σ117 → Post σ117 (.inr 0)))))))))) ∧ (¬ (v51 < 50) → Post σ40 (.inr 0)))))))))) ∧ ∀ (σ9 : qS) (n9 : Nat), MidX37 σ9 n9 → Post σ9 (.inr n9))) ∧ ∀ (σ9 : qS) (n9 : Nat), MidX30 σ9 n9 → Post σ9 (.inr n9))) ∧ ∀ (σ9 : qS) (n9 : Nat), MidX23 σ9 n9 → Post σ9 (.inr n9))) ∧ ∀ (σ9 : qS) (n9 : Nat), MidX16 σ9 n9 → Post σ9 (.inr n9))))) ∧ ∀ (σ9 : qS) (n9 : Nat), MidX4 σ9 n9 → Post σ9 (.inr n9))) : qMet g l M_X7_panel [vr a0, vi a1, vi a2, vi a3, vi a4, vi a5] σ Post := by
  refine qMet_of hl (by decide +kernel) (Nat.le_of_ble_eq_true rfl) (List.forall_mem_cons.mpr ⟨trivial, List.forall_mem_cons.mpr ⟨trivial, List.forall_mem_cons.mpr ⟨trivial, List.forall_mem_cons.mpr ⟨trivial, List.forall_mem_cons.mpr ⟨trivial, List.forall_mem_cons.mpr ⟨trivial, fun _ h => nomatch h⟩⟩⟩⟩⟩⟩) ?_
  show qW g l M_X7_panel 16 868 0 [some (vr a0), some (vi a1), some (vi a2), some (vi a3), some (vi a4), some (vi a5), none, none] [] σ Post
  refine wp_aload_n dX7_panel_0 rfl ?_
  refine wp_iload_n dX7_panel_1 rfl ?_
  obtain ⟨hk2, h⟩ := h
  obtain ⟨Mid3, MidX4, hm1, hk5, hx6⟩ := h
  refine wp_callV (M' := M_X7_needPage) (As := [vi a1]) (st := []) (ci := 7) dX7_panel_2 cee_X7_needPage np_X7_needPage rfl ⟨Nat.le_of_ble_eq_true rfl, Nat.le_of_ble_eq_true rfl, Nat.le_of_ble_eq_true rfl, Nat.le_of_ble_eq_true rfl⟩ wd_281 wd_283 sel_X7_needPage rfl (Or.inl hk2) (q_small_of (Nat.le_of_ble_eq_true rfl)) hm1 (q_kTr (fun σ7 v9 hM8 => ?_)) (q_kXr rfl hx6)
  refine wp_less (ac2 := 15) (as2 := 862) (Nat.le_of_ble_eq_true rfl) (Nat.le_of_ble_eq_true rfl) ?_
  have h := hk5 σ7 v9 hM8
  refine wp_astore' (ls' := [some (vr a0), some (vi a1), some (vi a2), some (vi a3), some (vi a4), some (vi a5), some (vr v9), none]) dX7_panel_5 (Nat.le_of_ble_eq_true rfl) rfl ?_
  refine wp_iload_n dX7_panel_7 rfl ?_
  refine wp_aload dX7_panel_8 rfl ?_
  obtain ⟨hk10, h⟩ := h
  refine wp_get (v := vr (gP σ7 161 v9)) dX7_panel_10 fl_RX7_64 hk10 rfl ?_
  obtain ⟨hk12, h⟩ := h
  obtain ⟨v13, hm11, h⟩ := h
  refine wp_callV (M' := M_Jx4a65c_size_8abf5) (As := []) (st := [vi a2]) (ci := 9) dX7_panel_13 cee_Jx4a65c_size_8abf5 np_Jx4a65c_size_8abf5 rfl ⟨Nat.le_of_ble_eq_true rfl, Nat.le_of_ble_eq_true rfl, Nat.le_of_ble_eq_true rfl, Nat.le_of_ble_eq_true rfl⟩ wd_112 wd_113 wd_114 rfl (Or.inr ⟨hk12, rfl⟩) (q_small_of (Nat.le_of_ble_eq_true rfl)) hm11 (q_kPi ?_) q_kPi0
  refine wp_less (ac2 := 15) (as2 := 862) (Nat.le_of_ble_eq_true rfl) (Nat.le_of_ble_eq_true rfl) ?_
  obtain ⟨Mid15, MidX16, hm14, hk17, hx18⟩ := h
  refine wp_callS (M' := M_X7_needPlace) (As := [vi a2, vi v13]) (st := []) dX7_panel_16 cee_X7_needPlace np_X7_needPlace rfl ⟨Nat.le_of_ble_eq_true rfl, Nat.le_of_ble_eq_true rfl, Nat.le_of_ble_eq_true rfl, Nat.le_of_ble_eq_true rfl⟩ wd_315 wd_316 (q_small_of (Nat.le_of_ble_eq_true rfl)) hm14 (q_kTv (fun σ19 hM20 => ?_)) (q_kXv rfl hx18)
  refine wp_less (ac2 := 14) (as2 := 856) (Nat.le_of_ble_eq_true rfl) (Nat.le_of_ble_eq_true rfl) ?_
  have h := hk17 σ19 hM20
  refine wp_iload_n dX7_panel_19 rfl ?_
  refine wp_iconst dX7_panel_20 ?_
  refine wp_bipush dX7_panel_21 (by decide) ?_
  obtain ⟨Mid22, MidX23, hm21, hk24, hx25⟩ := h
  refine wp_callS (M' := M_X7_needWithin) (As := [vi a3, vi 1, vi 9]) (st := []) dX7_panel_23 cee_X7_needWithin np_X7_needWithin rfl ⟨Nat.le_of_ble_eq_true rfl, Nat.le_of_ble_eq_true rfl, Nat.le_of_ble_eq_true rfl, Nat.le_of_ble_eq_true rfl⟩ wd_319 wd_320 (q_small_of (Nat.le_of_ble_eq_true rfl)) hm21 (q_kTv (fun σ26 hM27 => ?_)) (q_kXv rfl hx25)
  refine wp_less (ac2 := 13) (as2 := 850) (Nat.le_of_ble_eq_true rfl) (Nat.le_of_ble_eq_true rfl) ?_
  have h := hk24 σ26 hM27
  refine wp_iload dX7_panel_26 rfl ?_
  refine wp_iconst dX7_panel_28 ?_
  refine wp_bipush dX7_panel_29 (by decide) ?_
  obtain ⟨Mid29, MidX30, hm28, hk31, hx32⟩ := h
  refine wp_callS (M' := M_X7_needWithin) (As := [vi a4, vi 4, vi 24]) (st := []) dX7_panel_31 cee_X7_needWithin np_X7_needWithin rfl ⟨Nat.le_of_ble_eq_true rfl, Nat.le_of_ble_eq_true rfl, Nat.le_of_ble_eq_true rfl, Nat.le_of_ble_eq_true rfl⟩ wd_319 wd_320 (q_small_of (Nat.le_of_ble_eq_true rfl)) hm28 (q_kTv (fun σ33 hM34 => ?_)) (q_kXv rfl hx32)
  refine wp_less (ac2 := 12) (as2 := 844) (Nat.le_of_ble_eq_true rfl) (Nat.le_of_ble_eq_true rfl) ?_
  have h := hk31 σ33 hM34
  refine wp_iload dX7_panel_34 rfl ?_
  refine wp_iconst dX7_panel_36 ?_
  refine wp_bipush dX7_panel_37 (by decide) ?_
  obtain ⟨Mid36, MidX37, hm35, hk38, hx39⟩ := h
  refine wp_callS (M' := M_X7_needWithin) (As := [vi a5, vi 3, vi 12]) (st := []) dX7_panel_39 cee_X7_needWithin np_X7_needWithin rfl ⟨Nat.le_of_ble_eq_true rfl, Nat.le_of_ble_eq_true rfl, Nat.le_of_ble_eq_true rfl, Nat.le_of_ble_eq_true rfl⟩ wd_319 wd_320 (q_small_of (Nat.le_of_ble_eq_true rfl)) hm35 (q_kTv (fun σ40 hM41 => ?_)) (q_kXv rfl hx39)
  refine wp_less (ac2 := 11) (as2 := 838) (Nat.le_of_ble_eq_true rfl) (Nat.le_of_ble_eq_true rfl) ?_
  have h := hk38 σ40 hM41
  refine wp_aload dX7_panel_42 rfl ?_
  obtain ⟨hk42, h⟩ := h
  refine wp_get (v := vr (gP σ40 161 v9)) dX7_panel_44 fl_RX7_64 hk42 rfl ?_
  obtain ⟨hk44, h⟩ := h
  obtain ⟨v45, hm43, h⟩ := h
  refine wp_callV (M' := M_Jx4a65c_size_8abf5) (As := []) (st := []) (ci := 9) dX7_panel_47 cee_Jx4a65c_size_8abf5 np_Jx4a65c_size_8abf5 rfl ⟨Nat.le_of_ble_eq_true rfl, Nat.le_of_ble_eq_true rfl, Nat.le_of_ble_eq_true rfl, Nat.le_of_ble_eq_true rfl⟩ wd_112 wd_113 wd_114 rfl (Or.inr ⟨hk44, rfl⟩) (q_small_of (Nat.le_of_ble_eq_true rfl)) hm43 (q_kPi ?_) q_kPi0
  refine wp_less (ac2 := 11) (as2 := 838) (Nat.le_of_ble_eq_true rfl) (Nat.le_of_ble_eq_true rfl) ?_
  refine wp_bipush dX7_panel_50 (by decide) ?_
  obtain ⟨hr46, h⟩ := h
  refine wp_icmp_ge (tgt := 67) dX7_panel_52 (by decide) hr46 (by unfold qR; omega) (fun c47 => ?_) (fun c47 => ?_)
  · replace h := h.1 c47
    exact wp_throw (n := 0) (text := "there is no room for a panel") (by decide) rfl rfl (by decide +kernel) dX7_panel_67 dX7_panel_70 dX7_panel_71 dX7_panel_73 dX7_panel_76 (q_small_of (Nat.le_of_ble_eq_true rfl)) ⟨Nat.le_of_ble_eq_true rfl, Nat.le_of_ble_eq_true rfl⟩ (Nat.le_of_ble_eq_true rfl) (Nat.le_of_ble_eq_true rfl) h
  · replace h := h.2 c47
    refine wp_aload_n dX7_panel_55 rfl ?_
    obtain ⟨hk48, h⟩ := h
    refine wp_get (v := vr (gP σ40 281 a0)) dX7_panel_56 fl_RX7_16 hk48 rfl ?_
    obtain ⟨hk50, h⟩ := h
    obtain ⟨v51, hm49, h⟩ := h
    refine wp_callV (M' := M_Jx4a65c_size_8abf5) (As := []) (st := []) (ci := 9) dX7_panel_59 cee_Jx4a65c_size_8abf5 np_Jx4a65c_size_8abf5 rfl ⟨Nat.le_of_ble_eq_true rfl, Nat.le_of_ble_eq_true rfl, Nat.le_of_ble_eq_true rfl, Nat.le_of_ble_eq_true rfl⟩ wd_112 wd_113 wd_114 rfl (Or.inr ⟨hk50, rfl⟩) (q_small_of (Nat.le_of_ble_eq_true rfl)) hm49 (q_kPi ?_) q_kPi0
    refine wp_less (ac2 := 11) (as2 := 838) (Nat.le_of_ble_eq_true rfl) (Nat.le_of_ble_eq_true rfl) ?_
    refine wp_bipush dX7_panel_62 (by decide) ?_
    obtain ⟨hr52, h⟩ := h
    refine wp_icmp_lt (tgt := 77) dX7_panel_64 (by decide) hr52 (by unfold qR; omega) (fun c53 => ?_) (fun c53 => ?_)
    · replace h := h.1 c53
      refine wp_new (n := 12) dX7_panel_77 nw_RX7_77 rfl (Nat.le_of_ble_eq_true rfl) (Nat.le_of_ble_eq_true rfl) (fun r54 hz55 hq56 => ?_)
      refine wp_less (ac2 := 10) (as2 := 826) (Nat.le_of_ble_eq_true rfl) (Nat.le_of_ble_eq_true rfl) ?_
      replace h := h r54 hz55 hq56
      refine wp_nmS (fun σ57 hs58 => ?_)
      replace h := h σ57 hs58
      have hk59 : gK σ57 r54 = 6 := by rw [hs58]; exact if_pos rfl
      refine wp_dup dX7_panel_80 trivial ?_
      refine wp_aload_n dX7_panel_81 rfl ?_
      obtain ⟨hk60, h⟩ := h
      refine wp_get (v := vr (gP σ57 281 a0)) dX7_panel_82 fl_RX7_16 hk60 rfl ?_
      obtain ⟨hk62, h⟩ := h
      obtain ⟨v63, hm61, h⟩ := h
      refine wp_callV (M' := M_Jx4a65c_size_8abf5) (As := []) (st := [vr r54, vr r54]) (ci := 9) dX7_panel_85 cee_Jx4a65c_size_8abf5 np_Jx4a65c_size_8abf5 rfl ⟨Nat.le_of_ble_eq_true rfl, Nat.le_of_ble_eq_true rfl, Nat.le_of_ble_eq_true rfl, Nat.le_of_ble_eq_true rfl⟩ wd_112 wd_113 wd_114 rfl (Or.inr ⟨hk62, rfl⟩) (q_small_of (Nat.le_of_ble_eq_true rfl)) hm61 (q_kPi ?_) q_kPi0
      refine wp_less (ac2 := 10) (as2 := 826) (Nat.le_of_ble_eq_true rfl) (Nat.le_of_ble_eq_true rfl) ?_
      refine wp_aload dX7_panel_88 rfl ?_
      refine wp_iload_n dX7_panel_90 rfl ?_
      refine wp_iload dX7_panel_91 rfl ?_
      refine wp_iload dX7_panel_93 rfl ?_
      obtain ⟨Mid65, hm64, hk67⟩ := h
      refine wp_callI (M' := M_X5_init) (As := [vi v63, vr v9, vi a3, vi a4, vi a5]) (st := [vr r54]) dX7_panel_95 cee_X5_init np_X5_init rfl ⟨Nat.le_of_ble_eq_true rfl, Nat.le_of_ble_eq_true rfl, Nat.le_of_ble_eq_true rfl, Nat.le_of_ble_eq_true rfl⟩ wd_341 wd_342 rfl rfl hq56 (q_small_of (Nat.le_of_ble_eq_true rfl)) hm64 (q_kTv0 (fun σ69 hM70 => ?_)) q_kTv00
      refine wp_less (ac2 := 6) (as2 := 812) (Nat.le_of_ble_eq_true rfl) (Nat.le_of_ble_eq_true rfl) ?_
      have h := hk67 σ69 hM70
      refine wp_astore' (ls' := [some (vr a0), some (vi a1), some (vi a2), some (vi a3), some (vi a4), some (vi a5), some (vr v9), some (vr r54)]) dX7_panel_98 (Nat.le_of_ble_eq_true rfl) rfl ?_
      refine wp_aload dX7_panel_100 rfl ?_
      refine wp_iload_n dX7_panel_102 rfl ?_
      refine wp_aload dX7_panel_103 rfl ?_
      obtain ⟨hk72, h⟩ := h
      obtain ⟨Mid73, hm71, hk75⟩ := h
      refine wp_callV (M' := M_X4_putIn) (As := [vi a2, vr r54]) (st := []) (ci := 4) dX7_panel_105 cee_X4_putIn np_X4_putIn rfl ⟨Nat.le_of_ble_eq_true rfl, Nat.le_of_ble_eq_true rfl, Nat.le_of_ble_eq_true rfl, Nat.le_of_ble_eq_true rfl⟩ wd_433 wd_434 wd_435 rfl (Or.inl hk72) (q_small_of (Nat.le_of_ble_eq_true rfl)) hm71 (q_kTv0 (fun σ77 hM78 => ?_)) q_kTv00
      refine wp_less (ac2 := 4) (as2 := 412) (Nat.le_of_ble_eq_true rfl) (Nat.le_of_ble_eq_true rfl) ?_
      have h := hk75 σ77 hM78
      refine wp_aload_n dX7_panel_108 rfl ?_
      obtain ⟨hk79, h⟩ := h
      refine wp_get (v := vr (gP σ77 283 a0)) dX7_panel_109 fl_RX7_25 hk79 rfl ?_
      refine wp_aload dX7_panel_112 rfl ?_
      obtain ⟨hk81, h⟩ := h
      obtain ⟨Mid82, hm80, hk84⟩ := h
      refine wp_callV (M' := M_X3_tryPage) (As := [vr v9]) (st := []) (ci := 3) dX7_panel_114 cee_X3_tryPage np_X3_tryPage rfl ⟨Nat.le_of_ble_eq_true rfl, Nat.le_of_ble_eq_true rfl, Nat.le_of_ble_eq_true rfl, Nat.le_of_ble_eq_true rfl⟩ wd_447 wd_448 wd_449 rfl (Or.inl hk81) (q_small_of (Nat.le_of_ble_eq_true rfl)) hm80 (q_kTi0 (fun σ86 v88 hM87 => ?_)) q_kTi00
      refine wp_less (ac2 := 4) (as2 := 412) (Nat.le_of_ble_eq_true rfl) (Nat.le_of_ble_eq_true rfl) ?_
      have h := hk84 σ86 v88 hM87
      obtain ⟨hr89, h⟩ := h
      refine wp_if_ne (tgt := 136) dX7_panel_117 (by decide) hr89 (fun c90 => ?_) (fun c90 => ?_)
      · replace h := h.1 c90
        refine wp_aload_n dX7_panel_136 rfl ?_
        obtain ⟨hk91, h⟩ := h
        refine wp_get (v := vr (gP σ86 281 a0)) dX7_panel_137 fl_RX7_16 hk91 rfl ?_
        refine wp_aload dX7_panel_140 rfl ?_
        obtain ⟨hk93, h⟩ := h
        obtain ⟨Mid94, hm92, hk96⟩ := h
        refine wp_callV (M' := M_Jx4a65c_add_9ea2d) (As := [vr r54]) (st := []) (ci := 9) dX7_panel_142 cee_Jx4a65c_add_9ea2d np_Jx4a65c_add_9ea2d rfl ⟨Nat.le_of_ble_eq_true rfl, Nat.le_of_ble_eq_true rfl, Nat.le_of_ble_eq_true rfl, Nat.le_of_ble_eq_true rfl⟩ wd_218 wd_219 wd_220 rfl (Or.inr ⟨hk93, rfl⟩) (q_small_of (Nat.le_of_ble_eq_true rfl)) hm92 (q_kTi0 (fun σ98 v100 hM99 => ?_)) q_kTi00
        refine wp_less (ac2 := 2) (as2 := 12) (Nat.le_of_ble_eq_true rfl) (Nat.le_of_ble_eq_true rfl) ?_
        have h := hk96 σ98 v100 hM99
        refine wp_pop dX7_panel_145 trivial ?_
        refine wp_aload dX7_panel_146 rfl ?_
        obtain ⟨hk102, h⟩ := h
        obtain ⟨Mid103, hm101, hk105⟩ := h
        refine wp_callV (M' := M_X4_keepTrial) (As := []) (st := []) (ci := 4) dX7_panel_148 cee_X4_keepTrial np_X4_keepTrial rfl ⟨Nat.le_of_ble_eq_true rfl, Nat.le_of_ble_eq_true rfl, Nat.le_of_ble_eq_true rfl, Nat.le_of_ble_eq_true rfl⟩ wd_522 wd_523 wd_524 rfl (Or.inl hk102) (q_small_of (Nat.le_of_ble_eq_true rfl)) hm101 (q_kTi0 (fun σ107 v109 hM108 => ?_)) q_kTi00
        refine wp_less (ac2 := 2) (as2 := 12) (Nat.le_of_ble_eq_true rfl) (Nat.le_of_ble_eq_true rfl) ?_
        have h := hk105 σ107 v109 hM108
        refine wp_pop dX7_panel_151 trivial ?_
        refine wp_aload dX7_panel_152 rfl ?_
        obtain ⟨hk110, h⟩ := h
        refine wp_get (v := vi (gI σ107 200 r54)) dX7_panel_154 fl_RX7_98 hk110 rfl ?_
        exact wp_ret_i dX7_panel_157 rfl rfl h
      · replace h := h.2 c90
        refine wp_aload dX7_panel_120 rfl ?_
        refine wp_iload_n dX7_panel_122 rfl ?_
        obtain ⟨hk112, h⟩ := h
        obtain ⟨Mid113, hm111, hk115⟩ := h
        refine wp_callV (M' := M_X4_takeOut) (As := [vi a2]) (st := []) (ci := 4) dX7_panel_123 cee_X4_takeOut np_X4_takeOut rfl ⟨Nat.le_of_ble_eq_true rfl, Nat.le_of_ble_eq_true rfl, Nat.le_of_ble_eq_true rfl, Nat.le_of_ble_eq_true rfl⟩ wd_509 wd_510 wd_511 rfl (Or.inl hk112) (q_small_of (Nat.le_of_ble_eq_true rfl)) hm111 (q_kTv0 (fun σ117 hM118 => ?_)) q_kTv00
        refine wp_less (ac2 := 4) (as2 := 412) (Nat.le_of_ble_eq_true rfl) (Nat.le_of_ble_eq_true rfl) ?_
        have h := hk115 σ117 hM118
        exact wp_throw (n := 0) (text := "the page cannot be laid") (by decide) rfl rfl (by decide +kernel) dX7_panel_126 dX7_panel_129 dX7_panel_130 dX7_panel_132 dX7_panel_135 (q_small_of (Nat.le_of_ble_eq_true rfl)) ⟨Nat.le_of_ble_eq_true rfl, Nat.le_of_ble_eq_true rfl⟩ (Nat.le_of_ble_eq_true rfl) (Nat.le_of_ble_eq_true rfl) h
    · replace h := h.2 c53
      exact wp_throw (n := 0) (text := "there is no room for a panel") (by decide) rfl rfl (by decide +kernel) dX7_panel_67 dX7_panel_70 dX7_panel_71 dX7_panel_73 dX7_panel_76 (q_small_of (Nat.le_of_ble_eq_true rfl)) ⟨Nat.le_of_ble_eq_true rfl, Nat.le_of_ble_eq_true rfl⟩ (Nat.le_of_ble_eq_true rfl) (Nat.le_of_ble_eq_true rfl) h

set_option maxRecDepth 100000 in
set_option maxHeartbeats 4000000 in
theorem wm_X7_movePanel {g : qG} {l : Launch} (hl : l.stackTraces = false) {a0 : Nat} {a1 : Int} {a2 : Int} {σ : qS} {Post : qS → qRs → Prop}
    (h : gK σ a0 = 8 ∧ (∃ (Mid3 : qS → Nat → Prop) (MidX4 : qS → Nat → Prop), qMet g l M_X7_needPanel [vr a0, vi a1] σ (qTr Mid3 MidX4) ∧ (∀ (σ7 : qS) (v9 : Nat), Mid3 σ7 v9 → gK σ7 v9 = 6 ∧ ∀ x11 : Nat, x11 = gP σ7 201 v9 → gK σ7 x11 = 5 ∧ gK σ7 (gP σ7 161 x11) = 50 ∧ (∃ v16 : Int, qMet g l M_Jx4a65c_size_8abf5 [vr (gP σ7 161 x11)] σ7 (qPi σ7 v16) ∧ ((∃ (Mid18 : qS → Prop) (MidX19 : qS → Nat → Prop), qMet g l M_X7_needPlace [vi a2, vi (v16 - 1)] σ7 (qTv Mid18 MidX19) ∧ (∀ (σ22 : qS), Mid18 σ22 → gK σ22 x11 = 5 ∧ (∃ v26 : Int, qMet g l M_X4_indexOf [vr x11, vr v9] σ22 (qPi σ22 v26) ∧ ((∃ Mid28 : qS → Prop, qMet g l M_X4_takeOut [vr x11, vi v26] σ22 (qTv0 Mid28) ∧ ∀ (σ32 : qS), Mid28 σ32 → gK σ32 x11 = 5 ∧ (∃ Mid36 : qS → Prop, qMet g l M_X4_putIn [vr x11, vi a2, vr v9] σ32 (qTv0 Mid36) ∧ ∀ (σ40 : qS), Mid36 σ40 → gK σ40 a0 = 8 ∧ gK σ40 (gP σ40 283 a0) = 4 ∧ (∃ Mid45 : qS → Int → Prop, qMet g l M_X3_tryPage [vr (gP σ40 283 a0), vr x11] σ40 (qTi0 Mid45) ∧ ∀ (σ49 : qS) (v51 : Int), Mid45 σ49 v51 → qR v51 ∧ ((v51 = 0 → gK σ49 x11 = 5 ∧ (∃ Mid56 : qS → Prop, qMet g l M_X4_takeOut [vr x11, vi a2] σ49 (qTv0 Mid56) ∧ ∀ (σ60 : qS), Mid56 σ60 → gK σ60 x11 = 5 ∧ (∃ Mid64 : qS → Prop, qMet g l M_X4_putIn [vr x11, vi v26, vr v9] σ60 (qTv0 Mid64) ∧ ∀ (σ68 : qS), Mid64 σ68 → Post σ68 (.inr 0)))) ∧ (¬ (v51 = 0) → gK σ49 a0 = 8 ∧ (∃ v72 : Int, qMet g l M_X7_answersComeLater [vr a0] σ49 (qPi σ49 v72) ∧ (qR v72 ∧ ((¬ v72 = 0 → gK σ49 x11 = 5 ∧ (∃ Mid77 : qS → Int → Prop, qMet g l M_X4_keepTrial [vr x11] σ49 (qTi0 Mid77) ∧ ∀ (σ81 : qS) (v83 : Int), Mid77 σ81 v83 → Post σ81 (.inl (some (vi v83))))) ∧ (v72 = 0 → gK σ49 x11 = 5 ∧ (∃ Mid86 : qS → Prop, qMet g l M_X4_takeOut [vr x11, vi a2] σ49 (qTv0 Mid86) ∧ ∀ (σ90 : qS), Mid86 σ90 → gK σ90 x11 = 5 ∧ (∃ Mid94 : qS → Prop, qMet g l M_X4_putIn [vr x11, vi v26, vr v9] σ90 (qTv0 Mid94) ∧ ∀ (σ98 : qS), Mid94 σ98 → Post σ98 (.inr 0))))))))))))))) ∧ ∀ (σ9 : qS) (n9 : Nat), MidX19 σ9 n9 → Post σ9 (.inr n9))))) ∧ ∀ (σ9 : qS) (n9 : Nat), MidX4 σ9 n9 → Post σ9 (.inr n9))) : qMet g l M_X7_movePanel [vr a0, vi a1, vi a2] σ Post := by
  refine qMet_of hl (by decide +kernel) (Nat.le_of_ble_eq_true rfl) (List.forall_mem_cons.mpr ⟨trivial, List.forall_mem_cons.mpr ⟨trivial, List.forall_mem_cons.mpr ⟨trivial, fun _ h => nomatch h⟩⟩⟩) ?_
  show qW g l M_X7_movePanel 7 818 0 [some (vr a0), some (vi a1), some (vi a2), none, none, none] [] σ Post
  refine wp_aload_n dX7_movePanel_0 rfl ?_
  refine wp_iload_n dX7_movePanel_1 rfl ?_
  obtain ⟨hk2, h⟩ := h
  obtain ⟨Mid3, MidX4, hm1, hk5, hx6⟩ := h
  refine wp_callV (M' := M_X7_needPanel) (As := [vi a1]) (st := []) (ci := 7) dX7_movePanel_2 cee_X7_needPanel np_X7_needPanel rfl ⟨Nat.le_of_ble_eq_true rfl, Nat.le_of_ble_eq_true rfl, Nat.le_of_ble_eq_true rfl, Nat.le_of_ble_eq_true rfl⟩ wd_547 wd_549 sel_X7_needPanel rfl (Or.inl hk2) (q_small_of (Nat.le_of_ble_eq_true rfl)) hm1 (q_kTr (fun σ7 v9 hM8 => ?_)) (q_kXr rfl hx6)
  refine wp_less (ac2 := 6) (as2 := 812) (Nat.le_of_ble_eq_true rfl) (Nat.le_of_ble_eq_true rfl) ?_
  have h := hk5 σ7 v9 hM8
  refine wp_astore_n' (ls' := [some (vr a0), some (vi a1), some (vi a2), some (vr v9), none, none]) dX7_movePanel_5 (Nat.le_of_ble_eq_true rfl) rfl ?_
  refine wp_aload_n dX7_movePanel_6 rfl ?_
  obtain ⟨hk10, h⟩ := h
  refine wp_get (v := vr (gP σ7 201 v9)) dX7_movePanel_7 fl_RX7_103 hk10 rfl ?_
  refine wp_nmR (fun x11 hx12 => ?_)
  replace h := h x11 hx12
  refine wp_astore' (ls' := [some (vr a0), some (vi a1), some (vi a2), some (vr v9), some (vr x11), none]) dX7_movePanel_10 (Nat.le_of_ble_eq_true rfl) rfl ?_
  refine wp_iload_n dX7_movePanel_12 rfl ?_
  refine wp_aload dX7_movePanel_13 rfl ?_
  obtain ⟨hk13, h⟩ := h
  refine wp_get (v := vr (gP σ7 161 x11)) dX7_movePanel_15 fl_RX7_64 hk13 rfl ?_
  obtain ⟨hk15, h⟩ := h
  obtain ⟨v16, hm14, h⟩ := h
  refine wp_callV (M' := M_Jx4a65c_size_8abf5) (As := []) (st := [vi a2]) (ci := 9) dX7_movePanel_18 cee_Jx4a65c_size_8abf5 np_Jx4a65c_size_8abf5 rfl ⟨Nat.le_of_ble_eq_true rfl, Nat.le_of_ble_eq_true rfl, Nat.le_of_ble_eq_true rfl, Nat.le_of_ble_eq_true rfl⟩ wd_112 wd_113 wd_114 rfl (Or.inr ⟨hk15, rfl⟩) (q_small_of (Nat.le_of_ble_eq_true rfl)) hm14 (q_kPi ?_) q_kPi0
  refine wp_less (ac2 := 6) (as2 := 812) (Nat.le_of_ble_eq_true rfl) (Nat.le_of_ble_eq_true rfl) ?_
  refine wp_iconst dX7_movePanel_21 ?_
  refine wp_isub dX7_movePanel_22 ?_
  obtain ⟨Mid18, MidX19, hm17, hk20, hx21⟩ := h
  refine wp_callS (M' := M_X7_needPlace) (As := [vi a2, vi (v16 - 1)]) (st := []) dX7_movePanel_23 cee_X7_needPlace np_X7_needPlace rfl ⟨Nat.le_of_ble_eq_true rfl, Nat.le_of_ble_eq_true rfl, Nat.le_of_ble_eq_true rfl, Nat.le_of_ble_eq_true rfl⟩ wd_315 wd_316 (q_small_of (Nat.le_of_ble_eq_true rfl)) hm17 (q_kTv (fun σ22 hM23 => ?_)) (q_kXv rfl hx21)
  refine wp_less (ac2 := 5) (as2 := 806) (Nat.le_of_ble_eq_true rfl) (Nat.le_of_ble_eq_true rfl) ?_
  have h := hk20 σ22 hM23
  refine wp_aload dX7_movePanel_26 rfl ?_
  refine wp_aload_n dX7_movePanel_28 rfl ?_
  obtain ⟨hk25, h⟩ := h
  obtain ⟨v26, hm24, h⟩ := h
  refine wp_callV (M' := M_X4_indexOf) (As := [vr v9]) (st := []) (ci := 4) dX7_movePanel_29 cee_X4_indexOf np_X4_indexOf rfl ⟨Nat.le_of_ble_eq_true rfl, Nat.le_of_ble_eq_true rfl, Nat.le_of_ble_eq_true rfl, Nat.le_of_ble_eq_true rfl⟩ wd_552 wd_553 wd_554 rfl (Or.inl hk25) (q_small_of (Nat.le_of_ble_eq_true rfl)) hm24 (q_kPi ?_) q_kPi0
  refine wp_less (ac2 := 5) (as2 := 806) (Nat.le_of_ble_eq_true rfl) (Nat.le_of_ble_eq_true rfl) ?_
  refine wp_istore' (ls' := [some (vr a0), some (vi a1), some (vi a2), some (vr v9), some (vr x11), some (vi v26)]) dX7_movePanel_32 (Nat.le_of_ble_eq_true rfl) rfl ?_
  refine wp_aload dX7_movePanel_34 rfl ?_
  refine wp_iload dX7_movePanel_36 rfl ?_
  obtain ⟨Mid28, hm27, hk30⟩ := h
  refine wp_callV (M' := M_X4_takeOut) (As := [vi v26]) (st := []) (ci := 4) dX7_movePanel_38 cee_X4_takeOut np_X4_takeOut rfl ⟨Nat.le_of_ble_eq_true rfl, Nat.le_of_ble_eq_true rfl, Nat.le_of_ble_eq_true rfl, Nat.le_of_ble_eq_true rfl⟩ wd_509 wd_510 wd_511 rfl (Or.inl hk25) (q_small_of (Nat.le_of_ble_eq_true rfl)) hm27 (q_kTv0 (fun σ32 hM33 => ?_)) q_kTv00
  refine wp_less (ac2 := 5) (as2 := 806) (Nat.le_of_ble_eq_true rfl) (Nat.le_of_ble_eq_true rfl) ?_
  have h := hk30 σ32 hM33
  refine wp_aload dX7_movePanel_41 rfl ?_
  refine wp_iload_n dX7_movePanel_43 rfl ?_
  refine wp_aload_n dX7_movePanel_44 rfl ?_
  obtain ⟨hk35, h⟩ := h
  obtain ⟨Mid36, hm34, hk38⟩ := h
  refine wp_callV (M' := M_X4_putIn) (As := [vi a2, vr v9]) (st := []) (ci := 4) dX7_movePanel_45 cee_X4_putIn np_X4_putIn rfl ⟨Nat.le_of_ble_eq_true rfl, Nat.le_of_ble_eq_true rfl, Nat.le_of_ble_eq_true rfl, Nat.le_of_ble_eq_true rfl⟩ wd_433 wd_434 wd_435 rfl (Or.inl hk35) (q_small_of (Nat.le_of_ble_eq_true rfl)) hm34 (q_kTv0 (fun σ40 hM41 => ?_)) q_kTv00
  refine wp_less (ac2 := 3) (as2 := 406) (Nat.le_of_ble_eq_true rfl) (Nat.le_of_ble_eq_true rfl) ?_
  have h := hk38 σ40 hM41
  refine wp_aload_n dX7_movePanel_48 rfl ?_
  obtain ⟨hk42, h⟩ := h
  refine wp_get (v := vr (gP σ40 283 a0)) dX7_movePanel_49 fl_RX7_25 hk42 rfl ?_
  refine wp_aload dX7_movePanel_52 rfl ?_
  obtain ⟨hk44, h⟩ := h
  obtain ⟨Mid45, hm43, hk47⟩ := h
  refine wp_callV (M' := M_X3_tryPage) (As := [vr x11]) (st := []) (ci := 3) dX7_movePanel_54 cee_X3_tryPage np_X3_tryPage rfl ⟨Nat.le_of_ble_eq_true rfl, Nat.le_of_ble_eq_true rfl, Nat.le_of_ble_eq_true rfl, Nat.le_of_ble_eq_true rfl⟩ wd_447 wd_448 wd_449 rfl (Or.inl hk44) (q_small_of (Nat.le_of_ble_eq_true rfl)) hm43 (q_kTi0 (fun σ49 v51 hM50 => ?_)) q_kTi00
  refine wp_less (ac2 := 3) (as2 := 406) (Nat.le_of_ble_eq_true rfl) (Nat.le_of_ble_eq_true rfl) ?_
  have h := hk47 σ49 v51 hM50
  obtain ⟨hr52, h⟩ := h
  refine wp_if_eq (tgt := 67) dX7_movePanel_57 (by decide) hr52 (fun c53 => ?_) (fun c53 => ?_)
  · replace h := h.1 c53
    refine wp_aload dX7_movePanel_67 rfl ?_
    refine wp_iload_n dX7_movePanel_69 rfl ?_
    obtain ⟨hk55, h⟩ := h
    obtain ⟨Mid56, hm54, hk58⟩ := h
    refine wp_callV (M' := M_X4_takeOut) (As := [vi a2]) (st := []) (ci := 4) dX7_movePanel_70 cee_X4_takeOut np_X4_takeOut rfl ⟨Nat.le_of_ble_eq_true rfl, Nat.le_of_ble_eq_true rfl, Nat.le_of_ble_eq_true rfl, Nat.le_of_ble_eq_true rfl⟩ wd_509 wd_510 wd_511 rfl (Or.inl hk55) (q_small_of (Nat.le_of_ble_eq_true rfl)) hm54 (q_kTv0 (fun σ60 hM61 => ?_)) q_kTv00
    refine wp_less (ac2 := 3) (as2 := 406) (Nat.le_of_ble_eq_true rfl) (Nat.le_of_ble_eq_true rfl) ?_
    have h := hk58 σ60 hM61
    refine wp_aload dX7_movePanel_73 rfl ?_
    refine wp_iload dX7_movePanel_75 rfl ?_
    refine wp_aload_n dX7_movePanel_77 rfl ?_
    obtain ⟨hk63, h⟩ := h
    obtain ⟨Mid64, hm62, hk66⟩ := h
    refine wp_callV (M' := M_X4_putIn) (As := [vi v26, vr v9]) (st := []) (ci := 4) dX7_movePanel_78 cee_X4_putIn np_X4_putIn rfl ⟨Nat.le_of_ble_eq_true rfl, Nat.le_of_ble_eq_true rfl, Nat.le_of_ble_eq_true rfl, Nat.le_of_ble_eq_true rfl⟩ wd_433 wd_434 wd_435 rfl (Or.inl hk63) (q_small_of (Nat.le_of_ble_eq_true rfl)) hm62 (q_kTv0 (fun σ68 hM69 => ?_)) q_kTv00
    refine wp_less (ac2 := 1) (as2 := 6) (Nat.le_of_ble_eq_true rfl) (Nat.le_of_ble_eq_true rfl) ?_
    have h := hk66 σ68 hM69
    exact wp_throw (n := 0) (text := "the page cannot be laid or read") (by decide) rfl rfl (by decide +kernel) dX7_movePanel_81 dX7_movePanel_84 dX7_movePanel_85 dX7_movePanel_87 dX7_movePanel_90 (q_small_of (Nat.le_of_ble_eq_true rfl)) ⟨Nat.le_of_ble_eq_true rfl, Nat.le_of_ble_eq_true rfl⟩ (Nat.le_of_ble_eq_true rfl) (Nat.le_of_ble_eq_true rfl) h
  · replace h := h.2 c53
    refine wp_aload_n dX7_movePanel_60 rfl ?_
    obtain ⟨hk71, h⟩ := h
    obtain ⟨v72, hm70, h⟩ := h
    refine wp_callV (M' := M_X7_answersComeLater) (As := []) (st := []) (ci := 7) dX7_movePanel_61 cee_X7_answersComeLater np_X7_answersComeLater rfl ⟨Nat.le_of_ble_eq_true rfl, Nat.le_of_ble_eq_true rfl, Nat.le_of_ble_eq_true rfl, Nat.le_of_ble_eq_true rfl⟩ wd_556 wd_558 sel_X7_answersComeLater rfl (Or.inl hk71) (q_small_of (Nat.le_of_ble_eq_true rfl)) hm70 (q_kPi ?_) q_kPi0
    refine wp_less (ac2 := 3) (as2 := 406) (Nat.le_of_ble_eq_true rfl) (Nat.le_of_ble_eq_true rfl) ?_
    obtain ⟨hr73, h⟩ := h
    refine wp_if_ne (tgt := 91) dX7_movePanel_64 (by decide) hr73 (fun c74 => ?_) (fun c74 => ?_)
    · replace h := h.1 c74
      refine wp_aload dX7_movePanel_91 rfl ?_
      obtain ⟨hk76, h⟩ := h
      obtain ⟨Mid77, hm75, hk79⟩ := h
      refine wp_callV (M' := M_X4_keepTrial) (As := []) (st := []) (ci := 4) dX7_movePanel_93 cee_X4_keepTrial np_X4_keepTrial rfl ⟨Nat.le_of_ble_eq_true rfl, Nat.le_of_ble_eq_true rfl, Nat.le_of_ble_eq_true rfl, Nat.le_of_ble_eq_true rfl⟩ wd_522 wd_523 wd_524 rfl (Or.inl hk76) (q_small_of (Nat.le_of_ble_eq_true rfl)) hm75 (q_kTi0 (fun σ81 v83 hM82 => ?_)) q_kTi00
      refine wp_less (ac2 := 3) (as2 := 406) (Nat.le_of_ble_eq_true rfl) (Nat.le_of_ble_eq_true rfl) ?_
      have h := hk79 σ81 v83 hM82
      exact wp_ret_i dX7_movePanel_96 rfl rfl h
    · replace h := h.2 c74
      refine wp_aload dX7_movePanel_67 rfl ?_
      refine wp_iload_n dX7_movePanel_69 rfl ?_
      obtain ⟨hk85, h⟩ := h
      obtain ⟨Mid86, hm84, hk88⟩ := h
      refine wp_callV (M' := M_X4_takeOut) (As := [vi a2]) (st := []) (ci := 4) dX7_movePanel_70 cee_X4_takeOut np_X4_takeOut rfl ⟨Nat.le_of_ble_eq_true rfl, Nat.le_of_ble_eq_true rfl, Nat.le_of_ble_eq_true rfl, Nat.le_of_ble_eq_true rfl⟩ wd_509 wd_510 wd_511 rfl (Or.inl hk85) (q_small_of (Nat.le_of_ble_eq_true rfl)) hm84 (q_kTv0 (fun σ90 hM91 => ?_)) q_kTv00
      refine wp_less (ac2 := 3) (as2 := 406) (Nat.le_of_ble_eq_true rfl) (Nat.le_of_ble_eq_true rfl) ?_
      have h := hk88 σ90 hM91
      refine wp_aload dX7_movePanel_73 rfl ?_
      refine wp_iload dX7_movePanel_75 rfl ?_
      refine wp_aload_n dX7_movePanel_77 rfl ?_
      obtain ⟨hk93, h⟩ := h
      obtain ⟨Mid94, hm92, hk96⟩ := h
      refine wp_callV (M' := M_X4_putIn) (As := [vi v26, vr v9]) (st := []) (ci := 4) dX7_movePanel_78 cee_X4_putIn np_X4_putIn rfl ⟨Nat.le_of_ble_eq_true rfl, Nat.le_of_ble_eq_true rfl, Nat.le_of_ble_eq_true rfl, Nat.le_of_ble_eq_true rfl⟩ wd_433 wd_434 wd_435 rfl (Or.inl hk93) (q_small_of (Nat.le_of_ble_eq_true rfl)) hm92 (q_kTv0 (fun σ98 hM99 => ?_)) q_kTv00
      refine wp_less (ac2 := 1) (as2 := 6) (Nat.le_of_ble_eq_true rfl) (Nat.le_of_ble_eq_true rfl) ?_
      have h := hk96 σ98 hM99
      exact wp_throw (n := 0) (text := "the page cannot be laid or read") (by decide) rfl rfl (by decide +kernel) dX7_movePanel_81 dX7_movePanel_84 dX7_movePanel_85 dX7_movePanel_87 dX7_movePanel_90 (q_small_of (Nat.le_of_ble_eq_true rfl)) ⟨Nat.le_of_ble_eq_true rfl, Nat.le_of_ble_eq_true rfl⟩ (Nat.le_of_ble_eq_true rfl) (Nat.le_of_ble_eq_true rfl) h

set_option maxRecDepth 100000 in
set_option maxHeartbeats 4000000 in
theorem wm_X7_cutPanel {g : qG} {l : Launch} (hl : l.stackTraces = false) {a0 : Nat} {a1 : Int} {σ : qS} {Post : qS → qRs → Prop}
    (h : gK σ a0 = 8 ∧ (∃ (Mid3 : qS → Nat → Prop) (MidX4 : qS → Nat → Prop), qMet g l M_X7_needPanel [vr a0, vi a1] σ (qTr Mid3 MidX4) ∧ (∀ (σ7 : qS) (v9 : Nat), Mid3 σ7 v9 → gK σ7 v9 = 6 ∧ ∀ x11 : Nat, x11 = gP σ7 201 v9 → gK σ7 a0 = 8 ∧ (∃ v15 : Int, qMet g l M_X7_isAnsweredFromElsewhere [vr a0, vr v9] σ7 (qPi σ7 v15) ∧ (qR v15 ∧ ((v15 = 0 → (∃ v19 : Nat, qMet g l M_X7_readBehind [vr a0, vr v9] σ7 (qPr σ7 v19) ∧ (((¬ v19 = 0 → gK σ7 x11 = 5 ∧ (∃ v23 : Int, qMet g l M_X4_indexOf [vr x11, vr v9] σ7 (qPi σ7 v23) ∧ ((∃ Mid25 : qS → Prop, qMet g l M_X4_takeOut [vr x11, vi v23] σ7 (qTv0 Mid25) ∧ ∀ (σ29 : qS), Mid25 σ29 → gK σ29 a0 = 8 ∧ gK σ29 (gP σ29 283 a0) = 4 ∧ (∃ Mid34 : qS → Int → Prop, qMet g l M_X3_tryPage [vr (gP σ29 283 a0), vr x11] σ29 (qTi0 Mid34) ∧ ∀ (σ38 : qS) (v40 : Int), Mid34 σ38 v40 → qR v40 ∧ ((¬ v40 = 0 → gK σ38 x11 = 5 ∧ (∃ Mid45 : qS → Int → Prop, qMet g l M_X4_keepTrial [vr x11] σ38 (qTi0 Mid45) ∧ ∀ (σ49 : qS) (v51 : Int), Mid45 σ49 v51 → gK σ49 v9 = 6 ∧ (∃ Mid54 : qS → Prop, qMet g l M_X5_leave [vr v9] σ49 (qTv0 Mid54) ∧ ∀ (σ58 : qS), Mid54 σ58 → gK σ58 a0 = 8 ∧ gK σ58 (gP σ58 284 a0) = 7 ∧ (∃ Mid63 : qS → Prop, qMet g l M_X6_forget [vr (gP σ58 284 a0), vr v9, vr v19] σ58 (qTv0 Mid63) ∧ ∀ (σ67 : qS), Mid63 σ67 → gK σ67 v9 = 6 ∧ gK σ67 (gP σ67 206 v9) = 50 ∧ (∃ v72 : Int, qMet g l M_Jx4a65c_size_8abf5 [vr (gP σ67 206 v9)] σ67 (qPi σ67 v72) ∧ (Post σ67 (.inl (some (vi v72))))))))) ∧ (v40 = 0 → gK σ38 x11 = 5 ∧ (∃ Mid75 : qS → Prop, qMet g l M_X4_putIn [vr x11, vi v23, vr v9] σ38 (qTv0 Mid75) ∧ ∀ (σ79 : qS), Mid75 σ79 → Post σ79 (.inr 0))))))))) ∧ (v19 = 0 → (∃ v82 : Nat, qMet g l M_X7_readAheadOf [vr a0, vr v9] σ7 (qPr σ7 v82) ∧ (gK σ7 x11 = 5 ∧ (∃ v85 : Int, qMet g l M_X4_indexOf [vr x11, vr v9] σ7 (qPi σ7 v85) ∧ ((∃ Mid87 : qS → Prop, qMet g l M_X4_takeOut [vr x11, vi v85] σ7 (qTv0 Mid87) ∧ ∀ (σ91 : qS), Mid87 σ91 → gK σ91 a0 = 8 ∧ gK σ91 (gP σ91 283 a0) = 4 ∧ (∃ Mid96 : qS → Int → Prop, qMet g l M_X3_tryPage [vr (gP σ91 283 a0), vr x11] σ91 (qTi0 Mid96) ∧ ∀ (σ100 : qS) (v102 : Int), Mid96 σ100 v102 → qR v102 ∧ ((¬ v102 = 0 → gK σ100 x11 = 5 ∧ (∃ Mid107 : qS → Int → Prop, qMet g l M_X4_keepTrial [vr x11] σ100 (qTi0 Mid107) ∧ ∀ (σ111 : qS) (v113 : Int), Mid107 σ111 v113 → gK σ111 v9 = 6 ∧ (∃ Mid116 : qS → Prop, qMet g l M_X5_leave [vr v9] σ111 (qTv0 Mid116) ∧ ∀ (σ120 : qS), Mid116 σ120 → gK σ120 a0 = 8 ∧ gK σ120 (gP σ120 284 a0) = 7 ∧ (∃ Mid125 : qS → Prop, qMet g l M_X6_forget [vr (gP σ120 284 a0), vr v9, vr v82] σ120 (qTv0 Mid125) ∧ ∀ (σ129 : qS), Mid125 σ129 → gK σ129 v9 = 6 ∧ gK σ129 (gP σ129 206 v9) = 50 ∧ (∃ v134 : Int, qMet g l M_Jx4a65c_size_8abf5 [vr (gP σ129 206 v9)] σ129 (qPi σ129 v134) ∧ (Post σ129 (.inl (some (vi v134))))))))) ∧ (v102 = 0 → gK σ100 x11 = 5 ∧ (∃ Mid137 : qS → Prop, qMet g l M_X4_putIn [vr x11, vi v85, vr v9] σ100 (qTv0 Mid137) ∧ ∀ (σ141 : qS), Mid137 σ141 → Post σ141 (.inr 0))))))))))))))) ∧ (¬ (v15 = 0) → Post σ7 (.inr 0)))))) ∧ ∀ (σ9 : qS) (n9 : Nat), MidX4 σ9 n9 → Post σ9 (.inr n9))) : qMet g l M_X7_cutPanel [vr a0, vi a1] σ Post := by
  refine qMet_of hl (by decide +kernel) (Nat.le_of_ble_eq_true rfl) (List.forall_mem_cons.mpr ⟨trivial, List.forall_mem_cons.mpr ⟨trivial, fun _ h => nomatch h⟩⟩) ?_
  show qW g l M_X7_cutPanel 5 418 0 [some (vr a0), some (vi a1), none, none, none, none] [] σ Post
  refine wp_aload_n dX7_cutPanel_0 rfl ?_
  refine wp_iload_n dX7_cutPanel_1 rfl ?_
  obtain ⟨hk2, h⟩ := h
  obtain ⟨Mid3, MidX4, hm1, hk5, hx6⟩ := h
  refine wp_callV (M' := M_X7_needPanel) (As := [vi a1]) (st := []) (ci := 7) dX7_cutPanel_2 cee_X7_needPanel np_X7_needPanel rfl ⟨Nat.le_of_ble_eq_true rfl, Nat.le_of_ble_eq_true rfl, Nat.le_of_ble_eq_true rfl, Nat.le_of_ble_eq_true rfl⟩ wd_547 wd_549 sel_X7_needPanel rfl (Or.inl hk2) (q_small_of (Nat.le_of_ble_eq_true rfl)) hm1 (q_kTr (fun σ7 v9 hM8 => ?_)) (q_kXr rfl hx6)
  refine wp_less (ac2 := 4) (as2 := 412) (Nat.le_of_ble_eq_true rfl) (Nat.le_of_ble_eq_true rfl) ?_
  have h := hk5 σ7 v9 hM8
  refine wp_astore_n' (ls' := [some (vr a0), some (vi a1), some (vr v9), none, none, none]) dX7_cutPanel_5 (Nat.le_of_ble_eq_true rfl) rfl ?_
  refine wp_aload_n dX7_cutPanel_6 rfl ?_
  obtain ⟨hk10, h⟩ := h
  refine wp_get (v := vr (gP σ7 201 v9)) dX7_cutPanel_7 fl_RX7_103 hk10 rfl ?_
  refine wp_nmR (fun x11 hx12 => ?_)
  replace h := h x11 hx12
  refine wp_astore_n' (ls' := [some (vr a0), some (vi a1), some (vr v9), some (vr x11), none, none]) dX7_cutPanel_10 (Nat.le_of_ble_eq_true rfl) rfl ?_
  refine wp_aload_n dX7_cutPanel_11 rfl ?_
  refine wp_aload_n dX7_cutPanel_12 rfl ?_
  obtain ⟨hk14, h⟩ := h
  obtain ⟨v15, hm13, h⟩ := h
  refine wp_callV (M' := M_X7_isAnsweredFromElsewhere) (As := [vr v9]) (st := []) (ci := 7) dX7_cutPanel_13 cee_X7_isAnsweredFromElsewhere np_X7_isAnsweredFromElsewhere rfl ⟨Nat.le_of_ble_eq_true rfl, Nat.le_of_ble_eq_true rfl, Nat.le_of_ble_eq_true rfl, Nat.le_of_ble_eq_true rfl⟩ wd_575 wd_577 sel_X7_isAnsweredFromElsewhere rfl (Or.inl hk14) (q_small_of (Nat.le_of_ble_eq_true rfl)) hm13 (q_kPi ?_) q_kPi0
  refine wp_less (ac2 := 4) (as2 := 412) (Nat.le_of_ble_eq_true rfl) (Nat.le_of_ble_eq_true rfl) ?_
  obtain ⟨hr16, h⟩ := h
  refine wp_if_eq (tgt := 29) dX7_cutPanel_16 (by decide) hr16 (fun c17 => ?_) (fun c17 => ?_)
  · replace h := h.1 c17
    refine wp_aload_n dX7_cutPanel_29 rfl ?_
    refine wp_aload_n dX7_cutPanel_30 rfl ?_
    obtain ⟨v19, hm18, h⟩ := h
    refine wp_callV (M' := M_X7_readBehind) (As := [vr v9]) (st := []) (ci := 7) dX7_cutPanel_31 cee_X7_readBehind np_X7_readBehind rfl ⟨Nat.le_of_ble_eq_true rfl, Nat.le_of_ble_eq_true rfl, Nat.le_of_ble_eq_true rfl, Nat.le_of_ble_eq_true rfl⟩ wd_580 wd_582 sel_X7_readBehind rfl (Or.inl hk14) (q_small_of (Nat.le_of_ble_eq_true rfl)) hm18 (q_kPr ?_) q_kPr0
    refine wp_less (ac2 := 4) (as2 := 412) (Nat.le_of_ble_eq_true rfl) (Nat.le_of_ble_eq_true rfl) ?_
    refine wp_astore' (ls' := [some (vr a0), some (vi a1), some (vr v9), some (vr x11), some (vr v19), none]) dX7_cutPanel_34 (Nat.le_of_ble_eq_true rfl) rfl ?_
    refine wp_aload dX7_cutPanel_36 rfl ?_
    refine wp_ifnonnull (tgt := 48) dX7_cutPanel_38 (by decide) (fun c20 => ?_) (fun c20 => ?_)
    · replace h := h.1 c20
      refine wp_aload_n dX7_cutPanel_48 rfl ?_
      refine wp_aload_n dX7_cutPanel_49 rfl ?_
      obtain ⟨hk22, h⟩ := h
      obtain ⟨v23, hm21, h⟩ := h
      refine wp_callV (M' := M_X4_indexOf) (As := [vr v9]) (st := []) (ci := 4) dX7_cutPanel_50 cee_X4_indexOf np_X4_indexOf rfl ⟨Nat.le_of_ble_eq_true rfl, Nat.le_of_ble_eq_true rfl, Nat.le_of_ble_eq_true rfl, Nat.le_of_ble_eq_true rfl⟩ wd_552 wd_553 wd_554 rfl (Or.inl hk22) (q_small_of (Nat.le_of_ble_eq_true rfl)) hm21 (q_kPi ?_) q_kPi0
      refine wp_less (ac2 := 4) (as2 := 412) (Nat.le_of_ble_eq_true rfl) (Nat.le_of_ble_eq_true rfl) ?_
      refine wp_istore' (ls' := [some (vr a0), some (vi a1), some (vr v9), some (vr x11), some (vr v19), some (vi v23)]) dX7_cutPanel_53 (Nat.le_of_ble_eq_true rfl) rfl ?_
      refine wp_aload_n dX7_cutPanel_55 rfl ?_
      refine wp_iload dX7_cutPanel_56 rfl ?_
      obtain ⟨Mid25, hm24, hk27⟩ := h
      refine wp_callV (M' := M_X4_takeOut) (As := [vi v23]) (st := []) (ci := 4) dX7_cutPanel_58 cee_X4_takeOut np_X4_takeOut rfl ⟨Nat.le_of_ble_eq_true rfl, Nat.le_of_ble_eq_true rfl, Nat.le_of_ble_eq_true rfl, Nat.le_of_ble_eq_true rfl⟩ wd_509 wd_510 wd_511 rfl (Or.inl hk22) (q_small_of (Nat.le_of_ble_eq_true rfl)) hm24 (q_kTv0 (fun σ29 hM30 => ?_)) q_kTv00
      refine wp_less (ac2 := 4) (as2 := 412) (Nat.le_of_ble_eq_true rfl) (Nat.le_of_ble_eq_true rfl) ?_
      have h := hk27 σ29 hM30
      refine wp_aload_n dX7_cutPanel_61 rfl ?_
      obtain ⟨hk31, h⟩ := h
      refine wp_get (v := vr (gP σ29 283 a0)) dX7_cutPanel_62 fl_RX7_25 hk31 rfl ?_
      refine wp_aload_n dX7_cutPanel_65 rfl ?_
      obtain ⟨hk33, h⟩ := h
      obtain ⟨Mid34, hm32, hk36⟩ := h
      refine wp_callV (M' := M_X3_tryPage) (As := [vr x11]) (st := []) (ci := 3) dX7_cutPanel_66 cee_X3_tryPage np_X3_tryPage rfl ⟨Nat.le_of_ble_eq_true rfl, Nat.le_of_ble_eq_true rfl, Nat.le_of_ble_eq_true rfl, Nat.le_of_ble_eq_true rfl⟩ wd_447 wd_448 wd_449 rfl (Or.inl hk33) (q_small_of (Nat.le_of_ble_eq_true rfl)) hm32 (q_kTi0 (fun σ38 v40 hM39 => ?_)) q_kTi00
      refine wp_less (ac2 := 4) (as2 := 412) (Nat.le_of_ble_eq_true rfl) (Nat.le_of_ble_eq_true rfl) ?_
      have h := hk36 σ38 v40 hM39
      obtain ⟨hr41, h⟩ := h
      refine wp_if_ne (tgt := 89) dX7_cutPanel_69 (by decide) hr41 (fun c42 => ?_) (fun c42 => ?_)
      · replace h := h.1 c42
        refine wp_aload_n dX7_cutPanel_89 rfl ?_
        obtain ⟨hk44, h⟩ := h
        obtain ⟨Mid45, hm43, hk47⟩ := h
        refine wp_callV (M' := M_X4_keepTrial) (As := []) (st := []) (ci := 4) dX7_cutPanel_90 cee_X4_keepTrial np_X4_keepTrial rfl ⟨Nat.le_of_ble_eq_true rfl, Nat.le_of_ble_eq_true rfl, Nat.le_of_ble_eq_true rfl, Nat.le_of_ble_eq_true rfl⟩ wd_522 wd_523 wd_524 rfl (Or.inl hk44) (q_small_of (Nat.le_of_ble_eq_true rfl)) hm43 (q_kTi0 (fun σ49 v51 hM50 => ?_)) q_kTi00
        refine wp_less (ac2 := 4) (as2 := 412) (Nat.le_of_ble_eq_true rfl) (Nat.le_of_ble_eq_true rfl) ?_
        have h := hk47 σ49 v51 hM50
        refine wp_pop dX7_cutPanel_93 trivial ?_
        refine wp_aload_n dX7_cutPanel_94 rfl ?_
        obtain ⟨hk53, h⟩ := h
        obtain ⟨Mid54, hm52, hk56⟩ := h
        refine wp_callV (M' := M_X5_leave) (As := []) (st := []) (ci := 5) dX7_cutPanel_95 cee_X5_leave np_X5_leave rfl ⟨Nat.le_of_ble_eq_true rfl, Nat.le_of_ble_eq_true rfl, Nat.le_of_ble_eq_true rfl, Nat.le_of_ble_eq_true rfl⟩ wd_588 wd_589 wd_590 rfl (Or.inl hk53) (q_small_of (Nat.le_of_ble_eq_true rfl)) hm52 (q_kTv0 (fun σ58 hM59 => ?_)) q_kTv00
        refine wp_less (ac2 := 4) (as2 := 412) (Nat.le_of_ble_eq_true rfl) (Nat.le_of_ble_eq_true rfl) ?_
        have h := hk56 σ58 hM59
        refine wp_aload_n dX7_cutPanel_98 rfl ?_
        obtain ⟨hk60, h⟩ := h
        refine wp_get (v := vr (gP σ58 284 a0)) dX7_cutPanel_99 fl_RX7_32 hk60 rfl ?_
        refine wp_aload_n dX7_cutPanel_102 rfl ?_
        refine wp_aload dX7_cutPanel_103 rfl ?_
        obtain ⟨hk62, h⟩ := h
        obtain ⟨Mid63, hm61, hk65⟩ := h
        refine wp_callV (M' := M_X6_forget) (As := [vr v9, vr v19]) (st := []) (ci := 6) dX7_cutPanel_105 cee_X6_forget np_X6_forget rfl ⟨Nat.le_of_ble_eq_true rfl, Nat.le_of_ble_eq_true rfl, Nat.le_of_ble_eq_true rfl, Nat.le_of_ble_eq_true rfl⟩ wd_592 wd_593 wd_594 rfl (Or.inl hk62) (q_small_of (Nat.le_of_ble_eq_true rfl)) hm61 (q_kTv0 (fun σ67 hM68 => ?_)) q_kTv00
        refine wp_less (ac2 := 4) (as2 := 412) (Nat.le_of_ble_eq_true rfl) (Nat.le_of_ble_eq_true rfl) ?_
        have h := hk65 σ67 hM68
        refine wp_aload_n dX7_cutPanel_108 rfl ?_
        obtain ⟨hk69, h⟩ := h
        refine wp_get (v := vr (gP σ67 206 v9)) dX7_cutPanel_109 fl_RX7_137 hk69 rfl ?_
        obtain ⟨hk71, h⟩ := h
        obtain ⟨v72, hm70, h⟩ := h
        refine wp_callV (M' := M_Jx4a65c_size_8abf5) (As := []) (st := []) (ci := 9) dX7_cutPanel_112 cee_Jx4a65c_size_8abf5 np_Jx4a65c_size_8abf5 rfl ⟨Nat.le_of_ble_eq_true rfl, Nat.le_of_ble_eq_true rfl, Nat.le_of_ble_eq_true rfl, Nat.le_of_ble_eq_true rfl⟩ wd_112 wd_113 wd_114 rfl (Or.inr ⟨hk71, rfl⟩) (q_small_of (Nat.le_of_ble_eq_true rfl)) hm70 (q_kPi ?_) q_kPi0
        refine wp_less (ac2 := 4) (as2 := 412) (Nat.le_of_ble_eq_true rfl) (Nat.le_of_ble_eq_true rfl) ?_
        exact wp_ret_i dX7_cutPanel_115 rfl rfl h
      · replace h := h.2 c42
        refine wp_aload_n dX7_cutPanel_72 rfl ?_
        refine wp_iload dX7_cutPanel_73 rfl ?_
        refine wp_aload_n dX7_cutPanel_75 rfl ?_
        obtain ⟨hk74, h⟩ := h
        obtain ⟨Mid75, hm73, hk77⟩ := h
        refine wp_callV (M' := M_X4_putIn) (As := [vi v23, vr v9]) (st := []) (ci := 4) dX7_cutPanel_76 cee_X4_putIn np_X4_putIn rfl ⟨Nat.le_of_ble_eq_true rfl, Nat.le_of_ble_eq_true rfl, Nat.le_of_ble_eq_true rfl, Nat.le_of_ble_eq_true rfl⟩ wd_433 wd_434 wd_435 rfl (Or.inl hk74) (q_small_of (Nat.le_of_ble_eq_true rfl)) hm73 (q_kTv0 (fun σ79 hM80 => ?_)) q_kTv00
        refine wp_less (ac2 := 2) (as2 := 12) (Nat.le_of_ble_eq_true rfl) (Nat.le_of_ble_eq_true rfl) ?_
        have h := hk77 σ79 hM80
        exact wp_throw (n := 0) (text := "the page cannot be laid") (by decide) rfl rfl (by decide +kernel) dX7_cutPanel_79 dX7_cutPanel_82 dX7_cutPanel_83 dX7_cutPanel_85 dX7_cutPanel_88 (q_small_of (Nat.le_of_ble_eq_true rfl)) ⟨Nat.le_of_ble_eq_true rfl, Nat.le_of_ble_eq_true rfl⟩ (Nat.le_of_ble_eq_true rfl) (Nat.le_of_ble_eq_true rfl) h
    · replace h := h.2 c20
      refine wp_aload_n dX7_cutPanel_41 rfl ?_
      refine wp_aload_n dX7_cutPanel_42 rfl ?_
      obtain ⟨v82, hm81, h⟩ := h
      refine wp_callV (M' := M_X7_readAheadOf) (As := [vr v9]) (st := []) (ci := 7) dX7_cutPanel_43 cee_X7_readAheadOf np_X7_readAheadOf rfl ⟨Nat.le_of_ble_eq_true rfl, Nat.le_of_ble_eq_true rfl, Nat.le_of_ble_eq_true rfl, Nat.le_of_ble_eq_true rfl⟩ wd_584 wd_586 sel_X7_readAheadOf rfl (Or.inl hk14) (q_small_of (Nat.le_of_ble_eq_true rfl)) hm81 (q_kPr ?_) q_kPr0
      refine wp_less (ac2 := 4) (as2 := 412) (Nat.le_of_ble_eq_true rfl) (Nat.le_of_ble_eq_true rfl) ?_
      refine wp_astore' (ls' := [some (vr a0), some (vi a1), some (vr v9), some (vr x11), some (vr v82), none]) dX7_cutPanel_46 (Nat.le_of_ble_eq_true rfl) rfl ?_
      refine wp_aload_n dX7_cutPanel_48 rfl ?_
      refine wp_aload_n dX7_cutPanel_49 rfl ?_
      obtain ⟨hk84, h⟩ := h
      obtain ⟨v85, hm83, h⟩ := h
      refine wp_callV (M' := M_X4_indexOf) (As := [vr v9]) (st := []) (ci := 4) dX7_cutPanel_50 cee_X4_indexOf np_X4_indexOf rfl ⟨Nat.le_of_ble_eq_true rfl, Nat.le_of_ble_eq_true rfl, Nat.le_of_ble_eq_true rfl, Nat.le_of_ble_eq_true rfl⟩ wd_552 wd_553 wd_554 rfl (Or.inl hk84) (q_small_of (Nat.le_of_ble_eq_true rfl)) hm83 (q_kPi ?_) q_kPi0
      refine wp_less (ac2 := 4) (as2 := 412) (Nat.le_of_ble_eq_true rfl) (Nat.le_of_ble_eq_true rfl) ?_
      refine wp_istore' (ls' := [some (vr a0), some (vi a1), some (vr v9), some (vr x11), some (vr v82), some (vi v85)]) dX7_cutPanel_53 (Nat.le_of_ble_eq_true rfl) rfl ?_
      refine wp_aload_n dX7_cutPanel_55 rfl ?_
      refine wp_iload dX7_cutPanel_56 rfl ?_
      obtain ⟨Mid87, hm86, hk89⟩ := h
      refine wp_callV (M' := M_X4_takeOut) (As := [vi v85]) (st := []) (ci := 4) dX7_cutPanel_58 cee_X4_takeOut np_X4_takeOut rfl ⟨Nat.le_of_ble_eq_true rfl, Nat.le_of_ble_eq_true rfl, Nat.le_of_ble_eq_true rfl, Nat.le_of_ble_eq_true rfl⟩ wd_509 wd_510 wd_511 rfl (Or.inl hk84) (q_small_of (Nat.le_of_ble_eq_true rfl)) hm86 (q_kTv0 (fun σ91 hM92 => ?_)) q_kTv00
      refine wp_less (ac2 := 4) (as2 := 412) (Nat.le_of_ble_eq_true rfl) (Nat.le_of_ble_eq_true rfl) ?_
      have h := hk89 σ91 hM92
      refine wp_aload_n dX7_cutPanel_61 rfl ?_
      obtain ⟨hk93, h⟩ := h
      refine wp_get (v := vr (gP σ91 283 a0)) dX7_cutPanel_62 fl_RX7_25 hk93 rfl ?_
      refine wp_aload_n dX7_cutPanel_65 rfl ?_
      obtain ⟨hk95, h⟩ := h
      obtain ⟨Mid96, hm94, hk98⟩ := h
      refine wp_callV (M' := M_X3_tryPage) (As := [vr x11]) (st := []) (ci := 3) dX7_cutPanel_66 cee_X3_tryPage np_X3_tryPage rfl ⟨Nat.le_of_ble_eq_true rfl, Nat.le_of_ble_eq_true rfl, Nat.le_of_ble_eq_true rfl, Nat.le_of_ble_eq_true rfl⟩ wd_447 wd_448 wd_449 rfl (Or.inl hk95) (q_small_of (Nat.le_of_ble_eq_true rfl)) hm94 (q_kTi0 (fun σ100 v102 hM101 => ?_)) q_kTi00
      refine wp_less (ac2 := 4) (as2 := 412) (Nat.le_of_ble_eq_true rfl) (Nat.le_of_ble_eq_true rfl) ?_
      have h := hk98 σ100 v102 hM101
      obtain ⟨hr103, h⟩ := h
      refine wp_if_ne (tgt := 89) dX7_cutPanel_69 (by decide) hr103 (fun c104 => ?_) (fun c104 => ?_)
      · replace h := h.1 c104
        refine wp_aload_n dX7_cutPanel_89 rfl ?_
        obtain ⟨hk106, h⟩ := h
        obtain ⟨Mid107, hm105, hk109⟩ := h
        refine wp_callV (M' := M_X4_keepTrial) (As := []) (st := []) (ci := 4) dX7_cutPanel_90 cee_X4_keepTrial np_X4_keepTrial rfl ⟨Nat.le_of_ble_eq_true rfl, Nat.le_of_ble_eq_true rfl, Nat.le_of_ble_eq_true rfl, Nat.le_of_ble_eq_true rfl⟩ wd_522 wd_523 wd_524 rfl (Or.inl hk106) (q_small_of (Nat.le_of_ble_eq_true rfl)) hm105 (q_kTi0 (fun σ111 v113 hM112 => ?_)) q_kTi00
        refine wp_less (ac2 := 4) (as2 := 412) (Nat.le_of_ble_eq_true rfl) (Nat.le_of_ble_eq_true rfl) ?_
        have h := hk109 σ111 v113 hM112
        refine wp_pop dX7_cutPanel_93 trivial ?_
        refine wp_aload_n dX7_cutPanel_94 rfl ?_
        obtain ⟨hk115, h⟩ := h
        obtain ⟨Mid116, hm114, hk118⟩ := h
        refine wp_callV (M' := M_X5_leave) (As := []) (st := []) (ci := 5) dX7_cutPanel_95 cee_X5_leave np_X5_leave rfl ⟨Nat.le_of_ble_eq_true rfl, Nat.le_of_ble_eq_true rfl, Nat.le_of_ble_eq_true rfl, Nat.le_of_ble_eq_true rfl⟩ wd_588 wd_589 wd_590 rfl (Or.inl hk115) (q_small_of (Nat.le_of_ble_eq_true rfl)) hm114 (q_kTv0 (fun σ120 hM121 => ?_)) q_kTv00
        refine wp_less (ac2 := 4) (as2 := 412) (Nat.le_of_ble_eq_true rfl) (Nat.le_of_ble_eq_true rfl) ?_
        have h := hk118 σ120 hM121
        refine wp_aload_n dX7_cutPanel_98 rfl ?_
        obtain ⟨hk122, h⟩ := h
        refine wp_get (v := vr (gP σ120 284 a0)) dX7_cutPanel_99 fl_RX7_32 hk122 rfl ?_
        refine wp_aload_n dX7_cutPanel_102 rfl ?_
        refine wp_aload dX7_cutPanel_103 rfl ?_
        obtain ⟨hk124, h⟩ := h
        obtain ⟨Mid125, hm123, hk127⟩ := h
        refine wp_callV (M' := M_X6_forget) (As := [vr v9, vr v82]) (st := []) (ci := 6) dX7_cutPanel_105 cee_X6_forget np_X6_forget rfl ⟨Nat.le_of_ble_eq_true rfl, Nat.le_of_ble_eq_true rfl, Nat.le_of_ble_eq_true rfl, Nat.le_of_ble_eq_true rfl⟩ wd_592 wd_593 wd_594 rfl (Or.inl hk124) (q_small_of (Nat.le_of_ble_eq_true rfl)) hm123 (q_kTv0 (fun σ129 hM130 => ?_)) q_kTv00
        refine wp_less (ac2 := 4) (as2 := 412) (Nat.le_of_ble_eq_true rfl) (Nat.le_of_ble_eq_true rfl) ?_
        have h := hk127 σ129 hM130
        refine wp_aload_n dX7_cutPanel_108 rfl ?_
        obtain ⟨hk131, h⟩ := h
        refine wp_get (v := vr (gP σ129 206 v9)) dX7_cutPanel_109 fl_RX7_137 hk131 rfl ?_
        obtain ⟨hk133, h⟩ := h
        obtain ⟨v134, hm132, h⟩ := h
        refine wp_callV (M' := M_Jx4a65c_size_8abf5) (As := []) (st := []) (ci := 9) dX7_cutPanel_112 cee_Jx4a65c_size_8abf5 np_Jx4a65c_size_8abf5 rfl ⟨Nat.le_of_ble_eq_true rfl, Nat.le_of_ble_eq_true rfl, Nat.le_of_ble_eq_true rfl, Nat.le_of_ble_eq_true rfl⟩ wd_112 wd_113 wd_114 rfl (Or.inr ⟨hk133, rfl⟩) (q_small_of (Nat.le_of_ble_eq_true rfl)) hm132 (q_kPi ?_) q_kPi0
        refine wp_less (ac2 := 4) (as2 := 412) (Nat.le_of_ble_eq_true rfl) (Nat.le_of_ble_eq_true rfl) ?_
        exact wp_ret_i dX7_cutPanel_115 rfl rfl h
      · replace h := h.2 c104
        refine wp_aload_n dX7_cutPanel_72 rfl ?_
        refine wp_iload dX7_cutPanel_73 rfl ?_
        refine wp_aload_n dX7_cutPanel_75 rfl ?_
        obtain ⟨hk136, h⟩ := h
        obtain ⟨Mid137, hm135, hk139⟩ := h
        refine wp_callV (M' := M_X4_putIn) (As := [vi v85, vr v9]) (st := []) (ci := 4) dX7_cutPanel_76 cee_X4_putIn np_X4_putIn rfl ⟨Nat.le_of_ble_eq_true rfl, Nat.le_of_ble_eq_true rfl, Nat.le_of_ble_eq_true rfl, Nat.le_of_ble_eq_true rfl⟩ wd_433 wd_434 wd_435 rfl (Or.inl hk136) (q_small_of (Nat.le_of_ble_eq_true rfl)) hm135 (q_kTv0 (fun σ141 hM142 => ?_)) q_kTv00
        refine wp_less (ac2 := 2) (as2 := 12) (Nat.le_of_ble_eq_true rfl) (Nat.le_of_ble_eq_true rfl) ?_
        have h := hk139 σ141 hM142
        exact wp_throw (n := 0) (text := "the page cannot be laid") (by decide) rfl rfl (by decide +kernel) dX7_cutPanel_79 dX7_cutPanel_82 dX7_cutPanel_83 dX7_cutPanel_85 dX7_cutPanel_88 (q_small_of (Nat.le_of_ble_eq_true rfl)) ⟨Nat.le_of_ble_eq_true rfl, Nat.le_of_ble_eq_true rfl⟩ (Nat.le_of_ble_eq_true rfl) (Nat.le_of_ble_eq_true rfl) h
  · replace h := h.2 c17
    exact wp_throw (n := 0) (text := "a balloon of it is answered") (by decide) rfl rfl (by decide +kernel) dX7_cutPanel_19 dX7_cutPanel_22 dX7_cutPanel_23 dX7_cutPanel_25 dX7_cutPanel_28 (q_small_of (Nat.le_of_ble_eq_true rfl)) ⟨Nat.le_of_ble_eq_true rfl, Nat.le_of_ble_eq_true rfl⟩ (Nat.le_of_ble_eq_true rfl) (Nat.le_of_ble_eq_true rfl) h

set_option maxRecDepth 100000 in
set_option maxHeartbeats 4000000 in
theorem wm_X7_face {g : qG} {l : Launch} (hl : l.stackTraces = false) {a0 : Nat} {a1 : Int} {a2 : Int} {a3 : Int} {a4 : Int} {σ : qS} {Post : qS → qRs → Prop}
    (h : gK σ a0 = 8 ∧ (∃ (Mid3 : qS → Nat → Prop) (MidX4 : qS → Nat → Prop), qMet g l M_X7_needPanel [vr a0, vi a1] σ (qTr Mid3 MidX4) ∧ (∀ (σ7 : qS) (v9 : Nat), Mid3 σ7 v9 → (∃ (Mid11 : qS → Prop) (MidX12 : qS → Nat → Prop), qMet g l M_X7_needWithin [vi a2, vi 0, vi 23] σ7 (qTv Mid11 MidX12) ∧ (∀ (σ15 : qS), Mid11 σ15 → (∃ (Mid18 : qS → Prop) (MidX19 : qS → Nat → Prop), qMet g l M_X7_needWithin [vi a3, vi 1, vi 24] σ15 (qTv Mid18 MidX19) ∧ (∀ (σ22 : qS), Mid18 σ22 → (∃ (Mid25 : qS → Prop) (MidX26 : qS → Nat → Prop), qMet g l M_X7_needWithin [vi a4, vi 1, vi 8] σ22 (qTv Mid25 MidX26) ∧ (∀ (σ29 : qS), Mid25 σ29 → gK σ29 v9 = 6 ∧ gK σ29 (gP σ29 205 v9) = 50 ∧ (∃ v34 : Int, qMet g l M_Jx4a65c_size_8abf5 [vr (gP σ29 205 v9)] σ29 (qPi σ29 v34) ∧ (qR v34 ∧ ((v34 < 2 → ∀ r37 : Nat, gK σ29 r37 = 0 → r37 ≠ 0 → ∀ σ40 : qS, σ40 = nO σ29 r37 3 → (∃ Mid44 : qS → Prop, qMet g l M_X2_init [vr r37, vi a2, vi a3, vi a4] σ40 (qTv0 Mid44) ∧ ∀ (σ48 : qS), Mid44 σ48 → gK σ48 (gP σ29 205 v9) = 50 ∧ (∃ Mid52 : qS → Int → Prop, qMet g l M_Jx4a65c_add_9ea2d [vr (gP σ29 205 v9), vr r37] σ48 (qTi0 Mid52) ∧ ∀ (σ56 : qS) (v58 : Int), Mid52 σ56 v58 → gK σ56 a0 = 8 ∧ gK σ56 v9 = 6 ∧ gK σ56 (gP σ56 283 a0) = 4 ∧ (∃ Mid63 : qS → Int → Prop, qMet g l M_X3_tryPage [vr (gP σ56 283 a0), vr (gP σ56 201 v9)] σ56 (qTi0 Mid63) ∧ ∀ (σ67 : qS) (v69 : Int), Mid63 σ67 v69 → qR v69 ∧ ((¬ v69 = 0 → gK σ67 v9 = 6 ∧ gK σ67 (gP σ67 201 v9) = 5 ∧ (∃ Mid75 : qS → Int → Prop, qMet g l M_X4_keepTrial [vr (gP σ67 201 v9)] σ67 (qTi0 Mid75) ∧ ∀ (σ79 : qS) (v81 : Int), Mid75 σ79 v81 → gK σ79 v9 = 6 ∧ gK σ79 (gP σ79 207 v9) = 2 ∧ Post σ79 (.inl (some (vi (gI σ79 43 (gP σ79 207 v9))))))) ∧ (v69 = 0 → gK σ67 v9 = 6 ∧ (∃ Mid86 : qS → Prop, qMet g l M_X5_dropLastFace [vr v9] σ67 (qTv0 Mid86) ∧ ∀ (σ90 : qS), Mid86 σ90 → Post σ90 (.inr 0)))))))) ∧ (¬ (v34 < 2) → Post σ29 (.inr 0)))))) ∧ ∀ (σ9 : qS) (n9 : Nat), MidX26 σ9 n9 → Post σ9 (.inr n9))) ∧ ∀ (σ9 : qS) (n9 : Nat), MidX19 σ9 n9 → Post σ9 (.inr n9))) ∧ ∀ (σ9 : qS) (n9 : Nat), MidX12 σ9 n9 → Post σ9 (.inr n9))) ∧ ∀ (σ9 : qS) (n9 : Nat), MidX4 σ9 n9 → Post σ9 (.inr n9))) : qMet g l M_X7_face [vr a0, vi a1, vi a2, vi a3, vi a4] σ Post := by
  refine qMet_of hl (by decide +kernel) (Nat.le_of_ble_eq_true rfl) (List.forall_mem_cons.mpr ⟨trivial, List.forall_mem_cons.mpr ⟨trivial, List.forall_mem_cons.mpr ⟨trivial, List.forall_mem_cons.mpr ⟨trivial, List.forall_mem_cons.mpr ⟨trivial, fun _ h => nomatch h⟩⟩⟩⟩⟩) ?_
  show qW g l M_X7_face 9 439 0 [some (vr a0), some (vi a1), some (vi a2), some (vi a3), some (vi a4), none] [] σ Post
  refine wp_aload_n dX7_face_0 rfl ?_
  refine wp_iload_n dX7_face_1 rfl ?_
  obtain ⟨hk2, h⟩ := h
  obtain ⟨Mid3, MidX4, hm1, hk5, hx6⟩ := h
  refine wp_callV (M' := M_X7_needPanel) (As := [vi a1]) (st := []) (ci := 7) dX7_face_2 cee_X7_needPanel np_X7_needPanel rfl ⟨Nat.le_of_ble_eq_true rfl, Nat.le_of_ble_eq_true rfl, Nat.le_of_ble_eq_true rfl, Nat.le_of_ble_eq_true rfl⟩ wd_547 wd_549 sel_X7_needPanel rfl (Or.inl hk2) (q_small_of (Nat.le_of_ble_eq_true rfl)) hm1 (q_kTr (fun σ7 v9 hM8 => ?_)) (q_kXr rfl hx6)
  refine wp_less (ac2 := 8) (as2 := 433) (Nat.le_of_ble_eq_true rfl) (Nat.le_of_ble_eq_true rfl) ?_
  have h := hk5 σ7 v9 hM8
  refine wp_astore' (ls' := [some (vr a0), some (vi a1), some (vi a2), some (vi a3), some (vi a4), some (vr v9)]) dX7_face_5 (Nat.le_of_ble_eq_true rfl) rfl ?_
  refine wp_iload_n dX7_face_7 rfl ?_
  refine wp_iconst dX7_face_8 ?_
  refine wp_bipush dX7_face_9 (by decide) ?_
  obtain ⟨Mid11, MidX12, hm10, hk13, hx14⟩ := h
  refine wp_callS (M' := M_X7_needWithin) (As := [vi a2, vi 0, vi 23]) (st := []) dX7_face_11 cee_X7_needWithin np_X7_needWithin rfl ⟨Nat.le_of_ble_eq_true rfl, Nat.le_of_ble_eq_true rfl, Nat.le_of_ble_eq_true rfl, Nat.le_of_ble_eq_true rfl⟩ wd_319 wd_320 (q_small_of (Nat.le_of_ble_eq_true rfl)) hm10 (q_kTv (fun σ15 hM16 => ?_)) (q_kXv rfl hx14)
  refine wp_less (ac2 := 7) (as2 := 427) (Nat.le_of_ble_eq_true rfl) (Nat.le_of_ble_eq_true rfl) ?_
  have h := hk13 σ15 hM16
  refine wp_iload_n dX7_face_14 rfl ?_
  refine wp_iconst dX7_face_15 ?_
  refine wp_bipush dX7_face_16 (by decide) ?_
  obtain ⟨Mid18, MidX19, hm17, hk20, hx21⟩ := h
  refine wp_callS (M' := M_X7_needWithin) (As := [vi a3, vi 1, vi 24]) (st := []) dX7_face_18 cee_X7_needWithin np_X7_needWithin rfl ⟨Nat.le_of_ble_eq_true rfl, Nat.le_of_ble_eq_true rfl, Nat.le_of_ble_eq_true rfl, Nat.le_of_ble_eq_true rfl⟩ wd_319 wd_320 (q_small_of (Nat.le_of_ble_eq_true rfl)) hm17 (q_kTv (fun σ22 hM23 => ?_)) (q_kXv rfl hx21)
  refine wp_less (ac2 := 6) (as2 := 421) (Nat.le_of_ble_eq_true rfl) (Nat.le_of_ble_eq_true rfl) ?_
  have h := hk20 σ22 hM23
  refine wp_iload dX7_face_21 rfl ?_
  refine wp_iconst dX7_face_23 ?_
  refine wp_bipush dX7_face_24 (by decide) ?_
  obtain ⟨Mid25, MidX26, hm24, hk27, hx28⟩ := h
  refine wp_callS (M' := M_X7_needWithin) (As := [vi a4, vi 1, vi 8]) (st := []) dX7_face_26 cee_X7_needWithin np_X7_needWithin rfl ⟨Nat.le_of_ble_eq_true rfl, Nat.le_of_ble_eq_true rfl, Nat.le_of_ble_eq_true rfl, Nat.le_of_ble_eq_true rfl⟩ wd_319 wd_320 (q_small_of (Nat.le_of_ble_eq_true rfl)) hm24 (q_kTv (fun σ29 hM30 => ?_)) (q_kXv rfl hx28)
  refine wp_less (ac2 := 5) (as2 := 415) (Nat.le_of_ble_eq_true rfl) (Nat.le_of_ble_eq_true rfl) ?_
  have h := hk27 σ29 hM30
  refine wp_aload dX7_face_29 rfl ?_
  obtain ⟨hk31, h⟩ := h
  refine wp_get (v := vr (gP σ29 205 v9)) dX7_face_31 fl_RX7_138 hk31 rfl ?_
  obtain ⟨hk33, h⟩ := h
  obtain ⟨v34, hm32, h⟩ := h
  refine wp_callV (M' := M_Jx4a65c_size_8abf5) (As := []) (st := []) (ci := 9) dX7_face_34 cee_Jx4a65c_size_8abf5 np_Jx4a65c_size_8abf5 rfl ⟨Nat.le_of_ble_eq_true rfl, Nat.le_of_ble_eq_true rfl, Nat.le_of_ble_eq_true rfl, Nat.le_of_ble_eq_true rfl⟩ wd_112 wd_113 wd_114 rfl (Or.inr ⟨hk33, rfl⟩) (q_small_of (Nat.le_of_ble_eq_true rfl)) hm32 (q_kPi ?_) q_kPi0
  refine wp_less (ac2 := 5) (as2 := 415) (Nat.le_of_ble_eq_true rfl) (Nat.le_of_ble_eq_true rfl) ?_
  refine wp_iconst dX7_face_37 ?_
  obtain ⟨hr35, h⟩ := h
  refine wp_icmp_lt (tgt := 51) dX7_face_38 (by decide) hr35 (by unfold qR; omega) (fun c36 => ?_) (fun c36 => ?_)
  · replace h := h.1 c36
    refine wp_aload dX7_face_51 rfl ?_
    refine wp_get (v := vr (gP σ29 205 v9)) dX7_face_53 fl_RX7_138 hk31 rfl ?_
    refine wp_new (n := 3) dX7_face_56 nw_RX7_143 rfl (Nat.le_of_ble_eq_true rfl) (Nat.le_of_ble_eq_true rfl) (fun r37 hz38 hq39 => ?_)
    refine wp_less (ac2 := 4) (as2 := 412) (Nat.le_of_ble_eq_true rfl) (Nat.le_of_ble_eq_true rfl) ?_
    replace h := h r37 hz38 hq39
    refine wp_nmS (fun σ40 hs41 => ?_)
    replace h := h σ40 hs41
    have hk42 : gK σ40 r37 = 3 := by rw [hs41]; exact if_pos rfl
    refine wp_dup dX7_face_59 trivial ?_
    refine wp_iload_n dX7_face_60 rfl ?_
    refine wp_iload_n dX7_face_61 rfl ?_
    refine wp_iload dX7_face_62 rfl ?_
    obtain ⟨Mid44, hm43, hk46⟩ := h
    refine wp_callI (M' := M_X2_init) (As := [vi a2, vi a3, vi a4]) (st := [vr r37, vr (gP σ29 205 v9)]) dX7_face_64 cee_X2_init np_X2_init rfl ⟨Nat.le_of_ble_eq_true rfl, Nat.le_of_ble_eq_true rfl, Nat.le_of_ble_eq_true rfl, Nat.le_of_ble_eq_true rfl⟩ wd_603 wd_604 rfl rfl hq39 (q_small_of (Nat.le_of_ble_eq_true rfl)) hm43 (q_kTv0 (fun σ48 hM49 => ?_)) q_kTv00
    refine wp_less (ac2 := 4) (as2 := 412) (Nat.le_of_ble_eq_true rfl) (Nat.le_of_ble_eq_true rfl) ?_
    have h := hk46 σ48 hM49
    obtain ⟨hk51, h⟩ := h
    obtain ⟨Mid52, hm50, hk54⟩ := h
    refine wp_callV (M' := M_Jx4a65c_add_9ea2d) (As := [vr r37]) (st := []) (ci := 9) dX7_face_67 cee_Jx4a65c_add_9ea2d np_Jx4a65c_add_9ea2d rfl ⟨Nat.le_of_ble_eq_true rfl, Nat.le_of_ble_eq_true rfl, Nat.le_of_ble_eq_true rfl, Nat.le_of_ble_eq_true rfl⟩ wd_218 wd_219 wd_220 rfl (Or.inr ⟨hk51, rfl⟩) (q_small_of (Nat.le_of_ble_eq_true rfl)) hm50 (q_kTi0 (fun σ56 v58 hM57 => ?_)) q_kTi00
    refine wp_less (ac2 := 2) (as2 := 12) (Nat.le_of_ble_eq_true rfl) (Nat.le_of_ble_eq_true rfl) ?_
    have h := hk54 σ56 v58 hM57
    refine wp_pop dX7_face_70 trivial ?_
    refine wp_aload_n dX7_face_71 rfl ?_
    obtain ⟨hk59, h⟩ := h
    refine wp_get (v := vr (gP σ56 283 a0)) dX7_face_72 fl_RX7_25 hk59 rfl ?_
    refine wp_aload dX7_face_75 rfl ?_
    obtain ⟨hk60, h⟩ := h
    refine wp_get (v := vr (gP σ56 201 v9)) dX7_face_77 fl_RX7_103 hk60 rfl ?_
    obtain ⟨hk62, h⟩ := h
    obtain ⟨Mid63, hm61, hk65⟩ := h
    refine wp_callV (M' := M_X3_tryPage) (As := [vr (gP σ56 201 v9)]) (st := []) (ci := 3) dX7_face_80 cee_X3_tryPage np_X3_tryPage rfl ⟨Nat.le_of_ble_eq_true rfl, Nat.le_of_ble_eq_true rfl, Nat.le_of_ble_eq_true rfl, Nat.le_of_ble_eq_true rfl⟩ wd_447 wd_448 wd_449 rfl (Or.inl hk62) (q_small_of (Nat.le_of_ble_eq_true rfl)) hm61 (q_kTi0 (fun σ67 v69 hM68 => ?_)) q_kTi00
    refine wp_less (ac2 := 2) (as2 := 12) (Nat.le_of_ble_eq_true rfl) (Nat.le_of_ble_eq_true rfl) ?_
    have h := hk65 σ67 v69 hM68
    obtain ⟨hr70, h⟩ := h
    refine wp_if_ne (tgt := 101) dX7_face_83 (by decide) hr70 (fun c71 => ?_) (fun c71 => ?_)
    · replace h := h.1 c71
      refine wp_aload dX7_face_101 rfl ?_
      obtain ⟨hk72, h⟩ := h
      refine wp_get (v := vr (gP σ67 201 v9)) dX7_face_103 fl_RX7_103 hk72 rfl ?_
      obtain ⟨hk74, h⟩ := h
      obtain ⟨Mid75, hm73, hk77⟩ := h
      refine wp_callV (M' := M_X4_keepTrial) (As := []) (st := []) (ci := 4) dX7_face_106 cee_X4_keepTrial np_X4_keepTrial rfl ⟨Nat.le_of_ble_eq_true rfl, Nat.le_of_ble_eq_true rfl, Nat.le_of_ble_eq_true rfl, Nat.le_of_ble_eq_true rfl⟩ wd_522 wd_523 wd_524 rfl (Or.inl hk74) (q_small_of (Nat.le_of_ble_eq_true rfl)) hm73 (q_kTi0 (fun σ79 v81 hM80 => ?_)) q_kTi00
      refine wp_less (ac2 := 2) (as2 := 12) (Nat.le_of_ble_eq_true rfl) (Nat.le_of_ble_eq_true rfl) ?_
      have h := hk77 σ79 v81 hM80
      refine wp_pop dX7_face_109 trivial ?_
      refine wp_aload dX7_face_110 rfl ?_
      obtain ⟨hk82, h⟩ := h
      refine wp_get (v := vr (gP σ79 207 v9)) dX7_face_112 fl_RX7_150 hk82 rfl ?_
      obtain ⟨hk83, h⟩ := h
      refine wp_get (v := vi (gI σ79 43 (gP σ79 207 v9))) dX7_face_115 fl_RX7_154 hk83 rfl ?_
      exact wp_ret_i dX7_face_118 rfl rfl h
    · replace h := h.2 c71
      refine wp_aload dX7_face_86 rfl ?_
      obtain ⟨hk85, h⟩ := h
      obtain ⟨Mid86, hm84, hk88⟩ := h
      refine wp_callV (M' := M_X5_dropLastFace) (As := []) (st := []) (ci := 5) dX7_face_88 cee_X5_dropLastFace np_X5_dropLastFace rfl ⟨Nat.le_of_ble_eq_true rfl, Nat.le_of_ble_eq_true rfl, Nat.le_of_ble_eq_true rfl, Nat.le_of_ble_eq_true rfl⟩ wd_623 wd_624 wd_625 rfl (Or.inl hk85) (q_small_of (Nat.le_of_ble_eq_true rfl)) hm84 (q_kTv0 (fun σ90 hM91 => ?_)) q_kTv00
      refine wp_less (ac2 := 2) (as2 := 12) (Nat.le_of_ble_eq_true rfl) (Nat.le_of_ble_eq_true rfl) ?_
      have h := hk88 σ90 hM91
      exact wp_throw (n := 0) (text := "the page cannot be laid") (by decide) rfl rfl (by decide +kernel) dX7_face_91 dX7_face_94 dX7_face_95 dX7_face_97 dX7_face_100 (q_small_of (Nat.le_of_ble_eq_true rfl)) ⟨Nat.le_of_ble_eq_true rfl, Nat.le_of_ble_eq_true rfl⟩ (Nat.le_of_ble_eq_true rfl) (Nat.le_of_ble_eq_true rfl) h
  · replace h := h.2 c36
    exact wp_throw (n := 0) (text := "the panel has all faces") (by decide) rfl rfl (by decide +kernel) dX7_face_41 dX7_face_44 dX7_face_45 dX7_face_47 dX7_face_50 (q_small_of (Nat.le_of_ble_eq_true rfl)) ⟨Nat.le_of_ble_eq_true rfl, Nat.le_of_ble_eq_true rfl⟩ (Nat.le_of_ble_eq_true rfl) (Nat.le_of_ble_eq_true rfl) h

set_option maxRecDepth 100000 in
set_option maxHeartbeats 4000000 in
theorem wm_X7_balloon {g : qG} {l : Launch} (hl : l.stackTraces = false) {a0 : Nat} {a1 : Int} {a2 : Int} {a3 : Int} {σ : qS} {Post : qS → qRs → Prop}
    (h : gK σ a0 = 8 ∧ (∃ (Mid3 : qS → Nat → Prop) (MidX4 : qS → Nat → Prop), qMet g l M_X7_needPanel [vr a0, vi a1] σ (qTr Mid3 MidX4) ∧ (∀ (σ7 : qS) (v9 : Nat), Mid3 σ7 v9 → gK σ7 v9 = 6 ∧ gK σ7 (gP σ7 206 v9) = 50 ∧ (∃ v13 : Int, qMet g l M_Jx4a65c_size_8abf5 [vr (gP σ7 206 v9)] σ7 (qPi σ7 v13) ∧ ((∃ (Mid15 : qS → Prop) (MidX16 : qS → Nat → Prop), qMet g l M_X7_needPlace [vi a2, vi v13] σ7 (qTv Mid15 MidX16) ∧ (∀ (σ19 : qS), Mid15 σ19 → (∃ (Mid22 : qS → Prop) (MidX23 : qS → Nat → Prop), qMet g l M_X7_needWithin [vi a3, vi 1, vi 60] σ19 (qTv Mid22 MidX23) ∧ (∀ (σ26 : qS), Mid22 σ26 → gK σ26 v9 = 6 ∧ gK σ26 (gP σ26 206 v9) = 50 ∧ (∃ v31 : Int, qMet g l M_Jx4a65c_size_8abf5 [vr (gP σ26 206 v9)] σ26 (qPi σ26 v31) ∧ (qR v31 ∧ ((4 ≤ v31 → Post σ26 (.inr 0)) ∧ (¬ (4 ≤ v31) → gK σ26 a0 = 8 ∧ gK σ26 (gP σ26 282 a0) = 50 ∧ (∃ v37 : Int, qMet g l M_Jx4a65c_size_8abf5 [vr (gP σ26 282 a0)] σ26 (qPi σ26 v37) ∧ (qR v37 ∧ ((v37 < 80 → ∀ r40 : Nat, gK σ26 r40 = 0 → r40 ≠ 0 → ∀ σ43 : qS, σ43 = nO σ26 r40 1 → gK σ43 a0 = 8 ∧ gK σ43 (gP σ43 282 a0) = 50 ∧ (∃ v49 : Int, qMet g l M_Jx4a65c_size_8abf5 [vr (gP σ43 282 a0)] σ43 (qPi σ43 v49) ∧ ((∃ Mid51 : qS → Prop, qMet g l M_X0_init [vr r40, vi v49, vr v9, vi a3] σ43 (qTv0 Mid51) ∧ ∀ (σ55 : qS), Mid51 σ55 → gK σ55 v9 = 6 ∧ (∃ Mid59 : qS → Prop, qMet g l M_X5_putIn [vr v9, vi a2, vr r40] σ55 (qTv0 Mid59) ∧ ∀ (σ63 : qS), Mid59 σ63 → gK σ63 a0 = 8 ∧ gK σ63 v9 = 6 ∧ gK σ63 (gP σ63 283 a0) = 4 ∧ (∃ Mid69 : qS → Int → Prop, qMet g l M_X3_tryPage [vr (gP σ63 283 a0), vr (gP σ63 201 v9)] σ63 (qTi0 Mid69) ∧ ∀ (σ73 : qS) (v75 : Int), Mid69 σ73 v75 → qR v75 ∧ ((¬ v75 = 0 → gK σ73 a0 = 8 ∧ gK σ73 (gP σ73 282 a0) = 50 ∧ (∃ Mid81 : qS → Int → Prop, qMet g l M_Jx4a65c_add_9ea2d [vr (gP σ73 282 a0), vr r40] σ73 (qTi0 Mid81) ∧ ∀ (σ85 : qS) (v87 : Int), Mid81 σ85 v87 → gK σ85 v9 = 6 ∧ gK σ85 (gP σ85 201 v9) = 5 ∧ (∃ Mid91 : qS → Int → Prop, qMet g l M_X4_keepTrial [vr (gP σ85 201 v9)] σ85 (qTi0 Mid91) ∧ ∀ (σ95 : qS) (v97 : Int), Mid91 σ95 v97 → gK σ95 r40 = 1 ∧ Post σ95 (.inl (some (vi (gI σ95 0 r40))))))) ∧ (v75 = 0 → gK σ73 v9 = 6 ∧ (∃ Mid101 : qS → Prop, qMet g l M_X5_takeOut [vr v9, vi a2] σ73 (qTv0 Mid101) ∧ ∀ (σ105 : qS), Mid101 σ105 → Post σ105 (.inr 0)))))))))) ∧ (¬ (v37 < 80) → Post σ26 (.inr 0)))))))))) ∧ ∀ (σ9 : qS) (n9 : Nat), MidX23 σ9 n9 → Post σ9 (.inr n9))) ∧ ∀ (σ9 : qS) (n9 : Nat), MidX16 σ9 n9 → Post σ9 (.inr n9))))) ∧ ∀ (σ9 : qS) (n9 : Nat), MidX4 σ9 n9 → Post σ9 (.inr n9))) : qMet g l M_X7_balloon [vr a0, vi a1, vi a2, vi a3] σ Post := by
  refine qMet_of hl (by decide +kernel) (Nat.le_of_ble_eq_true rfl) (List.forall_mem_cons.mpr ⟨trivial, List.forall_mem_cons.mpr ⟨trivial, List.forall_mem_cons.mpr ⟨trivial, List.forall_mem_cons.mpr ⟨trivial, fun _ h => nomatch h⟩⟩⟩⟩) ?_
  show qW g l M_X7_balloon 12 845 0 [some (vr a0), some (vi a1), some (vi a2), some (vi a3), none, none] [] σ Post
  refine wp_aload_n dX7_balloon_0 rfl ?_
  refine wp_iload_n dX7_balloon_1 rfl ?_
  obtain ⟨hk2, h⟩ := h
  obtain ⟨Mid3, MidX4, hm1, hk5, hx6⟩ := h
  refine wp_callV (M' := M_X7_needPanel) (As := [vi a1]) (st := []) (ci := 7) dX7_balloon_2 cee_X7_needPanel np_X7_needPanel rfl ⟨Nat.le_of_ble_eq_true rfl, Nat.le_of_ble_eq_true rfl, Nat.le_of_ble_eq_true rfl, Nat.le_of_ble_eq_true rfl⟩ wd_547 wd_549 sel_X7_needPanel rfl (Or.inl hk2) (q_small_of (Nat.le_of_ble_eq_true rfl)) hm1 (q_kTr (fun σ7 v9 hM8 => ?_)) (q_kXr rfl hx6)
  refine wp_less (ac2 := 11) (as2 := 839) (Nat.le_of_ble_eq_true rfl) (Nat.le_of_ble_eq_true rfl) ?_
  have h := hk5 σ7 v9 hM8
  refine wp_astore' (ls' := [some (vr a0), some (vi a1), some (vi a2), some (vi a3), some (vr v9), none]) dX7_balloon_5 (Nat.le_of_ble_eq_true rfl) rfl ?_
  refine wp_iload_n dX7_balloon_7 rfl ?_
  refine wp_aload dX7_balloon_8 rfl ?_
  obtain ⟨hk10, h⟩ := h
  refine wp_get (v := vr (gP σ7 206 v9)) dX7_balloon_10 fl_RX7_137 hk10 rfl ?_
  obtain ⟨hk12, h⟩ := h
  obtain ⟨v13, hm11, h⟩ := h
  refine wp_callV (M' := M_Jx4a65c_size_8abf5) (As := []) (st := [vi a2]) (ci := 9) dX7_balloon_13 cee_Jx4a65c_size_8abf5 np_Jx4a65c_size_8abf5 rfl ⟨Nat.le_of_ble_eq_true rfl, Nat.le_of_ble_eq_true rfl, Nat.le_of_ble_eq_true rfl, Nat.le_of_ble_eq_true rfl⟩ wd_112 wd_113 wd_114 rfl (Or.inr ⟨hk12, rfl⟩) (q_small_of (Nat.le_of_ble_eq_true rfl)) hm11 (q_kPi ?_) q_kPi0
  refine wp_less (ac2 := 11) (as2 := 839) (Nat.le_of_ble_eq_true rfl) (Nat.le_of_ble_eq_true rfl) ?_
  obtain ⟨Mid15, MidX16, hm14, hk17, hx18⟩ := h
  refine wp_callS (M' := M_X7_needPlace) (As := [vi a2, vi v13]) (st := []) dX7_balloon_16 cee_X7_needPlace np_X7_needPlace rfl ⟨Nat.le_of_ble_eq_true rfl, Nat.le_of_ble_eq_true rfl, Nat.le_of_ble_eq_true rfl, Nat.le_of_ble_eq_true rfl⟩ wd_315 wd_316 (q_small_of (Nat.le_of_ble_eq_true rfl)) hm14 (q_kTv (fun σ19 hM20 => ?_)) (q_kXv rfl hx18)
  refine wp_less (ac2 := 10) (as2 := 833) (Nat.le_of_ble_eq_true rfl) (Nat.le_of_ble_eq_true rfl) ?_
  have h := hk17 σ19 hM20
  refine wp_iload_n dX7_balloon_19 rfl ?_
  refine wp_iconst dX7_balloon_20 ?_
  refine wp_bipush dX7_balloon_21 (by decide) ?_
  obtain ⟨Mid22, MidX23, hm21, hk24, hx25⟩ := h
  refine wp_callS (M' := M_X7_needWithin) (As := [vi a3, vi 1, vi 60]) (st := []) dX7_balloon_23 cee_X7_needWithin np_X7_needWithin rfl ⟨Nat.le_of_ble_eq_true rfl, Nat.le_of_ble_eq_true rfl, Nat.le_of_ble_eq_true rfl, Nat.le_of_ble_eq_true rfl⟩ wd_319 wd_320 (q_small_of (Nat.le_of_ble_eq_true rfl)) hm21 (q_kTv (fun σ26 hM27 => ?_)) (q_kXv rfl hx25)
  refine wp_less (ac2 := 9) (as2 := 827) (Nat.le_of_ble_eq_true rfl) (Nat.le_of_ble_eq_true rfl) ?_
  have h := hk24 σ26 hM27
  refine wp_aload dX7_balloon_26 rfl ?_
  obtain ⟨hk28, h⟩ := h
  refine wp_get (v := vr (gP σ26 206 v9)) dX7_balloon_28 fl_RX7_137 hk28 rfl ?_
  obtain ⟨hk30, h⟩ := h
  obtain ⟨v31, hm29, h⟩ := h
  refine wp_callV (M' := M_Jx4a65c_size_8abf5) (As := []) (st := []) (ci := 9) dX7_balloon_31 cee_Jx4a65c_size_8abf5 np_Jx4a65c_size_8abf5 rfl ⟨Nat.le_of_ble_eq_true rfl, Nat.le_of_ble_eq_true rfl, Nat.le_of_ble_eq_true rfl, Nat.le_of_ble_eq_true rfl⟩ wd_112 wd_113 wd_114 rfl (Or.inr ⟨hk30, rfl⟩) (q_small_of (Nat.le_of_ble_eq_true rfl)) hm29 (q_kPi ?_) q_kPi0
  refine wp_less (ac2 := 9) (as2 := 827) (Nat.le_of_ble_eq_true rfl) (Nat.le_of_ble_eq_true rfl) ?_
  refine wp_iconst dX7_balloon_34 ?_
  obtain ⟨hr32, h⟩ := h
  refine wp_icmp_ge (tgt := 50) dX7_balloon_35 (by decide) hr32 (by unfold qR; omega) (fun c33 => ?_) (fun c33 => ?_)
  · replace h := h.1 c33
    exact wp_throw (n := 0) (text := "there is no room for a balloon") (by decide) rfl rfl (by decide +kernel) dX7_balloon_50 dX7_balloon_53 dX7_balloon_54 dX7_balloon_56 dX7_balloon_59 (q_small_of (Nat.le_of_ble_eq_true rfl)) ⟨Nat.le_of_ble_eq_true rfl, Nat.le_of_ble_eq_true rfl⟩ (Nat.le_of_ble_eq_true rfl) (Nat.le_of_ble_eq_true rfl) h
  · replace h := h.2 c33
    refine wp_aload_n dX7_balloon_38 rfl ?_
    obtain ⟨hk34, h⟩ := h
    refine wp_get (v := vr (gP σ26 282 a0)) dX7_balloon_39 fl_RX7_19 hk34 rfl ?_
    obtain ⟨hk36, h⟩ := h
    obtain ⟨v37, hm35, h⟩ := h
    refine wp_callV (M' := M_Jx4a65c_size_8abf5) (As := []) (st := []) (ci := 9) dX7_balloon_42 cee_Jx4a65c_size_8abf5 np_Jx4a65c_size_8abf5 rfl ⟨Nat.le_of_ble_eq_true rfl, Nat.le_of_ble_eq_true rfl, Nat.le_of_ble_eq_true rfl, Nat.le_of_ble_eq_true rfl⟩ wd_112 wd_113 wd_114 rfl (Or.inr ⟨hk36, rfl⟩) (q_small_of (Nat.le_of_ble_eq_true rfl)) hm35 (q_kPi ?_) q_kPi0
    refine wp_less (ac2 := 9) (as2 := 827) (Nat.le_of_ble_eq_true rfl) (Nat.le_of_ble_eq_true rfl) ?_
    refine wp_bipush dX7_balloon_45 (by decide) ?_
    obtain ⟨hr38, h⟩ := h
    refine wp_icmp_lt (tgt := 60) dX7_balloon_47 (by decide) hr38 (by unfold qR; omega) (fun c39 => ?_) (fun c39 => ?_)
    · replace h := h.1 c39
      refine wp_new (n := 7) dX7_balloon_60 nw_RX7_161 rfl (Nat.le_of_ble_eq_true rfl) (Nat.le_of_ble_eq_true rfl) (fun r40 hz41 hq42 => ?_)
      refine wp_less (ac2 := 8) (as2 := 820) (Nat.le_of_ble_eq_true rfl) (Nat.le_of_ble_eq_true rfl) ?_
      replace h := h r40 hz41 hq42
      refine wp_nmS (fun σ43 hs44 => ?_)
      replace h := h σ43 hs44
      have hk45 : gK σ43 r40 = 1 := by rw [hs44]; exact if_pos rfl
      refine wp_dup dX7_balloon_63 trivial ?_
      refine wp_aload_n dX7_balloon_64 rfl ?_
      obtain ⟨hk46, h⟩ := h
      refine wp_get (v := vr (gP σ43 282 a0)) dX7_balloon_65 fl_RX7_19 hk46 rfl ?_
      obtain ⟨hk48, h⟩ := h
      obtain ⟨v49, hm47, h⟩ := h
      refine wp_callV (M' := M_Jx4a65c_size_8abf5) (As := []) (st := [vr r40, vr r40]) (ci := 9) dX7_balloon_68 cee_Jx4a65c_size_8abf5 np_Jx4a65c_size_8abf5 rfl ⟨Nat.le_of_ble_eq_true rfl, Nat.le_of_ble_eq_true rfl, Nat.le_of_ble_eq_true rfl, Nat.le_of_ble_eq_true rfl⟩ wd_112 wd_113 wd_114 rfl (Or.inr ⟨hk48, rfl⟩) (q_small_of (Nat.le_of_ble_eq_true rfl)) hm47 (q_kPi ?_) q_kPi0
      refine wp_less (ac2 := 8) (as2 := 820) (Nat.le_of_ble_eq_true rfl) (Nat.le_of_ble_eq_true rfl) ?_
      refine wp_aload dX7_balloon_71 rfl ?_
      refine wp_iload_n dX7_balloon_73 rfl ?_
      obtain ⟨Mid51, hm50, hk53⟩ := h
      refine wp_callI (M' := M_X0_init) (As := [vi v49, vr v9, vi a3]) (st := [vr r40]) dX7_balloon_74 cee_X0_init np_X0_init rfl ⟨Nat.le_of_ble_eq_true rfl, Nat.le_of_ble_eq_true rfl, Nat.le_of_ble_eq_true rfl, Nat.le_of_ble_eq_true rfl⟩ wd_634 wd_635 rfl rfl hq42 (q_small_of (Nat.le_of_ble_eq_true rfl)) hm50 (q_kTv0 (fun σ55 hM56 => ?_)) q_kTv00
      refine wp_less (ac2 := 6) (as2 := 812) (Nat.le_of_ble_eq_true rfl) (Nat.le_of_ble_eq_true rfl) ?_
      have h := hk53 σ55 hM56
      refine wp_astore' (ls' := [some (vr a0), some (vi a1), some (vi a2), some (vi a3), some (vr v9), some (vr r40)]) dX7_balloon_77 (Nat.le_of_ble_eq_true rfl) rfl ?_
      refine wp_aload dX7_balloon_79 rfl ?_
      refine wp_iload_n dX7_balloon_81 rfl ?_
      refine wp_aload dX7_balloon_82 rfl ?_
      obtain ⟨hk58, h⟩ := h
      obtain ⟨Mid59, hm57, hk61⟩ := h
      refine wp_callV (M' := M_X5_putIn) (As := [vi a2, vr r40]) (st := []) (ci := 5) dX7_balloon_84 cee_X5_putIn np_X5_putIn rfl ⟨Nat.le_of_ble_eq_true rfl, Nat.le_of_ble_eq_true rfl, Nat.le_of_ble_eq_true rfl, Nat.le_of_ble_eq_true rfl⟩ wd_670 wd_671 wd_672 rfl (Or.inl hk58) (q_small_of (Nat.le_of_ble_eq_true rfl)) hm57 (q_kTv0 (fun σ63 hM64 => ?_)) q_kTv00
      refine wp_less (ac2 := 4) (as2 := 412) (Nat.le_of_ble_eq_true rfl) (Nat.le_of_ble_eq_true rfl) ?_
      have h := hk61 σ63 hM64
      refine wp_aload_n dX7_balloon_87 rfl ?_
      obtain ⟨hk65, h⟩ := h
      refine wp_get (v := vr (gP σ63 283 a0)) dX7_balloon_88 fl_RX7_25 hk65 rfl ?_
      refine wp_aload dX7_balloon_91 rfl ?_
      obtain ⟨hk66, h⟩ := h
      refine wp_get (v := vr (gP σ63 201 v9)) dX7_balloon_93 fl_RX7_103 hk66 rfl ?_
      obtain ⟨hk68, h⟩ := h
      obtain ⟨Mid69, hm67, hk71⟩ := h
      refine wp_callV (M' := M_X3_tryPage) (As := [vr (gP σ63 201 v9)]) (st := []) (ci := 3) dX7_balloon_96 cee_X3_tryPage np_X3_tryPage rfl ⟨Nat.le_of_ble_eq_true rfl, Nat.le_of_ble_eq_true rfl, Nat.le_of_ble_eq_true rfl, Nat.le_of_ble_eq_true rfl⟩ wd_447 wd_448 wd_449 rfl (Or.inl hk68) (q_small_of (Nat.le_of_ble_eq_true rfl)) hm67 (q_kTi0 (fun σ73 v75 hM74 => ?_)) q_kTi00
      refine wp_less (ac2 := 4) (as2 := 412) (Nat.le_of_ble_eq_true rfl) (Nat.le_of_ble_eq_true rfl) ?_
      have h := hk71 σ73 v75 hM74
      obtain ⟨hr76, h⟩ := h
      refine wp_if_ne (tgt := 118) dX7_balloon_99 (by decide) hr76 (fun c77 => ?_) (fun c77 => ?_)
      · replace h := h.1 c77
        refine wp_aload_n dX7_balloon_118 rfl ?_
        obtain ⟨hk78, h⟩ := h
        refine wp_get (v := vr (gP σ73 282 a0)) dX7_balloon_119 fl_RX7_19 hk78 rfl ?_
        refine wp_aload dX7_balloon_122 rfl ?_
        obtain ⟨hk80, h⟩ := h
        obtain ⟨Mid81, hm79, hk83⟩ := h
        refine wp_callV (M' := M_Jx4a65c_add_9ea2d) (As := [vr r40]) (st := []) (ci := 9) dX7_balloon_124 cee_Jx4a65c_add_9ea2d np_Jx4a65c_add_9ea2d rfl ⟨Nat.le_of_ble_eq_true rfl, Nat.le_of_ble_eq_true rfl, Nat.le_of_ble_eq_true rfl, Nat.le_of_ble_eq_true rfl⟩ wd_218 wd_219 wd_220 rfl (Or.inr ⟨hk80, rfl⟩) (q_small_of (Nat.le_of_ble_eq_true rfl)) hm79 (q_kTi0 (fun σ85 v87 hM86 => ?_)) q_kTi00
        refine wp_less (ac2 := 2) (as2 := 12) (Nat.le_of_ble_eq_true rfl) (Nat.le_of_ble_eq_true rfl) ?_
        have h := hk83 σ85 v87 hM86
        refine wp_pop dX7_balloon_127 trivial ?_
        refine wp_aload dX7_balloon_128 rfl ?_
        obtain ⟨hk88, h⟩ := h
        refine wp_get (v := vr (gP σ85 201 v9)) dX7_balloon_130 fl_RX7_103 hk88 rfl ?_
        obtain ⟨hk90, h⟩ := h
        obtain ⟨Mid91, hm89, hk93⟩ := h
        refine wp_callV (M' := M_X4_keepTrial) (As := []) (st := []) (ci := 4) dX7_balloon_133 cee_X4_keepTrial np_X4_keepTrial rfl ⟨Nat.le_of_ble_eq_true rfl, Nat.le_of_ble_eq_true rfl, Nat.le_of_ble_eq_true rfl, Nat.le_of_ble_eq_true rfl⟩ wd_522 wd_523 wd_524 rfl (Or.inl hk90) (q_small_of (Nat.le_of_ble_eq_true rfl)) hm89 (q_kTi0 (fun σ95 v97 hM96 => ?_)) q_kTi00
        refine wp_less (ac2 := 2) (as2 := 12) (Nat.le_of_ble_eq_true rfl) (Nat.le_of_ble_eq_true rfl) ?_
        have h := hk93 σ95 v97 hM96
        refine wp_pop dX7_balloon_136 trivial ?_
        refine wp_aload dX7_balloon_137 rfl ?_
        obtain ⟨hk98, h⟩ := h
        refine wp_get (v := vi (gI σ95 0 r40)) dX7_balloon_139 fl_RX7_170 hk98 rfl ?_
        exact wp_ret_i dX7_balloon_142 rfl rfl h
      · replace h := h.2 c77
        refine wp_aload dX7_balloon_102 rfl ?_
        refine wp_iload_n dX7_balloon_104 rfl ?_
        obtain ⟨hk100, h⟩ := h
        obtain ⟨Mid101, hm99, hk103⟩ := h
        refine wp_callV (M' := M_X5_takeOut) (As := [vi a2]) (st := []) (ci := 5) dX7_balloon_105 cee_X5_takeOut np_X5_takeOut rfl ⟨Nat.le_of_ble_eq_true rfl, Nat.le_of_ble_eq_true rfl, Nat.le_of_ble_eq_true rfl, Nat.le_of_ble_eq_true rfl⟩ wd_675 wd_676 wd_677 rfl (Or.inl hk100) (q_small_of (Nat.le_of_ble_eq_true rfl)) hm99 (q_kTv0 (fun σ105 hM106 => ?_)) q_kTv00
        refine wp_less (ac2 := 4) (as2 := 412) (Nat.le_of_ble_eq_true rfl) (Nat.le_of_ble_eq_true rfl) ?_
        have h := hk103 σ105 hM106
        exact wp_throw (n := 0) (text := "the page cannot be laid") (by decide) rfl rfl (by decide +kernel) dX7_balloon_108 dX7_balloon_111 dX7_balloon_112 dX7_balloon_114 dX7_balloon_117 (q_small_of (Nat.le_of_ble_eq_true rfl)) ⟨Nat.le_of_ble_eq_true rfl, Nat.le_of_ble_eq_true rfl⟩ (Nat.le_of_ble_eq_true rfl) (Nat.le_of_ble_eq_true rfl) h
    · replace h := h.2 c39
      exact wp_throw (n := 0) (text := "there is no room for a balloon") (by decide) rfl rfl (by decide +kernel) dX7_balloon_50 dX7_balloon_53 dX7_balloon_54 dX7_balloon_56 dX7_balloon_59 (q_small_of (Nat.le_of_ble_eq_true rfl)) ⟨Nat.le_of_ble_eq_true rfl, Nat.le_of_ble_eq_true rfl⟩ (Nat.le_of_ble_eq_true rfl) (Nat.le_of_ble_eq_true rfl) h

set_option maxRecDepth 100000 in
set_option maxHeartbeats 4000000 in
theorem wm_X7_moveBalloon {g : qG} {l : Launch} (hl : l.stackTraces = false) {a0 : Nat} {a1 : Int} {a2 : Int} {a3 : Int} {σ : qS} {Post : qS → qRs → Prop}
    (h : gK σ a0 = 8 ∧ (∃ (Mid3 : qS → Nat → Prop) (MidX4 : qS → Nat → Prop), qMet g l M_X7_needBalloon [vr a0, vi a1] σ (qTr Mid3 MidX4) ∧ (∀ (σ7 : qS) (v9 : Nat), Mid3 σ7 v9 → gK σ7 a0 = 8 ∧ (∃ (Mid12 : qS → Nat → Prop) (MidX13 : qS → Nat → Prop), qMet g l M_X7_needPanel [vr a0, vi a2] σ7 (qTr Mid12 MidX13) ∧ (∀ (σ16 : qS) (v18 : Nat), Mid12 σ16 v18 → gK σ16 v9 = 1 ∧ ∀ x20 : Nat, x20 = gP σ16 4 v9 → ((¬ v18 = x20 → gK σ16 v18 = 6 ∧ gK σ16 (gP σ16 206 v18) = 50 ∧ (∃ v26 : Int, qMet g l M_Jx4a65c_size_8abf5 [vr (gP σ16 206 v18)] σ16 (qPi σ16 v26) ∧ ((∃ (Mid28 : qS → Prop) (MidX29 : qS → Nat → Prop), qMet g l M_X7_needPlace [vi a3, vi v26] σ16 (qTv Mid28 MidX29) ∧ (∀ (σ32 : qS), Mid28 σ32 → ((v18 = x20 → gK σ32 x20 = 6 ∧ (∃ v37 : Int, qMet g l M_X5_indexOf [vr x20, vr v9] σ32 (qPi σ32 v37) ∧ (gK σ32 v9 = 1 ∧ (∃ Mid40 : qS → Prop, qMet g l M_X0_goTo [vr v9, vr v18, vi a3] σ32 (qTv0 Mid40) ∧ ∀ (σ44 : qS), Mid40 σ44 → gK σ44 a0 = 8 ∧ gK σ44 x20 = 6 ∧ gK σ44 (gP σ44 283 a0) = 4 ∧ (∃ Mid50 : qS → Int → Prop, qMet g l M_X3_tryPage [vr (gP σ44 283 a0), vr (gP σ44 201 x20)] σ44 (qTi0 Mid50) ∧ ∀ (σ54 : qS) (v56 : Int), Mid50 σ54 v56 → qR v56 ∧ ((v56 = 0 → gK σ54 v9 = 1 ∧ (∃ Mid61 : qS → Prop, qMet g l M_X0_goTo [vr v9, vr x20, vi v37] σ54 (qTv0 Mid61) ∧ ∀ (σ65 : qS), Mid61 σ65 → Post σ65 (.inr 0))) ∧ (¬ (v56 = 0) → gK σ54 a0 = 8 ∧ gK σ54 v18 = 6 ∧ gK σ54 (gP σ54 283 a0) = 4 ∧ (∃ Mid71 : qS → Int → Prop, qMet g l M_X3_tryPage [vr (gP σ54 283 a0), vr (gP σ54 201 v18)] σ54 (qTi0 Mid71) ∧ ∀ (σ75 : qS) (v77 : Int), Mid71 σ75 v77 → qR v77 ∧ ((v77 = 0 → gK σ75 v9 = 1 ∧ (∃ Mid82 : qS → Prop, qMet g l M_X0_goTo [vr v9, vr x20, vi v37] σ75 (qTv0 Mid82) ∧ ∀ (σ86 : qS), Mid82 σ86 → Post σ86 (.inr 0))) ∧ (¬ (v77 = 0) → gK σ75 a0 = 8 ∧ (∃ v90 : Int, qMet g l M_X7_answersComeLater [vr a0] σ75 (qPi σ75 v90) ∧ (qR v90 ∧ ((¬ v90 = 0 → gK σ75 x20 = 6 ∧ gK σ75 (gP σ75 201 x20) = 5 ∧ (∃ Mid96 : qS → Int → Prop, qMet g l M_X4_keepTrial [vr (gP σ75 201 x20)] σ75 (qTi0 Mid96) ∧ ∀ (σ100 : qS) (v102 : Int), Mid96 σ100 v102 → gK σ100 v18 = 6 ∧ gK σ100 (gP σ100 201 v18) = 5 ∧ (∃ Mid106 : qS → Int → Prop, qMet g l M_X4_keepTrial [vr (gP σ100 201 v18)] σ100 (qTi0 Mid106) ∧ ∀ (σ110 : qS) (v112 : Int), Mid106 σ110 v112 → Post σ110 (.inl none)))) ∧ (v90 = 0 → gK σ75 v9 = 1 ∧ (∃ Mid115 : qS → Prop, qMet g l M_X0_goTo [vr v9, vr x20, vi v37] σ75 (qTv0 Mid115) ∧ ∀ (σ119 : qS), Mid115 σ119 → Post σ119 (.inr 0)))))))))))))))) ∧ (¬ (v18 = x20) → gK σ32 v18 = 6 ∧ gK σ32 (gP σ32 206 v18) = 50 ∧ (∃ v124 : Int, qMet g l M_Jx4a65c_size_8abf5 [vr (gP σ32 206 v18)] σ32 (qPi σ32 v124) ∧ (qR v124 ∧ ((v124 < 4 → gK σ32 x20 = 6 ∧ (∃ v129 : Int, qMet g l M_X5_indexOf [vr x20, vr v9] σ32 (qPi σ32 v129) ∧ (gK σ32 v9 = 1 ∧ (∃ Mid132 : qS → Prop, qMet g l M_X0_goTo [vr v9, vr v18, vi a3] σ32 (qTv0 Mid132) ∧ ∀ (σ136 : qS), Mid132 σ136 → gK σ136 a0 = 8 ∧ gK σ136 x20 = 6 ∧ gK σ136 (gP σ136 283 a0) = 4 ∧ (∃ Mid142 : qS → Int → Prop, qMet g l M_X3_tryPage [vr (gP σ136 283 a0), vr (gP σ136 201 x20)] σ136 (qTi0 Mid142) ∧ ∀ (σ146 : qS) (v148 : Int), Mid142 σ146 v148 → qR v148 ∧ ((v148 = 0 → gK σ146 v9 = 1 ∧ (∃ Mid153 : qS → Prop, qMet g l M_X0_goTo [vr v9, vr x20, vi v129] σ146 (qTv0 Mid153) ∧ ∀ (σ157 : qS), Mid153 σ157 → Post σ157 (.inr 0))) ∧ (¬ (v148 = 0) → gK σ146 a0 = 8 ∧ gK σ146 v18 = 6 ∧ gK σ146 (gP σ146 283 a0) = 4 ∧ (∃ Mid163 : qS → Int → Prop, qMet g l M_X3_tryPage [vr (gP σ146 283 a0), vr (gP σ146 201 v18)] σ146 (qTi0 Mid163) ∧ ∀ (σ167 : qS) (v169 : Int), Mid163 σ167 v169 → qR v169 ∧ ((v169 = 0 → gK σ167 v9 = 1 ∧ (∃ Mid174 : qS → Prop, qMet g l M_X0_goTo [vr v9, vr x20, vi v129] σ167 (qTv0 Mid174) ∧ ∀ (σ178 : qS), Mid174 σ178 → Post σ178 (.inr 0))) ∧ (¬ (v169 = 0) → gK σ167 a0 = 8 ∧ (∃ v182 : Int, qMet g l M_X7_answersComeLater [vr a0] σ167 (qPi σ167 v182) ∧ (qR v182 ∧ ((¬ v182 = 0 → gK σ167 x20 = 6 ∧ gK σ167 (gP σ167 201 x20) = 5 ∧ (∃ Mid188 : qS → Int → Prop, qMet g l M_X4_keepTrial [vr (gP σ167 201 x20)] σ167 (qTi0 Mid188) ∧ ∀ (σ192 : qS) (v194 : Int), Mid188 σ192 v194 → gK σ192 v18 = 6 ∧ gK σ192 (gP σ192 201 v18) = 5 ∧ (∃ Mid198 : qS → Int → Prop, qMet g l M_X4_keepTrial [vr (gP σ192 201 v18)] σ192 (qTi0 Mid198) ∧ ∀ (σ202 : qS) (v204 : Int), Mid198 σ202 v204 → Post σ202 (.inl none)))) ∧ (v182 = 0 → gK σ167 v9 = 1 ∧ (∃ Mid207 : qS → Prop, qMet g l M_X0_goTo [vr v9, vr x20, vi v129] σ167 (qTv0 Mid207) ∧ ∀ (σ211 : qS), Mid207 σ211 → Post σ211 (.inr 0)))))))))))))))) ∧ (¬ (v124 < 4) → Post σ32 (.inr 0)))))))) ∧ ∀ (σ9 : qS) (n9 : Nat), MidX29 σ9 n9 → Post σ9 (.inr n9))))) ∧ (v18 = x20 → gK σ16 v18 = 6 ∧ gK σ16 (gP σ16 206 v18) = 50 ∧ (∃ v216 : Int, qMet g l M_Jx4a65c_size_8abf5 [vr (gP σ16 206 v18)] σ16 (qPi σ16 v216) ∧ ((∃ (Mid218 : qS → Prop) (MidX219 : qS → Nat → Prop), qMet g l M_X7_needPlace [vi a3, vi (v216 - 1)] σ16 (qTv Mid218 MidX219) ∧ (∀ (σ222 : qS), Mid218 σ222 → ((v18 = x20 → gK σ222 x20 = 6 ∧ (∃ v227 : Int, qMet g l M_X5_indexOf [vr x20, vr v9] σ222 (qPi σ222 v227) ∧ (gK σ222 v9 = 1 ∧ (∃ Mid230 : qS → Prop, qMet g l M_X0_goTo [vr v9, vr v18, vi a3] σ222 (qTv0 Mid230) ∧ ∀ (σ234 : qS), Mid230 σ234 → gK σ234 a0 = 8 ∧ gK σ234 x20 = 6 ∧ gK σ234 (gP σ234 283 a0) = 4 ∧ (∃ Mid240 : qS → Int → Prop, qMet g l M_X3_tryPage [vr (gP σ234 283 a0), vr (gP σ234 201 x20)] σ234 (qTi0 Mid240) ∧ ∀ (σ244 : qS) (v246 : Int), Mid240 σ244 v246 → qR v246 ∧ ((v246 = 0 → gK σ244 v9 = 1 ∧ (∃ Mid251 : qS → Prop, qMet g l M_X0_goTo [vr v9, vr x20, vi v227] σ244 (qTv0 Mid251) ∧ ∀ (σ255 : qS), Mid251 σ255 → Post σ255 (.inr 0))) ∧ (¬ (v246 = 0) → gK σ244 a0 = 8 ∧ gK σ244 v18 = 6 ∧ gK σ244 (gP σ244 283 a0) = 4 ∧ (∃ Mid261 : qS → Int → Prop, qMet g l M_X3_tryPage [vr (gP σ244 283 a0), vr (gP σ244 201 v18)] σ244 (qTi0 Mid261) ∧ ∀ (σ265 : qS) (v267 : Int), Mid261 σ265 v267 → qR v267 ∧ ((v267 = 0 → gK σ265 v9 = 1 ∧ (∃ Mid272 : qS → Prop, qMet g l M_X0_goTo [vr v9, vr x20, vi v227] σ265 (qTv0 Mid272) ∧ ∀ (σ276 : qS), Mid272 σ276 → Post σ276 (.inr 0))) ∧ (¬ (v267 = 0) → gK σ265 a0 = 8 ∧ (∃ v280 : Int, qMet g l M_X7_answersComeLater [vr a0] σ265 (qPi σ265 v280) ∧ (qR v280 ∧ ((¬ v280 = 0 → gK σ265 x20 = 6 ∧ gK σ265 (gP σ265 201 x20) = 5 ∧ (∃ Mid286 : qS → Int → Prop, qMet g l M_X4_keepTrial [vr (gP σ265 201 x20)] σ265 (qTi0 Mid286) ∧ ∀ (σ290 : qS) (v292 : Int), Mid286 σ290 v292 → gK σ290 v18 = 6 ∧ gK σ290 (gP σ290 201 v18) = 5 ∧ (∃ Mid296 : qS → Int → Prop, qMet g l M_X4_keepTrial [vr (gP σ290 201 v18)] σ290 (qTi0 Mid296) ∧ ∀ (σ300 : qS) (v302 : Int), Mid296 σ300 v302 → Post σ300 (.inl none)))) ∧ (v280 = 0 → gK σ265 v9 = 1 ∧ (∃ Mid305 : qS → Prop, qMet g l M_X0_goTo [vr v9, vr x20, vi v227] σ265 (qTv0 Mid305) ∧ ∀ (σ309 : qS), Mid305 σ309 → Post σ309 (.inr 0)))))))))))))))) ∧ (¬ (v18 = x20) → gK σ222 v18 = 6 ∧ gK σ222 (gP σ222 206 v18) = 50 ∧ (∃ v314 : Int, qMet g l M_Jx4a65c_size_8abf5 [vr (gP σ222 206 v18)] σ222 (qPi σ222 v314) ∧ (qR v314 ∧ ((v314 < 4 → gK σ222 x20 = 6 ∧ (∃ v319 : Int, qMet g l M_X5_indexOf [vr x20, vr v9] σ222 (qPi σ222 v319) ∧ (gK σ222 v9 = 1 ∧ (∃ Mid322 : qS → Prop, qMet g l M_X0_goTo [vr v9, vr v18, vi a3] σ222 (qTv0 Mid322) ∧ ∀ (σ326 : qS), Mid322 σ326 → gK σ326 a0 = 8 ∧ gK σ326 x20 = 6 ∧ gK σ326 (gP σ326 283 a0) = 4 ∧ (∃ Mid332 : qS → Int → Prop, qMet g l M_X3_tryPage [vr (gP σ326 283 a0), vr (gP σ326 201 x20)] σ326 (qTi0 Mid332) ∧ ∀ (σ336 : qS) (v338 : Int), Mid332 σ336 v338 → qR v338 ∧ ((v338 = 0 → gK σ336 v9 = 1 ∧ (∃ Mid343 : qS → Prop, qMet g l M_X0_goTo [vr v9, vr x20, vi v319] σ336 (qTv0 Mid343) ∧ ∀ (σ347 : qS), Mid343 σ347 → Post σ347 (.inr 0))) ∧ (¬ (v338 = 0) → gK σ336 a0 = 8 ∧ gK σ336 v18 = 6 ∧ gK σ336 (gP σ336 283 a0) = 4 ∧ (∃ Mid353 : qS → Int → Prop, qMet g l M_X3_tryPage [vr (gP σ336 283 a0), vr (gP σ336 201 v18)] σ336 (qTi0 Mid353) ∧ ∀ (σ357 : qS) (v359 : Int), Mid353 σ357 v359 → qR v359 ∧ ((v359 = 0 → gK σ357 v9 = 1 ∧ (∃ Mid364 : qS → Prop, qMet g l M_X0_goTo [vr v9, vr x20, vi v319] σ357 (qTv0 Mid364) ∧ ∀ (σ368 : qS), Mid364 σ368 → Post σ368 (.inr 0))) ∧ (¬ (v359 = 0) → gK σ357 a0 = 8 ∧ (∃ v372 : Int, qMet g l M_X7_answersComeLater [vr a0] σ357 (qPi σ357 v372) ∧ (qR v372 ∧ ((¬ v372 = 0 → gK σ357 x20 = 6 ∧ gK σ357 (gP σ357 201 x20) = 5 ∧ (∃ Mid378 : qS → Int → Prop, qMet g l M_X4_keepTrial [vr (gP σ357 201 x20)] σ357 (qTi0 Mid378) ∧ ∀ (σ382 : qS) (v384 : Int), Mid378 σ382 v384 → gK σ382 v18 = 6 ∧ gK σ382 (gP σ382 201 v18) = 5 ∧ (∃ Mid388 : qS → Int → Prop, qMet g l M_X4_keepTrial [vr (gP σ382 201 v18)] σ382 (qTi0 Mid388) ∧ ∀ (σ392 : qS) (v394 : Int), Mid388 σ392 v394 → Post σ392 (.inl none)))) ∧ (v372 = 0 → gK σ357 v9 = 1 ∧ (∃ Mid397 : qS → Prop, qMet g l M_X0_goTo [vr v9, vr x20, vi v319] σ357 (qTv0 Mid397) ∧ ∀ (σ401 : qS), Mid397 σ401 → Post σ401 (.inr 0)))))))))))))))) ∧ (¬ (v314 < 4) → Post σ222 (.inr 0)))))))) ∧ ∀ (σ9 : qS) (n9 : Nat), MidX219 σ9 n9 → Post σ9 (.inr n9))))))) ∧ ∀ (σ9 : qS) (n9 : Nat), MidX13 σ9 n9 → Post σ9 (.inr n9))) ∧ ∀ (σ9 : qS) (n9 : Nat), MidX4 σ9 n9 → Post σ9 (.inr n9))) : qMet g l M_X7_moveBalloon [vr a0, vi a1, vi a2, vi a3] σ Post := by
  refine qMet_of hl (by decide +kernel) (Nat.le_of_ble_eq_true rfl) (List.forall_mem_cons.mpr ⟨trivial, List.forall_mem_cons.mpr ⟨trivial, List.forall_mem_cons.mpr ⟨trivial, List.forall_mem_cons.mpr ⟨trivial, fun _ h => nomatch h⟩⟩⟩⟩) ?_
  show qW g l M_X7_moveBalloon 9 830 0 [some (vr a0), some (vi a1), some (vi a2), some (vi a3), none, none, none, none] [] σ Post
  refine wp_aload_n dX7_moveBalloon_0 rfl ?_
  refine wp_iload_n dX7_moveBalloon_1 rfl ?_
  obtain ⟨hk2, h⟩ := h
  obtain ⟨Mid3, MidX4, hm1, hk5, hx6⟩ := h
  refine wp_callV (M' := M_X7_needBalloon) (As := [vi a1]) (st := []) (ci := 7) dX7_moveBalloon_2 cee_X7_needBalloon np_X7_needBalloon rfl ⟨Nat.le_of_ble_eq_true rfl, Nat.le_of_ble_eq_true rfl, Nat.le_of_ble_eq_true rfl, Nat.le_of_ble_eq_true rfl⟩ wd_683 wd_685 sel_X7_needBalloon rfl (Or.inl hk2) (q_small_of (Nat.le_of_ble_eq_true rfl)) hm1 (q_kTr (fun σ7 v9 hM8 => ?_)) (q_kXr rfl hx6)
  refine wp_less (ac2 := 8) (as2 := 824) (Nat.le_of_ble_eq_true rfl) (Nat.le_of_ble_eq_true rfl) ?_
  have h := hk5 σ7 v9 hM8
  refine wp_astore' (ls' := [some (vr a0), some (vi a1), some (vi a2), some (vi a3), some (vr v9), none, none, none]) dX7_moveBalloon_5 (Nat.le_of_ble_eq_true rfl) rfl ?_
  refine wp_aload_n dX7_moveBalloon_7 rfl ?_
  refine wp_iload_n dX7_moveBalloon_8 rfl ?_
  obtain ⟨hk11, h⟩ := h
  obtain ⟨Mid12, MidX13, hm10, hk14, hx15⟩ := h
  refine wp_callV (M' := M_X7_needPanel) (As := [vi a2]) (st := []) (ci := 7) dX7_moveBalloon_9 cee_X7_needPanel np_X7_needPanel rfl ⟨Nat.le_of_ble_eq_true rfl, Nat.le_of_ble_eq_true rfl, Nat.le_of_ble_eq_true rfl, Nat.le_of_ble_eq_true rfl⟩ wd_547 wd_549 sel_X7_needPanel rfl (Or.inl hk11) (q_small_of (Nat.le_of_ble_eq_true rfl)) hm10 (q_kTr (fun σ16 v18 hM17 => ?_)) (q_kXr rfl hx15)
  refine wp_less (ac2 := 7) (as2 := 818) (Nat.le_of_ble_eq_true rfl) (Nat.le_of_ble_eq_true rfl) ?_
  have h := hk14 σ16 v18 hM17
  refine wp_astore' (ls' := [some (vr a0), some (vi a1), some (vi a2), some (vi a3), some (vr v9), some (vr v18), none, none]) dX7_moveBalloon_12 (Nat.le_of_ble_eq_true rfl) rfl ?_
  refine wp_aload dX7_moveBalloon_14 rfl ?_
  obtain ⟨hk19, h⟩ := h
  refine wp_get (v := vr (gP σ16 4 v9)) dX7_moveBalloon_16 fl_RX7_175 hk19 rfl ?_
  refine wp_nmR (fun x20 hx21 => ?_)
  replace h := h x20 hx21
  refine wp_astore' (ls' := [some (vr a0), some (vi a1), some (vi a2), some (vi a3), some (vr v9), some (vr v18), some (vr x20), none]) dX7_moveBalloon_19 (Nat.le_of_ble_eq_true rfl) rfl ?_
  refine wp_iload_n dX7_moveBalloon_21 rfl ?_
  refine wp_aload dX7_moveBalloon_22 rfl ?_
  refine wp_aload dX7_moveBalloon_24 rfl ?_
  refine wp_acmp_ne (tgt := 42) dX7_moveBalloon_26 (by decide) (fun c22 => ?_) (fun c22 => ?_)
  · replace h := h.1 c22
    refine wp_aload dX7_moveBalloon_42 rfl ?_
    obtain ⟨hk23, h⟩ := h
    refine wp_get (v := vr (gP σ16 206 v18)) dX7_moveBalloon_44 fl_RX7_137 hk23 rfl ?_
    obtain ⟨hk25, h⟩ := h
    obtain ⟨v26, hm24, h⟩ := h
    refine wp_callV (M' := M_Jx4a65c_size_8abf5) (As := []) (st := [vi a3]) (ci := 9) dX7_moveBalloon_47 cee_Jx4a65c_size_8abf5 np_Jx4a65c_size_8abf5 rfl ⟨Nat.le_of_ble_eq_true rfl, Nat.le_of_ble_eq_true rfl, Nat.le_of_ble_eq_true rfl, Nat.le_of_ble_eq_true rfl⟩ wd_112 wd_113 wd_114 rfl (Or.inr ⟨hk25, rfl⟩) (q_small_of (Nat.le_of_ble_eq_true rfl)) hm24 (q_kPi ?_) q_kPi0
    refine wp_less (ac2 := 7) (as2 := 818) (Nat.le_of_ble_eq_true rfl) (Nat.le_of_ble_eq_true rfl) ?_
    obtain ⟨Mid28, MidX29, hm27, hk30, hx31⟩ := h
    refine wp_callS (M' := M_X7_needPlace) (As := [vi a3, vi v26]) (st := []) dX7_moveBalloon_50 cee_X7_needPlace np_X7_needPlace rfl ⟨Nat.le_of_ble_eq_true rfl, Nat.le_of_ble_eq_true rfl, Nat.le_of_ble_eq_true rfl, Nat.le_of_ble_eq_true rfl⟩ wd_315 wd_316 (q_small_of (Nat.le_of_ble_eq_true rfl)) hm27 (q_kTv (fun σ32 hM33 => ?_)) (q_kXv rfl hx31)
    refine wp_less (ac2 := 6) (as2 := 812) (Nat.le_of_ble_eq_true rfl) (Nat.le_of_ble_eq_true rfl) ?_
    have h := hk30 σ32 hM33
    refine wp_aload dX7_moveBalloon_53 rfl ?_
    refine wp_aload dX7_moveBalloon_55 rfl ?_
    refine wp_acmp_eq (tgt := 82) dX7_moveBalloon_57 (by decide) (fun c34 => ?_) (fun c34 => ?_)
    · replace h := h.1 c34
      refine wp_aload dX7_moveBalloon_82 rfl ?_
      refine wp_aload dX7_moveBalloon_84 rfl ?_
      obtain ⟨hk36, h⟩ := h
      obtain ⟨v37, hm35, h⟩ := h
      refine wp_callV (M' := M_X5_indexOf) (As := [vr v9]) (st := []) (ci := 5) dX7_moveBalloon_86 cee_X5_indexOf np_X5_indexOf rfl ⟨Nat.le_of_ble_eq_true rfl, Nat.le_of_ble_eq_true rfl, Nat.le_of_ble_eq_true rfl, Nat.le_of_ble_eq_true rfl⟩ wd_689 wd_567 wd_568 rfl (Or.inl hk36) (q_small_of (Nat.le_of_ble_eq_true rfl)) hm35 (q_kPi ?_) q_kPi0
      refine wp_less (ac2 := 6) (as2 := 812) (Nat.le_of_ble_eq_true rfl) (Nat.le_of_ble_eq_true rfl) ?_
      refine wp_istore' (ls' := [some (vr a0), some (vi a1), some (vi a2), some (vi a3), some (vr v9), some (vr v18), some (vr x20), some (vi v37)]) dX7_moveBalloon_89 (Nat.le_of_ble_eq_true rfl) rfl ?_
      refine wp_aload dX7_moveBalloon_91 rfl ?_
      refine wp_aload dX7_moveBalloon_93 rfl ?_
      refine wp_iload_n dX7_moveBalloon_95 rfl ?_
      obtain ⟨hk39, h⟩ := h
      obtain ⟨Mid40, hm38, hk42⟩ := h
      refine wp_callV (M' := M_X0_goTo) (As := [vr v18, vi a3]) (st := []) (ci := 0) dX7_moveBalloon_96 cee_X0_goTo np_X0_goTo rfl ⟨Nat.le_of_ble_eq_true rfl, Nat.le_of_ble_eq_true rfl, Nat.le_of_ble_eq_true rfl, Nat.le_of_ble_eq_true rfl⟩ wd_690 wd_691 wd_692 rfl (Or.inl hk39) (q_small_of (Nat.le_of_ble_eq_true rfl)) hm38 (q_kTv0 (fun σ44 hM45 => ?_)) q_kTv00
      refine wp_less (ac2 := 4) (as2 := 412) (Nat.le_of_ble_eq_true rfl) (Nat.le_of_ble_eq_true rfl) ?_
      have h := hk42 σ44 hM45
      refine wp_aload_n dX7_moveBalloon_99 rfl ?_
      obtain ⟨hk46, h⟩ := h
      refine wp_get (v := vr (gP σ44 283 a0)) dX7_moveBalloon_100 fl_RX7_25 hk46 rfl ?_
      refine wp_aload dX7_moveBalloon_103 rfl ?_
      obtain ⟨hk47, h⟩ := h
      refine wp_get (v := vr (gP σ44 201 x20)) dX7_moveBalloon_105 fl_RX7_103 hk47 rfl ?_
      obtain ⟨hk49, h⟩ := h
      obtain ⟨Mid50, hm48, hk52⟩ := h
      refine wp_callV (M' := M_X3_tryPage) (As := [vr (gP σ44 201 x20)]) (st := []) (ci := 3) dX7_moveBalloon_108 cee_X3_tryPage np_X3_tryPage rfl ⟨Nat.le_of_ble_eq_true rfl, Nat.le_of_ble_eq_true rfl, Nat.le_of_ble_eq_true rfl, Nat.le_of_ble_eq_true rfl⟩ wd_447 wd_448 wd_449 rfl (Or.inl hk49) (q_small_of (Nat.le_of_ble_eq_true rfl)) hm48 (q_kTi0 (fun σ54 v56 hM55 => ?_)) q_kTi00
      refine wp_less (ac2 := 4) (as2 := 412) (Nat.le_of_ble_eq_true rfl) (Nat.le_of_ble_eq_true rfl) ?_
      have h := hk52 σ54 v56 hM55
      obtain ⟨hr57, h⟩ := h
      refine wp_if_eq (tgt := 136) dX7_moveBalloon_111 (by decide) hr57 (fun c58 => ?_) (fun c58 => ?_)
      · replace h := h.1 c58
        refine wp_aload dX7_moveBalloon_136 rfl ?_
        refine wp_aload dX7_moveBalloon_138 rfl ?_
        refine wp_iload dX7_moveBalloon_140 rfl ?_
        obtain ⟨hk60, h⟩ := h
        obtain ⟨Mid61, hm59, hk63⟩ := h
        refine wp_callV (M' := M_X0_goTo) (As := [vr x20, vi v37]) (st := []) (ci := 0) dX7_moveBalloon_142 cee_X0_goTo np_X0_goTo rfl ⟨Nat.le_of_ble_eq_true rfl, Nat.le_of_ble_eq_true rfl, Nat.le_of_ble_eq_true rfl, Nat.le_of_ble_eq_true rfl⟩ wd_690 wd_691 wd_692 rfl (Or.inl hk60) (q_small_of (Nat.le_of_ble_eq_true rfl)) hm59 (q_kTv0 (fun σ65 hM66 => ?_)) q_kTv00
        refine wp_less (ac2 := 2) (as2 := 12) (Nat.le_of_ble_eq_true rfl) (Nat.le_of_ble_eq_true rfl) ?_
        have h := hk63 σ65 hM66
        exact wp_throw (n := 0) (text := "a page cannot be laid or read") (by decide) rfl rfl (by decide +kernel) dX7_moveBalloon_145 dX7_moveBalloon_148 dX7_moveBalloon_149 dX7_moveBalloon_151 dX7_moveBalloon_154 (q_small_of (Nat.le_of_ble_eq_true rfl)) ⟨Nat.le_of_ble_eq_true rfl, Nat.le_of_ble_eq_true rfl⟩ (Nat.le_of_ble_eq_true rfl) (Nat.le_of_ble_eq_true rfl) h
      · replace h := h.2 c58
        refine wp_aload_n dX7_moveBalloon_114 rfl ?_
        obtain ⟨hk67, h⟩ := h
        refine wp_get (v := vr (gP σ54 283 a0)) dX7_moveBalloon_115 fl_RX7_25 hk67 rfl ?_
        refine wp_aload dX7_moveBalloon_118 rfl ?_
        obtain ⟨hk68, h⟩ := h
        refine wp_get (v := vr (gP σ54 201 v18)) dX7_moveBalloon_120 fl_RX7_103 hk68 rfl ?_
        obtain ⟨hk70, h⟩ := h
        obtain ⟨Mid71, hm69, hk73⟩ := h
        refine wp_callV (M' := M_X3_tryPage) (As := [vr (gP σ54 201 v18)]) (st := []) (ci := 3) dX7_moveBalloon_123 cee_X3_tryPage np_X3_tryPage rfl ⟨Nat.le_of_ble_eq_true rfl, Nat.le_of_ble_eq_true rfl, Nat.le_of_ble_eq_true rfl, Nat.le_of_ble_eq_true rfl⟩ wd_447 wd_448 wd_449 rfl (Or.inl hk70) (q_small_of (Nat.le_of_ble_eq_true rfl)) hm69 (q_kTi0 (fun σ75 v77 hM76 => ?_)) q_kTi00
        refine wp_less (ac2 := 4) (as2 := 412) (Nat.le_of_ble_eq_true rfl) (Nat.le_of_ble_eq_true rfl) ?_
        have h := hk73 σ75 v77 hM76
        obtain ⟨hr78, h⟩ := h
        refine wp_if_eq (tgt := 136) dX7_moveBalloon_126 (by decide) hr78 (fun c79 => ?_) (fun c79 => ?_)
        · replace h := h.1 c79
          refine wp_aload dX7_moveBalloon_136 rfl ?_
          refine wp_aload dX7_moveBalloon_138 rfl ?_
          refine wp_iload dX7_moveBalloon_140 rfl ?_
          obtain ⟨hk81, h⟩ := h
          obtain ⟨Mid82, hm80, hk84⟩ := h
          refine wp_callV (M' := M_X0_goTo) (As := [vr x20, vi v37]) (st := []) (ci := 0) dX7_moveBalloon_142 cee_X0_goTo np_X0_goTo rfl ⟨Nat.le_of_ble_eq_true rfl, Nat.le_of_ble_eq_true rfl, Nat.le_of_ble_eq_true rfl, Nat.le_of_ble_eq_true rfl⟩ wd_690 wd_691 wd_692 rfl (Or.inl hk81) (q_small_of (Nat.le_of_ble_eq_true rfl)) hm80 (q_kTv0 (fun σ86 hM87 => ?_)) q_kTv00
          refine wp_less (ac2 := 2) (as2 := 12) (Nat.le_of_ble_eq_true rfl) (Nat.le_of_ble_eq_true rfl) ?_
          have h := hk84 σ86 hM87
          exact wp_throw (n := 0) (text := "a page cannot be laid or read") (by decide) rfl rfl (by decide +kernel) dX7_moveBalloon_145 dX7_moveBalloon_148 dX7_moveBalloon_149 dX7_moveBalloon_151 dX7_moveBalloon_154 (q_small_of (Nat.le_of_ble_eq_true rfl)) ⟨Nat.le_of_ble_eq_true rfl, Nat.le_of_ble_eq_true rfl⟩ (Nat.le_of_ble_eq_true rfl) (Nat.le_of_ble_eq_true rfl) h
        · replace h := h.2 c79
          refine wp_aload_n dX7_moveBalloon_129 rfl ?_
          obtain ⟨hk89, h⟩ := h
          obtain ⟨v90, hm88, h⟩ := h
          refine wp_callV (M' := M_X7_answersComeLater) (As := []) (st := []) (ci := 7) dX7_moveBalloon_130 cee_X7_answersComeLater np_X7_answersComeLater rfl ⟨Nat.le_of_ble_eq_true rfl, Nat.le_of_ble_eq_true rfl, Nat.le_of_ble_eq_true rfl, Nat.le_of_ble_eq_true rfl⟩ wd_556 wd_558 sel_X7_answersComeLater rfl (Or.inl hk89) (q_small_of (Nat.le_of_ble_eq_true rfl)) hm88 (q_kPi ?_) q_kPi0
          refine wp_less (ac2 := 4) (as2 := 412) (Nat.le_of_ble_eq_true rfl) (Nat.le_of_ble_eq_true rfl) ?_
          obtain ⟨hr91, h⟩ := h
          refine wp_if_ne (tgt := 155) dX7_moveBalloon_133 (by decide) hr91 (fun c92 => ?_) (fun c92 => ?_)
          · replace h := h.1 c92
            refine wp_aload dX7_moveBalloon_155 rfl ?_
            obtain ⟨hk93, h⟩ := h
            refine wp_get (v := vr (gP σ75 201 x20)) dX7_moveBalloon_157 fl_RX7_103 hk93 rfl ?_
            obtain ⟨hk95, h⟩ := h
            obtain ⟨Mid96, hm94, hk98⟩ := h
            refine wp_callV (M' := M_X4_keepTrial) (As := []) (st := []) (ci := 4) dX7_moveBalloon_160 cee_X4_keepTrial np_X4_keepTrial rfl ⟨Nat.le_of_ble_eq_true rfl, Nat.le_of_ble_eq_true rfl, Nat.le_of_ble_eq_true rfl, Nat.le_of_ble_eq_true rfl⟩ wd_522 wd_523 wd_524 rfl (Or.inl hk95) (q_small_of (Nat.le_of_ble_eq_true rfl)) hm94 (q_kTi0 (fun σ100 v102 hM101 => ?_)) q_kTi00
            refine wp_less (ac2 := 4) (as2 := 412) (Nat.le_of_ble_eq_true rfl) (Nat.le_of_ble_eq_true rfl) ?_
            have h := hk98 σ100 v102 hM101
            refine wp_pop dX7_moveBalloon_163 trivial ?_
            refine wp_aload dX7_moveBalloon_164 rfl ?_
            obtain ⟨hk103, h⟩ := h
            refine wp_get (v := vr (gP σ100 201 v18)) dX7_moveBalloon_166 fl_RX7_103 hk103 rfl ?_
            obtain ⟨hk105, h⟩ := h
            obtain ⟨Mid106, hm104, hk108⟩ := h
            refine wp_callV (M' := M_X4_keepTrial) (As := []) (st := []) (ci := 4) dX7_moveBalloon_169 cee_X4_keepTrial np_X4_keepTrial rfl ⟨Nat.le_of_ble_eq_true rfl, Nat.le_of_ble_eq_true rfl, Nat.le_of_ble_eq_true rfl, Nat.le_of_ble_eq_true rfl⟩ wd_522 wd_523 wd_524 rfl (Or.inl hk105) (q_small_of (Nat.le_of_ble_eq_true rfl)) hm104 (q_kTi0 (fun σ110 v112 hM111 => ?_)) q_kTi00
            refine wp_less (ac2 := 4) (as2 := 412) (Nat.le_of_ble_eq_true rfl) (Nat.le_of_ble_eq_true rfl) ?_
            have h := hk108 σ110 v112 hM111
            refine wp_pop dX7_moveBalloon_172 trivial ?_
            exact wp_ret_v dX7_moveBalloon_173 rfl h
          · replace h := h.2 c92
            refine wp_aload dX7_moveBalloon_136 rfl ?_
            refine wp_aload dX7_moveBalloon_138 rfl ?_
            refine wp_iload dX7_moveBalloon_140 rfl ?_
            obtain ⟨hk114, h⟩ := h
            obtain ⟨Mid115, hm113, hk117⟩ := h
            refine wp_callV (M' := M_X0_goTo) (As := [vr x20, vi v37]) (st := []) (ci := 0) dX7_moveBalloon_142 cee_X0_goTo np_X0_goTo rfl ⟨Nat.le_of_ble_eq_true rfl, Nat.le_of_ble_eq_true rfl, Nat.le_of_ble_eq_true rfl, Nat.le_of_ble_eq_true rfl⟩ wd_690 wd_691 wd_692 rfl (Or.inl hk114) (q_small_of (Nat.le_of_ble_eq_true rfl)) hm113 (q_kTv0 (fun σ119 hM120 => ?_)) q_kTv00
            refine wp_less (ac2 := 2) (as2 := 12) (Nat.le_of_ble_eq_true rfl) (Nat.le_of_ble_eq_true rfl) ?_
            have h := hk117 σ119 hM120
            exact wp_throw (n := 0) (text := "a page cannot be laid or read") (by decide) rfl rfl (by decide +kernel) dX7_moveBalloon_145 dX7_moveBalloon_148 dX7_moveBalloon_149 dX7_moveBalloon_151 dX7_moveBalloon_154 (q_small_of (Nat.le_of_ble_eq_true rfl)) ⟨Nat.le_of_ble_eq_true rfl, Nat.le_of_ble_eq_true rfl⟩ (Nat.le_of_ble_eq_true rfl) (Nat.le_of_ble_eq_true rfl) h
    · replace h := h.2 c34
      refine wp_aload dX7_moveBalloon_60 rfl ?_
      obtain ⟨hk121, h⟩ := h
      refine wp_get (v := vr (gP σ32 206 v18)) dX7_moveBalloon_62 fl_RX7_137 hk121 rfl ?_
      obtain ⟨hk123, h⟩ := h
      obtain ⟨v124, hm122, h⟩ := h
      refine wp_callV (M' := M_Jx4a65c_size_8abf5) (As := []) (st := []) (ci := 9) dX7_moveBalloon_65 cee_Jx4a65c_size_8abf5 np_Jx4a65c_size_8abf5 rfl ⟨Nat.le_of_ble_eq_true rfl, Nat.le_of_ble_eq_true rfl, Nat.le_of_ble_eq_true rfl, Nat.le_of_ble_eq_true rfl⟩ wd_112 wd_113 wd_114 rfl (Or.inr ⟨hk123, rfl⟩) (q_small_of (Nat.le_of_ble_eq_true rfl)) hm122 (q_kPi ?_) q_kPi0
      refine wp_less (ac2 := 6) (as2 := 812) (Nat.le_of_ble_eq_true rfl) (Nat.le_of_ble_eq_true rfl) ?_
      refine wp_iconst dX7_moveBalloon_68 ?_
      obtain ⟨hr125, h⟩ := h
      refine wp_icmp_lt (tgt := 82) dX7_moveBalloon_69 (by decide) hr125 (by unfold qR; omega) (fun c126 => ?_) (fun c126 => ?_)
      · replace h := h.1 c126
        refine wp_aload dX7_moveBalloon_82 rfl ?_
        refine wp_aload dX7_moveBalloon_84 rfl ?_
        obtain ⟨hk128, h⟩ := h
        obtain ⟨v129, hm127, h⟩ := h
        refine wp_callV (M' := M_X5_indexOf) (As := [vr v9]) (st := []) (ci := 5) dX7_moveBalloon_86 cee_X5_indexOf np_X5_indexOf rfl ⟨Nat.le_of_ble_eq_true rfl, Nat.le_of_ble_eq_true rfl, Nat.le_of_ble_eq_true rfl, Nat.le_of_ble_eq_true rfl⟩ wd_689 wd_567 wd_568 rfl (Or.inl hk128) (q_small_of (Nat.le_of_ble_eq_true rfl)) hm127 (q_kPi ?_) q_kPi0
        refine wp_less (ac2 := 6) (as2 := 812) (Nat.le_of_ble_eq_true rfl) (Nat.le_of_ble_eq_true rfl) ?_
        refine wp_istore' (ls' := [some (vr a0), some (vi a1), some (vi a2), some (vi a3), some (vr v9), some (vr v18), some (vr x20), some (vi v129)]) dX7_moveBalloon_89 (Nat.le_of_ble_eq_true rfl) rfl ?_
        refine wp_aload dX7_moveBalloon_91 rfl ?_
        refine wp_aload dX7_moveBalloon_93 rfl ?_
        refine wp_iload_n dX7_moveBalloon_95 rfl ?_
        obtain ⟨hk131, h⟩ := h
        obtain ⟨Mid132, hm130, hk134⟩ := h
        refine wp_callV (M' := M_X0_goTo) (As := [vr v18, vi a3]) (st := []) (ci := 0) dX7_moveBalloon_96 cee_X0_goTo np_X0_goTo rfl ⟨Nat.le_of_ble_eq_true rfl, Nat.le_of_ble_eq_true rfl, Nat.le_of_ble_eq_true rfl, Nat.le_of_ble_eq_true rfl⟩ wd_690 wd_691 wd_692 rfl (Or.inl hk131) (q_small_of (Nat.le_of_ble_eq_true rfl)) hm130 (q_kTv0 (fun σ136 hM137 => ?_)) q_kTv00
        refine wp_less (ac2 := 4) (as2 := 412) (Nat.le_of_ble_eq_true rfl) (Nat.le_of_ble_eq_true rfl) ?_
        have h := hk134 σ136 hM137
        refine wp_aload_n dX7_moveBalloon_99 rfl ?_
        obtain ⟨hk138, h⟩ := h
        refine wp_get (v := vr (gP σ136 283 a0)) dX7_moveBalloon_100 fl_RX7_25 hk138 rfl ?_
        refine wp_aload dX7_moveBalloon_103 rfl ?_
        obtain ⟨hk139, h⟩ := h
        refine wp_get (v := vr (gP σ136 201 x20)) dX7_moveBalloon_105 fl_RX7_103 hk139 rfl ?_
        obtain ⟨hk141, h⟩ := h
        obtain ⟨Mid142, hm140, hk144⟩ := h
        refine wp_callV (M' := M_X3_tryPage) (As := [vr (gP σ136 201 x20)]) (st := []) (ci := 3) dX7_moveBalloon_108 cee_X3_tryPage np_X3_tryPage rfl ⟨Nat.le_of_ble_eq_true rfl, Nat.le_of_ble_eq_true rfl, Nat.le_of_ble_eq_true rfl, Nat.le_of_ble_eq_true rfl⟩ wd_447 wd_448 wd_449 rfl (Or.inl hk141) (q_small_of (Nat.le_of_ble_eq_true rfl)) hm140 (q_kTi0 (fun σ146 v148 hM147 => ?_)) q_kTi00
        refine wp_less (ac2 := 4) (as2 := 412) (Nat.le_of_ble_eq_true rfl) (Nat.le_of_ble_eq_true rfl) ?_
        have h := hk144 σ146 v148 hM147
        obtain ⟨hr149, h⟩ := h
        refine wp_if_eq (tgt := 136) dX7_moveBalloon_111 (by decide) hr149 (fun c150 => ?_) (fun c150 => ?_)
        · replace h := h.1 c150
          refine wp_aload dX7_moveBalloon_136 rfl ?_
          refine wp_aload dX7_moveBalloon_138 rfl ?_
          refine wp_iload dX7_moveBalloon_140 rfl ?_
          obtain ⟨hk152, h⟩ := h
          obtain ⟨Mid153, hm151, hk155⟩ := h
          refine wp_callV (M' := M_X0_goTo) (As := [vr x20, vi v129]) (st := []) (ci := 0) dX7_moveBalloon_142 cee_X0_goTo np_X0_goTo rfl ⟨Nat.le_of_ble_eq_true rfl, Nat.le_of_ble_eq_true rfl, Nat.le_of_ble_eq_true rfl, Nat.le_of_ble_eq_true rfl⟩ wd_690 wd_691 wd_692 rfl (Or.inl hk152) (q_small_of (Nat.le_of_ble_eq_true rfl)) hm151 (q_kTv0 (fun σ157 hM158 => ?_)) q_kTv00
          refine wp_less (ac2 := 2) (as2 := 12) (Nat.le_of_ble_eq_true rfl) (Nat.le_of_ble_eq_true rfl) ?_
          have h := hk155 σ157 hM158
          exact wp_throw (n := 0) (text := "a page cannot be laid or read") (by decide) rfl rfl (by decide +kernel) dX7_moveBalloon_145 dX7_moveBalloon_148 dX7_moveBalloon_149 dX7_moveBalloon_151 dX7_moveBalloon_154 (q_small_of (Nat.le_of_ble_eq_true rfl)) ⟨Nat.le_of_ble_eq_true rfl, Nat.le_of_ble_eq_true rfl⟩ (Nat.le_of_ble_eq_true rfl) (Nat.le_of_ble_eq_true rfl) h
        · replace h := h.2 c150
          refine wp_aload_n dX7_moveBalloon_114 rfl ?_
          obtain ⟨hk159, h⟩ := h
          refine wp_get (v := vr (gP σ146 283 a0)) dX7_moveBalloon_115 fl_RX7_25 hk159 rfl ?_
          refine wp_aload dX7_moveBalloon_118 rfl ?_
          obtain ⟨hk160, h⟩ := h
          refine wp_get (v := vr (gP σ146 201 v18)) dX7_moveBalloon_120 fl_RX7_103 hk160 rfl ?_
          obtain ⟨hk162, h⟩ := h
          obtain ⟨Mid163, hm161, hk165⟩ := h
          refine wp_callV (M' := M_X3_tryPage) (As := [vr (gP σ146 201 v18)]) (st := []) (ci := 3) dX7_moveBalloon_123 cee_X3_tryPage np_X3_tryPage rfl ⟨Nat.le_of_ble_eq_true rfl, Nat.le_of_ble_eq_true rfl, Nat.le_of_ble_eq_true rfl, Nat.le_of_ble_eq_true rfl⟩ wd_447 wd_448 wd_449 rfl (Or.inl hk162) (q_small_of (Nat.le_of_ble_eq_true rfl)) hm161 (q_kTi0 (fun σ167 v169 hM168 => ?_)) q_kTi00
          refine wp_less (ac2 := 4) (as2 := 412) (Nat.le_of_ble_eq_true rfl) (Nat.le_of_ble_eq_true rfl) ?_
          have h := hk165 σ167 v169 hM168
          obtain ⟨hr170, h⟩ := h
          refine wp_if_eq (tgt := 136) dX7_moveBalloon_126 (by decide) hr170 (fun c171 => ?_) (fun c171 => ?_)
          · replace h := h.1 c171
            refine wp_aload dX7_moveBalloon_136 rfl ?_
            refine wp_aload dX7_moveBalloon_138 rfl ?_
            refine wp_iload dX7_moveBalloon_140 rfl ?_
            obtain ⟨hk173, h⟩ := h
            obtain ⟨Mid174, hm172, hk176⟩ := h
            refine wp_callV (M' := M_X0_goTo) (As := [vr x20, vi v129]) (st := []) (ci := 0) dX7_moveBalloon_142 cee_X0_goTo np_X0_goTo rfl ⟨Nat.le_of_ble_eq_true rfl, Nat.le_of_ble_eq_true rfl, Nat.le_of_ble_eq_true rfl, Nat.le_of_ble_eq_true rfl⟩ wd_690 wd_691 wd_692 rfl (Or.inl hk173) (q_small_of (Nat.le_of_ble_eq_true rfl)) hm172 (q_kTv0 (fun σ178 hM179 => ?_)) q_kTv00
            refine wp_less (ac2 := 2) (as2 := 12) (Nat.le_of_ble_eq_true rfl) (Nat.le_of_ble_eq_true rfl) ?_
            have h := hk176 σ178 hM179
            exact wp_throw (n := 0) (text := "a page cannot be laid or read") (by decide) rfl rfl (by decide +kernel) dX7_moveBalloon_145 dX7_moveBalloon_148 dX7_moveBalloon_149 dX7_moveBalloon_151 dX7_moveBalloon_154 (q_small_of (Nat.le_of_ble_eq_true rfl)) ⟨Nat.le_of_ble_eq_true rfl, Nat.le_of_ble_eq_true rfl⟩ (Nat.le_of_ble_eq_true rfl) (Nat.le_of_ble_eq_true rfl) h
          · replace h := h.2 c171
            refine wp_aload_n dX7_moveBalloon_129 rfl ?_
            obtain ⟨hk181, h⟩ := h
            obtain ⟨v182, hm180, h⟩ := h
            refine wp_callV (M' := M_X7_answersComeLater) (As := []) (st := []) (ci := 7) dX7_moveBalloon_130 cee_X7_answersComeLater np_X7_answersComeLater rfl ⟨Nat.le_of_ble_eq_true rfl, Nat.le_of_ble_eq_true rfl, Nat.le_of_ble_eq_true rfl, Nat.le_of_ble_eq_true rfl⟩ wd_556 wd_558 sel_X7_answersComeLater rfl (Or.inl hk181) (q_small_of (Nat.le_of_ble_eq_true rfl)) hm180 (q_kPi ?_) q_kPi0
            refine wp_less (ac2 := 4) (as2 := 412) (Nat.le_of_ble_eq_true rfl) (Nat.le_of_ble_eq_true rfl) ?_
            obtain ⟨hr183, h⟩ := h
            refine wp_if_ne (tgt := 155) dX7_moveBalloon_133 (by decide) hr183 (fun c184 => ?_) (fun c184 => ?_)
            · replace h := h.1 c184
              refine wp_aload dX7_moveBalloon_155 rfl ?_
              obtain ⟨hk185, h⟩ := h
              refine wp_get (v := vr (gP σ167 201 x20)) dX7_moveBalloon_157 fl_RX7_103 hk185 rfl ?_
              obtain ⟨hk187, h⟩ := h
              obtain ⟨Mid188, hm186, hk190⟩ := h
              refine wp_callV (M' := M_X4_keepTrial) (As := []) (st := []) (ci := 4) dX7_moveBalloon_160 cee_X4_keepTrial np_X4_keepTrial rfl ⟨Nat.le_of_ble_eq_true rfl, Nat.le_of_ble_eq_true rfl, Nat.le_of_ble_eq_true rfl, Nat.le_of_ble_eq_true rfl⟩ wd_522 wd_523 wd_524 rfl (Or.inl hk187) (q_small_of (Nat.le_of_ble_eq_true rfl)) hm186 (q_kTi0 (fun σ192 v194 hM193 => ?_)) q_kTi00
              refine wp_less (ac2 := 4) (as2 := 412) (Nat.le_of_ble_eq_true rfl) (Nat.le_of_ble_eq_true rfl) ?_
              have h := hk190 σ192 v194 hM193
              refine wp_pop dX7_moveBalloon_163 trivial ?_
              refine wp_aload dX7_moveBalloon_164 rfl ?_
              obtain ⟨hk195, h⟩ := h
              refine wp_get (v := vr (gP σ192 201 v18)) dX7_moveBalloon_166 fl_RX7_103 hk195 rfl ?_
              obtain ⟨hk197, h⟩ := h
              obtain ⟨Mid198, hm196, hk200⟩ := h
              refine wp_callV (M' := M_X4_keepTrial) (As := []) (st := []) (ci := 4) dX7_moveBalloon_169 cee_X4_keepTrial np_X4_keepTrial rfl ⟨Nat.le_of_ble_eq_true rfl, Nat.le_of_ble_eq_true rfl, Nat.le_of_ble_eq_true rfl, Nat.le_of_ble_eq_true rfl⟩ wd_522 wd_523 wd_524 rfl (Or.inl hk197) (q_small_of (Nat.le_of_ble_eq_true rfl)) hm196 (q_kTi0 (fun σ202 v204 hM203 => ?_)) q_kTi00
              refine wp_less (ac2 := 4) (as2 := 412) (Nat.le_of_ble_eq_true rfl) (Nat.le_of_ble_eq_true rfl) ?_
              have h := hk200 σ202 v204 hM203
              refine wp_pop dX7_moveBalloon_172 trivial ?_
              exact wp_ret_v dX7_moveBalloon_173 rfl h
            · replace h := h.2 c184
              refine wp_aload dX7_moveBalloon_136 rfl ?_
              refine wp_aload dX7_moveBalloon_138 rfl ?_
              refine wp_iload dX7_moveBalloon_140 rfl ?_
              obtain ⟨hk206, h⟩ := h
              obtain ⟨Mid207, hm205, hk209⟩ := h
              refine wp_callV (M' := M_X0_goTo) (As := [vr x20, vi v129]) (st := []) (ci := 0) dX7_moveBalloon_142 cee_X0_goTo np_X0_goTo rfl ⟨Nat.le_of_ble_eq_true rfl, Nat.le_of_ble_eq_true rfl, Nat.le_of_ble_eq_true rfl, Nat.le_of_ble_eq_true rfl⟩ wd_690 wd_691 wd_692 rfl (Or.inl hk206) (q_small_of (Nat.le_of_ble_eq_true rfl)) hm205 (q_kTv0 (fun σ211 hM212 => ?_)) q_kTv00
              refine wp_less (ac2 := 2) (as2 := 12) (Nat.le_of_ble_eq_true rfl) (Nat.le_of_ble_eq_true rfl) ?_
              have h := hk209 σ211 hM212
              exact wp_throw (n := 0) (text := "a page cannot be laid or read") (by decide) rfl rfl (by decide +kernel) dX7_moveBalloon_145 dX7_moveBalloon_148 dX7_moveBalloon_149 dX7_moveBalloon_151 dX7_moveBalloon_154 (q_small_of (Nat.le_of_ble_eq_true rfl)) ⟨Nat.le_of_ble_eq_true rfl, Nat.le_of_ble_eq_true rfl⟩ (Nat.le_of_ble_eq_true rfl) (Nat.le_of_ble_eq_true rfl) h
      · replace h := h.2 c126
        exact wp_throw (n := 0) (text := "the panel has all balloons") (by decide) rfl rfl (by decide +kernel) dX7_moveBalloon_72 dX7_moveBalloon_75 dX7_moveBalloon_76 dX7_moveBalloon_78 dX7_moveBalloon_81 (q_small_of (Nat.le_of_ble_eq_true rfl)) ⟨Nat.le_of_ble_eq_true rfl, Nat.le_of_ble_eq_true rfl⟩ (Nat.le_of_ble_eq_true rfl) (Nat.le_of_ble_eq_true rfl) h
  · replace h := h.2 c22
    refine wp_aload dX7_moveBalloon_29 rfl ?_
    obtain ⟨hk213, h⟩ := h
    refine wp_get (v := vr (gP σ16 206 v18)) dX7_moveBalloon_31 fl_RX7_137 hk213 rfl ?_
    obtain ⟨hk215, h⟩ := h
    obtain ⟨v216, hm214, h⟩ := h
    refine wp_callV (M' := M_Jx4a65c_size_8abf5) (As := []) (st := [vi a3]) (ci := 9) dX7_moveBalloon_34 cee_Jx4a65c_size_8abf5 np_Jx4a65c_size_8abf5 rfl ⟨Nat.le_of_ble_eq_true rfl, Nat.le_of_ble_eq_true rfl, Nat.le_of_ble_eq_true rfl, Nat.le_of_ble_eq_true rfl⟩ wd_112 wd_113 wd_114 rfl (Or.inr ⟨hk215, rfl⟩) (q_small_of (Nat.le_of_ble_eq_true rfl)) hm214 (q_kPi ?_) q_kPi0
    refine wp_less (ac2 := 7) (as2 := 818) (Nat.le_of_ble_eq_true rfl) (Nat.le_of_ble_eq_true rfl) ?_
    refine wp_iconst dX7_moveBalloon_37 ?_
    refine wp_isub dX7_moveBalloon_38 ?_
    refine wp_goto (tgt := 50) dX7_moveBalloon_39 (by decide) ?_
    obtain ⟨Mid218, MidX219, hm217, hk220, hx221⟩ := h
    refine wp_callS (M' := M_X7_needPlace) (As := [vi a3, vi (v216 - 1)]) (st := []) dX7_moveBalloon_50 cee_X7_needPlace np_X7_needPlace rfl ⟨Nat.le_of_ble_eq_true rfl, Nat.le_of_ble_eq_true rfl, Nat.le_of_ble_eq_true rfl, Nat.le_of_ble_eq_true rfl⟩ wd_315 wd_316 (q_small_of (Nat.le_of_ble_eq_true rfl)) hm217 (q_kTv (fun σ222 hM223 => ?_)) (q_kXv rfl hx221)
    refine wp_less (ac2 := 6) (as2 := 812) (Nat.le_of_ble_eq_true rfl) (Nat.le_of_ble_eq_true rfl) ?_
    have h := hk220 σ222 hM223
    refine wp_aload dX7_moveBalloon_53 rfl ?_
    refine wp_aload dX7_moveBalloon_55 rfl ?_
    refine wp_acmp_eq (tgt := 82) dX7_moveBalloon_57 (by decide) (fun c224 => ?_) (fun c224 => ?_)
    · replace h := h.1 c224
      refine wp_aload dX7_moveBalloon_82 rfl ?_
      refine wp_aload dX7_moveBalloon_84 rfl ?_
      obtain ⟨hk226, h⟩ := h
      obtain ⟨v227, hm225, h⟩ := h
      refine wp_callV (M' := M_X5_indexOf) (As := [vr v9]) (st := []) (ci := 5) dX7_moveBalloon_86 cee_X5_indexOf np_X5_indexOf rfl ⟨Nat.le_of_ble_eq_true rfl, Nat.le_of_ble_eq_true rfl, Nat.le_of_ble_eq_true rfl, Nat.le_of_ble_eq_true rfl⟩ wd_689 wd_567 wd_568 rfl (Or.inl hk226) (q_small_of (Nat.le_of_ble_eq_true rfl)) hm225 (q_kPi ?_) q_kPi0
      refine wp_less (ac2 := 6) (as2 := 812) (Nat.le_of_ble_eq_true rfl) (Nat.le_of_ble_eq_true rfl) ?_
      refine wp_istore' (ls' := [some (vr a0), some (vi a1), some (vi a2), some (vi a3), some (vr v9), some (vr v18), some (vr x20), some (vi v227)]) dX7_moveBalloon_89 (Nat.le_of_ble_eq_true rfl) rfl ?_
      refine wp_aload dX7_moveBalloon_91 rfl ?_
      refine wp_aload dX7_moveBalloon_93 rfl ?_
      refine wp_iload_n dX7_moveBalloon_95 rfl ?_
      obtain ⟨hk229, h⟩ := h
      obtain ⟨Mid230, hm228, hk232⟩ := h
      refine wp_callV (M' := M_X0_goTo) (As := [vr v18, vi a3]) (st := []) (ci := 0) dX7_moveBalloon_96 cee_X0_goTo np_X0_goTo rfl ⟨Nat.le_of_ble_eq_true rfl, Nat.le_of_ble_eq_true rfl, Nat.le_of_ble_eq_true rfl, Nat.le_of_ble_eq_true rfl⟩ wd_690 wd_691 wd_692 rfl (Or.inl hk229) (q_small_of (Nat.le_of_ble_eq_true rfl)) hm228 (q_kTv0 (fun σ234 hM235 => ?_)) q_kTv00
      refine wp_less (ac2 := 4) (as2 := 412) (Nat.le_of_ble_eq_true rfl) (Nat.le_of_ble_eq_true rfl) ?_
      have h := hk232 σ234 hM235
      refine wp_aload_n dX7_moveBalloon_99 rfl ?_
      obtain ⟨hk236, h⟩ := h
      refine wp_get (v := vr (gP σ234 283 a0)) dX7_moveBalloon_100 fl_RX7_25 hk236 rfl ?_
      refine wp_aload dX7_moveBalloon_103 rfl ?_
      obtain ⟨hk237, h⟩ := h
      refine wp_get (v := vr (gP σ234 201 x20)) dX7_moveBalloon_105 fl_RX7_103 hk237 rfl ?_
      obtain ⟨hk239, h⟩ := h
      obtain ⟨Mid240, hm238, hk242⟩ := h
      refine wp_callV (M' := M_X3_tryPage) (As := [vr (gP σ234 201 x20)]) (st := []) (ci := 3) dX7_moveBalloon_108 cee_X3_tryPage np_X3_tryPage rfl ⟨Nat.le_of_ble_eq_true rfl, Nat.le_of_ble_eq_true rfl, Nat.le_of_ble_eq_true rfl, Nat.le_of_ble_eq_true rfl⟩ wd_447 wd_448 wd_449 rfl (Or.inl hk239) (q_small_of (Nat.le_of_ble_eq_true rfl)) hm238 (q_kTi0 (fun σ244 v246 hM245 => ?_)) q_kTi00
      refine wp_less (ac2 := 4) (as2 := 412) (Nat.le_of_ble_eq_true rfl) (Nat.le_of_ble_eq_true rfl) ?_
      have h := hk242 σ244 v246 hM245
      obtain ⟨hr247, h⟩ := h
      refine wp_if_eq (tgt := 136) dX7_moveBalloon_111 (by decide) hr247 (fun c248 => ?_) (fun c248 => ?_)
      · replace h := h.1 c248
        refine wp_aload dX7_moveBalloon_136 rfl ?_
        refine wp_aload dX7_moveBalloon_138 rfl ?_
        refine wp_iload dX7_moveBalloon_140 rfl ?_
        obtain ⟨hk250, h⟩ := h
        obtain ⟨Mid251, hm249, hk253⟩ := h
        refine wp_callV (M' := M_X0_goTo) (As := [vr x20, vi v227]) (st := []) (ci := 0) dX7_moveBalloon_142 cee_X0_goTo np_X0_goTo rfl ⟨Nat.le_of_ble_eq_true rfl, Nat.le_of_ble_eq_true rfl, Nat.le_of_ble_eq_true rfl, Nat.le_of_ble_eq_true rfl⟩ wd_690 wd_691 wd_692 rfl (Or.inl hk250) (q_small_of (Nat.le_of_ble_eq_true rfl)) hm249 (q_kTv0 (fun σ255 hM256 => ?_)) q_kTv00
        refine wp_less (ac2 := 2) (as2 := 12) (Nat.le_of_ble_eq_true rfl) (Nat.le_of_ble_eq_true rfl) ?_
        have h := hk253 σ255 hM256
        exact wp_throw (n := 0) (text := "a page cannot be laid or read") (by decide) rfl rfl (by decide +kernel) dX7_moveBalloon_145 dX7_moveBalloon_148 dX7_moveBalloon_149 dX7_moveBalloon_151 dX7_moveBalloon_154 (q_small_of (Nat.le_of_ble_eq_true rfl)) ⟨Nat.le_of_ble_eq_true rfl, Nat.le_of_ble_eq_true rfl⟩ (Nat.le_of_ble_eq_true rfl) (Nat.le_of_ble_eq_true rfl) h
      · replace h := h.2 c248
        refine wp_aload_n dX7_moveBalloon_114 rfl ?_
        obtain ⟨hk257, h⟩ := h
        refine wp_get (v := vr (gP σ244 283 a0)) dX7_moveBalloon_115 fl_RX7_25 hk257 rfl ?_
        refine wp_aload dX7_moveBalloon_118 rfl ?_
        obtain ⟨hk258, h⟩ := h
        refine wp_get (v := vr (gP σ244 201 v18)) dX7_moveBalloon_120 fl_RX7_103 hk258 rfl ?_
        obtain ⟨hk260, h⟩ := h
        obtain ⟨Mid261, hm259, hk263⟩ := h
        refine wp_callV (M' := M_X3_tryPage) (As := [vr (gP σ244 201 v18)]) (st := []) (ci := 3) dX7_moveBalloon_123 cee_X3_tryPage np_X3_tryPage rfl ⟨Nat.le_of_ble_eq_true rfl, Nat.le_of_ble_eq_true rfl, Nat.le_of_ble_eq_true rfl, Nat.le_of_ble_eq_true rfl⟩ wd_447 wd_448 wd_449 rfl (Or.inl hk260) (q_small_of (Nat.le_of_ble_eq_true rfl)) hm259 (q_kTi0 (fun σ265 v267 hM266 => ?_)) q_kTi00
        refine wp_less (ac2 := 4) (as2 := 412) (Nat.le_of_ble_eq_true rfl) (Nat.le_of_ble_eq_true rfl) ?_
        have h := hk263 σ265 v267 hM266
        obtain ⟨hr268, h⟩ := h
        refine wp_if_eq (tgt := 136) dX7_moveBalloon_126 (by decide) hr268 (fun c269 => ?_) (fun c269 => ?_)
        · replace h := h.1 c269
          refine wp_aload dX7_moveBalloon_136 rfl ?_
          refine wp_aload dX7_moveBalloon_138 rfl ?_
          refine wp_iload dX7_moveBalloon_140 rfl ?_
          obtain ⟨hk271, h⟩ := h
          obtain ⟨Mid272, hm270, hk274⟩ := h
          refine wp_callV (M' := M_X0_goTo) (As := [vr x20, vi v227]) (st := []) (ci := 0) dX7_moveBalloon_142 cee_X0_goTo np_X0_goTo rfl ⟨Nat.le_of_ble_eq_true rfl, Nat.le_of_ble_eq_true rfl, Nat.le_of_ble_eq_true rfl, Nat.le_of_ble_eq_true rfl⟩ wd_690 wd_691 wd_692 rfl (Or.inl hk271) (q_small_of (Nat.le_of_ble_eq_true rfl)) hm270 (q_kTv0 (fun σ276 hM277 => ?_)) q_kTv00
          refine wp_less (ac2 := 2) (as2 := 12) (Nat.le_of_ble_eq_true rfl) (Nat.le_of_ble_eq_true rfl) ?_
          have h := hk274 σ276 hM277
          exact wp_throw (n := 0) (text := "a page cannot be laid or read") (by decide) rfl rfl (by decide +kernel) dX7_moveBalloon_145 dX7_moveBalloon_148 dX7_moveBalloon_149 dX7_moveBalloon_151 dX7_moveBalloon_154 (q_small_of (Nat.le_of_ble_eq_true rfl)) ⟨Nat.le_of_ble_eq_true rfl, Nat.le_of_ble_eq_true rfl⟩ (Nat.le_of_ble_eq_true rfl) (Nat.le_of_ble_eq_true rfl) h
        · replace h := h.2 c269
          refine wp_aload_n dX7_moveBalloon_129 rfl ?_
          obtain ⟨hk279, h⟩ := h
          obtain ⟨v280, hm278, h⟩ := h
          refine wp_callV (M' := M_X7_answersComeLater) (As := []) (st := []) (ci := 7) dX7_moveBalloon_130 cee_X7_answersComeLater np_X7_answersComeLater rfl ⟨Nat.le_of_ble_eq_true rfl, Nat.le_of_ble_eq_true rfl, Nat.le_of_ble_eq_true rfl, Nat.le_of_ble_eq_true rfl⟩ wd_556 wd_558 sel_X7_answersComeLater rfl (Or.inl hk279) (q_small_of (Nat.le_of_ble_eq_true rfl)) hm278 (q_kPi ?_) q_kPi0
          refine wp_less (ac2 := 4) (as2 := 412) (Nat.le_of_ble_eq_true rfl) (Nat.le_of_ble_eq_true rfl) ?_
          obtain ⟨hr281, h⟩ := h
          refine wp_if_ne (tgt := 155) dX7_moveBalloon_133 (by decide) hr281 (fun c282 => ?_) (fun c282 => ?_)
          · replace h := h.1 c282
            refine wp_aload dX7_moveBalloon_155 rfl ?_
            obtain ⟨hk283, h⟩ := h
            refine wp_get (v := vr (gP σ265 201 x20)) dX7_moveBalloon_157 fl_RX7_103 hk283 rfl ?_
            obtain ⟨hk285, h⟩ := h
            obtain ⟨Mid286, hm284, hk288⟩ := h
            refine wp_callV (M' := M_X4_keepTrial) (As := []) (st := []) (ci := 4) dX7_moveBalloon_160 cee_X4_keepTrial np_X4_keepTrial rfl ⟨Nat.le_of_ble_eq_true rfl, Nat.le_of_ble_eq_true rfl, Nat.le_of_ble_eq_true rfl, Nat.le_of_ble_eq_true rfl⟩ wd_522 wd_523 wd_524 rfl (Or.inl hk285) (q_small_of (Nat.le_of_ble_eq_true rfl)) hm284 (q_kTi0 (fun σ290 v292 hM291 => ?_)) q_kTi00
            refine wp_less (ac2 := 4) (as2 := 412) (Nat.le_of_ble_eq_true rfl) (Nat.le_of_ble_eq_true rfl) ?_
            have h := hk288 σ290 v292 hM291
            refine wp_pop dX7_moveBalloon_163 trivial ?_
            refine wp_aload dX7_moveBalloon_164 rfl ?_
            obtain ⟨hk293, h⟩ := h
            refine wp_get (v := vr (gP σ290 201 v18)) dX7_moveBalloon_166 fl_RX7_103 hk293 rfl ?_
            obtain ⟨hk295, h⟩ := h
            obtain ⟨Mid296, hm294, hk298⟩ := h
            refine wp_callV (M' := M_X4_keepTrial) (As := []) (st := []) (ci := 4) dX7_moveBalloon_169 cee_X4_keepTrial np_X4_keepTrial rfl ⟨Nat.le_of_ble_eq_true rfl, Nat.le_of_ble_eq_true rfl, Nat.le_of_ble_eq_true rfl, Nat.le_of_ble_eq_true rfl⟩ wd_522 wd_523 wd_524 rfl (Or.inl hk295) (q_small_of (Nat.le_of_ble_eq_true rfl)) hm294 (q_kTi0 (fun σ300 v302 hM301 => ?_)) q_kTi00
            refine wp_less (ac2 := 4) (as2 := 412) (Nat.le_of_ble_eq_true rfl) (Nat.le_of_ble_eq_true rfl) ?_
            have h := hk298 σ300 v302 hM301
            refine wp_pop dX7_moveBalloon_172 trivial ?_
            exact wp_ret_v dX7_moveBalloon_173 rfl h
          · replace h := h.2 c282
            refine wp_aload dX7_moveBalloon_136 rfl ?_
            refine wp_aload dX7_moveBalloon_138 rfl ?_
            refine wp_iload dX7_moveBalloon_140 rfl ?_
            obtain ⟨hk304, h⟩ := h
            obtain ⟨Mid305, hm303, hk307⟩ := h
            refine wp_callV (M' := M_X0_goTo) (As := [vr x20, vi v227]) (st := []) (ci := 0) dX7_moveBalloon_142 cee_X0_goTo np_X0_goTo rfl ⟨Nat.le_of_ble_eq_true rfl, Nat.le_of_ble_eq_true rfl, Nat.le_of_ble_eq_true rfl, Nat.le_of_ble_eq_true rfl⟩ wd_690 wd_691 wd_692 rfl (Or.inl hk304) (q_small_of (Nat.le_of_ble_eq_true rfl)) hm303 (q_kTv0 (fun σ309 hM310 => ?_)) q_kTv00
            refine wp_less (ac2 := 2) (as2 := 12) (Nat.le_of_ble_eq_true rfl) (Nat.le_of_ble_eq_true rfl) ?_
            have h := hk307 σ309 hM310
            exact wp_throw (n := 0) (text := "a page cannot be laid or read") (by decide) rfl rfl (by decide +kernel) dX7_moveBalloon_145 dX7_moveBalloon_148 dX7_moveBalloon_149 dX7_moveBalloon_151 dX7_moveBalloon_154 (q_small_of (Nat.le_of_ble_eq_true rfl)) ⟨Nat.le_of_ble_eq_true rfl, Nat.le_of_ble_eq_true rfl⟩ (Nat.le_of_ble_eq_true rfl) (Nat.le_of_ble_eq_true rfl) h
    · replace h := h.2 c224
      refine wp_aload dX7_moveBalloon_60 rfl ?_
      obtain ⟨hk311, h⟩ := h
      refine wp_get (v := vr (gP σ222 206 v18)) dX7_moveBalloon_62 fl_RX7_137 hk311 rfl ?_
      obtain ⟨hk313, h⟩ := h
      obtain ⟨v314, hm312, h⟩ := h
      refine wp_callV (M' := M_Jx4a65c_size_8abf5) (As := []) (st := []) (ci := 9) dX7_moveBalloon_65 cee_Jx4a65c_size_8abf5 np_Jx4a65c_size_8abf5 rfl ⟨Nat.le_of_ble_eq_true rfl, Nat.le_of_ble_eq_true rfl, Nat.le_of_ble_eq_true rfl, Nat.le_of_ble_eq_true rfl⟩ wd_112 wd_113 wd_114 rfl (Or.inr ⟨hk313, rfl⟩) (q_small_of (Nat.le_of_ble_eq_true rfl)) hm312 (q_kPi ?_) q_kPi0
      refine wp_less (ac2 := 6) (as2 := 812) (Nat.le_of_ble_eq_true rfl) (Nat.le_of_ble_eq_true rfl) ?_
      refine wp_iconst dX7_moveBalloon_68 ?_
      obtain ⟨hr315, h⟩ := h
      refine wp_icmp_lt (tgt := 82) dX7_moveBalloon_69 (by decide) hr315 (by unfold qR; omega) (fun c316 => ?_) (fun c316 => ?_)
      · replace h := h.1 c316
        refine wp_aload dX7_moveBalloon_82 rfl ?_
        refine wp_aload dX7_moveBalloon_84 rfl ?_
        obtain ⟨hk318, h⟩ := h
        obtain ⟨v319, hm317, h⟩ := h
        refine wp_callV (M' := M_X5_indexOf) (As := [vr v9]) (st := []) (ci := 5) dX7_moveBalloon_86 cee_X5_indexOf np_X5_indexOf rfl ⟨Nat.le_of_ble_eq_true rfl, Nat.le_of_ble_eq_true rfl, Nat.le_of_ble_eq_true rfl, Nat.le_of_ble_eq_true rfl⟩ wd_689 wd_567 wd_568 rfl (Or.inl hk318) (q_small_of (Nat.le_of_ble_eq_true rfl)) hm317 (q_kPi ?_) q_kPi0
        refine wp_less (ac2 := 6) (as2 := 812) (Nat.le_of_ble_eq_true rfl) (Nat.le_of_ble_eq_true rfl) ?_
        refine wp_istore' (ls' := [some (vr a0), some (vi a1), some (vi a2), some (vi a3), some (vr v9), some (vr v18), some (vr x20), some (vi v319)]) dX7_moveBalloon_89 (Nat.le_of_ble_eq_true rfl) rfl ?_
        refine wp_aload dX7_moveBalloon_91 rfl ?_
        refine wp_aload dX7_moveBalloon_93 rfl ?_
        refine wp_iload_n dX7_moveBalloon_95 rfl ?_
        obtain ⟨hk321, h⟩ := h
        obtain ⟨Mid322, hm320, hk324⟩ := h
        refine wp_callV (M' := M_X0_goTo) (As := [vr v18, vi a3]) (st := []) (ci := 0) dX7_moveBalloon_96 cee_X0_goTo np_X0_goTo rfl ⟨Nat.le_of_ble_eq_true rfl, Nat.le_of_ble_eq_true rfl, Nat.le_of_ble_eq_true rfl, Nat.le_of_ble_eq_true rfl⟩ wd_690 wd_691 wd_692 rfl (Or.inl hk321) (q_small_of (Nat.le_of_ble_eq_true rfl)) hm320 (q_kTv0 (fun σ326 hM327 => ?_)) q_kTv00
        refine wp_less (ac2 := 4) (as2 := 412) (Nat.le_of_ble_eq_true rfl) (Nat.le_of_ble_eq_true rfl) ?_
        have h := hk324 σ326 hM327
        refine wp_aload_n dX7_moveBalloon_99 rfl ?_
        obtain ⟨hk328, h⟩ := h
        refine wp_get (v := vr (gP σ326 283 a0)) dX7_moveBalloon_100 fl_RX7_25 hk328 rfl ?_
        refine wp_aload dX7_moveBalloon_103 rfl ?_
        obtain ⟨hk329, h⟩ := h
        refine wp_get (v := vr (gP σ326 201 x20)) dX7_moveBalloon_105 fl_RX7_103 hk329 rfl ?_
        obtain ⟨hk331, h⟩ := h
        obtain ⟨Mid332, hm330, hk334⟩ := h
        refine wp_callV (M' := M_X3_tryPage) (As := [vr (gP σ326 201 x20)]) (st := []) (ci := 3) dX7_moveBalloon_108 cee_X3_tryPage np_X3_tryPage rfl ⟨Nat.le_of_ble_eq_true rfl, Nat.le_of_ble_eq_true rfl, Nat.le_of_ble_eq_true rfl, Nat.le_of_ble_eq_true rfl⟩ wd_447 wd_448 wd_449 rfl (Or.inl hk331) (q_small_of (Nat.le_of_ble_eq_true rfl)) hm330 (q_kTi0 (fun σ336 v338 hM337 => ?_)) q_kTi00
        refine wp_less (ac2 := 4) (as2 := 412) (Nat.le_of_ble_eq_true rfl) (Nat.le_of_ble_eq_true rfl) ?_
        have h := hk334 σ336 v338 hM337
        obtain ⟨hr339, h⟩ := h
        refine wp_if_eq (tgt := 136) dX7_moveBalloon_111 (by decide) hr339 (fun c340 => ?_) (fun c340 => ?_)
        · replace h := h.1 c340
          refine wp_aload dX7_moveBalloon_136 rfl ?_
          refine wp_aload dX7_moveBalloon_138 rfl ?_
          refine wp_iload dX7_moveBalloon_140 rfl ?_
          obtain ⟨hk342, h⟩ := h
          obtain ⟨Mid343, hm341, hk345⟩ := h
          refine wp_callV (M' := M_X0_goTo) (As := [vr x20, vi v319]) (st := []) (ci := 0) dX7_moveBalloon_142 cee_X0_goTo np_X0_goTo rfl ⟨Nat.le_of_ble_eq_true rfl, Nat.le_of_ble_eq_true rfl, Nat.le_of_ble_eq_true rfl, Nat.le_of_ble_eq_true rfl⟩ wd_690 wd_691 wd_692 rfl (Or.inl hk342) (q_small_of (Nat.le_of_ble_eq_true rfl)) hm341 (q_kTv0 (fun σ347 hM348 => ?_)) q_kTv00
          refine wp_less (ac2 := 2) (as2 := 12) (Nat.le_of_ble_eq_true rfl) (Nat.le_of_ble_eq_true rfl) ?_
          have h := hk345 σ347 hM348
          exact wp_throw (n := 0) (text := "a page cannot be laid or read") (by decide) rfl rfl (by decide +kernel) dX7_moveBalloon_145 dX7_moveBalloon_148 dX7_moveBalloon_149 dX7_moveBalloon_151 dX7_moveBalloon_154 (q_small_of (Nat.le_of_ble_eq_true rfl)) ⟨Nat.le_of_ble_eq_true rfl, Nat.le_of_ble_eq_true rfl⟩ (Nat.le_of_ble_eq_true rfl) (Nat.le_of_ble_eq_true rfl) h
        · replace h := h.2 c340
          refine wp_aload_n dX7_moveBalloon_114 rfl ?_
          obtain ⟨hk349, h⟩ := h
          refine wp_get (v := vr (gP σ336 283 a0)) dX7_moveBalloon_115 fl_RX7_25 hk349 rfl ?_
          refine wp_aload dX7_moveBalloon_118 rfl ?_
          obtain ⟨hk350, h⟩ := h
          refine wp_get (v := vr (gP σ336 201 v18)) dX7_moveBalloon_120 fl_RX7_103 hk350 rfl ?_
          obtain ⟨hk352, h⟩ := h
          obtain ⟨Mid353, hm351, hk355⟩ := h
          refine wp_callV (M' := M_X3_tryPage) (As := [vr (gP σ336 201 v18)]) (st := []) (ci := 3) dX7_moveBalloon_123 cee_X3_tryPage np_X3_tryPage rfl ⟨Nat.le_of_ble_eq_true rfl, Nat.le_of_ble_eq_true rfl, Nat.le_of_ble_eq_true rfl, Nat.le_of_ble_eq_true rfl⟩ wd_447 wd_448 wd_449 rfl (Or.inl hk352) (q_small_of (Nat.le_of_ble_eq_true rfl)) hm351 (q_kTi0 (fun σ357 v359 hM358 => ?_)) q_kTi00
          refine wp_less (ac2 := 4) (as2 := 412) (Nat.le_of_ble_eq_true rfl) (Nat.le_of_ble_eq_true rfl) ?_
          have h := hk355 σ357 v359 hM358
          obtain ⟨hr360, h⟩ := h
          refine wp_if_eq (tgt := 136) dX7_moveBalloon_126 (by decide) hr360 (fun c361 => ?_) (fun c361 => ?_)
          · replace h := h.1 c361
            refine wp_aload dX7_moveBalloon_136 rfl ?_
            refine wp_aload dX7_moveBalloon_138 rfl ?_
            refine wp_iload dX7_moveBalloon_140 rfl ?_
            obtain ⟨hk363, h⟩ := h
            obtain ⟨Mid364, hm362, hk366⟩ := h
            refine wp_callV (M' := M_X0_goTo) (As := [vr x20, vi v319]) (st := []) (ci := 0) dX7_moveBalloon_142 cee_X0_goTo np_X0_goTo rfl ⟨Nat.le_of_ble_eq_true rfl, Nat.le_of_ble_eq_true rfl, Nat.le_of_ble_eq_true rfl, Nat.le_of_ble_eq_true rfl⟩ wd_690 wd_691 wd_692 rfl (Or.inl hk363) (q_small_of (Nat.le_of_ble_eq_true rfl)) hm362 (q_kTv0 (fun σ368 hM369 => ?_)) q_kTv00
            refine wp_less (ac2 := 2) (as2 := 12) (Nat.le_of_ble_eq_true rfl) (Nat.le_of_ble_eq_true rfl) ?_
            have h := hk366 σ368 hM369
            exact wp_throw (n := 0) (text := "a page cannot be laid or read") (by decide) rfl rfl (by decide +kernel) dX7_moveBalloon_145 dX7_moveBalloon_148 dX7_moveBalloon_149 dX7_moveBalloon_151 dX7_moveBalloon_154 (q_small_of (Nat.le_of_ble_eq_true rfl)) ⟨Nat.le_of_ble_eq_true rfl, Nat.le_of_ble_eq_true rfl⟩ (Nat.le_of_ble_eq_true rfl) (Nat.le_of_ble_eq_true rfl) h
          · replace h := h.2 c361
            refine wp_aload_n dX7_moveBalloon_129 rfl ?_
            obtain ⟨hk371, h⟩ := h
            obtain ⟨v372, hm370, h⟩ := h
            refine wp_callV (M' := M_X7_answersComeLater) (As := []) (st := []) (ci := 7) dX7_moveBalloon_130 cee_X7_answersComeLater np_X7_answersComeLater rfl ⟨Nat.le_of_ble_eq_true rfl, Nat.le_of_ble_eq_true rfl, Nat.le_of_ble_eq_true rfl, Nat.le_of_ble_eq_true rfl⟩ wd_556 wd_558 sel_X7_answersComeLater rfl (Or.inl hk371) (q_small_of (Nat.le_of_ble_eq_true rfl)) hm370 (q_kPi ?_) q_kPi0
            refine wp_less (ac2 := 4) (as2 := 412) (Nat.le_of_ble_eq_true rfl) (Nat.le_of_ble_eq_true rfl) ?_
            obtain ⟨hr373, h⟩ := h
            refine wp_if_ne (tgt := 155) dX7_moveBalloon_133 (by decide) hr373 (fun c374 => ?_) (fun c374 => ?_)
            · replace h := h.1 c374
              refine wp_aload dX7_moveBalloon_155 rfl ?_
              obtain ⟨hk375, h⟩ := h
              refine wp_get (v := vr (gP σ357 201 x20)) dX7_moveBalloon_157 fl_RX7_103 hk375 rfl ?_
              obtain ⟨hk377, h⟩ := h
              obtain ⟨Mid378, hm376, hk380⟩ := h
              refine wp_callV (M' := M_X4_keepTrial) (As := []) (st := []) (ci := 4) dX7_moveBalloon_160 cee_X4_keepTrial np_X4_keepTrial rfl ⟨Nat.le_of_ble_eq_true rfl, Nat.le_of_ble_eq_true rfl, Nat.le_of_ble_eq_true rfl, Nat.le_of_ble_eq_true rfl⟩ wd_522 wd_523 wd_524 rfl (Or.inl hk377) (q_small_of (Nat.le_of_ble_eq_true rfl)) hm376 (q_kTi0 (fun σ382 v384 hM383 => ?_)) q_kTi00
              refine wp_less (ac2 := 4) (as2 := 412) (Nat.le_of_ble_eq_true rfl) (Nat.le_of_ble_eq_true rfl) ?_
              have h := hk380 σ382 v384 hM383
              refine wp_pop dX7_moveBalloon_163 trivial ?_
              refine wp_aload dX7_moveBalloon_164 rfl ?_
              obtain ⟨hk385, h⟩ := h
              refine wp_get (v := vr (gP σ382 201 v18)) dX7_moveBalloon_166 fl_RX7_103 hk385 rfl ?_
              obtain ⟨hk387, h⟩ := h
              obtain ⟨Mid388, hm386, hk390⟩ := h
              refine wp_callV (M' := M_X4_keepTrial) (As := []) (st := []) (ci := 4) dX7_moveBalloon_169 cee_X4_keepTrial np_X4_keepTrial rfl ⟨Nat.le_of_ble_eq_true rfl, Nat.le_of_ble_eq_true rfl, Nat.le_of_ble_eq_true rfl, Nat.le_of_ble_eq_true rfl⟩ wd_522 wd_523 wd_524 rfl (Or.inl hk387) (q_small_of (Nat.le_of_ble_eq_true rfl)) hm386 (q_kTi0 (fun σ392 v394 hM393 => ?_)) q_kTi00
              refine wp_less (ac2 := 4) (as2 := 412) (Nat.le_of_ble_eq_true rfl) (Nat.le_of_ble_eq_true rfl) ?_
              have h := hk390 σ392 v394 hM393
              refine wp_pop dX7_moveBalloon_172 trivial ?_
              exact wp_ret_v dX7_moveBalloon_173 rfl h
            · replace h := h.2 c374
              refine wp_aload dX7_moveBalloon_136 rfl ?_
              refine wp_aload dX7_moveBalloon_138 rfl ?_
              refine wp_iload dX7_moveBalloon_140 rfl ?_
              obtain ⟨hk396, h⟩ := h
              obtain ⟨Mid397, hm395, hk399⟩ := h
              refine wp_callV (M' := M_X0_goTo) (As := [vr x20, vi v319]) (st := []) (ci := 0) dX7_moveBalloon_142 cee_X0_goTo np_X0_goTo rfl ⟨Nat.le_of_ble_eq_true rfl, Nat.le_of_ble_eq_true rfl, Nat.le_of_ble_eq_true rfl, Nat.le_of_ble_eq_true rfl⟩ wd_690 wd_691 wd_692 rfl (Or.inl hk396) (q_small_of (Nat.le_of_ble_eq_true rfl)) hm395 (q_kTv0 (fun σ401 hM402 => ?_)) q_kTv00
              refine wp_less (ac2 := 2) (as2 := 12) (Nat.le_of_ble_eq_true rfl) (Nat.le_of_ble_eq_true rfl) ?_
              have h := hk399 σ401 hM402
              exact wp_throw (n := 0) (text := "a page cannot be laid or read") (by decide) rfl rfl (by decide +kernel) dX7_moveBalloon_145 dX7_moveBalloon_148 dX7_moveBalloon_149 dX7_moveBalloon_151 dX7_moveBalloon_154 (q_small_of (Nat.le_of_ble_eq_true rfl)) ⟨Nat.le_of_ble_eq_true rfl, Nat.le_of_ble_eq_true rfl⟩ (Nat.le_of_ble_eq_true rfl) (Nat.le_of_ble_eq_true rfl) h
      · replace h := h.2 c316
        exact wp_throw (n := 0) (text := "the panel has all balloons") (by decide) rfl rfl (by decide +kernel) dX7_moveBalloon_72 dX7_moveBalloon_75 dX7_moveBalloon_76 dX7_moveBalloon_78 dX7_moveBalloon_81 (q_small_of (Nat.le_of_ble_eq_true rfl)) ⟨Nat.le_of_ble_eq_true rfl, Nat.le_of_ble_eq_true rfl⟩ (Nat.le_of_ble_eq_true rfl) (Nat.le_of_ble_eq_true rfl) h

set_option maxRecDepth 100000 in
set_option maxHeartbeats 4000000 in
theorem wm_X7_cutBalloon {g : qG} {l : Launch} (hl : l.stackTraces = false) {a0 : Nat} {a1 : Int} {σ : qS} {Post : qS → qRs → Prop}
    (h : gK σ a0 = 8 ∧ (∃ (Mid3 : qS → Nat → Prop) (MidX4 : qS → Nat → Prop), qMet g l M_X7_needBalloon [vr a0, vi a1] σ (qTr Mid3 MidX4) ∧ (∀ (σ7 : qS) (v9 : Nat), Mid3 σ7 v9 → gK σ7 v9 = 1 ∧ ∀ x11 : Nat, x11 = gP σ7 4 v9 → gK σ7 a0 = 8 ∧ (∃ v15 : Int, qMet g l M_X7_isAnswered [vr a0, vr v9] σ7 (qPi σ7 v15) ∧ (qR v15 ∧ ((v15 = 0 → gK σ7 x11 = 6 ∧ (∃ v20 : Int, qMet g l M_X5_indexOf [vr x11, vr v9] σ7 (qPi σ7 v20) ∧ ((∃ Mid22 : qS → Prop, qMet g l M_X5_takeOut [vr x11, vi v20] σ7 (qTv0 Mid22) ∧ ∀ (σ26 : qS), Mid22 σ26 → gK σ26 a0 = 8 ∧ gK σ26 x11 = 6 ∧ gK σ26 (gP σ26 283 a0) = 4 ∧ (∃ Mid32 : qS → Int → Prop, qMet g l M_X3_tryPage [vr (gP σ26 283 a0), vr (gP σ26 201 x11)] σ26 (qTi0 Mid32) ∧ ∀ (σ36 : qS) (v38 : Int), Mid32 σ36 v38 → qR v38 ∧ ((¬ v38 = 0 → gK σ36 x11 = 6 ∧ gK σ36 (gP σ36 201 x11) = 5 ∧ (∃ Mid44 : qS → Int → Prop, qMet g l M_X4_keepTrial [vr (gP σ36 201 x11)] σ36 (qTi0 Mid44) ∧ ∀ (σ48 : qS) (v50 : Int), Mid44 σ48 v50 → gK σ48 v9 = 1 ∧ (∀ σ52 : qS, σ52 = sI σ48 6 v9 1 → gK σ52 x11 = 6 ∧ Post σ52 (.inl (some (vi (gI σ52 200 x11))))))) ∧ (v38 = 0 → gK σ36 x11 = 6 ∧ (∃ Mid57 : qS → Prop, qMet g l M_X5_putIn [vr x11, vi v20, vr v9] σ36 (qTv0 Mid57) ∧ ∀ (σ61 : qS), Mid57 σ61 → Post σ61 (.inr 0))))))))) ∧ (¬ (v15 = 0) → Post σ7 (.inr 0)))))) ∧ ∀ (σ9 : qS) (n9 : Nat), MidX4 σ9 n9 → Post σ9 (.inr n9))) : qMet g l M_X7_cutBalloon [vr a0, vi a1] σ Post := by
  refine qMet_of hl (by decide +kernel) (Nat.le_of_ble_eq_true rfl) (List.forall_mem_cons.mpr ⟨trivial, List.forall_mem_cons.mpr ⟨trivial, fun _ h => nomatch h⟩⟩) ?_
  show qW g l M_X7_cutBalloon 5 418 0 [some (vr a0), some (vi a1), none, none, none] [] σ Post
  refine wp_aload_n dX7_cutBalloon_0 rfl ?_
  refine wp_iload_n dX7_cutBalloon_1 rfl ?_
  obtain ⟨hk2, h⟩ := h
  obtain ⟨Mid3, MidX4, hm1, hk5, hx6⟩ := h
  refine wp_callV (M' := M_X7_needBalloon) (As := [vi a1]) (st := []) (ci := 7) dX7_cutBalloon_2 cee_X7_needBalloon np_X7_needBalloon rfl ⟨Nat.le_of_ble_eq_true rfl, Nat.le_of_ble_eq_true rfl, Nat.le_of_ble_eq_true rfl, Nat.le_of_ble_eq_true rfl⟩ wd_683 wd_685 sel_X7_needBalloon rfl (Or.inl hk2) (q_small_of (Nat.le_of_ble_eq_true rfl)) hm1 (q_kTr (fun σ7 v9 hM8 => ?_)) (q_kXr rfl hx6)
  refine wp_less (ac2 := 4) (as2 := 412) (Nat.le_of_ble_eq_true rfl) (Nat.le_of_ble_eq_true rfl) ?_
  have h := hk5 σ7 v9 hM8
  refine wp_astore_n' (ls' := [some (vr a0), some (vi a1), some (vr v9), none, none]) dX7_cutBalloon_5 (Nat.le_of_ble_eq_true rfl) rfl ?_
  refine wp_aload_n dX7_cutBalloon_6 rfl ?_
  obtain ⟨hk10, h⟩ := h
  refine wp_get (v := vr (gP σ7 4 v9)) dX7_cutBalloon_7 fl_RX7_175 hk10 rfl ?_
  refine wp_nmR (fun x11 hx12 => ?_)
  replace h := h x11 hx12
  refine wp_astore_n' (ls' := [some (vr a0), some (vi a1), some (vr v9), some (vr x11), none]) dX7_cutBalloon_10 (Nat.le_of_ble_eq_true rfl) rfl ?_
  refine wp_aload_n dX7_cutBalloon_11 rfl ?_
  refine wp_aload_n dX7_cutBalloon_12 rfl ?_
  obtain ⟨hk14, h⟩ := h
  obtain ⟨v15, hm13, h⟩ := h
  refine wp_callV (M' := M_X7_isAnswered) (As := [vr v9]) (st := []) (ci := 7) dX7_cutBalloon_13 cee_X7_isAnswered np_X7_isAnswered rfl ⟨Nat.le_of_ble_eq_true rfl, Nat.le_of_ble_eq_true rfl, Nat.le_of_ble_eq_true rfl, Nat.le_of_ble_eq_true rfl⟩ wd_701 wd_703 sel_X7_isAnswered rfl (Or.inl hk14) (q_small_of (Nat.le_of_ble_eq_true rfl)) hm13 (q_kPi ?_) q_kPi0
  refine wp_less (ac2 := 4) (as2 := 412) (Nat.le_of_ble_eq_true rfl) (Nat.le_of_ble_eq_true rfl) ?_
  obtain ⟨hr16, h⟩ := h
  refine wp_if_eq (tgt := 29) dX7_cutBalloon_16 (by decide) hr16 (fun c17 => ?_) (fun c17 => ?_)
  · replace h := h.1 c17
    refine wp_aload_n dX7_cutBalloon_29 rfl ?_
    refine wp_aload_n dX7_cutBalloon_30 rfl ?_
    obtain ⟨hk19, h⟩ := h
    obtain ⟨v20, hm18, h⟩ := h
    refine wp_callV (M' := M_X5_indexOf) (As := [vr v9]) (st := []) (ci := 5) dX7_cutBalloon_31 cee_X5_indexOf np_X5_indexOf rfl ⟨Nat.le_of_ble_eq_true rfl, Nat.le_of_ble_eq_true rfl, Nat.le_of_ble_eq_true rfl, Nat.le_of_ble_eq_true rfl⟩ wd_689 wd_567 wd_568 rfl (Or.inl hk19) (q_small_of (Nat.le_of_ble_eq_true rfl)) hm18 (q_kPi ?_) q_kPi0
    refine wp_less (ac2 := 4) (as2 := 412) (Nat.le_of_ble_eq_true rfl) (Nat.le_of_ble_eq_true rfl) ?_
    refine wp_istore' (ls' := [some (vr a0), some (vi a1), some (vr v9), some (vr x11), some (vi v20)]) dX7_cutBalloon_34 (Nat.le_of_ble_eq_true rfl) rfl ?_
    refine wp_aload_n dX7_cutBalloon_36 rfl ?_
    refine wp_iload dX7_cutBalloon_37 rfl ?_
    obtain ⟨Mid22, hm21, hk24⟩ := h
    refine wp_callV (M' := M_X5_takeOut) (As := [vi v20]) (st := []) (ci := 5) dX7_cutBalloon_39 cee_X5_takeOut np_X5_takeOut rfl ⟨Nat.le_of_ble_eq_true rfl, Nat.le_of_ble_eq_true rfl, Nat.le_of_ble_eq_true rfl, Nat.le_of_ble_eq_true rfl⟩ wd_675 wd_676 wd_677 rfl (Or.inl hk19) (q_small_of (Nat.le_of_ble_eq_true rfl)) hm21 (q_kTv0 (fun σ26 hM27 => ?_)) q_kTv00
    refine wp_less (ac2 := 4) (as2 := 412) (Nat.le_of_ble_eq_true rfl) (Nat.le_of_ble_eq_true rfl) ?_
    have h := hk24 σ26 hM27
    refine wp_aload_n dX7_cutBalloon_42 rfl ?_
    obtain ⟨hk28, h⟩ := h
    refine wp_get (v := vr (gP σ26 283 a0)) dX7_cutBalloon_43 fl_RX7_25 hk28 rfl ?_
    refine wp_aload_n dX7_cutBalloon_46 rfl ?_
    obtain ⟨hk29, h⟩ := h
    refine wp_get (v := vr (gP σ26 201 x11)) dX7_cutBalloon_47 fl_RX7_103 hk29 rfl ?_
    obtain ⟨hk31, h⟩ := h
    obtain ⟨Mid32, hm30, hk34⟩ := h
    refine wp_callV (M' := M_X3_tryPage) (As := [vr (gP σ26 201 x11)]) (st := []) (ci := 3) dX7_cutBalloon_50 cee_X3_tryPage np_X3_tryPage rfl ⟨Nat.le_of_ble_eq_true rfl, Nat.le_of_ble_eq_true rfl, Nat.le_of_ble_eq_true rfl, Nat.le_of_ble_eq_true rfl⟩ wd_447 wd_448 wd_449 rfl (Or.inl hk31) (q_small_of (Nat.le_of_ble_eq_true rfl)) hm30 (q_kTi0 (fun σ36 v38 hM37 => ?_)) q_kTi00
    refine wp_less (ac2 := 4) (as2 := 412) (Nat.le_of_ble_eq_true rfl) (Nat.le_of_ble_eq_true rfl) ?_
    have h := hk34 σ36 v38 hM37
    obtain ⟨hr39, h⟩ := h
    refine wp_if_ne (tgt := 73) dX7_cutBalloon_53 (by decide) hr39 (fun c40 => ?_) (fun c40 => ?_)
    · replace h := h.1 c40
      refine wp_aload_n dX7_cutBalloon_73 rfl ?_
      obtain ⟨hk41, h⟩ := h
      refine wp_get (v := vr (gP σ36 201 x11)) dX7_cutBalloon_74 fl_RX7_103 hk41 rfl ?_
      obtain ⟨hk43, h⟩ := h
      obtain ⟨Mid44, hm42, hk46⟩ := h
      refine wp_callV (M' := M_X4_keepTrial) (As := []) (st := []) (ci := 4) dX7_cutBalloon_77 cee_X4_keepTrial np_X4_keepTrial rfl ⟨Nat.le_of_ble_eq_true rfl, Nat.le_of_ble_eq_true rfl, Nat.le_of_ble_eq_true rfl, Nat.le_of_ble_eq_true rfl⟩ wd_522 wd_523 wd_524 rfl (Or.inl hk43) (q_small_of (Nat.le_of_ble_eq_true rfl)) hm42 (q_kTi0 (fun σ48 v50 hM49 => ?_)) q_kTi00
      refine wp_less (ac2 := 4) (as2 := 412) (Nat.le_of_ble_eq_true rfl) (Nat.le_of_ble_eq_true rfl) ?_
      have h := hk46 σ48 v50 hM49
      refine wp_pop dX7_cutBalloon_80 trivial ?_
      refine wp_aload_n dX7_cutBalloon_81 rfl ?_
      refine wp_iconst dX7_cutBalloon_82 ?_
      obtain ⟨hk51, h⟩ := h
      refine wp_put (v := vi 1) dX7_cutBalloon_83 fs_RX7_195 (fun h => absurd h (by decide)) hk51 (Or.inr ⟨rfl, (Or.inr rfl)⟩) ?_
      refine wp_nmS (fun σ52 hs53 => ?_)
      replace h := h σ52 hs53
      refine wp_aload_n dX7_cutBalloon_86 rfl ?_
      obtain ⟨hk54, h⟩ := h
      refine wp_get (v := vi (gI σ52 200 x11)) dX7_cutBalloon_87 fl_RX7_98 hk54 rfl ?_
      exact wp_ret_i dX7_cutBalloon_90 rfl rfl h
    · replace h := h.2 c40
      refine wp_aload_n dX7_cutBalloon_56 rfl ?_
      refine wp_iload dX7_cutBalloon_57 rfl ?_
      refine wp_aload_n dX7_cutBalloon_59 rfl ?_
      obtain ⟨hk56, h⟩ := h
      obtain ⟨Mid57, hm55, hk59⟩ := h
      refine wp_callV (M' := M_X5_putIn) (As := [vi v20, vr v9]) (st := []) (ci := 5) dX7_cutBalloon_60 cee_X5_putIn np_X5_putIn rfl ⟨Nat.le_of_ble_eq_true rfl, Nat.le_of_ble_eq_true rfl, Nat.le_of_ble_eq_true rfl, Nat.le_of_ble_eq_true rfl⟩ wd_670 wd_671 wd_672 rfl (Or.inl hk56) (q_small_of (Nat.le_of_ble_eq_true rfl)) hm55 (q_kTv0 (fun σ61 hM62 => ?_)) q_kTv00
      refine wp_less (ac2 := 2) (as2 := 12) (Nat.le_of_ble_eq_true rfl) (Nat.le_of_ble_eq_true rfl) ?_
      have h := hk59 σ61 hM62
      exact wp_throw (n := 0) (text := "the page cannot be laid") (by decide) rfl rfl (by decide +kernel) dX7_cutBalloon_63 dX7_cutBalloon_66 dX7_cutBalloon_67 dX7_cutBalloon_69 dX7_cutBalloon_72 (q_small_of (Nat.le_of_ble_eq_true rfl)) ⟨Nat.le_of_ble_eq_true rfl, Nat.le_of_ble_eq_true rfl⟩ (Nat.le_of_ble_eq_true rfl) (Nat.le_of_ble_eq_true rfl) h
  · replace h := h.2 c17
    exact wp_throw (n := 0) (text := "the balloon is answered") (by decide) rfl rfl (by decide +kernel) dX7_cutBalloon_19 dX7_cutBalloon_22 dX7_cutBalloon_23 dX7_cutBalloon_25 dX7_cutBalloon_28 (q_small_of (Nat.le_of_ble_eq_true rfl)) ⟨Nat.le_of_ble_eq_true rfl, Nat.le_of_ble_eq_true rfl⟩ (Nat.le_of_ble_eq_true rfl) (Nat.le_of_ble_eq_true rfl) h

set_option maxRecDepth 100000 in
set_option maxHeartbeats 4000000 in
theorem wm_X7_answer {g : qG} {l : Launch} (hl : l.stackTraces = false) {a0 : Nat} {a1 : Int} {a2 : Int} {σ : qS} {Post : qS → qRs → Prop}
    (h : gK σ a0 = 8 ∧ (∃ (Mid3 : qS → Nat → Prop) (MidX4 : qS → Nat → Prop), qMet g l M_X7_needBalloon [vr a0, vi a1] σ (qTr Mid3 MidX4) ∧ (∀ (σ7 : qS) (v9 : Nat), Mid3 σ7 v9 → qR a2 ∧ ((¬ a2 = ((-1)) → gK σ7 a0 = 8 ∧ (∃ (Mid14 : qS → Nat → Prop) (MidX15 : qS → Nat → Prop), qMet g l M_X7_needBalloon [vr a0, vi a2] σ7 (qTr Mid14 MidX15) ∧ (∀ (σ18 : qS) (v20 : Nat), Mid14 σ18 v20 → ((v20 = 0 → gK σ18 v9 = 1 ∧ ∀ x23 : Nat, x23 = gP σ18 5 v9 → (∀ σ25 : qS, σ25 = sP σ18 5 v9 v20 → (((¬ x23 = 0 → gK σ25 x23 = 1)) ∧ ∀ v29 : Int, v29 = (if ¬ x23 = 0 then (gI σ25 0 x23) else ((-1))) → Post σ25 (.inl (some (vi v29)))))) ∧ (¬ (v20 = 0) → gK σ18 v20 = 1 ∧ (∃ v37 : Int, qMet g l M_X0_readingKey [vr v20] σ18 (qPi σ18 v37) ∧ (gK σ18 v9 = 1 ∧ (∃ v40 : Int, qMet g l M_X0_readingKey [vr v9] σ18 (qPi σ18 v40) ∧ (qR v37 ∧ qR v40 ∧ ((v37 < v40 → ∀ x44 : Nat, x44 = gP σ18 5 v9 → (∀ σ46 : qS, σ46 = sP σ18 5 v9 v20 → (((¬ x44 = 0 → gK σ46 x44 = 1)) ∧ ∀ v50 : Int, v50 = (if ¬ x44 = 0 then (gI σ46 0 x44) else ((-1))) → Post σ46 (.inl (some (vi v50)))))) ∧ (¬ (v37 < v40) → Post σ18 (.inr 0)))))))))) ∧ ∀ (σ9 : qS) (n9 : Nat), MidX15 σ9 n9 → Post σ9 (.inr n9))) ∧ (a2 = ((-1)) → gK σ7 v9 = 1 ∧ ∀ x57 : Nat, x57 = gP σ7 5 v9 → (∀ σ59 : qS, σ59 = sP σ7 5 v9 0 → (((¬ x57 = 0 → gK σ59 x57 = 1)) ∧ ∀ v63 : Int, v63 = (if ¬ x57 = 0 then (gI σ59 0 x57) else ((-1))) → Post σ59 (.inl (some (vi v63)))))))) ∧ ∀ (σ9 : qS) (n9 : Nat), MidX4 σ9 n9 → Post σ9 (.inr n9))) : qMet g l M_X7_answer [vr a0, vi a1, vi a2] σ Post := by
  refine qMet_of hl (by decide +kernel) (Nat.le_of_ble_eq_true rfl) (List.forall_mem_cons.mpr ⟨trivial, List.forall_mem_cons.mpr ⟨trivial, List.forall_mem_cons.mpr ⟨trivial, fun _ h => nomatch h⟩⟩⟩) ?_
  show qW g l M_X7_answer 3 18 0 [some (vr a0), some (vi a1), some (vi a2), none, none, none] [] σ Post
  refine wp_aload_n dX7_answer_0 rfl ?_
  refine wp_iload_n dX7_answer_1 rfl ?_
  obtain ⟨hk2, h⟩ := h
  obtain ⟨Mid3, MidX4, hm1, hk5, hx6⟩ := h
  refine wp_callV (M' := M_X7_needBalloon) (As := [vi a1]) (st := []) (ci := 7) dX7_answer_2 cee_X7_needBalloon np_X7_needBalloon rfl ⟨Nat.le_of_ble_eq_true rfl, Nat.le_of_ble_eq_true rfl, Nat.le_of_ble_eq_true rfl, Nat.le_of_ble_eq_true rfl⟩ wd_683 wd_685 sel_X7_needBalloon rfl (Or.inl hk2) (q_small_of (Nat.le_of_ble_eq_true rfl)) hm1 (q_kTr (fun σ7 v9 hM8 => ?_)) (q_kXr rfl hx6)
  refine wp_less (ac2 := 2) (as2 := 12) (Nat.le_of_ble_eq_true rfl) (Nat.le_of_ble_eq_true rfl) ?_
  have h := hk5 σ7 v9 hM8
  refine wp_astore_n' (ls' := [some (vr a0), some (vi a1), some (vi a2), some (vr v9), none, none]) dX7_answer_5 (Nat.le_of_ble_eq_true rfl) rfl ?_
  refine wp_iload_n dX7_answer_6 rfl ?_
  refine wp_iconst dX7_answer_7 ?_
  obtain ⟨hr10, h⟩ := h
  refine wp_icmp_ne (tgt := 15) dX7_answer_8 (by decide) hr10 (by unfold qR; omega) (fun c11 => ?_) (fun c11 => ?_)
  · replace h := h.1 c11
    refine wp_aload_n dX7_answer_15 rfl ?_
    refine wp_iload_n dX7_answer_16 rfl ?_
    obtain ⟨hk13, h⟩ := h
    obtain ⟨Mid14, MidX15, hm12, hk16, hx17⟩ := h
    refine wp_callV (M' := M_X7_needBalloon) (As := [vi a2]) (st := []) (ci := 7) dX7_answer_17 cee_X7_needBalloon np_X7_needBalloon rfl ⟨Nat.le_of_ble_eq_true rfl, Nat.le_of_ble_eq_true rfl, Nat.le_of_ble_eq_true rfl, Nat.le_of_ble_eq_true rfl⟩ wd_683 wd_685 sel_X7_needBalloon rfl (Or.inl hk13) (q_small_of (Nat.le_of_ble_eq_true rfl)) hm12 (q_kTr (fun σ18 v20 hM19 => ?_)) (q_kXr rfl hx17)
    refine wp_less (ac2 := 1) (as2 := 6) (Nat.le_of_ble_eq_true rfl) (Nat.le_of_ble_eq_true rfl) ?_
    have h := hk16 σ18 v20 hM19
    refine wp_astore' (ls' := [some (vr a0), some (vi a1), some (vi a2), some (vr v9), some (vr v20), none]) dX7_answer_20 (Nat.le_of_ble_eq_true rfl) rfl ?_
    refine wp_aload dX7_answer_22 rfl ?_
    refine wp_ifnull (tgt := 49) dX7_answer_24 (by decide) (fun c21 => ?_) (fun c21 => ?_)
    · replace h := h.1 c21
      refine wp_aload_n dX7_answer_49 rfl ?_
      obtain ⟨hk22, h⟩ := h
      refine wp_get (v := vr (gP σ18 5 v9)) dX7_answer_50 fl_RX7_204 hk22 rfl ?_
      refine wp_nmR (fun x23 hx24 => ?_)
      replace h := h x23 hx24
      refine wp_astore' (ls' := [some (vr a0), some (vi a1), some (vi a2), some (vr v9), some (vr v20), some (vr x23)]) dX7_answer_53 (Nat.le_of_ble_eq_true rfl) rfl ?_
      refine wp_aload_n dX7_answer_55 rfl ?_
      refine wp_aload dX7_answer_56 rfl ?_
      refine wp_put (v := vr v20) dX7_answer_58 fs_RX7_204 (fun h => absurd h (by decide)) hk22 rfl ?_
      refine wp_nmS (fun σ25 hs26 => ?_)
      replace h := h σ25 hs26
      refine wp_aload dX7_answer_61 rfl ?_
      obtain ⟨h, hk32⟩ := h
      have key31 : ∀ v29 : Int, v29 = (if ¬ x23 = 0 then (gI σ25 0 x23) else ((-1))) → qW g l M_X7_answer 1 6 75 [some (vr a0), some (vi a1), some (vi a2), some (vr v9), some (vr v20), some (vr x23)] [vi v29] σ25 Post := by
        intro v29 hv30
        have h := hk32 v29 hv30
        exact wp_ret_i dX7_answer_75 rfl rfl h
      refine wp_ifnonnull (tgt := 70) dX7_answer_63 (by decide) (fun c33 => ?_) (fun c33 => ?_)
      · replace h := h c33
        refine wp_aload dX7_answer_70 rfl ?_
        have hk34 := h
        refine wp_get (v := vi (gI σ25 0 x23)) dX7_answer_72 fl_RX7_170 hk34 rfl ?_
        exact key31 _ (by rw [if_pos c33])
      · refine wp_iconst dX7_answer_66 ?_
        refine wp_goto (tgt := 75) dX7_answer_67 (by decide) ?_
        exact key31 _ (by rw [if_neg (fun z => z c33)])
    · replace h := h.2 c21
      refine wp_aload dX7_answer_27 rfl ?_
      obtain ⟨hk36, h⟩ := h
      obtain ⟨v37, hm35, h⟩ := h
      refine wp_callV (M' := M_X0_readingKey) (As := []) (st := []) (ci := 0) dX7_answer_29 cee_X0_readingKey np_X0_readingKey rfl ⟨Nat.le_of_ble_eq_true rfl, Nat.le_of_ble_eq_true rfl, Nat.le_of_ble_eq_true rfl, Nat.le_of_ble_eq_true rfl⟩ wd_561 wd_562 wd_563 rfl (Or.inl hk36) (q_small_of (Nat.le_of_ble_eq_true rfl)) hm35 (q_kPi ?_) q_kPi0
      refine wp_less (ac2 := 1) (as2 := 6) (Nat.le_of_ble_eq_true rfl) (Nat.le_of_ble_eq_true rfl) ?_
      refine wp_aload_n dX7_answer_32 rfl ?_
      obtain ⟨hk39, h⟩ := h
      obtain ⟨v40, hm38, h⟩ := h
      refine wp_callV (M' := M_X0_readingKey) (As := []) (st := [vi v37]) (ci := 0) dX7_answer_33 cee_X0_readingKey np_X0_readingKey rfl ⟨Nat.le_of_ble_eq_true rfl, Nat.le_of_ble_eq_true rfl, Nat.le_of_ble_eq_true rfl, Nat.le_of_ble_eq_true rfl⟩ wd_561 wd_562 wd_563 rfl (Or.inl hk39) (q_small_of (Nat.le_of_ble_eq_true rfl)) hm38 (q_kPi ?_) q_kPi0
      refine wp_less (ac2 := 1) (as2 := 6) (Nat.le_of_ble_eq_true rfl) (Nat.le_of_ble_eq_true rfl) ?_
      obtain ⟨hr41, hr42, h⟩ := h
      refine wp_icmp_lt (tgt := 49) dX7_answer_36 (by decide) hr41 hr42 (fun c43 => ?_) (fun c43 => ?_)
      · replace h := h.1 c43
        refine wp_aload_n dX7_answer_49 rfl ?_
        refine wp_get (v := vr (gP σ18 5 v9)) dX7_answer_50 fl_RX7_204 hk39 rfl ?_
        refine wp_nmR (fun x44 hx45 => ?_)
        replace h := h x44 hx45
        refine wp_astore' (ls' := [some (vr a0), some (vi a1), some (vi a2), some (vr v9), some (vr v20), some (vr x44)]) dX7_answer_53 (Nat.le_of_ble_eq_true rfl) rfl ?_
        refine wp_aload_n dX7_answer_55 rfl ?_
        refine wp_aload dX7_answer_56 rfl ?_
        refine wp_put (v := vr v20) dX7_answer_58 fs_RX7_204 (fun h => absurd h (by decide)) hk39 rfl ?_
        refine wp_nmS (fun σ46 hs47 => ?_)
        replace h := h σ46 hs47
        refine wp_aload dX7_answer_61 rfl ?_
        obtain ⟨h, hk53⟩ := h
        have key52 : ∀ v50 : Int, v50 = (if ¬ x44 = 0 then (gI σ46 0 x44) else ((-1))) → qW g l M_X7_answer 1 6 75 [some (vr a0), some (vi a1), some (vi a2), some (vr v9), some (vr v20), some (vr x44)] [vi v50] σ46 Post := by
          intro v50 hv51
          have h := hk53 v50 hv51
          exact wp_ret_i dX7_answer_75 rfl rfl h
        refine wp_ifnonnull (tgt := 70) dX7_answer_63 (by decide) (fun c54 => ?_) (fun c54 => ?_)
        · replace h := h c54
          refine wp_aload dX7_answer_70 rfl ?_
          have hk55 := h
          refine wp_get (v := vi (gI σ46 0 x44)) dX7_answer_72 fl_RX7_170 hk55 rfl ?_
          exact key52 _ (by rw [if_pos c54])
        · refine wp_iconst dX7_answer_66 ?_
          refine wp_goto (tgt := 75) dX7_answer_67 (by decide) ?_
          exact key52 _ (by rw [if_neg (fun z => z c54)])
      · replace h := h.2 c43
        exact wp_throw (n := 0) (text := "the other one is not read before") (by decide) rfl rfl (by decide +kernel) dX7_answer_39 dX7_answer_42 dX7_answer_43 dX7_answer_45 dX7_answer_48 (q_small_of (Nat.le_of_ble_eq_true rfl)) ⟨Nat.le_of_ble_eq_true rfl, Nat.le_of_ble_eq_true rfl⟩ (Nat.le_of_ble_eq_true rfl) (Nat.le_of_ble_eq_true rfl) h
  · replace h := h.2 c11
    refine wp_null dX7_answer_11 ?_
    refine wp_goto (tgt := 20) dX7_answer_12 (by decide) ?_
    refine wp_astore' (ls' := [some (vr a0), some (vi a1), some (vi a2), some (vr v9), some (vr 0), none]) dX7_answer_20 (Nat.le_of_ble_eq_true rfl) rfl ?_
    refine wp_aload dX7_answer_22 rfl ?_
    refine wp_ifnull (tgt := 49) dX7_answer_24 (by decide) (fun _ => ?_) (fun c9 => absurd rfl c9)
    refine wp_aload_n dX7_answer_49 rfl ?_
    obtain ⟨hk56, h⟩ := h
    refine wp_get (v := vr (gP σ7 5 v9)) dX7_answer_50 fl_RX7_204 hk56 rfl ?_
    refine wp_nmR (fun x57 hx58 => ?_)
    replace h := h x57 hx58
    refine wp_astore' (ls' := [some (vr a0), some (vi a1), some (vi a2), some (vr v9), some (vr 0), some (vr x57)]) dX7_answer_53 (Nat.le_of_ble_eq_true rfl) rfl ?_
    refine wp_aload_n dX7_answer_55 rfl ?_
    refine wp_aload dX7_answer_56 rfl ?_
    refine wp_put (v := vr 0) dX7_answer_58 fs_RX7_204 (fun h => absurd h (by decide)) hk56 rfl ?_
    refine wp_nmS (fun σ59 hs60 => ?_)
    replace h := h σ59 hs60
    refine wp_aload dX7_answer_61 rfl ?_
    obtain ⟨h, hk66⟩ := h
    have key65 : ∀ v63 : Int, v63 = (if ¬ x57 = 0 then (gI σ59 0 x57) else ((-1))) → qW g l M_X7_answer 2 12 75 [some (vr a0), some (vi a1), some (vi a2), some (vr v9), some (vr 0), some (vr x57)] [vi v63] σ59 Post := by
      intro v63 hv64
      have h := hk66 v63 hv64
      exact wp_ret_i dX7_answer_75 rfl rfl h
    refine wp_ifnonnull (tgt := 70) dX7_answer_63 (by decide) (fun c67 => ?_) (fun c67 => ?_)
    · replace h := h c67
      refine wp_aload dX7_answer_70 rfl ?_
      have hk68 := h
      refine wp_get (v := vi (gI σ59 0 x57)) dX7_answer_72 fl_RX7_170 hk68 rfl ?_
      exact key65 _ (by rw [if_pos c67])
    · refine wp_iconst dX7_answer_66 ?_
      refine wp_goto (tgt := 75) dX7_answer_67 (by decide) ?_
      exact key65 _ (by rw [if_neg (fun z => z c67)])

set_option maxRecDepth 100000 in
set_option maxHeartbeats 4000000 in
theorem wm_X7_translate {g : qG} {l : Launch} (hl : l.stackTraces = false) {a0 : Nat} {a1 : Int} {a2 : Int} {σ : qS} {Post : qS → qRs → Prop}
    (h : gK σ a0 = 8 ∧ (∃ (Mid3 : qS → Nat → Prop) (MidX4 : qS → Nat → Prop), qMet g l M_X7_needPage [vr a0, vi a1] σ (qTr Mid3 MidX4) ∧ (∀ (σ7 : qS) (v9 : Nat), Mid3 σ7 v9 → (∃ (Mid11 : qS → Prop) (MidX12 : qS → Nat → Prop), qMet g l M_X7_needWithin [vi a2, vi 0, vi 2] σ7 (qTv Mid11 MidX12) ∧ (∀ (σ15 : qS), Mid11 σ15 → gK σ15 v9 = 5 ∧ ∀ x18 : Int, x18 = gI σ15 162 v9 → (∀ σ20 : qS, σ20 = sI σ15 162 v9 a2 → gK σ20 a0 = 8 ∧ gK σ20 (gP σ20 283 a0) = 4 ∧ (∃ Mid25 : qS → Int → Prop, qMet g l M_X3_tryPage [vr (gP σ20 283 a0), vr v9] σ20 (qTi0 Mid25) ∧ ∀ (σ29 : qS) (v31 : Int), Mid25 σ29 v31 → qR v31 ∧ ((¬ v31 = 0 → gK σ29 v9 = 5 ∧ (∃ Mid36 : qS → Int → Prop, qMet g l M_X4_keepTrial [vr v9] σ29 (qTi0 Mid36) ∧ ∀ (σ40 : qS) (v42 : Int), Mid36 σ40 v42 → Post σ40 (.inl (some (vi v42))))) ∧ (v31 = 0 → gK σ29 v9 = 5 ∧ (∀ σ44 : qS, σ44 = sI σ29 162 v9 x18 → Post σ44 (.inr 0))))))) ∧ ∀ (σ9 : qS) (n9 : Nat), MidX12 σ9 n9 → Post σ9 (.inr n9))) ∧ ∀ (σ9 : qS) (n9 : Nat), MidX4 σ9 n9 → Post σ9 (.inr n9))) : qMet g l M_X7_translate [vr a0, vi a1, vi a2] σ Post := by
  refine qMet_of hl (by decide +kernel) (Nat.le_of_ble_eq_true rfl) (List.forall_mem_cons.mpr ⟨trivial, List.forall_mem_cons.mpr ⟨trivial, List.forall_mem_cons.mpr ⟨trivial, fun _ h => nomatch h⟩⟩⟩) ?_
  show qW g l M_X7_translate 3 18 0 [some (vr a0), some (vi a1), some (vi a2), none, none] [] σ Post
  refine wp_aload_n dX7_translate_0 rfl ?_
  refine wp_iload_n dX7_translate_1 rfl ?_
  obtain ⟨hk2, h⟩ := h
  obtain ⟨Mid3, MidX4, hm1, hk5, hx6⟩ := h
  refine wp_callV (M' := M_X7_needPage) (As := [vi a1]) (st := []) (ci := 7) dX7_translate_2 cee_X7_needPage np_X7_needPage rfl ⟨Nat.le_of_ble_eq_true rfl, Nat.le_of_ble_eq_true rfl, Nat.le_of_ble_eq_true rfl, Nat.le_of_ble_eq_true rfl⟩ wd_281 wd_283 sel_X7_needPage rfl (Or.inl hk2) (q_small_of (Nat.le_of_ble_eq_true rfl)) hm1 (q_kTr (fun σ7 v9 hM8 => ?_)) (q_kXr rfl hx6)
  refine wp_less (ac2 := 2) (as2 := 12) (Nat.le_of_ble_eq_true rfl) (Nat.le_of_ble_eq_true rfl) ?_
  have h := hk5 σ7 v9 hM8
  refine wp_astore_n' (ls' := [some (vr a0), some (vi a1), some (vi a2), some (vr v9), none]) dX7_translate_5 (Nat.le_of_ble_eq_true rfl) rfl ?_
  refine wp_iload_n dX7_translate_6 rfl ?_
  refine wp_iconst dX7_translate_7 ?_
  refine wp_iconst dX7_translate_8 ?_
  obtain ⟨Mid11, MidX12, hm10, hk13, hx14⟩ := h
  refine wp_callS (M' := M_X7_needWithin) (As := [vi a2, vi 0, vi 2]) (st := []) dX7_translate_9 cee_X7_needWithin np_X7_needWithin rfl ⟨Nat.le_of_ble_eq_true rfl, Nat.le_of_ble_eq_true rfl, Nat.le_of_ble_eq_true rfl, Nat.le_of_ble_eq_true rfl⟩ wd_319 wd_320 (q_small_of (Nat.le_of_ble_eq_true rfl)) hm10 (q_kTv (fun σ15 hM16 => ?_)) (q_kXv rfl hx14)
  refine wp_less (ac2 := 1) (as2 := 6) (Nat.le_of_ble_eq_true rfl) (Nat.le_of_ble_eq_true rfl) ?_
  have h := hk13 σ15 hM16
  refine wp_aload_n dX7_translate_12 rfl ?_
  obtain ⟨hk17, h⟩ := h
  refine wp_get (v := vi (gI σ15 162 v9)) dX7_translate_13 fl_RX7_208 hk17 rfl ?_
  refine wp_nmI (fun x18 hx19 => ?_)
  replace h := h x18 hx19
  refine wp_istore' (ls' := [some (vr a0), some (vi a1), some (vi a2), some (vr v9), some (vi x18)]) dX7_translate_16 (Nat.le_of_ble_eq_true rfl) rfl ?_
  refine wp_aload_n dX7_translate_18 rfl ?_
  refine wp_iload_n dX7_translate_19 rfl ?_
  refine wp_put (v := vi a2) dX7_translate_20 fs_RX7_208 (fun h => absurd h (by decide)) hk17 (Or.inl rfl) ?_
  refine wp_nmS (fun σ20 hs21 => ?_)
  replace h := h σ20 hs21
  refine wp_aload_n dX7_translate_23 rfl ?_
  obtain ⟨hk22, h⟩ := h
  refine wp_get (v := vr (gP σ20 283 a0)) dX7_translate_24 fl_RX7_25 hk22 rfl ?_
  refine wp_aload_n dX7_translate_27 rfl ?_
  obtain ⟨hk24, h⟩ := h
  obtain ⟨Mid25, hm23, hk27⟩ := h
  refine wp_callV (M' := M_X3_tryPage) (As := [vr v9]) (st := []) (ci := 3) dX7_translate_28 cee_X3_tryPage np_X3_tryPage rfl ⟨Nat.le_of_ble_eq_true rfl, Nat.le_of_ble_eq_true rfl, Nat.le_of_ble_eq_true rfl, Nat.le_of_ble_eq_true rfl⟩ wd_447 wd_448 wd_449 rfl (Or.inl hk24) (q_small_of (Nat.le_of_ble_eq_true rfl)) hm23 (q_kTi0 (fun σ29 v31 hM30 => ?_)) q_kTi00
  refine wp_less (ac2 := 1) (as2 := 6) (Nat.le_of_ble_eq_true rfl) (Nat.le_of_ble_eq_true rfl) ?_
  have h := hk27 σ29 v31 hM30
  obtain ⟨hr32, h⟩ := h
  refine wp_if_ne (tgt := 50) dX7_translate_31 (by decide) hr32 (fun c33 => ?_) (fun c33 => ?_)
  · replace h := h.1 c33
    refine wp_aload_n dX7_translate_50 rfl ?_
    obtain ⟨hk35, h⟩ := h
    obtain ⟨Mid36, hm34, hk38⟩ := h
    refine wp_callV (M' := M_X4_keepTrial) (As := []) (st := []) (ci := 4) dX7_translate_51 cee_X4_keepTrial np_X4_keepTrial rfl ⟨Nat.le_of_ble_eq_true rfl, Nat.le_of_ble_eq_true rfl, Nat.le_of_ble_eq_true rfl, Nat.le_of_ble_eq_true rfl⟩ wd_522 wd_523 wd_524 rfl (Or.inl hk35) (q_small_of (Nat.le_of_ble_eq_true rfl)) hm34 (q_kTi0 (fun σ40 v42 hM41 => ?_)) q_kTi00
    refine wp_less (ac2 := 1) (as2 := 6) (Nat.le_of_ble_eq_true rfl) (Nat.le_of_ble_eq_true rfl) ?_
    have h := hk38 σ40 v42 hM41
    exact wp_ret_i dX7_translate_54 rfl rfl h
  · replace h := h.2 c33
    refine wp_aload_n dX7_translate_34 rfl ?_
    refine wp_iload dX7_translate_35 rfl ?_
    obtain ⟨hk43, h⟩ := h
    refine wp_put (v := vi x18) dX7_translate_37 fs_RX7_208 (fun h => absurd h (by decide)) hk43 (Or.inl rfl) ?_
    refine wp_nmS (fun σ44 hs45 => ?_)
    replace h := h σ44 hs45
    exact wp_throw (n := 0) (text := "the page cannot be laid") (by decide) rfl rfl (by decide +kernel) dX7_translate_40 dX7_translate_43 dX7_translate_44 dX7_translate_46 dX7_translate_49 (q_small_of (Nat.le_of_ble_eq_true rfl)) ⟨Nat.le_of_ble_eq_true rfl, Nat.le_of_ble_eq_true rfl⟩ (Nat.le_of_ble_eq_true rfl) (Nat.le_of_ble_eq_true rfl) h

set_option maxRecDepth 100000 in
set_option maxHeartbeats 4000000 in
theorem wm_X7_setGrowth {g : qG} {l : Launch} (hl : l.stackTraces = false) {a0 : Nat} {a1 : Int} {a2 : Int} {σ : qS} {Post : qS → qRs → Prop}
    (h : (∃ (Mid2 : qS → Prop) (MidX3 : qS → Nat → Prop), qMet g l M_X7_needWithin [vi a1, vi 0, vi 2] σ (qTv Mid2 MidX3) ∧ (∀ (σ6 : qS), Mid2 σ6 → (∃ (Mid9 : qS → Prop) (MidX10 : qS → Nat → Prop), qMet g l M_X7_needWithin [vi a2, vi 50, vi 250] σ6 (qTv Mid9 MidX10) ∧ (∀ (σ13 : qS), Mid9 σ13 → gK σ13 a0 = 8 ∧ gK σ13 (gP σ13 283 a0) = 4 ∧ q_isA σ13 0 (gP σ13 120 (gP σ13 283 a0)) ∧ q_in σ13 (gP σ13 120 (gP σ13 283 a0)) a1 ∧ ∀ x19 : Int, x19 = gA σ13 (gP σ13 120 (gP σ13 283 a0)) a1 → gK σ13 (gP σ13 120 (gP σ13 283 a0)) = 20 ∧ (∀ σ22 : qS, σ22 = sA σ13 (gP σ13 120 (gP σ13 283 a0)) a1 a2 → ∃ Inv25 : Nat → Int → qS → Prop, (∃ n : Nat, Inv25 n 0 σ22) ∧ ∀ (n26 : Nat) (x24 : Int) (σ31 : qS), Inv25 n26 x24 σ31 → (gK σ31 a0 = 8 ∧ gK σ31 (gP σ31 280 a0) = 50 ∧ (∃ v35 : Int, qMet g l M_Jx4a65c_size_8abf5 [vr (gP σ31 280 a0)] σ31 (qPi σ31 v35) ∧ (qR x24 ∧ qR v35 ∧ ((v35 ≤ x24 → ∃ Inv41 : Nat → Int → Int → qS → Prop, (∃ n : Nat, Inv41 n 0 0 σ31) ∧ ∀ (n42 : Nat) (x39 : Int) (x40 : Int) (σ47 : qS), Inv41 n42 x39 x40 σ47 → (gK σ47 a0 = 8 ∧ gK σ47 (gP σ47 280 a0) = 50 ∧ (∃ v51 : Int, qMet g l M_Jx4a65c_size_8abf5 [vr (gP σ47 280 a0)] σ47 (qPi σ47 v51) ∧ (qR x40 ∧ qR v51 ∧ ((v51 ≤ x40 → Post σ47 (.inl (some (vi x39)))) ∧ (¬ (v51 ≤ x40) → (∃ v56 : Nat, qMet g l M_Jx4a65c_get_915e3 [vr (gP σ47 280 a0), vi x40] σ47 (qPr σ47 v56) ∧ ((v56 = 0 ∨ gK σ47 v56 = 5) ∧ gK σ47 v56 = 5 ∧ (∃ Mid60 : qS → Int → Prop, qMet g l M_X4_keepTrial [vr v56] σ47 (qTi0 Mid60) ∧ ∀ (σ64 : qS) (v66 : Int), Mid60 σ64 v66 → ∀ x67 : Int, x67 = x39 + v66 → ∀ x69 : Int, x69 = x40 + 1 → ∃ n71 : Nat, n71 < n42 ∧ Inv41 n71 x67 x69 σ64))))))))) ∧ (¬ (v35 ≤ x24) → (∃ v74 : Nat, qMet g l M_Jx4a65c_get_915e3 [vr (gP σ31 280 a0), vi x24] σ31 (qPr σ31 v74) ∧ ((v74 = 0 ∨ gK σ31 v74 = 5) ∧ gK σ31 (gP σ31 283 a0) = 4 ∧ (∃ Mid78 : qS → Int → Prop, qMet g l M_X3_tryPage [vr (gP σ31 283 a0), vr v74] σ31 (qTi0 Mid78) ∧ ∀ (σ82 : qS) (v84 : Int), Mid78 σ82 v84 → qR v84 ∧ ((¬ v84 = 0 → ∀ x87 : Int, x87 = x24 + 1 → ∃ n89 : Nat, n89 < n26 ∧ Inv25 n89 x87 σ82) ∧ (v84 = 0 → gK σ82 a0 = 8 ∧ gK σ82 (gP σ82 283 a0) = 4 ∧ gK σ82 (gP σ82 120 (gP σ82 283 a0)) = 20 ∧ q_in σ82 (gP σ82 120 (gP σ82 283 a0)) a1 ∧ (∀ σ94 : qS, σ94 = sA σ82 (gP σ82 120 (gP σ82 283 a0)) a1 x19 → Post σ94 (.inr 0)))))))))))))) ∧ ∀ (σ9 : qS) (n9 : Nat), MidX10 σ9 n9 → Post σ9 (.inr n9))) ∧ ∀ (σ9 : qS) (n9 : Nat), MidX3 σ9 n9 → Post σ9 (.inr n9))) : qMet g l M_X7_setGrowth [vr a0, vi a1, vi a2] σ Post := by
  refine qMet_of hl (by decide +kernel) (Nat.le_of_ble_eq_true rfl) (List.forall_mem_cons.mpr ⟨trivial, List.forall_mem_cons.mpr ⟨trivial, List.forall_mem_cons.mpr ⟨trivial, fun _ h => nomatch h⟩⟩⟩) ?_
  show qW g l M_X7_setGrowth 3 18 0 [some (vr a0), some (vi a1), some (vi a2), none, none, none] [] σ Post
  refine wp_iload_n dX7_setGrowth_0 rfl ?_
  refine wp_iconst dX7_setGrowth_1 ?_
  refine wp_iconst dX7_setGrowth_2 ?_
  obtain ⟨Mid2, MidX3, hm1, hk4, hx5⟩ := h
  refine wp_callS (M' := M_X7_needWithin) (As := [vi a1, vi 0, vi 2]) (st := []) dX7_setGrowth_3 cee_X7_needWithin np_X7_needWithin rfl ⟨Nat.le_of_ble_eq_true rfl, Nat.le_of_ble_eq_true rfl, Nat.le_of_ble_eq_true rfl, Nat.le_of_ble_eq_true rfl⟩ wd_319 wd_320 (q_small_of (Nat.le_of_ble_eq_true rfl)) hm1 (q_kTv (fun σ6 hM7 => ?_)) (q_kXv rfl hx5)
  refine wp_less (ac2 := 2) (as2 := 12) (Nat.le_of_ble_eq_true rfl) (Nat.le_of_ble_eq_true rfl) ?_
  have h := hk4 σ6 hM7
  refine wp_iload_n dX7_setGrowth_6 rfl ?_
  refine wp_bipush dX7_setGrowth_7 (by decide) ?_
  refine wp_sipush dX7_setGrowth_9 (by decide) ?_
  obtain ⟨Mid9, MidX10, hm8, hk11, hx12⟩ := h
  refine wp_callS (M' := M_X7_needWithin) (As := [vi a2, vi 50, vi 250]) (st := []) dX7_setGrowth_12 cee_X7_needWithin np_X7_needWithin rfl ⟨Nat.le_of_ble_eq_true rfl, Nat.le_of_ble_eq_true rfl, Nat.le_of_ble_eq_true rfl, Nat.le_of_ble_eq_true rfl⟩ wd_319 wd_320 (q_small_of (Nat.le_of_ble_eq_true rfl)) hm8 (q_kTv (fun σ13 hM14 => ?_)) (q_kXv rfl hx12)
  refine wp_less (ac2 := 1) (as2 := 6) (Nat.le_of_ble_eq_true rfl) (Nat.le_of_ble_eq_true rfl) ?_
  have h := hk11 σ13 hM14
  refine wp_aload_n dX7_setGrowth_15 rfl ?_
  obtain ⟨hk15, h⟩ := h
  refine wp_get (v := vr (gP σ13 283 a0)) dX7_setGrowth_16 fl_RX7_25 hk15 rfl ?_
  obtain ⟨hk16, h⟩ := h
  refine wp_get (v := vr (gP σ13 120 (gP σ13 283 a0))) dX7_setGrowth_19 fl_RX7_211 hk16 rfl ?_
  refine wp_iload_n dX7_setGrowth_22 rfl ?_
  obtain ⟨ha17, hi18, h⟩ := h
  refine wp_iaload dX7_setGrowth_23 ha17 hi18 ?_
  refine wp_nmI (fun x19 hx20 => ?_)
  replace h := h x19 hx20
  refine wp_istore_n' (ls' := [some (vr a0), some (vi a1), some (vi a2), some (vi x19), none, none]) dX7_setGrowth_24 (Nat.le_of_ble_eq_true rfl) rfl ?_
  refine wp_aload_n dX7_setGrowth_25 rfl ?_
  refine wp_get (v := vr (gP σ13 283 a0)) dX7_setGrowth_26 fl_RX7_25 hk15 rfl ?_
  refine wp_get (v := vr (gP σ13 120 (gP σ13 283 a0))) dX7_setGrowth_29 fl_RX7_211 hk16 rfl ?_
  refine wp_iload_n dX7_setGrowth_32 rfl ?_
  refine wp_iload_n dX7_setGrowth_33 rfl ?_
  obtain ⟨hk21, h⟩ := h
  refine wp_iastore dX7_setGrowth_34 hk21 hi18 ?_
  refine wp_nmS (fun σ22 hs23 => ?_)
  replace h := h σ22 hs23
  refine wp_iconst dX7_setGrowth_35 ?_
  refine wp_istore' (ls' := [some (vr a0), some (vi a1), some (vi a2), some (vi x19), some (vi 0), none]) dX7_setGrowth_36 (Nat.le_of_ble_eq_true rfl) rfl ?_
  obtain ⟨Inv25, ⟨n26_0, h030⟩, hb29⟩ := h
  have loop96 : ∀ (n26 : Nat) (x24 : Int) (σ31 : qS), Inv25 n26 x24 σ31 → qW g l M_X7_setGrowth 1 6 38 [some (vr a0), some (vi a1), some (vi a2), some (vi x19), some (vi x24), none] [] σ31 Post := by
    intro n26
    induction n26 using Nat.strongRecOn with
    | ind n26 ih27 =>
      intro x24 σ31 hI28
      have h := hb29 n26 x24 σ31 hI28
      refine wp_iload dX7_setGrowth_38 rfl ?_
      refine wp_aload_n dX7_setGrowth_40 rfl ?_
      obtain ⟨hk32, h⟩ := h
      refine wp_get (v := vr (gP σ31 280 a0)) dX7_setGrowth_41 fl_RX7_10 hk32 rfl ?_
      obtain ⟨hk34, h⟩ := h
      obtain ⟨v35, hm33, h⟩ := h
      refine wp_callV (M' := M_Jx4a65c_size_8abf5) (As := []) (st := [vi x24]) (ci := 9) dX7_setGrowth_44 cee_Jx4a65c_size_8abf5 np_Jx4a65c_size_8abf5 rfl ⟨Nat.le_of_ble_eq_true rfl, Nat.le_of_ble_eq_true rfl, Nat.le_of_ble_eq_true rfl, Nat.le_of_ble_eq_true rfl⟩ wd_112 wd_113 wd_114 rfl (Or.inr ⟨hk34, rfl⟩) (q_small_of (Nat.le_of_ble_eq_true rfl)) hm33 (q_kPi ?_) q_kPi0
      refine wp_less (ac2 := 1) (as2 := 6) (Nat.le_of_ble_eq_true rfl) (Nat.le_of_ble_eq_true rfl) ?_
      obtain ⟨hr36, hr37, h⟩ := h
      refine wp_icmp_ge (tgt := 98) dX7_setGrowth_47 (by decide) hr36 hr37 (fun c38 => ?_) (fun c38 => ?_)
      · replace h := h.1 c38
        refine wp_iconst dX7_setGrowth_98 ?_
        refine wp_istore' (ls' := [some (vr a0), some (vi a1), some (vi a2), some (vi x19), some (vi 0), none]) dX7_setGrowth_99 (Nat.le_of_ble_eq_true rfl) rfl ?_
        refine wp_iconst dX7_setGrowth_101 ?_
        refine wp_istore' (ls' := [some (vr a0), some (vi a1), some (vi a2), some (vi x19), some (vi 0), some (vi 0)]) dX7_setGrowth_102 (Nat.le_of_ble_eq_true rfl) rfl ?_
        obtain ⟨Inv41, ⟨n42_0, h046⟩, hb45⟩ := h
        have loop72 : ∀ (n42 : Nat) (x39 : Int) (x40 : Int) (σ47 : qS), Inv41 n42 x39 x40 σ47 → qW g l M_X7_setGrowth 1 6 104 [some (vr a0), some (vi a1), some (vi a2), some (vi x19), some (vi x39), some (vi x40)] [] σ47 Post := by
          intro n42
          induction n42 using Nat.strongRecOn with
          | ind n42 ih43 =>
            intro x39 x40 σ47 hI44
            have h := hb45 n42 x39 x40 σ47 hI44
            refine wp_iload dX7_setGrowth_104 rfl ?_
            refine wp_aload_n dX7_setGrowth_106 rfl ?_
            obtain ⟨hk48, h⟩ := h
            refine wp_get (v := vr (gP σ47 280 a0)) dX7_setGrowth_107 fl_RX7_10 hk48 rfl ?_
            obtain ⟨hk50, h⟩ := h
            obtain ⟨v51, hm49, h⟩ := h
            refine wp_callV (M' := M_Jx4a65c_size_8abf5) (As := []) (st := [vi x40]) (ci := 9) dX7_setGrowth_110 cee_Jx4a65c_size_8abf5 np_Jx4a65c_size_8abf5 rfl ⟨Nat.le_of_ble_eq_true rfl, Nat.le_of_ble_eq_true rfl, Nat.le_of_ble_eq_true rfl, Nat.le_of_ble_eq_true rfl⟩ wd_112 wd_113 wd_114 rfl (Or.inr ⟨hk50, rfl⟩) (q_small_of (Nat.le_of_ble_eq_true rfl)) hm49 (q_kPi ?_) q_kPi0
            refine wp_less (ac2 := 1) (as2 := 6) (Nat.le_of_ble_eq_true rfl) (Nat.le_of_ble_eq_true rfl) ?_
            obtain ⟨hr52, hr53, h⟩ := h
            refine wp_icmp_ge (tgt := 142) dX7_setGrowth_113 (by decide) hr52 hr53 (fun c54 => ?_) (fun c54 => ?_)
            · replace h := h.1 c54
              refine wp_iload dX7_setGrowth_142 rfl ?_
              exact wp_ret_i dX7_setGrowth_144 rfl rfl h
            · replace h := h.2 c54
              refine wp_iload dX7_setGrowth_116 rfl ?_
              refine wp_aload_n dX7_setGrowth_118 rfl ?_
              refine wp_get (v := vr (gP σ47 280 a0)) dX7_setGrowth_119 fl_RX7_10 hk48 rfl ?_
              refine wp_iload dX7_setGrowth_122 rfl ?_
              obtain ⟨v56, hm55, h⟩ := h
              refine wp_callV (M' := M_Jx4a65c_get_915e3) (As := [vi x40]) (st := [vi x39]) (ci := 9) dX7_setGrowth_124 cee_Jx4a65c_get_915e3 np_Jx4a65c_get_915e3 rfl ⟨Nat.le_of_ble_eq_true rfl, Nat.le_of_ble_eq_true rfl, Nat.le_of_ble_eq_true rfl, Nat.le_of_ble_eq_true rfl⟩ wd_301 wd_302 wd_303 rfl (Or.inr ⟨hk50, rfl⟩) (q_small_of (Nat.le_of_ble_eq_true rfl)) hm55 (q_kPr ?_) q_kPr0
              refine wp_less (ac2 := 1) (as2 := 6) (Nat.le_of_ble_eq_true rfl) (Nat.le_of_ble_eq_true rfl) ?_
              obtain ⟨hc57, h⟩ := h
              refine wp_cast (ci := 4) dX7_setGrowth_127 ⟨_, rfl, wd_184⟩ hc57 ?_
              obtain ⟨hk59, h⟩ := h
              obtain ⟨Mid60, hm58, hk62⟩ := h
              refine wp_callV (M' := M_X4_keepTrial) (As := []) (st := [vi x39]) (ci := 4) dX7_setGrowth_130 cee_X4_keepTrial np_X4_keepTrial rfl ⟨Nat.le_of_ble_eq_true rfl, Nat.le_of_ble_eq_true rfl, Nat.le_of_ble_eq_true rfl, Nat.le_of_ble_eq_true rfl⟩ wd_522 wd_523 wd_524 rfl (Or.inl hk59) (q_small_of (Nat.le_of_ble_eq_true rfl)) hm58 (q_kTi0 (fun σ64 v66 hM65 => ?_)) q_kTi00
              refine wp_less (ac2 := 1) (as2 := 6) (Nat.le_of_ble_eq_true rfl) (Nat.le_of_ble_eq_true rfl) ?_
              have h := hk62 σ64 v66 hM65
              refine wp_iadd dX7_setGrowth_133 ?_
              refine wp_nmI (fun x67 hx68 => ?_)
              replace h := h x67 hx68
              refine wp_istore' (ls' := [some (vr a0), some (vi a1), some (vi a2), some (vi x19), some (vi x67), some (vi x40)]) dX7_setGrowth_134 (Nat.le_of_ble_eq_true rfl) rfl ?_
              refine wp_nmT (x40 + 1) (fun x69 hx70 => ?_)
              replace h := h x69 hx70
              refine wp_iinc' (z' := x69) (ls' := [some (vr a0), some (vi a1), some (vi a2), some (vi x19), some (vi x67), some (vi x69)]) dX7_setGrowth_136 (Nat.le_of_ble_eq_true rfl) rfl hx70 rfl ?_
              refine wp_goto (tgt := 104) dX7_setGrowth_139 (by decide) ?_
              obtain ⟨n71, hlt, h⟩ := h
              exact wp_lsub (ls' := [some (vr a0), some (vi a1), some (vi a2), some (vi x19), some (vi x67), some (vi x69)]) ⟨rfl, ⟨rfl, ⟨rfl, ⟨rfl, ⟨rfl, ⟨rfl, trivial⟩⟩⟩⟩⟩⟩ (ih43 n71 hlt _ _ _ h)
        exact wp_lsub (ls' := [some (vr a0), some (vi a1), some (vi a2), some (vi x19), some (vi 0), some (vi 0)]) ⟨rfl, ⟨rfl, ⟨rfl, ⟨rfl, ⟨rfl, ⟨rfl, trivial⟩⟩⟩⟩⟩⟩ (loop72 _ _ _ _ h046)
      · replace h := h.2 c38
        refine wp_aload_n dX7_setGrowth_50 rfl ?_
        refine wp_get (v := vr (gP σ31 283 a0)) dX7_setGrowth_51 fl_RX7_25 hk32 rfl ?_
        refine wp_aload_n dX7_setGrowth_54 rfl ?_
        refine wp_get (v := vr (gP σ31 280 a0)) dX7_setGrowth_55 fl_RX7_10 hk32 rfl ?_
        refine wp_iload dX7_setGrowth_58 rfl ?_
        obtain ⟨v74, hm73, h⟩ := h
        refine wp_callV (M' := M_Jx4a65c_get_915e3) (As := [vi x24]) (st := [vr (gP σ31 283 a0)]) (ci := 9) dX7_setGrowth_60 cee_Jx4a65c_get_915e3 np_Jx4a65c_get_915e3 rfl ⟨Nat.le_of_ble_eq_true rfl, Nat.le_of_ble_eq_true rfl, Nat.le_of_ble_eq_true rfl, Nat.le_of_ble_eq_true rfl⟩ wd_301 wd_302 wd_303 rfl (Or.inr ⟨hk34, rfl⟩) (q_small_of (Nat.le_of_ble_eq_true rfl)) hm73 (q_kPr ?_) q_kPr0
        refine wp_less (ac2 := 1) (as2 := 6) (Nat.le_of_ble_eq_true rfl) (Nat.le_of_ble_eq_true rfl) ?_
        obtain ⟨hc75, h⟩ := h
        refine wp_cast (ci := 4) dX7_setGrowth_63 ⟨_, rfl, wd_184⟩ hc75 ?_
        obtain ⟨hk77, h⟩ := h
        obtain ⟨Mid78, hm76, hk80⟩ := h
        refine wp_callV (M' := M_X3_tryPage) (As := [vr v74]) (st := []) (ci := 3) dX7_setGrowth_66 cee_X3_tryPage np_X3_tryPage rfl ⟨Nat.le_of_ble_eq_true rfl, Nat.le_of_ble_eq_true rfl, Nat.le_of_ble_eq_true rfl, Nat.le_of_ble_eq_true rfl⟩ wd_447 wd_448 wd_449 rfl (Or.inl hk77) (q_small_of (Nat.le_of_ble_eq_true rfl)) hm76 (q_kTi0 (fun σ82 v84 hM83 => ?_)) q_kTi00
        refine wp_less (ac2 := 1) (as2 := 6) (Nat.le_of_ble_eq_true rfl) (Nat.le_of_ble_eq_true rfl) ?_
        have h := hk80 σ82 v84 hM83
        obtain ⟨hr85, h⟩ := h
        refine wp_if_ne (tgt := 92) dX7_setGrowth_69 (by decide) hr85 (fun c86 => ?_) (fun c86 => ?_)
        · replace h := h.1 c86
          refine wp_nmT (x24 + 1) (fun x87 hx88 => ?_)
          replace h := h x87 hx88
          refine wp_iinc' (z' := x87) (ls' := [some (vr a0), some (vi a1), some (vi a2), some (vi x19), some (vi x87), none]) dX7_setGrowth_92 (Nat.le_of_ble_eq_true rfl) rfl hx88 rfl ?_
          refine wp_goto (tgt := 38) dX7_setGrowth_95 (by decide) ?_
          obtain ⟨n89, hlt, h⟩ := h
          exact wp_lsub (ls' := [some (vr a0), some (vi a1), some (vi a2), some (vi x19), some (vi x87), none]) ⟨rfl, ⟨rfl, ⟨rfl, ⟨rfl, ⟨rfl, trivial⟩⟩⟩⟩⟩ (ih27 n89 hlt _ _ h)
        · replace h := h.2 c86
          refine wp_aload_n dX7_setGrowth_72 rfl ?_
          obtain ⟨hk90, h⟩ := h
          refine wp_get (v := vr (gP σ82 283 a0)) dX7_setGrowth_73 fl_RX7_25 hk90 rfl ?_
          obtain ⟨hk91, h⟩ := h
          refine wp_get (v := vr (gP σ82 120 (gP σ82 283 a0))) dX7_setGrowth_76 fl_RX7_211 hk91 rfl ?_
          refine wp_iload_n dX7_setGrowth_79 rfl ?_
          refine wp_iload_n dX7_setGrowth_80 rfl ?_
          obtain ⟨hk92, hi93, h⟩ := h
          refine wp_iastore dX7_setGrowth_81 hk92 hi93 ?_
          refine wp_nmS (fun σ94 hs95 => ?_)
          replace h := h σ94 hs95
          exact wp_throw (n := 0) (text := "a page cannot be laid") (by decide) rfl rfl (by decide +kernel) dX7_setGrowth_82 dX7_setGrowth_85 dX7_setGrowth_86 dX7_setGrowth_88 dX7_setGrowth_91 (q_small_of (Nat.le_of_ble_eq_true rfl)) ⟨Nat.le_of_ble_eq_true rfl, Nat.le_of_ble_eq_true rfl⟩ (Nat.le_of_ble_eq_true rfl) (Nat.le_of_ble_eq_true rfl) h
  exact wp_lsub (ls' := [some (vr a0), some (vi a1), some (vi a2), some (vi x19), some (vi 0), none]) ⟨rfl, ⟨rfl, ⟨rfl, ⟨rfl, ⟨rfl, trivial⟩⟩⟩⟩⟩ (loop96 _ _ _ h030)

set_option maxRecDepth 100000 in
set_option maxHeartbeats 4000000 in
theorem wm_X7_pages {g : qG} {l : Launch} (hl : l.stackTraces = false) {a0 : Nat} {σ : qS} {Post : qS → qRs → Prop}
    (h : gK σ a0 = 8 ∧ gK σ (gP σ 280 a0) = 50 ∧ (∃ v4 : Int, qMet g l M_Jx4a65c_size_8abf5 [vr (gP σ 280 a0)] σ (qPi σ v4) ∧ (Post σ (.inl (some (vi v4)))))) : qMet g l M_X7_pages [vr a0] σ Post := by
  refine qMet_of hl (by decide +kernel) (Nat.le_of_ble_eq_true rfl) (List.forall_mem_cons.mpr ⟨trivial, fun _ h => nomatch h⟩) ?_
  show qW g l M_X7_pages 0 0 0 [some (vr a0)] [] σ Post
  refine wp_aload_n dX7_pages_0 rfl ?_
  obtain ⟨hk1, h⟩ := h
  refine wp_get (v := vr (gP σ 280 a0)) dX7_pages_1 fl_RX7_10 hk1 rfl ?_
  obtain ⟨hk3, h⟩ := h
  obtain ⟨v4, hm2, h⟩ := h
  refine wp_callV (M' := M_Jx4a65c_size_8abf5) (As := []) (st := []) (ci := 9) dX7_pages_4 cee_Jx4a65c_size_8abf5 np_Jx4a65c_size_8abf5 rfl ⟨Nat.le_of_ble_eq_true rfl, Nat.le_of_ble_eq_true rfl, Nat.le_of_ble_eq_true rfl, Nat.le_of_ble_eq_true rfl⟩ wd_112 wd_113 wd_114 rfl (Or.inr ⟨hk3, rfl⟩) (q_small_of (Nat.le_of_ble_eq_true rfl)) hm2 (q_kPi ?_) q_kPi0
  refine wp_less (ac2 := 0) (as2 := 0) (Nat.le_of_ble_eq_true rfl) (Nat.le_of_ble_eq_true rfl) ?_
  exact wp_ret_i dX7_pages_7 rfl rfl h

set_option maxRecDepth 100000 in
set_option maxHeartbeats 4000000 in
theorem wm_X7_rows {g : qG} {l : Launch} (hl : l.stackTraces = false) {a0 : Nat} {a1 : Int} {σ : qS} {Post : qS → qRs → Prop}
    (h : gK σ a0 = 8 ∧ (∃ (Mid3 : qS → Nat → Prop) (MidX4 : qS → Nat → Prop), qMet g l M_X7_needPage [vr a0, vi a1] σ (qTr Mid3 MidX4) ∧ (∀ (σ7 : qS) (v9 : Nat), Mid3 σ7 v9 → gK σ7 v9 = 5 ∧ Post σ7 (.inl (some (vi (gI σ7 163 v9))))) ∧ ∀ (σ9 : qS) (n9 : Nat), MidX4 σ9 n9 → Post σ9 (.inr n9))) : qMet g l M_X7_rows [vr a0, vi a1] σ Post := by
  refine qMet_of hl (by decide +kernel) (Nat.le_of_ble_eq_true rfl) (List.forall_mem_cons.mpr ⟨trivial, List.forall_mem_cons.mpr ⟨trivial, fun _ h => nomatch h⟩⟩) ?_
  show qW g l M_X7_rows 1 6 0 [some (vr a0), some (vi a1)] [] σ Post
  refine wp_aload_n dX7_rows_0 rfl ?_
  refine wp_iload_n dX7_rows_1 rfl ?_
  obtain ⟨hk2, h⟩ := h
  obtain ⟨Mid3, MidX4, hm1, hk5, hx6⟩ := h
  refine wp_callV (M' := M_X7_needPage) (As := [vi a1]) (st := []) (ci := 7) dX7_rows_2 cee_X7_needPage np_X7_needPage rfl ⟨Nat.le_of_ble_eq_true rfl, Nat.le_of_ble_eq_true rfl, Nat.le_of_ble_eq_true rfl, Nat.le_of_ble_eq_true rfl⟩ wd_281 wd_283 sel_X7_needPage rfl (Or.inl hk2) (q_small_of (Nat.le_of_ble_eq_true rfl)) hm1 (q_kTr (fun σ7 v9 hM8 => ?_)) (q_kXr rfl hx6)
  refine wp_less (ac2 := 0) (as2 := 0) (Nat.le_of_ble_eq_true rfl) (Nat.le_of_ble_eq_true rfl) ?_
  have h := hk5 σ7 v9 hM8
  obtain ⟨hk10, h⟩ := h
  refine wp_get (v := vi (gI σ7 163 v9)) dX7_rows_5 fl_RX7_221 hk10 rfl ?_
  exact wp_ret_i dX7_rows_8 rfl rfl h

set_option maxRecDepth 100000 in
set_option maxHeartbeats 4000000 in
theorem wm_X7_panels {g : qG} {l : Launch} (hl : l.stackTraces = false) {a0 : Nat} {a1 : Int} {σ : qS} {Post : qS → qRs → Prop}
    (h : gK σ a0 = 8 ∧ (∃ (Mid3 : qS → Nat → Prop) (MidX4 : qS → Nat → Prop), qMet g l M_X7_needPage [vr a0, vi a1] σ (qTr Mid3 MidX4) ∧ (∀ (σ7 : qS) (v9 : Nat), Mid3 σ7 v9 → gK σ7 v9 = 5 ∧ gK σ7 (gP σ7 161 v9) = 50 ∧ (∃ v13 : Int, qMet g l M_Jx4a65c_size_8abf5 [vr (gP σ7 161 v9)] σ7 (qPi σ7 v13) ∧ (Post σ7 (.inl (some (vi v13)))))) ∧ ∀ (σ9 : qS) (n9 : Nat), MidX4 σ9 n9 → Post σ9 (.inr n9))) : qMet g l M_X7_panels [vr a0, vi a1] σ Post := by
  refine qMet_of hl (by decide +kernel) (Nat.le_of_ble_eq_true rfl) (List.forall_mem_cons.mpr ⟨trivial, List.forall_mem_cons.mpr ⟨trivial, fun _ h => nomatch h⟩⟩) ?_
  show qW g l M_X7_panels 1 6 0 [some (vr a0), some (vi a1)] [] σ Post
  refine wp_aload_n dX7_panels_0 rfl ?_
  refine wp_iload_n dX7_panels_1 rfl ?_
  obtain ⟨hk2, h⟩ := h
  obtain ⟨Mid3, MidX4, hm1, hk5, hx6⟩ := h
  refine wp_callV (M' := M_X7_needPage) (As := [vi a1]) (st := []) (ci := 7) dX7_panels_2 cee_X7_needPage np_X7_needPage rfl ⟨Nat.le_of_ble_eq_true rfl, Nat.le_of_ble_eq_true rfl, Nat.le_of_ble_eq_true rfl, Nat.le_of_ble_eq_true rfl⟩ wd_281 wd_283 sel_X7_needPage rfl (Or.inl hk2) (q_small_of (Nat.le_of_ble_eq_true rfl)) hm1 (q_kTr (fun σ7 v9 hM8 => ?_)) (q_kXr rfl hx6)
  refine wp_less (ac2 := 0) (as2 := 0) (Nat.le_of_ble_eq_true rfl) (Nat.le_of_ble_eq_true rfl) ?_
  have h := hk5 σ7 v9 hM8
  obtain ⟨hk10, h⟩ := h
  refine wp_get (v := vr (gP σ7 161 v9)) dX7_panels_5 fl_RX7_64 hk10 rfl ?_
  obtain ⟨hk12, h⟩ := h
  obtain ⟨v13, hm11, h⟩ := h
  refine wp_callV (M' := M_Jx4a65c_size_8abf5) (As := []) (st := []) (ci := 9) dX7_panels_8 cee_Jx4a65c_size_8abf5 np_Jx4a65c_size_8abf5 rfl ⟨Nat.le_of_ble_eq_true rfl, Nat.le_of_ble_eq_true rfl, Nat.le_of_ble_eq_true rfl, Nat.le_of_ble_eq_true rfl⟩ wd_112 wd_113 wd_114 rfl (Or.inr ⟨hk12, rfl⟩) (q_small_of (Nat.le_of_ble_eq_true rfl)) hm11 (q_kPi ?_) q_kPi0
  refine wp_less (ac2 := 0) (as2 := 0) (Nat.le_of_ble_eq_true rfl) (Nat.le_of_ble_eq_true rfl) ?_
  exact wp_ret_i dX7_panels_11 rfl rfl h

set_option maxRecDepth 100000 in
set_option maxHeartbeats 4000000 in
theorem wm_X7_panelAt {g : qG} {l : Launch} (hl : l.stackTraces = false) {a0 : Nat} {a1 : Int} {a2 : Int} {σ : qS} {Post : qS → qRs → Prop}
    (h : gK σ a0 = 8 ∧ (∃ (Mid3 : qS → Nat → Prop) (MidX4 : qS → Nat → Prop), qMet g l M_X7_needPage [vr a0, vi a1] σ (qTr Mid3 MidX4) ∧ (∀ (σ7 : qS) (v9 : Nat), Mid3 σ7 v9 → gK σ7 v9 = 5 ∧ gK σ7 (gP σ7 161 v9) = 50 ∧ (∃ v13 : Int, qMet g l M_Jx4a65c_size_8abf5 [vr (gP σ7 161 v9)] σ7 (qPi σ7 v13) ∧ ((∃ (Mid15 : qS → Prop) (MidX16 : qS → Nat → Prop), qMet g l M_X7_needPlace [vi a2, vi (v13 - 1)] σ7 (qTv Mid15 MidX16) ∧ (∀ (σ19 : qS), Mid15 σ19 → gK σ19 v9 = 5 ∧ gK σ19 (gP σ19 161 v9) = 50 ∧ (∃ v24 : Nat, qMet g l M_Jx4a65c_get_915e3 [vr (gP σ19 161 v9), vi a2] σ19 (qPr σ19 v24) ∧ ((v24 = 0 ∨ gK σ19 v24 = 6) ∧ gK σ19 v24 = 6 ∧ Post σ19 (.inl (some (vi (gI σ19 200 v24))))))) ∧ ∀ (σ9 : qS) (n9 : Nat), MidX16 σ9 n9 → Post σ9 (.inr n9))))) ∧ ∀ (σ9 : qS) (n9 : Nat), MidX4 σ9 n9 → Post σ9 (.inr n9))) : qMet g l M_X7_panelAt [vr a0, vi a1, vi a2] σ Post := by
  refine qMet_of hl (by decide +kernel) (Nat.le_of_ble_eq_true rfl) (List.forall_mem_cons.mpr ⟨trivial, List.forall_mem_cons.mpr ⟨trivial, List.forall_mem_cons.mpr ⟨trivial, fun _ h => nomatch h⟩⟩⟩) ?_
  show qW g l M_X7_panelAt 2 12 0 [some (vr a0), some (vi a1), some (vi a2), none] [] σ Post
  refine wp_aload_n dX7_panelAt_0 rfl ?_
  refine wp_iload_n dX7_panelAt_1 rfl ?_
  obtain ⟨hk2, h⟩ := h
  obtain ⟨Mid3, MidX4, hm1, hk5, hx6⟩ := h
  refine wp_callV (M' := M_X7_needPage) (As := [vi a1]) (st := []) (ci := 7) dX7_panelAt_2 cee_X7_needPage np_X7_needPage rfl ⟨Nat.le_of_ble_eq_true rfl, Nat.le_of_ble_eq_true rfl, Nat.le_of_ble_eq_true rfl, Nat.le_of_ble_eq_true rfl⟩ wd_281 wd_283 sel_X7_needPage rfl (Or.inl hk2) (q_small_of (Nat.le_of_ble_eq_true rfl)) hm1 (q_kTr (fun σ7 v9 hM8 => ?_)) (q_kXr rfl hx6)
  refine wp_less (ac2 := 1) (as2 := 6) (Nat.le_of_ble_eq_true rfl) (Nat.le_of_ble_eq_true rfl) ?_
  have h := hk5 σ7 v9 hM8
  refine wp_astore_n' (ls' := [some (vr a0), some (vi a1), some (vi a2), some (vr v9)]) dX7_panelAt_5 (Nat.le_of_ble_eq_true rfl) rfl ?_
  refine wp_iload_n dX7_panelAt_6 rfl ?_
  refine wp_aload_n dX7_panelAt_7 rfl ?_
  obtain ⟨hk10, h⟩ := h
  refine wp_get (v := vr (gP σ7 161 v9)) dX7_panelAt_8 fl_RX7_64 hk10 rfl ?_
  obtain ⟨hk12, h⟩ := h
  obtain ⟨v13, hm11, h⟩ := h
  refine wp_callV (M' := M_Jx4a65c_size_8abf5) (As := []) (st := [vi a2]) (ci := 9) dX7_panelAt_11 cee_Jx4a65c_size_8abf5 np_Jx4a65c_size_8abf5 rfl ⟨Nat.le_of_ble_eq_true rfl, Nat.le_of_ble_eq_true rfl, Nat.le_of_ble_eq_true rfl, Nat.le_of_ble_eq_true rfl⟩ wd_112 wd_113 wd_114 rfl (Or.inr ⟨hk12, rfl⟩) (q_small_of (Nat.le_of_ble_eq_true rfl)) hm11 (q_kPi ?_) q_kPi0
  refine wp_less (ac2 := 1) (as2 := 6) (Nat.le_of_ble_eq_true rfl) (Nat.le_of_ble_eq_true rfl) ?_
  refine wp_iconst dX7_panelAt_14 ?_
  refine wp_isub dX7_panelAt_15 ?_
  obtain ⟨Mid15, MidX16, hm14, hk17, hx18⟩ := h
  refine wp_callS (M' := M_X7_needPlace) (As := [vi a2, vi (v13 - 1)]) (st := []) dX7_panelAt_16 cee_X7_needPlace np_X7_needPlace rfl ⟨Nat.le_of_ble_eq_true rfl, Nat.le_of_ble_eq_true rfl, Nat.le_of_ble_eq_true rfl, Nat.le_of_ble_eq_true rfl⟩ wd_315 wd_316 (q_small_of (Nat.le_of_ble_eq_true rfl)) hm14 (q_kTv (fun σ19 hM20 => ?_)) (q_kXv rfl hx18)
  refine wp_less (ac2 := 0) (as2 := 0) (Nat.le_of_ble_eq_true rfl) (Nat.le_of_ble_eq_true rfl) ?_
  have h := hk17 σ19 hM20
  refine wp_aload_n dX7_panelAt_19 rfl ?_
  obtain ⟨hk21, h⟩ := h
  refine wp_get (v := vr (gP σ19 161 v9)) dX7_panelAt_20 fl_RX7_64 hk21 rfl ?_
  refine wp_iload_n dX7_panelAt_23 rfl ?_
  obtain ⟨hk23, h⟩ := h
  obtain ⟨v24, hm22, h⟩ := h
  refine wp_callV (M' := M_Jx4a65c_get_915e3) (As := [vi a2]) (st := []) (ci := 9) dX7_panelAt_24 cee_Jx4a65c_get_915e3 np_Jx4a65c_get_915e3 rfl ⟨Nat.le_of_ble_eq_true rfl, Nat.le_of_ble_eq_true rfl, Nat.le_of_ble_eq_true rfl, Nat.le_of_ble_eq_true rfl⟩ wd_301 wd_302 wd_303 rfl (Or.inr ⟨hk23, rfl⟩) (q_small_of (Nat.le_of_ble_eq_true rfl)) hm22 (q_kPr ?_) q_kPr0
  refine wp_less (ac2 := 0) (as2 := 0) (Nat.le_of_ble_eq_true rfl) (Nat.le_of_ble_eq_true rfl) ?_
  obtain ⟨hc25, h⟩ := h
  refine wp_cast (ci := 5) dX7_panelAt_27 ⟨_, rfl, wd_339⟩ hc25 ?_
  obtain ⟨hk26, h⟩ := h
  refine wp_get (v := vi (gI σ19 200 v24)) dX7_panelAt_30 fl_RX7_98 hk26 rfl ?_
  exact wp_ret_i dX7_panelAt_33 rfl rfl h

set_option maxRecDepth 100000 in
set_option maxHeartbeats 4000000 in
theorem wm_X7_lies {g : qG} {l : Launch} (hl : l.stackTraces = false) {a0 : Nat} {a1 : Int} {a2 : Int} {σ : qS} {Post : qS → qRs → Prop}
    (h : gK σ a0 = 8 ∧ (∃ (Mid3 : qS → Nat → Prop) (MidX4 : qS → Nat → Prop), qMet g l M_X7_needPanel [vr a0, vi a1] σ (qTr Mid3 MidX4) ∧ (∀ (σ7 : qS) (v9 : Nat), Mid3 σ7 v9 → (∃ (Mid11 : qS → Prop) (MidX12 : qS → Nat → Prop), qMet g l M_X7_needWithin [vi a2, vi 0, vi 4] σ7 (qTv Mid11 MidX12) ∧ (∀ (σ15 : qS), Mid11 σ15 → qR a2 ∧ ((¬ a2 = 0 → gK σ15 v9 = 6 ∧ gK σ15 (gP σ15 207 v9) = 2 ∧ (∃ v22 : Int, qMet g l M_X1_measure [vr (gP σ15 207 v9), vi a2] σ15 (qPi σ15 v22) ∧ (Post σ15 (.inl (some (vi v22)))))) ∧ (a2 = 0 → gK σ15 v9 = 6 ∧ Post σ15 (.inl (some (vi (gI σ15 209 v9))))))) ∧ ∀ (σ9 : qS) (n9 : Nat), MidX12 σ9 n9 → Post σ9 (.inr n9))) ∧ ∀ (σ9 : qS) (n9 : Nat), MidX4 σ9 n9 → Post σ9 (.inr n9))) : qMet g l M_X7_lies [vr a0, vi a1, vi a2] σ Post := by
  refine qMet_of hl (by decide +kernel) (Nat.le_of_ble_eq_true rfl) (List.forall_mem_cons.mpr ⟨trivial, List.forall_mem_cons.mpr ⟨trivial, List.forall_mem_cons.mpr ⟨trivial, fun _ h => nomatch h⟩⟩⟩) ?_
  show qW g l M_X7_lies 2 12 0 [some (vr a0), some (vi a1), some (vi a2), none] [] σ Post
  refine wp_aload_n dX7_lies_0 rfl ?_
  refine wp_iload_n dX7_lies_1 rfl ?_
  obtain ⟨hk2, h⟩ := h
  obtain ⟨Mid3, MidX4, hm1, hk5, hx6⟩ := h
  refine wp_callV (M' := M_X7_needPanel) (As := [vi a1]) (st := []) (ci := 7) dX7_lies_2 cee_X7_needPanel np_X7_needPanel rfl ⟨Nat.le_of_ble_eq_true rfl, Nat.le_of_ble_eq_true rfl, Nat.le_of_ble_eq_true rfl, Nat.le_of_ble_eq_true rfl⟩ wd_547 wd_549 sel_X7_needPanel rfl (Or.inl hk2) (q_small_of (Nat.le_of_ble_eq_true rfl)) hm1 (q_kTr (fun σ7 v9 hM8 => ?_)) (q_kXr rfl hx6)
  refine wp_less (ac2 := 1) (as2 := 6) (Nat.le_of_ble_eq_true rfl) (Nat.le_of_ble_eq_true rfl) ?_
  have h := hk5 σ7 v9 hM8
  refine wp_astore_n' (ls' := [some (vr a0), some (vi a1), some (vi a2), some (vr v9)]) dX7_lies_5 (Nat.le_of_ble_eq_true rfl) rfl ?_
  refine wp_iload_n dX7_lies_6 rfl ?_
  refine wp_iconst dX7_lies_7 ?_
  refine wp_iconst dX7_lies_8 ?_
  obtain ⟨Mid11, MidX12, hm10, hk13, hx14⟩ := h
  refine wp_callS (M' := M_X7_needWithin) (As := [vi a2, vi 0, vi 4]) (st := []) dX7_lies_9 cee_X7_needWithin np_X7_needWithin rfl ⟨Nat.le_of_ble_eq_true rfl, Nat.le_of_ble_eq_true rfl, Nat.le_of_ble_eq_true rfl, Nat.le_of_ble_eq_true rfl⟩ wd_319 wd_320 (q_small_of (Nat.le_of_ble_eq_true rfl)) hm10 (q_kTv (fun σ15 hM16 => ?_)) (q_kXv rfl hx14)
  refine wp_less (ac2 := 0) (as2 := 0) (Nat.le_of_ble_eq_true rfl) (Nat.le_of_ble_eq_true rfl) ?_
  have h := hk13 σ15 hM16
  refine wp_iload_n dX7_lies_12 rfl ?_
  obtain ⟨hr17, h⟩ := h
  refine wp_if_ne (tgt := 23) dX7_lies_13 (by decide) hr17 (fun c18 => ?_) (fun c18 => ?_)
  · replace h := h.1 c18
    refine wp_aload_n dX7_lies_23 rfl ?_
    obtain ⟨hk19, h⟩ := h
    refine wp_get (v := vr (gP σ15 207 v9)) dX7_lies_24 fl_RX7_150 hk19 rfl ?_
    refine wp_iload_n dX7_lies_27 rfl ?_
    obtain ⟨hk21, h⟩ := h
    obtain ⟨v22, hm20, h⟩ := h
    refine wp_callV (M' := M_X1_measure) (As := [vi a2]) (st := []) (ci := 1) dX7_lies_28 cee_X1_measure np_X1_measure rfl ⟨Nat.le_of_ble_eq_true rfl, Nat.le_of_ble_eq_true rfl, Nat.le_of_ble_eq_true rfl, Nat.le_of_ble_eq_true rfl⟩ wd_732 wd_733 wd_734 rfl (Or.inl hk21) (q_small_of (Nat.le_of_ble_eq_true rfl)) hm20 (q_kPi ?_) q_kPi0
    refine wp_less (ac2 := 0) (as2 := 0) (Nat.le_of_ble_eq_true rfl) (Nat.le_of_ble_eq_true rfl) ?_
    exact wp_ret_i dX7_lies_31 rfl rfl h
  · replace h := h.2 c18
    refine wp_aload_n dX7_lies_16 rfl ?_
    obtain ⟨hk23, h⟩ := h
    refine wp_get (v := vi (gI σ15 209 v9)) dX7_lies_17 fl_RX7_224 hk23 rfl ?_
    refine wp_goto (tgt := 31) dX7_lies_20 (by decide) ?_
    exact wp_ret_i dX7_lies_31 rfl rfl h

set_option maxRecDepth 100000 in
set_option maxHeartbeats 4000000 in
theorem wm_X7_floats {g : qG} {l : Launch} (hl : l.stackTraces = false) {a0 : Nat} {a1 : Int} {a2 : Int} {σ : qS} {Post : qS → qRs → Prop}
    (h : gK σ a0 = 8 ∧ (∃ (Mid3 : qS → Nat → Prop) (MidX4 : qS → Nat → Prop), qMet g l M_X7_needBalloon [vr a0, vi a1] σ (qTr Mid3 MidX4) ∧ (∀ (σ7 : qS) (v9 : Nat), Mid3 σ7 v9 → (∃ (Mid11 : qS → Prop) (MidX12 : qS → Nat → Prop), qMet g l M_X7_needWithin [vi a2, vi 0, vi 4] σ7 (qTv Mid11 MidX12) ∧ (∀ (σ15 : qS), Mid11 σ15 → qR a2 ∧ ((¬ a2 = 0 → gK σ15 v9 = 1 ∧ gK σ15 (gP σ15 2 v9) = 2 ∧ (∃ v22 : Int, qMet g l M_X1_measure [vr (gP σ15 2 v9), vi a2] σ15 (qPi σ15 v22) ∧ (Post σ15 (.inl (some (vi v22)))))) ∧ (a2 = 0 → gK σ15 v9 = 1 ∧ gK σ15 (gP σ15 4 v9) = 6 ∧ Post σ15 (.inl (some (vi (gI σ15 200 (gP σ15 4 v9)))))))) ∧ ∀ (σ9 : qS) (n9 : Nat), MidX12 σ9 n9 → Post σ9 (.inr n9))) ∧ ∀ (σ9 : qS) (n9 : Nat), MidX4 σ9 n9 → Post σ9 (.inr n9))) : qMet g l M_X7_floats [vr a0, vi a1, vi a2] σ Post := by
  refine qMet_of hl (by decide +kernel) (Nat.le_of_ble_eq_true rfl) (List.forall_mem_cons.mpr ⟨trivial, List.forall_mem_cons.mpr ⟨trivial, List.forall_mem_cons.mpr ⟨trivial, fun _ h => nomatch h⟩⟩⟩) ?_
  show qW g l M_X7_floats 2 12 0 [some (vr a0), some (vi a1), some (vi a2), none] [] σ Post
  refine wp_aload_n dX7_floats_0 rfl ?_
  refine wp_iload_n dX7_floats_1 rfl ?_
  obtain ⟨hk2, h⟩ := h
  obtain ⟨Mid3, MidX4, hm1, hk5, hx6⟩ := h
  refine wp_callV (M' := M_X7_needBalloon) (As := [vi a1]) (st := []) (ci := 7) dX7_floats_2 cee_X7_needBalloon np_X7_needBalloon rfl ⟨Nat.le_of_ble_eq_true rfl, Nat.le_of_ble_eq_true rfl, Nat.le_of_ble_eq_true rfl, Nat.le_of_ble_eq_true rfl⟩ wd_683 wd_685 sel_X7_needBalloon rfl (Or.inl hk2) (q_small_of (Nat.le_of_ble_eq_true rfl)) hm1 (q_kTr (fun σ7 v9 hM8 => ?_)) (q_kXr rfl hx6)
  refine wp_less (ac2 := 1) (as2 := 6) (Nat.le_of_ble_eq_true rfl) (Nat.le_of_ble_eq_true rfl) ?_
  have h := hk5 σ7 v9 hM8
  refine wp_astore_n' (ls' := [some (vr a0), some (vi a1), some (vi a2), some (vr v9)]) dX7_floats_5 (Nat.le_of_ble_eq_true rfl) rfl ?_
  refine wp_iload_n dX7_floats_6 rfl ?_
  refine wp_iconst dX7_floats_7 ?_
  refine wp_iconst dX7_floats_8 ?_
  obtain ⟨Mid11, MidX12, hm10, hk13, hx14⟩ := h
  refine wp_callS (M' := M_X7_needWithin) (As := [vi a2, vi 0, vi 4]) (st := []) dX7_floats_9 cee_X7_needWithin np_X7_needWithin rfl ⟨Nat.le_of_ble_eq_true rfl, Nat.le_of_ble_eq_true rfl, Nat.le_of_ble_eq_true rfl, Nat.le_of_ble_eq_true rfl⟩ wd_319 wd_320 (q_small_of (Nat.le_of_ble_eq_true rfl)) hm10 (q_kTv (fun σ15 hM16 => ?_)) (q_kXv rfl hx14)
  refine wp_less (ac2 := 0) (as2 := 0) (Nat.le_of_ble_eq_true rfl) (Nat.le_of_ble_eq_true rfl) ?_
  have h := hk13 σ15 hM16
  refine wp_iload_n dX7_floats_12 rfl ?_
  obtain ⟨hr17, h⟩ := h
  refine wp_if_ne (tgt := 26) dX7_floats_13 (by decide) hr17 (fun c18 => ?_) (fun c18 => ?_)
  · replace h := h.1 c18
    refine wp_aload_n dX7_floats_26 rfl ?_
    obtain ⟨hk19, h⟩ := h
    refine wp_get (v := vr (gP σ15 2 v9)) dX7_floats_27 fl_RX7_231 hk19 rfl ?_
    refine wp_iload_n dX7_floats_30 rfl ?_
    obtain ⟨hk21, h⟩ := h
    obtain ⟨v22, hm20, h⟩ := h
    refine wp_callV (M' := M_X1_measure) (As := [vi a2]) (st := []) (ci := 1) dX7_floats_31 cee_X1_measure np_X1_measure rfl ⟨Nat.le_of_ble_eq_true rfl, Nat.le_of_ble_eq_true rfl, Nat.le_of_ble_eq_true rfl, Nat.le_of_ble_eq_true rfl⟩ wd_732 wd_733 wd_734 rfl (Or.inl hk21) (q_small_of (Nat.le_of_ble_eq_true rfl)) hm20 (q_kPi ?_) q_kPi0
    refine wp_less (ac2 := 0) (as2 := 0) (Nat.le_of_ble_eq_true rfl) (Nat.le_of_ble_eq_true rfl) ?_
    exact wp_ret_i dX7_floats_34 rfl rfl h
  · replace h := h.2 c18
    refine wp_aload_n dX7_floats_16 rfl ?_
    obtain ⟨hk23, h⟩ := h
    refine wp_get (v := vr (gP σ15 4 v9)) dX7_floats_17 fl_RX7_175 hk23 rfl ?_
    obtain ⟨hk24, h⟩ := h
    refine wp_get (v := vi (gI σ15 200 (gP σ15 4 v9))) dX7_floats_20 fl_RX7_98 hk24 rfl ?_
    refine wp_goto (tgt := 34) dX7_floats_23 (by decide) ?_
    exact wp_ret_i dX7_floats_34 rfl rfl h

set_option maxRecDepth 100000 in
set_option maxHeartbeats 4000000 in
theorem wm_X7_cell {g : qG} {l : Launch} (hl : l.stackTraces = false) {a0 : Nat} {a1 : Int} {a2 : Int} {a3 : Int} {σ : qS} {Post : qS → qRs → Prop}
    (h : gK σ a0 = 8 ∧ (∃ (Mid3 : qS → Nat → Prop) (MidX4 : qS → Nat → Prop), qMet g l M_X7_needPanel [vr a0, vi a1] σ (qTr Mid3 MidX4) ∧ (∀ (σ7 : qS) (v9 : Nat), Mid3 σ7 v9 → gK σ7 v9 = 6 ∧ gK σ7 (gP σ7 207 v9) = 2 ∧ (∃ (Mid13 : qS → Prop) (MidX14 : qS → Nat → Prop), qMet g l M_X7_needPlace [vi a2, vi ((gI σ7 42 (gP σ7 207 v9)) - 1)] σ7 (qTv Mid13 MidX14) ∧ (∀ (σ17 : qS), Mid13 σ17 → gK σ17 v9 = 6 ∧ gK σ17 (gP σ17 207 v9) = 2 ∧ (∃ (Mid22 : qS → Prop) (MidX23 : qS → Nat → Prop), qMet g l M_X7_needPlace [vi a3, vi ((gI σ17 43 (gP σ17 207 v9)) - 1)] σ17 (qTv Mid22 MidX23) ∧ (∀ (σ26 : qS), Mid22 σ26 → ∃ Inv29 : Nat → Int → Prop, (∃ n : Nat, Inv29 n 0) ∧ ∀ (n30 : Nat) (x28 : Int), Inv29 n30 x28 → (gK σ26 v9 = 6 ∧ gK σ26 (gP σ26 206 v9) = 50 ∧ (∃ v38 : Int, qMet g l M_Jx4a65c_size_8abf5 [vr (gP σ26 206 v9)] σ26 (qPi σ26 v38) ∧ (qR x28 ∧ qR v38 ∧ ((v38 ≤ x28 → (∃ v43 : Int, qMet g l M_X5_hasFaceAt [vr v9, vi a2, vi a3] σ26 (qPi σ26 v43) ∧ (((qR v43) ∧ ∀ v46 : Int, v46 = (if v43 = 0 then ((-1)) else ((-2))) → Post σ26 (.inl (some (vi v46))))))) ∧ (¬ (v38 ≤ x28) → (∃ v54 : Nat, qMet g l M_Jx4a65c_get_915e3 [vr (gP σ26 206 v9), vi x28] σ26 (qPr σ26 v54) ∧ ((v54 = 0 ∨ gK σ26 v54 = 1) ∧ gK σ26 v54 = 1 ∧ gK σ26 (gP σ26 2 v54) = 2 ∧ (∃ v59 : Int, qMet g l M_X1_holds [vr (gP σ26 2 v54), vi a2, vi a3] σ26 (qPi σ26 v59) ∧ (qR v59 ∧ ((v59 = 0 → ∀ x62 : Int, x62 = x28 + 1 → ∃ n64 : Nat, n64 < n30 ∧ Inv29 n64 x62) ∧ (¬ (v59 = 0) → (∃ v66 : Nat, qMet g l M_Jx4a65c_get_915e3 [vr (gP σ26 206 v9), vi x28] σ26 (qPr σ26 v66) ∧ ((v66 = 0 ∨ gK σ26 v66 = 1) ∧ gK σ26 v66 = 1 ∧ Post σ26 (.inl (some (vi (gI σ26 0 v66)))))))))))))))))) ∧ ∀ (σ9 : qS) (n9 : Nat), MidX23 σ9 n9 → Post σ9 (.inr n9))) ∧ ∀ (σ9 : qS) (n9 : Nat), MidX14 σ9 n9 → Post σ9 (.inr n9))) ∧ ∀ (σ9 : qS) (n9 : Nat), MidX4 σ9 n9 → Post σ9 (.inr n9))) : qMet g l M_X7_cell [vr a0, vi a1, vi a2, vi a3] σ Post := by
  refine qMet_of hl (by decide +kernel) (Nat.le_of_ble_eq_true rfl) (List.forall_mem_cons.mpr ⟨trivial, List.forall_mem_cons.mpr ⟨trivial, List.forall_mem_cons.mpr ⟨trivial, List.forall_mem_cons.mpr ⟨trivial, fun _ h => nomatch h⟩⟩⟩⟩) ?_
  show qW g l M_X7_cell 3 18 0 [some (vr a0), some (vi a1), some (vi a2), some (vi a3), none, none] [] σ Post
  refine wp_aload_n dX7_cell_0 rfl ?_
  refine wp_iload_n dX7_cell_1 rfl ?_
  obtain ⟨hk2, h⟩ := h
  obtain ⟨Mid3, MidX4, hm1, hk5, hx6⟩ := h
  refine wp_callV (M' := M_X7_needPanel) (As := [vi a1]) (st := []) (ci := 7) dX7_cell_2 cee_X7_needPanel np_X7_needPanel rfl ⟨Nat.le_of_ble_eq_true rfl, Nat.le_of_ble_eq_true rfl, Nat.le_of_ble_eq_true rfl, Nat.le_of_ble_eq_true rfl⟩ wd_547 wd_549 sel_X7_needPanel rfl (Or.inl hk2) (q_small_of (Nat.le_of_ble_eq_true rfl)) hm1 (q_kTr (fun σ7 v9 hM8 => ?_)) (q_kXr rfl hx6)
  refine wp_less (ac2 := 2) (as2 := 12) (Nat.le_of_ble_eq_true rfl) (Nat.le_of_ble_eq_true rfl) ?_
  have h := hk5 σ7 v9 hM8
  refine wp_astore' (ls' := [some (vr a0), some (vi a1), some (vi a2), some (vi a3), some (vr v9), none]) dX7_cell_5 (Nat.le_of_ble_eq_true rfl) rfl ?_
  refine wp_iload_n dX7_cell_7 rfl ?_
  refine wp_aload dX7_cell_8 rfl ?_
  obtain ⟨hk10, h⟩ := h
  refine wp_get (v := vr (gP σ7 207 v9)) dX7_cell_10 fl_RX7_150 hk10 rfl ?_
  obtain ⟨hk11, h⟩ := h
  refine wp_get (v := vi (gI σ7 42 (gP σ7 207 v9))) dX7_cell_13 fl_RX7_232 hk11 rfl ?_
  refine wp_iconst dX7_cell_16 ?_
  refine wp_isub dX7_cell_17 ?_
  obtain ⟨Mid13, MidX14, hm12, hk15, hx16⟩ := h
  refine wp_callS (M' := M_X7_needPlace) (As := [vi a2, vi ((gI σ7 42 (gP σ7 207 v9)) - 1)]) (st := []) dX7_cell_18 cee_X7_needPlace np_X7_needPlace rfl ⟨Nat.le_of_ble_eq_true rfl, Nat.le_of_ble_eq_true rfl, Nat.le_of_ble_eq_true rfl, Nat.le_of_ble_eq_true rfl⟩ wd_315 wd_316 (q_small_of (Nat.le_of_ble_eq_true rfl)) hm12 (q_kTv (fun σ17 hM18 => ?_)) (q_kXv rfl hx16)
  refine wp_less (ac2 := 1) (as2 := 6) (Nat.le_of_ble_eq_true rfl) (Nat.le_of_ble_eq_true rfl) ?_
  have h := hk15 σ17 hM18
  refine wp_iload_n dX7_cell_21 rfl ?_
  refine wp_aload dX7_cell_22 rfl ?_
  obtain ⟨hk19, h⟩ := h
  refine wp_get (v := vr (gP σ17 207 v9)) dX7_cell_24 fl_RX7_150 hk19 rfl ?_
  obtain ⟨hk20, h⟩ := h
  refine wp_get (v := vi (gI σ17 43 (gP σ17 207 v9))) dX7_cell_27 fl_RX7_154 hk20 rfl ?_
  refine wp_iconst dX7_cell_30 ?_
  refine wp_isub dX7_cell_31 ?_
  obtain ⟨Mid22, MidX23, hm21, hk24, hx25⟩ := h
  refine wp_callS (M' := M_X7_needPlace) (As := [vi a3, vi ((gI σ17 43 (gP σ17 207 v9)) - 1)]) (st := []) dX7_cell_32 cee_X7_needPlace np_X7_needPlace rfl ⟨Nat.le_of_ble_eq_true rfl, Nat.le_of_ble_eq_true rfl, Nat.le_of_ble_eq_true rfl, Nat.le_of_ble_eq_true rfl⟩ wd_315 wd_316 (q_small_of (Nat.le_of_ble_eq_true rfl)) hm21 (q_kTv (fun σ26 hM27 => ?_)) (q_kXv rfl hx25)
  refine wp_less (ac2 := 0) (as2 := 0) (Nat.le_of_ble_eq_true rfl) (Nat.le_of_ble_eq_true rfl) ?_
  have h := hk24 σ26 hM27
  refine wp_iconst dX7_cell_35 ?_
  refine wp_istore' (ls' := [some (vr a0), some (vi a1), some (vi a2), some (vi a3), some (vr v9), some (vi 0)]) dX7_cell_36 (Nat.le_of_ble_eq_true rfl) rfl ?_
  obtain ⟨Inv29, ⟨n30_0, h034⟩, hb33⟩ := h
  have loop69 : ∀ (n30 : Nat) (x28 : Int), Inv29 n30 x28 → qW g l M_X7_cell 0 0 38 [some (vr a0), some (vi a1), some (vi a2), some (vi a3), some (vr v9), some (vi x28)] [] σ26 Post := by
    intro n30
    induction n30 using Nat.strongRecOn with
    | ind n30 ih31 =>
      intro x28 hI32
      have h := hb33 n30 x28 hI32
      refine wp_iload dX7_cell_38 rfl ?_
      refine wp_aload dX7_cell_40 rfl ?_
      obtain ⟨hk35, h⟩ := h
      refine wp_get (v := vr (gP σ26 206 v9)) dX7_cell_42 fl_RX7_137 hk35 rfl ?_
      obtain ⟨hk37, h⟩ := h
      obtain ⟨v38, hm36, h⟩ := h
      refine wp_callV (M' := M_Jx4a65c_size_8abf5) (As := []) (st := [vi x28]) (ci := 9) dX7_cell_45 cee_Jx4a65c_size_8abf5 np_Jx4a65c_size_8abf5 rfl ⟨Nat.le_of_ble_eq_true rfl, Nat.le_of_ble_eq_true rfl, Nat.le_of_ble_eq_true rfl, Nat.le_of_ble_eq_true rfl⟩ wd_112 wd_113 wd_114 rfl (Or.inr ⟨hk37, rfl⟩) (q_small_of (Nat.le_of_ble_eq_true rfl)) hm36 (q_kPi ?_) q_kPi0
      refine wp_less (ac2 := 0) (as2 := 0) (Nat.le_of_ble_eq_true rfl) (Nat.le_of_ble_eq_true rfl) ?_
      obtain ⟨hr39, hr40, h⟩ := h
      refine wp_icmp_ge (tgt := 98) dX7_cell_48 (by decide) hr39 hr40 (fun c41 => ?_) (fun c41 => ?_)
      · replace h := h.1 c41
        refine wp_aload dX7_cell_98 rfl ?_
        refine wp_iload_n dX7_cell_100 rfl ?_
        refine wp_iload_n dX7_cell_101 rfl ?_
        obtain ⟨v43, hm42, h⟩ := h
        refine wp_callV (M' := M_X5_hasFaceAt) (As := [vi a2, vi a3]) (st := []) (ci := 5) dX7_cell_102 cee_X5_hasFaceAt np_X5_hasFaceAt rfl ⟨Nat.le_of_ble_eq_true rfl, Nat.le_of_ble_eq_true rfl, Nat.le_of_ble_eq_true rfl, Nat.le_of_ble_eq_true rfl⟩ wd_816 wd_817 wd_818 rfl (Or.inl hk35) (q_small_of (Nat.le_of_ble_eq_true rfl)) hm42 (q_kPi ?_) q_kPi0
        refine wp_less (ac2 := 0) (as2 := 0) (Nat.le_of_ble_eq_true rfl) (Nat.le_of_ble_eq_true rfl) ?_
        obtain ⟨h, hk49⟩ := h
        have key48 : ∀ v46 : Int, v46 = (if v43 = 0 then ((-1)) else ((-2))) → qW g l M_X7_cell 0 0 114 [some (vr a0), some (vi a1), some (vi a2), some (vi a3), some (vr v9), some (vi x28)] [vi v46] σ26 Post := by
          intro v46 hv47
          have h := hk49 v46 hv47
          have hr50 : qR v46 := by (rw [hv47]; unfold qR; repeat' split) <;> omega
          exact wp_ret_i dX7_cell_114 rfl rfl h
        have hr51 := h
        refine wp_if_eq (tgt := 113) dX7_cell_105 (by decide) hr51 (fun c52 => ?_) (fun c52 => ?_)
        · refine wp_iconst dX7_cell_113 ?_
          exact key48 _ (by rw [if_pos c52])
        · refine wp_bipush dX7_cell_108 (by decide) ?_
          refine wp_goto (tgt := 114) dX7_cell_110 (by decide) ?_
          exact key48 _ (by rw [if_neg c52])
      · replace h := h.2 c41
        refine wp_aload dX7_cell_51 rfl ?_
        refine wp_get (v := vr (gP σ26 206 v9)) dX7_cell_53 fl_RX7_137 hk35 rfl ?_
        refine wp_iload dX7_cell_56 rfl ?_
        obtain ⟨v54, hm53, h⟩ := h
        refine wp_callV (M' := M_Jx4a65c_get_915e3) (As := [vi x28]) (st := []) (ci := 9) dX7_cell_58 cee_Jx4a65c_get_915e3 np_Jx4a65c_get_915e3 rfl ⟨Nat.le_of_ble_eq_true rfl, Nat.le_of_ble_eq_true rfl, Nat.le_of_ble_eq_true rfl, Nat.le_of_ble_eq_true rfl⟩ wd_301 wd_302 wd_303 rfl (Or.inr ⟨hk37, rfl⟩) (q_small_of (Nat.le_of_ble_eq_true rfl)) hm53 (q_kPr ?_) q_kPr0
        refine wp_less (ac2 := 0) (as2 := 0) (Nat.le_of_ble_eq_true rfl) (Nat.le_of_ble_eq_true rfl) ?_
        obtain ⟨hc55, h⟩ := h
        refine wp_cast (ci := 0) dX7_cell_61 ⟨_, rfl, wd_560⟩ hc55 ?_
        obtain ⟨hk56, h⟩ := h
        refine wp_get (v := vr (gP σ26 2 v54)) dX7_cell_64 fl_RX7_231 hk56 rfl ?_
        refine wp_iload_n dX7_cell_67 rfl ?_
        refine wp_iload_n dX7_cell_68 rfl ?_
        obtain ⟨hk58, h⟩ := h
        obtain ⟨v59, hm57, h⟩ := h
        refine wp_callV (M' := M_X1_holds) (As := [vi a2, vi a3]) (st := []) (ci := 1) dX7_cell_69 cee_X1_holds np_X1_holds rfl ⟨Nat.le_of_ble_eq_true rfl, Nat.le_of_ble_eq_true rfl, Nat.le_of_ble_eq_true rfl, Nat.le_of_ble_eq_true rfl⟩ wd_812 wd_813 wd_814 rfl (Or.inl hk58) (q_small_of (Nat.le_of_ble_eq_true rfl)) hm57 (q_kPi ?_) q_kPi0
        refine wp_less (ac2 := 0) (as2 := 0) (Nat.le_of_ble_eq_true rfl) (Nat.le_of_ble_eq_true rfl) ?_
        obtain ⟨hr60, h⟩ := h
        refine wp_if_eq (tgt := 92) dX7_cell_72 (by decide) hr60 (fun c61 => ?_) (fun c61 => ?_)
        · replace h := h.1 c61
          refine wp_nmT (x28 + 1) (fun x62 hx63 => ?_)
          replace h := h x62 hx63
          refine wp_iinc' (z' := x62) (ls' := [some (vr a0), some (vi a1), some (vi a2), some (vi a3), some (vr v9), some (vi x62)]) dX7_cell_92 (Nat.le_of_ble_eq_true rfl) rfl hx63 rfl ?_
          refine wp_goto (tgt := 38) dX7_cell_95 (by decide) ?_
          obtain ⟨n64, hlt, h⟩ := h
          exact wp_lsub (ls' := [some (vr a0), some (vi a1), some (vi a2), some (vi a3), some (vr v9), some (vi x62)]) ⟨rfl, ⟨rfl, ⟨rfl, ⟨rfl, ⟨rfl, ⟨rfl, trivial⟩⟩⟩⟩⟩⟩ (ih31 n64 hlt _ h)
        · replace h := h.2 c61
          refine wp_aload dX7_cell_75 rfl ?_
          refine wp_get (v := vr (gP σ26 206 v9)) dX7_cell_77 fl_RX7_137 hk35 rfl ?_
          refine wp_iload dX7_cell_80 rfl ?_
          obtain ⟨v66, hm65, h⟩ := h
          refine wp_callV (M' := M_Jx4a65c_get_915e3) (As := [vi x28]) (st := []) (ci := 9) dX7_cell_82 cee_Jx4a65c_get_915e3 np_Jx4a65c_get_915e3 rfl ⟨Nat.le_of_ble_eq_true rfl, Nat.le_of_ble_eq_true rfl, Nat.le_of_ble_eq_true rfl, Nat.le_of_ble_eq_true rfl⟩ wd_301 wd_302 wd_303 rfl (Or.inr ⟨hk37, rfl⟩) (q_small_of (Nat.le_of_ble_eq_true rfl)) hm65 (q_kPr ?_) q_kPr0
          refine wp_less (ac2 := 0) (as2 := 0) (Nat.le_of_ble_eq_true rfl) (Nat.le_of_ble_eq_true rfl) ?_
          obtain ⟨hc67, h⟩ := h
          refine wp_cast (ci := 0) dX7_cell_85 ⟨_, rfl, wd_560⟩ hc67 ?_
          obtain ⟨hk68, h⟩ := h
          refine wp_get (v := vi (gI σ26 0 v66)) dX7_cell_88 fl_RX7_170 hk68 rfl ?_
          exact wp_ret_i dX7_cell_91 rfl rfl h
  exact wp_lsub (ls' := [some (vr a0), some (vi a1), some (vi a2), some (vi a3), some (vr v9), some (vi 0)]) ⟨rfl, ⟨rfl, ⟨rfl, ⟨rfl, ⟨rfl, ⟨rfl, trivial⟩⟩⟩⟩⟩⟩ (loop69 _ _ h034)

set_option maxRecDepth 100000 in
set_option maxHeartbeats 4000000 in
theorem wm_X7_balloons {g : qG} {l : Launch} (hl : l.stackTraces = false) {a0 : Nat} {σ : qS} {Post : qS → qRs → Prop}
    (h : ∃ Inv3 : Nat → Int → Int → Prop, (∃ n : Nat, Inv3 n 0 0) ∧ ∀ (n4 : Nat) (x1 : Int) (x2 : Int), Inv3 n4 x1 x2 → (gK σ a0 = 8 ∧ gK σ (gP σ 282 a0) = 50 ∧ (∃ v12 : Int, qMet g l M_Jx4a65c_size_8abf5 [vr (gP σ 282 a0)] σ (qPi σ v12) ∧ (qR x2 ∧ qR v12 ∧ ((v12 ≤ x2 → Post σ (.inl (some (vi x1)))) ∧ (¬ (v12 ≤ x2) → (∃ v17 : Nat, qMet g l M_Jx4a65c_get_915e3 [vr (gP σ 282 a0), vi x2] σ (qPr σ v17) ∧ ((v17 = 0 ∨ gK σ v17 = 1) ∧ gK σ v17 = 1 ∧ qR (gI σ 6 v17) ∧ ((¬ (gI σ 6 v17) = 0 → ∀ x22 : Int, x22 = x2 + 1 → ∃ n24 : Nat, n24 < n4 ∧ Inv3 n24 x1 x22) ∧ ((gI σ 6 v17) = 0 → ∀ x25 : Int, x25 = x1 + 1 → ∀ x27 : Int, x27 = x2 + 1 → ∃ n29 : Nat, n29 < n4 ∧ Inv3 n29 x25 x27)))))))))) : qMet g l M_X7_balloons [vr a0] σ Post := by
  refine qMet_of hl (by decide +kernel) (Nat.le_of_ble_eq_true rfl) (List.forall_mem_cons.mpr ⟨trivial, fun _ h => nomatch h⟩) ?_
  show qW g l M_X7_balloons 0 0 0 [some (vr a0), none, none] [] σ Post
  refine wp_iconst dX7_balloons_0 ?_
  refine wp_istore_n' (ls' := [some (vr a0), some (vi 0), none]) dX7_balloons_1 (Nat.le_of_ble_eq_true rfl) rfl ?_
  refine wp_iconst dX7_balloons_2 ?_
  refine wp_istore_n' (ls' := [some (vr a0), some (vi 0), some (vi 0)]) dX7_balloons_3 (Nat.le_of_ble_eq_true rfl) rfl ?_
  obtain ⟨Inv3, ⟨n4_0, h08⟩, hb7⟩ := h
  have loop30 : ∀ (n4 : Nat) (x1 : Int) (x2 : Int), Inv3 n4 x1 x2 → qW g l M_X7_balloons 0 0 4 [some (vr a0), some (vi x1), some (vi x2)] [] σ Post := by
    intro n4
    induction n4 using Nat.strongRecOn with
    | ind n4 ih5 =>
      intro x1 x2 hI6
      have h := hb7 n4 x1 x2 hI6
      refine wp_iload_n dX7_balloons_4 rfl ?_
      refine wp_aload_n dX7_balloons_5 rfl ?_
      obtain ⟨hk9, h⟩ := h
      refine wp_get (v := vr (gP σ 282 a0)) dX7_balloons_6 fl_RX7_19 hk9 rfl ?_
      obtain ⟨hk11, h⟩ := h
      obtain ⟨v12, hm10, h⟩ := h
      refine wp_callV (M' := M_Jx4a65c_size_8abf5) (As := []) (st := [vi x2]) (ci := 9) dX7_balloons_9 cee_Jx4a65c_size_8abf5 np_Jx4a65c_size_8abf5 rfl ⟨Nat.le_of_ble_eq_true rfl, Nat.le_of_ble_eq_true rfl, Nat.le_of_ble_eq_true rfl, Nat.le_of_ble_eq_true rfl⟩ wd_112 wd_113 wd_114 rfl (Or.inr ⟨hk11, rfl⟩) (q_small_of (Nat.le_of_ble_eq_true rfl)) hm10 (q_kPi ?_) q_kPi0
      refine wp_less (ac2 := 0) (as2 := 0) (Nat.le_of_ble_eq_true rfl) (Nat.le_of_ble_eq_true rfl) ?_
      obtain ⟨hr13, hr14, h⟩ := h
      refine wp_icmp_ge (tgt := 41) dX7_balloons_12 (by decide) hr13 hr14 (fun c15 => ?_) (fun c15 => ?_)
      · replace h := h.1 c15
        refine wp_iload_n dX7_balloons_41 rfl ?_
        exact wp_ret_i dX7_balloons_42 rfl rfl h
      · replace h := h.2 c15
        refine wp_aload_n dX7_balloons_15 rfl ?_
        refine wp_get (v := vr (gP σ 282 a0)) dX7_balloons_16 fl_RX7_19 hk9 rfl ?_
        refine wp_iload_n dX7_balloons_19 rfl ?_
        obtain ⟨v17, hm16, h⟩ := h
        refine wp_callV (M' := M_Jx4a65c_get_915e3) (As := [vi x2]) (st := []) (ci := 9) dX7_balloons_20 cee_Jx4a65c_get_915e3 np_Jx4a65c_get_915e3 rfl ⟨Nat.le_of_ble_eq_true rfl, Nat.le_of_ble_eq_true rfl, Nat.le_of_ble_eq_true rfl, Nat.le_of_ble_eq_true rfl⟩ wd_301 wd_302 wd_303 rfl (Or.inr ⟨hk11, rfl⟩) (q_small_of (Nat.le_of_ble_eq_true rfl)) hm16 (q_kPr ?_) q_kPr0
        refine wp_less (ac2 := 0) (as2 := 0) (Nat.le_of_ble_eq_true rfl) (Nat.le_of_ble_eq_true rfl) ?_
        obtain ⟨hc18, h⟩ := h
        refine wp_cast (ci := 0) dX7_balloons_23 ⟨_, rfl, wd_560⟩ hc18 ?_
        obtain ⟨hk19, h⟩ := h
        refine wp_get (v := vi (gI σ 6 v17)) dX7_balloons_26 fl_RX7_195 hk19 rfl ?_
        obtain ⟨hr20, h⟩ := h
        refine wp_if_ne (tgt := 35) dX7_balloons_29 (by decide) hr20 (fun c21 => ?_) (fun c21 => ?_)
        · replace h := h.1 c21
          refine wp_nmT (x2 + 1) (fun x22 hx23 => ?_)
          replace h := h x22 hx23
          refine wp_iinc' (z' := x22) (ls' := [some (vr a0), some (vi x1), some (vi x22)]) dX7_balloons_35 (Nat.le_of_ble_eq_true rfl) rfl hx23 rfl ?_
          refine wp_goto (tgt := 4) dX7_balloons_38 (by decide) ?_
          obtain ⟨n24, hlt, h⟩ := h
          exact wp_lsub (ls' := [some (vr a0), some (vi x1), some (vi x22)]) ⟨rfl, ⟨rfl, ⟨rfl, trivial⟩⟩⟩ (ih5 n24 hlt _ _ h)
        · replace h := h.2 c21
          refine wp_nmT (x1 + 1) (fun x25 hx26 => ?_)
          replace h := h x25 hx26
          refine wp_iinc' (z' := x25) (ls' := [some (vr a0), some (vi x25), some (vi x2)]) dX7_balloons_32 (Nat.le_of_ble_eq_true rfl) rfl hx26 rfl ?_
          refine wp_nmT (x2 + 1) (fun x27 hx28 => ?_)
          replace h := h x27 hx28
          refine wp_iinc' (z' := x27) (ls' := [some (vr a0), some (vi x25), some (vi x27)]) dX7_balloons_35 (Nat.le_of_ble_eq_true rfl) rfl hx28 rfl ?_
          refine wp_goto (tgt := 4) dX7_balloons_38 (by decide) ?_
          obtain ⟨n29, hlt, h⟩ := h
          exact wp_lsub (ls' := [some (vr a0), some (vi x25), some (vi x27)]) ⟨rfl, ⟨rfl, ⟨rfl, trivial⟩⟩⟩ (ih5 n29 hlt _ _ h)
  exact wp_lsub (ls' := [some (vr a0), some (vi 0), some (vi 0)]) ⟨rfl, ⟨rfl, ⟨rfl, trivial⟩⟩⟩ (loop30 _ _ _ h08)

set_option maxRecDepth 100000 in
set_option maxHeartbeats 4000000 in
theorem wm_X7_read {g : qG} {l : Launch} (hl : l.stackTraces = false) {a0 : Nat} {a1 : Int} {σ : qS} {Post : qS → qRs → Prop}
    (h : qR a1 ∧ ((0 ≤ a1 → gK σ a0 = 8 ∧ (∃ v5 : Nat, qMet g l M_X7_balloonReadAt [vr a0, vi a1] σ (qPr σ v5) ∧ (((¬ v5 = 0 → gK σ v5 = 1 ∧ Post σ (.inl (some (vi (gI σ 0 v5))))) ∧ (v5 = 0 → Post σ (.inr 2)))))) ∧ (¬ (0 ≤ a1) → Post σ (.inr 2)))) : qMet g l M_X7_read [vr a0, vi a1] σ Post := by
  refine qMet_of hl (by decide +kernel) (Nat.le_of_ble_eq_true rfl) (List.forall_mem_cons.mpr ⟨trivial, List.forall_mem_cons.mpr ⟨trivial, fun _ h => nomatch h⟩⟩) ?_
  show qW g l M_X7_read 1 6 0 [some (vr a0), some (vi a1), none] [] σ Post
  refine wp_iload_n dX7_read_0 rfl ?_
  obtain ⟨hr1, h⟩ := h
  refine wp_if_ge (tgt := 8) dX7_read_1 (by decide) hr1 (fun c2 => ?_) (fun c2 => ?_)
  · replace h := h.1 c2
    refine wp_aload_n dX7_read_8 rfl ?_
    refine wp_iload_n dX7_read_9 rfl ?_
    obtain ⟨hk4, h⟩ := h
    obtain ⟨v5, hm3, h⟩ := h
    refine wp_callV (M' := M_X7_balloonReadAt) (As := [vi a1]) (st := []) (ci := 7) dX7_read_10 cee_X7_balloonReadAt np_X7_balloonReadAt rfl ⟨Nat.le_of_ble_eq_true rfl, Nat.le_of_ble_eq_true rfl, Nat.le_of_ble_eq_true rfl, Nat.le_of_ble_eq_true rfl⟩ wd_838 wd_840 sel_X7_balloonReadAt rfl (Or.inl hk4) (q_small_of (Nat.le_of_ble_eq_true rfl)) hm3 (q_kPr ?_) q_kPr0
    refine wp_less (ac2 := 1) (as2 := 6) (Nat.le_of_ble_eq_true rfl) (Nat.le_of_ble_eq_true rfl) ?_
    refine wp_astore_n' (ls' := [some (vr a0), some (vi a1), some (vr v5)]) dX7_read_13 (Nat.le_of_ble_eq_true rfl) rfl ?_
    refine wp_aload_n dX7_read_14 rfl ?_
    refine wp_ifnonnull (tgt := 28) dX7_read_15 (by decide) (fun c6 => ?_) (fun c6 => ?_)
    · replace h := h.1 c6
      refine wp_aload_n dX7_read_28 rfl ?_
      obtain ⟨hk7, h⟩ := h
      refine wp_get (v := vi (gI σ 0 v5)) dX7_read_29 fl_RX7_170 hk7 rfl ?_
      exact wp_ret_i dX7_read_32 rfl rfl h
    · replace h := h.2 c6
      exact wp_throw (n := 2) (text := "no such place") (by decide) rfl rfl (by decide +kernel) dX7_read_18 dX7_read_21 dX7_read_22 dX7_read_24 dX7_read_27 (q_small_of (Nat.le_of_ble_eq_true rfl)) ⟨Nat.le_of_ble_eq_true rfl, Nat.le_of_ble_eq_true rfl⟩ (Nat.le_of_ble_eq_true rfl) (Nat.le_of_ble_eq_true rfl) h
  · replace h := h.2 c2
    refine wp_null dX7_read_4 ?_
    refine wp_goto (tgt := 13) dX7_read_5 (by decide) ?_
    refine wp_astore_n' (ls' := [some (vr a0), some (vi a1), some (vr 0)]) dX7_read_13 (Nat.le_of_ble_eq_true rfl) rfl ?_
    refine wp_aload_n dX7_read_14 rfl ?_
    refine wp_ifnonnull (tgt := 28) dX7_read_15 (by decide) (fun c9 => absurd rfl c9) (fun _ => ?_)
    exact wp_throw (n := 2) (text := "no such place") (by decide) rfl rfl (by decide +kernel) dX7_read_18 dX7_read_21 dX7_read_22 dX7_read_24 dX7_read_27 (q_small_of (Nat.le_of_ble_eq_true rfl)) ⟨Nat.le_of_ble_eq_true rfl, Nat.le_of_ble_eq_true rfl⟩ (Nat.le_of_ble_eq_true rfl) (Nat.le_of_ble_eq_true rfl) h

set_option maxRecDepth 100000 in
set_option maxHeartbeats 4000000 in
theorem wm_X7_placeOf {g : qG} {l : Launch} (hl : l.stackTraces = false) {a0 : Nat} {a1 : Int} {σ : qS} {Post : qS → qRs → Prop}
    (h : gK σ a0 = 8 ∧ (∃ (Mid3 : qS → Nat → Prop) (MidX4 : qS → Nat → Prop), qMet g l M_X7_needBalloon [vr a0, vi a1] σ (qTr Mid3 MidX4) ∧ (∀ (σ7 : qS) (v9 : Nat), Mid3 σ7 v9 → gK σ7 a0 = 8 ∧ (∃ v12 : Int, qMet g l M_X7_countReadBefore [vr a0, vr v9] σ7 (qPi σ7 v12) ∧ (Post σ7 (.inl (some (vi v12)))))) ∧ ∀ (σ9 : qS) (n9 : Nat), MidX4 σ9 n9 → Post σ9 (.inr n9))) : qMet g l M_X7_placeOf [vr a0, vi a1] σ Post := by
  refine qMet_of hl (by decide +kernel) (Nat.le_of_ble_eq_true rfl) (List.forall_mem_cons.mpr ⟨trivial, List.forall_mem_cons.mpr ⟨trivial, fun _ h => nomatch h⟩⟩) ?_
  show qW g l M_X7_placeOf 1 6 0 [some (vr a0), some (vi a1)] [] σ Post
  refine wp_aload_n dX7_placeOf_0 rfl ?_
  refine wp_aload_n dX7_placeOf_1 rfl ?_
  refine wp_iload_n dX7_placeOf_2 rfl ?_
  obtain ⟨hk2, h⟩ := h
  obtain ⟨Mid3, MidX4, hm1, hk5, hx6⟩ := h
  refine wp_callV (M' := M_X7_needBalloon) (As := [vi a1]) (st := [vr a0]) (ci := 7) dX7_placeOf_3 cee_X7_needBalloon np_X7_needBalloon rfl ⟨Nat.le_of_ble_eq_true rfl, Nat.le_of_ble_eq_true rfl, Nat.le_of_ble_eq_true rfl, Nat.le_of_ble_eq_true rfl⟩ wd_683 wd_685 sel_X7_needBalloon rfl (Or.inl hk2) (q_small_of (Nat.le_of_ble_eq_true rfl)) hm1 (q_kTr (fun σ7 v9 hM8 => ?_)) (q_kXr rfl hx6)
  refine wp_less (ac2 := 0) (as2 := 0) (Nat.le_of_ble_eq_true rfl) (Nat.le_of_ble_eq_true rfl) ?_
  have h := hk5 σ7 v9 hM8
  obtain ⟨hk11, h⟩ := h
  obtain ⟨v12, hm10, h⟩ := h
  refine wp_callV (M' := M_X7_countReadBefore) (As := [vr v9]) (st := []) (ci := 7) dX7_placeOf_6 cee_X7_countReadBefore np_X7_countReadBefore rfl ⟨Nat.le_of_ble_eq_true rfl, Nat.le_of_ble_eq_true rfl, Nat.le_of_ble_eq_true rfl, Nat.le_of_ble_eq_true rfl⟩ wd_744 wd_746 sel_X7_countReadBefore rfl (Or.inl hk11) (q_small_of (Nat.le_of_ble_eq_true rfl)) hm10 (q_kPi ?_) q_kPi0
  refine wp_less (ac2 := 0) (as2 := 0) (Nat.le_of_ble_eq_true rfl) (Nat.le_of_ble_eq_true rfl) ?_
  exact wp_ret_i dX7_placeOf_9 rfl rfl h

set_option maxRecDepth 100000 in
set_option maxHeartbeats 4000000 in
theorem wm_X7_placeByPairs {g : qG} {l : Launch} (hl : l.stackTraces = false) {a0 : Nat} {a1 : Int} {σ : qS} {Post : qS → qRs → Prop}
    (h : gK σ a0 = 8 ∧ (∃ (Mid3 : qS → Nat → Prop) (MidX4 : qS → Nat → Prop), qMet g l M_X7_needBalloon [vr a0, vi a1] σ (qTr Mid3 MidX4) ∧ (∀ (σ7 : qS) (v9 : Nat), Mid3 σ7 v9 → ∃ Inv12 : Nat → Int → Int → Prop, (∃ n : Nat, Inv12 n 0 0) ∧ ∀ (n13 : Nat) (x10 : Int) (x11 : Int), Inv12 n13 x10 x11 → (gK σ7 a0 = 8 ∧ gK σ7 (gP σ7 282 a0) = 50 ∧ (∃ v21 : Int, qMet g l M_Jx4a65c_size_8abf5 [vr (gP σ7 282 a0)] σ7 (qPi σ7 v21) ∧ (qR x11 ∧ qR v21 ∧ ((v21 ≤ x11 → Post σ7 (.inl (some (vi x10)))) ∧ (¬ (v21 ≤ x11) → (∃ v26 : Nat, qMet g l M_Jx4a65c_get_915e3 [vr (gP σ7 282 a0), vi x11] σ7 (qPr σ7 v26) ∧ ((v26 = 0 ∨ gK σ7 v26 = 1) ∧ gK σ7 v26 = 1 ∧ qR (gI σ7 6 v26) ∧ ((¬ (gI σ7 6 v26) = 0 → ∀ x31 : Int, x31 = x11 + 1 → ∃ n33 : Nat, n33 < n13 ∧ Inv12 n33 x10 x31) ∧ ((gI σ7 6 v26) = 0 → (∃ v35 : Int, qMet g l M_X0_liesBefore [vr v26, vr v9] σ7 (qPi σ7 v35) ∧ (qR v35 ∧ ((v35 = 0 → ∀ x38 : Int, x38 = x11 + 1 → ∃ n40 : Nat, n40 < n13 ∧ Inv12 n40 x10 x38) ∧ (¬ (v35 = 0) → ∀ x41 : Int, x41 = x10 + 1 → ∀ x43 : Int, x43 = x11 + 1 → ∃ n45 : Nat, n45 < n13 ∧ Inv12 n45 x41 x43)))))))))))))) ∧ ∀ (σ9 : qS) (n9 : Nat), MidX4 σ9 n9 → Post σ9 (.inr n9))) : qMet g l M_X7_placeByPairs [vr a0, vi a1] σ Post := by
  refine qMet_of hl (by decide +kernel) (Nat.le_of_ble_eq_true rfl) (List.forall_mem_cons.mpr ⟨trivial, List.forall_mem_cons.mpr ⟨trivial, fun _ h => nomatch h⟩⟩) ?_
  show qW g l M_X7_placeByPairs 1 6 0 [some (vr a0), some (vi a1), none, none, none, none] [] σ Post
  refine wp_aload_n dX7_placeByPairs_0 rfl ?_
  refine wp_iload_n dX7_placeByPairs_1 rfl ?_
  obtain ⟨hk2, h⟩ := h
  obtain ⟨Mid3, MidX4, hm1, hk5, hx6⟩ := h
  refine wp_callV (M' := M_X7_needBalloon) (As := [vi a1]) (st := []) (ci := 7) dX7_placeByPairs_2 cee_X7_needBalloon np_X7_needBalloon rfl ⟨Nat.le_of_ble_eq_true rfl, Nat.le_of_ble_eq_true rfl, Nat.le_of_ble_eq_true rfl, Nat.le_of_ble_eq_true rfl⟩ wd_683 wd_685 sel_X7_needBalloon rfl (Or.inl hk2) (q_small_of (Nat.le_of_ble_eq_true rfl)) hm1 (q_kTr (fun σ7 v9 hM8 => ?_)) (q_kXr rfl hx6)
  refine wp_less (ac2 := 0) (as2 := 0) (Nat.le_of_ble_eq_true rfl) (Nat.le_of_ble_eq_true rfl) ?_
  have h := hk5 σ7 v9 hM8
  refine wp_astore_n' (ls' := [some (vr a0), some (vi a1), some (vr v9), none, none, none]) dX7_placeByPairs_5 (Nat.le_of_ble_eq_true rfl) rfl ?_
  refine wp_iconst dX7_placeByPairs_6 ?_
  refine wp_istore_n' (ls' := [some (vr a0), some (vi a1), some (vr v9), some (vi 0), none, none]) dX7_placeByPairs_7 (Nat.le_of_ble_eq_true rfl) rfl ?_
  refine wp_iconst dX7_placeByPairs_8 ?_
  refine wp_istore' (ls' := [some (vr a0), some (vi a1), some (vr v9), some (vi 0), some (vi 0), none]) dX7_placeByPairs_9 (Nat.le_of_ble_eq_true rfl) rfl ?_
  obtain ⟨Inv12, ⟨n13_0, h017⟩, hb16⟩ := h
  have loop46 : ∀ (n13 : Nat) (x10 : Int) (x11 : Int), Inv12 n13 x10 x11 → qW g l M_X7_placeByPairs 0 0 11 [some (vr a0), some (vi a1), some (vr v9), some (vi x10), some (vi x11), none] [] σ7 Post := by
    intro n13
    induction n13 using Nat.strongRecOn with
    | ind n13 ih14 =>
      intro x10 x11 hI15
      have h := hb16 n13 x10 x11 hI15
      refine wp_iload dX7_placeByPairs_11 rfl ?_
      refine wp_aload_n dX7_placeByPairs_13 rfl ?_
      obtain ⟨hk18, h⟩ := h
      refine wp_get (v := vr (gP σ7 282 a0)) dX7_placeByPairs_14 fl_RX7_19 hk18 rfl ?_
      obtain ⟨hk20, h⟩ := h
      obtain ⟨v21, hm19, h⟩ := h
      refine wp_callV (M' := M_Jx4a65c_size_8abf5) (As := []) (st := [vi x11]) (ci := 9) dX7_placeByPairs_17 cee_Jx4a65c_size_8abf5 np_Jx4a65c_size_8abf5 rfl ⟨Nat.le_of_ble_eq_true rfl, Nat.le_of_ble_eq_true rfl, Nat.le_of_ble_eq_true rfl, Nat.le_of_ble_eq_true rfl⟩ wd_112 wd_113 wd_114 rfl (Or.inr ⟨hk20, rfl⟩) (q_small_of (Nat.le_of_ble_eq_true rfl)) hm19 (q_kPi ?_) q_kPi0
      refine wp_less (ac2 := 0) (as2 := 0) (Nat.le_of_ble_eq_true rfl) (Nat.le_of_ble_eq_true rfl) ?_
      obtain ⟨hr22, hr23, h⟩ := h
      refine wp_icmp_ge (tgt := 63) dX7_placeByPairs_20 (by decide) hr22 hr23 (fun c24 => ?_) (fun c24 => ?_)
      · replace h := h.1 c24
        refine wp_iload_n dX7_placeByPairs_63 rfl ?_
        exact wp_ret_i dX7_placeByPairs_64 rfl rfl h
      · replace h := h.2 c24
        refine wp_aload_n dX7_placeByPairs_23 rfl ?_
        refine wp_get (v := vr (gP σ7 282 a0)) dX7_placeByPairs_24 fl_RX7_19 hk18 rfl ?_
        refine wp_iload dX7_placeByPairs_27 rfl ?_
        obtain ⟨v26, hm25, h⟩ := h
        refine wp_callV (M' := M_Jx4a65c_get_915e3) (As := [vi x11]) (st := []) (ci := 9) dX7_placeByPairs_29 cee_Jx4a65c_get_915e3 np_Jx4a65c_get_915e3 rfl ⟨Nat.le_of_ble_eq_true rfl, Nat.le_of_ble_eq_true rfl, Nat.le_of_ble_eq_true rfl, Nat.le_of_ble_eq_true rfl⟩ wd_301 wd_302 wd_303 rfl (Or.inr ⟨hk20, rfl⟩) (q_small_of (Nat.le_of_ble_eq_true rfl)) hm25 (q_kPr ?_) q_kPr0
        refine wp_less (ac2 := 0) (as2 := 0) (Nat.le_of_ble_eq_true rfl) (Nat.le_of_ble_eq_true rfl) ?_
        obtain ⟨hc27, h⟩ := h
        refine wp_cast (ci := 0) dX7_placeByPairs_32 ⟨_, rfl, wd_560⟩ hc27 ?_
        refine wp_astore' (ls' := [some (vr a0), some (vi a1), some (vr v9), some (vi x10), some (vi x11), some (vr v26)]) dX7_placeByPairs_35 (Nat.le_of_ble_eq_true rfl) rfl ?_
        refine wp_aload dX7_placeByPairs_37 rfl ?_
        obtain ⟨hk28, h⟩ := h
        refine wp_get (v := vi (gI σ7 6 v26)) dX7_placeByPairs_39 fl_RX7_195 hk28 rfl ?_
        obtain ⟨hr29, h⟩ := h
        refine wp_if_ne (tgt := 57) dX7_placeByPairs_42 (by decide) hr29 (fun c30 => ?_) (fun c30 => ?_)
        · replace h := h.1 c30
          refine wp_nmT (x11 + 1) (fun x31 hx32 => ?_)
          replace h := h x31 hx32
          refine wp_iinc' (z' := x31) (ls' := [some (vr a0), some (vi a1), some (vr v9), some (vi x10), some (vi x31), some (vr v26)]) dX7_placeByPairs_57 (Nat.le_of_ble_eq_true rfl) rfl hx32 rfl ?_
          refine wp_goto (tgt := 11) dX7_placeByPairs_60 (by decide) ?_
          obtain ⟨n33, hlt, h⟩ := h
          exact wp_lsub (ls' := [some (vr a0), some (vi a1), some (vr v9), some (vi x10), some (vi x31), none]) ⟨rfl, ⟨rfl, ⟨rfl, ⟨rfl, ⟨rfl, trivial⟩⟩⟩⟩⟩ (ih14 n33 hlt _ _ h)
        · replace h := h.2 c30
          refine wp_aload dX7_placeByPairs_45 rfl ?_
          refine wp_aload_n dX7_placeByPairs_47 rfl ?_
          obtain ⟨v35, hm34, h⟩ := h
          refine wp_callV (M' := M_X0_liesBefore) (As := [vr v9]) (st := []) (ci := 0) dX7_placeByPairs_48 cee_X0_liesBefore np_X0_liesBefore rfl ⟨Nat.le_of_ble_eq_true rfl, Nat.le_of_ble_eq_true rfl, Nat.le_of_ble_eq_true rfl, Nat.le_of_ble_eq_true rfl⟩ wd_825 wd_826 wd_827 rfl (Or.inl hk28) (q_small_of (Nat.le_of_ble_eq_true rfl)) hm34 (q_kPi ?_) q_kPi0
          refine wp_less (ac2 := 0) (as2 := 0) (Nat.le_of_ble_eq_true rfl) (Nat.le_of_ble_eq_true rfl) ?_
          obtain ⟨hr36, h⟩ := h
          refine wp_if_eq (tgt := 57) dX7_placeByPairs_51 (by decide) hr36 (fun c37 => ?_) (fun c37 => ?_)
          · replace h := h.1 c37
            refine wp_nmT (x11 + 1) (fun x38 hx39 => ?_)
            replace h := h x38 hx39
            refine wp_iinc' (z' := x38) (ls' := [some (vr a0), some (vi a1), some (vr v9), some (vi x10), some (vi x38), some (vr v26)]) dX7_placeByPairs_57 (Nat.le_of_ble_eq_true rfl) rfl hx39 rfl ?_
            refine wp_goto (tgt := 11) dX7_placeByPairs_60 (by decide) ?_
            obtain ⟨n40, hlt, h⟩ := h
            exact wp_lsub (ls' := [some (vr a0), some (vi a1), some (vr v9), some (vi x10), some (vi x38), none]) ⟨rfl, ⟨rfl, ⟨rfl, ⟨rfl, ⟨rfl, trivial⟩⟩⟩⟩⟩ (ih14 n40 hlt _ _ h)
          · replace h := h.2 c37
            refine wp_nmT (x10 + 1) (fun x41 hx42 => ?_)
            replace h := h x41 hx42
            refine wp_iinc' (z' := x41) (ls' := [some (vr a0), some (vi a1), some (vr v9), some (vi x41), some (vi x11), some (vr v26)]) dX7_placeByPairs_54 (Nat.le_of_ble_eq_true rfl) rfl hx42 rfl ?_
            refine wp_nmT (x11 + 1) (fun x43 hx44 => ?_)
            replace h := h x43 hx44
            refine wp_iinc' (z' := x43) (ls' := [some (vr a0), some (vi a1), some (vr v9), some (vi x41), some (vi x43), some (vr v26)]) dX7_placeByPairs_57 (Nat.le_of_ble_eq_true rfl) rfl hx44 rfl ?_
            refine wp_goto (tgt := 11) dX7_placeByPairs_60 (by decide) ?_
            obtain ⟨n45, hlt, h⟩ := h
            exact wp_lsub (ls' := [some (vr a0), some (vi a1), some (vr v9), some (vi x41), some (vi x43), none]) ⟨rfl, ⟨rfl, ⟨rfl, ⟨rfl, ⟨rfl, trivial⟩⟩⟩⟩⟩ (ih14 n45 hlt _ _ h)
  exact wp_lsub (ls' := [some (vr a0), some (vi a1), some (vr v9), some (vi 0), some (vi 0), none]) ⟨rfl, ⟨rfl, ⟨rfl, ⟨rfl, ⟨rfl, trivial⟩⟩⟩⟩⟩ (loop46 _ _ _ h017)

set_option maxRecDepth 100000 in
set_option maxHeartbeats 4000000 in
theorem wm_X7_depth {g : qG} {l : Launch} (hl : l.stackTraces = false) {a0 : Nat} {a1 : Int} {σ : qS} {Post : qS → qRs → Prop}
    (h : gK σ a0 = 8 ∧ (∃ (Mid3 : qS → Nat → Prop) (MidX4 : qS → Nat → Prop), qMet g l M_X7_needBalloon [vr a0, vi a1] σ (qTr Mid3 MidX4) ∧ (∀ (σ7 : qS) (v9 : Nat), Mid3 σ7 v9 → gK σ7 v9 = 1 ∧ ∀ x11 : Nat, x11 = gP σ7 5 v9 → ∃ Inv15 : Nat → Int → Nat → Prop, (∃ n : Nat, Inv15 n 0 x11) ∧ ∀ (n16 : Nat) (x13 : Int) (x14 : Nat), Inv15 n16 x13 x14 → (((x14 = 0 → Post σ7 (.inl (some (vi x13)))) ∧ (¬ (x14 = 0) → qR x13 ∧ ((80 ≤ x13 → Post σ7 (.inl (some (vi x13)))) ∧ (¬ (80 ≤ x13) → ∀ x24 : Int, x24 = x13 + 1 → gK σ7 x14 = 1 ∧ ∀ x27 : Nat, x27 = gP σ7 5 x14 → ∃ n29 : Nat, n29 < n16 ∧ Inv15 n29 x24 x27)))))) ∧ ∀ (σ9 : qS) (n9 : Nat), MidX4 σ9 n9 → Post σ9 (.inr n9))) : qMet g l M_X7_depth [vr a0, vi a1] σ Post := by
  refine qMet_of hl (by decide +kernel) (Nat.le_of_ble_eq_true rfl) (List.forall_mem_cons.mpr ⟨trivial, List.forall_mem_cons.mpr ⟨trivial, fun _ h => nomatch h⟩⟩) ?_
  show qW g l M_X7_depth 1 6 0 [some (vr a0), some (vi a1), none, none, none] [] σ Post
  refine wp_aload_n dX7_depth_0 rfl ?_
  refine wp_iload_n dX7_depth_1 rfl ?_
  obtain ⟨hk2, h⟩ := h
  obtain ⟨Mid3, MidX4, hm1, hk5, hx6⟩ := h
  refine wp_callV (M' := M_X7_needBalloon) (As := [vi a1]) (st := []) (ci := 7) dX7_depth_2 cee_X7_needBalloon np_X7_needBalloon rfl ⟨Nat.le_of_ble_eq_true rfl, Nat.le_of_ble_eq_true rfl, Nat.le_of_ble_eq_true rfl, Nat.le_of_ble_eq_true rfl⟩ wd_683 wd_685 sel_X7_needBalloon rfl (Or.inl hk2) (q_small_of (Nat.le_of_ble_eq_true rfl)) hm1 (q_kTr (fun σ7 v9 hM8 => ?_)) (q_kXr rfl hx6)
  refine wp_less (ac2 := 0) (as2 := 0) (Nat.le_of_ble_eq_true rfl) (Nat.le_of_ble_eq_true rfl) ?_
  have h := hk5 σ7 v9 hM8
  refine wp_astore_n' (ls' := [some (vr a0), some (vi a1), some (vr v9), none, none]) dX7_depth_5 (Nat.le_of_ble_eq_true rfl) rfl ?_
  refine wp_iconst dX7_depth_6 ?_
  refine wp_istore_n' (ls' := [some (vr a0), some (vi a1), some (vr v9), some (vi 0), none]) dX7_depth_7 (Nat.le_of_ble_eq_true rfl) rfl ?_
  refine wp_aload_n dX7_depth_8 rfl ?_
  obtain ⟨hk10, h⟩ := h
  refine wp_get (v := vr (gP σ7 5 v9)) dX7_depth_9 fl_RX7_204 hk10 rfl ?_
  refine wp_nmR (fun x11 hx12 => ?_)
  replace h := h x11 hx12
  refine wp_astore' (ls' := [some (vr a0), some (vi a1), some (vr v9), some (vi 0), some (vr x11)]) dX7_depth_12 (Nat.le_of_ble_eq_true rfl) rfl ?_
  obtain ⟨Inv15, ⟨n16_0, h020⟩, hb19⟩ := h
  have loop30 : ∀ (n16 : Nat) (x13 : Int) (x14 : Nat), Inv15 n16 x13 x14 → qW g l M_X7_depth 0 0 14 [some (vr a0), some (vi a1), some (vr v9), some (vi x13), some (vr x14)] [] σ7 Post := by
    intro n16
    induction n16 using Nat.strongRecOn with
    | ind n16 ih17 =>
      intro x13 x14 hI18
      have h := hb19 n16 x13 x14 hI18
      refine wp_aload dX7_depth_14 rfl ?_
      refine wp_ifnull (tgt := 38) dX7_depth_16 (by decide) (fun c21 => ?_) (fun c21 => ?_)
      · replace h := h.1 c21
        refine wp_iload_n dX7_depth_38 rfl ?_
        exact wp_ret_i dX7_depth_39 rfl rfl h
      · replace h := h.2 c21
        refine wp_iload_n dX7_depth_19 rfl ?_
        refine wp_bipush dX7_depth_20 (by decide) ?_
        obtain ⟨hr22, h⟩ := h
        refine wp_icmp_ge (tgt := 38) dX7_depth_22 (by decide) hr22 (by unfold qR; omega) (fun c23 => ?_) (fun c23 => ?_)
        · replace h := h.1 c23
          refine wp_iload_n dX7_depth_38 rfl ?_
          exact wp_ret_i dX7_depth_39 rfl rfl h
        · replace h := h.2 c23
          refine wp_nmT (x13 + 1) (fun x24 hx25 => ?_)
          replace h := h x24 hx25
          refine wp_iinc' (z' := x24) (ls' := [some (vr a0), some (vi a1), some (vr v9), some (vi x24), some (vr x14)]) dX7_depth_25 (Nat.le_of_ble_eq_true rfl) rfl hx25 rfl ?_
          refine wp_aload dX7_depth_28 rfl ?_
          obtain ⟨hk26, h⟩ := h
          refine wp_get (v := vr (gP σ7 5 x14)) dX7_depth_30 fl_RX7_204 hk26 rfl ?_
          refine wp_nmR (fun x27 hx28 => ?_)
          replace h := h x27 hx28
          refine wp_astore' (ls' := [some (vr a0), some (vi a1), some (vr v9), some (vi x24), some (vr x27)]) dX7_depth_33 (Nat.le_of_ble_eq_true rfl) rfl ?_
          refine wp_goto (tgt := 14) dX7_depth_35 (by decide) ?_
          obtain ⟨n29, hlt, h⟩ := h
          exact wp_lsub (ls' := [some (vr a0), some (vi a1), some (vr v9), some (vi x24), some (vr x27)]) ⟨rfl, ⟨rfl, ⟨rfl, ⟨rfl, ⟨rfl, trivial⟩⟩⟩⟩⟩ (ih17 n29 hlt _ _ h)
  exact wp_lsub (ls' := [some (vr a0), some (vi a1), some (vr v9), some (vi 0), some (vr x11)]) ⟨rfl, ⟨rfl, ⟨rfl, ⟨rfl, ⟨rfl, trivial⟩⟩⟩⟩⟩ (loop30 _ _ _ h020)

set_option maxRecDepth 100000 in
set_option maxHeartbeats 4000000 in
theorem wm_X7_open {g : qG} {l : Launch} (hl : l.stackTraces = false) {a0 : Nat} {σ : qS} {Post : qS → qRs → Prop}
    (h : gK σ a0 = 8 ∧ (∃ v3 : Nat, qMet g l M_X7_readBehind [vr a0, vr 0] σ (qPr σ v3) ∧ (gK σ (gP σ 284 a0) = 7 ∧ (∃ Mid6 : qS → Prop, qMet g l M_X6_beginAt [vr (gP σ 284 a0), vr v3] σ (qTv0 Mid6) ∧ ∀ (σ10 : qS), Mid6 σ10 → gK σ10 a0 = 8 ∧ gK σ10 (gP σ10 284 a0) = 7 ∧ (∃ v15 : Int, qMet g l M_X7_numberOf [vr (gP σ10 242 (gP σ10 284 a0))] σ10 (qPi σ10 v15) ∧ (Post σ10 (.inl (some (vi v15))))))))) : qMet g l M_X7_open [vr a0] σ Post := by
  refine qMet_of hl (by decide +kernel) (Nat.le_of_ble_eq_true rfl) (List.forall_mem_cons.mpr ⟨trivial, fun _ h => nomatch h⟩) ?_
  show qW g l M_X7_open 0 0 0 [some (vr a0)] [] σ Post
  refine wp_aload_n dX7_open_0 rfl ?_
  obtain ⟨hk1, h⟩ := h
  refine wp_get (v := vr (gP σ 284 a0)) dX7_open_1 fl_RX7_32 hk1 rfl ?_
  refine wp_aload_n dX7_open_4 rfl ?_
  refine wp_null dX7_open_5 ?_
  obtain ⟨v3, hm2, h⟩ := h
  refine wp_callV (M' := M_X7_readBehind) (As := [vr 0]) (st := [vr (gP σ 284 a0)]) (ci := 7) dX7_open_6 cee_X7_readBehind np_X7_readBehind rfl ⟨Nat.le_of_ble_eq_true rfl, Nat.le_of_ble_eq_true rfl, Nat.le_of_ble_eq_true rfl, Nat.le_of_ble_eq_true rfl⟩ wd_580 wd_582 sel_X7_readBehind rfl (Or.inl hk1) (q_small_of (Nat.le_of_ble_eq_true rfl)) hm2 (q_kPr ?_) q_kPr0
  refine wp_less (ac2 := 0) (as2 := 0) (Nat.le_of_ble_eq_true rfl) (Nat.le_of_ble_eq_true rfl) ?_
  obtain ⟨hk5, h⟩ := h
  obtain ⟨Mid6, hm4, hk8⟩ := h
  refine wp_callV (M' := M_X6_beginAt) (As := [vr v3]) (st := []) (ci := 6) dX7_open_9 cee_X6_beginAt np_X6_beginAt rfl ⟨Nat.le_of_ble_eq_true rfl, Nat.le_of_ble_eq_true rfl, Nat.le_of_ble_eq_true rfl, Nat.le_of_ble_eq_true rfl⟩ wd_756 wd_757 wd_758 rfl (Or.inl hk5) (q_small_of (Nat.le_of_ble_eq_true rfl)) hm4 (q_kTv0 (fun σ10 hM11 => ?_)) q_kTv00
  refine wp_less (ac2 := 0) (as2 := 0) (Nat.le_of_ble_eq_true rfl) (Nat.le_of_ble_eq_true rfl) ?_
  have h := hk8 σ10 hM11
  refine wp_aload_n dX7_open_12 rfl ?_
  obtain ⟨hk12, h⟩ := h
  refine wp_get (v := vr (gP σ10 284 a0)) dX7_open_13 fl_RX7_32 hk12 rfl ?_
  obtain ⟨hk13, h⟩ := h
  refine wp_get (v := vr (gP σ10 242 (gP σ10 284 a0))) dX7_open_16 fl_RX7_287 hk13 rfl ?_
  obtain ⟨v15, hm14, h⟩ := h
  refine wp_callS (M' := M_X7_numberOf) (As := [vr (gP σ10 242 (gP σ10 284 a0))]) (st := []) dX7_open_19 cee_X7_numberOf np_X7_numberOf rfl ⟨Nat.le_of_ble_eq_true rfl, Nat.le_of_ble_eq_true rfl, Nat.le_of_ble_eq_true rfl, Nat.le_of_ble_eq_true rfl⟩ wd_760 wd_761 (q_small_of (Nat.le_of_ble_eq_true rfl)) hm14 (q_kPi ?_) q_kPi0
  refine wp_less (ac2 := 0) (as2 := 0) (Nat.le_of_ble_eq_true rfl) (Nat.le_of_ble_eq_true rfl) ?_
  exact wp_ret_i dX7_open_22 rfl rfl h

set_option maxRecDepth 100000 in
set_option maxHeartbeats 4000000 in
theorem wm_X7_forth {g : qG} {l : Launch} (hl : l.stackTraces = false) {a0 : Nat} {σ : qS} {Post : qS → qRs → Prop}
    (h : gK σ a0 = 8 ∧ gK σ (gP σ 284 a0) = 7 ∧ ((¬ (gP σ 242 (gP σ 284 a0)) = 0 → (∃ v5 : Nat, qMet g l M_X7_readBehind [vr a0, vr (gP σ 242 (gP σ 284 a0))] σ (qPr σ v5) ∧ (((v5 = 0 → (∃ v8 : Int, qMet g l M_X7_numberOf [vr v5] σ (qPi σ v8) ∧ (Post σ (.inl (some (vi v8)))))) ∧ (¬ (v5 = 0) → (∃ Mid10 : qS → Prop, qMet g l M_X6_goTo [vr (gP σ 284 a0), vr v5] σ (qTv0 Mid10) ∧ ∀ (σ14 : qS), Mid10 σ14 → (∃ v17 : Int, qMet g l M_X7_numberOf [vr v5] σ14 (qPi σ14 v17) ∧ (Post σ14 (.inl (some (vi v17))))))))))) ∧ ((gP σ 242 (gP σ 284 a0)) = 0 → (∃ v19 : Int, qMet g l M_X7_numberOf [vr 0] σ (qPi σ v19) ∧ (Post σ (.inl (some (vi v19)))))))) : qMet g l M_X7_forth [vr a0] σ Post := by
  refine qMet_of hl (by decide +kernel) (Nat.le_of_ble_eq_true rfl) (List.forall_mem_cons.mpr ⟨trivial, fun _ h => nomatch h⟩) ?_
  show qW g l M_X7_forth 0 0 0 [some (vr a0), none] [] σ Post
  refine wp_aload_n dX7_forth_0 rfl ?_
  obtain ⟨hk1, h⟩ := h
  refine wp_get (v := vr (gP σ 284 a0)) dX7_forth_1 fl_RX7_32 hk1 rfl ?_
  obtain ⟨hk2, h⟩ := h
  refine wp_get (v := vr (gP σ 242 (gP σ 284 a0))) dX7_forth_4 fl_RX7_287 hk2 rfl ?_
  refine wp_ifnonnull (tgt := 14) dX7_forth_7 (by decide) (fun c3 => ?_) (fun c3 => ?_)
  · replace h := h.1 c3
    refine wp_aload_n dX7_forth_14 rfl ?_
    refine wp_aload_n dX7_forth_15 rfl ?_
    refine wp_get (v := vr (gP σ 284 a0)) dX7_forth_16 fl_RX7_32 hk1 rfl ?_
    refine wp_get (v := vr (gP σ 242 (gP σ 284 a0))) dX7_forth_19 fl_RX7_287 hk2 rfl ?_
    obtain ⟨v5, hm4, h⟩ := h
    refine wp_callV (M' := M_X7_readBehind) (As := [vr (gP σ 242 (gP σ 284 a0))]) (st := []) (ci := 7) dX7_forth_22 cee_X7_readBehind np_X7_readBehind rfl ⟨Nat.le_of_ble_eq_true rfl, Nat.le_of_ble_eq_true rfl, Nat.le_of_ble_eq_true rfl, Nat.le_of_ble_eq_true rfl⟩ wd_580 wd_582 sel_X7_readBehind rfl (Or.inl hk1) (q_small_of (Nat.le_of_ble_eq_true rfl)) hm4 (q_kPr ?_) q_kPr0
    refine wp_less (ac2 := 0) (as2 := 0) (Nat.le_of_ble_eq_true rfl) (Nat.le_of_ble_eq_true rfl) ?_
    refine wp_astore_n' (ls' := [some (vr a0), some (vr v5)]) dX7_forth_25 (Nat.le_of_ble_eq_true rfl) rfl ?_
    refine wp_aload_n dX7_forth_26 rfl ?_
    refine wp_ifnull (tgt := 38) dX7_forth_27 (by decide) (fun c6 => ?_) (fun c6 => ?_)
    · replace h := h.1 c6
      refine wp_aload_n dX7_forth_38 rfl ?_
      obtain ⟨v8, hm7, h⟩ := h
      refine wp_callS (M' := M_X7_numberOf) (As := [vr v5]) (st := []) dX7_forth_39 cee_X7_numberOf np_X7_numberOf rfl ⟨Nat.le_of_ble_eq_true rfl, Nat.le_of_ble_eq_true rfl, Nat.le_of_ble_eq_true rfl, Nat.le_of_ble_eq_true rfl⟩ wd_760 wd_761 (q_small_of (Nat.le_of_ble_eq_true rfl)) hm7 (q_kPi ?_) q_kPi0
      refine wp_less (ac2 := 0) (as2 := 0) (Nat.le_of_ble_eq_true rfl) (Nat.le_of_ble_eq_true rfl) ?_
      exact wp_ret_i dX7_forth_42 rfl rfl h
    · replace h := h.2 c6
      refine wp_aload_n dX7_forth_30 rfl ?_
      refine wp_get (v := vr (gP σ 284 a0)) dX7_forth_31 fl_RX7_32 hk1 rfl ?_
      refine wp_aload_n dX7_forth_34 rfl ?_
      obtain ⟨Mid10, hm9, hk12⟩ := h
      refine wp_callV (M' := M_X6_goTo) (As := [vr v5]) (st := []) (ci := 6) dX7_forth_35 cee_X6_goTo np_X6_goTo rfl ⟨Nat.le_of_ble_eq_true rfl, Nat.le_of_ble_eq_true rfl, Nat.le_of_ble_eq_true rfl, Nat.le_of_ble_eq_true rfl⟩ wd_767 wd_768 wd_769 rfl (Or.inl hk2) (q_small_of (Nat.le_of_ble_eq_true rfl)) hm9 (q_kTv0 (fun σ14 hM15 => ?_)) q_kTv00
      refine wp_less (ac2 := 0) (as2 := 0) (Nat.le_of_ble_eq_true rfl) (Nat.le_of_ble_eq_true rfl) ?_
      have h := hk12 σ14 hM15
      refine wp_aload_n dX7_forth_38 rfl ?_
      obtain ⟨v17, hm16, h⟩ := h
      refine wp_callS (M' := M_X7_numberOf) (As := [vr v5]) (st := []) dX7_forth_39 cee_X7_numberOf np_X7_numberOf rfl ⟨Nat.le_of_ble_eq_true rfl, Nat.le_of_ble_eq_true rfl, Nat.le_of_ble_eq_true rfl, Nat.le_of_ble_eq_true rfl⟩ wd_760 wd_761 (q_small_of (Nat.le_of_ble_eq_true rfl)) hm16 (q_kPi ?_) q_kPi0
      refine wp_less (ac2 := 0) (as2 := 0) (Nat.le_of_ble_eq_true rfl) (Nat.le_of_ble_eq_true rfl) ?_
      exact wp_ret_i dX7_forth_42 rfl rfl h
  · replace h := h.2 c3
    refine wp_null dX7_forth_10 ?_
    refine wp_goto (tgt := 25) dX7_forth_11 (by decide) ?_
    refine wp_astore_n' (ls' := [some (vr a0), some (vr 0)]) dX7_forth_25 (Nat.le_of_ble_eq_true rfl) rfl ?_
    refine wp_aload_n dX7_forth_26 rfl ?_
    refine wp_ifnull (tgt := 38) dX7_forth_27 (by decide) (fun _ => ?_) (fun c9 => absurd rfl c9)
    refine wp_aload_n dX7_forth_38 rfl ?_
    obtain ⟨v19, hm18, h⟩ := h
    refine wp_callS (M' := M_X7_numberOf) (As := [vr 0]) (st := []) dX7_forth_39 cee_X7_numberOf np_X7_numberOf rfl ⟨Nat.le_of_ble_eq_true rfl, Nat.le_of_ble_eq_true rfl, Nat.le_of_ble_eq_true rfl, Nat.le_of_ble_eq_true rfl⟩ wd_760 wd_761 (q_small_of (Nat.le_of_ble_eq_true rfl)) hm18 (q_kPi ?_) q_kPi0
    refine wp_less (ac2 := 0) (as2 := 0) (Nat.le_of_ble_eq_true rfl) (Nat.le_of_ble_eq_true rfl) ?_
    exact wp_ret_i dX7_forth_42 rfl rfl h

set_option maxRecDepth 100000 in
set_option maxHeartbeats 4000000 in
theorem wm_X7_back {g : qG} {l : Launch} (hl : l.stackTraces = false) {a0 : Nat} {σ : qS} {Post : qS → qRs → Prop}
    (h : gK σ a0 = 8 ∧ gK σ (gP σ 284 a0) = 7 ∧ (∃ Mid4 : qS → Int → Prop, qMet g l M_X6_goBack [vr (gP σ 284 a0)] σ (qTi0 Mid4) ∧ ∀ (σ8 : qS) (v10 : Int), Mid4 σ8 v10 → qR v10 ∧ ((v10 = 0 → Post σ8 (.inl (some (vi ((-1)))))) ∧ (¬ (v10 = 0) → gK σ8 a0 = 8 ∧ gK σ8 (gP σ8 284 a0) = 7 ∧ (∃ v16 : Int, qMet g l M_X7_numberOf [vr (gP σ8 242 (gP σ8 284 a0))] σ8 (qPi σ8 v16) ∧ (Post σ8 (.inl (some (vi v16))))))))) : qMet g l M_X7_back [vr a0] σ Post := by
  refine qMet_of hl (by decide +kernel) (Nat.le_of_ble_eq_true rfl) (List.forall_mem_cons.mpr ⟨trivial, fun _ h => nomatch h⟩) ?_
  show qW g l M_X7_back 0 0 0 [some (vr a0)] [] σ Post
  refine wp_aload_n dX7_back_0 rfl ?_
  obtain ⟨hk1, h⟩ := h
  refine wp_get (v := vr (gP σ 284 a0)) dX7_back_1 fl_RX7_32 hk1 rfl ?_
  obtain ⟨hk3, h⟩ := h
  obtain ⟨Mid4, hm2, hk6⟩ := h
  refine wp_callV (M' := M_X6_goBack) (As := []) (st := []) (ci := 6) dX7_back_4 cee_X6_goBack np_X6_goBack rfl ⟨Nat.le_of_ble_eq_true rfl, Nat.le_of_ble_eq_true rfl, Nat.le_of_ble_eq_true rfl, Nat.le_of_ble_eq_true rfl⟩ wd_775 wd_776 wd_777 rfl (Or.inl hk3) (q_small_of (Nat.le_of_ble_eq_true rfl)) hm2 (q_kTi0 (fun σ8 v10 hM9 => ?_)) q_kTi00
  refine wp_less (ac2 := 0) (as2 := 0) (Nat.le_of_ble_eq_true rfl) (Nat.le_of_ble_eq_true rfl) ?_
  have h := hk6 σ8 v10 hM9
  obtain ⟨hr11, h⟩ := h
  refine wp_if_eq (tgt := 23) dX7_back_7 (by decide) hr11 (fun c12 => ?_) (fun c12 => ?_)
  · replace h := h.1 c12
    refine wp_iconst dX7_back_23 ?_
    exact wp_ret_i dX7_back_24 rfl rfl h
  · replace h := h.2 c12
    refine wp_aload_n dX7_back_10 rfl ?_
    obtain ⟨hk13, h⟩ := h
    refine wp_get (v := vr (gP σ8 284 a0)) dX7_back_11 fl_RX7_32 hk13 rfl ?_
    obtain ⟨hk14, h⟩ := h
    refine wp_get (v := vr (gP σ8 242 (gP σ8 284 a0))) dX7_back_14 fl_RX7_287 hk14 rfl ?_
    obtain ⟨v16, hm15, h⟩ := h
    refine wp_callS (M' := M_X7_numberOf) (As := [vr (gP σ8 242 (gP σ8 284 a0))]) (st := []) dX7_back_17 cee_X7_numberOf np_X7_numberOf rfl ⟨Nat.le_of_ble_eq_true rfl, Nat.le_of_ble_eq_true rfl, Nat.le_of_ble_eq_true rfl, Nat.le_of_ble_eq_true rfl⟩ wd_760 wd_761 (q_small_of (Nat.le_of_ble_eq_true rfl)) hm15 (q_kPi ?_) q_kPi0
    refine wp_less (ac2 := 0) (as2 := 0) (Nat.le_of_ble_eq_true rfl) (Nat.le_of_ble_eq_true rfl) ?_
    refine wp_goto (tgt := 24) dX7_back_20 (by decide) ?_
    exact wp_ret_i dX7_back_24 rfl rfl h

set_option maxRecDepth 100000 in
set_option maxHeartbeats 4000000 in
theorem wm_X7_here {g : qG} {l : Launch} (hl : l.stackTraces = false) {a0 : Nat} {σ : qS} {Post : qS → qRs → Prop}
    (h : gK σ a0 = 8 ∧ gK σ (gP σ 284 a0) = 7 ∧ (∃ v4 : Int, qMet g l M_X7_numberOf [vr (gP σ 242 (gP σ 284 a0))] σ (qPi σ v4) ∧ (Post σ (.inl (some (vi v4)))))) : qMet g l M_X7_here [vr a0] σ Post := by
  refine qMet_of hl (by decide +kernel) (Nat.le_of_ble_eq_true rfl) (List.forall_mem_cons.mpr ⟨trivial, fun _ h => nomatch h⟩) ?_
  show qW g l M_X7_here 0 0 0 [some (vr a0)] [] σ Post
  refine wp_aload_n dX7_here_0 rfl ?_
  obtain ⟨hk1, h⟩ := h
  refine wp_get (v := vr (gP σ 284 a0)) dX7_here_1 fl_RX7_32 hk1 rfl ?_
  obtain ⟨hk2, h⟩ := h
  refine wp_get (v := vr (gP σ 242 (gP σ 284 a0))) dX7_here_4 fl_RX7_287 hk2 rfl ?_
  obtain ⟨v4, hm3, h⟩ := h
  refine wp_callS (M' := M_X7_numberOf) (As := [vr (gP σ 242 (gP σ 284 a0))]) (st := []) dX7_here_7 cee_X7_numberOf np_X7_numberOf rfl ⟨Nat.le_of_ble_eq_true rfl, Nat.le_of_ble_eq_true rfl, Nat.le_of_ble_eq_true rfl, Nat.le_of_ble_eq_true rfl⟩ wd_760 wd_761 (q_small_of (Nat.le_of_ble_eq_true rfl)) hm3 (q_kPi ?_) q_kPi0
  refine wp_less (ac2 := 0) (as2 := 0) (Nat.le_of_ble_eq_true rfl) (Nat.le_of_ble_eq_true rfl) ?_
  exact wp_ret_i dX7_here_10 rfl rfl h

set_option maxRecDepth 100000 in
set_option maxHeartbeats 4000000 in
theorem wm_X7_needPage {g : qG} {l : Launch} (hl : l.stackTraces = false) {a0 : Nat} {a1 : Int} {σ : qS} {Post : qS → qRs → Prop}
    (h : qR a1 ∧ ((a1 < 0 → Post σ (.inr 2)) ∧ (¬ (a1 < 0) → gK σ a0 = 8 ∧ gK σ (gP σ 280 a0) = 50 ∧ (∃ v6 : Int, qMet g l M_Jx4a65c_size_8abf5 [vr (gP σ 280 a0)] σ (qPi σ v6) ∧ (qR v6 ∧ ((a1 < v6 → (∃ v10 : Nat, qMet g l M_Jx4a65c_get_915e3 [vr (gP σ 280 a0), vi a1] σ (qPr σ v10) ∧ ((v10 = 0 ∨ gK σ v10 = 5) ∧ Post σ (.inl (some (vr v10)))))) ∧ (¬ (a1 < v6) → Post σ (.inr 2)))))))) : qMet g l M_X7_needPage [vr a0, vi a1] σ Post := by
  refine qMet_of hl (by decide +kernel) (Nat.le_of_ble_eq_true rfl) (List.forall_mem_cons.mpr ⟨trivial, List.forall_mem_cons.mpr ⟨trivial, fun _ h => nomatch h⟩⟩) ?_
  show qW g l M_X7_needPage 1 6 0 [some (vr a0), some (vi a1)] [] σ Post
  refine wp_iload_n dX7_needPage_0 rfl ?_
  obtain ⟨hr1, h⟩ := h
  refine wp_if_lt (tgt := 15) dX7_needPage_1 (by decide) hr1 (fun c2 => ?_) (fun c2 => ?_)
  · replace h := h.1 c2
    exact wp_throwW (n := 2) (text := "no such page") (by decide) rfl rfl (by decide +kernel) dX7_needPage_15 dX7_needPage_18 dX7_needPage_19 dX7_needPage_22 dX7_needPage_25 (q_small_of (Nat.le_of_ble_eq_true rfl)) ⟨Nat.le_of_ble_eq_true rfl, Nat.le_of_ble_eq_true rfl⟩ (Nat.le_of_ble_eq_true rfl) (Nat.le_of_ble_eq_true rfl) h
  · replace h := h.2 c2
    refine wp_iload_n dX7_needPage_4 rfl ?_
    refine wp_aload_n dX7_needPage_5 rfl ?_
    obtain ⟨hk3, h⟩ := h
    refine wp_get (v := vr (gP σ 280 a0)) dX7_needPage_6 fl_RX7_10 hk3 rfl ?_
    obtain ⟨hk5, h⟩ := h
    obtain ⟨v6, hm4, h⟩ := h
    refine wp_callV (M' := M_Jx4a65c_size_8abf5) (As := []) (st := [vi a1]) (ci := 9) dX7_needPage_9 cee_Jx4a65c_size_8abf5 np_Jx4a65c_size_8abf5 rfl ⟨Nat.le_of_ble_eq_true rfl, Nat.le_of_ble_eq_true rfl, Nat.le_of_ble_eq_true rfl, Nat.le_of_ble_eq_true rfl⟩ wd_112 wd_113 wd_114 rfl (Or.inr ⟨hk5, rfl⟩) (q_small_of (Nat.le_of_ble_eq_true rfl)) hm4 (q_kPi ?_) q_kPi0
    refine wp_less (ac2 := 1) (as2 := 6) (Nat.le_of_ble_eq_true rfl) (Nat.le_of_ble_eq_true rfl) ?_
    obtain ⟨hr7, h⟩ := h
    refine wp_icmp_lt (tgt := 26) dX7_needPage_12 (by decide) hr1 hr7 (fun c8 => ?_) (fun c8 => ?_)
    · replace h := h.1 c8
      refine wp_aload_n dX7_needPage_26 rfl ?_
      refine wp_get (v := vr (gP σ 280 a0)) dX7_needPage_27 fl_RX7_10 hk3 rfl ?_
      refine wp_iload_n dX7_needPage_30 rfl ?_
      obtain ⟨v10, hm9, h⟩ := h
      refine wp_callV (M' := M_Jx4a65c_get_915e3) (As := [vi a1]) (st := []) (ci := 9) dX7_needPage_31 cee_Jx4a65c_get_915e3 np_Jx4a65c_get_915e3 rfl ⟨Nat.le_of_ble_eq_true rfl, Nat.le_of_ble_eq_true rfl, Nat.le_of_ble_eq_true rfl, Nat.le_of_ble_eq_true rfl⟩ wd_301 wd_302 wd_303 rfl (Or.inr ⟨hk5, rfl⟩) (q_small_of (Nat.le_of_ble_eq_true rfl)) hm9 (q_kPr ?_) q_kPr0
      refine wp_less (ac2 := 1) (as2 := 6) (Nat.le_of_ble_eq_true rfl) (Nat.le_of_ble_eq_true rfl) ?_
      obtain ⟨hc11, h⟩ := h
      refine wp_cast (ci := 4) dX7_needPage_34 ⟨_, rfl, wd_184⟩ hc11 ?_
      exact wp_ret_a dX7_needPage_37 rfl (Or.inl ⟨_, rfl⟩) h
    · replace h := h.2 c8
      exact wp_throwW (n := 2) (text := "no such page") (by decide) rfl rfl (by decide +kernel) dX7_needPage_15 dX7_needPage_18 dX7_needPage_19 dX7_needPage_22 dX7_needPage_25 (q_small_of (Nat.le_of_ble_eq_true rfl)) ⟨Nat.le_of_ble_eq_true rfl, Nat.le_of_ble_eq_true rfl⟩ (Nat.le_of_ble_eq_true rfl) (Nat.le_of_ble_eq_true rfl) h

set_option maxRecDepth 100000 in
set_option maxHeartbeats 4000000 in
theorem wm_X7_needPanel {g : qG} {l : Launch} (hl : l.stackTraces = false) {a0 : Nat} {a1 : Int} {σ : qS} {Post : qS → qRs → Prop}
    (h : qR a1 ∧ ((a1 < 0 → Post σ (.inr 2)) ∧ (¬ (a1 < 0) → gK σ a0 = 8 ∧ gK σ (gP σ 281 a0) = 50 ∧ (∃ v6 : Int, qMet g l M_Jx4a65c_size_8abf5 [vr (gP σ 281 a0)] σ (qPi σ v6) ∧ (qR v6 ∧ ((v6 ≤ a1 → Post σ (.inr 2)) ∧ (¬ (v6 ≤ a1) → (∃ v10 : Nat, qMet g l M_Jx4a65c_get_915e3 [vr (gP σ 281 a0), vi a1] σ (qPr σ v10) ∧ ((v10 = 0 ∨ gK σ v10 = 6) ∧ gK σ v10 = 6 ∧ qR (gI σ 211 v10) ∧ (((gI σ 211 v10) = 0 → (∃ v16 : Nat, qMet g l M_Jx4a65c_get_915e3 [vr (gP σ 281 a0), vi a1] σ (qPr σ v16) ∧ ((v16 = 0 ∨ gK σ v16 = 6) ∧ Post σ (.inl (some (vr v16)))))) ∧ (¬ ((gI σ 211 v10) = 0) → Post σ (.inr 2)))))))))))) : qMet g l M_X7_needPanel [vr a0, vi a1] σ Post := by
  refine qMet_of hl (by decide +kernel) (Nat.le_of_ble_eq_true rfl) (List.forall_mem_cons.mpr ⟨trivial, List.forall_mem_cons.mpr ⟨trivial, fun _ h => nomatch h⟩⟩) ?_
  show qW g l M_X7_needPanel 1 6 0 [some (vr a0), some (vi a1)] [] σ Post
  refine wp_iload_n dX7_needPanel_0 rfl ?_
  obtain ⟨hr1, h⟩ := h
  refine wp_if_lt (tgt := 32) dX7_needPanel_1 (by decide) hr1 (fun c2 => ?_) (fun c2 => ?_)
  · replace h := h.1 c2
    exact wp_throwW (n := 2) (text := "no such panel") (by decide) rfl rfl (by decide +kernel) dX7_needPanel_32 dX7_needPanel_35 dX7_needPanel_36 dX7_needPanel_39 dX7_needPanel_42 (q_small_of (Nat.le_of_ble_eq_true rfl)) ⟨Nat.le_of_ble_eq_true rfl, Nat.le_of_ble_eq_true rfl⟩ (Nat.le_of_ble_eq_true rfl) (Nat.le_of_ble_eq_true rfl) h
  · replace h := h.2 c2
    refine wp_iload_n dX7_needPanel_4 rfl ?_
    refine wp_aload_n dX7_needPanel_5 rfl ?_
    obtain ⟨hk3, h⟩ := h
    refine wp_get (v := vr (gP σ 281 a0)) dX7_needPanel_6 fl_RX7_16 hk3 rfl ?_
    obtain ⟨hk5, h⟩ := h
    obtain ⟨v6, hm4, h⟩ := h
    refine wp_callV (M' := M_Jx4a65c_size_8abf5) (As := []) (st := [vi a1]) (ci := 9) dX7_needPanel_9 cee_Jx4a65c_size_8abf5 np_Jx4a65c_size_8abf5 rfl ⟨Nat.le_of_ble_eq_true rfl, Nat.le_of_ble_eq_true rfl, Nat.le_of_ble_eq_true rfl, Nat.le_of_ble_eq_true rfl⟩ wd_112 wd_113 wd_114 rfl (Or.inr ⟨hk5, rfl⟩) (q_small_of (Nat.le_of_ble_eq_true rfl)) hm4 (q_kPi ?_) q_kPi0
    refine wp_less (ac2 := 1) (as2 := 6) (Nat.le_of_ble_eq_true rfl) (Nat.le_of_ble_eq_true rfl) ?_
    obtain ⟨hr7, h⟩ := h
    refine wp_icmp_ge (tgt := 32) dX7_needPanel_12 (by decide) hr1 hr7 (fun c8 => ?_) (fun c8 => ?_)
    · replace h := h.1 c8
      exact wp_throwW (n := 2) (text := "no such panel") (by decide) rfl rfl (by decide +kernel) dX7_needPanel_32 dX7_needPanel_35 dX7_needPanel_36 dX7_needPanel_39 dX7_needPanel_42 (q_small_of (Nat.le_of_ble_eq_true rfl)) ⟨Nat.le_of_ble_eq_true rfl, Nat.le_of_ble_eq_true rfl⟩ (Nat.le_of_ble_eq_true rfl) (Nat.le_of_ble_eq_true rfl) h
    · replace h := h.2 c8
      refine wp_aload_n dX7_needPanel_15 rfl ?_
      refine wp_get (v := vr (gP σ 281 a0)) dX7_needPanel_16 fl_RX7_16 hk3 rfl ?_
      refine wp_iload_n dX7_needPanel_19 rfl ?_
      obtain ⟨v10, hm9, h⟩ := h
      refine wp_callV (M' := M_Jx4a65c_get_915e3) (As := [vi a1]) (st := []) (ci := 9) dX7_needPanel_20 cee_Jx4a65c_get_915e3 np_Jx4a65c_get_915e3 rfl ⟨Nat.le_of_ble_eq_true rfl, Nat.le_of_ble_eq_true rfl, Nat.le_of_ble_eq_true rfl, Nat.le_of_ble_eq_true rfl⟩ wd_301 wd_302 wd_303 rfl (Or.inr ⟨hk5, rfl⟩) (q_small_of (Nat.le_of_ble_eq_true rfl)) hm9 (q_kPr ?_) q_kPr0
      refine wp_less (ac2 := 1) (as2 := 6) (Nat.le_of_ble_eq_true rfl) (Nat.le_of_ble_eq_true rfl) ?_
      obtain ⟨hc11, h⟩ := h
      refine wp_cast (ci := 5) dX7_needPanel_23 ⟨_, rfl, wd_339⟩ hc11 ?_
      obtain ⟨hk12, h⟩ := h
      refine wp_get (v := vi (gI σ 211 v10)) dX7_needPanel_26 fl_RX7_303 hk12 rfl ?_
      obtain ⟨hr13, h⟩ := h
      refine wp_if_eq (tgt := 43) dX7_needPanel_29 (by decide) hr13 (fun c14 => ?_) (fun c14 => ?_)
      · replace h := h.1 c14
        refine wp_aload_n dX7_needPanel_43 rfl ?_
        refine wp_get (v := vr (gP σ 281 a0)) dX7_needPanel_44 fl_RX7_16 hk3 rfl ?_
        refine wp_iload_n dX7_needPanel_47 rfl ?_
        obtain ⟨v16, hm15, h⟩ := h
        refine wp_callV (M' := M_Jx4a65c_get_915e3) (As := [vi a1]) (st := []) (ci := 9) dX7_needPanel_48 cee_Jx4a65c_get_915e3 np_Jx4a65c_get_915e3 rfl ⟨Nat.le_of_ble_eq_true rfl, Nat.le_of_ble_eq_true rfl, Nat.le_of_ble_eq_true rfl, Nat.le_of_ble_eq_true rfl⟩ wd_301 wd_302 wd_303 rfl (Or.inr ⟨hk5, rfl⟩) (q_small_of (Nat.le_of_ble_eq_true rfl)) hm15 (q_kPr ?_) q_kPr0
        refine wp_less (ac2 := 1) (as2 := 6) (Nat.le_of_ble_eq_true rfl) (Nat.le_of_ble_eq_true rfl) ?_
        obtain ⟨hc17, h⟩ := h
        refine wp_cast (ci := 5) dX7_needPanel_51 ⟨_, rfl, wd_339⟩ hc17 ?_
        exact wp_ret_a dX7_needPanel_54 rfl (Or.inl ⟨_, rfl⟩) h
      · replace h := h.2 c14
        exact wp_throwW (n := 2) (text := "no such panel") (by decide) rfl rfl (by decide +kernel) dX7_needPanel_32 dX7_needPanel_35 dX7_needPanel_36 dX7_needPanel_39 dX7_needPanel_42 (q_small_of (Nat.le_of_ble_eq_true rfl)) ⟨Nat.le_of_ble_eq_true rfl, Nat.le_of_ble_eq_true rfl⟩ (Nat.le_of_ble_eq_true rfl) (Nat.le_of_ble_eq_true rfl) h

set_option maxRecDepth 100000 in
set_option maxHeartbeats 4000000 in
theorem wm_X7_needBalloon {g : qG} {l : Launch} (hl : l.stackTraces = false) {a0 : Nat} {a1 : Int} {σ : qS} {Post : qS → qRs → Prop}
    (h : qR a1 ∧ ((a1 < 0 → Post σ (.inr 2)) ∧ (¬ (a1 < 0) → gK σ a0 = 8 ∧ gK σ (gP σ 282 a0) = 50 ∧ (∃ v6 : Int, qMet g l M_Jx4a65c_size_8abf5 [vr (gP σ 282 a0)] σ (qPi σ v6) ∧ (qR v6 ∧ ((v6 ≤ a1 → Post σ (.inr 2)) ∧ (¬ (v6 ≤ a1) → (∃ v10 : Nat, qMet g l M_Jx4a65c_get_915e3 [vr (gP σ 282 a0), vi a1] σ (qPr σ v10) ∧ ((v10 = 0 ∨ gK σ v10 = 1) ∧ gK σ v10 = 1 ∧ qR (gI σ 6 v10) ∧ (((gI σ 6 v10) = 0 → (∃ v16 : Nat, qMet g l M_Jx4a65c_get_915e3 [vr (gP σ 282 a0), vi a1] σ (qPr σ v16) ∧ ((v16 = 0 ∨ gK σ v16 = 1) ∧ Post σ (.inl (some (vr v16)))))) ∧ (¬ ((gI σ 6 v10) = 0) → Post σ (.inr 2)))))))))))) : qMet g l M_X7_needBalloon [vr a0, vi a1] σ Post := by
  refine qMet_of hl (by decide +kernel) (Nat.le_of_ble_eq_true rfl) (List.forall_mem_cons.mpr ⟨trivial, List.forall_mem_cons.mpr ⟨trivial, fun _ h => nomatch h⟩⟩) ?_
  show qW g l M_X7_needBalloon 1 6 0 [some (vr a0), some (vi a1)] [] σ Post
  refine wp_iload_n dX7_needBalloon_0 rfl ?_
  obtain ⟨hr1, h⟩ := h
  refine wp_if_lt (tgt := 32) dX7_needBalloon_1 (by decide) hr1 (fun c2 => ?_) (fun c2 => ?_)
  · replace h := h.1 c2
    exact wp_throwW (n := 2) (text := "no such balloon") (by decide) rfl rfl (by decide +kernel) dX7_needBalloon_32 dX7_needBalloon_35 dX7_needBalloon_36 dX7_needBalloon_39 dX7_needBalloon_42 (q_small_of (Nat.le_of_ble_eq_true rfl)) ⟨Nat.le_of_ble_eq_true rfl, Nat.le_of_ble_eq_true rfl⟩ (Nat.le_of_ble_eq_true rfl) (Nat.le_of_ble_eq_true rfl) h
  · replace h := h.2 c2
    refine wp_iload_n dX7_needBalloon_4 rfl ?_
    refine wp_aload_n dX7_needBalloon_5 rfl ?_
    obtain ⟨hk3, h⟩ := h
    refine wp_get (v := vr (gP σ 282 a0)) dX7_needBalloon_6 fl_RX7_19 hk3 rfl ?_
    obtain ⟨hk5, h⟩ := h
    obtain ⟨v6, hm4, h⟩ := h
    refine wp_callV (M' := M_Jx4a65c_size_8abf5) (As := []) (st := [vi a1]) (ci := 9) dX7_needBalloon_9 cee_Jx4a65c_size_8abf5 np_Jx4a65c_size_8abf5 rfl ⟨Nat.le_of_ble_eq_true rfl, Nat.le_of_ble_eq_true rfl, Nat.le_of_ble_eq_true rfl, Nat.le_of_ble_eq_true rfl⟩ wd_112 wd_113 wd_114 rfl (Or.inr ⟨hk5, rfl⟩) (q_small_of (Nat.le_of_ble_eq_true rfl)) hm4 (q_kPi ?_) q_kPi0
    refine wp_less (ac2 := 1) (as2 := 6) (Nat.le_of_ble_eq_true rfl) (Nat.le_of_ble_eq_true rfl) ?_
    obtain ⟨hr7, h⟩ := h
    refine wp_icmp_ge (tgt := 32) dX7_needBalloon_12 (by decide) hr1 hr7 (fun c8 => ?_) (fun c8 => ?_)
    · replace h := h.1 c8
      exact wp_throwW (n := 2) (text := "no such balloon") (by decide) rfl rfl (by decide +kernel) dX7_needBalloon_32 dX7_needBalloon_35 dX7_needBalloon_36 dX7_needBalloon_39 dX7_needBalloon_42 (q_small_of (Nat.le_of_ble_eq_true rfl)) ⟨Nat.le_of_ble_eq_true rfl, Nat.le_of_ble_eq_true rfl⟩ (Nat.le_of_ble_eq_true rfl) (Nat.le_of_ble_eq_true rfl) h
    · replace h := h.2 c8
      refine wp_aload_n dX7_needBalloon_15 rfl ?_
      refine wp_get (v := vr (gP σ 282 a0)) dX7_needBalloon_16 fl_RX7_19 hk3 rfl ?_
      refine wp_iload_n dX7_needBalloon_19 rfl ?_
      obtain ⟨v10, hm9, h⟩ := h
      refine wp_callV (M' := M_Jx4a65c_get_915e3) (As := [vi a1]) (st := []) (ci := 9) dX7_needBalloon_20 cee_Jx4a65c_get_915e3 np_Jx4a65c_get_915e3 rfl ⟨Nat.le_of_ble_eq_true rfl, Nat.le_of_ble_eq_true rfl, Nat.le_of_ble_eq_true rfl, Nat.le_of_ble_eq_true rfl⟩ wd_301 wd_302 wd_303 rfl (Or.inr ⟨hk5, rfl⟩) (q_small_of (Nat.le_of_ble_eq_true rfl)) hm9 (q_kPr ?_) q_kPr0
      refine wp_less (ac2 := 1) (as2 := 6) (Nat.le_of_ble_eq_true rfl) (Nat.le_of_ble_eq_true rfl) ?_
      obtain ⟨hc11, h⟩ := h
      refine wp_cast (ci := 0) dX7_needBalloon_23 ⟨_, rfl, wd_560⟩ hc11 ?_
      obtain ⟨hk12, h⟩ := h
      refine wp_get (v := vi (gI σ 6 v10)) dX7_needBalloon_26 fl_RX7_195 hk12 rfl ?_
      obtain ⟨hr13, h⟩ := h
      refine wp_if_eq (tgt := 43) dX7_needBalloon_29 (by decide) hr13 (fun c14 => ?_) (fun c14 => ?_)
      · replace h := h.1 c14
        refine wp_aload_n dX7_needBalloon_43 rfl ?_
        refine wp_get (v := vr (gP σ 282 a0)) dX7_needBalloon_44 fl_RX7_19 hk3 rfl ?_
        refine wp_iload_n dX7_needBalloon_47 rfl ?_
        obtain ⟨v16, hm15, h⟩ := h
        refine wp_callV (M' := M_Jx4a65c_get_915e3) (As := [vi a1]) (st := []) (ci := 9) dX7_needBalloon_48 cee_Jx4a65c_get_915e3 np_Jx4a65c_get_915e3 rfl ⟨Nat.le_of_ble_eq_true rfl, Nat.le_of_ble_eq_true rfl, Nat.le_of_ble_eq_true rfl, Nat.le_of_ble_eq_true rfl⟩ wd_301 wd_302 wd_303 rfl (Or.inr ⟨hk5, rfl⟩) (q_small_of (Nat.le_of_ble_eq_true rfl)) hm15 (q_kPr ?_) q_kPr0
        refine wp_less (ac2 := 1) (as2 := 6) (Nat.le_of_ble_eq_true rfl) (Nat.le_of_ble_eq_true rfl) ?_
        obtain ⟨hc17, h⟩ := h
        refine wp_cast (ci := 0) dX7_needBalloon_51 ⟨_, rfl, wd_560⟩ hc17 ?_
        exact wp_ret_a dX7_needBalloon_54 rfl (Or.inl ⟨_, rfl⟩) h
      · replace h := h.2 c14
        exact wp_throwW (n := 2) (text := "no such balloon") (by decide) rfl rfl (by decide +kernel) dX7_needBalloon_32 dX7_needBalloon_35 dX7_needBalloon_36 dX7_needBalloon_39 dX7_needBalloon_42 (q_small_of (Nat.le_of_ble_eq_true rfl)) ⟨Nat.le_of_ble_eq_true rfl, Nat.le_of_ble_eq_true rfl⟩ (Nat.le_of_ble_eq_true rfl) (Nat.le_of_ble_eq_true rfl) h

set_option maxRecDepth 100000 in
set_option maxHeartbeats 4000000 in
theorem wm_X7_needPlace {g : qG} {l : Launch} (hl : l.stackTraces = false) {a0 : Int} {a1 : Int} {σ : qS} {Post : qS → qRs → Prop}
    (h : qR a0 ∧ ((a0 < 0 → Post σ (.inr 2)) ∧ (¬ (a0 < 0) → qR a1 ∧ ((a0 ≤ a1 → Post σ (.inl none)) ∧ (¬ (a0 ≤ a1) → Post σ (.inr 2)))))) : qMet g l M_X7_needPlace [vi a0, vi a1] σ Post := by
  refine qMet_of hl (by decide +kernel) (Nat.le_of_ble_eq_true rfl) (List.forall_mem_cons.mpr ⟨trivial, List.forall_mem_cons.mpr ⟨trivial, fun _ h => nomatch h⟩⟩) ?_
  show qW g l M_X7_needPlace 1 6 0 [some (vi a0), some (vi a1)] [] σ Post
  refine wp_iload_n dX7_needPlace_0 rfl ?_
  obtain ⟨hr1, h⟩ := h
  refine wp_if_lt (tgt := 9) dX7_needPlace_1 (by decide) hr1 (fun c2 => ?_) (fun c2 => ?_)
  · replace h := h.1 c2
    exact wp_throw (n := 2) (text := "no such place") (by decide) rfl rfl (by decide +kernel) dX7_needPlace_9 dX7_needPlace_12 dX7_needPlace_13 dX7_needPlace_15 dX7_needPlace_18 (q_small_of (Nat.le_of_ble_eq_true rfl)) ⟨Nat.le_of_ble_eq_true rfl, Nat.le_of_ble_eq_true rfl⟩ (Nat.le_of_ble_eq_true rfl) (Nat.le_of_ble_eq_true rfl) h
  · replace h := h.2 c2
    refine wp_iload_n dX7_needPlace_4 rfl ?_
    refine wp_iload_n dX7_needPlace_5 rfl ?_
    obtain ⟨hr3, h⟩ := h
    refine wp_icmp_le (tgt := 19) dX7_needPlace_6 (by decide) hr1 hr3 (fun c4 => ?_) (fun c4 => ?_)
    · replace h := h.1 c4
      exact wp_ret_v dX7_needPlace_19 rfl h
    · replace h := h.2 c4
      exact wp_throw (n := 2) (text := "no such place") (by decide) rfl rfl (by decide +kernel) dX7_needPlace_9 dX7_needPlace_12 dX7_needPlace_13 dX7_needPlace_15 dX7_needPlace_18 (q_small_of (Nat.le_of_ble_eq_true rfl)) ⟨Nat.le_of_ble_eq_true rfl, Nat.le_of_ble_eq_true rfl⟩ (Nat.le_of_ble_eq_true rfl) (Nat.le_of_ble_eq_true rfl) h

set_option maxRecDepth 100000 in
set_option maxHeartbeats 4000000 in
theorem wm_X7_needWithin {g : qG} {l : Launch} (hl : l.stackTraces = false) {a0 : Int} {a1 : Int} {a2 : Int} {σ : qS} {Post : qS → qRs → Prop}
    (h : qR a0 ∧ qR a1 ∧ ((a0 < a1 → Post σ (.inr 1)) ∧ (¬ (a0 < a1) → qR a2 ∧ ((a0 ≤ a2 → Post σ (.inl none)) ∧ (¬ (a0 ≤ a2) → Post σ (.inr 1)))))) : qMet g l M_X7_needWithin [vi a0, vi a1, vi a2] σ Post := by
  refine qMet_of hl (by decide +kernel) (Nat.le_of_ble_eq_true rfl) (List.forall_mem_cons.mpr ⟨trivial, List.forall_mem_cons.mpr ⟨trivial, List.forall_mem_cons.mpr ⟨trivial, fun _ h => nomatch h⟩⟩⟩) ?_
  show qW g l M_X7_needWithin 1 6 0 [some (vi a0), some (vi a1), some (vi a2)] [] σ Post
  refine wp_iload_n dX7_needWithin_0 rfl ?_
  refine wp_iload_n dX7_needWithin_1 rfl ?_
  obtain ⟨hr1, hr2, h⟩ := h
  refine wp_icmp_lt (tgt := 10) dX7_needWithin_2 (by decide) hr1 hr2 (fun c3 => ?_) (fun c3 => ?_)
  · replace h := h.1 c3
    exact wp_throwW (n := 1) (text := "out of range") (by decide) rfl rfl (by decide +kernel) dX7_needWithin_10 dX7_needWithin_13 dX7_needWithin_14 dX7_needWithin_17 dX7_needWithin_20 (q_small_of (Nat.le_of_ble_eq_true rfl)) ⟨Nat.le_of_ble_eq_true rfl, Nat.le_of_ble_eq_true rfl⟩ (Nat.le_of_ble_eq_true rfl) (Nat.le_of_ble_eq_true rfl) h
  · replace h := h.2 c3
    refine wp_iload_n dX7_needWithin_5 rfl ?_
    refine wp_iload_n dX7_needWithin_6 rfl ?_
    obtain ⟨hr4, h⟩ := h
    refine wp_icmp_le (tgt := 21) dX7_needWithin_7 (by decide) hr1 hr4 (fun c5 => ?_) (fun c5 => ?_)
    · replace h := h.1 c5
      exact wp_ret_v dX7_needWithin_21 rfl h
    · replace h := h.2 c5
      exact wp_throwW (n := 1) (text := "out of range") (by decide) rfl rfl (by decide +kernel) dX7_needWithin_10 dX7_needWithin_13 dX7_needWithin_14 dX7_needWithin_17 dX7_needWithin_20 (q_small_of (Nat.le_of_ble_eq_true rfl)) ⟨Nat.le_of_ble_eq_true rfl, Nat.le_of_ble_eq_true rfl⟩ (Nat.le_of_ble_eq_true rfl) (Nat.le_of_ble_eq_true rfl) h

set_option maxRecDepth 100000 in
set_option maxHeartbeats 4000000 in
theorem wm_X7_balloonReadAt {g : qG} {l : Launch} (hl : l.stackTraces = false) {a0 : Nat} {a1 : Int} {σ : qS} {Post : qS → qRs → Prop}
    (h : ∃ Inv3 : Nat → Int → Int → Prop, (∃ n : Nat, Inv3 n a1 0) ∧ ∀ (n4 : Nat) (x1 : Int) (x2 : Int), Inv3 n4 x1 x2 → (gK σ a0 = 8 ∧ gK σ (gP σ 280 a0) = 50 ∧ (∃ v12 : Int, qMet g l M_Jx4a65c_size_8abf5 [vr (gP σ 280 a0)] σ (qPi σ v12) ∧ (qR x2 ∧ qR v12 ∧ ((v12 ≤ x2 → Post σ (.inl (some (vr 0)))) ∧ (¬ (v12 ≤ x2) → (∃ v17 : Nat, qMet g l M_Jx4a65c_get_915e3 [vr (gP σ 280 a0), vi x2] σ (qPr σ v17) ∧ ((v17 = 0 ∨ gK σ v17 = 5) ∧ ∃ Inv21 : Nat → Int → Int → Prop, (∃ n : Nat, Inv21 n x1 0) ∧ ∀ (n22 : Nat) (x19 : Int) (x20 : Int), Inv21 n22 x19 x20 → (gK σ v17 = 5 ∧ gK σ (gP σ 161 v17) = 50 ∧ (∃ v30 : Int, qMet g l M_Jx4a65c_size_8abf5 [vr (gP σ 161 v17)] σ (qPi σ v30) ∧ (qR x20 ∧ qR v30 ∧ ((v30 ≤ x20 → ∀ x34 : Int, x34 = x2 + 1 → ∃ n36 : Nat, n36 < n4 ∧ Inv3 n36 x19 x34) ∧ (¬ (v30 ≤ x20) → (∃ v38 : Nat, qMet g l M_Jx4a65c_get_915e3 [vr (gP σ 161 v17), vi x20] σ (qPr σ v38) ∧ ((v38 = 0 ∨ gK σ v38 = 6) ∧ qR x19 ∧ ((x19 < 0 → gK σ v38 = 6 ∧ gK σ (gP σ 206 v38) = 50 ∧ (∃ v45 : Int, qMet g l M_Jx4a65c_size_8abf5 [vr (gP σ 206 v38)] σ (qPi σ v45) ∧ (∀ x46 : Int, x46 = x19 - v45 → ∀ x48 : Int, x48 = x20 + 1 → ∃ n50 : Nat, n50 < n22 ∧ Inv21 n50 x46 x48))) ∧ (¬ (x19 < 0) → gK σ v38 = 6 ∧ gK σ (gP σ 206 v38) = 50 ∧ (∃ v54 : Int, qMet g l M_Jx4a65c_size_8abf5 [vr (gP σ 206 v38)] σ (qPi σ v54) ∧ (qR v54 ∧ ((v54 ≤ x19 → (∃ v58 : Int, qMet g l M_Jx4a65c_size_8abf5 [vr (gP σ 206 v38)] σ (qPi σ v58) ∧ (∀ x59 : Int, x59 = x19 - v58 → ∀ x61 : Int, x61 = x20 + 1 → ∃ n63 : Nat, n63 < n22 ∧ Inv21 n63 x59 x61))) ∧ (¬ (v54 ≤ x19) → (∃ v65 : Nat, qMet g l M_Jx4a65c_get_915e3 [vr (gP σ 206 v38), vi x19] σ (qPr σ v65) ∧ ((v65 = 0 ∨ gK σ v65 = 1) ∧ Post σ (.inl (some (vr v65)))))))))))))))))))))))))) : qMet g l M_X7_balloonReadAt [vr a0, vi a1] σ Post := by
  refine qMet_of hl (by decide +kernel) (Nat.le_of_ble_eq_true rfl) (List.forall_mem_cons.mpr ⟨trivial, List.forall_mem_cons.mpr ⟨trivial, fun _ h => nomatch h⟩⟩) ?_
  show qW g l M_X7_balloonReadAt 0 0 0 [some (vr a0), some (vi a1), none, none, none, none, none] [] σ Post
  refine wp_iload_n dX7_balloonReadAt_0 rfl ?_
  refine wp_istore_n' (ls' := [some (vr a0), some (vi a1), some (vi a1), none, none, none, none]) dX7_balloonReadAt_1 (Nat.le_of_ble_eq_true rfl) rfl ?_
  refine wp_iconst dX7_balloonReadAt_2 ?_
  refine wp_istore_n' (ls' := [some (vr a0), some (vi a1), some (vi a1), some (vi 0), none, none, none]) dX7_balloonReadAt_3 (Nat.le_of_ble_eq_true rfl) rfl ?_
  obtain ⟨Inv3, ⟨n4_0, h08⟩, hb7⟩ := h
  have loop68 : ∀ (n4 : Nat) (x1 : Int) (x2 : Int), Inv3 n4 x1 x2 → qW g l M_X7_balloonReadAt 0 0 4 [some (vr a0), some (vi a1), some (vi x1), some (vi x2), none, none, none] [] σ Post := by
    intro n4
    induction n4 using Nat.strongRecOn with
    | ind n4 ih5 =>
      intro x1 x2 hI6
      have h := hb7 n4 x1 x2 hI6
      refine wp_iload_n dX7_balloonReadAt_4 rfl ?_
      refine wp_aload_n dX7_balloonReadAt_5 rfl ?_
      obtain ⟨hk9, h⟩ := h
      refine wp_get (v := vr (gP σ 280 a0)) dX7_balloonReadAt_6 fl_RX7_10 hk9 rfl ?_
      obtain ⟨hk11, h⟩ := h
      obtain ⟨v12, hm10, h⟩ := h
      refine wp_callV (M' := M_Jx4a65c_size_8abf5) (As := []) (st := [vi x2]) (ci := 9) dX7_balloonReadAt_9 cee_Jx4a65c_size_8abf5 np_Jx4a65c_size_8abf5 rfl ⟨Nat.le_of_ble_eq_true rfl, Nat.le_of_ble_eq_true rfl, Nat.le_of_ble_eq_true rfl, Nat.le_of_ble_eq_true rfl⟩ wd_112 wd_113 wd_114 rfl (Or.inr ⟨hk11, rfl⟩) (q_small_of (Nat.le_of_ble_eq_true rfl)) hm10 (q_kPi ?_) q_kPi0
      refine wp_less (ac2 := 0) (as2 := 0) (Nat.le_of_ble_eq_true rfl) (Nat.le_of_ble_eq_true rfl) ?_
      obtain ⟨hr13, hr14, h⟩ := h
      refine wp_icmp_ge (tgt := 111) dX7_balloonReadAt_12 (by decide) hr13 hr14 (fun c15 => ?_) (fun c15 => ?_)
      · replace h := h.1 c15
        refine wp_null dX7_balloonReadAt_111 ?_
        exact wp_ret_a dX7_balloonReadAt_112 rfl (Or.inl ⟨_, rfl⟩) h
      · replace h := h.2 c15
        refine wp_aload_n dX7_balloonReadAt_15 rfl ?_
        refine wp_get (v := vr (gP σ 280 a0)) dX7_balloonReadAt_16 fl_RX7_10 hk9 rfl ?_
        refine wp_iload_n dX7_balloonReadAt_19 rfl ?_
        obtain ⟨v17, hm16, h⟩ := h
        refine wp_callV (M' := M_Jx4a65c_get_915e3) (As := [vi x2]) (st := []) (ci := 9) dX7_balloonReadAt_20 cee_Jx4a65c_get_915e3 np_Jx4a65c_get_915e3 rfl ⟨Nat.le_of_ble_eq_true rfl, Nat.le_of_ble_eq_true rfl, Nat.le_of_ble_eq_true rfl, Nat.le_of_ble_eq_true rfl⟩ wd_301 wd_302 wd_303 rfl (Or.inr ⟨hk11, rfl⟩) (q_small_of (Nat.le_of_ble_eq_true rfl)) hm16 (q_kPr ?_) q_kPr0
        refine wp_less (ac2 := 0) (as2 := 0) (Nat.le_of_ble_eq_true rfl) (Nat.le_of_ble_eq_true rfl) ?_
        obtain ⟨hc18, h⟩ := h
        refine wp_cast (ci := 4) dX7_balloonReadAt_23 ⟨_, rfl, wd_184⟩ hc18 ?_
        refine wp_astore' (ls' := [some (vr a0), some (vi a1), some (vi x1), some (vi x2), some (vr v17), none, none]) dX7_balloonReadAt_26 (Nat.le_of_ble_eq_true rfl) rfl ?_
        refine wp_iconst dX7_balloonReadAt_28 ?_
        refine wp_istore' (ls' := [some (vr a0), some (vi a1), some (vi x1), some (vi x2), some (vr v17), some (vi 0), none]) dX7_balloonReadAt_29 (Nat.le_of_ble_eq_true rfl) rfl ?_
        obtain ⟨Inv21, ⟨n22_0, h026⟩, hb25⟩ := h
        have loop67 : ∀ (n22 : Nat) (x19 : Int) (x20 : Int), Inv21 n22 x19 x20 → qW g l M_X7_balloonReadAt 0 0 31 [some (vr a0), some (vi a1), some (vi x19), some (vi x2), some (vr v17), some (vi x20), none] [] σ Post := by
          intro n22
          induction n22 using Nat.strongRecOn with
          | ind n22 ih23 =>
            intro x19 x20 hI24
            have h := hb25 n22 x19 x20 hI24
            refine wp_iload dX7_balloonReadAt_31 rfl ?_
            refine wp_aload dX7_balloonReadAt_33 rfl ?_
            obtain ⟨hk27, h⟩ := h
            refine wp_get (v := vr (gP σ 161 v17)) dX7_balloonReadAt_35 fl_RX7_64 hk27 rfl ?_
            obtain ⟨hk29, h⟩ := h
            obtain ⟨v30, hm28, h⟩ := h
            refine wp_callV (M' := M_Jx4a65c_size_8abf5) (As := []) (st := [vi x20]) (ci := 9) dX7_balloonReadAt_38 cee_Jx4a65c_size_8abf5 np_Jx4a65c_size_8abf5 rfl ⟨Nat.le_of_ble_eq_true rfl, Nat.le_of_ble_eq_true rfl, Nat.le_of_ble_eq_true rfl, Nat.le_of_ble_eq_true rfl⟩ wd_112 wd_113 wd_114 rfl (Or.inr ⟨hk29, rfl⟩) (q_small_of (Nat.le_of_ble_eq_true rfl)) hm28 (q_kPi ?_) q_kPi0
            refine wp_less (ac2 := 0) (as2 := 0) (Nat.le_of_ble_eq_true rfl) (Nat.le_of_ble_eq_true rfl) ?_
            obtain ⟨hr31, hr32, h⟩ := h
            refine wp_icmp_ge (tgt := 105) dX7_balloonReadAt_41 (by decide) hr31 hr32 (fun c33 => ?_) (fun c33 => ?_)
            · replace h := h.1 c33
              refine wp_nmT (x2 + 1) (fun x34 hx35 => ?_)
              replace h := h x34 hx35
              refine wp_iinc' (z' := x34) (ls' := [some (vr a0), some (vi a1), some (vi x19), some (vi x34), some (vr v17), some (vi x20), none]) dX7_balloonReadAt_105 (Nat.le_of_ble_eq_true rfl) rfl hx35 rfl ?_
              refine wp_goto (tgt := 4) dX7_balloonReadAt_108 (by decide) ?_
              obtain ⟨n36, hlt, h⟩ := h
              exact wp_lsub (ls' := [some (vr a0), some (vi a1), some (vi x19), some (vi x34), none, none, none]) ⟨rfl, ⟨rfl, ⟨rfl, ⟨rfl, trivial⟩⟩⟩⟩ (ih5 n36 hlt _ _ h)
            · replace h := h.2 c33
              refine wp_aload dX7_balloonReadAt_44 rfl ?_
              refine wp_get (v := vr (gP σ 161 v17)) dX7_balloonReadAt_46 fl_RX7_64 hk27 rfl ?_
              refine wp_iload dX7_balloonReadAt_49 rfl ?_
              obtain ⟨v38, hm37, h⟩ := h
              refine wp_callV (M' := M_Jx4a65c_get_915e3) (As := [vi x20]) (st := []) (ci := 9) dX7_balloonReadAt_51 cee_Jx4a65c_get_915e3 np_Jx4a65c_get_915e3 rfl ⟨Nat.le_of_ble_eq_true rfl, Nat.le_of_ble_eq_true rfl, Nat.le_of_ble_eq_true rfl, Nat.le_of_ble_eq_true rfl⟩ wd_301 wd_302 wd_303 rfl (Or.inr ⟨hk29, rfl⟩) (q_small_of (Nat.le_of_ble_eq_true rfl)) hm37 (q_kPr ?_) q_kPr0
              refine wp_less (ac2 := 0) (as2 := 0) (Nat.le_of_ble_eq_true rfl) (Nat.le_of_ble_eq_true rfl) ?_
              obtain ⟨hc39, h⟩ := h
              refine wp_cast (ci := 5) dX7_balloonReadAt_54 ⟨_, rfl, wd_339⟩ hc39 ?_
              refine wp_astore' (ls' := [some (vr a0), some (vi a1), some (vi x19), some (vi x2), some (vr v17), some (vi x20), some (vr v38)]) dX7_balloonReadAt_57 (Nat.le_of_ble_eq_true rfl) rfl ?_
              refine wp_iload_n dX7_balloonReadAt_59 rfl ?_
              obtain ⟨hr40, h⟩ := h
              refine wp_if_lt (tgt := 88) dX7_balloonReadAt_60 (by decide) hr40 (fun c41 => ?_) (fun c41 => ?_)
              · replace h := h.1 c41
                refine wp_iload_n dX7_balloonReadAt_88 rfl ?_
                refine wp_aload dX7_balloonReadAt_89 rfl ?_
                obtain ⟨hk42, h⟩ := h
                refine wp_get (v := vr (gP σ 206 v38)) dX7_balloonReadAt_91 fl_RX7_137 hk42 rfl ?_
                obtain ⟨hk44, h⟩ := h
                obtain ⟨v45, hm43, h⟩ := h
                refine wp_callV (M' := M_Jx4a65c_size_8abf5) (As := []) (st := [vi x19]) (ci := 9) dX7_balloonReadAt_94 cee_Jx4a65c_size_8abf5 np_Jx4a65c_size_8abf5 rfl ⟨Nat.le_of_ble_eq_true rfl, Nat.le_of_ble_eq_true rfl, Nat.le_of_ble_eq_true rfl, Nat.le_of_ble_eq_true rfl⟩ wd_112 wd_113 wd_114 rfl (Or.inr ⟨hk44, rfl⟩) (q_small_of (Nat.le_of_ble_eq_true rfl)) hm43 (q_kPi ?_) q_kPi0
                refine wp_less (ac2 := 0) (as2 := 0) (Nat.le_of_ble_eq_true rfl) (Nat.le_of_ble_eq_true rfl) ?_
                refine wp_isub dX7_balloonReadAt_97 ?_
                refine wp_nmI (fun x46 hx47 => ?_)
                replace h := h x46 hx47
                refine wp_istore_n' (ls' := [some (vr a0), some (vi a1), some (vi x46), some (vi x2), some (vr v17), some (vi x20), some (vr v38)]) dX7_balloonReadAt_98 (Nat.le_of_ble_eq_true rfl) rfl ?_
                refine wp_nmT (x20 + 1) (fun x48 hx49 => ?_)
                replace h := h x48 hx49
                refine wp_iinc' (z' := x48) (ls' := [some (vr a0), some (vi a1), some (vi x46), some (vi x2), some (vr v17), some (vi x48), some (vr v38)]) dX7_balloonReadAt_99 (Nat.le_of_ble_eq_true rfl) rfl hx49 rfl ?_
                refine wp_goto (tgt := 31) dX7_balloonReadAt_102 (by decide) ?_
                obtain ⟨n50, hlt, h⟩ := h
                exact wp_lsub (ls' := [some (vr a0), some (vi a1), some (vi x46), some (vi x2), some (vr v17), some (vi x48), none]) ⟨rfl, ⟨rfl, ⟨rfl, ⟨rfl, ⟨rfl, ⟨rfl, trivial⟩⟩⟩⟩⟩⟩ (ih23 n50 hlt _ _ h)
              · replace h := h.2 c41
                refine wp_iload_n dX7_balloonReadAt_63 rfl ?_
                refine wp_aload dX7_balloonReadAt_64 rfl ?_
                obtain ⟨hk51, h⟩ := h
                refine wp_get (v := vr (gP σ 206 v38)) dX7_balloonReadAt_66 fl_RX7_137 hk51 rfl ?_
                obtain ⟨hk53, h⟩ := h
                obtain ⟨v54, hm52, h⟩ := h
                refine wp_callV (M' := M_Jx4a65c_size_8abf5) (As := []) (st := [vi x19]) (ci := 9) dX7_balloonReadAt_69 cee_Jx4a65c_size_8abf5 np_Jx4a65c_size_8abf5 rfl ⟨Nat.le_of_ble_eq_true rfl, Nat.le_of_ble_eq_true rfl, Nat.le_of_ble_eq_true rfl, Nat.le_of_ble_eq_true rfl⟩ wd_112 wd_113 wd_114 rfl (Or.inr ⟨hk53, rfl⟩) (q_small_of (Nat.le_of_ble_eq_true rfl)) hm52 (q_kPi ?_) q_kPi0
                refine wp_less (ac2 := 0) (as2 := 0) (Nat.le_of_ble_eq_true rfl) (Nat.le_of_ble_eq_true rfl) ?_
                obtain ⟨hr55, h⟩ := h
                refine wp_icmp_ge (tgt := 88) dX7_balloonReadAt_72 (by decide) hr40 hr55 (fun c56 => ?_) (fun c56 => ?_)
                · replace h := h.1 c56
                  refine wp_iload_n dX7_balloonReadAt_88 rfl ?_
                  refine wp_aload dX7_balloonReadAt_89 rfl ?_
                  refine wp_get (v := vr (gP σ 206 v38)) dX7_balloonReadAt_91 fl_RX7_137 hk51 rfl ?_
                  obtain ⟨v58, hm57, h⟩ := h
                  refine wp_callV (M' := M_Jx4a65c_size_8abf5) (As := []) (st := [vi x19]) (ci := 9) dX7_balloonReadAt_94 cee_Jx4a65c_size_8abf5 np_Jx4a65c_size_8abf5 rfl ⟨Nat.le_of_ble_eq_true rfl, Nat.le_of_ble_eq_true rfl, Nat.le_of_ble_eq_true rfl, Nat.le_of_ble_eq_true rfl⟩ wd_112 wd_113 wd_114 rfl (Or.inr ⟨hk53, rfl⟩) (q_small_of (Nat.le_of_ble_eq_true rfl)) hm57 (q_kPi ?_) q_kPi0
                  refine wp_less (ac2 := 0) (as2 := 0) (Nat.le_of_ble_eq_true rfl) (Nat.le_of_ble_eq_true rfl) ?_
                  refine wp_isub dX7_balloonReadAt_97 ?_
                  refine wp_nmI (fun x59 hx60 => ?_)
                  replace h := h x59 hx60
                  refine wp_istore_n' (ls' := [some (vr a0), some (vi a1), some (vi x59), some (vi x2), some (vr v17), some (vi x20), some (vr v38)]) dX7_balloonReadAt_98 (Nat.le_of_ble_eq_true rfl) rfl ?_
                  refine wp_nmT (x20 + 1) (fun x61 hx62 => ?_)
                  replace h := h x61 hx62
                  refine wp_iinc' (z' := x61) (ls' := [some (vr a0), some (vi a1), some (vi x59), some (vi x2), some (vr v17), some (vi x61), some (vr v38)]) dX7_balloonReadAt_99 (Nat.le_of_ble_eq_true rfl) rfl hx62 rfl ?_
                  refine wp_goto (tgt := 31) dX7_balloonReadAt_102 (by decide) ?_
                  obtain ⟨n63, hlt, h⟩ := h
                  exact wp_lsub (ls' := [some (vr a0), some (vi a1), some (vi x59), some (vi x2), some (vr v17), some (vi x61), none]) ⟨rfl, ⟨rfl, ⟨rfl, ⟨rfl, ⟨rfl, ⟨rfl, trivial⟩⟩⟩⟩⟩⟩ (ih23 n63 hlt _ _ h)
                · replace h := h.2 c56
                  refine wp_aload dX7_balloonReadAt_75 rfl ?_
                  refine wp_get (v := vr (gP σ 206 v38)) dX7_balloonReadAt_77 fl_RX7_137 hk51 rfl ?_
                  refine wp_iload_n dX7_balloonReadAt_80 rfl ?_
                  obtain ⟨v65, hm64, h⟩ := h
                  refine wp_callV (M' := M_Jx4a65c_get_915e3) (As := [vi x19]) (st := []) (ci := 9) dX7_balloonReadAt_81 cee_Jx4a65c_get_915e3 np_Jx4a65c_get_915e3 rfl ⟨Nat.le_of_ble_eq_true rfl, Nat.le_of_ble_eq_true rfl, Nat.le_of_ble_eq_true rfl, Nat.le_of_ble_eq_true rfl⟩ wd_301 wd_302 wd_303 rfl (Or.inr ⟨hk53, rfl⟩) (q_small_of (Nat.le_of_ble_eq_true rfl)) hm64 (q_kPr ?_) q_kPr0
                  refine wp_less (ac2 := 0) (as2 := 0) (Nat.le_of_ble_eq_true rfl) (Nat.le_of_ble_eq_true rfl) ?_
                  obtain ⟨hc66, h⟩ := h
                  refine wp_cast (ci := 0) dX7_balloonReadAt_84 ⟨_, rfl, wd_560⟩ hc66 ?_
                  exact wp_ret_a dX7_balloonReadAt_87 rfl (Or.inl ⟨_, rfl⟩) h
        exact wp_lsub (ls' := [some (vr a0), some (vi a1), some (vi x1), some (vi x2), some (vr v17), some (vi 0), none]) ⟨rfl, ⟨rfl, ⟨rfl, ⟨rfl, ⟨rfl, ⟨rfl, trivial⟩⟩⟩⟩⟩⟩ (loop67 _ _ _ h026)
  exact wp_lsub (ls' := [some (vr a0), some (vi a1), some (vi a1), some (vi 0), none, none, none]) ⟨rfl, ⟨rfl, ⟨rfl, ⟨rfl, trivial⟩⟩⟩⟩ (loop68 _ _ _ h08)

set_option maxRecDepth 100000 in
set_option maxHeartbeats 4000000 in
theorem wm_X7_countReadBefore {g : qG} {l : Launch} (hl : l.stackTraces = false) {a0 : Nat} {a1 : Nat} {σ : qS} {Post : qS → qRs → Prop}
    (h : gK σ a1 = 1 ∧ (∃ v3 : Int, qMet g l M_X0_readingKey [vr a1] σ (qPi σ v3) ∧ (∃ Inv6 : Nat → Int → Int → Prop, (∃ n : Nat, Inv6 n 0 0) ∧ ∀ (n7 : Nat) (x4 : Int) (x5 : Int), Inv6 n7 x4 x5 → (gK σ a0 = 8 ∧ gK σ (gP σ 282 a0) = 50 ∧ (∃ v15 : Int, qMet g l M_Jx4a65c_size_8abf5 [vr (gP σ 282 a0)] σ (qPi σ v15) ∧ (qR x5 ∧ qR v15 ∧ ((v15 ≤ x5 → Post σ (.inl (some (vi x4)))) ∧ (¬ (v15 ≤ x5) → (∃ v20 : Nat, qMet g l M_Jx4a65c_get_915e3 [vr (gP σ 282 a0), vi x5] σ (qPr σ v20) ∧ ((v20 = 0 ∨ gK σ v20 = 1) ∧ gK σ v20 = 1 ∧ qR (gI σ 6 v20) ∧ ((¬ (gI σ 6 v20) = 0 → ∀ x25 : Int, x25 = x5 + 1 → ∃ n27 : Nat, n27 < n7 ∧ Inv6 n27 x4 x25) ∧ ((gI σ 6 v20) = 0 → (∃ v29 : Int, qMet g l M_X0_readingKey [vr v20] σ (qPi σ v29) ∧ (qR v29 ∧ qR v3 ∧ ((v3 ≤ v29 → ∀ x33 : Int, x33 = x5 + 1 → ∃ n35 : Nat, n35 < n7 ∧ Inv6 n35 x4 x33) ∧ (¬ (v3 ≤ v29) → ∀ x36 : Int, x36 = x4 + 1 → ∀ x38 : Int, x38 = x5 + 1 → ∃ n40 : Nat, n40 < n7 ∧ Inv6 n40 x36 x38)))))))))))))))) : qMet g l M_X7_countReadBefore [vr a0, vr a1] σ Post := by
  refine qMet_of hl (by decide +kernel) (Nat.le_of_ble_eq_true rfl) (List.forall_mem_cons.mpr ⟨trivial, List.forall_mem_cons.mpr ⟨trivial, fun _ h => nomatch h⟩⟩) ?_
  show qW g l M_X7_countReadBefore 0 0 0 [some (vr a0), some (vr a1), none, none, none, none] [] σ Post
  refine wp_aload_n dX7_countReadBefore_0 rfl ?_
  obtain ⟨hk2, h⟩ := h
  obtain ⟨v3, hm1, h⟩ := h
  refine wp_callV (M' := M_X0_readingKey) (As := []) (st := []) (ci := 0) dX7_countReadBefore_1 cee_X0_readingKey np_X0_readingKey rfl ⟨Nat.le_of_ble_eq_true rfl, Nat.le_of_ble_eq_true rfl, Nat.le_of_ble_eq_true rfl, Nat.le_of_ble_eq_true rfl⟩ wd_561 wd_562 wd_563 rfl (Or.inl hk2) (q_small_of (Nat.le_of_ble_eq_true rfl)) hm1 (q_kPi ?_) q_kPi0
  refine wp_less (ac2 := 0) (as2 := 0) (Nat.le_of_ble_eq_true rfl) (Nat.le_of_ble_eq_true rfl) ?_
  refine wp_istore_n' (ls' := [some (vr a0), some (vr a1), some (vi v3), none, none, none]) dX7_countReadBefore_4 (Nat.le_of_ble_eq_true rfl) rfl ?_
  refine wp_iconst dX7_countReadBefore_5 ?_
  refine wp_istore_n' (ls' := [some (vr a0), some (vr a1), some (vi v3), some (vi 0), none, none]) dX7_countReadBefore_6 (Nat.le_of_ble_eq_true rfl) rfl ?_
  refine wp_iconst dX7_countReadBefore_7 ?_
  refine wp_istore' (ls' := [some (vr a0), some (vr a1), some (vi v3), some (vi 0), some (vi 0), none]) dX7_countReadBefore_8 (Nat.le_of_ble_eq_true rfl) rfl ?_
  obtain ⟨Inv6, ⟨n7_0, h011⟩, hb10⟩ := h
  have loop41 : ∀ (n7 : Nat) (x4 : Int) (x5 : Int), Inv6 n7 x4 x5 → qW g l M_X7_countReadBefore 0 0 10 [some (vr a0), some (vr a1), some (vi v3), some (vi x4), some (vi x5), none] [] σ Post := by
    intro n7
    induction n7 using Nat.strongRecOn with
    | ind n7 ih8 =>
      intro x4 x5 hI9
      have h := hb10 n7 x4 x5 hI9
      refine wp_iload dX7_countReadBefore_10 rfl ?_
      refine wp_aload_n dX7_countReadBefore_12 rfl ?_
      obtain ⟨hk12, h⟩ := h
      refine wp_get (v := vr (gP σ 282 a0)) dX7_countReadBefore_13 fl_RX7_19 hk12 rfl ?_
      obtain ⟨hk14, h⟩ := h
      obtain ⟨v15, hm13, h⟩ := h
      refine wp_callV (M' := M_Jx4a65c_size_8abf5) (As := []) (st := [vi x5]) (ci := 9) dX7_countReadBefore_16 cee_Jx4a65c_size_8abf5 np_Jx4a65c_size_8abf5 rfl ⟨Nat.le_of_ble_eq_true rfl, Nat.le_of_ble_eq_true rfl, Nat.le_of_ble_eq_true rfl, Nat.le_of_ble_eq_true rfl⟩ wd_112 wd_113 wd_114 rfl (Or.inr ⟨hk14, rfl⟩) (q_small_of (Nat.le_of_ble_eq_true rfl)) hm13 (q_kPi ?_) q_kPi0
      refine wp_less (ac2 := 0) (as2 := 0) (Nat.le_of_ble_eq_true rfl) (Nat.le_of_ble_eq_true rfl) ?_
      obtain ⟨hr16, hr17, h⟩ := h
      refine wp_icmp_ge (tgt := 62) dX7_countReadBefore_19 (by decide) hr16 hr17 (fun c18 => ?_) (fun c18 => ?_)
      · replace h := h.1 c18
        refine wp_iload_n dX7_countReadBefore_62 rfl ?_
        exact wp_ret_i dX7_countReadBefore_63 rfl rfl h
      · replace h := h.2 c18
        refine wp_aload_n dX7_countReadBefore_22 rfl ?_
        refine wp_get (v := vr (gP σ 282 a0)) dX7_countReadBefore_23 fl_RX7_19 hk12 rfl ?_
        refine wp_iload dX7_countReadBefore_26 rfl ?_
        obtain ⟨v20, hm19, h⟩ := h
        refine wp_callV (M' := M_Jx4a65c_get_915e3) (As := [vi x5]) (st := []) (ci := 9) dX7_countReadBefore_28 cee_Jx4a65c_get_915e3 np_Jx4a65c_get_915e3 rfl ⟨Nat.le_of_ble_eq_true rfl, Nat.le_of_ble_eq_true rfl, Nat.le_of_ble_eq_true rfl, Nat.le_of_ble_eq_true rfl⟩ wd_301 wd_302 wd_303 rfl (Or.inr ⟨hk14, rfl⟩) (q_small_of (Nat.le_of_ble_eq_true rfl)) hm19 (q_kPr ?_) q_kPr0
        refine wp_less (ac2 := 0) (as2 := 0) (Nat.le_of_ble_eq_true rfl) (Nat.le_of_ble_eq_true rfl) ?_
        obtain ⟨hc21, h⟩ := h
        refine wp_cast (ci := 0) dX7_countReadBefore_31 ⟨_, rfl, wd_560⟩ hc21 ?_
        refine wp_astore' (ls' := [some (vr a0), some (vr a1), some (vi v3), some (vi x4), some (vi x5), some (vr v20)]) dX7_countReadBefore_34 (Nat.le_of_ble_eq_true rfl) rfl ?_
        refine wp_aload dX7_countReadBefore_36 rfl ?_
        obtain ⟨hk22, h⟩ := h
        refine wp_get (v := vi (gI σ 6 v20)) dX7_countReadBefore_38 fl_RX7_195 hk22 rfl ?_
        obtain ⟨hr23, h⟩ := h
        refine wp_if_ne (tgt := 56) dX7_countReadBefore_41 (by decide) hr23 (fun c24 => ?_) (fun c24 => ?_)
        · replace h := h.1 c24
          refine wp_nmT (x5 + 1) (fun x25 hx26 => ?_)
          replace h := h x25 hx26
          refine wp_iinc' (z' := x25) (ls' := [some (vr a0), some (vr a1), some (vi v3), some (vi x4), some (vi x25), some (vr v20)]) dX7_countReadBefore_56 (Nat.le_of_ble_eq_true rfl) rfl hx26 rfl ?_
          refine wp_goto (tgt := 10) dX7_countReadBefore_59 (by decide) ?_
          obtain ⟨n27, hlt, h⟩ := h
          exact wp_lsub (ls' := [some (vr a0), some (vr a1), some (vi v3), some (vi x4), some (vi x25), none]) ⟨rfl, ⟨rfl, ⟨rfl, ⟨rfl, ⟨rfl, trivial⟩⟩⟩⟩⟩ (ih8 n27 hlt _ _ h)
        · replace h := h.2 c24
          refine wp_aload dX7_countReadBefore_44 rfl ?_
          obtain ⟨v29, hm28, h⟩ := h
          refine wp_callV (M' := M_X0_readingKey) (As := []) (st := []) (ci := 0) dX7_countReadBefore_46 cee_X0_readingKey np_X0_readingKey rfl ⟨Nat.le_of_ble_eq_true rfl, Nat.le_of_ble_eq_true rfl, Nat.le_of_ble_eq_true rfl, Nat.le_of_ble_eq_true rfl⟩ wd_561 wd_562 wd_563 rfl (Or.inl hk22) (q_small_of (Nat.le_of_ble_eq_true rfl)) hm28 (q_kPi ?_) q_kPi0
          refine wp_less (ac2 := 0) (as2 := 0) (Nat.le_of_ble_eq_true rfl) (Nat.le_of_ble_eq_true rfl) ?_
          refine wp_iload_n dX7_countReadBefore_49 rfl ?_
          obtain ⟨hr30, hr31, h⟩ := h
          refine wp_icmp_ge (tgt := 56) dX7_countReadBefore_50 (by decide) hr30 hr31 (fun c32 => ?_) (fun c32 => ?_)
          · replace h := h.1 c32
            refine wp_nmT (x5 + 1) (fun x33 hx34 => ?_)
            replace h := h x33 hx34
            refine wp_iinc' (z' := x33) (ls' := [some (vr a0), some (vr a1), some (vi v3), some (vi x4), some (vi x33), some (vr v20)]) dX7_countReadBefore_56 (Nat.le_of_ble_eq_true rfl) rfl hx34 rfl ?_
            refine wp_goto (tgt := 10) dX7_countReadBefore_59 (by decide) ?_
            obtain ⟨n35, hlt, h⟩ := h
            exact wp_lsub (ls' := [some (vr a0), some (vr a1), some (vi v3), some (vi x4), some (vi x33), none]) ⟨rfl, ⟨rfl, ⟨rfl, ⟨rfl, ⟨rfl, trivial⟩⟩⟩⟩⟩ (ih8 n35 hlt _ _ h)
          · replace h := h.2 c32
            refine wp_nmT (x4 + 1) (fun x36 hx37 => ?_)
            replace h := h x36 hx37
            refine wp_iinc' (z' := x36) (ls' := [some (vr a0), some (vr a1), some (vi v3), some (vi x36), some (vi x5), some (vr v20)]) dX7_countReadBefore_53 (Nat.le_of_ble_eq_true rfl) rfl hx37 rfl ?_
            refine wp_nmT (x5 + 1) (fun x38 hx39 => ?_)
            replace h := h x38 hx39
            refine wp_iinc' (z' := x38) (ls' := [some (vr a0), some (vr a1), some (vi v3), some (vi x36), some (vi x38), some (vr v20)]) dX7_countReadBefore_56 (Nat.le_of_ble_eq_true rfl) rfl hx39 rfl ?_
            refine wp_goto (tgt := 10) dX7_countReadBefore_59 (by decide) ?_
            obtain ⟨n40, hlt, h⟩ := h
            exact wp_lsub (ls' := [some (vr a0), some (vr a1), some (vi v3), some (vi x36), some (vi x38), none]) ⟨rfl, ⟨rfl, ⟨rfl, ⟨rfl, ⟨rfl, trivial⟩⟩⟩⟩⟩ (ih8 n40 hlt _ _ h)
  exact wp_lsub (ls' := [some (vr a0), some (vr a1), some (vi v3), some (vi 0), some (vi 0), none]) ⟨rfl, ⟨rfl, ⟨rfl, ⟨rfl, ⟨rfl, trivial⟩⟩⟩⟩⟩ (loop41 _ _ _ h011)

set_option maxRecDepth 100000 in
set_option maxHeartbeats 4000000 in
theorem wm_X7_answersComeLater {g : qG} {l : Launch} (hl : l.stackTraces = false) {a0 : Nat} {σ : qS} {Post : qS → qRs → Prop}
    (h : ∃ Inv2 : Nat → Int → Prop, (∃ n : Nat, Inv2 n 0) ∧ ∀ (n3 : Nat) (x1 : Int), Inv2 n3 x1 → (gK σ a0 = 8 ∧ gK σ (gP σ 282 a0) = 50 ∧ (∃ v11 : Int, qMet g l M_Jx4a65c_size_8abf5 [vr (gP σ 282 a0)] σ (qPi σ v11) ∧ (qR x1 ∧ qR v11 ∧ ((v11 ≤ x1 → Post σ (.inl (some (vi 1)))) ∧ (¬ (v11 ≤ x1) → (∃ v16 : Nat, qMet g l M_Jx4a65c_get_915e3 [vr (gP σ 282 a0), vi x1] σ (qPr σ v16) ∧ ((v16 = 0 ∨ gK σ v16 = 1) ∧ gK σ v16 = 1 ∧ qR (gI σ 6 v16) ∧ ((¬ (gI σ 6 v16) = 0 → ∀ x21 : Int, x21 = x1 + 1 → ∃ n23 : Nat, n23 < n3 ∧ Inv2 n23 x21) ∧ ((gI σ 6 v16) = 0 → (((gP σ 5 v16) = 0 → ∀ x25 : Int, x25 = x1 + 1 → ∃ n27 : Nat, n27 < n3 ∧ Inv2 n27 x25) ∧ (¬ ((gP σ 5 v16) = 0) → gK σ (gP σ 5 v16) = 1 ∧ (∃ v30 : Int, qMet g l M_X0_readingKey [vr (gP σ 5 v16)] σ (qPi σ v30) ∧ ((∃ v32 : Int, qMet g l M_X0_readingKey [vr v16] σ (qPi σ v32) ∧ (qR v30 ∧ qR v32 ∧ ((v30 < v32 → ∀ x36 : Int, x36 = x1 + 1 → ∃ n38 : Nat, n38 < n3 ∧ Inv2 n38 x36) ∧ (¬ (v30 < v32) → Post σ (.inl (some (vi 0))))))))))))))))))))) : qMet g l M_X7_answersComeLater [vr a0] σ Post := by
  refine qMet_of hl (by decide +kernel) (Nat.le_of_ble_eq_true rfl) (List.forall_mem_cons.mpr ⟨trivial, fun _ h => nomatch h⟩) ?_
  show qW g l M_X7_answersComeLater 0 0 0 [some (vr a0), none, none] [] σ Post
  refine wp_iconst dX7_answersComeLater_0 ?_
  refine wp_istore_n' (ls' := [some (vr a0), some (vi 0), none]) dX7_answersComeLater_1 (Nat.le_of_ble_eq_true rfl) rfl ?_
  obtain ⟨Inv2, ⟨n3_0, h07⟩, hb6⟩ := h
  have loop39 : ∀ (n3 : Nat) (x1 : Int), Inv2 n3 x1 → qW g l M_X7_answersComeLater 0 0 2 [some (vr a0), some (vi x1), none] [] σ Post := by
    intro n3
    induction n3 using Nat.strongRecOn with
    | ind n3 ih4 =>
      intro x1 hI5
      have h := hb6 n3 x1 hI5
      refine wp_iload_n dX7_answersComeLater_2 rfl ?_
      refine wp_aload_n dX7_answersComeLater_3 rfl ?_
      obtain ⟨hk8, h⟩ := h
      refine wp_get (v := vr (gP σ 282 a0)) dX7_answersComeLater_4 fl_RX7_19 hk8 rfl ?_
      obtain ⟨hk10, h⟩ := h
      obtain ⟨v11, hm9, h⟩ := h
      refine wp_callV (M' := M_Jx4a65c_size_8abf5) (As := []) (st := [vi x1]) (ci := 9) dX7_answersComeLater_7 cee_Jx4a65c_size_8abf5 np_Jx4a65c_size_8abf5 rfl ⟨Nat.le_of_ble_eq_true rfl, Nat.le_of_ble_eq_true rfl, Nat.le_of_ble_eq_true rfl, Nat.le_of_ble_eq_true rfl⟩ wd_112 wd_113 wd_114 rfl (Or.inr ⟨hk10, rfl⟩) (q_small_of (Nat.le_of_ble_eq_true rfl)) hm9 (q_kPi ?_) q_kPi0
      refine wp_less (ac2 := 0) (as2 := 0) (Nat.le_of_ble_eq_true rfl) (Nat.le_of_ble_eq_true rfl) ?_
      obtain ⟨hr12, hr13, h⟩ := h
      refine wp_icmp_ge (tgt := 61) dX7_answersComeLater_10 (by decide) hr12 hr13 (fun c14 => ?_) (fun c14 => ?_)
      · replace h := h.1 c14
        refine wp_iconst dX7_answersComeLater_61 ?_
        exact wp_ret_z dX7_answersComeLater_62 rfl (Or.inr rfl) h
      · replace h := h.2 c14
        refine wp_aload_n dX7_answersComeLater_13 rfl ?_
        refine wp_get (v := vr (gP σ 282 a0)) dX7_answersComeLater_14 fl_RX7_19 hk8 rfl ?_
        refine wp_iload_n dX7_answersComeLater_17 rfl ?_
        obtain ⟨v16, hm15, h⟩ := h
        refine wp_callV (M' := M_Jx4a65c_get_915e3) (As := [vi x1]) (st := []) (ci := 9) dX7_answersComeLater_18 cee_Jx4a65c_get_915e3 np_Jx4a65c_get_915e3 rfl ⟨Nat.le_of_ble_eq_true rfl, Nat.le_of_ble_eq_true rfl, Nat.le_of_ble_eq_true rfl, Nat.le_of_ble_eq_true rfl⟩ wd_301 wd_302 wd_303 rfl (Or.inr ⟨hk10, rfl⟩) (q_small_of (Nat.le_of_ble_eq_true rfl)) hm15 (q_kPr ?_) q_kPr0
        refine wp_less (ac2 := 0) (as2 := 0) (Nat.le_of_ble_eq_true rfl) (Nat.le_of_ble_eq_true rfl) ?_
        obtain ⟨hc17, h⟩ := h
        refine wp_cast (ci := 0) dX7_answersComeLater_21 ⟨_, rfl, wd_560⟩ hc17 ?_
        refine wp_astore_n' (ls' := [some (vr a0), some (vi x1), some (vr v16)]) dX7_answersComeLater_24 (Nat.le_of_ble_eq_true rfl) rfl ?_
        refine wp_aload_n dX7_answersComeLater_25 rfl ?_
        obtain ⟨hk18, h⟩ := h
        refine wp_get (v := vi (gI σ 6 v16)) dX7_answersComeLater_26 fl_RX7_195 hk18 rfl ?_
        obtain ⟨hr19, h⟩ := h
        refine wp_if_ne (tgt := 55) dX7_answersComeLater_29 (by decide) hr19 (fun c20 => ?_) (fun c20 => ?_)
        · replace h := h.1 c20
          refine wp_nmT (x1 + 1) (fun x21 hx22 => ?_)
          replace h := h x21 hx22
          refine wp_iinc' (z' := x21) (ls' := [some (vr a0), some (vi x21), some (vr v16)]) dX7_answersComeLater_55 (Nat.le_of_ble_eq_true rfl) rfl hx22 rfl ?_
          refine wp_goto (tgt := 2) dX7_answersComeLater_58 (by decide) ?_
          obtain ⟨n23, hlt, h⟩ := h
          exact wp_lsub (ls' := [some (vr a0), some (vi x21), none]) ⟨rfl, ⟨rfl, trivial⟩⟩ (ih4 n23 hlt _ h)
        · replace h := h.2 c20
          refine wp_aload_n dX7_answersComeLater_32 rfl ?_
          refine wp_get (v := vr (gP σ 5 v16)) dX7_answersComeLater_33 fl_RX7_204 hk18 rfl ?_
          refine wp_ifnull (tgt := 55) dX7_answersComeLater_36 (by decide) (fun c24 => ?_) (fun c24 => ?_)
          · replace h := h.1 c24
            refine wp_nmT (x1 + 1) (fun x25 hx26 => ?_)
            replace h := h x25 hx26
            refine wp_iinc' (z' := x25) (ls' := [some (vr a0), some (vi x25), some (vr v16)]) dX7_answersComeLater_55 (Nat.le_of_ble_eq_true rfl) rfl hx26 rfl ?_
            refine wp_goto (tgt := 2) dX7_answersComeLater_58 (by decide) ?_
            obtain ⟨n27, hlt, h⟩ := h
            exact wp_lsub (ls' := [some (vr a0), some (vi x25), none]) ⟨rfl, ⟨rfl, trivial⟩⟩ (ih4 n27 hlt _ h)
          · replace h := h.2 c24
            refine wp_aload_n dX7_answersComeLater_39 rfl ?_
            refine wp_get (v := vr (gP σ 5 v16)) dX7_answersComeLater_40 fl_RX7_204 hk18 rfl ?_
            obtain ⟨hk29, h⟩ := h
            obtain ⟨v30, hm28, h⟩ := h
            refine wp_callV (M' := M_X0_readingKey) (As := []) (st := []) (ci := 0) dX7_answersComeLater_43 cee_X0_readingKey np_X0_readingKey rfl ⟨Nat.le_of_ble_eq_true rfl, Nat.le_of_ble_eq_true rfl, Nat.le_of_ble_eq_true rfl, Nat.le_of_ble_eq_true rfl⟩ wd_561 wd_562 wd_563 rfl (Or.inl hk29) (q_small_of (Nat.le_of_ble_eq_true rfl)) hm28 (q_kPi ?_) q_kPi0
            refine wp_less (ac2 := 0) (as2 := 0) (Nat.le_of_ble_eq_true rfl) (Nat.le_of_ble_eq_true rfl) ?_
            refine wp_aload_n dX7_answersComeLater_46 rfl ?_
            obtain ⟨v32, hm31, h⟩ := h
            refine wp_callV (M' := M_X0_readingKey) (As := []) (st := [vi v30]) (ci := 0) dX7_answersComeLater_47 cee_X0_readingKey np_X0_readingKey rfl ⟨Nat.le_of_ble_eq_true rfl, Nat.le_of_ble_eq_true rfl, Nat.le_of_ble_eq_true rfl, Nat.le_of_ble_eq_true rfl⟩ wd_561 wd_562 wd_563 rfl (Or.inl hk18) (q_small_of (Nat.le_of_ble_eq_true rfl)) hm31 (q_kPi ?_) q_kPi0
            refine wp_less (ac2 := 0) (as2 := 0) (Nat.le_of_ble_eq_true rfl) (Nat.le_of_ble_eq_true rfl) ?_
            obtain ⟨hr33, hr34, h⟩ := h
            refine wp_icmp_lt (tgt := 55) dX7_answersComeLater_50 (by decide) hr33 hr34 (fun c35 => ?_) (fun c35 => ?_)
            · replace h := h.1 c35
              refine wp_nmT (x1 + 1) (fun x36 hx37 => ?_)
              replace h := h x36 hx37
              refine wp_iinc' (z' := x36) (ls' := [some (vr a0), some (vi x36), some (vr v16)]) dX7_answersComeLater_55 (Nat.le_of_ble_eq_true rfl) rfl hx37 rfl ?_
              refine wp_goto (tgt := 2) dX7_answersComeLater_58 (by decide) ?_
              obtain ⟨n38, hlt, h⟩ := h
              exact wp_lsub (ls' := [some (vr a0), some (vi x36), none]) ⟨rfl, ⟨rfl, trivial⟩⟩ (ih4 n38 hlt _ h)
            · replace h := h.2 c35
              refine wp_iconst dX7_answersComeLater_53 ?_
              exact wp_ret_z dX7_answersComeLater_54 rfl (Or.inl rfl) h
  exact wp_lsub (ls' := [some (vr a0), some (vi 0), none]) ⟨rfl, ⟨rfl, trivial⟩⟩ (loop39 _ _ h07)

set_option maxRecDepth 100000 in
set_option maxHeartbeats 4000000 in
theorem wm_X7_isAnswered {g : qG} {l : Launch} (hl : l.stackTraces = false) {a0 : Nat} {a1 : Nat} {σ : qS} {Post : qS → qRs → Prop}
    (h : ∃ Inv2 : Nat → Int → Prop, (∃ n : Nat, Inv2 n 0) ∧ ∀ (n3 : Nat) (x1 : Int), Inv2 n3 x1 → (gK σ a0 = 8 ∧ gK σ (gP σ 282 a0) = 50 ∧ (∃ v11 : Int, qMet g l M_Jx4a65c_size_8abf5 [vr (gP σ 282 a0)] σ (qPi σ v11) ∧ (qR x1 ∧ qR v11 ∧ ((v11 ≤ x1 → Post σ (.inl (some (vi 0)))) ∧ (¬ (v11 ≤ x1) → (∃ v16 : Nat, qMet g l M_Jx4a65c_get_915e3 [vr (gP σ 282 a0), vi x1] σ (qPr σ v16) ∧ ((v16 = 0 ∨ gK σ v16 = 1) ∧ gK σ v16 = 1 ∧ qR (gI σ 6 v16) ∧ ((¬ (gI σ 6 v16) = 0 → ∀ x21 : Int, x21 = x1 + 1 → ∃ n23 : Nat, n23 < n3 ∧ Inv2 n23 x21) ∧ ((gI σ 6 v16) = 0 → ((¬ (gP σ 5 v16) = a1 → ∀ x25 : Int, x25 = x1 + 1 → ∃ n27 : Nat, n27 < n3 ∧ Inv2 n27 x25) ∧ ((gP σ 5 v16) = a1 → Post σ (.inl (some (vi 1))))))))))))))) : qMet g l M_X7_isAnswered [vr a0, vr a1] σ Post := by
  refine qMet_of hl (by decide +kernel) (Nat.le_of_ble_eq_true rfl) (List.forall_mem_cons.mpr ⟨trivial, List.forall_mem_cons.mpr ⟨trivial, fun _ h => nomatch h⟩⟩) ?_
  show qW g l M_X7_isAnswered 0 0 0 [some (vr a0), some (vr a1), none, none] [] σ Post
  refine wp_iconst dX7_isAnswered_0 ?_
  refine wp_istore_n' (ls' := [some (vr a0), some (vr a1), some (vi 0), none]) dX7_isAnswered_1 (Nat.le_of_ble_eq_true rfl) rfl ?_
  obtain ⟨Inv2, ⟨n3_0, h07⟩, hb6⟩ := h
  have loop28 : ∀ (n3 : Nat) (x1 : Int), Inv2 n3 x1 → qW g l M_X7_isAnswered 0 0 2 [some (vr a0), some (vr a1), some (vi x1), none] [] σ Post := by
    intro n3
    induction n3 using Nat.strongRecOn with
    | ind n3 ih4 =>
      intro x1 hI5
      have h := hb6 n3 x1 hI5
      refine wp_iload_n dX7_isAnswered_2 rfl ?_
      refine wp_aload_n dX7_isAnswered_3 rfl ?_
      obtain ⟨hk8, h⟩ := h
      refine wp_get (v := vr (gP σ 282 a0)) dX7_isAnswered_4 fl_RX7_19 hk8 rfl ?_
      obtain ⟨hk10, h⟩ := h
      obtain ⟨v11, hm9, h⟩ := h
      refine wp_callV (M' := M_Jx4a65c_size_8abf5) (As := []) (st := [vi x1]) (ci := 9) dX7_isAnswered_7 cee_Jx4a65c_size_8abf5 np_Jx4a65c_size_8abf5 rfl ⟨Nat.le_of_ble_eq_true rfl, Nat.le_of_ble_eq_true rfl, Nat.le_of_ble_eq_true rfl, Nat.le_of_ble_eq_true rfl⟩ wd_112 wd_113 wd_114 rfl (Or.inr ⟨hk10, rfl⟩) (q_small_of (Nat.le_of_ble_eq_true rfl)) hm9 (q_kPi ?_) q_kPi0
      refine wp_less (ac2 := 0) (as2 := 0) (Nat.le_of_ble_eq_true rfl) (Nat.le_of_ble_eq_true rfl) ?_
      obtain ⟨hr12, hr13, h⟩ := h
      refine wp_icmp_ge (tgt := 48) dX7_isAnswered_10 (by decide) hr12 hr13 (fun c14 => ?_) (fun c14 => ?_)
      · replace h := h.1 c14
        refine wp_iconst dX7_isAnswered_48 ?_
        exact wp_ret_z dX7_isAnswered_49 rfl (Or.inl rfl) h
      · replace h := h.2 c14
        refine wp_aload_n dX7_isAnswered_13 rfl ?_
        refine wp_get (v := vr (gP σ 282 a0)) dX7_isAnswered_14 fl_RX7_19 hk8 rfl ?_
        refine wp_iload_n dX7_isAnswered_17 rfl ?_
        obtain ⟨v16, hm15, h⟩ := h
        refine wp_callV (M' := M_Jx4a65c_get_915e3) (As := [vi x1]) (st := []) (ci := 9) dX7_isAnswered_18 cee_Jx4a65c_get_915e3 np_Jx4a65c_get_915e3 rfl ⟨Nat.le_of_ble_eq_true rfl, Nat.le_of_ble_eq_true rfl, Nat.le_of_ble_eq_true rfl, Nat.le_of_ble_eq_true rfl⟩ wd_301 wd_302 wd_303 rfl (Or.inr ⟨hk10, rfl⟩) (q_small_of (Nat.le_of_ble_eq_true rfl)) hm15 (q_kPr ?_) q_kPr0
        refine wp_less (ac2 := 0) (as2 := 0) (Nat.le_of_ble_eq_true rfl) (Nat.le_of_ble_eq_true rfl) ?_
        obtain ⟨hc17, h⟩ := h
        refine wp_cast (ci := 0) dX7_isAnswered_21 ⟨_, rfl, wd_560⟩ hc17 ?_
        refine wp_astore_n' (ls' := [some (vr a0), some (vr a1), some (vi x1), some (vr v16)]) dX7_isAnswered_24 (Nat.le_of_ble_eq_true rfl) rfl ?_
        refine wp_aload_n dX7_isAnswered_25 rfl ?_
        obtain ⟨hk18, h⟩ := h
        refine wp_get (v := vi (gI σ 6 v16)) dX7_isAnswered_26 fl_RX7_195 hk18 rfl ?_
        obtain ⟨hr19, h⟩ := h
        refine wp_if_ne (tgt := 42) dX7_isAnswered_29 (by decide) hr19 (fun c20 => ?_) (fun c20 => ?_)
        · replace h := h.1 c20
          refine wp_nmT (x1 + 1) (fun x21 hx22 => ?_)
          replace h := h x21 hx22
          refine wp_iinc' (z' := x21) (ls' := [some (vr a0), some (vr a1), some (vi x21), some (vr v16)]) dX7_isAnswered_42 (Nat.le_of_ble_eq_true rfl) rfl hx22 rfl ?_
          refine wp_goto (tgt := 2) dX7_isAnswered_45 (by decide) ?_
          obtain ⟨n23, hlt, h⟩ := h
          exact wp_lsub (ls' := [some (vr a0), some (vr a1), some (vi x21), none]) ⟨rfl, ⟨rfl, ⟨rfl, trivial⟩⟩⟩ (ih4 n23 hlt _ h)
        · replace h := h.2 c20
          refine wp_aload_n dX7_isAnswered_32 rfl ?_
          refine wp_get (v := vr (gP σ 5 v16)) dX7_isAnswered_33 fl_RX7_204 hk18 rfl ?_
          refine wp_aload_n dX7_isAnswered_36 rfl ?_
          refine wp_acmp_ne (tgt := 42) dX7_isAnswered_37 (by decide) (fun c24 => ?_) (fun c24 => ?_)
          · replace h := h.1 c24
            refine wp_nmT (x1 + 1) (fun x25 hx26 => ?_)
            replace h := h x25 hx26
            refine wp_iinc' (z' := x25) (ls' := [some (vr a0), some (vr a1), some (vi x25), some (vr v16)]) dX7_isAnswered_42 (Nat.le_of_ble_eq_true rfl) rfl hx26 rfl ?_
            refine wp_goto (tgt := 2) dX7_isAnswered_45 (by decide) ?_
            obtain ⟨n27, hlt, h⟩ := h
            exact wp_lsub (ls' := [some (vr a0), some (vr a1), some (vi x25), none]) ⟨rfl, ⟨rfl, ⟨rfl, trivial⟩⟩⟩ (ih4 n27 hlt _ h)
          · replace h := h.2 c24
            refine wp_iconst dX7_isAnswered_40 ?_
            exact wp_ret_z dX7_isAnswered_41 rfl (Or.inr rfl) h
  exact wp_lsub (ls' := [some (vr a0), some (vr a1), some (vi 0), none]) ⟨rfl, ⟨rfl, ⟨rfl, trivial⟩⟩⟩ (loop28 _ _ h07)

set_option maxRecDepth 100000 in
set_option maxHeartbeats 4000000 in
theorem wm_X7_isAnsweredFromElsewhere {g : qG} {l : Launch} (hl : l.stackTraces = false) {a0 : Nat} {a1 : Nat} {σ : qS} {Post : qS → qRs → Prop}
    (h : ∃ Inv2 : Nat → Int → Prop, (∃ n : Nat, Inv2 n 0) ∧ ∀ (n3 : Nat) (x1 : Int), Inv2 n3 x1 → (gK σ a0 = 8 ∧ gK σ (gP σ 282 a0) = 50 ∧ (∃ v11 : Int, qMet g l M_Jx4a65c_size_8abf5 [vr (gP σ 282 a0)] σ (qPi σ v11) ∧ (qR x1 ∧ qR v11 ∧ ((v11 ≤ x1 → Post σ (.inl (some (vi 0)))) ∧ (¬ (v11 ≤ x1) → (∃ v16 : Nat, qMet g l M_Jx4a65c_get_915e3 [vr (gP σ 282 a0), vi x1] σ (qPr σ v16) ∧ ((v16 = 0 ∨ gK σ v16 = 1) ∧ gK σ v16 = 1 ∧ qR (gI σ 6 v16) ∧ ((¬ (gI σ 6 v16) = 0 → ∀ x21 : Int, x21 = x1 + 1 → ∃ n23 : Nat, n23 < n3 ∧ Inv2 n23 x21) ∧ ((gI σ 6 v16) = 0 → (((gP σ 4 v16) = a1 → ∀ x25 : Int, x25 = x1 + 1 → ∃ n27 : Nat, n27 < n3 ∧ Inv2 n27 x25) ∧ (¬ ((gP σ 4 v16) = a1) → (((gP σ 5 v16) = 0 → ∀ x29 : Int, x29 = x1 + 1 → ∃ n31 : Nat, n31 < n3 ∧ Inv2 n31 x29) ∧ (¬ ((gP σ 5 v16) = 0) → gK σ (gP σ 5 v16) = 1 ∧ ((¬ (gP σ 4 (gP σ 5 v16)) = a1 → ∀ x34 : Int, x34 = x1 + 1 → ∃ n36 : Nat, n36 < n3 ∧ Inv2 n36 x34) ∧ ((gP σ 4 (gP σ 5 v16)) = a1 → Post σ (.inl (some (vi 1))))))))))))))))))) : qMet g l M_X7_isAnsweredFromElsewhere [vr a0, vr a1] σ Post := by
  refine qMet_of hl (by decide +kernel) (Nat.le_of_ble_eq_true rfl) (List.forall_mem_cons.mpr ⟨trivial, List.forall_mem_cons.mpr ⟨trivial, fun _ h => nomatch h⟩⟩) ?_
  show qW g l M_X7_isAnsweredFromElsewhere 0 0 0 [some (vr a0), some (vr a1), none, none] [] σ Post
  refine wp_iconst dX7_isAnsweredFromElsewhere_0 ?_
  refine wp_istore_n' (ls' := [some (vr a0), some (vr a1), some (vi 0), none]) dX7_isAnsweredFromElsewhere_1 (Nat.le_of_ble_eq_true rfl) rfl ?_
  obtain ⟨Inv2, ⟨n3_0, h07⟩, hb6⟩ := h
  have loop37 : ∀ (n3 : Nat) (x1 : Int), Inv2 n3 x1 → qW g l M_X7_isAnsweredFromElsewhere 0 0 2 [some (vr a0), some (vr a1), some (vi x1), none] [] σ Post := by
    intro n3
    induction n3 using Nat.strongRecOn with
    | ind n3 ih4 =>
      intro x1 hI5
      have h := hb6 n3 x1 hI5
      refine wp_iload_n dX7_isAnsweredFromElsewhere_2 rfl ?_
      refine wp_aload_n dX7_isAnsweredFromElsewhere_3 rfl ?_
      obtain ⟨hk8, h⟩ := h
      refine wp_get (v := vr (gP σ 282 a0)) dX7_isAnsweredFromElsewhere_4 fl_RX7_19 hk8 rfl ?_
      obtain ⟨hk10, h⟩ := h
      obtain ⟨v11, hm9, h⟩ := h
      refine wp_callV (M' := M_Jx4a65c_size_8abf5) (As := []) (st := [vi x1]) (ci := 9) dX7_isAnsweredFromElsewhere_7 cee_Jx4a65c_size_8abf5 np_Jx4a65c_size_8abf5 rfl ⟨Nat.le_of_ble_eq_true rfl, Nat.le_of_ble_eq_true rfl, Nat.le_of_ble_eq_true rfl, Nat.le_of_ble_eq_true rfl⟩ wd_112 wd_113 wd_114 rfl (Or.inr ⟨hk10, rfl⟩) (q_small_of (Nat.le_of_ble_eq_true rfl)) hm9 (q_kPi ?_) q_kPi0
      refine wp_less (ac2 := 0) (as2 := 0) (Nat.le_of_ble_eq_true rfl) (Nat.le_of_ble_eq_true rfl) ?_
      obtain ⟨hr12, hr13, h⟩ := h
      refine wp_icmp_ge (tgt := 66) dX7_isAnsweredFromElsewhere_10 (by decide) hr12 hr13 (fun c14 => ?_) (fun c14 => ?_)
      · replace h := h.1 c14
        refine wp_iconst dX7_isAnsweredFromElsewhere_66 ?_
        exact wp_ret_z dX7_isAnsweredFromElsewhere_67 rfl (Or.inl rfl) h
      · replace h := h.2 c14
        refine wp_aload_n dX7_isAnsweredFromElsewhere_13 rfl ?_
        refine wp_get (v := vr (gP σ 282 a0)) dX7_isAnsweredFromElsewhere_14 fl_RX7_19 hk8 rfl ?_
        refine wp_iload_n dX7_isAnsweredFromElsewhere_17 rfl ?_
        obtain ⟨v16, hm15, h⟩ := h
        refine wp_callV (M' := M_Jx4a65c_get_915e3) (As := [vi x1]) (st := []) (ci := 9) dX7_isAnsweredFromElsewhere_18 cee_Jx4a65c_get_915e3 np_Jx4a65c_get_915e3 rfl ⟨Nat.le_of_ble_eq_true rfl, Nat.le_of_ble_eq_true rfl, Nat.le_of_ble_eq_true rfl, Nat.le_of_ble_eq_true rfl⟩ wd_301 wd_302 wd_303 rfl (Or.inr ⟨hk10, rfl⟩) (q_small_of (Nat.le_of_ble_eq_true rfl)) hm15 (q_kPr ?_) q_kPr0
        refine wp_less (ac2 := 0) (as2 := 0) (Nat.le_of_ble_eq_true rfl) (Nat.le_of_ble_eq_true rfl) ?_
        obtain ⟨hc17, h⟩ := h
        refine wp_cast (ci := 0) dX7_isAnsweredFromElsewhere_21 ⟨_, rfl, wd_560⟩ hc17 ?_
        refine wp_astore_n' (ls' := [some (vr a0), some (vr a1), some (vi x1), some (vr v16)]) dX7_isAnsweredFromElsewhere_24 (Nat.le_of_ble_eq_true rfl) rfl ?_
        refine wp_aload_n dX7_isAnsweredFromElsewhere_25 rfl ?_
        obtain ⟨hk18, h⟩ := h
        refine wp_get (v := vi (gI σ 6 v16)) dX7_isAnsweredFromElsewhere_26 fl_RX7_195 hk18 rfl ?_
        obtain ⟨hr19, h⟩ := h
        refine wp_if_ne (tgt := 60) dX7_isAnsweredFromElsewhere_29 (by decide) hr19 (fun c20 => ?_) (fun c20 => ?_)
        · replace h := h.1 c20
          refine wp_nmT (x1 + 1) (fun x21 hx22 => ?_)
          replace h := h x21 hx22
          refine wp_iinc' (z' := x21) (ls' := [some (vr a0), some (vr a1), some (vi x21), some (vr v16)]) dX7_isAnsweredFromElsewhere_60 (Nat.le_of_ble_eq_true rfl) rfl hx22 rfl ?_
          refine wp_goto (tgt := 2) dX7_isAnsweredFromElsewhere_63 (by decide) ?_
          obtain ⟨n23, hlt, h⟩ := h
          exact wp_lsub (ls' := [some (vr a0), some (vr a1), some (vi x21), none]) ⟨rfl, ⟨rfl, ⟨rfl, trivial⟩⟩⟩ (ih4 n23 hlt _ h)
        · replace h := h.2 c20
          refine wp_aload_n dX7_isAnsweredFromElsewhere_32 rfl ?_
          refine wp_get (v := vr (gP σ 4 v16)) dX7_isAnsweredFromElsewhere_33 fl_RX7_175 hk18 rfl ?_
          refine wp_aload_n dX7_isAnsweredFromElsewhere_36 rfl ?_
          refine wp_acmp_eq (tgt := 60) dX7_isAnsweredFromElsewhere_37 (by decide) (fun c24 => ?_) (fun c24 => ?_)
          · replace h := h.1 c24
            refine wp_nmT (x1 + 1) (fun x25 hx26 => ?_)
            replace h := h x25 hx26
            refine wp_iinc' (z' := x25) (ls' := [some (vr a0), some (vr a1), some (vi x25), some (vr v16)]) dX7_isAnsweredFromElsewhere_60 (Nat.le_of_ble_eq_true rfl) rfl hx26 rfl ?_
            refine wp_goto (tgt := 2) dX7_isAnsweredFromElsewhere_63 (by decide) ?_
            obtain ⟨n27, hlt, h⟩ := h
            exact wp_lsub (ls' := [some (vr a0), some (vr a1), some (vi x25), none]) ⟨rfl, ⟨rfl, ⟨rfl, trivial⟩⟩⟩ (ih4 n27 hlt _ h)
          · replace h := h.2 c24
            refine wp_aload_n dX7_isAnsweredFromElsewhere_40 rfl ?_
            refine wp_get (v := vr (gP σ 5 v16)) dX7_isAnsweredFromElsewhere_41 fl_RX7_204 hk18 rfl ?_
            refine wp_ifnull (tgt := 60) dX7_isAnsweredFromElsewhere_44 (by decide) (fun c28 => ?_) (fun c28 => ?_)
            · replace h := h.1 c28
              refine wp_nmT (x1 + 1) (fun x29 hx30 => ?_)
              replace h := h x29 hx30
              refine wp_iinc' (z' := x29) (ls' := [some (vr a0), some (vr a1), some (vi x29), some (vr v16)]) dX7_isAnsweredFromElsewhere_60 (Nat.le_of_ble_eq_true rfl) rfl hx30 rfl ?_
              refine wp_goto (tgt := 2) dX7_isAnsweredFromElsewhere_63 (by decide) ?_
              obtain ⟨n31, hlt, h⟩ := h
              exact wp_lsub (ls' := [some (vr a0), some (vr a1), some (vi x29), none]) ⟨rfl, ⟨rfl, ⟨rfl, trivial⟩⟩⟩ (ih4 n31 hlt _ h)
            · replace h := h.2 c28
              refine wp_aload_n dX7_isAnsweredFromElsewhere_47 rfl ?_
              refine wp_get (v := vr (gP σ 5 v16)) dX7_isAnsweredFromElsewhere_48 fl_RX7_204 hk18 rfl ?_
              obtain ⟨hk32, h⟩ := h
              refine wp_get (v := vr (gP σ 4 (gP σ 5 v16))) dX7_isAnsweredFromElsewhere_51 fl_RX7_175 hk32 rfl ?_
              refine wp_aload_n dX7_isAnsweredFromElsewhere_54 rfl ?_
              refine wp_acmp_ne (tgt := 60) dX7_isAnsweredFromElsewhere_55 (by decide) (fun c33 => ?_) (fun c33 => ?_)
              · replace h := h.1 c33
                refine wp_nmT (x1 + 1) (fun x34 hx35 => ?_)
                replace h := h x34 hx35
                refine wp_iinc' (z' := x34) (ls' := [some (vr a0), some (vr a1), some (vi x34), some (vr v16)]) dX7_isAnsweredFromElsewhere_60 (Nat.le_of_ble_eq_true rfl) rfl hx35 rfl ?_
                refine wp_goto (tgt := 2) dX7_isAnsweredFromElsewhere_63 (by decide) ?_
                obtain ⟨n36, hlt, h⟩ := h
                exact wp_lsub (ls' := [some (vr a0), some (vr a1), some (vi x34), none]) ⟨rfl, ⟨rfl, ⟨rfl, trivial⟩⟩⟩ (ih4 n36 hlt _ h)
              · replace h := h.2 c33
                refine wp_iconst dX7_isAnsweredFromElsewhere_58 ?_
                exact wp_ret_z dX7_isAnsweredFromElsewhere_59 rfl (Or.inr rfl) h
  exact wp_lsub (ls' := [some (vr a0), some (vr a1), some (vi 0), none]) ⟨rfl, ⟨rfl, ⟨rfl, trivial⟩⟩⟩ (loop37 _ _ h07)

set_option maxRecDepth 100000 in
set_option maxHeartbeats 4000000 in
theorem wm_X7_readBehind {g : qG} {l : Launch} (hl : l.stackTraces = false) {a0 : Nat} {a1 : Nat} {σ : qS} {Post : qS → qRs → Prop}
    (h : ∃ Inv3 : Nat → Nat → Int → Prop, (∃ n : Nat, Inv3 n 0 0) ∧ ∀ (n4 : Nat) (x1 : Nat) (x2 : Int), Inv3 n4 x1 x2 → (gK σ a0 = 8 ∧ gK σ (gP σ 280 a0) = 50 ∧ (∃ v12 : Int, qMet g l M_Jx4a65c_size_8abf5 [vr (gP σ 280 a0)] σ (qPi σ v12) ∧ (qR x2 ∧ qR v12 ∧ ((v12 ≤ x2 → Post σ (.inl (some (vr 0)))) ∧ (¬ (v12 ≤ x2) → (∃ v17 : Nat, qMet g l M_Jx4a65c_get_915e3 [vr (gP σ 280 a0), vi x2] σ (qPr σ v17) ∧ ((v17 = 0 ∨ gK σ v17 = 5) ∧ ∃ Inv21 : Nat → Nat → Int → Prop, (∃ n : Nat, Inv21 n x1 0) ∧ ∀ (n22 : Nat) (x19 : Nat) (x20 : Int), Inv21 n22 x19 x20 → (gK σ v17 = 5 ∧ gK σ (gP σ 161 v17) = 50 ∧ (∃ v30 : Int, qMet g l M_Jx4a65c_size_8abf5 [vr (gP σ 161 v17)] σ (qPi σ v30) ∧ (qR x20 ∧ qR v30 ∧ ((v30 ≤ x20 → ∀ x34 : Int, x34 = x2 + 1 → ∃ n36 : Nat, n36 < n4 ∧ Inv3 n36 x19 x34) ∧ (¬ (v30 ≤ x20) → ((¬ x19 = a1 → (∃ v39 : Nat, qMet g l M_Jx4a65c_get_915e3 [vr (gP σ 161 v17), vi x20] σ (qPr σ v39) ∧ ((v39 = 0 ∨ gK σ v39 = 6) ∧ ∀ x41 : Int, x41 = x20 + 1 → ∃ n43 : Nat, n43 < n22 ∧ Inv21 n43 v39 x41))) ∧ (x19 = a1 → (∃ v45 : Nat, qMet g l M_Jx4a65c_get_915e3 [vr (gP σ 161 v17), vi x20] σ (qPr σ v45) ∧ ((v45 = 0 ∨ gK σ v45 = 6) ∧ Post σ (.inl (some (vr v45)))))))))))))))))))) : qMet g l M_X7_readBehind [vr a0, vr a1] σ Post := by
  refine qMet_of hl (by decide +kernel) (Nat.le_of_ble_eq_true rfl) (List.forall_mem_cons.mpr ⟨trivial, List.forall_mem_cons.mpr ⟨trivial, fun _ h => nomatch h⟩⟩) ?_
  show qW g l M_X7_readBehind 0 0 0 [some (vr a0), some (vr a1), none, none, none, none] [] σ Post
  refine wp_null dX7_readBehind_0 ?_
  refine wp_astore_n' (ls' := [some (vr a0), some (vr a1), some (vr 0), none, none, none]) dX7_readBehind_1 (Nat.le_of_ble_eq_true rfl) rfl ?_
  refine wp_iconst dX7_readBehind_2 ?_
  refine wp_istore_n' (ls' := [some (vr a0), some (vr a1), some (vr 0), some (vi 0), none, none]) dX7_readBehind_3 (Nat.le_of_ble_eq_true rfl) rfl ?_
  obtain ⟨Inv3, ⟨n4_0, h08⟩, hb7⟩ := h
  have loop48 : ∀ (n4 : Nat) (x1 : Nat) (x2 : Int), Inv3 n4 x1 x2 → qW g l M_X7_readBehind 0 0 4 [some (vr a0), some (vr a1), some (vr x1), some (vi x2), none, none] [] σ Post := by
    intro n4
    induction n4 using Nat.strongRecOn with
    | ind n4 ih5 =>
      intro x1 x2 hI6
      have h := hb7 n4 x1 x2 hI6
      refine wp_iload_n dX7_readBehind_4 rfl ?_
      refine wp_aload_n dX7_readBehind_5 rfl ?_
      obtain ⟨hk9, h⟩ := h
      refine wp_get (v := vr (gP σ 280 a0)) dX7_readBehind_6 fl_RX7_10 hk9 rfl ?_
      obtain ⟨hk11, h⟩ := h
      obtain ⟨v12, hm10, h⟩ := h
      refine wp_callV (M' := M_Jx4a65c_size_8abf5) (As := []) (st := [vi x2]) (ci := 9) dX7_readBehind_9 cee_Jx4a65c_size_8abf5 np_Jx4a65c_size_8abf5 rfl ⟨Nat.le_of_ble_eq_true rfl, Nat.le_of_ble_eq_true rfl, Nat.le_of_ble_eq_true rfl, Nat.le_of_ble_eq_true rfl⟩ wd_112 wd_113 wd_114 rfl (Or.inr ⟨hk11, rfl⟩) (q_small_of (Nat.le_of_ble_eq_true rfl)) hm10 (q_kPi ?_) q_kPi0
      refine wp_less (ac2 := 0) (as2 := 0) (Nat.le_of_ble_eq_true rfl) (Nat.le_of_ble_eq_true rfl) ?_
      obtain ⟨hr13, hr14, h⟩ := h
      refine wp_icmp_ge (tgt := 89) dX7_readBehind_12 (by decide) hr13 hr14 (fun c15 => ?_) (fun c15 => ?_)
      · replace h := h.1 c15
        refine wp_null dX7_readBehind_89 ?_
        exact wp_ret_a dX7_readBehind_90 rfl (Or.inl ⟨_, rfl⟩) h
      · replace h := h.2 c15
        refine wp_aload_n dX7_readBehind_15 rfl ?_
        refine wp_get (v := vr (gP σ 280 a0)) dX7_readBehind_16 fl_RX7_10 hk9 rfl ?_
        refine wp_iload_n dX7_readBehind_19 rfl ?_
        obtain ⟨v17, hm16, h⟩ := h
        refine wp_callV (M' := M_Jx4a65c_get_915e3) (As := [vi x2]) (st := []) (ci := 9) dX7_readBehind_20 cee_Jx4a65c_get_915e3 np_Jx4a65c_get_915e3 rfl ⟨Nat.le_of_ble_eq_true rfl, Nat.le_of_ble_eq_true rfl, Nat.le_of_ble_eq_true rfl, Nat.le_of_ble_eq_true rfl⟩ wd_301 wd_302 wd_303 rfl (Or.inr ⟨hk11, rfl⟩) (q_small_of (Nat.le_of_ble_eq_true rfl)) hm16 (q_kPr ?_) q_kPr0
        refine wp_less (ac2 := 0) (as2 := 0) (Nat.le_of_ble_eq_true rfl) (Nat.le_of_ble_eq_true rfl) ?_
        obtain ⟨hc18, h⟩ := h
        refine wp_cast (ci := 4) dX7_readBehind_23 ⟨_, rfl, wd_184⟩ hc18 ?_
        refine wp_astore' (ls' := [some (vr a0), some (vr a1), some (vr x1), some (vi x2), some (vr v17), none]) dX7_readBehind_26 (Nat.le_of_ble_eq_true rfl) rfl ?_
        refine wp_iconst dX7_readBehind_28 ?_
        refine wp_istore' (ls' := [some (vr a0), some (vr a1), some (vr x1), some (vi x2), some (vr v17), some (vi 0)]) dX7_readBehind_29 (Nat.le_of_ble_eq_true rfl) rfl ?_
        obtain ⟨Inv21, ⟨n22_0, h026⟩, hb25⟩ := h
        have loop47 : ∀ (n22 : Nat) (x19 : Nat) (x20 : Int), Inv21 n22 x19 x20 → qW g l M_X7_readBehind 0 0 31 [some (vr a0), some (vr a1), some (vr x19), some (vi x2), some (vr v17), some (vi x20)] [] σ Post := by
          intro n22
          induction n22 using Nat.strongRecOn with
          | ind n22 ih23 =>
            intro x19 x20 hI24
            have h := hb25 n22 x19 x20 hI24
            refine wp_iload dX7_readBehind_31 rfl ?_
            refine wp_aload dX7_readBehind_33 rfl ?_
            obtain ⟨hk27, h⟩ := h
            refine wp_get (v := vr (gP σ 161 v17)) dX7_readBehind_35 fl_RX7_64 hk27 rfl ?_
            obtain ⟨hk29, h⟩ := h
            obtain ⟨v30, hm28, h⟩ := h
            refine wp_callV (M' := M_Jx4a65c_size_8abf5) (As := []) (st := [vi x20]) (ci := 9) dX7_readBehind_38 cee_Jx4a65c_size_8abf5 np_Jx4a65c_size_8abf5 rfl ⟨Nat.le_of_ble_eq_true rfl, Nat.le_of_ble_eq_true rfl, Nat.le_of_ble_eq_true rfl, Nat.le_of_ble_eq_true rfl⟩ wd_112 wd_113 wd_114 rfl (Or.inr ⟨hk29, rfl⟩) (q_small_of (Nat.le_of_ble_eq_true rfl)) hm28 (q_kPi ?_) q_kPi0
            refine wp_less (ac2 := 0) (as2 := 0) (Nat.le_of_ble_eq_true rfl) (Nat.le_of_ble_eq_true rfl) ?_
            obtain ⟨hr31, hr32, h⟩ := h
            refine wp_icmp_ge (tgt := 83) dX7_readBehind_41 (by decide) hr31 hr32 (fun c33 => ?_) (fun c33 => ?_)
            · replace h := h.1 c33
              refine wp_nmT (x2 + 1) (fun x34 hx35 => ?_)
              replace h := h x34 hx35
              refine wp_iinc' (z' := x34) (ls' := [some (vr a0), some (vr a1), some (vr x19), some (vi x34), some (vr v17), some (vi x20)]) dX7_readBehind_83 (Nat.le_of_ble_eq_true rfl) rfl hx35 rfl ?_
              refine wp_goto (tgt := 4) dX7_readBehind_86 (by decide) ?_
              obtain ⟨n36, hlt, h⟩ := h
              exact wp_lsub (ls' := [some (vr a0), some (vr a1), some (vr x19), some (vi x34), none, none]) ⟨rfl, ⟨rfl, ⟨rfl, ⟨rfl, trivial⟩⟩⟩⟩ (ih5 n36 hlt _ _ h)
            · replace h := h.2 c33
              refine wp_aload_n dX7_readBehind_44 rfl ?_
              refine wp_aload_n dX7_readBehind_45 rfl ?_
              refine wp_acmp_ne (tgt := 63) dX7_readBehind_46 (by decide) (fun c37 => ?_) (fun c37 => ?_)
              · replace h := h.1 c37
                refine wp_aload dX7_readBehind_63 rfl ?_
                refine wp_get (v := vr (gP σ 161 v17)) dX7_readBehind_65 fl_RX7_64 hk27 rfl ?_
                refine wp_iload dX7_readBehind_68 rfl ?_
                obtain ⟨v39, hm38, h⟩ := h
                refine wp_callV (M' := M_Jx4a65c_get_915e3) (As := [vi x20]) (st := []) (ci := 9) dX7_readBehind_70 cee_Jx4a65c_get_915e3 np_Jx4a65c_get_915e3 rfl ⟨Nat.le_of_ble_eq_true rfl, Nat.le_of_ble_eq_true rfl, Nat.le_of_ble_eq_true rfl, Nat.le_of_ble_eq_true rfl⟩ wd_301 wd_302 wd_303 rfl (Or.inr ⟨hk29, rfl⟩) (q_small_of (Nat.le_of_ble_eq_true rfl)) hm38 (q_kPr ?_) q_kPr0
                refine wp_less (ac2 := 0) (as2 := 0) (Nat.le_of_ble_eq_true rfl) (Nat.le_of_ble_eq_true rfl) ?_
                obtain ⟨hc40, h⟩ := h
                refine wp_cast (ci := 5) dX7_readBehind_73 ⟨_, rfl, wd_339⟩ hc40 ?_
                refine wp_astore_n' (ls' := [some (vr a0), some (vr a1), some (vr v39), some (vi x2), some (vr v17), some (vi x20)]) dX7_readBehind_76 (Nat.le_of_ble_eq_true rfl) rfl ?_
                refine wp_nmT (x20 + 1) (fun x41 hx42 => ?_)
                replace h := h x41 hx42
                refine wp_iinc' (z' := x41) (ls' := [some (vr a0), some (vr a1), some (vr v39), some (vi x2), some (vr v17), some (vi x41)]) dX7_readBehind_77 (Nat.le_of_ble_eq_true rfl) rfl hx42 rfl ?_
                refine wp_goto (tgt := 31) dX7_readBehind_80 (by decide) ?_
                obtain ⟨n43, hlt, h⟩ := h
                exact wp_lsub (ls' := [some (vr a0), some (vr a1), some (vr v39), some (vi x2), some (vr v17), some (vi x41)]) ⟨rfl, ⟨rfl, ⟨rfl, ⟨rfl, ⟨rfl, ⟨rfl, trivial⟩⟩⟩⟩⟩⟩ (ih23 n43 hlt _ _ h)
              · replace h := h.2 c37
                refine wp_aload dX7_readBehind_49 rfl ?_
                refine wp_get (v := vr (gP σ 161 v17)) dX7_readBehind_51 fl_RX7_64 hk27 rfl ?_
                refine wp_iload dX7_readBehind_54 rfl ?_
                obtain ⟨v45, hm44, h⟩ := h
                refine wp_callV (M' := M_Jx4a65c_get_915e3) (As := [vi x20]) (st := []) (ci := 9) dX7_readBehind_56 cee_Jx4a65c_get_915e3 np_Jx4a65c_get_915e3 rfl ⟨Nat.le_of_ble_eq_true rfl, Nat.le_of_ble_eq_true rfl, Nat.le_of_ble_eq_true rfl, Nat.le_of_ble_eq_true rfl⟩ wd_301 wd_302 wd_303 rfl (Or.inr ⟨hk29, rfl⟩) (q_small_of (Nat.le_of_ble_eq_true rfl)) hm44 (q_kPr ?_) q_kPr0
                refine wp_less (ac2 := 0) (as2 := 0) (Nat.le_of_ble_eq_true rfl) (Nat.le_of_ble_eq_true rfl) ?_
                obtain ⟨hc46, h⟩ := h
                refine wp_cast (ci := 5) dX7_readBehind_59 ⟨_, rfl, wd_339⟩ hc46 ?_
                exact wp_ret_a dX7_readBehind_62 rfl (Or.inl ⟨_, rfl⟩) h
        exact wp_lsub (ls' := [some (vr a0), some (vr a1), some (vr x1), some (vi x2), some (vr v17), some (vi 0)]) ⟨rfl, ⟨rfl, ⟨rfl, ⟨rfl, ⟨rfl, ⟨rfl, trivial⟩⟩⟩⟩⟩⟩ (loop47 _ _ _ h026)
  exact wp_lsub (ls' := [some (vr a0), some (vr a1), some (vr 0), some (vi 0), none, none]) ⟨rfl, ⟨rfl, ⟨rfl, ⟨rfl, trivial⟩⟩⟩⟩ (loop48 _ _ _ h08)

set_option maxRecDepth 100000 in
set_option maxHeartbeats 4000000 in
theorem wm_X7_readAheadOf {g : qG} {l : Launch} (hl : l.stackTraces = false) {a0 : Nat} {a1 : Nat} {σ : qS} {Post : qS → qRs → Prop}
    (h : ∃ Inv3 : Nat → Nat → Int → Prop, (∃ n : Nat, Inv3 n 0 0) ∧ ∀ (n4 : Nat) (x1 : Nat) (x2 : Int), Inv3 n4 x1 x2 → (gK σ a0 = 8 ∧ gK σ (gP σ 280 a0) = 50 ∧ (∃ v12 : Int, qMet g l M_Jx4a65c_size_8abf5 [vr (gP σ 280 a0)] σ (qPi σ v12) ∧ (qR x2 ∧ qR v12 ∧ ((v12 ≤ x2 → Post σ (.inl (some (vr 0)))) ∧ (¬ (v12 ≤ x2) → (∃ v17 : Nat, qMet g l M_Jx4a65c_get_915e3 [vr (gP σ 280 a0), vi x2] σ (qPr σ v17) ∧ ((v17 = 0 ∨ gK σ v17 = 5) ∧ ∃ Inv21 : Nat → Nat → Int → Prop, (∃ n : Nat, Inv21 n x1 0) ∧ ∀ (n22 : Nat) (x19 : Nat) (x20 : Int), Inv21 n22 x19 x20 → (gK σ v17 = 5 ∧ gK σ (gP σ 161 v17) = 50 ∧ (∃ v30 : Int, qMet g l M_Jx4a65c_size_8abf5 [vr (gP σ 161 v17)] σ (qPi σ v30) ∧ (qR x20 ∧ qR v30 ∧ ((v30 ≤ x20 → ∀ x34 : Int, x34 = x2 + 1 → ∃ n36 : Nat, n36 < n4 ∧ Inv3 n36 x19 x34) ∧ (¬ (v30 ≤ x20) → (∃ v38 : Nat, qMet g l M_Jx4a65c_get_915e3 [vr (gP σ 161 v17), vi x20] σ (qPr σ v38) ∧ (((¬ v38 = a1 → (∃ v41 : Nat, qMet g l M_Jx4a65c_get_915e3 [vr (gP σ 161 v17), vi x20] σ (qPr σ v41) ∧ ((v41 = 0 ∨ gK σ v41 = 6) ∧ ∀ x43 : Int, x43 = x20 + 1 → ∃ n45 : Nat, n45 < n22 ∧ Inv21 n45 v41 x43))) ∧ (v38 = a1 → Post σ (.inl (some (vr x19)))))))))))))))))))) : qMet g l M_X7_readAheadOf [vr a0, vr a1] σ Post := by
  refine qMet_of hl (by decide +kernel) (Nat.le_of_ble_eq_true rfl) (List.forall_mem_cons.mpr ⟨trivial, List.forall_mem_cons.mpr ⟨trivial, fun _ h => nomatch h⟩⟩) ?_
  show qW g l M_X7_readAheadOf 0 0 0 [some (vr a0), some (vr a1), none, none, none, none] [] σ Post
  refine wp_null dX7_readAheadOf_0 ?_
  refine wp_astore_n' (ls' := [some (vr a0), some (vr a1), some (vr 0), none, none, none]) dX7_readAheadOf_1 (Nat.le_of_ble_eq_true rfl) rfl ?_
  refine wp_iconst dX7_readAheadOf_2 ?_
  refine wp_istore_n' (ls' := [some (vr a0), some (vr a1), some (vr 0), some (vi 0), none, none]) dX7_readAheadOf_3 (Nat.le_of_ble_eq_true rfl) rfl ?_
  obtain ⟨Inv3, ⟨n4_0, h08⟩, hb7⟩ := h
  have loop47 : ∀ (n4 : Nat) (x1 : Nat) (x2 : Int), Inv3 n4 x1 x2 → qW g l M_X7_readAheadOf 0 0 4 [some (vr a0), some (vr a1), some (vr x1), some (vi x2), none, none] [] σ Post := by
    intro n4
    induction n4 using Nat.strongRecOn with
    | ind n4 ih5 =>
      intro x1 x2 hI6
      have h := hb7 n4 x1 x2 hI6
      refine wp_iload_n dX7_readAheadOf_4 rfl ?_
      refine wp_aload_n dX7_readAheadOf_5 rfl ?_
      obtain ⟨hk9, h⟩ := h
      refine wp_get (v := vr (gP σ 280 a0)) dX7_readAheadOf_6 fl_RX7_10 hk9 rfl ?_
      obtain ⟨hk11, h⟩ := h
      obtain ⟨v12, hm10, h⟩ := h
      refine wp_callV (M' := M_Jx4a65c_size_8abf5) (As := []) (st := [vi x2]) (ci := 9) dX7_readAheadOf_9 cee_Jx4a65c_size_8abf5 np_Jx4a65c_size_8abf5 rfl ⟨Nat.le_of_ble_eq_true rfl, Nat.le_of_ble_eq_true rfl, Nat.le_of_ble_eq_true rfl, Nat.le_of_ble_eq_true rfl⟩ wd_112 wd_113 wd_114 rfl (Or.inr ⟨hk11, rfl⟩) (q_small_of (Nat.le_of_ble_eq_true rfl)) hm10 (q_kPi ?_) q_kPi0
      refine wp_less (ac2 := 0) (as2 := 0) (Nat.le_of_ble_eq_true rfl) (Nat.le_of_ble_eq_true rfl) ?_
      obtain ⟨hr13, hr14, h⟩ := h
      refine wp_icmp_ge (tgt := 86) dX7_readAheadOf_12 (by decide) hr13 hr14 (fun c15 => ?_) (fun c15 => ?_)
      · replace h := h.1 c15
        refine wp_null dX7_readAheadOf_86 ?_
        exact wp_ret_a dX7_readAheadOf_87 rfl (Or.inl ⟨_, rfl⟩) h
      · replace h := h.2 c15
        refine wp_aload_n dX7_readAheadOf_15 rfl ?_
        refine wp_get (v := vr (gP σ 280 a0)) dX7_readAheadOf_16 fl_RX7_10 hk9 rfl ?_
        refine wp_iload_n dX7_readAheadOf_19 rfl ?_
        obtain ⟨v17, hm16, h⟩ := h
        refine wp_callV (M' := M_Jx4a65c_get_915e3) (As := [vi x2]) (st := []) (ci := 9) dX7_readAheadOf_20 cee_Jx4a65c_get_915e3 np_Jx4a65c_get_915e3 rfl ⟨Nat.le_of_ble_eq_true rfl, Nat.le_of_ble_eq_true rfl, Nat.le_of_ble_eq_true rfl, Nat.le_of_ble_eq_true rfl⟩ wd_301 wd_302 wd_303 rfl (Or.inr ⟨hk11, rfl⟩) (q_small_of (Nat.le_of_ble_eq_true rfl)) hm16 (q_kPr ?_) q_kPr0
        refine wp_less (ac2 := 0) (as2 := 0) (Nat.le_of_ble_eq_true rfl) (Nat.le_of_ble_eq_true rfl) ?_
        obtain ⟨hc18, h⟩ := h
        refine wp_cast (ci := 4) dX7_readAheadOf_23 ⟨_, rfl, wd_184⟩ hc18 ?_
        refine wp_astore' (ls' := [some (vr a0), some (vr a1), some (vr x1), some (vi x2), some (vr v17), none]) dX7_readAheadOf_26 (Nat.le_of_ble_eq_true rfl) rfl ?_
        refine wp_iconst dX7_readAheadOf_28 ?_
        refine wp_istore' (ls' := [some (vr a0), some (vr a1), some (vr x1), some (vi x2), some (vr v17), some (vi 0)]) dX7_readAheadOf_29 (Nat.le_of_ble_eq_true rfl) rfl ?_
        obtain ⟨Inv21, ⟨n22_0, h026⟩, hb25⟩ := h
        have loop46 : ∀ (n22 : Nat) (x19 : Nat) (x20 : Int), Inv21 n22 x19 x20 → qW g l M_X7_readAheadOf 0 0 31 [some (vr a0), some (vr a1), some (vr x19), some (vi x2), some (vr v17), some (vi x20)] [] σ Post := by
          intro n22
          induction n22 using Nat.strongRecOn with
          | ind n22 ih23 =>
            intro x19 x20 hI24
            have h := hb25 n22 x19 x20 hI24
            refine wp_iload dX7_readAheadOf_31 rfl ?_
            refine wp_aload dX7_readAheadOf_33 rfl ?_
            obtain ⟨hk27, h⟩ := h
            refine wp_get (v := vr (gP σ 161 v17)) dX7_readAheadOf_35 fl_RX7_64 hk27 rfl ?_
            obtain ⟨hk29, h⟩ := h
            obtain ⟨v30, hm28, h⟩ := h
            refine wp_callV (M' := M_Jx4a65c_size_8abf5) (As := []) (st := [vi x20]) (ci := 9) dX7_readAheadOf_38 cee_Jx4a65c_size_8abf5 np_Jx4a65c_size_8abf5 rfl ⟨Nat.le_of_ble_eq_true rfl, Nat.le_of_ble_eq_true rfl, Nat.le_of_ble_eq_true rfl, Nat.le_of_ble_eq_true rfl⟩ wd_112 wd_113 wd_114 rfl (Or.inr ⟨hk29, rfl⟩) (q_small_of (Nat.le_of_ble_eq_true rfl)) hm28 (q_kPi ?_) q_kPi0
            refine wp_less (ac2 := 0) (as2 := 0) (Nat.le_of_ble_eq_true rfl) (Nat.le_of_ble_eq_true rfl) ?_
            obtain ⟨hr31, hr32, h⟩ := h
            refine wp_icmp_ge (tgt := 80) dX7_readAheadOf_41 (by decide) hr31 hr32 (fun c33 => ?_) (fun c33 => ?_)
            · replace h := h.1 c33
              refine wp_nmT (x2 + 1) (fun x34 hx35 => ?_)
              replace h := h x34 hx35
              refine wp_iinc' (z' := x34) (ls' := [some (vr a0), some (vr a1), some (vr x19), some (vi x34), some (vr v17), some (vi x20)]) dX7_readAheadOf_80 (Nat.le_of_ble_eq_true rfl) rfl hx35 rfl ?_
              refine wp_goto (tgt := 4) dX7_readAheadOf_83 (by decide) ?_
              obtain ⟨n36, hlt, h⟩ := h
              exact wp_lsub (ls' := [some (vr a0), some (vr a1), some (vr x19), some (vi x34), none, none]) ⟨rfl, ⟨rfl, ⟨rfl, ⟨rfl, trivial⟩⟩⟩⟩ (ih5 n36 hlt _ _ h)
            · replace h := h.2 c33
              refine wp_aload dX7_readAheadOf_44 rfl ?_
              refine wp_get (v := vr (gP σ 161 v17)) dX7_readAheadOf_46 fl_RX7_64 hk27 rfl ?_
              refine wp_iload dX7_readAheadOf_49 rfl ?_
              obtain ⟨v38, hm37, h⟩ := h
              refine wp_callV (M' := M_Jx4a65c_get_915e3) (As := [vi x20]) (st := []) (ci := 9) dX7_readAheadOf_51 cee_Jx4a65c_get_915e3 np_Jx4a65c_get_915e3 rfl ⟨Nat.le_of_ble_eq_true rfl, Nat.le_of_ble_eq_true rfl, Nat.le_of_ble_eq_true rfl, Nat.le_of_ble_eq_true rfl⟩ wd_301 wd_302 wd_303 rfl (Or.inr ⟨hk29, rfl⟩) (q_small_of (Nat.le_of_ble_eq_true rfl)) hm37 (q_kPr ?_) q_kPr0
              refine wp_less (ac2 := 0) (as2 := 0) (Nat.le_of_ble_eq_true rfl) (Nat.le_of_ble_eq_true rfl) ?_
              refine wp_aload_n dX7_readAheadOf_54 rfl ?_
              refine wp_acmp_ne (tgt := 60) dX7_readAheadOf_55 (by decide) (fun c39 => ?_) (fun c39 => ?_)
              · replace h := h.1 c39
                refine wp_aload dX7_readAheadOf_60 rfl ?_
                refine wp_get (v := vr (gP σ 161 v17)) dX7_readAheadOf_62 fl_RX7_64 hk27 rfl ?_
                refine wp_iload dX7_readAheadOf_65 rfl ?_
                obtain ⟨v41, hm40, h⟩ := h
                refine wp_callV (M' := M_Jx4a65c_get_915e3) (As := [vi x20]) (st := []) (ci := 9) dX7_readAheadOf_67 cee_Jx4a65c_get_915e3 np_Jx4a65c_get_915e3 rfl ⟨Nat.le_of_ble_eq_true rfl, Nat.le_of_ble_eq_true rfl, Nat.le_of_ble_eq_true rfl, Nat.le_of_ble_eq_true rfl⟩ wd_301 wd_302 wd_303 rfl (Or.inr ⟨hk29, rfl⟩) (q_small_of (Nat.le_of_ble_eq_true rfl)) hm40 (q_kPr ?_) q_kPr0
                refine wp_less (ac2 := 0) (as2 := 0) (Nat.le_of_ble_eq_true rfl) (Nat.le_of_ble_eq_true rfl) ?_
                obtain ⟨hc42, h⟩ := h
                refine wp_cast (ci := 5) dX7_readAheadOf_70 ⟨_, rfl, wd_339⟩ hc42 ?_
                refine wp_astore_n' (ls' := [some (vr a0), some (vr a1), some (vr v41), some (vi x2), some (vr v17), some (vi x20)]) dX7_readAheadOf_73 (Nat.le_of_ble_eq_true rfl) rfl ?_
                refine wp_nmT (x20 + 1) (fun x43 hx44 => ?_)
                replace h := h x43 hx44
                refine wp_iinc' (z' := x43) (ls' := [some (vr a0), some (vr a1), some (vr v41), some (vi x2), some (vr v17), some (vi x43)]) dX7_readAheadOf_74 (Nat.le_of_ble_eq_true rfl) rfl hx44 rfl ?_
                refine wp_goto (tgt := 31) dX7_readAheadOf_77 (by decide) ?_
                obtain ⟨n45, hlt, h⟩ := h
                exact wp_lsub (ls' := [some (vr a0), some (vr a1), some (vr v41), some (vi x2), some (vr v17), some (vi x43)]) ⟨rfl, ⟨rfl, ⟨rfl, ⟨rfl, ⟨rfl, ⟨rfl, trivial⟩⟩⟩⟩⟩⟩ (ih23 n45 hlt _ _ h)
              · replace h := h.2 c39
                refine wp_aload_n dX7_readAheadOf_58 rfl ?_
                exact wp_ret_a dX7_readAheadOf_59 rfl (Or.inl ⟨_, rfl⟩) h
        exact wp_lsub (ls' := [some (vr a0), some (vr a1), some (vr x1), some (vi x2), some (vr v17), some (vi 0)]) ⟨rfl, ⟨rfl, ⟨rfl, ⟨rfl, ⟨rfl, ⟨rfl, trivial⟩⟩⟩⟩⟩⟩ (loop46 _ _ _ h026)
  exact wp_lsub (ls' := [some (vr a0), some (vr a1), some (vr 0), some (vi 0), none, none]) ⟨rfl, ⟨rfl, ⟨rfl, ⟨rfl, trivial⟩⟩⟩⟩ (loop47 _ _ _ h08)

set_option maxRecDepth 100000 in
set_option maxHeartbeats 4000000 in
theorem wm_X7_numberOf {g : qG} {l : Launch} (hl : l.stackTraces = false) {a0 : Nat} {σ : qS} {Post : qS → qRs → Prop}
    (h : (((¬ a0 = 0 → gK σ a0 = 6)) ∧ ∀ v3 : Int, v3 = (if ¬ a0 = 0 then (gI σ 200 a0) else ((-1))) → Post σ (.inl (some (vi v3))))) : qMet g l M_X7_numberOf [vr a0] σ Post := by
  refine qMet_of hl (by decide +kernel) (Nat.le_of_ble_eq_true rfl) (List.forall_mem_cons.mpr ⟨trivial, fun _ h => nomatch h⟩) ?_
  show qW g l M_X7_numberOf 0 0 0 [some (vr a0)] [] σ Post
  refine wp_aload_n dX7_numberOf_0 rfl ?_
  obtain ⟨h, hk6⟩ := h
  have key5 : ∀ v3 : Int, v3 = (if ¬ a0 = 0 then (gI σ 200 a0) else ((-1))) → qW g l M_X7_numberOf 0 0 12 [some (vr a0)] [vi v3] σ Post := by
    intro v3 hv4
    have h := hk6 v3 hv4
    exact wp_ret_i dX7_numberOf_12 rfl rfl h
  refine wp_ifnonnull (tgt := 8) dX7_numberOf_1 (by decide) (fun c7 => ?_) (fun c7 => ?_)
  · replace h := h c7
    refine wp_aload_n dX7_numberOf_8 rfl ?_
    have hk8 := h
    refine wp_get (v := vi (gI σ 200 a0)) dX7_numberOf_9 fl_RX7_98 hk8 rfl ?_
    exact key5 _ (by rw [if_pos c7])
  · refine wp_iconst dX7_numberOf_4 ?_
    refine wp_goto (tgt := 12) dX7_numberOf_5 (by decide) ?_
    exact key5 _ (by rw [if_neg (fun z => z c7)])

set_option maxRecDepth 100000 in
set_option maxHeartbeats 4000000 in
theorem wm_X7_roundedUp {g : qG} {l : Launch} (hl : l.stackTraces = false) {a0 : Int} {a1 : Int} {σ : qS} {Post : qS → qRs → Prop}
    (h : ((qR a1 ∧ (¬ (a1 ≤ 0) → (0 ≤ ((a0 + a1) - 1) ∧ ((a0 + a1) - 1) < 2147483648) ∧ (0 < a1 ∧ a1 < 2147483648))) ∧ ∀ v5 : Int, v5 = (if a1 ≤ 0 then 0 else (((a0 + a1) - 1) / a1)) → Post σ (.inl (some (vi v5))))) : qMet g l M_X7_roundedUp [vi a0, vi a1] σ Post := by
  refine qMet_of hl (by decide +kernel) (Nat.le_of_ble_eq_true rfl) (List.forall_mem_cons.mpr ⟨trivial, List.forall_mem_cons.mpr ⟨trivial, fun _ h => nomatch h⟩⟩) ?_
  show qW g l M_X7_roundedUp 0 0 0 [some (vi a0), some (vi a1)] [] σ Post
  refine wp_iload_n dX7_roundedUp_0 rfl ?_
  obtain ⟨h, hk8⟩ := h
  have key7 : ∀ v5 : Int, v5 = (if a1 ≤ 0 then 0 else (((a0 + a1) - 1) / a1)) → qW g l M_X7_roundedUp 0 0 15 [some (vi a0), some (vi a1)] [vi v5] σ Post := by
    intro v5 hv6
    have h := hk8 v5 hv6
    exact wp_ret_i dX7_roundedUp_15 rfl rfl h
  obtain ⟨hr9, h⟩ := h
  refine wp_if_le (tgt := 14) dX7_roundedUp_1 (by decide) hr9 (fun c10 => ?_) (fun c10 => ?_)
  · refine wp_iconst dX7_roundedUp_14 ?_
    exact key7 _ (by rw [if_pos c10])
  · replace h := h c10
    refine wp_iload_n dX7_roundedUp_4 rfl ?_
    refine wp_iload_n dX7_roundedUp_5 rfl ?_
    refine wp_iadd dX7_roundedUp_6 ?_
    refine wp_iconst dX7_roundedUp_7 ?_
    refine wp_isub dX7_roundedUp_8 ?_
    refine wp_iload_n dX7_roundedUp_9 rfl ?_
    obtain ⟨hd11, hd12⟩ := h
    refine wp_idiv dX7_roundedUp_10 hd11 hd12 ?_
    refine wp_goto (tgt := 15) dX7_roundedUp_11 (by decide) ?_
    exact key7 _ (by rw [if_neg c10])

set_option maxRecDepth 100000 in
set_option maxHeartbeats 4000000 in
theorem wm_X7_turned {g : qG} {l : Launch} (hl : l.stackTraces = false) {a0 : Int} {a1 : Int} {a2 : Int} {a3 : Int} {σ : qS} {Post : qS → qRs → Prop}
    (h : ((qR a3) ∧ ∀ v3 : Int, v3 = (if a3 = 0 then a0 else ((a2 - a0) - a1)) → Post σ (.inl (some (vi v3))))) : qMet g l M_X7_turned [vi a0, vi a1, vi a2, vi a3] σ Post := by
  refine qMet_of hl (by decide +kernel) (Nat.le_of_ble_eq_true rfl) (List.forall_mem_cons.mpr ⟨trivial, List.forall_mem_cons.mpr ⟨trivial, List.forall_mem_cons.mpr ⟨trivial, List.forall_mem_cons.mpr ⟨trivial, fun _ h => nomatch h⟩⟩⟩⟩) ?_
  show qW g l M_X7_turned 0 0 0 [some (vi a0), some (vi a1), some (vi a2), some (vi a3)] [] σ Post
  refine wp_iload_n dX7_turned_0 rfl ?_
  obtain ⟨h, hk6⟩ := h
  have key5 : ∀ v3 : Int, v3 = (if a3 = 0 then a0 else ((a2 - a0) - a1)) → qW g l M_X7_turned 0 0 13 [some (vi a0), some (vi a1), some (vi a2), some (vi a3)] [vi v3] σ Post := by
    intro v3 hv4
    have h := hk6 v3 hv4
    exact wp_ret_i dX7_turned_13 rfl rfl h
  have hr7 := h
  refine wp_if_eq (tgt := 12) dX7_turned_1 (by decide) hr7 (fun c8 => ?_) (fun c8 => ?_)
  · refine wp_iload_n dX7_turned_12 rfl ?_
    exact key5 _ (by rw [if_pos c8])
  · refine wp_iload_n dX7_turned_4 rfl ?_
    refine wp_iload_n dX7_turned_5 rfl ?_
    refine wp_isub dX7_turned_6 ?_
    refine wp_iload_n dX7_turned_7 rfl ?_
    refine wp_isub dX7_turned_8 ?_
    refine wp_goto (tgt := 13) dX7_turned_9 (by decide) ?_
    exact key5 _ (by rw [if_neg c8])
