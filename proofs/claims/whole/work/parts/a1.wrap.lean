/-! printed: the law's wrappers -/
set_option maxRecDepth 100000 in
theorem wm_L_page {g : qG} {l : Launch} (hl : l.stackTraces = false) {a0 : Nat} {a1 : Nat} {σ : qS} {Mid Post : qS → qRs → Prop} (hK : gK σ a0 = 8) (hM : qMet g l M_X7_page [vr a0] σ Mid) (hv : ∀ σ' v, Mid σ' (.inl v) → ∃ z, v = some (vi z) ∧ gK σ' a1 = 22 ∧ q_in σ' a1 0 ∧ Post (sA σ' a1 0 (nrm z)) (.inl (some (vi 0)))) (hx : ∀ σ' n, Mid σ' (.inr n) → (n = 0 ∧ Post σ' (.inl (some (vi 1))))) : qMet g l M_L_page [vr a0, vr a1] σ Post := by
  refine qMet_of hl (by decide +kernel) (Nat.le_of_ble_eq_true rfl) (List.forall_mem_cons.mpr ⟨trivial, List.forall_mem_cons.mpr ⟨trivial, fun _ h => nomatch h⟩⟩) ?_
  show qW g l M_L_page 5 415 0 [some (vr a0), some (vr a1), none] [] σ Post
  refine wp_aload_n dL_page_0 rfl ?_
  refine wp_iconst dL_page_1 ?_
  refine wp_aload_n dL_page_2 rfl ?_
  refine wp_callV (M' := M_X7_page) (As := []) (st := [vi 0, vr a1]) (ci := 7) dL_page_3 cee_X7_page np_X7_page rfl ⟨Nat.le_of_ble_eq_true rfl, Nat.le_of_ble_eq_true rfl, Nat.le_of_ble_eq_true rfl, Nat.le_of_ble_eq_true rfl⟩ wd_185 wd_186 wd_187 rfl (Or.inl hK) (q_small_of (Nat.le_of_ble_eq_true rfl)) hM (fun σ' v hq => ?_) (fun σ' n hq => ?_)
  · obtain ⟨z, rfl, ho, hi, h⟩ := hv σ' v hq
    show qW g l M_L_page (5 - M_X7_page.2.2.2.2.1.cells) (415 - M_X7_page.2.2.2.2.1.slots) 6 [some (vr a0), some (vr a1), none] [vi z, vi 0, vr a1] σ' Post
    refine wp_nrm ?_
    refine wp_i2l dL_page_6 (nrm_Q z) ?_
    refine wp_lastore dL_page_7 ho hi ?_
    refine wp_goto (tgt := 14) dL_page_8 (by decide) ?_
    refine wp_iconst dL_page_14 ?_
    exact wp_ret_i dL_page_15 rfl rfl h
  · rcases hx σ' n hq with ⟨rfl, h⟩
    · refine Or.inr ⟨tableOf [], _, tableOf [], rfl, ((fun _ h => nomatch h)), by decide, by decide, wd_184, by decide, fun r => ?_⟩
      show qW g l M_L_page (5 - M_X7_page.2.2.2.2.1.cells) (415 - M_X7_page.2.2.2.2.1.slots) 11 [some (vr a0), some (vr a1), none] [vr ((r + 1))] σ' Post
      refine wp_astore_n' (ls' := [some (vr a0), some (vr a1), some (vr ((r + 1)))]) dL_page_11 (Nat.le_of_ble_eq_true rfl) rfl ?_
      refine wp_iconst dL_page_12 ?_
      exact wp_ret_i dL_page_13 rfl rfl h
set_option maxRecDepth 100000 in
theorem wm_L_panel {g : qG} {l : Launch} (hl : l.stackTraces = false) {a0 : Nat} {a1 : Int} {a2 : Int} {a3 : Int} {a4 : Int} {a5 : Int} {a6 : Nat} {σ : qS} {Mid Post : qS → qRs → Prop} (hK : gK σ a0 = 8) (hM : qMet g l M_X7_panel [vr a0, vi a1, vi a2, vi a3, vi a4, vi a5] σ Mid) (hv : ∀ σ' v, Mid σ' (.inl v) → ∃ z, v = some (vi z) ∧ gK σ' a6 = 22 ∧ q_in σ' a6 0 ∧ Post (sA σ' a6 0 (nrm z)) (.inl (some (vi 0)))) (hx : ∀ σ' n, Mid σ' (.inr n) → (n = 2 ∧ Post σ' (.inl (some (vi 1)))) ∨ (n = 1 ∧ Post σ' (.inl (some (vi 2)))) ∨ (n = 0 ∧ Post σ' (.inl (some (vi 3))))) : qMet g l M_L_panel [vr a0, vi a1, vi a2, vi a3, vi a4, vi a5, vr a6] σ Post := by
  refine qMet_of hl (by decide +kernel) (Nat.le_of_ble_eq_true rfl) (List.forall_mem_cons.mpr ⟨trivial, List.forall_mem_cons.mpr ⟨trivial, List.forall_mem_cons.mpr ⟨trivial, List.forall_mem_cons.mpr ⟨trivial, List.forall_mem_cons.mpr ⟨trivial, List.forall_mem_cons.mpr ⟨trivial, List.forall_mem_cons.mpr ⟨trivial, fun _ h => nomatch h⟩⟩⟩⟩⟩⟩⟩) ?_
  show qW g l M_L_panel 16 868 0 [some (vr a0), some (vi a1), some (vi a2), some (vi a3), some (vi a4), some (vi a5), some (vr a6), none] [] σ Post
  refine wp_aload dL_panel_0 rfl ?_
  refine wp_iconst dL_panel_2 ?_
  refine wp_aload_n dL_panel_3 rfl ?_
  refine wp_iload_n dL_panel_4 rfl ?_
  refine wp_iload_n dL_panel_5 rfl ?_
  refine wp_iload_n dL_panel_6 rfl ?_
  refine wp_iload dL_panel_7 rfl ?_
  refine wp_iload dL_panel_9 rfl ?_
  refine wp_callV (M' := M_X7_panel) (As := [vi a1, vi a2, vi a3, vi a4, vi a5]) (st := [vi 0, vr a6]) (ci := 7) dL_panel_11 cee_X7_panel np_X7_panel rfl ⟨Nat.le_of_ble_eq_true rfl, Nat.le_of_ble_eq_true rfl, Nat.le_of_ble_eq_true rfl, Nat.le_of_ble_eq_true rfl⟩ wd_358 wd_359 wd_360 rfl (Or.inl hK) (q_small_of (Nat.le_of_ble_eq_true rfl)) hM (fun σ' v hq => ?_) (fun σ' n hq => ?_)
  · obtain ⟨z, rfl, ho, hi, h⟩ := hv σ' v hq
    show qW g l M_L_panel (16 - M_X7_panel.2.2.2.2.1.cells) (868 - M_X7_panel.2.2.2.2.1.slots) 14 [some (vr a0), some (vi a1), some (vi a2), some (vi a3), some (vi a4), some (vi a5), some (vr a6), none] [vi z, vi 0, vr a6] σ' Post
    refine wp_nrm ?_
    refine wp_i2l dL_panel_14 (nrm_Q z) ?_
    refine wp_lastore dL_panel_15 ho hi ?_
    refine wp_goto (tgt := 31) dL_panel_16 (by decide) ?_
    refine wp_iconst dL_panel_31 ?_
    exact wp_ret_i dL_panel_32 rfl rfl h
  · rcases hx σ' n hq with ⟨rfl, h⟩ | ⟨rfl, h⟩ | ⟨rfl, h⟩
    · refine Or.inr ⟨tableOf [], _, tableOf [(0, 16, 23, 21), (0, 16, 27, 13)], rfl, ((fun _ h => nomatch h)), by decide, by decide, wd_356, by decide, fun r => ?_⟩
      show qW g l M_L_panel (16 - M_X7_panel.2.2.2.2.1.cells) (868 - M_X7_panel.2.2.2.2.1.slots) 19 [some (vr a0), some (vi a1), some (vi a2), some (vi a3), some (vi a4), some (vi a5), some (vr a6), none] [vr ((r + 1))] σ' Post
      refine wp_astore' (ls' := [some (vr a0), some (vi a1), some (vi a2), some (vi a3), some (vi a4), some (vi a5), some (vr a6), some (vr ((r + 1)))]) dL_panel_19 (Nat.le_of_ble_eq_true rfl) rfl ?_
      refine wp_iconst dL_panel_21 ?_
      exact wp_ret_i dL_panel_22 rfl rfl h
    · refine Or.inr ⟨tableOf [(0, 16, 19, 19)], _, tableOf [(0, 16, 27, 13)], rfl, (List.forall_mem_cons.mpr ⟨Or.inr ⟨by decide, 2, by decide, by decide, wd_356⟩, (fun _ h => nomatch h)⟩), by decide, by decide, wd_357, by decide, fun r => ?_⟩
      show qW g l M_L_panel (16 - M_X7_panel.2.2.2.2.1.cells) (868 - M_X7_panel.2.2.2.2.1.slots) 23 [some (vr a0), some (vi a1), some (vi a2), some (vi a3), some (vi a4), some (vi a5), some (vr a6), none] [vr ((r + 1))] σ' Post
      refine wp_astore' (ls' := [some (vr a0), some (vi a1), some (vi a2), some (vi a3), some (vi a4), some (vi a5), some (vr a6), some (vr ((r + 1)))]) dL_panel_23 (Nat.le_of_ble_eq_true rfl) rfl ?_
      refine wp_iconst dL_panel_25 ?_
      exact wp_ret_i dL_panel_26 rfl rfl h
    · refine Or.inr ⟨tableOf [(0, 16, 19, 19), (0, 16, 23, 21)], _, tableOf [], rfl, (List.forall_mem_cons.mpr ⟨Or.inr ⟨by decide, 2, by decide, by decide, wd_356⟩, List.forall_mem_cons.mpr ⟨Or.inr ⟨by decide, 1, by decide, by decide, wd_357⟩, (fun _ h => nomatch h)⟩⟩), by decide, by decide, wd_184, by decide, fun r => ?_⟩
      show qW g l M_L_panel (16 - M_X7_panel.2.2.2.2.1.cells) (868 - M_X7_panel.2.2.2.2.1.slots) 27 [some (vr a0), some (vi a1), some (vi a2), some (vi a3), some (vi a4), some (vi a5), some (vr a6), none] [vr ((r + 1))] σ' Post
      refine wp_astore' (ls' := [some (vr a0), some (vi a1), some (vi a2), some (vi a3), some (vi a4), some (vi a5), some (vr a6), some (vr ((r + 1)))]) dL_panel_27 (Nat.le_of_ble_eq_true rfl) rfl ?_
      refine wp_iconst dL_panel_29 ?_
      exact wp_ret_i dL_panel_30 rfl rfl h
set_option maxRecDepth 100000 in
theorem wm_L_movePanel {g : qG} {l : Launch} (hl : l.stackTraces = false) {a0 : Nat} {a1 : Int} {a2 : Int} {a3 : Nat} {σ : qS} {Mid Post : qS → qRs → Prop} (hK : gK σ a0 = 8) (hM : qMet g l M_X7_movePanel [vr a0, vi a1, vi a2] σ Mid) (hv : ∀ σ' v, Mid σ' (.inl v) → ∃ z, v = some (vi z) ∧ gK σ' a3 = 22 ∧ q_in σ' a3 0 ∧ Post (sA σ' a3 0 (nrm z)) (.inl (some (vi 0)))) (hx : ∀ σ' n, Mid σ' (.inr n) → (n = 2 ∧ Post σ' (.inl (some (vi 1)))) ∨ (n = 0 ∧ Post σ' (.inl (some (vi 2))))) : qMet g l M_L_movePanel [vr a0, vi a1, vi a2, vr a3] σ Post := by
  refine qMet_of hl (by decide +kernel) (Nat.le_of_ble_eq_true rfl) (List.forall_mem_cons.mpr ⟨trivial, List.forall_mem_cons.mpr ⟨trivial, List.forall_mem_cons.mpr ⟨trivial, List.forall_mem_cons.mpr ⟨trivial, fun _ h => nomatch h⟩⟩⟩⟩) ?_
  show qW g l M_L_movePanel 7 818 0 [some (vr a0), some (vi a1), some (vi a2), some (vr a3), none] [] σ Post
  refine wp_aload_n dL_movePanel_0 rfl ?_
  refine wp_iconst dL_movePanel_1 ?_
  refine wp_aload_n dL_movePanel_2 rfl ?_
  refine wp_iload_n dL_movePanel_3 rfl ?_
  refine wp_iload_n dL_movePanel_4 rfl ?_
  refine wp_callV (M' := M_X7_movePanel) (As := [vi a1, vi a2]) (st := [vi 0, vr a3]) (ci := 7) dL_movePanel_5 cee_X7_movePanel np_X7_movePanel rfl ⟨Nat.le_of_ble_eq_true rfl, Nat.le_of_ble_eq_true rfl, Nat.le_of_ble_eq_true rfl, Nat.le_of_ble_eq_true rfl⟩ wd_849 wd_850 wd_851 rfl (Or.inl hK) (q_small_of (Nat.le_of_ble_eq_true rfl)) hM (fun σ' v hq => ?_) (fun σ' n hq => ?_)
  · obtain ⟨z, rfl, ho, hi, h⟩ := hv σ' v hq
    show qW g l M_L_movePanel (7 - M_X7_movePanel.2.2.2.2.1.cells) (818 - M_X7_movePanel.2.2.2.2.1.slots) 8 [some (vr a0), some (vi a1), some (vi a2), some (vr a3), none] [vi z, vi 0, vr a3] σ' Post
    refine wp_nrm ?_
    refine wp_i2l dL_movePanel_8 (nrm_Q z) ?_
    refine wp_lastore dL_movePanel_9 ho hi ?_
    refine wp_goto (tgt := 21) dL_movePanel_10 (by decide) ?_
    refine wp_iconst dL_movePanel_21 ?_
    exact wp_ret_i dL_movePanel_22 rfl rfl h
  · rcases hx σ' n hq with ⟨rfl, h⟩ | ⟨rfl, h⟩
    · refine Or.inr ⟨tableOf [], _, tableOf [(0, 10, 17, 13)], rfl, ((fun _ h => nomatch h)), by decide, by decide, wd_356, by decide, fun r => ?_⟩
      show qW g l M_L_movePanel (7 - M_X7_movePanel.2.2.2.2.1.cells) (818 - M_X7_movePanel.2.2.2.2.1.slots) 13 [some (vr a0), some (vi a1), some (vi a2), some (vr a3), none] [vr ((r + 1))] σ' Post
      refine wp_astore' (ls' := [some (vr a0), some (vi a1), some (vi a2), some (vr a3), some (vr ((r + 1)))]) dL_movePanel_13 (Nat.le_of_ble_eq_true rfl) rfl ?_
      refine wp_iconst dL_movePanel_15 ?_
      exact wp_ret_i dL_movePanel_16 rfl rfl h
    · refine Or.inr ⟨tableOf [(0, 10, 13, 19)], _, tableOf [], rfl, (List.forall_mem_cons.mpr ⟨Or.inr ⟨by decide, 2, by decide, by decide, wd_356⟩, (fun _ h => nomatch h)⟩), by decide, by decide, wd_184, by decide, fun r => ?_⟩
      show qW g l M_L_movePanel (7 - M_X7_movePanel.2.2.2.2.1.cells) (818 - M_X7_movePanel.2.2.2.2.1.slots) 17 [some (vr a0), some (vi a1), some (vi a2), some (vr a3), none] [vr ((r + 1))] σ' Post
      refine wp_astore' (ls' := [some (vr a0), some (vi a1), some (vi a2), some (vr a3), some (vr ((r + 1)))]) dL_movePanel_17 (Nat.le_of_ble_eq_true rfl) rfl ?_
      refine wp_iconst dL_movePanel_19 ?_
      exact wp_ret_i dL_movePanel_20 rfl rfl h
set_option maxRecDepth 100000 in
theorem wm_L_cutPanel {g : qG} {l : Launch} (hl : l.stackTraces = false) {a0 : Nat} {a1 : Int} {a2 : Nat} {σ : qS} {Mid Post : qS → qRs → Prop} (hK : gK σ a0 = 8) (hM : qMet g l M_X7_cutPanel [vr a0, vi a1] σ Mid) (hv : ∀ σ' v, Mid σ' (.inl v) → ∃ z, v = some (vi z) ∧ gK σ' a2 = 22 ∧ q_in σ' a2 0 ∧ Post (sA σ' a2 0 (nrm z)) (.inl (some (vi 0)))) (hx : ∀ σ' n, Mid σ' (.inr n) → (n = 2 ∧ Post σ' (.inl (some (vi 1)))) ∨ (n = 0 ∧ Post σ' (.inl (some (vi 2))))) : qMet g l M_L_cutPanel [vr a0, vi a1, vr a2] σ Post := by
  refine qMet_of hl (by decide +kernel) (Nat.le_of_ble_eq_true rfl) (List.forall_mem_cons.mpr ⟨trivial, List.forall_mem_cons.mpr ⟨trivial, List.forall_mem_cons.mpr ⟨trivial, fun _ h => nomatch h⟩⟩⟩) ?_
  show qW g l M_L_cutPanel 5 418 0 [some (vr a0), some (vi a1), some (vr a2), none] [] σ Post
  refine wp_aload_n dL_cutPanel_0 rfl ?_
  refine wp_iconst dL_cutPanel_1 ?_
  refine wp_aload_n dL_cutPanel_2 rfl ?_
  refine wp_iload_n dL_cutPanel_3 rfl ?_
  refine wp_callV (M' := M_X7_cutPanel) (As := [vi a1]) (st := [vi 0, vr a2]) (ci := 7) dL_cutPanel_4 cee_X7_cutPanel np_X7_cutPanel rfl ⟨Nat.le_of_ble_eq_true rfl, Nat.le_of_ble_eq_true rfl, Nat.le_of_ble_eq_true rfl, Nat.le_of_ble_eq_true rfl⟩ wd_879 wd_880 wd_881 rfl (Or.inl hK) (q_small_of (Nat.le_of_ble_eq_true rfl)) hM (fun σ' v hq => ?_) (fun σ' n hq => ?_)
  · obtain ⟨z, rfl, ho, hi, h⟩ := hv σ' v hq
    show qW g l M_L_cutPanel (5 - M_X7_cutPanel.2.2.2.2.1.cells) (418 - M_X7_cutPanel.2.2.2.2.1.slots) 7 [some (vr a0), some (vi a1), some (vr a2), none] [vi z, vi 0, vr a2] σ' Post
    refine wp_nrm ?_
    refine wp_i2l dL_cutPanel_7 (nrm_Q z) ?_
    refine wp_lastore dL_cutPanel_8 ho hi ?_
    refine wp_goto (tgt := 18) dL_cutPanel_9 (by decide) ?_
    refine wp_iconst dL_cutPanel_18 ?_
    exact wp_ret_i dL_cutPanel_19 rfl rfl h
  · rcases hx σ' n hq with ⟨rfl, h⟩ | ⟨rfl, h⟩
    · refine Or.inr ⟨tableOf [], _, tableOf [(0, 9, 15, 13)], rfl, ((fun _ h => nomatch h)), by decide, by decide, wd_356, by decide, fun r => ?_⟩
      show qW g l M_L_cutPanel (5 - M_X7_cutPanel.2.2.2.2.1.cells) (418 - M_X7_cutPanel.2.2.2.2.1.slots) 12 [some (vr a0), some (vi a1), some (vr a2), none] [vr ((r + 1))] σ' Post
      refine wp_astore_n' (ls' := [some (vr a0), some (vi a1), some (vr a2), some (vr ((r + 1)))]) dL_cutPanel_12 (Nat.le_of_ble_eq_true rfl) rfl ?_
      refine wp_iconst dL_cutPanel_13 ?_
      exact wp_ret_i dL_cutPanel_14 rfl rfl h
    · refine Or.inr ⟨tableOf [(0, 9, 12, 19)], _, tableOf [], rfl, (List.forall_mem_cons.mpr ⟨Or.inr ⟨by decide, 2, by decide, by decide, wd_356⟩, (fun _ h => nomatch h)⟩), by decide, by decide, wd_184, by decide, fun r => ?_⟩
      show qW g l M_L_cutPanel (5 - M_X7_cutPanel.2.2.2.2.1.cells) (418 - M_X7_cutPanel.2.2.2.2.1.slots) 15 [some (vr a0), some (vi a1), some (vr a2), none] [vr ((r + 1))] σ' Post
      refine wp_astore_n' (ls' := [some (vr a0), some (vi a1), some (vr a2), some (vr ((r + 1)))]) dL_cutPanel_15 (Nat.le_of_ble_eq_true rfl) rfl ?_
      refine wp_iconst dL_cutPanel_16 ?_
      exact wp_ret_i dL_cutPanel_17 rfl rfl h
set_option maxRecDepth 100000 in
theorem wm_L_face {g : qG} {l : Launch} (hl : l.stackTraces = false) {a0 : Nat} {a1 : Int} {a2 : Int} {a3 : Int} {a4 : Int} {a5 : Nat} {σ : qS} {Mid Post : qS → qRs → Prop} (hK : gK σ a0 = 8) (hM : qMet g l M_X7_face [vr a0, vi a1, vi a2, vi a3, vi a4] σ Mid) (hv : ∀ σ' v, Mid σ' (.inl v) → ∃ z, v = some (vi z) ∧ gK σ' a5 = 22 ∧ q_in σ' a5 0 ∧ Post (sA σ' a5 0 (nrm z)) (.inl (some (vi 0)))) (hx : ∀ σ' n, Mid σ' (.inr n) → (n = 2 ∧ Post σ' (.inl (some (vi 1)))) ∨ (n = 1 ∧ Post σ' (.inl (some (vi 2)))) ∨ (n = 0 ∧ Post σ' (.inl (some (vi 3))))) : qMet g l M_L_face [vr a0, vi a1, vi a2, vi a3, vi a4, vr a5] σ Post := by
  refine qMet_of hl (by decide +kernel) (Nat.le_of_ble_eq_true rfl) (List.forall_mem_cons.mpr ⟨trivial, List.forall_mem_cons.mpr ⟨trivial, List.forall_mem_cons.mpr ⟨trivial, List.forall_mem_cons.mpr ⟨trivial, List.forall_mem_cons.mpr ⟨trivial, List.forall_mem_cons.mpr ⟨trivial, fun _ h => nomatch h⟩⟩⟩⟩⟩⟩) ?_
  show qW g l M_L_face 9 439 0 [some (vr a0), some (vi a1), some (vi a2), some (vi a3), some (vi a4), some (vr a5), none] [] σ Post
  refine wp_aload dL_face_0 rfl ?_
  refine wp_iconst dL_face_2 ?_
  refine wp_aload_n dL_face_3 rfl ?_
  refine wp_iload_n dL_face_4 rfl ?_
  refine wp_iload_n dL_face_5 rfl ?_
  refine wp_iload_n dL_face_6 rfl ?_
  refine wp_iload dL_face_7 rfl ?_
  refine wp_callV (M' := M_X7_face) (As := [vi a1, vi a2, vi a3, vi a4]) (st := [vi 0, vr a5]) (ci := 7) dL_face_9 cee_X7_face np_X7_face rfl ⟨Nat.le_of_ble_eq_true rfl, Nat.le_of_ble_eq_true rfl, Nat.le_of_ble_eq_true rfl, Nat.le_of_ble_eq_true rfl⟩ wd_903 wd_904 wd_905 rfl (Or.inl hK) (q_small_of (Nat.le_of_ble_eq_true rfl)) hM (fun σ' v hq => ?_) (fun σ' n hq => ?_)
  · obtain ⟨z, rfl, ho, hi, h⟩ := hv σ' v hq
    show qW g l M_L_face (9 - M_X7_face.2.2.2.2.1.cells) (439 - M_X7_face.2.2.2.2.1.slots) 12 [some (vr a0), some (vi a1), some (vi a2), some (vi a3), some (vi a4), some (vr a5), none] [vi z, vi 0, vr a5] σ' Post
    refine wp_nrm ?_
    refine wp_i2l dL_face_12 (nrm_Q z) ?_
    refine wp_lastore dL_face_13 ho hi ?_
    refine wp_goto (tgt := 29) dL_face_14 (by decide) ?_
    refine wp_iconst dL_face_29 ?_
    exact wp_ret_i dL_face_30 rfl rfl h
  · rcases hx σ' n hq with ⟨rfl, h⟩ | ⟨rfl, h⟩ | ⟨rfl, h⟩
    · refine Or.inr ⟨tableOf [], _, tableOf [(0, 14, 21, 21), (0, 14, 25, 13)], rfl, ((fun _ h => nomatch h)), by decide, by decide, wd_356, by decide, fun r => ?_⟩
      show qW g l M_L_face (9 - M_X7_face.2.2.2.2.1.cells) (439 - M_X7_face.2.2.2.2.1.slots) 17 [some (vr a0), some (vi a1), some (vi a2), some (vi a3), some (vi a4), some (vr a5), none] [vr ((r + 1))] σ' Post
      refine wp_astore' (ls' := [some (vr a0), some (vi a1), some (vi a2), some (vi a3), some (vi a4), some (vr a5), some (vr ((r + 1)))]) dL_face_17 (Nat.le_of_ble_eq_true rfl) rfl ?_
      refine wp_iconst dL_face_19 ?_
      exact wp_ret_i dL_face_20 rfl rfl h
    · refine Or.inr ⟨tableOf [(0, 14, 17, 19)], _, tableOf [(0, 14, 25, 13)], rfl, (List.forall_mem_cons.mpr ⟨Or.inr ⟨by decide, 2, by decide, by decide, wd_356⟩, (fun _ h => nomatch h)⟩), by decide, by decide, wd_357, by decide, fun r => ?_⟩
      show qW g l M_L_face (9 - M_X7_face.2.2.2.2.1.cells) (439 - M_X7_face.2.2.2.2.1.slots) 21 [some (vr a0), some (vi a1), some (vi a2), some (vi a3), some (vi a4), some (vr a5), none] [vr ((r + 1))] σ' Post
      refine wp_astore' (ls' := [some (vr a0), some (vi a1), some (vi a2), some (vi a3), some (vi a4), some (vr a5), some (vr ((r + 1)))]) dL_face_21 (Nat.le_of_ble_eq_true rfl) rfl ?_
      refine wp_iconst dL_face_23 ?_
      exact wp_ret_i dL_face_24 rfl rfl h
    · refine Or.inr ⟨tableOf [(0, 14, 17, 19), (0, 14, 21, 21)], _, tableOf [], rfl, (List.forall_mem_cons.mpr ⟨Or.inr ⟨by decide, 2, by decide, by decide, wd_356⟩, List.forall_mem_cons.mpr ⟨Or.inr ⟨by decide, 1, by decide, by decide, wd_357⟩, (fun _ h => nomatch h)⟩⟩), by decide, by decide, wd_184, by decide, fun r => ?_⟩
      show qW g l M_L_face (9 - M_X7_face.2.2.2.2.1.cells) (439 - M_X7_face.2.2.2.2.1.slots) 25 [some (vr a0), some (vi a1), some (vi a2), some (vi a3), some (vi a4), some (vr a5), none] [vr ((r + 1))] σ' Post
      refine wp_astore' (ls' := [some (vr a0), some (vi a1), some (vi a2), some (vi a3), some (vi a4), some (vr a5), some (vr ((r + 1)))]) dL_face_25 (Nat.le_of_ble_eq_true rfl) rfl ?_
      refine wp_iconst dL_face_27 ?_
      exact wp_ret_i dL_face_28 rfl rfl h
set_option maxRecDepth 100000 in
theorem wm_L_balloon {g : qG} {l : Launch} (hl : l.stackTraces = false) {a0 : Nat} {a1 : Int} {a2 : Int} {a3 : Int} {a4 : Nat} {σ : qS} {Mid Post : qS → qRs → Prop} (hK : gK σ a0 = 8) (hM : qMet g l M_X7_balloon [vr a0, vi a1, vi a2, vi a3] σ Mid) (hv : ∀ σ' v, Mid σ' (.inl v) → ∃ z, v = some (vi z) ∧ gK σ' a4 = 22 ∧ q_in σ' a4 0 ∧ Post (sA σ' a4 0 (nrm z)) (.inl (some (vi 0)))) (hx : ∀ σ' n, Mid σ' (.inr n) → (n = 2 ∧ Post σ' (.inl (some (vi 1)))) ∨ (n = 1 ∧ Post σ' (.inl (some (vi 2)))) ∨ (n = 0 ∧ Post σ' (.inl (some (vi 3))))) : qMet g l M_L_balloon [vr a0, vi a1, vi a2, vi a3, vr a4] σ Post := by
  refine qMet_of hl (by decide +kernel) (Nat.le_of_ble_eq_true rfl) (List.forall_mem_cons.mpr ⟨trivial, List.forall_mem_cons.mpr ⟨trivial, List.forall_mem_cons.mpr ⟨trivial, List.forall_mem_cons.mpr ⟨trivial, List.forall_mem_cons.mpr ⟨trivial, fun _ h => nomatch h⟩⟩⟩⟩⟩) ?_
  show qW g l M_L_balloon 12 845 0 [some (vr a0), some (vi a1), some (vi a2), some (vi a3), some (vr a4), none] [] σ Post
  refine wp_aload dL_balloon_0 rfl ?_
  refine wp_iconst dL_balloon_2 ?_
  refine wp_aload_n dL_balloon_3 rfl ?_
  refine wp_iload_n dL_balloon_4 rfl ?_
  refine wp_iload_n dL_balloon_5 rfl ?_
  refine wp_iload_n dL_balloon_6 rfl ?_
  refine wp_callV (M' := M_X7_balloon) (As := [vi a1, vi a2, vi a3]) (st := [vi 0, vr a4]) (ci := 7) dL_balloon_7 cee_X7_balloon np_X7_balloon rfl ⟨Nat.le_of_ble_eq_true rfl, Nat.le_of_ble_eq_true rfl, Nat.le_of_ble_eq_true rfl, Nat.le_of_ble_eq_true rfl⟩ wd_938 wd_939 wd_940 rfl (Or.inl hK) (q_small_of (Nat.le_of_ble_eq_true rfl)) hM (fun σ' v hq => ?_) (fun σ' n hq => ?_)
  · obtain ⟨z, rfl, ho, hi, h⟩ := hv σ' v hq
    show qW g l M_L_balloon (12 - M_X7_balloon.2.2.2.2.1.cells) (845 - M_X7_balloon.2.2.2.2.1.slots) 10 [some (vr a0), some (vi a1), some (vi a2), some (vi a3), some (vr a4), none] [vi z, vi 0, vr a4] σ' Post
    refine wp_nrm ?_
    refine wp_i2l dL_balloon_10 (nrm_Q z) ?_
    refine wp_lastore dL_balloon_11 ho hi ?_
    refine wp_goto (tgt := 27) dL_balloon_12 (by decide) ?_
    refine wp_iconst dL_balloon_27 ?_
    exact wp_ret_i dL_balloon_28 rfl rfl h
  · rcases hx σ' n hq with ⟨rfl, h⟩ | ⟨rfl, h⟩ | ⟨rfl, h⟩
    · refine Or.inr ⟨tableOf [], _, tableOf [(0, 12, 19, 21), (0, 12, 23, 13)], rfl, ((fun _ h => nomatch h)), by decide, by decide, wd_356, by decide, fun r => ?_⟩
      show qW g l M_L_balloon (12 - M_X7_balloon.2.2.2.2.1.cells) (845 - M_X7_balloon.2.2.2.2.1.slots) 15 [some (vr a0), some (vi a1), some (vi a2), some (vi a3), some (vr a4), none] [vr ((r + 1))] σ' Post
      refine wp_astore' (ls' := [some (vr a0), some (vi a1), some (vi a2), some (vi a3), some (vr a4), some (vr ((r + 1)))]) dL_balloon_15 (Nat.le_of_ble_eq_true rfl) rfl ?_
      refine wp_iconst dL_balloon_17 ?_
      exact wp_ret_i dL_balloon_18 rfl rfl h
    · refine Or.inr ⟨tableOf [(0, 12, 15, 19)], _, tableOf [(0, 12, 23, 13)], rfl, (List.forall_mem_cons.mpr ⟨Or.inr ⟨by decide, 2, by decide, by decide, wd_356⟩, (fun _ h => nomatch h)⟩), by decide, by decide, wd_357, by decide, fun r => ?_⟩
      show qW g l M_L_balloon (12 - M_X7_balloon.2.2.2.2.1.cells) (845 - M_X7_balloon.2.2.2.2.1.slots) 19 [some (vr a0), some (vi a1), some (vi a2), some (vi a3), some (vr a4), none] [vr ((r + 1))] σ' Post
      refine wp_astore' (ls' := [some (vr a0), some (vi a1), some (vi a2), some (vi a3), some (vr a4), some (vr ((r + 1)))]) dL_balloon_19 (Nat.le_of_ble_eq_true rfl) rfl ?_
      refine wp_iconst dL_balloon_21 ?_
      exact wp_ret_i dL_balloon_22 rfl rfl h
    · refine Or.inr ⟨tableOf [(0, 12, 15, 19), (0, 12, 19, 21)], _, tableOf [], rfl, (List.forall_mem_cons.mpr ⟨Or.inr ⟨by decide, 2, by decide, by decide, wd_356⟩, List.forall_mem_cons.mpr ⟨Or.inr ⟨by decide, 1, by decide, by decide, wd_357⟩, (fun _ h => nomatch h)⟩⟩), by decide, by decide, wd_184, by decide, fun r => ?_⟩
      show qW g l M_L_balloon (12 - M_X7_balloon.2.2.2.2.1.cells) (845 - M_X7_balloon.2.2.2.2.1.slots) 23 [some (vr a0), some (vi a1), some (vi a2), some (vi a3), some (vr a4), none] [vr ((r + 1))] σ' Post
      refine wp_astore' (ls' := [some (vr a0), some (vi a1), some (vi a2), some (vi a3), some (vr a4), some (vr ((r + 1)))]) dL_balloon_23 (Nat.le_of_ble_eq_true rfl) rfl ?_
      refine wp_iconst dL_balloon_25 ?_
      exact wp_ret_i dL_balloon_26 rfl rfl h
set_option maxRecDepth 100000 in
theorem wm_L_moveBalloon {g : qG} {l : Launch} (hl : l.stackTraces = false) {a0 : Nat} {a1 : Int} {a2 : Int} {a3 : Int} {σ : qS} {Mid Post : qS → qRs → Prop} (hK : gK σ a0 = 8) (hM : qMet g l M_X7_moveBalloon [vr a0, vi a1, vi a2, vi a3] σ Mid) (hv : ∀ σ' v, Mid σ' (.inl v) → v = none ∧ Post σ' (.inl (some (vi 0)))) (hx : ∀ σ' n, Mid σ' (.inr n) → (n = 2 ∧ Post σ' (.inl (some (vi 1)))) ∨ (n = 0 ∧ Post σ' (.inl (some (vi 2))))) : qMet g l M_L_moveBalloon [vr a0, vi a1, vi a2, vi a3] σ Post := by
  refine qMet_of hl (by decide +kernel) (Nat.le_of_ble_eq_true rfl) (List.forall_mem_cons.mpr ⟨trivial, List.forall_mem_cons.mpr ⟨trivial, List.forall_mem_cons.mpr ⟨trivial, List.forall_mem_cons.mpr ⟨trivial, fun _ h => nomatch h⟩⟩⟩⟩) ?_
  show qW g l M_L_moveBalloon 9 830 0 [some (vr a0), some (vi a1), some (vi a2), some (vi a3), none] [] σ Post
  refine wp_aload_n dL_moveBalloon_0 rfl ?_
  refine wp_iload_n dL_moveBalloon_1 rfl ?_
  refine wp_iload_n dL_moveBalloon_2 rfl ?_
  refine wp_iload_n dL_moveBalloon_3 rfl ?_
  refine wp_callV (M' := M_X7_moveBalloon) (As := [vi a1, vi a2, vi a3]) (st := []) (ci := 7) dL_moveBalloon_4 cee_X7_moveBalloon np_X7_moveBalloon rfl ⟨Nat.le_of_ble_eq_true rfl, Nat.le_of_ble_eq_true rfl, Nat.le_of_ble_eq_true rfl, Nat.le_of_ble_eq_true rfl⟩ wd_992 wd_993 wd_994 rfl (Or.inl hK) (q_small_of (Nat.le_of_ble_eq_true rfl)) hM (fun σ' v hq => ?_) (fun σ' n hq => ?_)
  · obtain ⟨rfl, h⟩ := hv σ' v hq
    show qW g l M_L_moveBalloon (9 - M_X7_moveBalloon.2.2.2.2.1.cells) (830 - M_X7_moveBalloon.2.2.2.2.1.slots) 7 [some (vr a0), some (vi a1), some (vi a2), some (vi a3), none] [] σ' Post
    refine wp_goto (tgt := 18) dL_moveBalloon_7 (by decide) ?_
    refine wp_iconst dL_moveBalloon_18 ?_
    exact wp_ret_i dL_moveBalloon_19 rfl rfl h
  · rcases hx σ' n hq with ⟨rfl, h⟩ | ⟨rfl, h⟩
    · refine Or.inr ⟨tableOf [], _, tableOf [(0, 7, 14, 13)], rfl, ((fun _ h => nomatch h)), by decide, by decide, wd_356, by decide, fun r => ?_⟩
      show qW g l M_L_moveBalloon (9 - M_X7_moveBalloon.2.2.2.2.1.cells) (830 - M_X7_moveBalloon.2.2.2.2.1.slots) 10 [some (vr a0), some (vi a1), some (vi a2), some (vi a3), none] [vr ((r + 1))] σ' Post
      refine wp_astore' (ls' := [some (vr a0), some (vi a1), some (vi a2), some (vi a3), some (vr ((r + 1)))]) dL_moveBalloon_10 (Nat.le_of_ble_eq_true rfl) rfl ?_
      refine wp_iconst dL_moveBalloon_12 ?_
      exact wp_ret_i dL_moveBalloon_13 rfl rfl h
    · refine Or.inr ⟨tableOf [(0, 7, 10, 19)], _, tableOf [], rfl, (List.forall_mem_cons.mpr ⟨Or.inr ⟨by decide, 2, by decide, by decide, wd_356⟩, (fun _ h => nomatch h)⟩), by decide, by decide, wd_184, by decide, fun r => ?_⟩
      show qW g l M_L_moveBalloon (9 - M_X7_moveBalloon.2.2.2.2.1.cells) (830 - M_X7_moveBalloon.2.2.2.2.1.slots) 14 [some (vr a0), some (vi a1), some (vi a2), some (vi a3), none] [vr ((r + 1))] σ' Post
      refine wp_astore' (ls' := [some (vr a0), some (vi a1), some (vi a2), some (vi a3), some (vr ((r + 1)))]) dL_moveBalloon_14 (Nat.le_of_ble_eq_true rfl) rfl ?_
      refine wp_iconst dL_moveBalloon_16 ?_
      exact wp_ret_i dL_moveBalloon_17 rfl rfl h
set_option maxRecDepth 100000 in
theorem wm_L_cutBalloon {g : qG} {l : Launch} (hl : l.stackTraces = false) {a0 : Nat} {a1 : Int} {a2 : Nat} {σ : qS} {Mid Post : qS → qRs → Prop} (hK : gK σ a0 = 8) (hM : qMet g l M_X7_cutBalloon [vr a0, vi a1] σ Mid) (hv : ∀ σ' v, Mid σ' (.inl v) → ∃ z, v = some (vi z) ∧ gK σ' a2 = 22 ∧ q_in σ' a2 0 ∧ Post (sA σ' a2 0 (nrm z)) (.inl (some (vi 0)))) (hx : ∀ σ' n, Mid σ' (.inr n) → (n = 2 ∧ Post σ' (.inl (some (vi 1)))) ∨ (n = 0 ∧ Post σ' (.inl (some (vi 2))))) : qMet g l M_L_cutBalloon [vr a0, vi a1, vr a2] σ Post := by
  refine qMet_of hl (by decide +kernel) (Nat.le_of_ble_eq_true rfl) (List.forall_mem_cons.mpr ⟨trivial, List.forall_mem_cons.mpr ⟨trivial, List.forall_mem_cons.mpr ⟨trivial, fun _ h => nomatch h⟩⟩⟩) ?_
  show qW g l M_L_cutBalloon 5 418 0 [some (vr a0), some (vi a1), some (vr a2), none] [] σ Post
  refine wp_aload_n dL_cutBalloon_0 rfl ?_
  refine wp_iconst dL_cutBalloon_1 ?_
  refine wp_aload_n dL_cutBalloon_2 rfl ?_
  refine wp_iload_n dL_cutBalloon_3 rfl ?_
  refine wp_callV (M' := M_X7_cutBalloon) (As := [vi a1]) (st := [vi 0, vr a2]) (ci := 7) dL_cutBalloon_4 cee_X7_cutBalloon np_X7_cutBalloon rfl ⟨Nat.le_of_ble_eq_true rfl, Nat.le_of_ble_eq_true rfl, Nat.le_of_ble_eq_true rfl, Nat.le_of_ble_eq_true rfl⟩ wd_1013 wd_1014 wd_1015 rfl (Or.inl hK) (q_small_of (Nat.le_of_ble_eq_true rfl)) hM (fun σ' v hq => ?_) (fun σ' n hq => ?_)
  · obtain ⟨z, rfl, ho, hi, h⟩ := hv σ' v hq
    show qW g l M_L_cutBalloon (5 - M_X7_cutBalloon.2.2.2.2.1.cells) (418 - M_X7_cutBalloon.2.2.2.2.1.slots) 7 [some (vr a0), some (vi a1), some (vr a2), none] [vi z, vi 0, vr a2] σ' Post
    refine wp_nrm ?_
    refine wp_i2l dL_cutBalloon_7 (nrm_Q z) ?_
    refine wp_lastore dL_cutBalloon_8 ho hi ?_
    refine wp_goto (tgt := 18) dL_cutBalloon_9 (by decide) ?_
    refine wp_iconst dL_cutBalloon_18 ?_
    exact wp_ret_i dL_cutBalloon_19 rfl rfl h
  · rcases hx σ' n hq with ⟨rfl, h⟩ | ⟨rfl, h⟩
    · refine Or.inr ⟨tableOf [], _, tableOf [(0, 9, 15, 13)], rfl, ((fun _ h => nomatch h)), by decide, by decide, wd_356, by decide, fun r => ?_⟩
      show qW g l M_L_cutBalloon (5 - M_X7_cutBalloon.2.2.2.2.1.cells) (418 - M_X7_cutBalloon.2.2.2.2.1.slots) 12 [some (vr a0), some (vi a1), some (vr a2), none] [vr ((r + 1))] σ' Post
      refine wp_astore_n' (ls' := [some (vr a0), some (vi a1), some (vr a2), some (vr ((r + 1)))]) dL_cutBalloon_12 (Nat.le_of_ble_eq_true rfl) rfl ?_
      refine wp_iconst dL_cutBalloon_13 ?_
      exact wp_ret_i dL_cutBalloon_14 rfl rfl h
    · refine Or.inr ⟨tableOf [(0, 9, 12, 19)], _, tableOf [], rfl, (List.forall_mem_cons.mpr ⟨Or.inr ⟨by decide, 2, by decide, by decide, wd_356⟩, (fun _ h => nomatch h)⟩), by decide, by decide, wd_184, by decide, fun r => ?_⟩
      show qW g l M_L_cutBalloon (5 - M_X7_cutBalloon.2.2.2.2.1.cells) (418 - M_X7_cutBalloon.2.2.2.2.1.slots) 15 [some (vr a0), some (vi a1), some (vr a2), none] [vr ((r + 1))] σ' Post
      refine wp_astore_n' (ls' := [some (vr a0), some (vi a1), some (vr a2), some (vr ((r + 1)))]) dL_cutBalloon_15 (Nat.le_of_ble_eq_true rfl) rfl ?_
      refine wp_iconst dL_cutBalloon_16 ?_
      exact wp_ret_i dL_cutBalloon_17 rfl rfl h
set_option maxRecDepth 100000 in
theorem wm_L_answer {g : qG} {l : Launch} (hl : l.stackTraces = false) {a0 : Nat} {a1 : Int} {a2 : Int} {a3 : Nat} {σ : qS} {Mid Post : qS → qRs → Prop} (hK : gK σ a0 = 8) (hM : qMet g l M_X7_answer [vr a0, vi a1, vi a2] σ Mid) (hv : ∀ σ' v, Mid σ' (.inl v) → ∃ z, v = some (vi z) ∧ gK σ' a3 = 22 ∧ q_in σ' a3 0 ∧ Post (sA σ' a3 0 (nrm z)) (.inl (some (vi 0)))) (hx : ∀ σ' n, Mid σ' (.inr n) → (n = 2 ∧ Post σ' (.inl (some (vi 1)))) ∨ (n = 0 ∧ Post σ' (.inl (some (vi 2))))) : qMet g l M_L_answer [vr a0, vi a1, vi a2, vr a3] σ Post := by
  refine qMet_of hl (by decide +kernel) (Nat.le_of_ble_eq_true rfl) (List.forall_mem_cons.mpr ⟨trivial, List.forall_mem_cons.mpr ⟨trivial, List.forall_mem_cons.mpr ⟨trivial, List.forall_mem_cons.mpr ⟨trivial, fun _ h => nomatch h⟩⟩⟩⟩) ?_
  show qW g l M_L_answer 3 18 0 [some (vr a0), some (vi a1), some (vi a2), some (vr a3), none] [] σ Post
  refine wp_aload_n dL_answer_0 rfl ?_
  refine wp_iconst dL_answer_1 ?_
  refine wp_aload_n dL_answer_2 rfl ?_
  refine wp_iload_n dL_answer_3 rfl ?_
  refine wp_iload_n dL_answer_4 rfl ?_
  refine wp_callV (M' := M_X7_answer) (As := [vi a1, vi a2]) (st := [vi 0, vr a3]) (ci := 7) dL_answer_5 cee_X7_answer np_X7_answer rfl ⟨Nat.le_of_ble_eq_true rfl, Nat.le_of_ble_eq_true rfl, Nat.le_of_ble_eq_true rfl, Nat.le_of_ble_eq_true rfl⟩ wd_1025 wd_1026 wd_1027 rfl (Or.inl hK) (q_small_of (Nat.le_of_ble_eq_true rfl)) hM (fun σ' v hq => ?_) (fun σ' n hq => ?_)
  · obtain ⟨z, rfl, ho, hi, h⟩ := hv σ' v hq
    show qW g l M_L_answer (3 - M_X7_answer.2.2.2.2.1.cells) (18 - M_X7_answer.2.2.2.2.1.slots) 8 [some (vr a0), some (vi a1), some (vi a2), some (vr a3), none] [vi z, vi 0, vr a3] σ' Post
    refine wp_nrm ?_
    refine wp_i2l dL_answer_8 (nrm_Q z) ?_
    refine wp_lastore dL_answer_9 ho hi ?_
    refine wp_goto (tgt := 21) dL_answer_10 (by decide) ?_
    refine wp_iconst dL_answer_21 ?_
    exact wp_ret_i dL_answer_22 rfl rfl h
  · rcases hx σ' n hq with ⟨rfl, h⟩ | ⟨rfl, h⟩
    · refine Or.inr ⟨tableOf [], _, tableOf [(0, 10, 17, 13)], rfl, ((fun _ h => nomatch h)), by decide, by decide, wd_356, by decide, fun r => ?_⟩
      show qW g l M_L_answer (3 - M_X7_answer.2.2.2.2.1.cells) (18 - M_X7_answer.2.2.2.2.1.slots) 13 [some (vr a0), some (vi a1), some (vi a2), some (vr a3), none] [vr ((r + 1))] σ' Post
      refine wp_astore' (ls' := [some (vr a0), some (vi a1), some (vi a2), some (vr a3), some (vr ((r + 1)))]) dL_answer_13 (Nat.le_of_ble_eq_true rfl) rfl ?_
      refine wp_iconst dL_answer_15 ?_
      exact wp_ret_i dL_answer_16 rfl rfl h
    · refine Or.inr ⟨tableOf [(0, 10, 13, 19)], _, tableOf [], rfl, (List.forall_mem_cons.mpr ⟨Or.inr ⟨by decide, 2, by decide, by decide, wd_356⟩, (fun _ h => nomatch h)⟩), by decide, by decide, wd_184, by decide, fun r => ?_⟩
      show qW g l M_L_answer (3 - M_X7_answer.2.2.2.2.1.cells) (18 - M_X7_answer.2.2.2.2.1.slots) 17 [some (vr a0), some (vi a1), some (vi a2), some (vr a3), none] [vr ((r + 1))] σ' Post
      refine wp_astore' (ls' := [some (vr a0), some (vi a1), some (vi a2), some (vr a3), some (vr ((r + 1)))]) dL_answer_17 (Nat.le_of_ble_eq_true rfl) rfl ?_
      refine wp_iconst dL_answer_19 ?_
      exact wp_ret_i dL_answer_20 rfl rfl h
set_option maxRecDepth 100000 in
theorem wm_L_translate {g : qG} {l : Launch} (hl : l.stackTraces = false) {a0 : Nat} {a1 : Int} {a2 : Int} {a3 : Nat} {σ : qS} {Mid Post : qS → qRs → Prop} (hK : gK σ a0 = 8) (hM : qMet g l M_X7_translate [vr a0, vi a1, vi a2] σ Mid) (hv : ∀ σ' v, Mid σ' (.inl v) → ∃ z, v = some (vi z) ∧ gK σ' a3 = 22 ∧ q_in σ' a3 0 ∧ Post (sA σ' a3 0 (nrm z)) (.inl (some (vi 0)))) (hx : ∀ σ' n, Mid σ' (.inr n) → (n = 2 ∧ Post σ' (.inl (some (vi 1)))) ∨ (n = 1 ∧ Post σ' (.inl (some (vi 2)))) ∨ (n = 0 ∧ Post σ' (.inl (some (vi 3))))) : qMet g l M_L_translate [vr a0, vi a1, vi a2, vr a3] σ Post := by
  refine qMet_of hl (by decide +kernel) (Nat.le_of_ble_eq_true rfl) (List.forall_mem_cons.mpr ⟨trivial, List.forall_mem_cons.mpr ⟨trivial, List.forall_mem_cons.mpr ⟨trivial, List.forall_mem_cons.mpr ⟨trivial, fun _ h => nomatch h⟩⟩⟩⟩) ?_
  show qW g l M_L_translate 3 18 0 [some (vr a0), some (vi a1), some (vi a2), some (vr a3), none] [] σ Post
  refine wp_aload_n dL_translate_0 rfl ?_
  refine wp_iconst dL_translate_1 ?_
  refine wp_aload_n dL_translate_2 rfl ?_
  refine wp_iload_n dL_translate_3 rfl ?_
  refine wp_iload_n dL_translate_4 rfl ?_
  refine wp_callV (M' := M_X7_translate) (As := [vi a1, vi a2]) (st := [vi 0, vr a3]) (ci := 7) dL_translate_5 cee_X7_translate np_X7_translate rfl ⟨Nat.le_of_ble_eq_true rfl, Nat.le_of_ble_eq_true rfl, Nat.le_of_ble_eq_true rfl, Nat.le_of_ble_eq_true rfl⟩ wd_1033 wd_1034 wd_1035 rfl (Or.inl hK) (q_small_of (Nat.le_of_ble_eq_true rfl)) hM (fun σ' v hq => ?_) (fun σ' n hq => ?_)
  · obtain ⟨z, rfl, ho, hi, h⟩ := hv σ' v hq
    show qW g l M_L_translate (3 - M_X7_translate.2.2.2.2.1.cells) (18 - M_X7_translate.2.2.2.2.1.slots) 8 [some (vr a0), some (vi a1), some (vi a2), some (vr a3), none] [vi z, vi 0, vr a3] σ' Post
    refine wp_nrm ?_
    refine wp_i2l dL_translate_8 (nrm_Q z) ?_
    refine wp_lastore dL_translate_9 ho hi ?_
    refine wp_goto (tgt := 25) dL_translate_10 (by decide) ?_
    refine wp_iconst dL_translate_25 ?_
    exact wp_ret_i dL_translate_26 rfl rfl h
  · rcases hx σ' n hq with ⟨rfl, h⟩ | ⟨rfl, h⟩ | ⟨rfl, h⟩
    · refine Or.inr ⟨tableOf [], _, tableOf [(0, 10, 17, 21), (0, 10, 21, 13)], rfl, ((fun _ h => nomatch h)), by decide, by decide, wd_356, by decide, fun r => ?_⟩
      show qW g l M_L_translate (3 - M_X7_translate.2.2.2.2.1.cells) (18 - M_X7_translate.2.2.2.2.1.slots) 13 [some (vr a0), some (vi a1), some (vi a2), some (vr a3), none] [vr ((r + 1))] σ' Post
      refine wp_astore' (ls' := [some (vr a0), some (vi a1), some (vi a2), some (vr a3), some (vr ((r + 1)))]) dL_translate_13 (Nat.le_of_ble_eq_true rfl) rfl ?_
      refine wp_iconst dL_translate_15 ?_
      exact wp_ret_i dL_translate_16 rfl rfl h
    · refine Or.inr ⟨tableOf [(0, 10, 13, 19)], _, tableOf [(0, 10, 21, 13)], rfl, (List.forall_mem_cons.mpr ⟨Or.inr ⟨by decide, 2, by decide, by decide, wd_356⟩, (fun _ h => nomatch h)⟩), by decide, by decide, wd_357, by decide, fun r => ?_⟩
      show qW g l M_L_translate (3 - M_X7_translate.2.2.2.2.1.cells) (18 - M_X7_translate.2.2.2.2.1.slots) 17 [some (vr a0), some (vi a1), some (vi a2), some (vr a3), none] [vr ((r + 1))] σ' Post
      refine wp_astore' (ls' := [some (vr a0), some (vi a1), some (vi a2), some (vr a3), some (vr ((r + 1)))]) dL_translate_17 (Nat.le_of_ble_eq_true rfl) rfl ?_
      refine wp_iconst dL_translate_19 ?_
      exact wp_ret_i dL_translate_20 rfl rfl h
    · refine Or.inr ⟨tableOf [(0, 10, 13, 19), (0, 10, 17, 21)], _, tableOf [], rfl, (List.forall_mem_cons.mpr ⟨Or.inr ⟨by decide, 2, by decide, by decide, wd_356⟩, List.forall_mem_cons.mpr ⟨Or.inr ⟨by decide, 1, by decide, by decide, wd_357⟩, (fun _ h => nomatch h)⟩⟩), by decide, by decide, wd_184, by decide, fun r => ?_⟩
      show qW g l M_L_translate (3 - M_X7_translate.2.2.2.2.1.cells) (18 - M_X7_translate.2.2.2.2.1.slots) 21 [some (vr a0), some (vi a1), some (vi a2), some (vr a3), none] [vr ((r + 1))] σ' Post
      refine wp_astore' (ls' := [some (vr a0), some (vi a1), some (vi a2), some (vr a3), some (vr ((r + 1)))]) dL_translate_21 (Nat.le_of_ble_eq_true rfl) rfl ?_
      refine wp_iconst dL_translate_23 ?_
      exact wp_ret_i dL_translate_24 rfl rfl h
set_option maxRecDepth 100000 in
theorem wm_L_setGrowth {g : qG} {l : Launch} (hl : l.stackTraces = false) {a0 : Nat} {a1 : Int} {a2 : Int} {a3 : Nat} {σ : qS} {Mid Post : qS → qRs → Prop} (hK : gK σ a0 = 8) (hM : qMet g l M_X7_setGrowth [vr a0, vi a1, vi a2] σ Mid) (hv : ∀ σ' v, Mid σ' (.inl v) → ∃ z, v = some (vi z) ∧ gK σ' a3 = 22 ∧ q_in σ' a3 0 ∧ Post (sA σ' a3 0 (nrm z)) (.inl (some (vi 0)))) (hx : ∀ σ' n, Mid σ' (.inr n) → (n = 1 ∧ Post σ' (.inl (some (vi 1)))) ∨ (n = 0 ∧ Post σ' (.inl (some (vi 2))))) : qMet g l M_L_setGrowth [vr a0, vi a1, vi a2, vr a3] σ Post := by
  refine qMet_of hl (by decide +kernel) (Nat.le_of_ble_eq_true rfl) (List.forall_mem_cons.mpr ⟨trivial, List.forall_mem_cons.mpr ⟨trivial, List.forall_mem_cons.mpr ⟨trivial, List.forall_mem_cons.mpr ⟨trivial, fun _ h => nomatch h⟩⟩⟩⟩) ?_
  show qW g l M_L_setGrowth 3 18 0 [some (vr a0), some (vi a1), some (vi a2), some (vr a3), none] [] σ Post
  refine wp_aload_n dL_setGrowth_0 rfl ?_
  refine wp_iconst dL_setGrowth_1 ?_
  refine wp_aload_n dL_setGrowth_2 rfl ?_
  refine wp_iload_n dL_setGrowth_3 rfl ?_
  refine wp_iload_n dL_setGrowth_4 rfl ?_
  refine wp_callV (M' := M_X7_setGrowth) (As := [vi a1, vi a2]) (st := [vi 0, vr a3]) (ci := 7) dL_setGrowth_5 cee_X7_setGrowth np_X7_setGrowth rfl ⟨Nat.le_of_ble_eq_true rfl, Nat.le_of_ble_eq_true rfl, Nat.le_of_ble_eq_true rfl, Nat.le_of_ble_eq_true rfl⟩ wd_1040 wd_1041 wd_1042 rfl (Or.inl hK) (q_small_of (Nat.le_of_ble_eq_true rfl)) hM (fun σ' v hq => ?_) (fun σ' n hq => ?_)
  · obtain ⟨z, rfl, ho, hi, h⟩ := hv σ' v hq
    show qW g l M_L_setGrowth (3 - M_X7_setGrowth.2.2.2.2.1.cells) (18 - M_X7_setGrowth.2.2.2.2.1.slots) 8 [some (vr a0), some (vi a1), some (vi a2), some (vr a3), none] [vi z, vi 0, vr a3] σ' Post
    refine wp_nrm ?_
    refine wp_i2l dL_setGrowth_8 (nrm_Q z) ?_
    refine wp_lastore dL_setGrowth_9 ho hi ?_
    refine wp_goto (tgt := 21) dL_setGrowth_10 (by decide) ?_
    refine wp_iconst dL_setGrowth_21 ?_
    exact wp_ret_i dL_setGrowth_22 rfl rfl h
  · rcases hx σ' n hq with ⟨rfl, h⟩ | ⟨rfl, h⟩
    · refine Or.inr ⟨tableOf [], _, tableOf [(0, 10, 17, 13)], rfl, ((fun _ h => nomatch h)), by decide, by decide, wd_357, by decide, fun r => ?_⟩
      show qW g l M_L_setGrowth (3 - M_X7_setGrowth.2.2.2.2.1.cells) (18 - M_X7_setGrowth.2.2.2.2.1.slots) 13 [some (vr a0), some (vi a1), some (vi a2), some (vr a3), none] [vr ((r + 1))] σ' Post
      refine wp_astore' (ls' := [some (vr a0), some (vi a1), some (vi a2), some (vr a3), some (vr ((r + 1)))]) dL_setGrowth_13 (Nat.le_of_ble_eq_true rfl) rfl ?_
      refine wp_iconst dL_setGrowth_15 ?_
      exact wp_ret_i dL_setGrowth_16 rfl rfl h
    · refine Or.inr ⟨tableOf [(0, 10, 13, 21)], _, tableOf [], rfl, (List.forall_mem_cons.mpr ⟨Or.inr ⟨by decide, 1, by decide, by decide, wd_357⟩, (fun _ h => nomatch h)⟩), by decide, by decide, wd_184, by decide, fun r => ?_⟩
      show qW g l M_L_setGrowth (3 - M_X7_setGrowth.2.2.2.2.1.cells) (18 - M_X7_setGrowth.2.2.2.2.1.slots) 17 [some (vr a0), some (vi a1), some (vi a2), some (vr a3), none] [vr ((r + 1))] σ' Post
      refine wp_astore' (ls' := [some (vr a0), some (vi a1), some (vi a2), some (vr a3), some (vr ((r + 1)))]) dL_setGrowth_17 (Nat.le_of_ble_eq_true rfl) rfl ?_
      refine wp_iconst dL_setGrowth_19 ?_
      exact wp_ret_i dL_setGrowth_20 rfl rfl h
set_option maxRecDepth 100000 in
theorem wm_L_rows {g : qG} {l : Launch} (hl : l.stackTraces = false) {a0 : Nat} {a1 : Int} {a2 : Nat} {σ : qS} {Mid Post : qS → qRs → Prop} (hK : gK σ a0 = 8) (hM : qMet g l M_X7_rows [vr a0, vi a1] σ Mid) (hv : ∀ σ' v, Mid σ' (.inl v) → ∃ z, v = some (vi z) ∧ gK σ' a2 = 22 ∧ q_in σ' a2 0 ∧ Post (sA σ' a2 0 (nrm z)) (.inl (some (vi 0)))) (hx : ∀ σ' n, Mid σ' (.inr n) → (n = 2 ∧ Post σ' (.inl (some (vi 1))))) : qMet g l M_L_rows [vr a0, vi a1, vr a2] σ Post := by
  refine qMet_of hl (by decide +kernel) (Nat.le_of_ble_eq_true rfl) (List.forall_mem_cons.mpr ⟨trivial, List.forall_mem_cons.mpr ⟨trivial, List.forall_mem_cons.mpr ⟨trivial, fun _ h => nomatch h⟩⟩⟩) ?_
  show qW g l M_L_rows 1 6 0 [some (vr a0), some (vi a1), some (vr a2), none] [] σ Post
  refine wp_aload_n dL_rows_0 rfl ?_
  refine wp_iconst dL_rows_1 ?_
  refine wp_aload_n dL_rows_2 rfl ?_
  refine wp_iload_n dL_rows_3 rfl ?_
  refine wp_callV (M' := M_X7_rows) (As := [vi a1]) (st := [vi 0, vr a2]) (ci := 7) dL_rows_4 cee_X7_rows np_X7_rows rfl ⟨Nat.le_of_ble_eq_true rfl, Nat.le_of_ble_eq_true rfl, Nat.le_of_ble_eq_true rfl, Nat.le_of_ble_eq_true rfl⟩ wd_1048 wd_1049 wd_1050 rfl (Or.inl hK) (q_small_of (Nat.le_of_ble_eq_true rfl)) hM (fun σ' v hq => ?_) (fun σ' n hq => ?_)
  · obtain ⟨z, rfl, ho, hi, h⟩ := hv σ' v hq
    show qW g l M_L_rows (1 - M_X7_rows.2.2.2.2.1.cells) (6 - M_X7_rows.2.2.2.2.1.slots) 7 [some (vr a0), some (vi a1), some (vr a2), none] [vi z, vi 0, vr a2] σ' Post
    refine wp_nrm ?_
    refine wp_i2l dL_rows_7 (nrm_Q z) ?_
    refine wp_lastore dL_rows_8 ho hi ?_
    refine wp_goto (tgt := 15) dL_rows_9 (by decide) ?_
    refine wp_iconst dL_rows_15 ?_
    exact wp_ret_i dL_rows_16 rfl rfl h
  · rcases hx σ' n hq with ⟨rfl, h⟩
    · refine Or.inr ⟨tableOf [], _, tableOf [], rfl, ((fun _ h => nomatch h)), by decide, by decide, wd_356, by decide, fun r => ?_⟩
      show qW g l M_L_rows (1 - M_X7_rows.2.2.2.2.1.cells) (6 - M_X7_rows.2.2.2.2.1.slots) 12 [some (vr a0), some (vi a1), some (vr a2), none] [vr ((r + 1))] σ' Post
      refine wp_astore_n' (ls' := [some (vr a0), some (vi a1), some (vr a2), some (vr ((r + 1)))]) dL_rows_12 (Nat.le_of_ble_eq_true rfl) rfl ?_
      refine wp_iconst dL_rows_13 ?_
      exact wp_ret_i dL_rows_14 rfl rfl h
set_option maxRecDepth 100000 in
theorem wm_L_panels {g : qG} {l : Launch} (hl : l.stackTraces = false) {a0 : Nat} {a1 : Int} {a2 : Nat} {σ : qS} {Mid Post : qS → qRs → Prop} (hK : gK σ a0 = 8) (hM : qMet g l M_X7_panels [vr a0, vi a1] σ Mid) (hv : ∀ σ' v, Mid σ' (.inl v) → ∃ z, v = some (vi z) ∧ gK σ' a2 = 22 ∧ q_in σ' a2 0 ∧ Post (sA σ' a2 0 (nrm z)) (.inl (some (vi 0)))) (hx : ∀ σ' n, Mid σ' (.inr n) → (n = 2 ∧ Post σ' (.inl (some (vi 1))))) : qMet g l M_L_panels [vr a0, vi a1, vr a2] σ Post := by
  refine qMet_of hl (by decide +kernel) (Nat.le_of_ble_eq_true rfl) (List.forall_mem_cons.mpr ⟨trivial, List.forall_mem_cons.mpr ⟨trivial, List.forall_mem_cons.mpr ⟨trivial, fun _ h => nomatch h⟩⟩⟩) ?_
  show qW g l M_L_panels 1 6 0 [some (vr a0), some (vi a1), some (vr a2), none] [] σ Post
  refine wp_aload_n dL_panels_0 rfl ?_
  refine wp_iconst dL_panels_1 ?_
  refine wp_aload_n dL_panels_2 rfl ?_
  refine wp_iload_n dL_panels_3 rfl ?_
  refine wp_callV (M' := M_X7_panels) (As := [vi a1]) (st := [vi 0, vr a2]) (ci := 7) dL_panels_4 cee_X7_panels np_X7_panels rfl ⟨Nat.le_of_ble_eq_true rfl, Nat.le_of_ble_eq_true rfl, Nat.le_of_ble_eq_true rfl, Nat.le_of_ble_eq_true rfl⟩ wd_1055 wd_1056 wd_1057 rfl (Or.inl hK) (q_small_of (Nat.le_of_ble_eq_true rfl)) hM (fun σ' v hq => ?_) (fun σ' n hq => ?_)
  · obtain ⟨z, rfl, ho, hi, h⟩ := hv σ' v hq
    show qW g l M_L_panels (1 - M_X7_panels.2.2.2.2.1.cells) (6 - M_X7_panels.2.2.2.2.1.slots) 7 [some (vr a0), some (vi a1), some (vr a2), none] [vi z, vi 0, vr a2] σ' Post
    refine wp_nrm ?_
    refine wp_i2l dL_panels_7 (nrm_Q z) ?_
    refine wp_lastore dL_panels_8 ho hi ?_
    refine wp_goto (tgt := 15) dL_panels_9 (by decide) ?_
    refine wp_iconst dL_panels_15 ?_
    exact wp_ret_i dL_panels_16 rfl rfl h
  · rcases hx σ' n hq with ⟨rfl, h⟩
    · refine Or.inr ⟨tableOf [], _, tableOf [], rfl, ((fun _ h => nomatch h)), by decide, by decide, wd_356, by decide, fun r => ?_⟩
      show qW g l M_L_panels (1 - M_X7_panels.2.2.2.2.1.cells) (6 - M_X7_panels.2.2.2.2.1.slots) 12 [some (vr a0), some (vi a1), some (vr a2), none] [vr ((r + 1))] σ' Post
      refine wp_astore_n' (ls' := [some (vr a0), some (vi a1), some (vr a2), some (vr ((r + 1)))]) dL_panels_12 (Nat.le_of_ble_eq_true rfl) rfl ?_
      refine wp_iconst dL_panels_13 ?_
      exact wp_ret_i dL_panels_14 rfl rfl h
set_option maxRecDepth 100000 in
theorem wm_L_panelAt {g : qG} {l : Launch} (hl : l.stackTraces = false) {a0 : Nat} {a1 : Int} {a2 : Int} {a3 : Nat} {σ : qS} {Mid Post : qS → qRs → Prop} (hK : gK σ a0 = 8) (hM : qMet g l M_X7_panelAt [vr a0, vi a1, vi a2] σ Mid) (hv : ∀ σ' v, Mid σ' (.inl v) → ∃ z, v = some (vi z) ∧ gK σ' a3 = 22 ∧ q_in σ' a3 0 ∧ Post (sA σ' a3 0 (nrm z)) (.inl (some (vi 0)))) (hx : ∀ σ' n, Mid σ' (.inr n) → (n = 2 ∧ Post σ' (.inl (some (vi 1))))) : qMet g l M_L_panelAt [vr a0, vi a1, vi a2, vr a3] σ Post := by
  refine qMet_of hl (by decide +kernel) (Nat.le_of_ble_eq_true rfl) (List.forall_mem_cons.mpr ⟨trivial, List.forall_mem_cons.mpr ⟨trivial, List.forall_mem_cons.mpr ⟨trivial, List.forall_mem_cons.mpr ⟨trivial, fun _ h => nomatch h⟩⟩⟩⟩) ?_
  show qW g l M_L_panelAt 2 12 0 [some (vr a0), some (vi a1), some (vi a2), some (vr a3), none] [] σ Post
  refine wp_aload_n dL_panelAt_0 rfl ?_
  refine wp_iconst dL_panelAt_1 ?_
  refine wp_aload_n dL_panelAt_2 rfl ?_
  refine wp_iload_n dL_panelAt_3 rfl ?_
  refine wp_iload_n dL_panelAt_4 rfl ?_
  refine wp_callV (M' := M_X7_panelAt) (As := [vi a1, vi a2]) (st := [vi 0, vr a3]) (ci := 7) dL_panelAt_5 cee_X7_panelAt np_X7_panelAt rfl ⟨Nat.le_of_ble_eq_true rfl, Nat.le_of_ble_eq_true rfl, Nat.le_of_ble_eq_true rfl, Nat.le_of_ble_eq_true rfl⟩ wd_1062 wd_1063 wd_1064 rfl (Or.inl hK) (q_small_of (Nat.le_of_ble_eq_true rfl)) hM (fun σ' v hq => ?_) (fun σ' n hq => ?_)
  · obtain ⟨z, rfl, ho, hi, h⟩ := hv σ' v hq
    show qW g l M_L_panelAt (2 - M_X7_panelAt.2.2.2.2.1.cells) (12 - M_X7_panelAt.2.2.2.2.1.slots) 8 [some (vr a0), some (vi a1), some (vi a2), some (vr a3), none] [vi z, vi 0, vr a3] σ' Post
    refine wp_nrm ?_
    refine wp_i2l dL_panelAt_8 (nrm_Q z) ?_
    refine wp_lastore dL_panelAt_9 ho hi ?_
    refine wp_goto (tgt := 17) dL_panelAt_10 (by decide) ?_
    refine wp_iconst dL_panelAt_17 ?_
    exact wp_ret_i dL_panelAt_18 rfl rfl h
  · rcases hx σ' n hq with ⟨rfl, h⟩
    · refine Or.inr ⟨tableOf [], _, tableOf [], rfl, ((fun _ h => nomatch h)), by decide, by decide, wd_356, by decide, fun r => ?_⟩
      show qW g l M_L_panelAt (2 - M_X7_panelAt.2.2.2.2.1.cells) (12 - M_X7_panelAt.2.2.2.2.1.slots) 13 [some (vr a0), some (vi a1), some (vi a2), some (vr a3), none] [vr ((r + 1))] σ' Post
      refine wp_astore' (ls' := [some (vr a0), some (vi a1), some (vi a2), some (vr a3), some (vr ((r + 1)))]) dL_panelAt_13 (Nat.le_of_ble_eq_true rfl) rfl ?_
      refine wp_iconst dL_panelAt_15 ?_
      exact wp_ret_i dL_panelAt_16 rfl rfl h
set_option maxRecDepth 100000 in
theorem wm_L_lies {g : qG} {l : Launch} (hl : l.stackTraces = false) {a0 : Nat} {a1 : Int} {a2 : Int} {a3 : Nat} {σ : qS} {Mid Post : qS → qRs → Prop} (hK : gK σ a0 = 8) (hM : qMet g l M_X7_lies [vr a0, vi a1, vi a2] σ Mid) (hv : ∀ σ' v, Mid σ' (.inl v) → ∃ z, v = some (vi z) ∧ gK σ' a3 = 22 ∧ q_in σ' a3 0 ∧ Post (sA σ' a3 0 (nrm z)) (.inl (some (vi 0)))) (hx : ∀ σ' n, Mid σ' (.inr n) → (n = 2 ∧ Post σ' (.inl (some (vi 1)))) ∨ (n = 1 ∧ Post σ' (.inl (some (vi 2))))) : qMet g l M_L_lies [vr a0, vi a1, vi a2, vr a3] σ Post := by
  refine qMet_of hl (by decide +kernel) (Nat.le_of_ble_eq_true rfl) (List.forall_mem_cons.mpr ⟨trivial, List.forall_mem_cons.mpr ⟨trivial, List.forall_mem_cons.mpr ⟨trivial, List.forall_mem_cons.mpr ⟨trivial, fun _ h => nomatch h⟩⟩⟩⟩) ?_
  show qW g l M_L_lies 2 12 0 [some (vr a0), some (vi a1), some (vi a2), some (vr a3), none] [] σ Post
  refine wp_aload_n dL_lies_0 rfl ?_
  refine wp_iconst dL_lies_1 ?_
  refine wp_aload_n dL_lies_2 rfl ?_
  refine wp_iload_n dL_lies_3 rfl ?_
  refine wp_iload_n dL_lies_4 rfl ?_
  refine wp_callV (M' := M_X7_lies) (As := [vi a1, vi a2]) (st := [vi 0, vr a3]) (ci := 7) dL_lies_5 cee_X7_lies np_X7_lies rfl ⟨Nat.le_of_ble_eq_true rfl, Nat.le_of_ble_eq_true rfl, Nat.le_of_ble_eq_true rfl, Nat.le_of_ble_eq_true rfl⟩ wd_1069 wd_1070 wd_1071 rfl (Or.inl hK) (q_small_of (Nat.le_of_ble_eq_true rfl)) hM (fun σ' v hq => ?_) (fun σ' n hq => ?_)
  · obtain ⟨z, rfl, ho, hi, h⟩ := hv σ' v hq
    show qW g l M_L_lies (2 - M_X7_lies.2.2.2.2.1.cells) (12 - M_X7_lies.2.2.2.2.1.slots) 8 [some (vr a0), some (vi a1), some (vi a2), some (vr a3), none] [vi z, vi 0, vr a3] σ' Post
    refine wp_nrm ?_
    refine wp_i2l dL_lies_8 (nrm_Q z) ?_
    refine wp_lastore dL_lies_9 ho hi ?_
    refine wp_goto (tgt := 21) dL_lies_10 (by decide) ?_
    refine wp_iconst dL_lies_21 ?_
    exact wp_ret_i dL_lies_22 rfl rfl h
  · rcases hx σ' n hq with ⟨rfl, h⟩ | ⟨rfl, h⟩
    · refine Or.inr ⟨tableOf [], _, tableOf [(0, 10, 17, 21)], rfl, ((fun _ h => nomatch h)), by decide, by decide, wd_356, by decide, fun r => ?_⟩
      show qW g l M_L_lies (2 - M_X7_lies.2.2.2.2.1.cells) (12 - M_X7_lies.2.2.2.2.1.slots) 13 [some (vr a0), some (vi a1), some (vi a2), some (vr a3), none] [vr ((r + 1))] σ' Post
      refine wp_astore' (ls' := [some (vr a0), some (vi a1), some (vi a2), some (vr a3), some (vr ((r + 1)))]) dL_lies_13 (Nat.le_of_ble_eq_true rfl) rfl ?_
      refine wp_iconst dL_lies_15 ?_
      exact wp_ret_i dL_lies_16 rfl rfl h
    · refine Or.inr ⟨tableOf [(0, 10, 13, 19)], _, tableOf [], rfl, (List.forall_mem_cons.mpr ⟨Or.inr ⟨by decide, 2, by decide, by decide, wd_356⟩, (fun _ h => nomatch h)⟩), by decide, by decide, wd_357, by decide, fun r => ?_⟩
      show qW g l M_L_lies (2 - M_X7_lies.2.2.2.2.1.cells) (12 - M_X7_lies.2.2.2.2.1.slots) 17 [some (vr a0), some (vi a1), some (vi a2), some (vr a3), none] [vr ((r + 1))] σ' Post
      refine wp_astore' (ls' := [some (vr a0), some (vi a1), some (vi a2), some (vr a3), some (vr ((r + 1)))]) dL_lies_17 (Nat.le_of_ble_eq_true rfl) rfl ?_
      refine wp_iconst dL_lies_19 ?_
      exact wp_ret_i dL_lies_20 rfl rfl h
set_option maxRecDepth 100000 in
theorem wm_L_floats {g : qG} {l : Launch} (hl : l.stackTraces = false) {a0 : Nat} {a1 : Int} {a2 : Int} {a3 : Nat} {σ : qS} {Mid Post : qS → qRs → Prop} (hK : gK σ a0 = 8) (hM : qMet g l M_X7_floats [vr a0, vi a1, vi a2] σ Mid) (hv : ∀ σ' v, Mid σ' (.inl v) → ∃ z, v = some (vi z) ∧ gK σ' a3 = 22 ∧ q_in σ' a3 0 ∧ Post (sA σ' a3 0 (nrm z)) (.inl (some (vi 0)))) (hx : ∀ σ' n, Mid σ' (.inr n) → (n = 2 ∧ Post σ' (.inl (some (vi 1)))) ∨ (n = 1 ∧ Post σ' (.inl (some (vi 2))))) : qMet g l M_L_floats [vr a0, vi a1, vi a2, vr a3] σ Post := by
  refine qMet_of hl (by decide +kernel) (Nat.le_of_ble_eq_true rfl) (List.forall_mem_cons.mpr ⟨trivial, List.forall_mem_cons.mpr ⟨trivial, List.forall_mem_cons.mpr ⟨trivial, List.forall_mem_cons.mpr ⟨trivial, fun _ h => nomatch h⟩⟩⟩⟩) ?_
  show qW g l M_L_floats 2 12 0 [some (vr a0), some (vi a1), some (vi a2), some (vr a3), none] [] σ Post
  refine wp_aload_n dL_floats_0 rfl ?_
  refine wp_iconst dL_floats_1 ?_
  refine wp_aload_n dL_floats_2 rfl ?_
  refine wp_iload_n dL_floats_3 rfl ?_
  refine wp_iload_n dL_floats_4 rfl ?_
  refine wp_callV (M' := M_X7_floats) (As := [vi a1, vi a2]) (st := [vi 0, vr a3]) (ci := 7) dL_floats_5 cee_X7_floats np_X7_floats rfl ⟨Nat.le_of_ble_eq_true rfl, Nat.le_of_ble_eq_true rfl, Nat.le_of_ble_eq_true rfl, Nat.le_of_ble_eq_true rfl⟩ wd_1080 wd_1081 wd_1082 rfl (Or.inl hK) (q_small_of (Nat.le_of_ble_eq_true rfl)) hM (fun σ' v hq => ?_) (fun σ' n hq => ?_)
  · obtain ⟨z, rfl, ho, hi, h⟩ := hv σ' v hq
    show qW g l M_L_floats (2 - M_X7_floats.2.2.2.2.1.cells) (12 - M_X7_floats.2.2.2.2.1.slots) 8 [some (vr a0), some (vi a1), some (vi a2), some (vr a3), none] [vi z, vi 0, vr a3] σ' Post
    refine wp_nrm ?_
    refine wp_i2l dL_floats_8 (nrm_Q z) ?_
    refine wp_lastore dL_floats_9 ho hi ?_
    refine wp_goto (tgt := 21) dL_floats_10 (by decide) ?_
    refine wp_iconst dL_floats_21 ?_
    exact wp_ret_i dL_floats_22 rfl rfl h
  · rcases hx σ' n hq with ⟨rfl, h⟩ | ⟨rfl, h⟩
    · refine Or.inr ⟨tableOf [], _, tableOf [(0, 10, 17, 21)], rfl, ((fun _ h => nomatch h)), by decide, by decide, wd_356, by decide, fun r => ?_⟩
      show qW g l M_L_floats (2 - M_X7_floats.2.2.2.2.1.cells) (12 - M_X7_floats.2.2.2.2.1.slots) 13 [some (vr a0), some (vi a1), some (vi a2), some (vr a3), none] [vr ((r + 1))] σ' Post
      refine wp_astore' (ls' := [some (vr a0), some (vi a1), some (vi a2), some (vr a3), some (vr ((r + 1)))]) dL_floats_13 (Nat.le_of_ble_eq_true rfl) rfl ?_
      refine wp_iconst dL_floats_15 ?_
      exact wp_ret_i dL_floats_16 rfl rfl h
    · refine Or.inr ⟨tableOf [(0, 10, 13, 19)], _, tableOf [], rfl, (List.forall_mem_cons.mpr ⟨Or.inr ⟨by decide, 2, by decide, by decide, wd_356⟩, (fun _ h => nomatch h)⟩), by decide, by decide, wd_357, by decide, fun r => ?_⟩
      show qW g l M_L_floats (2 - M_X7_floats.2.2.2.2.1.cells) (12 - M_X7_floats.2.2.2.2.1.slots) 17 [some (vr a0), some (vi a1), some (vi a2), some (vr a3), none] [vr ((r + 1))] σ' Post
      refine wp_astore' (ls' := [some (vr a0), some (vi a1), some (vi a2), some (vr a3), some (vr ((r + 1)))]) dL_floats_17 (Nat.le_of_ble_eq_true rfl) rfl ?_
      refine wp_iconst dL_floats_19 ?_
      exact wp_ret_i dL_floats_20 rfl rfl h
set_option maxRecDepth 100000 in
theorem wm_L_cell {g : qG} {l : Launch} (hl : l.stackTraces = false) {a0 : Nat} {a1 : Int} {a2 : Int} {a3 : Int} {a4 : Nat} {σ : qS} {Mid Post : qS → qRs → Prop} (hK : gK σ a0 = 8) (hM : qMet g l M_X7_cell [vr a0, vi a1, vi a2, vi a3] σ Mid) (hv : ∀ σ' v, Mid σ' (.inl v) → ∃ z, v = some (vi z) ∧ gK σ' a4 = 22 ∧ q_in σ' a4 0 ∧ Post (sA σ' a4 0 (nrm z)) (.inl (some (vi 0)))) (hx : ∀ σ' n, Mid σ' (.inr n) → (n = 2 ∧ Post σ' (.inl (some (vi 1))))) : qMet g l M_L_cell [vr a0, vi a1, vi a2, vi a3, vr a4] σ Post := by
  refine qMet_of hl (by decide +kernel) (Nat.le_of_ble_eq_true rfl) (List.forall_mem_cons.mpr ⟨trivial, List.forall_mem_cons.mpr ⟨trivial, List.forall_mem_cons.mpr ⟨trivial, List.forall_mem_cons.mpr ⟨trivial, List.forall_mem_cons.mpr ⟨trivial, fun _ h => nomatch h⟩⟩⟩⟩⟩) ?_
  show qW g l M_L_cell 3 18 0 [some (vr a0), some (vi a1), some (vi a2), some (vi a3), some (vr a4), none] [] σ Post
  refine wp_aload dL_cell_0 rfl ?_
  refine wp_iconst dL_cell_2 ?_
  refine wp_aload_n dL_cell_3 rfl ?_
  refine wp_iload_n dL_cell_4 rfl ?_
  refine wp_iload_n dL_cell_5 rfl ?_
  refine wp_iload_n dL_cell_6 rfl ?_
  refine wp_callV (M' := M_X7_cell) (As := [vi a1, vi a2, vi a3]) (st := [vi 0, vr a4]) (ci := 7) dL_cell_7 cee_X7_cell np_X7_cell rfl ⟨Nat.le_of_ble_eq_true rfl, Nat.le_of_ble_eq_true rfl, Nat.le_of_ble_eq_true rfl, Nat.le_of_ble_eq_true rfl⟩ wd_1087 wd_1088 wd_1089 rfl (Or.inl hK) (q_small_of (Nat.le_of_ble_eq_true rfl)) hM (fun σ' v hq => ?_) (fun σ' n hq => ?_)
  · obtain ⟨z, rfl, ho, hi, h⟩ := hv σ' v hq
    show qW g l M_L_cell (3 - M_X7_cell.2.2.2.2.1.cells) (18 - M_X7_cell.2.2.2.2.1.slots) 10 [some (vr a0), some (vi a1), some (vi a2), some (vi a3), some (vr a4), none] [vi z, vi 0, vr a4] σ' Post
    refine wp_nrm ?_
    refine wp_i2l dL_cell_10 (nrm_Q z) ?_
    refine wp_lastore dL_cell_11 ho hi ?_
    refine wp_goto (tgt := 19) dL_cell_12 (by decide) ?_
    refine wp_iconst dL_cell_19 ?_
    exact wp_ret_i dL_cell_20 rfl rfl h
  · rcases hx σ' n hq with ⟨rfl, h⟩
    · refine Or.inr ⟨tableOf [], _, tableOf [], rfl, ((fun _ h => nomatch h)), by decide, by decide, wd_356, by decide, fun r => ?_⟩
      show qW g l M_L_cell (3 - M_X7_cell.2.2.2.2.1.cells) (18 - M_X7_cell.2.2.2.2.1.slots) 15 [some (vr a0), some (vi a1), some (vi a2), some (vi a3), some (vr a4), none] [vr ((r + 1))] σ' Post
      refine wp_astore' (ls' := [some (vr a0), some (vi a1), some (vi a2), some (vi a3), some (vr a4), some (vr ((r + 1)))]) dL_cell_15 (Nat.le_of_ble_eq_true rfl) rfl ?_
      refine wp_iconst dL_cell_17 ?_
      exact wp_ret_i dL_cell_18 rfl rfl h
set_option maxRecDepth 100000 in
theorem wm_L_read {g : qG} {l : Launch} (hl : l.stackTraces = false) {a0 : Nat} {a1 : Int} {a2 : Nat} {σ : qS} {Mid Post : qS → qRs → Prop} (hK : gK σ a0 = 8) (hM : qMet g l M_X7_read [vr a0, vi a1] σ Mid) (hv : ∀ σ' v, Mid σ' (.inl v) → ∃ z, v = some (vi z) ∧ gK σ' a2 = 22 ∧ q_in σ' a2 0 ∧ Post (sA σ' a2 0 (nrm z)) (.inl (some (vi 0)))) (hx : ∀ σ' n, Mid σ' (.inr n) → (n = 2 ∧ Post σ' (.inl (some (vi 1))))) : qMet g l M_L_read [vr a0, vi a1, vr a2] σ Post := by
  refine qMet_of hl (by decide +kernel) (Nat.le_of_ble_eq_true rfl) (List.forall_mem_cons.mpr ⟨trivial, List.forall_mem_cons.mpr ⟨trivial, List.forall_mem_cons.mpr ⟨trivial, fun _ h => nomatch h⟩⟩⟩) ?_
  show qW g l M_L_read 1 6 0 [some (vr a0), some (vi a1), some (vr a2), none] [] σ Post
  refine wp_aload_n dL_read_0 rfl ?_
  refine wp_iconst dL_read_1 ?_
  refine wp_aload_n dL_read_2 rfl ?_
  refine wp_iload_n dL_read_3 rfl ?_
  refine wp_callV (M' := M_X7_read) (As := [vi a1]) (st := [vi 0, vr a2]) (ci := 7) dL_read_4 cee_X7_read np_X7_read rfl ⟨Nat.le_of_ble_eq_true rfl, Nat.le_of_ble_eq_true rfl, Nat.le_of_ble_eq_true rfl, Nat.le_of_ble_eq_true rfl⟩ wd_1103 wd_1104 wd_1105 rfl (Or.inl hK) (q_small_of (Nat.le_of_ble_eq_true rfl)) hM (fun σ' v hq => ?_) (fun σ' n hq => ?_)
  · obtain ⟨z, rfl, ho, hi, h⟩ := hv σ' v hq
    show qW g l M_L_read (1 - M_X7_read.2.2.2.2.1.cells) (6 - M_X7_read.2.2.2.2.1.slots) 7 [some (vr a0), some (vi a1), some (vr a2), none] [vi z, vi 0, vr a2] σ' Post
    refine wp_nrm ?_
    refine wp_i2l dL_read_7 (nrm_Q z) ?_
    refine wp_lastore dL_read_8 ho hi ?_
    refine wp_goto (tgt := 15) dL_read_9 (by decide) ?_
    refine wp_iconst dL_read_15 ?_
    exact wp_ret_i dL_read_16 rfl rfl h
  · rcases hx σ' n hq with ⟨rfl, h⟩
    · refine Or.inr ⟨tableOf [], _, tableOf [], rfl, ((fun _ h => nomatch h)), by decide, by decide, wd_356, by decide, fun r => ?_⟩
      show qW g l M_L_read (1 - M_X7_read.2.2.2.2.1.cells) (6 - M_X7_read.2.2.2.2.1.slots) 12 [some (vr a0), some (vi a1), some (vr a2), none] [vr ((r + 1))] σ' Post
      refine wp_astore_n' (ls' := [some (vr a0), some (vi a1), some (vr a2), some (vr ((r + 1)))]) dL_read_12 (Nat.le_of_ble_eq_true rfl) rfl ?_
      refine wp_iconst dL_read_13 ?_
      exact wp_ret_i dL_read_14 rfl rfl h
set_option maxRecDepth 100000 in
theorem wm_L_placeOf {g : qG} {l : Launch} (hl : l.stackTraces = false) {a0 : Nat} {a1 : Int} {a2 : Nat} {σ : qS} {Mid Post : qS → qRs → Prop} (hK : gK σ a0 = 8) (hM : qMet g l M_X7_placeOf [vr a0, vi a1] σ Mid) (hv : ∀ σ' v, Mid σ' (.inl v) → ∃ z, v = some (vi z) ∧ gK σ' a2 = 22 ∧ q_in σ' a2 0 ∧ Post (sA σ' a2 0 (nrm z)) (.inl (some (vi 0)))) (hx : ∀ σ' n, Mid σ' (.inr n) → (n = 2 ∧ Post σ' (.inl (some (vi 1))))) : qMet g l M_L_placeOf [vr a0, vi a1, vr a2] σ Post := by
  refine qMet_of hl (by decide +kernel) (Nat.le_of_ble_eq_true rfl) (List.forall_mem_cons.mpr ⟨trivial, List.forall_mem_cons.mpr ⟨trivial, List.forall_mem_cons.mpr ⟨trivial, fun _ h => nomatch h⟩⟩⟩) ?_
  show qW g l M_L_placeOf 1 6 0 [some (vr a0), some (vi a1), some (vr a2), none] [] σ Post
  refine wp_aload_n dL_placeOf_0 rfl ?_
  refine wp_iconst dL_placeOf_1 ?_
  refine wp_aload_n dL_placeOf_2 rfl ?_
  refine wp_iload_n dL_placeOf_3 rfl ?_
  refine wp_callV (M' := M_X7_placeOf) (As := [vi a1]) (st := [vi 0, vr a2]) (ci := 7) dL_placeOf_4 cee_X7_placeOf np_X7_placeOf rfl ⟨Nat.le_of_ble_eq_true rfl, Nat.le_of_ble_eq_true rfl, Nat.le_of_ble_eq_true rfl, Nat.le_of_ble_eq_true rfl⟩ wd_1114 wd_1115 wd_1116 rfl (Or.inl hK) (q_small_of (Nat.le_of_ble_eq_true rfl)) hM (fun σ' v hq => ?_) (fun σ' n hq => ?_)
  · obtain ⟨z, rfl, ho, hi, h⟩ := hv σ' v hq
    show qW g l M_L_placeOf (1 - M_X7_placeOf.2.2.2.2.1.cells) (6 - M_X7_placeOf.2.2.2.2.1.slots) 7 [some (vr a0), some (vi a1), some (vr a2), none] [vi z, vi 0, vr a2] σ' Post
    refine wp_nrm ?_
    refine wp_i2l dL_placeOf_7 (nrm_Q z) ?_
    refine wp_lastore dL_placeOf_8 ho hi ?_
    refine wp_goto (tgt := 15) dL_placeOf_9 (by decide) ?_
    refine wp_iconst dL_placeOf_15 ?_
    exact wp_ret_i dL_placeOf_16 rfl rfl h
  · rcases hx σ' n hq with ⟨rfl, h⟩
    · refine Or.inr ⟨tableOf [], _, tableOf [], rfl, ((fun _ h => nomatch h)), by decide, by decide, wd_356, by decide, fun r => ?_⟩
      show qW g l M_L_placeOf (1 - M_X7_placeOf.2.2.2.2.1.cells) (6 - M_X7_placeOf.2.2.2.2.1.slots) 12 [some (vr a0), some (vi a1), some (vr a2), none] [vr ((r + 1))] σ' Post
      refine wp_astore_n' (ls' := [some (vr a0), some (vi a1), some (vr a2), some (vr ((r + 1)))]) dL_placeOf_12 (Nat.le_of_ble_eq_true rfl) rfl ?_
      refine wp_iconst dL_placeOf_13 ?_
      exact wp_ret_i dL_placeOf_14 rfl rfl h
set_option maxRecDepth 100000 in
theorem wm_L_placeByPairs {g : qG} {l : Launch} (hl : l.stackTraces = false) {a0 : Nat} {a1 : Int} {a2 : Nat} {σ : qS} {Mid Post : qS → qRs → Prop} (hK : gK σ a0 = 8) (hM : qMet g l M_X7_placeByPairs [vr a0, vi a1] σ Mid) (hv : ∀ σ' v, Mid σ' (.inl v) → ∃ z, v = some (vi z) ∧ gK σ' a2 = 22 ∧ q_in σ' a2 0 ∧ Post (sA σ' a2 0 (nrm z)) (.inl (some (vi 0)))) (hx : ∀ σ' n, Mid σ' (.inr n) → (n = 2 ∧ Post σ' (.inl (some (vi 1))))) : qMet g l M_L_placeByPairs [vr a0, vi a1, vr a2] σ Post := by
  refine qMet_of hl (by decide +kernel) (Nat.le_of_ble_eq_true rfl) (List.forall_mem_cons.mpr ⟨trivial, List.forall_mem_cons.mpr ⟨trivial, List.forall_mem_cons.mpr ⟨trivial, fun _ h => nomatch h⟩⟩⟩) ?_
  show qW g l M_L_placeByPairs 1 6 0 [some (vr a0), some (vi a1), some (vr a2), none] [] σ Post
  refine wp_aload_n dL_placeByPairs_0 rfl ?_
  refine wp_iconst dL_placeByPairs_1 ?_
  refine wp_aload_n dL_placeByPairs_2 rfl ?_
  refine wp_iload_n dL_placeByPairs_3 rfl ?_
  refine wp_callV (M' := M_X7_placeByPairs) (As := [vi a1]) (st := [vi 0, vr a2]) (ci := 7) dL_placeByPairs_4 cee_X7_placeByPairs np_X7_placeByPairs rfl ⟨Nat.le_of_ble_eq_true rfl, Nat.le_of_ble_eq_true rfl, Nat.le_of_ble_eq_true rfl, Nat.le_of_ble_eq_true rfl⟩ wd_1125 wd_1126 wd_1127 rfl (Or.inl hK) (q_small_of (Nat.le_of_ble_eq_true rfl)) hM (fun σ' v hq => ?_) (fun σ' n hq => ?_)
  · obtain ⟨z, rfl, ho, hi, h⟩ := hv σ' v hq
    show qW g l M_L_placeByPairs (1 - M_X7_placeByPairs.2.2.2.2.1.cells) (6 - M_X7_placeByPairs.2.2.2.2.1.slots) 7 [some (vr a0), some (vi a1), some (vr a2), none] [vi z, vi 0, vr a2] σ' Post
    refine wp_nrm ?_
    refine wp_i2l dL_placeByPairs_7 (nrm_Q z) ?_
    refine wp_lastore dL_placeByPairs_8 ho hi ?_
    refine wp_goto (tgt := 15) dL_placeByPairs_9 (by decide) ?_
    refine wp_iconst dL_placeByPairs_15 ?_
    exact wp_ret_i dL_placeByPairs_16 rfl rfl h
  · rcases hx σ' n hq with ⟨rfl, h⟩
    · refine Or.inr ⟨tableOf [], _, tableOf [], rfl, ((fun _ h => nomatch h)), by decide, by decide, wd_356, by decide, fun r => ?_⟩
      show qW g l M_L_placeByPairs (1 - M_X7_placeByPairs.2.2.2.2.1.cells) (6 - M_X7_placeByPairs.2.2.2.2.1.slots) 12 [some (vr a0), some (vi a1), some (vr a2), none] [vr ((r + 1))] σ' Post
      refine wp_astore_n' (ls' := [some (vr a0), some (vi a1), some (vr a2), some (vr ((r + 1)))]) dL_placeByPairs_12 (Nat.le_of_ble_eq_true rfl) rfl ?_
      refine wp_iconst dL_placeByPairs_13 ?_
      exact wp_ret_i dL_placeByPairs_14 rfl rfl h
set_option maxRecDepth 100000 in
theorem wm_L_depth {g : qG} {l : Launch} (hl : l.stackTraces = false) {a0 : Nat} {a1 : Int} {a2 : Nat} {σ : qS} {Mid Post : qS → qRs → Prop} (hK : gK σ a0 = 8) (hM : qMet g l M_X7_depth [vr a0, vi a1] σ Mid) (hv : ∀ σ' v, Mid σ' (.inl v) → ∃ z, v = some (vi z) ∧ gK σ' a2 = 22 ∧ q_in σ' a2 0 ∧ Post (sA σ' a2 0 (nrm z)) (.inl (some (vi 0)))) (hx : ∀ σ' n, Mid σ' (.inr n) → (n = 2 ∧ Post σ' (.inl (some (vi 1))))) : qMet g l M_L_depth [vr a0, vi a1, vr a2] σ Post := by
  refine qMet_of hl (by decide +kernel) (Nat.le_of_ble_eq_true rfl) (List.forall_mem_cons.mpr ⟨trivial, List.forall_mem_cons.mpr ⟨trivial, List.forall_mem_cons.mpr ⟨trivial, fun _ h => nomatch h⟩⟩⟩) ?_
  show qW g l M_L_depth 1 6 0 [some (vr a0), some (vi a1), some (vr a2), none] [] σ Post
  refine wp_aload_n dL_depth_0 rfl ?_
  refine wp_iconst dL_depth_1 ?_
  refine wp_aload_n dL_depth_2 rfl ?_
  refine wp_iload_n dL_depth_3 rfl ?_
  refine wp_callV (M' := M_X7_depth) (As := [vi a1]) (st := [vi 0, vr a2]) (ci := 7) dL_depth_4 cee_X7_depth np_X7_depth rfl ⟨Nat.le_of_ble_eq_true rfl, Nat.le_of_ble_eq_true rfl, Nat.le_of_ble_eq_true rfl, Nat.le_of_ble_eq_true rfl⟩ wd_1141 wd_1142 wd_1143 rfl (Or.inl hK) (q_small_of (Nat.le_of_ble_eq_true rfl)) hM (fun σ' v hq => ?_) (fun σ' n hq => ?_)
  · obtain ⟨z, rfl, ho, hi, h⟩ := hv σ' v hq
    show qW g l M_L_depth (1 - M_X7_depth.2.2.2.2.1.cells) (6 - M_X7_depth.2.2.2.2.1.slots) 7 [some (vr a0), some (vi a1), some (vr a2), none] [vi z, vi 0, vr a2] σ' Post
    refine wp_nrm ?_
    refine wp_i2l dL_depth_7 (nrm_Q z) ?_
    refine wp_lastore dL_depth_8 ho hi ?_
    refine wp_goto (tgt := 15) dL_depth_9 (by decide) ?_
    refine wp_iconst dL_depth_15 ?_
    exact wp_ret_i dL_depth_16 rfl rfl h
  · rcases hx σ' n hq with ⟨rfl, h⟩
    · refine Or.inr ⟨tableOf [], _, tableOf [], rfl, ((fun _ h => nomatch h)), by decide, by decide, wd_356, by decide, fun r => ?_⟩
      show qW g l M_L_depth (1 - M_X7_depth.2.2.2.2.1.cells) (6 - M_X7_depth.2.2.2.2.1.slots) 12 [some (vr a0), some (vi a1), some (vr a2), none] [vr ((r + 1))] σ' Post
      refine wp_astore_n' (ls' := [some (vr a0), some (vi a1), some (vr a2), some (vr ((r + 1)))]) dL_depth_12 (Nat.le_of_ble_eq_true rfl) rfl ?_
      refine wp_iconst dL_depth_13 ?_
      exact wp_ret_i dL_depth_14 rfl rfl h
set_option maxRecDepth 100000 in
theorem wm_L_spread {g : qG} {l : Launch} (hl : l.stackTraces = false) {a0 : Nat} {a1 : Int} {a2 : Nat} {σ : qS} {Mid Post : qS → qRs → Prop} (hK : gK σ a0 = 8) (hM : qMet g l M_X7_spread [vr a0, vi a1] σ Mid) (hv : ∀ σ' v, Mid σ' (.inl v) → ∃ z, v = some (vi z) ∧ gK σ' a2 = 22 ∧ q_in σ' a2 0 ∧ Post (sA σ' a2 0 (if nrm z = 0 then 0 else 1)) (.inl (some (vi 0)))) (hx : ∀ σ' n, Mid σ' (.inr n) → (n = 2 ∧ Post σ' (.inl (some (vi 1)))) ∨ (n = 0 ∧ Post σ' (.inl (some (vi 2))))) : qMet g l M_L_spread [vr a0, vi a1, vr a2] σ Post := by
  refine qMet_of hl (by decide +kernel) (Nat.le_of_ble_eq_true rfl) (List.forall_mem_cons.mpr ⟨trivial, List.forall_mem_cons.mpr ⟨trivial, List.forall_mem_cons.mpr ⟨trivial, fun _ h => nomatch h⟩⟩⟩) ?_
  show qW g l M_L_spread 3 18 0 [some (vr a0), some (vi a1), some (vr a2), none] [] σ Post
  refine wp_aload_n dL_spread_0 rfl ?_
  refine wp_iconst dL_spread_1 ?_
  refine wp_aload_n dL_spread_2 rfl ?_
  refine wp_iload_n dL_spread_3 rfl ?_
  refine wp_callV (M' := M_X7_spread) (As := [vi a1]) (st := [vi 0, vr a2]) (ci := 7) dL_spread_4 cee_X7_spread np_X7_spread rfl ⟨Nat.le_of_ble_eq_true rfl, Nat.le_of_ble_eq_true rfl, Nat.le_of_ble_eq_true rfl, Nat.le_of_ble_eq_true rfl⟩ wd_1148 wd_1149 wd_1150 rfl (Or.inl hK) (q_small_of (Nat.le_of_ble_eq_true rfl)) hM (fun σ' v hq => ?_) (fun σ' n hq => ?_)
  · obtain ⟨z, rfl, ho, hi, h⟩ := hv σ' v hq
    show qW g l M_L_spread (3 - M_X7_spread.2.2.2.2.1.cells) (18 - M_X7_spread.2.2.2.2.1.slots) 7 [some (vr a0), some (vi a1), some (vr a2), none] [vi z, vi 0, vr a2] σ' Post
    refine wp_nrm ?_
    refine wp_if_eq (tgt := 14) dL_spread_7 (by decide) (nrm_Q z) (fun c9 => ?_) (fun c9 => ?_)
    · rw [if_pos c9] at h
      refine wp_lconst dL_spread_14 ?_
      refine wp_lastore dL_spread_15 ho hi ?_
      refine wp_goto (tgt := 25) dL_spread_16 (by decide) ?_
      refine wp_iconst dL_spread_25 ?_
      exact wp_ret_i dL_spread_26 rfl rfl h
    · rw [if_neg c9] at h
      refine wp_lconst dL_spread_10 ?_
      refine wp_goto (tgt := 15) dL_spread_11 (by decide) ?_
      refine wp_lastore dL_spread_15 ho hi ?_
      refine wp_goto (tgt := 25) dL_spread_16 (by decide) ?_
      refine wp_iconst dL_spread_25 ?_
      exact wp_ret_i dL_spread_26 rfl rfl h
  · rcases hx σ' n hq with ⟨rfl, h⟩ | ⟨rfl, h⟩
    · refine Or.inr ⟨tableOf [], _, tableOf [(0, 16, 22, 13)], rfl, ((fun _ h => nomatch h)), by decide, by decide, wd_356, by decide, fun r => ?_⟩
      show qW g l M_L_spread (3 - M_X7_spread.2.2.2.2.1.cells) (18 - M_X7_spread.2.2.2.2.1.slots) 19 [some (vr a0), some (vi a1), some (vr a2), none] [vr ((r + 1))] σ' Post
      refine wp_astore_n' (ls' := [some (vr a0), some (vi a1), some (vr a2), some (vr ((r + 1)))]) dL_spread_19 (Nat.le_of_ble_eq_true rfl) rfl ?_
      refine wp_iconst dL_spread_20 ?_
      exact wp_ret_i dL_spread_21 rfl rfl h
    · refine Or.inr ⟨tableOf [(0, 16, 19, 19)], _, tableOf [], rfl, (List.forall_mem_cons.mpr ⟨Or.inr ⟨by decide, 2, by decide, by decide, wd_356⟩, (fun _ h => nomatch h)⟩), by decide, by decide, wd_184, by decide, fun r => ?_⟩
      show qW g l M_L_spread (3 - M_X7_spread.2.2.2.2.1.cells) (18 - M_X7_spread.2.2.2.2.1.slots) 22 [some (vr a0), some (vi a1), some (vr a2), none] [vr ((r + 1))] σ' Post
      refine wp_astore_n' (ls' := [some (vr a0), some (vi a1), some (vr a2), some (vr ((r + 1)))]) dL_spread_22 (Nat.le_of_ble_eq_true rfl) rfl ?_
      refine wp_iconst dL_spread_23 ?_
      exact wp_ret_i dL_spread_24 rfl rfl h
set_option maxRecDepth 100000 in
theorem wm_L_leaves {g : qG} {l : Launch} (hl : l.stackTraces = false) {a0 : Nat} {a1 : Int} {a2 : Nat} {σ : qS} {Mid Post : qS → qRs → Prop} (hK : gK σ a0 = 8) (hM : qMet g l M_X7_leaves [vr a0, vi a1] σ Mid) (hv : ∀ σ' v, Mid σ' (.inl v) → ∃ z, v = some (vi z) ∧ gK σ' a2 = 22 ∧ q_in σ' a2 0 ∧ Post (sA σ' a2 0 (nrm z)) (.inl (some (vi 0)))) (hx : ∀ σ' n, Mid σ' (.inr n) → (n = 1 ∧ Post σ' (.inl (some (vi 1))))) : qMet g l M_L_leaves [vr a0, vi a1, vr a2] σ Post := by
  refine qMet_of hl (by decide +kernel) (Nat.le_of_ble_eq_true rfl) (List.forall_mem_cons.mpr ⟨trivial, List.forall_mem_cons.mpr ⟨trivial, List.forall_mem_cons.mpr ⟨trivial, fun _ h => nomatch h⟩⟩⟩) ?_
  show qW g l M_L_leaves 1 6 0 [some (vr a0), some (vi a1), some (vr a2), none] [] σ Post
  refine wp_aload_n dL_leaves_0 rfl ?_
  refine wp_iconst dL_leaves_1 ?_
  refine wp_aload_n dL_leaves_2 rfl ?_
  refine wp_iload_n dL_leaves_3 rfl ?_
  refine wp_callV (M' := M_X7_leaves) (As := [vi a1]) (st := [vi 0, vr a2]) (ci := 7) dL_leaves_4 cee_X7_leaves np_X7_leaves rfl ⟨Nat.le_of_ble_eq_true rfl, Nat.le_of_ble_eq_true rfl, Nat.le_of_ble_eq_true rfl, Nat.le_of_ble_eq_true rfl⟩ wd_1160 wd_1161 wd_1162 rfl (Or.inl hK) (q_small_of (Nat.le_of_ble_eq_true rfl)) hM (fun σ' v hq => ?_) (fun σ' n hq => ?_)
  · obtain ⟨z, rfl, ho, hi, h⟩ := hv σ' v hq
    show qW g l M_L_leaves (1 - M_X7_leaves.2.2.2.2.1.cells) (6 - M_X7_leaves.2.2.2.2.1.slots) 7 [some (vr a0), some (vi a1), some (vr a2), none] [vi z, vi 0, vr a2] σ' Post
    refine wp_nrm ?_
    refine wp_i2l dL_leaves_7 (nrm_Q z) ?_
    refine wp_lastore dL_leaves_8 ho hi ?_
    refine wp_goto (tgt := 15) dL_leaves_9 (by decide) ?_
    refine wp_iconst dL_leaves_15 ?_
    exact wp_ret_i dL_leaves_16 rfl rfl h
  · rcases hx σ' n hq with ⟨rfl, h⟩
    · refine Or.inr ⟨tableOf [], _, tableOf [], rfl, ((fun _ h => nomatch h)), by decide, by decide, wd_357, by decide, fun r => ?_⟩
      show qW g l M_L_leaves (1 - M_X7_leaves.2.2.2.2.1.cells) (6 - M_X7_leaves.2.2.2.2.1.slots) 12 [some (vr a0), some (vi a1), some (vr a2), none] [vr ((r + 1))] σ' Post
      refine wp_astore_n' (ls' := [some (vr a0), some (vi a1), some (vr a2), some (vr ((r + 1)))]) dL_leaves_12 (Nat.le_of_ble_eq_true rfl) rfl ?_
      refine wp_iconst dL_leaves_13 ?_
      exact wp_ret_i dL_leaves_14 rfl rfl h
set_option maxRecDepth 100000 in
theorem wm_L_leaf {g : qG} {l : Launch} (hl : l.stackTraces = false) {a0 : Nat} {a1 : Int} {a2 : Int} {a3 : Nat} {σ : qS} {Mid Post : qS → qRs → Prop} (hK : gK σ a0 = 8) (hM : qMet g l M_X7_leaf [vr a0, vi a1, vi a2] σ Mid) (hv : ∀ σ' v, Mid σ' (.inl v) → ∃ z, v = some (vi z) ∧ gK σ' a3 = 22 ∧ q_in σ' a3 0 ∧ Post (sA σ' a3 0 (nrm z)) (.inl (some (vi 0)))) (hx : ∀ σ' n, Mid σ' (.inr n) → (n = 2 ∧ Post σ' (.inl (some (vi 1)))) ∨ (n = 1 ∧ Post σ' (.inl (some (vi 2))))) : qMet g l M_L_leaf [vr a0, vi a1, vi a2, vr a3] σ Post := by
  refine qMet_of hl (by decide +kernel) (Nat.le_of_ble_eq_true rfl) (List.forall_mem_cons.mpr ⟨trivial, List.forall_mem_cons.mpr ⟨trivial, List.forall_mem_cons.mpr ⟨trivial, List.forall_mem_cons.mpr ⟨trivial, fun _ h => nomatch h⟩⟩⟩⟩) ?_
  show qW g l M_L_leaf 2 12 0 [some (vr a0), some (vi a1), some (vi a2), some (vr a3), none] [] σ Post
  refine wp_aload_n dL_leaf_0 rfl ?_
  refine wp_iconst dL_leaf_1 ?_
  refine wp_aload_n dL_leaf_2 rfl ?_
  refine wp_iload_n dL_leaf_3 rfl ?_
  refine wp_iload_n dL_leaf_4 rfl ?_
  refine wp_callV (M' := M_X7_leaf) (As := [vi a1, vi a2]) (st := [vi 0, vr a3]) (ci := 7) dL_leaf_5 cee_X7_leaf np_X7_leaf rfl ⟨Nat.le_of_ble_eq_true rfl, Nat.le_of_ble_eq_true rfl, Nat.le_of_ble_eq_true rfl, Nat.le_of_ble_eq_true rfl⟩ wd_1183 wd_1184 wd_1185 rfl (Or.inl hK) (q_small_of (Nat.le_of_ble_eq_true rfl)) hM (fun σ' v hq => ?_) (fun σ' n hq => ?_)
  · obtain ⟨z, rfl, ho, hi, h⟩ := hv σ' v hq
    show qW g l M_L_leaf (2 - M_X7_leaf.2.2.2.2.1.cells) (12 - M_X7_leaf.2.2.2.2.1.slots) 8 [some (vr a0), some (vi a1), some (vi a2), some (vr a3), none] [vi z, vi 0, vr a3] σ' Post
    refine wp_nrm ?_
    refine wp_i2l dL_leaf_8 (nrm_Q z) ?_
    refine wp_lastore dL_leaf_9 ho hi ?_
    refine wp_goto (tgt := 21) dL_leaf_10 (by decide) ?_
    refine wp_iconst dL_leaf_21 ?_
    exact wp_ret_i dL_leaf_22 rfl rfl h
  · rcases hx σ' n hq with ⟨rfl, h⟩ | ⟨rfl, h⟩
    · refine Or.inr ⟨tableOf [], _, tableOf [(0, 10, 17, 21)], rfl, ((fun _ h => nomatch h)), by decide, by decide, wd_356, by decide, fun r => ?_⟩
      show qW g l M_L_leaf (2 - M_X7_leaf.2.2.2.2.1.cells) (12 - M_X7_leaf.2.2.2.2.1.slots) 13 [some (vr a0), some (vi a1), some (vi a2), some (vr a3), none] [vr ((r + 1))] σ' Post
      refine wp_astore' (ls' := [some (vr a0), some (vi a1), some (vi a2), some (vr a3), some (vr ((r + 1)))]) dL_leaf_13 (Nat.le_of_ble_eq_true rfl) rfl ?_
      refine wp_iconst dL_leaf_15 ?_
      exact wp_ret_i dL_leaf_16 rfl rfl h
    · refine Or.inr ⟨tableOf [(0, 10, 13, 19)], _, tableOf [], rfl, (List.forall_mem_cons.mpr ⟨Or.inr ⟨by decide, 2, by decide, by decide, wd_356⟩, (fun _ h => nomatch h)⟩), by decide, by decide, wd_357, by decide, fun r => ?_⟩
      show qW g l M_L_leaf (2 - M_X7_leaf.2.2.2.2.1.cells) (12 - M_X7_leaf.2.2.2.2.1.slots) 17 [some (vr a0), some (vi a1), some (vi a2), some (vr a3), none] [vr ((r + 1))] σ' Post
      refine wp_astore' (ls' := [some (vr a0), some (vi a1), some (vi a2), some (vr a3), some (vr ((r + 1)))]) dL_leaf_17 (Nat.le_of_ble_eq_true rfl) rfl ?_
      refine wp_iconst dL_leaf_19 ?_
      exact wp_ret_i dL_leaf_20 rfl rfl h
set_option maxRecDepth 100000 in
theorem wm_L_beside {g : qG} {l : Launch} (hl : l.stackTraces = false) {a0 : Nat} {a1 : Int} {a2 : Int} {a3 : Nat} {σ : qS} {Mid Post : qS → qRs → Prop} (hK : gK σ a0 = 8) (hM : qMet g l M_X7_beside [vr a0, vi a1, vi a2] σ Mid) (hv : ∀ σ' v, Mid σ' (.inl v) → ∃ z, v = some (vi z) ∧ gK σ' a3 = 22 ∧ q_in σ' a3 0 ∧ Post (sA σ' a3 0 (nrm z)) (.inl (some (vi 0)))) (hx : ∀ σ' n, Mid σ' (.inr n) → (n = 2 ∧ Post σ' (.inl (some (vi 1)))) ∨ (n = 1 ∧ Post σ' (.inl (some (vi 2))))) : qMet g l M_L_beside [vr a0, vi a1, vi a2, vr a3] σ Post := by
  refine qMet_of hl (by decide +kernel) (Nat.le_of_ble_eq_true rfl) (List.forall_mem_cons.mpr ⟨trivial, List.forall_mem_cons.mpr ⟨trivial, List.forall_mem_cons.mpr ⟨trivial, List.forall_mem_cons.mpr ⟨trivial, fun _ h => nomatch h⟩⟩⟩⟩) ?_
  show qW g l M_L_beside 2 12 0 [some (vr a0), some (vi a1), some (vi a2), some (vr a3), none] [] σ Post
  refine wp_aload_n dL_beside_0 rfl ?_
  refine wp_iconst dL_beside_1 ?_
  refine wp_aload_n dL_beside_2 rfl ?_
  refine wp_iload_n dL_beside_3 rfl ?_
  refine wp_iload_n dL_beside_4 rfl ?_
  refine wp_callV (M' := M_X7_beside) (As := [vi a1, vi a2]) (st := [vi 0, vr a3]) (ci := 7) dL_beside_5 cee_X7_beside np_X7_beside rfl ⟨Nat.le_of_ble_eq_true rfl, Nat.le_of_ble_eq_true rfl, Nat.le_of_ble_eq_true rfl, Nat.le_of_ble_eq_true rfl⟩ wd_1190 wd_1191 wd_1192 rfl (Or.inl hK) (q_small_of (Nat.le_of_ble_eq_true rfl)) hM (fun σ' v hq => ?_) (fun σ' n hq => ?_)
  · obtain ⟨z, rfl, ho, hi, h⟩ := hv σ' v hq
    show qW g l M_L_beside (2 - M_X7_beside.2.2.2.2.1.cells) (12 - M_X7_beside.2.2.2.2.1.slots) 8 [some (vr a0), some (vi a1), some (vi a2), some (vr a3), none] [vi z, vi 0, vr a3] σ' Post
    refine wp_nrm ?_
    refine wp_i2l dL_beside_8 (nrm_Q z) ?_
    refine wp_lastore dL_beside_9 ho hi ?_
    refine wp_goto (tgt := 21) dL_beside_10 (by decide) ?_
    refine wp_iconst dL_beside_21 ?_
    exact wp_ret_i dL_beside_22 rfl rfl h
  · rcases hx σ' n hq with ⟨rfl, h⟩ | ⟨rfl, h⟩
    · refine Or.inr ⟨tableOf [], _, tableOf [(0, 10, 17, 21)], rfl, ((fun _ h => nomatch h)), by decide, by decide, wd_356, by decide, fun r => ?_⟩
      show qW g l M_L_beside (2 - M_X7_beside.2.2.2.2.1.cells) (12 - M_X7_beside.2.2.2.2.1.slots) 13 [some (vr a0), some (vi a1), some (vi a2), some (vr a3), none] [vr ((r + 1))] σ' Post
      refine wp_astore' (ls' := [some (vr a0), some (vi a1), some (vi a2), some (vr a3), some (vr ((r + 1)))]) dL_beside_13 (Nat.le_of_ble_eq_true rfl) rfl ?_
      refine wp_iconst dL_beside_15 ?_
      exact wp_ret_i dL_beside_16 rfl rfl h
    · refine Or.inr ⟨tableOf [(0, 10, 13, 19)], _, tableOf [], rfl, (List.forall_mem_cons.mpr ⟨Or.inr ⟨by decide, 2, by decide, by decide, wd_356⟩, (fun _ h => nomatch h)⟩), by decide, by decide, wd_357, by decide, fun r => ?_⟩
      show qW g l M_L_beside (2 - M_X7_beside.2.2.2.2.1.cells) (12 - M_X7_beside.2.2.2.2.1.slots) 17 [some (vr a0), some (vi a1), some (vi a2), some (vr a3), none] [vr ((r + 1))] σ' Post
      refine wp_astore' (ls' := [some (vr a0), some (vi a1), some (vi a2), some (vr a3), some (vr ((r + 1)))]) dL_beside_17 (Nat.le_of_ble_eq_true rfl) rfl ?_
      refine wp_iconst dL_beside_19 ?_
      exact wp_ret_i dL_beside_20 rfl rfl h
set_option maxRecDepth 100000 in
theorem wm_L_sheet {g : qG} {l : Launch} (hl : l.stackTraces = false) {a0 : Nat} {a1 : Int} {a2 : Int} {a3 : Nat} {σ : qS} {Mid Post : qS → qRs → Prop} (hK : gK σ a0 = 8) (hM : qMet g l M_X7_sheet [vr a0, vi a1, vi a2] σ Mid) (hv : ∀ σ' v, Mid σ' (.inl v) → ∃ z, v = some (vi z) ∧ gK σ' a3 = 22 ∧ q_in σ' a3 0 ∧ Post (sA σ' a3 0 (nrm z)) (.inl (some (vi 0)))) (hx : ∀ σ' n, Mid σ' (.inr n) → (n = 2 ∧ Post σ' (.inl (some (vi 1)))) ∨ (n = 1 ∧ Post σ' (.inl (some (vi 2))))) : qMet g l M_L_sheet [vr a0, vi a1, vi a2, vr a3] σ Post := by
  refine qMet_of hl (by decide +kernel) (Nat.le_of_ble_eq_true rfl) (List.forall_mem_cons.mpr ⟨trivial, List.forall_mem_cons.mpr ⟨trivial, List.forall_mem_cons.mpr ⟨trivial, List.forall_mem_cons.mpr ⟨trivial, fun _ h => nomatch h⟩⟩⟩⟩) ?_
  show qW g l M_L_sheet 2 12 0 [some (vr a0), some (vi a1), some (vi a2), some (vr a3), none] [] σ Post
  refine wp_aload_n dL_sheet_0 rfl ?_
  refine wp_iconst dL_sheet_1 ?_
  refine wp_aload_n dL_sheet_2 rfl ?_
  refine wp_iload_n dL_sheet_3 rfl ?_
  refine wp_iload_n dL_sheet_4 rfl ?_
  refine wp_callV (M' := M_X7_sheet) (As := [vi a1, vi a2]) (st := [vi 0, vr a3]) (ci := 7) dL_sheet_5 cee_X7_sheet np_X7_sheet rfl ⟨Nat.le_of_ble_eq_true rfl, Nat.le_of_ble_eq_true rfl, Nat.le_of_ble_eq_true rfl, Nat.le_of_ble_eq_true rfl⟩ wd_1197 wd_1198 wd_1199 rfl (Or.inl hK) (q_small_of (Nat.le_of_ble_eq_true rfl)) hM (fun σ' v hq => ?_) (fun σ' n hq => ?_)
  · obtain ⟨z, rfl, ho, hi, h⟩ := hv σ' v hq
    show qW g l M_L_sheet (2 - M_X7_sheet.2.2.2.2.1.cells) (12 - M_X7_sheet.2.2.2.2.1.slots) 8 [some (vr a0), some (vi a1), some (vi a2), some (vr a3), none] [vi z, vi 0, vr a3] σ' Post
    refine wp_nrm ?_
    refine wp_i2l dL_sheet_8 (nrm_Q z) ?_
    refine wp_lastore dL_sheet_9 ho hi ?_
    refine wp_goto (tgt := 21) dL_sheet_10 (by decide) ?_
    refine wp_iconst dL_sheet_21 ?_
    exact wp_ret_i dL_sheet_22 rfl rfl h
  · rcases hx σ' n hq with ⟨rfl, h⟩ | ⟨rfl, h⟩
    · refine Or.inr ⟨tableOf [], _, tableOf [(0, 10, 17, 21)], rfl, ((fun _ h => nomatch h)), by decide, by decide, wd_356, by decide, fun r => ?_⟩
      show qW g l M_L_sheet (2 - M_X7_sheet.2.2.2.2.1.cells) (12 - M_X7_sheet.2.2.2.2.1.slots) 13 [some (vr a0), some (vi a1), some (vi a2), some (vr a3), none] [vr ((r + 1))] σ' Post
      refine wp_astore' (ls' := [some (vr a0), some (vi a1), some (vi a2), some (vr a3), some (vr ((r + 1)))]) dL_sheet_13 (Nat.le_of_ble_eq_true rfl) rfl ?_
      refine wp_iconst dL_sheet_15 ?_
      exact wp_ret_i dL_sheet_16 rfl rfl h
    · refine Or.inr ⟨tableOf [(0, 10, 13, 19)], _, tableOf [], rfl, (List.forall_mem_cons.mpr ⟨Or.inr ⟨by decide, 2, by decide, by decide, wd_356⟩, (fun _ h => nomatch h)⟩), by decide, by decide, wd_357, by decide, fun r => ?_⟩
      show qW g l M_L_sheet (2 - M_X7_sheet.2.2.2.2.1.cells) (12 - M_X7_sheet.2.2.2.2.1.slots) 17 [some (vr a0), some (vi a1), some (vi a2), some (vr a3), none] [vr ((r + 1))] σ' Post
      refine wp_astore' (ls' := [some (vr a0), some (vi a1), some (vi a2), some (vr a3), some (vr ((r + 1)))]) dL_sheet_17 (Nat.le_of_ble_eq_true rfl) rfl ?_
      refine wp_iconst dL_sheet_19 ?_
      exact wp_ret_i dL_sheet_20 rfl rfl h
set_option maxRecDepth 100000 in
theorem wm_L_jump {g : qG} {l : Launch} (hl : l.stackTraces = false) {a0 : Nat} {a1 : Int} {a2 : Nat} {σ : qS} {Mid Post : qS → qRs → Prop} (hK : gK σ a0 = 8) (hM : qMet g l M_X7_jump [vr a0, vi a1] σ Mid) (hv : ∀ σ' v, Mid σ' (.inl v) → ∃ z, v = some (vi z) ∧ gK σ' a2 = 22 ∧ q_in σ' a2 0 ∧ Post (sA σ' a2 0 (nrm z)) (.inl (some (vi 0)))) (hx : ∀ σ' n, Mid σ' (.inr n) → (n = 2 ∧ Post σ' (.inl (some (vi 1))))) : qMet g l M_L_jump [vr a0, vi a1, vr a2] σ Post := by
  refine qMet_of hl (by decide +kernel) (Nat.le_of_ble_eq_true rfl) (List.forall_mem_cons.mpr ⟨trivial, List.forall_mem_cons.mpr ⟨trivial, List.forall_mem_cons.mpr ⟨trivial, fun _ h => nomatch h⟩⟩⟩) ?_
  show qW g l M_L_jump 1 6 0 [some (vr a0), some (vi a1), some (vr a2), none] [] σ Post
  refine wp_aload_n dL_jump_0 rfl ?_
  refine wp_iconst dL_jump_1 ?_
  refine wp_aload_n dL_jump_2 rfl ?_
  refine wp_iload_n dL_jump_3 rfl ?_
  refine wp_callV (M' := M_X7_jump) (As := [vi a1]) (st := [vi 0, vr a2]) (ci := 7) dL_jump_4 cee_X7_jump np_X7_jump rfl ⟨Nat.le_of_ble_eq_true rfl, Nat.le_of_ble_eq_true rfl, Nat.le_of_ble_eq_true rfl, Nat.le_of_ble_eq_true rfl⟩ wd_1205 wd_1206 wd_1207 rfl (Or.inl hK) (q_small_of (Nat.le_of_ble_eq_true rfl)) hM (fun σ' v hq => ?_) (fun σ' n hq => ?_)
  · obtain ⟨z, rfl, ho, hi, h⟩ := hv σ' v hq
    show qW g l M_L_jump (1 - M_X7_jump.2.2.2.2.1.cells) (6 - M_X7_jump.2.2.2.2.1.slots) 7 [some (vr a0), some (vi a1), some (vr a2), none] [vi z, vi 0, vr a2] σ' Post
    refine wp_nrm ?_
    refine wp_i2l dL_jump_7 (nrm_Q z) ?_
    refine wp_lastore dL_jump_8 ho hi ?_
    refine wp_goto (tgt := 15) dL_jump_9 (by decide) ?_
    refine wp_iconst dL_jump_15 ?_
    exact wp_ret_i dL_jump_16 rfl rfl h
  · rcases hx σ' n hq with ⟨rfl, h⟩
    · refine Or.inr ⟨tableOf [], _, tableOf [], rfl, ((fun _ h => nomatch h)), by decide, by decide, wd_356, by decide, fun r => ?_⟩
      show qW g l M_L_jump (1 - M_X7_jump.2.2.2.2.1.cells) (6 - M_X7_jump.2.2.2.2.1.slots) 12 [some (vr a0), some (vi a1), some (vr a2), none] [vr ((r + 1))] σ' Post
      refine wp_astore_n' (ls' := [some (vr a0), some (vi a1), some (vr a2), some (vr ((r + 1)))]) dL_jump_12 (Nat.le_of_ble_eq_true rfl) rfl ?_
      refine wp_iconst dL_jump_13 ?_
      exact wp_ret_i dL_jump_14 rfl rfl h
