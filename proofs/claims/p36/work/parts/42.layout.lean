/-! printed: the walks -/
set_option maxRecDepth 100000 in
set_option maxHeartbeats 4000000 in
theorem wm_X3_init {g : qG} {l : Launch} (hl : l.stackTraces = false) {a0 : Nat} {σ : qS} {Post : qS → qRs → Prop}
    (h : a0 ≠ 0 ∧ (∀ r2 : Nat, gK σ r2 = 0 → r2 ≠ 0 → ∀ σ5 : qS, σ5 = nA σ r2 20 3 → gK σ5 a0 = 4 ∧ (∀ σ9 : qS, σ9 = sP σ5 120 a0 r2 → (∀ r11 : Nat, gK σ9 r11 = 0 → r11 ≠ 0 → ∀ σ14 : qS, σ14 = nA σ9 r11 20 16 → gK σ14 a0 = 4 ∧ (∀ σ18 : qS, σ18 = sP σ14 121 a0 r11 → ∃ Inv21 : Nat → Int → qS → Prop, (∃ n : Nat, Inv21 n 0 σ18) ∧ ∀ (n22 : Nat) (x20 : Int) (σ27 : qS), Inv21 n22 x20 σ27 → (gK σ27 a0 = 4 ∧ q_isA σ27 0 (gP σ27 120 a0) ∧ qR x20 ∧ qR (gN σ27 (gP σ27 120 a0)) ∧ (((gN σ27 (gP σ27 120 a0)) ≤ x20 → Post σ27 (.inl none)) ∧ (¬ ((gN σ27 (gP σ27 120 a0)) ≤ x20) → gK σ27 (gP σ27 120 a0) = 20 ∧ q_in σ27 (gP σ27 120 a0) x20 ∧ (∀ σ35 : qS, σ35 = sA σ27 (gP σ27 120 a0) x20 100 → ∀ x37 : Int, x37 = x20 + 1 → ∃ n39 : Nat, n39 < n22 ∧ Inv21 n39 x37 σ35))))))))) : qMet g l M_X3_init [vr a0] σ Post := by
  refine qMet_of hl (by decide +kernel) (Nat.le_of_ble_eq_true rfl) (List.forall_mem_cons.mpr ⟨trivial, fun _ h => nomatch h⟩) ?_
  show qW g l M_X3_init 2 19 0 [some (vr a0), none] [] σ Post
  refine wp_aload_n dX3_init_0 rfl ?_
  obtain ⟨hz1, h⟩ := h
  refine wp_objInit dX3_init_1 wd_63 hz1 (q_small_of (Nat.le_of_ble_eq_true rfl)) ⟨Nat.le_of_ble_eq_true rfl, Nat.le_of_ble_eq_true rfl⟩ ?_
  refine wp_aload_n dX3_init_4 rfl ?_
  refine wp_iconst dX3_init_5 ?_
  refine wp_newarray (j := 0) dX3_init_6 (by decide) (by decide) (Nat.le_of_ble_eq_true rfl) (Nat.le_of_ble_eq_true rfl) (fun r2 hz3 hq4 => ?_)
  refine wp_less (ac2 := 1) (as2 := 16) (Nat.le_of_ble_eq_true rfl) (Nat.le_of_ble_eq_true rfl) ?_
  replace h := h r2 hz3 hq4
  refine wp_nmS (fun σ5 hs6 => ?_)
  replace h := h σ5 hs6
  have hk7 : gK σ5 r2 = 20 := by rw [hs6]; exact if_pos rfl
  obtain ⟨hk8, h⟩ := h
  refine wp_put (v := vr r2) dX3_init_8 fs_RX3_9 (fun _ => rfl) hk8 rfl ?_
  refine wp_nmS (fun σ9 hs10 => ?_)
  replace h := h σ9 hs10
  refine wp_aload_n dX3_init_11 rfl ?_
  refine wp_bipush dX3_init_12 (by decide) ?_
  refine wp_newarray (j := 0) dX3_init_14 (by decide) (by decide) (Nat.le_of_ble_eq_true rfl) (Nat.le_of_ble_eq_true rfl) (fun r11 hz12 hq13 => ?_)
  refine wp_less (ac2 := 0) (as2 := 0) (Nat.le_of_ble_eq_true rfl) (Nat.le_of_ble_eq_true rfl) ?_
  replace h := h r11 hz12 hq13
  refine wp_nmS (fun σ14 hs15 => ?_)
  replace h := h σ14 hs15
  have hk16 : gK σ14 r11 = 20 := by rw [hs15]; exact if_pos rfl
  obtain ⟨hk17, h⟩ := h
  refine wp_put (v := vr r11) dX3_init_16 fs_RX3_15 (fun _ => rfl) hk17 rfl ?_
  refine wp_nmS (fun σ18 hs19 => ?_)
  replace h := h σ18 hs19
  refine wp_iconst dX3_init_19 ?_
  refine wp_istore_n' (ls' := [some (vr a0), some (vi 0)]) dX3_init_20 (Nat.le_of_ble_eq_true rfl) rfl ?_
  obtain ⟨Inv21, ⟨n22_0, h026⟩, hb25⟩ := h
  have loop40 : ∀ (n22 : Nat) (x20 : Int) (σ27 : qS), Inv21 n22 x20 σ27 → qW g l M_X3_init 0 0 21 [some (vr a0), some (vi x20)] [] σ27 Post := by
    intro n22
    induction n22 using Nat.strongRecOn with
    | ind n22 ih23 =>
      intro x20 σ27 hI24
      have h := hb25 n22 x20 σ27 hI24
      refine wp_iload_n dX3_init_21 rfl ?_
      refine wp_aload_n dX3_init_22 rfl ?_
      obtain ⟨hk28, h⟩ := h
      refine wp_get (v := vr (gP σ27 120 a0)) dX3_init_23 fl_RX3_9 hk28 rfl ?_
      obtain ⟨ha29, h⟩ := h
      refine wp_alen dX3_init_26 ha29 ?_
      obtain ⟨hr30, hr31, h⟩ := h
      refine wp_icmp_ge (tgt := 44) dX3_init_27 (by decide) hr30 hr31 (fun c32 => ?_) (fun c32 => ?_)
      · replace h := h.1 c32
        exact wp_ret_v dX3_init_44 rfl h
      · replace h := h.2 c32
        refine wp_aload_n dX3_init_30 rfl ?_
        refine wp_get (v := vr (gP σ27 120 a0)) dX3_init_31 fl_RX3_9 hk28 rfl ?_
        refine wp_iload_n dX3_init_34 rfl ?_
        refine wp_bipush dX3_init_35 (by decide) ?_
        obtain ⟨hk33, hi34, h⟩ := h
        refine wp_iastore dX3_init_37 hk33 hi34 ?_
        refine wp_nmS (fun σ35 hs36 => ?_)
        replace h := h σ35 hs36
        refine wp_nmT (x20 + 1) (fun x37 hx38 => ?_)
        replace h := h x37 hx38
        refine wp_iinc' (z' := x37) (ls' := [some (vr a0), some (vi x37)]) dX3_init_38 (Nat.le_of_ble_eq_true rfl) rfl hx38 rfl ?_
        refine wp_goto (tgt := 21) dX3_init_41 (by decide) ?_
        obtain ⟨n39, hlt, h⟩ := h
        exact wp_lsub (ls' := [some (vr a0), some (vi x37)]) ⟨rfl, ⟨rfl, trivial⟩⟩ (ih23 n39 hlt _ _ h)
  exact wp_lsub (ls' := [some (vr a0), some (vi 0)]) ⟨rfl, ⟨rfl, trivial⟩⟩ (loop40 _ _ _ h026)

set_option maxRecDepth 100000 in
set_option maxHeartbeats 4000000 in
theorem wm_X3_tryPage {g : qG} {l : Launch} (hl : l.stackTraces = false) {a0 : Nat} {a1 : Nat} {σ : qS} {Post : qS → qRs → Prop}
    (h : gK σ a1 = 5 ∧ (∀ σ2 : qS, σ2 = sI σ 164 a1 0 → ∃ Inv8 : Nat → Int → Int → Int → Int → qS → Prop, (∃ n : Nat, Inv8 n 0 0 0 0 σ2) ∧ ∀ (n9 : Nat) (x4 : Int) (x5 : Int) (x6 : Int) (x7 : Int) (σ14 : qS), Inv8 n9 x4 x5 x6 x7 σ14 → (gK σ14 a1 = 5 ∧ gK σ14 (gP σ14 161 a1) = 50 ∧ (∃ v18 : Int, qMet g l M_Jx4a65c_size_8abf5 [vr (gP σ14 161 a1)] σ14 (qPi σ14 v18) ∧ (qR x7 ∧ qR v18 ∧ ((v18 ≤ x7 → Post σ14 (.inl (some (vi 1)))) ∧ (¬ (v18 ≤ x7) → (∃ v23 : Nat, qMet g l M_Jx4a65c_get_915e3 [vr (gP σ14 161 a1), vi x7] σ14 (qPr σ14 v23) ∧ ((v23 = 0 ∨ gK σ14 v23 = 6) ∧ gK σ14 v23 = 6 ∧ ∀ x26 : Int, x26 = x5 + (gI σ14 203 v23) → (∃ v29 : Int, qMet g l M_Jx4a65c_size_8abf5 [vr (gP σ14 161 a1)] σ14 (qPi σ14 v29) ∧ (qR (x7 + 1) ∧ qR v29 ∧ ((v29 ≤ (x7 + 1) → (∃ Mid34 : qS → Prop, qMet g l M_X3_shareWidth [vr a1, vi x4, vi x7, vi (24 - x26)] σ14 (qTv0 Mid34) ∧ ∀ (σ38 : qS), Mid34 σ38 → gK σ38 a0 = 4 ∧ (∃ Mid42 : qS → Int → Prop, qMet g l M_X3_heightOfRow [vr a0, vr a1, vi x4, vi x7] σ38 (qTi0 Mid42) ∧ ∀ (σ46 : qS) (v48 : Int), Mid42 σ46 v48 → qR v48 ∧ ((v48 = 0 → Post σ46 (.inl (some (vi 0)))) ∧ (¬ (v48 = 0) → qR (x6 + v48) ∧ (((x6 + v48) ≤ 50 → (∃ Mid54 : qS → Prop, qMet g l M_X3_putRow [vr a1, vi x4, vi x7, vi x6] σ46 (qTv0 Mid54) ∧ ∀ (σ58 : qS), Mid54 σ58 → gK σ58 a1 = 5 ∧ (∀ σ61 : qS, σ61 = sI σ58 164 a1 ((gI σ58 164 a1) + 1) → ∀ x63 : Int, x63 = x6 + v48 → ∀ x65 : Int, x65 = x7 + 1 → ∀ x67 : Int, x67 = x7 + 1 → ∃ n69 : Nat, n69 < n9 ∧ Inv8 n69 x65 0 x63 x67 σ61))) ∧ (¬ ((x6 + v48) ≤ 50) → Post σ46 (.inl (some (vi 0)))))))))) ∧ (¬ (v29 ≤ (x7 + 1)) → (∃ v71 : Nat, qMet g l M_Jx4a65c_get_915e3 [vr (gP σ14 161 a1), vi (x7 + 1)] σ14 (qPr σ14 v71) ∧ ((v71 = 0 ∨ gK σ14 v71 = 6) ∧ gK σ14 v71 = 6 ∧ qR (x26 + (gI σ14 203 v71)) ∧ ((24 < (x26 + (gI σ14 203 v71)) → (∃ Mid77 : qS → Prop, qMet g l M_X3_shareWidth [vr a1, vi x4, vi x7, vi (24 - x26)] σ14 (qTv0 Mid77) ∧ ∀ (σ81 : qS), Mid77 σ81 → gK σ81 a0 = 4 ∧ (∃ Mid85 : qS → Int → Prop, qMet g l M_X3_heightOfRow [vr a0, vr a1, vi x4, vi x7] σ81 (qTi0 Mid85) ∧ ∀ (σ89 : qS) (v91 : Int), Mid85 σ89 v91 → qR v91 ∧ ((v91 = 0 → Post σ89 (.inl (some (vi 0)))) ∧ (¬ (v91 = 0) → qR (x6 + v91) ∧ (((x6 + v91) ≤ 50 → (∃ Mid97 : qS → Prop, qMet g l M_X3_putRow [vr a1, vi x4, vi x7, vi x6] σ89 (qTv0 Mid97) ∧ ∀ (σ101 : qS), Mid97 σ101 → gK σ101 a1 = 5 ∧ (∀ σ104 : qS, σ104 = sI σ101 164 a1 ((gI σ101 164 a1) + 1) → ∀ x106 : Int, x106 = x6 + v91 → ∀ x108 : Int, x108 = x7 + 1 → ∀ x110 : Int, x110 = x7 + 1 → ∃ n112 : Nat, n112 < n9 ∧ Inv8 n112 x108 0 x106 x110 σ104))) ∧ (¬ ((x6 + v91) ≤ 50) → Post σ89 (.inl (some (vi 0)))))))))) ∧ (¬ (24 < (x26 + (gI σ14 203 v71))) → ∀ x113 : Int, x113 = x7 + 1 → ∃ n115 : Nat, n115 < n9 ∧ Inv8 n115 x4 x26 x6 x113 σ14))))))))))))))))) : qMet g l M_X3_tryPage [vr a0, vr a1] σ Post := by
  refine qMet_of hl (by decide +kernel) (Nat.le_of_ble_eq_true rfl) (List.forall_mem_cons.mpr ⟨trivial, List.forall_mem_cons.mpr ⟨trivial, fun _ h => nomatch h⟩⟩) ?_
  show qW g l M_X3_tryPage 0 0 0 [some (vr a0), some (vr a1), none, none, none, none, none] [] σ Post
  refine wp_iconst dX3_tryPage_0 ?_
  refine wp_istore_n' (ls' := [some (vr a0), some (vr a1), some (vi 0), none, none, none, none]) dX3_tryPage_1 (Nat.le_of_ble_eq_true rfl) rfl ?_
  refine wp_iconst dX3_tryPage_2 ?_
  refine wp_istore_n' (ls' := [some (vr a0), some (vr a1), some (vi 0), some (vi 0), none, none, none]) dX3_tryPage_3 (Nat.le_of_ble_eq_true rfl) rfl ?_
  refine wp_iconst dX3_tryPage_4 ?_
  refine wp_istore' (ls' := [some (vr a0), some (vr a1), some (vi 0), some (vi 0), some (vi 0), none, none]) dX3_tryPage_5 (Nat.le_of_ble_eq_true rfl) rfl ?_
  refine wp_aload_n dX3_tryPage_7 rfl ?_
  refine wp_iconst dX3_tryPage_8 ?_
  obtain ⟨hk1, h⟩ := h
  refine wp_put (v := vi 0) dX3_tryPage_9 fs_RX3_18 (fun h => absurd h (by decide)) hk1 (Or.inl rfl) ?_
  refine wp_nmS (fun σ2 hs3 => ?_)
  replace h := h σ2 hs3
  refine wp_iconst dX3_tryPage_12 ?_
  refine wp_istore' (ls' := [some (vr a0), some (vr a1), some (vi 0), some (vi 0), some (vi 0), some (vi 0), none]) dX3_tryPage_13 (Nat.le_of_ble_eq_true rfl) rfl ?_
  obtain ⟨Inv8, ⟨n9_0, h013⟩, hb12⟩ := h
  have loop116 : ∀ (n9 : Nat) (x4 : Int) (x5 : Int) (x6 : Int) (x7 : Int) (σ14 : qS), Inv8 n9 x4 x5 x6 x7 σ14 → qW g l M_X3_tryPage 0 0 15 [some (vr a0), some (vr a1), some (vi x4), some (vi x5), some (vi x6), some (vi x7), none] [] σ14 Post := by
    intro n9
    induction n9 using Nat.strongRecOn with
    | ind n9 ih10 =>
      intro x4 x5 x6 x7 σ14 hI11
      have h := hb12 n9 x4 x5 x6 x7 σ14 hI11
      refine wp_iload dX3_tryPage_15 rfl ?_
      refine wp_aload_n dX3_tryPage_17 rfl ?_
      obtain ⟨hk15, h⟩ := h
      refine wp_get (v := vr (gP σ14 161 a1)) dX3_tryPage_18 fl_RX3_24 hk15 rfl ?_
      obtain ⟨hk17, h⟩ := h
      obtain ⟨v18, hm16, h⟩ := h
      refine wp_callV (M' := M_Jx4a65c_size_8abf5) (As := []) (st := [vi x7]) (ci := 9) dX3_tryPage_21 cee_Jx4a65c_size_8abf5 np_Jx4a65c_size_8abf5 rfl ⟨Nat.le_of_ble_eq_true rfl, Nat.le_of_ble_eq_true rfl, Nat.le_of_ble_eq_true rfl, Nat.le_of_ble_eq_true rfl⟩ wd_451 wd_113 wd_114 rfl (Or.inr ⟨hk17, rfl⟩) (q_small_of (Nat.le_of_ble_eq_true rfl)) hm16 (q_kPi ?_) q_kPi0
      refine wp_less (ac2 := 0) (as2 := 0) (Nat.le_of_ble_eq_true rfl) (Nat.le_of_ble_eq_true rfl) ?_
      obtain ⟨hr19, hr20, h⟩ := h
      refine wp_icmp_ge (tgt := 163) dX3_tryPage_24 (by decide) hr19 hr20 (fun c21 => ?_) (fun c21 => ?_)
      · replace h := h.1 c21
        refine wp_iconst dX3_tryPage_163 ?_
        exact wp_ret_z dX3_tryPage_164 rfl (Or.inr rfl) h
      · replace h := h.2 c21
        refine wp_iload_n dX3_tryPage_27 rfl ?_
        refine wp_aload_n dX3_tryPage_28 rfl ?_
        refine wp_get (v := vr (gP σ14 161 a1)) dX3_tryPage_29 fl_RX3_24 hk15 rfl ?_
        refine wp_iload dX3_tryPage_32 rfl ?_
        obtain ⟨v23, hm22, h⟩ := h
        refine wp_callV (M' := M_Jx4a65c_get_915e3) (As := [vi x7]) (st := [vi x5]) (ci := 9) dX3_tryPage_34 cee_Jx4a65c_get_915e3 np_Jx4a65c_get_915e3 rfl ⟨Nat.le_of_ble_eq_true rfl, Nat.le_of_ble_eq_true rfl, Nat.le_of_ble_eq_true rfl, Nat.le_of_ble_eq_true rfl⟩ wd_452 wd_302 wd_303 rfl (Or.inr ⟨hk17, rfl⟩) (q_small_of (Nat.le_of_ble_eq_true rfl)) hm22 (q_kPr ?_) q_kPr0
        refine wp_less (ac2 := 0) (as2 := 0) (Nat.le_of_ble_eq_true rfl) (Nat.le_of_ble_eq_true rfl) ?_
        obtain ⟨hc24, h⟩ := h
        refine wp_cast (ci := 5) dX3_tryPage_37 ⟨_, rfl, wd_453⟩ hc24 ?_
        obtain ⟨hk25, h⟩ := h
        refine wp_get (v := vi (gI σ14 203 v23)) dX3_tryPage_40 fl_RX3_40 hk25 rfl ?_
        refine wp_iadd dX3_tryPage_43 ?_
        refine wp_nmI (fun x26 hx27 => ?_)
        replace h := h x26 hx27
        refine wp_istore_n' (ls' := [some (vr a0), some (vr a1), some (vi x4), some (vi x26), some (vi x6), some (vi x7), none]) dX3_tryPage_44 (Nat.le_of_ble_eq_true rfl) rfl ?_
        refine wp_iload dX3_tryPage_45 rfl ?_
        refine wp_iconst dX3_tryPage_47 ?_
        refine wp_iadd dX3_tryPage_48 ?_
        refine wp_aload_n dX3_tryPage_49 rfl ?_
        refine wp_get (v := vr (gP σ14 161 a1)) dX3_tryPage_50 fl_RX3_24 hk15 rfl ?_
        obtain ⟨v29, hm28, h⟩ := h
        refine wp_callV (M' := M_Jx4a65c_size_8abf5) (As := []) (st := [vi (x7 + 1)]) (ci := 9) dX3_tryPage_53 cee_Jx4a65c_size_8abf5 np_Jx4a65c_size_8abf5 rfl ⟨Nat.le_of_ble_eq_true rfl, Nat.le_of_ble_eq_true rfl, Nat.le_of_ble_eq_true rfl, Nat.le_of_ble_eq_true rfl⟩ wd_451 wd_113 wd_114 rfl (Or.inr ⟨hk17, rfl⟩) (q_small_of (Nat.le_of_ble_eq_true rfl)) hm28 (q_kPi ?_) q_kPi0
        refine wp_less (ac2 := 0) (as2 := 0) (Nat.le_of_ble_eq_true rfl) (Nat.le_of_ble_eq_true rfl) ?_
        obtain ⟨hr30, hr31, h⟩ := h
        refine wp_icmp_ge (tgt := 86) dX3_tryPage_56 (by decide) hr30 hr31 (fun c32 => ?_) (fun c32 => ?_)
        · replace h := h.1 c32
          refine wp_aload_n dX3_tryPage_86 rfl ?_
          refine wp_iload_n dX3_tryPage_87 rfl ?_
          refine wp_iload dX3_tryPage_88 rfl ?_
          refine wp_bipush dX3_tryPage_90 (by decide) ?_
          refine wp_iload_n dX3_tryPage_92 rfl ?_
          refine wp_isub dX3_tryPage_93 ?_
          obtain ⟨Mid34, hm33, hk36⟩ := h
          refine wp_callS (M' := M_X3_shareWidth) (As := [vr a1, vi x4, vi x7, vi (24 - x26)]) (st := []) dX3_tryPage_94 cee_X3_shareWidth np_X3_shareWidth rfl ⟨Nat.le_of_ble_eq_true rfl, Nat.le_of_ble_eq_true rfl, Nat.le_of_ble_eq_true rfl, Nat.le_of_ble_eq_true rfl⟩ wd_454 wd_455 (q_small_of (Nat.le_of_ble_eq_true rfl)) hm33 (q_kTv0 (fun σ38 hM39 => ?_)) q_kTv00
          refine wp_less (ac2 := 0) (as2 := 0) (Nat.le_of_ble_eq_true rfl) (Nat.le_of_ble_eq_true rfl) ?_
          have h := hk36 σ38 hM39
          refine wp_aload_n dX3_tryPage_97 rfl ?_
          refine wp_aload_n dX3_tryPage_98 rfl ?_
          refine wp_iload_n dX3_tryPage_99 rfl ?_
          refine wp_iload dX3_tryPage_100 rfl ?_
          obtain ⟨hk41, h⟩ := h
          obtain ⟨Mid42, hm40, hk44⟩ := h
          refine wp_callV (M' := M_X3_heightOfRow) (As := [vr a1, vi x4, vi x7]) (st := []) (ci := 3) dX3_tryPage_102 cee_X3_heightOfRow np_X3_heightOfRow rfl ⟨Nat.le_of_ble_eq_true rfl, Nat.le_of_ble_eq_true rfl, Nat.le_of_ble_eq_true rfl, Nat.le_of_ble_eq_true rfl⟩ wd_457 wd_459 sel_X3_heightOfRow rfl (Or.inl hk41) (q_small_of (Nat.le_of_ble_eq_true rfl)) hm40 (q_kTi0 (fun σ46 v48 hM47 => ?_)) q_kTi00
          refine wp_less (ac2 := 0) (as2 := 0) (Nat.le_of_ble_eq_true rfl) (Nat.le_of_ble_eq_true rfl) ?_
          have h := hk44 σ46 v48 hM47
          refine wp_istore' (ls' := [some (vr a0), some (vr a1), some (vi x4), some (vi x26), some (vi x6), some (vi x7), some (vi v48)]) dX3_tryPage_105 (Nat.le_of_ble_eq_true rfl) rfl ?_
          refine wp_iload dX3_tryPage_107 rfl ?_
          obtain ⟨hr49, h⟩ := h
          refine wp_if_eq (tgt := 122) dX3_tryPage_109 (by decide) hr49 (fun c50 => ?_) (fun c50 => ?_)
          · replace h := h.1 c50
            refine wp_iconst dX3_tryPage_122 ?_
            exact wp_ret_z dX3_tryPage_123 rfl (Or.inl rfl) h
          · replace h := h.2 c50
            refine wp_iload dX3_tryPage_112 rfl ?_
            refine wp_iload dX3_tryPage_114 rfl ?_
            refine wp_iadd dX3_tryPage_116 ?_
            refine wp_bipush dX3_tryPage_117 (by decide) ?_
            obtain ⟨hr51, h⟩ := h
            refine wp_icmp_le (tgt := 124) dX3_tryPage_119 (by decide) hr51 (by unfold qR; omega) (fun c52 => ?_) (fun c52 => ?_)
            · replace h := h.1 c52
              refine wp_aload_n dX3_tryPage_124 rfl ?_
              refine wp_iload_n dX3_tryPage_125 rfl ?_
              refine wp_iload dX3_tryPage_126 rfl ?_
              refine wp_iload dX3_tryPage_128 rfl ?_
              obtain ⟨Mid54, hm53, hk56⟩ := h
              refine wp_callS (M' := M_X3_putRow) (As := [vr a1, vi x4, vi x7, vi x6]) (st := []) dX3_tryPage_130 cee_X3_putRow np_X3_putRow rfl ⟨Nat.le_of_ble_eq_true rfl, Nat.le_of_ble_eq_true rfl, Nat.le_of_ble_eq_true rfl, Nat.le_of_ble_eq_true rfl⟩ wd_506 wd_507 (q_small_of (Nat.le_of_ble_eq_true rfl)) hm53 (q_kTv0 (fun σ58 hM59 => ?_)) q_kTv00
              refine wp_less (ac2 := 0) (as2 := 0) (Nat.le_of_ble_eq_true rfl) (Nat.le_of_ble_eq_true rfl) ?_
              have h := hk56 σ58 hM59
              refine wp_aload_n dX3_tryPage_133 rfl ?_
              refine wp_dup dX3_tryPage_134 trivial ?_
              obtain ⟨hk60, h⟩ := h
              refine wp_get (v := vi (gI σ58 164 a1)) dX3_tryPage_135 fl_RX3_18 hk60 rfl ?_
              refine wp_iconst dX3_tryPage_138 ?_
              refine wp_iadd dX3_tryPage_139 ?_
              refine wp_put (v := vi ((gI σ58 164 a1) + 1)) dX3_tryPage_140 fs_RX3_18 (fun h => absurd h (by decide)) hk60 (Or.inl rfl) ?_
              refine wp_nmS (fun σ61 hs62 => ?_)
              replace h := h σ61 hs62
              refine wp_iload dX3_tryPage_143 rfl ?_
              refine wp_iload dX3_tryPage_145 rfl ?_
              refine wp_iadd dX3_tryPage_147 ?_
              refine wp_nmI (fun x63 hx64 => ?_)
              replace h := h x63 hx64
              refine wp_istore' (ls' := [some (vr a0), some (vr a1), some (vi x4), some (vi x26), some (vi x63), some (vi x7), some (vi v48)]) dX3_tryPage_148 (Nat.le_of_ble_eq_true rfl) rfl ?_
              refine wp_iload dX3_tryPage_150 rfl ?_
              refine wp_iconst dX3_tryPage_152 ?_
              refine wp_iadd dX3_tryPage_153 ?_
              refine wp_nmI (fun x65 hx66 => ?_)
              replace h := h x65 hx66
              refine wp_istore_n' (ls' := [some (vr a0), some (vr a1), some (vi x65), some (vi x26), some (vi x63), some (vi x7), some (vi v48)]) dX3_tryPage_154 (Nat.le_of_ble_eq_true rfl) rfl ?_
              refine wp_iconst dX3_tryPage_155 ?_
              refine wp_istore_n' (ls' := [some (vr a0), some (vr a1), some (vi x65), some (vi 0), some (vi x63), some (vi x7), some (vi v48)]) dX3_tryPage_156 (Nat.le_of_ble_eq_true rfl) rfl ?_
              refine wp_nmT (x7 + 1) (fun x67 hx68 => ?_)
              replace h := h x67 hx68
              refine wp_iinc' (z' := x67) (ls' := [some (vr a0), some (vr a1), some (vi x65), some (vi 0), some (vi x63), some (vi x67), some (vi v48)]) dX3_tryPage_157 (Nat.le_of_ble_eq_true rfl) rfl hx68 rfl ?_
              refine wp_goto (tgt := 15) dX3_tryPage_160 (by decide) ?_
              obtain ⟨n69, hlt, h⟩ := h
              exact wp_lsub (ls' := [some (vr a0), some (vr a1), some (vi x65), some (vi 0), some (vi x63), some (vi x67), none]) ⟨rfl, ⟨rfl, ⟨rfl, ⟨rfl, ⟨rfl, ⟨rfl, trivial⟩⟩⟩⟩⟩⟩ (ih10 n69 hlt _ _ _ _ _ h)
            · replace h := h.2 c52
              refine wp_iconst dX3_tryPage_122 ?_
              exact wp_ret_z dX3_tryPage_123 rfl (Or.inl rfl) h
        · replace h := h.2 c32
          refine wp_iload_n dX3_tryPage_59 rfl ?_
          refine wp_aload_n dX3_tryPage_60 rfl ?_
          refine wp_get (v := vr (gP σ14 161 a1)) dX3_tryPage_61 fl_RX3_24 hk15 rfl ?_
          refine wp_iload dX3_tryPage_64 rfl ?_
          refine wp_iconst dX3_tryPage_66 ?_
          refine wp_iadd dX3_tryPage_67 ?_
          obtain ⟨v71, hm70, h⟩ := h
          refine wp_callV (M' := M_Jx4a65c_get_915e3) (As := [vi (x7 + 1)]) (st := [vi x26]) (ci := 9) dX3_tryPage_68 cee_Jx4a65c_get_915e3 np_Jx4a65c_get_915e3 rfl ⟨Nat.le_of_ble_eq_true rfl, Nat.le_of_ble_eq_true rfl, Nat.le_of_ble_eq_true rfl, Nat.le_of_ble_eq_true rfl⟩ wd_452 wd_302 wd_303 rfl (Or.inr ⟨hk17, rfl⟩) (q_small_of (Nat.le_of_ble_eq_true rfl)) hm70 (q_kPr ?_) q_kPr0
          refine wp_less (ac2 := 0) (as2 := 0) (Nat.le_of_ble_eq_true rfl) (Nat.le_of_ble_eq_true rfl) ?_
          obtain ⟨hc72, h⟩ := h
          refine wp_cast (ci := 5) dX3_tryPage_71 ⟨_, rfl, wd_453⟩ hc72 ?_
          obtain ⟨hk73, h⟩ := h
          refine wp_get (v := vi (gI σ14 203 v71)) dX3_tryPage_74 fl_RX3_40 hk73 rfl ?_
          refine wp_iadd dX3_tryPage_77 ?_
          refine wp_bipush dX3_tryPage_78 (by decide) ?_
          obtain ⟨hr74, h⟩ := h
          refine wp_icmp_gt (tgt := 86) dX3_tryPage_80 (by decide) hr74 (by unfold qR; omega) (fun c75 => ?_) (fun c75 => ?_)
          · replace h := h.1 c75
            refine wp_aload_n dX3_tryPage_86 rfl ?_
            refine wp_iload_n dX3_tryPage_87 rfl ?_
            refine wp_iload dX3_tryPage_88 rfl ?_
            refine wp_bipush dX3_tryPage_90 (by decide) ?_
            refine wp_iload_n dX3_tryPage_92 rfl ?_
            refine wp_isub dX3_tryPage_93 ?_
            obtain ⟨Mid77, hm76, hk79⟩ := h
            refine wp_callS (M' := M_X3_shareWidth) (As := [vr a1, vi x4, vi x7, vi (24 - x26)]) (st := []) dX3_tryPage_94 cee_X3_shareWidth np_X3_shareWidth rfl ⟨Nat.le_of_ble_eq_true rfl, Nat.le_of_ble_eq_true rfl, Nat.le_of_ble_eq_true rfl, Nat.le_of_ble_eq_true rfl⟩ wd_454 wd_455 (q_small_of (Nat.le_of_ble_eq_true rfl)) hm76 (q_kTv0 (fun σ81 hM82 => ?_)) q_kTv00
            refine wp_less (ac2 := 0) (as2 := 0) (Nat.le_of_ble_eq_true rfl) (Nat.le_of_ble_eq_true rfl) ?_
            have h := hk79 σ81 hM82
            refine wp_aload_n dX3_tryPage_97 rfl ?_
            refine wp_aload_n dX3_tryPage_98 rfl ?_
            refine wp_iload_n dX3_tryPage_99 rfl ?_
            refine wp_iload dX3_tryPage_100 rfl ?_
            obtain ⟨hk84, h⟩ := h
            obtain ⟨Mid85, hm83, hk87⟩ := h
            refine wp_callV (M' := M_X3_heightOfRow) (As := [vr a1, vi x4, vi x7]) (st := []) (ci := 3) dX3_tryPage_102 cee_X3_heightOfRow np_X3_heightOfRow rfl ⟨Nat.le_of_ble_eq_true rfl, Nat.le_of_ble_eq_true rfl, Nat.le_of_ble_eq_true rfl, Nat.le_of_ble_eq_true rfl⟩ wd_457 wd_459 sel_X3_heightOfRow rfl (Or.inl hk84) (q_small_of (Nat.le_of_ble_eq_true rfl)) hm83 (q_kTi0 (fun σ89 v91 hM90 => ?_)) q_kTi00
            refine wp_less (ac2 := 0) (as2 := 0) (Nat.le_of_ble_eq_true rfl) (Nat.le_of_ble_eq_true rfl) ?_
            have h := hk87 σ89 v91 hM90
            refine wp_istore' (ls' := [some (vr a0), some (vr a1), some (vi x4), some (vi x26), some (vi x6), some (vi x7), some (vi v91)]) dX3_tryPage_105 (Nat.le_of_ble_eq_true rfl) rfl ?_
            refine wp_iload dX3_tryPage_107 rfl ?_
            obtain ⟨hr92, h⟩ := h
            refine wp_if_eq (tgt := 122) dX3_tryPage_109 (by decide) hr92 (fun c93 => ?_) (fun c93 => ?_)
            · replace h := h.1 c93
              refine wp_iconst dX3_tryPage_122 ?_
              exact wp_ret_z dX3_tryPage_123 rfl (Or.inl rfl) h
            · replace h := h.2 c93
              refine wp_iload dX3_tryPage_112 rfl ?_
              refine wp_iload dX3_tryPage_114 rfl ?_
              refine wp_iadd dX3_tryPage_116 ?_
              refine wp_bipush dX3_tryPage_117 (by decide) ?_
              obtain ⟨hr94, h⟩ := h
              refine wp_icmp_le (tgt := 124) dX3_tryPage_119 (by decide) hr94 (by unfold qR; omega) (fun c95 => ?_) (fun c95 => ?_)
              · replace h := h.1 c95
                refine wp_aload_n dX3_tryPage_124 rfl ?_
                refine wp_iload_n dX3_tryPage_125 rfl ?_
                refine wp_iload dX3_tryPage_126 rfl ?_
                refine wp_iload dX3_tryPage_128 rfl ?_
                obtain ⟨Mid97, hm96, hk99⟩ := h
                refine wp_callS (M' := M_X3_putRow) (As := [vr a1, vi x4, vi x7, vi x6]) (st := []) dX3_tryPage_130 cee_X3_putRow np_X3_putRow rfl ⟨Nat.le_of_ble_eq_true rfl, Nat.le_of_ble_eq_true rfl, Nat.le_of_ble_eq_true rfl, Nat.le_of_ble_eq_true rfl⟩ wd_506 wd_507 (q_small_of (Nat.le_of_ble_eq_true rfl)) hm96 (q_kTv0 (fun σ101 hM102 => ?_)) q_kTv00
                refine wp_less (ac2 := 0) (as2 := 0) (Nat.le_of_ble_eq_true rfl) (Nat.le_of_ble_eq_true rfl) ?_
                have h := hk99 σ101 hM102
                refine wp_aload_n dX3_tryPage_133 rfl ?_
                refine wp_dup dX3_tryPage_134 trivial ?_
                obtain ⟨hk103, h⟩ := h
                refine wp_get (v := vi (gI σ101 164 a1)) dX3_tryPage_135 fl_RX3_18 hk103 rfl ?_
                refine wp_iconst dX3_tryPage_138 ?_
                refine wp_iadd dX3_tryPage_139 ?_
                refine wp_put (v := vi ((gI σ101 164 a1) + 1)) dX3_tryPage_140 fs_RX3_18 (fun h => absurd h (by decide)) hk103 (Or.inl rfl) ?_
                refine wp_nmS (fun σ104 hs105 => ?_)
                replace h := h σ104 hs105
                refine wp_iload dX3_tryPage_143 rfl ?_
                refine wp_iload dX3_tryPage_145 rfl ?_
                refine wp_iadd dX3_tryPage_147 ?_
                refine wp_nmI (fun x106 hx107 => ?_)
                replace h := h x106 hx107
                refine wp_istore' (ls' := [some (vr a0), some (vr a1), some (vi x4), some (vi x26), some (vi x106), some (vi x7), some (vi v91)]) dX3_tryPage_148 (Nat.le_of_ble_eq_true rfl) rfl ?_
                refine wp_iload dX3_tryPage_150 rfl ?_
                refine wp_iconst dX3_tryPage_152 ?_
                refine wp_iadd dX3_tryPage_153 ?_
                refine wp_nmI (fun x108 hx109 => ?_)
                replace h := h x108 hx109
                refine wp_istore_n' (ls' := [some (vr a0), some (vr a1), some (vi x108), some (vi x26), some (vi x106), some (vi x7), some (vi v91)]) dX3_tryPage_154 (Nat.le_of_ble_eq_true rfl) rfl ?_
                refine wp_iconst dX3_tryPage_155 ?_
                refine wp_istore_n' (ls' := [some (vr a0), some (vr a1), some (vi x108), some (vi 0), some (vi x106), some (vi x7), some (vi v91)]) dX3_tryPage_156 (Nat.le_of_ble_eq_true rfl) rfl ?_
                refine wp_nmT (x7 + 1) (fun x110 hx111 => ?_)
                replace h := h x110 hx111
                refine wp_iinc' (z' := x110) (ls' := [some (vr a0), some (vr a1), some (vi x108), some (vi 0), some (vi x106), some (vi x110), some (vi v91)]) dX3_tryPage_157 (Nat.le_of_ble_eq_true rfl) rfl hx111 rfl ?_
                refine wp_goto (tgt := 15) dX3_tryPage_160 (by decide) ?_
                obtain ⟨n112, hlt, h⟩ := h
                exact wp_lsub (ls' := [some (vr a0), some (vr a1), some (vi x108), some (vi 0), some (vi x106), some (vi x110), none]) ⟨rfl, ⟨rfl, ⟨rfl, ⟨rfl, ⟨rfl, ⟨rfl, trivial⟩⟩⟩⟩⟩⟩ (ih10 n112 hlt _ _ _ _ _ h)
              · replace h := h.2 c95
                refine wp_iconst dX3_tryPage_122 ?_
                exact wp_ret_z dX3_tryPage_123 rfl (Or.inl rfl) h
          · replace h := h.2 c75
            refine wp_goto (tgt := 157) dX3_tryPage_83 (by decide) ?_
            refine wp_nmT (x7 + 1) (fun x113 hx114 => ?_)
            replace h := h x113 hx114
            refine wp_iinc' (z' := x113) (ls' := [some (vr a0), some (vr a1), some (vi x4), some (vi x26), some (vi x6), some (vi x113), none]) dX3_tryPage_157 (Nat.le_of_ble_eq_true rfl) rfl hx114 rfl ?_
            refine wp_goto (tgt := 15) dX3_tryPage_160 (by decide) ?_
            obtain ⟨n115, hlt, h⟩ := h
            exact wp_lsub (ls' := [some (vr a0), some (vr a1), some (vi x4), some (vi x26), some (vi x6), some (vi x113), none]) ⟨rfl, ⟨rfl, ⟨rfl, ⟨rfl, ⟨rfl, ⟨rfl, trivial⟩⟩⟩⟩⟩⟩ (ih10 n115 hlt _ _ _ _ _ h)
  exact wp_lsub (ls' := [some (vr a0), some (vr a1), some (vi 0), some (vi 0), some (vi 0), some (vi 0), none]) ⟨rfl, ⟨rfl, ⟨rfl, ⟨rfl, ⟨rfl, ⟨rfl, trivial⟩⟩⟩⟩⟩⟩ (loop116 _ _ _ _ _ _ h013)

set_option maxRecDepth 100000 in
set_option maxHeartbeats 4000000 in
theorem wm_X3_shareWidth {g : qG} {l : Launch} (hl : l.stackTraces = false) {a0 : Nat} {a1 : Int} {a2 : Int} {a3 : Int} {σ : qS} {Post : qS → qRs → Prop}
    (h : ∃ Inv3 : Nat → Int → Int → Prop, (∃ n : Nat, Inv3 n 0 a1) ∧ ∀ (n4 : Nat) (x1 : Int) (x2 : Int), Inv3 n4 x1 x2 → (qR x2 ∧ qR a2 ∧ ((a2 < x2 → ∃ Inv14 : Nat → Int → Int → qS → Prop, (∃ n : Nat, Inv14 n a3 a1 σ) ∧ ∀ (n15 : Nat) (x12 : Int) (x13 : Int) (σ20 : qS), Inv14 n15 x12 x13 σ20 → (qR x13 ∧ ((a2 < x13 → ∃ Inv24 : Nat → Int → qS → Prop, (∃ n : Nat, Inv24 n a1 σ20) ∧ ∀ (n25 : Nat) (x23 : Int) (σ30 : qS), Inv24 n25 x23 σ30 → (qR x23 ∧ ((a2 < x23 → Post σ30 (.inl none)) ∧ (¬ (a2 < x23) → qR (a1 + x12) ∧ (((a1 + x12) ≤ x23 → Post σ30 (.inl none)) ∧ (¬ ((a1 + x12) ≤ x23) → gK σ30 a0 = 5 ∧ gK σ30 (gP σ30 161 a0) = 50 ∧ (∃ v38 : Nat, qMet g l M_Jx4a65c_get_915e3 [vr (gP σ30 161 a0), vi x23] σ30 (qPr σ30 v38) ∧ ((v38 = 0 ∨ gK σ30 v38 = 6) ∧ gK σ30 v38 = 6 ∧ gK σ30 (gP σ30 208 v38) = 2 ∧ (∀ σ42 : qS, σ42 = sI σ30 42 (gP σ30 208 v38) ((gI σ30 42 (gP σ30 208 v38)) + 1) → ∀ x44 : Int, x44 = x23 + 1 → ∃ n46 : Nat, n46 < n25 ∧ Inv24 n46 x44 σ42))))))))) ∧ (¬ (a2 < x13) → gK σ20 a0 = 5 ∧ gK σ20 (gP σ20 161 a0) = 50 ∧ (∃ v51 : Nat, qMet g l M_Jx4a65c_get_915e3 [vr (gP σ20 161 a0), vi x13] σ20 (qPr σ20 v51) ∧ ((v51 = 0 ∨ gK σ20 v51 = 6) ∧ ((qR x1 ∧ (¬ (x1 ≤ 0) → gK σ20 v51 = 6 ∧ (0 ≤ (a3 * (gI σ20 202 v51)) ∧ (a3 * (gI σ20 202 v51)) < 2147483648) ∧ (0 < x1 ∧ x1 < 2147483648))) ∧ ∀ v58 : Int, v58 = (if x1 ≤ 0 then 0 else ((a3 * (gI σ20 202 v51)) / x1)) → gK σ20 v51 = 6 ∧ gK σ20 (gP σ20 208 v51) = 2 ∧ (∀ σ64 : qS, σ64 = sI σ20 42 (gP σ20 208 v51) ((gI σ20 203 v51) + v58) → ∀ x66 : Int, x66 = x12 - v58 → ∀ x68 : Int, x68 = x13 + 1 → ∃ n70 : Nat, n70 < n15 ∧ Inv14 n70 x66 x68 σ64)))))))) ∧ (¬ (a2 < x2) → gK σ a0 = 5 ∧ gK σ (gP σ 161 a0) = 50 ∧ (∃ v80 : Nat, qMet g l M_Jx4a65c_get_915e3 [vr (gP σ 161 a0), vi x2] σ (qPr σ v80) ∧ ((v80 = 0 ∨ gK σ v80 = 6) ∧ gK σ v80 = 6 ∧ ∀ x83 : Int, x83 = x1 + (gI σ 202 v80) → ∀ x85 : Int, x85 = x2 + 1 → ∃ n87 : Nat, n87 < n4 ∧ Inv3 n87 x83 x85)))))) : qMet g l M_X3_shareWidth [vr a0, vi a1, vi a2, vi a3] σ Post := by
  refine qMet_of hl (by decide +kernel) (Nat.le_of_ble_eq_true rfl) (List.forall_mem_cons.mpr ⟨trivial, List.forall_mem_cons.mpr ⟨trivial, List.forall_mem_cons.mpr ⟨trivial, List.forall_mem_cons.mpr ⟨trivial, fun _ h => nomatch h⟩⟩⟩⟩) ?_
  show qW g l M_X3_shareWidth 0 0 0 [some (vr a0), some (vi a1), some (vi a2), some (vi a3), none, none, none, none, none] [] σ Post
  refine wp_iconst dX3_shareWidth_0 ?_
  refine wp_istore' (ls' := [some (vr a0), some (vi a1), some (vi a2), some (vi a3), some (vi 0), none, none, none, none]) dX3_shareWidth_1 (Nat.le_of_ble_eq_true rfl) rfl ?_
  refine wp_iload_n dX3_shareWidth_3 rfl ?_
  refine wp_istore' (ls' := [some (vr a0), some (vi a1), some (vi a2), some (vi a3), some (vi 0), some (vi a1), none, none, none]) dX3_shareWidth_4 (Nat.le_of_ble_eq_true rfl) rfl ?_
  obtain ⟨Inv3, ⟨n4_0, h08⟩, hb7⟩ := h
  have loop88 : ∀ (n4 : Nat) (x1 : Int) (x2 : Int), Inv3 n4 x1 x2 → qW g l M_X3_shareWidth 0 0 6 [some (vr a0), some (vi a1), some (vi a2), some (vi a3), some (vi x1), some (vi x2), none, none, none] [] σ Post := by
    intro n4
    induction n4 using Nat.strongRecOn with
    | ind n4 ih5 =>
      intro x1 x2 hI6
      have h := hb7 n4 x1 x2 hI6
      refine wp_iload dX3_shareWidth_6 rfl ?_
      refine wp_iload_n dX3_shareWidth_8 rfl ?_
      obtain ⟨hr9, hr10, h⟩ := h
      refine wp_icmp_gt (tgt := 38) dX3_shareWidth_9 (by decide) hr9 hr10 (fun c11 => ?_) (fun c11 => ?_)
      · replace h := h.1 c11
        refine wp_iload_n dX3_shareWidth_38 rfl ?_
        refine wp_istore' (ls' := [some (vr a0), some (vi a1), some (vi a2), some (vi a3), some (vi x1), some (vi a3), none, none, none]) dX3_shareWidth_39 (Nat.le_of_ble_eq_true rfl) rfl ?_
        refine wp_iload_n dX3_shareWidth_41 rfl ?_
        refine wp_istore' (ls' := [some (vr a0), some (vi a1), some (vi a2), some (vi a3), some (vi x1), some (vi a3), some (vi a1), none, none]) dX3_shareWidth_42 (Nat.le_of_ble_eq_true rfl) rfl ?_
        obtain ⟨Inv14, ⟨n15_0, h019⟩, hb18⟩ := h
        have loop76 : ∀ (n15 : Nat) (x12 : Int) (x13 : Int) (σ20 : qS), Inv14 n15 x12 x13 σ20 → qW g l M_X3_shareWidth 0 0 44 [some (vr a0), some (vi a1), some (vi a2), some (vi a3), some (vi x1), some (vi x12), some (vi x13), none, none] [] σ20 Post := by
          intro n15
          induction n15 using Nat.strongRecOn with
          | ind n15 ih16 =>
            intro x12 x13 σ20 hI17
            have h := hb18 n15 x12 x13 σ20 hI17
            refine wp_iload dX3_shareWidth_44 rfl ?_
            refine wp_iload_n dX3_shareWidth_46 rfl ?_
            obtain ⟨hr21, h⟩ := h
            refine wp_icmp_gt (tgt := 114) dX3_shareWidth_47 (by decide) hr21 hr10 (fun c22 => ?_) (fun c22 => ?_)
            · replace h := h.1 c22
              refine wp_iload_n dX3_shareWidth_114 rfl ?_
              refine wp_istore' (ls' := [some (vr a0), some (vi a1), some (vi a2), some (vi a3), some (vi x1), some (vi x12), some (vi a1), none, none]) dX3_shareWidth_115 (Nat.le_of_ble_eq_true rfl) rfl ?_
              obtain ⟨Inv24, ⟨n25_0, h029⟩, hb28⟩ := h
              have loop47 : ∀ (n25 : Nat) (x23 : Int) (σ30 : qS), Inv24 n25 x23 σ30 → qW g l M_X3_shareWidth 0 0 117 [some (vr a0), some (vi a1), some (vi a2), some (vi a3), some (vi x1), some (vi x12), some (vi x23), none, none] [] σ30 Post := by
                intro n25
                induction n25 using Nat.strongRecOn with
                | ind n25 ih26 =>
                  intro x23 σ30 hI27
                  have h := hb28 n25 x23 σ30 hI27
                  refine wp_iload dX3_shareWidth_117 rfl ?_
                  refine wp_iload_n dX3_shareWidth_119 rfl ?_
                  obtain ⟨hr31, h⟩ := h
                  refine wp_icmp_gt (tgt := 162) dX3_shareWidth_120 (by decide) hr31 hr10 (fun c32 => ?_) (fun c32 => ?_)
                  · replace h := h.1 c32
                    exact wp_ret_v dX3_shareWidth_162 rfl h
                  · replace h := h.2 c32
                    refine wp_iload dX3_shareWidth_123 rfl ?_
                    refine wp_iload_n dX3_shareWidth_125 rfl ?_
                    refine wp_iload dX3_shareWidth_126 rfl ?_
                    refine wp_iadd dX3_shareWidth_128 ?_
                    obtain ⟨hr33, h⟩ := h
                    refine wp_icmp_ge (tgt := 162) dX3_shareWidth_129 (by decide) hr31 hr33 (fun c34 => ?_) (fun c34 => ?_)
                    · replace h := h.1 c34
                      exact wp_ret_v dX3_shareWidth_162 rfl h
                    · replace h := h.2 c34
                      refine wp_aload_n dX3_shareWidth_132 rfl ?_
                      obtain ⟨hk35, h⟩ := h
                      refine wp_get (v := vr (gP σ30 161 a0)) dX3_shareWidth_133 fl_RX3_24 hk35 rfl ?_
                      refine wp_iload dX3_shareWidth_136 rfl ?_
                      obtain ⟨hk37, h⟩ := h
                      obtain ⟨v38, hm36, h⟩ := h
                      refine wp_callV (M' := M_Jx4a65c_get_915e3) (As := [vi x23]) (st := []) (ci := 9) dX3_shareWidth_138 cee_Jx4a65c_get_915e3 np_Jx4a65c_get_915e3 rfl ⟨Nat.le_of_ble_eq_true rfl, Nat.le_of_ble_eq_true rfl, Nat.le_of_ble_eq_true rfl, Nat.le_of_ble_eq_true rfl⟩ wd_452 wd_302 wd_303 rfl (Or.inr ⟨hk37, rfl⟩) (q_small_of (Nat.le_of_ble_eq_true rfl)) hm36 (q_kPr ?_) q_kPr0
                      refine wp_less (ac2 := 0) (as2 := 0) (Nat.le_of_ble_eq_true rfl) (Nat.le_of_ble_eq_true rfl) ?_
                      obtain ⟨hc39, h⟩ := h
                      refine wp_cast (ci := 5) dX3_shareWidth_141 ⟨_, rfl, wd_453⟩ hc39 ?_
                      obtain ⟨hk40, h⟩ := h
                      refine wp_get (v := vr (gP σ30 208 v38)) dX3_shareWidth_144 fl_RX3_57 hk40 rfl ?_
                      refine wp_dup dX3_shareWidth_147 trivial ?_
                      obtain ⟨hk41, h⟩ := h
                      refine wp_get (v := vi (gI σ30 42 (gP σ30 208 v38))) dX3_shareWidth_148 fl_RX3_61 hk41 rfl ?_
                      refine wp_iconst dX3_shareWidth_151 ?_
                      refine wp_iadd dX3_shareWidth_152 ?_
                      refine wp_put (v := vi ((gI σ30 42 (gP σ30 208 v38)) + 1)) dX3_shareWidth_153 fs_RX3_61 (fun h => absurd h (by decide)) hk41 (Or.inl rfl) ?_
                      refine wp_nmS (fun σ42 hs43 => ?_)
                      replace h := h σ42 hs43
                      refine wp_nmT (x23 + 1) (fun x44 hx45 => ?_)
                      replace h := h x44 hx45
                      refine wp_iinc' (z' := x44) (ls' := [some (vr a0), some (vi a1), some (vi a2), some (vi a3), some (vi x1), some (vi x12), some (vi x44), none, none]) dX3_shareWidth_156 (Nat.le_of_ble_eq_true rfl) rfl hx45 rfl ?_
                      refine wp_goto (tgt := 117) dX3_shareWidth_159 (by decide) ?_
                      obtain ⟨n46, hlt, h⟩ := h
                      exact wp_lsub (ls' := [some (vr a0), some (vi a1), some (vi a2), some (vi a3), some (vi x1), some (vi x12), some (vi x44), none, none]) ⟨rfl, ⟨rfl, ⟨rfl, ⟨rfl, ⟨rfl, ⟨rfl, ⟨rfl, trivial⟩⟩⟩⟩⟩⟩⟩ (ih26 n46 hlt _ _ h)
              exact wp_lsub (ls' := [some (vr a0), some (vi a1), some (vi a2), some (vi a3), some (vi x1), some (vi x12), some (vi a1), none, none]) ⟨rfl, ⟨rfl, ⟨rfl, ⟨rfl, ⟨rfl, ⟨rfl, ⟨rfl, trivial⟩⟩⟩⟩⟩⟩⟩ (loop47 _ _ _ h029)
            · replace h := h.2 c22
              refine wp_aload_n dX3_shareWidth_50 rfl ?_
              obtain ⟨hk48, h⟩ := h
              refine wp_get (v := vr (gP σ20 161 a0)) dX3_shareWidth_51 fl_RX3_24 hk48 rfl ?_
              refine wp_iload dX3_shareWidth_54 rfl ?_
              obtain ⟨hk50, h⟩ := h
              obtain ⟨v51, hm49, h⟩ := h
              refine wp_callV (M' := M_Jx4a65c_get_915e3) (As := [vi x13]) (st := []) (ci := 9) dX3_shareWidth_56 cee_Jx4a65c_get_915e3 np_Jx4a65c_get_915e3 rfl ⟨Nat.le_of_ble_eq_true rfl, Nat.le_of_ble_eq_true rfl, Nat.le_of_ble_eq_true rfl, Nat.le_of_ble_eq_true rfl⟩ wd_452 wd_302 wd_303 rfl (Or.inr ⟨hk50, rfl⟩) (q_small_of (Nat.le_of_ble_eq_true rfl)) hm49 (q_kPr ?_) q_kPr0
              refine wp_less (ac2 := 0) (as2 := 0) (Nat.le_of_ble_eq_true rfl) (Nat.le_of_ble_eq_true rfl) ?_
              obtain ⟨hc52, h⟩ := h
              refine wp_cast (ci := 5) dX3_shareWidth_59 ⟨_, rfl, wd_453⟩ hc52 ?_
              refine wp_astore' (ls' := [some (vr a0), some (vi a1), some (vi a2), some (vi a3), some (vi x1), some (vi x12), some (vi x13), some (vr v51), none]) dX3_shareWidth_62 (Nat.le_of_ble_eq_true rfl) rfl ?_
              refine wp_iload dX3_shareWidth_64 rfl ?_
              obtain ⟨h, hk61⟩ := h
              have key60 : ∀ v58 : Int, v58 = (if x1 ≤ 0 then 0 else ((a3 * (gI σ20 202 v51)) / x1)) → qW g l M_X3_shareWidth 0 0 83 [some (vr a0), some (vi a1), some (vi a2), some (vi a3), some (vi x1), some (vi x12), some (vi x13), some (vr v51), none] [vi v58] σ20 Post := by
                intro v58 hv59
                have h := hk61 v58 hv59
                refine wp_istore' (ls' := [some (vr a0), some (vi a1), some (vi a2), some (vi a3), some (vi x1), some (vi x12), some (vi x13), some (vr v51), some (vi v58)]) dX3_shareWidth_83 (Nat.le_of_ble_eq_true rfl) rfl ?_
                refine wp_aload dX3_shareWidth_85 rfl ?_
                obtain ⟨hk62, h⟩ := h
                refine wp_get (v := vr (gP σ20 208 v51)) dX3_shareWidth_87 fl_RX3_57 hk62 rfl ?_
                refine wp_aload dX3_shareWidth_90 rfl ?_
                refine wp_get (v := vi (gI σ20 203 v51)) dX3_shareWidth_92 fl_RX3_40 hk62 rfl ?_
                refine wp_iload dX3_shareWidth_95 rfl ?_
                refine wp_iadd dX3_shareWidth_97 ?_
                obtain ⟨hk63, h⟩ := h
                refine wp_put (v := vi ((gI σ20 203 v51) + v58)) dX3_shareWidth_98 fs_RX3_61 (fun h => absurd h (by decide)) hk63 (Or.inl rfl) ?_
                refine wp_nmS (fun σ64 hs65 => ?_)
                replace h := h σ64 hs65
                refine wp_iload dX3_shareWidth_101 rfl ?_
                refine wp_iload dX3_shareWidth_103 rfl ?_
                refine wp_isub dX3_shareWidth_105 ?_
                refine wp_nmI (fun x66 hx67 => ?_)
                replace h := h x66 hx67
                refine wp_istore' (ls' := [some (vr a0), some (vi a1), some (vi a2), some (vi a3), some (vi x1), some (vi x66), some (vi x13), some (vr v51), some (vi v58)]) dX3_shareWidth_106 (Nat.le_of_ble_eq_true rfl) rfl ?_
                refine wp_nmT (x13 + 1) (fun x68 hx69 => ?_)
                replace h := h x68 hx69
                refine wp_iinc' (z' := x68) (ls' := [some (vr a0), some (vi a1), some (vi a2), some (vi a3), some (vi x1), some (vi x66), some (vi x68), some (vr v51), some (vi v58)]) dX3_shareWidth_108 (Nat.le_of_ble_eq_true rfl) rfl hx69 rfl ?_
                refine wp_goto (tgt := 44) dX3_shareWidth_111 (by decide) ?_
                obtain ⟨n70, hlt, h⟩ := h
                exact wp_lsub (ls' := [some (vr a0), some (vi a1), some (vi a2), some (vi a3), some (vi x1), some (vi x66), some (vi x68), none, none]) ⟨rfl, ⟨rfl, ⟨rfl, ⟨rfl, ⟨rfl, ⟨rfl, ⟨rfl, trivial⟩⟩⟩⟩⟩⟩⟩ (ih16 n70 hlt _ _ _ h)
              obtain ⟨hr71, h⟩ := h
              refine wp_if_le (tgt := 82) dX3_shareWidth_66 (by decide) hr71 (fun c72 => ?_) (fun c72 => ?_)
              · refine wp_iconst dX3_shareWidth_82 ?_
                exact key60 _ (by rw [if_pos c72])
              · replace h := h c72
                refine wp_iload_n dX3_shareWidth_69 rfl ?_
                refine wp_aload dX3_shareWidth_70 rfl ?_
                obtain ⟨hk73, h⟩ := h
                refine wp_get (v := vi (gI σ20 202 v51)) dX3_shareWidth_72 fl_RX3_54 hk73 rfl ?_
                refine wp_imul dX3_shareWidth_75 ?_
                refine wp_iload dX3_shareWidth_76 rfl ?_
                obtain ⟨hd74, hd75⟩ := h
                refine wp_idiv dX3_shareWidth_78 hd74 hd75 ?_
                refine wp_goto (tgt := 83) dX3_shareWidth_79 (by decide) ?_
                exact key60 _ (by rw [if_neg c72])
        exact wp_lsub (ls' := [some (vr a0), some (vi a1), some (vi a2), some (vi a3), some (vi x1), some (vi a3), some (vi a1), none, none]) ⟨rfl, ⟨rfl, ⟨rfl, ⟨rfl, ⟨rfl, ⟨rfl, ⟨rfl, trivial⟩⟩⟩⟩⟩⟩⟩ (loop76 _ _ _ _ h019)
      · replace h := h.2 c11
        refine wp_iload dX3_shareWidth_12 rfl ?_
        refine wp_aload_n dX3_shareWidth_14 rfl ?_
        obtain ⟨hk77, h⟩ := h
        refine wp_get (v := vr (gP σ 161 a0)) dX3_shareWidth_15 fl_RX3_24 hk77 rfl ?_
        refine wp_iload dX3_shareWidth_18 rfl ?_
        obtain ⟨hk79, h⟩ := h
        obtain ⟨v80, hm78, h⟩ := h
        refine wp_callV (M' := M_Jx4a65c_get_915e3) (As := [vi x2]) (st := [vi x1]) (ci := 9) dX3_shareWidth_20 cee_Jx4a65c_get_915e3 np_Jx4a65c_get_915e3 rfl ⟨Nat.le_of_ble_eq_true rfl, Nat.le_of_ble_eq_true rfl, Nat.le_of_ble_eq_true rfl, Nat.le_of_ble_eq_true rfl⟩ wd_452 wd_302 wd_303 rfl (Or.inr ⟨hk79, rfl⟩) (q_small_of (Nat.le_of_ble_eq_true rfl)) hm78 (q_kPr ?_) q_kPr0
        refine wp_less (ac2 := 0) (as2 := 0) (Nat.le_of_ble_eq_true rfl) (Nat.le_of_ble_eq_true rfl) ?_
        obtain ⟨hc81, h⟩ := h
        refine wp_cast (ci := 5) dX3_shareWidth_23 ⟨_, rfl, wd_453⟩ hc81 ?_
        obtain ⟨hk82, h⟩ := h
        refine wp_get (v := vi (gI σ 202 v80)) dX3_shareWidth_26 fl_RX3_54 hk82 rfl ?_
        refine wp_iadd dX3_shareWidth_29 ?_
        refine wp_nmI (fun x83 hx84 => ?_)
        replace h := h x83 hx84
        refine wp_istore' (ls' := [some (vr a0), some (vi a1), some (vi a2), some (vi a3), some (vi x83), some (vi x2), none, none, none]) dX3_shareWidth_30 (Nat.le_of_ble_eq_true rfl) rfl ?_
        refine wp_nmT (x2 + 1) (fun x85 hx86 => ?_)
        replace h := h x85 hx86
        refine wp_iinc' (z' := x85) (ls' := [some (vr a0), some (vi a1), some (vi a2), some (vi a3), some (vi x83), some (vi x85), none, none, none]) dX3_shareWidth_32 (Nat.le_of_ble_eq_true rfl) rfl hx86 rfl ?_
        refine wp_goto (tgt := 6) dX3_shareWidth_35 (by decide) ?_
        obtain ⟨n87, hlt, h⟩ := h
        exact wp_lsub (ls' := [some (vr a0), some (vi a1), some (vi a2), some (vi a3), some (vi x83), some (vi x85), none, none, none]) ⟨rfl, ⟨rfl, ⟨rfl, ⟨rfl, ⟨rfl, ⟨rfl, trivial⟩⟩⟩⟩⟩⟩ (ih5 n87 hlt _ _ h)
  exact wp_lsub (ls' := [some (vr a0), some (vi a1), some (vi a2), some (vi a3), some (vi 0), some (vi a1), none, none, none]) ⟨rfl, ⟨rfl, ⟨rfl, ⟨rfl, ⟨rfl, ⟨rfl, trivial⟩⟩⟩⟩⟩⟩ (loop88 _ _ _ h08)

set_option maxRecDepth 100000 in
set_option maxHeartbeats 4000000 in
theorem wm_X3_heightOfRow {g : qG} {l : Launch} (hl : l.stackTraces = false) {a0 : Nat} {a1 : Nat} {a2 : Int} {a3 : Int} {σ : qS} {Post : qS → qRs → Prop}
    (h : ∃ Inv3 : Nat → Int → Int → qS → Prop, (∃ n : Nat, Inv3 n 0 a2 σ) ∧ ∀ (n4 : Nat) (x1 : Int) (x2 : Int) (σ9 : qS), Inv3 n4 x1 x2 σ9 → (qR x2 ∧ qR a3 ∧ ((a3 < x2 → ∃ Inv14 : Nat → Int → qS → Prop, (∃ n : Nat, Inv14 n x1 σ9) ∧ ∀ (n15 : Nat) (x13 : Int) (σ20 : qS), Inv14 n15 x13 σ20 → (qR x13 ∧ ((16 < x13 → Post σ20 (.inl (some (vi 0)))) ∧ (¬ (16 < x13) → gK σ20 a0 = 4 ∧ (∃ Mid25 : qS → Int → Prop, qMet g l M_X3_fitsInto [vr a0, vi x13, vr a1, vi a2, vi a3] σ20 (qTi0 Mid25) ∧ ∀ (σ29 : qS) (v31 : Int), Mid25 σ29 v31 → qR v31 ∧ ((v31 = 0 → ∀ x34 : Int, x34 = x13 + 1 → ∃ n36 : Nat, n36 < n15 ∧ Inv14 n36 x34 σ29) ∧ (¬ (v31 = 0) → Post σ29 (.inl (some (vi x13)))))))))) ∧ (¬ (a3 < x2) → gK σ9 a1 = 5 ∧ gK σ9 (gP σ9 161 a1) = 50 ∧ (∃ v41 : Nat, qMet g l M_Jx4a65c_get_915e3 [vr (gP σ9 161 a1), vi x2] σ9 (qPr σ9 v41) ∧ ((v41 = 0 ∨ gK σ9 v41 = 6) ∧ gK σ9 v41 = 6 ∧ qR x1 ∧ qR (gI σ9 204 v41) ∧ ∀ x46 : Int, x46 = max x1 (gI σ9 204 v41) → ∀ x48 : Int, x48 = x2 + 1 → ∃ n50 : Nat, n50 < n4 ∧ Inv3 n50 x46 x48 σ9)))))) : qMet g l M_X3_heightOfRow [vr a0, vr a1, vi a2, vi a3] σ Post := by
  refine qMet_of hl (by decide +kernel) (Nat.le_of_ble_eq_true rfl) (List.forall_mem_cons.mpr ⟨trivial, List.forall_mem_cons.mpr ⟨trivial, List.forall_mem_cons.mpr ⟨trivial, List.forall_mem_cons.mpr ⟨trivial, fun _ h => nomatch h⟩⟩⟩⟩) ?_
  show qW g l M_X3_heightOfRow 0 0 0 [some (vr a0), some (vr a1), some (vi a2), some (vi a3), none, none] [] σ Post
  refine wp_iconst dX3_heightOfRow_0 ?_
  refine wp_istore' (ls' := [some (vr a0), some (vr a1), some (vi a2), some (vi a3), some (vi 0), none]) dX3_heightOfRow_1 (Nat.le_of_ble_eq_true rfl) rfl ?_
  refine wp_iload_n dX3_heightOfRow_3 rfl ?_
  refine wp_istore' (ls' := [some (vr a0), some (vr a1), some (vi a2), some (vi a3), some (vi 0), some (vi a2)]) dX3_heightOfRow_4 (Nat.le_of_ble_eq_true rfl) rfl ?_
  obtain ⟨Inv3, ⟨n4_0, h08⟩, hb7⟩ := h
  have loop51 : ∀ (n4 : Nat) (x1 : Int) (x2 : Int) (σ9 : qS), Inv3 n4 x1 x2 σ9 → qW g l M_X3_heightOfRow 0 0 6 [some (vr a0), some (vr a1), some (vi a2), some (vi a3), some (vi x1), some (vi x2)] [] σ9 Post := by
    intro n4
    induction n4 using Nat.strongRecOn with
    | ind n4 ih5 =>
      intro x1 x2 σ9 hI6
      have h := hb7 n4 x1 x2 σ9 hI6
      refine wp_iload dX3_heightOfRow_6 rfl ?_
      refine wp_iload_n dX3_heightOfRow_8 rfl ?_
      obtain ⟨hr10, hr11, h⟩ := h
      refine wp_icmp_gt (tgt := 40) dX3_heightOfRow_9 (by decide) hr10 hr11 (fun c12 => ?_) (fun c12 => ?_)
      · replace h := h.1 c12
        refine wp_iload dX3_heightOfRow_40 rfl ?_
        refine wp_istore' (ls' := [some (vr a0), some (vr a1), some (vi a2), some (vi a3), some (vi x1), some (vi x1)]) dX3_heightOfRow_42 (Nat.le_of_ble_eq_true rfl) rfl ?_
        obtain ⟨Inv14, ⟨n15_0, h019⟩, hb18⟩ := h
        have loop37 : ∀ (n15 : Nat) (x13 : Int) (σ20 : qS), Inv14 n15 x13 σ20 → qW g l M_X3_heightOfRow 0 0 44 [some (vr a0), some (vr a1), some (vi a2), some (vi a3), some (vi x1), some (vi x13)] [] σ20 Post := by
          intro n15
          induction n15 using Nat.strongRecOn with
          | ind n15 ih16 =>
            intro x13 σ20 hI17
            have h := hb18 n15 x13 σ20 hI17
            refine wp_iload dX3_heightOfRow_44 rfl ?_
            refine wp_bipush dX3_heightOfRow_46 (by decide) ?_
            obtain ⟨hr21, h⟩ := h
            refine wp_icmp_gt (tgt := 72) dX3_heightOfRow_48 (by decide) hr21 (by unfold qR; omega) (fun c22 => ?_) (fun c22 => ?_)
            · replace h := h.1 c22
              refine wp_iconst dX3_heightOfRow_72 ?_
              exact wp_ret_i dX3_heightOfRow_73 rfl rfl h
            · replace h := h.2 c22
              refine wp_aload_n dX3_heightOfRow_51 rfl ?_
              refine wp_iload dX3_heightOfRow_52 rfl ?_
              refine wp_aload_n dX3_heightOfRow_54 rfl ?_
              refine wp_iload_n dX3_heightOfRow_55 rfl ?_
              refine wp_iload_n dX3_heightOfRow_56 rfl ?_
              obtain ⟨hk24, h⟩ := h
              obtain ⟨Mid25, hm23, hk27⟩ := h
              refine wp_callV (M' := M_X3_fitsInto) (As := [vi x13, vr a1, vi a2, vi a3]) (st := []) (ci := 3) dX3_heightOfRow_57 cee_X3_fitsInto np_X3_fitsInto rfl ⟨Nat.le_of_ble_eq_true rfl, Nat.le_of_ble_eq_true rfl, Nat.le_of_ble_eq_true rfl, Nat.le_of_ble_eq_true rfl⟩ wd_462 wd_464 sel_X3_fitsInto rfl (Or.inl hk24) (q_small_of (Nat.le_of_ble_eq_true rfl)) hm23 (q_kTi0 (fun σ29 v31 hM30 => ?_)) q_kTi00
              refine wp_less (ac2 := 0) (as2 := 0) (Nat.le_of_ble_eq_true rfl) (Nat.le_of_ble_eq_true rfl) ?_
              have h := hk27 σ29 v31 hM30
              obtain ⟨hr32, h⟩ := h
              refine wp_if_eq (tgt := 66) dX3_heightOfRow_60 (by decide) hr32 (fun c33 => ?_) (fun c33 => ?_)
              · replace h := h.1 c33
                refine wp_nmT (x13 + 1) (fun x34 hx35 => ?_)
                replace h := h x34 hx35
                refine wp_iinc' (z' := x34) (ls' := [some (vr a0), some (vr a1), some (vi a2), some (vi a3), some (vi x1), some (vi x34)]) dX3_heightOfRow_66 (Nat.le_of_ble_eq_true rfl) rfl hx35 rfl ?_
                refine wp_goto (tgt := 44) dX3_heightOfRow_69 (by decide) ?_
                obtain ⟨n36, hlt, h⟩ := h
                exact wp_lsub (ls' := [some (vr a0), some (vr a1), some (vi a2), some (vi a3), some (vi x1), some (vi x34)]) ⟨rfl, ⟨rfl, ⟨rfl, ⟨rfl, ⟨rfl, ⟨rfl, trivial⟩⟩⟩⟩⟩⟩ (ih16 n36 hlt _ _ h)
              · replace h := h.2 c33
                refine wp_iload dX3_heightOfRow_63 rfl ?_
                exact wp_ret_i dX3_heightOfRow_65 rfl rfl h
        exact wp_lsub (ls' := [some (vr a0), some (vr a1), some (vi a2), some (vi a3), some (vi x1), some (vi x1)]) ⟨rfl, ⟨rfl, ⟨rfl, ⟨rfl, ⟨rfl, ⟨rfl, trivial⟩⟩⟩⟩⟩⟩ (loop37 _ _ _ h019)
      · replace h := h.2 c12
        refine wp_iload dX3_heightOfRow_12 rfl ?_
        refine wp_aload_n dX3_heightOfRow_14 rfl ?_
        obtain ⟨hk38, h⟩ := h
        refine wp_get (v := vr (gP σ9 161 a1)) dX3_heightOfRow_15 fl_RX3_24 hk38 rfl ?_
        refine wp_iload dX3_heightOfRow_18 rfl ?_
        obtain ⟨hk40, h⟩ := h
        obtain ⟨v41, hm39, h⟩ := h
        refine wp_callV (M' := M_Jx4a65c_get_915e3) (As := [vi x2]) (st := [vi x1]) (ci := 9) dX3_heightOfRow_20 cee_Jx4a65c_get_915e3 np_Jx4a65c_get_915e3 rfl ⟨Nat.le_of_ble_eq_true rfl, Nat.le_of_ble_eq_true rfl, Nat.le_of_ble_eq_true rfl, Nat.le_of_ble_eq_true rfl⟩ wd_452 wd_302 wd_303 rfl (Or.inr ⟨hk40, rfl⟩) (q_small_of (Nat.le_of_ble_eq_true rfl)) hm39 (q_kPr ?_) q_kPr0
        refine wp_less (ac2 := 0) (as2 := 0) (Nat.le_of_ble_eq_true rfl) (Nat.le_of_ble_eq_true rfl) ?_
        obtain ⟨hc42, h⟩ := h
        refine wp_cast (ci := 5) dX3_heightOfRow_23 ⟨_, rfl, wd_453⟩ hc42 ?_
        obtain ⟨hk43, h⟩ := h
        refine wp_get (v := vi (gI σ9 204 v41)) dX3_heightOfRow_26 fl_RX3_66 hk43 rfl ?_
        obtain ⟨hr44, hr45, h⟩ := h
        refine wp_mmax dX3_heightOfRow_29 wd_461 hr44 hr45 (q_small_of (Nat.le_of_ble_eq_true rfl)) ⟨Nat.le_of_ble_eq_true rfl, Nat.le_of_ble_eq_true rfl⟩ ?_
        refine wp_nmI (fun x46 hx47 => ?_)
        replace h := h x46 hx47
        refine wp_istore' (ls' := [some (vr a0), some (vr a1), some (vi a2), some (vi a3), some (vi x46), some (vi x2)]) dX3_heightOfRow_32 (Nat.le_of_ble_eq_true rfl) rfl ?_
        refine wp_nmT (x2 + 1) (fun x48 hx49 => ?_)
        replace h := h x48 hx49
        refine wp_iinc' (z' := x48) (ls' := [some (vr a0), some (vr a1), some (vi a2), some (vi a3), some (vi x46), some (vi x48)]) dX3_heightOfRow_34 (Nat.le_of_ble_eq_true rfl) rfl hx49 rfl ?_
        refine wp_goto (tgt := 6) dX3_heightOfRow_37 (by decide) ?_
        obtain ⟨n50, hlt, h⟩ := h
        exact wp_lsub (ls' := [some (vr a0), some (vr a1), some (vi a2), some (vi a3), some (vi x46), some (vi x48)]) ⟨rfl, ⟨rfl, ⟨rfl, ⟨rfl, ⟨rfl, ⟨rfl, trivial⟩⟩⟩⟩⟩⟩ (ih5 n50 hlt _ _ _ h)
  exact wp_lsub (ls' := [some (vr a0), some (vr a1), some (vi a2), some (vi a3), some (vi 0), some (vi a2)]) ⟨rfl, ⟨rfl, ⟨rfl, ⟨rfl, ⟨rfl, ⟨rfl, trivial⟩⟩⟩⟩⟩⟩ (loop51 _ _ _ _ h08)

set_option maxRecDepth 100000 in
set_option maxHeartbeats 4000000 in
theorem wm_X3_fitsInto {g : qG} {l : Launch} (hl : l.stackTraces = false) {a0 : Nat} {a1 : Int} {a2 : Nat} {a3 : Int} {a4 : Int} {σ : qS} {Post : qS → qRs → Prop}
    (h : ∃ Inv2 : Nat → Int → qS → Prop, (∃ n : Nat, Inv2 n a3 σ) ∧ ∀ (n3 : Nat) (x1 : Int) (σ8 : qS), Inv2 n3 x1 σ8 → (qR x1 ∧ qR a4 ∧ ((a4 < x1 → Post σ8 (.inl (some (vi 1)))) ∧ (¬ (a4 < x1) → gK σ8 a2 = 5 ∧ gK σ8 (gP σ8 161 a2) = 50 ∧ (∃ v15 : Nat, qMet g l M_Jx4a65c_get_915e3 [vr (gP σ8 161 a2), vi x1] σ8 (qPr σ8 v15) ∧ ((v15 = 0 ∨ gK σ8 v15 = 6) ∧ gK σ8 v15 = 6 ∧ gK σ8 (gP σ8 208 v15) = 2 ∧ (∀ σ19 : qS, σ19 = sI σ8 43 (gP σ8 208 v15) a1 → gK σ19 a0 = 4 ∧ (∃ Mid23 : qS → Int → Prop, qMet g l M_X3_placeBalloons [vr a0, vr v15] σ19 (qTi0 Mid23) ∧ ∀ (σ27 : qS) (v29 : Int), Mid23 σ27 v29 → qR v29 ∧ ((¬ v29 = 0 → ∀ x32 : Int, x32 = x1 + 1 → ∃ n34 : Nat, n34 < n3 ∧ Inv2 n34 x32 σ27) ∧ (v29 = 0 → Post σ27 (.inl (some (vi 0))))))))))))) : qMet g l M_X3_fitsInto [vr a0, vi a1, vr a2, vi a3, vi a4] σ Post := by
  refine qMet_of hl (by decide +kernel) (Nat.le_of_ble_eq_true rfl) (List.forall_mem_cons.mpr ⟨trivial, List.forall_mem_cons.mpr ⟨trivial, List.forall_mem_cons.mpr ⟨trivial, List.forall_mem_cons.mpr ⟨trivial, List.forall_mem_cons.mpr ⟨trivial, fun _ h => nomatch h⟩⟩⟩⟩⟩) ?_
  show qW g l M_X3_fitsInto 0 0 0 [some (vr a0), some (vi a1), some (vr a2), some (vi a3), some (vi a4), none, none] [] σ Post
  refine wp_iload_n dX3_fitsInto_0 rfl ?_
  refine wp_istore' (ls' := [some (vr a0), some (vi a1), some (vr a2), some (vi a3), some (vi a4), some (vi a3), none]) dX3_fitsInto_1 (Nat.le_of_ble_eq_true rfl) rfl ?_
  obtain ⟨Inv2, ⟨n3_0, h07⟩, hb6⟩ := h
  have loop35 : ∀ (n3 : Nat) (x1 : Int) (σ8 : qS), Inv2 n3 x1 σ8 → qW g l M_X3_fitsInto 0 0 3 [some (vr a0), some (vi a1), some (vr a2), some (vi a3), some (vi a4), some (vi x1), none] [] σ8 Post := by
    intro n3
    induction n3 using Nat.strongRecOn with
    | ind n3 ih4 =>
      intro x1 σ8 hI5
      have h := hb6 n3 x1 σ8 hI5
      refine wp_iload dX3_fitsInto_3 rfl ?_
      refine wp_iload dX3_fitsInto_5 rfl ?_
      obtain ⟨hr9, hr10, h⟩ := h
      refine wp_icmp_gt (tgt := 50) dX3_fitsInto_7 (by decide) hr9 hr10 (fun c11 => ?_) (fun c11 => ?_)
      · replace h := h.1 c11
        refine wp_iconst dX3_fitsInto_50 ?_
        exact wp_ret_z dX3_fitsInto_51 rfl (Or.inr rfl) h
      · replace h := h.2 c11
        refine wp_aload_n dX3_fitsInto_10 rfl ?_
        obtain ⟨hk12, h⟩ := h
        refine wp_get (v := vr (gP σ8 161 a2)) dX3_fitsInto_11 fl_RX3_24 hk12 rfl ?_
        refine wp_iload dX3_fitsInto_14 rfl ?_
        obtain ⟨hk14, h⟩ := h
        obtain ⟨v15, hm13, h⟩ := h
        refine wp_callV (M' := M_Jx4a65c_get_915e3) (As := [vi x1]) (st := []) (ci := 9) dX3_fitsInto_16 cee_Jx4a65c_get_915e3 np_Jx4a65c_get_915e3 rfl ⟨Nat.le_of_ble_eq_true rfl, Nat.le_of_ble_eq_true rfl, Nat.le_of_ble_eq_true rfl, Nat.le_of_ble_eq_true rfl⟩ wd_452 wd_302 wd_303 rfl (Or.inr ⟨hk14, rfl⟩) (q_small_of (Nat.le_of_ble_eq_true rfl)) hm13 (q_kPr ?_) q_kPr0
        refine wp_less (ac2 := 0) (as2 := 0) (Nat.le_of_ble_eq_true rfl) (Nat.le_of_ble_eq_true rfl) ?_
        obtain ⟨hc16, h⟩ := h
        refine wp_cast (ci := 5) dX3_fitsInto_19 ⟨_, rfl, wd_453⟩ hc16 ?_
        refine wp_astore' (ls' := [some (vr a0), some (vi a1), some (vr a2), some (vi a3), some (vi a4), some (vi x1), some (vr v15)]) dX3_fitsInto_22 (Nat.le_of_ble_eq_true rfl) rfl ?_
        refine wp_aload dX3_fitsInto_24 rfl ?_
        obtain ⟨hk17, h⟩ := h
        refine wp_get (v := vr (gP σ8 208 v15)) dX3_fitsInto_26 fl_RX3_57 hk17 rfl ?_
        refine wp_iload_n dX3_fitsInto_29 rfl ?_
        obtain ⟨hk18, h⟩ := h
        refine wp_put (v := vi a1) dX3_fitsInto_30 fs_RX3_79 (fun h => absurd h (by decide)) hk18 (Or.inl rfl) ?_
        refine wp_nmS (fun σ19 hs20 => ?_)
        replace h := h σ19 hs20
        refine wp_aload_n dX3_fitsInto_33 rfl ?_
        refine wp_aload dX3_fitsInto_34 rfl ?_
        obtain ⟨hk22, h⟩ := h
        obtain ⟨Mid23, hm21, hk25⟩ := h
        refine wp_callV (M' := M_X3_placeBalloons) (As := [vr v15]) (st := []) (ci := 3) dX3_fitsInto_36 cee_X3_placeBalloons np_X3_placeBalloons rfl ⟨Nat.le_of_ble_eq_true rfl, Nat.le_of_ble_eq_true rfl, Nat.le_of_ble_eq_true rfl, Nat.le_of_ble_eq_true rfl⟩ wd_466 wd_468 sel_X3_placeBalloons rfl (Or.inl hk22) (q_small_of (Nat.le_of_ble_eq_true rfl)) hm21 (q_kTi0 (fun σ27 v29 hM28 => ?_)) q_kTi00
        refine wp_less (ac2 := 0) (as2 := 0) (Nat.le_of_ble_eq_true rfl) (Nat.le_of_ble_eq_true rfl) ?_
        have h := hk25 σ27 v29 hM28
        obtain ⟨hr30, h⟩ := h
        refine wp_if_ne (tgt := 44) dX3_fitsInto_39 (by decide) hr30 (fun c31 => ?_) (fun c31 => ?_)
        · replace h := h.1 c31
          refine wp_nmT (x1 + 1) (fun x32 hx33 => ?_)
          replace h := h x32 hx33
          refine wp_iinc' (z' := x32) (ls' := [some (vr a0), some (vi a1), some (vr a2), some (vi a3), some (vi a4), some (vi x32), some (vr v15)]) dX3_fitsInto_44 (Nat.le_of_ble_eq_true rfl) rfl hx33 rfl ?_
          refine wp_goto (tgt := 3) dX3_fitsInto_47 (by decide) ?_
          obtain ⟨n34, hlt, h⟩ := h
          exact wp_lsub (ls' := [some (vr a0), some (vi a1), some (vr a2), some (vi a3), some (vi a4), some (vi x32), none]) ⟨rfl, ⟨rfl, ⟨rfl, ⟨rfl, ⟨rfl, ⟨rfl, trivial⟩⟩⟩⟩⟩⟩ (ih4 n34 hlt _ _ h)
        · replace h := h.2 c31
          refine wp_iconst dX3_fitsInto_42 ?_
          exact wp_ret_z dX3_fitsInto_43 rfl (Or.inl rfl) h
  exact wp_lsub (ls' := [some (vr a0), some (vi a1), some (vr a2), some (vi a3), some (vi a4), some (vi a3), none]) ⟨rfl, ⟨rfl, ⟨rfl, ⟨rfl, ⟨rfl, ⟨rfl, trivial⟩⟩⟩⟩⟩⟩ (loop35 _ _ _ h07)

set_option maxRecDepth 100000 in
set_option maxHeartbeats 4000000 in
theorem wm_X3_putRow {g : qG} {l : Launch} (hl : l.stackTraces = false) {a0 : Nat} {a1 : Int} {a2 : Int} {a3 : Int} {σ : qS} {Post : qS → qRs → Prop}
    (h : ∃ Inv3 : Nat → Int → Int → qS → Prop, (∃ n : Nat, Inv3 n 0 a1 σ) ∧ ∀ (n4 : Nat) (x1 : Int) (x2 : Int) (σ9 : qS), Inv3 n4 x1 x2 σ9 → (qR x2 ∧ qR a2 ∧ ((a2 < x2 → Post σ9 (.inl none)) ∧ (¬ (a2 < x2) → gK σ9 a0 = 5 ∧ gK σ9 (gP σ9 161 a0) = 50 ∧ (∃ v16 : Nat, qMet g l M_Jx4a65c_get_915e3 [vr (gP σ9 161 a0), vi x2] σ9 (qPr σ9 v16) ∧ ((v16 = 0 ∨ gK σ9 v16 = 6) ∧ gK σ9 v16 = 6 ∧ (∀ σ19 : qS, σ19 = sI σ9 210 v16 (gI σ9 164 a0) → gK σ19 (gP σ19 208 v16) = 2 ∧ (∀ σ22 : qS, σ22 = sI σ19 41 (gP σ19 208 v16) a3 → gK σ22 (gP σ22 208 v16) = 2 ∧ (∃ v26 : Int, qMet g l M_X4_isFromRight [vr a0] σ22 (qPi σ22 v26) ∧ ((∃ v28 : Int, qMet g l M_X7_turned [vi x1, vi (gI σ22 42 (gP σ22 208 v16)), vi 24, vi v26] σ22 (qPi σ22 v28) ∧ ((∀ σ29 : qS, σ29 = sI σ22 40 (gP σ22 208 v16) v28 → gK σ29 (gP σ29 208 v16) = 2 ∧ ∀ x32 : Int, x32 = x1 + (gI σ29 42 (gP σ29 208 v16)) → ∀ x34 : Int, x34 = x2 + 1 → ∃ n36 : Nat, n36 < n4 ∧ Inv3 n36 x32 x34 σ29))))))))))))) : qMet g l M_X3_putRow [vr a0, vi a1, vi a2, vi a3] σ Post := by
  refine qMet_of hl (by decide +kernel) (Nat.le_of_ble_eq_true rfl) (List.forall_mem_cons.mpr ⟨trivial, List.forall_mem_cons.mpr ⟨trivial, List.forall_mem_cons.mpr ⟨trivial, List.forall_mem_cons.mpr ⟨trivial, fun _ h => nomatch h⟩⟩⟩⟩) ?_
  show qW g l M_X3_putRow 0 0 0 [some (vr a0), some (vi a1), some (vi a2), some (vi a3), none, none, none] [] σ Post
  refine wp_iconst dX3_putRow_0 ?_
  refine wp_istore' (ls' := [some (vr a0), some (vi a1), some (vi a2), some (vi a3), some (vi 0), none, none]) dX3_putRow_1 (Nat.le_of_ble_eq_true rfl) rfl ?_
  refine wp_iload_n dX3_putRow_3 rfl ?_
  refine wp_istore' (ls' := [some (vr a0), some (vi a1), some (vi a2), some (vi a3), some (vi 0), some (vi a1), none]) dX3_putRow_4 (Nat.le_of_ble_eq_true rfl) rfl ?_
  obtain ⟨Inv3, ⟨n4_0, h08⟩, hb7⟩ := h
  have loop37 : ∀ (n4 : Nat) (x1 : Int) (x2 : Int) (σ9 : qS), Inv3 n4 x1 x2 σ9 → qW g l M_X3_putRow 0 0 6 [some (vr a0), some (vi a1), some (vi a2), some (vi a3), some (vi x1), some (vi x2), none] [] σ9 Post := by
    intro n4
    induction n4 using Nat.strongRecOn with
    | ind n4 ih5 =>
      intro x1 x2 σ9 hI6
      have h := hb7 n4 x1 x2 σ9 hI6
      refine wp_iload dX3_putRow_6 rfl ?_
      refine wp_iload_n dX3_putRow_8 rfl ?_
      obtain ⟨hr10, hr11, h⟩ := h
      refine wp_icmp_gt (tgt := 90) dX3_putRow_9 (by decide) hr10 hr11 (fun c12 => ?_) (fun c12 => ?_)
      · replace h := h.1 c12
        exact wp_ret_v dX3_putRow_90 rfl h
      · replace h := h.2 c12
        refine wp_aload_n dX3_putRow_12 rfl ?_
        obtain ⟨hk13, h⟩ := h
        refine wp_get (v := vr (gP σ9 161 a0)) dX3_putRow_13 fl_RX3_24 hk13 rfl ?_
        refine wp_iload dX3_putRow_16 rfl ?_
        obtain ⟨hk15, h⟩ := h
        obtain ⟨v16, hm14, h⟩ := h
        refine wp_callV (M' := M_Jx4a65c_get_915e3) (As := [vi x2]) (st := []) (ci := 9) dX3_putRow_18 cee_Jx4a65c_get_915e3 np_Jx4a65c_get_915e3 rfl ⟨Nat.le_of_ble_eq_true rfl, Nat.le_of_ble_eq_true rfl, Nat.le_of_ble_eq_true rfl, Nat.le_of_ble_eq_true rfl⟩ wd_452 wd_302 wd_303 rfl (Or.inr ⟨hk15, rfl⟩) (q_small_of (Nat.le_of_ble_eq_true rfl)) hm14 (q_kPr ?_) q_kPr0
        refine wp_less (ac2 := 0) (as2 := 0) (Nat.le_of_ble_eq_true rfl) (Nat.le_of_ble_eq_true rfl) ?_
        obtain ⟨hc17, h⟩ := h
        refine wp_cast (ci := 5) dX3_putRow_21 ⟨_, rfl, wd_453⟩ hc17 ?_
        refine wp_astore' (ls' := [some (vr a0), some (vi a1), some (vi a2), some (vi a3), some (vi x1), some (vi x2), some (vr v16)]) dX3_putRow_24 (Nat.le_of_ble_eq_true rfl) rfl ?_
        refine wp_aload dX3_putRow_26 rfl ?_
        refine wp_aload_n dX3_putRow_28 rfl ?_
        refine wp_get (v := vi (gI σ9 164 a0)) dX3_putRow_29 fl_RX3_18 hk13 rfl ?_
        obtain ⟨hk18, h⟩ := h
        refine wp_put (v := vi (gI σ9 164 a0)) dX3_putRow_32 fs_RX3_86 (fun h => absurd h (by decide)) hk18 (Or.inl rfl) ?_
        refine wp_nmS (fun σ19 hs20 => ?_)
        replace h := h σ19 hs20
        refine wp_aload dX3_putRow_35 rfl ?_
        refine wp_get (v := vr (gP σ19 208 v16)) dX3_putRow_37 fl_RX3_57 (by rw [hs20]; exact hk18) rfl ?_
        refine wp_iload_n dX3_putRow_40 rfl ?_
        obtain ⟨hk21, h⟩ := h
        refine wp_put (v := vi a3) dX3_putRow_41 fs_RX3_89 (fun h => absurd h (by decide)) hk21 (Or.inl rfl) ?_
        refine wp_nmS (fun σ22 hs23 => ?_)
        replace h := h σ22 hs23
        refine wp_aload dX3_putRow_44 rfl ?_
        refine wp_get (v := vr (gP σ22 208 v16)) dX3_putRow_46 fl_RX3_57 (by rw [hs23, hs20]; exact hk18) rfl ?_
        refine wp_iload dX3_putRow_49 rfl ?_
        refine wp_aload dX3_putRow_51 rfl ?_
        refine wp_get (v := vr (gP σ22 208 v16)) dX3_putRow_53 fl_RX3_57 (by rw [hs23, hs20]; exact hk18) rfl ?_
        obtain ⟨hk24, h⟩ := h
        refine wp_get (v := vi (gI σ22 42 (gP σ22 208 v16))) dX3_putRow_56 fl_RX3_61 hk24 rfl ?_
        refine wp_bipush dX3_putRow_59 (by decide) ?_
        refine wp_aload_n dX3_putRow_61 rfl ?_
        obtain ⟨v26, hm25, h⟩ := h
        refine wp_callV (M' := M_X4_isFromRight) (As := []) (st := [vi 24, vi (gI σ22 42 (gP σ22 208 v16)), vi x1, vr (gP σ22 208 v16)]) (ci := 4) dX3_putRow_62 cee_X4_isFromRight np_X4_isFromRight rfl ⟨Nat.le_of_ble_eq_true rfl, Nat.le_of_ble_eq_true rfl, Nat.le_of_ble_eq_true rfl, Nat.le_of_ble_eq_true rfl⟩ wd_470 wd_471 wd_472 rfl (Or.inl (by rw [hs23, hs20]; exact hk13)) (q_small_of (Nat.le_of_ble_eq_true rfl)) hm25 (q_kPi ?_) q_kPi0
        refine wp_less (ac2 := 0) (as2 := 0) (Nat.le_of_ble_eq_true rfl) (Nat.le_of_ble_eq_true rfl) ?_
        obtain ⟨v28, hm27, h⟩ := h
        refine wp_callSN (M' := M_X7_turned) (As := [vi x1, vi (gI σ22 42 (gP σ22 208 v16)), vi 24, vi v26]) (st := [vr (gP σ22 208 v16)]) dX3_putRow_65 cee_X7_turned np_X7_turned rfl ⟨Nat.le_of_ble_eq_true rfl, Nat.le_of_ble_eq_true rfl, Nat.le_of_ble_eq_true rfl, Nat.le_of_ble_eq_true rfl⟩ wd_503 wd_504 (q_small_of (Nat.le_of_ble_eq_true rfl)) hm27 (q_kPi ?_) q_kPi0
        refine wp_less (ac2 := 0) (as2 := 0) (Nat.le_of_ble_eq_true rfl) (Nat.le_of_ble_eq_true rfl) ?_
        refine wp_put (v := vi v28) dX3_putRow_68 fs_RX3_100 (fun h => absurd h (by decide)) hk24 (Or.inl rfl) ?_
        refine wp_nmS (fun σ29 hs30 => ?_)
        replace h := h σ29 hs30
        refine wp_iload dX3_putRow_71 rfl ?_
        refine wp_aload dX3_putRow_73 rfl ?_
        refine wp_get (v := vr (gP σ29 208 v16)) dX3_putRow_75 fl_RX3_57 (by rw [hs30, hs23, hs20]; exact hk18) rfl ?_
        obtain ⟨hk31, h⟩ := h
        refine wp_get (v := vi (gI σ29 42 (gP σ29 208 v16))) dX3_putRow_78 fl_RX3_61 hk31 rfl ?_
        refine wp_iadd dX3_putRow_81 ?_
        refine wp_nmI (fun x32 hx33 => ?_)
        replace h := h x32 hx33
        refine wp_istore' (ls' := [some (vr a0), some (vi a1), some (vi a2), some (vi a3), some (vi x32), some (vi x2), some (vr v16)]) dX3_putRow_82 (Nat.le_of_ble_eq_true rfl) rfl ?_
        refine wp_nmT (x2 + 1) (fun x34 hx35 => ?_)
        replace h := h x34 hx35
        refine wp_iinc' (z' := x34) (ls' := [some (vr a0), some (vi a1), some (vi a2), some (vi a3), some (vi x32), some (vi x34), some (vr v16)]) dX3_putRow_84 (Nat.le_of_ble_eq_true rfl) rfl hx35 rfl ?_
        refine wp_goto (tgt := 6) dX3_putRow_87 (by decide) ?_
        obtain ⟨n36, hlt, h⟩ := h
        exact wp_lsub (ls' := [some (vr a0), some (vi a1), some (vi a2), some (vi a3), some (vi x32), some (vi x34), none]) ⟨rfl, ⟨rfl, ⟨rfl, ⟨rfl, ⟨rfl, ⟨rfl, trivial⟩⟩⟩⟩⟩⟩ (ih5 n36 hlt _ _ _ h)
  exact wp_lsub (ls' := [some (vr a0), some (vi a1), some (vi a2), some (vi a3), some (vi 0), some (vi a1), none]) ⟨rfl, ⟨rfl, ⟨rfl, ⟨rfl, ⟨rfl, ⟨rfl, trivial⟩⟩⟩⟩⟩⟩ (loop37 _ _ _ _ h08)

set_option maxRecDepth 100000 in
set_option maxHeartbeats 4000000 in
theorem wm_X3_placeBalloons {g : qG} {l : Launch} (hl : l.stackTraces = false) {a0 : Nat} {a1 : Nat} {σ : qS} {Post : qS → qRs → Prop}
    (h : gK σ a1 = 6 ∧ ∀ x2 : Nat, x2 = gP σ 208 a1 → gK σ (gP σ 201 a1) = 5 ∧ (∃ v6 : Int, qMet g l M_X4_isFromRight [vr (gP σ 201 a1)] σ (qPi σ v6) ∧ (gK σ a0 = 4 ∧ (∃ Mid9 : qS → Prop, qMet g l M_X3_takeFaces [vr a0, vr a1] σ (qTv0 Mid9) ∧ ∀ (σ13 : qS), Mid9 σ13 → ∃ Inv18 : Nat → Int → Int → Int → qS → Prop, (∃ n : Nat, Inv18 n 0 0 0 σ13) ∧ ∀ (n19 : Nat) (x15 : Int) (x16 : Int) (x17 : Int) (σ24 : qS), Inv18 n19 x15 x16 x17 σ24 → (gK σ24 a1 = 6 ∧ gK σ24 (gP σ24 206 a1) = 50 ∧ (∃ v28 : Int, qMet g l M_Jx4a65c_size_8abf5 [vr (gP σ24 206 a1)] σ24 (qPi σ24 v28) ∧ (qR x17 ∧ qR v28 ∧ ((v28 ≤ x17 → Post σ24 (.inl (some (vi 1)))) ∧ (¬ (v28 ≤ x17) → (∃ v33 : Nat, qMet g l M_Jx4a65c_get_915e3 [vr (gP σ24 206 a1), vi x17] σ24 (qPr σ24 v33) ∧ ((v33 = 0 ∨ gK σ24 v33 = 1) ∧ gK σ24 v33 = 1 ∧ ∀ x36 : Nat, x36 = gP σ24 3 v33 → gK σ24 a0 = 4 ∧ (∃ v40 : Int, qMet g l M_X3_growthOf [vr a0, vr (gP σ24 201 a1)] σ24 (qPi σ24 v40) ∧ ((∃ v42 : Int, qMet g l M_X7_roundedUp [vi ((gI σ24 1 v33) * v40), vi 100] σ24 (qPi σ24 v42) ∧ (gK σ24 x2 = 2 ∧ qR (gI σ24 42 x2) ∧ qR v42 ∧ qR (min 6 (gI σ24 42 x2)) ∧ gK σ24 x36 = 2 ∧ (∀ σ48 : qS, σ48 = sI σ24 42 x36 (min v42 (min 6 (gI σ24 42 x2))) → (∃ v51 : Int, qMet g l M_X7_roundedUp [vi v42, vi (min v42 (min 6 (gI σ24 42 x2)))] σ48 (qPi σ48 v51) ∧ ((∀ σ52 : qS, σ52 = sI σ48 43 x36 v51 → (∃ Mid55 : qS → Int → Prop, qMet g l M_X3_findSpot [vr a0, vr x36, vi x15, vi x16, vr x2, vi v6] σ52 (qTi0 Mid55) ∧ ∀ (σ59 : qS) (v61 : Int), Mid55 σ59 v61 → qR v61 ∧ ((¬ v61 = 0 → gK σ59 x36 = 2 ∧ gK σ59 a0 = 4 ∧ (∃ Mid67 : qS → Prop, qMet g l M_X3_take [vr a0, vi (gI σ59 40 x36), vi (gI σ59 42 x36), vi (gI σ59 41 x36), vi ((gI σ59 41 x36) + (gI σ59 43 x36))] σ59 (qTv0 Mid67) ∧ ∀ (σ71 : qS), Mid67 σ71 → gK σ71 x36 = 2 ∧ ∀ x74 : Int, x74 = gI σ71 41 x36 → gK σ71 x2 = 2 ∧ (∃ v78 : Int, qMet g l M_X7_turned [vi (gI σ71 40 x36), vi (gI σ71 42 x36), vi (gI σ71 42 x2), vi v6] σ71 (qPi σ71 v78) ∧ (∀ x79 : Int, x79 = v78 + 1 → ∀ x81 : Int, x81 = x17 + 1 → ∃ n83 : Nat, n83 < n19 ∧ Inv18 n83 x74 x79 x81 σ71)))) ∧ (v61 = 0 → Post σ59 (.inl (some (vi 0))))))))))))))))))))))))) : qMet g l M_X3_placeBalloons [vr a0, vr a1] σ Post := by
  refine qMet_of hl (by decide +kernel) (Nat.le_of_ble_eq_true rfl) (List.forall_mem_cons.mpr ⟨trivial, List.forall_mem_cons.mpr ⟨trivial, fun _ h => nomatch h⟩⟩) ?_
  show qW g l M_X3_placeBalloons 0 0 0 [some (vr a0), some (vr a1), none, none, none, none, none, none, none, none] [] σ Post
  refine wp_aload_n dX3_placeBalloons_0 rfl ?_
  obtain ⟨hk1, h⟩ := h
  refine wp_get (v := vr (gP σ 208 a1)) dX3_placeBalloons_1 fl_RX3_57 hk1 rfl ?_
  refine wp_nmR (fun x2 hx3 => ?_)
  replace h := h x2 hx3
  refine wp_astore_n' (ls' := [some (vr a0), some (vr a1), some (vr x2), none, none, none, none, none, none, none]) dX3_placeBalloons_4 (Nat.le_of_ble_eq_true rfl) rfl ?_
  refine wp_aload_n dX3_placeBalloons_5 rfl ?_
  refine wp_get (v := vr (gP σ 201 a1)) dX3_placeBalloons_6 fl_RX3_103 hk1 rfl ?_
  obtain ⟨hk5, h⟩ := h
  obtain ⟨v6, hm4, h⟩ := h
  refine wp_callV (M' := M_X4_isFromRight) (As := []) (st := []) (ci := 4) dX3_placeBalloons_9 cee_X4_isFromRight np_X4_isFromRight rfl ⟨Nat.le_of_ble_eq_true rfl, Nat.le_of_ble_eq_true rfl, Nat.le_of_ble_eq_true rfl, Nat.le_of_ble_eq_true rfl⟩ wd_470 wd_471 wd_472 rfl (Or.inl hk5) (q_small_of (Nat.le_of_ble_eq_true rfl)) hm4 (q_kPi ?_) q_kPi0
  refine wp_less (ac2 := 0) (as2 := 0) (Nat.le_of_ble_eq_true rfl) (Nat.le_of_ble_eq_true rfl) ?_
  refine wp_istore_n' (ls' := [some (vr a0), some (vr a1), some (vr x2), some (vi v6), none, none, none, none, none, none]) dX3_placeBalloons_12 (Nat.le_of_ble_eq_true rfl) rfl ?_
  refine wp_aload_n dX3_placeBalloons_13 rfl ?_
  refine wp_aload_n dX3_placeBalloons_14 rfl ?_
  obtain ⟨hk8, h⟩ := h
  obtain ⟨Mid9, hm7, hk11⟩ := h
  refine wp_callV (M' := M_X3_takeFaces) (As := [vr a1]) (st := []) (ci := 3) dX3_placeBalloons_15 cee_X3_takeFaces np_X3_takeFaces rfl ⟨Nat.le_of_ble_eq_true rfl, Nat.le_of_ble_eq_true rfl, Nat.le_of_ble_eq_true rfl, Nat.le_of_ble_eq_true rfl⟩ wd_474 wd_476 sel_X3_takeFaces rfl (Or.inl hk8) (q_small_of (Nat.le_of_ble_eq_true rfl)) hm7 (q_kTv0 (fun σ13 hM14 => ?_)) q_kTv00
  refine wp_less (ac2 := 0) (as2 := 0) (Nat.le_of_ble_eq_true rfl) (Nat.le_of_ble_eq_true rfl) ?_
  have h := hk11 σ13 hM14
  refine wp_iconst dX3_placeBalloons_18 ?_
  refine wp_istore' (ls' := [some (vr a0), some (vr a1), some (vr x2), some (vi v6), some (vi 0), none, none, none, none, none]) dX3_placeBalloons_19 (Nat.le_of_ble_eq_true rfl) rfl ?_
  refine wp_iconst dX3_placeBalloons_21 ?_
  refine wp_istore' (ls' := [some (vr a0), some (vr a1), some (vr x2), some (vi v6), some (vi 0), some (vi 0), none, none, none, none]) dX3_placeBalloons_22 (Nat.le_of_ble_eq_true rfl) rfl ?_
  refine wp_iconst dX3_placeBalloons_24 ?_
  refine wp_istore' (ls' := [some (vr a0), some (vr a1), some (vr x2), some (vi v6), some (vi 0), some (vi 0), some (vi 0), none, none, none]) dX3_placeBalloons_25 (Nat.le_of_ble_eq_true rfl) rfl ?_
  obtain ⟨Inv18, ⟨n19_0, h023⟩, hb22⟩ := h
  have loop84 : ∀ (n19 : Nat) (x15 : Int) (x16 : Int) (x17 : Int) (σ24 : qS), Inv18 n19 x15 x16 x17 σ24 → qW g l M_X3_placeBalloons 0 0 27 [some (vr a0), some (vr a1), some (vr x2), some (vi v6), some (vi x15), some (vi x16), some (vi x17), none, none, none] [] σ24 Post := by
    intro n19
    induction n19 using Nat.strongRecOn with
    | ind n19 ih20 =>
      intro x15 x16 x17 σ24 hI21
      have h := hb22 n19 x15 x16 x17 σ24 hI21
      refine wp_iload dX3_placeBalloons_27 rfl ?_
      refine wp_aload_n dX3_placeBalloons_29 rfl ?_
      obtain ⟨hk25, h⟩ := h
      refine wp_get (v := vr (gP σ24 206 a1)) dX3_placeBalloons_30 fl_RX3_111 hk25 rfl ?_
      obtain ⟨hk27, h⟩ := h
      obtain ⟨v28, hm26, h⟩ := h
      refine wp_callV (M' := M_Jx4a65c_size_8abf5) (As := []) (st := [vi x17]) (ci := 9) dX3_placeBalloons_33 cee_Jx4a65c_size_8abf5 np_Jx4a65c_size_8abf5 rfl ⟨Nat.le_of_ble_eq_true rfl, Nat.le_of_ble_eq_true rfl, Nat.le_of_ble_eq_true rfl, Nat.le_of_ble_eq_true rfl⟩ wd_451 wd_113 wd_114 rfl (Or.inr ⟨hk27, rfl⟩) (q_small_of (Nat.le_of_ble_eq_true rfl)) hm26 (q_kPi ?_) q_kPi0
      refine wp_less (ac2 := 0) (as2 := 0) (Nat.le_of_ble_eq_true rfl) (Nat.le_of_ble_eq_true rfl) ?_
      obtain ⟨hr29, hr30, h⟩ := h
      refine wp_icmp_ge (tgt := 197) dX3_placeBalloons_36 (by decide) hr29 hr30 (fun c31 => ?_) (fun c31 => ?_)
      · replace h := h.1 c31
        refine wp_iconst dX3_placeBalloons_197 ?_
        exact wp_ret_z dX3_placeBalloons_198 rfl (Or.inr rfl) h
      · replace h := h.2 c31
        refine wp_aload_n dX3_placeBalloons_39 rfl ?_
        refine wp_get (v := vr (gP σ24 206 a1)) dX3_placeBalloons_40 fl_RX3_111 hk25 rfl ?_
        refine wp_iload dX3_placeBalloons_43 rfl ?_
        obtain ⟨v33, hm32, h⟩ := h
        refine wp_callV (M' := M_Jx4a65c_get_915e3) (As := [vi x17]) (st := []) (ci := 9) dX3_placeBalloons_45 cee_Jx4a65c_get_915e3 np_Jx4a65c_get_915e3 rfl ⟨Nat.le_of_ble_eq_true rfl, Nat.le_of_ble_eq_true rfl, Nat.le_of_ble_eq_true rfl, Nat.le_of_ble_eq_true rfl⟩ wd_452 wd_302 wd_303 rfl (Or.inr ⟨hk27, rfl⟩) (q_small_of (Nat.le_of_ble_eq_true rfl)) hm32 (q_kPr ?_) q_kPr0
        refine wp_less (ac2 := 0) (as2 := 0) (Nat.le_of_ble_eq_true rfl) (Nat.le_of_ble_eq_true rfl) ?_
        obtain ⟨hc34, h⟩ := h
        refine wp_cast (ci := 0) dX3_placeBalloons_48 ⟨_, rfl, wd_486⟩ hc34 ?_
        refine wp_astore' (ls' := [some (vr a0), some (vr a1), some (vr x2), some (vi v6), some (vi x15), some (vi x16), some (vi x17), some (vr v33), none, none]) dX3_placeBalloons_51 (Nat.le_of_ble_eq_true rfl) rfl ?_
        refine wp_aload dX3_placeBalloons_53 rfl ?_
        obtain ⟨hk35, h⟩ := h
        refine wp_get (v := vr (gP σ24 3 v33)) dX3_placeBalloons_55 fl_RX3_114 hk35 rfl ?_
        refine wp_nmR (fun x36 hx37 => ?_)
        replace h := h x36 hx37
        refine wp_astore' (ls' := [some (vr a0), some (vr a1), some (vr x2), some (vi v6), some (vi x15), some (vi x16), some (vi x17), some (vr v33), some (vr x36), none]) dX3_placeBalloons_58 (Nat.le_of_ble_eq_true rfl) rfl ?_
        refine wp_aload dX3_placeBalloons_60 rfl ?_
        refine wp_get (v := vi (gI σ24 1 v33)) dX3_placeBalloons_62 fl_RX3_115 hk35 rfl ?_
        refine wp_aload_n dX3_placeBalloons_65 rfl ?_
        refine wp_aload_n dX3_placeBalloons_66 rfl ?_
        refine wp_get (v := vr (gP σ24 201 a1)) dX3_placeBalloons_67 fl_RX3_103 hk25 rfl ?_
        obtain ⟨hk39, h⟩ := h
        obtain ⟨v40, hm38, h⟩ := h
        refine wp_callV (M' := M_X3_growthOf) (As := [vr (gP σ24 201 a1)]) (st := [vi (gI σ24 1 v33)]) (ci := 3) dX3_placeBalloons_70 cee_X3_growthOf np_X3_growthOf rfl ⟨Nat.le_of_ble_eq_true rfl, Nat.le_of_ble_eq_true rfl, Nat.le_of_ble_eq_true rfl, Nat.le_of_ble_eq_true rfl⟩ wd_487 wd_489 sel_X3_growthOf rfl (Or.inl hk39) (q_small_of (Nat.le_of_ble_eq_true rfl)) hm38 (q_kPi ?_) q_kPi0
        refine wp_less (ac2 := 0) (as2 := 0) (Nat.le_of_ble_eq_true rfl) (Nat.le_of_ble_eq_true rfl) ?_
        refine wp_imul dX3_placeBalloons_73 ?_
        refine wp_bipush dX3_placeBalloons_74 (by decide) ?_
        obtain ⟨v42, hm41, h⟩ := h
        refine wp_callSN (M' := M_X7_roundedUp) (As := [vi ((gI σ24 1 v33) * v40), vi 100]) (st := []) dX3_placeBalloons_76 cee_X7_roundedUp np_X7_roundedUp rfl ⟨Nat.le_of_ble_eq_true rfl, Nat.le_of_ble_eq_true rfl, Nat.le_of_ble_eq_true rfl, Nat.le_of_ble_eq_true rfl⟩ wd_491 wd_492 (q_small_of (Nat.le_of_ble_eq_true rfl)) hm41 (q_kPi ?_) q_kPi0
        refine wp_less (ac2 := 0) (as2 := 0) (Nat.le_of_ble_eq_true rfl) (Nat.le_of_ble_eq_true rfl) ?_
        refine wp_istore' (ls' := [some (vr a0), some (vr a1), some (vr x2), some (vi v6), some (vi x15), some (vi x16), some (vi x17), some (vr v33), some (vr x36), some (vi v42)]) dX3_placeBalloons_79 (Nat.le_of_ble_eq_true rfl) rfl ?_
        refine wp_aload dX3_placeBalloons_81 rfl ?_
        refine wp_iload dX3_placeBalloons_83 rfl ?_
        refine wp_bipush dX3_placeBalloons_85 (by decide) ?_
        refine wp_aload_n dX3_placeBalloons_87 rfl ?_
        obtain ⟨hk43, h⟩ := h
        refine wp_get (v := vi (gI σ24 42 x2)) dX3_placeBalloons_88 fl_RX3_61 hk43 rfl ?_
        obtain ⟨hr44, h⟩ := h
        refine wp_mmin dX3_placeBalloons_91 wd_494 (by unfold qR; omega) hr44 (q_small_of (Nat.le_of_ble_eq_true rfl)) ⟨Nat.le_of_ble_eq_true rfl, Nat.le_of_ble_eq_true rfl⟩ ?_
        obtain ⟨hr45, hr46, h⟩ := h
        refine wp_mmin dX3_placeBalloons_94 wd_494 hr45 hr46 (q_small_of (Nat.le_of_ble_eq_true rfl)) ⟨Nat.le_of_ble_eq_true rfl, Nat.le_of_ble_eq_true rfl⟩ ?_
        obtain ⟨hk47, h⟩ := h
        refine wp_put (v := vi (min v42 (min 6 (gI σ24 42 x2)))) dX3_placeBalloons_97 fs_RX3_61 (fun h => absurd h (by decide)) hk47 (Or.inl rfl) ?_
        refine wp_nmS (fun σ48 hs49 => ?_)
        replace h := h σ48 hs49
        refine wp_aload dX3_placeBalloons_100 rfl ?_
        refine wp_iload dX3_placeBalloons_102 rfl ?_
        refine wp_aload dX3_placeBalloons_104 rfl ?_
        refine wp_get (v := vi (min v42 (min 6 (gI σ24 42 x2)))) dX3_placeBalloons_106 fl_RX3_61 (by rw [hs49]; exact hk47) (by rw [hs49]; exact q_memI) ?_
        obtain ⟨v51, hm50, h⟩ := h
        refine wp_callSN (M' := M_X7_roundedUp) (As := [vi v42, vi (min v42 (min 6 (gI σ24 42 x2)))]) (st := [vr x36]) dX3_placeBalloons_109 cee_X7_roundedUp np_X7_roundedUp rfl ⟨Nat.le_of_ble_eq_true rfl, Nat.le_of_ble_eq_true rfl, Nat.le_of_ble_eq_true rfl, Nat.le_of_ble_eq_true rfl⟩ wd_491 wd_492 (q_small_of (Nat.le_of_ble_eq_true rfl)) hm50 (q_kPi ?_) q_kPi0
        refine wp_less (ac2 := 0) (as2 := 0) (Nat.le_of_ble_eq_true rfl) (Nat.le_of_ble_eq_true rfl) ?_
        refine wp_put (v := vi v51) dX3_placeBalloons_112 fs_RX3_79 (fun h => absurd h (by decide)) (by rw [hs49]; exact hk47) (Or.inl rfl) ?_
        refine wp_nmS (fun σ52 hs53 => ?_)
        replace h := h σ52 hs53
        refine wp_aload_n dX3_placeBalloons_115 rfl ?_
        refine wp_aload dX3_placeBalloons_116 rfl ?_
        refine wp_iload dX3_placeBalloons_118 rfl ?_
        refine wp_iload dX3_placeBalloons_120 rfl ?_
        refine wp_aload_n dX3_placeBalloons_122 rfl ?_
        refine wp_iload_n dX3_placeBalloons_123 rfl ?_
        obtain ⟨Mid55, hm54, hk57⟩ := h
        refine wp_callV (M' := M_X3_findSpot) (As := [vr x36, vi x15, vi x16, vr x2, vi v6]) (st := []) (ci := 3) dX3_placeBalloons_124 cee_X3_findSpot np_X3_findSpot rfl ⟨Nat.le_of_ble_eq_true rfl, Nat.le_of_ble_eq_true rfl, Nat.le_of_ble_eq_true rfl, Nat.le_of_ble_eq_true rfl⟩ wd_495 wd_497 sel_X3_findSpot rfl (Or.inl (by rw [hs53, hs49]; exact hk39)) (q_small_of (Nat.le_of_ble_eq_true rfl)) hm54 (q_kTi0 (fun σ59 v61 hM60 => ?_)) q_kTi00
        refine wp_less (ac2 := 0) (as2 := 0) (Nat.le_of_ble_eq_true rfl) (Nat.le_of_ble_eq_true rfl) ?_
        have h := hk57 σ59 v61 hM60
        obtain ⟨hr62, h⟩ := h
        refine wp_if_ne (tgt := 132) dX3_placeBalloons_127 (by decide) hr62 (fun c63 => ?_) (fun c63 => ?_)
        · replace h := h.1 c63
          refine wp_aload_n dX3_placeBalloons_132 rfl ?_
          refine wp_aload dX3_placeBalloons_133 rfl ?_
          obtain ⟨hk64, h⟩ := h
          refine wp_get (v := vi (gI σ59 40 x36)) dX3_placeBalloons_135 fl_RX3_100 hk64 rfl ?_
          refine wp_aload dX3_placeBalloons_138 rfl ?_
          refine wp_get (v := vi (gI σ59 42 x36)) dX3_placeBalloons_140 fl_RX3_61 hk64 rfl ?_
          refine wp_aload dX3_placeBalloons_143 rfl ?_
          refine wp_get (v := vi (gI σ59 41 x36)) dX3_placeBalloons_145 fl_RX3_89 hk64 rfl ?_
          refine wp_aload dX3_placeBalloons_148 rfl ?_
          refine wp_get (v := vi (gI σ59 41 x36)) dX3_placeBalloons_150 fl_RX3_89 hk64 rfl ?_
          refine wp_aload dX3_placeBalloons_153 rfl ?_
          refine wp_get (v := vi (gI σ59 43 x36)) dX3_placeBalloons_155 fl_RX3_79 hk64 rfl ?_
          refine wp_iadd dX3_placeBalloons_158 ?_
          obtain ⟨hk66, h⟩ := h
          obtain ⟨Mid67, hm65, hk69⟩ := h
          refine wp_callV (M' := M_X3_take) (As := [vi (gI σ59 40 x36), vi (gI σ59 42 x36), vi (gI σ59 41 x36), vi ((gI σ59 41 x36) + (gI σ59 43 x36))]) (st := []) (ci := 3) dX3_placeBalloons_159 cee_X3_take np_X3_take rfl ⟨Nat.le_of_ble_eq_true rfl, Nat.le_of_ble_eq_true rfl, Nat.le_of_ble_eq_true rfl, Nat.le_of_ble_eq_true rfl⟩ wd_479 wd_481 sel_X3_take rfl (Or.inl hk66) (q_small_of (Nat.le_of_ble_eq_true rfl)) hm65 (q_kTv0 (fun σ71 hM72 => ?_)) q_kTv00
          refine wp_less (ac2 := 0) (as2 := 0) (Nat.le_of_ble_eq_true rfl) (Nat.le_of_ble_eq_true rfl) ?_
          have h := hk69 σ71 hM72
          refine wp_aload dX3_placeBalloons_162 rfl ?_
          obtain ⟨hk73, h⟩ := h
          refine wp_get (v := vi (gI σ71 41 x36)) dX3_placeBalloons_164 fl_RX3_89 hk73 rfl ?_
          refine wp_nmI (fun x74 hx75 => ?_)
          replace h := h x74 hx75
          refine wp_istore' (ls' := [some (vr a0), some (vr a1), some (vr x2), some (vi v6), some (vi x74), some (vi x16), some (vi x17), some (vr v33), some (vr x36), some (vi v42)]) dX3_placeBalloons_167 (Nat.le_of_ble_eq_true rfl) rfl ?_
          refine wp_aload dX3_placeBalloons_169 rfl ?_
          refine wp_get (v := vi (gI σ71 40 x36)) dX3_placeBalloons_171 fl_RX3_100 hk73 rfl ?_
          refine wp_aload dX3_placeBalloons_174 rfl ?_
          refine wp_get (v := vi (gI σ71 42 x36)) dX3_placeBalloons_176 fl_RX3_61 hk73 rfl ?_
          refine wp_aload_n dX3_placeBalloons_179 rfl ?_
          obtain ⟨hk76, h⟩ := h
          refine wp_get (v := vi (gI σ71 42 x2)) dX3_placeBalloons_180 fl_RX3_61 hk76 rfl ?_
          refine wp_iload_n dX3_placeBalloons_183 rfl ?_
          obtain ⟨v78, hm77, h⟩ := h
          refine wp_callSN (M' := M_X7_turned) (As := [vi (gI σ71 40 x36), vi (gI σ71 42 x36), vi (gI σ71 42 x2), vi v6]) (st := []) dX3_placeBalloons_184 cee_X7_turned np_X7_turned rfl ⟨Nat.le_of_ble_eq_true rfl, Nat.le_of_ble_eq_true rfl, Nat.le_of_ble_eq_true rfl, Nat.le_of_ble_eq_true rfl⟩ wd_503 wd_504 (q_small_of (Nat.le_of_ble_eq_true rfl)) hm77 (q_kPi ?_) q_kPi0
          refine wp_less (ac2 := 0) (as2 := 0) (Nat.le_of_ble_eq_true rfl) (Nat.le_of_ble_eq_true rfl) ?_
          refine wp_iconst dX3_placeBalloons_187 ?_
          refine wp_iadd dX3_placeBalloons_188 ?_
          refine wp_nmI (fun x79 hx80 => ?_)
          replace h := h x79 hx80
          refine wp_istore' (ls' := [some (vr a0), some (vr a1), some (vr x2), some (vi v6), some (vi x74), some (vi x79), some (vi x17), some (vr v33), some (vr x36), some (vi v42)]) dX3_placeBalloons_189 (Nat.le_of_ble_eq_true rfl) rfl ?_
          refine wp_nmT (x17 + 1) (fun x81 hx82 => ?_)
          replace h := h x81 hx82
          refine wp_iinc' (z' := x81) (ls' := [some (vr a0), some (vr a1), some (vr x2), some (vi v6), some (vi x74), some (vi x79), some (vi x81), some (vr v33), some (vr x36), some (vi v42)]) dX3_placeBalloons_191 (Nat.le_of_ble_eq_true rfl) rfl hx82 rfl ?_
          refine wp_goto (tgt := 27) dX3_placeBalloons_194 (by decide) ?_
          obtain ⟨n83, hlt, h⟩ := h
          exact wp_lsub (ls' := [some (vr a0), some (vr a1), some (vr x2), some (vi v6), some (vi x74), some (vi x79), some (vi x81), none, none, none]) ⟨rfl, ⟨rfl, ⟨rfl, ⟨rfl, ⟨rfl, ⟨rfl, ⟨rfl, trivial⟩⟩⟩⟩⟩⟩⟩ (ih20 n83 hlt _ _ _ _ h)
        · replace h := h.2 c63
          refine wp_iconst dX3_placeBalloons_130 ?_
          exact wp_ret_z dX3_placeBalloons_131 rfl (Or.inl rfl) h
  exact wp_lsub (ls' := [some (vr a0), some (vr a1), some (vr x2), some (vi v6), some (vi 0), some (vi 0), some (vi 0), none, none, none]) ⟨rfl, ⟨rfl, ⟨rfl, ⟨rfl, ⟨rfl, ⟨rfl, ⟨rfl, trivial⟩⟩⟩⟩⟩⟩⟩ (loop84 _ _ _ _ _ h023)

set_option maxRecDepth 100000 in
set_option maxHeartbeats 4000000 in
theorem wm_X3_growthOf {g : qG} {l : Launch} (hl : l.stackTraces = false) {a0 : Nat} {a1 : Nat} {σ : qS} {Post : qS → qRs → Prop}
    (h : gK σ a1 = 5 ∧ ((qR (gI σ 162 a1) ∧ (¬ ((gI σ 162 a1) < 0) → gK σ a0 = 4 ∧ q_isA σ 0 (gP σ 120 a0) ∧ qR (gN σ (gP σ 120 a0)) ∧ (¬ ((gN σ (gP σ 120 a0)) ≤ (gI σ 162 a1)) → q_in σ (gP σ 120 a0) (gI σ 162 a1)))) ∧ ∀ v9 : Int, v9 = (if (gI σ 162 a1) < 0 then 100 else (if (gN σ (gP σ 120 a0)) ≤ (gI σ 162 a1) then 100 else (gA σ (gP σ 120 a0) (gI σ 162 a1)))) → Post σ (.inl (some (vi v9))))) : qMet g l M_X3_growthOf [vr a0, vr a1] σ Post := by
  refine qMet_of hl (by decide +kernel) (Nat.le_of_ble_eq_true rfl) (List.forall_mem_cons.mpr ⟨trivial, List.forall_mem_cons.mpr ⟨trivial, fun _ h => nomatch h⟩⟩) ?_
  show qW g l M_X3_growthOf 0 0 0 [some (vr a0), some (vr a1)] [] σ Post
  refine wp_aload_n dX3_growthOf_0 rfl ?_
  obtain ⟨hk1, h⟩ := h
  refine wp_get (v := vi (gI σ 162 a1)) dX3_growthOf_1 fl_RX3_136 hk1 rfl ?_
  obtain ⟨h, hk12⟩ := h
  have key11 : ∀ v9 : Int, v9 = (if (gI σ 162 a1) < 0 then 100 else (if (gN σ (gP σ 120 a0)) ≤ (gI σ 162 a1) then 100 else (gA σ (gP σ 120 a0) (gI σ 162 a1)))) → qW g l M_X3_growthOf 0 0 33 [some (vr a0), some (vr a1)] [vi v9] σ Post := by
    intro v9 hv10
    have h := hk12 v9 hv10
    exact wp_ret_i dX3_growthOf_33 rfl rfl h
  obtain ⟨hr13, h⟩ := h
  refine wp_if_lt (tgt := 31) dX3_growthOf_4 (by decide) hr13 (fun c14 => ?_) (fun c14 => ?_)
  · refine wp_bipush dX3_growthOf_31 (by decide) ?_
    exact key11 _ (by rw [if_pos c14])
  · replace h := h c14
    refine wp_aload_n dX3_growthOf_7 rfl ?_
    refine wp_get (v := vi (gI σ 162 a1)) dX3_growthOf_8 fl_RX3_136 hk1 rfl ?_
    refine wp_aload_n dX3_growthOf_11 rfl ?_
    obtain ⟨hk15, h⟩ := h
    refine wp_get (v := vr (gP σ 120 a0)) dX3_growthOf_12 fl_RX3_9 hk15 rfl ?_
    obtain ⟨ha16, h⟩ := h
    refine wp_alen dX3_growthOf_15 ha16 ?_
    obtain ⟨hr17, h⟩ := h
    refine wp_icmp_ge (tgt := 31) dX3_growthOf_16 (by decide) hr13 hr17 (fun c18 => ?_) (fun c18 => ?_)
    · refine wp_bipush dX3_growthOf_31 (by decide) ?_
      exact key11 _ (by rw [if_neg c14, if_pos c18])
    · replace h := h c18
      refine wp_aload_n dX3_growthOf_19 rfl ?_
      refine wp_get (v := vr (gP σ 120 a0)) dX3_growthOf_20 fl_RX3_9 hk15 rfl ?_
      refine wp_aload_n dX3_growthOf_23 rfl ?_
      refine wp_get (v := vi (gI σ 162 a1)) dX3_growthOf_24 fl_RX3_136 hk1 rfl ?_
      have hi19 := h
      refine wp_iaload dX3_growthOf_27 ha16 hi19 ?_
      refine wp_goto (tgt := 33) dX3_growthOf_28 (by decide) ?_
      exact key11 _ (by rw [if_neg c14, if_neg c18])

set_option maxRecDepth 100000 in
set_option maxHeartbeats 4000000 in
theorem wm_X3_takeFaces {g : qG} {l : Launch} (hl : l.stackTraces = false) {a0 : Nat} {a1 : Nat} {σ : qS} {Post : qS → qRs → Prop}
    (h : gK σ a1 = 6 ∧ gK σ (gP σ 208 a1) = 2 ∧ ∀ x3 : Int, x3 = gI σ 43 (gP σ 208 a1) → ∃ Inv6 : Nat → Int → qS → Prop, (∃ n : Nat, Inv6 n 0 σ) ∧ ∀ (n7 : Nat) (x5 : Int) (σ12 : qS), Inv6 n7 x5 σ12 → (gK σ12 a0 = 4 ∧ q_isA σ12 0 (gP σ12 121 a0) ∧ qR x5 ∧ qR (gN σ12 (gP σ12 121 a0)) ∧ (((gN σ12 (gP σ12 121 a0)) ≤ x5 → ∃ Inv19 : Nat → Int → qS → Prop, (∃ n : Nat, Inv19 n 0 σ12) ∧ ∀ (n20 : Nat) (x18 : Int) (σ25 : qS), Inv19 n20 x18 σ25 → (gK σ25 a1 = 6 ∧ gK σ25 (gP σ25 205 a1) = 50 ∧ (∃ v29 : Int, qMet g l M_Jx4a65c_size_8abf5 [vr (gP σ25 205 a1)] σ25 (qPi σ25 v29) ∧ (qR x18 ∧ qR v29 ∧ ((v29 ≤ x18 → Post σ25 (.inl none)) ∧ (¬ (v29 ≤ x18) → (∃ v34 : Nat, qMet g l M_Jx4a65c_get_915e3 [vr (gP σ25 205 a1), vi x18] σ25 (qPr σ25 v34) ∧ ((v34 = 0 ∨ gK σ25 v34 = 3) ∧ gK σ25 v34 = 3 ∧ gK σ25 a0 = 4 ∧ (∃ Mid39 : qS → Prop, qMet g l M_X3_take [vr a0, vi (gI σ25 80 v34), vi (gI σ25 81 v34), vi (x3 - (gI σ25 82 v34)), vi x3] σ25 (qTv0 Mid39) ∧ ∀ (σ43 : qS), Mid39 σ43 → ∀ x45 : Int, x45 = x18 + 1 → ∃ n47 : Nat, n47 < n20 ∧ Inv19 n47 x45 σ43))))))))) ∧ (¬ ((gN σ12 (gP σ12 121 a0)) ≤ x5) → gK σ12 (gP σ12 121 a0) = 20 ∧ q_in σ12 (gP σ12 121 a0) x5 ∧ (∀ σ51 : qS, σ51 = sA σ12 (gP σ12 121 a0) x5 0 → ∀ x53 : Int, x53 = x5 + 1 → ∃ n55 : Nat, n55 < n7 ∧ Inv6 n55 x53 σ51))))) : qMet g l M_X3_takeFaces [vr a0, vr a1] σ Post := by
  refine qMet_of hl (by decide +kernel) (Nat.le_of_ble_eq_true rfl) (List.forall_mem_cons.mpr ⟨trivial, List.forall_mem_cons.mpr ⟨trivial, fun _ h => nomatch h⟩⟩) ?_
  show qW g l M_X3_takeFaces 0 0 0 [some (vr a0), some (vr a1), none, none, none] [] σ Post
  refine wp_aload_n dX3_takeFaces_0 rfl ?_
  obtain ⟨hk1, h⟩ := h
  refine wp_get (v := vr (gP σ 208 a1)) dX3_takeFaces_1 fl_RX3_57 hk1 rfl ?_
  obtain ⟨hk2, h⟩ := h
  refine wp_get (v := vi (gI σ 43 (gP σ 208 a1))) dX3_takeFaces_4 fl_RX3_79 hk2 rfl ?_
  refine wp_nmI (fun x3 hx4 => ?_)
  replace h := h x3 hx4
  refine wp_istore_n' (ls' := [some (vr a0), some (vr a1), some (vi x3), none, none]) dX3_takeFaces_7 (Nat.le_of_ble_eq_true rfl) rfl ?_
  refine wp_iconst dX3_takeFaces_8 ?_
  refine wp_istore_n' (ls' := [some (vr a0), some (vr a1), some (vi x3), some (vi 0), none]) dX3_takeFaces_9 (Nat.le_of_ble_eq_true rfl) rfl ?_
  obtain ⟨Inv6, ⟨n7_0, h011⟩, hb10⟩ := h
  have loop56 : ∀ (n7 : Nat) (x5 : Int) (σ12 : qS), Inv6 n7 x5 σ12 → qW g l M_X3_takeFaces 0 0 10 [some (vr a0), some (vr a1), some (vi x3), some (vi x5), none] [] σ12 Post := by
    intro n7
    induction n7 using Nat.strongRecOn with
    | ind n7 ih8 =>
      intro x5 σ12 hI9
      have h := hb10 n7 x5 σ12 hI9
      refine wp_iload_n dX3_takeFaces_10 rfl ?_
      refine wp_aload_n dX3_takeFaces_11 rfl ?_
      obtain ⟨hk13, h⟩ := h
      refine wp_get (v := vr (gP σ12 121 a0)) dX3_takeFaces_12 fl_RX3_15 hk13 rfl ?_
      obtain ⟨ha14, h⟩ := h
      refine wp_alen dX3_takeFaces_15 ha14 ?_
      obtain ⟨hr15, hr16, h⟩ := h
      refine wp_icmp_ge (tgt := 32) dX3_takeFaces_16 (by decide) hr15 hr16 (fun c17 => ?_) (fun c17 => ?_)
      · replace h := h.1 c17
        refine wp_iconst dX3_takeFaces_32 ?_
        refine wp_istore_n' (ls' := [some (vr a0), some (vr a1), some (vi x3), some (vi 0), none]) dX3_takeFaces_33 (Nat.le_of_ble_eq_true rfl) rfl ?_
        obtain ⟨Inv19, ⟨n20_0, h024⟩, hb23⟩ := h
        have loop48 : ∀ (n20 : Nat) (x18 : Int) (σ25 : qS), Inv19 n20 x18 σ25 → qW g l M_X3_takeFaces 0 0 34 [some (vr a0), some (vr a1), some (vi x3), some (vi x18), none] [] σ25 Post := by
          intro n20
          induction n20 using Nat.strongRecOn with
          | ind n20 ih21 =>
            intro x18 σ25 hI22
            have h := hb23 n20 x18 σ25 hI22
            refine wp_iload_n dX3_takeFaces_34 rfl ?_
            refine wp_aload_n dX3_takeFaces_35 rfl ?_
            obtain ⟨hk26, h⟩ := h
            refine wp_get (v := vr (gP σ25 205 a1)) dX3_takeFaces_36 fl_RX3_139 hk26 rfl ?_
            obtain ⟨hk28, h⟩ := h
            obtain ⟨v29, hm27, h⟩ := h
            refine wp_callV (M' := M_Jx4a65c_size_8abf5) (As := []) (st := [vi x18]) (ci := 9) dX3_takeFaces_39 cee_Jx4a65c_size_8abf5 np_Jx4a65c_size_8abf5 rfl ⟨Nat.le_of_ble_eq_true rfl, Nat.le_of_ble_eq_true rfl, Nat.le_of_ble_eq_true rfl, Nat.le_of_ble_eq_true rfl⟩ wd_451 wd_113 wd_114 rfl (Or.inr ⟨hk28, rfl⟩) (q_small_of (Nat.le_of_ble_eq_true rfl)) hm27 (q_kPi ?_) q_kPi0
            refine wp_less (ac2 := 0) (as2 := 0) (Nat.le_of_ble_eq_true rfl) (Nat.le_of_ble_eq_true rfl) ?_
            obtain ⟨hr30, hr31, h⟩ := h
            refine wp_icmp_ge (tgt := 86) dX3_takeFaces_42 (by decide) hr30 hr31 (fun c32 => ?_) (fun c32 => ?_)
            · replace h := h.1 c32
              exact wp_ret_v dX3_takeFaces_86 rfl h
            · replace h := h.2 c32
              refine wp_aload_n dX3_takeFaces_45 rfl ?_
              refine wp_get (v := vr (gP σ25 205 a1)) dX3_takeFaces_46 fl_RX3_139 hk26 rfl ?_
              refine wp_iload_n dX3_takeFaces_49 rfl ?_
              obtain ⟨v34, hm33, h⟩ := h
              refine wp_callV (M' := M_Jx4a65c_get_915e3) (As := [vi x18]) (st := []) (ci := 9) dX3_takeFaces_50 cee_Jx4a65c_get_915e3 np_Jx4a65c_get_915e3 rfl ⟨Nat.le_of_ble_eq_true rfl, Nat.le_of_ble_eq_true rfl, Nat.le_of_ble_eq_true rfl, Nat.le_of_ble_eq_true rfl⟩ wd_452 wd_302 wd_303 rfl (Or.inr ⟨hk28, rfl⟩) (q_small_of (Nat.le_of_ble_eq_true rfl)) hm33 (q_kPr ?_) q_kPr0
              refine wp_less (ac2 := 0) (as2 := 0) (Nat.le_of_ble_eq_true rfl) (Nat.le_of_ble_eq_true rfl) ?_
              obtain ⟨hc35, h⟩ := h
              refine wp_cast (ci := 2) dX3_takeFaces_53 ⟨_, rfl, wd_478⟩ hc35 ?_
              refine wp_astore' (ls' := [some (vr a0), some (vr a1), some (vi x3), some (vi x18), some (vr v34)]) dX3_takeFaces_56 (Nat.le_of_ble_eq_true rfl) rfl ?_
              refine wp_aload_n dX3_takeFaces_58 rfl ?_
              refine wp_aload dX3_takeFaces_59 rfl ?_
              obtain ⟨hk36, h⟩ := h
              refine wp_get (v := vi (gI σ25 80 v34)) dX3_takeFaces_61 fl_RX3_144 hk36 rfl ?_
              refine wp_aload dX3_takeFaces_64 rfl ?_
              refine wp_get (v := vi (gI σ25 81 v34)) dX3_takeFaces_66 fl_RX3_147 hk36 rfl ?_
              refine wp_iload_n dX3_takeFaces_69 rfl ?_
              refine wp_aload dX3_takeFaces_70 rfl ?_
              refine wp_get (v := vi (gI σ25 82 v34)) dX3_takeFaces_72 fl_RX3_148 hk36 rfl ?_
              refine wp_isub dX3_takeFaces_75 ?_
              refine wp_iload_n dX3_takeFaces_76 rfl ?_
              obtain ⟨hk38, h⟩ := h
              obtain ⟨Mid39, hm37, hk41⟩ := h
              refine wp_callV (M' := M_X3_take) (As := [vi (gI σ25 80 v34), vi (gI σ25 81 v34), vi (x3 - (gI σ25 82 v34)), vi x3]) (st := []) (ci := 3) dX3_takeFaces_77 cee_X3_take np_X3_take rfl ⟨Nat.le_of_ble_eq_true rfl, Nat.le_of_ble_eq_true rfl, Nat.le_of_ble_eq_true rfl, Nat.le_of_ble_eq_true rfl⟩ wd_479 wd_481 sel_X3_take rfl (Or.inl hk38) (q_small_of (Nat.le_of_ble_eq_true rfl)) hm37 (q_kTv0 (fun σ43 hM44 => ?_)) q_kTv00
              refine wp_less (ac2 := 0) (as2 := 0) (Nat.le_of_ble_eq_true rfl) (Nat.le_of_ble_eq_true rfl) ?_
              have h := hk41 σ43 hM44
              refine wp_nmT (x18 + 1) (fun x45 hx46 => ?_)
              replace h := h x45 hx46
              refine wp_iinc' (z' := x45) (ls' := [some (vr a0), some (vr a1), some (vi x3), some (vi x45), some (vr v34)]) dX3_takeFaces_80 (Nat.le_of_ble_eq_true rfl) rfl hx46 rfl ?_
              refine wp_goto (tgt := 34) dX3_takeFaces_83 (by decide) ?_
              obtain ⟨n47, hlt, h⟩ := h
              exact wp_lsub (ls' := [some (vr a0), some (vr a1), some (vi x3), some (vi x45), none]) ⟨rfl, ⟨rfl, ⟨rfl, ⟨rfl, trivial⟩⟩⟩⟩ (ih21 n47 hlt _ _ h)
        exact wp_lsub (ls' := [some (vr a0), some (vr a1), some (vi x3), some (vi 0), none]) ⟨rfl, ⟨rfl, ⟨rfl, ⟨rfl, trivial⟩⟩⟩⟩ (loop48 _ _ _ h024)
      · replace h := h.2 c17
        refine wp_aload_n dX3_takeFaces_19 rfl ?_
        refine wp_get (v := vr (gP σ12 121 a0)) dX3_takeFaces_20 fl_RX3_15 hk13 rfl ?_
        refine wp_iload_n dX3_takeFaces_23 rfl ?_
        refine wp_iconst dX3_takeFaces_24 ?_
        obtain ⟨hk49, hi50, h⟩ := h
        refine wp_iastore dX3_takeFaces_25 hk49 hi50 ?_
        refine wp_nmS (fun σ51 hs52 => ?_)
        replace h := h σ51 hs52
        refine wp_nmT (x5 + 1) (fun x53 hx54 => ?_)
        replace h := h x53 hx54
        refine wp_iinc' (z' := x53) (ls' := [some (vr a0), some (vr a1), some (vi x3), some (vi x53), none]) dX3_takeFaces_26 (Nat.le_of_ble_eq_true rfl) rfl hx54 rfl ?_
        refine wp_goto (tgt := 10) dX3_takeFaces_29 (by decide) ?_
        obtain ⟨n55, hlt, h⟩ := h
        exact wp_lsub (ls' := [some (vr a0), some (vr a1), some (vi x3), some (vi x53), none]) ⟨rfl, ⟨rfl, ⟨rfl, ⟨rfl, trivial⟩⟩⟩⟩ (ih8 n55 hlt _ _ h)
  exact wp_lsub (ls' := [some (vr a0), some (vr a1), some (vi x3), some (vi 0), none]) ⟨rfl, ⟨rfl, ⟨rfl, ⟨rfl, trivial⟩⟩⟩⟩ (loop56 _ _ _ h011)

set_option maxRecDepth 100000 in
set_option maxHeartbeats 4000000 in
theorem wm_X3_take {g : qG} {l : Launch} (hl : l.stackTraces = false) {a0 : Nat} {a1 : Int} {a2 : Int} {a3 : Int} {a4 : Int} {σ : qS} {Post : qS → qRs → Prop}
    (h : qR a3 ∧ ∀ x2 : Int, x2 = max a3 0 → ∃ Inv5 : Nat → Int → qS → Prop, (∃ n : Nat, Inv5 n x2 σ) ∧ ∀ (n6 : Nat) (x4 : Int) (σ11 : qS), Inv5 n6 x4 σ11 → (qR x4 ∧ qR a4 ∧ ((a4 ≤ x4 → Post σ11 (.inl none)) ∧ (¬ (a4 ≤ x4) → gK σ11 a0 = 4 ∧ q_isA σ11 0 (gP σ11 121 a0) ∧ qR (gN σ11 (gP σ11 121 a0)) ∧ (((gN σ11 (gP σ11 121 a0)) ≤ x4 → Post σ11 (.inl none)) ∧ (¬ ((gN σ11 (gP σ11 121 a0)) ≤ x4) → q_in σ11 (gP σ11 121 a0) x4 ∧ (∃ v21 : Int, qMet g l M_X3_bitsOf [vi a1, vi a2] σ11 (qPi σ11 v21) ∧ (gK σ11 (gP σ11 121 a0) = 20 ∧ (∀ σ23 : qS, σ23 = sA σ11 (gP σ11 121 a0) x4 ((Int32.ofInt (gA σ11 (gP σ11 121 a0) x4) ||| Int32.ofInt v21).toInt) → ∀ x25 : Int, x25 = x4 + 1 → ∃ n27 : Nat, n27 < n6 ∧ Inv5 n27 x25 σ23))))))))) : qMet g l M_X3_take [vr a0, vi a1, vi a2, vi a3, vi a4] σ Post := by
  refine qMet_of hl (by decide +kernel) (Nat.le_of_ble_eq_true rfl) (List.forall_mem_cons.mpr ⟨trivial, List.forall_mem_cons.mpr ⟨trivial, List.forall_mem_cons.mpr ⟨trivial, List.forall_mem_cons.mpr ⟨trivial, List.forall_mem_cons.mpr ⟨trivial, fun _ h => nomatch h⟩⟩⟩⟩⟩) ?_
  show qW g l M_X3_take 0 0 0 [some (vr a0), some (vi a1), some (vi a2), some (vi a3), some (vi a4), none] [] σ Post
  refine wp_iload_n dX3_take_0 rfl ?_
  refine wp_iconst dX3_take_1 ?_
  obtain ⟨hr1, h⟩ := h
  refine wp_mmax dX3_take_2 wd_461 hr1 (by unfold qR; omega) (q_small_of (Nat.le_of_ble_eq_true rfl)) ⟨Nat.le_of_ble_eq_true rfl, Nat.le_of_ble_eq_true rfl⟩ ?_
  refine wp_nmI (fun x2 hx3 => ?_)
  replace h := h x2 hx3
  refine wp_istore' (ls' := [some (vr a0), some (vi a1), some (vi a2), some (vi a3), some (vi a4), some (vi x2)]) dX3_take_5 (Nat.le_of_ble_eq_true rfl) rfl ?_
  obtain ⟨Inv5, ⟨n6_0, h010⟩, hb9⟩ := h
  have loop28 : ∀ (n6 : Nat) (x4 : Int) (σ11 : qS), Inv5 n6 x4 σ11 → qW g l M_X3_take 0 0 7 [some (vr a0), some (vi a1), some (vi a2), some (vi a3), some (vi a4), some (vi x4)] [] σ11 Post := by
    intro n6
    induction n6 using Nat.strongRecOn with
    | ind n6 ih7 =>
      intro x4 σ11 hI8
      have h := hb9 n6 x4 σ11 hI8
      refine wp_iload dX3_take_7 rfl ?_
      refine wp_iload dX3_take_9 rfl ?_
      obtain ⟨hr12, hr13, h⟩ := h
      refine wp_icmp_ge (tgt := 45) dX3_take_11 (by decide) hr12 hr13 (fun c14 => ?_) (fun c14 => ?_)
      · replace h := h.1 c14
        exact wp_ret_v dX3_take_45 rfl h
      · replace h := h.2 c14
        refine wp_iload dX3_take_14 rfl ?_
        refine wp_aload_n dX3_take_16 rfl ?_
        obtain ⟨hk15, h⟩ := h
        refine wp_get (v := vr (gP σ11 121 a0)) dX3_take_17 fl_RX3_15 hk15 rfl ?_
        obtain ⟨ha16, h⟩ := h
        refine wp_alen dX3_take_20 ha16 ?_
        obtain ⟨hr17, h⟩ := h
        refine wp_icmp_ge (tgt := 45) dX3_take_21 (by decide) hr12 hr17 (fun c18 => ?_) (fun c18 => ?_)
        · replace h := h.1 c18
          exact wp_ret_v dX3_take_45 rfl h
        · replace h := h.2 c18
          refine wp_aload_n dX3_take_24 rfl ?_
          refine wp_get (v := vr (gP σ11 121 a0)) dX3_take_25 fl_RX3_15 hk15 rfl ?_
          refine wp_iload dX3_take_28 rfl ?_
          refine wp_dup2 dX3_take_30 trivial trivial ?_
          obtain ⟨hi19, h⟩ := h
          refine wp_iaload dX3_take_31 ha16 hi19 ?_
          refine wp_iload_n dX3_take_32 rfl ?_
          refine wp_iload_n dX3_take_33 rfl ?_
          obtain ⟨v21, hm20, h⟩ := h
          refine wp_callS (M' := M_X3_bitsOf) (As := [vi a1, vi a2]) (st := [vi (gA σ11 (gP σ11 121 a0) x4), vi x4, vr (gP σ11 121 a0)]) dX3_take_34 cee_X3_bitsOf np_X3_bitsOf rfl ⟨Nat.le_of_ble_eq_true rfl, Nat.le_of_ble_eq_true rfl, Nat.le_of_ble_eq_true rfl, Nat.le_of_ble_eq_true rfl⟩ wd_483 wd_484 (q_small_of (Nat.le_of_ble_eq_true rfl)) hm20 (q_kPi ?_) q_kPi0
          refine wp_less (ac2 := 0) (as2 := 0) (Nat.le_of_ble_eq_true rfl) (Nat.le_of_ble_eq_true rfl) ?_
          refine wp_ior dX3_take_37 ?_
          obtain ⟨hk22, h⟩ := h
          refine wp_iastore dX3_take_38 hk22 hi19 ?_
          refine wp_nmS (fun σ23 hs24 => ?_)
          replace h := h σ23 hs24
          refine wp_nmT (x4 + 1) (fun x25 hx26 => ?_)
          replace h := h x25 hx26
          refine wp_iinc' (z' := x25) (ls' := [some (vr a0), some (vi a1), some (vi a2), some (vi a3), some (vi a4), some (vi x25)]) dX3_take_39 (Nat.le_of_ble_eq_true rfl) rfl hx26 rfl ?_
          refine wp_goto (tgt := 7) dX3_take_42 (by decide) ?_
          obtain ⟨n27, hlt, h⟩ := h
          exact wp_lsub (ls' := [some (vr a0), some (vi a1), some (vi a2), some (vi a3), some (vi a4), some (vi x25)]) ⟨rfl, ⟨rfl, ⟨rfl, ⟨rfl, ⟨rfl, ⟨rfl, trivial⟩⟩⟩⟩⟩⟩ (ih7 n27 hlt _ _ h)
  exact wp_lsub (ls' := [some (vr a0), some (vi a1), some (vi a2), some (vi a3), some (vi a4), some (vi x2)]) ⟨rfl, ⟨rfl, ⟨rfl, ⟨rfl, ⟨rfl, ⟨rfl, trivial⟩⟩⟩⟩⟩⟩ (loop28 _ _ _ h010)

set_option maxRecDepth 100000 in
set_option maxHeartbeats 4000000 in
theorem wm_X3_findSpot {g : qG} {l : Launch} (hl : l.stackTraces = false) {a0 : Nat} {a1 : Nat} {a2 : Int} {a3 : Int} {a4 : Nat} {a5 : Int} {σ : qS} {Post : qS → qRs → Prop}
    (h : ∃ Inv2 : Nat → Int → Prop, (∃ n : Nat, Inv2 n a2) ∧ ∀ (n3 : Nat) (x1 : Int), Inv2 n3 x1 → (gK σ a1 = 2 ∧ gK σ a4 = 2 ∧ qR (x1 + (gI σ 43 a1)) ∧ qR (gI σ 43 a4) ∧ (((gI σ 43 a4) < (x1 + (gI σ 43 a1)) → Post σ (.inl (some (vi 0)))) ∧ (¬ ((gI σ 43 a4) < (x1 + (gI σ 43 a1))) → gK σ a0 = 4 ∧ (∃ v15 : Int, qMet g l M_X3_takenBetween [vr a0, vi x1, vi (x1 + (gI σ 43 a1))] σ (qPi σ v15) ∧ (((qR x1 ∧ qR a2) ∧ ∀ v19 : Int, v19 = (if ¬ x1 = a2 then 0 else a3) → ∃ Inv24 : Nat → Int → Prop, (∃ n : Nat, Inv24 n v19) ∧ ∀ (n25 : Nat) (x23 : Int), Inv24 n25 x23 → (qR (x23 + (gI σ 42 a1)) ∧ qR (gI σ 42 a4) ∧ (((gI σ 42 a4) < (x23 + (gI σ 42 a1)) → ∀ x33 : Int, x33 = x1 + 1 → ∃ n35 : Nat, n35 < n3 ∧ Inv2 n35 x33) ∧ (¬ ((gI σ 42 a4) < (x23 + (gI σ 42 a1))) → (∃ v37 : Int, qMet g l M_X7_turned [vi x23, vi (gI σ 42 a1), vi (gI σ 42 a4), vi a5] σ (qPi σ v37) ∧ ((∃ v39 : Int, qMet g l M_X3_bitsOf [vi v37, vi (gI σ 42 a1)] σ (qPi σ v39) ∧ (qR ((Int32.ofInt v15 &&& Int32.ofInt v39).toInt) ∧ ((¬ ((Int32.ofInt v15 &&& Int32.ofInt v39).toInt) = 0 → ∀ x42 : Int, x42 = x23 + 1 → ∃ n44 : Nat, n44 < n25 ∧ Inv24 n44 x42) ∧ (((Int32.ofInt v15 &&& Int32.ofInt v39).toInt) = 0 → (∀ σ45 : qS, σ45 = sI σ 40 a1 v37 → (∀ σ47 : qS, σ47 = sI σ45 41 a1 x1 → Post σ47 (.inl (some (vi 1))))))))))))))))))))) : qMet g l M_X3_findSpot [vr a0, vr a1, vi a2, vi a3, vr a4, vi a5] σ Post := by
  refine qMet_of hl (by decide +kernel) (Nat.le_of_ble_eq_true rfl) (List.forall_mem_cons.mpr ⟨trivial, List.forall_mem_cons.mpr ⟨trivial, List.forall_mem_cons.mpr ⟨trivial, List.forall_mem_cons.mpr ⟨trivial, List.forall_mem_cons.mpr ⟨trivial, List.forall_mem_cons.mpr ⟨trivial, fun _ h => nomatch h⟩⟩⟩⟩⟩⟩) ?_
  show qW g l M_X3_findSpot 0 0 0 [some (vr a0), some (vr a1), some (vi a2), some (vi a3), some (vr a4), some (vi a5), none, none, none, none] [] σ Post
  refine wp_iload_n dX3_findSpot_0 rfl ?_
  refine wp_istore' (ls' := [some (vr a0), some (vr a1), some (vi a2), some (vi a3), some (vr a4), some (vi a5), some (vi a2), none, none, none]) dX3_findSpot_1 (Nat.le_of_ble_eq_true rfl) rfl ?_
  obtain ⟨Inv2, ⟨n3_0, h07⟩, hb6⟩ := h
  have loop53 : ∀ (n3 : Nat) (x1 : Int), Inv2 n3 x1 → qW g l M_X3_findSpot 0 0 3 [some (vr a0), some (vr a1), some (vi a2), some (vi a3), some (vr a4), some (vi a5), some (vi x1), none, none, none] [] σ Post := by
    intro n3
    induction n3 using Nat.strongRecOn with
    | ind n3 ih4 =>
      intro x1 hI5
      have h := hb6 n3 x1 hI5
      refine wp_iload dX3_findSpot_3 rfl ?_
      refine wp_aload_n dX3_findSpot_5 rfl ?_
      obtain ⟨hk8, h⟩ := h
      refine wp_get (v := vi (gI σ 43 a1)) dX3_findSpot_6 fl_RX3_79 hk8 rfl ?_
      refine wp_iadd dX3_findSpot_9 ?_
      refine wp_aload dX3_findSpot_10 rfl ?_
      obtain ⟨hk9, h⟩ := h
      refine wp_get (v := vi (gI σ 43 a4)) dX3_findSpot_12 fl_RX3_79 hk9 rfl ?_
      obtain ⟨hr10, hr11, h⟩ := h
      refine wp_icmp_gt (tgt := 120) dX3_findSpot_15 (by decide) hr10 hr11 (fun c12 => ?_) (fun c12 => ?_)
      · replace h := h.1 c12
        refine wp_iconst dX3_findSpot_120 ?_
        exact wp_ret_z dX3_findSpot_121 rfl (Or.inl rfl) h
      · replace h := h.2 c12
        refine wp_aload_n dX3_findSpot_18 rfl ?_
        refine wp_iload dX3_findSpot_19 rfl ?_
        refine wp_iload dX3_findSpot_21 rfl ?_
        refine wp_aload_n dX3_findSpot_23 rfl ?_
        refine wp_get (v := vi (gI σ 43 a1)) dX3_findSpot_24 fl_RX3_79 hk8 rfl ?_
        refine wp_iadd dX3_findSpot_27 ?_
        obtain ⟨hk14, h⟩ := h
        obtain ⟨v15, hm13, h⟩ := h
        refine wp_callV (M' := M_X3_takenBetween) (As := [vi x1, vi (x1 + (gI σ 43 a1))]) (st := []) (ci := 3) dX3_findSpot_28 cee_X3_takenBetween np_X3_takenBetween rfl ⟨Nat.le_of_ble_eq_true rfl, Nat.le_of_ble_eq_true rfl, Nat.le_of_ble_eq_true rfl, Nat.le_of_ble_eq_true rfl⟩ wd_499 wd_501 sel_X3_takenBetween rfl (Or.inl hk14) (q_small_of (Nat.le_of_ble_eq_true rfl)) hm13 (q_kPi ?_) q_kPi0
        refine wp_less (ac2 := 0) (as2 := 0) (Nat.le_of_ble_eq_true rfl) (Nat.le_of_ble_eq_true rfl) ?_
        refine wp_istore' (ls' := [some (vr a0), some (vr a1), some (vi a2), some (vi a3), some (vr a4), some (vi a5), some (vi x1), some (vi v15), none, none]) dX3_findSpot_31 (Nat.le_of_ble_eq_true rfl) rfl ?_
        refine wp_iload dX3_findSpot_33 rfl ?_
        refine wp_iload_n dX3_findSpot_35 rfl ?_
        obtain ⟨h, hk22⟩ := h
        have key21 : ∀ v19 : Int, v19 = (if ¬ x1 = a2 then 0 else a3) → qW g l M_X3_findSpot 0 0 44 [some (vr a0), some (vr a1), some (vi a2), some (vi a3), some (vr a4), some (vi a5), some (vi x1), some (vi v15), none, none] [vi v19] σ Post := by
          intro v19 hv20
          have h := hk22 v19 hv20
          refine wp_istore' (ls' := [some (vr a0), some (vr a1), some (vi a2), some (vi a3), some (vr a4), some (vi a5), some (vi x1), some (vi v15), some (vi v19), none]) dX3_findSpot_44 (Nat.le_of_ble_eq_true rfl) rfl ?_
          obtain ⟨Inv24, ⟨n25_0, h029⟩, hb28⟩ := h
          have loop49 : ∀ (n25 : Nat) (x23 : Int), Inv24 n25 x23 → qW g l M_X3_findSpot 0 0 46 [some (vr a0), some (vr a1), some (vi a2), some (vi a3), some (vr a4), some (vi a5), some (vi x1), some (vi v15), some (vi x23), none] [] σ Post := by
            intro n25
            induction n25 using Nat.strongRecOn with
            | ind n25 ih26 =>
              intro x23 hI27
              have h := hb28 n25 x23 hI27
              refine wp_iload dX3_findSpot_46 rfl ?_
              refine wp_aload_n dX3_findSpot_48 rfl ?_
              refine wp_get (v := vi (gI σ 42 a1)) dX3_findSpot_49 fl_RX3_61 hk8 rfl ?_
              refine wp_iadd dX3_findSpot_52 ?_
              refine wp_aload dX3_findSpot_53 rfl ?_
              refine wp_get (v := vi (gI σ 42 a4)) dX3_findSpot_55 fl_RX3_61 hk9 rfl ?_
              obtain ⟨hr30, hr31, h⟩ := h
              refine wp_icmp_gt (tgt := 114) dX3_findSpot_58 (by decide) hr30 hr31 (fun c32 => ?_) (fun c32 => ?_)
              · replace h := h.1 c32
                refine wp_nmT (x1 + 1) (fun x33 hx34 => ?_)
                replace h := h x33 hx34
                refine wp_iinc' (z' := x33) (ls' := [some (vr a0), some (vr a1), some (vi a2), some (vi a3), some (vr a4), some (vi a5), some (vi x33), some (vi v15), some (vi x23), none]) dX3_findSpot_114 (Nat.le_of_ble_eq_true rfl) rfl hx34 rfl ?_
                refine wp_goto (tgt := 3) dX3_findSpot_117 (by decide) ?_
                obtain ⟨n35, hlt, h⟩ := h
                exact wp_lsub (ls' := [some (vr a0), some (vr a1), some (vi a2), some (vi a3), some (vr a4), some (vi a5), some (vi x33), none, none, none]) ⟨rfl, ⟨rfl, ⟨rfl, ⟨rfl, ⟨rfl, ⟨rfl, ⟨rfl, trivial⟩⟩⟩⟩⟩⟩⟩ (ih4 n35 hlt _ h)
              · replace h := h.2 c32
                refine wp_iload dX3_findSpot_61 rfl ?_
                refine wp_aload_n dX3_findSpot_63 rfl ?_
                refine wp_get (v := vi (gI σ 42 a1)) dX3_findSpot_64 fl_RX3_61 hk8 rfl ?_
                refine wp_aload dX3_findSpot_67 rfl ?_
                refine wp_get (v := vi (gI σ 42 a4)) dX3_findSpot_69 fl_RX3_61 hk9 rfl ?_
                refine wp_iload dX3_findSpot_72 rfl ?_
                obtain ⟨v37, hm36, h⟩ := h
                refine wp_callSN (M' := M_X7_turned) (As := [vi x23, vi (gI σ 42 a1), vi (gI σ 42 a4), vi a5]) (st := []) dX3_findSpot_74 cee_X7_turned np_X7_turned rfl ⟨Nat.le_of_ble_eq_true rfl, Nat.le_of_ble_eq_true rfl, Nat.le_of_ble_eq_true rfl, Nat.le_of_ble_eq_true rfl⟩ wd_503 wd_504 (q_small_of (Nat.le_of_ble_eq_true rfl)) hm36 (q_kPi ?_) q_kPi0
                refine wp_less (ac2 := 0) (as2 := 0) (Nat.le_of_ble_eq_true rfl) (Nat.le_of_ble_eq_true rfl) ?_
                refine wp_istore' (ls' := [some (vr a0), some (vr a1), some (vi a2), some (vi a3), some (vr a4), some (vi a5), some (vi x1), some (vi v15), some (vi x23), some (vi v37)]) dX3_findSpot_77 (Nat.le_of_ble_eq_true rfl) rfl ?_
                refine wp_iload dX3_findSpot_79 rfl ?_
                refine wp_iload dX3_findSpot_81 rfl ?_
                refine wp_aload_n dX3_findSpot_83 rfl ?_
                refine wp_get (v := vi (gI σ 42 a1)) dX3_findSpot_84 fl_RX3_61 hk8 rfl ?_
                obtain ⟨v39, hm38, h⟩ := h
                refine wp_callS (M' := M_X3_bitsOf) (As := [vi v37, vi (gI σ 42 a1)]) (st := [vi v15]) dX3_findSpot_87 cee_X3_bitsOf np_X3_bitsOf rfl ⟨Nat.le_of_ble_eq_true rfl, Nat.le_of_ble_eq_true rfl, Nat.le_of_ble_eq_true rfl, Nat.le_of_ble_eq_true rfl⟩ wd_483 wd_484 (q_small_of (Nat.le_of_ble_eq_true rfl)) hm38 (q_kPi ?_) q_kPi0
                refine wp_less (ac2 := 0) (as2 := 0) (Nat.le_of_ble_eq_true rfl) (Nat.le_of_ble_eq_true rfl) ?_
                refine wp_iand dX3_findSpot_90 ?_
                obtain ⟨hr40, h⟩ := h
                refine wp_if_ne (tgt := 108) dX3_findSpot_91 (by decide) hr40 (fun c41 => ?_) (fun c41 => ?_)
                · replace h := h.1 c41
                  refine wp_nmT (x23 + 1) (fun x42 hx43 => ?_)
                  replace h := h x42 hx43
                  refine wp_iinc' (z' := x42) (ls' := [some (vr a0), some (vr a1), some (vi a2), some (vi a3), some (vr a4), some (vi a5), some (vi x1), some (vi v15), some (vi x42), some (vi v37)]) dX3_findSpot_108 (Nat.le_of_ble_eq_true rfl) rfl hx43 rfl ?_
                  refine wp_goto (tgt := 46) dX3_findSpot_111 (by decide) ?_
                  obtain ⟨n44, hlt, h⟩ := h
                  exact wp_lsub (ls' := [some (vr a0), some (vr a1), some (vi a2), some (vi a3), some (vr a4), some (vi a5), some (vi x1), some (vi v15), some (vi x42), none]) ⟨rfl, ⟨rfl, ⟨rfl, ⟨rfl, ⟨rfl, ⟨rfl, ⟨rfl, ⟨rfl, ⟨rfl, trivial⟩⟩⟩⟩⟩⟩⟩⟩⟩ (ih26 n44 hlt _ h)
                · replace h := h.2 c41
                  refine wp_aload_n dX3_findSpot_94 rfl ?_
                  refine wp_iload dX3_findSpot_95 rfl ?_
                  refine wp_put (v := vi v37) dX3_findSpot_97 fs_RX3_100 (fun h => absurd h (by decide)) hk8 (Or.inl rfl) ?_
                  refine wp_nmS (fun σ45 hs46 => ?_)
                  replace h := h σ45 hs46
                  refine wp_aload_n dX3_findSpot_100 rfl ?_
                  refine wp_iload dX3_findSpot_101 rfl ?_
                  refine wp_put (v := vi x1) dX3_findSpot_103 fs_RX3_89 (fun h => absurd h (by decide)) (by rw [hs46]; exact hk8) (Or.inl rfl) ?_
                  refine wp_nmS (fun σ47 hs48 => ?_)
                  replace h := h σ47 hs48
                  refine wp_iconst dX3_findSpot_106 ?_
                  exact wp_ret_z dX3_findSpot_107 rfl (Or.inr rfl) h
          exact wp_lsub (ls' := [some (vr a0), some (vr a1), some (vi a2), some (vi a3), some (vr a4), some (vi a5), some (vi x1), some (vi v15), some (vi v19), none]) ⟨rfl, ⟨rfl, ⟨rfl, ⟨rfl, ⟨rfl, ⟨rfl, ⟨rfl, ⟨rfl, ⟨rfl, trivial⟩⟩⟩⟩⟩⟩⟩⟩⟩ (loop49 _ _ h029)
        obtain ⟨hr50, hr51⟩ := h
        refine wp_icmp_ne (tgt := 43) dX3_findSpot_36 (by decide) hr50 hr51 (fun c52 => ?_) (fun c52 => ?_)
        · refine wp_iconst dX3_findSpot_43 ?_
          exact key21 _ (by rw [if_pos c52])
        · refine wp_iload_n dX3_findSpot_39 rfl ?_
          refine wp_goto (tgt := 44) dX3_findSpot_40 (by decide) ?_
          exact key21 _ (by rw [if_neg (fun z => z c52)])
  exact wp_lsub (ls' := [some (vr a0), some (vr a1), some (vi a2), some (vi a3), some (vr a4), some (vi a5), some (vi a2), none, none, none]) ⟨rfl, ⟨rfl, ⟨rfl, ⟨rfl, ⟨rfl, ⟨rfl, ⟨rfl, trivial⟩⟩⟩⟩⟩⟩⟩ (loop53 _ _ h07)

set_option maxRecDepth 100000 in
set_option maxHeartbeats 4000000 in
theorem wm_X3_takenBetween {g : qG} {l : Launch} (hl : l.stackTraces = false) {a0 : Nat} {a1 : Int} {a2 : Int} {σ : qS} {Post : qS → qRs → Prop}
    (h : qR a1 ∧ ∀ x2 : Int, x2 = max a1 0 → ∃ Inv6 : Nat → Int → Int → Prop, (∃ n : Nat, Inv6 n 0 x2) ∧ ∀ (n7 : Nat) (x4 : Int) (x5 : Int), Inv6 n7 x4 x5 → (qR x5 ∧ qR a2 ∧ ((a2 ≤ x5 → Post σ (.inl (some (vi x4)))) ∧ (¬ (a2 ≤ x5) → gK σ a0 = 4 ∧ q_isA σ 0 (gP σ 121 a0) ∧ qR (gN σ (gP σ 121 a0)) ∧ (((gN σ (gP σ 121 a0)) ≤ x5 → Post σ (.inl (some (vi x4)))) ∧ (¬ ((gN σ (gP σ 121 a0)) ≤ x5) → q_in σ (gP σ 121 a0) x5 ∧ ∀ x20 : Int, x20 = (Int32.ofInt x4 ||| Int32.ofInt (gA σ (gP σ 121 a0) x5)).toInt → ∀ x22 : Int, x22 = x5 + 1 → ∃ n24 : Nat, n24 < n7 ∧ Inv6 n24 x20 x22)))))) : qMet g l M_X3_takenBetween [vr a0, vi a1, vi a2] σ Post := by
  refine qMet_of hl (by decide +kernel) (Nat.le_of_ble_eq_true rfl) (List.forall_mem_cons.mpr ⟨trivial, List.forall_mem_cons.mpr ⟨trivial, List.forall_mem_cons.mpr ⟨trivial, fun _ h => nomatch h⟩⟩⟩) ?_
  show qW g l M_X3_takenBetween 0 0 0 [some (vr a0), some (vi a1), some (vi a2), none, none] [] σ Post
  refine wp_iconst dX3_takenBetween_0 ?_
  refine wp_istore_n' (ls' := [some (vr a0), some (vi a1), some (vi a2), some (vi 0), none]) dX3_takenBetween_1 (Nat.le_of_ble_eq_true rfl) rfl ?_
  refine wp_iload_n dX3_takenBetween_2 rfl ?_
  refine wp_iconst dX3_takenBetween_3 ?_
  obtain ⟨hr1, h⟩ := h
  refine wp_mmax dX3_takenBetween_4 wd_461 hr1 (by unfold qR; omega) (q_small_of (Nat.le_of_ble_eq_true rfl)) ⟨Nat.le_of_ble_eq_true rfl, Nat.le_of_ble_eq_true rfl⟩ ?_
  refine wp_nmI (fun x2 hx3 => ?_)
  replace h := h x2 hx3
  refine wp_istore' (ls' := [some (vr a0), some (vi a1), some (vi a2), some (vi 0), some (vi x2)]) dX3_takenBetween_7 (Nat.le_of_ble_eq_true rfl) rfl ?_
  obtain ⟨Inv6, ⟨n7_0, h011⟩, hb10⟩ := h
  have loop25 : ∀ (n7 : Nat) (x4 : Int) (x5 : Int), Inv6 n7 x4 x5 → qW g l M_X3_takenBetween 0 0 9 [some (vr a0), some (vi a1), some (vi a2), some (vi x4), some (vi x5)] [] σ Post := by
    intro n7
    induction n7 using Nat.strongRecOn with
    | ind n7 ih8 =>
      intro x4 x5 hI9
      have h := hb10 n7 x4 x5 hI9
      refine wp_iload dX3_takenBetween_9 rfl ?_
      refine wp_iload_n dX3_takenBetween_11 rfl ?_
      obtain ⟨hr12, hr13, h⟩ := h
      refine wp_icmp_ge (tgt := 41) dX3_takenBetween_12 (by decide) hr12 hr13 (fun c14 => ?_) (fun c14 => ?_)
      · replace h := h.1 c14
        refine wp_iload_n dX3_takenBetween_41 rfl ?_
        exact wp_ret_i dX3_takenBetween_42 rfl rfl h
      · replace h := h.2 c14
        refine wp_iload dX3_takenBetween_15 rfl ?_
        refine wp_aload_n dX3_takenBetween_17 rfl ?_
        obtain ⟨hk15, h⟩ := h
        refine wp_get (v := vr (gP σ 121 a0)) dX3_takenBetween_18 fl_RX3_15 hk15 rfl ?_
        obtain ⟨ha16, h⟩ := h
        refine wp_alen dX3_takenBetween_21 ha16 ?_
        obtain ⟨hr17, h⟩ := h
        refine wp_icmp_ge (tgt := 41) dX3_takenBetween_22 (by decide) hr12 hr17 (fun c18 => ?_) (fun c18 => ?_)
        · replace h := h.1 c18
          refine wp_iload_n dX3_takenBetween_41 rfl ?_
          exact wp_ret_i dX3_takenBetween_42 rfl rfl h
        · replace h := h.2 c18
          refine wp_iload_n dX3_takenBetween_25 rfl ?_
          refine wp_aload_n dX3_takenBetween_26 rfl ?_
          refine wp_get (v := vr (gP σ 121 a0)) dX3_takenBetween_27 fl_RX3_15 hk15 rfl ?_
          refine wp_iload dX3_takenBetween_30 rfl ?_
          obtain ⟨hi19, h⟩ := h
          refine wp_iaload dX3_takenBetween_32 ha16 hi19 ?_
          refine wp_ior dX3_takenBetween_33 ?_
          refine wp_nmI (fun x20 hx21 => ?_)
          replace h := h x20 hx21
          refine wp_istore_n' (ls' := [some (vr a0), some (vi a1), some (vi a2), some (vi x20), some (vi x5)]) dX3_takenBetween_34 (Nat.le_of_ble_eq_true rfl) rfl ?_
          refine wp_nmT (x5 + 1) (fun x22 hx23 => ?_)
          replace h := h x22 hx23
          refine wp_iinc' (z' := x22) (ls' := [some (vr a0), some (vi a1), some (vi a2), some (vi x20), some (vi x22)]) dX3_takenBetween_35 (Nat.le_of_ble_eq_true rfl) rfl hx23 rfl ?_
          refine wp_goto (tgt := 9) dX3_takenBetween_38 (by decide) ?_
          obtain ⟨n24, hlt, h⟩ := h
          exact wp_lsub (ls' := [some (vr a0), some (vi a1), some (vi a2), some (vi x20), some (vi x22)]) ⟨rfl, ⟨rfl, ⟨rfl, ⟨rfl, ⟨rfl, trivial⟩⟩⟩⟩⟩ (ih8 n24 hlt _ _ h)
  exact wp_lsub (ls' := [some (vr a0), some (vi a1), some (vi a2), some (vi 0), some (vi x2)]) ⟨rfl, ⟨rfl, ⟨rfl, ⟨rfl, ⟨rfl, trivial⟩⟩⟩⟩⟩ (loop25 _ _ _ h011)

set_option maxRecDepth 100000 in
set_option maxHeartbeats 4000000 in
theorem wm_X3_bitsOf {g : qG} {l : Launch} (hl : l.stackTraces = false) {a0 : Int} {a1 : Int} {σ : qS} {Post : qS → qRs → Prop}
    (h : Post σ (.inl (some (vi ((Int32.ofInt (((Int32.ofInt 1 <<< (Int32.ofInt a1 &&& 31)).toInt) - 1) <<< (Int32.ofInt a0 &&& 31)).toInt))))) : qMet g l M_X3_bitsOf [vi a0, vi a1] σ Post := by
  refine qMet_of hl (by decide +kernel) (Nat.le_of_ble_eq_true rfl) (List.forall_mem_cons.mpr ⟨trivial, List.forall_mem_cons.mpr ⟨trivial, fun _ h => nomatch h⟩⟩) ?_
  show qW g l M_X3_bitsOf 0 0 0 [some (vi a0), some (vi a1)] [] σ Post
  refine wp_iconst dX3_bitsOf_0 ?_
  refine wp_iload_n dX3_bitsOf_1 rfl ?_
  refine wp_ishl dX3_bitsOf_2 ?_
  refine wp_iconst dX3_bitsOf_3 ?_
  refine wp_isub dX3_bitsOf_4 ?_
  refine wp_iload_n dX3_bitsOf_5 rfl ?_
  refine wp_ishl dX3_bitsOf_6 ?_
  exact wp_ret_i dX3_bitsOf_7 rfl rfl h
