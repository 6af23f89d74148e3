/-! printed: walks of the law's own methods -/
set_option maxRecDepth 100000 in
set_option maxHeartbeats 4000000 in
theorem wm_L_low {g : qG} {l : Launch} (hl : l.stackTraces = false) {a0 : Int} {a1 : Int} {σ : qS} {Post : qS → qRs → Prop}
    (h : (0 ≤ ((Int32.ofInt a0 &&& Int32.ofInt 2147483647).toInt) ∧ ((Int32.ofInt a0 &&& Int32.ofInt 2147483647).toInt) < 2147483648) ∧ (0 < a1 ∧ a1 < 2147483648) ∧ Post σ (.inl (some (vi (((Int32.ofInt a0 &&& Int32.ofInt 2147483647).toInt) % a1))))) : qMet g l M_L_low [vi a0, vi a1] σ Post := by
  refine qMet_of hl (by decide +kernel) (Nat.le_of_ble_eq_true rfl) (List.forall_mem_cons.mpr ⟨trivial, List.forall_mem_cons.mpr ⟨trivial, fun _ h => nomatch h⟩⟩) ?_
  show qW g l M_L_low 0 0 0 [some (vi a0), some (vi a1)] [] σ Post
  refine wp_iload_n dL_low_0 rfl ?_
  refine wp_ldcI (z := 2147483647) dL_low_1 wd_789 (by decide +kernel) ?_
  refine wp_iand dL_low_3 ?_
  refine wp_iload_n dL_low_4 rfl ?_
  obtain ⟨hd1, hd2, h⟩ := h
  refine wp_irem dL_low_5 hd1 hd2 ?_
  exact wp_ret_i dL_low_6 rfl rfl h

set_option maxRecDepth 100000 in
set_option maxHeartbeats 4000000 in
theorem wm_L_isPage {g : qG} {l : Launch} (hl : l.stackTraces = false) {a0 : Nat} {a1 : Int} {σ : qS} {Post : qS → qRs → Prop}
    (h : gK σ a0 = 8 ∧ (∃ (Mid3 : qS → Int → Prop) (MidX4 : qS → Nat → Prop), qMet g l M_X7_panels [vr a0, vi a1] σ (qTi Mid3 MidX4) ∧ (∀ (σ7 : qS) (v9 : Int), Mid3 σ7 v9 → ∃ Inv13 : Nat → Int → Int → Int → qS → Prop, (∃ n : Nat, n ≤ 10 ∧ Inv13 n 1 0 0 σ7) ∧ ∀ (n14 : Nat) (x10 : Int) (x11 : Int) (x12 : Int) (σ19 : qS), Inv13 n14 x10 x11 x12 σ19 → (gK σ19 a0 = 8 ∧ (∃ (Mid22 : qS → Int → Prop) (MidX23 : qS → Nat → Prop), qMet g l M_X7_rows [vr a0, vi a1] σ19 (qTi Mid22 MidX23) ∧ (∀ (σ26 : qS) (v28 : Int), Mid22 σ26 v28 → qR x12 ∧ qR v28 ∧ ((v28 ≤ x12 → ((qR x10 ∧ (¬ (x10 = 0) → qR x11)) ∧ ∀ v36 : Int, v36 = (if x10 = 0 then 0 else (if 50 < x11 then 0 else 1)) → Post σ26 (.inl (some (vi v36))))) ∧ (¬ (v28 ≤ x12) → ∃ Inv50 : Nat → Int → Int → Int → Int → qS → Prop, (∃ n : Nat, n ≤ 10 ∧ Inv50 n x10 0 0 0 σ26) ∧ ∀ (n51 : Nat) (x46 : Int) (x47 : Int) (x48 : Int) (x49 : Int) (σ56 : qS), Inv50 n51 x46 x47 x48 x49 σ56 → (qR x49 ∧ qR v9 ∧ ((v9 ≤ x49 → ((qR x46 ∧ (¬ (x46 = 0) → qR x47 ∧ (x47 = 24 → qR x48))) ∧ ∀ v67 : Int, v67 = (if x46 = 0 then 0 else (if ¬ x47 = 24 then 0 else (if x48 < 3 then 0 else (if 16 < x48 then 0 else 1)))) → ∀ x73 : Int, x73 = x11 + x48 → ∀ x75 : Int, x75 = x12 + 1 → ∃ n77 : Nat, n77 < n14 ∧ Inv13 n77 v67 x73 x75 σ56)) ∧ (¬ (v9 ≤ x49) → gK σ56 a0 = 8 ∧ (∃ (Mid87 : qS → Int → Prop) (MidX88 : qS → Nat → Prop), qMet g l M_X7_panelAt [vr a0, vi a1, vi x49] σ56 (qTi Mid87 MidX88) ∧ (∀ (σ91 : qS) (v93 : Int), Mid87 σ91 v93 → gK σ91 a0 = 8 ∧ (∃ (Mid96 : qS → Int → Prop) (MidX97 : qS → Nat → Prop), qMet g l M_X7_lies [vr a0, vi v93, vi 0] σ91 (qTi Mid96 MidX97) ∧ (∀ (σ100 : qS) (v102 : Int), Mid96 σ100 v102 → qR v102 ∧ ((¬ v102 = x12 → ∀ x105 : Int, x105 = x49 + 1 → ∃ n107 : Nat, n107 < n51 ∧ Inv50 n107 x46 x47 x48 x105 σ100) ∧ (v102 = x12 → gK σ100 a0 = 8 ∧ (∃ (Mid110 : qS → Int → Prop) (MidX111 : qS → Nat → Prop), qMet g l M_X7_lies [vr a0, vi v93, vi 3] σ100 (qTi Mid110 MidX111) ∧ (∀ (σ114 : qS) (v116 : Int), Mid110 σ114 v116 → ∀ x117 : Int, x117 = x47 + v116 → gK σ114 a0 = 8 ∧ (∃ (Mid121 : qS → Int → Prop) (MidX122 : qS → Nat → Prop), qMet g l M_X7_lies [vr a0, vi v93, vi 4] σ114 (qTi Mid121 MidX122) ∧ (∀ (σ125 : qS) (v127 : Int), Mid121 σ125 v127 → qR x46 ∧ ((x46 = 0 → ∀ x130 : Int, x130 = x49 + 1 → ∃ n132 : Nat, n132 < n51 ∧ Inv50 n132 0 x117 v127 x130 σ125) ∧ (¬ (x46 = 0) → gK σ125 a0 = 8 ∧ (∃ (Mid135 : qS → Int → Prop) (MidX136 : qS → Nat → Prop), qMet g l M_X7_lies [vr a0, vi v93, vi 2] σ125 (qTi Mid135 MidX136) ∧ (∀ (σ139 : qS) (v141 : Int), Mid135 σ139 v141 → qR v141 ∧ qR x11 ∧ ((¬ v141 = x11 → ∀ x145 : Int, x145 = x49 + 1 → ∃ n147 : Nat, n147 < n51 ∧ Inv50 n147 0 x117 v127 x145 σ139) ∧ (v141 = x11 → gK σ139 a0 = 8 ∧ (∃ (Mid150 : qS → Int → Prop) (MidX151 : qS → Nat → Prop), qMet g l M_X7_lies [vr a0, vi v93, vi 1] σ139 (qTi Mid150 MidX151) ∧ (∀ (σ154 : qS) (v156 : Int), Mid150 σ154 v156 → qR v156 ∧ ((v156 < 0 → ∀ x159 : Int, x159 = x49 + 1 → ∃ n161 : Nat, n161 < n51 ∧ Inv50 n161 0 x117 v127 x159 σ154) ∧ (¬ (v156 < 0) → gK σ154 a0 = 8 ∧ (∃ (Mid164 : qS → Int → Prop) (MidX165 : qS → Nat → Prop), qMet g l M_X7_lies [vr a0, vi v93, vi 1] σ154 (qTi Mid164 MidX165) ∧ (∀ (σ168 : qS) (v170 : Int), Mid164 σ168 v170 → gK σ168 a0 = 8 ∧ (∃ (Mid173 : qS → Int → Prop) (MidX174 : qS → Nat → Prop), qMet g l M_X7_lies [vr a0, vi v93, vi 3] σ168 (qTi Mid173 MidX174) ∧ (∀ (σ177 : qS) (v179 : Int), Mid173 σ177 v179 → ((qR (v170 + v179)) ∧ ∀ v182 : Int, v182 = (if 24 < (v170 + v179) then 0 else 1) → ∀ x188 : Int, x188 = x49 + 1 → ∃ n190 : Nat, n190 < n51 ∧ Inv50 n190 v182 x117 v127 x188 σ177)) ∧ (∀ (σ9 : qS) (n9 : Nat), ¬ MidX174 σ9 n9))) ∧ (∀ (σ9 : qS) (n9 : Nat), ¬ MidX165 σ9 n9))))) ∧ (∀ (σ9 : qS) (n9 : Nat), ¬ MidX151 σ9 n9))))) ∧ (∀ (σ9 : qS) (n9 : Nat), ¬ MidX136 σ9 n9))))) ∧ (∀ (σ9 : qS) (n9 : Nat), ¬ MidX122 σ9 n9))) ∧ (∀ (σ9 : qS) (n9 : Nat), ¬ MidX111 σ9 n9))))) ∧ (∀ (σ9 : qS) (n9 : Nat), ¬ MidX97 σ9 n9))) ∧ (∀ (σ9 : qS) (n9 : Nat), ¬ MidX88 σ9 n9)))))))) ∧ (∀ (σ9 : qS) (n9 : Nat), ¬ MidX23 σ9 n9)))) ∧ (∀ (σ9 : qS) (n9 : Nat), ¬ MidX4 σ9 n9))) : qMet g l M_L_isPage [vr a0, vi a1] σ Post := by
  refine qMet_of hl (by decide +kernel) (Nat.le_of_ble_eq_true rfl) (List.forall_mem_cons.mpr ⟨trivial, List.forall_mem_cons.mpr ⟨trivial, fun _ h => nomatch h⟩⟩) ?_
  show qW g l M_L_isPage 2000 11900 0 [some (vr a0), some (vi a1), none, none, none, none, none, none, none, none] [] σ Post
  refine wp_iconst dL_isPage_0 ?_
  refine wp_istore_n' (ls' := [some (vr a0), some (vi a1), some (vi 1), none, none, none, none, none, none, none]) dL_isPage_1 (Nat.le_of_ble_eq_true rfl) rfl ?_
  refine wp_aload_n dL_isPage_2 rfl ?_
  refine wp_iload_n dL_isPage_3 rfl ?_
  obtain ⟨hk2, h⟩ := h
  obtain ⟨Mid3, MidX4, hm1, hk5, hx6⟩ := h
  refine wp_callV (M' := M_X7_panels) (As := [vi a1]) (st := []) (ci := 7) dL_isPage_4 cee_X7_panels np_X7_panels rfl ⟨Nat.le_of_ble_eq_true rfl, Nat.le_of_ble_eq_true rfl, by show 1 ≤ 2000; omega, by show 6 ≤ 11900; omega⟩ wd_724 wd_725 wd_726 rfl (Or.inl hk2) (q_small_of (Nat.le_of_ble_eq_true rfl)) hm1 (q_kTi (fun σ7 v9 hM8 => ?_)) (fun σ9 n9 hq => absurd (q_xi hq) (hx6 σ9 n9))
  refine wp_less (ac2 := 1999) (as2 := 11894) (by show 1999 ≤ 2000 - 1; omega) (by show 11894 ≤ 11900 - 6; omega) ?_
  have h := hk5 σ7 v9 hM8
  refine wp_istore_n' (ls' := [some (vr a0), some (vi a1), some (vi 1), some (vi v9), none, none, none, none, none, none]) dL_isPage_7 (Nat.le_of_ble_eq_true rfl) rfl ?_
  refine wp_iconst dL_isPage_8 ?_
  refine wp_istore' (ls' := [some (vr a0), some (vi a1), some (vi 1), some (vi v9), some (vi 0), none, none, none, none, none]) dL_isPage_9 (Nat.le_of_ble_eq_true rfl) rfl ?_
  refine wp_iconst dL_isPage_11 ?_
  refine wp_istore' (ls' := [some (vr a0), some (vi a1), some (vi 1), some (vi v9), some (vi 0), some (vi 0), none, none, none, none]) dL_isPage_12 (Nat.le_of_ble_eq_true rfl) rfl ?_
  obtain ⟨Inv13, ⟨n14_0, h018n, h018⟩, hb17⟩ := h
  have loop194 : ∀ (n14 : Nat) (x10 : Int) (x11 : Int) (x12 : Int) (σ19 : qS), Inv13 n14 x10 x11 x12 σ19 → qW g l M_L_isPage (180 * n14 + 199) (1070 * n14 + 1194) 14 [some (vr a0), some (vi a1), some (vi x10), some (vi v9), some (vi x11), some (vi x12), none, none, none, none] [] σ19 Post := by
    intro n14
    induction n14 using Nat.strongRecOn with
    | ind n14 ih15 =>
      intro x10 x11 x12 σ19 hI16
      have h := hb17 n14 x10 x11 x12 σ19 hI16
      refine wp_iload dL_isPage_14 rfl ?_
      refine wp_aload_n dL_isPage_16 rfl ?_
      refine wp_iload_n dL_isPage_17 rfl ?_
      obtain ⟨hk21, h⟩ := h
      obtain ⟨Mid22, MidX23, hm20, hk24, hx25⟩ := h
      refine wp_callV (M' := M_X7_rows) (As := [vi a1]) (st := [vi x12]) (ci := 7) dL_isPage_18 cee_X7_rows np_X7_rows rfl ⟨Nat.le_of_ble_eq_true rfl, Nat.le_of_ble_eq_true rfl, by show 1 ≤ (180 * n14 + 199); omega, by show 6 ≤ (1070 * n14 + 1194); omega⟩ wd_793 wd_794 wd_795 rfl (Or.inl hk21) (q_small_of (Nat.le_of_ble_eq_true rfl)) hm20 (q_kTi (fun σ26 v28 hM27 => ?_)) (fun σ9 n9 hq => absurd (q_xi hq) (hx25 σ9 n9))
      refine wp_less (ac2 := (180 * n14 + 198)) (as2 := (1070 * n14 + 1188)) (by show (180 * n14 + 198) ≤ (180 * n14 + 199) - 1; omega) (by show (1070 * n14 + 1188) ≤ (1070 * n14 + 1194) - 6; omega) ?_
      have h := hk24 σ26 v28 hM27
      obtain ⟨hr29, hr30, h⟩ := h
      refine wp_icmp_ge (tgt := 182) dL_isPage_21 (by decide) hr29 hr30 (fun c31 => ?_) (fun c31 => ?_)
      · replace h := h.1 c31
        refine wp_iload_n dL_isPage_182 rfl ?_
        obtain ⟨h, hk39⟩ := h
        have key38 : ∀ v36 : Int, v36 = (if x10 = 0 then 0 else (if 50 < x11 then 0 else 1)) → qW g l M_L_isPage (180 * n14 + 198) (1070 * n14 + 1188) 198 [some (vr a0), some (vi a1), some (vi x10), some (vi v9), some (vi x11), some (vi x12), none, none, none, none] [vi v36] σ26 Post := by
          intro v36 hv37
          have h := hk39 v36 hv37
          have hr40 : qR v36 := by (rw [hv37]; unfold qR; repeat' split) <;> omega
          have hz41 : v36 = 0 ∨ v36 = 1 := by (rw [hv37]; repeat' split) <;> first | exact Or.inl rfl | exact Or.inr rfl
          exact wp_ret_z dL_isPage_198 rfl hz41 h
        obtain ⟨hr42, h⟩ := h
        refine wp_if_eq (tgt := 197) dL_isPage_183 (by decide) hr42 (fun c43 => ?_) (fun c43 => ?_)
        · refine wp_iconst dL_isPage_197 ?_
          exact key38 _ (by rw [if_pos c43])
        · replace h := h c43
          refine wp_iload dL_isPage_186 rfl ?_
          refine wp_bipush dL_isPage_188 (by decide) ?_
          have hr44 := h
          refine wp_icmp_gt (tgt := 197) dL_isPage_190 (by decide) hr44 (by unfold qR; omega) (fun c45 => ?_) (fun c45 => ?_)
          · refine wp_iconst dL_isPage_197 ?_
            exact key38 _ (by rw [if_neg c43, if_pos c45])
          · refine wp_iconst dL_isPage_193 ?_
            refine wp_goto (tgt := 198) dL_isPage_194 (by decide) ?_
            exact key38 _ (by rw [if_neg c43, if_neg c45])
      · replace h := h.2 c31
        refine wp_iconst dL_isPage_24 ?_
        refine wp_istore' (ls' := [some (vr a0), some (vi a1), some (vi x10), some (vi v9), some (vi x11), some (vi x12), some (vi 0), none, none, none]) dL_isPage_25 (Nat.le_of_ble_eq_true rfl) rfl ?_
        refine wp_iconst dL_isPage_27 ?_
        refine wp_istore' (ls' := [some (vr a0), some (vi a1), some (vi x10), some (vi v9), some (vi x11), some (vi x12), some (vi 0), some (vi 0), none, none]) dL_isPage_28 (Nat.le_of_ble_eq_true rfl) rfl ?_
        refine wp_iconst dL_isPage_30 ?_
        refine wp_istore' (ls' := [some (vr a0), some (vi a1), some (vi x10), some (vi v9), some (vi x11), some (vi x12), some (vi 0), some (vi 0), some (vi 0), none]) dL_isPage_31 (Nat.le_of_ble_eq_true rfl) rfl ?_
        obtain ⟨Inv50, ⟨n51_0, h055n, h055⟩, hb54⟩ := h
        have loop193 : ∀ (n51 : Nat) (x46 : Int) (x47 : Int) (x48 : Int) (x49 : Int) (σ56 : qS), Inv50 n51 x46 x47 x48 x49 σ56 → qW g l M_L_isPage (180 * n14 + 16 * n51 + 38) (1070 * n14 + 96 * n51 + 228) 33 [some (vr a0), some (vi a1), some (vi x46), some (vi v9), some (vi x11), some (vi x12), some (vi x47), some (vi x48), some (vi x49), none] [] σ56 Post := by
          intro n51
          induction n51 using Nat.strongRecOn with
          | ind n51 ih52 =>
            intro x46 x47 x48 x49 σ56 hI53
            have h := hb54 n51 x46 x47 x48 x49 σ56 hI53
            refine wp_iload dL_isPage_33 rfl ?_
            refine wp_iload_n dL_isPage_35 rfl ?_
            obtain ⟨hr57, hr58, h⟩ := h
            refine wp_icmp_ge (tgt := 139) dL_isPage_36 (by decide) hr57 hr58 (fun c59 => ?_) (fun c59 => ?_)
            · replace h := h.1 c59
              refine wp_iload_n dL_isPage_139 rfl ?_
              obtain ⟨h, hk70⟩ := h
              have key69 : ∀ v67 : Int, v67 = (if x46 = 0 then 0 else (if ¬ x47 = 24 then 0 else (if x48 < 3 then 0 else (if 16 < x48 then 0 else 1)))) → qW g l M_L_isPage (180 * n14 + 16 * n51 + 38) (1070 * n14 + 96 * n51 + 228) 168 [some (vr a0), some (vi a1), some (vi x46), some (vi v9), some (vi x11), some (vi x12), some (vi x47), some (vi x48), some (vi x49), none] [vi v67] σ56 Post := by
                intro v67 hv68
                have h := hk70 v67 hv68
                have hr71 : qR v67 := by (rw [hv68]; unfold qR; repeat' split) <;> omega
                have hz72 : v67 = 0 ∨ v67 = 1 := by (rw [hv68]; repeat' split) <;> first | exact Or.inl rfl | exact Or.inr rfl
                refine wp_istore_n' (ls' := [some (vr a0), some (vi a1), some (vi v67), some (vi v9), some (vi x11), some (vi x12), some (vi x47), some (vi x48), some (vi x49), none]) dL_isPage_168 (Nat.le_of_ble_eq_true rfl) rfl ?_
                refine wp_iload dL_isPage_169 rfl ?_
                refine wp_iload dL_isPage_171 rfl ?_
                refine wp_iadd dL_isPage_173 ?_
                refine wp_nmI (fun x73 hx74 => ?_)
                replace h := h x73 hx74
                refine wp_istore' (ls' := [some (vr a0), some (vi a1), some (vi v67), some (vi v9), some (vi x73), some (vi x12), some (vi x47), some (vi x48), some (vi x49), none]) dL_isPage_174 (Nat.le_of_ble_eq_true rfl) rfl ?_
                refine wp_nmT (x12 + 1) (fun x75 hx76 => ?_)
                replace h := h x75 hx76
                refine wp_iinc' (z' := x75) (ls' := [some (vr a0), some (vi a1), some (vi v67), some (vi v9), some (vi x73), some (vi x75), some (vi x47), some (vi x48), some (vi x49), none]) dL_isPage_176 (Nat.le_of_ble_eq_true rfl) rfl hx76 rfl ?_
                refine wp_goto (tgt := 14) dL_isPage_179 (by decide) ?_
                obtain ⟨n77, hlt, h⟩ := h
                exact wp_less (ac2 := (180 * n77 + 199)) (as2 := (1070 * n77 + 1194)) (by omega) (by omega) (wp_lsub (ls' := [some (vr a0), some (vi a1), some (vi v67), some (vi v9), some (vi x73), some (vi x75), none, none, none, none]) ⟨rfl, ⟨rfl, ⟨rfl, ⟨rfl, ⟨rfl, ⟨rfl, trivial⟩⟩⟩⟩⟩⟩ (ih15 n77 hlt _ _ _ _ h))
              obtain ⟨hr78, h⟩ := h
              refine wp_if_eq (tgt := 167) dL_isPage_140 (by decide) hr78 (fun c79 => ?_) (fun c79 => ?_)
              · refine wp_iconst dL_isPage_167 ?_
                exact key69 _ (by rw [if_pos c79])
              · replace h := h c79
                refine wp_iload dL_isPage_143 rfl ?_
                refine wp_bipush dL_isPage_145 (by decide) ?_
                obtain ⟨hr80, h⟩ := h
                refine wp_icmp_ne (tgt := 167) dL_isPage_147 (by decide) hr80 (by unfold qR; omega) (fun c81 => ?_) (fun c81 => ?_)
                · refine wp_iconst dL_isPage_167 ?_
                  exact key69 _ (by rw [if_neg c79, if_pos c81])
                · replace h := h c81
                  refine wp_iload dL_isPage_150 rfl ?_
                  refine wp_iconst dL_isPage_152 ?_
                  have hr82 := h
                  refine wp_icmp_lt (tgt := 167) dL_isPage_153 (by decide) hr82 (by unfold qR; omega) (fun c83 => ?_) (fun c83 => ?_)
                  · refine wp_iconst dL_isPage_167 ?_
                    exact key69 _ (by rw [if_neg c79, if_neg (fun z => z c81), if_pos c83])
                  · refine wp_iload dL_isPage_156 rfl ?_
                    refine wp_bipush dL_isPage_158 (by decide) ?_
                    refine wp_icmp_gt (tgt := 167) dL_isPage_160 (by decide) hr82 (by unfold qR; omega) (fun c84 => ?_) (fun c84 => ?_)
                    · refine wp_iconst dL_isPage_167 ?_
                      exact key69 _ (by rw [if_neg c79, if_neg (fun z => z c81), if_neg c83, if_pos c84])
                    · refine wp_iconst dL_isPage_163 ?_
                      refine wp_goto (tgt := 168) dL_isPage_164 (by decide) ?_
                      exact key69 _ (by rw [if_neg c79, if_neg (fun z => z c81), if_neg c83, if_neg c84])
            · replace h := h.2 c59
              refine wp_aload_n dL_isPage_39 rfl ?_
              refine wp_iload_n dL_isPage_40 rfl ?_
              refine wp_iload dL_isPage_41 rfl ?_
              obtain ⟨hk86, h⟩ := h
              obtain ⟨Mid87, MidX88, hm85, hk89, hx90⟩ := h
              refine wp_callV (M' := M_X7_panelAt) (As := [vi a1, vi x49]) (st := []) (ci := 7) dL_isPage_43 cee_X7_panelAt np_X7_panelAt rfl ⟨Nat.le_of_ble_eq_true rfl, Nat.le_of_ble_eq_true rfl, by show 2 ≤ (180 * n14 + 16 * n51 + 38); omega, by show 12 ≤ (1070 * n14 + 96 * n51 + 228); omega⟩ wd_797 wd_798 wd_799 rfl (Or.inl hk86) (q_small_of (Nat.le_of_ble_eq_true rfl)) hm85 (q_kTi (fun σ91 v93 hM92 => ?_)) (fun σ9 n9 hq => absurd (q_xi hq) (hx90 σ9 n9))
              refine wp_less (ac2 := (180 * n14 + 16 * n51 + 36)) (as2 := (1070 * n14 + 96 * n51 + 216)) (by show (180 * n14 + 16 * n51 + 36) ≤ (180 * n14 + 16 * n51 + 38) - 2; omega) (by show (1070 * n14 + 96 * n51 + 216) ≤ (1070 * n14 + 96 * n51 + 228) - 12; omega) ?_
              have h := hk89 σ91 v93 hM92
              refine wp_istore' (ls' := [some (vr a0), some (vi a1), some (vi x46), some (vi v9), some (vi x11), some (vi x12), some (vi x47), some (vi x48), some (vi x49), some (vi v93)]) dL_isPage_46 (Nat.le_of_ble_eq_true rfl) rfl ?_
              refine wp_aload_n dL_isPage_48 rfl ?_
              refine wp_iload dL_isPage_49 rfl ?_
              refine wp_iconst dL_isPage_51 ?_
              obtain ⟨hk95, h⟩ := h
              obtain ⟨Mid96, MidX97, hm94, hk98, hx99⟩ := h
              refine wp_callV (M' := M_X7_lies) (As := [vi v93, vi 0]) (st := []) (ci := 7) dL_isPage_52 cee_X7_lies np_X7_lies rfl ⟨Nat.le_of_ble_eq_true rfl, Nat.le_of_ble_eq_true rfl, by show 2 ≤ (180 * n14 + 16 * n51 + 36); omega, by show 12 ≤ (1070 * n14 + 96 * n51 + 216); omega⟩ wd_728 wd_729 wd_730 rfl (Or.inl hk95) (q_small_of (Nat.le_of_ble_eq_true rfl)) hm94 (q_kTi (fun σ100 v102 hM101 => ?_)) (fun σ9 n9 hq => absurd (q_xi hq) (hx99 σ9 n9))
              refine wp_less (ac2 := (180 * n14 + 16 * n51 + 34)) (as2 := (1070 * n14 + 96 * n51 + 204)) (by show (180 * n14 + 16 * n51 + 34) ≤ (180 * n14 + 16 * n51 + 36) - 2; omega) (by show (1070 * n14 + 96 * n51 + 204) ≤ (1070 * n14 + 96 * n51 + 216) - 12; omega) ?_
              have h := hk98 σ100 v102 hM101
              refine wp_iload dL_isPage_55 rfl ?_
              obtain ⟨hr103, h⟩ := h
              refine wp_icmp_ne (tgt := 133) dL_isPage_57 (by decide) hr103 hr29 (fun c104 => ?_) (fun c104 => ?_)
              · replace h := h.1 c104
                refine wp_nmT (x49 + 1) (fun x105 hx106 => ?_)
                replace h := h x105 hx106
                refine wp_iinc' (z' := x105) (ls' := [some (vr a0), some (vi a1), some (vi x46), some (vi v9), some (vi x11), some (vi x12), some (vi x47), some (vi x48), some (vi x105), some (vi v93)]) dL_isPage_133 (Nat.le_of_ble_eq_true rfl) rfl hx106 rfl ?_
                refine wp_goto (tgt := 33) dL_isPage_136 (by decide) ?_
                obtain ⟨n107, hlt, h⟩ := h
                exact wp_less (ac2 := (180 * n14 + 16 * n107 + 38)) (as2 := (1070 * n14 + 96 * n107 + 228)) (by omega) (by omega) (wp_lsub (ls' := [some (vr a0), some (vi a1), some (vi x46), some (vi v9), some (vi x11), some (vi x12), some (vi x47), some (vi x48), some (vi x105), none]) ⟨rfl, ⟨rfl, ⟨rfl, ⟨rfl, ⟨rfl, ⟨rfl, ⟨rfl, ⟨rfl, ⟨rfl, trivial⟩⟩⟩⟩⟩⟩⟩⟩⟩ (ih52 n107 hlt _ _ _ _ _ h))
              · replace h := h.2 c104
                refine wp_iload dL_isPage_60 rfl ?_
                refine wp_aload_n dL_isPage_62 rfl ?_
                refine wp_iload dL_isPage_63 rfl ?_
                refine wp_iconst dL_isPage_65 ?_
                obtain ⟨hk109, h⟩ := h
                obtain ⟨Mid110, MidX111, hm108, hk112, hx113⟩ := h
                refine wp_callV (M' := M_X7_lies) (As := [vi v93, vi 3]) (st := [vi x47]) (ci := 7) dL_isPage_66 cee_X7_lies np_X7_lies rfl ⟨Nat.le_of_ble_eq_true rfl, Nat.le_of_ble_eq_true rfl, by show 2 ≤ (180 * n14 + 16 * n51 + 34); omega, by show 12 ≤ (1070 * n14 + 96 * n51 + 204); omega⟩ wd_728 wd_729 wd_730 rfl (Or.inl hk109) (q_small_of (Nat.le_of_ble_eq_true rfl)) hm108 (q_kTi (fun σ114 v116 hM115 => ?_)) (fun σ9 n9 hq => absurd (q_xi hq) (hx113 σ9 n9))
                refine wp_less (ac2 := (180 * n14 + 16 * n51 + 32)) (as2 := (1070 * n14 + 96 * n51 + 192)) (by show (180 * n14 + 16 * n51 + 32) ≤ (180 * n14 + 16 * n51 + 34) - 2; omega) (by show (1070 * n14 + 96 * n51 + 192) ≤ (1070 * n14 + 96 * n51 + 204) - 12; omega) ?_
                have h := hk112 σ114 v116 hM115
                refine wp_iadd dL_isPage_69 ?_
                refine wp_nmI (fun x117 hx118 => ?_)
                replace h := h x117 hx118
                refine wp_istore' (ls' := [some (vr a0), some (vi a1), some (vi x46), some (vi v9), some (vi x11), some (vi x12), some (vi x117), some (vi x48), some (vi x49), some (vi v93)]) dL_isPage_70 (Nat.le_of_ble_eq_true rfl) rfl ?_
                refine wp_aload_n dL_isPage_72 rfl ?_
                refine wp_iload dL_isPage_73 rfl ?_
                refine wp_iconst dL_isPage_75 ?_
                obtain ⟨hk120, h⟩ := h
                obtain ⟨Mid121, MidX122, hm119, hk123, hx124⟩ := h
                refine wp_callV (M' := M_X7_lies) (As := [vi v93, vi 4]) (st := []) (ci := 7) dL_isPage_76 cee_X7_lies np_X7_lies rfl ⟨Nat.le_of_ble_eq_true rfl, Nat.le_of_ble_eq_true rfl, by show 2 ≤ (180 * n14 + 16 * n51 + 32); omega, by show 12 ≤ (1070 * n14 + 96 * n51 + 192); omega⟩ wd_728 wd_729 wd_730 rfl (Or.inl hk120) (q_small_of (Nat.le_of_ble_eq_true rfl)) hm119 (q_kTi (fun σ125 v127 hM126 => ?_)) (fun σ9 n9 hq => absurd (q_xi hq) (hx124 σ9 n9))
                refine wp_less (ac2 := (180 * n14 + 16 * n51 + 30)) (as2 := (1070 * n14 + 96 * n51 + 180)) (by show (180 * n14 + 16 * n51 + 30) ≤ (180 * n14 + 16 * n51 + 32) - 2; omega) (by show (1070 * n14 + 96 * n51 + 180) ≤ (1070 * n14 + 96 * n51 + 192) - 12; omega) ?_
                have h := hk123 σ125 v127 hM126
                refine wp_istore' (ls' := [some (vr a0), some (vi a1), some (vi x46), some (vi v9), some (vi x11), some (vi x12), some (vi x117), some (vi v127), some (vi x49), some (vi v93)]) dL_isPage_79 (Nat.le_of_ble_eq_true rfl) rfl ?_
                refine wp_iload_n dL_isPage_81 rfl ?_
                obtain ⟨hr128, h⟩ := h
                refine wp_if_eq (tgt := 131) dL_isPage_82 (by decide) hr128 (fun c129 => ?_) (fun c129 => ?_)
                · replace h := h.1 c129
                  refine wp_iconst dL_isPage_131 ?_
                  refine wp_istore_n' (ls' := [some (vr a0), some (vi a1), some (vi 0), some (vi v9), some (vi x11), some (vi x12), some (vi x117), some (vi v127), some (vi x49), some (vi v93)]) dL_isPage_132 (Nat.le_of_ble_eq_true rfl) rfl ?_
                  refine wp_nmT (x49 + 1) (fun x130 hx131 => ?_)
                  replace h := h x130 hx131
                  refine wp_iinc' (z' := x130) (ls' := [some (vr a0), some (vi a1), some (vi 0), some (vi v9), some (vi x11), some (vi x12), some (vi x117), some (vi v127), some (vi x130), some (vi v93)]) dL_isPage_133 (Nat.le_of_ble_eq_true rfl) rfl hx131 rfl ?_
                  refine wp_goto (tgt := 33) dL_isPage_136 (by decide) ?_
                  obtain ⟨n132, hlt, h⟩ := h
                  exact wp_less (ac2 := (180 * n14 + 16 * n132 + 38)) (as2 := (1070 * n14 + 96 * n132 + 228)) (by omega) (by omega) (wp_lsub (ls' := [some (vr a0), some (vi a1), some (vi 0), some (vi v9), some (vi x11), some (vi x12), some (vi x117), some (vi v127), some (vi x130), none]) ⟨rfl, ⟨rfl, ⟨rfl, ⟨rfl, ⟨rfl, ⟨rfl, ⟨rfl, ⟨rfl, ⟨rfl, trivial⟩⟩⟩⟩⟩⟩⟩⟩⟩ (ih52 n132 hlt _ _ _ _ _ h))
                · replace h := h.2 c129
                  refine wp_aload_n dL_isPage_85 rfl ?_
                  refine wp_iload dL_isPage_86 rfl ?_
                  refine wp_iconst dL_isPage_88 ?_
                  obtain ⟨hk134, h⟩ := h
                  obtain ⟨Mid135, MidX136, hm133, hk137, hx138⟩ := h
                  refine wp_callV (M' := M_X7_lies) (As := [vi v93, vi 2]) (st := []) (ci := 7) dL_isPage_89 cee_X7_lies np_X7_lies rfl ⟨Nat.le_of_ble_eq_true rfl, Nat.le_of_ble_eq_true rfl, by show 2 ≤ (180 * n14 + 16 * n51 + 30); omega, by show 12 ≤ (1070 * n14 + 96 * n51 + 180); omega⟩ wd_728 wd_729 wd_730 rfl (Or.inl hk134) (q_small_of (Nat.le_of_ble_eq_true rfl)) hm133 (q_kTi (fun σ139 v141 hM140 => ?_)) (fun σ9 n9 hq => absurd (q_xi hq) (hx138 σ9 n9))
                  refine wp_less (ac2 := (180 * n14 + 16 * n51 + 28)) (as2 := (1070 * n14 + 96 * n51 + 168)) (by show (180 * n14 + 16 * n51 + 28) ≤ (180 * n14 + 16 * n51 + 30) - 2; omega) (by show (1070 * n14 + 96 * n51 + 168) ≤ (1070 * n14 + 96 * n51 + 180) - 12; omega) ?_
                  have h := hk137 σ139 v141 hM140
                  refine wp_iload dL_isPage_92 rfl ?_
                  obtain ⟨hr142, hr143, h⟩ := h
                  refine wp_icmp_ne (tgt := 131) dL_isPage_94 (by decide) hr142 hr143 (fun c144 => ?_) (fun c144 => ?_)
                  · replace h := h.1 c144
                    refine wp_iconst dL_isPage_131 ?_
                    refine wp_istore_n' (ls' := [some (vr a0), some (vi a1), some (vi 0), some (vi v9), some (vi x11), some (vi x12), some (vi x117), some (vi v127), some (vi x49), some (vi v93)]) dL_isPage_132 (Nat.le_of_ble_eq_true rfl) rfl ?_
                    refine wp_nmT (x49 + 1) (fun x145 hx146 => ?_)
                    replace h := h x145 hx146
                    refine wp_iinc' (z' := x145) (ls' := [some (vr a0), some (vi a1), some (vi 0), some (vi v9), some (vi x11), some (vi x12), some (vi x117), some (vi v127), some (vi x145), some (vi v93)]) dL_isPage_133 (Nat.le_of_ble_eq_true rfl) rfl hx146 rfl ?_
                    refine wp_goto (tgt := 33) dL_isPage_136 (by decide) ?_
                    obtain ⟨n147, hlt, h⟩ := h
                    exact wp_less (ac2 := (180 * n14 + 16 * n147 + 38)) (as2 := (1070 * n14 + 96 * n147 + 228)) (by omega) (by omega) (wp_lsub (ls' := [some (vr a0), some (vi a1), some (vi 0), some (vi v9), some (vi x11), some (vi x12), some (vi x117), some (vi v127), some (vi x145), none]) ⟨rfl, ⟨rfl, ⟨rfl, ⟨rfl, ⟨rfl, ⟨rfl, ⟨rfl, ⟨rfl, ⟨rfl, trivial⟩⟩⟩⟩⟩⟩⟩⟩⟩ (ih52 n147 hlt _ _ _ _ _ h))
                  · replace h := h.2 c144
                    refine wp_aload_n dL_isPage_97 rfl ?_
                    refine wp_iload dL_isPage_98 rfl ?_
                    refine wp_iconst dL_isPage_100 ?_
                    obtain ⟨hk149, h⟩ := h
                    obtain ⟨Mid150, MidX151, hm148, hk152, hx153⟩ := h
                    refine wp_callV (M' := M_X7_lies) (As := [vi v93, vi 1]) (st := []) (ci := 7) dL_isPage_101 cee_X7_lies np_X7_lies rfl ⟨Nat.le_of_ble_eq_true rfl, Nat.le_of_ble_eq_true rfl, by show 2 ≤ (180 * n14 + 16 * n51 + 28); omega, by show 12 ≤ (1070 * n14 + 96 * n51 + 168); omega⟩ wd_728 wd_729 wd_730 rfl (Or.inl hk149) (q_small_of (Nat.le_of_ble_eq_true rfl)) hm148 (q_kTi (fun σ154 v156 hM155 => ?_)) (fun σ9 n9 hq => absurd (q_xi hq) (hx153 σ9 n9))
                    refine wp_less (ac2 := (180 * n14 + 16 * n51 + 26)) (as2 := (1070 * n14 + 96 * n51 + 156)) (by show (180 * n14 + 16 * n51 + 26) ≤ (180 * n14 + 16 * n51 + 28) - 2; omega) (by show (1070 * n14 + 96 * n51 + 156) ≤ (1070 * n14 + 96 * n51 + 168) - 12; omega) ?_
                    have h := hk152 σ154 v156 hM155
                    obtain ⟨hr157, h⟩ := h
                    refine wp_if_lt (tgt := 131) dL_isPage_104 (by decide) hr157 (fun c158 => ?_) (fun c158 => ?_)
                    · replace h := h.1 c158
                      refine wp_iconst dL_isPage_131 ?_
                      refine wp_istore_n' (ls' := [some (vr a0), some (vi a1), some (vi 0), some (vi v9), some (vi x11), some (vi x12), some (vi x117), some (vi v127), some (vi x49), some (vi v93)]) dL_isPage_132 (Nat.le_of_ble_eq_true rfl) rfl ?_
                      refine wp_nmT (x49 + 1) (fun x159 hx160 => ?_)
                      replace h := h x159 hx160
                      refine wp_iinc' (z' := x159) (ls' := [some (vr a0), some (vi a1), some (vi 0), some (vi v9), some (vi x11), some (vi x12), some (vi x117), some (vi v127), some (vi x159), some (vi v93)]) dL_isPage_133 (Nat.le_of_ble_eq_true rfl) rfl hx160 rfl ?_
                      refine wp_goto (tgt := 33) dL_isPage_136 (by decide) ?_
                      obtain ⟨n161, hlt, h⟩ := h
                      exact wp_less (ac2 := (180 * n14 + 16 * n161 + 38)) (as2 := (1070 * n14 + 96 * n161 + 228)) (by omega) (by omega) (wp_lsub (ls' := [some (vr a0), some (vi a1), some (vi 0), some (vi v9), some (vi x11), some (vi x12), some (vi x117), some (vi v127), some (vi x159), none]) ⟨rfl, ⟨rfl, ⟨rfl, ⟨rfl, ⟨rfl, ⟨rfl, ⟨rfl, ⟨rfl, ⟨rfl, trivial⟩⟩⟩⟩⟩⟩⟩⟩⟩ (ih52 n161 hlt _ _ _ _ _ h))
                    · replace h := h.2 c158
                      refine wp_aload_n dL_isPage_107 rfl ?_
                      refine wp_iload dL_isPage_108 rfl ?_
                      refine wp_iconst dL_isPage_110 ?_
                      obtain ⟨hk163, h⟩ := h
                      obtain ⟨Mid164, MidX165, hm162, hk166, hx167⟩ := h
                      refine wp_callV (M' := M_X7_lies) (As := [vi v93, vi 1]) (st := []) (ci := 7) dL_isPage_111 cee_X7_lies np_X7_lies rfl ⟨Nat.le_of_ble_eq_true rfl, Nat.le_of_ble_eq_true rfl, by show 2 ≤ (180 * n14 + 16 * n51 + 26); omega, by show 12 ≤ (1070 * n14 + 96 * n51 + 156); omega⟩ wd_728 wd_729 wd_730 rfl (Or.inl hk163) (q_small_of (Nat.le_of_ble_eq_true rfl)) hm162 (q_kTi (fun σ168 v170 hM169 => ?_)) (fun σ9 n9 hq => absurd (q_xi hq) (hx167 σ9 n9))
                      refine wp_less (ac2 := (180 * n14 + 16 * n51 + 24)) (as2 := (1070 * n14 + 96 * n51 + 144)) (by show (180 * n14 + 16 * n51 + 24) ≤ (180 * n14 + 16 * n51 + 26) - 2; omega) (by show (1070 * n14 + 96 * n51 + 144) ≤ (1070 * n14 + 96 * n51 + 156) - 12; omega) ?_
                      have h := hk166 σ168 v170 hM169
                      refine wp_aload_n dL_isPage_114 rfl ?_
                      refine wp_iload dL_isPage_115 rfl ?_
                      refine wp_iconst dL_isPage_117 ?_
                      obtain ⟨hk172, h⟩ := h
                      obtain ⟨Mid173, MidX174, hm171, hk175, hx176⟩ := h
                      refine wp_callV (M' := M_X7_lies) (As := [vi v93, vi 3]) (st := [vi v170]) (ci := 7) dL_isPage_118 cee_X7_lies np_X7_lies rfl ⟨Nat.le_of_ble_eq_true rfl, Nat.le_of_ble_eq_true rfl, by show 2 ≤ (180 * n14 + 16 * n51 + 24); omega, by show 12 ≤ (1070 * n14 + 96 * n51 + 144); omega⟩ wd_728 wd_729 wd_730 rfl (Or.inl hk172) (q_small_of (Nat.le_of_ble_eq_true rfl)) hm171 (q_kTi (fun σ177 v179 hM178 => ?_)) (fun σ9 n9 hq => absurd (q_xi hq) (hx176 σ9 n9))
                      refine wp_less (ac2 := (180 * n14 + 16 * n51 + 22)) (as2 := (1070 * n14 + 96 * n51 + 132)) (by show (180 * n14 + 16 * n51 + 22) ≤ (180 * n14 + 16 * n51 + 24) - 2; omega) (by show (1070 * n14 + 96 * n51 + 132) ≤ (1070 * n14 + 96 * n51 + 144) - 12; omega) ?_
                      have h := hk175 σ177 v179 hM178
                      refine wp_iadd dL_isPage_121 ?_
                      refine wp_bipush dL_isPage_122 (by decide) ?_
                      obtain ⟨h, hk185⟩ := h
                      have key184 : ∀ v182 : Int, v182 = (if 24 < (v170 + v179) then 0 else 1) → qW g l M_L_isPage (180 * n14 + 16 * n51 + 22) (1070 * n14 + 96 * n51 + 132) 132 [some (vr a0), some (vi a1), some (vi x46), some (vi v9), some (vi x11), some (vi x12), some (vi x117), some (vi v127), some (vi x49), some (vi v93)] [vi v182] σ177 Post := by
                        intro v182 hv183
                        have h := hk185 v182 hv183
                        have hr186 : qR v182 := by (rw [hv183]; unfold qR; repeat' split) <;> omega
                        have hz187 : v182 = 0 ∨ v182 = 1 := by (rw [hv183]; repeat' split) <;> first | exact Or.inl rfl | exact Or.inr rfl
                        refine wp_istore_n' (ls' := [some (vr a0), some (vi a1), some (vi v182), some (vi v9), some (vi x11), some (vi x12), some (vi x117), some (vi v127), some (vi x49), some (vi v93)]) dL_isPage_132 (Nat.le_of_ble_eq_true rfl) rfl ?_
                        refine wp_nmT (x49 + 1) (fun x188 hx189 => ?_)
                        replace h := h x188 hx189
                        refine wp_iinc' (z' := x188) (ls' := [some (vr a0), some (vi a1), some (vi v182), some (vi v9), some (vi x11), some (vi x12), some (vi x117), some (vi v127), some (vi x188), some (vi v93)]) dL_isPage_133 (Nat.le_of_ble_eq_true rfl) rfl hx189 rfl ?_
                        refine wp_goto (tgt := 33) dL_isPage_136 (by decide) ?_
                        obtain ⟨n190, hlt, h⟩ := h
                        exact wp_less (ac2 := (180 * n14 + 16 * n190 + 38)) (as2 := (1070 * n14 + 96 * n190 + 228)) (by omega) (by omega) (wp_lsub (ls' := [some (vr a0), some (vi a1), some (vi v182), some (vi v9), some (vi x11), some (vi x12), some (vi x117), some (vi v127), some (vi x188), none]) ⟨rfl, ⟨rfl, ⟨rfl, ⟨rfl, ⟨rfl, ⟨rfl, ⟨rfl, ⟨rfl, ⟨rfl, trivial⟩⟩⟩⟩⟩⟩⟩⟩⟩ (ih52 n190 hlt _ _ _ _ _ h))
                      have hr191 := h
                      refine wp_icmp_gt (tgt := 131) dL_isPage_124 (by decide) hr191 (by unfold qR; omega) (fun c192 => ?_) (fun c192 => ?_)
                      · refine wp_iconst dL_isPage_131 ?_
                        exact key184 _ (by rw [if_pos c192])
                      · refine wp_iconst dL_isPage_127 ?_
                        refine wp_goto (tgt := 132) dL_isPage_128 (by decide) ?_
                        exact key184 _ (by rw [if_neg c192])
        exact wp_less (ac2 := (180 * n14 + 16 * n51_0 + 38)) (as2 := (1070 * n14 + 96 * n51_0 + 228)) (by omega) (by omega) (wp_lsub (ls' := [some (vr a0), some (vi a1), some (vi x10), some (vi v9), some (vi x11), some (vi x12), some (vi 0), some (vi 0), some (vi 0), none]) ⟨rfl, ⟨rfl, ⟨rfl, ⟨rfl, ⟨rfl, ⟨rfl, ⟨rfl, ⟨rfl, ⟨rfl, trivial⟩⟩⟩⟩⟩⟩⟩⟩⟩ (loop193 _ _ _ _ _ _ h055))
  exact wp_less (ac2 := (180 * n14_0 + 199)) (as2 := (1070 * n14_0 + 1194)) (by omega) (by omega) (wp_lsub (ls' := [some (vr a0), some (vi a1), some (vi 1), some (vi v9), some (vi 0), some (vi 0), none, none, none, none]) ⟨rfl, ⟨rfl, ⟨rfl, ⟨rfl, ⟨rfl, ⟨rfl, trivial⟩⟩⟩⟩⟩⟩ (loop194 _ _ _ _ _ h018))

set_option maxRecDepth 100000 in
set_option maxHeartbeats 4000000 in
theorem wm_L_isBalloon {g : qG} {l : Launch} (hl : l.stackTraces = false) {a0 : Nat} {a1 : Int} {a2 : Int} {σ : qS} {Post : qS → qRs → Prop}
    (h : gK σ a0 = 8 ∧ (∃ (Mid3 : qS → Int → Prop) (MidX4 : qS → Nat → Prop), qMet g l M_X7_floats [vr a0, vi a1, vi 1] σ (qTi Mid3 MidX4) ∧ (∀ (σ7 : qS) (v9 : Int), Mid3 σ7 v9 → gK σ7 a0 = 8 ∧ (∃ (Mid12 : qS → Int → Prop) (MidX13 : qS → Nat → Prop), qMet g l M_X7_floats [vr a0, vi a1, vi 2] σ7 (qTi Mid12 MidX13) ∧ (∀ (σ16 : qS) (v18 : Int), Mid12 σ16 v18 → gK σ16 a0 = 8 ∧ (∃ (Mid21 : qS → Int → Prop) (MidX22 : qS → Nat → Prop), qMet g l M_X7_floats [vr a0, vi a1, vi 3] σ16 (qTi Mid21 MidX22) ∧ (∀ (σ25 : qS) (v27 : Int), Mid21 σ25 v27 → ∀ x28 : Int, x28 = (v9 + v27) - 1 → gK σ25 a0 = 8 ∧ (∃ (Mid32 : qS → Int → Prop) (MidX33 : qS → Nat → Prop), qMet g l M_X7_floats [vr a0, vi a1, vi 4] σ25 (qTi Mid32 MidX33) ∧ (∀ (σ36 : qS) (v38 : Int), Mid32 σ36 v38 → ∀ x39 : Int, x39 = (v18 + v38) - 1 → gK σ36 a0 = 8 ∧ (∃ (Mid43 : qS → Int → Prop) (MidX44 : qS → Nat → Prop), qMet g l M_X7_floats [vr a0, vi a1, vi 0] σ36 (qTi Mid43 MidX44) ∧ (∀ (σ47 : qS) (v49 : Int), Mid43 σ47 v49 → qR v49 ∧ qR a2 ∧ ((¬ v49 = a2 → gK σ47 a0 = 8 ∧ (∃ (Mid55 : qS → Int → Prop) (MidX56 : qS → Nat → Prop), qMet g l M_X7_placeOf [vr a0, vi a1] σ47 (qTi Mid55 MidX56) ∧ (∀ (σ59 : qS) (v61 : Int), Mid55 σ59 v61 → Post σ59 (.inl (some (vi 0)))) ∧ (∀ (σ9 : qS) (n9 : Nat), ¬ MidX56 σ9 n9))) ∧ (v49 = a2 → qR v9 ∧ ((v9 < 0 → gK σ47 a0 = 8 ∧ (∃ (Mid66 : qS → Int → Prop) (MidX67 : qS → Nat → Prop), qMet g l M_X7_placeOf [vr a0, vi a1] σ47 (qTi Mid66 MidX67) ∧ (∀ (σ70 : qS) (v72 : Int), Mid66 σ70 v72 → Post σ70 (.inl (some (vi 0)))) ∧ (∀ (σ9 : qS) (n9 : Nat), ¬ MidX67 σ9 n9))) ∧ (¬ (v9 < 0) → qR v18 ∧ ((v18 < 0 → gK σ47 a0 = 8 ∧ (∃ (Mid77 : qS → Int → Prop) (MidX78 : qS → Nat → Prop), qMet g l M_X7_placeOf [vr a0, vi a1] σ47 (qTi Mid77 MidX78) ∧ (∀ (σ81 : qS) (v83 : Int), Mid77 σ81 v83 → Post σ81 (.inl (some (vi 0)))) ∧ (∀ (σ9 : qS) (n9 : Nat), ¬ MidX78 σ9 n9))) ∧ (¬ (v18 < 0) → gK σ47 a0 = 8 ∧ (∃ (Mid86 : qS → Int → Prop) (MidX87 : qS → Nat → Prop), qMet g l M_X7_lies [vr a0, vi a2, vi 3] σ47 (qTi Mid86 MidX87) ∧ (∀ (σ90 : qS) (v92 : Int), Mid86 σ90 v92 → qR x28 ∧ qR v92 ∧ ((v92 ≤ x28 → gK σ90 a0 = 8 ∧ (∃ (Mid98 : qS → Int → Prop) (MidX99 : qS → Nat → Prop), qMet g l M_X7_placeOf [vr a0, vi a1] σ90 (qTi Mid98 MidX99) ∧ (∀ (σ102 : qS) (v104 : Int), Mid98 σ102 v104 → Post σ102 (.inl (some (vi 0)))) ∧ (∀ (σ9 : qS) (n9 : Nat), ¬ MidX99 σ9 n9))) ∧ (¬ (v92 ≤ x28) → gK σ90 a0 = 8 ∧ (∃ (Mid107 : qS → Int → Prop) (MidX108 : qS → Nat → Prop), qMet g l M_X7_lies [vr a0, vi a2, vi 4] σ90 (qTi Mid107 MidX108) ∧ (∀ (σ111 : qS) (v113 : Int), Mid107 σ111 v113 → ((qR x39 ∧ qR v113) ∧ ∀ v117 : Int, v117 = (if v113 ≤ x39 then 0 else 1) → ((v117 = 0 → gK σ111 a0 = 8 ∧ (∃ (Mid126 : qS → Int → Prop) (MidX127 : qS → Nat → Prop), qMet g l M_X7_placeOf [vr a0, vi a1] σ111 (qTi Mid126 MidX127) ∧ (∀ (σ130 : qS) (v132 : Int), Mid126 σ130 v132 → Post σ130 (.inl (some (vi 0)))) ∧ (∀ (σ9 : qS) (n9 : Nat), ¬ MidX127 σ9 n9))) ∧ (¬ (v117 = 0) → gK σ111 a0 = 8 ∧ (∃ (Mid135 : qS → Int → Prop) (MidX136 : qS → Nat → Prop), qMet g l M_X7_cell [vr a0, vi a2, vi v9, vi v18] σ111 (qTi Mid135 MidX136) ∧ (∀ (σ139 : qS) (v141 : Int), Mid135 σ139 v141 → qR v141 ∧ qR a1 ∧ ((¬ v141 = a1 → gK σ139 a0 = 8 ∧ (∃ (Mid147 : qS → Int → Prop) (MidX148 : qS → Nat → Prop), qMet g l M_X7_placeOf [vr a0, vi a1] σ139 (qTi Mid147 MidX148) ∧ (∀ (σ151 : qS) (v153 : Int), Mid147 σ151 v153 → Post σ151 (.inl (some (vi 0)))) ∧ (∀ (σ9 : qS) (n9 : Nat), ¬ MidX148 σ9 n9))) ∧ (v141 = a1 → gK σ139 a0 = 8 ∧ (∃ (Mid156 : qS → Int → Prop) (MidX157 : qS → Nat → Prop), qMet g l M_X7_cell [vr a0, vi a2, vi x28, vi x39] σ139 (qTi Mid156 MidX157) ∧ (∀ (σ160 : qS) (v162 : Int), Mid156 σ160 v162 → qR v162 ∧ ((¬ v162 = a1 → gK σ160 a0 = 8 ∧ (∃ (Mid167 : qS → Int → Prop) (MidX168 : qS → Nat → Prop), qMet g l M_X7_placeOf [vr a0, vi a1] σ160 (qTi Mid167 MidX168) ∧ (∀ (σ171 : qS) (v173 : Int), Mid167 σ171 v173 → Post σ171 (.inl (some (vi 0)))) ∧ (∀ (σ9 : qS) (n9 : Nat), ¬ MidX168 σ9 n9))) ∧ (v162 = a1 → gK σ160 a0 = 8 ∧ (∃ (Mid176 : qS → Int → Prop) (MidX177 : qS → Nat → Prop), qMet g l M_X7_cell [vr a0, vi a2, vi v9, vi x39] σ160 (qTi Mid176 MidX177) ∧ (∀ (σ180 : qS) (v182 : Int), Mid176 σ180 v182 → ((qR v182) ∧ ∀ v185 : Int, v185 = (if ¬ v182 = a1 then 0 else 1) → gK σ180 a0 = 8 ∧ (∃ (Mid193 : qS → Int → Prop) (MidX194 : qS → Nat → Prop), qMet g l M_X7_placeOf [vr a0, vi a1] σ180 (qTi Mid193 MidX194) ∧ (∀ (σ197 : qS) (v199 : Int), Mid193 σ197 v199 → ((v185 = 0 → Post σ197 (.inl (some (vi 0)))) ∧ (¬ (v185 = 0) → gK σ197 a0 = 8 ∧ (∃ (Mid203 : qS → Int → Prop) (MidX204 : qS → Nat → Prop), qMet g l M_X7_placeByPairs [vr a0, vi a1] σ197 (qTi Mid203 MidX204) ∧ (∀ (σ207 : qS) (v209 : Int), Mid203 σ207 v209 → qR v209 ∧ qR v199 ∧ ((¬ v209 = v199 → Post σ207 (.inl (some (vi 0)))) ∧ (v209 = v199 → gK σ207 a0 = 8 ∧ (∃ (Mid215 : qS → Int → Prop) (MidX216 : qS → Nat → Prop), qMet g l M_X7_read [vr a0, vi v199] σ207 (qTi Mid215 MidX216) ∧ (∀ (σ219 : qS) (v221 : Int), Mid215 σ219 v221 → qR v221 ∧ ((¬ v221 = a1 → Post σ219 (.inl (some (vi 0)))) ∧ (v221 = a1 → gK σ219 a0 = 8 ∧ (∃ (Mid226 : qS → Int → Prop) (MidX227 : qS → Nat → Prop), qMet g l M_X7_depth [vr a0, vi a1] σ219 (qTi Mid226 MidX227) ∧ (∀ (σ230 : qS) (v232 : Int), Mid226 σ230 v232 → ((qR v232) ∧ ∀ v235 : Int, v235 = (if v199 < v232 then 0 else 1) → Post σ230 (.inl (some (vi v235))))) ∧ (∀ (σ9 : qS) (n9 : Nat), ¬ MidX227 σ9 n9))))) ∧ (∀ (σ9 : qS) (n9 : Nat), ¬ MidX216 σ9 n9))))) ∧ (∀ (σ9 : qS) (n9 : Nat), ¬ MidX204 σ9 n9))))) ∧ (∀ (σ9 : qS) (n9 : Nat), ¬ MidX194 σ9 n9)))) ∧ (∀ (σ9 : qS) (n9 : Nat), ¬ MidX177 σ9 n9))))) ∧ (∀ (σ9 : qS) (n9 : Nat), ¬ MidX157 σ9 n9))))) ∧ (∀ (σ9 : qS) (n9 : Nat), ¬ MidX136 σ9 n9)))))) ∧ (∀ (σ9 : qS) (n9 : Nat), ¬ MidX108 σ9 n9))))) ∧ (∀ (σ9 : qS) (n9 : Nat), ¬ MidX87 σ9 n9))))))))) ∧ (∀ (σ9 : qS) (n9 : Nat), ¬ MidX44 σ9 n9))) ∧ (∀ (σ9 : qS) (n9 : Nat), ¬ MidX33 σ9 n9))) ∧ (∀ (σ9 : qS) (n9 : Nat), ¬ MidX22 σ9 n9))) ∧ (∀ (σ9 : qS) (n9 : Nat), ¬ MidX13 σ9 n9))) ∧ (∀ (σ9 : qS) (n9 : Nat), ¬ MidX4 σ9 n9))) : qMet g l M_L_isBalloon [vr a0, vi a1, vi a2] σ Post := by
  refine qMet_of hl (by decide +kernel) (Nat.le_of_ble_eq_true rfl) (List.forall_mem_cons.mpr ⟨trivial, List.forall_mem_cons.mpr ⟨trivial, List.forall_mem_cons.mpr ⟨trivial, fun _ h => nomatch h⟩⟩⟩) ?_
  show qW g l M_L_isBalloon 27 162 0 [some (vr a0), some (vi a1), some (vi a2), none, none, none, none, none, none] [] σ Post
  refine wp_aload_n dL_isBalloon_0 rfl ?_
  refine wp_iload_n dL_isBalloon_1 rfl ?_
  refine wp_iconst dL_isBalloon_2 ?_
  obtain ⟨hk2, h⟩ := h
  obtain ⟨Mid3, MidX4, hm1, hk5, hx6⟩ := h
  refine wp_callV (M' := M_X7_floats) (As := [vi a1, vi 1]) (st := []) (ci := 7) dL_isBalloon_3 cee_X7_floats np_X7_floats rfl ⟨Nat.le_of_ble_eq_true rfl, Nat.le_of_ble_eq_true rfl, by show 2 ≤ 27; omega, by show 12 ≤ 162; omega⟩ wd_804 wd_805 wd_806 rfl (Or.inl hk2) (q_small_of (Nat.le_of_ble_eq_true rfl)) hm1 (q_kTi (fun σ7 v9 hM8 => ?_)) (fun σ9 n9 hq => absurd (q_xi hq) (hx6 σ9 n9))
  refine wp_less (ac2 := 25) (as2 := 150) (by show 25 ≤ 27 - 2; omega) (by show 150 ≤ 162 - 12; omega) ?_
  have h := hk5 σ7 v9 hM8
  refine wp_istore_n' (ls' := [some (vr a0), some (vi a1), some (vi a2), some (vi v9), none, none, none, none, none]) dL_isBalloon_6 (Nat.le_of_ble_eq_true rfl) rfl ?_
  refine wp_aload_n dL_isBalloon_7 rfl ?_
  refine wp_iload_n dL_isBalloon_8 rfl ?_
  refine wp_iconst dL_isBalloon_9 ?_
  obtain ⟨hk11, h⟩ := h
  obtain ⟨Mid12, MidX13, hm10, hk14, hx15⟩ := h
  refine wp_callV (M' := M_X7_floats) (As := [vi a1, vi 2]) (st := []) (ci := 7) dL_isBalloon_10 cee_X7_floats np_X7_floats rfl ⟨Nat.le_of_ble_eq_true rfl, Nat.le_of_ble_eq_true rfl, by show 2 ≤ 25; omega, by show 12 ≤ 150; omega⟩ wd_804 wd_805 wd_806 rfl (Or.inl hk11) (q_small_of (Nat.le_of_ble_eq_true rfl)) hm10 (q_kTi (fun σ16 v18 hM17 => ?_)) (fun σ9 n9 hq => absurd (q_xi hq) (hx15 σ9 n9))
  refine wp_less (ac2 := 23) (as2 := 138) (by show 23 ≤ 25 - 2; omega) (by show 138 ≤ 150 - 12; omega) ?_
  have h := hk14 σ16 v18 hM17
  refine wp_istore' (ls' := [some (vr a0), some (vi a1), some (vi a2), some (vi v9), some (vi v18), none, none, none, none]) dL_isBalloon_13 (Nat.le_of_ble_eq_true rfl) rfl ?_
  refine wp_iload_n dL_isBalloon_15 rfl ?_
  refine wp_aload_n dL_isBalloon_16 rfl ?_
  refine wp_iload_n dL_isBalloon_17 rfl ?_
  refine wp_iconst dL_isBalloon_18 ?_
  obtain ⟨hk20, h⟩ := h
  obtain ⟨Mid21, MidX22, hm19, hk23, hx24⟩ := h
  refine wp_callV (M' := M_X7_floats) (As := [vi a1, vi 3]) (st := [vi v9]) (ci := 7) dL_isBalloon_19 cee_X7_floats np_X7_floats rfl ⟨Nat.le_of_ble_eq_true rfl, Nat.le_of_ble_eq_true rfl, by show 2 ≤ 23; omega, by show 12 ≤ 138; omega⟩ wd_804 wd_805 wd_806 rfl (Or.inl hk20) (q_small_of (Nat.le_of_ble_eq_true rfl)) hm19 (q_kTi (fun σ25 v27 hM26 => ?_)) (fun σ9 n9 hq => absurd (q_xi hq) (hx24 σ9 n9))
  refine wp_less (ac2 := 21) (as2 := 126) (by show 21 ≤ 23 - 2; omega) (by show 126 ≤ 138 - 12; omega) ?_
  have h := hk23 σ25 v27 hM26
  refine wp_iadd dL_isBalloon_22 ?_
  refine wp_iconst dL_isBalloon_23 ?_
  refine wp_isub dL_isBalloon_24 ?_
  refine wp_nmI (fun x28 hx29 => ?_)
  replace h := h x28 hx29
  refine wp_istore' (ls' := [some (vr a0), some (vi a1), some (vi a2), some (vi v9), some (vi v18), some (vi x28), none, none, none]) dL_isBalloon_25 (Nat.le_of_ble_eq_true rfl) rfl ?_
  refine wp_iload dL_isBalloon_27 rfl ?_
  refine wp_aload_n dL_isBalloon_29 rfl ?_
  refine wp_iload_n dL_isBalloon_30 rfl ?_
  refine wp_iconst dL_isBalloon_31 ?_
  obtain ⟨hk31, h⟩ := h
  obtain ⟨Mid32, MidX33, hm30, hk34, hx35⟩ := h
  refine wp_callV (M' := M_X7_floats) (As := [vi a1, vi 4]) (st := [vi v18]) (ci := 7) dL_isBalloon_32 cee_X7_floats np_X7_floats rfl ⟨Nat.le_of_ble_eq_true rfl, Nat.le_of_ble_eq_true rfl, by show 2 ≤ 21; omega, by show 12 ≤ 126; omega⟩ wd_804 wd_805 wd_806 rfl (Or.inl hk31) (q_small_of (Nat.le_of_ble_eq_true rfl)) hm30 (q_kTi (fun σ36 v38 hM37 => ?_)) (fun σ9 n9 hq => absurd (q_xi hq) (hx35 σ9 n9))
  refine wp_less (ac2 := 19) (as2 := 114) (by show 19 ≤ 21 - 2; omega) (by show 114 ≤ 126 - 12; omega) ?_
  have h := hk34 σ36 v38 hM37
  refine wp_iadd dL_isBalloon_35 ?_
  refine wp_iconst dL_isBalloon_36 ?_
  refine wp_isub dL_isBalloon_37 ?_
  refine wp_nmI (fun x39 hx40 => ?_)
  replace h := h x39 hx40
  refine wp_istore' (ls' := [some (vr a0), some (vi a1), some (vi a2), some (vi v9), some (vi v18), some (vi x28), some (vi x39), none, none]) dL_isBalloon_38 (Nat.le_of_ble_eq_true rfl) rfl ?_
  refine wp_aload_n dL_isBalloon_40 rfl ?_
  refine wp_iload_n dL_isBalloon_41 rfl ?_
  refine wp_iconst dL_isBalloon_42 ?_
  obtain ⟨hk42, h⟩ := h
  obtain ⟨Mid43, MidX44, hm41, hk45, hx46⟩ := h
  refine wp_callV (M' := M_X7_floats) (As := [vi a1, vi 0]) (st := []) (ci := 7) dL_isBalloon_43 cee_X7_floats np_X7_floats rfl ⟨Nat.le_of_ble_eq_true rfl, Nat.le_of_ble_eq_true rfl, by show 2 ≤ 19; omega, by show 12 ≤ 114; omega⟩ wd_804 wd_805 wd_806 rfl (Or.inl hk42) (q_small_of (Nat.le_of_ble_eq_true rfl)) hm41 (q_kTi (fun σ47 v49 hM48 => ?_)) (fun σ9 n9 hq => absurd (q_xi hq) (hx46 σ9 n9))
  refine wp_less (ac2 := 17) (as2 := 102) (by show 17 ≤ 19 - 2; omega) (by show 102 ≤ 114 - 12; omega) ?_
  have h := hk45 σ47 v49 hM48
  refine wp_iload_n dL_isBalloon_46 rfl ?_
  obtain ⟨hr50, hr51, h⟩ := h
  refine wp_icmp_ne (tgt := 85) dL_isBalloon_47 (by decide) hr50 hr51 (fun c52 => ?_) (fun c52 => ?_)
  · replace h := h.1 c52
    refine wp_iconst dL_isBalloon_85 ?_
    refine wp_istore' (ls' := [some (vr a0), some (vi a1), some (vi a2), some (vi v9), some (vi v18), some (vi x28), some (vi x39), some (vi 0), none]) dL_isBalloon_86 (Nat.le_of_ble_eq_true rfl) rfl ?_
    refine wp_iload dL_isBalloon_88 rfl ?_
    refine wp_if_eq (tgt := 134) dL_isBalloon_90 (by decide) (by unfold qR; omega) (fun _ => ?_) (fun c9 => absurd (by decide) c9)
    refine wp_iconst dL_isBalloon_134 ?_
    refine wp_istore' (ls' := [some (vr a0), some (vi a1), some (vi a2), some (vi v9), some (vi v18), some (vi x28), some (vi x39), some (vi 0), none]) dL_isBalloon_135 (Nat.le_of_ble_eq_true rfl) rfl ?_
    refine wp_aload_n dL_isBalloon_137 rfl ?_
    refine wp_iload_n dL_isBalloon_138 rfl ?_
    obtain ⟨hk54, h⟩ := h
    obtain ⟨Mid55, MidX56, hm53, hk57, hx58⟩ := h
    refine wp_callV (M' := M_X7_placeOf) (As := [vi a1]) (st := []) (ci := 7) dL_isBalloon_139 cee_X7_placeOf np_X7_placeOf rfl ⟨Nat.le_of_ble_eq_true rfl, Nat.le_of_ble_eq_true rfl, by show 1 ≤ 17; omega, by show 6 ≤ 102; omega⟩ wd_740 wd_741 wd_742 rfl (Or.inl hk54) (q_small_of (Nat.le_of_ble_eq_true rfl)) hm53 (q_kTi (fun σ59 v61 hM60 => ?_)) (fun σ9 n9 hq => absurd (q_xi hq) (hx58 σ9 n9))
    refine wp_less (ac2 := 16) (as2 := 96) (by show 16 ≤ 17 - 1; omega) (by show 96 ≤ 102 - 6; omega) ?_
    have h := hk57 σ59 v61 hM60
    refine wp_istore' (ls' := [some (vr a0), some (vi a1), some (vi a2), some (vi v9), some (vi v18), some (vi x28), some (vi x39), some (vi 0), some (vi v61)]) dL_isBalloon_142 (Nat.le_of_ble_eq_true rfl) rfl ?_
    refine wp_iload dL_isBalloon_144 rfl ?_
    refine wp_if_eq (tgt := 183) dL_isBalloon_146 (by decide) (by unfold qR; omega) (fun _ => ?_) (fun c9 => absurd (by decide) c9)
    refine wp_iconst dL_isBalloon_183 ?_
    exact wp_ret_z dL_isBalloon_184 rfl (Or.inl rfl) h
  · replace h := h.2 c52
    refine wp_iload_n dL_isBalloon_50 rfl ?_
    obtain ⟨hr62, h⟩ := h
    refine wp_if_lt (tgt := 85) dL_isBalloon_51 (by decide) hr62 (fun c63 => ?_) (fun c63 => ?_)
    · replace h := h.1 c63
      refine wp_iconst dL_isBalloon_85 ?_
      refine wp_istore' (ls' := [some (vr a0), some (vi a1), some (vi a2), some (vi v9), some (vi v18), some (vi x28), some (vi x39), some (vi 0), none]) dL_isBalloon_86 (Nat.le_of_ble_eq_true rfl) rfl ?_
      refine wp_iload dL_isBalloon_88 rfl ?_
      refine wp_if_eq (tgt := 134) dL_isBalloon_90 (by decide) (by unfold qR; omega) (fun _ => ?_) (fun c9 => absurd (by decide) c9)
      refine wp_iconst dL_isBalloon_134 ?_
      refine wp_istore' (ls' := [some (vr a0), some (vi a1), some (vi a2), some (vi v9), some (vi v18), some (vi x28), some (vi x39), some (vi 0), none]) dL_isBalloon_135 (Nat.le_of_ble_eq_true rfl) rfl ?_
      refine wp_aload_n dL_isBalloon_137 rfl ?_
      refine wp_iload_n dL_isBalloon_138 rfl ?_
      obtain ⟨hk65, h⟩ := h
      obtain ⟨Mid66, MidX67, hm64, hk68, hx69⟩ := h
      refine wp_callV (M' := M_X7_placeOf) (As := [vi a1]) (st := []) (ci := 7) dL_isBalloon_139 cee_X7_placeOf np_X7_placeOf rfl ⟨Nat.le_of_ble_eq_true rfl, Nat.le_of_ble_eq_true rfl, by show 1 ≤ 17; omega, by show 6 ≤ 102; omega⟩ wd_740 wd_741 wd_742 rfl (Or.inl hk65) (q_small_of (Nat.le_of_ble_eq_true rfl)) hm64 (q_kTi (fun σ70 v72 hM71 => ?_)) (fun σ9 n9 hq => absurd (q_xi hq) (hx69 σ9 n9))
      refine wp_less (ac2 := 16) (as2 := 96) (by show 16 ≤ 17 - 1; omega) (by show 96 ≤ 102 - 6; omega) ?_
      have h := hk68 σ70 v72 hM71
      refine wp_istore' (ls' := [some (vr a0), some (vi a1), some (vi a2), some (vi v9), some (vi v18), some (vi x28), some (vi x39), some (vi 0), some (vi v72)]) dL_isBalloon_142 (Nat.le_of_ble_eq_true rfl) rfl ?_
      refine wp_iload dL_isBalloon_144 rfl ?_
      refine wp_if_eq (tgt := 183) dL_isBalloon_146 (by decide) (by unfold qR; omega) (fun _ => ?_) (fun c9 => absurd (by decide) c9)
      refine wp_iconst dL_isBalloon_183 ?_
      exact wp_ret_z dL_isBalloon_184 rfl (Or.inl rfl) h
    · replace h := h.2 c63
      refine wp_iload dL_isBalloon_54 rfl ?_
      obtain ⟨hr73, h⟩ := h
      refine wp_if_lt (tgt := 85) dL_isBalloon_56 (by decide) hr73 (fun c74 => ?_) (fun c74 => ?_)
      · replace h := h.1 c74
        refine wp_iconst dL_isBalloon_85 ?_
        refine wp_istore' (ls' := [some (vr a0), some (vi a1), some (vi a2), some (vi v9), some (vi v18), some (vi x28), some (vi x39), some (vi 0), none]) dL_isBalloon_86 (Nat.le_of_ble_eq_true rfl) rfl ?_
        refine wp_iload dL_isBalloon_88 rfl ?_
        refine wp_if_eq (tgt := 134) dL_isBalloon_90 (by decide) (by unfold qR; omega) (fun _ => ?_) (fun c9 => absurd (by decide) c9)
        refine wp_iconst dL_isBalloon_134 ?_
        refine wp_istore' (ls' := [some (vr a0), some (vi a1), some (vi a2), some (vi v9), some (vi v18), some (vi x28), some (vi x39), some (vi 0), none]) dL_isBalloon_135 (Nat.le_of_ble_eq_true rfl) rfl ?_
        refine wp_aload_n dL_isBalloon_137 rfl ?_
        refine wp_iload_n dL_isBalloon_138 rfl ?_
        obtain ⟨hk76, h⟩ := h
        obtain ⟨Mid77, MidX78, hm75, hk79, hx80⟩ := h
        refine wp_callV (M' := M_X7_placeOf) (As := [vi a1]) (st := []) (ci := 7) dL_isBalloon_139 cee_X7_placeOf np_X7_placeOf rfl ⟨Nat.le_of_ble_eq_true rfl, Nat.le_of_ble_eq_true rfl, by show 1 ≤ 17; omega, by show 6 ≤ 102; omega⟩ wd_740 wd_741 wd_742 rfl (Or.inl hk76) (q_small_of (Nat.le_of_ble_eq_true rfl)) hm75 (q_kTi (fun σ81 v83 hM82 => ?_)) (fun σ9 n9 hq => absurd (q_xi hq) (hx80 σ9 n9))
        refine wp_less (ac2 := 16) (as2 := 96) (by show 16 ≤ 17 - 1; omega) (by show 96 ≤ 102 - 6; omega) ?_
        have h := hk79 σ81 v83 hM82
        refine wp_istore' (ls' := [some (vr a0), some (vi a1), some (vi a2), some (vi v9), some (vi v18), some (vi x28), some (vi x39), some (vi 0), some (vi v83)]) dL_isBalloon_142 (Nat.le_of_ble_eq_true rfl) rfl ?_
        refine wp_iload dL_isBalloon_144 rfl ?_
        refine wp_if_eq (tgt := 183) dL_isBalloon_146 (by decide) (by unfold qR; omega) (fun _ => ?_) (fun c9 => absurd (by decide) c9)
        refine wp_iconst dL_isBalloon_183 ?_
        exact wp_ret_z dL_isBalloon_184 rfl (Or.inl rfl) h
      · replace h := h.2 c74
        refine wp_iload dL_isBalloon_59 rfl ?_
        refine wp_aload_n dL_isBalloon_61 rfl ?_
        refine wp_iload_n dL_isBalloon_62 rfl ?_
        refine wp_iconst dL_isBalloon_63 ?_
        obtain ⟨hk85, h⟩ := h
        obtain ⟨Mid86, MidX87, hm84, hk88, hx89⟩ := h
        refine wp_callV (M' := M_X7_lies) (As := [vi a2, vi 3]) (st := [vi x28]) (ci := 7) dL_isBalloon_64 cee_X7_lies np_X7_lies rfl ⟨Nat.le_of_ble_eq_true rfl, Nat.le_of_ble_eq_true rfl, by show 2 ≤ 17; omega, by show 12 ≤ 102; omega⟩ wd_728 wd_729 wd_730 rfl (Or.inl hk85) (q_small_of (Nat.le_of_ble_eq_true rfl)) hm84 (q_kTi (fun σ90 v92 hM91 => ?_)) (fun σ9 n9 hq => absurd (q_xi hq) (hx89 σ9 n9))
        refine wp_less (ac2 := 15) (as2 := 90) (by show 15 ≤ 17 - 2; omega) (by show 90 ≤ 102 - 12; omega) ?_
        have h := hk88 σ90 v92 hM91
        obtain ⟨hr93, hr94, h⟩ := h
        refine wp_icmp_ge (tgt := 85) dL_isBalloon_67 (by decide) hr93 hr94 (fun c95 => ?_) (fun c95 => ?_)
        · replace h := h.1 c95
          refine wp_iconst dL_isBalloon_85 ?_
          refine wp_istore' (ls' := [some (vr a0), some (vi a1), some (vi a2), some (vi v9), some (vi v18), some (vi x28), some (vi x39), some (vi 0), none]) dL_isBalloon_86 (Nat.le_of_ble_eq_true rfl) rfl ?_
          refine wp_iload dL_isBalloon_88 rfl ?_
          refine wp_if_eq (tgt := 134) dL_isBalloon_90 (by decide) (by unfold qR; omega) (fun _ => ?_) (fun c9 => absurd (by decide) c9)
          refine wp_iconst dL_isBalloon_134 ?_
          refine wp_istore' (ls' := [some (vr a0), some (vi a1), some (vi a2), some (vi v9), some (vi v18), some (vi x28), some (vi x39), some (vi 0), none]) dL_isBalloon_135 (Nat.le_of_ble_eq_true rfl) rfl ?_
          refine wp_aload_n dL_isBalloon_137 rfl ?_
          refine wp_iload_n dL_isBalloon_138 rfl ?_
          obtain ⟨hk97, h⟩ := h
          obtain ⟨Mid98, MidX99, hm96, hk100, hx101⟩ := h
          refine wp_callV (M' := M_X7_placeOf) (As := [vi a1]) (st := []) (ci := 7) dL_isBalloon_139 cee_X7_placeOf np_X7_placeOf rfl ⟨Nat.le_of_ble_eq_true rfl, Nat.le_of_ble_eq_true rfl, by show 1 ≤ 15; omega, by show 6 ≤ 90; omega⟩ wd_740 wd_741 wd_742 rfl (Or.inl hk97) (q_small_of (Nat.le_of_ble_eq_true rfl)) hm96 (q_kTi (fun σ102 v104 hM103 => ?_)) (fun σ9 n9 hq => absurd (q_xi hq) (hx101 σ9 n9))
          refine wp_less (ac2 := 14) (as2 := 84) (by show 14 ≤ 15 - 1; omega) (by show 84 ≤ 90 - 6; omega) ?_
          have h := hk100 σ102 v104 hM103
          refine wp_istore' (ls' := [some (vr a0), some (vi a1), some (vi a2), some (vi v9), some (vi v18), some (vi x28), some (vi x39), some (vi 0), some (vi v104)]) dL_isBalloon_142 (Nat.le_of_ble_eq_true rfl) rfl ?_
          refine wp_iload dL_isBalloon_144 rfl ?_
          refine wp_if_eq (tgt := 183) dL_isBalloon_146 (by decide) (by unfold qR; omega) (fun _ => ?_) (fun c9 => absurd (by decide) c9)
          refine wp_iconst dL_isBalloon_183 ?_
          exact wp_ret_z dL_isBalloon_184 rfl (Or.inl rfl) h
        · replace h := h.2 c95
          refine wp_iload dL_isBalloon_70 rfl ?_
          refine wp_aload_n dL_isBalloon_72 rfl ?_
          refine wp_iload_n dL_isBalloon_73 rfl ?_
          refine wp_iconst dL_isBalloon_74 ?_
          obtain ⟨hk106, h⟩ := h
          obtain ⟨Mid107, MidX108, hm105, hk109, hx110⟩ := h
          refine wp_callV (M' := M_X7_lies) (As := [vi a2, vi 4]) (st := [vi x39]) (ci := 7) dL_isBalloon_75 cee_X7_lies np_X7_lies rfl ⟨Nat.le_of_ble_eq_true rfl, Nat.le_of_ble_eq_true rfl, by show 2 ≤ 15; omega, by show 12 ≤ 90; omega⟩ wd_728 wd_729 wd_730 rfl (Or.inl hk106) (q_small_of (Nat.le_of_ble_eq_true rfl)) hm105 (q_kTi (fun σ111 v113 hM112 => ?_)) (fun σ9 n9 hq => absurd (q_xi hq) (hx110 σ9 n9))
          refine wp_less (ac2 := 13) (as2 := 78) (by show 13 ≤ 15 - 2; omega) (by show 78 ≤ 90 - 12; omega) ?_
          have h := hk109 σ111 v113 hM112
          obtain ⟨h, hk120⟩ := h
          have key119 : ∀ v117 : Int, v117 = (if v113 ≤ x39 then 0 else 1) → qW g l M_L_isBalloon 13 78 86 [some (vr a0), some (vi a1), some (vi a2), some (vi v9), some (vi v18), some (vi x28), some (vi x39), none, none] [vi v117] σ111 Post := by
            intro v117 hv118
            have h := hk120 v117 hv118
            have hr121 : qR v117 := by (rw [hv118]; unfold qR; repeat' split) <;> omega
            have hz122 : v117 = 0 ∨ v117 = 1 := by (rw [hv118]; repeat' split) <;> first | exact Or.inl rfl | exact Or.inr rfl
            refine wp_istore' (ls' := [some (vr a0), some (vi a1), some (vi a2), some (vi v9), some (vi v18), some (vi x28), some (vi x39), some (vi v117), none]) dL_isBalloon_86 (Nat.le_of_ble_eq_true rfl) rfl ?_
            refine wp_iload dL_isBalloon_88 rfl ?_
            refine wp_if_eq (tgt := 134) dL_isBalloon_90 (by decide) hr121 (fun c123 => ?_) (fun c123 => ?_)
            · replace h := h.1 c123
              refine wp_iconst dL_isBalloon_134 ?_
              refine wp_istore' (ls' := [some (vr a0), some (vi a1), some (vi a2), some (vi v9), some (vi v18), some (vi x28), some (vi x39), some (vi 0), none]) dL_isBalloon_135 (Nat.le_of_ble_eq_true rfl) rfl ?_
              refine wp_aload_n dL_isBalloon_137 rfl ?_
              refine wp_iload_n dL_isBalloon_138 rfl ?_
              obtain ⟨hk125, h⟩ := h
              obtain ⟨Mid126, MidX127, hm124, hk128, hx129⟩ := h
              refine wp_callV (M' := M_X7_placeOf) (As := [vi a1]) (st := []) (ci := 7) dL_isBalloon_139 cee_X7_placeOf np_X7_placeOf rfl ⟨Nat.le_of_ble_eq_true rfl, Nat.le_of_ble_eq_true rfl, by show 1 ≤ 13; omega, by show 6 ≤ 78; omega⟩ wd_740 wd_741 wd_742 rfl (Or.inl hk125) (q_small_of (Nat.le_of_ble_eq_true rfl)) hm124 (q_kTi (fun σ130 v132 hM131 => ?_)) (fun σ9 n9 hq => absurd (q_xi hq) (hx129 σ9 n9))
              refine wp_less (ac2 := 12) (as2 := 72) (by show 12 ≤ 13 - 1; omega) (by show 72 ≤ 78 - 6; omega) ?_
              have h := hk128 σ130 v132 hM131
              refine wp_istore' (ls' := [some (vr a0), some (vi a1), some (vi a2), some (vi v9), some (vi v18), some (vi x28), some (vi x39), some (vi 0), some (vi v132)]) dL_isBalloon_142 (Nat.le_of_ble_eq_true rfl) rfl ?_
              refine wp_iload dL_isBalloon_144 rfl ?_
              refine wp_if_eq (tgt := 183) dL_isBalloon_146 (by decide) (by unfold qR; omega) (fun _ => ?_) (fun c9 => absurd (by decide) c9)
              refine wp_iconst dL_isBalloon_183 ?_
              exact wp_ret_z dL_isBalloon_184 rfl (Or.inl rfl) h
            · replace h := h.2 c123
              refine wp_aload_n dL_isBalloon_93 rfl ?_
              refine wp_iload_n dL_isBalloon_94 rfl ?_
              refine wp_iload_n dL_isBalloon_95 rfl ?_
              refine wp_iload dL_isBalloon_96 rfl ?_
              obtain ⟨hk134, h⟩ := h
              obtain ⟨Mid135, MidX136, hm133, hk137, hx138⟩ := h
              refine wp_callV (M' := M_X7_cell) (As := [vi a2, vi v9, vi v18]) (st := []) (ci := 7) dL_isBalloon_98 cee_X7_cell np_X7_cell rfl ⟨Nat.le_of_ble_eq_true rfl, Nat.le_of_ble_eq_true rfl, by show 3 ≤ 13; omega, by show 18 ≤ 78; omega⟩ wd_808 wd_809 wd_810 rfl (Or.inl hk134) (q_small_of (Nat.le_of_ble_eq_true rfl)) hm133 (q_kTi (fun σ139 v141 hM140 => ?_)) (fun σ9 n9 hq => absurd (q_xi hq) (hx138 σ9 n9))
              refine wp_less (ac2 := 10) (as2 := 60) (by show 10 ≤ 13 - 3; omega) (by show 60 ≤ 78 - 18; omega) ?_
              have h := hk137 σ139 v141 hM140
              refine wp_iload_n dL_isBalloon_101 rfl ?_
              obtain ⟨hr142, hr143, h⟩ := h
              refine wp_icmp_ne (tgt := 134) dL_isBalloon_102 (by decide) hr142 hr143 (fun c144 => ?_) (fun c144 => ?_)
              · replace h := h.1 c144
                refine wp_iconst dL_isBalloon_134 ?_
                refine wp_istore' (ls' := [some (vr a0), some (vi a1), some (vi a2), some (vi v9), some (vi v18), some (vi x28), some (vi x39), some (vi 0), none]) dL_isBalloon_135 (Nat.le_of_ble_eq_true rfl) rfl ?_
                refine wp_aload_n dL_isBalloon_137 rfl ?_
                refine wp_iload_n dL_isBalloon_138 rfl ?_
                obtain ⟨hk146, h⟩ := h
                obtain ⟨Mid147, MidX148, hm145, hk149, hx150⟩ := h
                refine wp_callV (M' := M_X7_placeOf) (As := [vi a1]) (st := []) (ci := 7) dL_isBalloon_139 cee_X7_placeOf np_X7_placeOf rfl ⟨Nat.le_of_ble_eq_true rfl, Nat.le_of_ble_eq_true rfl, by show 1 ≤ 10; omega, by show 6 ≤ 60; omega⟩ wd_740 wd_741 wd_742 rfl (Or.inl hk146) (q_small_of (Nat.le_of_ble_eq_true rfl)) hm145 (q_kTi (fun σ151 v153 hM152 => ?_)) (fun σ9 n9 hq => absurd (q_xi hq) (hx150 σ9 n9))
                refine wp_less (ac2 := 9) (as2 := 54) (by show 9 ≤ 10 - 1; omega) (by show 54 ≤ 60 - 6; omega) ?_
                have h := hk149 σ151 v153 hM152
                refine wp_istore' (ls' := [some (vr a0), some (vi a1), some (vi a2), some (vi v9), some (vi v18), some (vi x28), some (vi x39), some (vi 0), some (vi v153)]) dL_isBalloon_142 (Nat.le_of_ble_eq_true rfl) rfl ?_
                refine wp_iload dL_isBalloon_144 rfl ?_
                refine wp_if_eq (tgt := 183) dL_isBalloon_146 (by decide) (by unfold qR; omega) (fun _ => ?_) (fun c9 => absurd (by decide) c9)
                refine wp_iconst dL_isBalloon_183 ?_
                exact wp_ret_z dL_isBalloon_184 rfl (Or.inl rfl) h
              · replace h := h.2 c144
                refine wp_aload_n dL_isBalloon_105 rfl ?_
                refine wp_iload_n dL_isBalloon_106 rfl ?_
                refine wp_iload dL_isBalloon_107 rfl ?_
                refine wp_iload dL_isBalloon_109 rfl ?_
                obtain ⟨hk155, h⟩ := h
                obtain ⟨Mid156, MidX157, hm154, hk158, hx159⟩ := h
                refine wp_callV (M' := M_X7_cell) (As := [vi a2, vi x28, vi x39]) (st := []) (ci := 7) dL_isBalloon_111 cee_X7_cell np_X7_cell rfl ⟨Nat.le_of_ble_eq_true rfl, Nat.le_of_ble_eq_true rfl, by show 3 ≤ 10; omega, by show 18 ≤ 60; omega⟩ wd_808 wd_809 wd_810 rfl (Or.inl hk155) (q_small_of (Nat.le_of_ble_eq_true rfl)) hm154 (q_kTi (fun σ160 v162 hM161 => ?_)) (fun σ9 n9 hq => absurd (q_xi hq) (hx159 σ9 n9))
                refine wp_less (ac2 := 7) (as2 := 42) (by show 7 ≤ 10 - 3; omega) (by show 42 ≤ 60 - 18; omega) ?_
                have h := hk158 σ160 v162 hM161
                refine wp_iload_n dL_isBalloon_114 rfl ?_
                obtain ⟨hr163, h⟩ := h
                refine wp_icmp_ne (tgt := 134) dL_isBalloon_115 (by decide) hr163 hr143 (fun c164 => ?_) (fun c164 => ?_)
                · replace h := h.1 c164
                  refine wp_iconst dL_isBalloon_134 ?_
                  refine wp_istore' (ls' := [some (vr a0), some (vi a1), some (vi a2), some (vi v9), some (vi v18), some (vi x28), some (vi x39), some (vi 0), none]) dL_isBalloon_135 (Nat.le_of_ble_eq_true rfl) rfl ?_
                  refine wp_aload_n dL_isBalloon_137 rfl ?_
                  refine wp_iload_n dL_isBalloon_138 rfl ?_
                  obtain ⟨hk166, h⟩ := h
                  obtain ⟨Mid167, MidX168, hm165, hk169, hx170⟩ := h
                  refine wp_callV (M' := M_X7_placeOf) (As := [vi a1]) (st := []) (ci := 7) dL_isBalloon_139 cee_X7_placeOf np_X7_placeOf rfl ⟨Nat.le_of_ble_eq_true rfl, Nat.le_of_ble_eq_true rfl, by show 1 ≤ 7; omega, by show 6 ≤ 42; omega⟩ wd_740 wd_741 wd_742 rfl (Or.inl hk166) (q_small_of (Nat.le_of_ble_eq_true rfl)) hm165 (q_kTi (fun σ171 v173 hM172 => ?_)) (fun σ9 n9 hq => absurd (q_xi hq) (hx170 σ9 n9))
                  refine wp_less (ac2 := 6) (as2 := 36) (by show 6 ≤ 7 - 1; omega) (by show 36 ≤ 42 - 6; omega) ?_
                  have h := hk169 σ171 v173 hM172
                  refine wp_istore' (ls' := [some (vr a0), some (vi a1), some (vi a2), some (vi v9), some (vi v18), some (vi x28), some (vi x39), some (vi 0), some (vi v173)]) dL_isBalloon_142 (Nat.le_of_ble_eq_true rfl) rfl ?_
                  refine wp_iload dL_isBalloon_144 rfl ?_
                  refine wp_if_eq (tgt := 183) dL_isBalloon_146 (by decide) (by unfold qR; omega) (fun _ => ?_) (fun c9 => absurd (by decide) c9)
                  refine wp_iconst dL_isBalloon_183 ?_
                  exact wp_ret_z dL_isBalloon_184 rfl (Or.inl rfl) h
                · replace h := h.2 c164
                  refine wp_aload_n dL_isBalloon_118 rfl ?_
                  refine wp_iload_n dL_isBalloon_119 rfl ?_
                  refine wp_iload_n dL_isBalloon_120 rfl ?_
                  refine wp_iload dL_isBalloon_121 rfl ?_
                  obtain ⟨hk175, h⟩ := h
                  obtain ⟨Mid176, MidX177, hm174, hk178, hx179⟩ := h
                  refine wp_callV (M' := M_X7_cell) (As := [vi a2, vi v9, vi x39]) (st := []) (ci := 7) dL_isBalloon_123 cee_X7_cell np_X7_cell rfl ⟨Nat.le_of_ble_eq_true rfl, Nat.le_of_ble_eq_true rfl, by show 3 ≤ 7; omega, by show 18 ≤ 42; omega⟩ wd_808 wd_809 wd_810 rfl (Or.inl hk175) (q_small_of (Nat.le_of_ble_eq_true rfl)) hm174 (q_kTi (fun σ180 v182 hM181 => ?_)) (fun σ9 n9 hq => absurd (q_xi hq) (hx179 σ9 n9))
                  refine wp_less (ac2 := 4) (as2 := 24) (by show 4 ≤ 7 - 3; omega) (by show 24 ≤ 42 - 18; omega) ?_
                  have h := hk178 σ180 v182 hM181
                  refine wp_iload_n dL_isBalloon_126 rfl ?_
                  obtain ⟨h, hk188⟩ := h
                  have key187 : ∀ v185 : Int, v185 = (if ¬ v182 = a1 then 0 else 1) → qW g l M_L_isBalloon 4 24 135 [some (vr a0), some (vi a1), some (vi a2), some (vi v9), some (vi v18), some (vi x28), some (vi x39), some (vi v117), none] [vi v185] σ180 Post := by
                    intro v185 hv186
                    have h := hk188 v185 hv186
                    have hr189 : qR v185 := by (rw [hv186]; unfold qR; repeat' split) <;> omega
                    have hz190 : v185 = 0 ∨ v185 = 1 := by (rw [hv186]; repeat' split) <;> first | exact Or.inl rfl | exact Or.inr rfl
                    refine wp_istore' (ls' := [some (vr a0), some (vi a1), some (vi a2), some (vi v9), some (vi v18), some (vi x28), some (vi x39), some (vi v185), none]) dL_isBalloon_135 (Nat.le_of_ble_eq_true rfl) rfl ?_
                    refine wp_aload_n dL_isBalloon_137 rfl ?_
                    refine wp_iload_n dL_isBalloon_138 rfl ?_
                    obtain ⟨hk192, h⟩ := h
                    obtain ⟨Mid193, MidX194, hm191, hk195, hx196⟩ := h
                    refine wp_callV (M' := M_X7_placeOf) (As := [vi a1]) (st := []) (ci := 7) dL_isBalloon_139 cee_X7_placeOf np_X7_placeOf rfl ⟨Nat.le_of_ble_eq_true rfl, Nat.le_of_ble_eq_true rfl, by show 1 ≤ 4; omega, by show 6 ≤ 24; omega⟩ wd_740 wd_741 wd_742 rfl (Or.inl hk192) (q_small_of (Nat.le_of_ble_eq_true rfl)) hm191 (q_kTi (fun σ197 v199 hM198 => ?_)) (fun σ9 n9 hq => absurd (q_xi hq) (hx196 σ9 n9))
                    refine wp_less (ac2 := 3) (as2 := 18) (by show 3 ≤ 4 - 1; omega) (by show 18 ≤ 24 - 6; omega) ?_
                    have h := hk195 σ197 v199 hM198
                    refine wp_istore' (ls' := [some (vr a0), some (vi a1), some (vi a2), some (vi v9), some (vi v18), some (vi x28), some (vi x39), some (vi v185), some (vi v199)]) dL_isBalloon_142 (Nat.le_of_ble_eq_true rfl) rfl ?_
                    refine wp_iload dL_isBalloon_144 rfl ?_
                    refine wp_if_eq (tgt := 183) dL_isBalloon_146 (by decide) hr189 (fun c200 => ?_) (fun c200 => ?_)
                    · replace h := h.1 c200
                      refine wp_iconst dL_isBalloon_183 ?_
                      exact wp_ret_z dL_isBalloon_184 rfl (Or.inl rfl) h
                    · replace h := h.2 c200
                      refine wp_aload_n dL_isBalloon_149 rfl ?_
                      refine wp_iload_n dL_isBalloon_150 rfl ?_
                      obtain ⟨hk202, h⟩ := h
                      obtain ⟨Mid203, MidX204, hm201, hk205, hx206⟩ := h
                      refine wp_callV (M' := M_X7_placeByPairs) (As := [vi a1]) (st := []) (ci := 7) dL_isBalloon_151 cee_X7_placeByPairs np_X7_placeByPairs rfl ⟨Nat.le_of_ble_eq_true rfl, Nat.le_of_ble_eq_true rfl, by show 1 ≤ 3; omega, by show 6 ≤ 18; omega⟩ wd_821 wd_822 wd_823 rfl (Or.inl hk202) (q_small_of (Nat.le_of_ble_eq_true rfl)) hm201 (q_kTi (fun σ207 v209 hM208 => ?_)) (fun σ9 n9 hq => absurd (q_xi hq) (hx206 σ9 n9))
                      refine wp_less (ac2 := 2) (as2 := 12) (by show 2 ≤ 3 - 1; omega) (by show 12 ≤ 18 - 6; omega) ?_
                      have h := hk205 σ207 v209 hM208
                      refine wp_iload dL_isBalloon_154 rfl ?_
                      obtain ⟨hr210, hr211, h⟩ := h
                      refine wp_icmp_ne (tgt := 183) dL_isBalloon_156 (by decide) hr210 hr211 (fun c212 => ?_) (fun c212 => ?_)
                      · replace h := h.1 c212
                        refine wp_iconst dL_isBalloon_183 ?_
                        exact wp_ret_z dL_isBalloon_184 rfl (Or.inl rfl) h
                      · replace h := h.2 c212
                        refine wp_aload_n dL_isBalloon_159 rfl ?_
                        refine wp_iload dL_isBalloon_160 rfl ?_
                        obtain ⟨hk214, h⟩ := h
                        obtain ⟨Mid215, MidX216, hm213, hk217, hx218⟩ := h
                        refine wp_callV (M' := M_X7_read) (As := [vi v199]) (st := []) (ci := 7) dL_isBalloon_162 cee_X7_read np_X7_read rfl ⟨Nat.le_of_ble_eq_true rfl, Nat.le_of_ble_eq_true rfl, by show 1 ≤ 2; omega, by show 6 ≤ 12; omega⟩ wd_834 wd_835 wd_836 rfl (Or.inl hk214) (q_small_of (Nat.le_of_ble_eq_true rfl)) hm213 (q_kTi (fun σ219 v221 hM220 => ?_)) (fun σ9 n9 hq => absurd (q_xi hq) (hx218 σ9 n9))
                        refine wp_less (ac2 := 1) (as2 := 6) (by show 1 ≤ 2 - 1; omega) (by show 6 ≤ 12 - 6; omega) ?_
                        have h := hk217 σ219 v221 hM220
                        refine wp_iload_n dL_isBalloon_165 rfl ?_
                        obtain ⟨hr222, h⟩ := h
                        refine wp_icmp_ne (tgt := 183) dL_isBalloon_166 (by decide) hr222 hr143 (fun c223 => ?_) (fun c223 => ?_)
                        · replace h := h.1 c223
                          refine wp_iconst dL_isBalloon_183 ?_
                          exact wp_ret_z dL_isBalloon_184 rfl (Or.inl rfl) h
                        · replace h := h.2 c223
                          refine wp_aload_n dL_isBalloon_169 rfl ?_
                          refine wp_iload_n dL_isBalloon_170 rfl ?_
                          obtain ⟨hk225, h⟩ := h
                          obtain ⟨Mid226, MidX227, hm224, hk228, hx229⟩ := h
                          refine wp_callV (M' := M_X7_depth) (As := [vi a1]) (st := []) (ci := 7) dL_isBalloon_171 cee_X7_depth np_X7_depth rfl ⟨Nat.le_of_ble_eq_true rfl, Nat.le_of_ble_eq_true rfl, by show 1 ≤ 1; omega, by show 6 ≤ 6; omega⟩ wd_748 wd_749 wd_750 rfl (Or.inl hk225) (q_small_of (Nat.le_of_ble_eq_true rfl)) hm224 (q_kTi (fun σ230 v232 hM231 => ?_)) (fun σ9 n9 hq => absurd (q_xi hq) (hx229 σ9 n9))
                          refine wp_less (ac2 := 0) (as2 := 0) (by show 0 ≤ 1 - 1; omega) (by show 0 ≤ 6 - 6; omega) ?_
                          have h := hk228 σ230 v232 hM231
                          refine wp_iload dL_isBalloon_174 rfl ?_
                          obtain ⟨h, hk238⟩ := h
                          have key237 : ∀ v235 : Int, v235 = (if v199 < v232 then 0 else 1) → qW g l M_L_isBalloon 0 0 184 [some (vr a0), some (vi a1), some (vi a2), some (vi v9), some (vi v18), some (vi x28), some (vi x39), some (vi v185), some (vi v199)] [vi v235] σ230 Post := by
                            intro v235 hv236
                            have h := hk238 v235 hv236
                            have hr239 : qR v235 := by (rw [hv236]; unfold qR; repeat' split) <;> omega
                            have hz240 : v235 = 0 ∨ v235 = 1 := by (rw [hv236]; repeat' split) <;> first | exact Or.inl rfl | exact Or.inr rfl
                            exact wp_ret_z dL_isBalloon_184 rfl hz240 h
                          have hr241 := h
                          refine wp_icmp_gt (tgt := 183) dL_isBalloon_176 (by decide) hr241 hr211 (fun c242 => ?_) (fun c242 => ?_)
                          · refine wp_iconst dL_isBalloon_183 ?_
                            exact key237 _ (by rw [if_pos c242])
                          · refine wp_iconst dL_isBalloon_179 ?_
                            refine wp_goto (tgt := 184) dL_isBalloon_180 (by decide) ?_
                            exact key237 _ (by rw [if_neg c242])
                  have hr243 := h
                  refine wp_icmp_ne (tgt := 134) dL_isBalloon_127 (by decide) hr243 hr143 (fun c244 => ?_) (fun c244 => ?_)
                  · refine wp_iconst dL_isBalloon_134 ?_
                    exact key187 _ (by rw [if_pos c244])
                  · refine wp_iconst dL_isBalloon_130 ?_
                    refine wp_goto (tgt := 135) dL_isBalloon_131 (by decide) ?_
                    exact key187 _ (by rw [if_neg (fun z => z c244)])
          obtain ⟨hr245, hr246⟩ := h
          refine wp_icmp_ge (tgt := 85) dL_isBalloon_78 (by decide) hr245 hr246 (fun c247 => ?_) (fun c247 => ?_)
          · refine wp_iconst dL_isBalloon_85 ?_
            exact key119 _ (by rw [if_pos c247])
          · refine wp_iconst dL_isBalloon_81 ?_
            refine wp_goto (tgt := 86) dL_isBalloon_82 (by decide) ?_
            exact key119 _ (by rw [if_neg c247])
