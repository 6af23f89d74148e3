/-! printed: the walks -/
set_option maxRecDepth 100000 in
set_option maxHeartbeats 4000000 in
theorem wm_X8_init {g : qG} {l : Launch} (hl : l.stackTraces = false) {a0 : Nat} {σ : qS} {Post : qS → qRs → Prop}
    (h : a0 ≠ 0 ∧ (∀ r2 : Nat, gK σ r2 = 0 → r2 ≠ 0 → ∀ σ5 : qS, σ5 = nA σ r2 20 10 → gK σ5 a0 = 9 ∧ (∀ σ9 : qS, σ9 = sP σ5 324 a0 r2 → (∀ r11 : Nat, gK σ9 r11 = 0 → r11 ≠ 0 → ∀ σ14 : qS, σ14 = nA σ9 r11 20 10 → gK σ14 a0 = 9 ∧ (∀ σ18 : qS, σ18 = sP σ14 325 a0 r11 → (∀ r20 : Nat, gK σ18 r20 = 0 → r20 ≠ 0 → ∀ σ23 : qS, σ23 = nA σ18 r20 20 80 → gK σ23 a0 = 9 ∧ (∀ σ27 : qS, σ27 = sP σ23 326 a0 r20 → (∀ r29 : Nat, gK σ27 r29 = 0 → r29 ≠ 0 → ∀ σ32 : qS, σ32 = nA σ27 r29 21 10 → gK σ32 a0 = 9 ∧ (∀ σ36 : qS, σ36 = sP σ32 327 a0 r29 → (∀ r38 : Nat, gK σ36 r38 = 0 → r38 ≠ 0 → ∀ σ41 : qS, σ41 = nA σ36 r38 20 3 → gK σ41 a0 = 9 ∧ (∀ σ45 : qS, σ45 = sP σ41 328 a0 r38 → (∀ r47 : Nat, gK σ45 r47 = 0 → r47 ≠ 0 → ∀ σ50 : qS, σ50 = nA σ45 r47 20 50 → gK σ50 a0 = 9 ∧ (∀ σ54 : qS, σ54 = sP σ50 329 a0 r47 → (∀ r56 : Nat, gK σ54 r56 = 0 → r56 ≠ 0 → ∀ σ59 : qS, σ59 = nA σ54 r56 20 50 → gK σ59 a0 = 9 ∧ (∀ σ63 : qS, σ63 = sP σ59 330 a0 r56 → (∀ r65 : Nat, gK σ63 r65 = 0 → r65 ≠ 0 → ∀ σ68 : qS, σ68 = nA σ63 r65 20 50 → gK σ68 a0 = 9 ∧ (∀ σ72 : qS, σ72 = sP σ68 331 a0 r65 → (∀ r74 : Nat, gK σ72 r74 = 0 → r74 ≠ 0 → ∀ σ77 : qS, σ77 = nA σ72 r74 20 50 → gK σ77 a0 = 9 ∧ (∀ σ81 : qS, σ81 = sP σ77 332 a0 r74 → (∀ r83 : Nat, gK σ81 r83 = 0 → r83 ≠ 0 → ∀ σ86 : qS, σ86 = nA σ81 r83 20 50 → gK σ86 a0 = 9 ∧ (∀ σ90 : qS, σ90 = sP σ86 333 a0 r83 → (∀ r92 : Nat, gK σ90 r92 = 0 → r92 ≠ 0 → ∀ σ95 : qS, σ95 = nA σ90 r92 20 300 → gK σ95 a0 = 9 ∧ (∀ σ99 : qS, σ99 = sP σ95 334 a0 r92 → (∀ r101 : Nat, gK σ99 r101 = 0 → r101 ≠ 0 → ∀ σ104 : qS, σ104 = nA σ99 r101 20 50 → gK σ104 a0 = 9 ∧ (∀ σ108 : qS, σ108 = sP σ104 335 a0 r101 → (∀ r110 : Nat, gK σ108 r110 = 0 → r110 ≠ 0 → ∀ σ113 : qS, σ113 = nA σ108 r110 20 200 → gK σ113 a0 = 9 ∧ (∀ σ117 : qS, σ117 = sP σ113 336 a0 r110 → (∀ r119 : Nat, gK σ117 r119 = 0 → r119 ≠ 0 → ∀ σ122 : qS, σ122 = nA σ117 r119 20 80 → gK σ122 a0 = 9 ∧ (∀ σ126 : qS, σ126 = sP σ122 337 a0 r119 → (∀ r128 : Nat, gK σ126 r128 = 0 → r128 ≠ 0 → ∀ σ131 : qS, σ131 = nA σ126 r128 20 80 → gK σ131 a0 = 9 ∧ (∀ σ135 : qS, σ135 = sP σ131 338 a0 r128 → (∀ r137 : Nat, gK σ135 r137 = 0 → r137 ≠ 0 → ∀ σ140 : qS, σ140 = nA σ135 r137 20 80 → gK σ140 a0 = 9 ∧ (∀ σ144 : qS, σ144 = sP σ140 339 a0 r137 → (∀ r146 : Nat, gK σ144 r146 = 0 → r146 ≠ 0 → ∀ σ149 : qS, σ149 = nA σ144 r146 20 250 → gK σ149 a0 = 9 ∧ (∀ σ153 : qS, σ153 = sP σ149 340 a0 r146 → (∀ r155 : Nat, gK σ153 r155 = 0 → r155 ≠ 0 → ∀ σ158 : qS, σ158 = nA σ153 r155 20 320 → gK σ158 a0 = 9 ∧ (∀ σ162 : qS, σ162 = sP σ158 341 a0 r155 → (∀ r164 : Nat, gK σ162 r164 = 0 → r164 ≠ 0 → ∀ σ167 : qS, σ167 = nA σ162 r164 20 384 → gK σ167 a0 = 9 ∧ (∀ σ171 : qS, σ171 = sP σ167 342 a0 r164 → (∀ r173 : Nat, gK σ171 r173 = 0 → r173 ≠ 0 → ∀ σ176 : qS, σ176 = nA σ171 r173 20 10 → gK σ176 a0 = 9 ∧ (∀ σ180 : qS, σ180 = sP σ176 343 a0 r173 → (∀ r182 : Nat, gK σ180 r182 = 0 → r182 ≠ 0 → ∀ σ185 : qS, σ185 = nA σ180 r182 20 10 → gK σ185 a0 = 9 ∧ (∀ σ189 : qS, σ189 = sP σ185 344 a0 r182 → (∀ r191 : Nat, gK σ189 r191 = 0 → r191 ≠ 0 → ∀ σ194 : qS, σ194 = nA σ189 r191 20 10 → gK σ194 a0 = 9 ∧ (∀ σ198 : qS, σ198 = sP σ194 345 a0 r191 → (∀ r200 : Nat, gK σ198 r200 = 0 → r200 ≠ 0 → ∀ σ203 : qS, σ203 = nA σ198 r200 20 80 → gK σ203 a0 = 9 ∧ (∀ σ207 : qS, σ207 = sP σ203 346 a0 r200 → (∀ r209 : Nat, gK σ207 r209 = 0 → r209 ≠ 0 → ∀ σ212 : qS, σ212 = nA σ207 r209 20 3 → gK σ212 a0 = 9 ∧ (∀ σ216 : qS, σ216 = sP σ212 347 a0 r209 → (∀ r218 : Nat, gK σ216 r218 = 0 → r218 ≠ 0 → ∀ σ221 : qS, σ221 = nA σ216 r218 20 50 → gK σ221 a0 = 9 ∧ (∀ σ225 : qS, σ225 = sP σ221 348 a0 r218 → (∀ r227 : Nat, gK σ225 r227 = 0 → r227 ≠ 0 → ∀ σ230 : qS, σ230 = nA σ225 r227 20 50 → gK σ230 a0 = 9 ∧ (∀ σ234 : qS, σ234 = sP σ230 349 a0 r227 → (∀ r236 : Nat, gK σ234 r236 = 0 → r236 ≠ 0 → ∀ σ239 : qS, σ239 = nA σ234 r236 20 50 → gK σ239 a0 = 9 ∧ (∀ σ243 : qS, σ243 = sP σ239 350 a0 r236 → (∀ r245 : Nat, gK σ243 r245 = 0 → r245 ≠ 0 → ∀ σ248 : qS, σ248 = nA σ243 r245 20 200 → gK σ248 a0 = 9 ∧ (∀ σ252 : qS, σ252 = sP σ248 351 a0 r245 → (∀ r254 : Nat, gK σ252 r254 = 0 → r254 ≠ 0 → ∀ σ257 : qS, σ257 = nA σ252 r254 20 80 → gK σ257 a0 = 9 ∧ (∀ σ261 : qS, σ261 = sP σ257 352 a0 r254 → (∀ r263 : Nat, gK σ261 r263 = 0 → r263 ≠ 0 → ∀ σ266 : qS, σ266 = nA σ261 r263 20 250 → gK σ266 a0 = 9 ∧ (∀ σ270 : qS, σ270 = sP σ266 353 a0 r263 → (∀ σ272 : qS, σ272 = sI σ270 354 a0 ((-1)) → (∀ r274 : Nat, gK σ272 r274 = 0 → r274 ≠ 0 → ∀ σ277 : qS, σ277 = nA σ272 r274 20 8192 → gK σ277 a0 = 9 ∧ (∀ σ281 : qS, σ281 = sP σ277 356 a0 r274 → ∃ Inv284 : Nat → Int → qS → Prop, (∃ n : Nat, Inv284 n 0 σ281) ∧ ∀ (n285 : Nat) (x283 : Int) (σ290 : qS), Inv284 n285 x283 σ290 → (qR x283 ∧ ((3 ≤ x283 → Post σ290 (.inl none)) ∧ (¬ (3 ≤ x283) → gK σ290 a0 = 9 ∧ gK σ290 (gP σ290 328 a0) = 20 ∧ q_in σ290 (gP σ290 328 a0) x283 ∧ (∀ σ296 : qS, σ296 = sA σ290 (gP σ290 328 a0) x283 100 → ∀ x298 : Int, x298 = x283 + 1 → ∃ n300 : Nat, n300 < n285 ∧ Inv284 n300 x298 σ296)))))))))))))))))))))))))))))))))))))))))))))))))))))))))))))))))))) : qMet g l M_X8_init [vr a0] σ Post := by
  refine qMet_of hl (by decide +kernel) (Nat.le_of_ble_eq_true rfl) (List.forall_mem_cons.mpr ⟨trivial, fun _ h => nomatch h⟩) ?_
  show qW g l M_X8_init 31 11092 0 [some (vr a0), none] [] σ Post
  refine wp_aload_n dX8_init_0 rfl ?_
  obtain ⟨hz1, h⟩ := h
  refine wp_objInit dX8_init_1 wd_1214 hz1 (q_small_of (Nat.le_of_ble_eq_true rfl)) ⟨Nat.le_of_ble_eq_true rfl, Nat.le_of_ble_eq_true rfl⟩ ?_
  refine wp_aload_n dX8_init_4 rfl ?_
  refine wp_bipush dX8_init_5 (by decide) ?_
  refine wp_newarray (j := 0) dX8_init_7 (by decide) (by decide) (Nat.le_of_ble_eq_true rfl) (Nat.le_of_ble_eq_true rfl) (fun r2 hz3 hq4 => ?_)
  refine wp_less (ac2 := 30) (as2 := 11082) (Nat.le_of_ble_eq_true rfl) (Nat.le_of_ble_eq_true rfl) ?_
  replace h := h r2 hz3 hq4
  refine wp_nmS (fun σ5 hs6 => ?_)
  replace h := h σ5 hs6
  have hk7 : gK σ5 r2 = 20 := by rw [hs6]; exact if_pos rfl
  obtain ⟨hk8, h⟩ := h
  refine wp_put (v := vr r2) dX8_init_9 fs_RX8_7 (fun _ => rfl) hk8 rfl ?_
  refine wp_nmS (fun σ9 hs10 => ?_)
  replace h := h σ9 hs10
  refine wp_aload_n dX8_init_12 rfl ?_
  refine wp_bipush dX8_init_13 (by decide) ?_
  refine wp_newarray (j := 0) dX8_init_15 (by decide) (by decide) (Nat.le_of_ble_eq_true rfl) (Nat.le_of_ble_eq_true rfl) (fun r11 hz12 hq13 => ?_)
  refine wp_less (ac2 := 29) (as2 := 11072) (Nat.le_of_ble_eq_true rfl) (Nat.le_of_ble_eq_true rfl) ?_
  replace h := h r11 hz12 hq13
  refine wp_nmS (fun σ14 hs15 => ?_)
  replace h := h σ14 hs15
  have hk16 : gK σ14 r11 = 20 := by rw [hs15]; exact if_pos rfl
  obtain ⟨hk17, h⟩ := h
  refine wp_put (v := vr r11) dX8_init_17 fs_RX8_13 (fun _ => rfl) hk17 rfl ?_
  refine wp_nmS (fun σ18 hs19 => ?_)
  replace h := h σ18 hs19
  refine wp_aload_n dX8_init_20 rfl ?_
  refine wp_bipush dX8_init_21 (by decide) ?_
  refine wp_newarray (j := 0) dX8_init_23 (by decide) (by decide) (Nat.le_of_ble_eq_true rfl) (Nat.le_of_ble_eq_true rfl) (fun r20 hz21 hq22 => ?_)
  refine wp_less (ac2 := 28) (as2 := 10992) (Nat.le_of_ble_eq_true rfl) (Nat.le_of_ble_eq_true rfl) ?_
  replace h := h r20 hz21 hq22
  refine wp_nmS (fun σ23 hs24 => ?_)
  replace h := h σ23 hs24
  have hk25 : gK σ23 r20 = 20 := by rw [hs24]; exact if_pos rfl
  obtain ⟨hk26, h⟩ := h
  refine wp_put (v := vr r20) dX8_init_25 fs_RX8_16 (fun _ => rfl) hk26 rfl ?_
  refine wp_nmS (fun σ27 hs28 => ?_)
  replace h := h σ27 hs28
  refine wp_aload_n dX8_init_28 rfl ?_
  refine wp_bipush dX8_init_29 (by decide) ?_
  refine wp_newarray (j := 1) dX8_init_31 (by decide) (by decide) (Nat.le_of_ble_eq_true rfl) (Nat.le_of_ble_eq_true rfl) (fun r29 hz30 hq31 => ?_)
  refine wp_less (ac2 := 27) (as2 := 10982) (Nat.le_of_ble_eq_true rfl) (Nat.le_of_ble_eq_true rfl) ?_
  replace h := h r29 hz30 hq31
  refine wp_nmS (fun σ32 hs33 => ?_)
  replace h := h σ32 hs33
  have hk34 : gK σ32 r29 = 21 := by rw [hs33]; exact if_pos rfl
  obtain ⟨hk35, h⟩ := h
  refine wp_put (v := vr r29) dX8_init_33 fs_RX8_19 (fun _ => rfl) hk35 rfl ?_
  refine wp_nmS (fun σ36 hs37 => ?_)
  replace h := h σ36 hs37
  refine wp_aload_n dX8_init_36 rfl ?_
  refine wp_iconst dX8_init_37 ?_
  refine wp_newarray (j := 0) dX8_init_38 (by decide) (by decide) (Nat.le_of_ble_eq_true rfl) (Nat.le_of_ble_eq_true rfl) (fun r38 hz39 hq40 => ?_)
  refine wp_less (ac2 := 26) (as2 := 10979) (Nat.le_of_ble_eq_true rfl) (Nat.le_of_ble_eq_true rfl) ?_
  replace h := h r38 hz39 hq40
  refine wp_nmS (fun σ41 hs42 => ?_)
  replace h := h σ41 hs42
  have hk43 : gK σ41 r38 = 20 := by rw [hs42]; exact if_pos rfl
  obtain ⟨hk44, h⟩ := h
  refine wp_put (v := vr r38) dX8_init_40 fs_RX8_23 (fun _ => rfl) hk44 rfl ?_
  refine wp_nmS (fun σ45 hs46 => ?_)
  replace h := h σ45 hs46
  refine wp_aload_n dX8_init_43 rfl ?_
  refine wp_bipush dX8_init_44 (by decide) ?_
  refine wp_newarray (j := 0) dX8_init_46 (by decide) (by decide) (Nat.le_of_ble_eq_true rfl) (Nat.le_of_ble_eq_true rfl) (fun r47 hz48 hq49 => ?_)
  refine wp_less (ac2 := 25) (as2 := 10929) (Nat.le_of_ble_eq_true rfl) (Nat.le_of_ble_eq_true rfl) ?_
  replace h := h r47 hz48 hq49
  refine wp_nmS (fun σ50 hs51 => ?_)
  replace h := h σ50 hs51
  have hk52 : gK σ50 r47 = 20 := by rw [hs51]; exact if_pos rfl
  obtain ⟨hk53, h⟩ := h
  refine wp_put (v := vr r47) dX8_init_48 fs_RX8_26 (fun _ => rfl) hk53 rfl ?_
  refine wp_nmS (fun σ54 hs55 => ?_)
  replace h := h σ54 hs55
  refine wp_aload_n dX8_init_51 rfl ?_
  refine wp_bipush dX8_init_52 (by decide) ?_
  refine wp_newarray (j := 0) dX8_init_54 (by decide) (by decide) (Nat.le_of_ble_eq_true rfl) (Nat.le_of_ble_eq_true rfl) (fun r56 hz57 hq58 => ?_)
  refine wp_less (ac2 := 24) (as2 := 10879) (Nat.le_of_ble_eq_true rfl) (Nat.le_of_ble_eq_true rfl) ?_
  replace h := h r56 hz57 hq58
  refine wp_nmS (fun σ59 hs60 => ?_)
  replace h := h σ59 hs60
  have hk61 : gK σ59 r56 = 20 := by rw [hs60]; exact if_pos rfl
  obtain ⟨hk62, h⟩ := h
  refine wp_put (v := vr r56) dX8_init_56 fs_RX8_29 (fun _ => rfl) hk62 rfl ?_
  refine wp_nmS (fun σ63 hs64 => ?_)
  replace h := h σ63 hs64
  refine wp_aload_n dX8_init_59 rfl ?_
  refine wp_bipush dX8_init_60 (by decide) ?_
  refine wp_newarray (j := 0) dX8_init_62 (by decide) (by decide) (Nat.le_of_ble_eq_true rfl) (Nat.le_of_ble_eq_true rfl) (fun r65 hz66 hq67 => ?_)
  refine wp_less (ac2 := 23) (as2 := 10829) (Nat.le_of_ble_eq_true rfl) (Nat.le_of_ble_eq_true rfl) ?_
  replace h := h r65 hz66 hq67
  refine wp_nmS (fun σ68 hs69 => ?_)
  replace h := h σ68 hs69
  have hk70 : gK σ68 r65 = 20 := by rw [hs69]; exact if_pos rfl
  obtain ⟨hk71, h⟩ := h
  refine wp_put (v := vr r65) dX8_init_64 fs_RX8_32 (fun _ => rfl) hk71 rfl ?_
  refine wp_nmS (fun σ72 hs73 => ?_)
  replace h := h σ72 hs73
  refine wp_aload_n dX8_init_67 rfl ?_
  refine wp_bipush dX8_init_68 (by decide) ?_
  refine wp_newarray (j := 0) dX8_init_70 (by decide) (by decide) (Nat.le_of_ble_eq_true rfl) (Nat.le_of_ble_eq_true rfl) (fun r74 hz75 hq76 => ?_)
  refine wp_less (ac2 := 22) (as2 := 10779) (Nat.le_of_ble_eq_true rfl) (Nat.le_of_ble_eq_true rfl) ?_
  replace h := h r74 hz75 hq76
  refine wp_nmS (fun σ77 hs78 => ?_)
  replace h := h σ77 hs78
  have hk79 : gK σ77 r74 = 20 := by rw [hs78]; exact if_pos rfl
  obtain ⟨hk80, h⟩ := h
  refine wp_put (v := vr r74) dX8_init_72 fs_RX8_35 (fun _ => rfl) hk80 rfl ?_
  refine wp_nmS (fun σ81 hs82 => ?_)
  replace h := h σ81 hs82
  refine wp_aload_n dX8_init_75 rfl ?_
  refine wp_bipush dX8_init_76 (by decide) ?_
  refine wp_newarray (j := 0) dX8_init_78 (by decide) (by decide) (Nat.le_of_ble_eq_true rfl) (Nat.le_of_ble_eq_true rfl) (fun r83 hz84 hq85 => ?_)
  refine wp_less (ac2 := 21) (as2 := 10729) (Nat.le_of_ble_eq_true rfl) (Nat.le_of_ble_eq_true rfl) ?_
  replace h := h r83 hz84 hq85
  refine wp_nmS (fun σ86 hs87 => ?_)
  replace h := h σ86 hs87
  have hk88 : gK σ86 r83 = 20 := by rw [hs87]; exact if_pos rfl
  obtain ⟨hk89, h⟩ := h
  refine wp_put (v := vr r83) dX8_init_80 fs_RX8_38 (fun _ => rfl) hk89 rfl ?_
  refine wp_nmS (fun σ90 hs91 => ?_)
  replace h := h σ90 hs91
  refine wp_aload_n dX8_init_83 rfl ?_
  refine wp_sipush dX8_init_84 (by decide) ?_
  refine wp_newarray (j := 0) dX8_init_87 (by decide) (by decide) (Nat.le_of_ble_eq_true rfl) (Nat.le_of_ble_eq_true rfl) (fun r92 hz93 hq94 => ?_)
  refine wp_less (ac2 := 20) (as2 := 10429) (Nat.le_of_ble_eq_true rfl) (Nat.le_of_ble_eq_true rfl) ?_
  replace h := h r92 hz93 hq94
  refine wp_nmS (fun σ95 hs96 => ?_)
  replace h := h σ95 hs96
  have hk97 : gK σ95 r92 = 20 := by rw [hs96]; exact if_pos rfl
  obtain ⟨hk98, h⟩ := h
  refine wp_put (v := vr r92) dX8_init_89 fs_RX8_41 (fun _ => rfl) hk98 rfl ?_
  refine wp_nmS (fun σ99 hs100 => ?_)
  replace h := h σ99 hs100
  refine wp_aload_n dX8_init_92 rfl ?_
  refine wp_bipush dX8_init_93 (by decide) ?_
  refine wp_newarray (j := 0) dX8_init_95 (by decide) (by decide) (Nat.le_of_ble_eq_true rfl) (Nat.le_of_ble_eq_true rfl) (fun r101 hz102 hq103 => ?_)
  refine wp_less (ac2 := 19) (as2 := 10379) (Nat.le_of_ble_eq_true rfl) (Nat.le_of_ble_eq_true rfl) ?_
  replace h := h r101 hz102 hq103
  refine wp_nmS (fun σ104 hs105 => ?_)
  replace h := h σ104 hs105
  have hk106 : gK σ104 r101 = 20 := by rw [hs105]; exact if_pos rfl
  obtain ⟨hk107, h⟩ := h
  refine wp_put (v := vr r101) dX8_init_97 fs_RX8_44 (fun _ => rfl) hk107 rfl ?_
  refine wp_nmS (fun σ108 hs109 => ?_)
  replace h := h σ108 hs109
  refine wp_aload_n dX8_init_100 rfl ?_
  refine wp_sipush dX8_init_101 (by decide) ?_
  refine wp_newarray (j := 0) dX8_init_104 (by decide) (by decide) (Nat.le_of_ble_eq_true rfl) (Nat.le_of_ble_eq_true rfl) (fun r110 hz111 hq112 => ?_)
  refine wp_less (ac2 := 18) (as2 := 10179) (Nat.le_of_ble_eq_true rfl) (Nat.le_of_ble_eq_true rfl) ?_
  replace h := h r110 hz111 hq112
  refine wp_nmS (fun σ113 hs114 => ?_)
  replace h := h σ113 hs114
  have hk115 : gK σ113 r110 = 20 := by rw [hs114]; exact if_pos rfl
  obtain ⟨hk116, h⟩ := h
  refine wp_put (v := vr r110) dX8_init_106 fs_RX8_47 (fun _ => rfl) hk116 rfl ?_
  refine wp_nmS (fun σ117 hs118 => ?_)
  replace h := h σ117 hs118
  refine wp_aload_n dX8_init_109 rfl ?_
  refine wp_bipush dX8_init_110 (by decide) ?_
  refine wp_newarray (j := 0) dX8_init_112 (by decide) (by decide) (Nat.le_of_ble_eq_true rfl) (Nat.le_of_ble_eq_true rfl) (fun r119 hz120 hq121 => ?_)
  refine wp_less (ac2 := 17) (as2 := 10099) (Nat.le_of_ble_eq_true rfl) (Nat.le_of_ble_eq_true rfl) ?_
  replace h := h r119 hz120 hq121
  refine wp_nmS (fun σ122 hs123 => ?_)
  replace h := h σ122 hs123
  have hk124 : gK σ122 r119 = 20 := by rw [hs123]; exact if_pos rfl
  obtain ⟨hk125, h⟩ := h
  refine wp_put (v := vr r119) dX8_init_114 fs_RX8_50 (fun _ => rfl) hk125 rfl ?_
  refine wp_nmS (fun σ126 hs127 => ?_)
  replace h := h σ126 hs127
  refine wp_aload_n dX8_init_117 rfl ?_
  refine wp_bipush dX8_init_118 (by decide) ?_
  refine wp_newarray (j := 0) dX8_init_120 (by decide) (by decide) (Nat.le_of_ble_eq_true rfl) (Nat.le_of_ble_eq_true rfl) (fun r128 hz129 hq130 => ?_)
  refine wp_less (ac2 := 16) (as2 := 10019) (Nat.le_of_ble_eq_true rfl) (Nat.le_of_ble_eq_true rfl) ?_
  replace h := h r128 hz129 hq130
  refine wp_nmS (fun σ131 hs132 => ?_)
  replace h := h σ131 hs132
  have hk133 : gK σ131 r128 = 20 := by rw [hs132]; exact if_pos rfl
  obtain ⟨hk134, h⟩ := h
  refine wp_put (v := vr r128) dX8_init_122 fs_RX8_53 (fun _ => rfl) hk134 rfl ?_
  refine wp_nmS (fun σ135 hs136 => ?_)
  replace h := h σ135 hs136
  refine wp_aload_n dX8_init_125 rfl ?_
  refine wp_bipush dX8_init_126 (by decide) ?_
  refine wp_newarray (j := 0) dX8_init_128 (by decide) (by decide) (Nat.le_of_ble_eq_true rfl) (Nat.le_of_ble_eq_true rfl) (fun r137 hz138 hq139 => ?_)
  refine wp_less (ac2 := 15) (as2 := 9939) (Nat.le_of_ble_eq_true rfl) (Nat.le_of_ble_eq_true rfl) ?_
  replace h := h r137 hz138 hq139
  refine wp_nmS (fun σ140 hs141 => ?_)
  replace h := h σ140 hs141
  have hk142 : gK σ140 r137 = 20 := by rw [hs141]; exact if_pos rfl
  obtain ⟨hk143, h⟩ := h
  refine wp_put (v := vr r137) dX8_init_130 fs_RX8_56 (fun _ => rfl) hk143 rfl ?_
  refine wp_nmS (fun σ144 hs145 => ?_)
  replace h := h σ144 hs145
  refine wp_aload_n dX8_init_133 rfl ?_
  refine wp_sipush dX8_init_134 (by decide) ?_
  refine wp_newarray (j := 0) dX8_init_137 (by decide) (by decide) (Nat.le_of_ble_eq_true rfl) (Nat.le_of_ble_eq_true rfl) (fun r146 hz147 hq148 => ?_)
  refine wp_less (ac2 := 14) (as2 := 9689) (Nat.le_of_ble_eq_true rfl) (Nat.le_of_ble_eq_true rfl) ?_
  replace h := h r146 hz147 hq148
  refine wp_nmS (fun σ149 hs150 => ?_)
  replace h := h σ149 hs150
  have hk151 : gK σ149 r146 = 20 := by rw [hs150]; exact if_pos rfl
  obtain ⟨hk152, h⟩ := h
  refine wp_put (v := vr r146) dX8_init_139 fs_RX8_59 (fun _ => rfl) hk152 rfl ?_
  refine wp_nmS (fun σ153 hs154 => ?_)
  replace h := h σ153 hs154
  refine wp_aload_n dX8_init_142 rfl ?_
  refine wp_sipush dX8_init_143 (by decide) ?_
  refine wp_newarray (j := 0) dX8_init_146 (by decide) (by decide) (Nat.le_of_ble_eq_true rfl) (Nat.le_of_ble_eq_true rfl) (fun r155 hz156 hq157 => ?_)
  refine wp_less (ac2 := 13) (as2 := 9369) (Nat.le_of_ble_eq_true rfl) (Nat.le_of_ble_eq_true rfl) ?_
  replace h := h r155 hz156 hq157
  refine wp_nmS (fun σ158 hs159 => ?_)
  replace h := h σ158 hs159
  have hk160 : gK σ158 r155 = 20 := by rw [hs159]; exact if_pos rfl
  obtain ⟨hk161, h⟩ := h
  refine wp_put (v := vr r155) dX8_init_148 fs_RX8_62 (fun _ => rfl) hk161 rfl ?_
  refine wp_nmS (fun σ162 hs163 => ?_)
  replace h := h σ162 hs163
  refine wp_aload_n dX8_init_151 rfl ?_
  refine wp_sipush dX8_init_152 (by decide) ?_
  refine wp_newarray (j := 0) dX8_init_155 (by decide) (by decide) (Nat.le_of_ble_eq_true rfl) (Nat.le_of_ble_eq_true rfl) (fun r164 hz165 hq166 => ?_)
  refine wp_less (ac2 := 12) (as2 := 8985) (Nat.le_of_ble_eq_true rfl) (Nat.le_of_ble_eq_true rfl) ?_
  replace h := h r164 hz165 hq166
  refine wp_nmS (fun σ167 hs168 => ?_)
  replace h := h σ167 hs168
  have hk169 : gK σ167 r164 = 20 := by rw [hs168]; exact if_pos rfl
  obtain ⟨hk170, h⟩ := h
  refine wp_put (v := vr r164) dX8_init_157 fs_RX8_65 (fun _ => rfl) hk170 rfl ?_
  refine wp_nmS (fun σ171 hs172 => ?_)
  replace h := h σ171 hs172
  refine wp_aload_n dX8_init_160 rfl ?_
  refine wp_bipush dX8_init_161 (by decide) ?_
  refine wp_newarray (j := 0) dX8_init_163 (by decide) (by decide) (Nat.le_of_ble_eq_true rfl) (Nat.le_of_ble_eq_true rfl) (fun r173 hz174 hq175 => ?_)
  refine wp_less (ac2 := 11) (as2 := 8975) (Nat.le_of_ble_eq_true rfl) (Nat.le_of_ble_eq_true rfl) ?_
  replace h := h r173 hz174 hq175
  refine wp_nmS (fun σ176 hs177 => ?_)
  replace h := h σ176 hs177
  have hk178 : gK σ176 r173 = 20 := by rw [hs177]; exact if_pos rfl
  obtain ⟨hk179, h⟩ := h
  refine wp_put (v := vr r173) dX8_init_165 fs_RX8_68 (fun _ => rfl) hk179 rfl ?_
  refine wp_nmS (fun σ180 hs181 => ?_)
  replace h := h σ180 hs181
  refine wp_aload_n dX8_init_168 rfl ?_
  refine wp_bipush dX8_init_169 (by decide) ?_
  refine wp_newarray (j := 0) dX8_init_171 (by decide) (by decide) (Nat.le_of_ble_eq_true rfl) (Nat.le_of_ble_eq_true rfl) (fun r182 hz183 hq184 => ?_)
  refine wp_less (ac2 := 10) (as2 := 8965) (Nat.le_of_ble_eq_true rfl) (Nat.le_of_ble_eq_true rfl) ?_
  replace h := h r182 hz183 hq184
  refine wp_nmS (fun σ185 hs186 => ?_)
  replace h := h σ185 hs186
  have hk187 : gK σ185 r182 = 20 := by rw [hs186]; exact if_pos rfl
  obtain ⟨hk188, h⟩ := h
  refine wp_put (v := vr r182) dX8_init_173 fs_RX8_71 (fun _ => rfl) hk188 rfl ?_
  refine wp_nmS (fun σ189 hs190 => ?_)
  replace h := h σ189 hs190
  refine wp_aload_n dX8_init_176 rfl ?_
  refine wp_bipush dX8_init_177 (by decide) ?_
  refine wp_newarray (j := 0) dX8_init_179 (by decide) (by decide) (Nat.le_of_ble_eq_true rfl) (Nat.le_of_ble_eq_true rfl) (fun r191 hz192 hq193 => ?_)
  refine wp_less (ac2 := 9) (as2 := 8955) (Nat.le_of_ble_eq_true rfl) (Nat.le_of_ble_eq_true rfl) ?_
  replace h := h r191 hz192 hq193
  refine wp_nmS (fun σ194 hs195 => ?_)
  replace h := h σ194 hs195
  have hk196 : gK σ194 r191 = 20 := by rw [hs195]; exact if_pos rfl
  obtain ⟨hk197, h⟩ := h
  refine wp_put (v := vr r191) dX8_init_181 fs_RX8_74 (fun _ => rfl) hk197 rfl ?_
  refine wp_nmS (fun σ198 hs199 => ?_)
  replace h := h σ198 hs199
  refine wp_aload_n dX8_init_184 rfl ?_
  refine wp_bipush dX8_init_185 (by decide) ?_
  refine wp_newarray (j := 0) dX8_init_187 (by decide) (by decide) (Nat.le_of_ble_eq_true rfl) (Nat.le_of_ble_eq_true rfl) (fun r200 hz201 hq202 => ?_)
  refine wp_less (ac2 := 8) (as2 := 8875) (Nat.le_of_ble_eq_true rfl) (Nat.le_of_ble_eq_true rfl) ?_
  replace h := h r200 hz201 hq202
  refine wp_nmS (fun σ203 hs204 => ?_)
  replace h := h σ203 hs204
  have hk205 : gK σ203 r200 = 20 := by rw [hs204]; exact if_pos rfl
  obtain ⟨hk206, h⟩ := h
  refine wp_put (v := vr r200) dX8_init_189 fs_RX8_77 (fun _ => rfl) hk206 rfl ?_
  refine wp_nmS (fun σ207 hs208 => ?_)
  replace h := h σ207 hs208
  refine wp_aload_n dX8_init_192 rfl ?_
  refine wp_iconst dX8_init_193 ?_
  refine wp_newarray (j := 0) dX8_init_194 (by decide) (by decide) (Nat.le_of_ble_eq_true rfl) (Nat.le_of_ble_eq_true rfl) (fun r209 hz210 hq211 => ?_)
  refine wp_less (ac2 := 7) (as2 := 8872) (Nat.le_of_ble_eq_true rfl) (Nat.le_of_ble_eq_true rfl) ?_
  replace h := h r209 hz210 hq211
  refine wp_nmS (fun σ212 hs213 => ?_)
  replace h := h σ212 hs213
  have hk214 : gK σ212 r209 = 20 := by rw [hs213]; exact if_pos rfl
  obtain ⟨hk215, h⟩ := h
  refine wp_put (v := vr r209) dX8_init_196 fs_RX8_80 (fun _ => rfl) hk215 rfl ?_
  refine wp_nmS (fun σ216 hs217 => ?_)
  replace h := h σ216 hs217
  refine wp_aload_n dX8_init_199 rfl ?_
  refine wp_bipush dX8_init_200 (by decide) ?_
  refine wp_newarray (j := 0) dX8_init_202 (by decide) (by decide) (Nat.le_of_ble_eq_true rfl) (Nat.le_of_ble_eq_true rfl) (fun r218 hz219 hq220 => ?_)
  refine wp_less (ac2 := 6) (as2 := 8822) (Nat.le_of_ble_eq_true rfl) (Nat.le_of_ble_eq_true rfl) ?_
  replace h := h r218 hz219 hq220
  refine wp_nmS (fun σ221 hs222 => ?_)
  replace h := h σ221 hs222
  have hk223 : gK σ221 r218 = 20 := by rw [hs222]; exact if_pos rfl
  obtain ⟨hk224, h⟩ := h
  refine wp_put (v := vr r218) dX8_init_204 fs_RX8_83 (fun _ => rfl) hk224 rfl ?_
  refine wp_nmS (fun σ225 hs226 => ?_)
  replace h := h σ225 hs226
  refine wp_aload_n dX8_init_207 rfl ?_
  refine wp_bipush dX8_init_208 (by decide) ?_
  refine wp_newarray (j := 0) dX8_init_210 (by decide) (by decide) (Nat.le_of_ble_eq_true rfl) (Nat.le_of_ble_eq_true rfl) (fun r227 hz228 hq229 => ?_)
  refine wp_less (ac2 := 5) (as2 := 8772) (Nat.le_of_ble_eq_true rfl) (Nat.le_of_ble_eq_true rfl) ?_
  replace h := h r227 hz228 hq229
  refine wp_nmS (fun σ230 hs231 => ?_)
  replace h := h σ230 hs231
  have hk232 : gK σ230 r227 = 20 := by rw [hs231]; exact if_pos rfl
  obtain ⟨hk233, h⟩ := h
  refine wp_put (v := vr r227) dX8_init_212 fs_RX8_86 (fun _ => rfl) hk233 rfl ?_
  refine wp_nmS (fun σ234 hs235 => ?_)
  replace h := h σ234 hs235
  refine wp_aload_n dX8_init_215 rfl ?_
  refine wp_bipush dX8_init_216 (by decide) ?_
  refine wp_newarray (j := 0) dX8_init_218 (by decide) (by decide) (Nat.le_of_ble_eq_true rfl) (Nat.le_of_ble_eq_true rfl) (fun r236 hz237 hq238 => ?_)
  refine wp_less (ac2 := 4) (as2 := 8722) (Nat.le_of_ble_eq_true rfl) (Nat.le_of_ble_eq_true rfl) ?_
  replace h := h r236 hz237 hq238
  refine wp_nmS (fun σ239 hs240 => ?_)
  replace h := h σ239 hs240
  have hk241 : gK σ239 r236 = 20 := by rw [hs240]; exact if_pos rfl
  obtain ⟨hk242, h⟩ := h
  refine wp_put (v := vr r236) dX8_init_220 fs_RX8_89 (fun _ => rfl) hk242 rfl ?_
  refine wp_nmS (fun σ243 hs244 => ?_)
  replace h := h σ243 hs244
  refine wp_aload_n dX8_init_223 rfl ?_
  refine wp_sipush dX8_init_224 (by decide) ?_
  refine wp_newarray (j := 0) dX8_init_227 (by decide) (by decide) (Nat.le_of_ble_eq_true rfl) (Nat.le_of_ble_eq_true rfl) (fun r245 hz246 hq247 => ?_)
  refine wp_less (ac2 := 3) (as2 := 8522) (Nat.le_of_ble_eq_true rfl) (Nat.le_of_ble_eq_true rfl) ?_
  replace h := h r245 hz246 hq247
  refine wp_nmS (fun σ248 hs249 => ?_)
  replace h := h σ248 hs249
  have hk250 : gK σ248 r245 = 20 := by rw [hs249]; exact if_pos rfl
  obtain ⟨hk251, h⟩ := h
  refine wp_put (v := vr r245) dX8_init_229 fs_RX8_92 (fun _ => rfl) hk251 rfl ?_
  refine wp_nmS (fun σ252 hs253 => ?_)
  replace h := h σ252 hs253
  refine wp_aload_n dX8_init_232 rfl ?_
  refine wp_bipush dX8_init_233 (by decide) ?_
  refine wp_newarray (j := 0) dX8_init_235 (by decide) (by decide) (Nat.le_of_ble_eq_true rfl) (Nat.le_of_ble_eq_true rfl) (fun r254 hz255 hq256 => ?_)
  refine wp_less (ac2 := 2) (as2 := 8442) (Nat.le_of_ble_eq_true rfl) (Nat.le_of_ble_eq_true rfl) ?_
  replace h := h r254 hz255 hq256
  refine wp_nmS (fun σ257 hs258 => ?_)
  replace h := h σ257 hs258
  have hk259 : gK σ257 r254 = 20 := by rw [hs258]; exact if_pos rfl
  obtain ⟨hk260, h⟩ := h
  refine wp_put (v := vr r254) dX8_init_237 fs_RX8_95 (fun _ => rfl) hk260 rfl ?_
  refine wp_nmS (fun σ261 hs262 => ?_)
  replace h := h σ261 hs262
  refine wp_aload_n dX8_init_240 rfl ?_
  refine wp_sipush dX8_init_241 (by decide) ?_
  refine wp_newarray (j := 0) dX8_init_244 (by decide) (by decide) (Nat.le_of_ble_eq_true rfl) (Nat.le_of_ble_eq_true rfl) (fun r263 hz264 hq265 => ?_)
  refine wp_less (ac2 := 1) (as2 := 8192) (Nat.le_of_ble_eq_true rfl) (Nat.le_of_ble_eq_true rfl) ?_
  replace h := h r263 hz264 hq265
  refine wp_nmS (fun σ266 hs267 => ?_)
  replace h := h σ266 hs267
  have hk268 : gK σ266 r263 = 20 := by rw [hs267]; exact if_pos rfl
  obtain ⟨hk269, h⟩ := h
  refine wp_put (v := vr r263) dX8_init_246 fs_RX8_98 (fun _ => rfl) hk269 rfl ?_
  refine wp_nmS (fun σ270 hs271 => ?_)
  replace h := h σ270 hs271
  refine wp_aload_n dX8_init_249 rfl ?_
  refine wp_iconst dX8_init_250 ?_
  refine wp_put (v := vi ((-1))) dX8_init_251 fs_RX8_101 (fun _ => rfl) (by rw [hs271]; exact hk269) (Or.inl rfl) ?_
  refine wp_nmS (fun σ272 hs273 => ?_)
  replace h := h σ272 hs273
  refine wp_aload_n dX8_init_254 rfl ?_
  refine wp_sipush dX8_init_255 (by decide) ?_
  refine wp_newarray (j := 0) dX8_init_258 (by decide) (by decide) (Nat.le_of_ble_eq_true rfl) (Nat.le_of_ble_eq_true rfl) (fun r274 hz275 hq276 => ?_)
  refine wp_less (ac2 := 0) (as2 := 0) (Nat.le_of_ble_eq_true rfl) (Nat.le_of_ble_eq_true rfl) ?_
  replace h := h r274 hz275 hq276
  refine wp_nmS (fun σ277 hs278 => ?_)
  replace h := h σ277 hs278
  have hk279 : gK σ277 r274 = 20 := by rw [hs278]; exact if_pos rfl
  obtain ⟨hk280, h⟩ := h
  refine wp_put (v := vr r274) dX8_init_260 fs_RX8_105 (fun _ => rfl) hk280 rfl ?_
  refine wp_nmS (fun σ281 hs282 => ?_)
  replace h := h σ281 hs282
  refine wp_iconst dX8_init_263 ?_
  refine wp_istore_n' (ls' := [some (vr a0), some (vi 0)]) dX8_init_264 (Nat.le_of_ble_eq_true rfl) rfl ?_
  obtain ⟨Inv284, ⟨n285_0, h0289⟩, hb288⟩ := h
  have loop301 : ∀ (n285 : Nat) (x283 : Int) (σ290 : qS), Inv284 n285 x283 σ290 → qW g l M_X8_init 0 0 265 [some (vr a0), some (vi x283)] [] σ290 Post := by
    intro n285
    induction n285 using Nat.strongRecOn with
    | ind n285 ih286 =>
      intro x283 σ290 hI287
      have h := hb288 n285 x283 σ290 hI287
      refine wp_iload_n dX8_init_265 rfl ?_
      refine wp_iconst dX8_init_266 ?_
      obtain ⟨hr291, h⟩ := h
      refine wp_icmp_ge (tgt := 284) dX8_init_267 (by decide) hr291 (by unfold qR; omega) (fun c292 => ?_) (fun c292 => ?_)
      · replace h := h.1 c292
        exact wp_ret_v dX8_init_284 rfl h
      · replace h := h.2 c292
        refine wp_aload_n dX8_init_270 rfl ?_
        obtain ⟨hk293, h⟩ := h
        refine wp_get (v := vr (gP σ290 328 a0)) dX8_init_271 fl_RX8_23 hk293 rfl ?_
        refine wp_iload_n dX8_init_274 rfl ?_
        refine wp_bipush dX8_init_275 (by decide) ?_
        obtain ⟨hk294, hi295, h⟩ := h
        refine wp_iastore dX8_init_277 hk294 hi295 ?_
        refine wp_nmS (fun σ296 hs297 => ?_)
        replace h := h σ296 hs297
        refine wp_nmT (x283 + 1) (fun x298 hx299 => ?_)
        replace h := h x298 hx299
        refine wp_iinc' (z' := x298) (ls' := [some (vr a0), some (vi x298)]) dX8_init_278 (Nat.le_of_ble_eq_true rfl) rfl hx299 rfl ?_
        refine wp_goto (tgt := 265) dX8_init_281 (by decide) ?_
        obtain ⟨n300, hlt, h⟩ := h
        exact wp_lsub (ls' := [some (vr a0), some (vi x298)]) ⟨rfl, ⟨rfl, trivial⟩⟩ (ih286 n300 hlt _ _ h)
  exact wp_lsub (ls' := [some (vr a0), some (vi 0)]) ⟨rfl, ⟨rfl, trivial⟩⟩ (loop301 _ _ _ h0289)

set_option maxRecDepth 100000 in
set_option maxHeartbeats 4000000 in
theorem wm_X8_thrown {g : qG} {l : Launch} (hl : l.stackTraces = false) {a0 : Nat} {σ : qS} {Post : qS → qRs → Prop}
    (h : gK σ a0 = 9 ∧ Post σ (.inl (some (vi (gI σ 320 a0))))) : qMet g l M_X8_thrown [vr a0] σ Post := by
  refine qMet_of hl (by decide +kernel) (Nat.le_of_ble_eq_true rfl) (List.forall_mem_cons.mpr ⟨trivial, fun _ h => nomatch h⟩) ?_
  show qW g l M_X8_thrown 0 0 0 [some (vr a0)] [] σ Post
  refine wp_aload_n dX8_thrown_0 rfl ?_
  obtain ⟨hk1, h⟩ := h
  refine wp_get (v := vi (gI σ 320 a0)) dX8_thrown_1 fl_RX8_108 hk1 rfl ?_
  exact wp_ret_i dX8_thrown_4 rfl rfl h

set_option maxRecDepth 100000 in
set_option maxHeartbeats 4000000 in
theorem wm_X8_fails {g : qG} {l : Launch} (hl : l.stackTraces = false) {a0 : Nat} {a1 : Int} {σ : qS} {Post : qS → qRs → Prop}
    (h : gK σ a0 = 9 ∧ (∀ σ2 : qS, σ2 = sI σ 320 a0 a1 → Post σ2 (.inl (some (vi 0))))) : qMet g l M_X8_fails [vr a0, vi a1] σ Post := by
  refine qMet_of hl (by decide +kernel) (Nat.le_of_ble_eq_true rfl) (List.forall_mem_cons.mpr ⟨trivial, List.forall_mem_cons.mpr ⟨trivial, fun _ h => nomatch h⟩⟩) ?_
  show qW g l M_X8_fails 0 0 0 [some (vr a0), some (vi a1)] [] σ Post
  refine wp_aload_n dX8_fails_0 rfl ?_
  refine wp_iload_n dX8_fails_1 rfl ?_
  obtain ⟨hk1, h⟩ := h
  refine wp_put (v := vi a1) dX8_fails_2 fs_RX8_108 (fun h => absurd h (by decide)) hk1 (Or.inl rfl) ?_
  refine wp_nmS (fun σ2 hs3 => ?_)
  replace h := h σ2 hs3
  refine wp_iconst dX8_fails_5 ?_
  exact wp_ret_i dX8_fails_6 rfl rfl h

set_option maxRecDepth 100000 in
set_option maxHeartbeats 4000000 in
theorem wm_X8_in {g : qG} {l : Launch} (hl : l.stackTraces = false) {a0 : Int} {a1 : Int} {a2 : Int} {σ : qS} {Post : qS → qRs → Prop}
    (h : ((qR a0 ∧ qR a1 ∧ (¬ (a0 < a1) → qR a2)) ∧ ∀ v6 : Int, v6 = (if a0 < a1 then 0 else (if a2 < a0 then 0 else 1)) → Post σ (.inl (some (vi v6))))) : qMet g l M_X8_in [vi a0, vi a1, vi a2] σ Post := by
  refine qMet_of hl (by decide +kernel) (Nat.le_of_ble_eq_true rfl) (List.forall_mem_cons.mpr ⟨trivial, List.forall_mem_cons.mpr ⟨trivial, List.forall_mem_cons.mpr ⟨trivial, fun _ h => nomatch h⟩⟩⟩) ?_
  show qW g l M_X8_in 0 0 0 [some (vi a0), some (vi a1), some (vi a2)] [] σ Post
  refine wp_iload_n dX8_in_0 rfl ?_
  refine wp_iload_n dX8_in_1 rfl ?_
  obtain ⟨h, hk9⟩ := h
  have key8 : ∀ v6 : Int, v6 = (if a0 < a1 then 0 else (if a2 < a0 then 0 else 1)) → qW g l M_X8_in 0 0 15 [some (vi a0), some (vi a1), some (vi a2)] [vi v6] σ Post := by
    intro v6 hv7
    have h := hk9 v6 hv7
    have hr10 : qR v6 := by (rw [hv7]; unfold qR; repeat' split) <;> omega
    have hz11 : v6 = 0 ∨ v6 = 1 := by (rw [hv7]; repeat' split) <;> first | exact Or.inl rfl | exact Or.inr rfl
    exact wp_ret_z dX8_in_15 rfl hz11 h
  obtain ⟨hr12, hr13, h⟩ := h
  refine wp_icmp_lt (tgt := 14) dX8_in_2 (by decide) hr12 hr13 (fun c14 => ?_) (fun c14 => ?_)
  · refine wp_iconst dX8_in_14 ?_
    exact key8 _ (by rw [if_pos c14])
  · replace h := h c14
    refine wp_iload_n dX8_in_5 rfl ?_
    refine wp_iload_n dX8_in_6 rfl ?_
    have hr15 := h
    refine wp_icmp_gt (tgt := 14) dX8_in_7 (by decide) hr12 hr15 (fun c16 => ?_) (fun c16 => ?_)
    · refine wp_iconst dX8_in_14 ?_
      exact key8 _ (by rw [if_neg c14, if_pos c16])
    · refine wp_iconst dX8_in_10 ?_
      refine wp_goto (tgt := 15) dX8_in_11 (by decide) ?_
      exact key8 _ (by rw [if_neg c14, if_neg c16])

set_option maxRecDepth 100000 in
set_option maxHeartbeats 4000000 in
theorem wm_X8_isPage {g : qG} {l : Launch} (hl : l.stackTraces = false) {a0 : Nat} {a1 : Int} {σ : qS} {Post : qS → qRs → Prop}
    (h : gK σ a0 = 9 ∧ (∃ v3 : Int, qMet g l M_X8_in [vi a1, vi 0, vi ((gI σ 321 a0) - 1)] σ (qPi σ v3) ∧ ((v3 = 0 ∨ v3 = 1) ∧ Post σ (.inl (some (vi v3)))))) : qMet g l M_X8_isPage [vr a0, vi a1] σ Post := by
  refine qMet_of hl (by decide +kernel) (Nat.le_of_ble_eq_true rfl) (List.forall_mem_cons.mpr ⟨trivial, List.forall_mem_cons.mpr ⟨trivial, fun _ h => nomatch h⟩⟩) ?_
  show qW g l M_X8_isPage 0 0 0 [some (vr a0), some (vi a1)] [] σ Post
  refine wp_iload_n dX8_isPage_0 rfl ?_
  refine wp_iconst dX8_isPage_1 ?_
  refine wp_aload_n dX8_isPage_2 rfl ?_
  obtain ⟨hk1, h⟩ := h
  refine wp_get (v := vi (gI σ 321 a0)) dX8_isPage_3 fl_RX8_111 hk1 rfl ?_
  refine wp_iconst dX8_isPage_6 ?_
  refine wp_isub dX8_isPage_7 ?_
  obtain ⟨v3, hm2, h⟩ := h
  refine wp_callS (M' := M_X8_in) (As := [vi a1, vi 0, vi ((gI σ 321 a0) - 1)]) (st := []) dX8_isPage_8 cee_X8_in np_X8_in rfl ⟨Nat.le_of_ble_eq_true rfl, Nat.le_of_ble_eq_true rfl, Nat.le_of_ble_eq_true rfl, Nat.le_of_ble_eq_true rfl⟩ wd_1344 wd_1345 (q_small_of (Nat.le_of_ble_eq_true rfl)) hm2 (q_kPi ?_) q_kPi0
  refine wp_less (ac2 := 0) (as2 := 0) (Nat.le_of_ble_eq_true rfl) (Nat.le_of_ble_eq_true rfl) ?_
  obtain ⟨hv4, h⟩ := h
  exact wp_ret_z dX8_isPage_11 rfl hv4 h

set_option maxRecDepth 100000 in
set_option maxHeartbeats 4000000 in
theorem wm_X8_isPanel {g : qG} {l : Launch} (hl : l.stackTraces = false) {a0 : Nat} {a1 : Int} {σ : qS} {Post : qS → qRs → Prop}
    (h : gK σ a0 = 9 ∧ (∃ v3 : Int, qMet g l M_X8_in [vi a1, vi 0, vi ((gI σ 322 a0) - 1)] σ (qPi σ v3) ∧ (((qR v3 ∧ (¬ (v3 = 0) → q_isA σ 0 (gP σ 329 a0) ∧ q_in σ (gP σ 329 a0) a1 ∧ qR (gA σ (gP σ 329 a0) a1))) ∧ ∀ v10 : Int, v10 = (if v3 = 0 then 0 else (if (gA σ (gP σ 329 a0) a1) = ((-1)) then 0 else 1)) → Post σ (.inl (some (vi v10))))))) : qMet g l M_X8_isPanel [vr a0, vi a1] σ Post := by
  refine qMet_of hl (by decide +kernel) (Nat.le_of_ble_eq_true rfl) (List.forall_mem_cons.mpr ⟨trivial, List.forall_mem_cons.mpr ⟨trivial, fun _ h => nomatch h⟩⟩) ?_
  show qW g l M_X8_isPanel 0 0 0 [some (vr a0), some (vi a1)] [] σ Post
  refine wp_iload_n dX8_isPanel_0 rfl ?_
  refine wp_iconst dX8_isPanel_1 ?_
  refine wp_aload_n dX8_isPanel_2 rfl ?_
  obtain ⟨hk1, h⟩ := h
  refine wp_get (v := vi (gI σ 322 a0)) dX8_isPanel_3 fl_RX8_118 hk1 rfl ?_
  refine wp_iconst dX8_isPanel_6 ?_
  refine wp_isub dX8_isPanel_7 ?_
  obtain ⟨v3, hm2, h⟩ := h
  refine wp_callS (M' := M_X8_in) (As := [vi a1, vi 0, vi ((gI σ 322 a0) - 1)]) (st := []) dX8_isPanel_8 cee_X8_in np_X8_in rfl ⟨Nat.le_of_ble_eq_true rfl, Nat.le_of_ble_eq_true rfl, Nat.le_of_ble_eq_true rfl, Nat.le_of_ble_eq_true rfl⟩ wd_1344 wd_1345 (q_small_of (Nat.le_of_ble_eq_true rfl)) hm2 (q_kPi ?_) q_kPi0
  refine wp_less (ac2 := 0) (as2 := 0) (Nat.le_of_ble_eq_true rfl) (Nat.le_of_ble_eq_true rfl) ?_
  obtain ⟨h, hk13⟩ := h
  have key12 : ∀ v10 : Int, v10 = (if v3 = 0 then 0 else (if (gA σ (gP σ 329 a0) a1) = ((-1)) then 0 else 1)) → qW g l M_X8_isPanel 0 0 29 [some (vr a0), some (vi a1)] [vi v10] σ Post := by
    intro v10 hv11
    have h := hk13 v10 hv11
    have hr14 : qR v10 := by (rw [hv11]; unfold qR; repeat' split) <;> omega
    have hz15 : v10 = 0 ∨ v10 = 1 := by (rw [hv11]; repeat' split) <;> first | exact Or.inl rfl | exact Or.inr rfl
    exact wp_ret_z dX8_isPanel_29 rfl hz15 h
  obtain ⟨hr16, h⟩ := h
  refine wp_if_eq (tgt := 28) dX8_isPanel_11 (by decide) hr16 (fun c17 => ?_) (fun c17 => ?_)
  · refine wp_iconst dX8_isPanel_28 ?_
    exact key12 _ (by rw [if_pos c17])
  · replace h := h c17
    refine wp_aload_n dX8_isPanel_14 rfl ?_
    refine wp_get (v := vr (gP σ 329 a0)) dX8_isPanel_15 fl_RX8_26 hk1 rfl ?_
    refine wp_iload_n dX8_isPanel_18 rfl ?_
    obtain ⟨ha18, hi19, h⟩ := h
    refine wp_iaload dX8_isPanel_19 ha18 hi19 ?_
    refine wp_iconst dX8_isPanel_20 ?_
    have hr20 := h
    refine wp_icmp_eq (tgt := 28) dX8_isPanel_21 (by decide) hr20 (by unfold qR; omega) (fun c21 => ?_) (fun c21 => ?_)
    · refine wp_iconst dX8_isPanel_28 ?_
      exact key12 _ (by rw [if_neg c17, if_pos c21])
    · refine wp_iconst dX8_isPanel_24 ?_
      refine wp_goto (tgt := 29) dX8_isPanel_25 (by decide) ?_
      exact key12 _ (by rw [if_neg c17, if_neg c21])

set_option maxRecDepth 100000 in
set_option maxHeartbeats 4000000 in
theorem wm_X8_isBalloon {g : qG} {l : Launch} (hl : l.stackTraces = false) {a0 : Nat} {a1 : Int} {σ : qS} {Post : qS → qRs → Prop}
    (h : gK σ a0 = 9 ∧ (∃ v3 : Int, qMet g l M_X8_in [vi a1, vi 0, vi ((gI σ 323 a0) - 1)] σ (qPi σ v3) ∧ (((qR v3 ∧ (¬ (v3 = 0) → q_isA σ 0 (gP σ 337 a0) ∧ q_in σ (gP σ 337 a0) a1 ∧ qR (gA σ (gP σ 337 a0) a1))) ∧ ∀ v10 : Int, v10 = (if v3 = 0 then 0 else (if (gA σ (gP σ 337 a0) a1) = ((-1)) then 0 else 1)) → Post σ (.inl (some (vi v10))))))) : qMet g l M_X8_isBalloon [vr a0, vi a1] σ Post := by
  refine qMet_of hl (by decide +kernel) (Nat.le_of_ble_eq_true rfl) (List.forall_mem_cons.mpr ⟨trivial, List.forall_mem_cons.mpr ⟨trivial, fun _ h => nomatch h⟩⟩) ?_
  show qW g l M_X8_isBalloon 0 0 0 [some (vr a0), some (vi a1)] [] σ Post
  refine wp_iload_n dX8_isBalloon_0 rfl ?_
  refine wp_iconst dX8_isBalloon_1 ?_
  refine wp_aload_n dX8_isBalloon_2 rfl ?_
  obtain ⟨hk1, h⟩ := h
  refine wp_get (v := vi (gI σ 323 a0)) dX8_isBalloon_3 fl_RX8_121 hk1 rfl ?_
  refine wp_iconst dX8_isBalloon_6 ?_
  refine wp_isub dX8_isBalloon_7 ?_
  obtain ⟨v3, hm2, h⟩ := h
  refine wp_callS (M' := M_X8_in) (As := [vi a1, vi 0, vi ((gI σ 323 a0) - 1)]) (st := []) dX8_isBalloon_8 cee_X8_in np_X8_in rfl ⟨Nat.le_of_ble_eq_true rfl, Nat.le_of_ble_eq_true rfl, Nat.le_of_ble_eq_true rfl, Nat.le_of_ble_eq_true rfl⟩ wd_1344 wd_1345 (q_small_of (Nat.le_of_ble_eq_true rfl)) hm2 (q_kPi ?_) q_kPi0
  refine wp_less (ac2 := 0) (as2 := 0) (Nat.le_of_ble_eq_true rfl) (Nat.le_of_ble_eq_true rfl) ?_
  obtain ⟨h, hk13⟩ := h
  have key12 : ∀ v10 : Int, v10 = (if v3 = 0 then 0 else (if (gA σ (gP σ 337 a0) a1) = ((-1)) then 0 else 1)) → qW g l M_X8_isBalloon 0 0 29 [some (vr a0), some (vi a1)] [vi v10] σ Post := by
    intro v10 hv11
    have h := hk13 v10 hv11
    have hr14 : qR v10 := by (rw [hv11]; unfold qR; repeat' split) <;> omega
    have hz15 : v10 = 0 ∨ v10 = 1 := by (rw [hv11]; repeat' split) <;> first | exact Or.inl rfl | exact Or.inr rfl
    exact wp_ret_z dX8_isBalloon_29 rfl hz15 h
  obtain ⟨hr16, h⟩ := h
  refine wp_if_eq (tgt := 28) dX8_isBalloon_11 (by decide) hr16 (fun c17 => ?_) (fun c17 => ?_)
  · refine wp_iconst dX8_isBalloon_28 ?_
    exact key12 _ (by rw [if_pos c17])
  · replace h := h c17
    refine wp_aload_n dX8_isBalloon_14 rfl ?_
    refine wp_get (v := vr (gP σ 337 a0)) dX8_isBalloon_15 fl_RX8_50 hk1 rfl ?_
    refine wp_iload_n dX8_isBalloon_18 rfl ?_
    obtain ⟨ha18, hi19, h⟩ := h
    refine wp_iaload dX8_isBalloon_19 ha18 hi19 ?_
    refine wp_iconst dX8_isBalloon_20 ?_
    have hr20 := h
    refine wp_icmp_eq (tgt := 28) dX8_isBalloon_21 (by decide) hr20 (by unfold qR; omega) (fun c21 => ?_) (fun c21 => ?_)
    · refine wp_iconst dX8_isBalloon_28 ?_
      exact key12 _ (by rw [if_neg c17, if_pos c21])
    · refine wp_iconst dX8_isBalloon_24 ?_
      refine wp_goto (tgt := 29) dX8_isBalloon_25 (by decide) ?_
      exact key12 _ (by rw [if_neg c17, if_neg c21])

set_option maxRecDepth 100000 in
set_option maxHeartbeats 4000000 in
theorem wm_X8_inserts {g : qG} {l : Launch} (hl : l.stackTraces = false) {a0 : Nat} {a1 : Int} {a2 : Int} {a3 : Int} {a4 : Int} {σ : qS} {Post : qS → qRs → Prop}
    (h : ∃ Inv2 : Nat → Int → qS → Prop, (∃ n : Nat, Inv2 n a2 σ) ∧ ∀ (n3 : Nat) (x1 : Int) (σ8 : qS), Inv2 n3 x1 σ8 → (qR x1 ∧ qR a3 ∧ ((x1 ≤ a3 → gK σ8 a0 = 20 ∧ q_in σ8 a0 (a1 + a3) ∧ (∀ σ14 : qS, σ14 = sA σ8 a0 (a1 + a3) a4 → Post σ14 (.inl none))) ∧ (¬ (x1 ≤ a3) → q_isA σ8 0 a0 ∧ q_in σ8 a0 ((a1 + x1) - 1) ∧ gK σ8 a0 = 20 ∧ q_in σ8 a0 (a1 + x1) ∧ (∀ σ20 : qS, σ20 = sA σ8 a0 (a1 + x1) (gA σ8 a0 ((a1 + x1) - 1)) → ∀ x22 : Int, x22 = x1 + (-1) → ∃ n24 : Nat, n24 < n3 ∧ Inv2 n24 x22 σ20))))) : qMet g l M_X8_inserts [vr a0, vi a1, vi a2, vi a3, vi a4] σ Post := by
  refine qMet_of hl (by decide +kernel) (Nat.le_of_ble_eq_true rfl) (List.forall_mem_cons.mpr ⟨trivial, List.forall_mem_cons.mpr ⟨trivial, List.forall_mem_cons.mpr ⟨trivial, List.forall_mem_cons.mpr ⟨trivial, List.forall_mem_cons.mpr ⟨trivial, fun _ h => nomatch h⟩⟩⟩⟩⟩) ?_
  show qW g l M_X8_inserts 0 0 0 [some (vr a0), some (vi a1), some (vi a2), some (vi a3), some (vi a4), none] [] σ Post
  refine wp_iload_n dX8_inserts_0 rfl ?_
  refine wp_istore' (ls' := [some (vr a0), some (vi a1), some (vi a2), some (vi a3), some (vi a4), some (vi a2)]) dX8_inserts_1 (Nat.le_of_ble_eq_true rfl) rfl ?_
  obtain ⟨Inv2, ⟨n3_0, h07⟩, hb6⟩ := h
  have loop25 : ∀ (n3 : Nat) (x1 : Int) (σ8 : qS), Inv2 n3 x1 σ8 → qW g l M_X8_inserts 0 0 3 [some (vr a0), some (vi a1), some (vi a2), some (vi a3), some (vi a4), some (vi x1)] [] σ8 Post := by
    intro n3
    induction n3 using Nat.strongRecOn with
    | ind n3 ih4 =>
      intro x1 σ8 hI5
      have h := hb6 n3 x1 σ8 hI5
      refine wp_iload dX8_inserts_3 rfl ?_
      refine wp_iload_n dX8_inserts_5 rfl ?_
      obtain ⟨hr9, hr10, h⟩ := h
      refine wp_icmp_le (tgt := 29) dX8_inserts_6 (by decide) hr9 hr10 (fun c11 => ?_) (fun c11 => ?_)
      · replace h := h.1 c11
        refine wp_aload_n dX8_inserts_29 rfl ?_
        refine wp_iload_n dX8_inserts_30 rfl ?_
        refine wp_iload_n dX8_inserts_31 rfl ?_
        refine wp_iadd dX8_inserts_32 ?_
        refine wp_iload dX8_inserts_33 rfl ?_
        obtain ⟨hk12, hi13, h⟩ := h
        refine wp_iastore dX8_inserts_35 hk12 hi13 ?_
        refine wp_nmS (fun σ14 hs15 => ?_)
        replace h := h σ14 hs15
        exact wp_ret_v dX8_inserts_36 rfl h
      · replace h := h.2 c11
        refine wp_aload_n dX8_inserts_9 rfl ?_
        refine wp_iload_n dX8_inserts_10 rfl ?_
        refine wp_iload dX8_inserts_11 rfl ?_
        refine wp_iadd dX8_inserts_13 ?_
        refine wp_aload_n dX8_inserts_14 rfl ?_
        refine wp_iload_n dX8_inserts_15 rfl ?_
        refine wp_iload dX8_inserts_16 rfl ?_
        refine wp_iadd dX8_inserts_18 ?_
        refine wp_iconst dX8_inserts_19 ?_
        refine wp_isub dX8_inserts_20 ?_
        obtain ⟨ha16, hi17, h⟩ := h
        refine wp_iaload dX8_inserts_21 ha16 hi17 ?_
        obtain ⟨hk18, hi19, h⟩ := h
        refine wp_iastore dX8_inserts_22 hk18 hi19 ?_
        refine wp_nmS (fun σ20 hs21 => ?_)
        replace h := h σ20 hs21
        refine wp_nmT (x1 + (-1)) (fun x22 hx23 => ?_)
        replace h := h x22 hx23
        refine wp_iinc' (z' := x22) (ls' := [some (vr a0), some (vi a1), some (vi a2), some (vi a3), some (vi a4), some (vi x22)]) dX8_inserts_23 (Nat.le_of_ble_eq_true rfl) rfl hx23 rfl ?_
        refine wp_goto (tgt := 3) dX8_inserts_26 (by decide) ?_
        obtain ⟨n24, hlt, h⟩ := h
        exact wp_lsub (ls' := [some (vr a0), some (vi a1), some (vi a2), some (vi a3), some (vi a4), some (vi x22)]) ⟨rfl, ⟨rfl, ⟨rfl, ⟨rfl, ⟨rfl, ⟨rfl, trivial⟩⟩⟩⟩⟩⟩ (ih4 n24 hlt _ _ h)
  exact wp_lsub (ls' := [some (vr a0), some (vi a1), some (vi a2), some (vi a3), some (vi a4), some (vi a2)]) ⟨rfl, ⟨rfl, ⟨rfl, ⟨rfl, ⟨rfl, ⟨rfl, trivial⟩⟩⟩⟩⟩⟩ (loop25 _ _ _ h07)

set_option maxRecDepth 100000 in
set_option maxHeartbeats 4000000 in
theorem wm_X8_removes {g : qG} {l : Launch} (hl : l.stackTraces = false) {a0 : Nat} {a1 : Int} {a2 : Int} {a3 : Int} {σ : qS} {Post : qS → qRs → Prop}
    (h : ∃ Inv2 : Nat → Int → qS → Prop, (∃ n : Nat, Inv2 n a3 σ) ∧ ∀ (n3 : Nat) (x1 : Int) (σ8 : qS), Inv2 n3 x1 σ8 → (qR x1 ∧ qR (a2 - 1) ∧ (((a2 - 1) ≤ x1 → Post σ8 (.inl none)) ∧ (¬ ((a2 - 1) ≤ x1) → q_isA σ8 0 a0 ∧ q_in σ8 a0 ((a1 + x1) + 1) ∧ gK σ8 a0 = 20 ∧ q_in σ8 a0 (a1 + x1) ∧ (∀ σ16 : qS, σ16 = sA σ8 a0 (a1 + x1) (gA σ8 a0 ((a1 + x1) + 1)) → ∀ x18 : Int, x18 = x1 + 1 → ∃ n20 : Nat, n20 < n3 ∧ Inv2 n20 x18 σ16))))) : qMet g l M_X8_removes [vr a0, vi a1, vi a2, vi a3] σ Post := by
  refine qMet_of hl (by decide +kernel) (Nat.le_of_ble_eq_true rfl) (List.forall_mem_cons.mpr ⟨trivial, List.forall_mem_cons.mpr ⟨trivial, List.forall_mem_cons.mpr ⟨trivial, List.forall_mem_cons.mpr ⟨trivial, fun _ h => nomatch h⟩⟩⟩⟩) ?_
  show qW g l M_X8_removes 0 0 0 [some (vr a0), some (vi a1), some (vi a2), some (vi a3), none] [] σ Post
  refine wp_iload_n dX8_removes_0 rfl ?_
  refine wp_istore' (ls' := [some (vr a0), some (vi a1), some (vi a2), some (vi a3), some (vi a3)]) dX8_removes_1 (Nat.le_of_ble_eq_true rfl) rfl ?_
  obtain ⟨Inv2, ⟨n3_0, h07⟩, hb6⟩ := h
  have loop21 : ∀ (n3 : Nat) (x1 : Int) (σ8 : qS), Inv2 n3 x1 σ8 → qW g l M_X8_removes 0 0 3 [some (vr a0), some (vi a1), some (vi a2), some (vi a3), some (vi x1)] [] σ8 Post := by
    intro n3
    induction n3 using Nat.strongRecOn with
    | ind n3 ih4 =>
      intro x1 σ8 hI5
      have h := hb6 n3 x1 σ8 hI5
      refine wp_iload dX8_removes_3 rfl ?_
      refine wp_iload_n dX8_removes_5 rfl ?_
      refine wp_iconst dX8_removes_6 ?_
      refine wp_isub dX8_removes_7 ?_
      obtain ⟨hr9, hr10, h⟩ := h
      refine wp_icmp_ge (tgt := 31) dX8_removes_8 (by decide) hr9 hr10 (fun c11 => ?_) (fun c11 => ?_)
      · replace h := h.1 c11
        exact wp_ret_v dX8_removes_31 rfl h
      · replace h := h.2 c11
        refine wp_aload_n dX8_removes_11 rfl ?_
        refine wp_iload_n dX8_removes_12 rfl ?_
        refine wp_iload dX8_removes_13 rfl ?_
        refine wp_iadd dX8_removes_15 ?_
        refine wp_aload_n dX8_removes_16 rfl ?_
        refine wp_iload_n dX8_removes_17 rfl ?_
        refine wp_iload dX8_removes_18 rfl ?_
        refine wp_iadd dX8_removes_20 ?_
        refine wp_iconst dX8_removes_21 ?_
        refine wp_iadd dX8_removes_22 ?_
        obtain ⟨ha12, hi13, h⟩ := h
        refine wp_iaload dX8_removes_23 ha12 hi13 ?_
        obtain ⟨hk14, hi15, h⟩ := h
        refine wp_iastore dX8_removes_24 hk14 hi15 ?_
        refine wp_nmS (fun σ16 hs17 => ?_)
        replace h := h σ16 hs17
        refine wp_nmT (x1 + 1) (fun x18 hx19 => ?_)
        replace h := h x18 hx19
        refine wp_iinc' (z' := x18) (ls' := [some (vr a0), some (vi a1), some (vi a2), some (vi a3), some (vi x18)]) dX8_removes_25 (Nat.le_of_ble_eq_true rfl) rfl hx19 rfl ?_
        refine wp_goto (tgt := 3) dX8_removes_28 (by decide) ?_
        obtain ⟨n20, hlt, h⟩ := h
        exact wp_lsub (ls' := [some (vr a0), some (vi a1), some (vi a2), some (vi a3), some (vi x18)]) ⟨rfl, ⟨rfl, ⟨rfl, ⟨rfl, ⟨rfl, trivial⟩⟩⟩⟩⟩ (ih4 n20 hlt _ _ h)
  exact wp_lsub (ls' := [some (vr a0), some (vi a1), some (vi a2), some (vi a3), some (vi a3)]) ⟨rfl, ⟨rfl, ⟨rfl, ⟨rfl, ⟨rfl, trivial⟩⟩⟩⟩⟩ (loop21 _ _ _ h07)

set_option maxRecDepth 100000 in
set_option maxHeartbeats 4000000 in
theorem wm_X8_find {g : qG} {l : Launch} (hl : l.stackTraces = false) {a0 : Nat} {a1 : Int} {a2 : Int} {σ : qS} {Post : qS → qRs → Prop}
    (h : ∃ Inv2 : Nat → Int → Prop, (∃ n : Nat, Inv2 n 0) ∧ ∀ (n3 : Nat) (x1 : Int), Inv2 n3 x1 → (q_isA σ 0 a0 ∧ q_in σ a0 (a1 + x1) ∧ qR (gA σ a0 (a1 + x1)) ∧ qR a2 ∧ (((gA σ a0 (a1 + x1)) = a2 → Post σ (.inl (some (vi x1)))) ∧ (¬ ((gA σ a0 (a1 + x1)) = a2) → ∀ x13 : Int, x13 = x1 + 1 → ∃ n15 : Nat, n15 < n3 ∧ Inv2 n15 x13)))) : qMet g l M_X8_find [vr a0, vi a1, vi a2] σ Post := by
  refine qMet_of hl (by decide +kernel) (Nat.le_of_ble_eq_true rfl) (List.forall_mem_cons.mpr ⟨trivial, List.forall_mem_cons.mpr ⟨trivial, List.forall_mem_cons.mpr ⟨trivial, fun _ h => nomatch h⟩⟩⟩) ?_
  show qW g l M_X8_find 0 0 0 [some (vr a0), some (vi a1), some (vi a2), none] [] σ Post
  refine wp_iconst dX8_find_0 ?_
  refine wp_istore_n' (ls' := [some (vr a0), some (vi a1), some (vi a2), some (vi 0)]) dX8_find_1 (Nat.le_of_ble_eq_true rfl) rfl ?_
  obtain ⟨Inv2, ⟨n3_0, h07⟩, hb6⟩ := h
  have loop16 : ∀ (n3 : Nat) (x1 : Int), Inv2 n3 x1 → qW g l M_X8_find 0 0 2 [some (vr a0), some (vi a1), some (vi a2), some (vi x1)] [] σ Post := by
    intro n3
    induction n3 using Nat.strongRecOn with
    | ind n3 ih4 =>
      intro x1 hI5
      have h := hb6 n3 x1 hI5
      refine wp_aload_n dX8_find_2 rfl ?_
      refine wp_iload_n dX8_find_3 rfl ?_
      refine wp_iload_n dX8_find_4 rfl ?_
      refine wp_iadd dX8_find_5 ?_
      obtain ⟨ha8, hi9, h⟩ := h
      refine wp_iaload dX8_find_6 ha8 hi9 ?_
      refine wp_iload_n dX8_find_7 rfl ?_
      obtain ⟨hr10, hr11, h⟩ := h
      refine wp_icmp_eq (tgt := 17) dX8_find_8 (by decide) hr10 hr11 (fun c12 => ?_) (fun c12 => ?_)
      · replace h := h.1 c12
        refine wp_iload_n dX8_find_17 rfl ?_
        exact wp_ret_i dX8_find_18 rfl rfl h
      · replace h := h.2 c12
        refine wp_nmT (x1 + 1) (fun x13 hx14 => ?_)
        replace h := h x13 hx14
        refine wp_iinc' (z' := x13) (ls' := [some (vr a0), some (vi a1), some (vi a2), some (vi x13)]) dX8_find_11 (Nat.le_of_ble_eq_true rfl) rfl hx14 rfl ?_
        refine wp_goto (tgt := 2) dX8_find_14 (by decide) ?_
        obtain ⟨n15, hlt, h⟩ := h
        exact wp_lsub (ls' := [some (vr a0), some (vi a1), some (vi a2), some (vi x13)]) ⟨rfl, ⟨rfl, ⟨rfl, ⟨rfl, trivial⟩⟩⟩⟩ (ih4 n15 hlt _ h)
  exact wp_lsub (ls' := [some (vr a0), some (vi a1), some (vi a2), some (vi 0)]) ⟨rfl, ⟨rfl, ⟨rfl, ⟨rfl, trivial⟩⟩⟩⟩ (loop16 _ _ h07)

set_option maxRecDepth 100000 in
set_option maxHeartbeats 4000000 in
theorem wm_X8_isFromRight {g : qG} {l : Launch} (hl : l.stackTraces = false) {a0 : Nat} {a1 : Int} {σ : qS} {Post : qS → qRs → Prop}
    (h : gK σ a0 = 9 ∧ q_isA σ 0 (gP σ 324 a0) ∧ q_in σ (gP σ 324 a0) a1 ∧ ((qR (gA σ (gP σ 324 a0) a1)) ∧ ∀ v6 : Int, v6 = (if ¬ (gA σ (gP σ 324 a0) a1) = 1 then 0 else 1) → Post σ (.inl (some (vi v6))))) : qMet g l M_X8_isFromRight [vr a0, vi a1] σ Post := by
  refine qMet_of hl (by decide +kernel) (Nat.le_of_ble_eq_true rfl) (List.forall_mem_cons.mpr ⟨trivial, List.forall_mem_cons.mpr ⟨trivial, fun _ h => nomatch h⟩⟩) ?_
  show qW g l M_X8_isFromRight 0 0 0 [some (vr a0), some (vi a1)] [] σ Post
  refine wp_aload_n dX8_isFromRight_0 rfl ?_
  obtain ⟨hk1, h⟩ := h
  refine wp_get (v := vr (gP σ 324 a0)) dX8_isFromRight_1 fl_RX8_7 hk1 rfl ?_
  refine wp_iload_n dX8_isFromRight_4 rfl ?_
  obtain ⟨ha2, hi3, h⟩ := h
  refine wp_iaload dX8_isFromRight_5 ha2 hi3 ?_
  refine wp_iconst dX8_isFromRight_6 ?_
  obtain ⟨h, hk9⟩ := h
  have key8 : ∀ v6 : Int, v6 = (if ¬ (gA σ (gP σ 324 a0) a1) = 1 then 0 else 1) → qW g l M_X8_isFromRight 0 0 15 [some (vr a0), some (vi a1)] [vi v6] σ Post := by
    intro v6 hv7
    have h := hk9 v6 hv7
    have hr10 : qR v6 := by (rw [hv7]; unfold qR; repeat' split) <;> omega
    have hz11 : v6 = 0 ∨ v6 = 1 := by (rw [hv7]; repeat' split) <;> first | exact Or.inl rfl | exact Or.inr rfl
    exact wp_ret_z dX8_isFromRight_15 rfl hz11 h
  have hr12 := h
  refine wp_icmp_ne (tgt := 14) dX8_isFromRight_7 (by decide) hr12 (by unfold qR; omega) (fun c13 => ?_) (fun c13 => ?_)
  · refine wp_iconst dX8_isFromRight_14 ?_
    exact key8 _ (by rw [if_pos c13])
  · refine wp_iconst dX8_isFromRight_10 ?_
    refine wp_goto (tgt := 15) dX8_isFromRight_11 (by decide) ?_
    exact key8 _ (by rw [if_neg (fun z => z c13)])

set_option maxRecDepth 100000 in
set_option maxHeartbeats 4000000 in
theorem wm_X8_grown {g : qG} {l : Launch} (hl : l.stackTraces = false) {a0 : Nat} {a1 : Int} {a2 : Int} {σ : qS} {Post : qS → qRs → Prop}
    (h : gK σ a0 = 9 ∧ q_isA σ 0 (gP σ 338 a0) ∧ q_in σ (gP σ 338 a0) a1 ∧ q_isA σ 0 (gP σ 324 a0) ∧ q_in σ (gP σ 324 a0) a2 ∧ q_isA σ 0 (gP σ 328 a0) ∧ q_in σ (gP σ 328 a0) (gA σ (gP σ 324 a0) a2) ∧ (0 ≤ (((gA σ (gP σ 338 a0) a1) * (gA σ (gP σ 328 a0) (gA σ (gP σ 324 a0) a2))) + 99) ∧ (((gA σ (gP σ 338 a0) a1) * (gA σ (gP σ 328 a0) (gA σ (gP σ 324 a0) a2))) + 99) < 2147483648) ∧ Post σ (.inl (some (vi ((((gA σ (gP σ 338 a0) a1) * (gA σ (gP σ 328 a0) (gA σ (gP σ 324 a0) a2))) + 99) / 100))))) : qMet g l M_X8_grown [vr a0, vi a1, vi a2] σ Post := by
  refine qMet_of hl (by decide +kernel) (Nat.le_of_ble_eq_true rfl) (List.forall_mem_cons.mpr ⟨trivial, List.forall_mem_cons.mpr ⟨trivial, List.forall_mem_cons.mpr ⟨trivial, fun _ h => nomatch h⟩⟩⟩) ?_
  show qW g l M_X8_grown 0 0 0 [some (vr a0), some (vi a1), some (vi a2)] [] σ Post
  refine wp_aload_n dX8_grown_0 rfl ?_
  obtain ⟨hk1, h⟩ := h
  refine wp_get (v := vr (gP σ 338 a0)) dX8_grown_1 fl_RX8_53 hk1 rfl ?_
  refine wp_iload_n dX8_grown_4 rfl ?_
  obtain ⟨ha2, hi3, h⟩ := h
  refine wp_iaload dX8_grown_5 ha2 hi3 ?_
  refine wp_aload_n dX8_grown_6 rfl ?_
  refine wp_get (v := vr (gP σ 328 a0)) dX8_grown_7 fl_RX8_23 hk1 rfl ?_
  refine wp_aload_n dX8_grown_10 rfl ?_
  refine wp_get (v := vr (gP σ 324 a0)) dX8_grown_11 fl_RX8_7 hk1 rfl ?_
  refine wp_iload_n dX8_grown_14 rfl ?_
  obtain ⟨ha4, hi5, h⟩ := h
  refine wp_iaload dX8_grown_15 ha4 hi5 ?_
  obtain ⟨ha6, hi7, h⟩ := h
  refine wp_iaload dX8_grown_16 ha6 hi7 ?_
  refine wp_imul dX8_grown_17 ?_
  refine wp_bipush dX8_grown_18 (by decide) ?_
  refine wp_iadd dX8_grown_20 ?_
  refine wp_bipush dX8_grown_21 (by decide) ?_
  obtain ⟨hd8, h⟩ := h
  refine wp_idiv dX8_grown_23 hd8 (by omega) ?_
  exact wp_ret_i dX8_grown_24 rfl rfl h

set_option maxRecDepth 100000 in
set_option maxHeartbeats 4000000 in
theorem wm_X8_stands {g : qG} {l : Launch} (hl : l.stackTraces = false) {a0 : Nat} {a1 : Int} {a2 : Int} {a3 : Int} {σ : qS} {Post : qS → qRs → Prop}
    (h : ∃ Inv2 : Nat → Int → qS → Prop, (∃ n : Nat, Inv2 n 0 σ) ∧ ∀ (n3 : Nat) (x1 : Int) (σ8 : qS), Inv2 n3 x1 σ8 → (qR x1 ∧ qR (a2 * a3) ∧ (((a2 * a3) ≤ x1 → ∃ Inv13 : Nat → Int → qS → Prop, (∃ n : Nat, Inv13 n 0 σ8) ∧ ∀ (n14 : Nat) (x12 : Int) (σ19 : qS), Inv13 n14 x12 σ19 → (gK σ19 a0 = 9 ∧ q_isA σ19 0 (gP σ19 333 a0) ∧ q_in σ19 (gP σ19 333 a0) a1 ∧ qR x12 ∧ qR (gA σ19 (gP σ19 333 a0) a1) ∧ (((gA σ19 (gP σ19 333 a0) a1) ≤ x12 → Post σ19 (.inl none)) ∧ (¬ ((gA σ19 (gP σ19 333 a0) a1) ≤ x12) → ∀ x26 : Int, x26 = (6 * a1) + (3 * x12) → q_isA σ19 0 (gP σ19 334 a0) ∧ q_in σ19 (gP σ19 334 a0) x26 ∧ ∀ x30 : Int, x30 = gA σ19 (gP σ19 334 a0) x26 → ∃ Inv33 : Nat → Int → qS → Prop, (∃ n : Nat, Inv33 n x30 σ19) ∧ ∀ (n34 : Nat) (x32 : Int) (σ39 : qS), Inv33 n34 x32 σ39 → (gK σ39 a0 = 9 ∧ q_isA σ39 0 (gP σ39 334 a0) ∧ q_in σ39 (gP σ39 334 a0) x26 ∧ q_in σ39 (gP σ39 334 a0) (x26 + 1) ∧ qR x32 ∧ qR ((gA σ39 (gP σ39 334 a0) x26) + (gA σ39 (gP σ39 334 a0) (x26 + 1))) ∧ ((((gA σ39 (gP σ39 334 a0) x26) + (gA σ39 (gP σ39 334 a0) (x26 + 1))) ≤ x32 → ∀ x47 : Int, x47 = x12 + 1 → ∃ n49 : Nat, n49 < n14 ∧ Inv13 n49 x47 σ39) ∧ (¬ (((gA σ39 (gP σ39 334 a0) x26) + (gA σ39 (gP σ39 334 a0) (x26 + 1))) ≤ x32) → qR a2 ∧ ((a2 ≤ x32 → ∀ x52 : Int, x52 = x12 + 1 → ∃ n54 : Nat, n54 < n14 ∧ Inv13 n54 x52 σ39) ∧ (¬ (a2 ≤ x32) → ∀ x55 : Int, x55 = a3 - 1 → ∃ Inv58 : Nat → Int → qS → Prop, (∃ n : Nat, Inv58 n x55 σ39) ∧ ∀ (n59 : Nat) (x57 : Int) (σ64 : qS), Inv58 n59 x57 σ64 → (gK σ64 a0 = 9 ∧ q_isA σ64 0 (gP σ64 334 a0) ∧ q_in σ64 (gP σ64 334 a0) (x26 + 2) ∧ qR x57 ∧ qR (a3 - (gA σ64 (gP σ64 334 a0) (x26 + 2))) ∧ ((x57 < (a3 - (gA σ64 (gP σ64 334 a0) (x26 + 2))) → ∀ x71 : Int, x71 = x32 + 1 → ∃ n73 : Nat, n73 < n34 ∧ Inv33 n73 x71 σ64) ∧ (¬ (x57 < (a3 - (gA σ64 (gP σ64 334 a0) (x26 + 2)))) → ((x57 < 0 → ∀ x75 : Int, x75 = x32 + 1 → ∃ n77 : Nat, n77 < n34 ∧ Inv33 n77 x75 σ64) ∧ (¬ (x57 < 0) → gK σ64 (gP σ64 342 a0) = 20 ∧ q_in σ64 (gP σ64 342 a0) ((a2 * x57) + x32) ∧ (∀ σ80 : qS, σ80 = sA σ64 (gP σ64 342 a0) ((a2 * x57) + x32) ((-2)) → ∀ x82 : Int, x82 = x57 + (-1) → ∃ n84 : Nat, n84 < n59 ∧ Inv58 n84 x82 σ80))))))))))))))) ∧ (¬ ((a2 * a3) ≤ x1) → gK σ8 a0 = 9 ∧ gK σ8 (gP σ8 342 a0) = 20 ∧ q_in σ8 (gP σ8 342 a0) x1 ∧ (∀ σ91 : qS, σ91 = sA σ8 (gP σ8 342 a0) x1 ((-1)) → ∀ x93 : Int, x93 = x1 + 1 → ∃ n95 : Nat, n95 < n3 ∧ Inv2 n95 x93 σ91))))) : qMet g l M_X8_stands [vr a0, vi a1, vi a2, vi a3] σ Post := by
  refine qMet_of hl (by decide +kernel) (Nat.le_of_ble_eq_true rfl) (List.forall_mem_cons.mpr ⟨trivial, List.forall_mem_cons.mpr ⟨trivial, List.forall_mem_cons.mpr ⟨trivial, List.forall_mem_cons.mpr ⟨trivial, fun _ h => nomatch h⟩⟩⟩⟩) ?_
  show qW g l M_X8_stands 0 0 0 [some (vr a0), some (vi a1), some (vi a2), some (vi a3), none, none, none, none] [] σ Post
  refine wp_iconst dX8_stands_0 ?_
  refine wp_istore' (ls' := [some (vr a0), some (vi a1), some (vi a2), some (vi a3), some (vi 0), none, none, none]) dX8_stands_1 (Nat.le_of_ble_eq_true rfl) rfl ?_
  obtain ⟨Inv2, ⟨n3_0, h07⟩, hb6⟩ := h
  have loop96 : ∀ (n3 : Nat) (x1 : Int) (σ8 : qS), Inv2 n3 x1 σ8 → qW g l M_X8_stands 0 0 3 [some (vr a0), some (vi a1), some (vi a2), some (vi a3), some (vi x1), none, none, none] [] σ8 Post := by
    intro n3
    induction n3 using Nat.strongRecOn with
    | ind n3 ih4 =>
      intro x1 σ8 hI5
      have h := hb6 n3 x1 σ8 hI5
      refine wp_iload dX8_stands_3 rfl ?_
      refine wp_iload_n dX8_stands_5 rfl ?_
      refine wp_iload_n dX8_stands_6 rfl ?_
      refine wp_imul dX8_stands_7 ?_
      obtain ⟨hr9, hr10, h⟩ := h
      refine wp_icmp_ge (tgt := 25) dX8_stands_8 (by decide) hr9 hr10 (fun c11 => ?_) (fun c11 => ?_)
      · replace h := h.1 c11
        refine wp_iconst dX8_stands_25 ?_
        refine wp_istore' (ls' := [some (vr a0), some (vi a1), some (vi a2), some (vi a3), some (vi 0), none, none, none]) dX8_stands_26 (Nat.le_of_ble_eq_true rfl) rfl ?_
        obtain ⟨Inv13, ⟨n14_0, h018⟩, hb17⟩ := h
        have loop87 : ∀ (n14 : Nat) (x12 : Int) (σ19 : qS), Inv13 n14 x12 σ19 → qW g l M_X8_stands 0 0 28 [some (vr a0), some (vi a1), some (vi a2), some (vi a3), some (vi x12), none, none, none] [] σ19 Post := by
          intro n14
          induction n14 using Nat.strongRecOn with
          | ind n14 ih15 =>
            intro x12 σ19 hI16
            have h := hb17 n14 x12 σ19 hI16
            refine wp_iload dX8_stands_28 rfl ?_
            refine wp_aload_n dX8_stands_30 rfl ?_
            obtain ⟨hk20, h⟩ := h
            refine wp_get (v := vr (gP σ19 333 a0)) dX8_stands_31 fl_RX8_38 hk20 rfl ?_
            refine wp_iload_n dX8_stands_34 rfl ?_
            obtain ⟨ha21, hi22, h⟩ := h
            refine wp_iaload dX8_stands_35 ha21 hi22 ?_
            obtain ⟨hr23, hr24, h⟩ := h
            refine wp_icmp_ge (tgt := 145) dX8_stands_36 (by decide) hr23 hr24 (fun c25 => ?_) (fun c25 => ?_)
            · replace h := h.1 c25
              exact wp_ret_v dX8_stands_145 rfl h
            · replace h := h.2 c25
              refine wp_bipush dX8_stands_39 (by decide) ?_
              refine wp_iload_n dX8_stands_41 rfl ?_
              refine wp_imul dX8_stands_42 ?_
              refine wp_iconst dX8_stands_43 ?_
              refine wp_iload dX8_stands_44 rfl ?_
              refine wp_imul dX8_stands_46 ?_
              refine wp_iadd dX8_stands_47 ?_
              refine wp_nmI (fun x26 hx27 => ?_)
              replace h := h x26 hx27
              refine wp_istore' (ls' := [some (vr a0), some (vi a1), some (vi a2), some (vi a3), some (vi x12), some (vi x26), none, none]) dX8_stands_48 (Nat.le_of_ble_eq_true rfl) rfl ?_
              refine wp_aload_n dX8_stands_50 rfl ?_
              refine wp_get (v := vr (gP σ19 334 a0)) dX8_stands_51 fl_RX8_41 hk20 rfl ?_
              refine wp_iload dX8_stands_54 rfl ?_
              obtain ⟨ha28, hi29, h⟩ := h
              refine wp_iaload dX8_stands_56 ha28 hi29 ?_
              refine wp_nmI (fun x30 hx31 => ?_)
              replace h := h x30 hx31
              refine wp_istore' (ls' := [some (vr a0), some (vi a1), some (vi a2), some (vi a3), some (vi x12), some (vi x26), some (vi x30), none]) dX8_stands_57 (Nat.le_of_ble_eq_true rfl) rfl ?_
              obtain ⟨Inv33, ⟨n34_0, h038⟩, hb37⟩ := h
              have loop86 : ∀ (n34 : Nat) (x32 : Int) (σ39 : qS), Inv33 n34 x32 σ39 → qW g l M_X8_stands 0 0 59 [some (vr a0), some (vi a1), some (vi a2), some (vi a3), some (vi x12), some (vi x26), some (vi x32), none] [] σ39 Post := by
                intro n34
                induction n34 using Nat.strongRecOn with
                | ind n34 ih35 =>
                  intro x32 σ39 hI36
                  have h := hb37 n34 x32 σ39 hI36
                  refine wp_iload dX8_stands_59 rfl ?_
                  refine wp_aload_n dX8_stands_61 rfl ?_
                  obtain ⟨hk40, h⟩ := h
                  refine wp_get (v := vr (gP σ39 334 a0)) dX8_stands_62 fl_RX8_41 hk40 rfl ?_
                  refine wp_iload dX8_stands_65 rfl ?_
                  obtain ⟨ha41, hi42, h⟩ := h
                  refine wp_iaload dX8_stands_67 ha41 hi42 ?_
                  refine wp_aload_n dX8_stands_68 rfl ?_
                  refine wp_get (v := vr (gP σ39 334 a0)) dX8_stands_69 fl_RX8_41 hk40 rfl ?_
                  refine wp_iload dX8_stands_72 rfl ?_
                  refine wp_iconst dX8_stands_74 ?_
                  refine wp_iadd dX8_stands_75 ?_
                  obtain ⟨hi43, h⟩ := h
                  refine wp_iaload dX8_stands_76 ha41 hi43 ?_
                  refine wp_iadd dX8_stands_77 ?_
                  obtain ⟨hr44, hr45, h⟩ := h
                  refine wp_icmp_ge (tgt := 139) dX8_stands_78 (by decide) hr44 hr45 (fun c46 => ?_) (fun c46 => ?_)
                  · replace h := h.1 c46
                    refine wp_nmT (x12 + 1) (fun x47 hx48 => ?_)
                    replace h := h x47 hx48
                    refine wp_iinc' (z' := x47) (ls' := [some (vr a0), some (vi a1), some (vi a2), some (vi a3), some (vi x47), some (vi x26), some (vi x32), none]) dX8_stands_139 (Nat.le_of_ble_eq_true rfl) rfl hx48 rfl ?_
                    refine wp_goto (tgt := 28) dX8_stands_142 (by decide) ?_
                    obtain ⟨n49, hlt, h⟩ := h
                    exact wp_lsub (ls' := [some (vr a0), some (vi a1), some (vi a2), some (vi a3), some (vi x47), none, none, none]) ⟨rfl, ⟨rfl, ⟨rfl, ⟨rfl, ⟨rfl, trivial⟩⟩⟩⟩⟩ (ih15 n49 hlt _ _ h)
                  · replace h := h.2 c46
                    refine wp_iload dX8_stands_81 rfl ?_
                    refine wp_iload_n dX8_stands_83 rfl ?_
                    obtain ⟨hr50, h⟩ := h
                    refine wp_icmp_ge (tgt := 139) dX8_stands_84 (by decide) hr44 hr50 (fun c51 => ?_) (fun c51 => ?_)
                    · replace h := h.1 c51
                      refine wp_nmT (x12 + 1) (fun x52 hx53 => ?_)
                      replace h := h x52 hx53
                      refine wp_iinc' (z' := x52) (ls' := [some (vr a0), some (vi a1), some (vi a2), some (vi a3), some (vi x52), some (vi x26), some (vi x32), none]) dX8_stands_139 (Nat.le_of_ble_eq_true rfl) rfl hx53 rfl ?_
                      refine wp_goto (tgt := 28) dX8_stands_142 (by decide) ?_
                      obtain ⟨n54, hlt, h⟩ := h
                      exact wp_lsub (ls' := [some (vr a0), some (vi a1), some (vi a2), some (vi a3), some (vi x52), none, none, none]) ⟨rfl, ⟨rfl, ⟨rfl, ⟨rfl, ⟨rfl, trivial⟩⟩⟩⟩⟩ (ih15 n54 hlt _ _ h)
                    · replace h := h.2 c51
                      refine wp_iload_n dX8_stands_87 rfl ?_
                      refine wp_iconst dX8_stands_88 ?_
                      refine wp_isub dX8_stands_89 ?_
                      refine wp_nmI (fun x55 hx56 => ?_)
                      replace h := h x55 hx56
                      refine wp_istore' (ls' := [some (vr a0), some (vi a1), some (vi a2), some (vi a3), some (vi x12), some (vi x26), some (vi x32), some (vi x55)]) dX8_stands_90 (Nat.le_of_ble_eq_true rfl) rfl ?_
                      obtain ⟨Inv58, ⟨n59_0, h063⟩, hb62⟩ := h
                      have loop85 : ∀ (n59 : Nat) (x57 : Int) (σ64 : qS), Inv58 n59 x57 σ64 → qW g l M_X8_stands 0 0 92 [some (vr a0), some (vi a1), some (vi a2), some (vi a3), some (vi x12), some (vi x26), some (vi x32), some (vi x57)] [] σ64 Post := by
                        intro n59
                        induction n59 using Nat.strongRecOn with
                        | ind n59 ih60 =>
                          intro x57 σ64 hI61
                          have h := hb62 n59 x57 σ64 hI61
                          refine wp_iload dX8_stands_92 rfl ?_
                          refine wp_iload_n dX8_stands_94 rfl ?_
                          refine wp_aload_n dX8_stands_95 rfl ?_
                          obtain ⟨hk65, h⟩ := h
                          refine wp_get (v := vr (gP σ64 334 a0)) dX8_stands_96 fl_RX8_41 hk65 rfl ?_
                          refine wp_iload dX8_stands_99 rfl ?_
                          refine wp_iconst dX8_stands_101 ?_
                          refine wp_iadd dX8_stands_102 ?_
                          obtain ⟨ha66, hi67, h⟩ := h
                          refine wp_iaload dX8_stands_103 ha66 hi67 ?_
                          refine wp_isub dX8_stands_104 ?_
                          obtain ⟨hr68, hr69, h⟩ := h
                          refine wp_icmp_lt (tgt := 133) dX8_stands_105 (by decide) hr68 hr69 (fun c70 => ?_) (fun c70 => ?_)
                          · replace h := h.1 c70
                            refine wp_nmT (x32 + 1) (fun x71 hx72 => ?_)
                            replace h := h x71 hx72
                            refine wp_iinc' (z' := x71) (ls' := [some (vr a0), some (vi a1), some (vi a2), some (vi a3), some (vi x12), some (vi x26), some (vi x71), some (vi x57)]) dX8_stands_133 (Nat.le_of_ble_eq_true rfl) rfl hx72 rfl ?_
                            refine wp_goto (tgt := 59) dX8_stands_136 (by decide) ?_
                            obtain ⟨n73, hlt, h⟩ := h
                            exact wp_lsub (ls' := [some (vr a0), some (vi a1), some (vi a2), some (vi a3), some (vi x12), some (vi x26), some (vi x71), none]) ⟨rfl, ⟨rfl, ⟨rfl, ⟨rfl, ⟨rfl, ⟨rfl, ⟨rfl, trivial⟩⟩⟩⟩⟩⟩⟩ (ih35 n73 hlt _ _ h)
                          · replace h := h.2 c70
                            refine wp_iload dX8_stands_108 rfl ?_
                            refine wp_if_lt (tgt := 133) dX8_stands_110 (by decide) hr68 (fun c74 => ?_) (fun c74 => ?_)
                            · replace h := h.1 c74
                              refine wp_nmT (x32 + 1) (fun x75 hx76 => ?_)
                              replace h := h x75 hx76
                              refine wp_iinc' (z' := x75) (ls' := [some (vr a0), some (vi a1), some (vi a2), some (vi a3), some (vi x12), some (vi x26), some (vi x75), some (vi x57)]) dX8_stands_133 (Nat.le_of_ble_eq_true rfl) rfl hx76 rfl ?_
                              refine wp_goto (tgt := 59) dX8_stands_136 (by decide) ?_
                              obtain ⟨n77, hlt, h⟩ := h
                              exact wp_lsub (ls' := [some (vr a0), some (vi a1), some (vi a2), some (vi a3), some (vi x12), some (vi x26), some (vi x75), none]) ⟨rfl, ⟨rfl, ⟨rfl, ⟨rfl, ⟨rfl, ⟨rfl, ⟨rfl, trivial⟩⟩⟩⟩⟩⟩⟩ (ih35 n77 hlt _ _ h)
                            · replace h := h.2 c74
                              refine wp_aload_n dX8_stands_113 rfl ?_
                              refine wp_get (v := vr (gP σ64 342 a0)) dX8_stands_114 fl_RX8_65 hk65 rfl ?_
                              refine wp_iload_n dX8_stands_117 rfl ?_
                              refine wp_iload dX8_stands_118 rfl ?_
                              refine wp_imul dX8_stands_120 ?_
                              refine wp_iload dX8_stands_121 rfl ?_
                              refine wp_iadd dX8_stands_123 ?_
                              refine wp_bipush dX8_stands_124 (by decide) ?_
                              obtain ⟨hk78, hi79, h⟩ := h
                              refine wp_iastore dX8_stands_126 hk78 hi79 ?_
                              refine wp_nmS (fun σ80 hs81 => ?_)
                              replace h := h σ80 hs81
                              refine wp_nmT (x57 + (-1)) (fun x82 hx83 => ?_)
                              replace h := h x82 hx83
                              refine wp_iinc' (z' := x82) (ls' := [some (vr a0), some (vi a1), some (vi a2), some (vi a3), some (vi x12), some (vi x26), some (vi x32), some (vi x82)]) dX8_stands_127 (Nat.le_of_ble_eq_true rfl) rfl hx83 rfl ?_
                              refine wp_goto (tgt := 92) dX8_stands_130 (by decide) ?_
                              obtain ⟨n84, hlt, h⟩ := h
                              exact wp_lsub (ls' := [some (vr a0), some (vi a1), some (vi a2), some (vi a3), some (vi x12), some (vi x26), some (vi x32), some (vi x82)]) ⟨rfl, ⟨rfl, ⟨rfl, ⟨rfl, ⟨rfl, ⟨rfl, ⟨rfl, ⟨rfl, trivial⟩⟩⟩⟩⟩⟩⟩⟩ (ih60 n84 hlt _ _ h)
                      exact wp_lsub (ls' := [some (vr a0), some (vi a1), some (vi a2), some (vi a3), some (vi x12), some (vi x26), some (vi x32), some (vi x55)]) ⟨rfl, ⟨rfl, ⟨rfl, ⟨rfl, ⟨rfl, ⟨rfl, ⟨rfl, ⟨rfl, trivial⟩⟩⟩⟩⟩⟩⟩⟩ (loop85 _ _ _ h063)
              exact wp_lsub (ls' := [some (vr a0), some (vi a1), some (vi a2), some (vi a3), some (vi x12), some (vi x26), some (vi x30), none]) ⟨rfl, ⟨rfl, ⟨rfl, ⟨rfl, ⟨rfl, ⟨rfl, ⟨rfl, trivial⟩⟩⟩⟩⟩⟩⟩ (loop86 _ _ _ h038)
        exact wp_lsub (ls' := [some (vr a0), some (vi a1), some (vi a2), some (vi a3), some (vi 0), none, none, none]) ⟨rfl, ⟨rfl, ⟨rfl, ⟨rfl, ⟨rfl, trivial⟩⟩⟩⟩⟩ (loop87 _ _ _ h018)
      · replace h := h.2 c11
        refine wp_aload_n dX8_stands_11 rfl ?_
        obtain ⟨hk88, h⟩ := h
        refine wp_get (v := vr (gP σ8 342 a0)) dX8_stands_12 fl_RX8_65 hk88 rfl ?_
        refine wp_iload dX8_stands_15 rfl ?_
        refine wp_iconst dX8_stands_17 ?_
        obtain ⟨hk89, hi90, h⟩ := h
        refine wp_iastore dX8_stands_18 hk89 hi90 ?_
        refine wp_nmS (fun σ91 hs92 => ?_)
        replace h := h σ91 hs92
        refine wp_nmT (x1 + 1) (fun x93 hx94 => ?_)
        replace h := h x93 hx94
        refine wp_iinc' (z' := x93) (ls' := [some (vr a0), some (vi a1), some (vi a2), some (vi a3), some (vi x93), none, none, none]) dX8_stands_19 (Nat.le_of_ble_eq_true rfl) rfl hx94 rfl ?_
        refine wp_goto (tgt := 3) dX8_stands_22 (by decide) ?_
        obtain ⟨n95, hlt, h⟩ := h
        exact wp_lsub (ls' := [some (vr a0), some (vi a1), some (vi a2), some (vi a3), some (vi x93), none, none, none]) ⟨rfl, ⟨rfl, ⟨rfl, ⟨rfl, ⟨rfl, trivial⟩⟩⟩⟩⟩ (ih4 n95 hlt _ _ h)
  exact wp_lsub (ls' := [some (vr a0), some (vi a1), some (vi a2), some (vi a3), some (vi 0), none, none, none]) ⟨rfl, ⟨rfl, ⟨rfl, ⟨rfl, ⟨rfl, trivial⟩⟩⟩⟩⟩ (loop96 _ _ _ h07)

set_option maxRecDepth 100000 in
set_option maxHeartbeats 4000000 in
theorem wm_X8_isFree {g : qG} {l : Launch} (hl : l.stackTraces = false) {a0 : Nat} {a1 : Int} {a2 : Int} {a3 : Int} {a4 : Int} {a5 : Int} {σ : qS} {Post : qS → qRs → Prop}
    (h : ∃ Inv3 : Nat → Int → Int → Prop, (∃ n : Nat, Inv3 n 1 0) ∧ ∀ (n4 : Nat) (x1 : Int) (x2 : Int), Inv3 n4 x1 x2 → (qR x2 ∧ qR (a4 * a5) ∧ (((a4 * a5) ≤ x2 → (x1 = 0 ∨ x1 = 1) ∧ Post σ (.inl (some (vi x1)))) ∧ (¬ ((a4 * a5) ≤ x2) → ((qR x1 ∧ (¬ (x1 = 0) → gK σ a0 = 9 ∧ (0 ≤ x2 ∧ x2 < 2147483648) ∧ (0 < a4 ∧ a4 < 2147483648) ∧ (0 ≤ x2 ∧ x2 < 2147483648) ∧ (0 < a4 ∧ a4 < 2147483648) ∧ q_isA σ 0 (gP σ 342 a0) ∧ q_in σ (gP σ 342 a0) (((a1 * (a3 + (x2 / a4))) + a2) + (x2 % a4)) ∧ qR (gA σ (gP σ 342 a0) (((a1 * (a3 + (x2 / a4))) + a2) + (x2 % a4))))) ∧ ∀ v24 : Int, v24 = (if x1 = 0 then 0 else (if ¬ (gA σ (gP σ 342 a0) (((a1 * (a3 + (x2 / a4))) + a2) + (x2 % a4))) = ((-1)) then 0 else 1)) → ∀ x30 : Int, x30 = x2 + 1 → ∃ n32 : Nat, n32 < n4 ∧ Inv3 n32 v24 x30))))) : qMet g l M_X8_isFree [vr a0, vi a1, vi a2, vi a3, vi a4, vi a5] σ Post := by
  refine qMet_of hl (by decide +kernel) (Nat.le_of_ble_eq_true rfl) (List.forall_mem_cons.mpr ⟨trivial, List.forall_mem_cons.mpr ⟨trivial, List.forall_mem_cons.mpr ⟨trivial, List.forall_mem_cons.mpr ⟨trivial, List.forall_mem_cons.mpr ⟨trivial, List.forall_mem_cons.mpr ⟨trivial, fun _ h => nomatch h⟩⟩⟩⟩⟩⟩) ?_
  show qW g l M_X8_isFree 0 0 0 [some (vr a0), some (vi a1), some (vi a2), some (vi a3), some (vi a4), some (vi a5), none, none] [] σ Post
  refine wp_iconst dX8_isFree_0 ?_
  refine wp_istore' (ls' := [some (vr a0), some (vi a1), some (vi a2), some (vi a3), some (vi a4), some (vi a5), some (vi 1), none]) dX8_isFree_1 (Nat.le_of_ble_eq_true rfl) rfl ?_
  refine wp_iconst dX8_isFree_3 ?_
  refine wp_istore' (ls' := [some (vr a0), some (vi a1), some (vi a2), some (vi a3), some (vi a4), some (vi a5), some (vi 1), some (vi 0)]) dX8_isFree_4 (Nat.le_of_ble_eq_true rfl) rfl ?_
  obtain ⟨Inv3, ⟨n4_0, h08⟩, hb7⟩ := h
  have loop44 : ∀ (n4 : Nat) (x1 : Int) (x2 : Int), Inv3 n4 x1 x2 → qW g l M_X8_isFree 0 0 6 [some (vr a0), some (vi a1), some (vi a2), some (vi a3), some (vi a4), some (vi a5), some (vi x1), some (vi x2)] [] σ Post := by
    intro n4
    induction n4 using Nat.strongRecOn with
    | ind n4 ih5 =>
      intro x1 x2 hI6
      have h := hb7 n4 x1 x2 hI6
      refine wp_iload dX8_isFree_6 rfl ?_
      refine wp_iload dX8_isFree_8 rfl ?_
      refine wp_iload dX8_isFree_10 rfl ?_
      refine wp_imul dX8_isFree_12 ?_
      obtain ⟨hr9, hr10, h⟩ := h
      refine wp_icmp_ge (tgt := 60) dX8_isFree_13 (by decide) hr9 hr10 (fun c11 => ?_) (fun c11 => ?_)
      · replace h := h.1 c11
        refine wp_iload dX8_isFree_60 rfl ?_
        obtain ⟨hv12, h⟩ := h
        exact wp_ret_z dX8_isFree_62 rfl hv12 h
      · replace h := h.2 c11
        refine wp_iload dX8_isFree_16 rfl ?_
        obtain ⟨h, hk27⟩ := h
        have key26 : ∀ v24 : Int, v24 = (if x1 = 0 then 0 else (if ¬ (gA σ (gP σ 342 a0) (((a1 * (a3 + (x2 / a4))) + a2) + (x2 % a4))) = ((-1)) then 0 else 1)) → qW g l M_X8_isFree 0 0 52 [some (vr a0), some (vi a1), some (vi a2), some (vi a3), some (vi a4), some (vi a5), some (vi x1), some (vi x2)] [vi v24] σ Post := by
          intro v24 hv25
          have h := hk27 v24 hv25
          have hr28 : qR v24 := by (rw [hv25]; unfold qR; repeat' split) <;> omega
          have hz29 : v24 = 0 ∨ v24 = 1 := by (rw [hv25]; repeat' split) <;> first | exact Or.inl rfl | exact Or.inr rfl
          refine wp_istore' (ls' := [some (vr a0), some (vi a1), some (vi a2), some (vi a3), some (vi a4), some (vi a5), some (vi v24), some (vi x2)]) dX8_isFree_52 (Nat.le_of_ble_eq_true rfl) rfl ?_
          refine wp_nmT (x2 + 1) (fun x30 hx31 => ?_)
          replace h := h x30 hx31
          refine wp_iinc' (z' := x30) (ls' := [some (vr a0), some (vi a1), some (vi a2), some (vi a3), some (vi a4), some (vi a5), some (vi v24), some (vi x30)]) dX8_isFree_54 (Nat.le_of_ble_eq_true rfl) rfl hx31 rfl ?_
          refine wp_goto (tgt := 6) dX8_isFree_57 (by decide) ?_
          obtain ⟨n32, hlt, h⟩ := h
          exact wp_lsub (ls' := [some (vr a0), some (vi a1), some (vi a2), some (vi a3), some (vi a4), some (vi a5), some (vi v24), some (vi x30)]) ⟨rfl, ⟨rfl, ⟨rfl, ⟨rfl, ⟨rfl, ⟨rfl, ⟨rfl, ⟨rfl, trivial⟩⟩⟩⟩⟩⟩⟩⟩ (ih5 n32 hlt _ _ h)
        obtain ⟨hr33, h⟩ := h
        refine wp_if_eq (tgt := 51) dX8_isFree_18 (by decide) hr33 (fun c34 => ?_) (fun c34 => ?_)
        · refine wp_iconst dX8_isFree_51 ?_
          exact key26 _ (by rw [if_pos c34])
        · replace h := h c34
          refine wp_aload_n dX8_isFree_21 rfl ?_
          obtain ⟨hk35, h⟩ := h
          refine wp_get (v := vr (gP σ 342 a0)) dX8_isFree_22 fl_RX8_65 hk35 rfl ?_
          refine wp_iload_n dX8_isFree_25 rfl ?_
          refine wp_iload_n dX8_isFree_26 rfl ?_
          refine wp_iload dX8_isFree_27 rfl ?_
          refine wp_iload dX8_isFree_29 rfl ?_
          obtain ⟨hd36, hd37, h⟩ := h
          refine wp_idiv dX8_isFree_31 hd36 hd37 ?_
          refine wp_iadd dX8_isFree_32 ?_
          refine wp_imul dX8_isFree_33 ?_
          refine wp_iload_n dX8_isFree_34 rfl ?_
          refine wp_iadd dX8_isFree_35 ?_
          refine wp_iload dX8_isFree_36 rfl ?_
          refine wp_iload dX8_isFree_38 rfl ?_
          obtain ⟨hd38, hd39, h⟩ := h
          refine wp_irem dX8_isFree_40 hd38 hd39 ?_
          refine wp_iadd dX8_isFree_41 ?_
          obtain ⟨ha40, hi41, h⟩ := h
          refine wp_iaload dX8_isFree_42 ha40 hi41 ?_
          refine wp_iconst dX8_isFree_43 ?_
          have hr42 := h
          refine wp_icmp_ne (tgt := 51) dX8_isFree_44 (by decide) hr42 (by unfold qR; omega) (fun c43 => ?_) (fun c43 => ?_)
          · refine wp_iconst dX8_isFree_51 ?_
            exact key26 _ (by rw [if_neg c34, if_pos c43])
          · refine wp_iconst dX8_isFree_47 ?_
            refine wp_goto (tgt := 52) dX8_isFree_48 (by decide) ?_
            exact key26 _ (by rw [if_neg c34, if_neg (fun z => z c43)])
  exact wp_lsub (ls' := [some (vr a0), some (vi a1), some (vi a2), some (vi a3), some (vi a4), some (vi a5), some (vi 1), some (vi 0)]) ⟨rfl, ⟨rfl, ⟨rfl, ⟨rfl, ⟨rfl, ⟨rfl, ⟨rfl, ⟨rfl, trivial⟩⟩⟩⟩⟩⟩⟩⟩ (loop44 _ _ _ h08)

set_option maxRecDepth 100000 in
set_option maxHeartbeats 4000000 in
theorem wm_X8_places {g : qG} {l : Launch} (hl : l.stackTraces = false) {a0 : Nat} {a1 : Int} {a2 : Int} {a3 : Int} {σ : qS} {Post : qS → qRs → Prop}
    (h : gK σ a0 = 9 ∧ q_isA σ 0 (gP σ 329 a0) ∧ q_in σ (gP σ 329 a0) a1 ∧ ∀ x4 : Int, x4 = gA σ (gP σ 329 a0) a1 → (∃ Mid7 : qS → Prop, qMet g l M_X8_stands [vr a0, vi a1, vi a2, vi a3] σ (qTv0 Mid7) ∧ ∀ (σ11 : qS), Mid7 σ11 → ∃ Inv15 : Nat → Int → Int → qS → Prop, (∃ n : Nat, Inv15 n ((-1)) 0 σ11) ∧ ∀ (n16 : Nat) (x13 : Int) (x14 : Int) (σ21 : qS), Inv15 n16 x13 x14 σ21 → (gK σ21 a0 = 9 ∧ q_isA σ21 0 (gP σ21 335 a0) ∧ q_in σ21 (gP σ21 335 a0) a1 ∧ qR x14 ∧ qR (gA σ21 (gP σ21 335 a0) a1) ∧ (((gA σ21 (gP σ21 335 a0) a1) ≤ x14 → Post σ21 (.inl (some (vi 1)))) ∧ (¬ ((gA σ21 (gP σ21 335 a0) a1) ≤ x14) → q_isA σ21 0 (gP σ21 336 a0) ∧ q_in σ21 (gP σ21 336 a0) ((4 * a1) + x14) ∧ ∀ x30 : Int, x30 = gA σ21 (gP σ21 336 a0) ((4 * a1) + x14) → (∃ v33 : Int, qMet g l M_X8_grown [vr a0, vi x30, vi x4] σ21 (qPi σ21 v33) ∧ (((qR v33) ∧ ∀ v36 : Int, v36 = (if 6 ≤ v33 then 6 else v33) → ((qR v36 ∧ qR a2) ∧ ∀ v43 : Int, v43 = (if a2 ≤ v36 then a2 else v36) → (0 ≤ ((v33 + v43) - 1) ∧ ((v33 + v43) - 1) < 2147483648) ∧ (0 < v43 ∧ v43 < 2147483648) ∧ ∀ x49 : Int, x49 = ((v33 + v43) - 1) / v43 → ∃ Inv54 : Nat → Int → Int → Int → Prop, (∃ n : Nat, Inv54 n x13 ((-1)) 0) ∧ ∀ (n55 : Nat) (x51 : Int) (x52 : Int) (x53 : Int), Inv54 n55 x51 x52 x53 → (qR x52 ∧ ((¬ x52 = ((-1)) → ((¬ x52 = ((-1)) → ∃ Inv64 : Nat → Int → qS → Prop, (∃ n : Nat, Inv64 n 0 σ21) ∧ ∀ (n65 : Nat) (x63 : Int) (σ70 : qS), Inv64 n65 x63 σ70 → (qR x63 ∧ qR (v43 * x49) ∧ (((v43 * x49) ≤ x63 → gK σ70 a0 = 9 ∧ gK σ70 (gP σ70 341 a0) = 20 ∧ q_in σ70 (gP σ70 341 a0) (4 * x30) ∧ (∀ σ77 : qS, σ77 = sA σ70 (gP σ70 341 a0) (4 * x30) x52 → gK σ77 (gP σ77 341 a0) = 20 ∧ q_in σ77 (gP σ77 341 a0) ((4 * x30) + 1) ∧ (∀ σ81 : qS, σ81 = sA σ77 (gP σ77 341 a0) ((4 * x30) + 1) x53 → gK σ81 (gP σ81 341 a0) = 20 ∧ q_in σ81 (gP σ81 341 a0) ((4 * x30) + 2) ∧ (∀ σ85 : qS, σ85 = sA σ81 (gP σ81 341 a0) ((4 * x30) + 2) v43 → gK σ85 (gP σ85 341 a0) = 20 ∧ q_in σ85 (gP σ85 341 a0) ((4 * x30) + 3) ∧ (∀ σ89 : qS, σ89 = sA σ85 (gP σ85 341 a0) ((4 * x30) + 3) x49 → ∀ x91 : Int, x91 = x14 + 1 → ∃ n93 : Nat, n93 < n16 ∧ Inv15 n93 x51 x91 σ89))))) ∧ (¬ ((v43 * x49) ≤ x63) → gK σ70 a0 = 9 ∧ (0 ≤ x63 ∧ x63 < 2147483648) ∧ (0 < v43 ∧ v43 < 2147483648) ∧ (0 ≤ x63 ∧ x63 < 2147483648) ∧ (0 < v43 ∧ v43 < 2147483648) ∧ gK σ70 (gP σ70 342 a0) = 20 ∧ q_in σ70 (gP σ70 342 a0) (((a2 * (x53 + (x63 / v43))) + x52) + (x63 % v43)) ∧ (∀ σ101 : qS, σ101 = sA σ70 (gP σ70 342 a0) (((a2 * (x53 + (x63 / v43))) + x52) + (x63 % v43)) x30 → ∀ x103 : Int, x103 = x63 + 1 → ∃ n105 : Nat, n105 < n65 ∧ Inv64 n105 x103 σ101))))) ∧ (x52 = ((-1)) → Post σ21 (.inl (some (vi 0)))))) ∧ (x52 = ((-1)) → qR (x51 + 1) ∧ qR (a2 * a3) ∧ (((a2 * a3) ≤ (x51 + 1) → ((¬ x52 = ((-1)) → ∃ Inv112 : Nat → Int → qS → Prop, (∃ n : Nat, Inv112 n 0 σ21) ∧ ∀ (n113 : Nat) (x111 : Int) (σ118 : qS), Inv112 n113 x111 σ118 → (qR x111 ∧ qR (v43 * x49) ∧ (((v43 * x49) ≤ x111 → gK σ118 a0 = 9 ∧ gK σ118 (gP σ118 341 a0) = 20 ∧ q_in σ118 (gP σ118 341 a0) (4 * x30) ∧ (∀ σ125 : qS, σ125 = sA σ118 (gP σ118 341 a0) (4 * x30) x52 → gK σ125 (gP σ125 341 a0) = 20 ∧ q_in σ125 (gP σ125 341 a0) ((4 * x30) + 1) ∧ (∀ σ129 : qS, σ129 = sA σ125 (gP σ125 341 a0) ((4 * x30) + 1) x53 → gK σ129 (gP σ129 341 a0) = 20 ∧ q_in σ129 (gP σ129 341 a0) ((4 * x30) + 2) ∧ (∀ σ133 : qS, σ133 = sA σ129 (gP σ129 341 a0) ((4 * x30) + 2) v43 → gK σ133 (gP σ133 341 a0) = 20 ∧ q_in σ133 (gP σ133 341 a0) ((4 * x30) + 3) ∧ (∀ σ137 : qS, σ137 = sA σ133 (gP σ133 341 a0) ((4 * x30) + 3) x49 → ∀ x139 : Int, x139 = x14 + 1 → ∃ n141 : Nat, n141 < n16 ∧ Inv15 n141 x51 x139 σ137))))) ∧ (¬ ((v43 * x49) ≤ x111) → gK σ118 a0 = 9 ∧ (0 ≤ x111 ∧ x111 < 2147483648) ∧ (0 < v43 ∧ v43 < 2147483648) ∧ (0 ≤ x111 ∧ x111 < 2147483648) ∧ (0 < v43 ∧ v43 < 2147483648) ∧ gK σ118 (gP σ118 342 a0) = 20 ∧ q_in σ118 (gP σ118 342 a0) (((a2 * (x53 + (x111 / v43))) + x52) + (x111 % v43)) ∧ (∀ σ149 : qS, σ149 = sA σ118 (gP σ118 342 a0) (((a2 * (x53 + (x111 / v43))) + x52) + (x111 % v43)) x30 → ∀ x151 : Int, x151 = x111 + 1 → ∃ n153 : Nat, n153 < n113 ∧ Inv112 n153 x151 σ149))))) ∧ (x52 = ((-1)) → Post σ21 (.inl (some (vi 0)))))) ∧ (¬ ((a2 * a3) ≤ (x51 + 1)) → ∀ x155 : Int, x155 = x51 + 1 → (∃ v158 : Int, qMet g l M_X8_isFromRight [vr a0, vi x4] σ21 (qPi σ21 v158) ∧ (((qR v158 ∧ ((v158 = 0 → (0 ≤ x155 ∧ x155 < 2147483648) ∧ (0 < a2 ∧ a2 < 2147483648)) ∧ (¬ (v158 = 0) → (0 ≤ x155 ∧ x155 < 2147483648) ∧ (0 < a2 ∧ a2 < 2147483648)))) ∧ ∀ v165 : Int, v165 = (if v158 = 0 then (x155 % a2) else (((a2 - 1) - (x155 % a2)) - (v43 - 1))) → (0 ≤ x155 ∧ x155 < 2147483648) ∧ (0 < a2 ∧ a2 < 2147483648) ∧ ∀ x171 : Int, x171 = x155 / a2 → ((qR v165 ∧ (¬ (v165 < 0) → qR (v165 + v43) ∧ qR a2 ∧ (¬ (a2 < (v165 + v43)) → qR (x171 + x49) ∧ qR a3))) ∧ ∀ v181 : Int, v181 = (if v165 < 0 then 0 else (if a2 < (v165 + v43) then 0 else (if a3 < (x171 + x49) then 0 else 1))) → ((v181 = 0 → ∃ n188 : Nat, n188 < n55 ∧ Inv54 n188 x155 ((-1)) x171) ∧ (¬ (v181 = 0) → (∃ v190 : Int, qMet g l M_X8_isFree [vr a0, vi a2, vi v165, vi x171, vi v43, vi x49] σ21 (qPi σ21 v190) ∧ (((qR v190) ∧ ∀ v193 : Int, v193 = (if v190 = 0 then ((-1)) else v165) → ∃ n197 : Nat, n197 < n55 ∧ Inv54 n197 x155 v193 x171))))))))))))))))))))))) : qMet g l M_X8_places [vr a0, vi a1, vi a2, vi a3] σ Post := by
  refine qMet_of hl (by decide +kernel) (Nat.le_of_ble_eq_true rfl) (List.forall_mem_cons.mpr ⟨trivial, List.forall_mem_cons.mpr ⟨trivial, List.forall_mem_cons.mpr ⟨trivial, List.forall_mem_cons.mpr ⟨trivial, fun _ h => nomatch h⟩⟩⟩⟩) ?_
  show qW g l M_X8_places 0 0 0 [some (vr a0), some (vi a1), some (vi a2), some (vi a3), none, none, none, none, none, none, none, none, none, none, none] [] σ Post
  refine wp_aload_n dX8_places_0 rfl ?_
  obtain ⟨hk1, h⟩ := h
  refine wp_get (v := vr (gP σ 329 a0)) dX8_places_1 fl_RX8_26 hk1 rfl ?_
  refine wp_iload_n dX8_places_4 rfl ?_
  obtain ⟨ha2, hi3, h⟩ := h
  refine wp_iaload dX8_places_5 ha2 hi3 ?_
  refine wp_nmI (fun x4 hx5 => ?_)
  replace h := h x4 hx5
  refine wp_istore' (ls' := [some (vr a0), some (vi a1), some (vi a2), some (vi a3), some (vi x4), none, none, none, none, none, none, none, none, none, none]) dX8_places_6 (Nat.le_of_ble_eq_true rfl) rfl ?_
  refine wp_iconst dX8_places_8 ?_
  refine wp_istore' (ls' := [some (vr a0), some (vi a1), some (vi a2), some (vi a3), some (vi x4), some (vi ((-1))), none, none, none, none, none, none, none, none, none]) dX8_places_9 (Nat.le_of_ble_eq_true rfl) rfl ?_
  refine wp_aload_n dX8_places_11 rfl ?_
  refine wp_iload_n dX8_places_12 rfl ?_
  refine wp_iload_n dX8_places_13 rfl ?_
  refine wp_iload_n dX8_places_14 rfl ?_
  obtain ⟨Mid7, hm6, hk9⟩ := h
  refine wp_callV (M' := M_X8_stands) (As := [vi a1, vi a2, vi a3]) (st := []) (ci := 8) dX8_places_15 cee_X8_stands np_X8_stands rfl ⟨Nat.le_of_ble_eq_true rfl, Nat.le_of_ble_eq_true rfl, Nat.le_of_ble_eq_true rfl, Nat.le_of_ble_eq_true rfl⟩ wd_1385 wd_1387 sel_X8_stands rfl (Or.inl hk1) (q_small_of (Nat.le_of_ble_eq_true rfl)) hm6 (q_kTv0 (fun σ11 hM12 => ?_)) q_kTv00
  refine wp_less (ac2 := 0) (as2 := 0) (Nat.le_of_ble_eq_true rfl) (Nat.le_of_ble_eq_true rfl) ?_
  have h := hk9 σ11 hM12
  refine wp_iconst dX8_places_18 ?_
  refine wp_istore' (ls' := [some (vr a0), some (vi a1), some (vi a2), some (vi a3), some (vi x4), some (vi ((-1))), some (vi 0), none, none, none, none, none, none, none, none]) dX8_places_19 (Nat.le_of_ble_eq_true rfl) rfl ?_
  obtain ⟨Inv15, ⟨n16_0, h020⟩, hb19⟩ := h
  have loop220 : ∀ (n16 : Nat) (x13 : Int) (x14 : Int) (σ21 : qS), Inv15 n16 x13 x14 σ21 → qW g l M_X8_places 0 0 21 [some (vr a0), some (vi a1), some (vi a2), some (vi a3), some (vi x4), some (vi x13), some (vi x14), none, none, none, none, none, none, none, none] [] σ21 Post := by
    intro n16
    induction n16 using Nat.strongRecOn with
    | ind n16 ih17 =>
      intro x13 x14 σ21 hI18
      have h := hb19 n16 x13 x14 σ21 hI18
      refine wp_iload dX8_places_21 rfl ?_
      refine wp_aload_n dX8_places_23 rfl ?_
      obtain ⟨hk22, h⟩ := h
      refine wp_get (v := vr (gP σ21 335 a0)) dX8_places_24 fl_RX8_44 hk22 rfl ?_
      refine wp_iload_n dX8_places_27 rfl ?_
      obtain ⟨ha23, hi24, h⟩ := h
      refine wp_iaload dX8_places_28 ha23 hi24 ?_
      obtain ⟨hr25, hr26, h⟩ := h
      refine wp_icmp_ge (tgt := 330) dX8_places_29 (by decide) hr25 hr26 (fun c27 => ?_) (fun c27 => ?_)
      · replace h := h.1 c27
        refine wp_iconst dX8_places_330 ?_
        exact wp_ret_z dX8_places_331 rfl (Or.inr rfl) h
      · replace h := h.2 c27
        refine wp_aload_n dX8_places_32 rfl ?_
        refine wp_get (v := vr (gP σ21 336 a0)) dX8_places_33 fl_RX8_47 hk22 rfl ?_
        refine wp_iconst dX8_places_36 ?_
        refine wp_iload_n dX8_places_37 rfl ?_
        refine wp_imul dX8_places_38 ?_
        refine wp_iload dX8_places_39 rfl ?_
        refine wp_iadd dX8_places_41 ?_
        obtain ⟨ha28, hi29, h⟩ := h
        refine wp_iaload dX8_places_42 ha28 hi29 ?_
        refine wp_nmI (fun x30 hx31 => ?_)
        replace h := h x30 hx31
        refine wp_istore' (ls' := [some (vr a0), some (vi a1), some (vi a2), some (vi a3), some (vi x4), some (vi x13), some (vi x14), some (vi x30), none, none, none, none, none, none, none]) dX8_places_43 (Nat.le_of_ble_eq_true rfl) rfl ?_
        refine wp_aload_n dX8_places_45 rfl ?_
        refine wp_iload dX8_places_46 rfl ?_
        refine wp_iload dX8_places_48 rfl ?_
        obtain ⟨v33, hm32, h⟩ := h
        refine wp_callV (M' := M_X8_grown) (As := [vi x30, vi x4]) (st := []) (ci := 8) dX8_places_50 cee_X8_grown np_X8_grown rfl ⟨Nat.le_of_ble_eq_true rfl, Nat.le_of_ble_eq_true rfl, Nat.le_of_ble_eq_true rfl, Nat.le_of_ble_eq_true rfl⟩ wd_1389 wd_1391 sel_X8_grown rfl (Or.inl hk22) (q_small_of (Nat.le_of_ble_eq_true rfl)) hm32 (q_kPi ?_) q_kPi0
        refine wp_less (ac2 := 0) (as2 := 0) (Nat.le_of_ble_eq_true rfl) (Nat.le_of_ble_eq_true rfl) ?_
        refine wp_istore' (ls' := [some (vr a0), some (vi a1), some (vi a2), some (vi a3), some (vi x4), some (vi x13), some (vi x14), some (vi x30), some (vi v33), none, none, none, none, none, none]) dX8_places_53 (Nat.le_of_ble_eq_true rfl) rfl ?_
        refine wp_iload dX8_places_55 rfl ?_
        refine wp_bipush dX8_places_57 (by decide) ?_
        obtain ⟨h, hk39⟩ := h
        have key38 : ∀ v36 : Int, v36 = (if 6 ≤ v33 then 6 else v33) → qW g l M_X8_places 0 0 69 [some (vr a0), some (vi a1), some (vi a2), some (vi a3), some (vi x4), some (vi x13), some (vi x14), some (vi x30), some (vi v33), none, none, none, none, none, none] [vi v36] σ21 Post := by
          intro v36 hv37
          have h := hk39 v36 hv37
          refine wp_istore' (ls' := [some (vr a0), some (vi a1), some (vi a2), some (vi a3), some (vi x4), some (vi x13), some (vi x14), some (vi x30), some (vi v33), some (vi v36), none, none, none, none, none]) dX8_places_69 (Nat.le_of_ble_eq_true rfl) rfl ?_
          refine wp_iload dX8_places_71 rfl ?_
          refine wp_iload_n dX8_places_73 rfl ?_
          obtain ⟨h, hk46⟩ := h
          have key45 : ∀ v43 : Int, v43 = (if a2 ≤ v36 then a2 else v36) → qW g l M_X8_places 0 0 83 [some (vr a0), some (vi a1), some (vi a2), some (vi a3), some (vi x4), some (vi x13), some (vi x14), some (vi x30), some (vi v33), some (vi v36), none, none, none, none, none] [vi v43] σ21 Post := by
            intro v43 hv44
            have h := hk46 v43 hv44
            refine wp_istore' (ls' := [some (vr a0), some (vi a1), some (vi a2), some (vi a3), some (vi x4), some (vi x13), some (vi x14), some (vi x30), some (vi v33), some (vi v43), none, none, none, none, none]) dX8_places_83 (Nat.le_of_ble_eq_true rfl) rfl ?_
            refine wp_iload dX8_places_85 rfl ?_
            refine wp_iload dX8_places_87 rfl ?_
            refine wp_iadd dX8_places_89 ?_
            refine wp_iconst dX8_places_90 ?_
            refine wp_isub dX8_places_91 ?_
            refine wp_iload dX8_places_92 rfl ?_
            obtain ⟨hd47, hd48, h⟩ := h
            refine wp_idiv dX8_places_94 hd47 hd48 ?_
            refine wp_nmI (fun x49 hx50 => ?_)
            replace h := h x49 hx50
            refine wp_istore' (ls' := [some (vr a0), some (vi a1), some (vi a2), some (vi a3), some (vi x4), some (vi x13), some (vi x14), some (vi x30), some (vi v33), some (vi v43), some (vi x49), none, none, none, none]) dX8_places_95 (Nat.le_of_ble_eq_true rfl) rfl ?_
            refine wp_iconst dX8_places_97 ?_
            refine wp_istore' (ls' := [some (vr a0), some (vi a1), some (vi a2), some (vi a3), some (vi x4), some (vi x13), some (vi x14), some (vi x30), some (vi v33), some (vi v43), some (vi x49), some (vi ((-1))), none, none, none]) dX8_places_98 (Nat.le_of_ble_eq_true rfl) rfl ?_
            refine wp_iconst dX8_places_100 ?_
            refine wp_istore' (ls' := [some (vr a0), some (vi a1), some (vi a2), some (vi a3), some (vi x4), some (vi x13), some (vi x14), some (vi x30), some (vi v33), some (vi v43), some (vi x49), some (vi ((-1))), some (vi 0), none, none]) dX8_places_101 (Nat.le_of_ble_eq_true rfl) rfl ?_
            obtain ⟨Inv54, ⟨n55_0, h059⟩, hb58⟩ := h
            have loop214 : ∀ (n55 : Nat) (x51 : Int) (x52 : Int) (x53 : Int), Inv54 n55 x51 x52 x53 → qW g l M_X8_places 0 0 103 [some (vr a0), some (vi a1), some (vi a2), some (vi a3), some (vi x4), some (vi x51), some (vi x14), some (vi x30), some (vi v33), some (vi v43), some (vi x49), some (vi x52), some (vi x53), none, none] [] σ21 Post := by
              intro n55
              induction n55 using Nat.strongRecOn with
              | ind n55 ih56 =>
                intro x51 x52 x53 hI57
                have h := hb58 n55 x51 x52 x53 hI57
                refine wp_iload dX8_places_103 rfl ?_
                refine wp_iconst dX8_places_105 ?_
                obtain ⟨hr60, h⟩ := h
                refine wp_icmp_ne (tgt := 221) dX8_places_106 (by decide) hr60 (by unfold qR; omega) (fun c61 => ?_) (fun c61 => ?_)
                · replace h := h.1 c61
                  refine wp_iload dX8_places_221 rfl ?_
                  refine wp_iconst dX8_places_223 ?_
                  refine wp_icmp_ne (tgt := 229) dX8_places_224 (by decide) hr60 (by unfold qR; omega) (fun c62 => ?_) (fun c62 => ?_)
                  · replace h := h.1 c62
                    refine wp_iconst dX8_places_229 ?_
                    refine wp_istore' (ls' := [some (vr a0), some (vi a1), some (vi a2), some (vi a3), some (vi x4), some (vi x51), some (vi x14), some (vi x30), some (vi v33), some (vi v43), some (vi x49), some (vi x52), some (vi x53), some (vi 0), none]) dX8_places_230 (Nat.le_of_ble_eq_true rfl) rfl ?_
                    obtain ⟨Inv64, ⟨n65_0, h069⟩, hb68⟩ := h
                    have loop106 : ∀ (n65 : Nat) (x63 : Int) (σ70 : qS), Inv64 n65 x63 σ70 → qW g l M_X8_places 0 0 232 [some (vr a0), some (vi a1), some (vi a2), some (vi a3), some (vi x4), some (vi x51), some (vi x14), some (vi x30), some (vi v33), some (vi v43), some (vi x49), some (vi x52), some (vi x53), some (vi x63), none] [] σ70 Post := by
                      intro n65
                      induction n65 using Nat.strongRecOn with
                      | ind n65 ih66 =>
                        intro x63 σ70 hI67
                        have h := hb68 n65 x63 σ70 hI67
                        refine wp_iload dX8_places_232 rfl ?_
                        refine wp_iload dX8_places_234 rfl ?_
                        refine wp_iload dX8_places_236 rfl ?_
                        refine wp_imul dX8_places_238 ?_
                        obtain ⟨hr71, hr72, h⟩ := h
                        refine wp_icmp_ge (tgt := 274) dX8_places_239 (by decide) hr71 hr72 (fun c73 => ?_) (fun c73 => ?_)
                        · replace h := h.1 c73
                          refine wp_aload_n dX8_places_274 rfl ?_
                          obtain ⟨hk74, h⟩ := h
                          refine wp_get (v := vr (gP σ70 341 a0)) dX8_places_275 fl_RX8_62 hk74 rfl ?_
                          refine wp_iconst dX8_places_278 ?_
                          refine wp_iload dX8_places_279 rfl ?_
                          refine wp_imul dX8_places_281 ?_
                          refine wp_iload dX8_places_282 rfl ?_
                          obtain ⟨hk75, hi76, h⟩ := h
                          refine wp_iastore dX8_places_284 hk75 hi76 ?_
                          refine wp_nmS (fun σ77 hs78 => ?_)
                          replace h := h σ77 hs78
                          refine wp_aload_n dX8_places_285 rfl ?_
                          refine wp_get (v := vr (gP σ77 341 a0)) dX8_places_286 fl_RX8_62 (by rw [hs78]; exact hk74) rfl ?_
                          refine wp_iconst dX8_places_289 ?_
                          refine wp_iload dX8_places_290 rfl ?_
                          refine wp_imul dX8_places_292 ?_
                          refine wp_iconst dX8_places_293 ?_
                          refine wp_iadd dX8_places_294 ?_
                          refine wp_iload dX8_places_295 rfl ?_
                          obtain ⟨hk79, hi80, h⟩ := h
                          refine wp_iastore dX8_places_297 hk79 hi80 ?_
                          refine wp_nmS (fun σ81 hs82 => ?_)
                          replace h := h σ81 hs82
                          refine wp_aload_n dX8_places_298 rfl ?_
                          refine wp_get (v := vr (gP σ81 341 a0)) dX8_places_299 fl_RX8_62 (by rw [hs82, hs78]; exact hk74) rfl ?_
                          refine wp_iconst dX8_places_302 ?_
                          refine wp_iload dX8_places_303 rfl ?_
                          refine wp_imul dX8_places_305 ?_
                          refine wp_iconst dX8_places_306 ?_
                          refine wp_iadd dX8_places_307 ?_
                          refine wp_iload dX8_places_308 rfl ?_
                          obtain ⟨hk83, hi84, h⟩ := h
                          refine wp_iastore dX8_places_310 hk83 hi84 ?_
                          refine wp_nmS (fun σ85 hs86 => ?_)
                          replace h := h σ85 hs86
                          refine wp_aload_n dX8_places_311 rfl ?_
                          refine wp_get (v := vr (gP σ85 341 a0)) dX8_places_312 fl_RX8_62 (by rw [hs86, hs82, hs78]; exact hk74) rfl ?_
                          refine wp_iconst dX8_places_315 ?_
                          refine wp_iload dX8_places_316 rfl ?_
                          refine wp_imul dX8_places_318 ?_
                          refine wp_iconst dX8_places_319 ?_
                          refine wp_iadd dX8_places_320 ?_
                          refine wp_iload dX8_places_321 rfl ?_
                          obtain ⟨hk87, hi88, h⟩ := h
                          refine wp_iastore dX8_places_323 hk87 hi88 ?_
                          refine wp_nmS (fun σ89 hs90 => ?_)
                          replace h := h σ89 hs90
                          refine wp_nmT (x14 + 1) (fun x91 hx92 => ?_)
                          replace h := h x91 hx92
                          refine wp_iinc' (z' := x91) (ls' := [some (vr a0), some (vi a1), some (vi a2), some (vi a3), some (vi x4), some (vi x51), some (vi x91), some (vi x30), some (vi v33), some (vi v43), some (vi x49), some (vi x52), some (vi x53), some (vi x63), none]) dX8_places_324 (Nat.le_of_ble_eq_true rfl) rfl hx92 rfl ?_
                          refine wp_goto (tgt := 21) dX8_places_327 (by decide) ?_
                          obtain ⟨n93, hlt, h⟩ := h
                          exact wp_lsub (ls' := [some (vr a0), some (vi a1), some (vi a2), some (vi a3), some (vi x4), some (vi x51), some (vi x91), none, none, none, none, none, none, none, none]) ⟨rfl, ⟨rfl, ⟨rfl, ⟨rfl, ⟨rfl, ⟨rfl, ⟨rfl, trivial⟩⟩⟩⟩⟩⟩⟩ (ih17 n93 hlt _ _ _ h)
                        · replace h := h.2 c73
                          refine wp_aload_n dX8_places_242 rfl ?_
                          obtain ⟨hk94, h⟩ := h
                          refine wp_get (v := vr (gP σ70 342 a0)) dX8_places_243 fl_RX8_65 hk94 rfl ?_
                          refine wp_iload_n dX8_places_246 rfl ?_
                          refine wp_iload dX8_places_247 rfl ?_
                          refine wp_iload dX8_places_249 rfl ?_
                          refine wp_iload dX8_places_251 rfl ?_
                          obtain ⟨hd95, hd96, h⟩ := h
                          refine wp_idiv dX8_places_253 hd95 hd96 ?_
                          refine wp_iadd dX8_places_254 ?_
                          refine wp_imul dX8_places_255 ?_
                          refine wp_iload dX8_places_256 rfl ?_
                          refine wp_iadd dX8_places_258 ?_
                          refine wp_iload dX8_places_259 rfl ?_
                          refine wp_iload dX8_places_261 rfl ?_
                          obtain ⟨hd97, hd98, h⟩ := h
                          refine wp_irem dX8_places_263 hd97 hd98 ?_
                          refine wp_iadd dX8_places_264 ?_
                          refine wp_iload dX8_places_265 rfl ?_
                          obtain ⟨hk99, hi100, h⟩ := h
                          refine wp_iastore dX8_places_267 hk99 hi100 ?_
                          refine wp_nmS (fun σ101 hs102 => ?_)
                          replace h := h σ101 hs102
                          refine wp_nmT (x63 + 1) (fun x103 hx104 => ?_)
                          replace h := h x103 hx104
                          refine wp_iinc' (z' := x103) (ls' := [some (vr a0), some (vi a1), some (vi a2), some (vi a3), some (vi x4), some (vi x51), some (vi x14), some (vi x30), some (vi v33), some (vi v43), some (vi x49), some (vi x52), some (vi x53), some (vi x103), none]) dX8_places_268 (Nat.le_of_ble_eq_true rfl) rfl hx104 rfl ?_
                          refine wp_goto (tgt := 232) dX8_places_271 (by decide) ?_
                          obtain ⟨n105, hlt, h⟩ := h
                          exact wp_lsub (ls' := [some (vr a0), some (vi a1), some (vi a2), some (vi a3), some (vi x4), some (vi x51), some (vi x14), some (vi x30), some (vi v33), some (vi v43), some (vi x49), some (vi x52), some (vi x53), some (vi x103), none]) ⟨rfl, ⟨rfl, ⟨rfl, ⟨rfl, ⟨rfl, ⟨rfl, ⟨rfl, ⟨rfl, ⟨rfl, ⟨rfl, ⟨rfl, ⟨rfl, ⟨rfl, ⟨rfl, trivial⟩⟩⟩⟩⟩⟩⟩⟩⟩⟩⟩⟩⟩⟩ (ih66 n105 hlt _ _ h)
                    exact wp_lsub (ls' := [some (vr a0), some (vi a1), some (vi a2), some (vi a3), some (vi x4), some (vi x51), some (vi x14), some (vi x30), some (vi v33), some (vi v43), some (vi x49), some (vi x52), some (vi x53), some (vi 0), none]) ⟨rfl, ⟨rfl, ⟨rfl, ⟨rfl, ⟨rfl, ⟨rfl, ⟨rfl, ⟨rfl, ⟨rfl, ⟨rfl, ⟨rfl, ⟨rfl, ⟨rfl, ⟨rfl, trivial⟩⟩⟩⟩⟩⟩⟩⟩⟩⟩⟩⟩⟩⟩ (loop106 _ _ _ h069)
                  · replace h := h.2 c62
                    refine wp_iconst dX8_places_227 ?_
                    exact wp_ret_z dX8_places_228 rfl (Or.inl rfl) h
                · replace h := h.2 c61
                  refine wp_iload dX8_places_109 rfl ?_
                  refine wp_iconst dX8_places_111 ?_
                  refine wp_iadd dX8_places_112 ?_
                  refine wp_iload_n dX8_places_113 rfl ?_
                  refine wp_iload_n dX8_places_114 rfl ?_
                  refine wp_imul dX8_places_115 ?_
                  obtain ⟨hr107, hr108, h⟩ := h
                  refine wp_icmp_ge (tgt := 221) dX8_places_116 (by decide) hr107 hr108 (fun c109 => ?_) (fun c109 => ?_)
                  · replace h := h.1 c109
                    refine wp_iload dX8_places_221 rfl ?_
                    refine wp_iconst dX8_places_223 ?_
                    refine wp_icmp_ne (tgt := 229) dX8_places_224 (by decide) hr60 (by unfold qR; omega) (fun c110 => ?_) (fun c110 => ?_)
                    · replace h := h.1 c110
                      refine wp_iconst dX8_places_229 ?_
                      refine wp_istore' (ls' := [some (vr a0), some (vi a1), some (vi a2), some (vi a3), some (vi x4), some (vi x51), some (vi x14), some (vi x30), some (vi v33), some (vi v43), some (vi x49), some (vi x52), some (vi x53), some (vi 0), none]) dX8_places_230 (Nat.le_of_ble_eq_true rfl) rfl ?_
                      obtain ⟨Inv112, ⟨n113_0, h0117⟩, hb116⟩ := h
                      have loop154 : ∀ (n113 : Nat) (x111 : Int) (σ118 : qS), Inv112 n113 x111 σ118 → qW g l M_X8_places 0 0 232 [some (vr a0), some (vi a1), some (vi a2), some (vi a3), some (vi x4), some (vi x51), some (vi x14), some (vi x30), some (vi v33), some (vi v43), some (vi x49), some (vi x52), some (vi x53), some (vi x111), none] [] σ118 Post := by
                        intro n113
                        induction n113 using Nat.strongRecOn with
                        | ind n113 ih114 =>
                          intro x111 σ118 hI115
                          have h := hb116 n113 x111 σ118 hI115
                          refine wp_iload dX8_places_232 rfl ?_
                          refine wp_iload dX8_places_234 rfl ?_
                          refine wp_iload dX8_places_236 rfl ?_
                          refine wp_imul dX8_places_238 ?_
                          obtain ⟨hr119, hr120, h⟩ := h
                          refine wp_icmp_ge (tgt := 274) dX8_places_239 (by decide) hr119 hr120 (fun c121 => ?_) (fun c121 => ?_)
                          · replace h := h.1 c121
                            refine wp_aload_n dX8_places_274 rfl ?_
                            obtain ⟨hk122, h⟩ := h
                            refine wp_get (v := vr (gP σ118 341 a0)) dX8_places_275 fl_RX8_62 hk122 rfl ?_
                            refine wp_iconst dX8_places_278 ?_
                            refine wp_iload dX8_places_279 rfl ?_
                            refine wp_imul dX8_places_281 ?_
                            refine wp_iload dX8_places_282 rfl ?_
                            obtain ⟨hk123, hi124, h⟩ := h
                            refine wp_iastore dX8_places_284 hk123 hi124 ?_
                            refine wp_nmS (fun σ125 hs126 => ?_)
                            replace h := h σ125 hs126
                            refine wp_aload_n dX8_places_285 rfl ?_
                            refine wp_get (v := vr (gP σ125 341 a0)) dX8_places_286 fl_RX8_62 (by rw [hs126]; exact hk122) rfl ?_
                            refine wp_iconst dX8_places_289 ?_
                            refine wp_iload dX8_places_290 rfl ?_
                            refine wp_imul dX8_places_292 ?_
                            refine wp_iconst dX8_places_293 ?_
                            refine wp_iadd dX8_places_294 ?_
                            refine wp_iload dX8_places_295 rfl ?_
                            obtain ⟨hk127, hi128, h⟩ := h
                            refine wp_iastore dX8_places_297 hk127 hi128 ?_
                            refine wp_nmS (fun σ129 hs130 => ?_)
                            replace h := h σ129 hs130
                            refine wp_aload_n dX8_places_298 rfl ?_
                            refine wp_get (v := vr (gP σ129 341 a0)) dX8_places_299 fl_RX8_62 (by rw [hs130, hs126]; exact hk122) rfl ?_
                            refine wp_iconst dX8_places_302 ?_
                            refine wp_iload dX8_places_303 rfl ?_
                            refine wp_imul dX8_places_305 ?_
                            refine wp_iconst dX8_places_306 ?_
                            refine wp_iadd dX8_places_307 ?_
                            refine wp_iload dX8_places_308 rfl ?_
                            obtain ⟨hk131, hi132, h⟩ := h
                            refine wp_iastore dX8_places_310 hk131 hi132 ?_
                            refine wp_nmS (fun σ133 hs134 => ?_)
                            replace h := h σ133 hs134
                            refine wp_aload_n dX8_places_311 rfl ?_
                            refine wp_get (v := vr (gP σ133 341 a0)) dX8_places_312 fl_RX8_62 (by rw [hs134, hs130, hs126]; exact hk122) rfl ?_
                            refine wp_iconst dX8_places_315 ?_
                            refine wp_iload dX8_places_316 rfl ?_
                            refine wp_imul dX8_places_318 ?_
                            refine wp_iconst dX8_places_319 ?_
                            refine wp_iadd dX8_places_320 ?_
                            refine wp_iload dX8_places_321 rfl ?_
                            obtain ⟨hk135, hi136, h⟩ := h
                            refine wp_iastore dX8_places_323 hk135 hi136 ?_
                            refine wp_nmS (fun σ137 hs138 => ?_)
                            replace h := h σ137 hs138
                            refine wp_nmT (x14 + 1) (fun x139 hx140 => ?_)
                            replace h := h x139 hx140
                            refine wp_iinc' (z' := x139) (ls' := [some (vr a0), some (vi a1), some (vi a2), some (vi a3), some (vi x4), some (vi x51), some (vi x139), some (vi x30), some (vi v33), some (vi v43), some (vi x49), some (vi x52), some (vi x53), some (vi x111), none]) dX8_places_324 (Nat.le_of_ble_eq_true rfl) rfl hx140 rfl ?_
                            refine wp_goto (tgt := 21) dX8_places_327 (by decide) ?_
                            obtain ⟨n141, hlt, h⟩ := h
                            exact wp_lsub (ls' := [some (vr a0), some (vi a1), some (vi a2), some (vi a3), some (vi x4), some (vi x51), some (vi x139), none, none, none, none, none, none, none, none]) ⟨rfl, ⟨rfl, ⟨rfl, ⟨rfl, ⟨rfl, ⟨rfl, ⟨rfl, trivial⟩⟩⟩⟩⟩⟩⟩ (ih17 n141 hlt _ _ _ h)
                          · replace h := h.2 c121
                            refine wp_aload_n dX8_places_242 rfl ?_
                            obtain ⟨hk142, h⟩ := h
                            refine wp_get (v := vr (gP σ118 342 a0)) dX8_places_243 fl_RX8_65 hk142 rfl ?_
                            refine wp_iload_n dX8_places_246 rfl ?_
                            refine wp_iload dX8_places_247 rfl ?_
                            refine wp_iload dX8_places_249 rfl ?_
                            refine wp_iload dX8_places_251 rfl ?_
                            obtain ⟨hd143, hd144, h⟩ := h
                            refine wp_idiv dX8_places_253 hd143 hd144 ?_
                            refine wp_iadd dX8_places_254 ?_
                            refine wp_imul dX8_places_255 ?_
                            refine wp_iload dX8_places_256 rfl ?_
                            refine wp_iadd dX8_places_258 ?_
                            refine wp_iload dX8_places_259 rfl ?_
                            refine wp_iload dX8_places_261 rfl ?_
                            obtain ⟨hd145, hd146, h⟩ := h
                            refine wp_irem dX8_places_263 hd145 hd146 ?_
                            refine wp_iadd dX8_places_264 ?_
                            refine wp_iload dX8_places_265 rfl ?_
                            obtain ⟨hk147, hi148, h⟩ := h
                            refine wp_iastore dX8_places_267 hk147 hi148 ?_
                            refine wp_nmS (fun σ149 hs150 => ?_)
                            replace h := h σ149 hs150
                            refine wp_nmT (x111 + 1) (fun x151 hx152 => ?_)
                            replace h := h x151 hx152
                            refine wp_iinc' (z' := x151) (ls' := [some (vr a0), some (vi a1), some (vi a2), some (vi a3), some (vi x4), some (vi x51), some (vi x14), some (vi x30), some (vi v33), some (vi v43), some (vi x49), some (vi x52), some (vi x53), some (vi x151), none]) dX8_places_268 (Nat.le_of_ble_eq_true rfl) rfl hx152 rfl ?_
                            refine wp_goto (tgt := 232) dX8_places_271 (by decide) ?_
                            obtain ⟨n153, hlt, h⟩ := h
                            exact wp_lsub (ls' := [some (vr a0), some (vi a1), some (vi a2), some (vi a3), some (vi x4), some (vi x51), some (vi x14), some (vi x30), some (vi v33), some (vi v43), some (vi x49), some (vi x52), some (vi x53), some (vi x151), none]) ⟨rfl, ⟨rfl, ⟨rfl, ⟨rfl, ⟨rfl, ⟨rfl, ⟨rfl, ⟨rfl, ⟨rfl, ⟨rfl, ⟨rfl, ⟨rfl, ⟨rfl, ⟨rfl, trivial⟩⟩⟩⟩⟩⟩⟩⟩⟩⟩⟩⟩⟩⟩ (ih114 n153 hlt _ _ h)
                      exact wp_lsub (ls' := [some (vr a0), some (vi a1), some (vi a2), some (vi a3), some (vi x4), some (vi x51), some (vi x14), some (vi x30), some (vi v33), some (vi v43), some (vi x49), some (vi x52), some (vi x53), some (vi 0), none]) ⟨rfl, ⟨rfl, ⟨rfl, ⟨rfl, ⟨rfl, ⟨rfl, ⟨rfl, ⟨rfl, ⟨rfl, ⟨rfl, ⟨rfl, ⟨rfl, ⟨rfl, ⟨rfl, trivial⟩⟩⟩⟩⟩⟩⟩⟩⟩⟩⟩⟩⟩⟩ (loop154 _ _ _ h0117)
                    · replace h := h.2 c110
                      refine wp_iconst dX8_places_227 ?_
                      exact wp_ret_z dX8_places_228 rfl (Or.inl rfl) h
                  · replace h := h.2 c109
                    refine wp_nmT (x51 + 1) (fun x155 hx156 => ?_)
                    replace h := h x155 hx156
                    refine wp_iinc' (z' := x155) (ls' := [some (vr a0), some (vi a1), some (vi a2), some (vi a3), some (vi x4), some (vi x155), some (vi x14), some (vi x30), some (vi v33), some (vi v43), some (vi x49), some (vi x52), some (vi x53), none, none]) dX8_places_119 (Nat.le_of_ble_eq_true rfl) rfl hx156 rfl ?_
                    refine wp_aload_n dX8_places_122 rfl ?_
                    refine wp_iload dX8_places_123 rfl ?_
                    obtain ⟨v158, hm157, h⟩ := h
                    refine wp_callV (M' := M_X8_isFromRight) (As := [vi x4]) (st := []) (ci := 8) dX8_places_125 cee_X8_isFromRight np_X8_isFromRight rfl ⟨Nat.le_of_ble_eq_true rfl, Nat.le_of_ble_eq_true rfl, Nat.le_of_ble_eq_true rfl, Nat.le_of_ble_eq_true rfl⟩ wd_1377 wd_1379 sel_X8_isFromRight rfl (Or.inl hk22) (q_small_of (Nat.le_of_ble_eq_true rfl)) hm157 (q_kPi ?_) q_kPi0
                    refine wp_less (ac2 := 0) (as2 := 0) (Nat.le_of_ble_eq_true rfl) (Nat.le_of_ble_eq_true rfl) ?_
                    obtain ⟨h, hk168⟩ := h
                    have key167 : ∀ v165 : Int, v165 = (if v158 = 0 then (x155 % a2) else (((a2 - 1) - (x155 % a2)) - (v43 - 1))) → qW g l M_X8_places 0 0 151 [some (vr a0), some (vi a1), some (vi a2), some (vi a3), some (vi x4), some (vi x155), some (vi x14), some (vi x30), some (vi v33), some (vi v43), some (vi x49), some (vi x52), some (vi x53), none, none] [vi v165] σ21 Post := by
                      intro v165 hv166
                      have h := hk168 v165 hv166
                      refine wp_istore' (ls' := [some (vr a0), some (vi a1), some (vi a2), some (vi a3), some (vi x4), some (vi x155), some (vi x14), some (vi x30), some (vi v33), some (vi v43), some (vi x49), some (vi x52), some (vi x53), some (vi v165), none]) dX8_places_151 (Nat.le_of_ble_eq_true rfl) rfl ?_
                      refine wp_iload dX8_places_153 rfl ?_
                      refine wp_iload_n dX8_places_155 rfl ?_
                      obtain ⟨hd169, hd170, h⟩ := h
                      refine wp_idiv dX8_places_156 hd169 hd170 ?_
                      refine wp_nmI (fun x171 hx172 => ?_)
                      replace h := h x171 hx172
                      refine wp_istore' (ls' := [some (vr a0), some (vi a1), some (vi a2), some (vi a3), some (vi x4), some (vi x155), some (vi x14), some (vi x30), some (vi v33), some (vi v43), some (vi x49), some (vi x52), some (vi x171), some (vi v165), none]) dX8_places_157 (Nat.le_of_ble_eq_true rfl) rfl ?_
                      refine wp_iload dX8_places_159 rfl ?_
                      obtain ⟨h, hk184⟩ := h
                      have key183 : ∀ v181 : Int, v181 = (if v165 < 0 then 0 else (if a2 < (v165 + v43) then 0 else (if a3 < (x171 + x49) then 0 else 1))) → qW g l M_X8_places 0 0 187 [some (vr a0), some (vi a1), some (vi a2), some (vi a3), some (vi x4), some (vi x155), some (vi x14), some (vi x30), some (vi v33), some (vi v43), some (vi x49), some (vi x52), some (vi x171), some (vi v165), none] [vi v181] σ21 Post := by
                        intro v181 hv182
                        have h := hk184 v181 hv182
                        have hr185 : qR v181 := by (rw [hv182]; unfold qR; repeat' split) <;> omega
                        have hz186 : v181 = 0 ∨ v181 = 1 := by (rw [hv182]; repeat' split) <;> first | exact Or.inl rfl | exact Or.inr rfl
                        refine wp_istore' (ls' := [some (vr a0), some (vi a1), some (vi a2), some (vi a3), some (vi x4), some (vi x155), some (vi x14), some (vi x30), some (vi v33), some (vi v43), some (vi x49), some (vi x52), some (vi x171), some (vi v165), some (vi v181)]) dX8_places_187 (Nat.le_of_ble_eq_true rfl) rfl ?_
                        refine wp_iload dX8_places_189 rfl ?_
                        refine wp_if_eq (tgt := 215) dX8_places_191 (by decide) hr185 (fun c187 => ?_) (fun c187 => ?_)
                        · replace h := h.1 c187
                          refine wp_iconst dX8_places_215 ?_
                          refine wp_istore' (ls' := [some (vr a0), some (vi a1), some (vi a2), some (vi a3), some (vi x4), some (vi x155), some (vi x14), some (vi x30), some (vi v33), some (vi v43), some (vi x49), some (vi ((-1))), some (vi x171), some (vi v165), some (vi v181)]) dX8_places_216 (Nat.le_of_ble_eq_true rfl) rfl ?_
                          refine wp_goto (tgt := 103) dX8_places_218 (by decide) ?_
                          obtain ⟨n188, hlt, h⟩ := h
                          exact wp_lsub (ls' := [some (vr a0), some (vi a1), some (vi a2), some (vi a3), some (vi x4), some (vi x155), some (vi x14), some (vi x30), some (vi v33), some (vi v43), some (vi x49), some (vi ((-1))), some (vi x171), none, none]) ⟨rfl, ⟨rfl, ⟨rfl, ⟨rfl, ⟨rfl, ⟨rfl, ⟨rfl, ⟨rfl, ⟨rfl, ⟨rfl, ⟨rfl, ⟨rfl, ⟨rfl, trivial⟩⟩⟩⟩⟩⟩⟩⟩⟩⟩⟩⟩⟩ (ih56 n188 hlt _ _ _ h)
                        · replace h := h.2 c187
                          refine wp_aload_n dX8_places_194 rfl ?_
                          refine wp_iload_n dX8_places_195 rfl ?_
                          refine wp_iload dX8_places_196 rfl ?_
                          refine wp_iload dX8_places_198 rfl ?_
                          refine wp_iload dX8_places_200 rfl ?_
                          refine wp_iload dX8_places_202 rfl ?_
                          obtain ⟨v190, hm189, h⟩ := h
                          refine wp_callV (M' := M_X8_isFree) (As := [vi a2, vi v165, vi x171, vi v43, vi x49]) (st := []) (ci := 8) dX8_places_204 cee_X8_isFree np_X8_isFree rfl ⟨Nat.le_of_ble_eq_true rfl, Nat.le_of_ble_eq_true rfl, Nat.le_of_ble_eq_true rfl, Nat.le_of_ble_eq_true rfl⟩ wd_1393 wd_1395 sel_X8_isFree rfl (Or.inl hk22) (q_small_of (Nat.le_of_ble_eq_true rfl)) hm189 (q_kPi ?_) q_kPi0
                          refine wp_less (ac2 := 0) (as2 := 0) (Nat.le_of_ble_eq_true rfl) (Nat.le_of_ble_eq_true rfl) ?_
                          obtain ⟨h, hk196⟩ := h
                          have key195 : ∀ v193 : Int, v193 = (if v190 = 0 then ((-1)) else v165) → qW g l M_X8_places 0 0 216 [some (vr a0), some (vi a1), some (vi a2), some (vi a3), some (vi x4), some (vi x155), some (vi x14), some (vi x30), some (vi v33), some (vi v43), some (vi x49), some (vi x52), some (vi x171), some (vi v165), some (vi v181)] [vi v193] σ21 Post := by
                            intro v193 hv194
                            have h := hk196 v193 hv194
                            refine wp_istore' (ls' := [some (vr a0), some (vi a1), some (vi a2), some (vi a3), some (vi x4), some (vi x155), some (vi x14), some (vi x30), some (vi v33), some (vi v43), some (vi x49), some (vi v193), some (vi x171), some (vi v165), some (vi v181)]) dX8_places_216 (Nat.le_of_ble_eq_true rfl) rfl ?_
                            refine wp_goto (tgt := 103) dX8_places_218 (by decide) ?_
                            obtain ⟨n197, hlt, h⟩ := h
                            exact wp_lsub (ls' := [some (vr a0), some (vi a1), some (vi a2), some (vi a3), some (vi x4), some (vi x155), some (vi x14), some (vi x30), some (vi v33), some (vi v43), some (vi x49), some (vi v193), some (vi x171), none, none]) ⟨rfl, ⟨rfl, ⟨rfl, ⟨rfl, ⟨rfl, ⟨rfl, ⟨rfl, ⟨rfl, ⟨rfl, ⟨rfl, ⟨rfl, ⟨rfl, ⟨rfl, trivial⟩⟩⟩⟩⟩⟩⟩⟩⟩⟩⟩⟩⟩ (ih56 n197 hlt _ _ _ h)
                          have hr198 := h
                          refine wp_if_eq (tgt := 215) dX8_places_207 (by decide) hr198 (fun c199 => ?_) (fun c199 => ?_)
                          · refine wp_iconst dX8_places_215 ?_
                            exact key195 _ (by rw [if_pos c199])
                          · refine wp_iload dX8_places_210 rfl ?_
                            refine wp_goto (tgt := 216) dX8_places_212 (by decide) ?_
                            exact key195 _ (by rw [if_neg c199])
                      obtain ⟨hr200, h⟩ := h
                      refine wp_if_lt (tgt := 186) dX8_places_161 (by decide) hr200 (fun c201 => ?_) (fun c201 => ?_)
                      · refine wp_iconst dX8_places_186 ?_
                        exact key183 _ (by rw [if_pos c201])
                      · replace h := h c201
                        refine wp_iload dX8_places_164 rfl ?_
                        refine wp_iload dX8_places_166 rfl ?_
                        refine wp_iadd dX8_places_168 ?_
                        refine wp_iload_n dX8_places_169 rfl ?_
                        obtain ⟨hr202, hr203, h⟩ := h
                        refine wp_icmp_gt (tgt := 186) dX8_places_170 (by decide) hr202 hr203 (fun c204 => ?_) (fun c204 => ?_)
                        · refine wp_iconst dX8_places_186 ?_
                          exact key183 _ (by rw [if_neg c201, if_pos c204])
                        · replace h := h c204
                          refine wp_iload dX8_places_173 rfl ?_
                          refine wp_iload dX8_places_175 rfl ?_
                          refine wp_iadd dX8_places_177 ?_
                          refine wp_iload_n dX8_places_178 rfl ?_
                          obtain ⟨hr205, hr206⟩ := h
                          refine wp_icmp_gt (tgt := 186) dX8_places_179 (by decide) hr205 hr206 (fun c207 => ?_) (fun c207 => ?_)
                          · refine wp_iconst dX8_places_186 ?_
                            exact key183 _ (by rw [if_neg c201, if_neg c204, if_pos c207])
                          · refine wp_iconst dX8_places_182 ?_
                            refine wp_goto (tgt := 187) dX8_places_183 (by decide) ?_
                            exact key183 _ (by rw [if_neg c201, if_neg c204, if_neg c207])
                    obtain ⟨hr208, h⟩ := h
                    refine wp_if_eq (tgt := 147) dX8_places_128 (by decide) hr208 (fun c209 => ?_) (fun c209 => ?_)
                    · replace h := h.1 c209
                      refine wp_iload dX8_places_147 rfl ?_
                      refine wp_iload_n dX8_places_149 rfl ?_
                      obtain ⟨hd210, hd211⟩ := h
                      refine wp_irem dX8_places_150 hd210 hd211 ?_
                      exact key167 _ (by rw [if_pos c209])
                    · replace h := h.2 c209
                      refine wp_iload_n dX8_places_131 rfl ?_
                      refine wp_iconst dX8_places_132 ?_
                      refine wp_isub dX8_places_133 ?_
                      refine wp_iload dX8_places_134 rfl ?_
                      refine wp_iload_n dX8_places_136 rfl ?_
                      obtain ⟨hd212, hd213⟩ := h
                      refine wp_irem dX8_places_137 hd212 hd213 ?_
                      refine wp_isub dX8_places_138 ?_
                      refine wp_iload dX8_places_139 rfl ?_
                      refine wp_iconst dX8_places_141 ?_
                      refine wp_isub dX8_places_142 ?_
                      refine wp_isub dX8_places_143 ?_
                      refine wp_goto (tgt := 151) dX8_places_144 (by decide) ?_
                      exact key167 _ (by rw [if_neg c209])
            exact wp_lsub (ls' := [some (vr a0), some (vi a1), some (vi a2), some (vi a3), some (vi x4), some (vi x13), some (vi x14), some (vi x30), some (vi v33), some (vi v43), some (vi x49), some (vi ((-1))), some (vi 0), none, none]) ⟨rfl, ⟨rfl, ⟨rfl, ⟨rfl, ⟨rfl, ⟨rfl, ⟨rfl, ⟨rfl, ⟨rfl, ⟨rfl, ⟨rfl, ⟨rfl, ⟨rfl, trivial⟩⟩⟩⟩⟩⟩⟩⟩⟩⟩⟩⟩⟩ (loop214 _ _ _ _ h059)
          obtain ⟨hr215, hr216⟩ := h
          refine wp_icmp_ge (tgt := 82) dX8_places_74 (by decide) hr215 hr216 (fun c217 => ?_) (fun c217 => ?_)
          · refine wp_iload_n dX8_places_82 rfl ?_
            exact key45 _ (by rw [if_pos c217])
          · refine wp_iload dX8_places_77 rfl ?_
            refine wp_goto (tgt := 83) dX8_places_79 (by decide) ?_
            exact key45 _ (by rw [if_neg c217])
        have hr218 := h
        refine wp_icmp_ge (tgt := 67) dX8_places_59 (by decide) hr218 (by unfold qR; omega) (fun c219 => ?_) (fun c219 => ?_)
        · refine wp_bipush dX8_places_67 (by decide) ?_
          exact key38 _ (by rw [if_pos c219])
        · refine wp_iload dX8_places_62 rfl ?_
          refine wp_goto (tgt := 69) dX8_places_64 (by decide) ?_
          exact key38 _ (by rw [if_neg c219])
  exact wp_lsub (ls' := [some (vr a0), some (vi a1), some (vi a2), some (vi a3), some (vi x4), some (vi ((-1))), some (vi 0), none, none, none, none, none, none, none, none]) ⟨rfl, ⟨rfl, ⟨rfl, ⟨rfl, ⟨rfl, ⟨rfl, ⟨rfl, trivial⟩⟩⟩⟩⟩⟩⟩ (loop220 _ _ _ _ h020)

set_option maxRecDepth 100000 in
set_option maxHeartbeats 4000000 in
theorem wm_X8_laysRow {g : qG} {l : Launch} (hl : l.stackTraces = false) {a0 : Nat} {a1 : Int} {a2 : Int} {a3 : Int} {a4 : Int} {a5 : Int} {σ : qS} {Post : qS → qRs → Prop}
    (h : ∃ Inv5 : Nat → Int → Int → Int → Int → Prop, (∃ n : Nat, Inv5 n 24 0 0 a2) ∧ ∀ (n6 : Nat) (x1 : Int) (x2 : Int) (x3 : Int) (x4 : Int), Inv5 n6 x1 x2 x3 x4 → (qR x4 ∧ qR a3 ∧ ((a3 ≤ x4 → ∃ Inv16 : Nat → Int → Int → qS → Prop, (∃ n : Nat, Inv16 n x1 a2 σ) ∧ ∀ (n17 : Nat) (x14 : Int) (x15 : Int) (σ22 : qS), Inv16 n17 x14 x15 σ22 → (qR x15 ∧ ((a3 ≤ x15 → ∃ Inv27 : Nat → Int → Int → qS → Prop, (∃ n : Nat, Inv27 n 0 a2 σ22) ∧ ∀ (n28 : Nat) (x25 : Int) (x26 : Int) (σ33 : qS), Inv27 n28 x25 x26 σ33 → (qR x26 ∧ ((a3 ≤ x26 → ∃ Inv38 : Nat → Int → Int → qS → Prop, (∃ n : Nat, Inv38 n x3 0 σ33) ∧ ∀ (n39 : Nat) (x36 : Int) (x37 : Int) (σ44 : qS), Inv38 n39 x36 x37 σ44 → (qR x37 ∧ ((¬ x37 = 0 → (∀ v48 : Int, v48 = (if x37 = 0 then ((-1)) else x36) → Post σ44 (.inl (some (vi v48))))) ∧ (x37 = 0 → qR x36 ∧ ((16 < x36 → (∀ v56 : Int, v56 = (if x37 = 0 then ((-1)) else x36) → Post σ44 (.inl (some (vi v56))))) ∧ (¬ (16 < x36) → ∃ Inv63 : Nat → Int → Int → qS → Prop, (∃ n : Nat, Inv63 n 1 a2 σ44) ∧ ∀ (n64 : Nat) (x61 : Int) (x62 : Int) (σ69 : qS), Inv63 n64 x61 x62 σ69 → (qR x62 ∧ ((a3 ≤ x62 → ((qR x61) ∧ ∀ v74 : Int, v74 = (if x61 = 0 then 1 else 0) → ∀ x80 : Int, x80 = x36 + v74 → ∃ n82 : Nat, n82 < n39 ∧ Inv38 n82 x80 x61 σ69)) ∧ (¬ (a3 ≤ x62) → qR x61 ∧ ((x61 = 0 → (∀ v88 : Int, v88 = (if x61 = 0 then 1 else 0) → ∀ x94 : Int, x94 = x36 + v88 → ∃ n96 : Nat, n96 < n39 ∧ Inv38 n96 x94 x61 σ69)) ∧ (¬ (x61 = 0) → gK σ69 a0 = 9 ∧ q_isA σ69 0 (gP σ69 326 a0) ∧ q_in σ69 (gP σ69 326 a0) ((8 * a1) + x62) ∧ ∀ x101 : Int, x101 = gA σ69 (gP σ69 326 a0) ((8 * a1) + x62) → q_isA σ69 0 (gP σ69 340 a0) ∧ q_in σ69 (gP σ69 340 a0) ((5 * x101) + 3) ∧ (∃ Mid106 : qS → Int → Prop, qMet g l M_X8_places [vr a0, vi x101, vi (gA σ69 (gP σ69 340 a0) ((5 * x101) + 3)), vi x36] σ69 (qTi0 Mid106) ∧ ∀ (σ110 : qS) (v112 : Int), Mid106 σ110 v112 → gK σ110 a0 = 9 ∧ gK σ110 (gP σ110 340 a0) = 20 ∧ q_in σ110 (gP σ110 340 a0) ((5 * x101) + 4) ∧ (∀ σ116 : qS, σ116 = sA σ110 (gP σ110 340 a0) ((5 * x101) + 4) x36 → ∀ x118 : Int, x118 = x62 + 1 → ∃ n120 : Nat, n120 < n64 ∧ Inv63 n120 v112 x118 σ116))))))))))))) ∧ (¬ (a3 ≤ x26) → gK σ33 a0 = 9 ∧ q_isA σ33 0 (gP σ33 326 a0) ∧ q_in σ33 (gP σ33 326 a0) ((8 * a1) + x26) ∧ ∀ x126 : Int, x126 = gA σ33 (gP σ33 326 a0) ((8 * a1) + x26) → q_isA σ33 0 (gP σ33 340 a0) ∧ q_in σ33 (gP σ33 340 a0) ((5 * x126) + 3) ∧ ((qR (x26 - a2) ∧ qR x14) ∧ ∀ v133 : Int, v133 = (if x14 ≤ (x26 - a2) then 0 else 1) → gK σ33 (gP σ33 340 a0) = 20 ∧ (∀ σ140 : qS, σ140 = sA σ33 (gP σ33 340 a0) ((5 * x126) + 3) ((gA σ33 (gP σ33 340 a0) ((5 * x126) + 3)) + v133) → gK σ140 (gP σ140 340 a0) = 20 ∧ q_in σ140 (gP σ140 340 a0) (5 * x126) ∧ (∀ σ144 : qS, σ144 = sA σ140 (gP σ140 340 a0) (5 * x126) a4 → (∃ v147 : Int, qMet g l M_X8_isFromRight [vr a0, vi a1] σ144 (qPi σ144 v147) ∧ (((qR v147 ∧ (¬ (v147 = 0) → q_isA σ144 0 (gP σ144 340 a0) ∧ q_in σ144 (gP σ144 340 a0) ((5 * x126) + 3))) ∧ ∀ v152 : Int, v152 = (if v147 = 0 then x25 else ((24 - x25) - (gA σ144 (gP σ144 340 a0) ((5 * x126) + 3)))) → gK σ144 (gP σ144 340 a0) = 20 ∧ q_in σ144 (gP σ144 340 a0) ((5 * x126) + 1) ∧ (∀ σ158 : qS, σ158 = sA σ144 (gP σ144 340 a0) ((5 * x126) + 1) v152 → gK σ158 (gP σ158 340 a0) = 20 ∧ q_in σ158 (gP σ158 340 a0) ((5 * x126) + 2) ∧ (∀ σ162 : qS, σ162 = sA σ158 (gP σ158 340 a0) ((5 * x126) + 2) a5 → q_isA σ162 0 (gP σ162 340 a0) ∧ q_in σ162 (gP σ162 340 a0) ((5 * x126) + 3) ∧ ∀ x166 : Int, x166 = x25 + (gA σ162 (gP σ162 340 a0) ((5 * x126) + 3)) → ∀ x168 : Int, x168 = x26 + 1 → ∃ n170 : Nat, n170 < n28 ∧ Inv27 n170 x166 x168 σ162)))))))))))) ∧ (¬ (a3 ≤ x15) → gK σ22 a0 = 9 ∧ q_isA σ22 0 (gP σ22 326 a0) ∧ q_in σ22 (gP σ22 326 a0) ((8 * a1) + x15) ∧ ∀ x182 : Int, x182 = gA σ22 (gP σ22 326 a0) ((8 * a1) + x15) → q_isA σ22 0 (gP σ22 331 a0) ∧ q_in σ22 (gP σ22 331 a0) x182 ∧ q_isA σ22 0 (gP σ22 330 a0) ∧ q_in σ22 (gP σ22 330 a0) x182 ∧ (0 ≤ (x1 * (gA σ22 (gP σ22 330 a0) x182)) ∧ (x1 * (gA σ22 (gP σ22 330 a0) x182)) < 2147483648) ∧ (0 < x2 ∧ x2 < 2147483648) ∧ gK σ22 (gP σ22 340 a0) = 20 ∧ q_in σ22 (gP σ22 340 a0) ((5 * x182) + 3) ∧ (∀ σ192 : qS, σ192 = sA σ22 (gP σ22 340 a0) ((5 * x182) + 3) ((gA σ22 (gP σ22 331 a0) x182) + ((x1 * (gA σ22 (gP σ22 330 a0) x182)) / x2)) → q_isA σ192 0 (gP σ192 330 a0) ∧ q_in σ192 (gP σ192 330 a0) x182 ∧ (0 ≤ (x1 * (gA σ192 (gP σ192 330 a0) x182)) ∧ (x1 * (gA σ192 (gP σ192 330 a0) x182)) < 2147483648) ∧ (0 < x2 ∧ x2 < 2147483648) ∧ ∀ x198 : Int, x198 = x14 - ((x1 * (gA σ192 (gP σ192 330 a0) x182)) / x2) → ∀ x200 : Int, x200 = x15 + 1 → ∃ n202 : Nat, n202 < n17 ∧ Inv16 n202 x198 x200 σ192))))) ∧ (¬ (a3 ≤ x4) → gK σ a0 = 9 ∧ q_isA σ 0 (gP σ 326 a0) ∧ q_in σ (gP σ 326 a0) ((8 * a1) + x4) ∧ ∀ x207 : Int, x207 = gA σ (gP σ 326 a0) ((8 * a1) + x4) → q_isA σ 0 (gP σ 331 a0) ∧ q_in σ (gP σ 331 a0) x207 ∧ ∀ x211 : Int, x211 = x1 - (gA σ (gP σ 331 a0) x207) → q_isA σ 0 (gP σ 330 a0) ∧ q_in σ (gP σ 330 a0) x207 ∧ ∀ x215 : Int, x215 = x2 + (gA σ (gP σ 330 a0) x207) → q_isA σ 0 (gP σ 332 a0) ∧ q_in σ (gP σ 332 a0) x207 ∧ ((qR (gA σ (gP σ 332 a0) x207) ∧ qR x3) ∧ ∀ v222 : Int, v222 = (if (gA σ (gP σ 332 a0) x207) ≤ x3 then x3 else (gA σ (gP σ 332 a0) x207)) → ∀ x226 : Int, x226 = x4 + 1 → ∃ n228 : Nat, n228 < n6 ∧ Inv5 n228 x211 x215 v222 x226))))) : qMet g l M_X8_laysRow [vr a0, vi a1, vi a2, vi a3, vi a4, vi a5] σ Post := by
  refine qMet_of hl (by decide +kernel) (Nat.le_of_ble_eq_true rfl) (List.forall_mem_cons.mpr ⟨trivial, List.forall_mem_cons.mpr ⟨trivial, List.forall_mem_cons.mpr ⟨trivial, List.forall_mem_cons.mpr ⟨trivial, List.forall_mem_cons.mpr ⟨trivial, List.forall_mem_cons.mpr ⟨trivial, fun _ h => nomatch h⟩⟩⟩⟩⟩⟩) ?_
  show qW g l M_X8_laysRow 0 0 0 [some (vr a0), some (vi a1), some (vi a2), some (vi a3), some (vi a4), some (vi a5), none, none, none, none, none, none, none, none] [] σ Post
  refine wp_bipush dX8_laysRow_0 (by decide) ?_
  refine wp_istore' (ls' := [some (vr a0), some (vi a1), some (vi a2), some (vi a3), some (vi a4), some (vi a5), some (vi 24), none, none, none, none, none, none, none]) dX8_laysRow_2 (Nat.le_of_ble_eq_true rfl) rfl ?_
  refine wp_iconst dX8_laysRow_4 ?_
  refine wp_istore' (ls' := [some (vr a0), some (vi a1), some (vi a2), some (vi a3), some (vi a4), some (vi a5), some (vi 24), some (vi 0), none, none, none, none, none, none]) dX8_laysRow_5 (Nat.le_of_ble_eq_true rfl) rfl ?_
  refine wp_iconst dX8_laysRow_7 ?_
  refine wp_istore' (ls' := [some (vr a0), some (vi a1), some (vi a2), some (vi a3), some (vi a4), some (vi a5), some (vi 24), some (vi 0), some (vi 0), none, none, none, none, none]) dX8_laysRow_8 (Nat.le_of_ble_eq_true rfl) rfl ?_
  refine wp_iload_n dX8_laysRow_10 rfl ?_
  refine wp_istore' (ls' := [some (vr a0), some (vi a1), some (vi a2), some (vi a3), some (vi a4), some (vi a5), some (vi 24), some (vi 0), some (vi 0), some (vi a2), none, none, none, none]) dX8_laysRow_11 (Nat.le_of_ble_eq_true rfl) rfl ?_
  obtain ⟨Inv5, ⟨n6_0, h010⟩, hb9⟩ := h
  have loop232 : ∀ (n6 : Nat) (x1 : Int) (x2 : Int) (x3 : Int) (x4 : Int), Inv5 n6 x1 x2 x3 x4 → qW g l M_X8_laysRow 0 0 13 [some (vr a0), some (vi a1), some (vi a2), some (vi a3), some (vi a4), some (vi a5), some (vi x1), some (vi x2), some (vi x3), some (vi x4), none, none, none, none] [] σ Post := by
    intro n6
    induction n6 using Nat.strongRecOn with
    | ind n6 ih7 =>
      intro x1 x2 x3 x4 hI8
      have h := hb9 n6 x1 x2 x3 x4 hI8
      refine wp_iload dX8_laysRow_13 rfl ?_
      refine wp_iload_n dX8_laysRow_15 rfl ?_
      obtain ⟨hr11, hr12, h⟩ := h
      refine wp_icmp_ge (tgt := 89) dX8_laysRow_16 (by decide) hr11 hr12 (fun c13 => ?_) (fun c13 => ?_)
      · replace h := h.1 c13
        refine wp_iload dX8_laysRow_89 rfl ?_
        refine wp_istore' (ls' := [some (vr a0), some (vi a1), some (vi a2), some (vi a3), some (vi a4), some (vi a5), some (vi x1), some (vi x2), some (vi x3), some (vi x1), none, none, none, none]) dX8_laysRow_91 (Nat.le_of_ble_eq_true rfl) rfl ?_
        refine wp_iload_n dX8_laysRow_93 rfl ?_
        refine wp_istore' (ls' := [some (vr a0), some (vi a1), some (vi a2), some (vi a3), some (vi a4), some (vi a5), some (vi x1), some (vi x2), some (vi x3), some (vi x1), some (vi a2), none, none, none]) dX8_laysRow_94 (Nat.le_of_ble_eq_true rfl) rfl ?_
        obtain ⟨Inv16, ⟨n17_0, h021⟩, hb20⟩ := h
        have loop203 : ∀ (n17 : Nat) (x14 : Int) (x15 : Int) (σ22 : qS), Inv16 n17 x14 x15 σ22 → qW g l M_X8_laysRow 0 0 96 [some (vr a0), some (vi a1), some (vi a2), some (vi a3), some (vi a4), some (vi a5), some (vi x1), some (vi x2), some (vi x3), some (vi x14), some (vi x15), none, none, none] [] σ22 Post := by
          intro n17
          induction n17 using Nat.strongRecOn with
          | ind n17 ih18 =>
            intro x14 x15 σ22 hI19
            have h := hb20 n17 x14 x15 σ22 hI19
            refine wp_iload dX8_laysRow_96 rfl ?_
            refine wp_iload_n dX8_laysRow_98 rfl ?_
            obtain ⟨hr23, h⟩ := h
            refine wp_icmp_ge (tgt := 172) dX8_laysRow_99 (by decide) hr23 hr12 (fun c24 => ?_) (fun c24 => ?_)
            · replace h := h.1 c24
              refine wp_iconst dX8_laysRow_172 ?_
              refine wp_istore' (ls' := [some (vr a0), some (vi a1), some (vi a2), some (vi a3), some (vi a4), some (vi a5), some (vi x1), some (vi x2), some (vi x3), some (vi x14), some (vi 0), none, none, none]) dX8_laysRow_173 (Nat.le_of_ble_eq_true rfl) rfl ?_
              refine wp_iload_n dX8_laysRow_175 rfl ?_
              refine wp_istore' (ls' := [some (vr a0), some (vi a1), some (vi a2), some (vi a3), some (vi a4), some (vi a5), some (vi x1), some (vi x2), some (vi x3), some (vi x14), some (vi 0), some (vi a2), none, none]) dX8_laysRow_176 (Nat.le_of_ble_eq_true rfl) rfl ?_
              obtain ⟨Inv27, ⟨n28_0, h032⟩, hb31⟩ := h
              have loop178 : ∀ (n28 : Nat) (x25 : Int) (x26 : Int) (σ33 : qS), Inv27 n28 x25 x26 σ33 → qW g l M_X8_laysRow 0 0 178 [some (vr a0), some (vi a1), some (vi a2), some (vi a3), some (vi a4), some (vi a5), some (vi x1), some (vi x2), some (vi x3), some (vi x14), some (vi x25), some (vi x26), none, none] [] σ33 Post := by
                intro n28
                induction n28 using Nat.strongRecOn with
                | ind n28 ih29 =>
                  intro x25 x26 σ33 hI30
                  have h := hb31 n28 x25 x26 σ33 hI30
                  refine wp_iload dX8_laysRow_178 rfl ?_
                  refine wp_iload_n dX8_laysRow_180 rfl ?_
                  obtain ⟨hr34, h⟩ := h
                  refine wp_icmp_ge (tgt := 313) dX8_laysRow_181 (by decide) hr34 hr12 (fun c35 => ?_) (fun c35 => ?_)
                  · replace h := h.1 c35
                    refine wp_iconst dX8_laysRow_313 ?_
                    refine wp_istore' (ls' := [some (vr a0), some (vi a1), some (vi a2), some (vi a3), some (vi a4), some (vi a5), some (vi x1), some (vi x2), some (vi x3), some (vi x14), some (vi x25), some (vi 0), none, none]) dX8_laysRow_314 (Nat.le_of_ble_eq_true rfl) rfl ?_
                    obtain ⟨Inv38, ⟨n39_0, h043⟩, hb42⟩ := h
                    have loop122 : ∀ (n39 : Nat) (x36 : Int) (x37 : Int) (σ44 : qS), Inv38 n39 x36 x37 σ44 → qW g l M_X8_laysRow 0 0 316 [some (vr a0), some (vi a1), some (vi a2), some (vi a3), some (vi a4), some (vi a5), some (vi x1), some (vi x2), some (vi x36), some (vi x14), some (vi x25), some (vi x37), none, none] [] σ44 Post := by
                      intro n39
                      induction n39 using Nat.strongRecOn with
                      | ind n39 ih40 =>
                        intro x36 x37 σ44 hI41
                        have h := hb42 n39 x36 x37 σ44 hI41
                        refine wp_iload dX8_laysRow_316 rfl ?_
                        obtain ⟨hr45, h⟩ := h
                        refine wp_if_ne (tgt := 417) dX8_laysRow_318 (by decide) hr45 (fun c46 => ?_) (fun c46 => ?_)
                        · replace h := h.1 c46
                          refine wp_iload dX8_laysRow_417 rfl ?_
                          have key50 : ∀ v48 : Int, v48 = (if x37 = 0 then ((-1)) else x36) → qW g l M_X8_laysRow 0 0 428 [some (vr a0), some (vi a1), some (vi a2), some (vi a3), some (vi a4), some (vi a5), some (vi x1), some (vi x2), some (vi x36), some (vi x14), some (vi x25), some (vi x37), none, none] [vi v48] σ44 Post := by
                            intro v48 hv49
                            replace h := h v48 hv49
                            exact wp_ret_i dX8_laysRow_428 rfl rfl h
                          refine wp_if_eq (tgt := 427) dX8_laysRow_419 (by decide) hr45 (fun c52 => ?_) (fun c52 => ?_)
                          · refine wp_iconst dX8_laysRow_427 ?_
                            exact key50 _ (by rw [if_pos c52])
                          · refine wp_iload dX8_laysRow_422 rfl ?_
                            refine wp_goto (tgt := 428) dX8_laysRow_424 (by decide) ?_
                            exact key50 _ (by rw [if_neg c52])
                        · replace h := h.2 c46
                          refine wp_iload dX8_laysRow_321 rfl ?_
                          refine wp_bipush dX8_laysRow_323 (by decide) ?_
                          obtain ⟨hr53, h⟩ := h
                          refine wp_icmp_gt (tgt := 417) dX8_laysRow_325 (by decide) hr53 (by unfold qR; omega) (fun c54 => ?_) (fun c54 => ?_)
                          · replace h := h.1 c54
                            refine wp_iload dX8_laysRow_417 rfl ?_
                            have key58 : ∀ v56 : Int, v56 = (if x37 = 0 then ((-1)) else x36) → qW g l M_X8_laysRow 0 0 428 [some (vr a0), some (vi a1), some (vi a2), some (vi a3), some (vi a4), some (vi a5), some (vi x1), some (vi x2), some (vi x36), some (vi x14), some (vi x25), some (vi x37), none, none] [vi v56] σ44 Post := by
                              intro v56 hv57
                              replace h := h v56 hv57
                              exact wp_ret_i dX8_laysRow_428 rfl rfl h
                            refine wp_if_eq (tgt := 427) dX8_laysRow_419 (by decide) hr45 (fun c60 => ?_) (fun c60 => ?_)
                            · refine wp_iconst dX8_laysRow_427 ?_
                              exact key58 _ (by rw [if_pos c60])
                            · refine wp_iload dX8_laysRow_422 rfl ?_
                              refine wp_goto (tgt := 428) dX8_laysRow_424 (by decide) ?_
                              exact key58 _ (by rw [if_neg c60])
                          · replace h := h.2 c54
                            refine wp_iconst dX8_laysRow_328 ?_
                            refine wp_istore' (ls' := [some (vr a0), some (vi a1), some (vi a2), some (vi a3), some (vi a4), some (vi a5), some (vi x1), some (vi x2), some (vi x36), some (vi x14), some (vi x25), some (vi 1), none, none]) dX8_laysRow_329 (Nat.le_of_ble_eq_true rfl) rfl ?_
                            refine wp_iload_n dX8_laysRow_331 rfl ?_
                            refine wp_istore' (ls' := [some (vr a0), some (vi a1), some (vi a2), some (vi a3), some (vi a4), some (vi a5), some (vi x1), some (vi x2), some (vi x36), some (vi x14), some (vi x25), some (vi 1), some (vi a2), none]) dX8_laysRow_332 (Nat.le_of_ble_eq_true rfl) rfl ?_
                            obtain ⟨Inv63, ⟨n64_0, h068⟩, hb67⟩ := h
                            have loop121 : ∀ (n64 : Nat) (x61 : Int) (x62 : Int) (σ69 : qS), Inv63 n64 x61 x62 σ69 → qW g l M_X8_laysRow 0 0 334 [some (vr a0), some (vi a1), some (vi a2), some (vi a3), some (vi a4), some (vi a5), some (vi x1), some (vi x2), some (vi x36), some (vi x14), some (vi x25), some (vi x61), some (vi x62), none] [] σ69 Post := by
                              intro n64
                              induction n64 using Nat.strongRecOn with
                              | ind n64 ih65 =>
                                intro x61 x62 σ69 hI66
                                have h := hb67 n64 x61 x62 σ69 hI66
                                refine wp_iload dX8_laysRow_334 rfl ?_
                                refine wp_iload_n dX8_laysRow_336 rfl ?_
                                obtain ⟨hr70, h⟩ := h
                                refine wp_icmp_ge (tgt := 399) dX8_laysRow_337 (by decide) hr70 hr12 (fun c71 => ?_) (fun c71 => ?_)
                                · replace h := h.1 c71
                                  refine wp_iload dX8_laysRow_399 rfl ?_
                                  refine wp_iload dX8_laysRow_401 rfl ?_
                                  obtain ⟨h, hk77⟩ := h
                                  have key76 : ∀ v74 : Int, v74 = (if x61 = 0 then 1 else 0) → qW g l M_X8_laysRow 0 0 411 [some (vr a0), some (vi a1), some (vi a2), some (vi a3), some (vi a4), some (vi a5), some (vi x1), some (vi x2), some (vi x36), some (vi x14), some (vi x25), some (vi x61), some (vi x62), none] [vi v74, vi x36] σ69 Post := by
                                    intro v74 hv75
                                    have h := hk77 v74 hv75
                                    have hr78 : qR v74 := by (rw [hv75]; unfold qR; repeat' split) <;> omega
                                    have hz79 : v74 = 0 ∨ v74 = 1 := by (rw [hv75]; repeat' split) <;> first | exact Or.inl rfl | exact Or.inr rfl
                                    refine wp_iadd dX8_laysRow_411 ?_
                                    refine wp_nmI (fun x80 hx81 => ?_)
                                    replace h := h x80 hx81
                                    refine wp_istore' (ls' := [some (vr a0), some (vi a1), some (vi a2), some (vi a3), some (vi a4), some (vi a5), some (vi x1), some (vi x2), some (vi x80), some (vi x14), some (vi x25), some (vi x61), some (vi x62), none]) dX8_laysRow_412 (Nat.le_of_ble_eq_true rfl) rfl ?_
                                    refine wp_goto (tgt := 316) dX8_laysRow_414 (by decide) ?_
                                    obtain ⟨n82, hlt, h⟩ := h
                                    exact wp_lsub (ls' := [some (vr a0), some (vi a1), some (vi a2), some (vi a3), some (vi a4), some (vi a5), some (vi x1), some (vi x2), some (vi x80), some (vi x14), some (vi x25), some (vi x61), none, none]) ⟨rfl, ⟨rfl, ⟨rfl, ⟨rfl, ⟨rfl, ⟨rfl, ⟨rfl, ⟨rfl, ⟨rfl, ⟨rfl, ⟨rfl, ⟨rfl, trivial⟩⟩⟩⟩⟩⟩⟩⟩⟩⟩⟩⟩ (ih40 n82 hlt _ _ _ h)
                                  have hr83 := h
                                  refine wp_if_eq (tgt := 410) dX8_laysRow_403 (by decide) hr83 (fun c84 => ?_) (fun c84 => ?_)
                                  · refine wp_iconst dX8_laysRow_410 ?_
                                    exact key76 _ (by rw [if_pos c84])
                                  · refine wp_iconst dX8_laysRow_406 ?_
                                    refine wp_goto (tgt := 411) dX8_laysRow_407 (by decide) ?_
                                    exact key76 _ (by rw [if_neg c84])
                                · replace h := h.2 c71
                                  refine wp_iload dX8_laysRow_340 rfl ?_
                                  obtain ⟨hr85, h⟩ := h
                                  refine wp_if_eq (tgt := 399) dX8_laysRow_342 (by decide) hr85 (fun c86 => ?_) (fun c86 => ?_)
                                  · replace h := h.1 c86
                                    refine wp_iload dX8_laysRow_399 rfl ?_
                                    refine wp_iload dX8_laysRow_401 rfl ?_
                                    have key90 : ∀ v88 : Int, v88 = (if x61 = 0 then 1 else 0) → qW g l M_X8_laysRow 0 0 411 [some (vr a0), some (vi a1), some (vi a2), some (vi a3), some (vi a4), some (vi a5), some (vi x1), some (vi x2), some (vi x36), some (vi x14), some (vi x25), some (vi x61), some (vi x62), none] [vi v88, vi x36] σ69 Post := by
                                      intro v88 hv89
                                      replace h := h v88 hv89
                                      have hr92 : qR v88 := by (rw [hv89]; unfold qR; repeat' split) <;> omega
                                      have hz93 : v88 = 0 ∨ v88 = 1 := by (rw [hv89]; repeat' split) <;> first | exact Or.inl rfl | exact Or.inr rfl
                                      refine wp_iadd dX8_laysRow_411 ?_
                                      refine wp_nmI (fun x94 hx95 => ?_)
                                      replace h := h x94 hx95
                                      refine wp_istore' (ls' := [some (vr a0), some (vi a1), some (vi a2), some (vi a3), some (vi a4), some (vi a5), some (vi x1), some (vi x2), some (vi x94), some (vi x14), some (vi x25), some (vi x61), some (vi x62), none]) dX8_laysRow_412 (Nat.le_of_ble_eq_true rfl) rfl ?_
                                      refine wp_goto (tgt := 316) dX8_laysRow_414 (by decide) ?_
                                      obtain ⟨n96, hlt, h⟩ := h
                                      exact wp_lsub (ls' := [some (vr a0), some (vi a1), some (vi a2), some (vi a3), some (vi a4), some (vi a5), some (vi x1), some (vi x2), some (vi x94), some (vi x14), some (vi x25), some (vi x61), none, none]) ⟨rfl, ⟨rfl, ⟨rfl, ⟨rfl, ⟨rfl, ⟨rfl, ⟨rfl, ⟨rfl, ⟨rfl, ⟨rfl, ⟨rfl, ⟨rfl, trivial⟩⟩⟩⟩⟩⟩⟩⟩⟩⟩⟩⟩ (ih40 n96 hlt _ _ _ h)
                                    refine wp_if_eq (tgt := 410) dX8_laysRow_403 (by decide) hr85 (fun c97 => ?_) (fun c97 => ?_)
                                    · refine wp_iconst dX8_laysRow_410 ?_
                                      exact key90 _ (by rw [if_pos c97])
                                    · refine wp_iconst dX8_laysRow_406 ?_
                                      refine wp_goto (tgt := 411) dX8_laysRow_407 (by decide) ?_
                                      exact key90 _ (by rw [if_neg c97])
                                  · replace h := h.2 c86
                                    refine wp_aload_n dX8_laysRow_345 rfl ?_
                                    obtain ⟨hk98, h⟩ := h
                                    refine wp_get (v := vr (gP σ69 326 a0)) dX8_laysRow_346 fl_RX8_16 hk98 rfl ?_
                                    refine wp_bipush dX8_laysRow_349 (by decide) ?_
                                    refine wp_iload_n dX8_laysRow_351 rfl ?_
                                    refine wp_imul dX8_laysRow_352 ?_
                                    refine wp_iload dX8_laysRow_353 rfl ?_
                                    refine wp_iadd dX8_laysRow_355 ?_
                                    obtain ⟨ha99, hi100, h⟩ := h
                                    refine wp_iaload dX8_laysRow_356 ha99 hi100 ?_
                                    refine wp_nmI (fun x101 hx102 => ?_)
                                    replace h := h x101 hx102
                                    refine wp_istore' (ls' := [some (vr a0), some (vi a1), some (vi a2), some (vi a3), some (vi a4), some (vi a5), some (vi x1), some (vi x2), some (vi x36), some (vi x14), some (vi x25), some (vi x61), some (vi x62), some (vi x101)]) dX8_laysRow_357 (Nat.le_of_ble_eq_true rfl) rfl ?_
                                    refine wp_aload_n dX8_laysRow_359 rfl ?_
                                    refine wp_iload dX8_laysRow_360 rfl ?_
                                    refine wp_aload_n dX8_laysRow_362 rfl ?_
                                    refine wp_get (v := vr (gP σ69 340 a0)) dX8_laysRow_363 fl_RX8_59 hk98 rfl ?_
                                    refine wp_iconst dX8_laysRow_366 ?_
                                    refine wp_iload dX8_laysRow_367 rfl ?_
                                    refine wp_imul dX8_laysRow_369 ?_
                                    refine wp_iconst dX8_laysRow_370 ?_
                                    refine wp_iadd dX8_laysRow_371 ?_
                                    obtain ⟨ha103, hi104, h⟩ := h
                                    refine wp_iaload dX8_laysRow_372 ha103 hi104 ?_
                                    refine wp_iload dX8_laysRow_373 rfl ?_
                                    obtain ⟨Mid106, hm105, hk108⟩ := h
                                    refine wp_callV (M' := M_X8_places) (As := [vi x101, vi (gA σ69 (gP σ69 340 a0) ((5 * x101) + 3)), vi x36]) (st := []) (ci := 8) dX8_laysRow_375 cee_X8_places np_X8_places rfl ⟨Nat.le_of_ble_eq_true rfl, Nat.le_of_ble_eq_true rfl, Nat.le_of_ble_eq_true rfl, Nat.le_of_ble_eq_true rfl⟩ wd_1381 wd_1383 sel_X8_places rfl (Or.inl hk98) (q_small_of (Nat.le_of_ble_eq_true rfl)) hm105 (q_kTi0 (fun σ110 v112 hM111 => ?_)) q_kTi00
                                    refine wp_less (ac2 := 0) (as2 := 0) (Nat.le_of_ble_eq_true rfl) (Nat.le_of_ble_eq_true rfl) ?_
                                    have h := hk108 σ110 v112 hM111
                                    refine wp_istore' (ls' := [some (vr a0), some (vi a1), some (vi a2), some (vi a3), some (vi a4), some (vi a5), some (vi x1), some (vi x2), some (vi x36), some (vi x14), some (vi x25), some (vi v112), some (vi x62), some (vi x101)]) dX8_laysRow_378 (Nat.le_of_ble_eq_true rfl) rfl ?_
                                    refine wp_aload_n dX8_laysRow_380 rfl ?_
                                    obtain ⟨hk113, h⟩ := h
                                    refine wp_get (v := vr (gP σ110 340 a0)) dX8_laysRow_381 fl_RX8_59 hk113 rfl ?_
                                    refine wp_iconst dX8_laysRow_384 ?_
                                    refine wp_iload dX8_laysRow_385 rfl ?_
                                    refine wp_imul dX8_laysRow_387 ?_
                                    refine wp_iconst dX8_laysRow_388 ?_
                                    refine wp_iadd dX8_laysRow_389 ?_
                                    refine wp_iload dX8_laysRow_390 rfl ?_
                                    obtain ⟨hk114, hi115, h⟩ := h
                                    refine wp_iastore dX8_laysRow_392 hk114 hi115 ?_
                                    refine wp_nmS (fun σ116 hs117 => ?_)
                                    replace h := h σ116 hs117
                                    refine wp_nmT (x62 + 1) (fun x118 hx119 => ?_)
                                    replace h := h x118 hx119
                                    refine wp_iinc' (z' := x118) (ls' := [some (vr a0), some (vi a1), some (vi a2), some (vi a3), some (vi a4), some (vi a5), some (vi x1), some (vi x2), some (vi x36), some (vi x14), some (vi x25), some (vi v112), some (vi x118), some (vi x101)]) dX8_laysRow_393 (Nat.le_of_ble_eq_true rfl) rfl hx119 rfl ?_
                                    refine wp_goto (tgt := 334) dX8_laysRow_396 (by decide) ?_
                                    obtain ⟨n120, hlt, h⟩ := h
                                    exact wp_lsub (ls' := [some (vr a0), some (vi a1), some (vi a2), some (vi a3), some (vi a4), some (vi a5), some (vi x1), some (vi x2), some (vi x36), some (vi x14), some (vi x25), some (vi v112), some (vi x118), none]) ⟨rfl, ⟨rfl, ⟨rfl, ⟨rfl, ⟨rfl, ⟨rfl, ⟨rfl, ⟨rfl, ⟨rfl, ⟨rfl, ⟨rfl, ⟨rfl, ⟨rfl, trivial⟩⟩⟩⟩⟩⟩⟩⟩⟩⟩⟩⟩⟩ (ih65 n120 hlt _ _ _ h)
                            exact wp_lsub (ls' := [some (vr a0), some (vi a1), some (vi a2), some (vi a3), some (vi a4), some (vi a5), some (vi x1), some (vi x2), some (vi x36), some (vi x14), some (vi x25), some (vi 1), some (vi a2), none]) ⟨rfl, ⟨rfl, ⟨rfl, ⟨rfl, ⟨rfl, ⟨rfl, ⟨rfl, ⟨rfl, ⟨rfl, ⟨rfl, ⟨rfl, ⟨rfl, ⟨rfl, trivial⟩⟩⟩⟩⟩⟩⟩⟩⟩⟩⟩⟩⟩ (loop121 _ _ _ _ h068)
                    exact wp_lsub (ls' := [some (vr a0), some (vi a1), some (vi a2), some (vi a3), some (vi a4), some (vi a5), some (vi x1), some (vi x2), some (vi x3), some (vi x14), some (vi x25), some (vi 0), none, none]) ⟨rfl, ⟨rfl, ⟨rfl, ⟨rfl, ⟨rfl, ⟨rfl, ⟨rfl, ⟨rfl, ⟨rfl, ⟨rfl, ⟨rfl, ⟨rfl, trivial⟩⟩⟩⟩⟩⟩⟩⟩⟩⟩⟩⟩ (loop122 _ _ _ _ h043)
                  · replace h := h.2 c35
                    refine wp_aload_n dX8_laysRow_184 rfl ?_
                    obtain ⟨hk123, h⟩ := h
                    refine wp_get (v := vr (gP σ33 326 a0)) dX8_laysRow_185 fl_RX8_16 hk123 rfl ?_
                    refine wp_bipush dX8_laysRow_188 (by decide) ?_
                    refine wp_iload_n dX8_laysRow_190 rfl ?_
                    refine wp_imul dX8_laysRow_191 ?_
                    refine wp_iload dX8_laysRow_192 rfl ?_
                    refine wp_iadd dX8_laysRow_194 ?_
                    obtain ⟨ha124, hi125, h⟩ := h
                    refine wp_iaload dX8_laysRow_195 ha124 hi125 ?_
                    refine wp_nmI (fun x126 hx127 => ?_)
                    replace h := h x126 hx127
                    refine wp_istore' (ls' := [some (vr a0), some (vi a1), some (vi a2), some (vi a3), some (vi a4), some (vi a5), some (vi x1), some (vi x2), some (vi x3), some (vi x14), some (vi x25), some (vi x26), some (vi x126), none]) dX8_laysRow_196 (Nat.le_of_ble_eq_true rfl) rfl ?_
                    refine wp_aload_n dX8_laysRow_198 rfl ?_
                    refine wp_get (v := vr (gP σ33 340 a0)) dX8_laysRow_199 fl_RX8_59 hk123 rfl ?_
                    refine wp_iconst dX8_laysRow_202 ?_
                    refine wp_iload dX8_laysRow_203 rfl ?_
                    refine wp_imul dX8_laysRow_205 ?_
                    refine wp_iconst dX8_laysRow_206 ?_
                    refine wp_iadd dX8_laysRow_207 ?_
                    refine wp_dup2 dX8_laysRow_208 trivial trivial ?_
                    obtain ⟨ha128, hi129, h⟩ := h
                    refine wp_iaload dX8_laysRow_209 ha128 hi129 ?_
                    refine wp_iload dX8_laysRow_210 rfl ?_
                    refine wp_iload_n dX8_laysRow_212 rfl ?_
                    refine wp_isub dX8_laysRow_213 ?_
                    refine wp_iload dX8_laysRow_214 rfl ?_
                    obtain ⟨h, hk136⟩ := h
                    have key135 : ∀ v133 : Int, v133 = (if x14 ≤ (x26 - a2) then 0 else 1) → qW g l M_X8_laysRow 0 0 224 [some (vr a0), some (vi a1), some (vi a2), some (vi a3), some (vi a4), some (vi a5), some (vi x1), some (vi x2), some (vi x3), some (vi x14), some (vi x25), some (vi x26), some (vi x126), none] [vi v133, vi (gA σ33 (gP σ33 340 a0) ((5 * x126) + 3)), vi ((5 * x126) + 3), vr (gP σ33 340 a0)] σ33 Post := by
                      intro v133 hv134
                      have h := hk136 v133 hv134
                      have hr137 : qR v133 := by (rw [hv134]; unfold qR; repeat' split) <;> omega
                      have hz138 : v133 = 0 ∨ v133 = 1 := by (rw [hv134]; repeat' split) <;> first | exact Or.inl rfl | exact Or.inr rfl
                      refine wp_iadd dX8_laysRow_224 ?_
                      obtain ⟨hk139, h⟩ := h
                      refine wp_iastore dX8_laysRow_225 hk139 hi129 ?_
                      refine wp_nmS (fun σ140 hs141 => ?_)
                      replace h := h σ140 hs141
                      refine wp_aload_n dX8_laysRow_226 rfl ?_
                      refine wp_get (v := vr (gP σ140 340 a0)) dX8_laysRow_227 fl_RX8_59 (by rw [hs141]; exact hk123) rfl ?_
                      refine wp_iconst dX8_laysRow_230 ?_
                      refine wp_iload dX8_laysRow_231 rfl ?_
                      refine wp_imul dX8_laysRow_233 ?_
                      refine wp_iload dX8_laysRow_234 rfl ?_
                      obtain ⟨hk142, hi143, h⟩ := h
                      refine wp_iastore dX8_laysRow_236 hk142 hi143 ?_
                      refine wp_nmS (fun σ144 hs145 => ?_)
                      replace h := h σ144 hs145
                      refine wp_aload_n dX8_laysRow_237 rfl ?_
                      refine wp_get (v := vr (gP σ144 340 a0)) dX8_laysRow_238 fl_RX8_59 (by rw [hs145, hs141]; exact hk123) rfl ?_
                      refine wp_iconst dX8_laysRow_241 ?_
                      refine wp_iload dX8_laysRow_242 rfl ?_
                      refine wp_imul dX8_laysRow_244 ?_
                      refine wp_iconst dX8_laysRow_245 ?_
                      refine wp_iadd dX8_laysRow_246 ?_
                      refine wp_aload_n dX8_laysRow_247 rfl ?_
                      refine wp_iload_n dX8_laysRow_248 rfl ?_
                      obtain ⟨v147, hm146, h⟩ := h
                      refine wp_callV (M' := M_X8_isFromRight) (As := [vi a1]) (st := [vi ((5 * x126) + 1), vr (gP σ144 340 a0)]) (ci := 8) dX8_laysRow_249 cee_X8_isFromRight np_X8_isFromRight rfl ⟨Nat.le_of_ble_eq_true rfl, Nat.le_of_ble_eq_true rfl, Nat.le_of_ble_eq_true rfl, Nat.le_of_ble_eq_true rfl⟩ wd_1377 wd_1379 sel_X8_isFromRight rfl (Or.inl (by rw [hs145, hs141]; exact hk123)) (q_small_of (Nat.le_of_ble_eq_true rfl)) hm146 (q_kPi ?_) q_kPi0
                      refine wp_less (ac2 := 0) (as2 := 0) (Nat.le_of_ble_eq_true rfl) (Nat.le_of_ble_eq_true rfl) ?_
                      obtain ⟨h, hk155⟩ := h
                      have key154 : ∀ v152 : Int, v152 = (if v147 = 0 then x25 else ((24 - x25) - (gA σ144 (gP σ144 340 a0) ((5 * x126) + 3)))) → qW g l M_X8_laysRow 0 0 277 [some (vr a0), some (vi a1), some (vi a2), some (vi a3), some (vi a4), some (vi a5), some (vi x1), some (vi x2), some (vi x3), some (vi x14), some (vi x25), some (vi x26), some (vi x126), none] [vi v152, vi ((5 * x126) + 1), vr (gP σ144 340 a0)] σ144 Post := by
                        intro v152 hv153
                        have h := hk155 v152 hv153
                        obtain ⟨hk156, hi157, h⟩ := h
                        refine wp_iastore dX8_laysRow_277 hk156 hi157 ?_
                        refine wp_nmS (fun σ158 hs159 => ?_)
                        replace h := h σ158 hs159
                        refine wp_aload_n dX8_laysRow_278 rfl ?_
                        refine wp_get (v := vr (gP σ158 340 a0)) dX8_laysRow_279 fl_RX8_59 (by rw [hs159, hs145, hs141]; exact hk123) rfl ?_
                        refine wp_iconst dX8_laysRow_282 ?_
                        refine wp_iload dX8_laysRow_283 rfl ?_
                        refine wp_imul dX8_laysRow_285 ?_
                        refine wp_iconst dX8_laysRow_286 ?_
                        refine wp_iadd dX8_laysRow_287 ?_
                        refine wp_iload dX8_laysRow_288 rfl ?_
                        obtain ⟨hk160, hi161, h⟩ := h
                        refine wp_iastore dX8_laysRow_290 hk160 hi161 ?_
                        refine wp_nmS (fun σ162 hs163 => ?_)
                        replace h := h σ162 hs163
                        refine wp_iload dX8_laysRow_291 rfl ?_
                        refine wp_aload_n dX8_laysRow_293 rfl ?_
                        refine wp_get (v := vr (gP σ162 340 a0)) dX8_laysRow_294 fl_RX8_59 (by rw [hs163, hs159, hs145, hs141]; exact hk123) rfl ?_
                        refine wp_iconst dX8_laysRow_297 ?_
                        refine wp_iload dX8_laysRow_298 rfl ?_
                        refine wp_imul dX8_laysRow_300 ?_
                        refine wp_iconst dX8_laysRow_301 ?_
                        refine wp_iadd dX8_laysRow_302 ?_
                        obtain ⟨ha164, hi165, h⟩ := h
                        refine wp_iaload dX8_laysRow_303 ha164 hi165 ?_
                        refine wp_iadd dX8_laysRow_304 ?_
                        refine wp_nmI (fun x166 hx167 => ?_)
                        replace h := h x166 hx167
                        refine wp_istore' (ls' := [some (vr a0), some (vi a1), some (vi a2), some (vi a3), some (vi a4), some (vi a5), some (vi x1), some (vi x2), some (vi x3), some (vi x14), some (vi x166), some (vi x26), some (vi x126), none]) dX8_laysRow_305 (Nat.le_of_ble_eq_true rfl) rfl ?_
                        refine wp_nmT (x26 + 1) (fun x168 hx169 => ?_)
                        replace h := h x168 hx169
                        refine wp_iinc' (z' := x168) (ls' := [some (vr a0), some (vi a1), some (vi a2), some (vi a3), some (vi a4), some (vi a5), some (vi x1), some (vi x2), some (vi x3), some (vi x14), some (vi x166), some (vi x168), some (vi x126), none]) dX8_laysRow_307 (Nat.le_of_ble_eq_true rfl) rfl hx169 rfl ?_
                        refine wp_goto (tgt := 178) dX8_laysRow_310 (by decide) ?_
                        obtain ⟨n170, hlt, h⟩ := h
                        exact wp_lsub (ls' := [some (vr a0), some (vi a1), some (vi a2), some (vi a3), some (vi a4), some (vi a5), some (vi x1), some (vi x2), some (vi x3), some (vi x14), some (vi x166), some (vi x168), none, none]) ⟨rfl, ⟨rfl, ⟨rfl, ⟨rfl, ⟨rfl, ⟨rfl, ⟨rfl, ⟨rfl, ⟨rfl, ⟨rfl, ⟨rfl, ⟨rfl, trivial⟩⟩⟩⟩⟩⟩⟩⟩⟩⟩⟩⟩ (ih29 n170 hlt _ _ _ h)
                      obtain ⟨hr171, h⟩ := h
                      refine wp_if_eq (tgt := 275) dX8_laysRow_252 (by decide) hr171 (fun c172 => ?_) (fun c172 => ?_)
                      · refine wp_iload dX8_laysRow_275 rfl ?_
                        exact key154 _ (by rw [if_pos c172])
                      · replace h := h c172
                        refine wp_bipush dX8_laysRow_255 (by decide) ?_
                        refine wp_iload dX8_laysRow_257 rfl ?_
                        refine wp_isub dX8_laysRow_259 ?_
                        refine wp_aload_n dX8_laysRow_260 rfl ?_
                        refine wp_get (v := vr (gP σ144 340 a0)) dX8_laysRow_261 fl_RX8_59 (by rw [hs145, hs141]; exact hk123) rfl ?_
                        refine wp_iconst dX8_laysRow_264 ?_
                        refine wp_iload dX8_laysRow_265 rfl ?_
                        refine wp_imul dX8_laysRow_267 ?_
                        refine wp_iconst dX8_laysRow_268 ?_
                        refine wp_iadd dX8_laysRow_269 ?_
                        obtain ⟨ha173, hi174⟩ := h
                        refine wp_iaload dX8_laysRow_270 ha173 hi174 ?_
                        refine wp_isub dX8_laysRow_271 ?_
                        refine wp_goto (tgt := 277) dX8_laysRow_272 (by decide) ?_
                        exact key154 _ (by rw [if_neg c172])
                    obtain ⟨hr175, hr176⟩ := h
                    refine wp_icmp_ge (tgt := 223) dX8_laysRow_216 (by decide) hr175 hr176 (fun c177 => ?_) (fun c177 => ?_)
                    · refine wp_iconst dX8_laysRow_223 ?_
                      exact key135 _ (by rw [if_pos c177])
                    · refine wp_iconst dX8_laysRow_219 ?_
                      refine wp_goto (tgt := 224) dX8_laysRow_220 (by decide) ?_
                      exact key135 _ (by rw [if_neg c177])
              exact wp_lsub (ls' := [some (vr a0), some (vi a1), some (vi a2), some (vi a3), some (vi a4), some (vi a5), some (vi x1), some (vi x2), some (vi x3), some (vi x14), some (vi 0), some (vi a2), none, none]) ⟨rfl, ⟨rfl, ⟨rfl, ⟨rfl, ⟨rfl, ⟨rfl, ⟨rfl, ⟨rfl, ⟨rfl, ⟨rfl, ⟨rfl, ⟨rfl, trivial⟩⟩⟩⟩⟩⟩⟩⟩⟩⟩⟩⟩ (loop178 _ _ _ _ h032)
            · replace h := h.2 c24
              refine wp_aload_n dX8_laysRow_102 rfl ?_
              obtain ⟨hk179, h⟩ := h
              refine wp_get (v := vr (gP σ22 326 a0)) dX8_laysRow_103 fl_RX8_16 hk179 rfl ?_
              refine wp_bipush dX8_laysRow_106 (by decide) ?_
              refine wp_iload_n dX8_laysRow_108 rfl ?_
              refine wp_imul dX8_laysRow_109 ?_
              refine wp_iload dX8_laysRow_110 rfl ?_
              refine wp_iadd dX8_laysRow_112 ?_
              obtain ⟨ha180, hi181, h⟩ := h
              refine wp_iaload dX8_laysRow_113 ha180 hi181 ?_
              refine wp_nmI (fun x182 hx183 => ?_)
              replace h := h x182 hx183
              refine wp_istore' (ls' := [some (vr a0), some (vi a1), some (vi a2), some (vi a3), some (vi a4), some (vi a5), some (vi x1), some (vi x2), some (vi x3), some (vi x14), some (vi x15), some (vi x182), none, none]) dX8_laysRow_114 (Nat.le_of_ble_eq_true rfl) rfl ?_
              refine wp_aload_n dX8_laysRow_116 rfl ?_
              refine wp_get (v := vr (gP σ22 340 a0)) dX8_laysRow_117 fl_RX8_59 hk179 rfl ?_
              refine wp_iconst dX8_laysRow_120 ?_
              refine wp_iload dX8_laysRow_121 rfl ?_
              refine wp_imul dX8_laysRow_123 ?_
              refine wp_iconst dX8_laysRow_124 ?_
              refine wp_iadd dX8_laysRow_125 ?_
              refine wp_aload_n dX8_laysRow_126 rfl ?_
              refine wp_get (v := vr (gP σ22 331 a0)) dX8_laysRow_127 fl_RX8_32 hk179 rfl ?_
              refine wp_iload dX8_laysRow_130 rfl ?_
              obtain ⟨ha184, hi185, h⟩ := h
              refine wp_iaload dX8_laysRow_132 ha184 hi185 ?_
              refine wp_iload dX8_laysRow_133 rfl ?_
              refine wp_aload_n dX8_laysRow_135 rfl ?_
              refine wp_get (v := vr (gP σ22 330 a0)) dX8_laysRow_136 fl_RX8_29 hk179 rfl ?_
              refine wp_iload dX8_laysRow_139 rfl ?_
              obtain ⟨ha186, hi187, h⟩ := h
              refine wp_iaload dX8_laysRow_141 ha186 hi187 ?_
              refine wp_imul dX8_laysRow_142 ?_
              refine wp_iload dX8_laysRow_143 rfl ?_
              obtain ⟨hd188, hd189, h⟩ := h
              refine wp_idiv dX8_laysRow_145 hd188 hd189 ?_
              refine wp_iadd dX8_laysRow_146 ?_
              obtain ⟨hk190, hi191, h⟩ := h
              refine wp_iastore dX8_laysRow_147 hk190 hi191 ?_
              refine wp_nmS (fun σ192 hs193 => ?_)
              replace h := h σ192 hs193
              refine wp_iload dX8_laysRow_148 rfl ?_
              refine wp_iload dX8_laysRow_150 rfl ?_
              refine wp_aload_n dX8_laysRow_152 rfl ?_
              refine wp_get (v := vr (gP σ192 330 a0)) dX8_laysRow_153 fl_RX8_29 (by rw [hs193]; exact hk179) rfl ?_
              refine wp_iload dX8_laysRow_156 rfl ?_
              obtain ⟨ha194, hi195, h⟩ := h
              refine wp_iaload dX8_laysRow_158 ha194 hi195 ?_
              refine wp_imul dX8_laysRow_159 ?_
              refine wp_iload dX8_laysRow_160 rfl ?_
              obtain ⟨hd196, hd197, h⟩ := h
              refine wp_idiv dX8_laysRow_162 hd196 hd197 ?_
              refine wp_isub dX8_laysRow_163 ?_
              refine wp_nmI (fun x198 hx199 => ?_)
              replace h := h x198 hx199
              refine wp_istore' (ls' := [some (vr a0), some (vi a1), some (vi a2), some (vi a3), some (vi a4), some (vi a5), some (vi x1), some (vi x2), some (vi x3), some (vi x198), some (vi x15), some (vi x182), none, none]) dX8_laysRow_164 (Nat.le_of_ble_eq_true rfl) rfl ?_
              refine wp_nmT (x15 + 1) (fun x200 hx201 => ?_)
              replace h := h x200 hx201
              refine wp_iinc' (z' := x200) (ls' := [some (vr a0), some (vi a1), some (vi a2), some (vi a3), some (vi a4), some (vi a5), some (vi x1), some (vi x2), some (vi x3), some (vi x198), some (vi x200), some (vi x182), none, none]) dX8_laysRow_166 (Nat.le_of_ble_eq_true rfl) rfl hx201 rfl ?_
              refine wp_goto (tgt := 96) dX8_laysRow_169 (by decide) ?_
              obtain ⟨n202, hlt, h⟩ := h
              exact wp_lsub (ls' := [some (vr a0), some (vi a1), some (vi a2), some (vi a3), some (vi a4), some (vi a5), some (vi x1), some (vi x2), some (vi x3), some (vi x198), some (vi x200), none, none, none]) ⟨rfl, ⟨rfl, ⟨rfl, ⟨rfl, ⟨rfl, ⟨rfl, ⟨rfl, ⟨rfl, ⟨rfl, ⟨rfl, ⟨rfl, trivial⟩⟩⟩⟩⟩⟩⟩⟩⟩⟩⟩ (ih18 n202 hlt _ _ _ h)
        exact wp_lsub (ls' := [some (vr a0), some (vi a1), some (vi a2), some (vi a3), some (vi a4), some (vi a5), some (vi x1), some (vi x2), some (vi x3), some (vi x1), some (vi a2), none, none, none]) ⟨rfl, ⟨rfl, ⟨rfl, ⟨rfl, ⟨rfl, ⟨rfl, ⟨rfl, ⟨rfl, ⟨rfl, ⟨rfl, ⟨rfl, trivial⟩⟩⟩⟩⟩⟩⟩⟩⟩⟩⟩ (loop203 _ _ _ _ h021)
      · replace h := h.2 c13
        refine wp_aload_n dX8_laysRow_19 rfl ?_
        obtain ⟨hk204, h⟩ := h
        refine wp_get (v := vr (gP σ 326 a0)) dX8_laysRow_20 fl_RX8_16 hk204 rfl ?_
        refine wp_bipush dX8_laysRow_23 (by decide) ?_
        refine wp_iload_n dX8_laysRow_25 rfl ?_
        refine wp_imul dX8_laysRow_26 ?_
        refine wp_iload dX8_laysRow_27 rfl ?_
        refine wp_iadd dX8_laysRow_29 ?_
        obtain ⟨ha205, hi206, h⟩ := h
        refine wp_iaload dX8_laysRow_30 ha205 hi206 ?_
        refine wp_nmI (fun x207 hx208 => ?_)
        replace h := h x207 hx208
        refine wp_istore' (ls' := [some (vr a0), some (vi a1), some (vi a2), some (vi a3), some (vi a4), some (vi a5), some (vi x1), some (vi x2), some (vi x3), some (vi x4), some (vi x207), none, none, none]) dX8_laysRow_31 (Nat.le_of_ble_eq_true rfl) rfl ?_
        refine wp_iload dX8_laysRow_33 rfl ?_
        refine wp_aload_n dX8_laysRow_35 rfl ?_
        refine wp_get (v := vr (gP σ 331 a0)) dX8_laysRow_36 fl_RX8_32 hk204 rfl ?_
        refine wp_iload dX8_laysRow_39 rfl ?_
        obtain ⟨ha209, hi210, h⟩ := h
        refine wp_iaload dX8_laysRow_41 ha209 hi210 ?_
        refine wp_isub dX8_laysRow_42 ?_
        refine wp_nmI (fun x211 hx212 => ?_)
        replace h := h x211 hx212
        refine wp_istore' (ls' := [some (vr a0), some (vi a1), some (vi a2), some (vi a3), some (vi a4), some (vi a5), some (vi x211), some (vi x2), some (vi x3), some (vi x4), some (vi x207), none, none, none]) dX8_laysRow_43 (Nat.le_of_ble_eq_true rfl) rfl ?_
        refine wp_iload dX8_laysRow_45 rfl ?_
        refine wp_aload_n dX8_laysRow_47 rfl ?_
        refine wp_get (v := vr (gP σ 330 a0)) dX8_laysRow_48 fl_RX8_29 hk204 rfl ?_
        refine wp_iload dX8_laysRow_51 rfl ?_
        obtain ⟨ha213, hi214, h⟩ := h
        refine wp_iaload dX8_laysRow_53 ha213 hi214 ?_
        refine wp_iadd dX8_laysRow_54 ?_
        refine wp_nmI (fun x215 hx216 => ?_)
        replace h := h x215 hx216
        refine wp_istore' (ls' := [some (vr a0), some (vi a1), some (vi a2), some (vi a3), some (vi a4), some (vi a5), some (vi x211), some (vi x215), some (vi x3), some (vi x4), some (vi x207), none, none, none]) dX8_laysRow_55 (Nat.le_of_ble_eq_true rfl) rfl ?_
        refine wp_aload_n dX8_laysRow_57 rfl ?_
        refine wp_get (v := vr (gP σ 332 a0)) dX8_laysRow_58 fl_RX8_35 hk204 rfl ?_
        refine wp_iload dX8_laysRow_61 rfl ?_
        obtain ⟨ha217, hi218, h⟩ := h
        refine wp_iaload dX8_laysRow_63 ha217 hi218 ?_
        refine wp_iload dX8_laysRow_64 rfl ?_
        obtain ⟨h, hk225⟩ := h
        have key224 : ∀ v222 : Int, v222 = (if (gA σ (gP σ 332 a0) x207) ≤ x3 then x3 else (gA σ (gP σ 332 a0) x207)) → qW g l M_X8_laysRow 0 0 81 [some (vr a0), some (vi a1), some (vi a2), some (vi a3), some (vi a4), some (vi a5), some (vi x211), some (vi x215), some (vi x3), some (vi x4), some (vi x207), none, none, none] [vi v222] σ Post := by
          intro v222 hv223
          have h := hk225 v222 hv223
          refine wp_istore' (ls' := [some (vr a0), some (vi a1), some (vi a2), some (vi a3), some (vi a4), some (vi a5), some (vi x211), some (vi x215), some (vi v222), some (vi x4), some (vi x207), none, none, none]) dX8_laysRow_81 (Nat.le_of_ble_eq_true rfl) rfl ?_
          refine wp_nmT (x4 + 1) (fun x226 hx227 => ?_)
          replace h := h x226 hx227
          refine wp_iinc' (z' := x226) (ls' := [some (vr a0), some (vi a1), some (vi a2), some (vi a3), some (vi a4), some (vi a5), some (vi x211), some (vi x215), some (vi v222), some (vi x226), some (vi x207), none, none, none]) dX8_laysRow_83 (Nat.le_of_ble_eq_true rfl) rfl hx227 rfl ?_
          refine wp_goto (tgt := 13) dX8_laysRow_86 (by decide) ?_
          obtain ⟨n228, hlt, h⟩ := h
          exact wp_lsub (ls' := [some (vr a0), some (vi a1), some (vi a2), some (vi a3), some (vi a4), some (vi a5), some (vi x211), some (vi x215), some (vi v222), some (vi x226), none, none, none, none]) ⟨rfl, ⟨rfl, ⟨rfl, ⟨rfl, ⟨rfl, ⟨rfl, ⟨rfl, ⟨rfl, ⟨rfl, ⟨rfl, trivial⟩⟩⟩⟩⟩⟩⟩⟩⟩⟩ (ih7 n228 hlt _ _ _ _ h)
        obtain ⟨hr229, hr230⟩ := h
        refine wp_icmp_le (tgt := 79) dX8_laysRow_66 (by decide) hr229 hr230 (fun c231 => ?_) (fun c231 => ?_)
        · refine wp_iload dX8_laysRow_79 rfl ?_
          exact key224 _ (by rw [if_pos c231])
        · refine wp_aload_n dX8_laysRow_69 rfl ?_
          refine wp_get (v := vr (gP σ 332 a0)) dX8_laysRow_70 fl_RX8_35 hk204 rfl ?_
          refine wp_iload dX8_laysRow_73 rfl ?_
          refine wp_iaload dX8_laysRow_75 ha217 hi218 ?_
          refine wp_goto (tgt := 81) dX8_laysRow_76 (by decide) ?_
          exact key224 _ (by rw [if_neg c231])
  exact wp_lsub (ls' := [some (vr a0), some (vi a1), some (vi a2), some (vi a3), some (vi a4), some (vi a5), some (vi 24), some (vi 0), some (vi 0), some (vi a2), none, none, none, none]) ⟨rfl, ⟨rfl, ⟨rfl, ⟨rfl, ⟨rfl, ⟨rfl, ⟨rfl, ⟨rfl, ⟨rfl, ⟨rfl, trivial⟩⟩⟩⟩⟩⟩⟩⟩⟩⟩ (loop232 _ _ _ _ _ h010)

set_option maxRecDepth 100000 in
set_option maxHeartbeats 4000000 in
theorem wm_X8_laysPage {g : qG} {l : Launch} (hl : l.stackTraces = false) {a0 : Nat} {a1 : Int} {σ : qS} {Post : qS → qRs → Prop}
    (h : gK σ a0 = 9 ∧ gK σ (gP σ 343 a0) = 20 ∧ q_in σ (gP σ 343 a0) a1 ∧ (∀ σ4 : qS, σ4 = sA σ (gP σ 343 a0) a1 0 → ∃ Inv8 : Nat → Int → Int → qS → Prop, (∃ n : Nat, Inv8 n 0 0 σ4) ∧ ∀ (n9 : Nat) (x6 : Int) (x7 : Int) (σ14 : qS), Inv8 n9 x6 x7 σ14 → (gK σ14 a0 = 9 ∧ q_isA σ14 0 (gP σ14 325 a0) ∧ q_in σ14 (gP σ14 325 a0) a1 ∧ qR x6 ∧ qR (gA σ14 (gP σ14 325 a0) a1) ∧ (((gA σ14 (gP σ14 325 a0) a1) ≤ x6 → Post σ14 (.inl (some (vi 1)))) ∧ (¬ ((gA σ14 (gP σ14 325 a0) a1) ≤ x6) → ∃ Inv23 : Nat → Int → Int → Prop, (∃ n : Nat, Inv23 n x6 0) ∧ ∀ (n24 : Nat) (x21 : Int) (x22 : Int), Inv23 n24 x21 x22 → (qR x21 ∧ (((gA σ14 (gP σ14 325 a0) a1) ≤ x21 → q_isA σ14 0 (gP σ14 343 a0) ∧ q_in σ14 (gP σ14 343 a0) a1 ∧ (∃ Mid34 : qS → Int → Prop, qMet g l M_X8_laysRow [vr a0, vi a1, vi x6, vi x21, vi (gA σ14 (gP σ14 343 a0) a1), vi x7] σ14 (qTi0 Mid34) ∧ ∀ (σ38 : qS) (v40 : Int), Mid34 σ38 v40 → qR v40 ∧ ((v40 = ((-1)) → Post σ38 (.inl (some (vi 0)))) ∧ (¬ (v40 = ((-1))) → qR (x7 + v40) ∧ (((x7 + v40) ≤ 50 → ∀ x45 : Int, x45 = x7 + v40 → gK σ38 a0 = 9 ∧ q_isA σ38 0 (gP σ38 343 a0) ∧ q_in σ38 (gP σ38 343 a0) a1 ∧ gK σ38 (gP σ38 343 a0) = 20 ∧ (∀ σ51 : qS, σ51 = sA σ38 (gP σ38 343 a0) a1 ((gA σ38 (gP σ38 343 a0) a1) + 1) → ∃ n53 : Nat, n53 < n9 ∧ Inv8 n53 x21 x45 σ51)) ∧ (¬ ((x7 + v40) ≤ 50) → Post σ38 (.inl (some (vi 0))))))))) ∧ (¬ ((gA σ14 (gP σ14 325 a0) a1) ≤ x21) → q_isA σ14 0 (gP σ14 326 a0) ∧ q_in σ14 (gP σ14 326 a0) ((8 * a1) + x21) ∧ q_isA σ14 0 (gP σ14 331 a0) ∧ q_in σ14 (gP σ14 331 a0) (gA σ14 (gP σ14 326 a0) ((8 * a1) + x21)) ∧ qR (x22 + (gA σ14 (gP σ14 331 a0) (gA σ14 (gP σ14 326 a0) ((8 * a1) + x21)))) ∧ ((24 < (x22 + (gA σ14 (gP σ14 331 a0) (gA σ14 (gP σ14 326 a0) ((8 * a1) + x21)))) → q_isA σ14 0 (gP σ14 343 a0) ∧ q_in σ14 (gP σ14 343 a0) a1 ∧ (∃ Mid63 : qS → Int → Prop, qMet g l M_X8_laysRow [vr a0, vi a1, vi x6, vi x21, vi (gA σ14 (gP σ14 343 a0) a1), vi x7] σ14 (qTi0 Mid63) ∧ ∀ (σ67 : qS) (v69 : Int), Mid63 σ67 v69 → qR v69 ∧ ((v69 = ((-1)) → Post σ67 (.inl (some (vi 0)))) ∧ (¬ (v69 = ((-1))) → qR (x7 + v69) ∧ (((x7 + v69) ≤ 50 → ∀ x74 : Int, x74 = x7 + v69 → gK σ67 a0 = 9 ∧ q_isA σ67 0 (gP σ67 343 a0) ∧ q_in σ67 (gP σ67 343 a0) a1 ∧ gK σ67 (gP σ67 343 a0) = 20 ∧ (∀ σ80 : qS, σ80 = sA σ67 (gP σ67 343 a0) a1 ((gA σ67 (gP σ67 343 a0) a1) + 1) → ∃ n82 : Nat, n82 < n9 ∧ Inv8 n82 x21 x74 σ80)) ∧ (¬ ((x7 + v69) ≤ 50) → Post σ67 (.inl (some (vi 0))))))))) ∧ (¬ (24 < (x22 + (gA σ14 (gP σ14 331 a0) (gA σ14 (gP σ14 326 a0) ((8 * a1) + x21))))) → ∀ x83 : Int, x83 = x22 + (gA σ14 (gP σ14 331 a0) (gA σ14 (gP σ14 326 a0) ((8 * a1) + x21))) → ∀ x85 : Int, x85 = x21 + 1 → ∃ n87 : Nat, n87 < n24 ∧ Inv23 n87 x85 x83)))))))))) : qMet g l M_X8_laysPage [vr a0, vi a1] σ Post := by
  refine qMet_of hl (by decide +kernel) (Nat.le_of_ble_eq_true rfl) (List.forall_mem_cons.mpr ⟨trivial, List.forall_mem_cons.mpr ⟨trivial, fun _ h => nomatch h⟩⟩) ?_
  show qW g l M_X8_laysPage 0 0 0 [some (vr a0), some (vi a1), none, none, none, none, none] [] σ Post
  refine wp_iconst dX8_laysPage_0 ?_
  refine wp_istore_n' (ls' := [some (vr a0), some (vi a1), some (vi 0), none, none, none, none]) dX8_laysPage_1 (Nat.le_of_ble_eq_true rfl) rfl ?_
  refine wp_iconst dX8_laysPage_2 ?_
  refine wp_istore_n' (ls' := [some (vr a0), some (vi a1), some (vi 0), some (vi 0), none, none, none]) dX8_laysPage_3 (Nat.le_of_ble_eq_true rfl) rfl ?_
  refine wp_aload_n dX8_laysPage_4 rfl ?_
  obtain ⟨hk1, h⟩ := h
  refine wp_get (v := vr (gP σ 343 a0)) dX8_laysPage_5 fl_RX8_68 hk1 rfl ?_
  refine wp_iload_n dX8_laysPage_8 rfl ?_
  refine wp_iconst dX8_laysPage_9 ?_
  obtain ⟨hk2, hi3, h⟩ := h
  refine wp_iastore dX8_laysPage_10 hk2 hi3 ?_
  refine wp_nmS (fun σ4 hs5 => ?_)
  replace h := h σ4 hs5
  obtain ⟨Inv8, ⟨n9_0, h013⟩, hb12⟩ := h
  have loop89 : ∀ (n9 : Nat) (x6 : Int) (x7 : Int) (σ14 : qS), Inv8 n9 x6 x7 σ14 → qW g l M_X8_laysPage 0 0 11 [some (vr a0), some (vi a1), some (vi x6), some (vi x7), none, none, none] [] σ14 Post := by
    intro n9
    induction n9 using Nat.strongRecOn with
    | ind n9 ih10 =>
      intro x6 x7 σ14 hI11
      have h := hb12 n9 x6 x7 σ14 hI11
      refine wp_iload_n dX8_laysPage_11 rfl ?_
      refine wp_aload_n dX8_laysPage_12 rfl ?_
      obtain ⟨hk15, h⟩ := h
      refine wp_get (v := vr (gP σ14 325 a0)) dX8_laysPage_13 fl_RX8_13 hk15 rfl ?_
      refine wp_iload_n dX8_laysPage_16 rfl ?_
      obtain ⟨ha16, hi17, h⟩ := h
      refine wp_iaload dX8_laysPage_17 ha16 hi17 ?_
      obtain ⟨hr18, hr19, h⟩ := h
      refine wp_icmp_ge (tgt := 146) dX8_laysPage_18 (by decide) hr18 hr19 (fun c20 => ?_) (fun c20 => ?_)
      · replace h := h.1 c20
        refine wp_iconst dX8_laysPage_146 ?_
        exact wp_ret_z dX8_laysPage_147 rfl (Or.inr rfl) h
      · replace h := h.2 c20
        refine wp_iload_n dX8_laysPage_21 rfl ?_
        refine wp_istore' (ls' := [some (vr a0), some (vi a1), some (vi x6), some (vi x7), some (vi x6), none, none]) dX8_laysPage_22 (Nat.le_of_ble_eq_true rfl) rfl ?_
        refine wp_iconst dX8_laysPage_24 ?_
        refine wp_istore' (ls' := [some (vr a0), some (vi a1), some (vi x6), some (vi x7), some (vi x6), some (vi 0), none]) dX8_laysPage_25 (Nat.le_of_ble_eq_true rfl) rfl ?_
        obtain ⟨Inv23, ⟨n24_0, h028⟩, hb27⟩ := h
        have loop88 : ∀ (n24 : Nat) (x21 : Int) (x22 : Int), Inv23 n24 x21 x22 → qW g l M_X8_laysPage 0 0 27 [some (vr a0), some (vi a1), some (vi x6), some (vi x7), some (vi x21), some (vi x22), none] [] σ14 Post := by
          intro n24
          induction n24 using Nat.strongRecOn with
          | ind n24 ih25 =>
            intro x21 x22 hI26
            have h := hb27 n24 x21 x22 hI26
            refine wp_iload dX8_laysPage_27 rfl ?_
            refine wp_aload_n dX8_laysPage_29 rfl ?_
            refine wp_get (v := vr (gP σ14 325 a0)) dX8_laysPage_30 fl_RX8_13 hk15 rfl ?_
            refine wp_iload_n dX8_laysPage_33 rfl ?_
            refine wp_iaload dX8_laysPage_34 ha16 hi17 ?_
            obtain ⟨hr29, h⟩ := h
            refine wp_icmp_ge (tgt := 91) dX8_laysPage_35 (by decide) hr29 hr19 (fun c30 => ?_) (fun c30 => ?_)
            · replace h := h.1 c30
              refine wp_aload_n dX8_laysPage_91 rfl ?_
              refine wp_iload_n dX8_laysPage_92 rfl ?_
              refine wp_iload_n dX8_laysPage_93 rfl ?_
              refine wp_iload dX8_laysPage_94 rfl ?_
              refine wp_aload_n dX8_laysPage_96 rfl ?_
              refine wp_get (v := vr (gP σ14 343 a0)) dX8_laysPage_97 fl_RX8_68 hk15 rfl ?_
              refine wp_iload_n dX8_laysPage_100 rfl ?_
              obtain ⟨ha31, hi32, h⟩ := h
              refine wp_iaload dX8_laysPage_101 ha31 hi32 ?_
              refine wp_iload_n dX8_laysPage_102 rfl ?_
              obtain ⟨Mid34, hm33, hk36⟩ := h
              refine wp_callV (M' := M_X8_laysRow) (As := [vi a1, vi x6, vi x21, vi (gA σ14 (gP σ14 343 a0) a1), vi x7]) (st := []) (ci := 8) dX8_laysPage_103 cee_X8_laysRow np_X8_laysRow rfl ⟨Nat.le_of_ble_eq_true rfl, Nat.le_of_ble_eq_true rfl, Nat.le_of_ble_eq_true rfl, Nat.le_of_ble_eq_true rfl⟩ wd_1373 wd_1375 sel_X8_laysRow rfl (Or.inl hk15) (q_small_of (Nat.le_of_ble_eq_true rfl)) hm33 (q_kTi0 (fun σ38 v40 hM39 => ?_)) q_kTi00
              refine wp_less (ac2 := 0) (as2 := 0) (Nat.le_of_ble_eq_true rfl) (Nat.le_of_ble_eq_true rfl) ?_
              have h := hk36 σ38 v40 hM39
              refine wp_istore' (ls' := [some (vr a0), some (vi a1), some (vi x6), some (vi x7), some (vi x21), some (vi x22), some (vi v40)]) dX8_laysPage_106 (Nat.le_of_ble_eq_true rfl) rfl ?_
              refine wp_iload dX8_laysPage_108 rfl ?_
              refine wp_iconst dX8_laysPage_110 ?_
              obtain ⟨hr41, h⟩ := h
              refine wp_icmp_eq (tgt := 123) dX8_laysPage_111 (by decide) hr41 (by unfold qR; omega) (fun c42 => ?_) (fun c42 => ?_)
              · replace h := h.1 c42
                refine wp_iconst dX8_laysPage_123 ?_
                exact wp_ret_z dX8_laysPage_124 rfl (Or.inl rfl) h
              · replace h := h.2 c42
                refine wp_iload_n dX8_laysPage_114 rfl ?_
                refine wp_iload dX8_laysPage_115 rfl ?_
                refine wp_iadd dX8_laysPage_117 ?_
                refine wp_bipush dX8_laysPage_118 (by decide) ?_
                obtain ⟨hr43, h⟩ := h
                refine wp_icmp_le (tgt := 125) dX8_laysPage_120 (by decide) hr43 (by unfold qR; omega) (fun c44 => ?_) (fun c44 => ?_)
                · replace h := h.1 c44
                  refine wp_iload_n dX8_laysPage_125 rfl ?_
                  refine wp_iload dX8_laysPage_126 rfl ?_
                  refine wp_iadd dX8_laysPage_128 ?_
                  refine wp_nmI (fun x45 hx46 => ?_)
                  replace h := h x45 hx46
                  refine wp_istore_n' (ls' := [some (vr a0), some (vi a1), some (vi x6), some (vi x45), some (vi x21), some (vi x22), some (vi v40)]) dX8_laysPage_129 (Nat.le_of_ble_eq_true rfl) rfl ?_
                  refine wp_aload_n dX8_laysPage_130 rfl ?_
                  obtain ⟨hk47, h⟩ := h
                  refine wp_get (v := vr (gP σ38 343 a0)) dX8_laysPage_131 fl_RX8_68 hk47 rfl ?_
                  refine wp_iload_n dX8_laysPage_134 rfl ?_
                  refine wp_dup2 dX8_laysPage_135 trivial trivial ?_
                  obtain ⟨ha48, hi49, h⟩ := h
                  refine wp_iaload dX8_laysPage_136 ha48 hi49 ?_
                  refine wp_iconst dX8_laysPage_137 ?_
                  refine wp_iadd dX8_laysPage_138 ?_
                  obtain ⟨hk50, h⟩ := h
                  refine wp_iastore dX8_laysPage_139 hk50 hi49 ?_
                  refine wp_nmS (fun σ51 hs52 => ?_)
                  replace h := h σ51 hs52
                  refine wp_iload dX8_laysPage_140 rfl ?_
                  refine wp_istore_n' (ls' := [some (vr a0), some (vi a1), some (vi x21), some (vi x45), some (vi x21), some (vi x22), some (vi v40)]) dX8_laysPage_142 (Nat.le_of_ble_eq_true rfl) rfl ?_
                  refine wp_goto (tgt := 11) dX8_laysPage_143 (by decide) ?_
                  obtain ⟨n53, hlt, h⟩ := h
                  exact wp_lsub (ls' := [some (vr a0), some (vi a1), some (vi x21), some (vi x45), none, none, none]) ⟨rfl, ⟨rfl, ⟨rfl, ⟨rfl, trivial⟩⟩⟩⟩ (ih10 n53 hlt _ _ _ h)
                · replace h := h.2 c44
                  refine wp_iconst dX8_laysPage_123 ?_
                  exact wp_ret_z dX8_laysPage_124 rfl (Or.inl rfl) h
            · replace h := h.2 c30
              refine wp_iload dX8_laysPage_38 rfl ?_
              refine wp_aload_n dX8_laysPage_40 rfl ?_
              refine wp_get (v := vr (gP σ14 331 a0)) dX8_laysPage_41 fl_RX8_32 hk15 rfl ?_
              refine wp_aload_n dX8_laysPage_44 rfl ?_
              refine wp_get (v := vr (gP σ14 326 a0)) dX8_laysPage_45 fl_RX8_16 hk15 rfl ?_
              refine wp_bipush dX8_laysPage_48 (by decide) ?_
              refine wp_iload_n dX8_laysPage_50 rfl ?_
              refine wp_imul dX8_laysPage_51 ?_
              refine wp_iload dX8_laysPage_52 rfl ?_
              refine wp_iadd dX8_laysPage_54 ?_
              obtain ⟨ha54, hi55, h⟩ := h
              refine wp_iaload dX8_laysPage_55 ha54 hi55 ?_
              obtain ⟨ha56, hi57, h⟩ := h
              refine wp_iaload dX8_laysPage_56 ha56 hi57 ?_
              refine wp_iadd dX8_laysPage_57 ?_
              refine wp_bipush dX8_laysPage_58 (by decide) ?_
              obtain ⟨hr58, h⟩ := h
              refine wp_icmp_gt (tgt := 91) dX8_laysPage_60 (by decide) hr58 (by unfold qR; omega) (fun c59 => ?_) (fun c59 => ?_)
              · replace h := h.1 c59
                refine wp_aload_n dX8_laysPage_91 rfl ?_
                refine wp_iload_n dX8_laysPage_92 rfl ?_
                refine wp_iload_n dX8_laysPage_93 rfl ?_
                refine wp_iload dX8_laysPage_94 rfl ?_
                refine wp_aload_n dX8_laysPage_96 rfl ?_
                refine wp_get (v := vr (gP σ14 343 a0)) dX8_laysPage_97 fl_RX8_68 hk15 rfl ?_
                refine wp_iload_n dX8_laysPage_100 rfl ?_
                obtain ⟨ha60, hi61, h⟩ := h
                refine wp_iaload dX8_laysPage_101 ha60 hi61 ?_
                refine wp_iload_n dX8_laysPage_102 rfl ?_
                obtain ⟨Mid63, hm62, hk65⟩ := h
                refine wp_callV (M' := M_X8_laysRow) (As := [vi a1, vi x6, vi x21, vi (gA σ14 (gP σ14 343 a0) a1), vi x7]) (st := []) (ci := 8) dX8_laysPage_103 cee_X8_laysRow np_X8_laysRow rfl ⟨Nat.le_of_ble_eq_true rfl, Nat.le_of_ble_eq_true rfl, Nat.le_of_ble_eq_true rfl, Nat.le_of_ble_eq_true rfl⟩ wd_1373 wd_1375 sel_X8_laysRow rfl (Or.inl hk15) (q_small_of (Nat.le_of_ble_eq_true rfl)) hm62 (q_kTi0 (fun σ67 v69 hM68 => ?_)) q_kTi00
                refine wp_less (ac2 := 0) (as2 := 0) (Nat.le_of_ble_eq_true rfl) (Nat.le_of_ble_eq_true rfl) ?_
                have h := hk65 σ67 v69 hM68
                refine wp_istore' (ls' := [some (vr a0), some (vi a1), some (vi x6), some (vi x7), some (vi x21), some (vi x22), some (vi v69)]) dX8_laysPage_106 (Nat.le_of_ble_eq_true rfl) rfl ?_
                refine wp_iload dX8_laysPage_108 rfl ?_
                refine wp_iconst dX8_laysPage_110 ?_
                obtain ⟨hr70, h⟩ := h
                refine wp_icmp_eq (tgt := 123) dX8_laysPage_111 (by decide) hr70 (by unfold qR; omega) (fun c71 => ?_) (fun c71 => ?_)
                · replace h := h.1 c71
                  refine wp_iconst dX8_laysPage_123 ?_
                  exact wp_ret_z dX8_laysPage_124 rfl (Or.inl rfl) h
                · replace h := h.2 c71
                  refine wp_iload_n dX8_laysPage_114 rfl ?_
                  refine wp_iload dX8_laysPage_115 rfl ?_
                  refine wp_iadd dX8_laysPage_117 ?_
                  refine wp_bipush dX8_laysPage_118 (by decide) ?_
                  obtain ⟨hr72, h⟩ := h
                  refine wp_icmp_le (tgt := 125) dX8_laysPage_120 (by decide) hr72 (by unfold qR; omega) (fun c73 => ?_) (fun c73 => ?_)
                  · replace h := h.1 c73
                    refine wp_iload_n dX8_laysPage_125 rfl ?_
                    refine wp_iload dX8_laysPage_126 rfl ?_
                    refine wp_iadd dX8_laysPage_128 ?_
                    refine wp_nmI (fun x74 hx75 => ?_)
                    replace h := h x74 hx75
                    refine wp_istore_n' (ls' := [some (vr a0), some (vi a1), some (vi x6), some (vi x74), some (vi x21), some (vi x22), some (vi v69)]) dX8_laysPage_129 (Nat.le_of_ble_eq_true rfl) rfl ?_
                    refine wp_aload_n dX8_laysPage_130 rfl ?_
                    obtain ⟨hk76, h⟩ := h
                    refine wp_get (v := vr (gP σ67 343 a0)) dX8_laysPage_131 fl_RX8_68 hk76 rfl ?_
                    refine wp_iload_n dX8_laysPage_134 rfl ?_
                    refine wp_dup2 dX8_laysPage_135 trivial trivial ?_
                    obtain ⟨ha77, hi78, h⟩ := h
                    refine wp_iaload dX8_laysPage_136 ha77 hi78 ?_
                    refine wp_iconst dX8_laysPage_137 ?_
                    refine wp_iadd dX8_laysPage_138 ?_
                    obtain ⟨hk79, h⟩ := h
                    refine wp_iastore dX8_laysPage_139 hk79 hi78 ?_
                    refine wp_nmS (fun σ80 hs81 => ?_)
                    replace h := h σ80 hs81
                    refine wp_iload dX8_laysPage_140 rfl ?_
                    refine wp_istore_n' (ls' := [some (vr a0), some (vi a1), some (vi x21), some (vi x74), some (vi x21), some (vi x22), some (vi v69)]) dX8_laysPage_142 (Nat.le_of_ble_eq_true rfl) rfl ?_
                    refine wp_goto (tgt := 11) dX8_laysPage_143 (by decide) ?_
                    obtain ⟨n82, hlt, h⟩ := h
                    exact wp_lsub (ls' := [some (vr a0), some (vi a1), some (vi x21), some (vi x74), none, none, none]) ⟨rfl, ⟨rfl, ⟨rfl, ⟨rfl, trivial⟩⟩⟩⟩ (ih10 n82 hlt _ _ _ h)
                  · replace h := h.2 c73
                    refine wp_iconst dX8_laysPage_123 ?_
                    exact wp_ret_z dX8_laysPage_124 rfl (Or.inl rfl) h
              · replace h := h.2 c59
                refine wp_iload dX8_laysPage_63 rfl ?_
                refine wp_aload_n dX8_laysPage_65 rfl ?_
                refine wp_get (v := vr (gP σ14 331 a0)) dX8_laysPage_66 fl_RX8_32 hk15 rfl ?_
                refine wp_aload_n dX8_laysPage_69 rfl ?_
                refine wp_get (v := vr (gP σ14 326 a0)) dX8_laysPage_70 fl_RX8_16 hk15 rfl ?_
                refine wp_bipush dX8_laysPage_73 (by decide) ?_
                refine wp_iload_n dX8_laysPage_75 rfl ?_
                refine wp_imul dX8_laysPage_76 ?_
                refine wp_iload dX8_laysPage_77 rfl ?_
                refine wp_iadd dX8_laysPage_79 ?_
                refine wp_iaload dX8_laysPage_80 ha54 hi55 ?_
                refine wp_iaload dX8_laysPage_81 ha56 hi57 ?_
                refine wp_iadd dX8_laysPage_82 ?_
                refine wp_nmI (fun x83 hx84 => ?_)
                replace h := h x83 hx84
                refine wp_istore' (ls' := [some (vr a0), some (vi a1), some (vi x6), some (vi x7), some (vi x21), some (vi x83), none]) dX8_laysPage_83 (Nat.le_of_ble_eq_true rfl) rfl ?_
                refine wp_nmT (x21 + 1) (fun x85 hx86 => ?_)
                replace h := h x85 hx86
                refine wp_iinc' (z' := x85) (ls' := [some (vr a0), some (vi a1), some (vi x6), some (vi x7), some (vi x85), some (vi x83), none]) dX8_laysPage_85 (Nat.le_of_ble_eq_true rfl) rfl hx86 rfl ?_
                refine wp_goto (tgt := 27) dX8_laysPage_88 (by decide) ?_
                obtain ⟨n87, hlt, h⟩ := h
                exact wp_lsub (ls' := [some (vr a0), some (vi a1), some (vi x6), some (vi x7), some (vi x85), some (vi x83), none]) ⟨rfl, ⟨rfl, ⟨rfl, ⟨rfl, ⟨rfl, ⟨rfl, trivial⟩⟩⟩⟩⟩⟩ (ih25 n87 hlt _ _ h)
        exact wp_lsub (ls' := [some (vr a0), some (vi a1), some (vi x6), some (vi x7), some (vi x6), some (vi 0), none]) ⟨rfl, ⟨rfl, ⟨rfl, ⟨rfl, ⟨rfl, ⟨rfl, trivial⟩⟩⟩⟩⟩⟩ (loop88 _ _ _ h028)
  exact wp_lsub (ls' := [some (vr a0), some (vi a1), some (vi 0), some (vi 0), none, none, none]) ⟨rfl, ⟨rfl, ⟨rfl, ⟨rfl, trivial⟩⟩⟩⟩ (loop89 _ _ _ _ h013)

set_option maxRecDepth 100000 in
set_option maxHeartbeats 4000000 in
theorem wm_X8_laysAll {g : qG} {l : Launch} (hl : l.stackTraces = false) {a0 : Nat} {σ : qS} {Post : qS → qRs → Prop}
    (h : ∃ Inv3 : Nat → Int → Int → qS → Prop, (∃ n : Nat, Inv3 n 1 0 σ) ∧ ∀ (n4 : Nat) (x1 : Int) (x2 : Int) (σ9 : qS), Inv3 n4 x1 x2 σ9 → (gK σ9 a0 = 9 ∧ qR x2 ∧ qR (gI σ9 321 a0) ∧ (((gI σ9 321 a0) ≤ x2 → (x1 = 0 ∨ x1 = 1) ∧ Post σ9 (.inl (some (vi x1)))) ∧ (¬ ((gI σ9 321 a0) ≤ x2) → (∃ Mid16 : qS → Int → Prop, qMet g l M_X8_laysPage [vr a0, vi x2] σ9 (qTi0 Mid16) ∧ ∀ (σ20 : qS) (v22 : Int), Mid16 σ20 v22 → ((qR v22 ∧ (¬ (v22 = 0) → qR x1)) ∧ ∀ v27 : Int, v27 = (if v22 = 0 then 0 else (if x1 = 0 then 0 else 1)) → ∀ x33 : Int, x33 = x2 + 1 → ∃ n35 : Nat, n35 < n4 ∧ Inv3 n35 v27 x33 σ20)))))) : qMet g l M_X8_laysAll [vr a0] σ Post := by
  refine qMet_of hl (by decide +kernel) (Nat.le_of_ble_eq_true rfl) (List.forall_mem_cons.mpr ⟨trivial, fun _ h => nomatch h⟩) ?_
  show qW g l M_X8_laysAll 0 0 0 [some (vr a0), none, none] [] σ Post
  refine wp_iconst dX8_laysAll_0 ?_
  refine wp_istore_n' (ls' := [some (vr a0), some (vi 1), none]) dX8_laysAll_1 (Nat.le_of_ble_eq_true rfl) rfl ?_
  refine wp_iconst dX8_laysAll_2 ?_
  refine wp_istore_n' (ls' := [some (vr a0), some (vi 1), some (vi 0)]) dX8_laysAll_3 (Nat.le_of_ble_eq_true rfl) rfl ?_
  obtain ⟨Inv3, ⟨n4_0, h08⟩, hb7⟩ := h
  have loop40 : ∀ (n4 : Nat) (x1 : Int) (x2 : Int) (σ9 : qS), Inv3 n4 x1 x2 σ9 → qW g l M_X8_laysAll 0 0 4 [some (vr a0), some (vi x1), some (vi x2)] [] σ9 Post := by
    intro n4
    induction n4 using Nat.strongRecOn with
    | ind n4 ih5 =>
      intro x1 x2 σ9 hI6
      have h := hb7 n4 x1 x2 σ9 hI6
      refine wp_iload_n dX8_laysAll_4 rfl ?_
      refine wp_aload_n dX8_laysAll_5 rfl ?_
      obtain ⟨hk10, h⟩ := h
      refine wp_get (v := vi (gI σ9 321 a0)) dX8_laysAll_6 fl_RX8_111 hk10 rfl ?_
      obtain ⟨hr11, hr12, h⟩ := h
      refine wp_icmp_ge (tgt := 36) dX8_laysAll_9 (by decide) hr11 hr12 (fun c13 => ?_) (fun c13 => ?_)
      · replace h := h.1 c13
        refine wp_iload_n dX8_laysAll_36 rfl ?_
        obtain ⟨hv14, h⟩ := h
        exact wp_ret_z dX8_laysAll_37 rfl hv14 h
      · replace h := h.2 c13
        refine wp_aload_n dX8_laysAll_12 rfl ?_
        refine wp_iload_n dX8_laysAll_13 rfl ?_
        obtain ⟨Mid16, hm15, hk18⟩ := h
        refine wp_callV (M' := M_X8_laysPage) (As := [vi x2]) (st := []) (ci := 8) dX8_laysAll_14 cee_X8_laysPage np_X8_laysPage rfl ⟨Nat.le_of_ble_eq_true rfl, Nat.le_of_ble_eq_true rfl, Nat.le_of_ble_eq_true rfl, Nat.le_of_ble_eq_true rfl⟩ wd_1369 wd_1371 sel_X8_laysPage rfl (Or.inl hk10) (q_small_of (Nat.le_of_ble_eq_true rfl)) hm15 (q_kTi0 (fun σ20 v22 hM21 => ?_)) q_kTi00
        refine wp_less (ac2 := 0) (as2 := 0) (Nat.le_of_ble_eq_true rfl) (Nat.le_of_ble_eq_true rfl) ?_
        have h := hk18 σ20 v22 hM21
        obtain ⟨h, hk30⟩ := h
        have key29 : ∀ v27 : Int, v27 = (if v22 = 0 then 0 else (if x1 = 0 then 0 else 1)) → qW g l M_X8_laysAll 0 0 29 [some (vr a0), some (vi x1), some (vi x2)] [vi v27] σ20 Post := by
          intro v27 hv28
          have h := hk30 v27 hv28
          have hr31 : qR v27 := by (rw [hv28]; unfold qR; repeat' split) <;> omega
          have hz32 : v27 = 0 ∨ v27 = 1 := by (rw [hv28]; repeat' split) <;> first | exact Or.inl rfl | exact Or.inr rfl
          refine wp_istore_n' (ls' := [some (vr a0), some (vi v27), some (vi x2)]) dX8_laysAll_29 (Nat.le_of_ble_eq_true rfl) rfl ?_
          refine wp_nmT (x2 + 1) (fun x33 hx34 => ?_)
          replace h := h x33 hx34
          refine wp_iinc' (z' := x33) (ls' := [some (vr a0), some (vi v27), some (vi x33)]) dX8_laysAll_30 (Nat.le_of_ble_eq_true rfl) rfl hx34 rfl ?_
          refine wp_goto (tgt := 4) dX8_laysAll_33 (by decide) ?_
          obtain ⟨n35, hlt, h⟩ := h
          exact wp_lsub (ls' := [some (vr a0), some (vi v27), some (vi x33)]) ⟨rfl, ⟨rfl, ⟨rfl, trivial⟩⟩⟩ (ih5 n35 hlt _ _ _ h)
        obtain ⟨hr36, h⟩ := h
        refine wp_if_eq (tgt := 28) dX8_laysAll_17 (by decide) hr36 (fun c37 => ?_) (fun c37 => ?_)
        · refine wp_iconst dX8_laysAll_28 ?_
          exact key29 _ (by rw [if_pos c37])
        · replace h := h c37
          refine wp_iload_n dX8_laysAll_20 rfl ?_
          have hr38 := h
          refine wp_if_eq (tgt := 28) dX8_laysAll_21 (by decide) hr38 (fun c39 => ?_) (fun c39 => ?_)
          · refine wp_iconst dX8_laysAll_28 ?_
            exact key29 _ (by rw [if_neg c37, if_pos c39])
          · refine wp_iconst dX8_laysAll_24 ?_
            refine wp_goto (tgt := 29) dX8_laysAll_25 (by decide) ?_
            exact key29 _ (by rw [if_neg c37, if_neg c39])
  exact wp_lsub (ls' := [some (vr a0), some (vi 1), some (vi 0)]) ⟨rfl, ⟨rfl, ⟨rfl, trivial⟩⟩⟩ (loop40 _ _ _ _ h08)

set_option maxRecDepth 100000 in
set_option maxHeartbeats 4000000 in
theorem wm_X8_rank {g : qG} {l : Launch} (hl : l.stackTraces = false) {a0 : Nat} {a1 : Int} {σ : qS} {Post : qS → qRs → Prop}
    (h : gK σ a0 = 9 ∧ q_isA σ 0 (gP σ 329 a0) ∧ q_in σ (gP σ 329 a0) a1 ∧ ∀ x4 : Int, x4 = gA σ (gP σ 329 a0) a1 → (∃ v7 : Int, qMet g l M_X8_find [vr (gP σ 326 a0), vi (8 * x4), vi a1] σ (qPi σ v7) ∧ (Post σ (.inl (some (vi ((8 * x4) + v7))))))) : qMet g l M_X8_rank [vr a0, vi a1] σ Post := by
  refine qMet_of hl (by decide +kernel) (Nat.le_of_ble_eq_true rfl) (List.forall_mem_cons.mpr ⟨trivial, List.forall_mem_cons.mpr ⟨trivial, fun _ h => nomatch h⟩⟩) ?_
  show qW g l M_X8_rank 0 0 0 [some (vr a0), some (vi a1), none] [] σ Post
  refine wp_aload_n dX8_rank_0 rfl ?_
  obtain ⟨hk1, h⟩ := h
  refine wp_get (v := vr (gP σ 329 a0)) dX8_rank_1 fl_RX8_26 hk1 rfl ?_
  refine wp_iload_n dX8_rank_4 rfl ?_
  obtain ⟨ha2, hi3, h⟩ := h
  refine wp_iaload dX8_rank_5 ha2 hi3 ?_
  refine wp_nmI (fun x4 hx5 => ?_)
  replace h := h x4 hx5
  refine wp_istore_n' (ls' := [some (vr a0), some (vi a1), some (vi x4)]) dX8_rank_6 (Nat.le_of_ble_eq_true rfl) rfl ?_
  refine wp_bipush dX8_rank_7 (by decide) ?_
  refine wp_iload_n dX8_rank_9 rfl ?_
  refine wp_imul dX8_rank_10 ?_
  refine wp_aload_n dX8_rank_11 rfl ?_
  refine wp_get (v := vr (gP σ 326 a0)) dX8_rank_12 fl_RX8_16 hk1 rfl ?_
  refine wp_bipush dX8_rank_15 (by decide) ?_
  refine wp_iload_n dX8_rank_17 rfl ?_
  refine wp_imul dX8_rank_18 ?_
  refine wp_iload_n dX8_rank_19 rfl ?_
  obtain ⟨v7, hm6, h⟩ := h
  refine wp_callS (M' := M_X8_find) (As := [vr (gP σ 326 a0), vi (8 * x4), vi a1]) (st := [vi (8 * x4)]) dX8_rank_20 cee_X8_find np_X8_find rfl ⟨Nat.le_of_ble_eq_true rfl, Nat.le_of_ble_eq_true rfl, Nat.le_of_ble_eq_true rfl, Nat.le_of_ble_eq_true rfl⟩ wd_1405 wd_1406 (q_small_of (Nat.le_of_ble_eq_true rfl)) hm6 (q_kPi ?_) q_kPi0
  refine wp_less (ac2 := 0) (as2 := 0) (Nat.le_of_ble_eq_true rfl) (Nat.le_of_ble_eq_true rfl) ?_
  refine wp_iadd dX8_rank_23 ?_
  exact wp_ret_i dX8_rank_24 rfl rfl h

set_option maxRecDepth 100000 in
set_option maxHeartbeats 4000000 in
theorem wm_X8_isBefore {g : qG} {l : Launch} (hl : l.stackTraces = false) {a0 : Nat} {a1 : Int} {a2 : Int} {σ : qS} {Post : qS → qRs → Prop}
    (h : gK σ a0 = 9 ∧ q_isA σ 0 (gP σ 337 a0) ∧ q_in σ (gP σ 337 a0) a1 ∧ ∀ x4 : Int, x4 = gA σ (gP σ 337 a0) a1 → q_in σ (gP σ 337 a0) a2 ∧ ∀ x7 : Int, x7 = gA σ (gP σ 337 a0) a2 → qR x4 ∧ qR x7 ∧ ((¬ x4 = x7 → (∃ v13 : Int, qMet g l M_X8_rank [vr a0, vi x4] σ (qPi σ v13) ∧ ((∃ v15 : Int, qMet g l M_X8_rank [vr a0, vi x7] σ (qPi σ v15) ∧ (((qR v13 ∧ qR v15) ∧ ∀ v19 : Int, v19 = (if v15 ≤ v13 then 0 else 1) → Post σ (.inl (some (vi v19))))))))) ∧ (x4 = x7 → (∃ v29 : Int, qMet g l M_X8_find [vr (gP σ 336 a0), vi (4 * x4), vi a1] σ (qPi σ v29) ∧ ((∃ v31 : Int, qMet g l M_X8_find [vr (gP σ 336 a0), vi (4 * x7), vi a2] σ (qPi σ v31) ∧ (((qR v29 ∧ qR v31) ∧ ∀ v35 : Int, v35 = (if v31 ≤ v29 then 0 else 1) → Post σ (.inl (some (vi v35))))))))))) : qMet g l M_X8_isBefore [vr a0, vi a1, vi a2] σ Post := by
  refine qMet_of hl (by decide +kernel) (Nat.le_of_ble_eq_true rfl) (List.forall_mem_cons.mpr ⟨trivial, List.forall_mem_cons.mpr ⟨trivial, List.forall_mem_cons.mpr ⟨trivial, fun _ h => nomatch h⟩⟩⟩) ?_
  show qW g l M_X8_isBefore 0 0 0 [some (vr a0), some (vi a1), some (vi a2), none, none] [] σ Post
  refine wp_aload_n dX8_isBefore_0 rfl ?_
  obtain ⟨hk1, h⟩ := h
  refine wp_get (v := vr (gP σ 337 a0)) dX8_isBefore_1 fl_RX8_50 hk1 rfl ?_
  refine wp_iload_n dX8_isBefore_4 rfl ?_
  obtain ⟨ha2, hi3, h⟩ := h
  refine wp_iaload dX8_isBefore_5 ha2 hi3 ?_
  refine wp_nmI (fun x4 hx5 => ?_)
  replace h := h x4 hx5
  refine wp_istore_n' (ls' := [some (vr a0), some (vi a1), some (vi a2), some (vi x4), none]) dX8_isBefore_6 (Nat.le_of_ble_eq_true rfl) rfl ?_
  refine wp_aload_n dX8_isBefore_7 rfl ?_
  refine wp_get (v := vr (gP σ 337 a0)) dX8_isBefore_8 fl_RX8_50 hk1 rfl ?_
  refine wp_iload_n dX8_isBefore_11 rfl ?_
  obtain ⟨hi6, h⟩ := h
  refine wp_iaload dX8_isBefore_12 ha2 hi6 ?_
  refine wp_nmI (fun x7 hx8 => ?_)
  replace h := h x7 hx8
  refine wp_istore' (ls' := [some (vr a0), some (vi a1), some (vi a2), some (vi x4), some (vi x7)]) dX8_isBefore_13 (Nat.le_of_ble_eq_true rfl) rfl ?_
  refine wp_iload_n dX8_isBefore_15 rfl ?_
  refine wp_iload dX8_isBefore_16 rfl ?_
  obtain ⟨hr9, hr10, h⟩ := h
  refine wp_icmp_ne (tgt := 53) dX8_isBefore_18 (by decide) hr9 hr10 (fun c11 => ?_) (fun c11 => ?_)
  · replace h := h.1 c11
    refine wp_aload_n dX8_isBefore_53 rfl ?_
    refine wp_iload_n dX8_isBefore_54 rfl ?_
    obtain ⟨v13, hm12, h⟩ := h
    refine wp_callV (M' := M_X8_rank) (As := [vi x4]) (st := []) (ci := 8) dX8_isBefore_55 cee_X8_rank np_X8_rank rfl ⟨Nat.le_of_ble_eq_true rfl, Nat.le_of_ble_eq_true rfl, Nat.le_of_ble_eq_true rfl, Nat.le_of_ble_eq_true rfl⟩ wd_1408 wd_1410 sel_X8_rank rfl (Or.inl hk1) (q_small_of (Nat.le_of_ble_eq_true rfl)) hm12 (q_kPi ?_) q_kPi0
    refine wp_less (ac2 := 0) (as2 := 0) (Nat.le_of_ble_eq_true rfl) (Nat.le_of_ble_eq_true rfl) ?_
    refine wp_aload_n dX8_isBefore_58 rfl ?_
    refine wp_iload dX8_isBefore_59 rfl ?_
    obtain ⟨v15, hm14, h⟩ := h
    refine wp_callV (M' := M_X8_rank) (As := [vi x7]) (st := [vi v13]) (ci := 8) dX8_isBefore_61 cee_X8_rank np_X8_rank rfl ⟨Nat.le_of_ble_eq_true rfl, Nat.le_of_ble_eq_true rfl, Nat.le_of_ble_eq_true rfl, Nat.le_of_ble_eq_true rfl⟩ wd_1408 wd_1410 sel_X8_rank rfl (Or.inl hk1) (q_small_of (Nat.le_of_ble_eq_true rfl)) hm14 (q_kPi ?_) q_kPi0
    refine wp_less (ac2 := 0) (as2 := 0) (Nat.le_of_ble_eq_true rfl) (Nat.le_of_ble_eq_true rfl) ?_
    obtain ⟨h, hk22⟩ := h
    have key21 : ∀ v19 : Int, v19 = (if v15 ≤ v13 then 0 else 1) → qW g l M_X8_isBefore 0 0 72 [some (vr a0), some (vi a1), some (vi a2), some (vi x4), some (vi x7)] [vi v19] σ Post := by
      intro v19 hv20
      have h := hk22 v19 hv20
      have hr23 : qR v19 := by (rw [hv20]; unfold qR; repeat' split) <;> omega
      have hz24 : v19 = 0 ∨ v19 = 1 := by (rw [hv20]; repeat' split) <;> first | exact Or.inl rfl | exact Or.inr rfl
      exact wp_ret_z dX8_isBefore_72 rfl hz24 h
    obtain ⟨hr25, hr26⟩ := h
    refine wp_icmp_ge (tgt := 71) dX8_isBefore_64 (by decide) hr25 hr26 (fun c27 => ?_) (fun c27 => ?_)
    · refine wp_iconst dX8_isBefore_71 ?_
      exact key21 _ (by rw [if_pos c27])
    · refine wp_iconst dX8_isBefore_67 ?_
      refine wp_goto (tgt := 72) dX8_isBefore_68 (by decide) ?_
      exact key21 _ (by rw [if_neg c27])
  · replace h := h.2 c11
    refine wp_aload_n dX8_isBefore_21 rfl ?_
    refine wp_get (v := vr (gP σ 336 a0)) dX8_isBefore_22 fl_RX8_47 hk1 rfl ?_
    refine wp_iconst dX8_isBefore_25 ?_
    refine wp_iload_n dX8_isBefore_26 rfl ?_
    refine wp_imul dX8_isBefore_27 ?_
    refine wp_iload_n dX8_isBefore_28 rfl ?_
    obtain ⟨v29, hm28, h⟩ := h
    refine wp_callS (M' := M_X8_find) (As := [vr (gP σ 336 a0), vi (4 * x4), vi a1]) (st := []) dX8_isBefore_29 cee_X8_find np_X8_find rfl ⟨Nat.le_of_ble_eq_true rfl, Nat.le_of_ble_eq_true rfl, Nat.le_of_ble_eq_true rfl, Nat.le_of_ble_eq_true rfl⟩ wd_1405 wd_1406 (q_small_of (Nat.le_of_ble_eq_true rfl)) hm28 (q_kPi ?_) q_kPi0
    refine wp_less (ac2 := 0) (as2 := 0) (Nat.le_of_ble_eq_true rfl) (Nat.le_of_ble_eq_true rfl) ?_
    refine wp_aload_n dX8_isBefore_32 rfl ?_
    refine wp_get (v := vr (gP σ 336 a0)) dX8_isBefore_33 fl_RX8_47 hk1 rfl ?_
    refine wp_iconst dX8_isBefore_36 ?_
    refine wp_iload dX8_isBefore_37 rfl ?_
    refine wp_imul dX8_isBefore_39 ?_
    refine wp_iload_n dX8_isBefore_40 rfl ?_
    obtain ⟨v31, hm30, h⟩ := h
    refine wp_callS (M' := M_X8_find) (As := [vr (gP σ 336 a0), vi (4 * x7), vi a2]) (st := [vi v29]) dX8_isBefore_41 cee_X8_find np_X8_find rfl ⟨Nat.le_of_ble_eq_true rfl, Nat.le_of_ble_eq_true rfl, Nat.le_of_ble_eq_true rfl, Nat.le_of_ble_eq_true rfl⟩ wd_1405 wd_1406 (q_small_of (Nat.le_of_ble_eq_true rfl)) hm30 (q_kPi ?_) q_kPi0
    refine wp_less (ac2 := 0) (as2 := 0) (Nat.le_of_ble_eq_true rfl) (Nat.le_of_ble_eq_true rfl) ?_
    obtain ⟨h, hk38⟩ := h
    have key37 : ∀ v35 : Int, v35 = (if v31 ≤ v29 then 0 else 1) → qW g l M_X8_isBefore 0 0 52 [some (vr a0), some (vi a1), some (vi a2), some (vi x4), some (vi x7)] [vi v35] σ Post := by
      intro v35 hv36
      have h := hk38 v35 hv36
      have hr39 : qR v35 := by (rw [hv36]; unfold qR; repeat' split) <;> omega
      have hz40 : v35 = 0 ∨ v35 = 1 := by (rw [hv36]; repeat' split) <;> first | exact Or.inl rfl | exact Or.inr rfl
      exact wp_ret_z dX8_isBefore_52 rfl hz40 h
    obtain ⟨hr41, hr42⟩ := h
    refine wp_icmp_ge (tgt := 51) dX8_isBefore_44 (by decide) hr41 hr42 (fun c43 => ?_) (fun c43 => ?_)
    · refine wp_iconst dX8_isBefore_51 ?_
      exact key37 _ (by rw [if_pos c43])
    · refine wp_iconst dX8_isBefore_47 ?_
      refine wp_goto (tgt := 52) dX8_isBefore_48 (by decide) ?_
      exact key37 _ (by rw [if_neg c43])

set_option maxRecDepth 100000 in
set_option maxHeartbeats 4000000 in
theorem wm_X8_areAnswered {g : qG} {l : Launch} (hl : l.stackTraces = false) {a0 : Nat} {σ : qS} {Post : qS → qRs → Prop}
    (h : ∃ Inv3 : Nat → Int → Int → Prop, (∃ n : Nat, Inv3 n 1 0) ∧ ∀ (n4 : Nat) (x1 : Int) (x2 : Int), Inv3 n4 x1 x2 → (gK σ a0 = 9 ∧ qR x2 ∧ qR (gI σ 323 a0) ∧ (((gI σ 323 a0) ≤ x2 → (x1 = 0 ∨ x1 = 1) ∧ Post σ (.inl (some (vi x1)))) ∧ (¬ ((gI σ 323 a0) ≤ x2) → qR x1 ∧ ((x1 = 0 → ∀ x16 : Int, x16 = x2 + 1 → ∃ n18 : Nat, n18 < n4 ∧ Inv3 n18 0 x16) ∧ (¬ (x1 = 0) → q_isA σ 0 (gP σ 337 a0) ∧ q_in σ (gP σ 337 a0) x2 ∧ qR (gA σ (gP σ 337 a0) x2) ∧ (((gA σ (gP σ 337 a0) x2) = ((-1)) → ∀ x23 : Int, x23 = x2 + 1 → ∃ n25 : Nat, n25 < n4 ∧ Inv3 n25 1 x23) ∧ (¬ ((gA σ (gP σ 337 a0) x2) = ((-1))) → q_isA σ 0 (gP σ 339 a0) ∧ q_in σ (gP σ 339 a0) x2 ∧ qR (gA σ (gP σ 339 a0) x2) ∧ (((gA σ (gP σ 339 a0) x2) = ((-1)) → ∀ x30 : Int, x30 = x2 + 1 → ∃ n32 : Nat, n32 < n4 ∧ Inv3 n32 1 x30) ∧ (¬ ((gA σ (gP σ 339 a0) x2) = ((-1))) → (∃ v34 : Int, qMet g l M_X8_isBefore [vr a0, vi (gA σ (gP σ 339 a0) x2), vi x2] σ (qPi σ v34) ∧ (((qR v34) ∧ ∀ v37 : Int, v37 = (if v34 = 0 then 0 else 1) → ∀ x43 : Int, x43 = x2 + 1 → ∃ n45 : Nat, n45 < n4 ∧ Inv3 n45 v37 x43))))))))))))) : qMet g l M_X8_areAnswered [vr a0] σ Post := by
  refine qMet_of hl (by decide +kernel) (Nat.le_of_ble_eq_true rfl) (List.forall_mem_cons.mpr ⟨trivial, fun _ h => nomatch h⟩) ?_
  show qW g l M_X8_areAnswered 0 0 0 [some (vr a0), none, none] [] σ Post
  refine wp_iconst dX8_areAnswered_0 ?_
  refine wp_istore_n' (ls' := [some (vr a0), some (vi 1), none]) dX8_areAnswered_1 (Nat.le_of_ble_eq_true rfl) rfl ?_
  refine wp_iconst dX8_areAnswered_2 ?_
  refine wp_istore_n' (ls' := [some (vr a0), some (vi 1), some (vi 0)]) dX8_areAnswered_3 (Nat.le_of_ble_eq_true rfl) rfl ?_
  obtain ⟨Inv3, ⟨n4_0, h08⟩, hb7⟩ := h
  have loop48 : ∀ (n4 : Nat) (x1 : Int) (x2 : Int), Inv3 n4 x1 x2 → qW g l M_X8_areAnswered 0 0 4 [some (vr a0), some (vi x1), some (vi x2)] [] σ Post := by
    intro n4
    induction n4 using Nat.strongRecOn with
    | ind n4 ih5 =>
      intro x1 x2 hI6
      have h := hb7 n4 x1 x2 hI6
      refine wp_iload_n dX8_areAnswered_4 rfl ?_
      refine wp_aload_n dX8_areAnswered_5 rfl ?_
      obtain ⟨hk9, h⟩ := h
      refine wp_get (v := vi (gI σ 323 a0)) dX8_areAnswered_6 fl_RX8_121 hk9 rfl ?_
      obtain ⟨hr10, hr11, h⟩ := h
      refine wp_icmp_ge (tgt := 62) dX8_areAnswered_9 (by decide) hr10 hr11 (fun c12 => ?_) (fun c12 => ?_)
      · replace h := h.1 c12
        refine wp_iload_n dX8_areAnswered_62 rfl ?_
        obtain ⟨hv13, h⟩ := h
        exact wp_ret_z dX8_areAnswered_63 rfl hv13 h
      · replace h := h.2 c12
        refine wp_iload_n dX8_areAnswered_12 rfl ?_
        obtain ⟨hr14, h⟩ := h
        refine wp_if_eq (tgt := 54) dX8_areAnswered_13 (by decide) hr14 (fun c15 => ?_) (fun c15 => ?_)
        · replace h := h.1 c15
          refine wp_iconst dX8_areAnswered_54 ?_
          refine wp_istore_n' (ls' := [some (vr a0), some (vi 0), some (vi x2)]) dX8_areAnswered_55 (Nat.le_of_ble_eq_true rfl) rfl ?_
          refine wp_nmT (x2 + 1) (fun x16 hx17 => ?_)
          replace h := h x16 hx17
          refine wp_iinc' (z' := x16) (ls' := [some (vr a0), some (vi 0), some (vi x16)]) dX8_areAnswered_56 (Nat.le_of_ble_eq_true rfl) rfl hx17 rfl ?_
          refine wp_goto (tgt := 4) dX8_areAnswered_59 (by decide) ?_
          obtain ⟨n18, hlt, h⟩ := h
          exact wp_lsub (ls' := [some (vr a0), some (vi 0), some (vi x16)]) ⟨rfl, ⟨rfl, ⟨rfl, trivial⟩⟩⟩ (ih5 n18 hlt _ _ h)
        · replace h := h.2 c15
          refine wp_aload_n dX8_areAnswered_16 rfl ?_
          refine wp_get (v := vr (gP σ 337 a0)) dX8_areAnswered_17 fl_RX8_50 hk9 rfl ?_
          refine wp_iload_n dX8_areAnswered_20 rfl ?_
          obtain ⟨ha19, hi20, h⟩ := h
          refine wp_iaload dX8_areAnswered_21 ha19 hi20 ?_
          refine wp_iconst dX8_areAnswered_22 ?_
          obtain ⟨hr21, h⟩ := h
          refine wp_icmp_eq (tgt := 50) dX8_areAnswered_23 (by decide) hr21 (by unfold qR; omega) (fun c22 => ?_) (fun c22 => ?_)
          · replace h := h.1 c22
            refine wp_iconst dX8_areAnswered_50 ?_
            refine wp_goto (tgt := 55) dX8_areAnswered_51 (by decide) ?_
            refine wp_istore_n' (ls' := [some (vr a0), some (vi 1), some (vi x2)]) dX8_areAnswered_55 (Nat.le_of_ble_eq_true rfl) rfl ?_
            refine wp_nmT (x2 + 1) (fun x23 hx24 => ?_)
            replace h := h x23 hx24
            refine wp_iinc' (z' := x23) (ls' := [some (vr a0), some (vi 1), some (vi x23)]) dX8_areAnswered_56 (Nat.le_of_ble_eq_true rfl) rfl hx24 rfl ?_
            refine wp_goto (tgt := 4) dX8_areAnswered_59 (by decide) ?_
            obtain ⟨n25, hlt, h⟩ := h
            exact wp_lsub (ls' := [some (vr a0), some (vi 1), some (vi x23)]) ⟨rfl, ⟨rfl, ⟨rfl, trivial⟩⟩⟩ (ih5 n25 hlt _ _ h)
          · replace h := h.2 c22
            refine wp_aload_n dX8_areAnswered_26 rfl ?_
            refine wp_get (v := vr (gP σ 339 a0)) dX8_areAnswered_27 fl_RX8_56 hk9 rfl ?_
            refine wp_iload_n dX8_areAnswered_30 rfl ?_
            obtain ⟨ha26, hi27, h⟩ := h
            refine wp_iaload dX8_areAnswered_31 ha26 hi27 ?_
            refine wp_iconst dX8_areAnswered_32 ?_
            obtain ⟨hr28, h⟩ := h
            refine wp_icmp_eq (tgt := 50) dX8_areAnswered_33 (by decide) hr28 (by unfold qR; omega) (fun c29 => ?_) (fun c29 => ?_)
            · replace h := h.1 c29
              refine wp_iconst dX8_areAnswered_50 ?_
              refine wp_goto (tgt := 55) dX8_areAnswered_51 (by decide) ?_
              refine wp_istore_n' (ls' := [some (vr a0), some (vi 1), some (vi x2)]) dX8_areAnswered_55 (Nat.le_of_ble_eq_true rfl) rfl ?_
              refine wp_nmT (x2 + 1) (fun x30 hx31 => ?_)
              replace h := h x30 hx31
              refine wp_iinc' (z' := x30) (ls' := [some (vr a0), some (vi 1), some (vi x30)]) dX8_areAnswered_56 (Nat.le_of_ble_eq_true rfl) rfl hx31 rfl ?_
              refine wp_goto (tgt := 4) dX8_areAnswered_59 (by decide) ?_
              obtain ⟨n32, hlt, h⟩ := h
              exact wp_lsub (ls' := [some (vr a0), some (vi 1), some (vi x30)]) ⟨rfl, ⟨rfl, ⟨rfl, trivial⟩⟩⟩ (ih5 n32 hlt _ _ h)
            · replace h := h.2 c29
              refine wp_aload_n dX8_areAnswered_36 rfl ?_
              refine wp_aload_n dX8_areAnswered_37 rfl ?_
              refine wp_get (v := vr (gP σ 339 a0)) dX8_areAnswered_38 fl_RX8_56 hk9 rfl ?_
              refine wp_iload_n dX8_areAnswered_41 rfl ?_
              refine wp_iaload dX8_areAnswered_42 ha26 hi27 ?_
              refine wp_iload_n dX8_areAnswered_43 rfl ?_
              obtain ⟨v34, hm33, h⟩ := h
              refine wp_callV (M' := M_X8_isBefore) (As := [vi (gA σ (gP σ 339 a0) x2), vi x2]) (st := []) (ci := 8) dX8_areAnswered_44 cee_X8_isBefore np_X8_isBefore rfl ⟨Nat.le_of_ble_eq_true rfl, Nat.le_of_ble_eq_true rfl, Nat.le_of_ble_eq_true rfl, Nat.le_of_ble_eq_true rfl⟩ wd_1401 wd_1403 sel_X8_isBefore rfl (Or.inl hk9) (q_small_of (Nat.le_of_ble_eq_true rfl)) hm33 (q_kPi ?_) q_kPi0
              refine wp_less (ac2 := 0) (as2 := 0) (Nat.le_of_ble_eq_true rfl) (Nat.le_of_ble_eq_true rfl) ?_
              obtain ⟨h, hk40⟩ := h
              have key39 : ∀ v37 : Int, v37 = (if v34 = 0 then 0 else 1) → qW g l M_X8_areAnswered 0 0 55 [some (vr a0), some (vi x1), some (vi x2)] [vi v37] σ Post := by
                intro v37 hv38
                have h := hk40 v37 hv38
                have hr41 : qR v37 := by (rw [hv38]; unfold qR; repeat' split) <;> omega
                have hz42 : v37 = 0 ∨ v37 = 1 := by (rw [hv38]; repeat' split) <;> first | exact Or.inl rfl | exact Or.inr rfl
                refine wp_istore_n' (ls' := [some (vr a0), some (vi v37), some (vi x2)]) dX8_areAnswered_55 (Nat.le_of_ble_eq_true rfl) rfl ?_
                refine wp_nmT (x2 + 1) (fun x43 hx44 => ?_)
                replace h := h x43 hx44
                refine wp_iinc' (z' := x43) (ls' := [some (vr a0), some (vi v37), some (vi x43)]) dX8_areAnswered_56 (Nat.le_of_ble_eq_true rfl) rfl hx44 rfl ?_
                refine wp_goto (tgt := 4) dX8_areAnswered_59 (by decide) ?_
                obtain ⟨n45, hlt, h⟩ := h
                exact wp_lsub (ls' := [some (vr a0), some (vi v37), some (vi x43)]) ⟨rfl, ⟨rfl, ⟨rfl, trivial⟩⟩⟩ (ih5 n45 hlt _ _ h)
              have hr46 := h
              refine wp_if_eq (tgt := 54) dX8_areAnswered_47 (by decide) hr46 (fun c47 => ?_) (fun c47 => ?_)
              · refine wp_iconst dX8_areAnswered_54 ?_
                exact key39 _ (by rw [if_pos c47])
              · refine wp_iconst dX8_areAnswered_50 ?_
                refine wp_goto (tgt := 55) dX8_areAnswered_51 (by decide) ?_
                exact key39 _ (by rw [if_neg c47])
  exact wp_lsub (ls' := [some (vr a0), some (vi 1), some (vi 0)]) ⟨rfl, ⟨rfl, ⟨rfl, trivial⟩⟩⟩ (loop48 _ _ _ h08)

set_option maxRecDepth 100000 in
set_option maxHeartbeats 4000000 in
theorem wm_X8_copies {g : qG} {l : Launch} (hl : l.stackTraces = false) {a0 : Nat} {a1 : Nat} {σ : qS} {Post : qS → qRs → Prop}
    (h : ∃ Inv2 : Nat → Int → qS → Prop, (∃ n : Nat, Inv2 n 0 σ) ∧ ∀ (n3 : Nat) (x1 : Int) (σ8 : qS), Inv2 n3 x1 σ8 → (q_isA σ8 0 a0 ∧ qR x1 ∧ qR (gN σ8 a0) ∧ (((gN σ8 a0) ≤ x1 → Post σ8 (.inl none)) ∧ (¬ ((gN σ8 a0) ≤ x1) → q_in σ8 a0 x1 ∧ gK σ8 a1 = 20 ∧ q_in σ8 a1 x1 ∧ (∀ σ16 : qS, σ16 = sA σ8 a1 x1 (gA σ8 a0 x1) → ∀ x18 : Int, x18 = x1 + 1 → ∃ n20 : Nat, n20 < n3 ∧ Inv2 n20 x18 σ16))))) : qMet g l M_X8_copies [vr a0, vr a1] σ Post := by
  refine qMet_of hl (by decide +kernel) (Nat.le_of_ble_eq_true rfl) (List.forall_mem_cons.mpr ⟨trivial, List.forall_mem_cons.mpr ⟨trivial, fun _ h => nomatch h⟩⟩) ?_
  show qW g l M_X8_copies 0 0 0 [some (vr a0), some (vr a1), none] [] σ Post
  refine wp_iconst dX8_copies_0 ?_
  refine wp_istore_n' (ls' := [some (vr a0), some (vr a1), some (vi 0)]) dX8_copies_1 (Nat.le_of_ble_eq_true rfl) rfl ?_
  obtain ⟨Inv2, ⟨n3_0, h07⟩, hb6⟩ := h
  have loop21 : ∀ (n3 : Nat) (x1 : Int) (σ8 : qS), Inv2 n3 x1 σ8 → qW g l M_X8_copies 0 0 2 [some (vr a0), some (vr a1), some (vi x1)] [] σ8 Post := by
    intro n3
    induction n3 using Nat.strongRecOn with
    | ind n3 ih4 =>
      intro x1 σ8 hI5
      have h := hb6 n3 x1 σ8 hI5
      refine wp_iload_n dX8_copies_2 rfl ?_
      refine wp_aload_n dX8_copies_3 rfl ?_
      obtain ⟨ha9, h⟩ := h
      refine wp_alen dX8_copies_4 ha9 ?_
      obtain ⟨hr10, hr11, h⟩ := h
      refine wp_icmp_ge (tgt := 20) dX8_copies_5 (by decide) hr10 hr11 (fun c12 => ?_) (fun c12 => ?_)
      · replace h := h.1 c12
        exact wp_ret_v dX8_copies_20 rfl h
      · replace h := h.2 c12
        refine wp_aload_n dX8_copies_8 rfl ?_
        refine wp_iload_n dX8_copies_9 rfl ?_
        refine wp_aload_n dX8_copies_10 rfl ?_
        refine wp_iload_n dX8_copies_11 rfl ?_
        obtain ⟨hi13, h⟩ := h
        refine wp_iaload dX8_copies_12 ha9 hi13 ?_
        obtain ⟨hk14, hi15, h⟩ := h
        refine wp_iastore dX8_copies_13 hk14 hi15 ?_
        refine wp_nmS (fun σ16 hs17 => ?_)
        replace h := h σ16 hs17
        refine wp_nmT (x1 + 1) (fun x18 hx19 => ?_)
        replace h := h x18 hx19
        refine wp_iinc' (z' := x18) (ls' := [some (vr a0), some (vr a1), some (vi x18)]) dX8_copies_14 (Nat.le_of_ble_eq_true rfl) rfl hx19 rfl ?_
        refine wp_goto (tgt := 2) dX8_copies_17 (by decide) ?_
        obtain ⟨n20, hlt, h⟩ := h
        exact wp_lsub (ls' := [some (vr a0), some (vr a1), some (vi x18)]) ⟨rfl, ⟨rfl, ⟨rfl, trivial⟩⟩⟩ (ih4 n20 hlt _ _ h)
  exact wp_lsub (ls' := [some (vr a0), some (vr a1), some (vi 0)]) ⟨rfl, ⟨rfl, ⟨rfl, trivial⟩⟩⟩ (loop21 _ _ _ h07)

set_option maxRecDepth 100000 in
set_option maxHeartbeats 4000000 in
theorem wm_X8_keeps {g : qG} {l : Launch} (hl : l.stackTraces = false) {a0 : Nat} {σ : qS} {Post : qS → qRs → Prop}
    (h : gK σ a0 = 9 ∧ (∃ Mid3 : qS → Prop, qMet g l M_X8_copies [vr (gP σ 324 a0), vr (gP σ 344 a0)] σ (qTv0 Mid3) ∧ ∀ (σ7 : qS), Mid3 σ7 → gK σ7 a0 = 9 ∧ (∃ Mid11 : qS → Prop, qMet g l M_X8_copies [vr (gP σ7 325 a0), vr (gP σ7 345 a0)] σ7 (qTv0 Mid11) ∧ ∀ (σ15 : qS), Mid11 σ15 → gK σ15 a0 = 9 ∧ (∃ Mid19 : qS → Prop, qMet g l M_X8_copies [vr (gP σ15 326 a0), vr (gP σ15 346 a0)] σ15 (qTv0 Mid19) ∧ ∀ (σ23 : qS), Mid19 σ23 → gK σ23 a0 = 9 ∧ (∃ Mid27 : qS → Prop, qMet g l M_X8_copies [vr (gP σ23 328 a0), vr (gP σ23 347 a0)] σ23 (qTv0 Mid27) ∧ ∀ (σ31 : qS), Mid27 σ31 → gK σ31 a0 = 9 ∧ (∃ Mid35 : qS → Prop, qMet g l M_X8_copies [vr (gP σ31 329 a0), vr (gP σ31 348 a0)] σ31 (qTv0 Mid35) ∧ ∀ (σ39 : qS), Mid35 σ39 → gK σ39 a0 = 9 ∧ (∃ Mid43 : qS → Prop, qMet g l M_X8_copies [vr (gP σ39 333 a0), vr (gP σ39 349 a0)] σ39 (qTv0 Mid43) ∧ ∀ (σ47 : qS), Mid43 σ47 → gK σ47 a0 = 9 ∧ (∃ Mid51 : qS → Prop, qMet g l M_X8_copies [vr (gP σ47 335 a0), vr (gP σ47 350 a0)] σ47 (qTv0 Mid51) ∧ ∀ (σ55 : qS), Mid51 σ55 → gK σ55 a0 = 9 ∧ (∃ Mid59 : qS → Prop, qMet g l M_X8_copies [vr (gP σ55 336 a0), vr (gP σ55 351 a0)] σ55 (qTv0 Mid59) ∧ ∀ (σ63 : qS), Mid59 σ63 → gK σ63 a0 = 9 ∧ (∃ Mid67 : qS → Prop, qMet g l M_X8_copies [vr (gP σ63 337 a0), vr (gP σ63 352 a0)] σ63 (qTv0 Mid67) ∧ ∀ (σ71 : qS), Mid67 σ71 → gK σ71 a0 = 9 ∧ (∃ Mid75 : qS → Prop, qMet g l M_X8_copies [vr (gP σ71 340 a0), vr (gP σ71 353 a0)] σ71 (qTv0 Mid75) ∧ ∀ (σ79 : qS), Mid75 σ79 → Post σ79 (.inl none)))))))))))) : qMet g l M_X8_keeps [vr a0] σ Post := by
  refine qMet_of hl (by decide +kernel) (Nat.le_of_ble_eq_true rfl) (List.forall_mem_cons.mpr ⟨trivial, fun _ h => nomatch h⟩) ?_
  show qW g l M_X8_keeps 0 0 0 [some (vr a0)] [] σ Post
  refine wp_aload_n dX8_keeps_0 rfl ?_
  obtain ⟨hk1, h⟩ := h
  refine wp_get (v := vr (gP σ 324 a0)) dX8_keeps_1 fl_RX8_7 hk1 rfl ?_
  refine wp_aload_n dX8_keeps_4 rfl ?_
  refine wp_get (v := vr (gP σ 344 a0)) dX8_keeps_5 fl_RX8_71 hk1 rfl ?_
  obtain ⟨Mid3, hm2, hk5⟩ := h
  refine wp_callS (M' := M_X8_copies) (As := [vr (gP σ 324 a0), vr (gP σ 344 a0)]) (st := []) dX8_keeps_8 cee_X8_copies np_X8_copies rfl ⟨Nat.le_of_ble_eq_true rfl, Nat.le_of_ble_eq_true rfl, Nat.le_of_ble_eq_true rfl, Nat.le_of_ble_eq_true rfl⟩ wd_1355 wd_1356 (q_small_of (Nat.le_of_ble_eq_true rfl)) hm2 (q_kTv0 (fun σ7 hM8 => ?_)) q_kTv00
  refine wp_less (ac2 := 0) (as2 := 0) (Nat.le_of_ble_eq_true rfl) (Nat.le_of_ble_eq_true rfl) ?_
  have h := hk5 σ7 hM8
  refine wp_aload_n dX8_keeps_11 rfl ?_
  obtain ⟨hk9, h⟩ := h
  refine wp_get (v := vr (gP σ7 325 a0)) dX8_keeps_12 fl_RX8_13 hk9 rfl ?_
  refine wp_aload_n dX8_keeps_15 rfl ?_
  refine wp_get (v := vr (gP σ7 345 a0)) dX8_keeps_16 fl_RX8_74 hk9 rfl ?_
  obtain ⟨Mid11, hm10, hk13⟩ := h
  refine wp_callS (M' := M_X8_copies) (As := [vr (gP σ7 325 a0), vr (gP σ7 345 a0)]) (st := []) dX8_keeps_19 cee_X8_copies np_X8_copies rfl ⟨Nat.le_of_ble_eq_true rfl, Nat.le_of_ble_eq_true rfl, Nat.le_of_ble_eq_true rfl, Nat.le_of_ble_eq_true rfl⟩ wd_1355 wd_1356 (q_small_of (Nat.le_of_ble_eq_true rfl)) hm10 (q_kTv0 (fun σ15 hM16 => ?_)) q_kTv00
  refine wp_less (ac2 := 0) (as2 := 0) (Nat.le_of_ble_eq_true rfl) (Nat.le_of_ble_eq_true rfl) ?_
  have h := hk13 σ15 hM16
  refine wp_aload_n dX8_keeps_22 rfl ?_
  obtain ⟨hk17, h⟩ := h
  refine wp_get (v := vr (gP σ15 326 a0)) dX8_keeps_23 fl_RX8_16 hk17 rfl ?_
  refine wp_aload_n dX8_keeps_26 rfl ?_
  refine wp_get (v := vr (gP σ15 346 a0)) dX8_keeps_27 fl_RX8_77 hk17 rfl ?_
  obtain ⟨Mid19, hm18, hk21⟩ := h
  refine wp_callS (M' := M_X8_copies) (As := [vr (gP σ15 326 a0), vr (gP σ15 346 a0)]) (st := []) dX8_keeps_30 cee_X8_copies np_X8_copies rfl ⟨Nat.le_of_ble_eq_true rfl, Nat.le_of_ble_eq_true rfl, Nat.le_of_ble_eq_true rfl, Nat.le_of_ble_eq_true rfl⟩ wd_1355 wd_1356 (q_small_of (Nat.le_of_ble_eq_true rfl)) hm18 (q_kTv0 (fun σ23 hM24 => ?_)) q_kTv00
  refine wp_less (ac2 := 0) (as2 := 0) (Nat.le_of_ble_eq_true rfl) (Nat.le_of_ble_eq_true rfl) ?_
  have h := hk21 σ23 hM24
  refine wp_aload_n dX8_keeps_33 rfl ?_
  obtain ⟨hk25, h⟩ := h
  refine wp_get (v := vr (gP σ23 328 a0)) dX8_keeps_34 fl_RX8_23 hk25 rfl ?_
  refine wp_aload_n dX8_keeps_37 rfl ?_
  refine wp_get (v := vr (gP σ23 347 a0)) dX8_keeps_38 fl_RX8_80 hk25 rfl ?_
  obtain ⟨Mid27, hm26, hk29⟩ := h
  refine wp_callS (M' := M_X8_copies) (As := [vr (gP σ23 328 a0), vr (gP σ23 347 a0)]) (st := []) dX8_keeps_41 cee_X8_copies np_X8_copies rfl ⟨Nat.le_of_ble_eq_true rfl, Nat.le_of_ble_eq_true rfl, Nat.le_of_ble_eq_true rfl, Nat.le_of_ble_eq_true rfl⟩ wd_1355 wd_1356 (q_small_of (Nat.le_of_ble_eq_true rfl)) hm26 (q_kTv0 (fun σ31 hM32 => ?_)) q_kTv00
  refine wp_less (ac2 := 0) (as2 := 0) (Nat.le_of_ble_eq_true rfl) (Nat.le_of_ble_eq_true rfl) ?_
  have h := hk29 σ31 hM32
  refine wp_aload_n dX8_keeps_44 rfl ?_
  obtain ⟨hk33, h⟩ := h
  refine wp_get (v := vr (gP σ31 329 a0)) dX8_keeps_45 fl_RX8_26 hk33 rfl ?_
  refine wp_aload_n dX8_keeps_48 rfl ?_
  refine wp_get (v := vr (gP σ31 348 a0)) dX8_keeps_49 fl_RX8_83 hk33 rfl ?_
  obtain ⟨Mid35, hm34, hk37⟩ := h
  refine wp_callS (M' := M_X8_copies) (As := [vr (gP σ31 329 a0), vr (gP σ31 348 a0)]) (st := []) dX8_keeps_52 cee_X8_copies np_X8_copies rfl ⟨Nat.le_of_ble_eq_true rfl, Nat.le_of_ble_eq_true rfl, Nat.le_of_ble_eq_true rfl, Nat.le_of_ble_eq_true rfl⟩ wd_1355 wd_1356 (q_small_of (Nat.le_of_ble_eq_true rfl)) hm34 (q_kTv0 (fun σ39 hM40 => ?_)) q_kTv00
  refine wp_less (ac2 := 0) (as2 := 0) (Nat.le_of_ble_eq_true rfl) (Nat.le_of_ble_eq_true rfl) ?_
  have h := hk37 σ39 hM40
  refine wp_aload_n dX8_keeps_55 rfl ?_
  obtain ⟨hk41, h⟩ := h
  refine wp_get (v := vr (gP σ39 333 a0)) dX8_keeps_56 fl_RX8_38 hk41 rfl ?_
  refine wp_aload_n dX8_keeps_59 rfl ?_
  refine wp_get (v := vr (gP σ39 349 a0)) dX8_keeps_60 fl_RX8_86 hk41 rfl ?_
  obtain ⟨Mid43, hm42, hk45⟩ := h
  refine wp_callS (M' := M_X8_copies) (As := [vr (gP σ39 333 a0), vr (gP σ39 349 a0)]) (st := []) dX8_keeps_63 cee_X8_copies np_X8_copies rfl ⟨Nat.le_of_ble_eq_true rfl, Nat.le_of_ble_eq_true rfl, Nat.le_of_ble_eq_true rfl, Nat.le_of_ble_eq_true rfl⟩ wd_1355 wd_1356 (q_small_of (Nat.le_of_ble_eq_true rfl)) hm42 (q_kTv0 (fun σ47 hM48 => ?_)) q_kTv00
  refine wp_less (ac2 := 0) (as2 := 0) (Nat.le_of_ble_eq_true rfl) (Nat.le_of_ble_eq_true rfl) ?_
  have h := hk45 σ47 hM48
  refine wp_aload_n dX8_keeps_66 rfl ?_
  obtain ⟨hk49, h⟩ := h
  refine wp_get (v := vr (gP σ47 335 a0)) dX8_keeps_67 fl_RX8_44 hk49 rfl ?_
  refine wp_aload_n dX8_keeps_70 rfl ?_
  refine wp_get (v := vr (gP σ47 350 a0)) dX8_keeps_71 fl_RX8_89 hk49 rfl ?_
  obtain ⟨Mid51, hm50, hk53⟩ := h
  refine wp_callS (M' := M_X8_copies) (As := [vr (gP σ47 335 a0), vr (gP σ47 350 a0)]) (st := []) dX8_keeps_74 cee_X8_copies np_X8_copies rfl ⟨Nat.le_of_ble_eq_true rfl, Nat.le_of_ble_eq_true rfl, Nat.le_of_ble_eq_true rfl, Nat.le_of_ble_eq_true rfl⟩ wd_1355 wd_1356 (q_small_of (Nat.le_of_ble_eq_true rfl)) hm50 (q_kTv0 (fun σ55 hM56 => ?_)) q_kTv00
  refine wp_less (ac2 := 0) (as2 := 0) (Nat.le_of_ble_eq_true rfl) (Nat.le_of_ble_eq_true rfl) ?_
  have h := hk53 σ55 hM56
  refine wp_aload_n dX8_keeps_77 rfl ?_
  obtain ⟨hk57, h⟩ := h
  refine wp_get (v := vr (gP σ55 336 a0)) dX8_keeps_78 fl_RX8_47 hk57 rfl ?_
  refine wp_aload_n dX8_keeps_81 rfl ?_
  refine wp_get (v := vr (gP σ55 351 a0)) dX8_keeps_82 fl_RX8_92 hk57 rfl ?_
  obtain ⟨Mid59, hm58, hk61⟩ := h
  refine wp_callS (M' := M_X8_copies) (As := [vr (gP σ55 336 a0), vr (gP σ55 351 a0)]) (st := []) dX8_keeps_85 cee_X8_copies np_X8_copies rfl ⟨Nat.le_of_ble_eq_true rfl, Nat.le_of_ble_eq_true rfl, Nat.le_of_ble_eq_true rfl, Nat.le_of_ble_eq_true rfl⟩ wd_1355 wd_1356 (q_small_of (Nat.le_of_ble_eq_true rfl)) hm58 (q_kTv0 (fun σ63 hM64 => ?_)) q_kTv00
  refine wp_less (ac2 := 0) (as2 := 0) (Nat.le_of_ble_eq_true rfl) (Nat.le_of_ble_eq_true rfl) ?_
  have h := hk61 σ63 hM64
  refine wp_aload_n dX8_keeps_88 rfl ?_
  obtain ⟨hk65, h⟩ := h
  refine wp_get (v := vr (gP σ63 337 a0)) dX8_keeps_89 fl_RX8_50 hk65 rfl ?_
  refine wp_aload_n dX8_keeps_92 rfl ?_
  refine wp_get (v := vr (gP σ63 352 a0)) dX8_keeps_93 fl_RX8_95 hk65 rfl ?_
  obtain ⟨Mid67, hm66, hk69⟩ := h
  refine wp_callS (M' := M_X8_copies) (As := [vr (gP σ63 337 a0), vr (gP σ63 352 a0)]) (st := []) dX8_keeps_96 cee_X8_copies np_X8_copies rfl ⟨Nat.le_of_ble_eq_true rfl, Nat.le_of_ble_eq_true rfl, Nat.le_of_ble_eq_true rfl, Nat.le_of_ble_eq_true rfl⟩ wd_1355 wd_1356 (q_small_of (Nat.le_of_ble_eq_true rfl)) hm66 (q_kTv0 (fun σ71 hM72 => ?_)) q_kTv00
  refine wp_less (ac2 := 0) (as2 := 0) (Nat.le_of_ble_eq_true rfl) (Nat.le_of_ble_eq_true rfl) ?_
  have h := hk69 σ71 hM72
  refine wp_aload_n dX8_keeps_99 rfl ?_
  obtain ⟨hk73, h⟩ := h
  refine wp_get (v := vr (gP σ71 340 a0)) dX8_keeps_100 fl_RX8_59 hk73 rfl ?_
  refine wp_aload_n dX8_keeps_103 rfl ?_
  refine wp_get (v := vr (gP σ71 353 a0)) dX8_keeps_104 fl_RX8_98 hk73 rfl ?_
  obtain ⟨Mid75, hm74, hk77⟩ := h
  refine wp_callS (M' := M_X8_copies) (As := [vr (gP σ71 340 a0), vr (gP σ71 353 a0)]) (st := []) dX8_keeps_107 cee_X8_copies np_X8_copies rfl ⟨Nat.le_of_ble_eq_true rfl, Nat.le_of_ble_eq_true rfl, Nat.le_of_ble_eq_true rfl, Nat.le_of_ble_eq_true rfl⟩ wd_1355 wd_1356 (q_small_of (Nat.le_of_ble_eq_true rfl)) hm74 (q_kTv0 (fun σ79 hM80 => ?_)) q_kTv00
  refine wp_less (ac2 := 0) (as2 := 0) (Nat.le_of_ble_eq_true rfl) (Nat.le_of_ble_eq_true rfl) ?_
  have h := hk77 σ79 hM80
  exact wp_ret_v dX8_keeps_110 rfl h

set_option maxRecDepth 100000 in
set_option maxHeartbeats 4000000 in
theorem wm_X8_stays {g : qG} {l : Launch} (hl : l.stackTraces = false) {a0 : Nat} {σ : qS} {Post : qS → qRs → Prop}
    (h : gK σ a0 = 9 ∧ (∃ Mid3 : qS → Int → Prop, qMet g l M_X8_laysAll [vr a0] σ (qTi0 Mid3) ∧ ∀ (σ7 : qS) (v9 : Int), Mid3 σ7 v9 → qR v9 ∧ ((v9 = 0 → gK σ7 a0 = 9 ∧ (∃ Mid14 : qS → Prop, qMet g l M_X8_copies [vr (gP σ7 344 a0), vr (gP σ7 324 a0)] σ7 (qTv0 Mid14) ∧ ∀ (σ18 : qS), Mid14 σ18 → gK σ18 a0 = 9 ∧ (∃ Mid22 : qS → Prop, qMet g l M_X8_copies [vr (gP σ18 345 a0), vr (gP σ18 325 a0)] σ18 (qTv0 Mid22) ∧ ∀ (σ26 : qS), Mid22 σ26 → gK σ26 a0 = 9 ∧ (∃ Mid30 : qS → Prop, qMet g l M_X8_copies [vr (gP σ26 346 a0), vr (gP σ26 326 a0)] σ26 (qTv0 Mid30) ∧ ∀ (σ34 : qS), Mid30 σ34 → gK σ34 a0 = 9 ∧ (∃ Mid38 : qS → Prop, qMet g l M_X8_copies [vr (gP σ34 347 a0), vr (gP σ34 328 a0)] σ34 (qTv0 Mid38) ∧ ∀ (σ42 : qS), Mid38 σ42 → gK σ42 a0 = 9 ∧ (∃ Mid46 : qS → Prop, qMet g l M_X8_copies [vr (gP σ42 348 a0), vr (gP σ42 329 a0)] σ42 (qTv0 Mid46) ∧ ∀ (σ50 : qS), Mid46 σ50 → gK σ50 a0 = 9 ∧ (∃ Mid54 : qS → Prop, qMet g l M_X8_copies [vr (gP σ50 349 a0), vr (gP σ50 333 a0)] σ50 (qTv0 Mid54) ∧ ∀ (σ58 : qS), Mid54 σ58 → gK σ58 a0 = 9 ∧ (∃ Mid62 : qS → Prop, qMet g l M_X8_copies [vr (gP σ58 350 a0), vr (gP σ58 335 a0)] σ58 (qTv0 Mid62) ∧ ∀ (σ66 : qS), Mid62 σ66 → gK σ66 a0 = 9 ∧ (∃ Mid70 : qS → Prop, qMet g l M_X8_copies [vr (gP σ66 351 a0), vr (gP σ66 336 a0)] σ66 (qTv0 Mid70) ∧ ∀ (σ74 : qS), Mid70 σ74 → gK σ74 a0 = 9 ∧ (∃ Mid78 : qS → Prop, qMet g l M_X8_copies [vr (gP σ74 352 a0), vr (gP σ74 337 a0)] σ74 (qTv0 Mid78) ∧ ∀ (σ82 : qS), Mid78 σ82 → gK σ82 a0 = 9 ∧ (∃ Mid86 : qS → Int → Prop, qMet g l M_X8_laysAll [vr a0] σ82 (qTi0 Mid86) ∧ ∀ (σ90 : qS) (v92 : Int), Mid86 σ90 v92 → Post σ90 (.inl (some (vi 0)))))))))))))) ∧ (¬ (v9 = 0) → gK σ7 a0 = 9 ∧ (∃ v95 : Int, qMet g l M_X8_areAnswered [vr a0] σ7 (qPi σ7 v95) ∧ (qR v95 ∧ ((v95 = 0 → (∃ Mid99 : qS → Prop, qMet g l M_X8_copies [vr (gP σ7 344 a0), vr (gP σ7 324 a0)] σ7 (qTv0 Mid99) ∧ ∀ (σ103 : qS), Mid99 σ103 → gK σ103 a0 = 9 ∧ (∃ Mid107 : qS → Prop, qMet g l M_X8_copies [vr (gP σ103 345 a0), vr (gP σ103 325 a0)] σ103 (qTv0 Mid107) ∧ ∀ (σ111 : qS), Mid107 σ111 → gK σ111 a0 = 9 ∧ (∃ Mid115 : qS → Prop, qMet g l M_X8_copies [vr (gP σ111 346 a0), vr (gP σ111 326 a0)] σ111 (qTv0 Mid115) ∧ ∀ (σ119 : qS), Mid115 σ119 → gK σ119 a0 = 9 ∧ (∃ Mid123 : qS → Prop, qMet g l M_X8_copies [vr (gP σ119 347 a0), vr (gP σ119 328 a0)] σ119 (qTv0 Mid123) ∧ ∀ (σ127 : qS), Mid123 σ127 → gK σ127 a0 = 9 ∧ (∃ Mid131 : qS → Prop, qMet g l M_X8_copies [vr (gP σ127 348 a0), vr (gP σ127 329 a0)] σ127 (qTv0 Mid131) ∧ ∀ (σ135 : qS), Mid131 σ135 → gK σ135 a0 = 9 ∧ (∃ Mid139 : qS → Prop, qMet g l M_X8_copies [vr (gP σ135 349 a0), vr (gP σ135 333 a0)] σ135 (qTv0 Mid139) ∧ ∀ (σ143 : qS), Mid139 σ143 → gK σ143 a0 = 9 ∧ (∃ Mid147 : qS → Prop, qMet g l M_X8_copies [vr (gP σ143 350 a0), vr (gP σ143 335 a0)] σ143 (qTv0 Mid147) ∧ ∀ (σ151 : qS), Mid147 σ151 → gK σ151 a0 = 9 ∧ (∃ Mid155 : qS → Prop, qMet g l M_X8_copies [vr (gP σ151 351 a0), vr (gP σ151 336 a0)] σ151 (qTv0 Mid155) ∧ ∀ (σ159 : qS), Mid155 σ159 → gK σ159 a0 = 9 ∧ (∃ Mid163 : qS → Prop, qMet g l M_X8_copies [vr (gP σ159 352 a0), vr (gP σ159 337 a0)] σ159 (qTv0 Mid163) ∧ ∀ (σ167 : qS), Mid163 σ167 → gK σ167 a0 = 9 ∧ (∃ Mid171 : qS → Int → Prop, qMet g l M_X8_laysAll [vr a0] σ167 (qTi0 Mid171) ∧ ∀ (σ175 : qS) (v177 : Int), Mid171 σ175 v177 → Post σ175 (.inl (some (vi 0)))))))))))))) ∧ (¬ (v95 = 0) → Post σ7 (.inl (some (vi 1))))))))))) : qMet g l M_X8_stays [vr a0] σ Post := by
  refine qMet_of hl (by decide +kernel) (Nat.le_of_ble_eq_true rfl) (List.forall_mem_cons.mpr ⟨trivial, fun _ h => nomatch h⟩) ?_
  show qW g l M_X8_stays 0 0 0 [some (vr a0)] [] σ Post
  refine wp_aload_n dX8_stays_0 rfl ?_
  obtain ⟨hk2, h⟩ := h
  obtain ⟨Mid3, hm1, hk5⟩ := h
  refine wp_callV (M' := M_X8_laysAll) (As := []) (st := []) (ci := 8) dX8_stays_1 cee_X8_laysAll np_X8_laysAll rfl ⟨Nat.le_of_ble_eq_true rfl, Nat.le_of_ble_eq_true rfl, Nat.le_of_ble_eq_true rfl, Nat.le_of_ble_eq_true rfl⟩ wd_1365 wd_1367 sel_X8_laysAll rfl (Or.inl hk2) (q_small_of (Nat.le_of_ble_eq_true rfl)) hm1 (q_kTi0 (fun σ7 v9 hM8 => ?_)) q_kTi00
  refine wp_less (ac2 := 0) (as2 := 0) (Nat.le_of_ble_eq_true rfl) (Nat.le_of_ble_eq_true rfl) ?_
  have h := hk5 σ7 v9 hM8
  obtain ⟨hr10, h⟩ := h
  refine wp_if_eq (tgt := 16) dX8_stays_4 (by decide) hr10 (fun c11 => ?_) (fun c11 => ?_)
  · replace h := h.1 c11
    refine wp_aload_n dX8_stays_16 rfl ?_
    obtain ⟨hk12, h⟩ := h
    refine wp_get (v := vr (gP σ7 344 a0)) dX8_stays_17 fl_RX8_71 hk12 rfl ?_
    refine wp_aload_n dX8_stays_20 rfl ?_
    refine wp_get (v := vr (gP σ7 324 a0)) dX8_stays_21 fl_RX8_7 hk12 rfl ?_
    obtain ⟨Mid14, hm13, hk16⟩ := h
    refine wp_callS (M' := M_X8_copies) (As := [vr (gP σ7 344 a0), vr (gP σ7 324 a0)]) (st := []) dX8_stays_24 cee_X8_copies np_X8_copies rfl ⟨Nat.le_of_ble_eq_true rfl, Nat.le_of_ble_eq_true rfl, Nat.le_of_ble_eq_true rfl, Nat.le_of_ble_eq_true rfl⟩ wd_1355 wd_1356 (q_small_of (Nat.le_of_ble_eq_true rfl)) hm13 (q_kTv0 (fun σ18 hM19 => ?_)) q_kTv00
    refine wp_less (ac2 := 0) (as2 := 0) (Nat.le_of_ble_eq_true rfl) (Nat.le_of_ble_eq_true rfl) ?_
    have h := hk16 σ18 hM19
    refine wp_aload_n dX8_stays_27 rfl ?_
    obtain ⟨hk20, h⟩ := h
    refine wp_get (v := vr (gP σ18 345 a0)) dX8_stays_28 fl_RX8_74 hk20 rfl ?_
    refine wp_aload_n dX8_stays_31 rfl ?_
    refine wp_get (v := vr (gP σ18 325 a0)) dX8_stays_32 fl_RX8_13 hk20 rfl ?_
    obtain ⟨Mid22, hm21, hk24⟩ := h
    refine wp_callS (M' := M_X8_copies) (As := [vr (gP σ18 345 a0), vr (gP σ18 325 a0)]) (st := []) dX8_stays_35 cee_X8_copies np_X8_copies rfl ⟨Nat.le_of_ble_eq_true rfl, Nat.le_of_ble_eq_true rfl, Nat.le_of_ble_eq_true rfl, Nat.le_of_ble_eq_true rfl⟩ wd_1355 wd_1356 (q_small_of (Nat.le_of_ble_eq_true rfl)) hm21 (q_kTv0 (fun σ26 hM27 => ?_)) q_kTv00
    refine wp_less (ac2 := 0) (as2 := 0) (Nat.le_of_ble_eq_true rfl) (Nat.le_of_ble_eq_true rfl) ?_
    have h := hk24 σ26 hM27
    refine wp_aload_n dX8_stays_38 rfl ?_
    obtain ⟨hk28, h⟩ := h
    refine wp_get (v := vr (gP σ26 346 a0)) dX8_stays_39 fl_RX8_77 hk28 rfl ?_
    refine wp_aload_n dX8_stays_42 rfl ?_
    refine wp_get (v := vr (gP σ26 326 a0)) dX8_stays_43 fl_RX8_16 hk28 rfl ?_
    obtain ⟨Mid30, hm29, hk32⟩ := h
    refine wp_callS (M' := M_X8_copies) (As := [vr (gP σ26 346 a0), vr (gP σ26 326 a0)]) (st := []) dX8_stays_46 cee_X8_copies np_X8_copies rfl ⟨Nat.le_of_ble_eq_true rfl, Nat.le_of_ble_eq_true rfl, Nat.le_of_ble_eq_true rfl, Nat.le_of_ble_eq_true rfl⟩ wd_1355 wd_1356 (q_small_of (Nat.le_of_ble_eq_true rfl)) hm29 (q_kTv0 (fun σ34 hM35 => ?_)) q_kTv00
    refine wp_less (ac2 := 0) (as2 := 0) (Nat.le_of_ble_eq_true rfl) (Nat.le_of_ble_eq_true rfl) ?_
    have h := hk32 σ34 hM35
    refine wp_aload_n dX8_stays_49 rfl ?_
    obtain ⟨hk36, h⟩ := h
    refine wp_get (v := vr (gP σ34 347 a0)) dX8_stays_50 fl_RX8_80 hk36 rfl ?_
    refine wp_aload_n dX8_stays_53 rfl ?_
    refine wp_get (v := vr (gP σ34 328 a0)) dX8_stays_54 fl_RX8_23 hk36 rfl ?_
    obtain ⟨Mid38, hm37, hk40⟩ := h
    refine wp_callS (M' := M_X8_copies) (As := [vr (gP σ34 347 a0), vr (gP σ34 328 a0)]) (st := []) dX8_stays_57 cee_X8_copies np_X8_copies rfl ⟨Nat.le_of_ble_eq_true rfl, Nat.le_of_ble_eq_true rfl, Nat.le_of_ble_eq_true rfl, Nat.le_of_ble_eq_true rfl⟩ wd_1355 wd_1356 (q_small_of (Nat.le_of_ble_eq_true rfl)) hm37 (q_kTv0 (fun σ42 hM43 => ?_)) q_kTv00
    refine wp_less (ac2 := 0) (as2 := 0) (Nat.le_of_ble_eq_true rfl) (Nat.le_of_ble_eq_true rfl) ?_
    have h := hk40 σ42 hM43
    refine wp_aload_n dX8_stays_60 rfl ?_
    obtain ⟨hk44, h⟩ := h
    refine wp_get (v := vr (gP σ42 348 a0)) dX8_stays_61 fl_RX8_83 hk44 rfl ?_
    refine wp_aload_n dX8_stays_64 rfl ?_
    refine wp_get (v := vr (gP σ42 329 a0)) dX8_stays_65 fl_RX8_26 hk44 rfl ?_
    obtain ⟨Mid46, hm45, hk48⟩ := h
    refine wp_callS (M' := M_X8_copies) (As := [vr (gP σ42 348 a0), vr (gP σ42 329 a0)]) (st := []) dX8_stays_68 cee_X8_copies np_X8_copies rfl ⟨Nat.le_of_ble_eq_true rfl, Nat.le_of_ble_eq_true rfl, Nat.le_of_ble_eq_true rfl, Nat.le_of_ble_eq_true rfl⟩ wd_1355 wd_1356 (q_small_of (Nat.le_of_ble_eq_true rfl)) hm45 (q_kTv0 (fun σ50 hM51 => ?_)) q_kTv00
    refine wp_less (ac2 := 0) (as2 := 0) (Nat.le_of_ble_eq_true rfl) (Nat.le_of_ble_eq_true rfl) ?_
    have h := hk48 σ50 hM51
    refine wp_aload_n dX8_stays_71 rfl ?_
    obtain ⟨hk52, h⟩ := h
    refine wp_get (v := vr (gP σ50 349 a0)) dX8_stays_72 fl_RX8_86 hk52 rfl ?_
    refine wp_aload_n dX8_stays_75 rfl ?_
    refine wp_get (v := vr (gP σ50 333 a0)) dX8_stays_76 fl_RX8_38 hk52 rfl ?_
    obtain ⟨Mid54, hm53, hk56⟩ := h
    refine wp_callS (M' := M_X8_copies) (As := [vr (gP σ50 349 a0), vr (gP σ50 333 a0)]) (st := []) dX8_stays_79 cee_X8_copies np_X8_copies rfl ⟨Nat.le_of_ble_eq_true rfl, Nat.le_of_ble_eq_true rfl, Nat.le_of_ble_eq_true rfl, Nat.le_of_ble_eq_true rfl⟩ wd_1355 wd_1356 (q_small_of (Nat.le_of_ble_eq_true rfl)) hm53 (q_kTv0 (fun σ58 hM59 => ?_)) q_kTv00
    refine wp_less (ac2 := 0) (as2 := 0) (Nat.le_of_ble_eq_true rfl) (Nat.le_of_ble_eq_true rfl) ?_
    have h := hk56 σ58 hM59
    refine wp_aload_n dX8_stays_82 rfl ?_
    obtain ⟨hk60, h⟩ := h
    refine wp_get (v := vr (gP σ58 350 a0)) dX8_stays_83 fl_RX8_89 hk60 rfl ?_
    refine wp_aload_n dX8_stays_86 rfl ?_
    refine wp_get (v := vr (gP σ58 335 a0)) dX8_stays_87 fl_RX8_44 hk60 rfl ?_
    obtain ⟨Mid62, hm61, hk64⟩ := h
    refine wp_callS (M' := M_X8_copies) (As := [vr (gP σ58 350 a0), vr (gP σ58 335 a0)]) (st := []) dX8_stays_90 cee_X8_copies np_X8_copies rfl ⟨Nat.le_of_ble_eq_true rfl, Nat.le_of_ble_eq_true rfl, Nat.le_of_ble_eq_true rfl, Nat.le_of_ble_eq_true rfl⟩ wd_1355 wd_1356 (q_small_of (Nat.le_of_ble_eq_true rfl)) hm61 (q_kTv0 (fun σ66 hM67 => ?_)) q_kTv00
    refine wp_less (ac2 := 0) (as2 := 0) (Nat.le_of_ble_eq_true rfl) (Nat.le_of_ble_eq_true rfl) ?_
    have h := hk64 σ66 hM67
    refine wp_aload_n dX8_stays_93 rfl ?_
    obtain ⟨hk68, h⟩ := h
    refine wp_get (v := vr (gP σ66 351 a0)) dX8_stays_94 fl_RX8_92 hk68 rfl ?_
    refine wp_aload_n dX8_stays_97 rfl ?_
    refine wp_get (v := vr (gP σ66 336 a0)) dX8_stays_98 fl_RX8_47 hk68 rfl ?_
    obtain ⟨Mid70, hm69, hk72⟩ := h
    refine wp_callS (M' := M_X8_copies) (As := [vr (gP σ66 351 a0), vr (gP σ66 336 a0)]) (st := []) dX8_stays_101 cee_X8_copies np_X8_copies rfl ⟨Nat.le_of_ble_eq_true rfl, Nat.le_of_ble_eq_true rfl, Nat.le_of_ble_eq_true rfl, Nat.le_of_ble_eq_true rfl⟩ wd_1355 wd_1356 (q_small_of (Nat.le_of_ble_eq_true rfl)) hm69 (q_kTv0 (fun σ74 hM75 => ?_)) q_kTv00
    refine wp_less (ac2 := 0) (as2 := 0) (Nat.le_of_ble_eq_true rfl) (Nat.le_of_ble_eq_true rfl) ?_
    have h := hk72 σ74 hM75
    refine wp_aload_n dX8_stays_104 rfl ?_
    obtain ⟨hk76, h⟩ := h
    refine wp_get (v := vr (gP σ74 352 a0)) dX8_stays_105 fl_RX8_95 hk76 rfl ?_
    refine wp_aload_n dX8_stays_108 rfl ?_
    refine wp_get (v := vr (gP σ74 337 a0)) dX8_stays_109 fl_RX8_50 hk76 rfl ?_
    obtain ⟨Mid78, hm77, hk80⟩ := h
    refine wp_callS (M' := M_X8_copies) (As := [vr (gP σ74 352 a0), vr (gP σ74 337 a0)]) (st := []) dX8_stays_112 cee_X8_copies np_X8_copies rfl ⟨Nat.le_of_ble_eq_true rfl, Nat.le_of_ble_eq_true rfl, Nat.le_of_ble_eq_true rfl, Nat.le_of_ble_eq_true rfl⟩ wd_1355 wd_1356 (q_small_of (Nat.le_of_ble_eq_true rfl)) hm77 (q_kTv0 (fun σ82 hM83 => ?_)) q_kTv00
    refine wp_less (ac2 := 0) (as2 := 0) (Nat.le_of_ble_eq_true rfl) (Nat.le_of_ble_eq_true rfl) ?_
    have h := hk80 σ82 hM83
    refine wp_aload_n dX8_stays_115 rfl ?_
    obtain ⟨hk85, h⟩ := h
    obtain ⟨Mid86, hm84, hk88⟩ := h
    refine wp_callV (M' := M_X8_laysAll) (As := []) (st := []) (ci := 8) dX8_stays_116 cee_X8_laysAll np_X8_laysAll rfl ⟨Nat.le_of_ble_eq_true rfl, Nat.le_of_ble_eq_true rfl, Nat.le_of_ble_eq_true rfl, Nat.le_of_ble_eq_true rfl⟩ wd_1365 wd_1367 sel_X8_laysAll rfl (Or.inl hk85) (q_small_of (Nat.le_of_ble_eq_true rfl)) hm84 (q_kTi0 (fun σ90 v92 hM91 => ?_)) q_kTi00
    refine wp_less (ac2 := 0) (as2 := 0) (Nat.le_of_ble_eq_true rfl) (Nat.le_of_ble_eq_true rfl) ?_
    have h := hk88 σ90 v92 hM91
    refine wp_pop dX8_stays_119 trivial ?_
    refine wp_iconst dX8_stays_120 ?_
    exact wp_ret_z dX8_stays_121 rfl (Or.inl rfl) h
  · replace h := h.2 c11
    refine wp_aload_n dX8_stays_7 rfl ?_
    obtain ⟨hk94, h⟩ := h
    obtain ⟨v95, hm93, h⟩ := h
    refine wp_callV (M' := M_X8_areAnswered) (As := []) (st := []) (ci := 8) dX8_stays_8 cee_X8_areAnswered np_X8_areAnswered rfl ⟨Nat.le_of_ble_eq_true rfl, Nat.le_of_ble_eq_true rfl, Nat.le_of_ble_eq_true rfl, Nat.le_of_ble_eq_true rfl⟩ wd_1397 wd_1399 sel_X8_areAnswered rfl (Or.inl hk94) (q_small_of (Nat.le_of_ble_eq_true rfl)) hm93 (q_kPi ?_) q_kPi0
    refine wp_less (ac2 := 0) (as2 := 0) (Nat.le_of_ble_eq_true rfl) (Nat.le_of_ble_eq_true rfl) ?_
    obtain ⟨hr96, h⟩ := h
    refine wp_if_eq (tgt := 16) dX8_stays_11 (by decide) hr96 (fun c97 => ?_) (fun c97 => ?_)
    · replace h := h.1 c97
      refine wp_aload_n dX8_stays_16 rfl ?_
      refine wp_get (v := vr (gP σ7 344 a0)) dX8_stays_17 fl_RX8_71 hk94 rfl ?_
      refine wp_aload_n dX8_stays_20 rfl ?_
      refine wp_get (v := vr (gP σ7 324 a0)) dX8_stays_21 fl_RX8_7 hk94 rfl ?_
      obtain ⟨Mid99, hm98, hk101⟩ := h
      refine wp_callS (M' := M_X8_copies) (As := [vr (gP σ7 344 a0), vr (gP σ7 324 a0)]) (st := []) dX8_stays_24 cee_X8_copies np_X8_copies rfl ⟨Nat.le_of_ble_eq_true rfl, Nat.le_of_ble_eq_true rfl, Nat.le_of_ble_eq_true rfl, Nat.le_of_ble_eq_true rfl⟩ wd_1355 wd_1356 (q_small_of (Nat.le_of_ble_eq_true rfl)) hm98 (q_kTv0 (fun σ103 hM104 => ?_)) q_kTv00
      refine wp_less (ac2 := 0) (as2 := 0) (Nat.le_of_ble_eq_true rfl) (Nat.le_of_ble_eq_true rfl) ?_
      have h := hk101 σ103 hM104
      refine wp_aload_n dX8_stays_27 rfl ?_
      obtain ⟨hk105, h⟩ := h
      refine wp_get (v := vr (gP σ103 345 a0)) dX8_stays_28 fl_RX8_74 hk105 rfl ?_
      refine wp_aload_n dX8_stays_31 rfl ?_
      refine wp_get (v := vr (gP σ103 325 a0)) dX8_stays_32 fl_RX8_13 hk105 rfl ?_
      obtain ⟨Mid107, hm106, hk109⟩ := h
      refine wp_callS (M' := M_X8_copies) (As := [vr (gP σ103 345 a0), vr (gP σ103 325 a0)]) (st := []) dX8_stays_35 cee_X8_copies np_X8_copies rfl ⟨Nat.le_of_ble_eq_true rfl, Nat.le_of_ble_eq_true rfl, Nat.le_of_ble_eq_true rfl, Nat.le_of_ble_eq_true rfl⟩ wd_1355 wd_1356 (q_small_of (Nat.le_of_ble_eq_true rfl)) hm106 (q_kTv0 (fun σ111 hM112 => ?_)) q_kTv00
      refine wp_less (ac2 := 0) (as2 := 0) (Nat.le_of_ble_eq_true rfl) (Nat.le_of_ble_eq_true rfl) ?_
      have h := hk109 σ111 hM112
      refine wp_aload_n dX8_stays_38 rfl ?_
      obtain ⟨hk113, h⟩ := h
      refine wp_get (v := vr (gP σ111 346 a0)) dX8_stays_39 fl_RX8_77 hk113 rfl ?_
      refine wp_aload_n dX8_stays_42 rfl ?_
      refine wp_get (v := vr (gP σ111 326 a0)) dX8_stays_43 fl_RX8_16 hk113 rfl ?_
      obtain ⟨Mid115, hm114, hk117⟩ := h
      refine wp_callS (M' := M_X8_copies) (As := [vr (gP σ111 346 a0), vr (gP σ111 326 a0)]) (st := []) dX8_stays_46 cee_X8_copies np_X8_copies rfl ⟨Nat.le_of_ble_eq_true rfl, Nat.le_of_ble_eq_true rfl, Nat.le_of_ble_eq_true rfl, Nat.le_of_ble_eq_true rfl⟩ wd_1355 wd_1356 (q_small_of (Nat.le_of_ble_eq_true rfl)) hm114 (q_kTv0 (fun σ119 hM120 => ?_)) q_kTv00
      refine wp_less (ac2 := 0) (as2 := 0) (Nat.le_of_ble_eq_true rfl) (Nat.le_of_ble_eq_true rfl) ?_
      have h := hk117 σ119 hM120
      refine wp_aload_n dX8_stays_49 rfl ?_
      obtain ⟨hk121, h⟩ := h
      refine wp_get (v := vr (gP σ119 347 a0)) dX8_stays_50 fl_RX8_80 hk121 rfl ?_
      refine wp_aload_n dX8_stays_53 rfl ?_
      refine wp_get (v := vr (gP σ119 328 a0)) dX8_stays_54 fl_RX8_23 hk121 rfl ?_
      obtain ⟨Mid123, hm122, hk125⟩ := h
      refine wp_callS (M' := M_X8_copies) (As := [vr (gP σ119 347 a0), vr (gP σ119 328 a0)]) (st := []) dX8_stays_57 cee_X8_copies np_X8_copies rfl ⟨Nat.le_of_ble_eq_true rfl, Nat.le_of_ble_eq_true rfl, Nat.le_of_ble_eq_true rfl, Nat.le_of_ble_eq_true rfl⟩ wd_1355 wd_1356 (q_small_of (Nat.le_of_ble_eq_true rfl)) hm122 (q_kTv0 (fun σ127 hM128 => ?_)) q_kTv00
      refine wp_less (ac2 := 0) (as2 := 0) (Nat.le_of_ble_eq_true rfl) (Nat.le_of_ble_eq_true rfl) ?_
      have h := hk125 σ127 hM128
      refine wp_aload_n dX8_stays_60 rfl ?_
      obtain ⟨hk129, h⟩ := h
      refine wp_get (v := vr (gP σ127 348 a0)) dX8_stays_61 fl_RX8_83 hk129 rfl ?_
      refine wp_aload_n dX8_stays_64 rfl ?_
      refine wp_get (v := vr (gP σ127 329 a0)) dX8_stays_65 fl_RX8_26 hk129 rfl ?_
      obtain ⟨Mid131, hm130, hk133⟩ := h
      refine wp_callS (M' := M_X8_copies) (As := [vr (gP σ127 348 a0), vr (gP σ127 329 a0)]) (st := []) dX8_stays_68 cee_X8_copies np_X8_copies rfl ⟨Nat.le_of_ble_eq_true rfl, Nat.le_of_ble_eq_true rfl, Nat.le_of_ble_eq_true rfl, Nat.le_of_ble_eq_true rfl⟩ wd_1355 wd_1356 (q_small_of (Nat.le_of_ble_eq_true rfl)) hm130 (q_kTv0 (fun σ135 hM136 => ?_)) q_kTv00
      refine wp_less (ac2 := 0) (as2 := 0) (Nat.le_of_ble_eq_true rfl) (Nat.le_of_ble_eq_true rfl) ?_
      have h := hk133 σ135 hM136
      refine wp_aload_n dX8_stays_71 rfl ?_
      obtain ⟨hk137, h⟩ := h
      refine wp_get (v := vr (gP σ135 349 a0)) dX8_stays_72 fl_RX8_86 hk137 rfl ?_
      refine wp_aload_n dX8_stays_75 rfl ?_
      refine wp_get (v := vr (gP σ135 333 a0)) dX8_stays_76 fl_RX8_38 hk137 rfl ?_
      obtain ⟨Mid139, hm138, hk141⟩ := h
      refine wp_callS (M' := M_X8_copies) (As := [vr (gP σ135 349 a0), vr (gP σ135 333 a0)]) (st := []) dX8_stays_79 cee_X8_copies np_X8_copies rfl ⟨Nat.le_of_ble_eq_true rfl, Nat.le_of_ble_eq_true rfl, Nat.le_of_ble_eq_true rfl, Nat.le_of_ble_eq_true rfl⟩ wd_1355 wd_1356 (q_small_of (Nat.le_of_ble_eq_true rfl)) hm138 (q_kTv0 (fun σ143 hM144 => ?_)) q_kTv00
      refine wp_less (ac2 := 0) (as2 := 0) (Nat.le_of_ble_eq_true rfl) (Nat.le_of_ble_eq_true rfl) ?_
      have h := hk141 σ143 hM144
      refine wp_aload_n dX8_stays_82 rfl ?_
      obtain ⟨hk145, h⟩ := h
      refine wp_get (v := vr (gP σ143 350 a0)) dX8_stays_83 fl_RX8_89 hk145 rfl ?_
      refine wp_aload_n dX8_stays_86 rfl ?_
      refine wp_get (v := vr (gP σ143 335 a0)) dX8_stays_87 fl_RX8_44 hk145 rfl ?_
      obtain ⟨Mid147, hm146, hk149⟩ := h
      refine wp_callS (M' := M_X8_copies) (As := [vr (gP σ143 350 a0), vr (gP σ143 335 a0)]) (st := []) dX8_stays_90 cee_X8_copies np_X8_copies rfl ⟨Nat.le_of_ble_eq_true rfl, Nat.le_of_ble_eq_true rfl, Nat.le_of_ble_eq_true rfl, Nat.le_of_ble_eq_true rfl⟩ wd_1355 wd_1356 (q_small_of (Nat.le_of_ble_eq_true rfl)) hm146 (q_kTv0 (fun σ151 hM152 => ?_)) q_kTv00
      refine wp_less (ac2 := 0) (as2 := 0) (Nat.le_of_ble_eq_true rfl) (Nat.le_of_ble_eq_true rfl) ?_
      have h := hk149 σ151 hM152
      refine wp_aload_n dX8_stays_93 rfl ?_
      obtain ⟨hk153, h⟩ := h
      refine wp_get (v := vr (gP σ151 351 a0)) dX8_stays_94 fl_RX8_92 hk153 rfl ?_
      refine wp_aload_n dX8_stays_97 rfl ?_
      refine wp_get (v := vr (gP σ151 336 a0)) dX8_stays_98 fl_RX8_47 hk153 rfl ?_
      obtain ⟨Mid155, hm154, hk157⟩ := h
      refine wp_callS (M' := M_X8_copies) (As := [vr (gP σ151 351 a0), vr (gP σ151 336 a0)]) (st := []) dX8_stays_101 cee_X8_copies np_X8_copies rfl ⟨Nat.le_of_ble_eq_true rfl, Nat.le_of_ble_eq_true rfl, Nat.le_of_ble_eq_true rfl, Nat.le_of_ble_eq_true rfl⟩ wd_1355 wd_1356 (q_small_of (Nat.le_of_ble_eq_true rfl)) hm154 (q_kTv0 (fun σ159 hM160 => ?_)) q_kTv00
      refine wp_less (ac2 := 0) (as2 := 0) (Nat.le_of_ble_eq_true rfl) (Nat.le_of_ble_eq_true rfl) ?_
      have h := hk157 σ159 hM160
      refine wp_aload_n dX8_stays_104 rfl ?_
      obtain ⟨hk161, h⟩ := h
      refine wp_get (v := vr (gP σ159 352 a0)) dX8_stays_105 fl_RX8_95 hk161 rfl ?_
      refine wp_aload_n dX8_stays_108 rfl ?_
      refine wp_get (v := vr (gP σ159 337 a0)) dX8_stays_109 fl_RX8_50 hk161 rfl ?_
      obtain ⟨Mid163, hm162, hk165⟩ := h
      refine wp_callS (M' := M_X8_copies) (As := [vr (gP σ159 352 a0), vr (gP σ159 337 a0)]) (st := []) dX8_stays_112 cee_X8_copies np_X8_copies rfl ⟨Nat.le_of_ble_eq_true rfl, Nat.le_of_ble_eq_true rfl, Nat.le_of_ble_eq_true rfl, Nat.le_of_ble_eq_true rfl⟩ wd_1355 wd_1356 (q_small_of (Nat.le_of_ble_eq_true rfl)) hm162 (q_kTv0 (fun σ167 hM168 => ?_)) q_kTv00
      refine wp_less (ac2 := 0) (as2 := 0) (Nat.le_of_ble_eq_true rfl) (Nat.le_of_ble_eq_true rfl) ?_
      have h := hk165 σ167 hM168
      refine wp_aload_n dX8_stays_115 rfl ?_
      obtain ⟨hk170, h⟩ := h
      obtain ⟨Mid171, hm169, hk173⟩ := h
      refine wp_callV (M' := M_X8_laysAll) (As := []) (st := []) (ci := 8) dX8_stays_116 cee_X8_laysAll np_X8_laysAll rfl ⟨Nat.le_of_ble_eq_true rfl, Nat.le_of_ble_eq_true rfl, Nat.le_of_ble_eq_true rfl, Nat.le_of_ble_eq_true rfl⟩ wd_1365 wd_1367 sel_X8_laysAll rfl (Or.inl hk170) (q_small_of (Nat.le_of_ble_eq_true rfl)) hm169 (q_kTi0 (fun σ175 v177 hM176 => ?_)) q_kTi00
      refine wp_less (ac2 := 0) (as2 := 0) (Nat.le_of_ble_eq_true rfl) (Nat.le_of_ble_eq_true rfl) ?_
      have h := hk173 σ175 v177 hM176
      refine wp_pop dX8_stays_119 trivial ?_
      refine wp_iconst dX8_stays_120 ?_
      exact wp_ret_z dX8_stays_121 rfl (Or.inl rfl) h
    · replace h := h.2 c97
      refine wp_iconst dX8_stays_14 ?_
      exact wp_ret_z dX8_stays_15 rfl (Or.inr rfl) h

set_option maxRecDepth 100000 in
set_option maxHeartbeats 4000000 in
theorem wm_X8_changed {g : qG} {l : Launch} (hl : l.stackTraces = false) {a0 : Nat} {a1 : Int} {σ : qS} {Post : qS → qRs → Prop}
    (h : ∃ Inv3 : Nat → Int → Int → Prop, (∃ n : Nat, Inv3 n 0 0) ∧ ∀ (n4 : Nat) (x1 : Int) (x2 : Int), Inv3 n4 x1 x2 → (gK σ a0 = 9 ∧ qR x2 ∧ qR (gI σ 322 a0) ∧ (((gI σ 322 a0) ≤ x2 → Post σ (.inl (some (vi x1)))) ∧ (¬ ((gI σ 322 a0) ≤ x2) → q_isA σ 0 (gP σ 329 a0) ∧ q_in σ (gP σ 329 a0) x2 ∧ ((qR (gA σ (gP σ 329 a0) x2) ∧ (¬ ((gA σ (gP σ 329 a0) x2) = ((-1))) → qR a1)) ∧ ∀ v20 : Int, v20 = (if (gA σ (gP σ 329 a0) x2) = ((-1)) then 0 else (if a1 = ((-1)) then 1 else (if ¬ (gA σ (gP σ 329 a0) x2) = a1 then 0 else 1))) → ∃ Inv28 : Nat → Int → Int → Prop, (∃ n : Nat, Inv28 n 1 1) ∧ ∀ (n29 : Nat) (x26 : Int) (x27 : Int), Inv28 n29 x26 x27 → (qR x27 ∧ ((5 ≤ x27 → (((¬ (v20 = 0) → qR x26)) ∧ ∀ v39 : Int, v39 = (if v20 = 0 then 0 else (if ¬ x26 = 0 then 0 else 1)) → ∀ x45 : Int, x45 = x1 + v39 → ∀ x47 : Int, x47 = x2 + 1 → ∃ n49 : Nat, n49 < n4 ∧ Inv3 n49 x45 x47)) ∧ (¬ (5 ≤ x27) → ((qR x26 ∧ (¬ (x26 = 0) → q_isA σ 0 (gP σ 340 a0) ∧ q_in σ (gP σ 340 a0) ((5 * x2) + x27) ∧ q_isA σ 0 (gP σ 353 a0) ∧ q_in σ (gP σ 353 a0) ((5 * x2) + x27) ∧ qR (gA σ (gP σ 340 a0) ((5 * x2) + x27)) ∧ qR (gA σ (gP σ 353 a0) ((5 * x2) + x27)))) ∧ ∀ v62 : Int, v62 = (if x26 = 0 then 0 else (if ¬ (gA σ (gP σ 340 a0) ((5 * x2) + x27)) = (gA σ (gP σ 353 a0) ((5 * x2) + x27)) then 0 else 1)) → ∀ x68 : Int, x68 = x27 + 1 → ∃ n70 : Nat, n70 < n29 ∧ Inv28 n70 v62 x68))))))))) : qMet g l M_X8_changed [vr a0, vi a1] σ Post := by
  refine qMet_of hl (by decide +kernel) (Nat.le_of_ble_eq_true rfl) (List.forall_mem_cons.mpr ⟨trivial, List.forall_mem_cons.mpr ⟨trivial, fun _ h => nomatch h⟩⟩) ?_
  show qW g l M_X8_changed 0 0 0 [some (vr a0), some (vi a1), none, none, none, none, none] [] σ Post
  refine wp_iconst dX8_changed_0 ?_
  refine wp_istore_n' (ls' := [some (vr a0), some (vi a1), some (vi 0), none, none, none, none]) dX8_changed_1 (Nat.le_of_ble_eq_true rfl) rfl ?_
  refine wp_iconst dX8_changed_2 ?_
  refine wp_istore_n' (ls' := [some (vr a0), some (vi a1), some (vi 0), some (vi 0), none, none, none]) dX8_changed_3 (Nat.le_of_ble_eq_true rfl) rfl ?_
  obtain ⟨Inv3, ⟨n4_0, h08⟩, hb7⟩ := h
  have loop86 : ∀ (n4 : Nat) (x1 : Int) (x2 : Int), Inv3 n4 x1 x2 → qW g l M_X8_changed 0 0 4 [some (vr a0), some (vi a1), some (vi x1), some (vi x2), none, none, none] [] σ Post := by
    intro n4
    induction n4 using Nat.strongRecOn with
    | ind n4 ih5 =>
      intro x1 x2 hI6
      have h := hb7 n4 x1 x2 hI6
      refine wp_iload_n dX8_changed_4 rfl ?_
      refine wp_aload_n dX8_changed_5 rfl ?_
      obtain ⟨hk9, h⟩ := h
      refine wp_get (v := vi (gI σ 322 a0)) dX8_changed_6 fl_RX8_118 hk9 rfl ?_
      obtain ⟨hr10, hr11, h⟩ := h
      refine wp_icmp_ge (tgt := 123) dX8_changed_9 (by decide) hr10 hr11 (fun c12 => ?_) (fun c12 => ?_)
      · replace h := h.1 c12
        refine wp_iload_n dX8_changed_123 rfl ?_
        exact wp_ret_i dX8_changed_124 rfl rfl h
      · replace h := h.2 c12
        refine wp_aload_n dX8_changed_12 rfl ?_
        refine wp_get (v := vr (gP σ 329 a0)) dX8_changed_13 fl_RX8_26 hk9 rfl ?_
        refine wp_iload_n dX8_changed_16 rfl ?_
        obtain ⟨ha13, hi14, h⟩ := h
        refine wp_iaload dX8_changed_17 ha13 hi14 ?_
        refine wp_iconst dX8_changed_18 ?_
        obtain ⟨h, hk23⟩ := h
        have key22 : ∀ v20 : Int, v20 = (if (gA σ (gP σ 329 a0) x2) = ((-1)) then 0 else (if a1 = ((-1)) then 1 else (if ¬ (gA σ (gP σ 329 a0) x2) = a1 then 0 else 1))) → qW g l M_X8_changed 0 0 42 [some (vr a0), some (vi a1), some (vi x1), some (vi x2), none, none, none] [vi v20] σ Post := by
          intro v20 hv21
          have h := hk23 v20 hv21
          have hr24 : qR v20 := by (rw [hv21]; unfold qR; repeat' split) <;> omega
          have hz25 : v20 = 0 ∨ v20 = 1 := by (rw [hv21]; repeat' split) <;> first | exact Or.inl rfl | exact Or.inr rfl
          refine wp_istore' (ls' := [some (vr a0), some (vi a1), some (vi x1), some (vi x2), some (vi v20), none, none]) dX8_changed_42 (Nat.le_of_ble_eq_true rfl) rfl ?_
          refine wp_iconst dX8_changed_44 ?_
          refine wp_istore' (ls' := [some (vr a0), some (vi a1), some (vi x1), some (vi x2), some (vi v20), some (vi 1), none]) dX8_changed_45 (Nat.le_of_ble_eq_true rfl) rfl ?_
          refine wp_iconst dX8_changed_47 ?_
          refine wp_istore' (ls' := [some (vr a0), some (vi a1), some (vi x1), some (vi x2), some (vi v20), some (vi 1), some (vi 1)]) dX8_changed_48 (Nat.le_of_ble_eq_true rfl) rfl ?_
          obtain ⟨Inv28, ⟨n29_0, h033⟩, hb32⟩ := h
          have loop80 : ∀ (n29 : Nat) (x26 : Int) (x27 : Int), Inv28 n29 x26 x27 → qW g l M_X8_changed 0 0 50 [some (vr a0), some (vi a1), some (vi x1), some (vi x2), some (vi v20), some (vi x26), some (vi x27)] [] σ Post := by
            intro n29
            induction n29 using Nat.strongRecOn with
            | ind n29 ih30 =>
              intro x26 x27 hI31
              have h := hb32 n29 x26 x27 hI31
              refine wp_iload dX8_changed_50 rfl ?_
              refine wp_iconst dX8_changed_52 ?_
              obtain ⟨hr34, h⟩ := h
              refine wp_icmp_ge (tgt := 99) dX8_changed_53 (by decide) hr34 (by unfold qR; omega) (fun c35 => ?_) (fun c35 => ?_)
              · replace h := h.1 c35
                refine wp_iload_n dX8_changed_99 rfl ?_
                refine wp_iload dX8_changed_100 rfl ?_
                obtain ⟨h, hk42⟩ := h
                have key41 : ∀ v39 : Int, v39 = (if v20 = 0 then 0 else (if ¬ x26 = 0 then 0 else 1)) → qW g l M_X8_changed 0 0 115 [some (vr a0), some (vi a1), some (vi x1), some (vi x2), some (vi v20), some (vi x26), some (vi x27)] [vi v39, vi x1] σ Post := by
                  intro v39 hv40
                  have h := hk42 v39 hv40
                  have hr43 : qR v39 := by (rw [hv40]; unfold qR; repeat' split) <;> omega
                  have hz44 : v39 = 0 ∨ v39 = 1 := by (rw [hv40]; repeat' split) <;> first | exact Or.inl rfl | exact Or.inr rfl
                  refine wp_iadd dX8_changed_115 ?_
                  refine wp_nmI (fun x45 hx46 => ?_)
                  replace h := h x45 hx46
                  refine wp_istore_n' (ls' := [some (vr a0), some (vi a1), some (vi x45), some (vi x2), some (vi v20), some (vi x26), some (vi x27)]) dX8_changed_116 (Nat.le_of_ble_eq_true rfl) rfl ?_
                  refine wp_nmT (x2 + 1) (fun x47 hx48 => ?_)
                  replace h := h x47 hx48
                  refine wp_iinc' (z' := x47) (ls' := [some (vr a0), some (vi a1), some (vi x45), some (vi x47), some (vi v20), some (vi x26), some (vi x27)]) dX8_changed_117 (Nat.le_of_ble_eq_true rfl) rfl hx48 rfl ?_
                  refine wp_goto (tgt := 4) dX8_changed_120 (by decide) ?_
                  obtain ⟨n49, hlt, h⟩ := h
                  exact wp_lsub (ls' := [some (vr a0), some (vi a1), some (vi x45), some (vi x47), none, none, none]) ⟨rfl, ⟨rfl, ⟨rfl, ⟨rfl, trivial⟩⟩⟩⟩ (ih5 n49 hlt _ _ h)
                refine wp_if_eq (tgt := 114) dX8_changed_102 (by decide) hr24 (fun c50 => ?_) (fun c50 => ?_)
                · refine wp_iconst dX8_changed_114 ?_
                  exact key41 _ (by rw [if_pos c50])
                · replace h := h c50
                  refine wp_iload dX8_changed_105 rfl ?_
                  have hr51 := h
                  refine wp_if_ne (tgt := 114) dX8_changed_107 (by decide) hr51 (fun c52 => ?_) (fun c52 => ?_)
                  · refine wp_iconst dX8_changed_114 ?_
                    exact key41 _ (by rw [if_neg c50, if_pos c52])
                  · refine wp_iconst dX8_changed_110 ?_
                    refine wp_goto (tgt := 115) dX8_changed_111 (by decide) ?_
                    exact key41 _ (by rw [if_neg c50, if_neg (fun z => z c52)])
              · replace h := h.2 c35
                refine wp_iload dX8_changed_56 rfl ?_
                obtain ⟨h, hk65⟩ := h
                have key64 : ∀ v62 : Int, v62 = (if x26 = 0 then 0 else (if ¬ (gA σ (gP σ 340 a0) ((5 * x2) + x27)) = (gA σ (gP σ 353 a0) ((5 * x2) + x27)) then 0 else 1)) → qW g l M_X8_changed 0 0 91 [some (vr a0), some (vi a1), some (vi x1), some (vi x2), some (vi v20), some (vi x26), some (vi x27)] [vi v62] σ Post := by
                  intro v62 hv63
                  have h := hk65 v62 hv63
                  have hr66 : qR v62 := by (rw [hv63]; unfold qR; repeat' split) <;> omega
                  have hz67 : v62 = 0 ∨ v62 = 1 := by (rw [hv63]; repeat' split) <;> first | exact Or.inl rfl | exact Or.inr rfl
                  refine wp_istore' (ls' := [some (vr a0), some (vi a1), some (vi x1), some (vi x2), some (vi v20), some (vi v62), some (vi x27)]) dX8_changed_91 (Nat.le_of_ble_eq_true rfl) rfl ?_
                  refine wp_nmT (x27 + 1) (fun x68 hx69 => ?_)
                  replace h := h x68 hx69
                  refine wp_iinc' (z' := x68) (ls' := [some (vr a0), some (vi a1), some (vi x1), some (vi x2), some (vi v20), some (vi v62), some (vi x68)]) dX8_changed_93 (Nat.le_of_ble_eq_true rfl) rfl hx69 rfl ?_
                  refine wp_goto (tgt := 50) dX8_changed_96 (by decide) ?_
                  obtain ⟨n70, hlt, h⟩ := h
                  exact wp_lsub (ls' := [some (vr a0), some (vi a1), some (vi x1), some (vi x2), some (vi v20), some (vi v62), some (vi x68)]) ⟨rfl, ⟨rfl, ⟨rfl, ⟨rfl, ⟨rfl, ⟨rfl, ⟨rfl, trivial⟩⟩⟩⟩⟩⟩⟩ (ih30 n70 hlt _ _ h)
                obtain ⟨hr71, h⟩ := h
                refine wp_if_eq (tgt := 90) dX8_changed_58 (by decide) hr71 (fun c72 => ?_) (fun c72 => ?_)
                · refine wp_iconst dX8_changed_90 ?_
                  exact key64 _ (by rw [if_pos c72])
                · replace h := h c72
                  refine wp_aload_n dX8_changed_61 rfl ?_
                  refine wp_get (v := vr (gP σ 340 a0)) dX8_changed_62 fl_RX8_59 hk9 rfl ?_
                  refine wp_iconst dX8_changed_65 ?_
                  refine wp_iload_n dX8_changed_66 rfl ?_
                  refine wp_imul dX8_changed_67 ?_
                  refine wp_iload dX8_changed_68 rfl ?_
                  refine wp_iadd dX8_changed_70 ?_
                  obtain ⟨ha73, hi74, h⟩ := h
                  refine wp_iaload dX8_changed_71 ha73 hi74 ?_
                  refine wp_aload_n dX8_changed_72 rfl ?_
                  refine wp_get (v := vr (gP σ 353 a0)) dX8_changed_73 fl_RX8_98 hk9 rfl ?_
                  refine wp_iconst dX8_changed_76 ?_
                  refine wp_iload_n dX8_changed_77 rfl ?_
                  refine wp_imul dX8_changed_78 ?_
                  refine wp_iload dX8_changed_79 rfl ?_
                  refine wp_iadd dX8_changed_81 ?_
                  obtain ⟨ha75, hi76, h⟩ := h
                  refine wp_iaload dX8_changed_82 ha75 hi76 ?_
                  obtain ⟨hr77, hr78⟩ := h
                  refine wp_icmp_ne (tgt := 90) dX8_changed_83 (by decide) hr77 hr78 (fun c79 => ?_) (fun c79 => ?_)
                  · refine wp_iconst dX8_changed_90 ?_
                    exact key64 _ (by rw [if_neg c72, if_pos c79])
                  · refine wp_iconst dX8_changed_86 ?_
                    refine wp_goto (tgt := 91) dX8_changed_87 (by decide) ?_
                    exact key64 _ (by rw [if_neg c72, if_neg (fun z => z c79)])
          exact wp_lsub (ls' := [some (vr a0), some (vi a1), some (vi x1), some (vi x2), some (vi v20), some (vi 1), some (vi 1)]) ⟨rfl, ⟨rfl, ⟨rfl, ⟨rfl, ⟨rfl, ⟨rfl, ⟨rfl, trivial⟩⟩⟩⟩⟩⟩⟩ (loop80 _ _ _ h033)
        obtain ⟨hr81, h⟩ := h
        refine wp_icmp_eq (tgt := 41) dX8_changed_19 (by decide) hr81 (by unfold qR; omega) (fun c82 => ?_) (fun c82 => ?_)
        · refine wp_iconst dX8_changed_41 ?_
          exact key22 _ (by rw [if_pos c82])
        · replace h := h c82
          refine wp_iload_n dX8_changed_22 rfl ?_
          refine wp_iconst dX8_changed_23 ?_
          have hr83 := h
          refine wp_icmp_eq (tgt := 37) dX8_changed_24 (by decide) hr83 (by unfold qR; omega) (fun c84 => ?_) (fun c84 => ?_)
          · refine wp_iconst dX8_changed_37 ?_
            refine wp_goto (tgt := 42) dX8_changed_38 (by decide) ?_
            exact key22 _ (by rw [if_neg c82, if_pos c84])
          · refine wp_aload_n dX8_changed_27 rfl ?_
            refine wp_get (v := vr (gP σ 329 a0)) dX8_changed_28 fl_RX8_26 hk9 rfl ?_
            refine wp_iload_n dX8_changed_31 rfl ?_
            refine wp_iaload dX8_changed_32 ha13 hi14 ?_
            refine wp_iload_n dX8_changed_33 rfl ?_
            refine wp_icmp_ne (tgt := 41) dX8_changed_34 (by decide) hr81 hr83 (fun c85 => ?_) (fun c85 => ?_)
            · refine wp_iconst dX8_changed_41 ?_
              exact key22 _ (by rw [if_neg c82, if_neg c84, if_pos c85])
            · refine wp_iconst dX8_changed_37 ?_
              refine wp_goto (tgt := 42) dX8_changed_38 (by decide) ?_
              exact key22 _ (by rw [if_neg c82, if_neg c84, if_neg (fun z => z c85)])
  exact wp_lsub (ls' := [some (vr a0), some (vi a1), some (vi 0), some (vi 0), none, none, none]) ⟨rfl, ⟨rfl, ⟨rfl, ⟨rfl, trivial⟩⟩⟩⟩ (loop86 _ _ _ h08)

set_option maxRecDepth 100000 in
set_option maxHeartbeats 4000000 in
theorem wm_X8_page {g : qG} {l : Launch} (hl : l.stackTraces = false) {a0 : Nat} {σ : qS} {Post : qS → qRs → Prop}
    (h : gK σ a0 = 9 ∧ ((qR (gI σ 321 a0)) ∧ ∀ v4 : Int, v4 = (if ¬ (gI σ 321 a0) = 10 then 0 else 1) → (∀ σ10 : qS, σ10 = sI σ 320 a0 v4 → ((v4 ≤ 0 → (∀ σ13 : qS, σ13 = sI σ10 321 a0 ((gI σ10 321 a0) + 1) → Post σ13 (.inl (some (vi (((gI σ10 321 a0) + 1) - 1)))))) ∧ (¬ (v4 ≤ 0) → Post σ10 (.inl (some (vi 0)))))))) : qMet g l M_X8_page [vr a0] σ Post := by
  refine qMet_of hl (by decide +kernel) (Nat.le_of_ble_eq_true rfl) (List.forall_mem_cons.mpr ⟨trivial, fun _ h => nomatch h⟩) ?_
  show qW g l M_X8_page 0 0 0 [some (vr a0)] [] σ Post
  refine wp_aload_n dX8_page_0 rfl ?_
  refine wp_aload_n dX8_page_1 rfl ?_
  obtain ⟨hk1, h⟩ := h
  refine wp_get (v := vi (gI σ 321 a0)) dX8_page_2 fl_RX8_111 hk1 rfl ?_
  refine wp_bipush dX8_page_5 (by decide) ?_
  obtain ⟨h, hk7⟩ := h
  have key6 : ∀ v4 : Int, v4 = (if ¬ (gI σ 321 a0) = 10 then 0 else 1) → qW g l M_X8_page 0 0 15 [some (vr a0)] [vi v4, vr a0] σ Post := by
    intro v4 hv5
    have h := hk7 v4 hv5
    have hr8 : qR v4 := by (rw [hv5]; unfold qR; repeat' split) <;> omega
    have hz9 : v4 = 0 ∨ v4 = 1 := by (rw [hv5]; repeat' split) <;> first | exact Or.inl rfl | exact Or.inr rfl
    refine wp_put (v := vi v4) dX8_page_15 fs_RX8_108 (fun h => absurd h (by decide)) hk1 (Or.inl rfl) ?_
    refine wp_nmS (fun σ10 hs11 => ?_)
    replace h := h σ10 hs11
    refine wp_aload_n dX8_page_18 rfl ?_
    refine wp_get (v := vi v4) dX8_page_19 fl_RX8_108 (by rw [hs11]; exact hk1) (by rw [hs11]; exact q_memI) ?_
    refine wp_if_le (tgt := 27) dX8_page_22 (by decide) hr8 (fun c12 => ?_) (fun c12 => ?_)
    · replace h := h.1 c12
      refine wp_aload_n dX8_page_27 rfl ?_
      refine wp_dup dX8_page_28 trivial ?_
      refine wp_get (v := vi (gI σ10 321 a0)) dX8_page_29 fl_RX8_111 (by rw [hs11]; exact hk1) rfl ?_
      refine wp_iconst dX8_page_32 ?_
      refine wp_iadd dX8_page_33 ?_
      refine wp_put (v := vi ((gI σ10 321 a0) + 1)) dX8_page_34 fs_RX8_111 (fun h => absurd h (by decide)) (by rw [hs11]; exact hk1) (Or.inl rfl) ?_
      refine wp_nmS (fun σ13 hs14 => ?_)
      replace h := h σ13 hs14
      refine wp_aload_n dX8_page_37 rfl ?_
      refine wp_get (v := vi ((gI σ10 321 a0) + 1)) dX8_page_38 fl_RX8_111 (by rw [hs14, hs11]; exact hk1) (by rw [hs14]; exact q_memI) ?_
      refine wp_iconst dX8_page_41 ?_
      refine wp_isub dX8_page_42 ?_
      exact wp_ret_i dX8_page_43 rfl rfl h
    · replace h := h.2 c12
      refine wp_iconst dX8_page_25 ?_
      exact wp_ret_i dX8_page_26 rfl rfl h
  have hr15 := h
  refine wp_icmp_ne (tgt := 14) dX8_page_7 (by decide) hr15 (by unfold qR; omega) (fun c16 => ?_) (fun c16 => ?_)
  · refine wp_iconst dX8_page_14 ?_
    exact key6 _ (by rw [if_pos c16])
  · refine wp_iconst dX8_page_10 ?_
    refine wp_goto (tgt := 15) dX8_page_11 (by decide) ?_
    exact key6 _ (by rw [if_neg (fun z => z c16)])

set_option maxRecDepth 100000 in
set_option maxHeartbeats 4000000 in
theorem wm_X8_panel {g : qG} {l : Launch} (hl : l.stackTraces = false) {a0 : Nat} {a1 : Int} {a2 : Int} {a3 : Int} {a4 : Int} {a5 : Int} {σ : qS} {Post : qS → qRs → Prop}
    (h : gK σ a0 = 9 ∧ (∃ v3 : Int, qMet g l M_X8_isPage [vr a0, vi a1] σ (qPi σ v3) ∧ (qR v3 ∧ ((v3 = 0 → (∃ Mid7 : qS → Int → Prop, qMet g l M_X8_fails [vr a0, vi 1] σ (qTi0 Mid7) ∧ ∀ (σ11 : qS) (v13 : Int), Mid7 σ11 v13 → Post σ11 (.inl (some (vi v13))))) ∧ (¬ (v3 = 0) → q_isA σ 0 (gP σ 325 a0) ∧ q_in σ (gP σ 325 a0) a1 ∧ (∃ v17 : Int, qMet g l M_X8_in [vi a2, vi 0, vi (gA σ (gP σ 325 a0) a1)] σ (qPi σ v17) ∧ (qR v17 ∧ ((¬ v17 = 0 → (∃ v21 : Int, qMet g l M_X8_in [vi a3, vi 1, vi 9] σ (qPi σ v21) ∧ (qR v21 ∧ ((v21 = 0 → (∀ σ24 : qS, σ24 = sI σ 320 a0 2 → Post σ24 (.inl (some (vi 0))))) ∧ (¬ (v21 = 0) → (∃ v27 : Int, qMet g l M_X8_in [vi a4, vi 4, vi 24] σ (qPi σ v27) ∧ (qR v27 ∧ ((v27 = 0 → (∀ σ30 : qS, σ30 = sI σ 320 a0 2 → Post σ30 (.inl (some (vi 0))))) ∧ (¬ (v27 = 0) → (∃ v33 : Int, qMet g l M_X8_in [vi a5, vi 3, vi 12] σ (qPi σ v33) ∧ (((qR v33 ∧ (¬ v33 = 0 → qR (gA σ (gP σ 325 a0) a1) ∧ (¬ ((gA σ (gP σ 325 a0) a1) = 8) → qR (gI σ 322 a0)))) ∧ ∀ v40 : Int, v40 = (if ¬ v33 = 0 then (if (gA σ (gP σ 325 a0) a1) = 8 then 3 else (if ¬ (gI σ 322 a0) = 50 then 0 else 3)) else 2) → (∀ σ45 : qS, σ45 = sI σ 320 a0 v40 → ((v40 ≤ 0 → (∃ Mid49 : qS → Prop, qMet g l M_X8_keeps [vr a0] σ45 (qTv0 Mid49) ∧ ∀ (σ53 : qS), Mid49 σ53 → gK σ53 a0 = 9 ∧ gK σ53 (gP σ53 329 a0) = 20 ∧ q_in σ53 (gP σ53 329 a0) (gI σ53 322 a0) ∧ (∀ σ58 : qS, σ58 = sA σ53 (gP σ53 329 a0) (gI σ53 322 a0) a1 → gK σ58 (gP σ58 330 a0) = 20 ∧ q_in σ58 (gP σ58 330 a0) (gI σ58 322 a0) ∧ (∀ σ62 : qS, σ62 = sA σ58 (gP σ58 330 a0) (gI σ58 322 a0) a3 → gK σ62 (gP σ62 331 a0) = 20 ∧ q_in σ62 (gP σ62 331 a0) (gI σ62 322 a0) ∧ (∀ σ66 : qS, σ66 = sA σ62 (gP σ62 331 a0) (gI σ62 322 a0) a4 → gK σ66 (gP σ66 332 a0) = 20 ∧ q_in σ66 (gP σ66 332 a0) (gI σ66 322 a0) ∧ (∀ σ70 : qS, σ70 = sA σ66 (gP σ66 332 a0) (gI σ66 322 a0) a5 → gK σ70 (gP σ70 333 a0) = 20 ∧ q_in σ70 (gP σ70 333 a0) (gI σ70 322 a0) ∧ (∀ σ74 : qS, σ74 = sA σ70 (gP σ70 333 a0) (gI σ70 322 a0) 0 → gK σ74 (gP σ74 335 a0) = 20 ∧ q_in σ74 (gP σ74 335 a0) (gI σ74 322 a0) ∧ (∀ σ78 : qS, σ78 = sA σ74 (gP σ74 335 a0) (gI σ74 322 a0) 0 → q_isA σ78 0 (gP σ78 325 a0) ∧ q_in σ78 (gP σ78 325 a0) a1 ∧ (∃ Mid83 : qS → Prop, qMet g l M_X8_inserts [vr (gP σ78 326 a0), vi (8 * a1), vi (gA σ78 (gP σ78 325 a0) a1), vi a2, vi (gI σ78 322 a0)] σ78 (qTv0 Mid83) ∧ ∀ (σ87 : qS), Mid83 σ87 → gK σ87 a0 = 9 ∧ q_isA σ87 0 (gP σ87 325 a0) ∧ q_in σ87 (gP σ87 325 a0) a1 ∧ gK σ87 (gP σ87 325 a0) = 20 ∧ (∀ σ93 : qS, σ93 = sA σ87 (gP σ87 325 a0) a1 ((gA σ87 (gP σ87 325 a0) a1) + 1) → (∀ σ95 : qS, σ95 = sI σ93 322 a0 ((gI σ93 322 a0) + 1) → (∃ Mid98 : qS → Int → Prop, qMet g l M_X8_stays [vr a0] σ95 (qTi0 Mid98) ∧ ∀ (σ102 : qS) (v104 : Int), Mid98 σ102 v104 → qR v104 ∧ ((¬ v104 = 0 → gK σ102 a0 = 9 ∧ Post σ102 (.inl (some (vi ((gI σ102 322 a0) - 1))))) ∧ (v104 = 0 → gK σ102 a0 = 9 ∧ (∀ σ109 : qS, σ109 = sI σ102 322 a0 ((gI σ102 322 a0) - 1) → (∃ Mid112 : qS → Int → Prop, qMet g l M_X8_fails [vr a0, vi 3] σ109 (qTi0 Mid112) ∧ ∀ (σ116 : qS) (v118 : Int), Mid112 σ116 v118 → Post σ116 (.inl (some (vi v118))))))))))))))))))) ∧ (¬ (v40 ≤ 0) → Post σ45 (.inl (some (vi 0)))))))))))))))))) ∧ (v17 = 0 → (∃ Mid126 : qS → Int → Prop, qMet g l M_X8_fails [vr a0, vi 1] σ (qTi0 Mid126) ∧ ∀ (σ130 : qS) (v132 : Int), Mid126 σ130 v132 → Post σ130 (.inl (some (vi v132))))))))))))) : qMet g l M_X8_panel [vr a0, vi a1, vi a2, vi a3, vi a4, vi a5] σ Post := by
  refine qMet_of hl (by decide +kernel) (Nat.le_of_ble_eq_true rfl) (List.forall_mem_cons.mpr ⟨trivial, List.forall_mem_cons.mpr ⟨trivial, List.forall_mem_cons.mpr ⟨trivial, List.forall_mem_cons.mpr ⟨trivial, List.forall_mem_cons.mpr ⟨trivial, List.forall_mem_cons.mpr ⟨trivial, fun _ h => nomatch h⟩⟩⟩⟩⟩⟩) ?_
  show qW g l M_X8_panel 0 0 0 [some (vr a0), some (vi a1), some (vi a2), some (vi a3), some (vi a4), some (vi a5)] [] σ Post
  refine wp_aload_n dX8_panel_0 rfl ?_
  refine wp_iload_n dX8_panel_1 rfl ?_
  obtain ⟨hk2, h⟩ := h
  obtain ⟨v3, hm1, h⟩ := h
  refine wp_callV (M' := M_X8_isPage) (As := [vi a1]) (st := []) (ci := 8) dX8_panel_2 cee_X8_isPage np_X8_isPage rfl ⟨Nat.le_of_ble_eq_true rfl, Nat.le_of_ble_eq_true rfl, Nat.le_of_ble_eq_true rfl, Nat.le_of_ble_eq_true rfl⟩ wd_1340 wd_1342 sel_X8_isPage rfl (Or.inl hk2) (q_small_of (Nat.le_of_ble_eq_true rfl)) hm1 (q_kPi ?_) q_kPi0
  refine wp_less (ac2 := 0) (as2 := 0) (Nat.le_of_ble_eq_true rfl) (Nat.le_of_ble_eq_true rfl) ?_
  obtain ⟨hr4, h⟩ := h
  refine wp_if_eq (tgt := 22) dX8_panel_5 (by decide) hr4 (fun c5 => ?_) (fun c5 => ?_)
  · replace h := h.1 c5
    refine wp_aload_n dX8_panel_22 rfl ?_
    refine wp_iconst dX8_panel_23 ?_
    obtain ⟨Mid7, hm6, hk9⟩ := h
    refine wp_callV (M' := M_X8_fails) (As := [vi 1]) (st := []) (ci := 8) dX8_panel_24 cee_X8_fails np_X8_fails rfl ⟨Nat.le_of_ble_eq_true rfl, Nat.le_of_ble_eq_true rfl, Nat.le_of_ble_eq_true rfl, Nat.le_of_ble_eq_true rfl⟩ wd_1347 wd_1349 sel_X8_fails rfl (Or.inl hk2) (q_small_of (Nat.le_of_ble_eq_true rfl)) hm6 (q_kTi0 (fun σ11 v13 hM12 => ?_)) q_kTi00
    refine wp_less (ac2 := 0) (as2 := 0) (Nat.le_of_ble_eq_true rfl) (Nat.le_of_ble_eq_true rfl) ?_
    have h := hk9 σ11 v13 hM12
    exact wp_ret_i dX8_panel_27 rfl rfl h
  · replace h := h.2 c5
    refine wp_iload_n dX8_panel_8 rfl ?_
    refine wp_iconst dX8_panel_9 ?_
    refine wp_aload_n dX8_panel_10 rfl ?_
    refine wp_get (v := vr (gP σ 325 a0)) dX8_panel_11 fl_RX8_13 hk2 rfl ?_
    refine wp_iload_n dX8_panel_14 rfl ?_
    obtain ⟨ha14, hi15, h⟩ := h
    refine wp_iaload dX8_panel_15 ha14 hi15 ?_
    obtain ⟨v17, hm16, h⟩ := h
    refine wp_callS (M' := M_X8_in) (As := [vi a2, vi 0, vi (gA σ (gP σ 325 a0) a1)]) (st := []) dX8_panel_16 cee_X8_in np_X8_in rfl ⟨Nat.le_of_ble_eq_true rfl, Nat.le_of_ble_eq_true rfl, Nat.le_of_ble_eq_true rfl, Nat.le_of_ble_eq_true rfl⟩ wd_1344 wd_1345 (q_small_of (Nat.le_of_ble_eq_true rfl)) hm16 (q_kPi ?_) q_kPi0
    refine wp_less (ac2 := 0) (as2 := 0) (Nat.le_of_ble_eq_true rfl) (Nat.le_of_ble_eq_true rfl) ?_
    obtain ⟨hr18, h⟩ := h
    refine wp_if_ne (tgt := 28) dX8_panel_19 (by decide) hr18 (fun c19 => ?_) (fun c19 => ?_)
    · replace h := h.1 c19
      refine wp_aload_n dX8_panel_28 rfl ?_
      refine wp_iload_n dX8_panel_29 rfl ?_
      refine wp_iconst dX8_panel_30 ?_
      refine wp_bipush dX8_panel_31 (by decide) ?_
      obtain ⟨v21, hm20, h⟩ := h
      refine wp_callS (M' := M_X8_in) (As := [vi a3, vi 1, vi 9]) (st := [vr a0]) dX8_panel_33 cee_X8_in np_X8_in rfl ⟨Nat.le_of_ble_eq_true rfl, Nat.le_of_ble_eq_true rfl, Nat.le_of_ble_eq_true rfl, Nat.le_of_ble_eq_true rfl⟩ wd_1344 wd_1345 (q_small_of (Nat.le_of_ble_eq_true rfl)) hm20 (q_kPi ?_) q_kPi0
      refine wp_less (ac2 := 0) (as2 := 0) (Nat.le_of_ble_eq_true rfl) (Nat.le_of_ble_eq_true rfl) ?_
      obtain ⟨hr22, h⟩ := h
      refine wp_if_eq (tgt := 61) dX8_panel_36 (by decide) hr22 (fun c23 => ?_) (fun c23 => ?_)
      · replace h := h.1 c23
        refine wp_iconst dX8_panel_61 ?_
        refine wp_goto (tgt := 90) dX8_panel_62 (by decide) ?_
        refine wp_put (v := vi 2) dX8_panel_90 fs_RX8_108 (fun h => absurd h (by decide)) hk2 (Or.inl rfl) ?_
        refine wp_nmS (fun σ24 hs25 => ?_)
        replace h := h σ24 hs25
        refine wp_aload_n dX8_panel_93 rfl ?_
        refine wp_get (v := vi 2) dX8_panel_94 fl_RX8_108 (by rw [hs25]; exact hk2) (by rw [hs25]; exact q_memI) ?_
        refine wp_if_le (tgt := 102) dX8_panel_97 (by decide) (by unfold qR; omega) (fun c9 => absurd c9 (by decide)) (fun _ => ?_)
        refine wp_iconst dX8_panel_100 ?_
        exact wp_ret_i dX8_panel_101 rfl rfl h
      · replace h := h.2 c23
        refine wp_iload dX8_panel_39 rfl ?_
        refine wp_iconst dX8_panel_41 ?_
        refine wp_bipush dX8_panel_42 (by decide) ?_
        obtain ⟨v27, hm26, h⟩ := h
        refine wp_callS (M' := M_X8_in) (As := [vi a4, vi 4, vi 24]) (st := [vr a0]) dX8_panel_44 cee_X8_in np_X8_in rfl ⟨Nat.le_of_ble_eq_true rfl, Nat.le_of_ble_eq_true rfl, Nat.le_of_ble_eq_true rfl, Nat.le_of_ble_eq_true rfl⟩ wd_1344 wd_1345 (q_small_of (Nat.le_of_ble_eq_true rfl)) hm26 (q_kPi ?_) q_kPi0
        refine wp_less (ac2 := 0) (as2 := 0) (Nat.le_of_ble_eq_true rfl) (Nat.le_of_ble_eq_true rfl) ?_
        obtain ⟨hr28, h⟩ := h
        refine wp_if_eq (tgt := 61) dX8_panel_47 (by decide) hr28 (fun c29 => ?_) (fun c29 => ?_)
        · replace h := h.1 c29
          refine wp_iconst dX8_panel_61 ?_
          refine wp_goto (tgt := 90) dX8_panel_62 (by decide) ?_
          refine wp_put (v := vi 2) dX8_panel_90 fs_RX8_108 (fun h => absurd h (by decide)) hk2 (Or.inl rfl) ?_
          refine wp_nmS (fun σ30 hs31 => ?_)
          replace h := h σ30 hs31
          refine wp_aload_n dX8_panel_93 rfl ?_
          refine wp_get (v := vi 2) dX8_panel_94 fl_RX8_108 (by rw [hs31]; exact hk2) (by rw [hs31]; exact q_memI) ?_
          refine wp_if_le (tgt := 102) dX8_panel_97 (by decide) (by unfold qR; omega) (fun c9 => absurd c9 (by decide)) (fun _ => ?_)
          refine wp_iconst dX8_panel_100 ?_
          exact wp_ret_i dX8_panel_101 rfl rfl h
        · replace h := h.2 c29
          refine wp_iload dX8_panel_50 rfl ?_
          refine wp_iconst dX8_panel_52 ?_
          refine wp_bipush dX8_panel_53 (by decide) ?_
          obtain ⟨v33, hm32, h⟩ := h
          refine wp_callS (M' := M_X8_in) (As := [vi a5, vi 3, vi 12]) (st := [vr a0]) dX8_panel_55 cee_X8_in np_X8_in rfl ⟨Nat.le_of_ble_eq_true rfl, Nat.le_of_ble_eq_true rfl, Nat.le_of_ble_eq_true rfl, Nat.le_of_ble_eq_true rfl⟩ wd_1344 wd_1345 (q_small_of (Nat.le_of_ble_eq_true rfl)) hm32 (q_kPi ?_) q_kPi0
          refine wp_less (ac2 := 0) (as2 := 0) (Nat.le_of_ble_eq_true rfl) (Nat.le_of_ble_eq_true rfl) ?_
          obtain ⟨h, hk43⟩ := h
          have key42 : ∀ v40 : Int, v40 = (if ¬ v33 = 0 then (if (gA σ (gP σ 325 a0) a1) = 8 then 3 else (if ¬ (gI σ 322 a0) = 50 then 0 else 3)) else 2) → qW g l M_X8_panel 0 0 90 [some (vr a0), some (vi a1), some (vi a2), some (vi a3), some (vi a4), some (vi a5)] [vi v40, vr a0] σ Post := by
            intro v40 hv41
            have h := hk43 v40 hv41
            have hr44 : qR v40 := by (rw [hv41]; unfold qR; repeat' split) <;> omega
            refine wp_put (v := vi v40) dX8_panel_90 fs_RX8_108 (fun h => absurd h (by decide)) hk2 (Or.inl rfl) ?_
            refine wp_nmS (fun σ45 hs46 => ?_)
            replace h := h σ45 hs46
            refine wp_aload_n dX8_panel_93 rfl ?_
            refine wp_get (v := vi v40) dX8_panel_94 fl_RX8_108 (by rw [hs46]; exact hk2) (by rw [hs46]; exact q_memI) ?_
            refine wp_if_le (tgt := 102) dX8_panel_97 (by decide) hr44 (fun c47 => ?_) (fun c47 => ?_)
            · replace h := h.1 c47
              refine wp_aload_n dX8_panel_102 rfl ?_
              obtain ⟨Mid49, hm48, hk51⟩ := h
              refine wp_callV (M' := M_X8_keeps) (As := []) (st := []) (ci := 8) dX8_panel_103 cee_X8_keeps np_X8_keeps rfl ⟨Nat.le_of_ble_eq_true rfl, Nat.le_of_ble_eq_true rfl, Nat.le_of_ble_eq_true rfl, Nat.le_of_ble_eq_true rfl⟩ wd_1351 wd_1353 sel_X8_keeps rfl (Or.inl (by rw [hs46]; exact hk2)) (q_small_of (Nat.le_of_ble_eq_true rfl)) hm48 (q_kTv0 (fun σ53 hM54 => ?_)) q_kTv00
              refine wp_less (ac2 := 0) (as2 := 0) (Nat.le_of_ble_eq_true rfl) (Nat.le_of_ble_eq_true rfl) ?_
              have h := hk51 σ53 hM54
              refine wp_aload_n dX8_panel_106 rfl ?_
              obtain ⟨hk55, h⟩ := h
              refine wp_get (v := vr (gP σ53 329 a0)) dX8_panel_107 fl_RX8_26 hk55 rfl ?_
              refine wp_aload_n dX8_panel_110 rfl ?_
              refine wp_get (v := vi (gI σ53 322 a0)) dX8_panel_111 fl_RX8_118 hk55 rfl ?_
              refine wp_iload_n dX8_panel_114 rfl ?_
              obtain ⟨hk56, hi57, h⟩ := h
              refine wp_iastore dX8_panel_115 hk56 hi57 ?_
              refine wp_nmS (fun σ58 hs59 => ?_)
              replace h := h σ58 hs59
              refine wp_aload_n dX8_panel_116 rfl ?_
              refine wp_get (v := vr (gP σ58 330 a0)) dX8_panel_117 fl_RX8_29 (by rw [hs59]; exact hk55) rfl ?_
              refine wp_aload_n dX8_panel_120 rfl ?_
              refine wp_get (v := vi (gI σ58 322 a0)) dX8_panel_121 fl_RX8_118 (by rw [hs59]; exact hk55) rfl ?_
              refine wp_iload_n dX8_panel_124 rfl ?_
              obtain ⟨hk60, hi61, h⟩ := h
              refine wp_iastore dX8_panel_125 hk60 hi61 ?_
              refine wp_nmS (fun σ62 hs63 => ?_)
              replace h := h σ62 hs63
              refine wp_aload_n dX8_panel_126 rfl ?_
              refine wp_get (v := vr (gP σ62 331 a0)) dX8_panel_127 fl_RX8_32 (by rw [hs63, hs59]; exact hk55) rfl ?_
              refine wp_aload_n dX8_panel_130 rfl ?_
              refine wp_get (v := vi (gI σ62 322 a0)) dX8_panel_131 fl_RX8_118 (by rw [hs63, hs59]; exact hk55) rfl ?_
              refine wp_iload dX8_panel_134 rfl ?_
              obtain ⟨hk64, hi65, h⟩ := h
              refine wp_iastore dX8_panel_136 hk64 hi65 ?_
              refine wp_nmS (fun σ66 hs67 => ?_)
              replace h := h σ66 hs67
              refine wp_aload_n dX8_panel_137 rfl ?_
              refine wp_get (v := vr (gP σ66 332 a0)) dX8_panel_138 fl_RX8_35 (by rw [hs67, hs63, hs59]; exact hk55) rfl ?_
              refine wp_aload_n dX8_panel_141 rfl ?_
              refine wp_get (v := vi (gI σ66 322 a0)) dX8_panel_142 fl_RX8_118 (by rw [hs67, hs63, hs59]; exact hk55) rfl ?_
              refine wp_iload dX8_panel_145 rfl ?_
              obtain ⟨hk68, hi69, h⟩ := h
              refine wp_iastore dX8_panel_147 hk68 hi69 ?_
              refine wp_nmS (fun σ70 hs71 => ?_)
              replace h := h σ70 hs71
              refine wp_aload_n dX8_panel_148 rfl ?_
              refine wp_get (v := vr (gP σ70 333 a0)) dX8_panel_149 fl_RX8_38 (by rw [hs71, hs67, hs63, hs59]; exact hk55) rfl ?_
              refine wp_aload_n dX8_panel_152 rfl ?_
              refine wp_get (v := vi (gI σ70 322 a0)) dX8_panel_153 fl_RX8_118 (by rw [hs71, hs67, hs63, hs59]; exact hk55) rfl ?_
              refine wp_iconst dX8_panel_156 ?_
              obtain ⟨hk72, hi73, h⟩ := h
              refine wp_iastore dX8_panel_157 hk72 hi73 ?_
              refine wp_nmS (fun σ74 hs75 => ?_)
              replace h := h σ74 hs75
              refine wp_aload_n dX8_panel_158 rfl ?_
              refine wp_get (v := vr (gP σ74 335 a0)) dX8_panel_159 fl_RX8_44 (by rw [hs75, hs71, hs67, hs63, hs59]; exact hk55) rfl ?_
              refine wp_aload_n dX8_panel_162 rfl ?_
              refine wp_get (v := vi (gI σ74 322 a0)) dX8_panel_163 fl_RX8_118 (by rw [hs75, hs71, hs67, hs63, hs59]; exact hk55) rfl ?_
              refine wp_iconst dX8_panel_166 ?_
              obtain ⟨hk76, hi77, h⟩ := h
              refine wp_iastore dX8_panel_167 hk76 hi77 ?_
              refine wp_nmS (fun σ78 hs79 => ?_)
              replace h := h σ78 hs79
              refine wp_aload_n dX8_panel_168 rfl ?_
              refine wp_get (v := vr (gP σ78 326 a0)) dX8_panel_169 fl_RX8_16 (by rw [hs79, hs75, hs71, hs67, hs63, hs59]; exact hk55) rfl ?_
              refine wp_bipush dX8_panel_172 (by decide) ?_
              refine wp_iload_n dX8_panel_174 rfl ?_
              refine wp_imul dX8_panel_175 ?_
              refine wp_aload_n dX8_panel_176 rfl ?_
              refine wp_get (v := vr (gP σ78 325 a0)) dX8_panel_177 fl_RX8_13 (by rw [hs79, hs75, hs71, hs67, hs63, hs59]; exact hk55) rfl ?_
              refine wp_iload_n dX8_panel_180 rfl ?_
              obtain ⟨ha80, hi81, h⟩ := h
              refine wp_iaload dX8_panel_181 ha80 hi81 ?_
              refine wp_iload_n dX8_panel_182 rfl ?_
              refine wp_aload_n dX8_panel_183 rfl ?_
              refine wp_get (v := vi (gI σ78 322 a0)) dX8_panel_184 fl_RX8_118 (by rw [hs79, hs75, hs71, hs67, hs63, hs59]; exact hk55) rfl ?_
              obtain ⟨Mid83, hm82, hk85⟩ := h
              refine wp_callS (M' := M_X8_inserts) (As := [vr (gP σ78 326 a0), vi (8 * a1), vi (gA σ78 (gP σ78 325 a0) a1), vi a2, vi (gI σ78 322 a0)]) (st := []) dX8_panel_187 cee_X8_inserts np_X8_inserts rfl ⟨Nat.le_of_ble_eq_true rfl, Nat.le_of_ble_eq_true rfl, Nat.le_of_ble_eq_true rfl, Nat.le_of_ble_eq_true rfl⟩ wd_1358 wd_1359 (q_small_of (Nat.le_of_ble_eq_true rfl)) hm82 (q_kTv0 (fun σ87 hM88 => ?_)) q_kTv00
              refine wp_less (ac2 := 0) (as2 := 0) (Nat.le_of_ble_eq_true rfl) (Nat.le_of_ble_eq_true rfl) ?_
              have h := hk85 σ87 hM88
              refine wp_aload_n dX8_panel_190 rfl ?_
              obtain ⟨hk89, h⟩ := h
              refine wp_get (v := vr (gP σ87 325 a0)) dX8_panel_191 fl_RX8_13 hk89 rfl ?_
              refine wp_iload_n dX8_panel_194 rfl ?_
              refine wp_dup2 dX8_panel_195 trivial trivial ?_
              obtain ⟨ha90, hi91, h⟩ := h
              refine wp_iaload dX8_panel_196 ha90 hi91 ?_
              refine wp_iconst dX8_panel_197 ?_
              refine wp_iadd dX8_panel_198 ?_
              obtain ⟨hk92, h⟩ := h
              refine wp_iastore dX8_panel_199 hk92 hi91 ?_
              refine wp_nmS (fun σ93 hs94 => ?_)
              replace h := h σ93 hs94
              refine wp_aload_n dX8_panel_200 rfl ?_
              refine wp_dup dX8_panel_201 trivial ?_
              refine wp_get (v := vi (gI σ93 322 a0)) dX8_panel_202 fl_RX8_118 (by rw [hs94]; exact hk89) rfl ?_
              refine wp_iconst dX8_panel_205 ?_
              refine wp_iadd dX8_panel_206 ?_
              refine wp_put (v := vi ((gI σ93 322 a0) + 1)) dX8_panel_207 fs_RX8_118 (fun h => absurd h (by decide)) (by rw [hs94]; exact hk89) (Or.inl rfl) ?_
              refine wp_nmS (fun σ95 hs96 => ?_)
              replace h := h σ95 hs96
              refine wp_aload_n dX8_panel_210 rfl ?_
              obtain ⟨Mid98, hm97, hk100⟩ := h
              refine wp_callV (M' := M_X8_stays) (As := []) (st := []) (ci := 8) dX8_panel_211 cee_X8_stays np_X8_stays rfl ⟨Nat.le_of_ble_eq_true rfl, Nat.le_of_ble_eq_true rfl, Nat.le_of_ble_eq_true rfl, Nat.le_of_ble_eq_true rfl⟩ wd_1361 wd_1363 sel_X8_stays rfl (Or.inl (by rw [hs96, hs94]; exact hk89)) (q_small_of (Nat.le_of_ble_eq_true rfl)) hm97 (q_kTi0 (fun σ102 v104 hM103 => ?_)) q_kTi00
              refine wp_less (ac2 := 0) (as2 := 0) (Nat.le_of_ble_eq_true rfl) (Nat.le_of_ble_eq_true rfl) ?_
              have h := hk100 σ102 v104 hM103
              obtain ⟨hr105, h⟩ := h
              refine wp_if_ne (tgt := 233) dX8_panel_214 (by decide) hr105 (fun c106 => ?_) (fun c106 => ?_)
              · replace h := h.1 c106
                refine wp_aload_n dX8_panel_233 rfl ?_
                obtain ⟨hk107, h⟩ := h
                refine wp_get (v := vi (gI σ102 322 a0)) dX8_panel_234 fl_RX8_118 hk107 rfl ?_
                refine wp_iconst dX8_panel_237 ?_
                refine wp_isub dX8_panel_238 ?_
                exact wp_ret_i dX8_panel_239 rfl rfl h
              · replace h := h.2 c106
                refine wp_aload_n dX8_panel_217 rfl ?_
                refine wp_dup dX8_panel_218 trivial ?_
                obtain ⟨hk108, h⟩ := h
                refine wp_get (v := vi (gI σ102 322 a0)) dX8_panel_219 fl_RX8_118 hk108 rfl ?_
                refine wp_iconst dX8_panel_222 ?_
                refine wp_isub dX8_panel_223 ?_
                refine wp_put (v := vi ((gI σ102 322 a0) - 1)) dX8_panel_224 fs_RX8_118 (fun h => absurd h (by decide)) hk108 (Or.inl rfl) ?_
                refine wp_nmS (fun σ109 hs110 => ?_)
                replace h := h σ109 hs110
                refine wp_aload_n dX8_panel_227 rfl ?_
                refine wp_iconst dX8_panel_228 ?_
                obtain ⟨Mid112, hm111, hk114⟩ := h
                refine wp_callV (M' := M_X8_fails) (As := [vi 3]) (st := []) (ci := 8) dX8_panel_229 cee_X8_fails np_X8_fails rfl ⟨Nat.le_of_ble_eq_true rfl, Nat.le_of_ble_eq_true rfl, Nat.le_of_ble_eq_true rfl, Nat.le_of_ble_eq_true rfl⟩ wd_1347 wd_1349 sel_X8_fails rfl (Or.inl (by rw [hs110]; exact hk108)) (q_small_of (Nat.le_of_ble_eq_true rfl)) hm111 (q_kTi0 (fun σ116 v118 hM117 => ?_)) q_kTi00
                refine wp_less (ac2 := 0) (as2 := 0) (Nat.le_of_ble_eq_true rfl) (Nat.le_of_ble_eq_true rfl) ?_
                have h := hk114 σ116 v118 hM117
                exact wp_ret_i dX8_panel_232 rfl rfl h
            · replace h := h.2 c47
              refine wp_iconst dX8_panel_100 ?_
              exact wp_ret_i dX8_panel_101 rfl rfl h
          obtain ⟨hr119, h⟩ := h
          refine wp_if_ne (tgt := 65) dX8_panel_58 (by decide) hr119 (fun c120 => ?_) (fun c120 => ?_)
          · replace h := h c120
            refine wp_aload_n dX8_panel_65 rfl ?_
            refine wp_get (v := vr (gP σ 325 a0)) dX8_panel_66 fl_RX8_13 hk2 rfl ?_
            refine wp_iload_n dX8_panel_69 rfl ?_
            refine wp_iaload dX8_panel_70 ha14 hi15 ?_
            refine wp_bipush dX8_panel_71 (by decide) ?_
            obtain ⟨hr121, h⟩ := h
            refine wp_icmp_eq (tgt := 85) dX8_panel_73 (by decide) hr121 (by unfold qR; omega) (fun c122 => ?_) (fun c122 => ?_)
            · refine wp_iconst dX8_panel_85 ?_
              refine wp_goto (tgt := 90) dX8_panel_86 (by decide) ?_
              exact key42 _ (by rw [if_pos c120, if_pos c122])
            · replace h := h c122
              refine wp_aload_n dX8_panel_76 rfl ?_
              refine wp_get (v := vi (gI σ 322 a0)) dX8_panel_77 fl_RX8_118 hk2 rfl ?_
              refine wp_bipush dX8_panel_80 (by decide) ?_
              have hr123 := h
              refine wp_icmp_ne (tgt := 89) dX8_panel_82 (by decide) hr123 (by unfold qR; omega) (fun c124 => ?_) (fun c124 => ?_)
              · refine wp_iconst dX8_panel_89 ?_
                exact key42 _ (by rw [if_pos c120, if_neg c122, if_pos c124])
              · refine wp_iconst dX8_panel_85 ?_
                refine wp_goto (tgt := 90) dX8_panel_86 (by decide) ?_
                exact key42 _ (by rw [if_pos c120, if_neg c122, if_neg (fun z => z c124)])
          · refine wp_iconst dX8_panel_61 ?_
            refine wp_goto (tgt := 90) dX8_panel_62 (by decide) ?_
            exact key42 _ (by rw [if_neg (fun z => z c120)])
    · replace h := h.2 c19
      refine wp_aload_n dX8_panel_22 rfl ?_
      refine wp_iconst dX8_panel_23 ?_
      obtain ⟨Mid126, hm125, hk128⟩ := h
      refine wp_callV (M' := M_X8_fails) (As := [vi 1]) (st := []) (ci := 8) dX8_panel_24 cee_X8_fails np_X8_fails rfl ⟨Nat.le_of_ble_eq_true rfl, Nat.le_of_ble_eq_true rfl, Nat.le_of_ble_eq_true rfl, Nat.le_of_ble_eq_true rfl⟩ wd_1347 wd_1349 sel_X8_fails rfl (Or.inl hk2) (q_small_of (Nat.le_of_ble_eq_true rfl)) hm125 (q_kTi0 (fun σ130 v132 hM131 => ?_)) q_kTi00
      refine wp_less (ac2 := 0) (as2 := 0) (Nat.le_of_ble_eq_true rfl) (Nat.le_of_ble_eq_true rfl) ?_
      have h := hk128 σ130 v132 hM131
      exact wp_ret_i dX8_panel_27 rfl rfl h

set_option maxRecDepth 100000 in
set_option maxHeartbeats 4000000 in
theorem wm_X8_movePanel {g : qG} {l : Launch} (hl : l.stackTraces = false) {a0 : Nat} {a1 : Int} {a2 : Int} {σ : qS} {Post : qS → qRs → Prop}
    (h : gK σ a0 = 9 ∧ (∃ v3 : Int, qMet g l M_X8_isPanel [vr a0, vi a1] σ (qPi σ v3) ∧ (qR v3 ∧ ((v3 = 0 → (∃ Mid7 : qS → Int → Prop, qMet g l M_X8_fails [vr a0, vi 1] σ (qTi0 Mid7) ∧ ∀ (σ11 : qS) (v13 : Int), Mid7 σ11 v13 → Post σ11 (.inl (some (vi v13))))) ∧ (¬ (v3 = 0) → q_isA σ 0 (gP σ 329 a0) ∧ q_in σ (gP σ 329 a0) a1 ∧ q_isA σ 0 (gP σ 325 a0) ∧ q_in σ (gP σ 325 a0) (gA σ (gP σ 329 a0) a1) ∧ (∃ v19 : Int, qMet g l M_X8_in [vi a2, vi 0, vi ((gA σ (gP σ 325 a0) (gA σ (gP σ 329 a0) a1)) - 1)] σ (qPi σ v19) ∧ (qR v19 ∧ ((¬ v19 = 0 → ∀ x22 : Int, x22 = gA σ (gP σ 329 a0) a1 → (∃ Mid25 : qS → Prop, qMet g l M_X8_keeps [vr a0] σ (qTv0 Mid25) ∧ ∀ (σ29 : qS), Mid25 σ29 → gK σ29 a0 = 9 ∧ q_isA σ29 0 (gP σ29 325 a0) ∧ q_in σ29 (gP σ29 325 a0) x22 ∧ (∃ v35 : Int, qMet g l M_X8_find [vr (gP σ29 326 a0), vi (8 * x22), vi a1] σ29 (qPi σ29 v35) ∧ ((∃ Mid37 : qS → Prop, qMet g l M_X8_removes [vr (gP σ29 326 a0), vi (8 * x22), vi (gA σ29 (gP σ29 325 a0) x22), vi v35] σ29 (qTv0 Mid37) ∧ ∀ (σ41 : qS), Mid37 σ41 → gK σ41 a0 = 9 ∧ q_isA σ41 0 (gP σ41 325 a0) ∧ q_in σ41 (gP σ41 325 a0) x22 ∧ (∃ Mid47 : qS → Prop, qMet g l M_X8_inserts [vr (gP σ41 326 a0), vi (8 * x22), vi ((gA σ41 (gP σ41 325 a0) x22) - 1), vi a2, vi a1] σ41 (qTv0 Mid47) ∧ ∀ (σ51 : qS), Mid47 σ51 → gK σ51 a0 = 9 ∧ (∃ Mid55 : qS → Int → Prop, qMet g l M_X8_stays [vr a0] σ51 (qTi0 Mid55) ∧ ∀ (σ59 : qS) (v61 : Int), Mid55 σ59 v61 → ((qR v61) ∧ ∀ v64 : Int, v64 = (if v61 = 0 then 2 else 0) → gK σ59 a0 = 9 ∧ (∀ σ70 : qS, σ70 = sI σ59 320 a0 v64 → ((v64 ≤ 0 → (∃ v74 : Int, qMet g l M_X8_changed [vr a0, vi x22] σ70 (qPi σ70 v74) ∧ (Post σ70 (.inl (some (vi v74)))))) ∧ (¬ (v64 ≤ 0) → Post σ70 (.inl (some (vi 0)))))))))))))) ∧ (v19 = 0 → (∃ Mid78 : qS → Int → Prop, qMet g l M_X8_fails [vr a0, vi 1] σ (qTi0 Mid78) ∧ ∀ (σ82 : qS) (v84 : Int), Mid78 σ82 v84 → Post σ82 (.inl (some (vi v84))))))))))))) : qMet g l M_X8_movePanel [vr a0, vi a1, vi a2] σ Post := by
  refine qMet_of hl (by decide +kernel) (Nat.le_of_ble_eq_true rfl) (List.forall_mem_cons.mpr ⟨trivial, List.forall_mem_cons.mpr ⟨trivial, List.forall_mem_cons.mpr ⟨trivial, fun _ h => nomatch h⟩⟩⟩) ?_
  show qW g l M_X8_movePanel 0 0 0 [some (vr a0), some (vi a1), some (vi a2), none] [] σ Post
  refine wp_aload_n dX8_movePanel_0 rfl ?_
  refine wp_iload_n dX8_movePanel_1 rfl ?_
  obtain ⟨hk2, h⟩ := h
  obtain ⟨v3, hm1, h⟩ := h
  refine wp_callV (M' := M_X8_isPanel) (As := [vi a1]) (st := []) (ci := 8) dX8_movePanel_2 cee_X8_isPanel np_X8_isPanel rfl ⟨Nat.le_of_ble_eq_true rfl, Nat.le_of_ble_eq_true rfl, Nat.le_of_ble_eq_true rfl, Nat.le_of_ble_eq_true rfl⟩ wd_1416 wd_1418 sel_X8_isPanel rfl (Or.inl hk2) (q_small_of (Nat.le_of_ble_eq_true rfl)) hm1 (q_kPi ?_) q_kPi0
  refine wp_less (ac2 := 0) (as2 := 0) (Nat.le_of_ble_eq_true rfl) (Nat.le_of_ble_eq_true rfl) ?_
  obtain ⟨hr4, h⟩ := h
  refine wp_if_eq (tgt := 29) dX8_movePanel_5 (by decide) hr4 (fun c5 => ?_) (fun c5 => ?_)
  · replace h := h.1 c5
    refine wp_aload_n dX8_movePanel_29 rfl ?_
    refine wp_iconst dX8_movePanel_30 ?_
    obtain ⟨Mid7, hm6, hk9⟩ := h
    refine wp_callV (M' := M_X8_fails) (As := [vi 1]) (st := []) (ci := 8) dX8_movePanel_31 cee_X8_fails np_X8_fails rfl ⟨Nat.le_of_ble_eq_true rfl, Nat.le_of_ble_eq_true rfl, Nat.le_of_ble_eq_true rfl, Nat.le_of_ble_eq_true rfl⟩ wd_1347 wd_1349 sel_X8_fails rfl (Or.inl hk2) (q_small_of (Nat.le_of_ble_eq_true rfl)) hm6 (q_kTi0 (fun σ11 v13 hM12 => ?_)) q_kTi00
    refine wp_less (ac2 := 0) (as2 := 0) (Nat.le_of_ble_eq_true rfl) (Nat.le_of_ble_eq_true rfl) ?_
    have h := hk9 σ11 v13 hM12
    exact wp_ret_i dX8_movePanel_34 rfl rfl h
  · replace h := h.2 c5
    refine wp_iload_n dX8_movePanel_8 rfl ?_
    refine wp_iconst dX8_movePanel_9 ?_
    refine wp_aload_n dX8_movePanel_10 rfl ?_
    refine wp_get (v := vr (gP σ 325 a0)) dX8_movePanel_11 fl_RX8_13 hk2 rfl ?_
    refine wp_aload_n dX8_movePanel_14 rfl ?_
    refine wp_get (v := vr (gP σ 329 a0)) dX8_movePanel_15 fl_RX8_26 hk2 rfl ?_
    refine wp_iload_n dX8_movePanel_18 rfl ?_
    obtain ⟨ha14, hi15, h⟩ := h
    refine wp_iaload dX8_movePanel_19 ha14 hi15 ?_
    obtain ⟨ha16, hi17, h⟩ := h
    refine wp_iaload dX8_movePanel_20 ha16 hi17 ?_
    refine wp_iconst dX8_movePanel_21 ?_
    refine wp_isub dX8_movePanel_22 ?_
    obtain ⟨v19, hm18, h⟩ := h
    refine wp_callS (M' := M_X8_in) (As := [vi a2, vi 0, vi ((gA σ (gP σ 325 a0) (gA σ (gP σ 329 a0) a1)) - 1)]) (st := []) dX8_movePanel_23 cee_X8_in np_X8_in rfl ⟨Nat.le_of_ble_eq_true rfl, Nat.le_of_ble_eq_true rfl, Nat.le_of_ble_eq_true rfl, Nat.le_of_ble_eq_true rfl⟩ wd_1344 wd_1345 (q_small_of (Nat.le_of_ble_eq_true rfl)) hm18 (q_kPi ?_) q_kPi0
    refine wp_less (ac2 := 0) (as2 := 0) (Nat.le_of_ble_eq_true rfl) (Nat.le_of_ble_eq_true rfl) ?_
    obtain ⟨hr20, h⟩ := h
    refine wp_if_ne (tgt := 35) dX8_movePanel_26 (by decide) hr20 (fun c21 => ?_) (fun c21 => ?_)
    · replace h := h.1 c21
      refine wp_aload_n dX8_movePanel_35 rfl ?_
      refine wp_get (v := vr (gP σ 329 a0)) dX8_movePanel_36 fl_RX8_26 hk2 rfl ?_
      refine wp_iload_n dX8_movePanel_39 rfl ?_
      refine wp_iaload dX8_movePanel_40 ha14 hi15 ?_
      refine wp_nmI (fun x22 hx23 => ?_)
      replace h := h x22 hx23
      refine wp_istore_n' (ls' := [some (vr a0), some (vi a1), some (vi a2), some (vi x22)]) dX8_movePanel_41 (Nat.le_of_ble_eq_true rfl) rfl ?_
      refine wp_aload_n dX8_movePanel_42 rfl ?_
      obtain ⟨Mid25, hm24, hk27⟩ := h
      refine wp_callV (M' := M_X8_keeps) (As := []) (st := []) (ci := 8) dX8_movePanel_43 cee_X8_keeps np_X8_keeps rfl ⟨Nat.le_of_ble_eq_true rfl, Nat.le_of_ble_eq_true rfl, Nat.le_of_ble_eq_true rfl, Nat.le_of_ble_eq_true rfl⟩ wd_1351 wd_1353 sel_X8_keeps rfl (Or.inl hk2) (q_small_of (Nat.le_of_ble_eq_true rfl)) hm24 (q_kTv0 (fun σ29 hM30 => ?_)) q_kTv00
      refine wp_less (ac2 := 0) (as2 := 0) (Nat.le_of_ble_eq_true rfl) (Nat.le_of_ble_eq_true rfl) ?_
      have h := hk27 σ29 hM30
      refine wp_aload_n dX8_movePanel_46 rfl ?_
      obtain ⟨hk31, h⟩ := h
      refine wp_get (v := vr (gP σ29 326 a0)) dX8_movePanel_47 fl_RX8_16 hk31 rfl ?_
      refine wp_bipush dX8_movePanel_50 (by decide) ?_
      refine wp_iload_n dX8_movePanel_52 rfl ?_
      refine wp_imul dX8_movePanel_53 ?_
      refine wp_aload_n dX8_movePanel_54 rfl ?_
      refine wp_get (v := vr (gP σ29 325 a0)) dX8_movePanel_55 fl_RX8_13 hk31 rfl ?_
      refine wp_iload_n dX8_movePanel_58 rfl ?_
      obtain ⟨ha32, hi33, h⟩ := h
      refine wp_iaload dX8_movePanel_59 ha32 hi33 ?_
      refine wp_aload_n dX8_movePanel_60 rfl ?_
      refine wp_get (v := vr (gP σ29 326 a0)) dX8_movePanel_61 fl_RX8_16 hk31 rfl ?_
      refine wp_bipush dX8_movePanel_64 (by decide) ?_
      refine wp_iload_n dX8_movePanel_66 rfl ?_
      refine wp_imul dX8_movePanel_67 ?_
      refine wp_iload_n dX8_movePanel_68 rfl ?_
      obtain ⟨v35, hm34, h⟩ := h
      refine wp_callS (M' := M_X8_find) (As := [vr (gP σ29 326 a0), vi (8 * x22), vi a1]) (st := [vi (gA σ29 (gP σ29 325 a0) x22), vi (8 * x22), vr (gP σ29 326 a0)]) dX8_movePanel_69 cee_X8_find np_X8_find rfl ⟨Nat.le_of_ble_eq_true rfl, Nat.le_of_ble_eq_true rfl, Nat.le_of_ble_eq_true rfl, Nat.le_of_ble_eq_true rfl⟩ wd_1405 wd_1406 (q_small_of (Nat.le_of_ble_eq_true rfl)) hm34 (q_kPi ?_) q_kPi0
      refine wp_less (ac2 := 0) (as2 := 0) (Nat.le_of_ble_eq_true rfl) (Nat.le_of_ble_eq_true rfl) ?_
      obtain ⟨Mid37, hm36, hk39⟩ := h
      refine wp_callS (M' := M_X8_removes) (As := [vr (gP σ29 326 a0), vi (8 * x22), vi (gA σ29 (gP σ29 325 a0) x22), vi v35]) (st := []) dX8_movePanel_72 cee_X8_removes np_X8_removes rfl ⟨Nat.le_of_ble_eq_true rfl, Nat.le_of_ble_eq_true rfl, Nat.le_of_ble_eq_true rfl, Nat.le_of_ble_eq_true rfl⟩ wd_1420 wd_1421 (q_small_of (Nat.le_of_ble_eq_true rfl)) hm36 (q_kTv0 (fun σ41 hM42 => ?_)) q_kTv00
      refine wp_less (ac2 := 0) (as2 := 0) (Nat.le_of_ble_eq_true rfl) (Nat.le_of_ble_eq_true rfl) ?_
      have h := hk39 σ41 hM42
      refine wp_aload_n dX8_movePanel_75 rfl ?_
      obtain ⟨hk43, h⟩ := h
      refine wp_get (v := vr (gP σ41 326 a0)) dX8_movePanel_76 fl_RX8_16 hk43 rfl ?_
      refine wp_bipush dX8_movePanel_79 (by decide) ?_
      refine wp_iload_n dX8_movePanel_81 rfl ?_
      refine wp_imul dX8_movePanel_82 ?_
      refine wp_aload_n dX8_movePanel_83 rfl ?_
      refine wp_get (v := vr (gP σ41 325 a0)) dX8_movePanel_84 fl_RX8_13 hk43 rfl ?_
      refine wp_iload_n dX8_movePanel_87 rfl ?_
      obtain ⟨ha44, hi45, h⟩ := h
      refine wp_iaload dX8_movePanel_88 ha44 hi45 ?_
      refine wp_iconst dX8_movePanel_89 ?_
      refine wp_isub dX8_movePanel_90 ?_
      refine wp_iload_n dX8_movePanel_91 rfl ?_
      refine wp_iload_n dX8_movePanel_92 rfl ?_
      obtain ⟨Mid47, hm46, hk49⟩ := h
      refine wp_callS (M' := M_X8_inserts) (As := [vr (gP σ41 326 a0), vi (8 * x22), vi ((gA σ41 (gP σ41 325 a0) x22) - 1), vi a2, vi a1]) (st := []) dX8_movePanel_93 cee_X8_inserts np_X8_inserts rfl ⟨Nat.le_of_ble_eq_true rfl, Nat.le_of_ble_eq_true rfl, Nat.le_of_ble_eq_true rfl, Nat.le_of_ble_eq_true rfl⟩ wd_1358 wd_1359 (q_small_of (Nat.le_of_ble_eq_true rfl)) hm46 (q_kTv0 (fun σ51 hM52 => ?_)) q_kTv00
      refine wp_less (ac2 := 0) (as2 := 0) (Nat.le_of_ble_eq_true rfl) (Nat.le_of_ble_eq_true rfl) ?_
      have h := hk49 σ51 hM52
      refine wp_aload_n dX8_movePanel_96 rfl ?_
      refine wp_aload_n dX8_movePanel_97 rfl ?_
      obtain ⟨hk54, h⟩ := h
      obtain ⟨Mid55, hm53, hk57⟩ := h
      refine wp_callV (M' := M_X8_stays) (As := []) (st := [vr a0]) (ci := 8) dX8_movePanel_98 cee_X8_stays np_X8_stays rfl ⟨Nat.le_of_ble_eq_true rfl, Nat.le_of_ble_eq_true rfl, Nat.le_of_ble_eq_true rfl, Nat.le_of_ble_eq_true rfl⟩ wd_1361 wd_1363 sel_X8_stays rfl (Or.inl hk54) (q_small_of (Nat.le_of_ble_eq_true rfl)) hm53 (q_kTi0 (fun σ59 v61 hM60 => ?_)) q_kTi00
      refine wp_less (ac2 := 0) (as2 := 0) (Nat.le_of_ble_eq_true rfl) (Nat.le_of_ble_eq_true rfl) ?_
      have h := hk57 σ59 v61 hM60
      obtain ⟨h, hk67⟩ := h
      have key66 : ∀ v64 : Int, v64 = (if v61 = 0 then 2 else 0) → qW g l M_X8_movePanel 0 0 109 [some (vr a0), some (vi a1), some (vi a2), some (vi x22)] [vi v64, vr a0] σ59 Post := by
        intro v64 hv65
        have h := hk67 v64 hv65
        have hr68 : qR v64 := by (rw [hv65]; unfold qR; repeat' split) <;> omega
        obtain ⟨hk69, h⟩ := h
        refine wp_put (v := vi v64) dX8_movePanel_109 fs_RX8_108 (fun h => absurd h (by decide)) hk69 (Or.inl rfl) ?_
        refine wp_nmS (fun σ70 hs71 => ?_)
        replace h := h σ70 hs71
        refine wp_aload_n dX8_movePanel_112 rfl ?_
        refine wp_get (v := vi v64) dX8_movePanel_113 fl_RX8_108 (by rw [hs71]; exact hk69) (by rw [hs71]; exact q_memI) ?_
        refine wp_if_le (tgt := 123) dX8_movePanel_116 (by decide) hr68 (fun c72 => ?_) (fun c72 => ?_)
        · replace h := h.1 c72
          refine wp_aload_n dX8_movePanel_123 rfl ?_
          refine wp_iload_n dX8_movePanel_124 rfl ?_
          obtain ⟨v74, hm73, h⟩ := h
          refine wp_callV (M' := M_X8_changed) (As := [vi x22]) (st := []) (ci := 8) dX8_movePanel_125 cee_X8_changed np_X8_changed rfl ⟨Nat.le_of_ble_eq_true rfl, Nat.le_of_ble_eq_true rfl, Nat.le_of_ble_eq_true rfl, Nat.le_of_ble_eq_true rfl⟩ wd_1423 wd_1425 sel_X8_changed rfl (Or.inl (by rw [hs71]; exact hk69)) (q_small_of (Nat.le_of_ble_eq_true rfl)) hm73 (q_kPi ?_) q_kPi0
          refine wp_less (ac2 := 0) (as2 := 0) (Nat.le_of_ble_eq_true rfl) (Nat.le_of_ble_eq_true rfl) ?_
          exact wp_ret_i dX8_movePanel_128 rfl rfl h
        · replace h := h.2 c72
          refine wp_iconst dX8_movePanel_119 ?_
          refine wp_goto (tgt := 128) dX8_movePanel_120 (by decide) ?_
          exact wp_ret_i dX8_movePanel_128 rfl rfl h
      have hr75 := h
      refine wp_if_eq (tgt := 108) dX8_movePanel_101 (by decide) hr75 (fun c76 => ?_) (fun c76 => ?_)
      · refine wp_iconst dX8_movePanel_108 ?_
        exact key66 _ (by rw [if_pos c76])
      · refine wp_iconst dX8_movePanel_104 ?_
        refine wp_goto (tgt := 109) dX8_movePanel_105 (by decide) ?_
        exact key66 _ (by rw [if_neg c76])
    · replace h := h.2 c21
      refine wp_aload_n dX8_movePanel_29 rfl ?_
      refine wp_iconst dX8_movePanel_30 ?_
      obtain ⟨Mid78, hm77, hk80⟩ := h
      refine wp_callV (M' := M_X8_fails) (As := [vi 1]) (st := []) (ci := 8) dX8_movePanel_31 cee_X8_fails np_X8_fails rfl ⟨Nat.le_of_ble_eq_true rfl, Nat.le_of_ble_eq_true rfl, Nat.le_of_ble_eq_true rfl, Nat.le_of_ble_eq_true rfl⟩ wd_1347 wd_1349 sel_X8_fails rfl (Or.inl hk2) (q_small_of (Nat.le_of_ble_eq_true rfl)) hm77 (q_kTi0 (fun σ82 v84 hM83 => ?_)) q_kTi00
      refine wp_less (ac2 := 0) (as2 := 0) (Nat.le_of_ble_eq_true rfl) (Nat.le_of_ble_eq_true rfl) ?_
      have h := hk80 σ82 v84 hM83
      exact wp_ret_i dX8_movePanel_34 rfl rfl h

set_option maxRecDepth 100000 in
set_option maxHeartbeats 4000000 in
theorem wm_X8_neighbour {g : qG} {l : Launch} (hl : l.stackTraces = false) {a0 : Nat} {a1 : Int} {a2 : Int} {σ : qS} {Post : qS → qRs → Prop}
    (h : ∃ Inv3 : Nat → Int → Int → Prop, (∃ n : Nat, Inv3 n ((-1)) 0) ∧ ∀ (n4 : Nat) (x1 : Int) (x2 : Int), Inv3 n4 x1 x2 → (gK σ a0 = 9 ∧ qR x2 ∧ qR (gI σ 322 a0) ∧ (((gI σ 322 a0) ≤ x2 → Post σ (.inl (some (vi x1)))) ∧ (¬ ((gI σ 322 a0) ≤ x2) → q_isA σ 0 (gP σ 329 a0) ∧ q_in σ (gP σ 329 a0) x2 ∧ qR (gA σ (gP σ 329 a0) x2) ∧ (((gA σ (gP σ 329 a0) x2) = ((-1)) → ∀ x17 : Int, x17 = x2 + 1 → ∃ n19 : Nat, n19 < n4 ∧ Inv3 n19 x1 x17) ∧ (¬ ((gA σ (gP σ 329 a0) x2) = ((-1))) → qR a2 ∧ ((a2 ≤ 0 → (∃ v23 : Int, qMet g l M_X8_rank [vr a0, vi x2] σ (qPi σ v23) ∧ ((∃ v25 : Int, qMet g l M_X8_rank [vr a0, vi a1] σ (qPi σ v25) ∧ (((qR v23 ∧ qR v25) ∧ ∀ v29 : Int, v29 = (if v25 ≤ v23 then 0 else 1) → ((v29 = 0 → ∀ x36 : Int, x36 = x2 + 1 → ∃ n38 : Nat, n38 < n4 ∧ Inv3 n38 x1 x36) ∧ (¬ (v29 = 0) → qR x1 ∧ ((x1 = ((-1)) → ∀ x41 : Int, x41 = x2 + 1 → ∃ n43 : Nat, n43 < n4 ∧ Inv3 n43 x2 x41) ∧ (¬ (x1 = ((-1))) → ((a2 ≤ 0 → (∃ v46 : Int, qMet g l M_X8_rank [vr a0, vi x2] σ (qPi σ v46) ∧ ((∃ v48 : Int, qMet g l M_X8_rank [vr a0, vi x1] σ (qPi σ v48) ∧ (((qR v46 ∧ qR v48) ∧ ∀ v52 : Int, v52 = (if v46 ≤ v48 then 0 else 1) → (∀ v59 : Int, v59 = (if v52 = 0 then x1 else x2) → ∀ x63 : Int, x63 = x2 + 1 → ∃ n65 : Nat, n65 < n4 ∧ Inv3 n65 v59 x63))))))) ∧ (¬ (a2 ≤ 0) → (∃ v71 : Int, qMet g l M_X8_rank [vr a0, vi x2] σ (qPi σ v71) ∧ ((∃ v73 : Int, qMet g l M_X8_rank [vr a0, vi x1] σ (qPi σ v73) ∧ (((qR v71 ∧ qR v73) ∧ ∀ v77 : Int, v77 = (if v73 ≤ v71 then 0 else 1) → (∀ v84 : Int, v84 = (if v77 = 0 then x1 else x2) → ∀ x88 : Int, x88 = x2 + 1 → ∃ n90 : Nat, n90 < n4 ∧ Inv3 n90 v84 x88)))))))))))))))))) ∧ (¬ (a2 ≤ 0) → (∃ v99 : Int, qMet g l M_X8_rank [vr a0, vi x2] σ (qPi σ v99) ∧ ((∃ v101 : Int, qMet g l M_X8_rank [vr a0, vi a1] σ (qPi σ v101) ∧ (((qR v99 ∧ qR v101) ∧ ∀ v105 : Int, v105 = (if v99 ≤ v101 then 0 else 1) → ((v105 = 0 → ∀ x112 : Int, x112 = x2 + 1 → ∃ n114 : Nat, n114 < n4 ∧ Inv3 n114 x1 x112) ∧ (¬ (v105 = 0) → qR x1 ∧ ((x1 = ((-1)) → ∀ x117 : Int, x117 = x2 + 1 → ∃ n119 : Nat, n119 < n4 ∧ Inv3 n119 x2 x117) ∧ (¬ (x1 = ((-1))) → ((a2 ≤ 0 → (∃ v122 : Int, qMet g l M_X8_rank [vr a0, vi x2] σ (qPi σ v122) ∧ ((∃ v124 : Int, qMet g l M_X8_rank [vr a0, vi x1] σ (qPi σ v124) ∧ (((qR v122 ∧ qR v124) ∧ ∀ v128 : Int, v128 = (if v122 ≤ v124 then 0 else 1) → (∀ v135 : Int, v135 = (if v128 = 0 then x1 else x2) → ∀ x139 : Int, x139 = x2 + 1 → ∃ n141 : Nat, n141 < n4 ∧ Inv3 n141 v135 x139))))))) ∧ (¬ (a2 ≤ 0) → (∃ v147 : Int, qMet g l M_X8_rank [vr a0, vi x2] σ (qPi σ v147) ∧ ((∃ v149 : Int, qMet g l M_X8_rank [vr a0, vi x1] σ (qPi σ v149) ∧ (((qR v147 ∧ qR v149) ∧ ∀ v153 : Int, v153 = (if v149 ≤ v147 then 0 else 1) → (∀ v160 : Int, v160 = (if v153 = 0 then x1 else x2) → ∀ x164 : Int, x164 = x2 + 1 → ∃ n166 : Nat, n166 < n4 ∧ Inv3 n166 v160 x164))))))))))))))))))))))))) : qMet g l M_X8_neighbour [vr a0, vi a1, vi a2] σ Post := by
  refine qMet_of hl (by decide +kernel) (Nat.le_of_ble_eq_true rfl) (List.forall_mem_cons.mpr ⟨trivial, List.forall_mem_cons.mpr ⟨trivial, List.forall_mem_cons.mpr ⟨trivial, fun _ h => nomatch h⟩⟩⟩) ?_
  show qW g l M_X8_neighbour 0 0 0 [some (vr a0), some (vi a1), some (vi a2), none, none, none, none] [] σ Post
  refine wp_iconst dX8_neighbour_0 ?_
  refine wp_istore_n' (ls' := [some (vr a0), some (vi a1), some (vi a2), some (vi ((-1))), none, none, none]) dX8_neighbour_1 (Nat.le_of_ble_eq_true rfl) rfl ?_
  refine wp_iconst dX8_neighbour_2 ?_
  refine wp_istore' (ls' := [some (vr a0), some (vi a1), some (vi a2), some (vi ((-1))), some (vi 0), none, none]) dX8_neighbour_3 (Nat.le_of_ble_eq_true rfl) rfl ?_
  obtain ⟨Inv3, ⟨n4_0, h08⟩, hb7⟩ := h
  have loop174 : ∀ (n4 : Nat) (x1 : Int) (x2 : Int), Inv3 n4 x1 x2 → qW g l M_X8_neighbour 0 0 5 [some (vr a0), some (vi a1), some (vi a2), some (vi x1), some (vi x2), none, none] [] σ Post := by
    intro n4
    induction n4 using Nat.strongRecOn with
    | ind n4 ih5 =>
      intro x1 x2 hI6
      have h := hb7 n4 x1 x2 hI6
      refine wp_iload dX8_neighbour_5 rfl ?_
      refine wp_aload_n dX8_neighbour_7 rfl ?_
      obtain ⟨hk9, h⟩ := h
      refine wp_get (v := vi (gI σ 322 a0)) dX8_neighbour_8 fl_RX8_118 hk9 rfl ?_
      obtain ⟨hr10, hr11, h⟩ := h
      refine wp_icmp_ge (tgt := 137) dX8_neighbour_11 (by decide) hr10 hr11 (fun c12 => ?_) (fun c12 => ?_)
      · replace h := h.1 c12
        refine wp_iload_n dX8_neighbour_137 rfl ?_
        exact wp_ret_i dX8_neighbour_138 rfl rfl h
      · replace h := h.2 c12
        refine wp_aload_n dX8_neighbour_14 rfl ?_
        refine wp_get (v := vr (gP σ 329 a0)) dX8_neighbour_15 fl_RX8_26 hk9 rfl ?_
        refine wp_iload dX8_neighbour_18 rfl ?_
        obtain ⟨ha13, hi14, h⟩ := h
        refine wp_iaload dX8_neighbour_20 ha13 hi14 ?_
        refine wp_iconst dX8_neighbour_21 ?_
        obtain ⟨hr15, h⟩ := h
        refine wp_icmp_eq (tgt := 64) dX8_neighbour_22 (by decide) hr15 (by unfold qR; omega) (fun c16 => ?_) (fun c16 => ?_)
        · replace h := h.1 c16
          refine wp_iconst dX8_neighbour_64 ?_
          refine wp_istore' (ls' := [some (vr a0), some (vi a1), some (vi a2), some (vi x1), some (vi x2), some (vi 0), none]) dX8_neighbour_65 (Nat.le_of_ble_eq_true rfl) rfl ?_
          refine wp_iload dX8_neighbour_67 rfl ?_
          refine wp_if_eq (tgt := 116) dX8_neighbour_69 (by decide) (by unfold qR; omega) (fun _ => ?_) (fun c9 => absurd (by decide) c9)
          refine wp_iconst dX8_neighbour_116 ?_
          refine wp_istore' (ls' := [some (vr a0), some (vi a1), some (vi a2), some (vi x1), some (vi x2), some (vi 0), some (vi 0)]) dX8_neighbour_117 (Nat.le_of_ble_eq_true rfl) rfl ?_
          refine wp_iload dX8_neighbour_119 rfl ?_
          refine wp_if_eq (tgt := 129) dX8_neighbour_121 (by decide) (by unfold qR; omega) (fun _ => ?_) (fun c9 => absurd (by decide) c9)
          refine wp_iload_n dX8_neighbour_129 rfl ?_
          refine wp_istore_n' (ls' := [some (vr a0), some (vi a1), some (vi a2), some (vi x1), some (vi x2), some (vi 0), some (vi 0)]) dX8_neighbour_130 (Nat.le_of_ble_eq_true rfl) rfl ?_
          refine wp_nmT (x2 + 1) (fun x17 hx18 => ?_)
          replace h := h x17 hx18
          refine wp_iinc' (z' := x17) (ls' := [some (vr a0), some (vi a1), some (vi a2), some (vi x1), some (vi x17), some (vi 0), some (vi 0)]) dX8_neighbour_131 (Nat.le_of_ble_eq_true rfl) rfl hx18 rfl ?_
          refine wp_goto (tgt := 5) dX8_neighbour_134 (by decide) ?_
          obtain ⟨n19, hlt, h⟩ := h
          exact wp_lsub (ls' := [some (vr a0), some (vi a1), some (vi a2), some (vi x1), some (vi x17), none, none]) ⟨rfl, ⟨rfl, ⟨rfl, ⟨rfl, ⟨rfl, trivial⟩⟩⟩⟩⟩ (ih5 n19 hlt _ _ h)
        · replace h := h.2 c16
          refine wp_iload_n dX8_neighbour_25 rfl ?_
          obtain ⟨hr20, h⟩ := h
          refine wp_if_le (tgt := 46) dX8_neighbour_26 (by decide) hr20 (fun c21 => ?_) (fun c21 => ?_)
          · replace h := h.1 c21
            refine wp_aload_n dX8_neighbour_46 rfl ?_
            refine wp_iload dX8_neighbour_47 rfl ?_
            obtain ⟨v23, hm22, h⟩ := h
            refine wp_callV (M' := M_X8_rank) (As := [vi x2]) (st := []) (ci := 8) dX8_neighbour_49 cee_X8_rank np_X8_rank rfl ⟨Nat.le_of_ble_eq_true rfl, Nat.le_of_ble_eq_true rfl, Nat.le_of_ble_eq_true rfl, Nat.le_of_ble_eq_true rfl⟩ wd_1408 wd_1410 sel_X8_rank rfl (Or.inl hk9) (q_small_of (Nat.le_of_ble_eq_true rfl)) hm22 (q_kPi ?_) q_kPi0
            refine wp_less (ac2 := 0) (as2 := 0) (Nat.le_of_ble_eq_true rfl) (Nat.le_of_ble_eq_true rfl) ?_
            refine wp_aload_n dX8_neighbour_52 rfl ?_
            refine wp_iload_n dX8_neighbour_53 rfl ?_
            obtain ⟨v25, hm24, h⟩ := h
            refine wp_callV (M' := M_X8_rank) (As := [vi a1]) (st := [vi v23]) (ci := 8) dX8_neighbour_54 cee_X8_rank np_X8_rank rfl ⟨Nat.le_of_ble_eq_true rfl, Nat.le_of_ble_eq_true rfl, Nat.le_of_ble_eq_true rfl, Nat.le_of_ble_eq_true rfl⟩ wd_1408 wd_1410 sel_X8_rank rfl (Or.inl hk9) (q_small_of (Nat.le_of_ble_eq_true rfl)) hm24 (q_kPi ?_) q_kPi0
            refine wp_less (ac2 := 0) (as2 := 0) (Nat.le_of_ble_eq_true rfl) (Nat.le_of_ble_eq_true rfl) ?_
            obtain ⟨h, hk32⟩ := h
            have key31 : ∀ v29 : Int, v29 = (if v25 ≤ v23 then 0 else 1) → qW g l M_X8_neighbour 0 0 65 [some (vr a0), some (vi a1), some (vi a2), some (vi x1), some (vi x2), none, none] [vi v29] σ Post := by
              intro v29 hv30
              have h := hk32 v29 hv30
              have hr33 : qR v29 := by (rw [hv30]; unfold qR; repeat' split) <;> omega
              have hz34 : v29 = 0 ∨ v29 = 1 := by (rw [hv30]; repeat' split) <;> first | exact Or.inl rfl | exact Or.inr rfl
              refine wp_istore' (ls' := [some (vr a0), some (vi a1), some (vi a2), some (vi x1), some (vi x2), some (vi v29), none]) dX8_neighbour_65 (Nat.le_of_ble_eq_true rfl) rfl ?_
              refine wp_iload dX8_neighbour_67 rfl ?_
              refine wp_if_eq (tgt := 116) dX8_neighbour_69 (by decide) hr33 (fun c35 => ?_) (fun c35 => ?_)
              · replace h := h.1 c35
                refine wp_iconst dX8_neighbour_116 ?_
                refine wp_istore' (ls' := [some (vr a0), some (vi a1), some (vi a2), some (vi x1), some (vi x2), some (vi v29), some (vi 0)]) dX8_neighbour_117 (Nat.le_of_ble_eq_true rfl) rfl ?_
                refine wp_iload dX8_neighbour_119 rfl ?_
                refine wp_if_eq (tgt := 129) dX8_neighbour_121 (by decide) (by unfold qR; omega) (fun _ => ?_) (fun c9 => absurd (by decide) c9)
                refine wp_iload_n dX8_neighbour_129 rfl ?_
                refine wp_istore_n' (ls' := [some (vr a0), some (vi a1), some (vi a2), some (vi x1), some (vi x2), some (vi v29), some (vi 0)]) dX8_neighbour_130 (Nat.le_of_ble_eq_true rfl) rfl ?_
                refine wp_nmT (x2 + 1) (fun x36 hx37 => ?_)
                replace h := h x36 hx37
                refine wp_iinc' (z' := x36) (ls' := [some (vr a0), some (vi a1), some (vi a2), some (vi x1), some (vi x36), some (vi v29), some (vi 0)]) dX8_neighbour_131 (Nat.le_of_ble_eq_true rfl) rfl hx37 rfl ?_
                refine wp_goto (tgt := 5) dX8_neighbour_134 (by decide) ?_
                obtain ⟨n38, hlt, h⟩ := h
                exact wp_lsub (ls' := [some (vr a0), some (vi a1), some (vi a2), some (vi x1), some (vi x36), none, none]) ⟨rfl, ⟨rfl, ⟨rfl, ⟨rfl, ⟨rfl, trivial⟩⟩⟩⟩⟩ (ih5 n38 hlt _ _ h)
              · replace h := h.2 c35
                refine wp_iload_n dX8_neighbour_72 rfl ?_
                refine wp_iconst dX8_neighbour_73 ?_
                obtain ⟨hr39, h⟩ := h
                refine wp_icmp_eq (tgt := 112) dX8_neighbour_74 (by decide) hr39 (by unfold qR; omega) (fun c40 => ?_) (fun c40 => ?_)
                · replace h := h.1 c40
                  refine wp_iconst dX8_neighbour_112 ?_
                  refine wp_goto (tgt := 117) dX8_neighbour_113 (by decide) ?_
                  refine wp_istore' (ls' := [some (vr a0), some (vi a1), some (vi a2), some (vi x1), some (vi x2), some (vi v29), some (vi 1)]) dX8_neighbour_117 (Nat.le_of_ble_eq_true rfl) rfl ?_
                  refine wp_iload dX8_neighbour_119 rfl ?_
                  refine wp_if_eq (tgt := 129) dX8_neighbour_121 (by decide) (by unfold qR; omega) (fun c9 => absurd c9 (by decide)) (fun _ => ?_)
                  refine wp_iload dX8_neighbour_124 rfl ?_
                  refine wp_goto (tgt := 130) dX8_neighbour_126 (by decide) ?_
                  refine wp_istore_n' (ls' := [some (vr a0), some (vi a1), some (vi a2), some (vi x2), some (vi x2), some (vi v29), some (vi 1)]) dX8_neighbour_130 (Nat.le_of_ble_eq_true rfl) rfl ?_
                  refine wp_nmT (x2 + 1) (fun x41 hx42 => ?_)
                  replace h := h x41 hx42
                  refine wp_iinc' (z' := x41) (ls' := [some (vr a0), some (vi a1), some (vi a2), some (vi x2), some (vi x41), some (vi v29), some (vi 1)]) dX8_neighbour_131 (Nat.le_of_ble_eq_true rfl) rfl hx42 rfl ?_
                  refine wp_goto (tgt := 5) dX8_neighbour_134 (by decide) ?_
                  obtain ⟨n43, hlt, h⟩ := h
                  exact wp_lsub (ls' := [some (vr a0), some (vi a1), some (vi a2), some (vi x2), some (vi x41), none, none]) ⟨rfl, ⟨rfl, ⟨rfl, ⟨rfl, ⟨rfl, trivial⟩⟩⟩⟩⟩ (ih5 n43 hlt _ _ h)
                · replace h := h.2 c40
                  refine wp_iload_n dX8_neighbour_77 rfl ?_
                  refine wp_if_le (tgt := 98) dX8_neighbour_78 (by decide) hr20 (fun c44 => ?_) (fun c44 => ?_)
                  · replace h := h.1 c44
                    refine wp_aload_n dX8_neighbour_98 rfl ?_
                    refine wp_iload dX8_neighbour_99 rfl ?_
                    obtain ⟨v46, hm45, h⟩ := h
                    refine wp_callV (M' := M_X8_rank) (As := [vi x2]) (st := []) (ci := 8) dX8_neighbour_101 cee_X8_rank np_X8_rank rfl ⟨Nat.le_of_ble_eq_true rfl, Nat.le_of_ble_eq_true rfl, Nat.le_of_ble_eq_true rfl, Nat.le_of_ble_eq_true rfl⟩ wd_1408 wd_1410 sel_X8_rank rfl (Or.inl hk9) (q_small_of (Nat.le_of_ble_eq_true rfl)) hm45 (q_kPi ?_) q_kPi0
                    refine wp_less (ac2 := 0) (as2 := 0) (Nat.le_of_ble_eq_true rfl) (Nat.le_of_ble_eq_true rfl) ?_
                    refine wp_aload_n dX8_neighbour_104 rfl ?_
                    refine wp_iload_n dX8_neighbour_105 rfl ?_
                    obtain ⟨v48, hm47, h⟩ := h
                    refine wp_callV (M' := M_X8_rank) (As := [vi x1]) (st := [vi v46]) (ci := 8) dX8_neighbour_106 cee_X8_rank np_X8_rank rfl ⟨Nat.le_of_ble_eq_true rfl, Nat.le_of_ble_eq_true rfl, Nat.le_of_ble_eq_true rfl, Nat.le_of_ble_eq_true rfl⟩ wd_1408 wd_1410 sel_X8_rank rfl (Or.inl hk9) (q_small_of (Nat.le_of_ble_eq_true rfl)) hm47 (q_kPi ?_) q_kPi0
                    refine wp_less (ac2 := 0) (as2 := 0) (Nat.le_of_ble_eq_true rfl) (Nat.le_of_ble_eq_true rfl) ?_
                    obtain ⟨h, hk55⟩ := h
                    have key54 : ∀ v52 : Int, v52 = (if v46 ≤ v48 then 0 else 1) → qW g l M_X8_neighbour 0 0 117 [some (vr a0), some (vi a1), some (vi a2), some (vi x1), some (vi x2), some (vi v29), none] [vi v52] σ Post := by
                      intro v52 hv53
                      have h := hk55 v52 hv53
                      have hr56 : qR v52 := by (rw [hv53]; unfold qR; repeat' split) <;> omega
                      have hz57 : v52 = 0 ∨ v52 = 1 := by (rw [hv53]; repeat' split) <;> first | exact Or.inl rfl | exact Or.inr rfl
                      refine wp_istore' (ls' := [some (vr a0), some (vi a1), some (vi a2), some (vi x1), some (vi x2), some (vi v29), some (vi v52)]) dX8_neighbour_117 (Nat.le_of_ble_eq_true rfl) rfl ?_
                      refine wp_iload dX8_neighbour_119 rfl ?_
                      have key61 : ∀ v59 : Int, v59 = (if v52 = 0 then x1 else x2) → qW g l M_X8_neighbour 0 0 130 [some (vr a0), some (vi a1), some (vi a2), some (vi x1), some (vi x2), some (vi v29), some (vi v52)] [vi v59] σ Post := by
                        intro v59 hv60
                        replace h := h v59 hv60
                        refine wp_istore_n' (ls' := [some (vr a0), some (vi a1), some (vi a2), some (vi v59), some (vi x2), some (vi v29), some (vi v52)]) dX8_neighbour_130 (Nat.le_of_ble_eq_true rfl) rfl ?_
                        refine wp_nmT (x2 + 1) (fun x63 hx64 => ?_)
                        replace h := h x63 hx64
                        refine wp_iinc' (z' := x63) (ls' := [some (vr a0), some (vi a1), some (vi a2), some (vi v59), some (vi x63), some (vi v29), some (vi v52)]) dX8_neighbour_131 (Nat.le_of_ble_eq_true rfl) rfl hx64 rfl ?_
                        refine wp_goto (tgt := 5) dX8_neighbour_134 (by decide) ?_
                        obtain ⟨n65, hlt, h⟩ := h
                        exact wp_lsub (ls' := [some (vr a0), some (vi a1), some (vi a2), some (vi v59), some (vi x63), none, none]) ⟨rfl, ⟨rfl, ⟨rfl, ⟨rfl, ⟨rfl, trivial⟩⟩⟩⟩⟩ (ih5 n65 hlt _ _ h)
                      refine wp_if_eq (tgt := 129) dX8_neighbour_121 (by decide) hr56 (fun c66 => ?_) (fun c66 => ?_)
                      · refine wp_iload_n dX8_neighbour_129 rfl ?_
                        exact key61 _ (by rw [if_pos c66])
                      · refine wp_iload dX8_neighbour_124 rfl ?_
                        refine wp_goto (tgt := 130) dX8_neighbour_126 (by decide) ?_
                        exact key61 _ (by rw [if_neg c66])
                    obtain ⟨hr67, hr68⟩ := h
                    refine wp_icmp_le (tgt := 116) dX8_neighbour_109 (by decide) hr67 hr68 (fun c69 => ?_) (fun c69 => ?_)
                    · refine wp_iconst dX8_neighbour_116 ?_
                      exact key54 _ (by rw [if_pos c69])
                    · refine wp_iconst dX8_neighbour_112 ?_
                      refine wp_goto (tgt := 117) dX8_neighbour_113 (by decide) ?_
                      exact key54 _ (by rw [if_neg c69])
                  · replace h := h.2 c44
                    refine wp_aload_n dX8_neighbour_81 rfl ?_
                    refine wp_iload dX8_neighbour_82 rfl ?_
                    obtain ⟨v71, hm70, h⟩ := h
                    refine wp_callV (M' := M_X8_rank) (As := [vi x2]) (st := []) (ci := 8) dX8_neighbour_84 cee_X8_rank np_X8_rank rfl ⟨Nat.le_of_ble_eq_true rfl, Nat.le_of_ble_eq_true rfl, Nat.le_of_ble_eq_true rfl, Nat.le_of_ble_eq_true rfl⟩ wd_1408 wd_1410 sel_X8_rank rfl (Or.inl hk9) (q_small_of (Nat.le_of_ble_eq_true rfl)) hm70 (q_kPi ?_) q_kPi0
                    refine wp_less (ac2 := 0) (as2 := 0) (Nat.le_of_ble_eq_true rfl) (Nat.le_of_ble_eq_true rfl) ?_
                    refine wp_aload_n dX8_neighbour_87 rfl ?_
                    refine wp_iload_n dX8_neighbour_88 rfl ?_
                    obtain ⟨v73, hm72, h⟩ := h
                    refine wp_callV (M' := M_X8_rank) (As := [vi x1]) (st := [vi v71]) (ci := 8) dX8_neighbour_89 cee_X8_rank np_X8_rank rfl ⟨Nat.le_of_ble_eq_true rfl, Nat.le_of_ble_eq_true rfl, Nat.le_of_ble_eq_true rfl, Nat.le_of_ble_eq_true rfl⟩ wd_1408 wd_1410 sel_X8_rank rfl (Or.inl hk9) (q_small_of (Nat.le_of_ble_eq_true rfl)) hm72 (q_kPi ?_) q_kPi0
                    refine wp_less (ac2 := 0) (as2 := 0) (Nat.le_of_ble_eq_true rfl) (Nat.le_of_ble_eq_true rfl) ?_
                    obtain ⟨h, hk80⟩ := h
                    have key79 : ∀ v77 : Int, v77 = (if v73 ≤ v71 then 0 else 1) → qW g l M_X8_neighbour 0 0 117 [some (vr a0), some (vi a1), some (vi a2), some (vi x1), some (vi x2), some (vi v29), none] [vi v77] σ Post := by
                      intro v77 hv78
                      have h := hk80 v77 hv78
                      have hr81 : qR v77 := by (rw [hv78]; unfold qR; repeat' split) <;> omega
                      have hz82 : v77 = 0 ∨ v77 = 1 := by (rw [hv78]; repeat' split) <;> first | exact Or.inl rfl | exact Or.inr rfl
                      refine wp_istore' (ls' := [some (vr a0), some (vi a1), some (vi a2), some (vi x1), some (vi x2), some (vi v29), some (vi v77)]) dX8_neighbour_117 (Nat.le_of_ble_eq_true rfl) rfl ?_
                      refine wp_iload dX8_neighbour_119 rfl ?_
                      have key86 : ∀ v84 : Int, v84 = (if v77 = 0 then x1 else x2) → qW g l M_X8_neighbour 0 0 130 [some (vr a0), some (vi a1), some (vi a2), some (vi x1), some (vi x2), some (vi v29), some (vi v77)] [vi v84] σ Post := by
                        intro v84 hv85
                        replace h := h v84 hv85
                        refine wp_istore_n' (ls' := [some (vr a0), some (vi a1), some (vi a2), some (vi v84), some (vi x2), some (vi v29), some (vi v77)]) dX8_neighbour_130 (Nat.le_of_ble_eq_true rfl) rfl ?_
                        refine wp_nmT (x2 + 1) (fun x88 hx89 => ?_)
                        replace h := h x88 hx89
                        refine wp_iinc' (z' := x88) (ls' := [some (vr a0), some (vi a1), some (vi a2), some (vi v84), some (vi x88), some (vi v29), some (vi v77)]) dX8_neighbour_131 (Nat.le_of_ble_eq_true rfl) rfl hx89 rfl ?_
                        refine wp_goto (tgt := 5) dX8_neighbour_134 (by decide) ?_
                        obtain ⟨n90, hlt, h⟩ := h
                        exact wp_lsub (ls' := [some (vr a0), some (vi a1), some (vi a2), some (vi v84), some (vi x88), none, none]) ⟨rfl, ⟨rfl, ⟨rfl, ⟨rfl, ⟨rfl, trivial⟩⟩⟩⟩⟩ (ih5 n90 hlt _ _ h)
                      refine wp_if_eq (tgt := 129) dX8_neighbour_121 (by decide) hr81 (fun c91 => ?_) (fun c91 => ?_)
                      · refine wp_iload_n dX8_neighbour_129 rfl ?_
                        exact key86 _ (by rw [if_pos c91])
                      · refine wp_iload dX8_neighbour_124 rfl ?_
                        refine wp_goto (tgt := 130) dX8_neighbour_126 (by decide) ?_
                        exact key86 _ (by rw [if_neg c91])
                    obtain ⟨hr92, hr93⟩ := h
                    refine wp_icmp_ge (tgt := 116) dX8_neighbour_92 (by decide) hr92 hr93 (fun c94 => ?_) (fun c94 => ?_)
                    · refine wp_iconst dX8_neighbour_116 ?_
                      exact key79 _ (by rw [if_pos c94])
                    · refine wp_goto (tgt := 112) dX8_neighbour_95 (by decide) ?_
                      refine wp_iconst dX8_neighbour_112 ?_
                      refine wp_goto (tgt := 117) dX8_neighbour_113 (by decide) ?_
                      exact key79 _ (by rw [if_neg c94])
            obtain ⟨hr95, hr96⟩ := h
            refine wp_icmp_ge (tgt := 64) dX8_neighbour_57 (by decide) hr95 hr96 (fun c97 => ?_) (fun c97 => ?_)
            · refine wp_iconst dX8_neighbour_64 ?_
              exact key31 _ (by rw [if_pos c97])
            · refine wp_iconst dX8_neighbour_60 ?_
              refine wp_goto (tgt := 65) dX8_neighbour_61 (by decide) ?_
              exact key31 _ (by rw [if_neg c97])
          · replace h := h.2 c21
            refine wp_aload_n dX8_neighbour_29 rfl ?_
            refine wp_iload dX8_neighbour_30 rfl ?_
            obtain ⟨v99, hm98, h⟩ := h
            refine wp_callV (M' := M_X8_rank) (As := [vi x2]) (st := []) (ci := 8) dX8_neighbour_32 cee_X8_rank np_X8_rank rfl ⟨Nat.le_of_ble_eq_true rfl, Nat.le_of_ble_eq_true rfl, Nat.le_of_ble_eq_true rfl, Nat.le_of_ble_eq_true rfl⟩ wd_1408 wd_1410 sel_X8_rank rfl (Or.inl hk9) (q_small_of (Nat.le_of_ble_eq_true rfl)) hm98 (q_kPi ?_) q_kPi0
            refine wp_less (ac2 := 0) (as2 := 0) (Nat.le_of_ble_eq_true rfl) (Nat.le_of_ble_eq_true rfl) ?_
            refine wp_aload_n dX8_neighbour_35 rfl ?_
            refine wp_iload_n dX8_neighbour_36 rfl ?_
            obtain ⟨v101, hm100, h⟩ := h
            refine wp_callV (M' := M_X8_rank) (As := [vi a1]) (st := [vi v99]) (ci := 8) dX8_neighbour_37 cee_X8_rank np_X8_rank rfl ⟨Nat.le_of_ble_eq_true rfl, Nat.le_of_ble_eq_true rfl, Nat.le_of_ble_eq_true rfl, Nat.le_of_ble_eq_true rfl⟩ wd_1408 wd_1410 sel_X8_rank rfl (Or.inl hk9) (q_small_of (Nat.le_of_ble_eq_true rfl)) hm100 (q_kPi ?_) q_kPi0
            refine wp_less (ac2 := 0) (as2 := 0) (Nat.le_of_ble_eq_true rfl) (Nat.le_of_ble_eq_true rfl) ?_
            obtain ⟨h, hk108⟩ := h
            have key107 : ∀ v105 : Int, v105 = (if v99 ≤ v101 then 0 else 1) → qW g l M_X8_neighbour 0 0 65 [some (vr a0), some (vi a1), some (vi a2), some (vi x1), some (vi x2), none, none] [vi v105] σ Post := by
              intro v105 hv106
              have h := hk108 v105 hv106
              have hr109 : qR v105 := by (rw [hv106]; unfold qR; repeat' split) <;> omega
              have hz110 : v105 = 0 ∨ v105 = 1 := by (rw [hv106]; repeat' split) <;> first | exact Or.inl rfl | exact Or.inr rfl
              refine wp_istore' (ls' := [some (vr a0), some (vi a1), some (vi a2), some (vi x1), some (vi x2), some (vi v105), none]) dX8_neighbour_65 (Nat.le_of_ble_eq_true rfl) rfl ?_
              refine wp_iload dX8_neighbour_67 rfl ?_
              refine wp_if_eq (tgt := 116) dX8_neighbour_69 (by decide) hr109 (fun c111 => ?_) (fun c111 => ?_)
              · replace h := h.1 c111
                refine wp_iconst dX8_neighbour_116 ?_
                refine wp_istore' (ls' := [some (vr a0), some (vi a1), some (vi a2), some (vi x1), some (vi x2), some (vi v105), some (vi 0)]) dX8_neighbour_117 (Nat.le_of_ble_eq_true rfl) rfl ?_
                refine wp_iload dX8_neighbour_119 rfl ?_
                refine wp_if_eq (tgt := 129) dX8_neighbour_121 (by decide) (by unfold qR; omega) (fun _ => ?_) (fun c9 => absurd (by decide) c9)
                refine wp_iload_n dX8_neighbour_129 rfl ?_
                refine wp_istore_n' (ls' := [some (vr a0), some (vi a1), some (vi a2), some (vi x1), some (vi x2), some (vi v105), some (vi 0)]) dX8_neighbour_130 (Nat.le_of_ble_eq_true rfl) rfl ?_
                refine wp_nmT (x2 + 1) (fun x112 hx113 => ?_)
                replace h := h x112 hx113
                refine wp_iinc' (z' := x112) (ls' := [some (vr a0), some (vi a1), some (vi a2), some (vi x1), some (vi x112), some (vi v105), some (vi 0)]) dX8_neighbour_131 (Nat.le_of_ble_eq_true rfl) rfl hx113 rfl ?_
                refine wp_goto (tgt := 5) dX8_neighbour_134 (by decide) ?_
                obtain ⟨n114, hlt, h⟩ := h
                exact wp_lsub (ls' := [some (vr a0), some (vi a1), some (vi a2), some (vi x1), some (vi x112), none, none]) ⟨rfl, ⟨rfl, ⟨rfl, ⟨rfl, ⟨rfl, trivial⟩⟩⟩⟩⟩ (ih5 n114 hlt _ _ h)
              · replace h := h.2 c111
                refine wp_iload_n dX8_neighbour_72 rfl ?_
                refine wp_iconst dX8_neighbour_73 ?_
                obtain ⟨hr115, h⟩ := h
                refine wp_icmp_eq (tgt := 112) dX8_neighbour_74 (by decide) hr115 (by unfold qR; omega) (fun c116 => ?_) (fun c116 => ?_)
                · replace h := h.1 c116
                  refine wp_iconst dX8_neighbour_112 ?_
                  refine wp_goto (tgt := 117) dX8_neighbour_113 (by decide) ?_
                  refine wp_istore' (ls' := [some (vr a0), some (vi a1), some (vi a2), some (vi x1), some (vi x2), some (vi v105), some (vi 1)]) dX8_neighbour_117 (Nat.le_of_ble_eq_true rfl) rfl ?_
                  refine wp_iload dX8_neighbour_119 rfl ?_
                  refine wp_if_eq (tgt := 129) dX8_neighbour_121 (by decide) (by unfold qR; omega) (fun c9 => absurd c9 (by decide)) (fun _ => ?_)
                  refine wp_iload dX8_neighbour_124 rfl ?_
                  refine wp_goto (tgt := 130) dX8_neighbour_126 (by decide) ?_
                  refine wp_istore_n' (ls' := [some (vr a0), some (vi a1), some (vi a2), some (vi x2), some (vi x2), some (vi v105), some (vi 1)]) dX8_neighbour_130 (Nat.le_of_ble_eq_true rfl) rfl ?_
                  refine wp_nmT (x2 + 1) (fun x117 hx118 => ?_)
                  replace h := h x117 hx118
                  refine wp_iinc' (z' := x117) (ls' := [some (vr a0), some (vi a1), some (vi a2), some (vi x2), some (vi x117), some (vi v105), some (vi 1)]) dX8_neighbour_131 (Nat.le_of_ble_eq_true rfl) rfl hx118 rfl ?_
                  refine wp_goto (tgt := 5) dX8_neighbour_134 (by decide) ?_
                  obtain ⟨n119, hlt, h⟩ := h
                  exact wp_lsub (ls' := [some (vr a0), some (vi a1), some (vi a2), some (vi x2), some (vi x117), none, none]) ⟨rfl, ⟨rfl, ⟨rfl, ⟨rfl, ⟨rfl, trivial⟩⟩⟩⟩⟩ (ih5 n119 hlt _ _ h)
                · replace h := h.2 c116
                  refine wp_iload_n dX8_neighbour_77 rfl ?_
                  refine wp_if_le (tgt := 98) dX8_neighbour_78 (by decide) hr20 (fun c120 => ?_) (fun c120 => ?_)
                  · replace h := h.1 c120
                    refine wp_aload_n dX8_neighbour_98 rfl ?_
                    refine wp_iload dX8_neighbour_99 rfl ?_
                    obtain ⟨v122, hm121, h⟩ := h
                    refine wp_callV (M' := M_X8_rank) (As := [vi x2]) (st := []) (ci := 8) dX8_neighbour_101 cee_X8_rank np_X8_rank rfl ⟨Nat.le_of_ble_eq_true rfl, Nat.le_of_ble_eq_true rfl, Nat.le_of_ble_eq_true rfl, Nat.le_of_ble_eq_true rfl⟩ wd_1408 wd_1410 sel_X8_rank rfl (Or.inl hk9) (q_small_of (Nat.le_of_ble_eq_true rfl)) hm121 (q_kPi ?_) q_kPi0
                    refine wp_less (ac2 := 0) (as2 := 0) (Nat.le_of_ble_eq_true rfl) (Nat.le_of_ble_eq_true rfl) ?_
                    refine wp_aload_n dX8_neighbour_104 rfl ?_
                    refine wp_iload_n dX8_neighbour_105 rfl ?_
                    obtain ⟨v124, hm123, h⟩ := h
                    refine wp_callV (M' := M_X8_rank) (As := [vi x1]) (st := [vi v122]) (ci := 8) dX8_neighbour_106 cee_X8_rank np_X8_rank rfl ⟨Nat.le_of_ble_eq_true rfl, Nat.le_of_ble_eq_true rfl, Nat.le_of_ble_eq_true rfl, Nat.le_of_ble_eq_true rfl⟩ wd_1408 wd_1410 sel_X8_rank rfl (Or.inl hk9) (q_small_of (Nat.le_of_ble_eq_true rfl)) hm123 (q_kPi ?_) q_kPi0
                    refine wp_less (ac2 := 0) (as2 := 0) (Nat.le_of_ble_eq_true rfl) (Nat.le_of_ble_eq_true rfl) ?_
                    obtain ⟨h, hk131⟩ := h
                    have key130 : ∀ v128 : Int, v128 = (if v122 ≤ v124 then 0 else 1) → qW g l M_X8_neighbour 0 0 117 [some (vr a0), some (vi a1), some (vi a2), some (vi x1), some (vi x2), some (vi v105), none] [vi v128] σ Post := by
                      intro v128 hv129
                      have h := hk131 v128 hv129
                      have hr132 : qR v128 := by (rw [hv129]; unfold qR; repeat' split) <;> omega
                      have hz133 : v128 = 0 ∨ v128 = 1 := by (rw [hv129]; repeat' split) <;> first | exact Or.inl rfl | exact Or.inr rfl
                      refine wp_istore' (ls' := [some (vr a0), some (vi a1), some (vi a2), some (vi x1), some (vi x2), some (vi v105), some (vi v128)]) dX8_neighbour_117 (Nat.le_of_ble_eq_true rfl) rfl ?_
                      refine wp_iload dX8_neighbour_119 rfl ?_
                      have key137 : ∀ v135 : Int, v135 = (if v128 = 0 then x1 else x2) → qW g l M_X8_neighbour 0 0 130 [some (vr a0), some (vi a1), some (vi a2), some (vi x1), some (vi x2), some (vi v105), some (vi v128)] [vi v135] σ Post := by
                        intro v135 hv136
                        replace h := h v135 hv136
                        refine wp_istore_n' (ls' := [some (vr a0), some (vi a1), some (vi a2), some (vi v135), some (vi x2), some (vi v105), some (vi v128)]) dX8_neighbour_130 (Nat.le_of_ble_eq_true rfl) rfl ?_
                        refine wp_nmT (x2 + 1) (fun x139 hx140 => ?_)
                        replace h := h x139 hx140
                        refine wp_iinc' (z' := x139) (ls' := [some (vr a0), some (vi a1), some (vi a2), some (vi v135), some (vi x139), some (vi v105), some (vi v128)]) dX8_neighbour_131 (Nat.le_of_ble_eq_true rfl) rfl hx140 rfl ?_
                        refine wp_goto (tgt := 5) dX8_neighbour_134 (by decide) ?_
                        obtain ⟨n141, hlt, h⟩ := h
                        exact wp_lsub (ls' := [some (vr a0), some (vi a1), some (vi a2), some (vi v135), some (vi x139), none, none]) ⟨rfl, ⟨rfl, ⟨rfl, ⟨rfl, ⟨rfl, trivial⟩⟩⟩⟩⟩ (ih5 n141 hlt _ _ h)
                      refine wp_if_eq (tgt := 129) dX8_neighbour_121 (by decide) hr132 (fun c142 => ?_) (fun c142 => ?_)
                      · refine wp_iload_n dX8_neighbour_129 rfl ?_
                        exact key137 _ (by rw [if_pos c142])
                      · refine wp_iload dX8_neighbour_124 rfl ?_
                        refine wp_goto (tgt := 130) dX8_neighbour_126 (by decide) ?_
                        exact key137 _ (by rw [if_neg c142])
                    obtain ⟨hr143, hr144⟩ := h
                    refine wp_icmp_le (tgt := 116) dX8_neighbour_109 (by decide) hr143 hr144 (fun c145 => ?_) (fun c145 => ?_)
                    · refine wp_iconst dX8_neighbour_116 ?_
                      exact key130 _ (by rw [if_pos c145])
                    · refine wp_iconst dX8_neighbour_112 ?_
                      refine wp_goto (tgt := 117) dX8_neighbour_113 (by decide) ?_
                      exact key130 _ (by rw [if_neg c145])
                  · replace h := h.2 c120
                    refine wp_aload_n dX8_neighbour_81 rfl ?_
                    refine wp_iload dX8_neighbour_82 rfl ?_
                    obtain ⟨v147, hm146, h⟩ := h
                    refine wp_callV (M' := M_X8_rank) (As := [vi x2]) (st := []) (ci := 8) dX8_neighbour_84 cee_X8_rank np_X8_rank rfl ⟨Nat.le_of_ble_eq_true rfl, Nat.le_of_ble_eq_true rfl, Nat.le_of_ble_eq_true rfl, Nat.le_of_ble_eq_true rfl⟩ wd_1408 wd_1410 sel_X8_rank rfl (Or.inl hk9) (q_small_of (Nat.le_of_ble_eq_true rfl)) hm146 (q_kPi ?_) q_kPi0
                    refine wp_less (ac2 := 0) (as2 := 0) (Nat.le_of_ble_eq_true rfl) (Nat.le_of_ble_eq_true rfl) ?_
                    refine wp_aload_n dX8_neighbour_87 rfl ?_
                    refine wp_iload_n dX8_neighbour_88 rfl ?_
                    obtain ⟨v149, hm148, h⟩ := h
                    refine wp_callV (M' := M_X8_rank) (As := [vi x1]) (st := [vi v147]) (ci := 8) dX8_neighbour_89 cee_X8_rank np_X8_rank rfl ⟨Nat.le_of_ble_eq_true rfl, Nat.le_of_ble_eq_true rfl, Nat.le_of_ble_eq_true rfl, Nat.le_of_ble_eq_true rfl⟩ wd_1408 wd_1410 sel_X8_rank rfl (Or.inl hk9) (q_small_of (Nat.le_of_ble_eq_true rfl)) hm148 (q_kPi ?_) q_kPi0
                    refine wp_less (ac2 := 0) (as2 := 0) (Nat.le_of_ble_eq_true rfl) (Nat.le_of_ble_eq_true rfl) ?_
                    obtain ⟨h, hk156⟩ := h
                    have key155 : ∀ v153 : Int, v153 = (if v149 ≤ v147 then 0 else 1) → qW g l M_X8_neighbour 0 0 117 [some (vr a0), some (vi a1), some (vi a2), some (vi x1), some (vi x2), some (vi v105), none] [vi v153] σ Post := by
                      intro v153 hv154
                      have h := hk156 v153 hv154
                      have hr157 : qR v153 := by (rw [hv154]; unfold qR; repeat' split) <;> omega
                      have hz158 : v153 = 0 ∨ v153 = 1 := by (rw [hv154]; repeat' split) <;> first | exact Or.inl rfl | exact Or.inr rfl
                      refine wp_istore' (ls' := [some (vr a0), some (vi a1), some (vi a2), some (vi x1), some (vi x2), some (vi v105), some (vi v153)]) dX8_neighbour_117 (Nat.le_of_ble_eq_true rfl) rfl ?_
                      refine wp_iload dX8_neighbour_119 rfl ?_
                      have key162 : ∀ v160 : Int, v160 = (if v153 = 0 then x1 else x2) → qW g l M_X8_neighbour 0 0 130 [some (vr a0), some (vi a1), some (vi a2), some (vi x1), some (vi x2), some (vi v105), some (vi v153)] [vi v160] σ Post := by
                        intro v160 hv161
                        replace h := h v160 hv161
                        refine wp_istore_n' (ls' := [some (vr a0), some (vi a1), some (vi a2), some (vi v160), some (vi x2), some (vi v105), some (vi v153)]) dX8_neighbour_130 (Nat.le_of_ble_eq_true rfl) rfl ?_
                        refine wp_nmT (x2 + 1) (fun x164 hx165 => ?_)
                        replace h := h x164 hx165
                        refine wp_iinc' (z' := x164) (ls' := [some (vr a0), some (vi a1), some (vi a2), some (vi v160), some (vi x164), some (vi v105), some (vi v153)]) dX8_neighbour_131 (Nat.le_of_ble_eq_true rfl) rfl hx165 rfl ?_
                        refine wp_goto (tgt := 5) dX8_neighbour_134 (by decide) ?_
                        obtain ⟨n166, hlt, h⟩ := h
                        exact wp_lsub (ls' := [some (vr a0), some (vi a1), some (vi a2), some (vi v160), some (vi x164), none, none]) ⟨rfl, ⟨rfl, ⟨rfl, ⟨rfl, ⟨rfl, trivial⟩⟩⟩⟩⟩ (ih5 n166 hlt _ _ h)
                      refine wp_if_eq (tgt := 129) dX8_neighbour_121 (by decide) hr157 (fun c167 => ?_) (fun c167 => ?_)
                      · refine wp_iload_n dX8_neighbour_129 rfl ?_
                        exact key162 _ (by rw [if_pos c167])
                      · refine wp_iload dX8_neighbour_124 rfl ?_
                        refine wp_goto (tgt := 130) dX8_neighbour_126 (by decide) ?_
                        exact key162 _ (by rw [if_neg c167])
                    obtain ⟨hr168, hr169⟩ := h
                    refine wp_icmp_ge (tgt := 116) dX8_neighbour_92 (by decide) hr168 hr169 (fun c170 => ?_) (fun c170 => ?_)
                    · refine wp_iconst dX8_neighbour_116 ?_
                      exact key155 _ (by rw [if_pos c170])
                    · refine wp_goto (tgt := 112) dX8_neighbour_95 (by decide) ?_
                      refine wp_iconst dX8_neighbour_112 ?_
                      refine wp_goto (tgt := 117) dX8_neighbour_113 (by decide) ?_
                      exact key155 _ (by rw [if_neg c170])
            obtain ⟨hr171, hr172⟩ := h
            refine wp_icmp_le (tgt := 64) dX8_neighbour_40 (by decide) hr171 hr172 (fun c173 => ?_) (fun c173 => ?_)
            · refine wp_iconst dX8_neighbour_64 ?_
              exact key107 _ (by rw [if_pos c173])
            · refine wp_goto (tgt := 60) dX8_neighbour_43 (by decide) ?_
              refine wp_iconst dX8_neighbour_60 ?_
              refine wp_goto (tgt := 65) dX8_neighbour_61 (by decide) ?_
              exact key107 _ (by rw [if_neg c173])
  exact wp_lsub (ls' := [some (vr a0), some (vi a1), some (vi a2), some (vi ((-1))), some (vi 0), none, none]) ⟨rfl, ⟨rfl, ⟨rfl, ⟨rfl, ⟨rfl, trivial⟩⟩⟩⟩⟩ (loop174 _ _ _ h08)

set_option maxRecDepth 100000 in
set_option maxHeartbeats 4000000 in
theorem wm_X8_cutPanel {g : qG} {l : Launch} (hl : l.stackTraces = false) {a0 : Nat} {a1 : Int} {σ : qS} {Post : qS → qRs → Prop}
    (h : gK σ a0 = 9 ∧ (∃ v3 : Int, qMet g l M_X8_isPanel [vr a0, vi a1] σ (qPi σ v3) ∧ (qR v3 ∧ ((¬ v3 = 0 → ∃ Inv8 : Nat → Int → Int → Prop, (∃ n : Nat, Inv8 n 0 0) ∧ ∀ (n9 : Nat) (x6 : Int) (x7 : Int), Inv8 n9 x6 x7 → (qR x7 ∧ qR (gI σ 323 a0) ∧ (((gI σ 323 a0) ≤ x7 → qR x6 ∧ ((x6 = 0 → q_isA σ 0 (gP σ 329 a0) ∧ q_in σ (gP σ 329 a0) a1 ∧ ∀ x21 : Int, x21 = gA σ (gP σ 329 a0) a1 → q_isA σ 0 (gP σ 335 a0) ∧ q_in σ (gP σ 335 a0) a1 ∧ ∀ x25 : Int, x25 = gA σ (gP σ 335 a0) a1 → (∃ v28 : Int, qMet g l M_X8_neighbour [vr a0, vi a1, vi 1] σ (qPi σ v28) ∧ ((∃ v30 : Int, qMet g l M_X8_neighbour [vr a0, vi a1, vi ((-1))] σ (qPi σ v30) ∧ ((∃ Mid32 : qS → Prop, qMet g l M_X8_keeps [vr a0] σ (qTv0 Mid32) ∧ ∀ (σ36 : qS), Mid32 σ36 → ∃ Inv39 : Nat → Int → qS → Prop, (∃ n : Nat, Inv39 n 0 σ36) ∧ ∀ (n40 : Nat) (x38 : Int) (σ45 : qS), Inv39 n40 x38 σ45 → (qR x38 ∧ qR x25 ∧ ((x25 ≤ x38 → gK σ45 a0 = 9 ∧ q_isA σ45 0 (gP σ45 325 a0) ∧ q_in σ45 (gP σ45 325 a0) x21 ∧ (∃ v53 : Int, qMet g l M_X8_find [vr (gP σ45 326 a0), vi (8 * x21), vi a1] σ45 (qPi σ45 v53) ∧ ((∃ Mid55 : qS → Prop, qMet g l M_X8_removes [vr (gP σ45 326 a0), vi (8 * x21), vi (gA σ45 (gP σ45 325 a0) x21), vi v53] σ45 (qTv0 Mid55) ∧ ∀ (σ59 : qS), Mid55 σ59 → gK σ59 a0 = 9 ∧ q_isA σ59 0 (gP σ59 325 a0) ∧ q_in σ59 (gP σ59 325 a0) x21 ∧ gK σ59 (gP σ59 325 a0) = 20 ∧ (∀ σ65 : qS, σ65 = sA σ59 (gP σ59 325 a0) x21 ((gA σ59 (gP σ59 325 a0) x21) - 1) → gK σ65 (gP σ65 329 a0) = 20 ∧ q_in σ65 (gP σ65 329 a0) a1 ∧ (∀ σ69 : qS, σ69 = sA σ65 (gP σ65 329 a0) a1 ((-1)) → (∃ Mid72 : qS → Int → Prop, qMet g l M_X8_stays [vr a0] σ69 (qTi0 Mid72) ∧ ∀ (σ76 : qS) (v78 : Int), Mid72 σ76 v78 → ((qR v78) ∧ ∀ v81 : Int, v81 = (if v78 = 0 then 2 else 0) → gK σ76 a0 = 9 ∧ (∀ σ87 : qS, σ87 = sI σ76 320 a0 v81 → ((v81 ≤ 0 → ((qR (gI σ87 354 a0) ∧ qR a1 ∧ ((gI σ87 354 a0) = a1 → qR v28)) ∧ ∀ v95 : Int, v95 = (if (gI σ87 354 a0) = a1 then (if v28 = ((-1)) then v30 else v28) else (gI σ87 354 a0)) → (∀ σ99 : qS, σ99 = sI σ87 354 a0 v95 → ∃ Inv103 : Nat → Int → Int → qS → Prop, (∃ n : Nat, Inv103 n 0 0 σ99) ∧ ∀ (n104 : Nat) (x101 : Int) (x102 : Int) (σ109 : qS), Inv103 n104 x101 x102 σ109 → (gK σ109 a0 = 9 ∧ qR x102 ∧ qR (gI σ109 355 a0) ∧ (((gI σ109 355 a0) ≤ x102 → (∀ σ114 : qS, σ114 = sI σ109 355 a0 x101 → Post σ114 (.inl (some (vi x25))))) ∧ (¬ ((gI σ109 355 a0) ≤ x102) → q_isA σ109 0 (gP σ109 356 a0) ∧ q_in σ109 (gP σ109 356 a0) x102 ∧ gK σ109 (gP σ109 356 a0) = 20 ∧ q_in σ109 (gP σ109 356 a0) x101 ∧ (∀ σ120 : qS, σ120 = sA σ109 (gP σ109 356 a0) x101 (gA σ109 (gP σ109 356 a0) x102) → q_isA σ120 0 (gP σ120 356 a0) ∧ q_in σ120 (gP σ120 356 a0) x102 ∧ ((qR (gA σ120 (gP σ120 356 a0) x102) ∧ qR a1) ∧ ∀ v127 : Int, v127 = (if ¬ (gA σ120 (gP σ120 356 a0) x102) = a1 then 1 else 0) → ∀ x133 : Int, x133 = x101 + v127 → ∀ x135 : Int, x135 = x102 + 1 → ∃ n137 : Nat, n137 < n104 ∧ Inv103 n137 x133 x135 σ120)))))))) ∧ (¬ (v81 ≤ 0) → Post σ87 (.inl (some (vi 0)))))))))))))) ∧ (¬ (x25 ≤ x38) → gK σ45 a0 = 9 ∧ q_isA σ45 0 (gP σ45 336 a0) ∧ q_in σ45 (gP σ45 336 a0) ((4 * a1) + x38) ∧ gK σ45 (gP σ45 337 a0) = 20 ∧ q_in σ45 (gP σ45 337 a0) (gA σ45 (gP σ45 336 a0) ((4 * a1) + x38)) ∧ (∀ σ154 : qS, σ154 = sA σ45 (gP σ45 337 a0) (gA σ45 (gP σ45 336 a0) ((4 * a1) + x38)) ((-1)) → ∀ x156 : Int, x156 = x38 + 1 → ∃ n158 : Nat, n158 < n40 ∧ Inv39 n158 x156 σ154)))))))))) ∧ (¬ (x6 = 0) → (∃ Mid161 : qS → Int → Prop, qMet g l M_X8_fails [vr a0, vi 2] σ (qTi0 Mid161) ∧ ∀ (σ165 : qS) (v167 : Int), Mid161 σ165 v167 → Post σ165 (.inl (some (vi v167))))))) ∧ (¬ ((gI σ 323 a0) ≤ x7) → q_isA σ 0 (gP σ 337 a0) ∧ q_in σ (gP σ 337 a0) x7 ∧ ((qR (gA σ (gP σ 337 a0) x7) ∧ (¬ ((gA σ (gP σ 337 a0) x7) = ((-1))) → qR a1 ∧ (¬ ((gA σ (gP σ 337 a0) x7) = a1) → q_isA σ 0 (gP σ 339 a0) ∧ q_in σ (gP σ 339 a0) x7 ∧ qR (gA σ (gP σ 339 a0) x7)))) ∧ ∀ v178 : Int, v178 = (if (gA σ (gP σ 337 a0) x7) = ((-1)) then 0 else (if (gA σ (gP σ 337 a0) x7) = a1 then 0 else (if (gA σ (gP σ 339 a0) x7) = ((-1)) then 0 else 1))) → ((qR x6 ∧ (x6 = 0 → (¬ (v178 = 0) → q_isA σ 0 (gP σ 339 a0) ∧ q_in σ (gP σ 339 a0) x7 ∧ q_in σ (gP σ 337 a0) (gA σ (gP σ 339 a0) x7) ∧ qR (gA σ (gP σ 337 a0) (gA σ (gP σ 339 a0) x7)) ∧ qR a1))) ∧ ∀ v193 : Int, v193 = (if ¬ x6 = 0 then 1 else (if v178 = 0 then 0 else (if ¬ (gA σ (gP σ 337 a0) (gA σ (gP σ 339 a0) x7)) = a1 then 0 else 1))) → ∀ x199 : Int, x199 = x7 + 1 → ∃ n201 : Nat, n201 < n9 ∧ Inv8 n201 v193 x199)))))) ∧ (v3 = 0 → (∃ Mid221 : qS → Int → Prop, qMet g l M_X8_fails [vr a0, vi 1] σ (qTi0 Mid221) ∧ ∀ (σ225 : qS) (v227 : Int), Mid221 σ225 v227 → Post σ225 (.inl (some (vi v227))))))))) : qMet g l M_X8_cutPanel [vr a0, vi a1] σ Post := by
  refine qMet_of hl (by decide +kernel) (Nat.le_of_ble_eq_true rfl) (List.forall_mem_cons.mpr ⟨trivial, List.forall_mem_cons.mpr ⟨trivial, fun _ h => nomatch h⟩⟩) ?_
  show qW g l M_X8_cutPanel 0 0 0 [some (vr a0), some (vi a1), none, none, none, none, none, none, none] [] σ Post
  refine wp_aload_n dX8_cutPanel_0 rfl ?_
  refine wp_iload_n dX8_cutPanel_1 rfl ?_
  obtain ⟨hk2, h⟩ := h
  obtain ⟨v3, hm1, h⟩ := h
  refine wp_callV (M' := M_X8_isPanel) (As := [vi a1]) (st := []) (ci := 8) dX8_cutPanel_2 cee_X8_isPanel np_X8_isPanel rfl ⟨Nat.le_of_ble_eq_true rfl, Nat.le_of_ble_eq_true rfl, Nat.le_of_ble_eq_true rfl, Nat.le_of_ble_eq_true rfl⟩ wd_1416 wd_1418 sel_X8_isPanel rfl (Or.inl hk2) (q_small_of (Nat.le_of_ble_eq_true rfl)) hm1 (q_kPi ?_) q_kPi0
  refine wp_less (ac2 := 0) (as2 := 0) (Nat.le_of_ble_eq_true rfl) (Nat.le_of_ble_eq_true rfl) ?_
  obtain ⟨hr4, h⟩ := h
  refine wp_if_ne (tgt := 14) dX8_cutPanel_5 (by decide) hr4 (fun c5 => ?_) (fun c5 => ?_)
  · replace h := h.1 c5
    refine wp_iconst dX8_cutPanel_14 ?_
    refine wp_istore_n' (ls' := [some (vr a0), some (vi a1), some (vi 0), none, none, none, none, none, none]) dX8_cutPanel_15 (Nat.le_of_ble_eq_true rfl) rfl ?_
    refine wp_iconst dX8_cutPanel_16 ?_
    refine wp_istore_n' (ls' := [some (vr a0), some (vi a1), some (vi 0), some (vi 0), none, none, none, none, none]) dX8_cutPanel_17 (Nat.le_of_ble_eq_true rfl) rfl ?_
    obtain ⟨Inv8, ⟨n9_0, h013⟩, hb12⟩ := h
    have loop219 : ∀ (n9 : Nat) (x6 : Int) (x7 : Int), Inv8 n9 x6 x7 → qW g l M_X8_cutPanel 0 0 18 [some (vr a0), some (vi a1), some (vi x6), some (vi x7), none, none, none, none, none] [] σ Post := by
      intro n9
      induction n9 using Nat.strongRecOn with
      | ind n9 ih10 =>
        intro x6 x7 hI11
        have h := hb12 n9 x6 x7 hI11
        refine wp_iload_n dX8_cutPanel_18 rfl ?_
        refine wp_aload_n dX8_cutPanel_19 rfl ?_
        refine wp_get (v := vi (gI σ 323 a0)) dX8_cutPanel_20 fl_RX8_121 hk2 rfl ?_
        obtain ⟨hr14, hr15, h⟩ := h
        refine wp_icmp_ge (tgt := 99) dX8_cutPanel_23 (by decide) hr14 hr15 (fun c16 => ?_) (fun c16 => ?_)
        · replace h := h.1 c16
          refine wp_iload_n dX8_cutPanel_99 rfl ?_
          obtain ⟨hr17, h⟩ := h
          refine wp_if_eq (tgt := 109) dX8_cutPanel_100 (by decide) hr17 (fun c18 => ?_) (fun c18 => ?_)
          · replace h := h.1 c18
            refine wp_aload_n dX8_cutPanel_109 rfl ?_
            refine wp_get (v := vr (gP σ 329 a0)) dX8_cutPanel_110 fl_RX8_26 hk2 rfl ?_
            refine wp_iload_n dX8_cutPanel_113 rfl ?_
            obtain ⟨ha19, hi20, h⟩ := h
            refine wp_iaload dX8_cutPanel_114 ha19 hi20 ?_
            refine wp_nmI (fun x21 hx22 => ?_)
            replace h := h x21 hx22
            refine wp_istore_n' (ls' := [some (vr a0), some (vi a1), some (vi x6), some (vi x21), none, none, none, none, none]) dX8_cutPanel_115 (Nat.le_of_ble_eq_true rfl) rfl ?_
            refine wp_aload_n dX8_cutPanel_116 rfl ?_
            refine wp_get (v := vr (gP σ 335 a0)) dX8_cutPanel_117 fl_RX8_44 hk2 rfl ?_
            refine wp_iload_n dX8_cutPanel_120 rfl ?_
            obtain ⟨ha23, hi24, h⟩ := h
            refine wp_iaload dX8_cutPanel_121 ha23 hi24 ?_
            refine wp_nmI (fun x25 hx26 => ?_)
            replace h := h x25 hx26
            refine wp_istore' (ls' := [some (vr a0), some (vi a1), some (vi x6), some (vi x21), some (vi x25), none, none, none, none]) dX8_cutPanel_122 (Nat.le_of_ble_eq_true rfl) rfl ?_
            refine wp_aload_n dX8_cutPanel_124 rfl ?_
            refine wp_iload_n dX8_cutPanel_125 rfl ?_
            refine wp_iconst dX8_cutPanel_126 ?_
            obtain ⟨v28, hm27, h⟩ := h
            refine wp_callV (M' := M_X8_neighbour) (As := [vi a1, vi 1]) (st := []) (ci := 8) dX8_cutPanel_127 cee_X8_neighbour np_X8_neighbour rfl ⟨Nat.le_of_ble_eq_true rfl, Nat.le_of_ble_eq_true rfl, Nat.le_of_ble_eq_true rfl, Nat.le_of_ble_eq_true rfl⟩ wd_1431 wd_1433 sel_X8_neighbour rfl (Or.inl hk2) (q_small_of (Nat.le_of_ble_eq_true rfl)) hm27 (q_kPi ?_) q_kPi0
            refine wp_less (ac2 := 0) (as2 := 0) (Nat.le_of_ble_eq_true rfl) (Nat.le_of_ble_eq_true rfl) ?_
            refine wp_istore' (ls' := [some (vr a0), some (vi a1), some (vi x6), some (vi x21), some (vi x25), some (vi v28), none, none, none]) dX8_cutPanel_130 (Nat.le_of_ble_eq_true rfl) rfl ?_
            refine wp_aload_n dX8_cutPanel_132 rfl ?_
            refine wp_iload_n dX8_cutPanel_133 rfl ?_
            refine wp_iconst dX8_cutPanel_134 ?_
            obtain ⟨v30, hm29, h⟩ := h
            refine wp_callV (M' := M_X8_neighbour) (As := [vi a1, vi ((-1))]) (st := []) (ci := 8) dX8_cutPanel_135 cee_X8_neighbour np_X8_neighbour rfl ⟨Nat.le_of_ble_eq_true rfl, Nat.le_of_ble_eq_true rfl, Nat.le_of_ble_eq_true rfl, Nat.le_of_ble_eq_true rfl⟩ wd_1431 wd_1433 sel_X8_neighbour rfl (Or.inl hk2) (q_small_of (Nat.le_of_ble_eq_true rfl)) hm29 (q_kPi ?_) q_kPi0
            refine wp_less (ac2 := 0) (as2 := 0) (Nat.le_of_ble_eq_true rfl) (Nat.le_of_ble_eq_true rfl) ?_
            refine wp_istore' (ls' := [some (vr a0), some (vi a1), some (vi x6), some (vi x21), some (vi x25), some (vi v28), some (vi v30), none, none]) dX8_cutPanel_138 (Nat.le_of_ble_eq_true rfl) rfl ?_
            refine wp_aload_n dX8_cutPanel_140 rfl ?_
            obtain ⟨Mid32, hm31, hk34⟩ := h
            refine wp_callV (M' := M_X8_keeps) (As := []) (st := []) (ci := 8) dX8_cutPanel_141 cee_X8_keeps np_X8_keeps rfl ⟨Nat.le_of_ble_eq_true rfl, Nat.le_of_ble_eq_true rfl, Nat.le_of_ble_eq_true rfl, Nat.le_of_ble_eq_true rfl⟩ wd_1351 wd_1353 sel_X8_keeps rfl (Or.inl hk2) (q_small_of (Nat.le_of_ble_eq_true rfl)) hm31 (q_kTv0 (fun σ36 hM37 => ?_)) q_kTv00
            refine wp_less (ac2 := 0) (as2 := 0) (Nat.le_of_ble_eq_true rfl) (Nat.le_of_ble_eq_true rfl) ?_
            have h := hk34 σ36 hM37
            refine wp_iconst dX8_cutPanel_144 ?_
            refine wp_istore' (ls' := [some (vr a0), some (vi a1), some (vi x6), some (vi x21), some (vi x25), some (vi v28), some (vi v30), some (vi 0), none]) dX8_cutPanel_145 (Nat.le_of_ble_eq_true rfl) rfl ?_
            obtain ⟨Inv39, ⟨n40_0, h044⟩, hb43⟩ := h
            have loop159 : ∀ (n40 : Nat) (x38 : Int) (σ45 : qS), Inv39 n40 x38 σ45 → qW g l M_X8_cutPanel 0 0 147 [some (vr a0), some (vi a1), some (vi x6), some (vi x21), some (vi x25), some (vi v28), some (vi v30), some (vi x38), none] [] σ45 Post := by
              intro n40
              induction n40 using Nat.strongRecOn with
              | ind n40 ih41 =>
                intro x38 σ45 hI42
                have h := hb43 n40 x38 σ45 hI42
                refine wp_iload dX8_cutPanel_147 rfl ?_
                refine wp_iload dX8_cutPanel_149 rfl ?_
                obtain ⟨hr46, hr47, h⟩ := h
                refine wp_icmp_ge (tgt := 177) dX8_cutPanel_151 (by decide) hr46 hr47 (fun c48 => ?_) (fun c48 => ?_)
                · replace h := h.1 c48
                  refine wp_aload_n dX8_cutPanel_177 rfl ?_
                  obtain ⟨hk49, h⟩ := h
                  refine wp_get (v := vr (gP σ45 326 a0)) dX8_cutPanel_178 fl_RX8_16 hk49 rfl ?_
                  refine wp_bipush dX8_cutPanel_181 (by decide) ?_
                  refine wp_iload_n dX8_cutPanel_183 rfl ?_
                  refine wp_imul dX8_cutPanel_184 ?_
                  refine wp_aload_n dX8_cutPanel_185 rfl ?_
                  refine wp_get (v := vr (gP σ45 325 a0)) dX8_cutPanel_186 fl_RX8_13 hk49 rfl ?_
                  refine wp_iload_n dX8_cutPanel_189 rfl ?_
                  obtain ⟨ha50, hi51, h⟩ := h
                  refine wp_iaload dX8_cutPanel_190 ha50 hi51 ?_
                  refine wp_aload_n dX8_cutPanel_191 rfl ?_
                  refine wp_get (v := vr (gP σ45 326 a0)) dX8_cutPanel_192 fl_RX8_16 hk49 rfl ?_
                  refine wp_bipush dX8_cutPanel_195 (by decide) ?_
                  refine wp_iload_n dX8_cutPanel_197 rfl ?_
                  refine wp_imul dX8_cutPanel_198 ?_
                  refine wp_iload_n dX8_cutPanel_199 rfl ?_
                  obtain ⟨v53, hm52, h⟩ := h
                  refine wp_callS (M' := M_X8_find) (As := [vr (gP σ45 326 a0), vi (8 * x21), vi a1]) (st := [vi (gA σ45 (gP σ45 325 a0) x21), vi (8 * x21), vr (gP σ45 326 a0)]) dX8_cutPanel_200 cee_X8_find np_X8_find rfl ⟨Nat.le_of_ble_eq_true rfl, Nat.le_of_ble_eq_true rfl, Nat.le_of_ble_eq_true rfl, Nat.le_of_ble_eq_true rfl⟩ wd_1405 wd_1406 (q_small_of (Nat.le_of_ble_eq_true rfl)) hm52 (q_kPi ?_) q_kPi0
                  refine wp_less (ac2 := 0) (as2 := 0) (Nat.le_of_ble_eq_true rfl) (Nat.le_of_ble_eq_true rfl) ?_
                  obtain ⟨Mid55, hm54, hk57⟩ := h
                  refine wp_callS (M' := M_X8_removes) (As := [vr (gP σ45 326 a0), vi (8 * x21), vi (gA σ45 (gP σ45 325 a0) x21), vi v53]) (st := []) dX8_cutPanel_203 cee_X8_removes np_X8_removes rfl ⟨Nat.le_of_ble_eq_true rfl, Nat.le_of_ble_eq_true rfl, Nat.le_of_ble_eq_true rfl, Nat.le_of_ble_eq_true rfl⟩ wd_1420 wd_1421 (q_small_of (Nat.le_of_ble_eq_true rfl)) hm54 (q_kTv0 (fun σ59 hM60 => ?_)) q_kTv00
                  refine wp_less (ac2 := 0) (as2 := 0) (Nat.le_of_ble_eq_true rfl) (Nat.le_of_ble_eq_true rfl) ?_
                  have h := hk57 σ59 hM60
                  refine wp_aload_n dX8_cutPanel_206 rfl ?_
                  obtain ⟨hk61, h⟩ := h
                  refine wp_get (v := vr (gP σ59 325 a0)) dX8_cutPanel_207 fl_RX8_13 hk61 rfl ?_
                  refine wp_iload_n dX8_cutPanel_210 rfl ?_
                  refine wp_dup2 dX8_cutPanel_211 trivial trivial ?_
                  obtain ⟨ha62, hi63, h⟩ := h
                  refine wp_iaload dX8_cutPanel_212 ha62 hi63 ?_
                  refine wp_iconst dX8_cutPanel_213 ?_
                  refine wp_isub dX8_cutPanel_214 ?_
                  obtain ⟨hk64, h⟩ := h
                  refine wp_iastore dX8_cutPanel_215 hk64 hi63 ?_
                  refine wp_nmS (fun σ65 hs66 => ?_)
                  replace h := h σ65 hs66
                  refine wp_aload_n dX8_cutPanel_216 rfl ?_
                  refine wp_get (v := vr (gP σ65 329 a0)) dX8_cutPanel_217 fl_RX8_26 (by rw [hs66]; exact hk61) rfl ?_
                  refine wp_iload_n dX8_cutPanel_220 rfl ?_
                  refine wp_iconst dX8_cutPanel_221 ?_
                  obtain ⟨hk67, hi68, h⟩ := h
                  refine wp_iastore dX8_cutPanel_222 hk67 hi68 ?_
                  refine wp_nmS (fun σ69 hs70 => ?_)
                  replace h := h σ69 hs70
                  refine wp_aload_n dX8_cutPanel_223 rfl ?_
                  refine wp_aload_n dX8_cutPanel_224 rfl ?_
                  obtain ⟨Mid72, hm71, hk74⟩ := h
                  refine wp_callV (M' := M_X8_stays) (As := []) (st := [vr a0]) (ci := 8) dX8_cutPanel_225 cee_X8_stays np_X8_stays rfl ⟨Nat.le_of_ble_eq_true rfl, Nat.le_of_ble_eq_true rfl, Nat.le_of_ble_eq_true rfl, Nat.le_of_ble_eq_true rfl⟩ wd_1361 wd_1363 sel_X8_stays rfl (Or.inl (by rw [hs70, hs66]; exact hk61)) (q_small_of (Nat.le_of_ble_eq_true rfl)) hm71 (q_kTi0 (fun σ76 v78 hM77 => ?_)) q_kTi00
                  refine wp_less (ac2 := 0) (as2 := 0) (Nat.le_of_ble_eq_true rfl) (Nat.le_of_ble_eq_true rfl) ?_
                  have h := hk74 σ76 v78 hM77
                  obtain ⟨h, hk84⟩ := h
                  have key83 : ∀ v81 : Int, v81 = (if v78 = 0 then 2 else 0) → qW g l M_X8_cutPanel 0 0 236 [some (vr a0), some (vi a1), some (vi x6), some (vi x21), some (vi x25), some (vi v28), some (vi v30), some (vi x38), none] [vi v81, vr a0] σ76 Post := by
                    intro v81 hv82
                    have h := hk84 v81 hv82
                    have hr85 : qR v81 := by (rw [hv82]; unfold qR; repeat' split) <;> omega
                    obtain ⟨hk86, h⟩ := h
                    refine wp_put (v := vi v81) dX8_cutPanel_236 fs_RX8_108 (fun h => absurd h (by decide)) hk86 (Or.inl rfl) ?_
                    refine wp_nmS (fun σ87 hs88 => ?_)
                    replace h := h σ87 hs88
                    refine wp_aload_n dX8_cutPanel_239 rfl ?_
                    refine wp_get (v := vi v81) dX8_cutPanel_240 fl_RX8_108 (by rw [hs88]; exact hk86) (by rw [hs88]; exact q_memI) ?_
                    refine wp_if_le (tgt := 248) dX8_cutPanel_243 (by decide) hr85 (fun c89 => ?_) (fun c89 => ?_)
                    · replace h := h.1 c89
                      refine wp_aload_n dX8_cutPanel_248 rfl ?_
                      refine wp_aload_n dX8_cutPanel_249 rfl ?_
                      refine wp_get (v := vi (gI σ87 354 a0)) dX8_cutPanel_250 fl_RX8_101 (by rw [hs88]; exact hk86) rfl ?_
                      refine wp_iload_n dX8_cutPanel_253 rfl ?_
                      obtain ⟨h, hk98⟩ := h
                      have key97 : ∀ v95 : Int, v95 = (if (gI σ87 354 a0) = a1 then (if v28 = ((-1)) then v30 else v28) else (gI σ87 354 a0)) → qW g l M_X8_cutPanel 0 0 277 [some (vr a0), some (vi a1), some (vi x6), some (vi x21), some (vi x25), some (vi v28), some (vi v30), some (vi x38), none] [vi v95, vr a0] σ87 Post := by
                        intro v95 hv96
                        have h := hk98 v95 hv96
                        refine wp_put (v := vi v95) dX8_cutPanel_277 fs_RX8_101 (fun h => absurd h (by decide)) (by rw [hs88]; exact hk86) (Or.inl rfl) ?_
                        refine wp_nmS (fun σ99 hs100 => ?_)
                        replace h := h σ99 hs100
                        refine wp_iconst dX8_cutPanel_280 ?_
                        refine wp_istore' (ls' := [some (vr a0), some (vi a1), some (vi x6), some (vi x21), some (vi x25), some (vi v28), some (vi v30), some (vi 0), none]) dX8_cutPanel_281 (Nat.le_of_ble_eq_true rfl) rfl ?_
                        refine wp_iconst dX8_cutPanel_283 ?_
                        refine wp_istore' (ls' := [some (vr a0), some (vi a1), some (vi x6), some (vi x21), some (vi x25), some (vi v28), some (vi v30), some (vi 0), some (vi 0)]) dX8_cutPanel_284 (Nat.le_of_ble_eq_true rfl) rfl ?_
                        obtain ⟨Inv103, ⟨n104_0, h0108⟩, hb107⟩ := h
                        have loop141 : ∀ (n104 : Nat) (x101 : Int) (x102 : Int) (σ109 : qS), Inv103 n104 x101 x102 σ109 → qW g l M_X8_cutPanel 0 0 286 [some (vr a0), some (vi a1), some (vi x6), some (vi x21), some (vi x25), some (vi v28), some (vi v30), some (vi x101), some (vi x102)] [] σ109 Post := by
                          intro n104
                          induction n104 using Nat.strongRecOn with
                          | ind n104 ih105 =>
                            intro x101 x102 σ109 hI106
                            have h := hb107 n104 x101 x102 σ109 hI106
                            refine wp_iload dX8_cutPanel_286 rfl ?_
                            refine wp_aload_n dX8_cutPanel_288 rfl ?_
                            obtain ⟨hk110, h⟩ := h
                            refine wp_get (v := vi (gI σ109 355 a0)) dX8_cutPanel_289 fl_RX8_202 hk110 rfl ?_
                            obtain ⟨hr111, hr112, h⟩ := h
                            refine wp_icmp_ge (tgt := 336) dX8_cutPanel_292 (by decide) hr111 hr112 (fun c113 => ?_) (fun c113 => ?_)
                            · replace h := h.1 c113
                              refine wp_aload_n dX8_cutPanel_336 rfl ?_
                              refine wp_iload dX8_cutPanel_337 rfl ?_
                              refine wp_put (v := vi x101) dX8_cutPanel_339 fs_RX8_202 (fun h => absurd h (by decide)) hk110 (Or.inl rfl) ?_
                              refine wp_nmS (fun σ114 hs115 => ?_)
                              replace h := h σ114 hs115
                              refine wp_iload dX8_cutPanel_342 rfl ?_
                              exact wp_ret_i dX8_cutPanel_344 rfl rfl h
                            · replace h := h.2 c113
                              refine wp_aload_n dX8_cutPanel_295 rfl ?_
                              refine wp_get (v := vr (gP σ109 356 a0)) dX8_cutPanel_296 fl_RX8_105 hk110 rfl ?_
                              refine wp_iload dX8_cutPanel_299 rfl ?_
                              refine wp_aload_n dX8_cutPanel_301 rfl ?_
                              refine wp_get (v := vr (gP σ109 356 a0)) dX8_cutPanel_302 fl_RX8_105 hk110 rfl ?_
                              refine wp_iload dX8_cutPanel_305 rfl ?_
                              obtain ⟨ha116, hi117, h⟩ := h
                              refine wp_iaload dX8_cutPanel_307 ha116 hi117 ?_
                              obtain ⟨hk118, hi119, h⟩ := h
                              refine wp_iastore dX8_cutPanel_308 hk118 hi119 ?_
                              refine wp_nmS (fun σ120 hs121 => ?_)
                              replace h := h σ120 hs121
                              refine wp_iload dX8_cutPanel_309 rfl ?_
                              refine wp_aload_n dX8_cutPanel_311 rfl ?_
                              refine wp_get (v := vr (gP σ120 356 a0)) dX8_cutPanel_312 fl_RX8_105 (by rw [hs121]; exact hk110) rfl ?_
                              refine wp_iload dX8_cutPanel_315 rfl ?_
                              obtain ⟨ha122, hi123, h⟩ := h
                              refine wp_iaload dX8_cutPanel_317 ha122 hi123 ?_
                              refine wp_iload_n dX8_cutPanel_318 rfl ?_
                              obtain ⟨h, hk130⟩ := h
                              have key129 : ∀ v127 : Int, v127 = (if ¬ (gA σ120 (gP σ120 356 a0) x102) = a1 then 1 else 0) → qW g l M_X8_cutPanel 0 0 327 [some (vr a0), some (vi a1), some (vi x6), some (vi x21), some (vi x25), some (vi v28), some (vi v30), some (vi x101), some (vi x102)] [vi v127, vi x101] σ120 Post := by
                                intro v127 hv128
                                have h := hk130 v127 hv128
                                have hr131 : qR v127 := by (rw [hv128]; unfold qR; repeat' split) <;> omega
                                have hz132 : v127 = 0 ∨ v127 = 1 := by (rw [hv128]; repeat' split) <;> first | exact Or.inl rfl | exact Or.inr rfl
                                refine wp_iadd dX8_cutPanel_327 ?_
                                refine wp_nmI (fun x133 hx134 => ?_)
                                replace h := h x133 hx134
                                refine wp_istore' (ls' := [some (vr a0), some (vi a1), some (vi x6), some (vi x21), some (vi x25), some (vi v28), some (vi v30), some (vi x133), some (vi x102)]) dX8_cutPanel_328 (Nat.le_of_ble_eq_true rfl) rfl ?_
                                refine wp_nmT (x102 + 1) (fun x135 hx136 => ?_)
                                replace h := h x135 hx136
                                refine wp_iinc' (z' := x135) (ls' := [some (vr a0), some (vi a1), some (vi x6), some (vi x21), some (vi x25), some (vi v28), some (vi v30), some (vi x133), some (vi x135)]) dX8_cutPanel_330 (Nat.le_of_ble_eq_true rfl) rfl hx136 rfl ?_
                                refine wp_goto (tgt := 286) dX8_cutPanel_333 (by decide) ?_
                                obtain ⟨n137, hlt, h⟩ := h
                                exact wp_lsub (ls' := [some (vr a0), some (vi a1), some (vi x6), some (vi x21), some (vi x25), some (vi v28), some (vi v30), some (vi x133), some (vi x135)]) ⟨rfl, ⟨rfl, ⟨rfl, ⟨rfl, ⟨rfl, ⟨rfl, ⟨rfl, ⟨rfl, ⟨rfl, trivial⟩⟩⟩⟩⟩⟩⟩⟩⟩ (ih105 n137 hlt _ _ _ h)
                              obtain ⟨hr138, hr139⟩ := h
                              refine wp_icmp_ne (tgt := 326) dX8_cutPanel_319 (by decide) hr138 hr139 (fun c140 => ?_) (fun c140 => ?_)
                              · refine wp_iconst dX8_cutPanel_326 ?_
                                exact key129 _ (by rw [if_pos c140])
                              · refine wp_iconst dX8_cutPanel_322 ?_
                                refine wp_goto (tgt := 327) dX8_cutPanel_323 (by decide) ?_
                                exact key129 _ (by rw [if_neg (fun z => z c140)])
                        exact wp_lsub (ls' := [some (vr a0), some (vi a1), some (vi x6), some (vi x21), some (vi x25), some (vi v28), some (vi v30), some (vi 0), some (vi 0)]) ⟨rfl, ⟨rfl, ⟨rfl, ⟨rfl, ⟨rfl, ⟨rfl, ⟨rfl, ⟨rfl, ⟨rfl, trivial⟩⟩⟩⟩⟩⟩⟩⟩⟩ (loop141 _ _ _ _ h0108)
                      obtain ⟨hr142, hr143, h⟩ := h
                      refine wp_icmp_eq (tgt := 264) dX8_cutPanel_254 (by decide) hr142 hr143 (fun c144 => ?_) (fun c144 => ?_)
                      · replace h := h c144
                        refine wp_iload dX8_cutPanel_264 rfl ?_
                        refine wp_iconst dX8_cutPanel_266 ?_
                        have hr145 := h
                        refine wp_icmp_eq (tgt := 275) dX8_cutPanel_267 (by decide) hr145 (by unfold qR; omega) (fun c146 => ?_) (fun c146 => ?_)
                        · refine wp_iload dX8_cutPanel_275 rfl ?_
                          exact key97 _ (by rw [if_pos c144, if_pos c146])
                        · refine wp_iload dX8_cutPanel_270 rfl ?_
                          refine wp_goto (tgt := 277) dX8_cutPanel_272 (by decide) ?_
                          exact key97 _ (by rw [if_pos c144, if_neg c146])
                      · refine wp_aload_n dX8_cutPanel_257 rfl ?_
                        refine wp_get (v := vi (gI σ87 354 a0)) dX8_cutPanel_258 fl_RX8_101 (by rw [hs88]; exact hk86) rfl ?_
                        refine wp_goto (tgt := 277) dX8_cutPanel_261 (by decide) ?_
                        exact key97 _ (by rw [if_neg c144])
                    · replace h := h.2 c89
                      refine wp_iconst dX8_cutPanel_246 ?_
                      exact wp_ret_i dX8_cutPanel_247 rfl rfl h
                  have hr147 := h
                  refine wp_if_eq (tgt := 235) dX8_cutPanel_228 (by decide) hr147 (fun c148 => ?_) (fun c148 => ?_)
                  · refine wp_iconst dX8_cutPanel_235 ?_
                    exact key83 _ (by rw [if_pos c148])
                  · refine wp_iconst dX8_cutPanel_231 ?_
                    refine wp_goto (tgt := 236) dX8_cutPanel_232 (by decide) ?_
                    exact key83 _ (by rw [if_neg c148])
                · replace h := h.2 c48
                  refine wp_aload_n dX8_cutPanel_154 rfl ?_
                  obtain ⟨hk149, h⟩ := h
                  refine wp_get (v := vr (gP σ45 337 a0)) dX8_cutPanel_155 fl_RX8_50 hk149 rfl ?_
                  refine wp_aload_n dX8_cutPanel_158 rfl ?_
                  refine wp_get (v := vr (gP σ45 336 a0)) dX8_cutPanel_159 fl_RX8_47 hk149 rfl ?_
                  refine wp_iconst dX8_cutPanel_162 ?_
                  refine wp_iload_n dX8_cutPanel_163 rfl ?_
                  refine wp_imul dX8_cutPanel_164 ?_
                  refine wp_iload dX8_cutPanel_165 rfl ?_
                  refine wp_iadd dX8_cutPanel_167 ?_
                  obtain ⟨ha150, hi151, h⟩ := h
                  refine wp_iaload dX8_cutPanel_168 ha150 hi151 ?_
                  refine wp_iconst dX8_cutPanel_169 ?_
                  obtain ⟨hk152, hi153, h⟩ := h
                  refine wp_iastore dX8_cutPanel_170 hk152 hi153 ?_
                  refine wp_nmS (fun σ154 hs155 => ?_)
                  replace h := h σ154 hs155
                  refine wp_nmT (x38 + 1) (fun x156 hx157 => ?_)
                  replace h := h x156 hx157
                  refine wp_iinc' (z' := x156) (ls' := [some (vr a0), some (vi a1), some (vi x6), some (vi x21), some (vi x25), some (vi v28), some (vi v30), some (vi x156), none]) dX8_cutPanel_171 (Nat.le_of_ble_eq_true rfl) rfl hx157 rfl ?_
                  refine wp_goto (tgt := 147) dX8_cutPanel_174 (by decide) ?_
                  obtain ⟨n158, hlt, h⟩ := h
                  exact wp_lsub (ls' := [some (vr a0), some (vi a1), some (vi x6), some (vi x21), some (vi x25), some (vi v28), some (vi v30), some (vi x156), none]) ⟨rfl, ⟨rfl, ⟨rfl, ⟨rfl, ⟨rfl, ⟨rfl, ⟨rfl, ⟨rfl, trivial⟩⟩⟩⟩⟩⟩⟩⟩ (ih41 n158 hlt _ _ h)
            exact wp_lsub (ls' := [some (vr a0), some (vi a1), some (vi x6), some (vi x21), some (vi x25), some (vi v28), some (vi v30), some (vi 0), none]) ⟨rfl, ⟨rfl, ⟨rfl, ⟨rfl, ⟨rfl, ⟨rfl, ⟨rfl, ⟨rfl, trivial⟩⟩⟩⟩⟩⟩⟩⟩ (loop159 _ _ _ h044)
          · replace h := h.2 c18
            refine wp_aload_n dX8_cutPanel_103 rfl ?_
            refine wp_iconst dX8_cutPanel_104 ?_
            obtain ⟨Mid161, hm160, hk163⟩ := h
            refine wp_callV (M' := M_X8_fails) (As := [vi 2]) (st := []) (ci := 8) dX8_cutPanel_105 cee_X8_fails np_X8_fails rfl ⟨Nat.le_of_ble_eq_true rfl, Nat.le_of_ble_eq_true rfl, Nat.le_of_ble_eq_true rfl, Nat.le_of_ble_eq_true rfl⟩ wd_1347 wd_1349 sel_X8_fails rfl (Or.inl hk2) (q_small_of (Nat.le_of_ble_eq_true rfl)) hm160 (q_kTi0 (fun σ165 v167 hM166 => ?_)) q_kTi00
            refine wp_less (ac2 := 0) (as2 := 0) (Nat.le_of_ble_eq_true rfl) (Nat.le_of_ble_eq_true rfl) ?_
            have h := hk163 σ165 v167 hM166
            exact wp_ret_i dX8_cutPanel_108 rfl rfl h
        · replace h := h.2 c16
          refine wp_aload_n dX8_cutPanel_26 rfl ?_
          refine wp_get (v := vr (gP σ 337 a0)) dX8_cutPanel_27 fl_RX8_50 hk2 rfl ?_
          refine wp_iload_n dX8_cutPanel_30 rfl ?_
          obtain ⟨ha168, hi169, h⟩ := h
          refine wp_iaload dX8_cutPanel_31 ha168 hi169 ?_
          refine wp_iconst dX8_cutPanel_32 ?_
          obtain ⟨h, hk181⟩ := h
          have key180 : ∀ v178 : Int, v178 = (if (gA σ (gP σ 337 a0) x7) = ((-1)) then 0 else (if (gA σ (gP σ 337 a0) x7) = a1 then 0 else (if (gA σ (gP σ 339 a0) x7) = ((-1)) then 0 else 1))) → qW g l M_X8_cutPanel 0 0 61 [some (vr a0), some (vi a1), some (vi x6), some (vi x7), none, none, none, none, none] [vi v178] σ Post := by
            intro v178 hv179
            have h := hk181 v178 hv179
            have hr182 : qR v178 := by (rw [hv179]; unfold qR; repeat' split) <;> omega
            have hz183 : v178 = 0 ∨ v178 = 1 := by (rw [hv179]; repeat' split) <;> first | exact Or.inl rfl | exact Or.inr rfl
            refine wp_istore' (ls' := [some (vr a0), some (vi a1), some (vi x6), some (vi x7), some (vi v178), none, none, none, none]) dX8_cutPanel_61 (Nat.le_of_ble_eq_true rfl) rfl ?_
            refine wp_iload_n dX8_cutPanel_63 rfl ?_
            obtain ⟨h, hk196⟩ := h
            have key195 : ∀ v193 : Int, v193 = (if ¬ x6 = 0 then 1 else (if v178 = 0 then 0 else (if ¬ (gA σ (gP σ 337 a0) (gA σ (gP σ 339 a0) x7)) = a1 then 0 else 1))) → qW g l M_X8_cutPanel 0 0 92 [some (vr a0), some (vi a1), some (vi x6), some (vi x7), some (vi v178), none, none, none, none] [vi v193] σ Post := by
              intro v193 hv194
              have h := hk196 v193 hv194
              have hr197 : qR v193 := by (rw [hv194]; unfold qR; repeat' split) <;> omega
              have hz198 : v193 = 0 ∨ v193 = 1 := by (rw [hv194]; repeat' split) <;> first | exact Or.inl rfl | exact Or.inr rfl
              refine wp_istore_n' (ls' := [some (vr a0), some (vi a1), some (vi v193), some (vi x7), some (vi v178), none, none, none, none]) dX8_cutPanel_92 (Nat.le_of_ble_eq_true rfl) rfl ?_
              refine wp_nmT (x7 + 1) (fun x199 hx200 => ?_)
              replace h := h x199 hx200
              refine wp_iinc' (z' := x199) (ls' := [some (vr a0), some (vi a1), some (vi v193), some (vi x199), some (vi v178), none, none, none, none]) dX8_cutPanel_93 (Nat.le_of_ble_eq_true rfl) rfl hx200 rfl ?_
              refine wp_goto (tgt := 18) dX8_cutPanel_96 (by decide) ?_
              obtain ⟨n201, hlt, h⟩ := h
              exact wp_lsub (ls' := [some (vr a0), some (vi a1), some (vi v193), some (vi x199), none, none, none, none, none]) ⟨rfl, ⟨rfl, ⟨rfl, ⟨rfl, trivial⟩⟩⟩⟩ (ih10 n201 hlt _ _ h)
            obtain ⟨hr202, h⟩ := h
            refine wp_if_ne (tgt := 87) dX8_cutPanel_64 (by decide) hr202 (fun c203 => ?_) (fun c203 => ?_)
            · refine wp_iconst dX8_cutPanel_87 ?_
              refine wp_goto (tgt := 92) dX8_cutPanel_88 (by decide) ?_
              exact key195 _ (by rw [if_pos c203])
            · replace h := h c203
              refine wp_iload dX8_cutPanel_67 rfl ?_
              refine wp_if_eq (tgt := 91) dX8_cutPanel_69 (by decide) hr182 (fun c204 => ?_) (fun c204 => ?_)
              · refine wp_iconst dX8_cutPanel_91 ?_
                exact key195 _ (by rw [if_neg (fun z => z c203), if_pos c204])
              · replace h := h c204
                refine wp_aload_n dX8_cutPanel_72 rfl ?_
                refine wp_get (v := vr (gP σ 337 a0)) dX8_cutPanel_73 fl_RX8_50 hk2 rfl ?_
                refine wp_aload_n dX8_cutPanel_76 rfl ?_
                refine wp_get (v := vr (gP σ 339 a0)) dX8_cutPanel_77 fl_RX8_56 hk2 rfl ?_
                refine wp_iload_n dX8_cutPanel_80 rfl ?_
                obtain ⟨ha205, hi206, h⟩ := h
                refine wp_iaload dX8_cutPanel_81 ha205 hi206 ?_
                obtain ⟨hi207, h⟩ := h
                refine wp_iaload dX8_cutPanel_82 ha168 hi207 ?_
                refine wp_iload_n dX8_cutPanel_83 rfl ?_
                obtain ⟨hr208, hr209⟩ := h
                refine wp_icmp_ne (tgt := 91) dX8_cutPanel_84 (by decide) hr208 hr209 (fun c210 => ?_) (fun c210 => ?_)
                · refine wp_iconst dX8_cutPanel_91 ?_
                  exact key195 _ (by rw [if_neg (fun z => z c203), if_neg c204, if_pos c210])
                · refine wp_iconst dX8_cutPanel_87 ?_
                  refine wp_goto (tgt := 92) dX8_cutPanel_88 (by decide) ?_
                  exact key195 _ (by rw [if_neg (fun z => z c203), if_neg c204, if_neg (fun z => z c210)])
          obtain ⟨hr211, h⟩ := h
          refine wp_icmp_eq (tgt := 60) dX8_cutPanel_33 (by decide) hr211 (by unfold qR; omega) (fun c212 => ?_) (fun c212 => ?_)
          · refine wp_iconst dX8_cutPanel_60 ?_
            exact key180 _ (by rw [if_pos c212])
          · replace h := h c212
            refine wp_aload_n dX8_cutPanel_36 rfl ?_
            refine wp_get (v := vr (gP σ 337 a0)) dX8_cutPanel_37 fl_RX8_50 hk2 rfl ?_
            refine wp_iload_n dX8_cutPanel_40 rfl ?_
            refine wp_iaload dX8_cutPanel_41 ha168 hi169 ?_
            refine wp_iload_n dX8_cutPanel_42 rfl ?_
            obtain ⟨hr213, h⟩ := h
            refine wp_icmp_eq (tgt := 60) dX8_cutPanel_43 (by decide) hr211 hr213 (fun c214 => ?_) (fun c214 => ?_)
            · refine wp_iconst dX8_cutPanel_60 ?_
              exact key180 _ (by rw [if_neg c212, if_pos c214])
            · replace h := h c214
              refine wp_aload_n dX8_cutPanel_46 rfl ?_
              refine wp_get (v := vr (gP σ 339 a0)) dX8_cutPanel_47 fl_RX8_56 hk2 rfl ?_
              refine wp_iload_n dX8_cutPanel_50 rfl ?_
              obtain ⟨ha215, hi216, h⟩ := h
              refine wp_iaload dX8_cutPanel_51 ha215 hi216 ?_
              refine wp_iconst dX8_cutPanel_52 ?_
              have hr217 := h
              refine wp_icmp_eq (tgt := 60) dX8_cutPanel_53 (by decide) hr217 (by unfold qR; omega) (fun c218 => ?_) (fun c218 => ?_)
              · refine wp_iconst dX8_cutPanel_60 ?_
                exact key180 _ (by rw [if_neg c212, if_neg c214, if_pos c218])
              · refine wp_iconst dX8_cutPanel_56 ?_
                refine wp_goto (tgt := 61) dX8_cutPanel_57 (by decide) ?_
                exact key180 _ (by rw [if_neg c212, if_neg c214, if_neg c218])
    exact wp_lsub (ls' := [some (vr a0), some (vi a1), some (vi 0), some (vi 0), none, none, none, none, none]) ⟨rfl, ⟨rfl, ⟨rfl, ⟨rfl, trivial⟩⟩⟩⟩ (loop219 _ _ _ h013)
  · replace h := h.2 c5
    refine wp_aload_n dX8_cutPanel_8 rfl ?_
    refine wp_iconst dX8_cutPanel_9 ?_
    obtain ⟨Mid221, hm220, hk223⟩ := h
    refine wp_callV (M' := M_X8_fails) (As := [vi 1]) (st := []) (ci := 8) dX8_cutPanel_10 cee_X8_fails np_X8_fails rfl ⟨Nat.le_of_ble_eq_true rfl, Nat.le_of_ble_eq_true rfl, Nat.le_of_ble_eq_true rfl, Nat.le_of_ble_eq_true rfl⟩ wd_1347 wd_1349 sel_X8_fails rfl (Or.inl hk2) (q_small_of (Nat.le_of_ble_eq_true rfl)) hm220 (q_kTi0 (fun σ225 v227 hM226 => ?_)) q_kTi00
    refine wp_less (ac2 := 0) (as2 := 0) (Nat.le_of_ble_eq_true rfl) (Nat.le_of_ble_eq_true rfl) ?_
    have h := hk223 σ225 v227 hM226
    exact wp_ret_i dX8_cutPanel_13 rfl rfl h

set_option maxRecDepth 100000 in
set_option maxHeartbeats 4000000 in
theorem wm_X8_face {g : qG} {l : Launch} (hl : l.stackTraces = false) {a0 : Nat} {a1 : Int} {a2 : Int} {a3 : Int} {a4 : Int} {σ : qS} {Post : qS → qRs → Prop}
    (h : gK σ a0 = 9 ∧ (∃ v3 : Int, qMet g l M_X8_isPanel [vr a0, vi a1] σ (qPi σ v3) ∧ (qR v3 ∧ ((¬ v3 = 0 → (∃ v7 : Int, qMet g l M_X8_in [vi a2, vi 0, vi 23] σ (qPi σ v7) ∧ (qR v7 ∧ ((v7 = 0 → (∀ σ10 : qS, σ10 = sI σ 320 a0 2 → Post σ10 (.inl (some (vi 0))))) ∧ (¬ (v7 = 0) → (∃ v13 : Int, qMet g l M_X8_in [vi a3, vi 1, vi 24] σ (qPi σ v13) ∧ (qR v13 ∧ ((v13 = 0 → (∀ σ16 : qS, σ16 = sI σ 320 a0 2 → Post σ16 (.inl (some (vi 0))))) ∧ (¬ (v13 = 0) → (∃ v19 : Int, qMet g l M_X8_in [vi a4, vi 1, vi 8] σ (qPi σ v19) ∧ (((qR v19 ∧ (¬ v19 = 0 → q_isA σ 0 (gP σ 333 a0) ∧ q_in σ (gP σ 333 a0) a1 ∧ qR (gA σ (gP σ 333 a0) a1))) ∧ ∀ v26 : Int, v26 = (if ¬ v19 = 0 then (if ¬ (gA σ (gP σ 333 a0) a1) = 2 then 0 else 3) else 2) → (∀ σ31 : qS, σ31 = sI σ 320 a0 v26 → ((v26 ≤ 0 → (∃ Mid35 : qS → Prop, qMet g l M_X8_keeps [vr a0] σ31 (qTv0 Mid35) ∧ ∀ (σ39 : qS), Mid35 σ39 → gK σ39 a0 = 9 ∧ q_isA σ39 0 (gP σ39 333 a0) ∧ q_in σ39 (gP σ39 333 a0) a1 ∧ ∀ x44 : Int, x44 = (6 * a1) + (3 * (gA σ39 (gP σ39 333 a0) a1)) → gK σ39 (gP σ39 334 a0) = 20 ∧ q_in σ39 (gP σ39 334 a0) x44 ∧ (∀ σ48 : qS, σ48 = sA σ39 (gP σ39 334 a0) x44 a2 → gK σ48 (gP σ48 334 a0) = 20 ∧ q_in σ48 (gP σ48 334 a0) (x44 + 1) ∧ (∀ σ52 : qS, σ52 = sA σ48 (gP σ48 334 a0) (x44 + 1) a3 → gK σ52 (gP σ52 334 a0) = 20 ∧ q_in σ52 (gP σ52 334 a0) (x44 + 2) ∧ (∀ σ56 : qS, σ56 = sA σ52 (gP σ52 334 a0) (x44 + 2) a4 → q_isA σ56 0 (gP σ56 333 a0) ∧ q_in σ56 (gP σ56 333 a0) a1 ∧ gK σ56 (gP σ56 333 a0) = 20 ∧ (∀ σ61 : qS, σ61 = sA σ56 (gP σ56 333 a0) a1 ((gA σ56 (gP σ56 333 a0) a1) + 1) → (∃ Mid64 : qS → Int → Prop, qMet g l M_X8_stays [vr a0] σ61 (qTi0 Mid64) ∧ ∀ (σ68 : qS) (v70 : Int), Mid64 σ68 v70 → ((qR v70) ∧ ∀ v73 : Int, v73 = (if v70 = 0 then 3 else 0) → gK σ68 a0 = 9 ∧ (∀ σ79 : qS, σ79 = sI σ68 320 a0 v73 → (((v73 ≤ 0 → q_isA σ79 0 (gP σ79 340 a0) ∧ q_in σ79 (gP σ79 340 a0) ((5 * a1) + 4))) ∧ ∀ v84 : Int, v84 = (if v73 ≤ 0 then (gA σ79 (gP σ79 340 a0) ((5 * a1) + 4)) else 0) → Post σ79 (.inl (some (vi v84))))))))))))) ∧ (¬ (v26 ≤ 0) → Post σ31 (.inl (some (vi 0)))))))))))))))))) ∧ (v3 = 0 → (∀ σ99 : qS, σ99 = sI σ 320 a0 1 → Post σ99 (.inl (some (vi 0))))))))) : qMet g l M_X8_face [vr a0, vi a1, vi a2, vi a3, vi a4] σ Post := by
  refine qMet_of hl (by decide +kernel) (Nat.le_of_ble_eq_true rfl) (List.forall_mem_cons.mpr ⟨trivial, List.forall_mem_cons.mpr ⟨trivial, List.forall_mem_cons.mpr ⟨trivial, List.forall_mem_cons.mpr ⟨trivial, List.forall_mem_cons.mpr ⟨trivial, fun _ h => nomatch h⟩⟩⟩⟩⟩) ?_
  show qW g l M_X8_face 0 0 0 [some (vr a0), some (vi a1), some (vi a2), some (vi a3), some (vi a4), none] [] σ Post
  refine wp_aload_n dX8_face_0 rfl ?_
  refine wp_aload_n dX8_face_1 rfl ?_
  refine wp_iload_n dX8_face_2 rfl ?_
  obtain ⟨hk2, h⟩ := h
  obtain ⟨v3, hm1, h⟩ := h
  refine wp_callV (M' := M_X8_isPanel) (As := [vi a1]) (st := [vr a0]) (ci := 8) dX8_face_3 cee_X8_isPanel np_X8_isPanel rfl ⟨Nat.le_of_ble_eq_true rfl, Nat.le_of_ble_eq_true rfl, Nat.le_of_ble_eq_true rfl, Nat.le_of_ble_eq_true rfl⟩ wd_1416 wd_1418 sel_X8_isPanel rfl (Or.inl hk2) (q_small_of (Nat.le_of_ble_eq_true rfl)) hm1 (q_kPi ?_) q_kPi0
  refine wp_less (ac2 := 0) (as2 := 0) (Nat.le_of_ble_eq_true rfl) (Nat.le_of_ble_eq_true rfl) ?_
  obtain ⟨hr4, h⟩ := h
  refine wp_if_ne (tgt := 13) dX8_face_6 (by decide) hr4 (fun c5 => ?_) (fun c5 => ?_)
  · replace h := h.1 c5
    refine wp_iload_n dX8_face_13 rfl ?_
    refine wp_iconst dX8_face_14 ?_
    refine wp_bipush dX8_face_15 (by decide) ?_
    obtain ⟨v7, hm6, h⟩ := h
    refine wp_callS (M' := M_X8_in) (As := [vi a2, vi 0, vi 23]) (st := [vr a0]) dX8_face_17 cee_X8_in np_X8_in rfl ⟨Nat.le_of_ble_eq_true rfl, Nat.le_of_ble_eq_true rfl, Nat.le_of_ble_eq_true rfl, Nat.le_of_ble_eq_true rfl⟩ wd_1344 wd_1345 (q_small_of (Nat.le_of_ble_eq_true rfl)) hm6 (q_kPi ?_) q_kPi0
    refine wp_less (ac2 := 0) (as2 := 0) (Nat.le_of_ble_eq_true rfl) (Nat.le_of_ble_eq_true rfl) ?_
    obtain ⟨hr8, h⟩ := h
    refine wp_if_eq (tgt := 44) dX8_face_20 (by decide) hr8 (fun c9 => ?_) (fun c9 => ?_)
    · replace h := h.1 c9
      refine wp_iconst dX8_face_44 ?_
      refine wp_goto (tgt := 63) dX8_face_45 (by decide) ?_
      refine wp_put (v := vi 2) dX8_face_63 fs_RX8_108 (fun h => absurd h (by decide)) hk2 (Or.inl rfl) ?_
      refine wp_nmS (fun σ10 hs11 => ?_)
      replace h := h σ10 hs11
      refine wp_aload_n dX8_face_66 rfl ?_
      refine wp_get (v := vi 2) dX8_face_67 fl_RX8_108 (by rw [hs11]; exact hk2) (by rw [hs11]; exact q_memI) ?_
      refine wp_if_le (tgt := 75) dX8_face_70 (by decide) (by unfold qR; omega) (fun c9 => absurd c9 (by decide)) (fun _ => ?_)
      refine wp_iconst dX8_face_73 ?_
      exact wp_ret_i dX8_face_74 rfl rfl h
    · replace h := h.2 c9
      refine wp_iload_n dX8_face_23 rfl ?_
      refine wp_iconst dX8_face_24 ?_
      refine wp_bipush dX8_face_25 (by decide) ?_
      obtain ⟨v13, hm12, h⟩ := h
      refine wp_callS (M' := M_X8_in) (As := [vi a3, vi 1, vi 24]) (st := [vr a0]) dX8_face_27 cee_X8_in np_X8_in rfl ⟨Nat.le_of_ble_eq_true rfl, Nat.le_of_ble_eq_true rfl, Nat.le_of_ble_eq_true rfl, Nat.le_of_ble_eq_true rfl⟩ wd_1344 wd_1345 (q_small_of (Nat.le_of_ble_eq_true rfl)) hm12 (q_kPi ?_) q_kPi0
      refine wp_less (ac2 := 0) (as2 := 0) (Nat.le_of_ble_eq_true rfl) (Nat.le_of_ble_eq_true rfl) ?_
      obtain ⟨hr14, h⟩ := h
      refine wp_if_eq (tgt := 44) dX8_face_30 (by decide) hr14 (fun c15 => ?_) (fun c15 => ?_)
      · replace h := h.1 c15
        refine wp_iconst dX8_face_44 ?_
        refine wp_goto (tgt := 63) dX8_face_45 (by decide) ?_
        refine wp_put (v := vi 2) dX8_face_63 fs_RX8_108 (fun h => absurd h (by decide)) hk2 (Or.inl rfl) ?_
        refine wp_nmS (fun σ16 hs17 => ?_)
        replace h := h σ16 hs17
        refine wp_aload_n dX8_face_66 rfl ?_
        refine wp_get (v := vi 2) dX8_face_67 fl_RX8_108 (by rw [hs17]; exact hk2) (by rw [hs17]; exact q_memI) ?_
        refine wp_if_le (tgt := 75) dX8_face_70 (by decide) (by unfold qR; omega) (fun c9 => absurd c9 (by decide)) (fun _ => ?_)
        refine wp_iconst dX8_face_73 ?_
        exact wp_ret_i dX8_face_74 rfl rfl h
      · replace h := h.2 c15
        refine wp_iload dX8_face_33 rfl ?_
        refine wp_iconst dX8_face_35 ?_
        refine wp_bipush dX8_face_36 (by decide) ?_
        obtain ⟨v19, hm18, h⟩ := h
        refine wp_callS (M' := M_X8_in) (As := [vi a4, vi 1, vi 8]) (st := [vr a0]) dX8_face_38 cee_X8_in np_X8_in rfl ⟨Nat.le_of_ble_eq_true rfl, Nat.le_of_ble_eq_true rfl, Nat.le_of_ble_eq_true rfl, Nat.le_of_ble_eq_true rfl⟩ wd_1344 wd_1345 (q_small_of (Nat.le_of_ble_eq_true rfl)) hm18 (q_kPi ?_) q_kPi0
        refine wp_less (ac2 := 0) (as2 := 0) (Nat.le_of_ble_eq_true rfl) (Nat.le_of_ble_eq_true rfl) ?_
        obtain ⟨h, hk29⟩ := h
        have key28 : ∀ v26 : Int, v26 = (if ¬ v19 = 0 then (if ¬ (gA σ (gP σ 333 a0) a1) = 2 then 0 else 3) else 2) → qW g l M_X8_face 0 0 63 [some (vr a0), some (vi a1), some (vi a2), some (vi a3), some (vi a4), none] [vi v26, vr a0] σ Post := by
          intro v26 hv27
          have h := hk29 v26 hv27
          have hr30 : qR v26 := by (rw [hv27]; unfold qR; repeat' split) <;> omega
          refine wp_put (v := vi v26) dX8_face_63 fs_RX8_108 (fun h => absurd h (by decide)) hk2 (Or.inl rfl) ?_
          refine wp_nmS (fun σ31 hs32 => ?_)
          replace h := h σ31 hs32
          refine wp_aload_n dX8_face_66 rfl ?_
          refine wp_get (v := vi v26) dX8_face_67 fl_RX8_108 (by rw [hs32]; exact hk2) (by rw [hs32]; exact q_memI) ?_
          refine wp_if_le (tgt := 75) dX8_face_70 (by decide) hr30 (fun c33 => ?_) (fun c33 => ?_)
          · replace h := h.1 c33
            refine wp_aload_n dX8_face_75 rfl ?_
            obtain ⟨Mid35, hm34, hk37⟩ := h
            refine wp_callV (M' := M_X8_keeps) (As := []) (st := []) (ci := 8) dX8_face_76 cee_X8_keeps np_X8_keeps rfl ⟨Nat.le_of_ble_eq_true rfl, Nat.le_of_ble_eq_true rfl, Nat.le_of_ble_eq_true rfl, Nat.le_of_ble_eq_true rfl⟩ wd_1351 wd_1353 sel_X8_keeps rfl (Or.inl (by rw [hs32]; exact hk2)) (q_small_of (Nat.le_of_ble_eq_true rfl)) hm34 (q_kTv0 (fun σ39 hM40 => ?_)) q_kTv00
            refine wp_less (ac2 := 0) (as2 := 0) (Nat.le_of_ble_eq_true rfl) (Nat.le_of_ble_eq_true rfl) ?_
            have h := hk37 σ39 hM40
            refine wp_bipush dX8_face_79 (by decide) ?_
            refine wp_iload_n dX8_face_81 rfl ?_
            refine wp_imul dX8_face_82 ?_
            refine wp_iconst dX8_face_83 ?_
            refine wp_aload_n dX8_face_84 rfl ?_
            obtain ⟨hk41, h⟩ := h
            refine wp_get (v := vr (gP σ39 333 a0)) dX8_face_85 fl_RX8_38 hk41 rfl ?_
            refine wp_iload_n dX8_face_88 rfl ?_
            obtain ⟨ha42, hi43, h⟩ := h
            refine wp_iaload dX8_face_89 ha42 hi43 ?_
            refine wp_imul dX8_face_90 ?_
            refine wp_iadd dX8_face_91 ?_
            refine wp_nmI (fun x44 hx45 => ?_)
            replace h := h x44 hx45
            refine wp_istore' (ls' := [some (vr a0), some (vi a1), some (vi a2), some (vi a3), some (vi a4), some (vi x44)]) dX8_face_92 (Nat.le_of_ble_eq_true rfl) rfl ?_
            refine wp_aload_n dX8_face_94 rfl ?_
            refine wp_get (v := vr (gP σ39 334 a0)) dX8_face_95 fl_RX8_41 hk41 rfl ?_
            refine wp_iload dX8_face_98 rfl ?_
            refine wp_iload_n dX8_face_100 rfl ?_
            obtain ⟨hk46, hi47, h⟩ := h
            refine wp_iastore dX8_face_101 hk46 hi47 ?_
            refine wp_nmS (fun σ48 hs49 => ?_)
            replace h := h σ48 hs49
            refine wp_aload_n dX8_face_102 rfl ?_
            refine wp_get (v := vr (gP σ48 334 a0)) dX8_face_103 fl_RX8_41 (by rw [hs49]; exact hk41) rfl ?_
            refine wp_iload dX8_face_106 rfl ?_
            refine wp_iconst dX8_face_108 ?_
            refine wp_iadd dX8_face_109 ?_
            refine wp_iload_n dX8_face_110 rfl ?_
            obtain ⟨hk50, hi51, h⟩ := h
            refine wp_iastore dX8_face_111 hk50 hi51 ?_
            refine wp_nmS (fun σ52 hs53 => ?_)
            replace h := h σ52 hs53
            refine wp_aload_n dX8_face_112 rfl ?_
            refine wp_get (v := vr (gP σ52 334 a0)) dX8_face_113 fl_RX8_41 (by rw [hs53, hs49]; exact hk41) rfl ?_
            refine wp_iload dX8_face_116 rfl ?_
            refine wp_iconst dX8_face_118 ?_
            refine wp_iadd dX8_face_119 ?_
            refine wp_iload dX8_face_120 rfl ?_
            obtain ⟨hk54, hi55, h⟩ := h
            refine wp_iastore dX8_face_122 hk54 hi55 ?_
            refine wp_nmS (fun σ56 hs57 => ?_)
            replace h := h σ56 hs57
            refine wp_aload_n dX8_face_123 rfl ?_
            refine wp_get (v := vr (gP σ56 333 a0)) dX8_face_124 fl_RX8_38 (by rw [hs57, hs53, hs49]; exact hk41) rfl ?_
            refine wp_iload_n dX8_face_127 rfl ?_
            refine wp_dup2 dX8_face_128 trivial trivial ?_
            obtain ⟨ha58, hi59, h⟩ := h
            refine wp_iaload dX8_face_129 ha58 hi59 ?_
            refine wp_iconst dX8_face_130 ?_
            refine wp_iadd dX8_face_131 ?_
            obtain ⟨hk60, h⟩ := h
            refine wp_iastore dX8_face_132 hk60 hi59 ?_
            refine wp_nmS (fun σ61 hs62 => ?_)
            replace h := h σ61 hs62
            refine wp_aload_n dX8_face_133 rfl ?_
            refine wp_aload_n dX8_face_134 rfl ?_
            obtain ⟨Mid64, hm63, hk66⟩ := h
            refine wp_callV (M' := M_X8_stays) (As := []) (st := [vr a0]) (ci := 8) dX8_face_135 cee_X8_stays np_X8_stays rfl ⟨Nat.le_of_ble_eq_true rfl, Nat.le_of_ble_eq_true rfl, Nat.le_of_ble_eq_true rfl, Nat.le_of_ble_eq_true rfl⟩ wd_1361 wd_1363 sel_X8_stays rfl (Or.inl (by rw [hs62, hs57, hs53, hs49]; exact hk41)) (q_small_of (Nat.le_of_ble_eq_true rfl)) hm63 (q_kTi0 (fun σ68 v70 hM69 => ?_)) q_kTi00
            refine wp_less (ac2 := 0) (as2 := 0) (Nat.le_of_ble_eq_true rfl) (Nat.le_of_ble_eq_true rfl) ?_
            have h := hk66 σ68 v70 hM69
            obtain ⟨h, hk76⟩ := h
            have key75 : ∀ v73 : Int, v73 = (if v70 = 0 then 3 else 0) → qW g l M_X8_face 0 0 146 [some (vr a0), some (vi a1), some (vi a2), some (vi a3), some (vi a4), some (vi x44)] [vi v73, vr a0] σ68 Post := by
              intro v73 hv74
              have h := hk76 v73 hv74
              have hr77 : qR v73 := by (rw [hv74]; unfold qR; repeat' split) <;> omega
              obtain ⟨hk78, h⟩ := h
              refine wp_put (v := vi v73) dX8_face_146 fs_RX8_108 (fun h => absurd h (by decide)) hk78 (Or.inl rfl) ?_
              refine wp_nmS (fun σ79 hs80 => ?_)
              replace h := h σ79 hs80
              refine wp_aload_n dX8_face_149 rfl ?_
              refine wp_get (v := vi v73) dX8_face_150 fl_RX8_108 (by rw [hs80]; exact hk78) (by rw [hs80]; exact q_memI) ?_
              obtain ⟨h, hk87⟩ := h
              have key86 : ∀ v84 : Int, v84 = (if v73 ≤ 0 then (gA σ79 (gP σ79 340 a0) ((5 * a1) + 4)) else 0) → qW g l M_X8_face 0 0 170 [some (vr a0), some (vi a1), some (vi a2), some (vi a3), some (vi a4), some (vi x44)] [vi v84] σ79 Post := by
                intro v84 hv85
                have h := hk87 v84 hv85
                exact wp_ret_i dX8_face_170 rfl rfl h
              refine wp_if_le (tgt := 160) dX8_face_153 (by decide) hr77 (fun c88 => ?_) (fun c88 => ?_)
              · replace h := h c88
                refine wp_aload_n dX8_face_160 rfl ?_
                refine wp_get (v := vr (gP σ79 340 a0)) dX8_face_161 fl_RX8_59 (by rw [hs80]; exact hk78) rfl ?_
                refine wp_iconst dX8_face_164 ?_
                refine wp_iload_n dX8_face_165 rfl ?_
                refine wp_imul dX8_face_166 ?_
                refine wp_iconst dX8_face_167 ?_
                refine wp_iadd dX8_face_168 ?_
                obtain ⟨ha89, hi90⟩ := h
                refine wp_iaload dX8_face_169 ha89 hi90 ?_
                exact key86 _ (by rw [if_pos c88])
              · refine wp_iconst dX8_face_156 ?_
                refine wp_goto (tgt := 170) dX8_face_157 (by decide) ?_
                exact key86 _ (by rw [if_neg c88])
            have hr91 := h
            refine wp_if_eq (tgt := 145) dX8_face_138 (by decide) hr91 (fun c92 => ?_) (fun c92 => ?_)
            · refine wp_iconst dX8_face_145 ?_
              exact key75 _ (by rw [if_pos c92])
            · refine wp_iconst dX8_face_141 ?_
              refine wp_goto (tgt := 146) dX8_face_142 (by decide) ?_
              exact key75 _ (by rw [if_neg c92])
          · replace h := h.2 c33
            refine wp_iconst dX8_face_73 ?_
            exact wp_ret_i dX8_face_74 rfl rfl h
        obtain ⟨hr93, h⟩ := h
        refine wp_if_ne (tgt := 48) dX8_face_41 (by decide) hr93 (fun c94 => ?_) (fun c94 => ?_)
        · replace h := h c94
          refine wp_aload_n dX8_face_48 rfl ?_
          refine wp_get (v := vr (gP σ 333 a0)) dX8_face_49 fl_RX8_38 hk2 rfl ?_
          refine wp_iload_n dX8_face_52 rfl ?_
          obtain ⟨ha95, hi96, h⟩ := h
          refine wp_iaload dX8_face_53 ha95 hi96 ?_
          refine wp_iconst dX8_face_54 ?_
          have hr97 := h
          refine wp_icmp_ne (tgt := 62) dX8_face_55 (by decide) hr97 (by unfold qR; omega) (fun c98 => ?_) (fun c98 => ?_)
          · refine wp_iconst dX8_face_62 ?_
            exact key28 _ (by rw [if_pos c94, if_pos c98])
          · refine wp_iconst dX8_face_58 ?_
            refine wp_goto (tgt := 63) dX8_face_59 (by decide) ?_
            exact key28 _ (by rw [if_pos c94, if_neg (fun z => z c98)])
        · refine wp_iconst dX8_face_44 ?_
          refine wp_goto (tgt := 63) dX8_face_45 (by decide) ?_
          exact key28 _ (by rw [if_neg (fun z => z c94)])
  · replace h := h.2 c5
    refine wp_iconst dX8_face_9 ?_
    refine wp_goto (tgt := 63) dX8_face_10 (by decide) ?_
    refine wp_put (v := vi 1) dX8_face_63 fs_RX8_108 (fun h => absurd h (by decide)) hk2 (Or.inl rfl) ?_
    refine wp_nmS (fun σ99 hs100 => ?_)
    replace h := h σ99 hs100
    refine wp_aload_n dX8_face_66 rfl ?_
    refine wp_get (v := vi 1) dX8_face_67 fl_RX8_108 (by rw [hs100]; exact hk2) (by rw [hs100]; exact q_memI) ?_
    refine wp_if_le (tgt := 75) dX8_face_70 (by decide) (by unfold qR; omega) (fun c9 => absurd c9 (by decide)) (fun _ => ?_)
    refine wp_iconst dX8_face_73 ?_
    exact wp_ret_i dX8_face_74 rfl rfl h

set_option maxRecDepth 100000 in
set_option maxHeartbeats 4000000 in
theorem wm_X8_balloon {g : qG} {l : Launch} (hl : l.stackTraces = false) {a0 : Nat} {a1 : Int} {a2 : Int} {a3 : Int} {σ : qS} {Post : qS → qRs → Prop}
    (h : gK σ a0 = 9 ∧ (∃ v3 : Int, qMet g l M_X8_isPanel [vr a0, vi a1] σ (qPi σ v3) ∧ (qR v3 ∧ ((v3 = 0 → (∃ Mid7 : qS → Int → Prop, qMet g l M_X8_fails [vr a0, vi 1] σ (qTi0 Mid7) ∧ ∀ (σ11 : qS) (v13 : Int), Mid7 σ11 v13 → Post σ11 (.inl (some (vi v13))))) ∧ (¬ (v3 = 0) → q_isA σ 0 (gP σ 335 a0) ∧ q_in σ (gP σ 335 a0) a1 ∧ (∃ v17 : Int, qMet g l M_X8_in [vi a2, vi 0, vi (gA σ (gP σ 335 a0) a1)] σ (qPi σ v17) ∧ (qR v17 ∧ ((¬ v17 = 0 → (∃ v21 : Int, qMet g l M_X8_in [vi a3, vi 1, vi 60] σ (qPi σ v21) ∧ (((qR v21 ∧ (¬ v21 = 0 → qR (gA σ (gP σ 335 a0) a1) ∧ (¬ ((gA σ (gP σ 335 a0) a1) = 4) → qR (gI σ 323 a0)))) ∧ ∀ v28 : Int, v28 = (if ¬ v21 = 0 then (if (gA σ (gP σ 335 a0) a1) = 4 then 3 else (if ¬ (gI σ 323 a0) = 80 then 0 else 3)) else 2) → (∀ σ33 : qS, σ33 = sI σ 320 a0 v28 → ((v28 ≤ 0 → (∃ Mid37 : qS → Prop, qMet g l M_X8_keeps [vr a0] σ33 (qTv0 Mid37) ∧ ∀ (σ41 : qS), Mid37 σ41 → gK σ41 a0 = 9 ∧ gK σ41 (gP σ41 337 a0) = 20 ∧ q_in σ41 (gP σ41 337 a0) (gI σ41 323 a0) ∧ (∀ σ46 : qS, σ46 = sA σ41 (gP σ41 337 a0) (gI σ41 323 a0) a1 → gK σ46 (gP σ46 338 a0) = 20 ∧ q_in σ46 (gP σ46 338 a0) (gI σ46 323 a0) ∧ (∀ σ50 : qS, σ50 = sA σ46 (gP σ46 338 a0) (gI σ46 323 a0) a3 → gK σ50 (gP σ50 339 a0) = 20 ∧ q_in σ50 (gP σ50 339 a0) (gI σ50 323 a0) ∧ (∀ σ54 : qS, σ54 = sA σ50 (gP σ50 339 a0) (gI σ50 323 a0) ((-1)) → q_isA σ54 0 (gP σ54 335 a0) ∧ q_in σ54 (gP σ54 335 a0) a1 ∧ (∃ Mid59 : qS → Prop, qMet g l M_X8_inserts [vr (gP σ54 336 a0), vi (4 * a1), vi (gA σ54 (gP σ54 335 a0) a1), vi a2, vi (gI σ54 323 a0)] σ54 (qTv0 Mid59) ∧ ∀ (σ63 : qS), Mid59 σ63 → gK σ63 a0 = 9 ∧ q_isA σ63 0 (gP σ63 335 a0) ∧ q_in σ63 (gP σ63 335 a0) a1 ∧ gK σ63 (gP σ63 335 a0) = 20 ∧ (∀ σ69 : qS, σ69 = sA σ63 (gP σ63 335 a0) a1 ((gA σ63 (gP σ63 335 a0) a1) + 1) → (∀ σ71 : qS, σ71 = sI σ69 323 a0 ((gI σ69 323 a0) + 1) → (∃ Mid74 : qS → Int → Prop, qMet g l M_X8_stays [vr a0] σ71 (qTi0 Mid74) ∧ ∀ (σ78 : qS) (v80 : Int), Mid74 σ78 v80 → qR v80 ∧ ((¬ v80 = 0 → gK σ78 a0 = 9 ∧ Post σ78 (.inl (some (vi ((gI σ78 323 a0) - 1))))) ∧ (v80 = 0 → gK σ78 a0 = 9 ∧ (∀ σ85 : qS, σ85 = sI σ78 323 a0 ((gI σ78 323 a0) - 1) → (∃ Mid88 : qS → Int → Prop, qMet g l M_X8_fails [vr a0, vi 3] σ85 (qTi0 Mid88) ∧ ∀ (σ92 : qS) (v94 : Int), Mid88 σ92 v94 → Post σ92 (.inl (some (vi v94)))))))))))))))) ∧ (¬ (v28 ≤ 0) → Post σ33 (.inl (some (vi 0)))))))))) ∧ (v17 = 0 → (∃ Mid102 : qS → Int → Prop, qMet g l M_X8_fails [vr a0, vi 1] σ (qTi0 Mid102) ∧ ∀ (σ106 : qS) (v108 : Int), Mid102 σ106 v108 → Post σ106 (.inl (some (vi v108))))))))))))) : qMet g l M_X8_balloon [vr a0, vi a1, vi a2, vi a3] σ Post := by
  refine qMet_of hl (by decide +kernel) (Nat.le_of_ble_eq_true rfl) (List.forall_mem_cons.mpr ⟨trivial, List.forall_mem_cons.mpr ⟨trivial, List.forall_mem_cons.mpr ⟨trivial, List.forall_mem_cons.mpr ⟨trivial, fun _ h => nomatch h⟩⟩⟩⟩) ?_
  show qW g l M_X8_balloon 0 0 0 [some (vr a0), some (vi a1), some (vi a2), some (vi a3)] [] σ Post
  refine wp_aload_n dX8_balloon_0 rfl ?_
  refine wp_iload_n dX8_balloon_1 rfl ?_
  obtain ⟨hk2, h⟩ := h
  obtain ⟨v3, hm1, h⟩ := h
  refine wp_callV (M' := M_X8_isPanel) (As := [vi a1]) (st := []) (ci := 8) dX8_balloon_2 cee_X8_isPanel np_X8_isPanel rfl ⟨Nat.le_of_ble_eq_true rfl, Nat.le_of_ble_eq_true rfl, Nat.le_of_ble_eq_true rfl, Nat.le_of_ble_eq_true rfl⟩ wd_1416 wd_1418 sel_X8_isPanel rfl (Or.inl hk2) (q_small_of (Nat.le_of_ble_eq_true rfl)) hm1 (q_kPi ?_) q_kPi0
  refine wp_less (ac2 := 0) (as2 := 0) (Nat.le_of_ble_eq_true rfl) (Nat.le_of_ble_eq_true rfl) ?_
  obtain ⟨hr4, h⟩ := h
  refine wp_if_eq (tgt := 22) dX8_balloon_5 (by decide) hr4 (fun c5 => ?_) (fun c5 => ?_)
  · replace h := h.1 c5
    refine wp_aload_n dX8_balloon_22 rfl ?_
    refine wp_iconst dX8_balloon_23 ?_
    obtain ⟨Mid7, hm6, hk9⟩ := h
    refine wp_callV (M' := M_X8_fails) (As := [vi 1]) (st := []) (ci := 8) dX8_balloon_24 cee_X8_fails np_X8_fails rfl ⟨Nat.le_of_ble_eq_true rfl, Nat.le_of_ble_eq_true rfl, Nat.le_of_ble_eq_true rfl, Nat.le_of_ble_eq_true rfl⟩ wd_1347 wd_1349 sel_X8_fails rfl (Or.inl hk2) (q_small_of (Nat.le_of_ble_eq_true rfl)) hm6 (q_kTi0 (fun σ11 v13 hM12 => ?_)) q_kTi00
    refine wp_less (ac2 := 0) (as2 := 0) (Nat.le_of_ble_eq_true rfl) (Nat.le_of_ble_eq_true rfl) ?_
    have h := hk9 σ11 v13 hM12
    exact wp_ret_i dX8_balloon_27 rfl rfl h
  · replace h := h.2 c5
    refine wp_iload_n dX8_balloon_8 rfl ?_
    refine wp_iconst dX8_balloon_9 ?_
    refine wp_aload_n dX8_balloon_10 rfl ?_
    refine wp_get (v := vr (gP σ 335 a0)) dX8_balloon_11 fl_RX8_44 hk2 rfl ?_
    refine wp_iload_n dX8_balloon_14 rfl ?_
    obtain ⟨ha14, hi15, h⟩ := h
    refine wp_iaload dX8_balloon_15 ha14 hi15 ?_
    obtain ⟨v17, hm16, h⟩ := h
    refine wp_callS (M' := M_X8_in) (As := [vi a2, vi 0, vi (gA σ (gP σ 335 a0) a1)]) (st := []) dX8_balloon_16 cee_X8_in np_X8_in rfl ⟨Nat.le_of_ble_eq_true rfl, Nat.le_of_ble_eq_true rfl, Nat.le_of_ble_eq_true rfl, Nat.le_of_ble_eq_true rfl⟩ wd_1344 wd_1345 (q_small_of (Nat.le_of_ble_eq_true rfl)) hm16 (q_kPi ?_) q_kPi0
    refine wp_less (ac2 := 0) (as2 := 0) (Nat.le_of_ble_eq_true rfl) (Nat.le_of_ble_eq_true rfl) ?_
    obtain ⟨hr18, h⟩ := h
    refine wp_if_ne (tgt := 28) dX8_balloon_19 (by decide) hr18 (fun c19 => ?_) (fun c19 => ?_)
    · replace h := h.1 c19
      refine wp_aload_n dX8_balloon_28 rfl ?_
      refine wp_iload_n dX8_balloon_29 rfl ?_
      refine wp_iconst dX8_balloon_30 ?_
      refine wp_bipush dX8_balloon_31 (by decide) ?_
      obtain ⟨v21, hm20, h⟩ := h
      refine wp_callS (M' := M_X8_in) (As := [vi a3, vi 1, vi 60]) (st := [vr a0]) dX8_balloon_33 cee_X8_in np_X8_in rfl ⟨Nat.le_of_ble_eq_true rfl, Nat.le_of_ble_eq_true rfl, Nat.le_of_ble_eq_true rfl, Nat.le_of_ble_eq_true rfl⟩ wd_1344 wd_1345 (q_small_of (Nat.le_of_ble_eq_true rfl)) hm20 (q_kPi ?_) q_kPi0
      refine wp_less (ac2 := 0) (as2 := 0) (Nat.le_of_ble_eq_true rfl) (Nat.le_of_ble_eq_true rfl) ?_
      obtain ⟨h, hk31⟩ := h
      have key30 : ∀ v28 : Int, v28 = (if ¬ v21 = 0 then (if (gA σ (gP σ 335 a0) a1) = 4 then 3 else (if ¬ (gI σ 323 a0) = 80 then 0 else 3)) else 2) → qW g l M_X8_balloon 0 0 67 [some (vr a0), some (vi a1), some (vi a2), some (vi a3)] [vi v28, vr a0] σ Post := by
        intro v28 hv29
        have h := hk31 v28 hv29
        have hr32 : qR v28 := by (rw [hv29]; unfold qR; repeat' split) <;> omega
        refine wp_put (v := vi v28) dX8_balloon_67 fs_RX8_108 (fun h => absurd h (by decide)) hk2 (Or.inl rfl) ?_
        refine wp_nmS (fun σ33 hs34 => ?_)
        replace h := h σ33 hs34
        refine wp_aload_n dX8_balloon_70 rfl ?_
        refine wp_get (v := vi v28) dX8_balloon_71 fl_RX8_108 (by rw [hs34]; exact hk2) (by rw [hs34]; exact q_memI) ?_
        refine wp_if_le (tgt := 79) dX8_balloon_74 (by decide) hr32 (fun c35 => ?_) (fun c35 => ?_)
        · replace h := h.1 c35
          refine wp_aload_n dX8_balloon_79 rfl ?_
          obtain ⟨Mid37, hm36, hk39⟩ := h
          refine wp_callV (M' := M_X8_keeps) (As := []) (st := []) (ci := 8) dX8_balloon_80 cee_X8_keeps np_X8_keeps rfl ⟨Nat.le_of_ble_eq_true rfl, Nat.le_of_ble_eq_true rfl, Nat.le_of_ble_eq_true rfl, Nat.le_of_ble_eq_true rfl⟩ wd_1351 wd_1353 sel_X8_keeps rfl (Or.inl (by rw [hs34]; exact hk2)) (q_small_of (Nat.le_of_ble_eq_true rfl)) hm36 (q_kTv0 (fun σ41 hM42 => ?_)) q_kTv00
          refine wp_less (ac2 := 0) (as2 := 0) (Nat.le_of_ble_eq_true rfl) (Nat.le_of_ble_eq_true rfl) ?_
          have h := hk39 σ41 hM42
          refine wp_aload_n dX8_balloon_83 rfl ?_
          obtain ⟨hk43, h⟩ := h
          refine wp_get (v := vr (gP σ41 337 a0)) dX8_balloon_84 fl_RX8_50 hk43 rfl ?_
          refine wp_aload_n dX8_balloon_87 rfl ?_
          refine wp_get (v := vi (gI σ41 323 a0)) dX8_balloon_88 fl_RX8_121 hk43 rfl ?_
          refine wp_iload_n dX8_balloon_91 rfl ?_
          obtain ⟨hk44, hi45, h⟩ := h
          refine wp_iastore dX8_balloon_92 hk44 hi45 ?_
          refine wp_nmS (fun σ46 hs47 => ?_)
          replace h := h σ46 hs47
          refine wp_aload_n dX8_balloon_93 rfl ?_
          refine wp_get (v := vr (gP σ46 338 a0)) dX8_balloon_94 fl_RX8_53 (by rw [hs47]; exact hk43) rfl ?_
          refine wp_aload_n dX8_balloon_97 rfl ?_
          refine wp_get (v := vi (gI σ46 323 a0)) dX8_balloon_98 fl_RX8_121 (by rw [hs47]; exact hk43) rfl ?_
          refine wp_iload_n dX8_balloon_101 rfl ?_
          obtain ⟨hk48, hi49, h⟩ := h
          refine wp_iastore dX8_balloon_102 hk48 hi49 ?_
          refine wp_nmS (fun σ50 hs51 => ?_)
          replace h := h σ50 hs51
          refine wp_aload_n dX8_balloon_103 rfl ?_
          refine wp_get (v := vr (gP σ50 339 a0)) dX8_balloon_104 fl_RX8_56 (by rw [hs51, hs47]; exact hk43) rfl ?_
          refine wp_aload_n dX8_balloon_107 rfl ?_
          refine wp_get (v := vi (gI σ50 323 a0)) dX8_balloon_108 fl_RX8_121 (by rw [hs51, hs47]; exact hk43) rfl ?_
          refine wp_iconst dX8_balloon_111 ?_
          obtain ⟨hk52, hi53, h⟩ := h
          refine wp_iastore dX8_balloon_112 hk52 hi53 ?_
          refine wp_nmS (fun σ54 hs55 => ?_)
          replace h := h σ54 hs55
          refine wp_aload_n dX8_balloon_113 rfl ?_
          refine wp_get (v := vr (gP σ54 336 a0)) dX8_balloon_114 fl_RX8_47 (by rw [hs55, hs51, hs47]; exact hk43) rfl ?_
          refine wp_iconst dX8_balloon_117 ?_
          refine wp_iload_n dX8_balloon_118 rfl ?_
          refine wp_imul dX8_balloon_119 ?_
          refine wp_aload_n dX8_balloon_120 rfl ?_
          refine wp_get (v := vr (gP σ54 335 a0)) dX8_balloon_121 fl_RX8_44 (by rw [hs55, hs51, hs47]; exact hk43) rfl ?_
          refine wp_iload_n dX8_balloon_124 rfl ?_
          obtain ⟨ha56, hi57, h⟩ := h
          refine wp_iaload dX8_balloon_125 ha56 hi57 ?_
          refine wp_iload_n dX8_balloon_126 rfl ?_
          refine wp_aload_n dX8_balloon_127 rfl ?_
          refine wp_get (v := vi (gI σ54 323 a0)) dX8_balloon_128 fl_RX8_121 (by rw [hs55, hs51, hs47]; exact hk43) rfl ?_
          obtain ⟨Mid59, hm58, hk61⟩ := h
          refine wp_callS (M' := M_X8_inserts) (As := [vr (gP σ54 336 a0), vi (4 * a1), vi (gA σ54 (gP σ54 335 a0) a1), vi a2, vi (gI σ54 323 a0)]) (st := []) dX8_balloon_131 cee_X8_inserts np_X8_inserts rfl ⟨Nat.le_of_ble_eq_true rfl, Nat.le_of_ble_eq_true rfl, Nat.le_of_ble_eq_true rfl, Nat.le_of_ble_eq_true rfl⟩ wd_1358 wd_1359 (q_small_of (Nat.le_of_ble_eq_true rfl)) hm58 (q_kTv0 (fun σ63 hM64 => ?_)) q_kTv00
          refine wp_less (ac2 := 0) (as2 := 0) (Nat.le_of_ble_eq_true rfl) (Nat.le_of_ble_eq_true rfl) ?_
          have h := hk61 σ63 hM64
          refine wp_aload_n dX8_balloon_134 rfl ?_
          obtain ⟨hk65, h⟩ := h
          refine wp_get (v := vr (gP σ63 335 a0)) dX8_balloon_135 fl_RX8_44 hk65 rfl ?_
          refine wp_iload_n dX8_balloon_138 rfl ?_
          refine wp_dup2 dX8_balloon_139 trivial trivial ?_
          obtain ⟨ha66, hi67, h⟩ := h
          refine wp_iaload dX8_balloon_140 ha66 hi67 ?_
          refine wp_iconst dX8_balloon_141 ?_
          refine wp_iadd dX8_balloon_142 ?_
          obtain ⟨hk68, h⟩ := h
          refine wp_iastore dX8_balloon_143 hk68 hi67 ?_
          refine wp_nmS (fun σ69 hs70 => ?_)
          replace h := h σ69 hs70
          refine wp_aload_n dX8_balloon_144 rfl ?_
          refine wp_dup dX8_balloon_145 trivial ?_
          refine wp_get (v := vi (gI σ69 323 a0)) dX8_balloon_146 fl_RX8_121 (by rw [hs70]; exact hk65) rfl ?_
          refine wp_iconst dX8_balloon_149 ?_
          refine wp_iadd dX8_balloon_150 ?_
          refine wp_put (v := vi ((gI σ69 323 a0) + 1)) dX8_balloon_151 fs_RX8_121 (fun h => absurd h (by decide)) (by rw [hs70]; exact hk65) (Or.inl rfl) ?_
          refine wp_nmS (fun σ71 hs72 => ?_)
          replace h := h σ71 hs72
          refine wp_aload_n dX8_balloon_154 rfl ?_
          obtain ⟨Mid74, hm73, hk76⟩ := h
          refine wp_callV (M' := M_X8_stays) (As := []) (st := []) (ci := 8) dX8_balloon_155 cee_X8_stays np_X8_stays rfl ⟨Nat.le_of_ble_eq_true rfl, Nat.le_of_ble_eq_true rfl, Nat.le_of_ble_eq_true rfl, Nat.le_of_ble_eq_true rfl⟩ wd_1361 wd_1363 sel_X8_stays rfl (Or.inl (by rw [hs72, hs70]; exact hk65)) (q_small_of (Nat.le_of_ble_eq_true rfl)) hm73 (q_kTi0 (fun σ78 v80 hM79 => ?_)) q_kTi00
          refine wp_less (ac2 := 0) (as2 := 0) (Nat.le_of_ble_eq_true rfl) (Nat.le_of_ble_eq_true rfl) ?_
          have h := hk76 σ78 v80 hM79
          obtain ⟨hr81, h⟩ := h
          refine wp_if_ne (tgt := 177) dX8_balloon_158 (by decide) hr81 (fun c82 => ?_) (fun c82 => ?_)
          · replace h := h.1 c82
            refine wp_aload_n dX8_balloon_177 rfl ?_
            obtain ⟨hk83, h⟩ := h
            refine wp_get (v := vi (gI σ78 323 a0)) dX8_balloon_178 fl_RX8_121 hk83 rfl ?_
            refine wp_iconst dX8_balloon_181 ?_
            refine wp_isub dX8_balloon_182 ?_
            exact wp_ret_i dX8_balloon_183 rfl rfl h
          · replace h := h.2 c82
            refine wp_aload_n dX8_balloon_161 rfl ?_
            refine wp_dup dX8_balloon_162 trivial ?_
            obtain ⟨hk84, h⟩ := h
            refine wp_get (v := vi (gI σ78 323 a0)) dX8_balloon_163 fl_RX8_121 hk84 rfl ?_
            refine wp_iconst dX8_balloon_166 ?_
            refine wp_isub dX8_balloon_167 ?_
            refine wp_put (v := vi ((gI σ78 323 a0) - 1)) dX8_balloon_168 fs_RX8_121 (fun h => absurd h (by decide)) hk84 (Or.inl rfl) ?_
            refine wp_nmS (fun σ85 hs86 => ?_)
            replace h := h σ85 hs86
            refine wp_aload_n dX8_balloon_171 rfl ?_
            refine wp_iconst dX8_balloon_172 ?_
            obtain ⟨Mid88, hm87, hk90⟩ := h
            refine wp_callV (M' := M_X8_fails) (As := [vi 3]) (st := []) (ci := 8) dX8_balloon_173 cee_X8_fails np_X8_fails rfl ⟨Nat.le_of_ble_eq_true rfl, Nat.le_of_ble_eq_true rfl, Nat.le_of_ble_eq_true rfl, Nat.le_of_ble_eq_true rfl⟩ wd_1347 wd_1349 sel_X8_fails rfl (Or.inl (by rw [hs86]; exact hk84)) (q_small_of (Nat.le_of_ble_eq_true rfl)) hm87 (q_kTi0 (fun σ92 v94 hM93 => ?_)) q_kTi00
            refine wp_less (ac2 := 0) (as2 := 0) (Nat.le_of_ble_eq_true rfl) (Nat.le_of_ble_eq_true rfl) ?_
            have h := hk90 σ92 v94 hM93
            exact wp_ret_i dX8_balloon_176 rfl rfl h
        · replace h := h.2 c35
          refine wp_iconst dX8_balloon_77 ?_
          exact wp_ret_i dX8_balloon_78 rfl rfl h
      obtain ⟨hr95, h⟩ := h
      refine wp_if_ne (tgt := 43) dX8_balloon_36 (by decide) hr95 (fun c96 => ?_) (fun c96 => ?_)
      · replace h := h c96
        refine wp_aload_n dX8_balloon_43 rfl ?_
        refine wp_get (v := vr (gP σ 335 a0)) dX8_balloon_44 fl_RX8_44 hk2 rfl ?_
        refine wp_iload_n dX8_balloon_47 rfl ?_
        refine wp_iaload dX8_balloon_48 ha14 hi15 ?_
        refine wp_iconst dX8_balloon_49 ?_
        obtain ⟨hr97, h⟩ := h
        refine wp_icmp_eq (tgt := 62) dX8_balloon_50 (by decide) hr97 (by unfold qR; omega) (fun c98 => ?_) (fun c98 => ?_)
        · refine wp_iconst dX8_balloon_62 ?_
          refine wp_goto (tgt := 67) dX8_balloon_63 (by decide) ?_
          exact key30 _ (by rw [if_pos c96, if_pos c98])
        · replace h := h c98
          refine wp_aload_n dX8_balloon_53 rfl ?_
          refine wp_get (v := vi (gI σ 323 a0)) dX8_balloon_54 fl_RX8_121 hk2 rfl ?_
          refine wp_bipush dX8_balloon_57 (by decide) ?_
          have hr99 := h
          refine wp_icmp_ne (tgt := 66) dX8_balloon_59 (by decide) hr99 (by unfold qR; omega) (fun c100 => ?_) (fun c100 => ?_)
          · refine wp_iconst dX8_balloon_66 ?_
            exact key30 _ (by rw [if_pos c96, if_neg c98, if_pos c100])
          · refine wp_iconst dX8_balloon_62 ?_
            refine wp_goto (tgt := 67) dX8_balloon_63 (by decide) ?_
            exact key30 _ (by rw [if_pos c96, if_neg c98, if_neg (fun z => z c100)])
      · refine wp_iconst dX8_balloon_39 ?_
        refine wp_goto (tgt := 67) dX8_balloon_40 (by decide) ?_
        exact key30 _ (by rw [if_neg (fun z => z c96)])
    · replace h := h.2 c19
      refine wp_aload_n dX8_balloon_22 rfl ?_
      refine wp_iconst dX8_balloon_23 ?_
      obtain ⟨Mid102, hm101, hk104⟩ := h
      refine wp_callV (M' := M_X8_fails) (As := [vi 1]) (st := []) (ci := 8) dX8_balloon_24 cee_X8_fails np_X8_fails rfl ⟨Nat.le_of_ble_eq_true rfl, Nat.le_of_ble_eq_true rfl, Nat.le_of_ble_eq_true rfl, Nat.le_of_ble_eq_true rfl⟩ wd_1347 wd_1349 sel_X8_fails rfl (Or.inl hk2) (q_small_of (Nat.le_of_ble_eq_true rfl)) hm101 (q_kTi0 (fun σ106 v108 hM107 => ?_)) q_kTi00
      refine wp_less (ac2 := 0) (as2 := 0) (Nat.le_of_ble_eq_true rfl) (Nat.le_of_ble_eq_true rfl) ?_
      have h := hk104 σ106 v108 hM107
      exact wp_ret_i dX8_balloon_27 rfl rfl h

set_option maxRecDepth 100000 in
set_option maxHeartbeats 4000000 in
theorem wm_X8_moveBalloon {g : qG} {l : Launch} (hl : l.stackTraces = false) {a0 : Nat} {a1 : Int} {a2 : Int} {a3 : Int} {σ : qS} {Post : qS → qRs → Prop}
    (h : gK σ a0 = 9 ∧ (∃ v3 : Int, qMet g l M_X8_isBalloon [vr a0, vi a1] σ (qPi σ v3) ∧ (qR v3 ∧ ((v3 = 0 → (∀ σ6 : qS, σ6 = sI σ 320 a0 1 → Post σ6 (.inl none))) ∧ (¬ (v3 = 0) → (∃ v9 : Int, qMet g l M_X8_isPanel [vr a0, vi a2] σ (qPi σ v9) ∧ (((qR v9) ∧ ∀ v12 : Int, v12 = (if v9 = 0 then 0 else 1) → ((v12 = 0 → (∀ σ19 : qS, σ19 = sI σ 320 a0 1 → Post σ19 (.inl none))) ∧ (¬ (v12 = 0) → q_isA σ 0 (gP σ 335 a0) ∧ q_in σ (gP σ 335 a0) a2 ∧ q_isA σ 0 (gP σ 337 a0) ∧ q_in σ (gP σ 337 a0) a1 ∧ ((qR (gA σ (gP σ 337 a0) a1) ∧ qR a2) ∧ ∀ v28 : Int, v28 = (if ¬ (gA σ (gP σ 337 a0) a1) = a2 then 0 else 1) → (∃ v35 : Int, qMet g l M_X8_in [vi a3, vi 0, vi ((gA σ (gP σ 335 a0) a2) - v28)] σ (qPi σ v35) ∧ (((qR v35) ∧ ∀ v38 : Int, v38 = (if v35 = 0 then 1 else 0) → (∀ σ44 : qS, σ44 = sI σ 320 a0 v38 → ((v38 ≤ 0 → q_isA σ44 0 (gP σ44 337 a0) ∧ q_in σ44 (gP σ44 337 a0) a1 ∧ ∀ x49 : Int, x49 = gA σ44 (gP σ44 337 a0) a1 → ((qR x49 ∧ qR a2 ∧ (¬ (x49 = a2) → q_isA σ44 0 (gP σ44 335 a0) ∧ q_in σ44 (gP σ44 335 a0) a2 ∧ qR (gA σ44 (gP σ44 335 a0) a2))) ∧ ∀ v58 : Int, v58 = (if x49 = a2 then 0 else (if ¬ (gA σ44 (gP σ44 335 a0) a2) = 4 then 0 else 2)) → (∀ σ63 : qS, σ63 = sI σ44 320 a0 v58 → ((v58 ≤ 0 → (∃ Mid67 : qS → Prop, qMet g l M_X8_keeps [vr a0] σ63 (qTv0 Mid67) ∧ ∀ (σ71 : qS), Mid67 σ71 → gK σ71 a0 = 9 ∧ q_isA σ71 0 (gP σ71 335 a0) ∧ q_in σ71 (gP σ71 335 a0) x49 ∧ (∃ v77 : Int, qMet g l M_X8_find [vr (gP σ71 336 a0), vi (4 * x49), vi a1] σ71 (qPi σ71 v77) ∧ ((∃ Mid79 : qS → Prop, qMet g l M_X8_removes [vr (gP σ71 336 a0), vi (4 * x49), vi (gA σ71 (gP σ71 335 a0) x49), vi v77] σ71 (qTv0 Mid79) ∧ ∀ (σ83 : qS), Mid79 σ83 → gK σ83 a0 = 9 ∧ q_isA σ83 0 (gP σ83 335 a0) ∧ q_in σ83 (gP σ83 335 a0) x49 ∧ gK σ83 (gP σ83 335 a0) = 20 ∧ (∀ σ89 : qS, σ89 = sA σ83 (gP σ83 335 a0) x49 ((gA σ83 (gP σ83 335 a0) x49) - 1) → q_isA σ89 0 (gP σ89 335 a0) ∧ q_in σ89 (gP σ89 335 a0) a2 ∧ (∃ Mid94 : qS → Prop, qMet g l M_X8_inserts [vr (gP σ89 336 a0), vi (4 * a2), vi (gA σ89 (gP σ89 335 a0) a2), vi a3, vi a1] σ89 (qTv0 Mid94) ∧ ∀ (σ98 : qS), Mid94 σ98 → gK σ98 a0 = 9 ∧ q_isA σ98 0 (gP σ98 335 a0) ∧ q_in σ98 (gP σ98 335 a0) a2 ∧ gK σ98 (gP σ98 335 a0) = 20 ∧ (∀ σ104 : qS, σ104 = sA σ98 (gP σ98 335 a0) a2 ((gA σ98 (gP σ98 335 a0) a2) + 1) → gK σ104 (gP σ104 337 a0) = 20 ∧ q_in σ104 (gP σ104 337 a0) a1 ∧ (∀ σ108 : qS, σ108 = sA σ104 (gP σ104 337 a0) a1 a2 → (∃ Mid111 : qS → Int → Prop, qMet g l M_X8_stays [vr a0] σ108 (qTi0 Mid111) ∧ ∀ (σ115 : qS) (v117 : Int), Mid111 σ115 v117 → ((qR v117) ∧ ∀ v120 : Int, v120 = (if v117 = 0 then 2 else 0) → gK σ115 a0 = 9 ∧ (∀ σ126 : qS, σ126 = sI σ115 320 a0 v120 → Post σ126 (.inl none))))))))))))) ∧ (¬ (v58 ≤ 0) → Post σ63 (.inl none)))))) ∧ (¬ (v38 ≤ 0) → Post σ44 (.inl none)))))))))))))))))) : qMet g l M_X8_moveBalloon [vr a0, vi a1, vi a2, vi a3] σ Post := by
  refine qMet_of hl (by decide +kernel) (Nat.le_of_ble_eq_true rfl) (List.forall_mem_cons.mpr ⟨trivial, List.forall_mem_cons.mpr ⟨trivial, List.forall_mem_cons.mpr ⟨trivial, List.forall_mem_cons.mpr ⟨trivial, fun _ h => nomatch h⟩⟩⟩⟩) ?_
  show qW g l M_X8_moveBalloon 0 0 0 [some (vr a0), some (vi a1), some (vi a2), some (vi a3), none, none] [] σ Post
  refine wp_aload_n dX8_moveBalloon_0 rfl ?_
  refine wp_iload_n dX8_moveBalloon_1 rfl ?_
  obtain ⟨hk2, h⟩ := h
  obtain ⟨v3, hm1, h⟩ := h
  refine wp_callV (M' := M_X8_isBalloon) (As := [vi a1]) (st := []) (ci := 8) dX8_moveBalloon_2 cee_X8_isBalloon np_X8_isBalloon rfl ⟨Nat.le_of_ble_eq_true rfl, Nat.le_of_ble_eq_true rfl, Nat.le_of_ble_eq_true rfl, Nat.le_of_ble_eq_true rfl⟩ wd_1447 wd_1449 sel_X8_isBalloon rfl (Or.inl hk2) (q_small_of (Nat.le_of_ble_eq_true rfl)) hm1 (q_kPi ?_) q_kPi0
  refine wp_less (ac2 := 0) (as2 := 0) (Nat.le_of_ble_eq_true rfl) (Nat.le_of_ble_eq_true rfl) ?_
  obtain ⟨hr4, h⟩ := h
  refine wp_if_eq (tgt := 20) dX8_moveBalloon_5 (by decide) hr4 (fun c5 => ?_) (fun c5 => ?_)
  · replace h := h.1 c5
    refine wp_iconst dX8_moveBalloon_20 ?_
    refine wp_istore' (ls' := [some (vr a0), some (vi a1), some (vi a2), some (vi a3), some (vi 0), none]) dX8_moveBalloon_21 (Nat.le_of_ble_eq_true rfl) rfl ?_
    refine wp_aload_n dX8_moveBalloon_23 rfl ?_
    refine wp_iload dX8_moveBalloon_24 rfl ?_
    refine wp_if_eq (tgt := 63) dX8_moveBalloon_26 (by decide) (by unfold qR; omega) (fun _ => ?_) (fun c9 => absurd (by decide) c9)
    refine wp_iconst dX8_moveBalloon_63 ?_
    refine wp_put (v := vi 1) dX8_moveBalloon_64 fs_RX8_108 (fun h => absurd h (by decide)) hk2 (Or.inl rfl) ?_
    refine wp_nmS (fun σ6 hs7 => ?_)
    replace h := h σ6 hs7
    refine wp_aload_n dX8_moveBalloon_67 rfl ?_
    refine wp_get (v := vi 1) dX8_moveBalloon_68 fl_RX8_108 (by rw [hs7]; exact hk2) (by rw [hs7]; exact q_memI) ?_
    refine wp_if_le (tgt := 75) dX8_moveBalloon_71 (by decide) (by unfold qR; omega) (fun c9 => absurd c9 (by decide)) (fun _ => ?_)
    exact wp_ret_v dX8_moveBalloon_74 rfl h
  · replace h := h.2 c5
    refine wp_aload_n dX8_moveBalloon_8 rfl ?_
    refine wp_iload_n dX8_moveBalloon_9 rfl ?_
    obtain ⟨v9, hm8, h⟩ := h
    refine wp_callV (M' := M_X8_isPanel) (As := [vi a2]) (st := []) (ci := 8) dX8_moveBalloon_10 cee_X8_isPanel np_X8_isPanel rfl ⟨Nat.le_of_ble_eq_true rfl, Nat.le_of_ble_eq_true rfl, Nat.le_of_ble_eq_true rfl, Nat.le_of_ble_eq_true rfl⟩ wd_1416 wd_1418 sel_X8_isPanel rfl (Or.inl hk2) (q_small_of (Nat.le_of_ble_eq_true rfl)) hm8 (q_kPi ?_) q_kPi0
    refine wp_less (ac2 := 0) (as2 := 0) (Nat.le_of_ble_eq_true rfl) (Nat.le_of_ble_eq_true rfl) ?_
    obtain ⟨h, hk15⟩ := h
    have key14 : ∀ v12 : Int, v12 = (if v9 = 0 then 0 else 1) → qW g l M_X8_moveBalloon 0 0 21 [some (vr a0), some (vi a1), some (vi a2), some (vi a3), none, none] [vi v12] σ Post := by
      intro v12 hv13
      have h := hk15 v12 hv13
      have hr16 : qR v12 := by (rw [hv13]; unfold qR; repeat' split) <;> omega
      have hz17 : v12 = 0 ∨ v12 = 1 := by (rw [hv13]; repeat' split) <;> first | exact Or.inl rfl | exact Or.inr rfl
      refine wp_istore' (ls' := [some (vr a0), some (vi a1), some (vi a2), some (vi a3), some (vi v12), none]) dX8_moveBalloon_21 (Nat.le_of_ble_eq_true rfl) rfl ?_
      refine wp_aload_n dX8_moveBalloon_23 rfl ?_
      refine wp_iload dX8_moveBalloon_24 rfl ?_
      refine wp_if_eq (tgt := 63) dX8_moveBalloon_26 (by decide) hr16 (fun c18 => ?_) (fun c18 => ?_)
      · replace h := h.1 c18
        refine wp_iconst dX8_moveBalloon_63 ?_
        refine wp_put (v := vi 1) dX8_moveBalloon_64 fs_RX8_108 (fun h => absurd h (by decide)) hk2 (Or.inl rfl) ?_
        refine wp_nmS (fun σ19 hs20 => ?_)
        replace h := h σ19 hs20
        refine wp_aload_n dX8_moveBalloon_67 rfl ?_
        refine wp_get (v := vi 1) dX8_moveBalloon_68 fl_RX8_108 (by rw [hs20]; exact hk2) (by rw [hs20]; exact q_memI) ?_
        refine wp_if_le (tgt := 75) dX8_moveBalloon_71 (by decide) (by unfold qR; omega) (fun c9 => absurd c9 (by decide)) (fun _ => ?_)
        exact wp_ret_v dX8_moveBalloon_74 rfl h
      · replace h := h.2 c18
        refine wp_iload_n dX8_moveBalloon_29 rfl ?_
        refine wp_iconst dX8_moveBalloon_30 ?_
        refine wp_aload_n dX8_moveBalloon_31 rfl ?_
        refine wp_get (v := vr (gP σ 335 a0)) dX8_moveBalloon_32 fl_RX8_44 hk2 rfl ?_
        refine wp_iload_n dX8_moveBalloon_35 rfl ?_
        obtain ⟨ha21, hi22, h⟩ := h
        refine wp_iaload dX8_moveBalloon_36 ha21 hi22 ?_
        refine wp_aload_n dX8_moveBalloon_37 rfl ?_
        refine wp_get (v := vr (gP σ 337 a0)) dX8_moveBalloon_38 fl_RX8_50 hk2 rfl ?_
        refine wp_iload_n dX8_moveBalloon_41 rfl ?_
        obtain ⟨ha23, hi24, h⟩ := h
        refine wp_iaload dX8_moveBalloon_42 ha23 hi24 ?_
        refine wp_iload_n dX8_moveBalloon_43 rfl ?_
        obtain ⟨h, hk31⟩ := h
        have key30 : ∀ v28 : Int, v28 = (if ¬ (gA σ (gP σ 337 a0) a1) = a2 then 0 else 1) → qW g l M_X8_moveBalloon 0 0 52 [some (vr a0), some (vi a1), some (vi a2), some (vi a3), some (vi v12), none] [vi v28, vi (gA σ (gP σ 335 a0) a2), vi 0, vi a3, vr a0] σ Post := by
          intro v28 hv29
          have h := hk31 v28 hv29
          have hr32 : qR v28 := by (rw [hv29]; unfold qR; repeat' split) <;> omega
          have hz33 : v28 = 0 ∨ v28 = 1 := by (rw [hv29]; repeat' split) <;> first | exact Or.inl rfl | exact Or.inr rfl
          refine wp_isub dX8_moveBalloon_52 ?_
          obtain ⟨v35, hm34, h⟩ := h
          refine wp_callS (M' := M_X8_in) (As := [vi a3, vi 0, vi ((gA σ (gP σ 335 a0) a2) - v28)]) (st := [vr a0]) dX8_moveBalloon_53 cee_X8_in np_X8_in rfl ⟨Nat.le_of_ble_eq_true rfl, Nat.le_of_ble_eq_true rfl, Nat.le_of_ble_eq_true rfl, Nat.le_of_ble_eq_true rfl⟩ wd_1344 wd_1345 (q_small_of (Nat.le_of_ble_eq_true rfl)) hm34 (q_kPi ?_) q_kPi0
          refine wp_less (ac2 := 0) (as2 := 0) (Nat.le_of_ble_eq_true rfl) (Nat.le_of_ble_eq_true rfl) ?_
          obtain ⟨h, hk41⟩ := h
          have key40 : ∀ v38 : Int, v38 = (if v35 = 0 then 1 else 0) → qW g l M_X8_moveBalloon 0 0 64 [some (vr a0), some (vi a1), some (vi a2), some (vi a3), some (vi v12), none] [vi v38, vr a0] σ Post := by
            intro v38 hv39
            have h := hk41 v38 hv39
            have hr42 : qR v38 := by (rw [hv39]; unfold qR; repeat' split) <;> omega
            have hz43 : v38 = 0 ∨ v38 = 1 := by (rw [hv39]; repeat' split) <;> first | exact Or.inl rfl | exact Or.inr rfl
            refine wp_put (v := vi v38) dX8_moveBalloon_64 fs_RX8_108 (fun h => absurd h (by decide)) hk2 (Or.inl rfl) ?_
            refine wp_nmS (fun σ44 hs45 => ?_)
            replace h := h σ44 hs45
            refine wp_aload_n dX8_moveBalloon_67 rfl ?_
            refine wp_get (v := vi v38) dX8_moveBalloon_68 fl_RX8_108 (by rw [hs45]; exact hk2) (by rw [hs45]; exact q_memI) ?_
            refine wp_if_le (tgt := 75) dX8_moveBalloon_71 (by decide) hr42 (fun c46 => ?_) (fun c46 => ?_)
            · replace h := h.1 c46
              refine wp_aload_n dX8_moveBalloon_75 rfl ?_
              refine wp_get (v := vr (gP σ44 337 a0)) dX8_moveBalloon_76 fl_RX8_50 (by rw [hs45]; exact hk2) rfl ?_
              refine wp_iload_n dX8_moveBalloon_79 rfl ?_
              obtain ⟨ha47, hi48, h⟩ := h
              refine wp_iaload dX8_moveBalloon_80 ha47 hi48 ?_
              refine wp_nmI (fun x49 hx50 => ?_)
              replace h := h x49 hx50
              refine wp_istore' (ls' := [some (vr a0), some (vi a1), some (vi a2), some (vi a3), some (vi v12), some (vi x49)]) dX8_moveBalloon_81 (Nat.le_of_ble_eq_true rfl) rfl ?_
              refine wp_aload_n dX8_moveBalloon_83 rfl ?_
              refine wp_iload dX8_moveBalloon_84 rfl ?_
              refine wp_iload_n dX8_moveBalloon_86 rfl ?_
              obtain ⟨h, hk61⟩ := h
              have key60 : ∀ v58 : Int, v58 = (if x49 = a2 then 0 else (if ¬ (gA σ44 (gP σ44 335 a0) a2) = 4 then 0 else 2)) → qW g l M_X8_moveBalloon 0 0 105 [some (vr a0), some (vi a1), some (vi a2), some (vi a3), some (vi v12), some (vi x49)] [vi v58, vr a0] σ44 Post := by
                intro v58 hv59
                have h := hk61 v58 hv59
                have hr62 : qR v58 := by (rw [hv59]; unfold qR; repeat' split) <;> omega
                refine wp_put (v := vi v58) dX8_moveBalloon_105 fs_RX8_108 (fun h => absurd h (by decide)) (by rw [hs45]; exact hk2) (Or.inl rfl) ?_
                refine wp_nmS (fun σ63 hs64 => ?_)
                replace h := h σ63 hs64
                refine wp_aload_n dX8_moveBalloon_108 rfl ?_
                refine wp_get (v := vi v58) dX8_moveBalloon_109 fl_RX8_108 (by rw [hs64, hs45]; exact hk2) (by rw [hs64]; exact q_memI) ?_
                refine wp_if_le (tgt := 116) dX8_moveBalloon_112 (by decide) hr62 (fun c65 => ?_) (fun c65 => ?_)
                · replace h := h.1 c65
                  refine wp_aload_n dX8_moveBalloon_116 rfl ?_
                  obtain ⟨Mid67, hm66, hk69⟩ := h
                  refine wp_callV (M' := M_X8_keeps) (As := []) (st := []) (ci := 8) dX8_moveBalloon_117 cee_X8_keeps np_X8_keeps rfl ⟨Nat.le_of_ble_eq_true rfl, Nat.le_of_ble_eq_true rfl, Nat.le_of_ble_eq_true rfl, Nat.le_of_ble_eq_true rfl⟩ wd_1351 wd_1353 sel_X8_keeps rfl (Or.inl (by rw [hs64, hs45]; exact hk2)) (q_small_of (Nat.le_of_ble_eq_true rfl)) hm66 (q_kTv0 (fun σ71 hM72 => ?_)) q_kTv00
                  refine wp_less (ac2 := 0) (as2 := 0) (Nat.le_of_ble_eq_true rfl) (Nat.le_of_ble_eq_true rfl) ?_
                  have h := hk69 σ71 hM72
                  refine wp_aload_n dX8_moveBalloon_120 rfl ?_
                  obtain ⟨hk73, h⟩ := h
                  refine wp_get (v := vr (gP σ71 336 a0)) dX8_moveBalloon_121 fl_RX8_47 hk73 rfl ?_
                  refine wp_iconst dX8_moveBalloon_124 ?_
                  refine wp_iload dX8_moveBalloon_125 rfl ?_
                  refine wp_imul dX8_moveBalloon_127 ?_
                  refine wp_aload_n dX8_moveBalloon_128 rfl ?_
                  refine wp_get (v := vr (gP σ71 335 a0)) dX8_moveBalloon_129 fl_RX8_44 hk73 rfl ?_
                  refine wp_iload dX8_moveBalloon_132 rfl ?_
                  obtain ⟨ha74, hi75, h⟩ := h
                  refine wp_iaload dX8_moveBalloon_134 ha74 hi75 ?_
                  refine wp_aload_n dX8_moveBalloon_135 rfl ?_
                  refine wp_get (v := vr (gP σ71 336 a0)) dX8_moveBalloon_136 fl_RX8_47 hk73 rfl ?_
                  refine wp_iconst dX8_moveBalloon_139 ?_
                  refine wp_iload dX8_moveBalloon_140 rfl ?_
                  refine wp_imul dX8_moveBalloon_142 ?_
                  refine wp_iload_n dX8_moveBalloon_143 rfl ?_
                  obtain ⟨v77, hm76, h⟩ := h
                  refine wp_callS (M' := M_X8_find) (As := [vr (gP σ71 336 a0), vi (4 * x49), vi a1]) (st := [vi (gA σ71 (gP σ71 335 a0) x49), vi (4 * x49), vr (gP σ71 336 a0)]) dX8_moveBalloon_144 cee_X8_find np_X8_find rfl ⟨Nat.le_of_ble_eq_true rfl, Nat.le_of_ble_eq_true rfl, Nat.le_of_ble_eq_true rfl, Nat.le_of_ble_eq_true rfl⟩ wd_1405 wd_1406 (q_small_of (Nat.le_of_ble_eq_true rfl)) hm76 (q_kPi ?_) q_kPi0
                  refine wp_less (ac2 := 0) (as2 := 0) (Nat.le_of_ble_eq_true rfl) (Nat.le_of_ble_eq_true rfl) ?_
                  obtain ⟨Mid79, hm78, hk81⟩ := h
                  refine wp_callS (M' := M_X8_removes) (As := [vr (gP σ71 336 a0), vi (4 * x49), vi (gA σ71 (gP σ71 335 a0) x49), vi v77]) (st := []) dX8_moveBalloon_147 cee_X8_removes np_X8_removes rfl ⟨Nat.le_of_ble_eq_true rfl, Nat.le_of_ble_eq_true rfl, Nat.le_of_ble_eq_true rfl, Nat.le_of_ble_eq_true rfl⟩ wd_1420 wd_1421 (q_small_of (Nat.le_of_ble_eq_true rfl)) hm78 (q_kTv0 (fun σ83 hM84 => ?_)) q_kTv00
                  refine wp_less (ac2 := 0) (as2 := 0) (Nat.le_of_ble_eq_true rfl) (Nat.le_of_ble_eq_true rfl) ?_
                  have h := hk81 σ83 hM84
                  refine wp_aload_n dX8_moveBalloon_150 rfl ?_
                  obtain ⟨hk85, h⟩ := h
                  refine wp_get (v := vr (gP σ83 335 a0)) dX8_moveBalloon_151 fl_RX8_44 hk85 rfl ?_
                  refine wp_iload dX8_moveBalloon_154 rfl ?_
                  refine wp_dup2 dX8_moveBalloon_156 trivial trivial ?_
                  obtain ⟨ha86, hi87, h⟩ := h
                  refine wp_iaload dX8_moveBalloon_157 ha86 hi87 ?_
                  refine wp_iconst dX8_moveBalloon_158 ?_
                  refine wp_isub dX8_moveBalloon_159 ?_
                  obtain ⟨hk88, h⟩ := h
                  refine wp_iastore dX8_moveBalloon_160 hk88 hi87 ?_
                  refine wp_nmS (fun σ89 hs90 => ?_)
                  replace h := h σ89 hs90
                  refine wp_aload_n dX8_moveBalloon_161 rfl ?_
                  refine wp_get (v := vr (gP σ89 336 a0)) dX8_moveBalloon_162 fl_RX8_47 (by rw [hs90]; exact hk85) rfl ?_
                  refine wp_iconst dX8_moveBalloon_165 ?_
                  refine wp_iload_n dX8_moveBalloon_166 rfl ?_
                  refine wp_imul dX8_moveBalloon_167 ?_
                  refine wp_aload_n dX8_moveBalloon_168 rfl ?_
                  refine wp_get (v := vr (gP σ89 335 a0)) dX8_moveBalloon_169 fl_RX8_44 (by rw [hs90]; exact hk85) rfl ?_
                  refine wp_iload_n dX8_moveBalloon_172 rfl ?_
                  obtain ⟨ha91, hi92, h⟩ := h
                  refine wp_iaload dX8_moveBalloon_173 ha91 hi92 ?_
                  refine wp_iload_n dX8_moveBalloon_174 rfl ?_
                  refine wp_iload_n dX8_moveBalloon_175 rfl ?_
                  obtain ⟨Mid94, hm93, hk96⟩ := h
                  refine wp_callS (M' := M_X8_inserts) (As := [vr (gP σ89 336 a0), vi (4 * a2), vi (gA σ89 (gP σ89 335 a0) a2), vi a3, vi a1]) (st := []) dX8_moveBalloon_176 cee_X8_inserts np_X8_inserts rfl ⟨Nat.le_of_ble_eq_true rfl, Nat.le_of_ble_eq_true rfl, Nat.le_of_ble_eq_true rfl, Nat.le_of_ble_eq_true rfl⟩ wd_1358 wd_1359 (q_small_of (Nat.le_of_ble_eq_true rfl)) hm93 (q_kTv0 (fun σ98 hM99 => ?_)) q_kTv00
                  refine wp_less (ac2 := 0) (as2 := 0) (Nat.le_of_ble_eq_true rfl) (Nat.le_of_ble_eq_true rfl) ?_
                  have h := hk96 σ98 hM99
                  refine wp_aload_n dX8_moveBalloon_179 rfl ?_
                  obtain ⟨hk100, h⟩ := h
                  refine wp_get (v := vr (gP σ98 335 a0)) dX8_moveBalloon_180 fl_RX8_44 hk100 rfl ?_
                  refine wp_iload_n dX8_moveBalloon_183 rfl ?_
                  refine wp_dup2 dX8_moveBalloon_184 trivial trivial ?_
                  obtain ⟨ha101, hi102, h⟩ := h
                  refine wp_iaload dX8_moveBalloon_185 ha101 hi102 ?_
                  refine wp_iconst dX8_moveBalloon_186 ?_
                  refine wp_iadd dX8_moveBalloon_187 ?_
                  obtain ⟨hk103, h⟩ := h
                  refine wp_iastore dX8_moveBalloon_188 hk103 hi102 ?_
                  refine wp_nmS (fun σ104 hs105 => ?_)
                  replace h := h σ104 hs105
                  refine wp_aload_n dX8_moveBalloon_189 rfl ?_
                  refine wp_get (v := vr (gP σ104 337 a0)) dX8_moveBalloon_190 fl_RX8_50 (by rw [hs105]; exact hk100) rfl ?_
                  refine wp_iload_n dX8_moveBalloon_193 rfl ?_
                  refine wp_iload_n dX8_moveBalloon_194 rfl ?_
                  obtain ⟨hk106, hi107, h⟩ := h
                  refine wp_iastore dX8_moveBalloon_195 hk106 hi107 ?_
                  refine wp_nmS (fun σ108 hs109 => ?_)
                  replace h := h σ108 hs109
                  refine wp_aload_n dX8_moveBalloon_196 rfl ?_
                  refine wp_aload_n dX8_moveBalloon_197 rfl ?_
                  obtain ⟨Mid111, hm110, hk113⟩ := h
                  refine wp_callV (M' := M_X8_stays) (As := []) (st := [vr a0]) (ci := 8) dX8_moveBalloon_198 cee_X8_stays np_X8_stays rfl ⟨Nat.le_of_ble_eq_true rfl, Nat.le_of_ble_eq_true rfl, Nat.le_of_ble_eq_true rfl, Nat.le_of_ble_eq_true rfl⟩ wd_1361 wd_1363 sel_X8_stays rfl (Or.inl (by rw [hs109, hs105]; exact hk100)) (q_small_of (Nat.le_of_ble_eq_true rfl)) hm110 (q_kTi0 (fun σ115 v117 hM116 => ?_)) q_kTi00
                  refine wp_less (ac2 := 0) (as2 := 0) (Nat.le_of_ble_eq_true rfl) (Nat.le_of_ble_eq_true rfl) ?_
                  have h := hk113 σ115 v117 hM116
                  obtain ⟨h, hk123⟩ := h
                  have key122 : ∀ v120 : Int, v120 = (if v117 = 0 then 2 else 0) → qW g l M_X8_moveBalloon 0 0 209 [some (vr a0), some (vi a1), some (vi a2), some (vi a3), some (vi v12), some (vi x49)] [vi v120, vr a0] σ115 Post := by
                    intro v120 hv121
                    have h := hk123 v120 hv121
                    have hr124 : qR v120 := by (rw [hv121]; unfold qR; repeat' split) <;> omega
                    obtain ⟨hk125, h⟩ := h
                    refine wp_put (v := vi v120) dX8_moveBalloon_209 fs_RX8_108 (fun h => absurd h (by decide)) hk125 (Or.inl rfl) ?_
                    refine wp_nmS (fun σ126 hs127 => ?_)
                    replace h := h σ126 hs127
                    exact wp_ret_v dX8_moveBalloon_212 rfl h
                  have hr128 := h
                  refine wp_if_eq (tgt := 208) dX8_moveBalloon_201 (by decide) hr128 (fun c129 => ?_) (fun c129 => ?_)
                  · refine wp_iconst dX8_moveBalloon_208 ?_
                    exact key122 _ (by rw [if_pos c129])
                  · refine wp_iconst dX8_moveBalloon_204 ?_
                    refine wp_goto (tgt := 209) dX8_moveBalloon_205 (by decide) ?_
                    exact key122 _ (by rw [if_neg c129])
                · replace h := h.2 c65
                  exact wp_ret_v dX8_moveBalloon_115 rfl h
              obtain ⟨hr130, hr131, h⟩ := h
              refine wp_icmp_eq (tgt := 104) dX8_moveBalloon_87 (by decide) hr130 hr131 (fun c132 => ?_) (fun c132 => ?_)
              · refine wp_iconst dX8_moveBalloon_104 ?_
                exact key60 _ (by rw [if_pos c132])
              · replace h := h c132
                refine wp_aload_n dX8_moveBalloon_90 rfl ?_
                refine wp_get (v := vr (gP σ44 335 a0)) dX8_moveBalloon_91 fl_RX8_44 (by rw [hs45]; exact hk2) rfl ?_
                refine wp_iload_n dX8_moveBalloon_94 rfl ?_
                obtain ⟨ha133, hi134, h⟩ := h
                refine wp_iaload dX8_moveBalloon_95 ha133 hi134 ?_
                refine wp_iconst dX8_moveBalloon_96 ?_
                have hr135 := h
                refine wp_icmp_ne (tgt := 104) dX8_moveBalloon_97 (by decide) hr135 (by unfold qR; omega) (fun c136 => ?_) (fun c136 => ?_)
                · refine wp_iconst dX8_moveBalloon_104 ?_
                  exact key60 _ (by rw [if_neg c132, if_pos c136])
                · refine wp_iconst dX8_moveBalloon_100 ?_
                  refine wp_goto (tgt := 105) dX8_moveBalloon_101 (by decide) ?_
                  exact key60 _ (by rw [if_neg c132, if_neg (fun z => z c136)])
            · replace h := h.2 c46
              exact wp_ret_v dX8_moveBalloon_74 rfl h
          have hr137 := h
          refine wp_if_eq (tgt := 63) dX8_moveBalloon_56 (by decide) hr137 (fun c138 => ?_) (fun c138 => ?_)
          · refine wp_iconst dX8_moveBalloon_63 ?_
            exact key40 _ (by rw [if_pos c138])
          · refine wp_iconst dX8_moveBalloon_59 ?_
            refine wp_goto (tgt := 64) dX8_moveBalloon_60 (by decide) ?_
            exact key40 _ (by rw [if_neg c138])
        obtain ⟨hr139, hr140⟩ := h
        refine wp_icmp_ne (tgt := 51) dX8_moveBalloon_44 (by decide) hr139 hr140 (fun c141 => ?_) (fun c141 => ?_)
        · refine wp_iconst dX8_moveBalloon_51 ?_
          exact key30 _ (by rw [if_pos c141])
        · refine wp_iconst dX8_moveBalloon_47 ?_
          refine wp_goto (tgt := 52) dX8_moveBalloon_48 (by decide) ?_
          exact key30 _ (by rw [if_neg (fun z => z c141)])
    have hr142 := h
    refine wp_if_eq (tgt := 20) dX8_moveBalloon_13 (by decide) hr142 (fun c143 => ?_) (fun c143 => ?_)
    · refine wp_iconst dX8_moveBalloon_20 ?_
      exact key14 _ (by rw [if_pos c143])
    · refine wp_iconst dX8_moveBalloon_16 ?_
      refine wp_goto (tgt := 21) dX8_moveBalloon_17 (by decide) ?_
      exact key14 _ (by rw [if_neg c143])

set_option maxRecDepth 100000 in
set_option maxHeartbeats 4000000 in
theorem wm_X8_cutBalloon {g : qG} {l : Launch} (hl : l.stackTraces = false) {a0 : Nat} {a1 : Int} {σ : qS} {Post : qS → qRs → Prop}
    (h : gK σ a0 = 9 ∧ (∃ v3 : Int, qMet g l M_X8_isBalloon [vr a0, vi a1] σ (qPi σ v3) ∧ (qR v3 ∧ ((¬ v3 = 0 → ∃ Inv8 : Nat → Int → Int → Prop, (∃ n : Nat, Inv8 n 0 0) ∧ ∀ (n9 : Nat) (x6 : Int) (x7 : Int), Inv8 n9 x6 x7 → (qR x7 ∧ qR (gI σ 323 a0) ∧ (((gI σ 323 a0) ≤ x7 → qR x6 ∧ ((x6 = 0 → q_isA σ 0 (gP σ 337 a0) ∧ q_in σ (gP σ 337 a0) a1 ∧ ∀ x21 : Int, x21 = gA σ (gP σ 337 a0) a1 → (∃ Mid24 : qS → Prop, qMet g l M_X8_keeps [vr a0] σ (qTv0 Mid24) ∧ ∀ (σ28 : qS), Mid24 σ28 → gK σ28 a0 = 9 ∧ q_isA σ28 0 (gP σ28 335 a0) ∧ q_in σ28 (gP σ28 335 a0) x21 ∧ (∃ v34 : Int, qMet g l M_X8_find [vr (gP σ28 336 a0), vi (4 * x21), vi a1] σ28 (qPi σ28 v34) ∧ ((∃ Mid36 : qS → Prop, qMet g l M_X8_removes [vr (gP σ28 336 a0), vi (4 * x21), vi (gA σ28 (gP σ28 335 a0) x21), vi v34] σ28 (qTv0 Mid36) ∧ ∀ (σ40 : qS), Mid36 σ40 → gK σ40 a0 = 9 ∧ q_isA σ40 0 (gP σ40 335 a0) ∧ q_in σ40 (gP σ40 335 a0) x21 ∧ gK σ40 (gP σ40 335 a0) = 20 ∧ (∀ σ46 : qS, σ46 = sA σ40 (gP σ40 335 a0) x21 ((gA σ40 (gP σ40 335 a0) x21) - 1) → gK σ46 (gP σ46 337 a0) = 20 ∧ q_in σ46 (gP σ46 337 a0) a1 ∧ (∀ σ50 : qS, σ50 = sA σ46 (gP σ46 337 a0) a1 ((-1)) → (∃ Mid53 : qS → Int → Prop, qMet g l M_X8_stays [vr a0] σ50 (qTi0 Mid53) ∧ ∀ (σ57 : qS) (v59 : Int), Mid53 σ57 v59 → ((qR v59) ∧ ∀ v62 : Int, v62 = (if v59 = 0 then 2 else 0) → gK σ57 a0 = 9 ∧ (∀ σ68 : qS, σ68 = sI σ57 320 a0 v62 → (∀ v71 : Int, v71 = (if v62 ≤ 0 then x21 else 0) → Post σ68 (.inl (some (vi v71)))))))))))))) ∧ (¬ (x6 = 0) → (∃ Mid79 : qS → Int → Prop, qMet g l M_X8_fails [vr a0, vi 2] σ (qTi0 Mid79) ∧ ∀ (σ83 : qS) (v85 : Int), Mid79 σ83 v85 → Post σ83 (.inl (some (vi v85))))))) ∧ (¬ ((gI σ 323 a0) ≤ x7) → ((qR x6 ∧ (x6 = 0 → q_isA σ 0 (gP σ 337 a0) ∧ q_in σ (gP σ 337 a0) x7 ∧ qR (gA σ (gP σ 337 a0) x7) ∧ (¬ ((gA σ (gP σ 337 a0) x7) = ((-1))) → q_isA σ 0 (gP σ 339 a0) ∧ q_in σ (gP σ 339 a0) x7 ∧ qR (gA σ (gP σ 339 a0) x7) ∧ qR a1))) ∧ ∀ v97 : Int, v97 = (if ¬ x6 = 0 then 1 else (if (gA σ (gP σ 337 a0) x7) = ((-1)) then 0 else (if ¬ (gA σ (gP σ 339 a0) x7) = a1 then 0 else 1))) → ∀ x103 : Int, x103 = x7 + 1 → ∃ n105 : Nat, n105 < n9 ∧ Inv8 n105 v97 x103))))) ∧ (v3 = 0 → (∃ Mid119 : qS → Int → Prop, qMet g l M_X8_fails [vr a0, vi 1] σ (qTi0 Mid119) ∧ ∀ (σ123 : qS) (v125 : Int), Mid119 σ123 v125 → Post σ123 (.inl (some (vi v125))))))))) : qMet g l M_X8_cutBalloon [vr a0, vi a1] σ Post := by
  refine qMet_of hl (by decide +kernel) (Nat.le_of_ble_eq_true rfl) (List.forall_mem_cons.mpr ⟨trivial, List.forall_mem_cons.mpr ⟨trivial, fun _ h => nomatch h⟩⟩) ?_
  show qW g l M_X8_cutBalloon 0 0 0 [some (vr a0), some (vi a1), none, none] [] σ Post
  refine wp_aload_n dX8_cutBalloon_0 rfl ?_
  refine wp_iload_n dX8_cutBalloon_1 rfl ?_
  obtain ⟨hk2, h⟩ := h
  obtain ⟨v3, hm1, h⟩ := h
  refine wp_callV (M' := M_X8_isBalloon) (As := [vi a1]) (st := []) (ci := 8) dX8_cutBalloon_2 cee_X8_isBalloon np_X8_isBalloon rfl ⟨Nat.le_of_ble_eq_true rfl, Nat.le_of_ble_eq_true rfl, Nat.le_of_ble_eq_true rfl, Nat.le_of_ble_eq_true rfl⟩ wd_1447 wd_1449 sel_X8_isBalloon rfl (Or.inl hk2) (q_small_of (Nat.le_of_ble_eq_true rfl)) hm1 (q_kPi ?_) q_kPi0
  refine wp_less (ac2 := 0) (as2 := 0) (Nat.le_of_ble_eq_true rfl) (Nat.le_of_ble_eq_true rfl) ?_
  obtain ⟨hr4, h⟩ := h
  refine wp_if_ne (tgt := 14) dX8_cutBalloon_5 (by decide) hr4 (fun c5 => ?_) (fun c5 => ?_)
  · replace h := h.1 c5
    refine wp_iconst dX8_cutBalloon_14 ?_
    refine wp_istore_n' (ls' := [some (vr a0), some (vi a1), some (vi 0), none]) dX8_cutBalloon_15 (Nat.le_of_ble_eq_true rfl) rfl ?_
    refine wp_iconst dX8_cutBalloon_16 ?_
    refine wp_istore_n' (ls' := [some (vr a0), some (vi a1), some (vi 0), some (vi 0)]) dX8_cutBalloon_17 (Nat.le_of_ble_eq_true rfl) rfl ?_
    obtain ⟨Inv8, ⟨n9_0, h013⟩, hb12⟩ := h
    have loop117 : ∀ (n9 : Nat) (x6 : Int) (x7 : Int), Inv8 n9 x6 x7 → qW g l M_X8_cutBalloon 0 0 18 [some (vr a0), some (vi a1), some (vi x6), some (vi x7)] [] σ Post := by
      intro n9
      induction n9 using Nat.strongRecOn with
      | ind n9 ih10 =>
        intro x6 x7 hI11
        have h := hb12 n9 x6 x7 hI11
        refine wp_iload_n dX8_cutBalloon_18 rfl ?_
        refine wp_aload_n dX8_cutBalloon_19 rfl ?_
        refine wp_get (v := vi (gI σ 323 a0)) dX8_cutBalloon_20 fl_RX8_121 hk2 rfl ?_
        obtain ⟨hr14, hr15, h⟩ := h
        refine wp_icmp_ge (tgt := 62) dX8_cutBalloon_23 (by decide) hr14 hr15 (fun c16 => ?_) (fun c16 => ?_)
        · replace h := h.1 c16
          refine wp_iload_n dX8_cutBalloon_62 rfl ?_
          obtain ⟨hr17, h⟩ := h
          refine wp_if_eq (tgt := 72) dX8_cutBalloon_63 (by decide) hr17 (fun c18 => ?_) (fun c18 => ?_)
          · replace h := h.1 c18
            refine wp_aload_n dX8_cutBalloon_72 rfl ?_
            refine wp_get (v := vr (gP σ 337 a0)) dX8_cutBalloon_73 fl_RX8_50 hk2 rfl ?_
            refine wp_iload_n dX8_cutBalloon_76 rfl ?_
            obtain ⟨ha19, hi20, h⟩ := h
            refine wp_iaload dX8_cutBalloon_77 ha19 hi20 ?_
            refine wp_nmI (fun x21 hx22 => ?_)
            replace h := h x21 hx22
            refine wp_istore_n' (ls' := [some (vr a0), some (vi a1), some (vi x6), some (vi x21)]) dX8_cutBalloon_78 (Nat.le_of_ble_eq_true rfl) rfl ?_
            refine wp_aload_n dX8_cutBalloon_79 rfl ?_
            obtain ⟨Mid24, hm23, hk26⟩ := h
            refine wp_callV (M' := M_X8_keeps) (As := []) (st := []) (ci := 8) dX8_cutBalloon_80 cee_X8_keeps np_X8_keeps rfl ⟨Nat.le_of_ble_eq_true rfl, Nat.le_of_ble_eq_true rfl, Nat.le_of_ble_eq_true rfl, Nat.le_of_ble_eq_true rfl⟩ wd_1351 wd_1353 sel_X8_keeps rfl (Or.inl hk2) (q_small_of (Nat.le_of_ble_eq_true rfl)) hm23 (q_kTv0 (fun σ28 hM29 => ?_)) q_kTv00
            refine wp_less (ac2 := 0) (as2 := 0) (Nat.le_of_ble_eq_true rfl) (Nat.le_of_ble_eq_true rfl) ?_
            have h := hk26 σ28 hM29
            refine wp_aload_n dX8_cutBalloon_83 rfl ?_
            obtain ⟨hk30, h⟩ := h
            refine wp_get (v := vr (gP σ28 336 a0)) dX8_cutBalloon_84 fl_RX8_47 hk30 rfl ?_
            refine wp_iconst dX8_cutBalloon_87 ?_
            refine wp_iload_n dX8_cutBalloon_88 rfl ?_
            refine wp_imul dX8_cutBalloon_89 ?_
            refine wp_aload_n dX8_cutBalloon_90 rfl ?_
            refine wp_get (v := vr (gP σ28 335 a0)) dX8_cutBalloon_91 fl_RX8_44 hk30 rfl ?_
            refine wp_iload_n dX8_cutBalloon_94 rfl ?_
            obtain ⟨ha31, hi32, h⟩ := h
            refine wp_iaload dX8_cutBalloon_95 ha31 hi32 ?_
            refine wp_aload_n dX8_cutBalloon_96 rfl ?_
            refine wp_get (v := vr (gP σ28 336 a0)) dX8_cutBalloon_97 fl_RX8_47 hk30 rfl ?_
            refine wp_iconst dX8_cutBalloon_100 ?_
            refine wp_iload_n dX8_cutBalloon_101 rfl ?_
            refine wp_imul dX8_cutBalloon_102 ?_
            refine wp_iload_n dX8_cutBalloon_103 rfl ?_
            obtain ⟨v34, hm33, h⟩ := h
            refine wp_callS (M' := M_X8_find) (As := [vr (gP σ28 336 a0), vi (4 * x21), vi a1]) (st := [vi (gA σ28 (gP σ28 335 a0) x21), vi (4 * x21), vr (gP σ28 336 a0)]) dX8_cutBalloon_104 cee_X8_find np_X8_find rfl ⟨Nat.le_of_ble_eq_true rfl, Nat.le_of_ble_eq_true rfl, Nat.le_of_ble_eq_true rfl, Nat.le_of_ble_eq_true rfl⟩ wd_1405 wd_1406 (q_small_of (Nat.le_of_ble_eq_true rfl)) hm33 (q_kPi ?_) q_kPi0
            refine wp_less (ac2 := 0) (as2 := 0) (Nat.le_of_ble_eq_true rfl) (Nat.le_of_ble_eq_true rfl) ?_
            obtain ⟨Mid36, hm35, hk38⟩ := h
            refine wp_callS (M' := M_X8_removes) (As := [vr (gP σ28 336 a0), vi (4 * x21), vi (gA σ28 (gP σ28 335 a0) x21), vi v34]) (st := []) dX8_cutBalloon_107 cee_X8_removes np_X8_removes rfl ⟨Nat.le_of_ble_eq_true rfl, Nat.le_of_ble_eq_true rfl, Nat.le_of_ble_eq_true rfl, Nat.le_of_ble_eq_true rfl⟩ wd_1420 wd_1421 (q_small_of (Nat.le_of_ble_eq_true rfl)) hm35 (q_kTv0 (fun σ40 hM41 => ?_)) q_kTv00
            refine wp_less (ac2 := 0) (as2 := 0) (Nat.le_of_ble_eq_true rfl) (Nat.le_of_ble_eq_true rfl) ?_
            have h := hk38 σ40 hM41
            refine wp_aload_n dX8_cutBalloon_110 rfl ?_
            obtain ⟨hk42, h⟩ := h
            refine wp_get (v := vr (gP σ40 335 a0)) dX8_cutBalloon_111 fl_RX8_44 hk42 rfl ?_
            refine wp_iload_n dX8_cutBalloon_114 rfl ?_
            refine wp_dup2 dX8_cutBalloon_115 trivial trivial ?_
            obtain ⟨ha43, hi44, h⟩ := h
            refine wp_iaload dX8_cutBalloon_116 ha43 hi44 ?_
            refine wp_iconst dX8_cutBalloon_117 ?_
            refine wp_isub dX8_cutBalloon_118 ?_
            obtain ⟨hk45, h⟩ := h
            refine wp_iastore dX8_cutBalloon_119 hk45 hi44 ?_
            refine wp_nmS (fun σ46 hs47 => ?_)
            replace h := h σ46 hs47
            refine wp_aload_n dX8_cutBalloon_120 rfl ?_
            refine wp_get (v := vr (gP σ46 337 a0)) dX8_cutBalloon_121 fl_RX8_50 (by rw [hs47]; exact hk42) rfl ?_
            refine wp_iload_n dX8_cutBalloon_124 rfl ?_
            refine wp_iconst dX8_cutBalloon_125 ?_
            obtain ⟨hk48, hi49, h⟩ := h
            refine wp_iastore dX8_cutBalloon_126 hk48 hi49 ?_
            refine wp_nmS (fun σ50 hs51 => ?_)
            replace h := h σ50 hs51
            refine wp_aload_n dX8_cutBalloon_127 rfl ?_
            refine wp_aload_n dX8_cutBalloon_128 rfl ?_
            obtain ⟨Mid53, hm52, hk55⟩ := h
            refine wp_callV (M' := M_X8_stays) (As := []) (st := [vr a0]) (ci := 8) dX8_cutBalloon_129 cee_X8_stays np_X8_stays rfl ⟨Nat.le_of_ble_eq_true rfl, Nat.le_of_ble_eq_true rfl, Nat.le_of_ble_eq_true rfl, Nat.le_of_ble_eq_true rfl⟩ wd_1361 wd_1363 sel_X8_stays rfl (Or.inl (by rw [hs51, hs47]; exact hk42)) (q_small_of (Nat.le_of_ble_eq_true rfl)) hm52 (q_kTi0 (fun σ57 v59 hM58 => ?_)) q_kTi00
            refine wp_less (ac2 := 0) (as2 := 0) (Nat.le_of_ble_eq_true rfl) (Nat.le_of_ble_eq_true rfl) ?_
            have h := hk55 σ57 v59 hM58
            obtain ⟨h, hk65⟩ := h
            have key64 : ∀ v62 : Int, v62 = (if v59 = 0 then 2 else 0) → qW g l M_X8_cutBalloon 0 0 140 [some (vr a0), some (vi a1), some (vi x6), some (vi x21)] [vi v62, vr a0] σ57 Post := by
              intro v62 hv63
              have h := hk65 v62 hv63
              have hr66 : qR v62 := by (rw [hv63]; unfold qR; repeat' split) <;> omega
              obtain ⟨hk67, h⟩ := h
              refine wp_put (v := vi v62) dX8_cutBalloon_140 fs_RX8_108 (fun h => absurd h (by decide)) hk67 (Or.inl rfl) ?_
              refine wp_nmS (fun σ68 hs69 => ?_)
              replace h := h σ68 hs69
              refine wp_aload_n dX8_cutBalloon_143 rfl ?_
              refine wp_get (v := vi v62) dX8_cutBalloon_144 fl_RX8_108 (by rw [hs69]; exact hk67) (by rw [hs69]; exact q_memI) ?_
              have key73 : ∀ v71 : Int, v71 = (if v62 ≤ 0 then x21 else 0) → qW g l M_X8_cutBalloon 0 0 155 [some (vr a0), some (vi a1), some (vi x6), some (vi x21)] [vi v71] σ68 Post := by
                intro v71 hv72
                replace h := h v71 hv72
                exact wp_ret_i dX8_cutBalloon_155 rfl rfl h
              refine wp_if_le (tgt := 154) dX8_cutBalloon_147 (by decide) hr66 (fun c75 => ?_) (fun c75 => ?_)
              · refine wp_iload_n dX8_cutBalloon_154 rfl ?_
                exact key73 _ (by rw [if_pos c75])
              · refine wp_iconst dX8_cutBalloon_150 ?_
                refine wp_goto (tgt := 155) dX8_cutBalloon_151 (by decide) ?_
                exact key73 _ (by rw [if_neg c75])
            have hr76 := h
            refine wp_if_eq (tgt := 139) dX8_cutBalloon_132 (by decide) hr76 (fun c77 => ?_) (fun c77 => ?_)
            · refine wp_iconst dX8_cutBalloon_139 ?_
              exact key64 _ (by rw [if_pos c77])
            · refine wp_iconst dX8_cutBalloon_135 ?_
              refine wp_goto (tgt := 140) dX8_cutBalloon_136 (by decide) ?_
              exact key64 _ (by rw [if_neg c77])
          · replace h := h.2 c18
            refine wp_aload_n dX8_cutBalloon_66 rfl ?_
            refine wp_iconst dX8_cutBalloon_67 ?_
            obtain ⟨Mid79, hm78, hk81⟩ := h
            refine wp_callV (M' := M_X8_fails) (As := [vi 2]) (st := []) (ci := 8) dX8_cutBalloon_68 cee_X8_fails np_X8_fails rfl ⟨Nat.le_of_ble_eq_true rfl, Nat.le_of_ble_eq_true rfl, Nat.le_of_ble_eq_true rfl, Nat.le_of_ble_eq_true rfl⟩ wd_1347 wd_1349 sel_X8_fails rfl (Or.inl hk2) (q_small_of (Nat.le_of_ble_eq_true rfl)) hm78 (q_kTi0 (fun σ83 v85 hM84 => ?_)) q_kTi00
            refine wp_less (ac2 := 0) (as2 := 0) (Nat.le_of_ble_eq_true rfl) (Nat.le_of_ble_eq_true rfl) ?_
            have h := hk81 σ83 v85 hM84
            exact wp_ret_i dX8_cutBalloon_71 rfl rfl h
        · replace h := h.2 c16
          refine wp_iload_n dX8_cutBalloon_26 rfl ?_
          obtain ⟨h, hk100⟩ := h
          have key99 : ∀ v97 : Int, v97 = (if ¬ x6 = 0 then 1 else (if (gA σ (gP σ 337 a0) x7) = ((-1)) then 0 else (if ¬ (gA σ (gP σ 339 a0) x7) = a1 then 0 else 1))) → qW g l M_X8_cutBalloon 0 0 55 [some (vr a0), some (vi a1), some (vi x6), some (vi x7)] [vi v97] σ Post := by
            intro v97 hv98
            have h := hk100 v97 hv98
            have hr101 : qR v97 := by (rw [hv98]; unfold qR; repeat' split) <;> omega
            have hz102 : v97 = 0 ∨ v97 = 1 := by (rw [hv98]; repeat' split) <;> first | exact Or.inl rfl | exact Or.inr rfl
            refine wp_istore_n' (ls' := [some (vr a0), some (vi a1), some (vi v97), some (vi x7)]) dX8_cutBalloon_55 (Nat.le_of_ble_eq_true rfl) rfl ?_
            refine wp_nmT (x7 + 1) (fun x103 hx104 => ?_)
            replace h := h x103 hx104
            refine wp_iinc' (z' := x103) (ls' := [some (vr a0), some (vi a1), some (vi v97), some (vi x103)]) dX8_cutBalloon_56 (Nat.le_of_ble_eq_true rfl) rfl hx104 rfl ?_
            refine wp_goto (tgt := 18) dX8_cutBalloon_59 (by decide) ?_
            obtain ⟨n105, hlt, h⟩ := h
            exact wp_lsub (ls' := [some (vr a0), some (vi a1), some (vi v97), some (vi x103)]) ⟨rfl, ⟨rfl, ⟨rfl, ⟨rfl, trivial⟩⟩⟩⟩ (ih10 n105 hlt _ _ h)
          obtain ⟨hr106, h⟩ := h
          refine wp_if_ne (tgt := 50) dX8_cutBalloon_27 (by decide) hr106 (fun c107 => ?_) (fun c107 => ?_)
          · refine wp_iconst dX8_cutBalloon_50 ?_
            refine wp_goto (tgt := 55) dX8_cutBalloon_51 (by decide) ?_
            exact key99 _ (by rw [if_pos c107])
          · replace h := h c107
            refine wp_aload_n dX8_cutBalloon_30 rfl ?_
            refine wp_get (v := vr (gP σ 337 a0)) dX8_cutBalloon_31 fl_RX8_50 hk2 rfl ?_
            refine wp_iload_n dX8_cutBalloon_34 rfl ?_
            obtain ⟨ha108, hi109, h⟩ := h
            refine wp_iaload dX8_cutBalloon_35 ha108 hi109 ?_
            refine wp_iconst dX8_cutBalloon_36 ?_
            obtain ⟨hr110, h⟩ := h
            refine wp_icmp_eq (tgt := 54) dX8_cutBalloon_37 (by decide) hr110 (by unfold qR; omega) (fun c111 => ?_) (fun c111 => ?_)
            · refine wp_iconst dX8_cutBalloon_54 ?_
              exact key99 _ (by rw [if_neg (fun z => z c107), if_pos c111])
            · replace h := h c111
              refine wp_aload_n dX8_cutBalloon_40 rfl ?_
              refine wp_get (v := vr (gP σ 339 a0)) dX8_cutBalloon_41 fl_RX8_56 hk2 rfl ?_
              refine wp_iload_n dX8_cutBalloon_44 rfl ?_
              obtain ⟨ha112, hi113, h⟩ := h
              refine wp_iaload dX8_cutBalloon_45 ha112 hi113 ?_
              refine wp_iload_n dX8_cutBalloon_46 rfl ?_
              obtain ⟨hr114, hr115⟩ := h
              refine wp_icmp_ne (tgt := 54) dX8_cutBalloon_47 (by decide) hr114 hr115 (fun c116 => ?_) (fun c116 => ?_)
              · refine wp_iconst dX8_cutBalloon_54 ?_
                exact key99 _ (by rw [if_neg (fun z => z c107), if_neg c111, if_pos c116])
              · refine wp_iconst dX8_cutBalloon_50 ?_
                refine wp_goto (tgt := 55) dX8_cutBalloon_51 (by decide) ?_
                exact key99 _ (by rw [if_neg (fun z => z c107), if_neg c111, if_neg (fun z => z c116)])
    exact wp_lsub (ls' := [some (vr a0), some (vi a1), some (vi 0), some (vi 0)]) ⟨rfl, ⟨rfl, ⟨rfl, ⟨rfl, trivial⟩⟩⟩⟩ (loop117 _ _ _ h013)
  · replace h := h.2 c5
    refine wp_aload_n dX8_cutBalloon_8 rfl ?_
    refine wp_iconst dX8_cutBalloon_9 ?_
    obtain ⟨Mid119, hm118, hk121⟩ := h
    refine wp_callV (M' := M_X8_fails) (As := [vi 1]) (st := []) (ci := 8) dX8_cutBalloon_10 cee_X8_fails np_X8_fails rfl ⟨Nat.le_of_ble_eq_true rfl, Nat.le_of_ble_eq_true rfl, Nat.le_of_ble_eq_true rfl, Nat.le_of_ble_eq_true rfl⟩ wd_1347 wd_1349 sel_X8_fails rfl (Or.inl hk2) (q_small_of (Nat.le_of_ble_eq_true rfl)) hm118 (q_kTi0 (fun σ123 v125 hM124 => ?_)) q_kTi00
    refine wp_less (ac2 := 0) (as2 := 0) (Nat.le_of_ble_eq_true rfl) (Nat.le_of_ble_eq_true rfl) ?_
    have h := hk121 σ123 v125 hM124
    exact wp_ret_i dX8_cutBalloon_13 rfl rfl h

set_option maxRecDepth 100000 in
set_option maxHeartbeats 4000000 in
theorem wm_X8_answer {g : qG} {l : Launch} (hl : l.stackTraces = false) {a0 : Nat} {a1 : Int} {a2 : Int} {σ : qS} {Post : qS → qRs → Prop}
    (h : gK σ a0 = 9 ∧ (∃ v3 : Int, qMet g l M_X8_isBalloon [vr a0, vi a1] σ (qPi σ v3) ∧ (qR v3 ∧ ((v3 = 0 → (∀ σ6 : qS, σ6 = sI σ 320 a0 1 → Post σ6 (.inl (some (vi 0))))) ∧ (¬ (v3 = 0) → qR a2 ∧ ((a2 = ((-1)) → (∀ σ10 : qS, σ10 = sI σ 320 a0 0 → ((a2 = ((-1)) → q_isA σ10 0 (gP σ10 339 a0) ∧ q_in σ10 (gP σ10 339 a0) a1 ∧ ∀ x15 : Int, x15 = gA σ10 (gP σ10 339 a0) a1 → gK σ10 (gP σ10 339 a0) = 20 ∧ (∀ σ18 : qS, σ18 = sA σ10 (gP σ10 339 a0) a1 a2 → Post σ18 (.inl (some (vi x15))))) ∧ (¬ (a2 = ((-1))) → (∃ v21 : Int, qMet g l M_X8_isBefore [vr a0, vi a2, vi a1] σ10 (qPi σ10 v21) ∧ (qR v21 ∧ ((¬ v21 = 0 → q_isA σ10 0 (gP σ10 339 a0) ∧ q_in σ10 (gP σ10 339 a0) a1 ∧ ∀ x26 : Int, x26 = gA σ10 (gP σ10 339 a0) a1 → gK σ10 (gP σ10 339 a0) = 20 ∧ (∀ σ29 : qS, σ29 = sA σ10 (gP σ10 339 a0) a1 a2 → Post σ29 (.inl (some (vi x26))))) ∧ (v21 = 0 → (∃ Mid32 : qS → Int → Prop, qMet g l M_X8_fails [vr a0, vi 2] σ10 (qTi0 Mid32) ∧ ∀ (σ36 : qS) (v38 : Int), Mid32 σ36 v38 → Post σ36 (.inl (some (vi v38)))))))))))) ∧ (¬ (a2 = ((-1))) → (∃ v40 : Int, qMet g l M_X8_isBalloon [vr a0, vi a2] σ (qPi σ v40) ∧ (((qR v40) ∧ ∀ v43 : Int, v43 = (if ¬ v40 = 0 then 0 else 1) → (∀ σ49 : qS, σ49 = sI σ 320 a0 v43 → ((v43 ≤ 0 → ((a2 = ((-1)) → q_isA σ49 0 (gP σ49 339 a0) ∧ q_in σ49 (gP σ49 339 a0) a1 ∧ ∀ x55 : Int, x55 = gA σ49 (gP σ49 339 a0) a1 → gK σ49 (gP σ49 339 a0) = 20 ∧ (∀ σ58 : qS, σ58 = sA σ49 (gP σ49 339 a0) a1 a2 → Post σ58 (.inl (some (vi x55))))) ∧ (¬ (a2 = ((-1))) → (∃ v61 : Int, qMet g l M_X8_isBefore [vr a0, vi a2, vi a1] σ49 (qPi σ49 v61) ∧ (qR v61 ∧ ((¬ v61 = 0 → q_isA σ49 0 (gP σ49 339 a0) ∧ q_in σ49 (gP σ49 339 a0) a1 ∧ ∀ x66 : Int, x66 = gA σ49 (gP σ49 339 a0) a1 → gK σ49 (gP σ49 339 a0) = 20 ∧ (∀ σ69 : qS, σ69 = sA σ49 (gP σ49 339 a0) a1 a2 → Post σ69 (.inl (some (vi x66))))) ∧ (v61 = 0 → (∃ Mid72 : qS → Int → Prop, qMet g l M_X8_fails [vr a0, vi 2] σ49 (qTi0 Mid72) ∧ ∀ (σ76 : qS) (v78 : Int), Mid72 σ76 v78 → Post σ76 (.inl (some (vi v78))))))))))) ∧ (¬ (v43 ≤ 0) → Post σ49 (.inl (some (vi 0)))))))))))))))) : qMet g l M_X8_answer [vr a0, vi a1, vi a2] σ Post := by
  refine qMet_of hl (by decide +kernel) (Nat.le_of_ble_eq_true rfl) (List.forall_mem_cons.mpr ⟨trivial, List.forall_mem_cons.mpr ⟨trivial, List.forall_mem_cons.mpr ⟨trivial, fun _ h => nomatch h⟩⟩⟩) ?_
  show qW g l M_X8_answer 0 0 0 [some (vr a0), some (vi a1), some (vi a2), none] [] σ Post
  refine wp_aload_n dX8_answer_0 rfl ?_
  refine wp_aload_n dX8_answer_1 rfl ?_
  refine wp_iload_n dX8_answer_2 rfl ?_
  obtain ⟨hk2, h⟩ := h
  obtain ⟨v3, hm1, h⟩ := h
  refine wp_callV (M' := M_X8_isBalloon) (As := [vi a1]) (st := [vr a0]) (ci := 8) dX8_answer_3 cee_X8_isBalloon np_X8_isBalloon rfl ⟨Nat.le_of_ble_eq_true rfl, Nat.le_of_ble_eq_true rfl, Nat.le_of_ble_eq_true rfl, Nat.le_of_ble_eq_true rfl⟩ wd_1447 wd_1449 sel_X8_isBalloon rfl (Or.inl hk2) (q_small_of (Nat.le_of_ble_eq_true rfl)) hm1 (q_kPi ?_) q_kPi0
  refine wp_less (ac2 := 0) (as2 := 0) (Nat.le_of_ble_eq_true rfl) (Nat.le_of_ble_eq_true rfl) ?_
  obtain ⟨hr4, h⟩ := h
  refine wp_if_eq (tgt := 22) dX8_answer_6 (by decide) hr4 (fun c5 => ?_) (fun c5 => ?_)
  · replace h := h.1 c5
    refine wp_iconst dX8_answer_22 ?_
    refine wp_goto (tgt := 27) dX8_answer_23 (by decide) ?_
    refine wp_put (v := vi 1) dX8_answer_27 fs_RX8_108 (fun h => absurd h (by decide)) hk2 (Or.inl rfl) ?_
    refine wp_nmS (fun σ6 hs7 => ?_)
    replace h := h σ6 hs7
    refine wp_aload_n dX8_answer_30 rfl ?_
    refine wp_get (v := vi 1) dX8_answer_31 fl_RX8_108 (by rw [hs7]; exact hk2) (by rw [hs7]; exact q_memI) ?_
    refine wp_if_le (tgt := 39) dX8_answer_34 (by decide) (by unfold qR; omega) (fun c9 => absurd c9 (by decide)) (fun _ => ?_)
    refine wp_iconst dX8_answer_37 ?_
    exact wp_ret_i dX8_answer_38 rfl rfl h
  · replace h := h.2 c5
    refine wp_iload_n dX8_answer_9 rfl ?_
    refine wp_iconst dX8_answer_10 ?_
    obtain ⟨hr8, h⟩ := h
    refine wp_icmp_eq (tgt := 26) dX8_answer_11 (by decide) hr8 (by unfold qR; omega) (fun c9 => ?_) (fun c9 => ?_)
    · replace h := h.1 c9
      refine wp_iconst dX8_answer_26 ?_
      refine wp_put (v := vi 0) dX8_answer_27 fs_RX8_108 (fun h => absurd h (by decide)) hk2 (Or.inl rfl) ?_
      refine wp_nmS (fun σ10 hs11 => ?_)
      replace h := h σ10 hs11
      refine wp_aload_n dX8_answer_30 rfl ?_
      refine wp_get (v := vi 0) dX8_answer_31 fl_RX8_108 (by rw [hs11]; exact hk2) (by rw [hs11]; exact q_memI) ?_
      refine wp_if_le (tgt := 39) dX8_answer_34 (by decide) (by unfold qR; omega) (fun _ => ?_) (fun c9 => absurd (by decide) c9)
      refine wp_iload_n dX8_answer_39 rfl ?_
      refine wp_iconst dX8_answer_40 ?_
      refine wp_icmp_eq (tgt := 59) dX8_answer_41 (by decide) hr8 (by unfold qR; omega) (fun c12 => ?_) (fun c12 => ?_)
      · replace h := h.1 c12
        refine wp_aload_n dX8_answer_59 rfl ?_
        refine wp_get (v := vr (gP σ10 339 a0)) dX8_answer_60 fl_RX8_56 (by rw [hs11]; exact hk2) rfl ?_
        refine wp_iload_n dX8_answer_63 rfl ?_
        obtain ⟨ha13, hi14, h⟩ := h
        refine wp_iaload dX8_answer_64 ha13 hi14 ?_
        refine wp_nmI (fun x15 hx16 => ?_)
        replace h := h x15 hx16
        refine wp_istore_n' (ls' := [some (vr a0), some (vi a1), some (vi a2), some (vi x15)]) dX8_answer_65 (Nat.le_of_ble_eq_true rfl) rfl ?_
        refine wp_aload_n dX8_answer_66 rfl ?_
        refine wp_get (v := vr (gP σ10 339 a0)) dX8_answer_67 fl_RX8_56 (by rw [hs11]; exact hk2) rfl ?_
        refine wp_iload_n dX8_answer_70 rfl ?_
        refine wp_iload_n dX8_answer_71 rfl ?_
        obtain ⟨hk17, h⟩ := h
        refine wp_iastore dX8_answer_72 hk17 hi14 ?_
        refine wp_nmS (fun σ18 hs19 => ?_)
        replace h := h σ18 hs19
        refine wp_iload_n dX8_answer_73 rfl ?_
        exact wp_ret_i dX8_answer_74 rfl rfl h
      · replace h := h.2 c12
        refine wp_aload_n dX8_answer_44 rfl ?_
        refine wp_iload_n dX8_answer_45 rfl ?_
        refine wp_iload_n dX8_answer_46 rfl ?_
        obtain ⟨v21, hm20, h⟩ := h
        refine wp_callV (M' := M_X8_isBefore) (As := [vi a2, vi a1]) (st := []) (ci := 8) dX8_answer_47 cee_X8_isBefore np_X8_isBefore rfl ⟨Nat.le_of_ble_eq_true rfl, Nat.le_of_ble_eq_true rfl, Nat.le_of_ble_eq_true rfl, Nat.le_of_ble_eq_true rfl⟩ wd_1401 wd_1403 sel_X8_isBefore rfl (Or.inl (by rw [hs11]; exact hk2)) (q_small_of (Nat.le_of_ble_eq_true rfl)) hm20 (q_kPi ?_) q_kPi0
        refine wp_less (ac2 := 0) (as2 := 0) (Nat.le_of_ble_eq_true rfl) (Nat.le_of_ble_eq_true rfl) ?_
        obtain ⟨hr22, h⟩ := h
        refine wp_if_ne (tgt := 59) dX8_answer_50 (by decide) hr22 (fun c23 => ?_) (fun c23 => ?_)
        · replace h := h.1 c23
          refine wp_aload_n dX8_answer_59 rfl ?_
          refine wp_get (v := vr (gP σ10 339 a0)) dX8_answer_60 fl_RX8_56 (by rw [hs11]; exact hk2) rfl ?_
          refine wp_iload_n dX8_answer_63 rfl ?_
          obtain ⟨ha24, hi25, h⟩ := h
          refine wp_iaload dX8_answer_64 ha24 hi25 ?_
          refine wp_nmI (fun x26 hx27 => ?_)
          replace h := h x26 hx27
          refine wp_istore_n' (ls' := [some (vr a0), some (vi a1), some (vi a2), some (vi x26)]) dX8_answer_65 (Nat.le_of_ble_eq_true rfl) rfl ?_
          refine wp_aload_n dX8_answer_66 rfl ?_
          refine wp_get (v := vr (gP σ10 339 a0)) dX8_answer_67 fl_RX8_56 (by rw [hs11]; exact hk2) rfl ?_
          refine wp_iload_n dX8_answer_70 rfl ?_
          refine wp_iload_n dX8_answer_71 rfl ?_
          obtain ⟨hk28, h⟩ := h
          refine wp_iastore dX8_answer_72 hk28 hi25 ?_
          refine wp_nmS (fun σ29 hs30 => ?_)
          replace h := h σ29 hs30
          refine wp_iload_n dX8_answer_73 rfl ?_
          exact wp_ret_i dX8_answer_74 rfl rfl h
        · replace h := h.2 c23
          refine wp_aload_n dX8_answer_53 rfl ?_
          refine wp_iconst dX8_answer_54 ?_
          obtain ⟨Mid32, hm31, hk34⟩ := h
          refine wp_callV (M' := M_X8_fails) (As := [vi 2]) (st := []) (ci := 8) dX8_answer_55 cee_X8_fails np_X8_fails rfl ⟨Nat.le_of_ble_eq_true rfl, Nat.le_of_ble_eq_true rfl, Nat.le_of_ble_eq_true rfl, Nat.le_of_ble_eq_true rfl⟩ wd_1347 wd_1349 sel_X8_fails rfl (Or.inl (by rw [hs11]; exact hk2)) (q_small_of (Nat.le_of_ble_eq_true rfl)) hm31 (q_kTi0 (fun σ36 v38 hM37 => ?_)) q_kTi00
          refine wp_less (ac2 := 0) (as2 := 0) (Nat.le_of_ble_eq_true rfl) (Nat.le_of_ble_eq_true rfl) ?_
          have h := hk34 σ36 v38 hM37
          exact wp_ret_i dX8_answer_58 rfl rfl h
    · replace h := h.2 c9
      refine wp_aload_n dX8_answer_14 rfl ?_
      refine wp_iload_n dX8_answer_15 rfl ?_
      obtain ⟨v40, hm39, h⟩ := h
      refine wp_callV (M' := M_X8_isBalloon) (As := [vi a2]) (st := [vr a0]) (ci := 8) dX8_answer_16 cee_X8_isBalloon np_X8_isBalloon rfl ⟨Nat.le_of_ble_eq_true rfl, Nat.le_of_ble_eq_true rfl, Nat.le_of_ble_eq_true rfl, Nat.le_of_ble_eq_true rfl⟩ wd_1447 wd_1449 sel_X8_isBalloon rfl (Or.inl hk2) (q_small_of (Nat.le_of_ble_eq_true rfl)) hm39 (q_kPi ?_) q_kPi0
      refine wp_less (ac2 := 0) (as2 := 0) (Nat.le_of_ble_eq_true rfl) (Nat.le_of_ble_eq_true rfl) ?_
      obtain ⟨h, hk46⟩ := h
      have key45 : ∀ v43 : Int, v43 = (if ¬ v40 = 0 then 0 else 1) → qW g l M_X8_answer 0 0 27 [some (vr a0), some (vi a1), some (vi a2), none] [vi v43, vr a0] σ Post := by
        intro v43 hv44
        have h := hk46 v43 hv44
        have hr47 : qR v43 := by (rw [hv44]; unfold qR; repeat' split) <;> omega
        have hz48 : v43 = 0 ∨ v43 = 1 := by (rw [hv44]; repeat' split) <;> first | exact Or.inl rfl | exact Or.inr rfl
        refine wp_put (v := vi v43) dX8_answer_27 fs_RX8_108 (fun h => absurd h (by decide)) hk2 (Or.inl rfl) ?_
        refine wp_nmS (fun σ49 hs50 => ?_)
        replace h := h σ49 hs50
        refine wp_aload_n dX8_answer_30 rfl ?_
        refine wp_get (v := vi v43) dX8_answer_31 fl_RX8_108 (by rw [hs50]; exact hk2) (by rw [hs50]; exact q_memI) ?_
        refine wp_if_le (tgt := 39) dX8_answer_34 (by decide) hr47 (fun c51 => ?_) (fun c51 => ?_)
        · replace h := h.1 c51
          refine wp_iload_n dX8_answer_39 rfl ?_
          refine wp_iconst dX8_answer_40 ?_
          refine wp_icmp_eq (tgt := 59) dX8_answer_41 (by decide) hr8 (by unfold qR; omega) (fun c52 => ?_) (fun c52 => ?_)
          · replace h := h.1 c52
            refine wp_aload_n dX8_answer_59 rfl ?_
            refine wp_get (v := vr (gP σ49 339 a0)) dX8_answer_60 fl_RX8_56 (by rw [hs50]; exact hk2) rfl ?_
            refine wp_iload_n dX8_answer_63 rfl ?_
            obtain ⟨ha53, hi54, h⟩ := h
            refine wp_iaload dX8_answer_64 ha53 hi54 ?_
            refine wp_nmI (fun x55 hx56 => ?_)
            replace h := h x55 hx56
            refine wp_istore_n' (ls' := [some (vr a0), some (vi a1), some (vi a2), some (vi x55)]) dX8_answer_65 (Nat.le_of_ble_eq_true rfl) rfl ?_
            refine wp_aload_n dX8_answer_66 rfl ?_
            refine wp_get (v := vr (gP σ49 339 a0)) dX8_answer_67 fl_RX8_56 (by rw [hs50]; exact hk2) rfl ?_
            refine wp_iload_n dX8_answer_70 rfl ?_
            refine wp_iload_n dX8_answer_71 rfl ?_
            obtain ⟨hk57, h⟩ := h
            refine wp_iastore dX8_answer_72 hk57 hi54 ?_
            refine wp_nmS (fun σ58 hs59 => ?_)
            replace h := h σ58 hs59
            refine wp_iload_n dX8_answer_73 rfl ?_
            exact wp_ret_i dX8_answer_74 rfl rfl h
          · replace h := h.2 c52
            refine wp_aload_n dX8_answer_44 rfl ?_
            refine wp_iload_n dX8_answer_45 rfl ?_
            refine wp_iload_n dX8_answer_46 rfl ?_
            obtain ⟨v61, hm60, h⟩ := h
            refine wp_callV (M' := M_X8_isBefore) (As := [vi a2, vi a1]) (st := []) (ci := 8) dX8_answer_47 cee_X8_isBefore np_X8_isBefore rfl ⟨Nat.le_of_ble_eq_true rfl, Nat.le_of_ble_eq_true rfl, Nat.le_of_ble_eq_true rfl, Nat.le_of_ble_eq_true rfl⟩ wd_1401 wd_1403 sel_X8_isBefore rfl (Or.inl (by rw [hs50]; exact hk2)) (q_small_of (Nat.le_of_ble_eq_true rfl)) hm60 (q_kPi ?_) q_kPi0
            refine wp_less (ac2 := 0) (as2 := 0) (Nat.le_of_ble_eq_true rfl) (Nat.le_of_ble_eq_true rfl) ?_
            obtain ⟨hr62, h⟩ := h
            refine wp_if_ne (tgt := 59) dX8_answer_50 (by decide) hr62 (fun c63 => ?_) (fun c63 => ?_)
            · replace h := h.1 c63
              refine wp_aload_n dX8_answer_59 rfl ?_
              refine wp_get (v := vr (gP σ49 339 a0)) dX8_answer_60 fl_RX8_56 (by rw [hs50]; exact hk2) rfl ?_
              refine wp_iload_n dX8_answer_63 rfl ?_
              obtain ⟨ha64, hi65, h⟩ := h
              refine wp_iaload dX8_answer_64 ha64 hi65 ?_
              refine wp_nmI (fun x66 hx67 => ?_)
              replace h := h x66 hx67
              refine wp_istore_n' (ls' := [some (vr a0), some (vi a1), some (vi a2), some (vi x66)]) dX8_answer_65 (Nat.le_of_ble_eq_true rfl) rfl ?_
              refine wp_aload_n dX8_answer_66 rfl ?_
              refine wp_get (v := vr (gP σ49 339 a0)) dX8_answer_67 fl_RX8_56 (by rw [hs50]; exact hk2) rfl ?_
              refine wp_iload_n dX8_answer_70 rfl ?_
              refine wp_iload_n dX8_answer_71 rfl ?_
              obtain ⟨hk68, h⟩ := h
              refine wp_iastore dX8_answer_72 hk68 hi65 ?_
              refine wp_nmS (fun σ69 hs70 => ?_)
              replace h := h σ69 hs70
              refine wp_iload_n dX8_answer_73 rfl ?_
              exact wp_ret_i dX8_answer_74 rfl rfl h
            · replace h := h.2 c63
              refine wp_aload_n dX8_answer_53 rfl ?_
              refine wp_iconst dX8_answer_54 ?_
              obtain ⟨Mid72, hm71, hk74⟩ := h
              refine wp_callV (M' := M_X8_fails) (As := [vi 2]) (st := []) (ci := 8) dX8_answer_55 cee_X8_fails np_X8_fails rfl ⟨Nat.le_of_ble_eq_true rfl, Nat.le_of_ble_eq_true rfl, Nat.le_of_ble_eq_true rfl, Nat.le_of_ble_eq_true rfl⟩ wd_1347 wd_1349 sel_X8_fails rfl (Or.inl (by rw [hs50]; exact hk2)) (q_small_of (Nat.le_of_ble_eq_true rfl)) hm71 (q_kTi0 (fun σ76 v78 hM77 => ?_)) q_kTi00
              refine wp_less (ac2 := 0) (as2 := 0) (Nat.le_of_ble_eq_true rfl) (Nat.le_of_ble_eq_true rfl) ?_
              have h := hk74 σ76 v78 hM77
              exact wp_ret_i dX8_answer_58 rfl rfl h
        · replace h := h.2 c51
          refine wp_iconst dX8_answer_37 ?_
          exact wp_ret_i dX8_answer_38 rfl rfl h
      have hr79 := h
      refine wp_if_ne (tgt := 26) dX8_answer_19 (by decide) hr79 (fun c80 => ?_) (fun c80 => ?_)
      · refine wp_iconst dX8_answer_26 ?_
        exact key45 _ (by rw [if_pos c80])
      · refine wp_iconst dX8_answer_22 ?_
        refine wp_goto (tgt := 27) dX8_answer_23 (by decide) ?_
        exact key45 _ (by rw [if_neg (fun z => z c80)])

set_option maxRecDepth 100000 in
set_option maxHeartbeats 4000000 in
theorem wm_X8_translate {g : qG} {l : Launch} (hl : l.stackTraces = false) {a0 : Nat} {a1 : Int} {a2 : Int} {σ : qS} {Post : qS → qRs → Prop}
    (h : gK σ a0 = 9 ∧ (∃ v3 : Int, qMet g l M_X8_isPage [vr a0, vi a1] σ (qPi σ v3) ∧ (qR v3 ∧ ((¬ v3 = 0 → (∃ v7 : Int, qMet g l M_X8_in [vi a2, vi 0, vi 2] σ (qPi σ v7) ∧ (((qR v7) ∧ ∀ v10 : Int, v10 = (if v7 = 0 then 2 else 0) → (∀ σ15 : qS, σ15 = sI σ 320 a0 v10 → ((v10 ≤ 0 → (∃ Mid19 : qS → Prop, qMet g l M_X8_keeps [vr a0] σ15 (qTv0 Mid19) ∧ ∀ (σ23 : qS), Mid19 σ23 → gK σ23 a0 = 9 ∧ gK σ23 (gP σ23 324 a0) = 20 ∧ q_in σ23 (gP σ23 324 a0) a1 ∧ (∀ σ28 : qS, σ28 = sA σ23 (gP σ23 324 a0) a1 a2 → (∃ Mid31 : qS → Int → Prop, qMet g l M_X8_stays [vr a0] σ28 (qTi0 Mid31) ∧ ∀ (σ35 : qS) (v37 : Int), Mid31 σ35 v37 → ((qR v37) ∧ ∀ v40 : Int, v40 = (if v37 = 0 then 3 else 0) → gK σ35 a0 = 9 ∧ (∀ σ46 : qS, σ46 = sI σ35 320 a0 v40 → ((v40 ≤ 0 → (∃ v50 : Int, qMet g l M_X8_changed [vr a0, vi a1] σ46 (qPi σ46 v50) ∧ (Post σ46 (.inl (some (vi v50)))))) ∧ (¬ (v40 ≤ 0) → Post σ46 (.inl (some (vi 0))))))))))) ∧ (¬ (v10 ≤ 0) → Post σ15 (.inl (some (vi 0)))))))))) ∧ (v3 = 0 → (∀ σ55 : qS, σ55 = sI σ 320 a0 1 → Post σ55 (.inl (some (vi 0))))))))) : qMet g l M_X8_translate [vr a0, vi a1, vi a2] σ Post := by
  refine qMet_of hl (by decide +kernel) (Nat.le_of_ble_eq_true rfl) (List.forall_mem_cons.mpr ⟨trivial, List.forall_mem_cons.mpr ⟨trivial, List.forall_mem_cons.mpr ⟨trivial, fun _ h => nomatch h⟩⟩⟩) ?_
  show qW g l M_X8_translate 0 0 0 [some (vr a0), some (vi a1), some (vi a2)] [] σ Post
  refine wp_aload_n dX8_translate_0 rfl ?_
  refine wp_aload_n dX8_translate_1 rfl ?_
  refine wp_iload_n dX8_translate_2 rfl ?_
  obtain ⟨hk2, h⟩ := h
  obtain ⟨v3, hm1, h⟩ := h
  refine wp_callV (M' := M_X8_isPage) (As := [vi a1]) (st := [vr a0]) (ci := 8) dX8_translate_3 cee_X8_isPage np_X8_isPage rfl ⟨Nat.le_of_ble_eq_true rfl, Nat.le_of_ble_eq_true rfl, Nat.le_of_ble_eq_true rfl, Nat.le_of_ble_eq_true rfl⟩ wd_1340 wd_1342 sel_X8_isPage rfl (Or.inl hk2) (q_small_of (Nat.le_of_ble_eq_true rfl)) hm1 (q_kPi ?_) q_kPi0
  refine wp_less (ac2 := 0) (as2 := 0) (Nat.le_of_ble_eq_true rfl) (Nat.le_of_ble_eq_true rfl) ?_
  obtain ⟨hr4, h⟩ := h
  refine wp_if_ne (tgt := 13) dX8_translate_6 (by decide) hr4 (fun c5 => ?_) (fun c5 => ?_)
  · replace h := h.1 c5
    refine wp_iload_n dX8_translate_13 rfl ?_
    refine wp_iconst dX8_translate_14 ?_
    refine wp_iconst dX8_translate_15 ?_
    obtain ⟨v7, hm6, h⟩ := h
    refine wp_callS (M' := M_X8_in) (As := [vi a2, vi 0, vi 2]) (st := [vr a0]) dX8_translate_16 cee_X8_in np_X8_in rfl ⟨Nat.le_of_ble_eq_true rfl, Nat.le_of_ble_eq_true rfl, Nat.le_of_ble_eq_true rfl, Nat.le_of_ble_eq_true rfl⟩ wd_1344 wd_1345 (q_small_of (Nat.le_of_ble_eq_true rfl)) hm6 (q_kPi ?_) q_kPi0
    refine wp_less (ac2 := 0) (as2 := 0) (Nat.le_of_ble_eq_true rfl) (Nat.le_of_ble_eq_true rfl) ?_
    obtain ⟨h, hk13⟩ := h
    have key12 : ∀ v10 : Int, v10 = (if v7 = 0 then 2 else 0) → qW g l M_X8_translate 0 0 27 [some (vr a0), some (vi a1), some (vi a2)] [vi v10, vr a0] σ Post := by
      intro v10 hv11
      have h := hk13 v10 hv11
      have hr14 : qR v10 := by (rw [hv11]; unfold qR; repeat' split) <;> omega
      refine wp_put (v := vi v10) dX8_translate_27 fs_RX8_108 (fun h => absurd h (by decide)) hk2 (Or.inl rfl) ?_
      refine wp_nmS (fun σ15 hs16 => ?_)
      replace h := h σ15 hs16
      refine wp_aload_n dX8_translate_30 rfl ?_
      refine wp_get (v := vi v10) dX8_translate_31 fl_RX8_108 (by rw [hs16]; exact hk2) (by rw [hs16]; exact q_memI) ?_
      refine wp_if_le (tgt := 39) dX8_translate_34 (by decide) hr14 (fun c17 => ?_) (fun c17 => ?_)
      · replace h := h.1 c17
        refine wp_aload_n dX8_translate_39 rfl ?_
        obtain ⟨Mid19, hm18, hk21⟩ := h
        refine wp_callV (M' := M_X8_keeps) (As := []) (st := []) (ci := 8) dX8_translate_40 cee_X8_keeps np_X8_keeps rfl ⟨Nat.le_of_ble_eq_true rfl, Nat.le_of_ble_eq_true rfl, Nat.le_of_ble_eq_true rfl, Nat.le_of_ble_eq_true rfl⟩ wd_1351 wd_1353 sel_X8_keeps rfl (Or.inl (by rw [hs16]; exact hk2)) (q_small_of (Nat.le_of_ble_eq_true rfl)) hm18 (q_kTv0 (fun σ23 hM24 => ?_)) q_kTv00
        refine wp_less (ac2 := 0) (as2 := 0) (Nat.le_of_ble_eq_true rfl) (Nat.le_of_ble_eq_true rfl) ?_
        have h := hk21 σ23 hM24
        refine wp_aload_n dX8_translate_43 rfl ?_
        obtain ⟨hk25, h⟩ := h
        refine wp_get (v := vr (gP σ23 324 a0)) dX8_translate_44 fl_RX8_7 hk25 rfl ?_
        refine wp_iload_n dX8_translate_47 rfl ?_
        refine wp_iload_n dX8_translate_48 rfl ?_
        obtain ⟨hk26, hi27, h⟩ := h
        refine wp_iastore dX8_translate_49 hk26 hi27 ?_
        refine wp_nmS (fun σ28 hs29 => ?_)
        replace h := h σ28 hs29
        refine wp_aload_n dX8_translate_50 rfl ?_
        refine wp_aload_n dX8_translate_51 rfl ?_
        obtain ⟨Mid31, hm30, hk33⟩ := h
        refine wp_callV (M' := M_X8_stays) (As := []) (st := [vr a0]) (ci := 8) dX8_translate_52 cee_X8_stays np_X8_stays rfl ⟨Nat.le_of_ble_eq_true rfl, Nat.le_of_ble_eq_true rfl, Nat.le_of_ble_eq_true rfl, Nat.le_of_ble_eq_true rfl⟩ wd_1361 wd_1363 sel_X8_stays rfl (Or.inl (by rw [hs29]; exact hk25)) (q_small_of (Nat.le_of_ble_eq_true rfl)) hm30 (q_kTi0 (fun σ35 v37 hM36 => ?_)) q_kTi00
        refine wp_less (ac2 := 0) (as2 := 0) (Nat.le_of_ble_eq_true rfl) (Nat.le_of_ble_eq_true rfl) ?_
        have h := hk33 σ35 v37 hM36
        obtain ⟨h, hk43⟩ := h
        have key42 : ∀ v40 : Int, v40 = (if v37 = 0 then 3 else 0) → qW g l M_X8_translate 0 0 63 [some (vr a0), some (vi a1), some (vi a2)] [vi v40, vr a0] σ35 Post := by
          intro v40 hv41
          have h := hk43 v40 hv41
          have hr44 : qR v40 := by (rw [hv41]; unfold qR; repeat' split) <;> omega
          obtain ⟨hk45, h⟩ := h
          refine wp_put (v := vi v40) dX8_translate_63 fs_RX8_108 (fun h => absurd h (by decide)) hk45 (Or.inl rfl) ?_
          refine wp_nmS (fun σ46 hs47 => ?_)
          replace h := h σ46 hs47
          refine wp_aload_n dX8_translate_66 rfl ?_
          refine wp_get (v := vi v40) dX8_translate_67 fl_RX8_108 (by rw [hs47]; exact hk45) (by rw [hs47]; exact q_memI) ?_
          refine wp_if_le (tgt := 77) dX8_translate_70 (by decide) hr44 (fun c48 => ?_) (fun c48 => ?_)
          · replace h := h.1 c48
            refine wp_aload_n dX8_translate_77 rfl ?_
            refine wp_iload_n dX8_translate_78 rfl ?_
            obtain ⟨v50, hm49, h⟩ := h
            refine wp_callV (M' := M_X8_changed) (As := [vi a1]) (st := []) (ci := 8) dX8_translate_79 cee_X8_changed np_X8_changed rfl ⟨Nat.le_of_ble_eq_true rfl, Nat.le_of_ble_eq_true rfl, Nat.le_of_ble_eq_true rfl, Nat.le_of_ble_eq_true rfl⟩ wd_1423 wd_1425 sel_X8_changed rfl (Or.inl (by rw [hs47]; exact hk45)) (q_small_of (Nat.le_of_ble_eq_true rfl)) hm49 (q_kPi ?_) q_kPi0
            refine wp_less (ac2 := 0) (as2 := 0) (Nat.le_of_ble_eq_true rfl) (Nat.le_of_ble_eq_true rfl) ?_
            exact wp_ret_i dX8_translate_82 rfl rfl h
          · replace h := h.2 c48
            refine wp_iconst dX8_translate_73 ?_
            refine wp_goto (tgt := 82) dX8_translate_74 (by decide) ?_
            exact wp_ret_i dX8_translate_82 rfl rfl h
        have hr51 := h
        refine wp_if_eq (tgt := 62) dX8_translate_55 (by decide) hr51 (fun c52 => ?_) (fun c52 => ?_)
        · refine wp_iconst dX8_translate_62 ?_
          exact key42 _ (by rw [if_pos c52])
        · refine wp_iconst dX8_translate_58 ?_
          refine wp_goto (tgt := 63) dX8_translate_59 (by decide) ?_
          exact key42 _ (by rw [if_neg c52])
      · replace h := h.2 c17
        refine wp_iconst dX8_translate_37 ?_
        exact wp_ret_i dX8_translate_38 rfl rfl h
    have hr53 := h
    refine wp_if_eq (tgt := 26) dX8_translate_19 (by decide) hr53 (fun c54 => ?_) (fun c54 => ?_)
    · refine wp_iconst dX8_translate_26 ?_
      exact key12 _ (by rw [if_pos c54])
    · refine wp_iconst dX8_translate_22 ?_
      refine wp_goto (tgt := 27) dX8_translate_23 (by decide) ?_
      exact key12 _ (by rw [if_neg c54])
  · replace h := h.2 c5
    refine wp_iconst dX8_translate_9 ?_
    refine wp_goto (tgt := 27) dX8_translate_10 (by decide) ?_
    refine wp_put (v := vi 1) dX8_translate_27 fs_RX8_108 (fun h => absurd h (by decide)) hk2 (Or.inl rfl) ?_
    refine wp_nmS (fun σ55 hs56 => ?_)
    replace h := h σ55 hs56
    refine wp_aload_n dX8_translate_30 rfl ?_
    refine wp_get (v := vi 1) dX8_translate_31 fl_RX8_108 (by rw [hs56]; exact hk2) (by rw [hs56]; exact q_memI) ?_
    refine wp_if_le (tgt := 39) dX8_translate_34 (by decide) (by unfold qR; omega) (fun c9 => absurd c9 (by decide)) (fun _ => ?_)
    refine wp_iconst dX8_translate_37 ?_
    exact wp_ret_i dX8_translate_38 rfl rfl h

set_option maxRecDepth 100000 in
set_option maxHeartbeats 4000000 in
theorem wm_X8_setGrowth {g : qG} {l : Launch} (hl : l.stackTraces = false) {a0 : Nat} {a1 : Int} {a2 : Int} {σ : qS} {Post : qS → qRs → Prop}
    (h : (∃ v2 : Int, qMet g l M_X8_in [vi a1, vi 0, vi 2] σ (qPi σ v2) ∧ (qR v2 ∧ ((v2 = 0 → gK σ a0 = 9 ∧ (∀ σ6 : qS, σ6 = sI σ 320 a0 1 → Post σ6 (.inl (some (vi 0))))) ∧ (¬ (v2 = 0) → (∃ v9 : Int, qMet g l M_X8_in [vi a2, vi 50, vi 250] σ (qPi σ v9) ∧ (((qR v9) ∧ ∀ v12 : Int, v12 = (if v9 = 0 then 1 else 0) → gK σ a0 = 9 ∧ (∀ σ19 : qS, σ19 = sI σ 320 a0 v12 → ((v12 ≤ 0 → (∃ Mid23 : qS → Prop, qMet g l M_X8_keeps [vr a0] σ19 (qTv0 Mid23) ∧ ∀ (σ27 : qS), Mid23 σ27 → gK σ27 a0 = 9 ∧ gK σ27 (gP σ27 328 a0) = 20 ∧ q_in σ27 (gP σ27 328 a0) a1 ∧ (∀ σ32 : qS, σ32 = sA σ27 (gP σ27 328 a0) a1 a2 → (∃ Mid35 : qS → Int → Prop, qMet g l M_X8_stays [vr a0] σ32 (qTi0 Mid35) ∧ ∀ (σ39 : qS) (v41 : Int), Mid35 σ39 v41 → ((qR v41) ∧ ∀ v44 : Int, v44 = (if v41 = 0 then 2 else 0) → gK σ39 a0 = 9 ∧ (∀ σ50 : qS, σ50 = sI σ39 320 a0 v44 → ((v44 ≤ 0 → (∃ v54 : Int, qMet g l M_X8_changed [vr a0, vi ((-1))] σ50 (qPi σ50 v54) ∧ (Post σ50 (.inl (some (vi v54)))))) ∧ (¬ (v44 ≤ 0) → Post σ50 (.inl (some (vi 0))))))))))) ∧ (¬ (v12 ≤ 0) → Post σ19 (.inl (some (vi 0)))))))))))))) : qMet g l M_X8_setGrowth [vr a0, vi a1, vi a2] σ Post := by
  refine qMet_of hl (by decide +kernel) (Nat.le_of_ble_eq_true rfl) (List.forall_mem_cons.mpr ⟨trivial, List.forall_mem_cons.mpr ⟨trivial, List.forall_mem_cons.mpr ⟨trivial, fun _ h => nomatch h⟩⟩⟩) ?_
  show qW g l M_X8_setGrowth 0 0 0 [some (vr a0), some (vi a1), some (vi a2)] [] σ Post
  refine wp_aload_n dX8_setGrowth_0 rfl ?_
  refine wp_iload_n dX8_setGrowth_1 rfl ?_
  refine wp_iconst dX8_setGrowth_2 ?_
  refine wp_iconst dX8_setGrowth_3 ?_
  obtain ⟨v2, hm1, h⟩ := h
  refine wp_callS (M' := M_X8_in) (As := [vi a1, vi 0, vi 2]) (st := [vr a0]) dX8_setGrowth_4 cee_X8_in np_X8_in rfl ⟨Nat.le_of_ble_eq_true rfl, Nat.le_of_ble_eq_true rfl, Nat.le_of_ble_eq_true rfl, Nat.le_of_ble_eq_true rfl⟩ wd_1344 wd_1345 (q_small_of (Nat.le_of_ble_eq_true rfl)) hm1 (q_kPi ?_) q_kPi0
  refine wp_less (ac2 := 0) (as2 := 0) (Nat.le_of_ble_eq_true rfl) (Nat.le_of_ble_eq_true rfl) ?_
  obtain ⟨hr3, h⟩ := h
  refine wp_if_eq (tgt := 26) dX8_setGrowth_7 (by decide) hr3 (fun c4 => ?_) (fun c4 => ?_)
  · replace h := h.1 c4
    refine wp_iconst dX8_setGrowth_26 ?_
    obtain ⟨hk5, h⟩ := h
    refine wp_put (v := vi 1) dX8_setGrowth_27 fs_RX8_108 (fun h => absurd h (by decide)) hk5 (Or.inl rfl) ?_
    refine wp_nmS (fun σ6 hs7 => ?_)
    replace h := h σ6 hs7
    refine wp_aload_n dX8_setGrowth_30 rfl ?_
    refine wp_get (v := vi 1) dX8_setGrowth_31 fl_RX8_108 (by rw [hs7]; exact hk5) (by rw [hs7]; exact q_memI) ?_
    refine wp_if_le (tgt := 39) dX8_setGrowth_34 (by decide) (by unfold qR; omega) (fun c9 => absurd c9 (by decide)) (fun _ => ?_)
    refine wp_iconst dX8_setGrowth_37 ?_
    exact wp_ret_i dX8_setGrowth_38 rfl rfl h
  · replace h := h.2 c4
    refine wp_iload_n dX8_setGrowth_10 rfl ?_
    refine wp_bipush dX8_setGrowth_11 (by decide) ?_
    refine wp_sipush dX8_setGrowth_13 (by decide) ?_
    obtain ⟨v9, hm8, h⟩ := h
    refine wp_callS (M' := M_X8_in) (As := [vi a2, vi 50, vi 250]) (st := [vr a0]) dX8_setGrowth_16 cee_X8_in np_X8_in rfl ⟨Nat.le_of_ble_eq_true rfl, Nat.le_of_ble_eq_true rfl, Nat.le_of_ble_eq_true rfl, Nat.le_of_ble_eq_true rfl⟩ wd_1344 wd_1345 (q_small_of (Nat.le_of_ble_eq_true rfl)) hm8 (q_kPi ?_) q_kPi0
    refine wp_less (ac2 := 0) (as2 := 0) (Nat.le_of_ble_eq_true rfl) (Nat.le_of_ble_eq_true rfl) ?_
    obtain ⟨h, hk15⟩ := h
    have key14 : ∀ v12 : Int, v12 = (if v9 = 0 then 1 else 0) → qW g l M_X8_setGrowth 0 0 27 [some (vr a0), some (vi a1), some (vi a2)] [vi v12, vr a0] σ Post := by
      intro v12 hv13
      have h := hk15 v12 hv13
      have hr16 : qR v12 := by (rw [hv13]; unfold qR; repeat' split) <;> omega
      have hz17 : v12 = 0 ∨ v12 = 1 := by (rw [hv13]; repeat' split) <;> first | exact Or.inl rfl | exact Or.inr rfl
      obtain ⟨hk18, h⟩ := h
      refine wp_put (v := vi v12) dX8_setGrowth_27 fs_RX8_108 (fun h => absurd h (by decide)) hk18 (Or.inl rfl) ?_
      refine wp_nmS (fun σ19 hs20 => ?_)
      replace h := h σ19 hs20
      refine wp_aload_n dX8_setGrowth_30 rfl ?_
      refine wp_get (v := vi v12) dX8_setGrowth_31 fl_RX8_108 (by rw [hs20]; exact hk18) (by rw [hs20]; exact q_memI) ?_
      refine wp_if_le (tgt := 39) dX8_setGrowth_34 (by decide) hr16 (fun c21 => ?_) (fun c21 => ?_)
      · replace h := h.1 c21
        refine wp_aload_n dX8_setGrowth_39 rfl ?_
        obtain ⟨Mid23, hm22, hk25⟩ := h
        refine wp_callV (M' := M_X8_keeps) (As := []) (st := []) (ci := 8) dX8_setGrowth_40 cee_X8_keeps np_X8_keeps rfl ⟨Nat.le_of_ble_eq_true rfl, Nat.le_of_ble_eq_true rfl, Nat.le_of_ble_eq_true rfl, Nat.le_of_ble_eq_true rfl⟩ wd_1351 wd_1353 sel_X8_keeps rfl (Or.inl (by rw [hs20]; exact hk18)) (q_small_of (Nat.le_of_ble_eq_true rfl)) hm22 (q_kTv0 (fun σ27 hM28 => ?_)) q_kTv00
        refine wp_less (ac2 := 0) (as2 := 0) (Nat.le_of_ble_eq_true rfl) (Nat.le_of_ble_eq_true rfl) ?_
        have h := hk25 σ27 hM28
        refine wp_aload_n dX8_setGrowth_43 rfl ?_
        obtain ⟨hk29, h⟩ := h
        refine wp_get (v := vr (gP σ27 328 a0)) dX8_setGrowth_44 fl_RX8_23 hk29 rfl ?_
        refine wp_iload_n dX8_setGrowth_47 rfl ?_
        refine wp_iload_n dX8_setGrowth_48 rfl ?_
        obtain ⟨hk30, hi31, h⟩ := h
        refine wp_iastore dX8_setGrowth_49 hk30 hi31 ?_
        refine wp_nmS (fun σ32 hs33 => ?_)
        replace h := h σ32 hs33
        refine wp_aload_n dX8_setGrowth_50 rfl ?_
        refine wp_aload_n dX8_setGrowth_51 rfl ?_
        obtain ⟨Mid35, hm34, hk37⟩ := h
        refine wp_callV (M' := M_X8_stays) (As := []) (st := [vr a0]) (ci := 8) dX8_setGrowth_52 cee_X8_stays np_X8_stays rfl ⟨Nat.le_of_ble_eq_true rfl, Nat.le_of_ble_eq_true rfl, Nat.le_of_ble_eq_true rfl, Nat.le_of_ble_eq_true rfl⟩ wd_1361 wd_1363 sel_X8_stays rfl (Or.inl (by rw [hs33]; exact hk29)) (q_small_of (Nat.le_of_ble_eq_true rfl)) hm34 (q_kTi0 (fun σ39 v41 hM40 => ?_)) q_kTi00
        refine wp_less (ac2 := 0) (as2 := 0) (Nat.le_of_ble_eq_true rfl) (Nat.le_of_ble_eq_true rfl) ?_
        have h := hk37 σ39 v41 hM40
        obtain ⟨h, hk47⟩ := h
        have key46 : ∀ v44 : Int, v44 = (if v41 = 0 then 2 else 0) → qW g l M_X8_setGrowth 0 0 63 [some (vr a0), some (vi a1), some (vi a2)] [vi v44, vr a0] σ39 Post := by
          intro v44 hv45
          have h := hk47 v44 hv45
          have hr48 : qR v44 := by (rw [hv45]; unfold qR; repeat' split) <;> omega
          obtain ⟨hk49, h⟩ := h
          refine wp_put (v := vi v44) dX8_setGrowth_63 fs_RX8_108 (fun h => absurd h (by decide)) hk49 (Or.inl rfl) ?_
          refine wp_nmS (fun σ50 hs51 => ?_)
          replace h := h σ50 hs51
          refine wp_aload_n dX8_setGrowth_66 rfl ?_
          refine wp_get (v := vi v44) dX8_setGrowth_67 fl_RX8_108 (by rw [hs51]; exact hk49) (by rw [hs51]; exact q_memI) ?_
          refine wp_if_le (tgt := 77) dX8_setGrowth_70 (by decide) hr48 (fun c52 => ?_) (fun c52 => ?_)
          · replace h := h.1 c52
            refine wp_aload_n dX8_setGrowth_77 rfl ?_
            refine wp_iconst dX8_setGrowth_78 ?_
            obtain ⟨v54, hm53, h⟩ := h
            refine wp_callV (M' := M_X8_changed) (As := [vi ((-1))]) (st := []) (ci := 8) dX8_setGrowth_79 cee_X8_changed np_X8_changed rfl ⟨Nat.le_of_ble_eq_true rfl, Nat.le_of_ble_eq_true rfl, Nat.le_of_ble_eq_true rfl, Nat.le_of_ble_eq_true rfl⟩ wd_1423 wd_1425 sel_X8_changed rfl (Or.inl (by rw [hs51]; exact hk49)) (q_small_of (Nat.le_of_ble_eq_true rfl)) hm53 (q_kPi ?_) q_kPi0
            refine wp_less (ac2 := 0) (as2 := 0) (Nat.le_of_ble_eq_true rfl) (Nat.le_of_ble_eq_true rfl) ?_
            exact wp_ret_i dX8_setGrowth_82 rfl rfl h
          · replace h := h.2 c52
            refine wp_iconst dX8_setGrowth_73 ?_
            refine wp_goto (tgt := 82) dX8_setGrowth_74 (by decide) ?_
            exact wp_ret_i dX8_setGrowth_82 rfl rfl h
        have hr55 := h
        refine wp_if_eq (tgt := 62) dX8_setGrowth_55 (by decide) hr55 (fun c56 => ?_) (fun c56 => ?_)
        · refine wp_iconst dX8_setGrowth_62 ?_
          exact key46 _ (by rw [if_pos c56])
        · refine wp_iconst dX8_setGrowth_58 ?_
          refine wp_goto (tgt := 63) dX8_setGrowth_59 (by decide) ?_
          exact key46 _ (by rw [if_neg c56])
      · replace h := h.2 c21
        refine wp_iconst dX8_setGrowth_37 ?_
        exact wp_ret_i dX8_setGrowth_38 rfl rfl h
    have hr57 := h
    refine wp_if_eq (tgt := 26) dX8_setGrowth_19 (by decide) hr57 (fun c58 => ?_) (fun c58 => ?_)
    · refine wp_iconst dX8_setGrowth_26 ?_
      exact key14 _ (by rw [if_pos c58])
    · refine wp_iconst dX8_setGrowth_22 ?_
      refine wp_goto (tgt := 27) dX8_setGrowth_23 (by decide) ?_
      exact key14 _ (by rw [if_neg c58])

set_option maxRecDepth 100000 in
set_option maxHeartbeats 4000000 in
theorem wm_X8_pages {g : qG} {l : Launch} (hl : l.stackTraces = false) {a0 : Nat} {σ : qS} {Post : qS → qRs → Prop}
    (h : gK σ a0 = 9 ∧ (∀ σ2 : qS, σ2 = sI σ 320 a0 0 → Post σ2 (.inl (some (vi (gI σ2 321 a0)))))) : qMet g l M_X8_pages [vr a0] σ Post := by
  refine qMet_of hl (by decide +kernel) (Nat.le_of_ble_eq_true rfl) (List.forall_mem_cons.mpr ⟨trivial, fun _ h => nomatch h⟩) ?_
  show qW g l M_X8_pages 0 0 0 [some (vr a0)] [] σ Post
  refine wp_aload_n dX8_pages_0 rfl ?_
  refine wp_iconst dX8_pages_1 ?_
  obtain ⟨hk1, h⟩ := h
  refine wp_put (v := vi 0) dX8_pages_2 fs_RX8_108 (fun h => absurd h (by decide)) hk1 (Or.inl rfl) ?_
  refine wp_nmS (fun σ2 hs3 => ?_)
  replace h := h σ2 hs3
  refine wp_aload_n dX8_pages_5 rfl ?_
  refine wp_get (v := vi (gI σ2 321 a0)) dX8_pages_6 fl_RX8_111 (by rw [hs3]; exact hk1) rfl ?_
  exact wp_ret_i dX8_pages_9 rfl rfl h

set_option maxRecDepth 100000 in
set_option maxHeartbeats 4000000 in
theorem wm_X8_rows {g : qG} {l : Launch} (hl : l.stackTraces = false) {a0 : Nat} {a1 : Int} {σ : qS} {Post : qS → qRs → Prop}
    (h : gK σ a0 = 9 ∧ (∀ σ2 : qS, σ2 = sI σ 320 a0 0 → (∃ v5 : Int, qMet g l M_X8_isPage [vr a0, vi a1] σ2 (qPi σ2 v5) ∧ (qR v5 ∧ ((v5 = 0 → (∃ Mid9 : qS → Int → Prop, qMet g l M_X8_fails [vr a0, vi 1] σ2 (qTi0 Mid9) ∧ ∀ (σ13 : qS) (v15 : Int), Mid9 σ13 v15 → Post σ13 (.inl (some (vi v15))))) ∧ (¬ (v5 = 0) → q_isA σ2 0 (gP σ2 343 a0) ∧ q_in σ2 (gP σ2 343 a0) a1 ∧ Post σ2 (.inl (some (vi (gA σ2 (gP σ2 343 a0) a1)))))))))) : qMet g l M_X8_rows [vr a0, vi a1] σ Post := by
  refine qMet_of hl (by decide +kernel) (Nat.le_of_ble_eq_true rfl) (List.forall_mem_cons.mpr ⟨trivial, List.forall_mem_cons.mpr ⟨trivial, fun _ h => nomatch h⟩⟩) ?_
  show qW g l M_X8_rows 0 0 0 [some (vr a0), some (vi a1)] [] σ Post
  refine wp_aload_n dX8_rows_0 rfl ?_
  refine wp_iconst dX8_rows_1 ?_
  obtain ⟨hk1, h⟩ := h
  refine wp_put (v := vi 0) dX8_rows_2 fs_RX8_108 (fun h => absurd h (by decide)) hk1 (Or.inl rfl) ?_
  refine wp_nmS (fun σ2 hs3 => ?_)
  replace h := h σ2 hs3
  refine wp_aload_n dX8_rows_5 rfl ?_
  refine wp_iload_n dX8_rows_6 rfl ?_
  obtain ⟨v5, hm4, h⟩ := h
  refine wp_callV (M' := M_X8_isPage) (As := [vi a1]) (st := []) (ci := 8) dX8_rows_7 cee_X8_isPage np_X8_isPage rfl ⟨Nat.le_of_ble_eq_true rfl, Nat.le_of_ble_eq_true rfl, Nat.le_of_ble_eq_true rfl, Nat.le_of_ble_eq_true rfl⟩ wd_1340 wd_1342 sel_X8_isPage rfl (Or.inl (by rw [hs3]; exact hk1)) (q_small_of (Nat.le_of_ble_eq_true rfl)) hm4 (q_kPi ?_) q_kPi0
  refine wp_less (ac2 := 0) (as2 := 0) (Nat.le_of_ble_eq_true rfl) (Nat.le_of_ble_eq_true rfl) ?_
  obtain ⟨hr6, h⟩ := h
  refine wp_if_eq (tgt := 22) dX8_rows_10 (by decide) hr6 (fun c7 => ?_) (fun c7 => ?_)
  · replace h := h.1 c7
    refine wp_aload_n dX8_rows_22 rfl ?_
    refine wp_iconst dX8_rows_23 ?_
    obtain ⟨Mid9, hm8, hk11⟩ := h
    refine wp_callV (M' := M_X8_fails) (As := [vi 1]) (st := []) (ci := 8) dX8_rows_24 cee_X8_fails np_X8_fails rfl ⟨Nat.le_of_ble_eq_true rfl, Nat.le_of_ble_eq_true rfl, Nat.le_of_ble_eq_true rfl, Nat.le_of_ble_eq_true rfl⟩ wd_1347 wd_1349 sel_X8_fails rfl (Or.inl (by rw [hs3]; exact hk1)) (q_small_of (Nat.le_of_ble_eq_true rfl)) hm8 (q_kTi0 (fun σ13 v15 hM14 => ?_)) q_kTi00
    refine wp_less (ac2 := 0) (as2 := 0) (Nat.le_of_ble_eq_true rfl) (Nat.le_of_ble_eq_true rfl) ?_
    have h := hk11 σ13 v15 hM14
    exact wp_ret_i dX8_rows_27 rfl rfl h
  · replace h := h.2 c7
    refine wp_aload_n dX8_rows_13 rfl ?_
    refine wp_get (v := vr (gP σ2 343 a0)) dX8_rows_14 fl_RX8_68 (by rw [hs3]; exact hk1) rfl ?_
    refine wp_iload_n dX8_rows_17 rfl ?_
    obtain ⟨ha16, hi17, h⟩ := h
    refine wp_iaload dX8_rows_18 ha16 hi17 ?_
    refine wp_goto (tgt := 27) dX8_rows_19 (by decide) ?_
    exact wp_ret_i dX8_rows_27 rfl rfl h

set_option maxRecDepth 100000 in
set_option maxHeartbeats 4000000 in
theorem wm_X8_panels {g : qG} {l : Launch} (hl : l.stackTraces = false) {a0 : Nat} {a1 : Int} {σ : qS} {Post : qS → qRs → Prop}
    (h : gK σ a0 = 9 ∧ (∀ σ2 : qS, σ2 = sI σ 320 a0 0 → (∃ v5 : Int, qMet g l M_X8_isPage [vr a0, vi a1] σ2 (qPi σ2 v5) ∧ (qR v5 ∧ ((v5 = 0 → (∃ Mid9 : qS → Int → Prop, qMet g l M_X8_fails [vr a0, vi 1] σ2 (qTi0 Mid9) ∧ ∀ (σ13 : qS) (v15 : Int), Mid9 σ13 v15 → Post σ13 (.inl (some (vi v15))))) ∧ (¬ (v5 = 0) → q_isA σ2 0 (gP σ2 325 a0) ∧ q_in σ2 (gP σ2 325 a0) a1 ∧ Post σ2 (.inl (some (vi (gA σ2 (gP σ2 325 a0) a1)))))))))) : qMet g l M_X8_panels [vr a0, vi a1] σ Post := by
  refine qMet_of hl (by decide +kernel) (Nat.le_of_ble_eq_true rfl) (List.forall_mem_cons.mpr ⟨trivial, List.forall_mem_cons.mpr ⟨trivial, fun _ h => nomatch h⟩⟩) ?_
  show qW g l M_X8_panels 0 0 0 [some (vr a0), some (vi a1)] [] σ Post
  refine wp_aload_n dX8_panels_0 rfl ?_
  refine wp_iconst dX8_panels_1 ?_
  obtain ⟨hk1, h⟩ := h
  refine wp_put (v := vi 0) dX8_panels_2 fs_RX8_108 (fun h => absurd h (by decide)) hk1 (Or.inl rfl) ?_
  refine wp_nmS (fun σ2 hs3 => ?_)
  replace h := h σ2 hs3
  refine wp_aload_n dX8_panels_5 rfl ?_
  refine wp_iload_n dX8_panels_6 rfl ?_
  obtain ⟨v5, hm4, h⟩ := h
  refine wp_callV (M' := M_X8_isPage) (As := [vi a1]) (st := []) (ci := 8) dX8_panels_7 cee_X8_isPage np_X8_isPage rfl ⟨Nat.le_of_ble_eq_true rfl, Nat.le_of_ble_eq_true rfl, Nat.le_of_ble_eq_true rfl, Nat.le_of_ble_eq_true rfl⟩ wd_1340 wd_1342 sel_X8_isPage rfl (Or.inl (by rw [hs3]; exact hk1)) (q_small_of (Nat.le_of_ble_eq_true rfl)) hm4 (q_kPi ?_) q_kPi0
  refine wp_less (ac2 := 0) (as2 := 0) (Nat.le_of_ble_eq_true rfl) (Nat.le_of_ble_eq_true rfl) ?_
  obtain ⟨hr6, h⟩ := h
  refine wp_if_eq (tgt := 22) dX8_panels_10 (by decide) hr6 (fun c7 => ?_) (fun c7 => ?_)
  · replace h := h.1 c7
    refine wp_aload_n dX8_panels_22 rfl ?_
    refine wp_iconst dX8_panels_23 ?_
    obtain ⟨Mid9, hm8, hk11⟩ := h
    refine wp_callV (M' := M_X8_fails) (As := [vi 1]) (st := []) (ci := 8) dX8_panels_24 cee_X8_fails np_X8_fails rfl ⟨Nat.le_of_ble_eq_true rfl, Nat.le_of_ble_eq_true rfl, Nat.le_of_ble_eq_true rfl, Nat.le_of_ble_eq_true rfl⟩ wd_1347 wd_1349 sel_X8_fails rfl (Or.inl (by rw [hs3]; exact hk1)) (q_small_of (Nat.le_of_ble_eq_true rfl)) hm8 (q_kTi0 (fun σ13 v15 hM14 => ?_)) q_kTi00
    refine wp_less (ac2 := 0) (as2 := 0) (Nat.le_of_ble_eq_true rfl) (Nat.le_of_ble_eq_true rfl) ?_
    have h := hk11 σ13 v15 hM14
    exact wp_ret_i dX8_panels_27 rfl rfl h
  · replace h := h.2 c7
    refine wp_aload_n dX8_panels_13 rfl ?_
    refine wp_get (v := vr (gP σ2 325 a0)) dX8_panels_14 fl_RX8_13 (by rw [hs3]; exact hk1) rfl ?_
    refine wp_iload_n dX8_panels_17 rfl ?_
    obtain ⟨ha16, hi17, h⟩ := h
    refine wp_iaload dX8_panels_18 ha16 hi17 ?_
    refine wp_goto (tgt := 27) dX8_panels_19 (by decide) ?_
    exact wp_ret_i dX8_panels_27 rfl rfl h

set_option maxRecDepth 100000 in
set_option maxHeartbeats 4000000 in
theorem wm_X8_panelAt {g : qG} {l : Launch} (hl : l.stackTraces = false) {a0 : Nat} {a1 : Int} {a2 : Int} {σ : qS} {Post : qS → qRs → Prop}
    (h : gK σ a0 = 9 ∧ (∀ σ2 : qS, σ2 = sI σ 320 a0 0 → (∃ v5 : Int, qMet g l M_X8_isPage [vr a0, vi a1] σ2 (qPi σ2 v5) ∧ (qR v5 ∧ ((v5 = 0 → (∃ Mid9 : qS → Int → Prop, qMet g l M_X8_fails [vr a0, vi 1] σ2 (qTi0 Mid9) ∧ ∀ (σ13 : qS) (v15 : Int), Mid9 σ13 v15 → Post σ13 (.inl (some (vi v15))))) ∧ (¬ (v5 = 0) → q_isA σ2 0 (gP σ2 325 a0) ∧ q_in σ2 (gP σ2 325 a0) a1 ∧ (∃ v19 : Int, qMet g l M_X8_in [vi a2, vi 0, vi ((gA σ2 (gP σ2 325 a0) a1) - 1)] σ2 (qPi σ2 v19) ∧ (qR v19 ∧ ((v19 = 0 → (∃ Mid23 : qS → Int → Prop, qMet g l M_X8_fails [vr a0, vi 1] σ2 (qTi0 Mid23) ∧ ∀ (σ27 : qS) (v29 : Int), Mid23 σ27 v29 → Post σ27 (.inl (some (vi v29))))) ∧ (¬ (v19 = 0) → q_isA σ2 0 (gP σ2 326 a0) ∧ q_in σ2 (gP σ2 326 a0) ((8 * a1) + a2) ∧ Post σ2 (.inl (some (vi (gA σ2 (gP σ2 326 a0) ((8 * a1) + a2))))))))))))))) : qMet g l M_X8_panelAt [vr a0, vi a1, vi a2] σ Post := by
  refine qMet_of hl (by decide +kernel) (Nat.le_of_ble_eq_true rfl) (List.forall_mem_cons.mpr ⟨trivial, List.forall_mem_cons.mpr ⟨trivial, List.forall_mem_cons.mpr ⟨trivial, fun _ h => nomatch h⟩⟩⟩) ?_
  show qW g l M_X8_panelAt 0 0 0 [some (vr a0), some (vi a1), some (vi a2)] [] σ Post
  refine wp_aload_n dX8_panelAt_0 rfl ?_
  refine wp_iconst dX8_panelAt_1 ?_
  obtain ⟨hk1, h⟩ := h
  refine wp_put (v := vi 0) dX8_panelAt_2 fs_RX8_108 (fun h => absurd h (by decide)) hk1 (Or.inl rfl) ?_
  refine wp_nmS (fun σ2 hs3 => ?_)
  replace h := h σ2 hs3
  refine wp_aload_n dX8_panelAt_5 rfl ?_
  refine wp_iload_n dX8_panelAt_6 rfl ?_
  obtain ⟨v5, hm4, h⟩ := h
  refine wp_callV (M' := M_X8_isPage) (As := [vi a1]) (st := []) (ci := 8) dX8_panelAt_7 cee_X8_isPage np_X8_isPage rfl ⟨Nat.le_of_ble_eq_true rfl, Nat.le_of_ble_eq_true rfl, Nat.le_of_ble_eq_true rfl, Nat.le_of_ble_eq_true rfl⟩ wd_1340 wd_1342 sel_X8_isPage rfl (Or.inl (by rw [hs3]; exact hk1)) (q_small_of (Nat.le_of_ble_eq_true rfl)) hm4 (q_kPi ?_) q_kPi0
  refine wp_less (ac2 := 0) (as2 := 0) (Nat.le_of_ble_eq_true rfl) (Nat.le_of_ble_eq_true rfl) ?_
  obtain ⟨hr6, h⟩ := h
  refine wp_if_eq (tgt := 43) dX8_panelAt_10 (by decide) hr6 (fun c7 => ?_) (fun c7 => ?_)
  · replace h := h.1 c7
    refine wp_aload_n dX8_panelAt_43 rfl ?_
    refine wp_iconst dX8_panelAt_44 ?_
    obtain ⟨Mid9, hm8, hk11⟩ := h
    refine wp_callV (M' := M_X8_fails) (As := [vi 1]) (st := []) (ci := 8) dX8_panelAt_45 cee_X8_fails np_X8_fails rfl ⟨Nat.le_of_ble_eq_true rfl, Nat.le_of_ble_eq_true rfl, Nat.le_of_ble_eq_true rfl, Nat.le_of_ble_eq_true rfl⟩ wd_1347 wd_1349 sel_X8_fails rfl (Or.inl (by rw [hs3]; exact hk1)) (q_small_of (Nat.le_of_ble_eq_true rfl)) hm8 (q_kTi0 (fun σ13 v15 hM14 => ?_)) q_kTi00
    refine wp_less (ac2 := 0) (as2 := 0) (Nat.le_of_ble_eq_true rfl) (Nat.le_of_ble_eq_true rfl) ?_
    have h := hk11 σ13 v15 hM14
    exact wp_ret_i dX8_panelAt_48 rfl rfl h
  · replace h := h.2 c7
    refine wp_iload_n dX8_panelAt_13 rfl ?_
    refine wp_iconst dX8_panelAt_14 ?_
    refine wp_aload_n dX8_panelAt_15 rfl ?_
    refine wp_get (v := vr (gP σ2 325 a0)) dX8_panelAt_16 fl_RX8_13 (by rw [hs3]; exact hk1) rfl ?_
    refine wp_iload_n dX8_panelAt_19 rfl ?_
    obtain ⟨ha16, hi17, h⟩ := h
    refine wp_iaload dX8_panelAt_20 ha16 hi17 ?_
    refine wp_iconst dX8_panelAt_21 ?_
    refine wp_isub dX8_panelAt_22 ?_
    obtain ⟨v19, hm18, h⟩ := h
    refine wp_callS (M' := M_X8_in) (As := [vi a2, vi 0, vi ((gA σ2 (gP σ2 325 a0) a1) - 1)]) (st := []) dX8_panelAt_23 cee_X8_in np_X8_in rfl ⟨Nat.le_of_ble_eq_true rfl, Nat.le_of_ble_eq_true rfl, Nat.le_of_ble_eq_true rfl, Nat.le_of_ble_eq_true rfl⟩ wd_1344 wd_1345 (q_small_of (Nat.le_of_ble_eq_true rfl)) hm18 (q_kPi ?_) q_kPi0
    refine wp_less (ac2 := 0) (as2 := 0) (Nat.le_of_ble_eq_true rfl) (Nat.le_of_ble_eq_true rfl) ?_
    obtain ⟨hr20, h⟩ := h
    refine wp_if_eq (tgt := 43) dX8_panelAt_26 (by decide) hr20 (fun c21 => ?_) (fun c21 => ?_)
    · replace h := h.1 c21
      refine wp_aload_n dX8_panelAt_43 rfl ?_
      refine wp_iconst dX8_panelAt_44 ?_
      obtain ⟨Mid23, hm22, hk25⟩ := h
      refine wp_callV (M' := M_X8_fails) (As := [vi 1]) (st := []) (ci := 8) dX8_panelAt_45 cee_X8_fails np_X8_fails rfl ⟨Nat.le_of_ble_eq_true rfl, Nat.le_of_ble_eq_true rfl, Nat.le_of_ble_eq_true rfl, Nat.le_of_ble_eq_true rfl⟩ wd_1347 wd_1349 sel_X8_fails rfl (Or.inl (by rw [hs3]; exact hk1)) (q_small_of (Nat.le_of_ble_eq_true rfl)) hm22 (q_kTi0 (fun σ27 v29 hM28 => ?_)) q_kTi00
      refine wp_less (ac2 := 0) (as2 := 0) (Nat.le_of_ble_eq_true rfl) (Nat.le_of_ble_eq_true rfl) ?_
      have h := hk25 σ27 v29 hM28
      exact wp_ret_i dX8_panelAt_48 rfl rfl h
    · replace h := h.2 c21
      refine wp_aload_n dX8_panelAt_29 rfl ?_
      refine wp_get (v := vr (gP σ2 326 a0)) dX8_panelAt_30 fl_RX8_16 (by rw [hs3]; exact hk1) rfl ?_
      refine wp_bipush dX8_panelAt_33 (by decide) ?_
      refine wp_iload_n dX8_panelAt_35 rfl ?_
      refine wp_imul dX8_panelAt_36 ?_
      refine wp_iload_n dX8_panelAt_37 rfl ?_
      refine wp_iadd dX8_panelAt_38 ?_
      obtain ⟨ha30, hi31, h⟩ := h
      refine wp_iaload dX8_panelAt_39 ha30 hi31 ?_
      refine wp_goto (tgt := 48) dX8_panelAt_40 (by decide) ?_
      exact wp_ret_i dX8_panelAt_48 rfl rfl h

set_option maxRecDepth 100000 in
set_option maxHeartbeats 4000000 in
theorem wm_X8_lies {g : qG} {l : Launch} (hl : l.stackTraces = false) {a0 : Nat} {a1 : Int} {a2 : Int} {σ : qS} {Post : qS → qRs → Prop}
    (h : gK σ a0 = 9 ∧ (∃ v3 : Int, qMet g l M_X8_isPanel [vr a0, vi a1] σ (qPi σ v3) ∧ (qR v3 ∧ ((¬ v3 = 0 → (∃ v7 : Int, qMet g l M_X8_in [vi a2, vi 0, vi 4] σ (qPi σ v7) ∧ (((qR v7) ∧ ∀ v10 : Int, v10 = (if v7 = 0 then 2 else 0) → (∀ σ15 : qS, σ15 = sI σ 320 a0 v10 → (((v10 ≤ 0 → q_isA σ15 0 (gP σ15 340 a0) ∧ q_in σ15 (gP σ15 340 a0) ((5 * a1) + a2))) ∧ ∀ v20 : Int, v20 = (if v10 ≤ 0 then (gA σ15 (gP σ15 340 a0) ((5 * a1) + a2)) else 0) → Post σ15 (.inl (some (vi v20))))))))) ∧ (v3 = 0 → (∀ σ29 : qS, σ29 = sI σ 320 a0 1 → Post σ29 (.inl (some (vi 0))))))))) : qMet g l M_X8_lies [vr a0, vi a1, vi a2] σ Post := by
  refine qMet_of hl (by decide +kernel) (Nat.le_of_ble_eq_true rfl) (List.forall_mem_cons.mpr ⟨trivial, List.forall_mem_cons.mpr ⟨trivial, List.forall_mem_cons.mpr ⟨trivial, fun _ h => nomatch h⟩⟩⟩) ?_
  show qW g l M_X8_lies 0 0 0 [some (vr a0), some (vi a1), some (vi a2)] [] σ Post
  refine wp_aload_n dX8_lies_0 rfl ?_
  refine wp_aload_n dX8_lies_1 rfl ?_
  refine wp_iload_n dX8_lies_2 rfl ?_
  obtain ⟨hk2, h⟩ := h
  obtain ⟨v3, hm1, h⟩ := h
  refine wp_callV (M' := M_X8_isPanel) (As := [vi a1]) (st := [vr a0]) (ci := 8) dX8_lies_3 cee_X8_isPanel np_X8_isPanel rfl ⟨Nat.le_of_ble_eq_true rfl, Nat.le_of_ble_eq_true rfl, Nat.le_of_ble_eq_true rfl, Nat.le_of_ble_eq_true rfl⟩ wd_1416 wd_1418 sel_X8_isPanel rfl (Or.inl hk2) (q_small_of (Nat.le_of_ble_eq_true rfl)) hm1 (q_kPi ?_) q_kPi0
  refine wp_less (ac2 := 0) (as2 := 0) (Nat.le_of_ble_eq_true rfl) (Nat.le_of_ble_eq_true rfl) ?_
  obtain ⟨hr4, h⟩ := h
  refine wp_if_ne (tgt := 13) dX8_lies_6 (by decide) hr4 (fun c5 => ?_) (fun c5 => ?_)
  · replace h := h.1 c5
    refine wp_iload_n dX8_lies_13 rfl ?_
    refine wp_iconst dX8_lies_14 ?_
    refine wp_iconst dX8_lies_15 ?_
    obtain ⟨v7, hm6, h⟩ := h
    refine wp_callS (M' := M_X8_in) (As := [vi a2, vi 0, vi 4]) (st := [vr a0]) dX8_lies_16 cee_X8_in np_X8_in rfl ⟨Nat.le_of_ble_eq_true rfl, Nat.le_of_ble_eq_true rfl, Nat.le_of_ble_eq_true rfl, Nat.le_of_ble_eq_true rfl⟩ wd_1344 wd_1345 (q_small_of (Nat.le_of_ble_eq_true rfl)) hm6 (q_kPi ?_) q_kPi0
    refine wp_less (ac2 := 0) (as2 := 0) (Nat.le_of_ble_eq_true rfl) (Nat.le_of_ble_eq_true rfl) ?_
    obtain ⟨h, hk13⟩ := h
    have key12 : ∀ v10 : Int, v10 = (if v7 = 0 then 2 else 0) → qW g l M_X8_lies 0 0 27 [some (vr a0), some (vi a1), some (vi a2)] [vi v10, vr a0] σ Post := by
      intro v10 hv11
      have h := hk13 v10 hv11
      have hr14 : qR v10 := by (rw [hv11]; unfold qR; repeat' split) <;> omega
      refine wp_put (v := vi v10) dX8_lies_27 fs_RX8_108 (fun h => absurd h (by decide)) hk2 (Or.inl rfl) ?_
      refine wp_nmS (fun σ15 hs16 => ?_)
      replace h := h σ15 hs16
      refine wp_aload_n dX8_lies_30 rfl ?_
      refine wp_get (v := vi v10) dX8_lies_31 fl_RX8_108 (by rw [hs16]; exact hk2) (by rw [hs16]; exact q_memI) ?_
      obtain ⟨h, hk23⟩ := h
      have key22 : ∀ v20 : Int, v20 = (if v10 ≤ 0 then (gA σ15 (gP σ15 340 a0) ((5 * a1) + a2)) else 0) → qW g l M_X8_lies 0 0 51 [some (vr a0), some (vi a1), some (vi a2)] [vi v20] σ15 Post := by
        intro v20 hv21
        have h := hk23 v20 hv21
        exact wp_ret_i dX8_lies_51 rfl rfl h
      refine wp_if_le (tgt := 41) dX8_lies_34 (by decide) hr14 (fun c24 => ?_) (fun c24 => ?_)
      · replace h := h c24
        refine wp_aload_n dX8_lies_41 rfl ?_
        refine wp_get (v := vr (gP σ15 340 a0)) dX8_lies_42 fl_RX8_59 (by rw [hs16]; exact hk2) rfl ?_
        refine wp_iconst dX8_lies_45 ?_
        refine wp_iload_n dX8_lies_46 rfl ?_
        refine wp_imul dX8_lies_47 ?_
        refine wp_iload_n dX8_lies_48 rfl ?_
        refine wp_iadd dX8_lies_49 ?_
        obtain ⟨ha25, hi26⟩ := h
        refine wp_iaload dX8_lies_50 ha25 hi26 ?_
        exact key22 _ (by rw [if_pos c24])
      · refine wp_iconst dX8_lies_37 ?_
        refine wp_goto (tgt := 51) dX8_lies_38 (by decide) ?_
        exact key22 _ (by rw [if_neg c24])
    have hr27 := h
    refine wp_if_eq (tgt := 26) dX8_lies_19 (by decide) hr27 (fun c28 => ?_) (fun c28 => ?_)
    · refine wp_iconst dX8_lies_26 ?_
      exact key12 _ (by rw [if_pos c28])
    · refine wp_iconst dX8_lies_22 ?_
      refine wp_goto (tgt := 27) dX8_lies_23 (by decide) ?_
      exact key12 _ (by rw [if_neg c28])
  · replace h := h.2 c5
    refine wp_iconst dX8_lies_9 ?_
    refine wp_goto (tgt := 27) dX8_lies_10 (by decide) ?_
    refine wp_put (v := vi 1) dX8_lies_27 fs_RX8_108 (fun h => absurd h (by decide)) hk2 (Or.inl rfl) ?_
    refine wp_nmS (fun σ29 hs30 => ?_)
    replace h := h σ29 hs30
    refine wp_aload_n dX8_lies_30 rfl ?_
    refine wp_get (v := vi 1) dX8_lies_31 fl_RX8_108 (by rw [hs30]; exact hk2) (by rw [hs30]; exact q_memI) ?_
    refine wp_if_le (tgt := 41) dX8_lies_34 (by decide) (by unfold qR; omega) (fun c9 => absurd c9 (by decide)) (fun _ => ?_)
    refine wp_iconst dX8_lies_37 ?_
    refine wp_goto (tgt := 51) dX8_lies_38 (by decide) ?_
    exact wp_ret_i dX8_lies_51 rfl rfl h

set_option maxRecDepth 100000 in
set_option maxHeartbeats 4000000 in
theorem wm_X8_floats {g : qG} {l : Launch} (hl : l.stackTraces = false) {a0 : Nat} {a1 : Int} {a2 : Int} {σ : qS} {Post : qS → qRs → Prop}
    (h : gK σ a0 = 9 ∧ (∃ v3 : Int, qMet g l M_X8_isBalloon [vr a0, vi a1] σ (qPi σ v3) ∧ (qR v3 ∧ ((¬ v3 = 0 → (∃ v7 : Int, qMet g l M_X8_in [vi a2, vi 0, vi 4] σ (qPi σ v7) ∧ (((qR v7) ∧ ∀ v10 : Int, v10 = (if v7 = 0 then 2 else 0) → (∀ σ15 : qS, σ15 = sI σ 320 a0 v10 → (((v10 ≤ 0 → qR a2 ∧ ((¬ a2 = 0 → q_isA σ15 0 (gP σ15 341 a0) ∧ q_in σ15 (gP σ15 341 a0) (((4 * a1) + a2) - 1)) ∧ (a2 = 0 → q_isA σ15 0 (gP σ15 337 a0) ∧ q_in σ15 (gP σ15 337 a0) a1)))) ∧ ∀ v24 : Int, v24 = (if v10 ≤ 0 then (if ¬ a2 = 0 then (gA σ15 (gP σ15 341 a0) (((4 * a1) + a2) - 1)) else (gA σ15 (gP σ15 337 a0) a1)) else 0) → Post σ15 (.inl (some (vi v24))))))))) ∧ (v3 = 0 → (∀ σ37 : qS, σ37 = sI σ 320 a0 1 → Post σ37 (.inl (some (vi 0))))))))) : qMet g l M_X8_floats [vr a0, vi a1, vi a2] σ Post := by
  refine qMet_of hl (by decide +kernel) (Nat.le_of_ble_eq_true rfl) (List.forall_mem_cons.mpr ⟨trivial, List.forall_mem_cons.mpr ⟨trivial, List.forall_mem_cons.mpr ⟨trivial, fun _ h => nomatch h⟩⟩⟩) ?_
  show qW g l M_X8_floats 0 0 0 [some (vr a0), some (vi a1), some (vi a2)] [] σ Post
  refine wp_aload_n dX8_floats_0 rfl ?_
  refine wp_aload_n dX8_floats_1 rfl ?_
  refine wp_iload_n dX8_floats_2 rfl ?_
  obtain ⟨hk2, h⟩ := h
  obtain ⟨v3, hm1, h⟩ := h
  refine wp_callV (M' := M_X8_isBalloon) (As := [vi a1]) (st := [vr a0]) (ci := 8) dX8_floats_3 cee_X8_isBalloon np_X8_isBalloon rfl ⟨Nat.le_of_ble_eq_true rfl, Nat.le_of_ble_eq_true rfl, Nat.le_of_ble_eq_true rfl, Nat.le_of_ble_eq_true rfl⟩ wd_1447 wd_1449 sel_X8_isBalloon rfl (Or.inl hk2) (q_small_of (Nat.le_of_ble_eq_true rfl)) hm1 (q_kPi ?_) q_kPi0
  refine wp_less (ac2 := 0) (as2 := 0) (Nat.le_of_ble_eq_true rfl) (Nat.le_of_ble_eq_true rfl) ?_
  obtain ⟨hr4, h⟩ := h
  refine wp_if_ne (tgt := 13) dX8_floats_6 (by decide) hr4 (fun c5 => ?_) (fun c5 => ?_)
  · replace h := h.1 c5
    refine wp_iload_n dX8_floats_13 rfl ?_
    refine wp_iconst dX8_floats_14 ?_
    refine wp_iconst dX8_floats_15 ?_
    obtain ⟨v7, hm6, h⟩ := h
    refine wp_callS (M' := M_X8_in) (As := [vi a2, vi 0, vi 4]) (st := [vr a0]) dX8_floats_16 cee_X8_in np_X8_in rfl ⟨Nat.le_of_ble_eq_true rfl, Nat.le_of_ble_eq_true rfl, Nat.le_of_ble_eq_true rfl, Nat.le_of_ble_eq_true rfl⟩ wd_1344 wd_1345 (q_small_of (Nat.le_of_ble_eq_true rfl)) hm6 (q_kPi ?_) q_kPi0
    refine wp_less (ac2 := 0) (as2 := 0) (Nat.le_of_ble_eq_true rfl) (Nat.le_of_ble_eq_true rfl) ?_
    obtain ⟨h, hk13⟩ := h
    have key12 : ∀ v10 : Int, v10 = (if v7 = 0 then 2 else 0) → qW g l M_X8_floats 0 0 27 [some (vr a0), some (vi a1), some (vi a2)] [vi v10, vr a0] σ Post := by
      intro v10 hv11
      have h := hk13 v10 hv11
      have hr14 : qR v10 := by (rw [hv11]; unfold qR; repeat' split) <;> omega
      refine wp_put (v := vi v10) dX8_floats_27 fs_RX8_108 (fun h => absurd h (by decide)) hk2 (Or.inl rfl) ?_
      refine wp_nmS (fun σ15 hs16 => ?_)
      replace h := h σ15 hs16
      refine wp_aload_n dX8_floats_30 rfl ?_
      refine wp_get (v := vi v10) dX8_floats_31 fl_RX8_108 (by rw [hs16]; exact hk2) (by rw [hs16]; exact q_memI) ?_
      obtain ⟨h, hk27⟩ := h
      have key26 : ∀ v24 : Int, v24 = (if v10 ≤ 0 then (if ¬ a2 = 0 then (gA σ15 (gP σ15 341 a0) (((4 * a1) + a2) - 1)) else (gA σ15 (gP σ15 337 a0) a1)) else 0) → qW g l M_X8_floats 0 0 66 [some (vr a0), some (vi a1), some (vi a2)] [vi v24] σ15 Post := by
        intro v24 hv25
        have h := hk27 v24 hv25
        exact wp_ret_i dX8_floats_66 rfl rfl h
      refine wp_if_le (tgt := 41) dX8_floats_34 (by decide) hr14 (fun c28 => ?_) (fun c28 => ?_)
      · replace h := h c28
        refine wp_iload_n dX8_floats_41 rfl ?_
        obtain ⟨hr29, h⟩ := h
        refine wp_if_ne (tgt := 54) dX8_floats_42 (by decide) hr29 (fun c30 => ?_) (fun c30 => ?_)
        · replace h := h.1 c30
          refine wp_aload_n dX8_floats_54 rfl ?_
          refine wp_get (v := vr (gP σ15 341 a0)) dX8_floats_55 fl_RX8_62 (by rw [hs16]; exact hk2) rfl ?_
          refine wp_iconst dX8_floats_58 ?_
          refine wp_iload_n dX8_floats_59 rfl ?_
          refine wp_imul dX8_floats_60 ?_
          refine wp_iload_n dX8_floats_61 rfl ?_
          refine wp_iadd dX8_floats_62 ?_
          refine wp_iconst dX8_floats_63 ?_
          refine wp_isub dX8_floats_64 ?_
          obtain ⟨ha31, hi32⟩ := h
          refine wp_iaload dX8_floats_65 ha31 hi32 ?_
          exact key26 _ (by rw [if_pos c28, if_pos c30])
        · replace h := h.2 c30
          refine wp_aload_n dX8_floats_45 rfl ?_
          refine wp_get (v := vr (gP σ15 337 a0)) dX8_floats_46 fl_RX8_50 (by rw [hs16]; exact hk2) rfl ?_
          refine wp_iload_n dX8_floats_49 rfl ?_
          obtain ⟨ha33, hi34⟩ := h
          refine wp_iaload dX8_floats_50 ha33 hi34 ?_
          refine wp_goto (tgt := 66) dX8_floats_51 (by decide) ?_
          exact key26 _ (by rw [if_pos c28, if_neg (fun z => z c30)])
      · refine wp_iconst dX8_floats_37 ?_
        refine wp_goto (tgt := 66) dX8_floats_38 (by decide) ?_
        exact key26 _ (by rw [if_neg c28])
    have hr35 := h
    refine wp_if_eq (tgt := 26) dX8_floats_19 (by decide) hr35 (fun c36 => ?_) (fun c36 => ?_)
    · refine wp_iconst dX8_floats_26 ?_
      exact key12 _ (by rw [if_pos c36])
    · refine wp_iconst dX8_floats_22 ?_
      refine wp_goto (tgt := 27) dX8_floats_23 (by decide) ?_
      exact key12 _ (by rw [if_neg c36])
  · replace h := h.2 c5
    refine wp_iconst dX8_floats_9 ?_
    refine wp_goto (tgt := 27) dX8_floats_10 (by decide) ?_
    refine wp_put (v := vi 1) dX8_floats_27 fs_RX8_108 (fun h => absurd h (by decide)) hk2 (Or.inl rfl) ?_
    refine wp_nmS (fun σ37 hs38 => ?_)
    replace h := h σ37 hs38
    refine wp_aload_n dX8_floats_30 rfl ?_
    refine wp_get (v := vi 1) dX8_floats_31 fl_RX8_108 (by rw [hs38]; exact hk2) (by rw [hs38]; exact q_memI) ?_
    refine wp_if_le (tgt := 41) dX8_floats_34 (by decide) (by unfold qR; omega) (fun c9 => absurd c9 (by decide)) (fun _ => ?_)
    refine wp_iconst dX8_floats_37 ?_
    refine wp_goto (tgt := 66) dX8_floats_38 (by decide) ?_
    exact wp_ret_i dX8_floats_66 rfl rfl h

set_option maxRecDepth 100000 in
set_option maxHeartbeats 4000000 in
theorem wm_X8_cell {g : qG} {l : Launch} (hl : l.stackTraces = false) {a0 : Nat} {a1 : Int} {a2 : Int} {a3 : Int} {σ : qS} {Post : qS → qRs → Prop}
    (h : gK σ a0 = 9 ∧ (∃ v3 : Int, qMet g l M_X8_isPanel [vr a0, vi a1] σ (qPi σ v3) ∧ (qR v3 ∧ ((v3 = 0 → (∀ σ6 : qS, σ6 = sI σ 320 a0 1 → Post σ6 (.inl (some (vi 0))))) ∧ (¬ (v3 = 0) → q_isA σ 0 (gP σ 340 a0) ∧ q_in σ (gP σ 340 a0) ((5 * a1) + 3) ∧ (∃ v11 : Int, qMet g l M_X8_in [vi a2, vi 0, vi ((gA σ (gP σ 340 a0) ((5 * a1) + 3)) - 1)] σ (qPi σ v11) ∧ (qR v11 ∧ ((v11 = 0 → (∀ σ14 : qS, σ14 = sI σ 320 a0 1 → Post σ14 (.inl (some (vi 0))))) ∧ (¬ (v11 = 0) → q_in σ (gP σ 340 a0) ((5 * a1) + 4) ∧ (∃ v18 : Int, qMet g l M_X8_in [vi a3, vi 0, vi ((gA σ (gP σ 340 a0) ((5 * a1) + 4)) - 1)] σ (qPi σ v18) ∧ (((qR v18) ∧ ∀ v21 : Int, v21 = (if v18 = 0 then 1 else 0) → (∀ σ27 : qS, σ27 = sI σ 320 a0 v21 → ((v21 ≤ 0 → q_isA σ27 0 (gP σ27 340 a0) ∧ q_in σ27 (gP σ27 340 a0) ((5 * a1) + 3) ∧ q_in σ27 (gP σ27 340 a0) ((5 * a1) + 4) ∧ (∃ Mid34 : qS → Int → Prop, qMet g l M_X8_places [vr a0, vi a1, vi (gA σ27 (gP σ27 340 a0) ((5 * a1) + 3)), vi (gA σ27 (gP σ27 340 a0) ((5 * a1) + 4))] σ27 (qTi0 Mid34) ∧ ∀ (σ38 : qS) (v40 : Int), Mid34 σ38 v40 → gK σ38 a0 = 9 ∧ q_isA σ38 0 (gP σ38 340 a0) ∧ q_in σ38 (gP σ38 340 a0) ((5 * a1) + 3) ∧ q_isA σ38 0 (gP σ38 342 a0) ∧ q_in σ38 (gP σ38 342 a0) (((gA σ38 (gP σ38 340 a0) ((5 * a1) + 3)) * a3) + a2) ∧ Post σ38 (.inl (some (vi (gA σ38 (gP σ38 342 a0) (((gA σ38 (gP σ38 340 a0) ((5 * a1) + 3)) * a3) + a2))))))) ∧ (¬ (v21 ≤ 0) → Post σ27 (.inl (some (vi 0)))))))))))))))))) : qMet g l M_X8_cell [vr a0, vi a1, vi a2, vi a3] σ Post := by
  refine qMet_of hl (by decide +kernel) (Nat.le_of_ble_eq_true rfl) (List.forall_mem_cons.mpr ⟨trivial, List.forall_mem_cons.mpr ⟨trivial, List.forall_mem_cons.mpr ⟨trivial, List.forall_mem_cons.mpr ⟨trivial, fun _ h => nomatch h⟩⟩⟩⟩) ?_
  show qW g l M_X8_cell 0 0 0 [some (vr a0), some (vi a1), some (vi a2), some (vi a3)] [] σ Post
  refine wp_aload_n dX8_cell_0 rfl ?_
  refine wp_aload_n dX8_cell_1 rfl ?_
  refine wp_iload_n dX8_cell_2 rfl ?_
  obtain ⟨hk2, h⟩ := h
  obtain ⟨v3, hm1, h⟩ := h
  refine wp_callV (M' := M_X8_isPanel) (As := [vi a1]) (st := [vr a0]) (ci := 8) dX8_cell_3 cee_X8_isPanel np_X8_isPanel rfl ⟨Nat.le_of_ble_eq_true rfl, Nat.le_of_ble_eq_true rfl, Nat.le_of_ble_eq_true rfl, Nat.le_of_ble_eq_true rfl⟩ wd_1416 wd_1418 sel_X8_isPanel rfl (Or.inl hk2) (q_small_of (Nat.le_of_ble_eq_true rfl)) hm1 (q_kPi ?_) q_kPi0
  refine wp_less (ac2 := 0) (as2 := 0) (Nat.le_of_ble_eq_true rfl) (Nat.le_of_ble_eq_true rfl) ?_
  obtain ⟨hr4, h⟩ := h
  refine wp_if_eq (tgt := 53) dX8_cell_6 (by decide) hr4 (fun c5 => ?_) (fun c5 => ?_)
  · replace h := h.1 c5
    refine wp_iconst dX8_cell_53 ?_
    refine wp_put (v := vi 1) dX8_cell_54 fs_RX8_108 (fun h => absurd h (by decide)) hk2 (Or.inl rfl) ?_
    refine wp_nmS (fun σ6 hs7 => ?_)
    replace h := h σ6 hs7
    refine wp_aload_n dX8_cell_57 rfl ?_
    refine wp_get (v := vi 1) dX8_cell_58 fl_RX8_108 (by rw [hs7]; exact hk2) (by rw [hs7]; exact q_memI) ?_
    refine wp_if_le (tgt := 66) dX8_cell_61 (by decide) (by unfold qR; omega) (fun c9 => absurd c9 (by decide)) (fun _ => ?_)
    refine wp_iconst dX8_cell_64 ?_
    exact wp_ret_i dX8_cell_65 rfl rfl h
  · replace h := h.2 c5
    refine wp_iload_n dX8_cell_9 rfl ?_
    refine wp_iconst dX8_cell_10 ?_
    refine wp_aload_n dX8_cell_11 rfl ?_
    refine wp_get (v := vr (gP σ 340 a0)) dX8_cell_12 fl_RX8_59 hk2 rfl ?_
    refine wp_iconst dX8_cell_15 ?_
    refine wp_iload_n dX8_cell_16 rfl ?_
    refine wp_imul dX8_cell_17 ?_
    refine wp_iconst dX8_cell_18 ?_
    refine wp_iadd dX8_cell_19 ?_
    obtain ⟨ha8, hi9, h⟩ := h
    refine wp_iaload dX8_cell_20 ha8 hi9 ?_
    refine wp_iconst dX8_cell_21 ?_
    refine wp_isub dX8_cell_22 ?_
    obtain ⟨v11, hm10, h⟩ := h
    refine wp_callS (M' := M_X8_in) (As := [vi a2, vi 0, vi ((gA σ (gP σ 340 a0) ((5 * a1) + 3)) - 1)]) (st := [vr a0]) dX8_cell_23 cee_X8_in np_X8_in rfl ⟨Nat.le_of_ble_eq_true rfl, Nat.le_of_ble_eq_true rfl, Nat.le_of_ble_eq_true rfl, Nat.le_of_ble_eq_true rfl⟩ wd_1344 wd_1345 (q_small_of (Nat.le_of_ble_eq_true rfl)) hm10 (q_kPi ?_) q_kPi0
    refine wp_less (ac2 := 0) (as2 := 0) (Nat.le_of_ble_eq_true rfl) (Nat.le_of_ble_eq_true rfl) ?_
    obtain ⟨hr12, h⟩ := h
    refine wp_if_eq (tgt := 53) dX8_cell_26 (by decide) hr12 (fun c13 => ?_) (fun c13 => ?_)
    · replace h := h.1 c13
      refine wp_iconst dX8_cell_53 ?_
      refine wp_put (v := vi 1) dX8_cell_54 fs_RX8_108 (fun h => absurd h (by decide)) hk2 (Or.inl rfl) ?_
      refine wp_nmS (fun σ14 hs15 => ?_)
      replace h := h σ14 hs15
      refine wp_aload_n dX8_cell_57 rfl ?_
      refine wp_get (v := vi 1) dX8_cell_58 fl_RX8_108 (by rw [hs15]; exact hk2) (by rw [hs15]; exact q_memI) ?_
      refine wp_if_le (tgt := 66) dX8_cell_61 (by decide) (by unfold qR; omega) (fun c9 => absurd c9 (by decide)) (fun _ => ?_)
      refine wp_iconst dX8_cell_64 ?_
      exact wp_ret_i dX8_cell_65 rfl rfl h
    · replace h := h.2 c13
      refine wp_iload_n dX8_cell_29 rfl ?_
      refine wp_iconst dX8_cell_30 ?_
      refine wp_aload_n dX8_cell_31 rfl ?_
      refine wp_get (v := vr (gP σ 340 a0)) dX8_cell_32 fl_RX8_59 hk2 rfl ?_
      refine wp_iconst dX8_cell_35 ?_
      refine wp_iload_n dX8_cell_36 rfl ?_
      refine wp_imul dX8_cell_37 ?_
      refine wp_iconst dX8_cell_38 ?_
      refine wp_iadd dX8_cell_39 ?_
      obtain ⟨hi16, h⟩ := h
      refine wp_iaload dX8_cell_40 ha8 hi16 ?_
      refine wp_iconst dX8_cell_41 ?_
      refine wp_isub dX8_cell_42 ?_
      obtain ⟨v18, hm17, h⟩ := h
      refine wp_callS (M' := M_X8_in) (As := [vi a3, vi 0, vi ((gA σ (gP σ 340 a0) ((5 * a1) + 4)) - 1)]) (st := [vr a0]) dX8_cell_43 cee_X8_in np_X8_in rfl ⟨Nat.le_of_ble_eq_true rfl, Nat.le_of_ble_eq_true rfl, Nat.le_of_ble_eq_true rfl, Nat.le_of_ble_eq_true rfl⟩ wd_1344 wd_1345 (q_small_of (Nat.le_of_ble_eq_true rfl)) hm17 (q_kPi ?_) q_kPi0
      refine wp_less (ac2 := 0) (as2 := 0) (Nat.le_of_ble_eq_true rfl) (Nat.le_of_ble_eq_true rfl) ?_
      obtain ⟨h, hk24⟩ := h
      have key23 : ∀ v21 : Int, v21 = (if v18 = 0 then 1 else 0) → qW g l M_X8_cell 0 0 54 [some (vr a0), some (vi a1), some (vi a2), some (vi a3)] [vi v21, vr a0] σ Post := by
        intro v21 hv22
        have h := hk24 v21 hv22
        have hr25 : qR v21 := by (rw [hv22]; unfold qR; repeat' split) <;> omega
        have hz26 : v21 = 0 ∨ v21 = 1 := by (rw [hv22]; repeat' split) <;> first | exact Or.inl rfl | exact Or.inr rfl
        refine wp_put (v := vi v21) dX8_cell_54 fs_RX8_108 (fun h => absurd h (by decide)) hk2 (Or.inl rfl) ?_
        refine wp_nmS (fun σ27 hs28 => ?_)
        replace h := h σ27 hs28
        refine wp_aload_n dX8_cell_57 rfl ?_
        refine wp_get (v := vi v21) dX8_cell_58 fl_RX8_108 (by rw [hs28]; exact hk2) (by rw [hs28]; exact q_memI) ?_
        refine wp_if_le (tgt := 66) dX8_cell_61 (by decide) hr25 (fun c29 => ?_) (fun c29 => ?_)
        · replace h := h.1 c29
          refine wp_aload_n dX8_cell_66 rfl ?_
          refine wp_iload_n dX8_cell_67 rfl ?_
          refine wp_aload_n dX8_cell_68 rfl ?_
          refine wp_get (v := vr (gP σ27 340 a0)) dX8_cell_69 fl_RX8_59 (by rw [hs28]; exact hk2) rfl ?_
          refine wp_iconst dX8_cell_72 ?_
          refine wp_iload_n dX8_cell_73 rfl ?_
          refine wp_imul dX8_cell_74 ?_
          refine wp_iconst dX8_cell_75 ?_
          refine wp_iadd dX8_cell_76 ?_
          obtain ⟨ha30, hi31, h⟩ := h
          refine wp_iaload dX8_cell_77 ha30 hi31 ?_
          refine wp_aload_n dX8_cell_78 rfl ?_
          refine wp_get (v := vr (gP σ27 340 a0)) dX8_cell_79 fl_RX8_59 (by rw [hs28]; exact hk2) rfl ?_
          refine wp_iconst dX8_cell_82 ?_
          refine wp_iload_n dX8_cell_83 rfl ?_
          refine wp_imul dX8_cell_84 ?_
          refine wp_iconst dX8_cell_85 ?_
          refine wp_iadd dX8_cell_86 ?_
          obtain ⟨hi32, h⟩ := h
          refine wp_iaload dX8_cell_87 ha30 hi32 ?_
          obtain ⟨Mid34, hm33, hk36⟩ := h
          refine wp_callV (M' := M_X8_places) (As := [vi a1, vi (gA σ27 (gP σ27 340 a0) ((5 * a1) + 3)), vi (gA σ27 (gP σ27 340 a0) ((5 * a1) + 4))]) (st := []) (ci := 8) dX8_cell_88 cee_X8_places np_X8_places rfl ⟨Nat.le_of_ble_eq_true rfl, Nat.le_of_ble_eq_true rfl, Nat.le_of_ble_eq_true rfl, Nat.le_of_ble_eq_true rfl⟩ wd_1381 wd_1383 sel_X8_places rfl (Or.inl (by rw [hs28]; exact hk2)) (q_small_of (Nat.le_of_ble_eq_true rfl)) hm33 (q_kTi0 (fun σ38 v40 hM39 => ?_)) q_kTi00
          refine wp_less (ac2 := 0) (as2 := 0) (Nat.le_of_ble_eq_true rfl) (Nat.le_of_ble_eq_true rfl) ?_
          have h := hk36 σ38 v40 hM39
          refine wp_pop dX8_cell_91 trivial ?_
          refine wp_aload_n dX8_cell_92 rfl ?_
          obtain ⟨hk41, h⟩ := h
          refine wp_get (v := vr (gP σ38 342 a0)) dX8_cell_93 fl_RX8_65 hk41 rfl ?_
          refine wp_aload_n dX8_cell_96 rfl ?_
          refine wp_get (v := vr (gP σ38 340 a0)) dX8_cell_97 fl_RX8_59 hk41 rfl ?_
          refine wp_iconst dX8_cell_100 ?_
          refine wp_iload_n dX8_cell_101 rfl ?_
          refine wp_imul dX8_cell_102 ?_
          refine wp_iconst dX8_cell_103 ?_
          refine wp_iadd dX8_cell_104 ?_
          obtain ⟨ha42, hi43, h⟩ := h
          refine wp_iaload dX8_cell_105 ha42 hi43 ?_
          refine wp_iload_n dX8_cell_106 rfl ?_
          refine wp_imul dX8_cell_107 ?_
          refine wp_iload_n dX8_cell_108 rfl ?_
          refine wp_iadd dX8_cell_109 ?_
          obtain ⟨ha44, hi45, h⟩ := h
          refine wp_iaload dX8_cell_110 ha44 hi45 ?_
          exact wp_ret_i dX8_cell_111 rfl rfl h
        · replace h := h.2 c29
          refine wp_iconst dX8_cell_64 ?_
          exact wp_ret_i dX8_cell_65 rfl rfl h
      have hr46 := h
      refine wp_if_eq (tgt := 53) dX8_cell_46 (by decide) hr46 (fun c47 => ?_) (fun c47 => ?_)
      · refine wp_iconst dX8_cell_53 ?_
        exact key23 _ (by rw [if_pos c47])
      · refine wp_iconst dX8_cell_49 ?_
        refine wp_goto (tgt := 54) dX8_cell_50 (by decide) ?_
        exact key23 _ (by rw [if_neg c47])

set_option maxRecDepth 100000 in
set_option maxHeartbeats 4000000 in
theorem wm_X8_balloons {g : qG} {l : Launch} (hl : l.stackTraces = false) {a0 : Nat} {σ : qS} {Post : qS → qRs → Prop}
    (h : gK σ a0 = 9 ∧ (∀ σ2 : qS, σ2 = sI σ 320 a0 0 → ∃ Inv6 : Nat → Int → Int → Prop, (∃ n : Nat, Inv6 n 0 0) ∧ ∀ (n7 : Nat) (x4 : Int) (x5 : Int), Inv6 n7 x4 x5 → (qR x5 ∧ qR (gI σ2 323 a0) ∧ (((gI σ2 323 a0) ≤ x5 → Post σ2 (.inl (some (vi x4)))) ∧ (¬ ((gI σ2 323 a0) ≤ x5) → q_isA σ2 0 (gP σ2 337 a0) ∧ q_in σ2 (gP σ2 337 a0) x5 ∧ ((qR (gA σ2 (gP σ2 337 a0) x5)) ∧ ∀ v19 : Int, v19 = (if ¬ (gA σ2 (gP σ2 337 a0) x5) = ((-1)) then 1 else 0) → ∀ x25 : Int, x25 = x4 + v19 → ∀ x27 : Int, x27 = x5 + 1 → ∃ n29 : Nat, n29 < n7 ∧ Inv6 n29 x25 x27)))))) : qMet g l M_X8_balloons [vr a0] σ Post := by
  refine qMet_of hl (by decide +kernel) (Nat.le_of_ble_eq_true rfl) (List.forall_mem_cons.mpr ⟨trivial, fun _ h => nomatch h⟩) ?_
  show qW g l M_X8_balloons 0 0 0 [some (vr a0), none, none] [] σ Post
  refine wp_aload_n dX8_balloons_0 rfl ?_
  refine wp_iconst dX8_balloons_1 ?_
  obtain ⟨hk1, h⟩ := h
  refine wp_put (v := vi 0) dX8_balloons_2 fs_RX8_108 (fun h => absurd h (by decide)) hk1 (Or.inl rfl) ?_
  refine wp_nmS (fun σ2 hs3 => ?_)
  replace h := h σ2 hs3
  refine wp_iconst dX8_balloons_5 ?_
  refine wp_istore_n' (ls' := [some (vr a0), some (vi 0), none]) dX8_balloons_6 (Nat.le_of_ble_eq_true rfl) rfl ?_
  refine wp_iconst dX8_balloons_7 ?_
  refine wp_istore_n' (ls' := [some (vr a0), some (vi 0), some (vi 0)]) dX8_balloons_8 (Nat.le_of_ble_eq_true rfl) rfl ?_
  obtain ⟨Inv6, ⟨n7_0, h011⟩, hb10⟩ := h
  have loop32 : ∀ (n7 : Nat) (x4 : Int) (x5 : Int), Inv6 n7 x4 x5 → qW g l M_X8_balloons 0 0 9 [some (vr a0), some (vi x4), some (vi x5)] [] σ2 Post := by
    intro n7
    induction n7 using Nat.strongRecOn with
    | ind n7 ih8 =>
      intro x4 x5 hI9
      have h := hb10 n7 x4 x5 hI9
      refine wp_iload_n dX8_balloons_9 rfl ?_
      refine wp_aload_n dX8_balloons_10 rfl ?_
      refine wp_get (v := vi (gI σ2 323 a0)) dX8_balloons_11 fl_RX8_121 (by rw [hs3]; exact hk1) rfl ?_
      obtain ⟨hr12, hr13, h⟩ := h
      refine wp_icmp_ge (tgt := 41) dX8_balloons_14 (by decide) hr12 hr13 (fun c14 => ?_) (fun c14 => ?_)
      · replace h := h.1 c14
        refine wp_iload_n dX8_balloons_41 rfl ?_
        exact wp_ret_i dX8_balloons_42 rfl rfl h
      · replace h := h.2 c14
        refine wp_iload_n dX8_balloons_17 rfl ?_
        refine wp_aload_n dX8_balloons_18 rfl ?_
        refine wp_get (v := vr (gP σ2 337 a0)) dX8_balloons_19 fl_RX8_50 (by rw [hs3]; exact hk1) rfl ?_
        refine wp_iload_n dX8_balloons_22 rfl ?_
        obtain ⟨ha15, hi16, h⟩ := h
        refine wp_iaload dX8_balloons_23 ha15 hi16 ?_
        refine wp_iconst dX8_balloons_24 ?_
        obtain ⟨h, hk22⟩ := h
        have key21 : ∀ v19 : Int, v19 = (if ¬ (gA σ2 (gP σ2 337 a0) x5) = ((-1)) then 1 else 0) → qW g l M_X8_balloons 0 0 33 [some (vr a0), some (vi x4), some (vi x5)] [vi v19, vi x4] σ2 Post := by
          intro v19 hv20
          have h := hk22 v19 hv20
          have hr23 : qR v19 := by (rw [hv20]; unfold qR; repeat' split) <;> omega
          have hz24 : v19 = 0 ∨ v19 = 1 := by (rw [hv20]; repeat' split) <;> first | exact Or.inl rfl | exact Or.inr rfl
          refine wp_iadd dX8_balloons_33 ?_
          refine wp_nmI (fun x25 hx26 => ?_)
          replace h := h x25 hx26
          refine wp_istore_n' (ls' := [some (vr a0), some (vi x25), some (vi x5)]) dX8_balloons_34 (Nat.le_of_ble_eq_true rfl) rfl ?_
          refine wp_nmT (x5 + 1) (fun x27 hx28 => ?_)
          replace h := h x27 hx28
          refine wp_iinc' (z' := x27) (ls' := [some (vr a0), some (vi x25), some (vi x27)]) dX8_balloons_35 (Nat.le_of_ble_eq_true rfl) rfl hx28 rfl ?_
          refine wp_goto (tgt := 9) dX8_balloons_38 (by decide) ?_
          obtain ⟨n29, hlt, h⟩ := h
          exact wp_lsub (ls' := [some (vr a0), some (vi x25), some (vi x27)]) ⟨rfl, ⟨rfl, ⟨rfl, trivial⟩⟩⟩ (ih8 n29 hlt _ _ h)
        have hr30 := h
        refine wp_icmp_ne (tgt := 32) dX8_balloons_25 (by decide) hr30 (by unfold qR; omega) (fun c31 => ?_) (fun c31 => ?_)
        · refine wp_iconst dX8_balloons_32 ?_
          exact key21 _ (by rw [if_pos c31])
        · refine wp_iconst dX8_balloons_28 ?_
          refine wp_goto (tgt := 33) dX8_balloons_29 (by decide) ?_
          exact key21 _ (by rw [if_neg (fun z => z c31)])
  exact wp_lsub (ls' := [some (vr a0), some (vi 0), some (vi 0)]) ⟨rfl, ⟨rfl, ⟨rfl, trivial⟩⟩⟩ (loop32 _ _ _ h011)

set_option maxRecDepth 100000 in
set_option maxHeartbeats 4000000 in
theorem wm_X8_before {g : qG} {l : Launch} (hl : l.stackTraces = false) {a0 : Nat} {a1 : Int} {σ : qS} {Post : qS → qRs → Prop}
    (h : ∃ Inv3 : Nat → Int → Int → Prop, (∃ n : Nat, Inv3 n 0 0) ∧ ∀ (n4 : Nat) (x1 : Int) (x2 : Int), Inv3 n4 x1 x2 → (gK σ a0 = 9 ∧ qR x2 ∧ qR (gI σ 323 a0) ∧ (((gI σ 323 a0) ≤ x2 → Post σ (.inl (some (vi x1)))) ∧ (¬ ((gI σ 323 a0) ≤ x2) → q_isA σ 0 (gP σ 337 a0) ∧ q_in σ (gP σ 337 a0) x2 ∧ qR (gA σ (gP σ 337 a0) x2) ∧ (((gA σ (gP σ 337 a0) x2) = ((-1)) → ∀ x17 : Int, x17 = x1 + 0 → ∀ x19 : Int, x19 = x2 + 1 → ∃ n21 : Nat, n21 < n4 ∧ Inv3 n21 x17 x19) ∧ (¬ ((gA σ (gP σ 337 a0) x2) = ((-1))) → qR a1 ∧ ((x2 = a1 → ∀ x24 : Int, x24 = x1 + 0 → ∀ x26 : Int, x26 = x2 + 1 → ∃ n28 : Nat, n28 < n4 ∧ Inv3 n28 x24 x26) ∧ (¬ (x2 = a1) → (∃ v30 : Int, qMet g l M_X8_isBefore [vr a0, vi x2, vi a1] σ (qPi σ v30) ∧ (((qR v30) ∧ ∀ v33 : Int, v33 = (if v30 = 0 then 0 else 1) → ∀ x39 : Int, x39 = x1 + v33 → ∀ x41 : Int, x41 = x2 + 1 → ∃ n43 : Nat, n43 < n4 ∧ Inv3 n43 x39 x41))))))))))) : qMet g l M_X8_before [vr a0, vi a1] σ Post := by
  refine qMet_of hl (by decide +kernel) (Nat.le_of_ble_eq_true rfl) (List.forall_mem_cons.mpr ⟨trivial, List.forall_mem_cons.mpr ⟨trivial, fun _ h => nomatch h⟩⟩) ?_
  show qW g l M_X8_before 0 0 0 [some (vr a0), some (vi a1), none, none] [] σ Post
  refine wp_iconst dX8_before_0 ?_
  refine wp_istore_n' (ls' := [some (vr a0), some (vi a1), some (vi 0), none]) dX8_before_1 (Nat.le_of_ble_eq_true rfl) rfl ?_
  refine wp_iconst dX8_before_2 ?_
  refine wp_istore_n' (ls' := [some (vr a0), some (vi a1), some (vi 0), some (vi 0)]) dX8_before_3 (Nat.le_of_ble_eq_true rfl) rfl ?_
  obtain ⟨Inv3, ⟨n4_0, h08⟩, hb7⟩ := h
  have loop46 : ∀ (n4 : Nat) (x1 : Int) (x2 : Int), Inv3 n4 x1 x2 → qW g l M_X8_before 0 0 4 [some (vr a0), some (vi a1), some (vi x1), some (vi x2)] [] σ Post := by
    intro n4
    induction n4 using Nat.strongRecOn with
    | ind n4 ih5 =>
      intro x1 x2 hI6
      have h := hb7 n4 x1 x2 hI6
      refine wp_iload_n dX8_before_4 rfl ?_
      refine wp_aload_n dX8_before_5 rfl ?_
      obtain ⟨hk9, h⟩ := h
      refine wp_get (v := vi (gI σ 323 a0)) dX8_before_6 fl_RX8_121 hk9 rfl ?_
      obtain ⟨hr10, hr11, h⟩ := h
      refine wp_icmp_ge (tgt := 50) dX8_before_9 (by decide) hr10 hr11 (fun c12 => ?_) (fun c12 => ?_)
      · replace h := h.1 c12
        refine wp_iload_n dX8_before_50 rfl ?_
        exact wp_ret_i dX8_before_51 rfl rfl h
      · replace h := h.2 c12
        refine wp_iload_n dX8_before_12 rfl ?_
        refine wp_aload_n dX8_before_13 rfl ?_
        refine wp_get (v := vr (gP σ 337 a0)) dX8_before_14 fl_RX8_50 hk9 rfl ?_
        refine wp_iload_n dX8_before_17 rfl ?_
        obtain ⟨ha13, hi14, h⟩ := h
        refine wp_iaload dX8_before_18 ha13 hi14 ?_
        refine wp_iconst dX8_before_19 ?_
        obtain ⟨hr15, h⟩ := h
        refine wp_icmp_eq (tgt := 41) dX8_before_20 (by decide) hr15 (by unfold qR; omega) (fun c16 => ?_) (fun c16 => ?_)
        · replace h := h.1 c16
          refine wp_iconst dX8_before_41 ?_
          refine wp_iadd dX8_before_42 ?_
          refine wp_nmI (fun x17 hx18 => ?_)
          replace h := h x17 hx18
          refine wp_istore_n' (ls' := [some (vr a0), some (vi a1), some (vi x17), some (vi x2)]) dX8_before_43 (Nat.le_of_ble_eq_true rfl) rfl ?_
          refine wp_nmT (x2 + 1) (fun x19 hx20 => ?_)
          replace h := h x19 hx20
          refine wp_iinc' (z' := x19) (ls' := [some (vr a0), some (vi a1), some (vi x17), some (vi x19)]) dX8_before_44 (Nat.le_of_ble_eq_true rfl) rfl hx20 rfl ?_
          refine wp_goto (tgt := 4) dX8_before_47 (by decide) ?_
          obtain ⟨n21, hlt, h⟩ := h
          exact wp_lsub (ls' := [some (vr a0), some (vi a1), some (vi x17), some (vi x19)]) ⟨rfl, ⟨rfl, ⟨rfl, ⟨rfl, trivial⟩⟩⟩⟩ (ih5 n21 hlt _ _ h)
        · replace h := h.2 c16
          refine wp_iload_n dX8_before_23 rfl ?_
          refine wp_iload_n dX8_before_24 rfl ?_
          obtain ⟨hr22, h⟩ := h
          refine wp_icmp_eq (tgt := 41) dX8_before_25 (by decide) hr10 hr22 (fun c23 => ?_) (fun c23 => ?_)
          · replace h := h.1 c23
            refine wp_iconst dX8_before_41 ?_
            refine wp_iadd dX8_before_42 ?_
            refine wp_nmI (fun x24 hx25 => ?_)
            replace h := h x24 hx25
            refine wp_istore_n' (ls' := [some (vr a0), some (vi a1), some (vi x24), some (vi x2)]) dX8_before_43 (Nat.le_of_ble_eq_true rfl) rfl ?_
            refine wp_nmT (x2 + 1) (fun x26 hx27 => ?_)
            replace h := h x26 hx27
            refine wp_iinc' (z' := x26) (ls' := [some (vr a0), some (vi a1), some (vi x24), some (vi x26)]) dX8_before_44 (Nat.le_of_ble_eq_true rfl) rfl hx27 rfl ?_
            refine wp_goto (tgt := 4) dX8_before_47 (by decide) ?_
            obtain ⟨n28, hlt, h⟩ := h
            exact wp_lsub (ls' := [some (vr a0), some (vi a1), some (vi x24), some (vi x26)]) ⟨rfl, ⟨rfl, ⟨rfl, ⟨rfl, trivial⟩⟩⟩⟩ (ih5 n28 hlt _ _ h)
          · replace h := h.2 c23
            refine wp_aload_n dX8_before_28 rfl ?_
            refine wp_iload_n dX8_before_29 rfl ?_
            refine wp_iload_n dX8_before_30 rfl ?_
            obtain ⟨v30, hm29, h⟩ := h
            refine wp_callV (M' := M_X8_isBefore) (As := [vi x2, vi a1]) (st := [vi x1]) (ci := 8) dX8_before_31 cee_X8_isBefore np_X8_isBefore rfl ⟨Nat.le_of_ble_eq_true rfl, Nat.le_of_ble_eq_true rfl, Nat.le_of_ble_eq_true rfl, Nat.le_of_ble_eq_true rfl⟩ wd_1401 wd_1403 sel_X8_isBefore rfl (Or.inl hk9) (q_small_of (Nat.le_of_ble_eq_true rfl)) hm29 (q_kPi ?_) q_kPi0
            refine wp_less (ac2 := 0) (as2 := 0) (Nat.le_of_ble_eq_true rfl) (Nat.le_of_ble_eq_true rfl) ?_
            obtain ⟨h, hk36⟩ := h
            have key35 : ∀ v33 : Int, v33 = (if v30 = 0 then 0 else 1) → qW g l M_X8_before 0 0 42 [some (vr a0), some (vi a1), some (vi x1), some (vi x2)] [vi v33, vi x1] σ Post := by
              intro v33 hv34
              have h := hk36 v33 hv34
              have hr37 : qR v33 := by (rw [hv34]; unfold qR; repeat' split) <;> omega
              have hz38 : v33 = 0 ∨ v33 = 1 := by (rw [hv34]; repeat' split) <;> first | exact Or.inl rfl | exact Or.inr rfl
              refine wp_iadd dX8_before_42 ?_
              refine wp_nmI (fun x39 hx40 => ?_)
              replace h := h x39 hx40
              refine wp_istore_n' (ls' := [some (vr a0), some (vi a1), some (vi x39), some (vi x2)]) dX8_before_43 (Nat.le_of_ble_eq_true rfl) rfl ?_
              refine wp_nmT (x2 + 1) (fun x41 hx42 => ?_)
              replace h := h x41 hx42
              refine wp_iinc' (z' := x41) (ls' := [some (vr a0), some (vi a1), some (vi x39), some (vi x41)]) dX8_before_44 (Nat.le_of_ble_eq_true rfl) rfl hx42 rfl ?_
              refine wp_goto (tgt := 4) dX8_before_47 (by decide) ?_
              obtain ⟨n43, hlt, h⟩ := h
              exact wp_lsub (ls' := [some (vr a0), some (vi a1), some (vi x39), some (vi x41)]) ⟨rfl, ⟨rfl, ⟨rfl, ⟨rfl, trivial⟩⟩⟩⟩ (ih5 n43 hlt _ _ h)
            have hr44 := h
            refine wp_if_eq (tgt := 41) dX8_before_34 (by decide) hr44 (fun c45 => ?_) (fun c45 => ?_)
            · refine wp_iconst dX8_before_41 ?_
              exact key35 _ (by rw [if_pos c45])
            · refine wp_iconst dX8_before_37 ?_
              refine wp_goto (tgt := 42) dX8_before_38 (by decide) ?_
              exact key35 _ (by rw [if_neg c45])
  exact wp_lsub (ls' := [some (vr a0), some (vi a1), some (vi 0), some (vi 0)]) ⟨rfl, ⟨rfl, ⟨rfl, ⟨rfl, trivial⟩⟩⟩⟩ (loop46 _ _ _ h08)

set_option maxRecDepth 100000 in
set_option maxHeartbeats 4000000 in
theorem wm_X8_read {g : qG} {l : Launch} (hl : l.stackTraces = false) {a0 : Nat} {a1 : Int} {σ : qS} {Post : qS → qRs → Prop}
    (h : ∃ Inv3 : Nat → Int → Int → Prop, (∃ n : Nat, Inv3 n ((-1)) 0) ∧ ∀ (n4 : Nat) (x1 : Int) (x2 : Int), Inv3 n4 x1 x2 → (gK σ a0 = 9 ∧ qR x2 ∧ qR (gI σ 323 a0) ∧ (((gI σ 323 a0) ≤ x2 → ((qR x1) ∧ ∀ v15 : Int, v15 = (if ¬ x1 = ((-1)) then 0 else 1) → (∀ σ21 : qS, σ21 = sI σ 320 a0 v15 → (∀ v24 : Int, v24 = (if v15 ≤ 0 then x1 else 0) → Post σ21 (.inl (some (vi v24))))))) ∧ (¬ ((gI σ 323 a0) ≤ x2) → q_isA σ 0 (gP σ 337 a0) ∧ q_in σ (gP σ 337 a0) x2 ∧ qR (gA σ (gP σ 337 a0) x2) ∧ (((gA σ (gP σ 337 a0) x2) = ((-1)) → ∀ x35 : Int, x35 = x2 + 1 → ∃ n37 : Nat, n37 < n4 ∧ Inv3 n37 x1 x35) ∧ (¬ ((gA σ (gP σ 337 a0) x2) = ((-1))) → (∃ v39 : Int, qMet g l M_X8_before [vr a0, vi x2] σ (qPi σ v39) ∧ (((qR v39 ∧ qR a1) ∧ ∀ v43 : Int, v43 = (if ¬ v39 = a1 then x1 else x2) → ∀ x47 : Int, x47 = x2 + 1 → ∃ n49 : Nat, n49 < n4 ∧ Inv3 n49 v43 x47))))))))) : qMet g l M_X8_read [vr a0, vi a1] σ Post := by
  refine qMet_of hl (by decide +kernel) (Nat.le_of_ble_eq_true rfl) (List.forall_mem_cons.mpr ⟨trivial, List.forall_mem_cons.mpr ⟨trivial, fun _ h => nomatch h⟩⟩) ?_
  show qW g l M_X8_read 0 0 0 [some (vr a0), some (vi a1), none, none] [] σ Post
  refine wp_iconst dX8_read_0 ?_
  refine wp_istore_n' (ls' := [some (vr a0), some (vi a1), some (vi ((-1))), none]) dX8_read_1 (Nat.le_of_ble_eq_true rfl) rfl ?_
  refine wp_iconst dX8_read_2 ?_
  refine wp_istore_n' (ls' := [some (vr a0), some (vi a1), some (vi ((-1))), some (vi 0)]) dX8_read_3 (Nat.le_of_ble_eq_true rfl) rfl ?_
  obtain ⟨Inv3, ⟨n4_0, h08⟩, hb7⟩ := h
  have loop53 : ∀ (n4 : Nat) (x1 : Int) (x2 : Int), Inv3 n4 x1 x2 → qW g l M_X8_read 0 0 4 [some (vr a0), some (vi a1), some (vi x1), some (vi x2)] [] σ Post := by
    intro n4
    induction n4 using Nat.strongRecOn with
    | ind n4 ih5 =>
      intro x1 x2 hI6
      have h := hb7 n4 x1 x2 hI6
      refine wp_iload_n dX8_read_4 rfl ?_
      refine wp_aload_n dX8_read_5 rfl ?_
      obtain ⟨hk9, h⟩ := h
      refine wp_get (v := vi (gI σ 323 a0)) dX8_read_6 fl_RX8_121 hk9 rfl ?_
      obtain ⟨hr10, hr11, h⟩ := h
      refine wp_icmp_ge (tgt := 43) dX8_read_9 (by decide) hr10 hr11 (fun c12 => ?_) (fun c12 => ?_)
      · replace h := h.1 c12
        refine wp_aload_n dX8_read_43 rfl ?_
        refine wp_iload_n dX8_read_44 rfl ?_
        refine wp_iconst dX8_read_45 ?_
        obtain ⟨h, hk18⟩ := h
        have key17 : ∀ v15 : Int, v15 = (if ¬ x1 = ((-1)) then 0 else 1) → qW g l M_X8_read 0 0 54 [some (vr a0), some (vi a1), some (vi x1), some (vi x2)] [vi v15, vr a0] σ Post := by
          intro v15 hv16
          have h := hk18 v15 hv16
          have hr19 : qR v15 := by (rw [hv16]; unfold qR; repeat' split) <;> omega
          have hz20 : v15 = 0 ∨ v15 = 1 := by (rw [hv16]; repeat' split) <;> first | exact Or.inl rfl | exact Or.inr rfl
          refine wp_put (v := vi v15) dX8_read_54 fs_RX8_108 (fun h => absurd h (by decide)) hk9 (Or.inl rfl) ?_
          refine wp_nmS (fun σ21 hs22 => ?_)
          replace h := h σ21 hs22
          refine wp_aload_n dX8_read_57 rfl ?_
          refine wp_get (v := vi v15) dX8_read_58 fl_RX8_108 (by rw [hs22]; exact hk9) (by rw [hs22]; exact q_memI) ?_
          have key26 : ∀ v24 : Int, v24 = (if v15 ≤ 0 then x1 else 0) → qW g l M_X8_read 0 0 69 [some (vr a0), some (vi a1), some (vi x1), some (vi x2)] [vi v24] σ21 Post := by
            intro v24 hv25
            replace h := h v24 hv25
            exact wp_ret_i dX8_read_69 rfl rfl h
          refine wp_if_le (tgt := 68) dX8_read_61 (by decide) hr19 (fun c28 => ?_) (fun c28 => ?_)
          · refine wp_iload_n dX8_read_68 rfl ?_
            exact key26 _ (by rw [if_pos c28])
          · refine wp_iconst dX8_read_64 ?_
            refine wp_goto (tgt := 69) dX8_read_65 (by decide) ?_
            exact key26 _ (by rw [if_neg c28])
        have hr29 := h
        refine wp_icmp_ne (tgt := 53) dX8_read_46 (by decide) hr29 (by unfold qR; omega) (fun c30 => ?_) (fun c30 => ?_)
        · refine wp_iconst dX8_read_53 ?_
          exact key17 _ (by rw [if_pos c30])
        · refine wp_iconst dX8_read_49 ?_
          refine wp_goto (tgt := 54) dX8_read_50 (by decide) ?_
          exact key17 _ (by rw [if_neg (fun z => z c30)])
      · replace h := h.2 c12
        refine wp_aload_n dX8_read_12 rfl ?_
        refine wp_get (v := vr (gP σ 337 a0)) dX8_read_13 fl_RX8_50 hk9 rfl ?_
        refine wp_iload_n dX8_read_16 rfl ?_
        obtain ⟨ha31, hi32, h⟩ := h
        refine wp_iaload dX8_read_17 ha31 hi32 ?_
        refine wp_iconst dX8_read_18 ?_
        obtain ⟨hr33, h⟩ := h
        refine wp_icmp_eq (tgt := 35) dX8_read_19 (by decide) hr33 (by unfold qR; omega) (fun c34 => ?_) (fun c34 => ?_)
        · replace h := h.1 c34
          refine wp_iload_n dX8_read_35 rfl ?_
          refine wp_istore_n' (ls' := [some (vr a0), some (vi a1), some (vi x1), some (vi x2)]) dX8_read_36 (Nat.le_of_ble_eq_true rfl) rfl ?_
          refine wp_nmT (x2 + 1) (fun x35 hx36 => ?_)
          replace h := h x35 hx36
          refine wp_iinc' (z' := x35) (ls' := [some (vr a0), some (vi a1), some (vi x1), some (vi x35)]) dX8_read_37 (Nat.le_of_ble_eq_true rfl) rfl hx36 rfl ?_
          refine wp_goto (tgt := 4) dX8_read_40 (by decide) ?_
          obtain ⟨n37, hlt, h⟩ := h
          exact wp_lsub (ls' := [some (vr a0), some (vi a1), some (vi x1), some (vi x35)]) ⟨rfl, ⟨rfl, ⟨rfl, ⟨rfl, trivial⟩⟩⟩⟩ (ih5 n37 hlt _ _ h)
        · replace h := h.2 c34
          refine wp_aload_n dX8_read_22 rfl ?_
          refine wp_iload_n dX8_read_23 rfl ?_
          obtain ⟨v39, hm38, h⟩ := h
          refine wp_callV (M' := M_X8_before) (As := [vi x2]) (st := []) (ci := 8) dX8_read_24 cee_X8_before np_X8_before rfl ⟨Nat.le_of_ble_eq_true rfl, Nat.le_of_ble_eq_true rfl, Nat.le_of_ble_eq_true rfl, Nat.le_of_ble_eq_true rfl⟩ wd_1503 wd_1505 sel_X8_before rfl (Or.inl hk9) (q_small_of (Nat.le_of_ble_eq_true rfl)) hm38 (q_kPi ?_) q_kPi0
          refine wp_less (ac2 := 0) (as2 := 0) (Nat.le_of_ble_eq_true rfl) (Nat.le_of_ble_eq_true rfl) ?_
          refine wp_iload_n dX8_read_27 rfl ?_
          obtain ⟨h, hk46⟩ := h
          have key45 : ∀ v43 : Int, v43 = (if ¬ v39 = a1 then x1 else x2) → qW g l M_X8_read 0 0 36 [some (vr a0), some (vi a1), some (vi x1), some (vi x2)] [vi v43] σ Post := by
            intro v43 hv44
            have h := hk46 v43 hv44
            refine wp_istore_n' (ls' := [some (vr a0), some (vi a1), some (vi v43), some (vi x2)]) dX8_read_36 (Nat.le_of_ble_eq_true rfl) rfl ?_
            refine wp_nmT (x2 + 1) (fun x47 hx48 => ?_)
            replace h := h x47 hx48
            refine wp_iinc' (z' := x47) (ls' := [some (vr a0), some (vi a1), some (vi v43), some (vi x47)]) dX8_read_37 (Nat.le_of_ble_eq_true rfl) rfl hx48 rfl ?_
            refine wp_goto (tgt := 4) dX8_read_40 (by decide) ?_
            obtain ⟨n49, hlt, h⟩ := h
            exact wp_lsub (ls' := [some (vr a0), some (vi a1), some (vi v43), some (vi x47)]) ⟨rfl, ⟨rfl, ⟨rfl, ⟨rfl, trivial⟩⟩⟩⟩ (ih5 n49 hlt _ _ h)
          obtain ⟨hr50, hr51⟩ := h
          refine wp_icmp_ne (tgt := 35) dX8_read_28 (by decide) hr50 hr51 (fun c52 => ?_) (fun c52 => ?_)
          · refine wp_iload_n dX8_read_35 rfl ?_
            exact key45 _ (by rw [if_pos c52])
          · refine wp_iload_n dX8_read_31 rfl ?_
            refine wp_goto (tgt := 36) dX8_read_32 (by decide) ?_
            exact key45 _ (by rw [if_neg (fun z => z c52)])
  exact wp_lsub (ls' := [some (vr a0), some (vi a1), some (vi ((-1))), some (vi 0)]) ⟨rfl, ⟨rfl, ⟨rfl, ⟨rfl, trivial⟩⟩⟩⟩ (loop53 _ _ _ h08)

set_option maxRecDepth 100000 in
set_option maxHeartbeats 4000000 in
theorem wm_X8_placeOf {g : qG} {l : Launch} (hl : l.stackTraces = false) {a0 : Nat} {a1 : Int} {σ : qS} {Post : qS → qRs → Prop}
    (h : gK σ a0 = 9 ∧ (∀ σ2 : qS, σ2 = sI σ 320 a0 0 → (∃ v5 : Int, qMet g l M_X8_isBalloon [vr a0, vi a1] σ2 (qPi σ2 v5) ∧ (qR v5 ∧ ((v5 = 0 → (∃ Mid9 : qS → Int → Prop, qMet g l M_X8_fails [vr a0, vi 1] σ2 (qTi0 Mid9) ∧ ∀ (σ13 : qS) (v15 : Int), Mid9 σ13 v15 → Post σ13 (.inl (some (vi v15))))) ∧ (¬ (v5 = 0) → (∃ v17 : Int, qMet g l M_X8_before [vr a0, vi a1] σ2 (qPi σ2 v17) ∧ (Post σ2 (.inl (some (vi v17))))))))))) : qMet g l M_X8_placeOf [vr a0, vi a1] σ Post := by
  refine qMet_of hl (by decide +kernel) (Nat.le_of_ble_eq_true rfl) (List.forall_mem_cons.mpr ⟨trivial, List.forall_mem_cons.mpr ⟨trivial, fun _ h => nomatch h⟩⟩) ?_
  show qW g l M_X8_placeOf 0 0 0 [some (vr a0), some (vi a1)] [] σ Post
  refine wp_aload_n dX8_placeOf_0 rfl ?_
  refine wp_iconst dX8_placeOf_1 ?_
  obtain ⟨hk1, h⟩ := h
  refine wp_put (v := vi 0) dX8_placeOf_2 fs_RX8_108 (fun h => absurd h (by decide)) hk1 (Or.inl rfl) ?_
  refine wp_nmS (fun σ2 hs3 => ?_)
  replace h := h σ2 hs3
  refine wp_aload_n dX8_placeOf_5 rfl ?_
  refine wp_iload_n dX8_placeOf_6 rfl ?_
  obtain ⟨v5, hm4, h⟩ := h
  refine wp_callV (M' := M_X8_isBalloon) (As := [vi a1]) (st := []) (ci := 8) dX8_placeOf_7 cee_X8_isBalloon np_X8_isBalloon rfl ⟨Nat.le_of_ble_eq_true rfl, Nat.le_of_ble_eq_true rfl, Nat.le_of_ble_eq_true rfl, Nat.le_of_ble_eq_true rfl⟩ wd_1447 wd_1449 sel_X8_isBalloon rfl (Or.inl (by rw [hs3]; exact hk1)) (q_small_of (Nat.le_of_ble_eq_true rfl)) hm4 (q_kPi ?_) q_kPi0
  refine wp_less (ac2 := 0) (as2 := 0) (Nat.le_of_ble_eq_true rfl) (Nat.le_of_ble_eq_true rfl) ?_
  obtain ⟨hr6, h⟩ := h
  refine wp_if_eq (tgt := 21) dX8_placeOf_10 (by decide) hr6 (fun c7 => ?_) (fun c7 => ?_)
  · replace h := h.1 c7
    refine wp_aload_n dX8_placeOf_21 rfl ?_
    refine wp_iconst dX8_placeOf_22 ?_
    obtain ⟨Mid9, hm8, hk11⟩ := h
    refine wp_callV (M' := M_X8_fails) (As := [vi 1]) (st := []) (ci := 8) dX8_placeOf_23 cee_X8_fails np_X8_fails rfl ⟨Nat.le_of_ble_eq_true rfl, Nat.le_of_ble_eq_true rfl, Nat.le_of_ble_eq_true rfl, Nat.le_of_ble_eq_true rfl⟩ wd_1347 wd_1349 sel_X8_fails rfl (Or.inl (by rw [hs3]; exact hk1)) (q_small_of (Nat.le_of_ble_eq_true rfl)) hm8 (q_kTi0 (fun σ13 v15 hM14 => ?_)) q_kTi00
    refine wp_less (ac2 := 0) (as2 := 0) (Nat.le_of_ble_eq_true rfl) (Nat.le_of_ble_eq_true rfl) ?_
    have h := hk11 σ13 v15 hM14
    exact wp_ret_i dX8_placeOf_26 rfl rfl h
  · replace h := h.2 c7
    refine wp_aload_n dX8_placeOf_13 rfl ?_
    refine wp_iload_n dX8_placeOf_14 rfl ?_
    obtain ⟨v17, hm16, h⟩ := h
    refine wp_callV (M' := M_X8_before) (As := [vi a1]) (st := []) (ci := 8) dX8_placeOf_15 cee_X8_before np_X8_before rfl ⟨Nat.le_of_ble_eq_true rfl, Nat.le_of_ble_eq_true rfl, Nat.le_of_ble_eq_true rfl, Nat.le_of_ble_eq_true rfl⟩ wd_1503 wd_1505 sel_X8_before rfl (Or.inl (by rw [hs3]; exact hk1)) (q_small_of (Nat.le_of_ble_eq_true rfl)) hm16 (q_kPi ?_) q_kPi0
    refine wp_less (ac2 := 0) (as2 := 0) (Nat.le_of_ble_eq_true rfl) (Nat.le_of_ble_eq_true rfl) ?_
    refine wp_goto (tgt := 26) dX8_placeOf_18 (by decide) ?_
    exact wp_ret_i dX8_placeOf_26 rfl rfl h

set_option maxRecDepth 100000 in
set_option maxHeartbeats 4000000 in
theorem wm_X8_placeByPairs {g : qG} {l : Launch} (hl : l.stackTraces = false) {a0 : Nat} {a1 : Int} {σ : qS} {Post : qS → qRs → Prop}
    (h : gK σ a0 = 9 ∧ (∃ Mid3 : qS → Int → Prop, qMet g l M_X8_placeOf [vr a0, vi a1] σ (qTi0 Mid3) ∧ ∀ (σ7 : qS) (v9 : Int), Mid3 σ7 v9 → Post σ7 (.inl (some (vi v9))))) : qMet g l M_X8_placeByPairs [vr a0, vi a1] σ Post := by
  refine qMet_of hl (by decide +kernel) (Nat.le_of_ble_eq_true rfl) (List.forall_mem_cons.mpr ⟨trivial, List.forall_mem_cons.mpr ⟨trivial, fun _ h => nomatch h⟩⟩) ?_
  show qW g l M_X8_placeByPairs 0 0 0 [some (vr a0), some (vi a1)] [] σ Post
  refine wp_aload_n dX8_placeByPairs_0 rfl ?_
  refine wp_iload_n dX8_placeByPairs_1 rfl ?_
  obtain ⟨hk2, h⟩ := h
  obtain ⟨Mid3, hm1, hk5⟩ := h
  refine wp_callV (M' := M_X8_placeOf) (As := [vi a1]) (st := []) (ci := 8) dX8_placeByPairs_2 cee_X8_placeOf np_X8_placeOf rfl ⟨Nat.le_of_ble_eq_true rfl, Nat.le_of_ble_eq_true rfl, Nat.le_of_ble_eq_true rfl, Nat.le_of_ble_eq_true rfl⟩ wd_1515 wd_1508 wd_1509 rfl (Or.inl hk2) (q_small_of (Nat.le_of_ble_eq_true rfl)) hm1 (q_kTi0 (fun σ7 v9 hM8 => ?_)) q_kTi00
  refine wp_less (ac2 := 0) (as2 := 0) (Nat.le_of_ble_eq_true rfl) (Nat.le_of_ble_eq_true rfl) ?_
  have h := hk5 σ7 v9 hM8
  exact wp_ret_i dX8_placeByPairs_5 rfl rfl h

set_option maxRecDepth 100000 in
set_option maxHeartbeats 4000000 in
theorem wm_X8_depth {g : qG} {l : Launch} (hl : l.stackTraces = false) {a0 : Nat} {a1 : Int} {σ : qS} {Post : qS → qRs → Prop}
    (h : gK σ a0 = 9 ∧ (∃ v3 : Int, qMet g l M_X8_isBalloon [vr a0, vi a1] σ (qPi σ v3) ∧ (qR v3 ∧ ((¬ v3 = 0 → (∀ σ6 : qS, σ6 = sI σ 320 a0 0 → q_isA σ6 0 (gP σ6 339 a0) ∧ q_in σ6 (gP σ6 339 a0) a1 ∧ ∀ x10 : Int, x10 = gA σ6 (gP σ6 339 a0) a1 → ∃ Inv14 : Nat → Int → Int → Prop, (∃ n : Nat, Inv14 n 0 x10) ∧ ∀ (n15 : Nat) (x12 : Int) (x13 : Int), Inv14 n15 x12 x13 → (qR x13 ∧ ((x13 = ((-1)) → Post σ6 (.inl (some (vi x12)))) ∧ (¬ (x13 = ((-1))) → ∀ x22 : Int, x22 = x12 + 1 → q_in σ6 (gP σ6 339 a0) x13 ∧ ∀ x25 : Int, x25 = gA σ6 (gP σ6 339 a0) x13 → ∃ n27 : Nat, n27 < n15 ∧ Inv14 n27 x22 x25))))) ∧ (v3 = 0 → (∃ Mid30 : qS → Int → Prop, qMet g l M_X8_fails [vr a0, vi 1] σ (qTi0 Mid30) ∧ ∀ (σ34 : qS) (v36 : Int), Mid30 σ34 v36 → Post σ34 (.inl (some (vi v36))))))))) : qMet g l M_X8_depth [vr a0, vi a1] σ Post := by
  refine qMet_of hl (by decide +kernel) (Nat.le_of_ble_eq_true rfl) (List.forall_mem_cons.mpr ⟨trivial, List.forall_mem_cons.mpr ⟨trivial, fun _ h => nomatch h⟩⟩) ?_
  show qW g l M_X8_depth 0 0 0 [some (vr a0), some (vi a1), none, none] [] σ Post
  refine wp_aload_n dX8_depth_0 rfl ?_
  refine wp_iload_n dX8_depth_1 rfl ?_
  obtain ⟨hk2, h⟩ := h
  obtain ⟨v3, hm1, h⟩ := h
  refine wp_callV (M' := M_X8_isBalloon) (As := [vi a1]) (st := []) (ci := 8) dX8_depth_2 cee_X8_isBalloon np_X8_isBalloon rfl ⟨Nat.le_of_ble_eq_true rfl, Nat.le_of_ble_eq_true rfl, Nat.le_of_ble_eq_true rfl, Nat.le_of_ble_eq_true rfl⟩ wd_1447 wd_1449 sel_X8_isBalloon rfl (Or.inl hk2) (q_small_of (Nat.le_of_ble_eq_true rfl)) hm1 (q_kPi ?_) q_kPi0
  refine wp_less (ac2 := 0) (as2 := 0) (Nat.le_of_ble_eq_true rfl) (Nat.le_of_ble_eq_true rfl) ?_
  obtain ⟨hr4, h⟩ := h
  refine wp_if_ne (tgt := 14) dX8_depth_5 (by decide) hr4 (fun c5 => ?_) (fun c5 => ?_)
  · replace h := h.1 c5
    refine wp_aload_n dX8_depth_14 rfl ?_
    refine wp_iconst dX8_depth_15 ?_
    refine wp_put (v := vi 0) dX8_depth_16 fs_RX8_108 (fun h => absurd h (by decide)) hk2 (Or.inl rfl) ?_
    refine wp_nmS (fun σ6 hs7 => ?_)
    replace h := h σ6 hs7
    refine wp_iconst dX8_depth_19 ?_
    refine wp_istore_n' (ls' := [some (vr a0), some (vi a1), some (vi 0), none]) dX8_depth_20 (Nat.le_of_ble_eq_true rfl) rfl ?_
    refine wp_aload_n dX8_depth_21 rfl ?_
    refine wp_get (v := vr (gP σ6 339 a0)) dX8_depth_22 fl_RX8_56 (by rw [hs7]; exact hk2) rfl ?_
    refine wp_iload_n dX8_depth_25 rfl ?_
    obtain ⟨ha8, hi9, h⟩ := h
    refine wp_iaload dX8_depth_26 ha8 hi9 ?_
    refine wp_nmI (fun x10 hx11 => ?_)
    replace h := h x10 hx11
    refine wp_istore_n' (ls' := [some (vr a0), some (vi a1), some (vi 0), some (vi x10)]) dX8_depth_27 (Nat.le_of_ble_eq_true rfl) rfl ?_
    obtain ⟨Inv14, ⟨n15_0, h019⟩, hb18⟩ := h
    have loop28 : ∀ (n15 : Nat) (x12 : Int) (x13 : Int), Inv14 n15 x12 x13 → qW g l M_X8_depth 0 0 28 [some (vr a0), some (vi a1), some (vi x12), some (vi x13)] [] σ6 Post := by
      intro n15
      induction n15 using Nat.strongRecOn with
      | ind n15 ih16 =>
        intro x12 x13 hI17
        have h := hb18 n15 x12 x13 hI17
        refine wp_iload_n dX8_depth_28 rfl ?_
        refine wp_iconst dX8_depth_29 ?_
        obtain ⟨hr20, h⟩ := h
        refine wp_icmp_eq (tgt := 46) dX8_depth_30 (by decide) hr20 (by unfold qR; omega) (fun c21 => ?_) (fun c21 => ?_)
        · replace h := h.1 c21
          refine wp_iload_n dX8_depth_46 rfl ?_
          exact wp_ret_i dX8_depth_47 rfl rfl h
        · replace h := h.2 c21
          refine wp_nmT (x12 + 1) (fun x22 hx23 => ?_)
          replace h := h x22 hx23
          refine wp_iinc' (z' := x22) (ls' := [some (vr a0), some (vi a1), some (vi x22), some (vi x13)]) dX8_depth_33 (Nat.le_of_ble_eq_true rfl) rfl hx23 rfl ?_
          refine wp_aload_n dX8_depth_36 rfl ?_
          refine wp_get (v := vr (gP σ6 339 a0)) dX8_depth_37 fl_RX8_56 (by rw [hs7]; exact hk2) rfl ?_
          refine wp_iload_n dX8_depth_40 rfl ?_
          obtain ⟨hi24, h⟩ := h
          refine wp_iaload dX8_depth_41 ha8 hi24 ?_
          refine wp_nmI (fun x25 hx26 => ?_)
          replace h := h x25 hx26
          refine wp_istore_n' (ls' := [some (vr a0), some (vi a1), some (vi x22), some (vi x25)]) dX8_depth_42 (Nat.le_of_ble_eq_true rfl) rfl ?_
          refine wp_goto (tgt := 28) dX8_depth_43 (by decide) ?_
          obtain ⟨n27, hlt, h⟩ := h
          exact wp_lsub (ls' := [some (vr a0), some (vi a1), some (vi x22), some (vi x25)]) ⟨rfl, ⟨rfl, ⟨rfl, ⟨rfl, trivial⟩⟩⟩⟩ (ih16 n27 hlt _ _ h)
    exact wp_lsub (ls' := [some (vr a0), some (vi a1), some (vi 0), some (vi x10)]) ⟨rfl, ⟨rfl, ⟨rfl, ⟨rfl, trivial⟩⟩⟩⟩ (loop28 _ _ _ h019)
  · replace h := h.2 c5
    refine wp_aload_n dX8_depth_8 rfl ?_
    refine wp_iconst dX8_depth_9 ?_
    obtain ⟨Mid30, hm29, hk32⟩ := h
    refine wp_callV (M' := M_X8_fails) (As := [vi 1]) (st := []) (ci := 8) dX8_depth_10 cee_X8_fails np_X8_fails rfl ⟨Nat.le_of_ble_eq_true rfl, Nat.le_of_ble_eq_true rfl, Nat.le_of_ble_eq_true rfl, Nat.le_of_ble_eq_true rfl⟩ wd_1347 wd_1349 sel_X8_fails rfl (Or.inl hk2) (q_small_of (Nat.le_of_ble_eq_true rfl)) hm29 (q_kTi0 (fun σ34 v36 hM35 => ?_)) q_kTi00
    refine wp_less (ac2 := 0) (as2 := 0) (Nat.le_of_ble_eq_true rfl) (Nat.le_of_ble_eq_true rfl) ?_
    have h := hk32 σ34 v36 hM35
    exact wp_ret_i dX8_depth_13 rfl rfl h

set_option maxRecDepth 100000 in
set_option maxHeartbeats 4000000 in
theorem wm_X8_spread {g : qG} {l : Launch} (hl : l.stackTraces = false) {a0 : Nat} {a1 : Int} {σ : qS} {Post : qS → qRs → Prop}
    (h : gK σ a0 = 9 ∧ (∃ v3 : Int, qMet g l M_X8_isPage [vr a0, vi a1] σ (qPi σ v3) ∧ (qR v3 ∧ ((v3 = 0 → (∀ σ6 : qS, σ6 = sI σ 320 a0 1 → Post σ6 (.inl (some (vi 0))))) ∧ (¬ (v3 = 0) → (∃ v9 : Int, qMet g l M_X8_isPage [vr a0, vi (a1 + 1)] σ (qPi σ v9) ∧ (((qR v9) ∧ ∀ v12 : Int, v12 = (if v9 = 0 then 1 else 0) → (∀ σ18 : qS, σ18 = sI σ 320 a0 v12 → ((v12 ≤ 0 → ((qR a1 ∧ ((a1 ≤ 0 → q_isA σ18 1 (gP σ18 327 a0) ∧ q_in σ18 (gP σ18 327 a0) (a1 + 1) ∧ qR (gA σ18 (gP σ18 327 a0) (a1 + 1))) ∧ (¬ (a1 ≤ 0) → q_isA σ18 1 (gP σ18 327 a0) ∧ q_in σ18 (gP σ18 327 a0) (a1 - 1) ∧ qR (gA σ18 (gP σ18 327 a0) (a1 - 1)) ∧ ((gA σ18 (gP σ18 327 a0) (a1 - 1)) = 0 → q_in σ18 (gP σ18 327 a0) (a1 + 1) ∧ qR (gA σ18 (gP σ18 327 a0) (a1 + 1)))))) ∧ ∀ v34 : Int, v34 = (if a1 ≤ 0 then (if (gA σ18 (gP σ18 327 a0) (a1 + 1)) = 0 then 0 else 1) else (if ¬ (gA σ18 (gP σ18 327 a0) (a1 - 1)) = 0 then 1 else (if (gA σ18 (gP σ18 327 a0) (a1 + 1)) = 0 then 0 else 1))) → q_isA σ18 1 (gP σ18 327 a0) ∧ q_in σ18 (gP σ18 327 a0) a1 ∧ qR (gA σ18 (gP σ18 327 a0) a1) ∧ ((¬ (gA σ18 (gP σ18 327 a0) a1) = 0 → (∀ v45 : Int, v45 = (if ¬ (gA σ18 (gP σ18 327 a0) a1) = 0 then 0 else 1) → gK σ18 (gP σ18 327 a0) = 21 ∧ (∀ σ52 : qS, σ52 = sA σ18 (gP σ18 327 a0) a1 v45 → q_isA σ52 1 (gP σ52 327 a0) ∧ q_in σ52 (gP σ52 327 a0) a1 ∧ ((gA σ52 (gP σ52 327 a0) a1) = 0 ∨ (gA σ52 (gP σ52 327 a0) a1) = 1) ∧ Post σ52 (.inl (some (vi (gA σ52 (gP σ52 327 a0) a1))))))) ∧ ((gA σ18 (gP σ18 327 a0) a1) = 0 → ((v34 = 0 → (∀ v60 : Int, v60 = (if ¬ (gA σ18 (gP σ18 327 a0) a1) = 0 then 0 else 1) → gK σ18 (gP σ18 327 a0) = 21 ∧ (∀ σ67 : qS, σ67 = sA σ18 (gP σ18 327 a0) a1 v60 → q_isA σ67 1 (gP σ67 327 a0) ∧ q_in σ67 (gP σ67 327 a0) a1 ∧ ((gA σ67 (gP σ67 327 a0) a1) = 0 ∨ (gA σ67 (gP σ67 327 a0) a1) = 1) ∧ Post σ67 (.inl (some (vi (gA σ67 (gP σ67 327 a0) a1))))))) ∧ (¬ (v34 = 0) → (∀ σ73 : qS, σ73 = sI σ18 320 a0 2 → Post σ73 (.inl (some (vi 0)))))))))) ∧ (¬ (v12 ≤ 0) → Post σ18 (.inl (some (vi 0)))))))))))))) : qMet g l M_X8_spread [vr a0, vi a1] σ Post := by
  refine qMet_of hl (by decide +kernel) (Nat.le_of_ble_eq_true rfl) (List.forall_mem_cons.mpr ⟨trivial, List.forall_mem_cons.mpr ⟨trivial, fun _ h => nomatch h⟩⟩) ?_
  show qW g l M_X8_spread 0 0 0 [some (vr a0), some (vi a1), none] [] σ Post
  refine wp_aload_n dX8_spread_0 rfl ?_
  refine wp_aload_n dX8_spread_1 rfl ?_
  refine wp_iload_n dX8_spread_2 rfl ?_
  obtain ⟨hk2, h⟩ := h
  obtain ⟨v3, hm1, h⟩ := h
  refine wp_callV (M' := M_X8_isPage) (As := [vi a1]) (st := [vr a0]) (ci := 8) dX8_spread_3 cee_X8_isPage np_X8_isPage rfl ⟨Nat.le_of_ble_eq_true rfl, Nat.le_of_ble_eq_true rfl, Nat.le_of_ble_eq_true rfl, Nat.le_of_ble_eq_true rfl⟩ wd_1340 wd_1342 sel_X8_isPage rfl (Or.inl hk2) (q_small_of (Nat.le_of_ble_eq_true rfl)) hm1 (q_kPi ?_) q_kPi0
  refine wp_less (ac2 := 0) (as2 := 0) (Nat.le_of_ble_eq_true rfl) (Nat.le_of_ble_eq_true rfl) ?_
  obtain ⟨hr4, h⟩ := h
  refine wp_if_eq (tgt := 23) dX8_spread_6 (by decide) hr4 (fun c5 => ?_) (fun c5 => ?_)
  · replace h := h.1 c5
    refine wp_iconst dX8_spread_23 ?_
    refine wp_put (v := vi 1) dX8_spread_24 fs_RX8_108 (fun h => absurd h (by decide)) hk2 (Or.inl rfl) ?_
    refine wp_nmS (fun σ6 hs7 => ?_)
    replace h := h σ6 hs7
    refine wp_aload_n dX8_spread_27 rfl ?_
    refine wp_get (v := vi 1) dX8_spread_28 fl_RX8_108 (by rw [hs7]; exact hk2) (by rw [hs7]; exact q_memI) ?_
    refine wp_if_le (tgt := 36) dX8_spread_31 (by decide) (by unfold qR; omega) (fun c9 => absurd c9 (by decide)) (fun _ => ?_)
    refine wp_iconst dX8_spread_34 ?_
    exact wp_ret_z dX8_spread_35 rfl (Or.inl rfl) h
  · replace h := h.2 c5
    refine wp_aload_n dX8_spread_9 rfl ?_
    refine wp_iload_n dX8_spread_10 rfl ?_
    refine wp_iconst dX8_spread_11 ?_
    refine wp_iadd dX8_spread_12 ?_
    obtain ⟨v9, hm8, h⟩ := h
    refine wp_callV (M' := M_X8_isPage) (As := [vi (a1 + 1)]) (st := [vr a0]) (ci := 8) dX8_spread_13 cee_X8_isPage np_X8_isPage rfl ⟨Nat.le_of_ble_eq_true rfl, Nat.le_of_ble_eq_true rfl, Nat.le_of_ble_eq_true rfl, Nat.le_of_ble_eq_true rfl⟩ wd_1340 wd_1342 sel_X8_isPage rfl (Or.inl hk2) (q_small_of (Nat.le_of_ble_eq_true rfl)) hm8 (q_kPi ?_) q_kPi0
    refine wp_less (ac2 := 0) (as2 := 0) (Nat.le_of_ble_eq_true rfl) (Nat.le_of_ble_eq_true rfl) ?_
    obtain ⟨h, hk15⟩ := h
    have key14 : ∀ v12 : Int, v12 = (if v9 = 0 then 1 else 0) → qW g l M_X8_spread 0 0 24 [some (vr a0), some (vi a1), none] [vi v12, vr a0] σ Post := by
      intro v12 hv13
      have h := hk15 v12 hv13
      have hr16 : qR v12 := by (rw [hv13]; unfold qR; repeat' split) <;> omega
      have hz17 : v12 = 0 ∨ v12 = 1 := by (rw [hv13]; repeat' split) <;> first | exact Or.inl rfl | exact Or.inr rfl
      refine wp_put (v := vi v12) dX8_spread_24 fs_RX8_108 (fun h => absurd h (by decide)) hk2 (Or.inl rfl) ?_
      refine wp_nmS (fun σ18 hs19 => ?_)
      replace h := h σ18 hs19
      refine wp_aload_n dX8_spread_27 rfl ?_
      refine wp_get (v := vi v12) dX8_spread_28 fl_RX8_108 (by rw [hs19]; exact hk2) (by rw [hs19]; exact q_memI) ?_
      refine wp_if_le (tgt := 36) dX8_spread_31 (by decide) hr16 (fun c20 => ?_) (fun c20 => ?_)
      · replace h := h.1 c20
        refine wp_iload_n dX8_spread_36 rfl ?_
        obtain ⟨h, hk37⟩ := h
        have key36 : ∀ v34 : Int, v34 = (if a1 ≤ 0 then (if (gA σ18 (gP σ18 327 a0) (a1 + 1)) = 0 then 0 else 1) else (if ¬ (gA σ18 (gP σ18 327 a0) (a1 - 1)) = 0 then 1 else (if (gA σ18 (gP σ18 327 a0) (a1 + 1)) = 0 then 0 else 1))) → qW g l M_X8_spread 0 0 67 [some (vr a0), some (vi a1), none] [vi v34] σ18 Post := by
          intro v34 hv35
          have h := hk37 v34 hv35
          have hr38 : qR v34 := by (rw [hv35]; unfold qR; repeat' split) <;> omega
          have hz39 : v34 = 0 ∨ v34 = 1 := by (rw [hv35]; repeat' split) <;> first | exact Or.inl rfl | exact Or.inr rfl
          refine wp_istore_n' (ls' := [some (vr a0), some (vi a1), some (vi v34)]) dX8_spread_67 (Nat.le_of_ble_eq_true rfl) rfl ?_
          refine wp_aload_n dX8_spread_68 rfl ?_
          refine wp_get (v := vr (gP σ18 327 a0)) dX8_spread_69 fl_RX8_19 (by rw [hs19]; exact hk2) rfl ?_
          refine wp_iload_n dX8_spread_72 rfl ?_
          obtain ⟨ha40, hi41, h⟩ := h
          refine wp_baload dX8_spread_73 ha40 hi41 ?_
          obtain ⟨hr42, h⟩ := h
          refine wp_if_ne (tgt := 88) dX8_spread_74 (by decide) hr42 (fun c43 => ?_) (fun c43 => ?_)
          · replace h := h.1 c43
            refine wp_aload_n dX8_spread_88 rfl ?_
            refine wp_get (v := vr (gP σ18 327 a0)) dX8_spread_89 fl_RX8_19 (by rw [hs19]; exact hk2) rfl ?_
            refine wp_iload_n dX8_spread_92 rfl ?_
            refine wp_aload_n dX8_spread_93 rfl ?_
            refine wp_get (v := vr (gP σ18 327 a0)) dX8_spread_94 fl_RX8_19 (by rw [hs19]; exact hk2) rfl ?_
            refine wp_iload_n dX8_spread_97 rfl ?_
            refine wp_baload dX8_spread_98 ha40 hi41 ?_
            have key47 : ∀ v45 : Int, v45 = (if ¬ (gA σ18 (gP σ18 327 a0) a1) = 0 then 0 else 1) → qW g l M_X8_spread 0 0 107 [some (vr a0), some (vi a1), some (vi v34)] [vi v45, vi a1, vr (gP σ18 327 a0)] σ18 Post := by
              intro v45 hv46
              replace h := h v45 hv46
              have hr49 : qR v45 := by (rw [hv46]; unfold qR; repeat' split) <;> omega
              have hz50 : v45 = 0 ∨ v45 = 1 := by (rw [hv46]; repeat' split) <;> first | exact Or.inl rfl | exact Or.inr rfl
              obtain ⟨hk51, h⟩ := h
              refine wp_bastore dX8_spread_107 hk51 hi41 hz50 ?_
              refine wp_nmS (fun σ52 hs53 => ?_)
              replace h := h σ52 hs53
              refine wp_aload_n dX8_spread_108 rfl ?_
              refine wp_get (v := vr (gP σ52 327 a0)) dX8_spread_109 fl_RX8_19 (by rw [hs53, hs19]; exact hk2) rfl ?_
              refine wp_iload_n dX8_spread_112 rfl ?_
              obtain ⟨ha54, hi55, h⟩ := h
              refine wp_baload dX8_spread_113 ha54 hi55 ?_
              obtain ⟨hv56, h⟩ := h
              exact wp_ret_z dX8_spread_114 rfl hv56 h
            refine wp_if_ne (tgt := 106) dX8_spread_99 (by decide) hr42 (fun c57 => ?_) (fun c57 => ?_)
            · refine wp_iconst dX8_spread_106 ?_
              exact key47 _ (by rw [if_pos c57])
            · refine wp_iconst dX8_spread_102 ?_
              refine wp_goto (tgt := 107) dX8_spread_103 (by decide) ?_
              exact key47 _ (by rw [if_neg (fun z => z c57)])
          · replace h := h.2 c43
            refine wp_iload_n dX8_spread_77 rfl ?_
            refine wp_if_eq (tgt := 88) dX8_spread_78 (by decide) hr38 (fun c58 => ?_) (fun c58 => ?_)
            · replace h := h.1 c58
              refine wp_aload_n dX8_spread_88 rfl ?_
              refine wp_get (v := vr (gP σ18 327 a0)) dX8_spread_89 fl_RX8_19 (by rw [hs19]; exact hk2) rfl ?_
              refine wp_iload_n dX8_spread_92 rfl ?_
              refine wp_aload_n dX8_spread_93 rfl ?_
              refine wp_get (v := vr (gP σ18 327 a0)) dX8_spread_94 fl_RX8_19 (by rw [hs19]; exact hk2) rfl ?_
              refine wp_iload_n dX8_spread_97 rfl ?_
              refine wp_baload dX8_spread_98 ha40 hi41 ?_
              have key62 : ∀ v60 : Int, v60 = (if ¬ (gA σ18 (gP σ18 327 a0) a1) = 0 then 0 else 1) → qW g l M_X8_spread 0 0 107 [some (vr a0), some (vi a1), some (vi v34)] [vi v60, vi a1, vr (gP σ18 327 a0)] σ18 Post := by
                intro v60 hv61
                replace h := h v60 hv61
                have hr64 : qR v60 := by (rw [hv61]; unfold qR; repeat' split) <;> omega
                have hz65 : v60 = 0 ∨ v60 = 1 := by (rw [hv61]; repeat' split) <;> first | exact Or.inl rfl | exact Or.inr rfl
                obtain ⟨hk66, h⟩ := h
                refine wp_bastore dX8_spread_107 hk66 hi41 hz65 ?_
                refine wp_nmS (fun σ67 hs68 => ?_)
                replace h := h σ67 hs68
                refine wp_aload_n dX8_spread_108 rfl ?_
                refine wp_get (v := vr (gP σ67 327 a0)) dX8_spread_109 fl_RX8_19 (by rw [hs68, hs19]; exact hk2) rfl ?_
                refine wp_iload_n dX8_spread_112 rfl ?_
                obtain ⟨ha69, hi70, h⟩ := h
                refine wp_baload dX8_spread_113 ha69 hi70 ?_
                obtain ⟨hv71, h⟩ := h
                exact wp_ret_z dX8_spread_114 rfl hv71 h
              refine wp_if_ne (tgt := 106) dX8_spread_99 (by decide) hr42 (fun c72 => ?_) (fun c72 => ?_)
              · refine wp_iconst dX8_spread_106 ?_
                exact key62 _ (by rw [if_pos c72])
              · refine wp_iconst dX8_spread_102 ?_
                refine wp_goto (tgt := 107) dX8_spread_103 (by decide) ?_
                exact key62 _ (by rw [if_neg (fun z => z c72)])
            · replace h := h.2 c58
              refine wp_aload_n dX8_spread_81 rfl ?_
              refine wp_iconst dX8_spread_82 ?_
              refine wp_put (v := vi 2) dX8_spread_83 fs_RX8_108 (fun h => absurd h (by decide)) (by rw [hs19]; exact hk2) (Or.inl rfl) ?_
              refine wp_nmS (fun σ73 hs74 => ?_)
              replace h := h σ73 hs74
              refine wp_iconst dX8_spread_86 ?_
              exact wp_ret_z dX8_spread_87 rfl (Or.inl rfl) h
        obtain ⟨hr75, h⟩ := h
        refine wp_if_le (tgt := 51) dX8_spread_37 (by decide) hr75 (fun c76 => ?_) (fun c76 => ?_)
        · replace h := h.1 c76
          refine wp_aload_n dX8_spread_51 rfl ?_
          refine wp_get (v := vr (gP σ18 327 a0)) dX8_spread_52 fl_RX8_19 (by rw [hs19]; exact hk2) rfl ?_
          refine wp_iload_n dX8_spread_55 rfl ?_
          refine wp_iconst dX8_spread_56 ?_
          refine wp_iadd dX8_spread_57 ?_
          obtain ⟨ha77, hi78, h⟩ := h
          refine wp_baload dX8_spread_58 ha77 hi78 ?_
          have hr79 := h
          refine wp_if_eq (tgt := 66) dX8_spread_59 (by decide) hr79 (fun c80 => ?_) (fun c80 => ?_)
          · refine wp_iconst dX8_spread_66 ?_
            exact key36 _ (by rw [if_pos c76, if_pos c80])
          · refine wp_iconst dX8_spread_62 ?_
            refine wp_goto (tgt := 67) dX8_spread_63 (by decide) ?_
            exact key36 _ (by rw [if_pos c76, if_neg c80])
        · replace h := h.2 c76
          refine wp_aload_n dX8_spread_40 rfl ?_
          refine wp_get (v := vr (gP σ18 327 a0)) dX8_spread_41 fl_RX8_19 (by rw [hs19]; exact hk2) rfl ?_
          refine wp_iload_n dX8_spread_44 rfl ?_
          refine wp_iconst dX8_spread_45 ?_
          refine wp_isub dX8_spread_46 ?_
          obtain ⟨ha81, hi82, h⟩ := h
          refine wp_baload dX8_spread_47 ha81 hi82 ?_
          obtain ⟨hr83, h⟩ := h
          refine wp_if_ne (tgt := 62) dX8_spread_48 (by decide) hr83 (fun c84 => ?_) (fun c84 => ?_)
          · refine wp_iconst dX8_spread_62 ?_
            refine wp_goto (tgt := 67) dX8_spread_63 (by decide) ?_
            exact key36 _ (by rw [if_neg c76, if_pos c84])
          · replace h := h c84
            refine wp_aload_n dX8_spread_51 rfl ?_
            refine wp_get (v := vr (gP σ18 327 a0)) dX8_spread_52 fl_RX8_19 (by rw [hs19]; exact hk2) rfl ?_
            refine wp_iload_n dX8_spread_55 rfl ?_
            refine wp_iconst dX8_spread_56 ?_
            refine wp_iadd dX8_spread_57 ?_
            obtain ⟨hi85, h⟩ := h
            refine wp_baload dX8_spread_58 ha81 hi85 ?_
            have hr86 := h
            refine wp_if_eq (tgt := 66) dX8_spread_59 (by decide) hr86 (fun c87 => ?_) (fun c87 => ?_)
            · refine wp_iconst dX8_spread_66 ?_
              exact key36 _ (by rw [if_neg c76, if_neg (fun z => z c84), if_pos c87])
            · refine wp_iconst dX8_spread_62 ?_
              refine wp_goto (tgt := 67) dX8_spread_63 (by decide) ?_
              exact key36 _ (by rw [if_neg c76, if_neg (fun z => z c84), if_neg c87])
      · replace h := h.2 c20
        refine wp_iconst dX8_spread_34 ?_
        exact wp_ret_z dX8_spread_35 rfl (Or.inl rfl) h
    have hr88 := h
    refine wp_if_eq (tgt := 23) dX8_spread_16 (by decide) hr88 (fun c89 => ?_) (fun c89 => ?_)
    · refine wp_iconst dX8_spread_23 ?_
      exact key14 _ (by rw [if_pos c89])
    · refine wp_iconst dX8_spread_19 ?_
      refine wp_goto (tgt := 24) dX8_spread_20 (by decide) ?_
      exact key14 _ (by rw [if_neg c89])

set_option maxRecDepth 100000 in
set_option maxHeartbeats 4000000 in
theorem wm_X8_isSize {g : qG} {l : Launch} (hl : l.stackTraces = false) {a0 : Int} {σ : qS} {Post : qS → qRs → Prop}
    (h : ((qR a0) ∧ ∀ v6 : Int, v6 = (if a0 = 4 then 1 else (if a0 = 8 then 1 else (if a0 = 12 then 1 else (if ¬ a0 = 16 then 0 else 1)))) → Post σ (.inl (some (vi v6))))) : qMet g l M_X8_isSize [vi a0] σ Post := by
  refine qMet_of hl (by decide +kernel) (Nat.le_of_ble_eq_true rfl) (List.forall_mem_cons.mpr ⟨trivial, fun _ h => nomatch h⟩) ?_
  show qW g l M_X8_isSize 0 0 0 [some (vi a0)] [] σ Post
  refine wp_iload_n dX8_isSize_0 rfl ?_
  refine wp_iconst dX8_isSize_1 ?_
  obtain ⟨h, hk9⟩ := h
  have key8 : ∀ v6 : Int, v6 = (if a0 = 4 then 1 else (if a0 = 8 then 1 else (if a0 = 12 then 1 else (if ¬ a0 = 16 then 0 else 1)))) → qW g l M_X8_isSize 0 0 28 [some (vi a0)] [vi v6] σ Post := by
    intro v6 hv7
    have h := hk9 v6 hv7
    have hr10 : qR v6 := by (rw [hv7]; unfold qR; repeat' split) <;> omega
    have hz11 : v6 = 0 ∨ v6 = 1 := by (rw [hv7]; repeat' split) <;> first | exact Or.inl rfl | exact Or.inr rfl
    exact wp_ret_z dX8_isSize_28 rfl hz11 h
  have hr12 := h
  refine wp_icmp_eq (tgt := 23) dX8_isSize_2 (by decide) hr12 (by unfold qR; omega) (fun c13 => ?_) (fun c13 => ?_)
  · refine wp_iconst dX8_isSize_23 ?_
    refine wp_goto (tgt := 28) dX8_isSize_24 (by decide) ?_
    exact key8 _ (by rw [if_pos c13])
  · refine wp_iload_n dX8_isSize_5 rfl ?_
    refine wp_bipush dX8_isSize_6 (by decide) ?_
    refine wp_icmp_eq (tgt := 23) dX8_isSize_8 (by decide) hr12 (by unfold qR; omega) (fun c14 => ?_) (fun c14 => ?_)
    · refine wp_iconst dX8_isSize_23 ?_
      refine wp_goto (tgt := 28) dX8_isSize_24 (by decide) ?_
      exact key8 _ (by rw [if_neg c13, if_pos c14])
    · refine wp_iload_n dX8_isSize_11 rfl ?_
      refine wp_bipush dX8_isSize_12 (by decide) ?_
      refine wp_icmp_eq (tgt := 23) dX8_isSize_14 (by decide) hr12 (by unfold qR; omega) (fun c15 => ?_) (fun c15 => ?_)
      · refine wp_iconst dX8_isSize_23 ?_
        refine wp_goto (tgt := 28) dX8_isSize_24 (by decide) ?_
        exact key8 _ (by rw [if_neg c13, if_neg c14, if_pos c15])
      · refine wp_iload_n dX8_isSize_17 rfl ?_
        refine wp_bipush dX8_isSize_18 (by decide) ?_
        refine wp_icmp_ne (tgt := 27) dX8_isSize_20 (by decide) hr12 (by unfold qR; omega) (fun c16 => ?_) (fun c16 => ?_)
        · refine wp_iconst dX8_isSize_27 ?_
          exact key8 _ (by rw [if_neg c13, if_neg c14, if_neg c15, if_pos c16])
        · refine wp_iconst dX8_isSize_23 ?_
          refine wp_goto (tgt := 28) dX8_isSize_24 (by decide) ?_
          exact key8 _ (by rw [if_neg c13, if_neg c14, if_neg c15, if_neg (fun z => z c16)])

set_option maxRecDepth 100000 in
set_option maxHeartbeats 4000000 in
theorem wm_X8_leafOf {g : qG} {l : Launch} (hl : l.stackTraces = false) {a0 : Nat} {a1 : Int} {a2 : Int} {σ : qS} {Post : qS → qRs → Prop}
    (h : ∃ Inv3 : Nat → Int → Int → Prop, (∃ n : Nat, Inv3 n 0 0) ∧ ∀ (n4 : Nat) (x1 : Int) (x2 : Int), Inv3 n4 x1 x2 → (qR x2 ∧ qR a1 ∧ ((a1 ≤ x2 → gK σ a0 = 9 ∧ qR (gI σ 321 a0) ∧ (((gI σ 321 a0) ≤ a1 → Post σ (.inl (some (vi x1)))) ∧ (¬ ((gI σ 321 a0) ≤ a1) → (∃ v16 : Int, qMet g l M_X8_moved [vr a0, vi a1, vi x1, vi a2] σ (qPi σ v16) ∧ (Post σ (.inl (some (vi v16)))))))) ∧ (¬ (a1 ≤ x2) → gK σ a0 = 9 ∧ (∃ v19 : Int, qMet g l M_X8_moved [vr a0, vi x2, vi x1, vi a2] σ (qPi σ v19) ∧ (∀ x20 : Int, x20 = v19 + 1 → ∀ x22 : Int, x22 = x2 + 1 → ∃ n24 : Nat, n24 < n4 ∧ Inv3 n24 x20 x22)))))) : qMet g l M_X8_leafOf [vr a0, vi a1, vi a2] σ Post := by
  refine qMet_of hl (by decide +kernel) (Nat.le_of_ble_eq_true rfl) (List.forall_mem_cons.mpr ⟨trivial, List.forall_mem_cons.mpr ⟨trivial, List.forall_mem_cons.mpr ⟨trivial, fun _ h => nomatch h⟩⟩⟩) ?_
  show qW g l M_X8_leafOf 0 0 0 [some (vr a0), some (vi a1), some (vi a2), none, none] [] σ Post
  refine wp_iconst dX8_leafOf_0 ?_
  refine wp_istore_n' (ls' := [some (vr a0), some (vi a1), some (vi a2), some (vi 0), none]) dX8_leafOf_1 (Nat.le_of_ble_eq_true rfl) rfl ?_
  refine wp_iconst dX8_leafOf_2 ?_
  refine wp_istore' (ls' := [some (vr a0), some (vi a1), some (vi a2), some (vi 0), some (vi 0)]) dX8_leafOf_3 (Nat.le_of_ble_eq_true rfl) rfl ?_
  obtain ⟨Inv3, ⟨n4_0, h08⟩, hb7⟩ := h
  have loop25 : ∀ (n4 : Nat) (x1 : Int) (x2 : Int), Inv3 n4 x1 x2 → qW g l M_X8_leafOf 0 0 5 [some (vr a0), some (vi a1), some (vi a2), some (vi x1), some (vi x2)] [] σ Post := by
    intro n4
    induction n4 using Nat.strongRecOn with
    | ind n4 ih5 =>
      intro x1 x2 hI6
      have h := hb7 n4 x1 x2 hI6
      refine wp_iload dX8_leafOf_5 rfl ?_
      refine wp_iload_n dX8_leafOf_7 rfl ?_
      obtain ⟨hr9, hr10, h⟩ := h
      refine wp_icmp_ge (tgt := 28) dX8_leafOf_8 (by decide) hr9 hr10 (fun c11 => ?_) (fun c11 => ?_)
      · replace h := h.1 c11
        refine wp_iload_n dX8_leafOf_28 rfl ?_
        refine wp_aload_n dX8_leafOf_29 rfl ?_
        obtain ⟨hk12, h⟩ := h
        refine wp_get (v := vi (gI σ 321 a0)) dX8_leafOf_30 fl_RX8_111 hk12 rfl ?_
        obtain ⟨hr13, h⟩ := h
        refine wp_icmp_ge (tgt := 46) dX8_leafOf_33 (by decide) hr10 hr13 (fun c14 => ?_) (fun c14 => ?_)
        · replace h := h.1 c14
          refine wp_iload_n dX8_leafOf_46 rfl ?_
          exact wp_ret_i dX8_leafOf_47 rfl rfl h
        · replace h := h.2 c14
          refine wp_aload_n dX8_leafOf_36 rfl ?_
          refine wp_iload_n dX8_leafOf_37 rfl ?_
          refine wp_iload_n dX8_leafOf_38 rfl ?_
          refine wp_iload_n dX8_leafOf_39 rfl ?_
          obtain ⟨v16, hm15, h⟩ := h
          refine wp_callV (M' := M_X8_moved) (As := [vi a1, vi x1, vi a2]) (st := []) (ci := 8) dX8_leafOf_40 cee_X8_moved np_X8_moved rfl ⟨Nat.le_of_ble_eq_true rfl, Nat.le_of_ble_eq_true rfl, Nat.le_of_ble_eq_true rfl, Nat.le_of_ble_eq_true rfl⟩ wd_1535 wd_1537 sel_X8_moved rfl (Or.inl hk12) (q_small_of (Nat.le_of_ble_eq_true rfl)) hm15 (q_kPi ?_) q_kPi0
          refine wp_less (ac2 := 0) (as2 := 0) (Nat.le_of_ble_eq_true rfl) (Nat.le_of_ble_eq_true rfl) ?_
          refine wp_goto (tgt := 47) dX8_leafOf_43 (by decide) ?_
          exact wp_ret_i dX8_leafOf_47 rfl rfl h
      · replace h := h.2 c11
        refine wp_aload_n dX8_leafOf_11 rfl ?_
        refine wp_iload dX8_leafOf_12 rfl ?_
        refine wp_iload_n dX8_leafOf_14 rfl ?_
        refine wp_iload_n dX8_leafOf_15 rfl ?_
        obtain ⟨hk18, h⟩ := h
        obtain ⟨v19, hm17, h⟩ := h
        refine wp_callV (M' := M_X8_moved) (As := [vi x2, vi x1, vi a2]) (st := []) (ci := 8) dX8_leafOf_16 cee_X8_moved np_X8_moved rfl ⟨Nat.le_of_ble_eq_true rfl, Nat.le_of_ble_eq_true rfl, Nat.le_of_ble_eq_true rfl, Nat.le_of_ble_eq_true rfl⟩ wd_1535 wd_1537 sel_X8_moved rfl (Or.inl hk18) (q_small_of (Nat.le_of_ble_eq_true rfl)) hm17 (q_kPi ?_) q_kPi0
        refine wp_less (ac2 := 0) (as2 := 0) (Nat.le_of_ble_eq_true rfl) (Nat.le_of_ble_eq_true rfl) ?_
        refine wp_iconst dX8_leafOf_19 ?_
        refine wp_iadd dX8_leafOf_20 ?_
        refine wp_nmI (fun x20 hx21 => ?_)
        replace h := h x20 hx21
        refine wp_istore_n' (ls' := [some (vr a0), some (vi a1), some (vi a2), some (vi x20), some (vi x2)]) dX8_leafOf_21 (Nat.le_of_ble_eq_true rfl) rfl ?_
        refine wp_nmT (x2 + 1) (fun x22 hx23 => ?_)
        replace h := h x22 hx23
        refine wp_iinc' (z' := x22) (ls' := [some (vr a0), some (vi a1), some (vi a2), some (vi x20), some (vi x22)]) dX8_leafOf_22 (Nat.le_of_ble_eq_true rfl) rfl hx23 rfl ?_
        refine wp_goto (tgt := 5) dX8_leafOf_25 (by decide) ?_
        obtain ⟨n24, hlt, h⟩ := h
        exact wp_lsub (ls' := [some (vr a0), some (vi a1), some (vi a2), some (vi x20), some (vi x22)]) ⟨rfl, ⟨rfl, ⟨rfl, ⟨rfl, ⟨rfl, trivial⟩⟩⟩⟩⟩ (ih5 n24 hlt _ _ h)
  exact wp_lsub (ls' := [some (vr a0), some (vi a1), some (vi a2), some (vi 0), some (vi 0)]) ⟨rfl, ⟨rfl, ⟨rfl, ⟨rfl, ⟨rfl, trivial⟩⟩⟩⟩⟩ (loop25 _ _ _ h08)

set_option maxRecDepth 100000 in
set_option maxHeartbeats 4000000 in
theorem wm_X8_moved {g : qG} {l : Launch} (hl : l.stackTraces = false) {a0 : Nat} {a1 : Int} {a2 : Int} {a3 : Int} {σ : qS} {Post : qS → qRs → Prop}
    (h : ∃ Inv2 : Nat → Int → Prop, (∃ n : Nat, Inv2 n a2) ∧ ∀ (n3 : Nat) (x1 : Int), Inv2 n3 x1 → (gK σ a0 = 9 ∧ q_isA σ 1 (gP σ 327 a0) ∧ q_in σ (gP σ 327 a0) a1 ∧ qR (gA σ (gP σ 327 a0) a1) ∧ (((gA σ (gP σ 327 a0) a1) = 0 → Post σ (.inl (some (vi x1)))) ∧ (¬ ((gA σ (gP σ 327 a0) a1) = 0) → (0 ≤ x1 ∧ x1 < 2147483648) ∧ (0 < a3 ∧ a3 < 2147483648) ∧ (0 ≤ a3 ∧ a3 < 2147483648) ∧ qR (x1 % a3) ∧ qR ((a3 / 2) - 1) ∧ (((x1 % a3) = ((a3 / 2) - 1) → Post σ (.inl (some (vi x1)))) ∧ (¬ ((x1 % a3) = ((a3 / 2) - 1)) → ∀ x19 : Int, x19 = x1 + 1 → ∃ n21 : Nat, n21 < n3 ∧ Inv2 n21 x19)))))) : qMet g l M_X8_moved [vr a0, vi a1, vi a2, vi a3] σ Post := by
  refine qMet_of hl (by decide +kernel) (Nat.le_of_ble_eq_true rfl) (List.forall_mem_cons.mpr ⟨trivial, List.forall_mem_cons.mpr ⟨trivial, List.forall_mem_cons.mpr ⟨trivial, List.forall_mem_cons.mpr ⟨trivial, fun _ h => nomatch h⟩⟩⟩⟩) ?_
  show qW g l M_X8_moved 0 0 0 [some (vr a0), some (vi a1), some (vi a2), some (vi a3), none] [] σ Post
  refine wp_iload_n dX8_moved_0 rfl ?_
  refine wp_istore' (ls' := [some (vr a0), some (vi a1), some (vi a2), some (vi a3), some (vi a2)]) dX8_moved_1 (Nat.le_of_ble_eq_true rfl) rfl ?_
  obtain ⟨Inv2, ⟨n3_0, h07⟩, hb6⟩ := h
  have loop22 : ∀ (n3 : Nat) (x1 : Int), Inv2 n3 x1 → qW g l M_X8_moved 0 0 3 [some (vr a0), some (vi a1), some (vi a2), some (vi a3), some (vi x1)] [] σ Post := by
    intro n3
    induction n3 using Nat.strongRecOn with
    | ind n3 ih4 =>
      intro x1 hI5
      have h := hb6 n3 x1 hI5
      refine wp_aload_n dX8_moved_3 rfl ?_
      obtain ⟨hk8, h⟩ := h
      refine wp_get (v := vr (gP σ 327 a0)) dX8_moved_4 fl_RX8_19 hk8 rfl ?_
      refine wp_iload_n dX8_moved_7 rfl ?_
      obtain ⟨ha9, hi10, h⟩ := h
      refine wp_baload dX8_moved_8 ha9 hi10 ?_
      obtain ⟨hr11, h⟩ := h
      refine wp_if_eq (tgt := 30) dX8_moved_9 (by decide) hr11 (fun c12 => ?_) (fun c12 => ?_)
      · replace h := h.1 c12
        refine wp_iload dX8_moved_30 rfl ?_
        exact wp_ret_i dX8_moved_32 rfl rfl h
      · replace h := h.2 c12
        refine wp_iload dX8_moved_12 rfl ?_
        refine wp_iload_n dX8_moved_14 rfl ?_
        obtain ⟨hd13, hd14, h⟩ := h
        refine wp_irem dX8_moved_15 hd13 hd14 ?_
        refine wp_iload_n dX8_moved_16 rfl ?_
        refine wp_iconst dX8_moved_17 ?_
        obtain ⟨hd15, h⟩ := h
        refine wp_idiv dX8_moved_18 hd15 (by omega) ?_
        refine wp_iconst dX8_moved_19 ?_
        refine wp_isub dX8_moved_20 ?_
        obtain ⟨hr16, hr17, h⟩ := h
        refine wp_icmp_eq (tgt := 30) dX8_moved_21 (by decide) hr16 hr17 (fun c18 => ?_) (fun c18 => ?_)
        · replace h := h.1 c18
          refine wp_iload dX8_moved_30 rfl ?_
          exact wp_ret_i dX8_moved_32 rfl rfl h
        · replace h := h.2 c18
          refine wp_nmT (x1 + 1) (fun x19 hx20 => ?_)
          replace h := h x19 hx20
          refine wp_iinc' (z' := x19) (ls' := [some (vr a0), some (vi a1), some (vi a2), some (vi a3), some (vi x19)]) dX8_moved_24 (Nat.le_of_ble_eq_true rfl) rfl hx20 rfl ?_
          refine wp_goto (tgt := 3) dX8_moved_27 (by decide) ?_
          obtain ⟨n21, hlt, h⟩ := h
          exact wp_lsub (ls' := [some (vr a0), some (vi a1), some (vi a2), some (vi a3), some (vi x19)]) ⟨rfl, ⟨rfl, ⟨rfl, ⟨rfl, ⟨rfl, trivial⟩⟩⟩⟩⟩ (ih4 n21 hlt _ h)
  exact wp_lsub (ls' := [some (vr a0), some (vi a1), some (vi a2), some (vi a3), some (vi a2)]) ⟨rfl, ⟨rfl, ⟨rfl, ⟨rfl, ⟨rfl, trivial⟩⟩⟩⟩⟩ (loop22 _ _ h07)

set_option maxRecDepth 100000 in
set_option maxHeartbeats 4000000 in
theorem wm_X8_leaves {g : qG} {l : Launch} (hl : l.stackTraces = false) {a0 : Nat} {a1 : Int} {σ : qS} {Post : qS → qRs → Prop}
    (h : (∃ v2 : Int, qMet g l M_X8_isSize [vi a1] σ (qPi σ v2) ∧ (((qR v2) ∧ ∀ v5 : Int, v5 = (if v2 = 0 then 1 else 0) → gK σ a0 = 9 ∧ (∀ σ12 : qS, σ12 = sI σ 320 a0 v5 → ((v5 ≤ 0 → (∃ v16 : Int, qMet g l M_X8_leafOf [vr a0, vi (gI σ12 321 a0), vi a1] σ12 (qPi σ12 v16) ∧ ((0 ≤ ((v16 + a1) - 1) ∧ ((v16 + a1) - 1) < 2147483648) ∧ (0 < a1 ∧ a1 < 2147483648) ∧ Post σ12 (.inl (some (vi ((((v16 + a1) - 1) / a1) * a1))))))) ∧ (¬ (v5 ≤ 0) → Post σ12 (.inl (some (vi 0)))))))))) : qMet g l M_X8_leaves [vr a0, vi a1] σ Post := by
  refine qMet_of hl (by decide +kernel) (Nat.le_of_ble_eq_true rfl) (List.forall_mem_cons.mpr ⟨trivial, List.forall_mem_cons.mpr ⟨trivial, fun _ h => nomatch h⟩⟩) ?_
  show qW g l M_X8_leaves 0 0 0 [some (vr a0), some (vi a1)] [] σ Post
  refine wp_aload_n dX8_leaves_0 rfl ?_
  refine wp_iload_n dX8_leaves_1 rfl ?_
  obtain ⟨v2, hm1, h⟩ := h
  refine wp_callS (M' := M_X8_isSize) (As := [vi a1]) (st := [vr a0]) dX8_leaves_2 cee_X8_isSize np_X8_isSize rfl ⟨Nat.le_of_ble_eq_true rfl, Nat.le_of_ble_eq_true rfl, Nat.le_of_ble_eq_true rfl, Nat.le_of_ble_eq_true rfl⟩ wd_1528 wd_1529 (q_small_of (Nat.le_of_ble_eq_true rfl)) hm1 (q_kPi ?_) q_kPi0
  refine wp_less (ac2 := 0) (as2 := 0) (Nat.le_of_ble_eq_true rfl) (Nat.le_of_ble_eq_true rfl) ?_
  obtain ⟨h, hk8⟩ := h
  have key7 : ∀ v5 : Int, v5 = (if v2 = 0 then 1 else 0) → qW g l M_X8_leaves 0 0 13 [some (vr a0), some (vi a1)] [vi v5, vr a0] σ Post := by
    intro v5 hv6
    have h := hk8 v5 hv6
    have hr9 : qR v5 := by (rw [hv6]; unfold qR; repeat' split) <;> omega
    have hz10 : v5 = 0 ∨ v5 = 1 := by (rw [hv6]; repeat' split) <;> first | exact Or.inl rfl | exact Or.inr rfl
    obtain ⟨hk11, h⟩ := h
    refine wp_put (v := vi v5) dX8_leaves_13 fs_RX8_108 (fun h => absurd h (by decide)) hk11 (Or.inl rfl) ?_
    refine wp_nmS (fun σ12 hs13 => ?_)
    replace h := h σ12 hs13
    refine wp_aload_n dX8_leaves_16 rfl ?_
    refine wp_get (v := vi v5) dX8_leaves_17 fl_RX8_108 (by rw [hs13]; exact hk11) (by rw [hs13]; exact q_memI) ?_
    refine wp_if_le (tgt := 27) dX8_leaves_20 (by decide) hr9 (fun c14 => ?_) (fun c14 => ?_)
    · replace h := h.1 c14
      refine wp_aload_n dX8_leaves_27 rfl ?_
      refine wp_aload_n dX8_leaves_28 rfl ?_
      refine wp_get (v := vi (gI σ12 321 a0)) dX8_leaves_29 fl_RX8_111 (by rw [hs13]; exact hk11) rfl ?_
      refine wp_iload_n dX8_leaves_32 rfl ?_
      obtain ⟨v16, hm15, h⟩ := h
      refine wp_callV (M' := M_X8_leafOf) (As := [vi (gI σ12 321 a0), vi a1]) (st := []) (ci := 8) dX8_leaves_33 cee_X8_leafOf np_X8_leafOf rfl ⟨Nat.le_of_ble_eq_true rfl, Nat.le_of_ble_eq_true rfl, Nat.le_of_ble_eq_true rfl, Nat.le_of_ble_eq_true rfl⟩ wd_1531 wd_1533 sel_X8_leafOf rfl (Or.inl (by rw [hs13]; exact hk11)) (q_small_of (Nat.le_of_ble_eq_true rfl)) hm15 (q_kPi ?_) q_kPi0
      refine wp_less (ac2 := 0) (as2 := 0) (Nat.le_of_ble_eq_true rfl) (Nat.le_of_ble_eq_true rfl) ?_
      refine wp_iload_n dX8_leaves_36 rfl ?_
      refine wp_iadd dX8_leaves_37 ?_
      refine wp_iconst dX8_leaves_38 ?_
      refine wp_isub dX8_leaves_39 ?_
      refine wp_iload_n dX8_leaves_40 rfl ?_
      obtain ⟨hd17, hd18, h⟩ := h
      refine wp_idiv dX8_leaves_41 hd17 hd18 ?_
      refine wp_iload_n dX8_leaves_42 rfl ?_
      refine wp_imul dX8_leaves_43 ?_
      exact wp_ret_i dX8_leaves_44 rfl rfl h
    · replace h := h.2 c14
      refine wp_iconst dX8_leaves_23 ?_
      refine wp_goto (tgt := 44) dX8_leaves_24 (by decide) ?_
      exact wp_ret_i dX8_leaves_44 rfl rfl h
  have hr19 := h
  refine wp_if_eq (tgt := 12) dX8_leaves_5 (by decide) hr19 (fun c20 => ?_) (fun c20 => ?_)
  · refine wp_iconst dX8_leaves_12 ?_
    exact key7 _ (by rw [if_pos c20])
  · refine wp_iconst dX8_leaves_8 ?_
    refine wp_goto (tgt := 13) dX8_leaves_9 (by decide) ?_
    exact key7 _ (by rw [if_neg c20])

set_option maxRecDepth 100000 in
set_option maxHeartbeats 4000000 in
theorem wm_X8_leaf {g : qG} {l : Launch} (hl : l.stackTraces = false) {a0 : Nat} {a1 : Int} {a2 : Int} {σ : qS} {Post : qS → qRs → Prop}
    (h : gK σ a0 = 9 ∧ (∃ v3 : Int, qMet g l M_X8_isPage [vr a0, vi a1] σ (qPi σ v3) ∧ (qR v3 ∧ ((¬ v3 = 0 → (∃ v7 : Int, qMet g l M_X8_isSize [vi a2] σ (qPi σ v7) ∧ (((qR v7) ∧ ∀ v10 : Int, v10 = (if v7 = 0 then 2 else 0) → (∀ σ15 : qS, σ15 = sI σ 320 a0 v10 → ((v10 ≤ 0 → (∃ v19 : Int, qMet g l M_X8_leafOf [vr a0, vi a1, vi a2] σ15 (qPi σ15 v19) ∧ (Post σ15 (.inl (some (vi v19)))))) ∧ (¬ (v10 ≤ 0) → Post σ15 (.inl (some (vi 0)))))))))) ∧ (v3 = 0 → (∀ σ22 : qS, σ22 = sI σ 320 a0 1 → Post σ22 (.inl (some (vi 0))))))))) : qMet g l M_X8_leaf [vr a0, vi a1, vi a2] σ Post := by
  refine qMet_of hl (by decide +kernel) (Nat.le_of_ble_eq_true rfl) (List.forall_mem_cons.mpr ⟨trivial, List.forall_mem_cons.mpr ⟨trivial, List.forall_mem_cons.mpr ⟨trivial, fun _ h => nomatch h⟩⟩⟩) ?_
  show qW g l M_X8_leaf 0 0 0 [some (vr a0), some (vi a1), some (vi a2)] [] σ Post
  refine wp_aload_n dX8_leaf_0 rfl ?_
  refine wp_aload_n dX8_leaf_1 rfl ?_
  refine wp_iload_n dX8_leaf_2 rfl ?_
  obtain ⟨hk2, h⟩ := h
  obtain ⟨v3, hm1, h⟩ := h
  refine wp_callV (M' := M_X8_isPage) (As := [vi a1]) (st := [vr a0]) (ci := 8) dX8_leaf_3 cee_X8_isPage np_X8_isPage rfl ⟨Nat.le_of_ble_eq_true rfl, Nat.le_of_ble_eq_true rfl, Nat.le_of_ble_eq_true rfl, Nat.le_of_ble_eq_true rfl⟩ wd_1340 wd_1342 sel_X8_isPage rfl (Or.inl hk2) (q_small_of (Nat.le_of_ble_eq_true rfl)) hm1 (q_kPi ?_) q_kPi0
  refine wp_less (ac2 := 0) (as2 := 0) (Nat.le_of_ble_eq_true rfl) (Nat.le_of_ble_eq_true rfl) ?_
  obtain ⟨hr4, h⟩ := h
  refine wp_if_ne (tgt := 13) dX8_leaf_6 (by decide) hr4 (fun c5 => ?_) (fun c5 => ?_)
  · replace h := h.1 c5
    refine wp_iload_n dX8_leaf_13 rfl ?_
    obtain ⟨v7, hm6, h⟩ := h
    refine wp_callS (M' := M_X8_isSize) (As := [vi a2]) (st := [vr a0]) dX8_leaf_14 cee_X8_isSize np_X8_isSize rfl ⟨Nat.le_of_ble_eq_true rfl, Nat.le_of_ble_eq_true rfl, Nat.le_of_ble_eq_true rfl, Nat.le_of_ble_eq_true rfl⟩ wd_1528 wd_1529 (q_small_of (Nat.le_of_ble_eq_true rfl)) hm6 (q_kPi ?_) q_kPi0
    refine wp_less (ac2 := 0) (as2 := 0) (Nat.le_of_ble_eq_true rfl) (Nat.le_of_ble_eq_true rfl) ?_
    obtain ⟨h, hk13⟩ := h
    have key12 : ∀ v10 : Int, v10 = (if v7 = 0 then 2 else 0) → qW g l M_X8_leaf 0 0 25 [some (vr a0), some (vi a1), some (vi a2)] [vi v10, vr a0] σ Post := by
      intro v10 hv11
      have h := hk13 v10 hv11
      have hr14 : qR v10 := by (rw [hv11]; unfold qR; repeat' split) <;> omega
      refine wp_put (v := vi v10) dX8_leaf_25 fs_RX8_108 (fun h => absurd h (by decide)) hk2 (Or.inl rfl) ?_
      refine wp_nmS (fun σ15 hs16 => ?_)
      replace h := h σ15 hs16
      refine wp_aload_n dX8_leaf_28 rfl ?_
      refine wp_get (v := vi v10) dX8_leaf_29 fl_RX8_108 (by rw [hs16]; exact hk2) (by rw [hs16]; exact q_memI) ?_
      refine wp_if_le (tgt := 39) dX8_leaf_32 (by decide) hr14 (fun c17 => ?_) (fun c17 => ?_)
      · replace h := h.1 c17
        refine wp_aload_n dX8_leaf_39 rfl ?_
        refine wp_iload_n dX8_leaf_40 rfl ?_
        refine wp_iload_n dX8_leaf_41 rfl ?_
        obtain ⟨v19, hm18, h⟩ := h
        refine wp_callV (M' := M_X8_leafOf) (As := [vi a1, vi a2]) (st := []) (ci := 8) dX8_leaf_42 cee_X8_leafOf np_X8_leafOf rfl ⟨Nat.le_of_ble_eq_true rfl, Nat.le_of_ble_eq_true rfl, Nat.le_of_ble_eq_true rfl, Nat.le_of_ble_eq_true rfl⟩ wd_1531 wd_1533 sel_X8_leafOf rfl (Or.inl (by rw [hs16]; exact hk2)) (q_small_of (Nat.le_of_ble_eq_true rfl)) hm18 (q_kPi ?_) q_kPi0
        refine wp_less (ac2 := 0) (as2 := 0) (Nat.le_of_ble_eq_true rfl) (Nat.le_of_ble_eq_true rfl) ?_
        exact wp_ret_i dX8_leaf_45 rfl rfl h
      · replace h := h.2 c17
        refine wp_iconst dX8_leaf_35 ?_
        refine wp_goto (tgt := 45) dX8_leaf_36 (by decide) ?_
        exact wp_ret_i dX8_leaf_45 rfl rfl h
    have hr20 := h
    refine wp_if_eq (tgt := 24) dX8_leaf_17 (by decide) hr20 (fun c21 => ?_) (fun c21 => ?_)
    · refine wp_iconst dX8_leaf_24 ?_
      exact key12 _ (by rw [if_pos c21])
    · refine wp_iconst dX8_leaf_20 ?_
      refine wp_goto (tgt := 25) dX8_leaf_21 (by decide) ?_
      exact key12 _ (by rw [if_neg c21])
  · replace h := h.2 c5
    refine wp_iconst dX8_leaf_9 ?_
    refine wp_goto (tgt := 25) dX8_leaf_10 (by decide) ?_
    refine wp_put (v := vi 1) dX8_leaf_25 fs_RX8_108 (fun h => absurd h (by decide)) hk2 (Or.inl rfl) ?_
    refine wp_nmS (fun σ22 hs23 => ?_)
    replace h := h σ22 hs23
    refine wp_aload_n dX8_leaf_28 rfl ?_
    refine wp_get (v := vi 1) dX8_leaf_29 fl_RX8_108 (by rw [hs23]; exact hk2) (by rw [hs23]; exact q_memI) ?_
    refine wp_if_le (tgt := 39) dX8_leaf_32 (by decide) (by unfold qR; omega) (fun c9 => absurd c9 (by decide)) (fun _ => ?_)
    refine wp_iconst dX8_leaf_35 ?_
    refine wp_goto (tgt := 45) dX8_leaf_36 (by decide) ?_
    exact wp_ret_i dX8_leaf_45 rfl rfl h

set_option maxRecDepth 100000 in
set_option maxHeartbeats 4000000 in
theorem wm_X8_beside {g : qG} {l : Launch} (hl : l.stackTraces = false) {a0 : Nat} {a1 : Int} {a2 : Int} {σ : qS} {Post : qS → qRs → Prop}
    (h : gK σ a0 = 9 ∧ (∃ v3 : Int, qMet g l M_X8_isPage [vr a0, vi a1] σ (qPi σ v3) ∧ (qR v3 ∧ ((¬ v3 = 0 → (∃ v7 : Int, qMet g l M_X8_isSize [vi a2] σ (qPi σ v7) ∧ (((qR v7) ∧ ∀ v10 : Int, v10 = (if v7 = 0 then 2 else 0) → (∀ σ15 : qS, σ15 = sI σ 320 a0 v10 → ((v10 ≤ 0 → (∃ v19 : Int, qMet g l M_X8_leafOf [vr a0, vi a1, vi a2] σ15 (qPi σ15 v19) ∧ ((0 ≤ v19 ∧ v19 < 2147483648) ∧ (0 < a2 ∧ a2 < 2147483648) ∧ (0 ≤ v19 ∧ v19 < 2147483648) ∧ (0 < a2 ∧ a2 < 2147483648) ∧ ∀ x24 : Int, x24 = ((((v19 / a2) * a2) + a2) - 1) - (v19 % a2) → ∃ Inv28 : Nat → Int → Int → Prop, (∃ n : Nat, Inv28 n ((-1)) 0) ∧ ∀ (n29 : Nat) (x26 : Int) (x27 : Int), Inv28 n29 x26 x27 → (qR x27 ∧ qR (gI σ15 321 a0) ∧ (((gI σ15 321 a0) ≤ x27 → Post σ15 (.inl (some (vi x26)))) ∧ (¬ ((gI σ15 321 a0) ≤ x27) → (∃ v38 : Int, qMet g l M_X8_leafOf [vr a0, vi x27, vi a2] σ15 (qPi σ15 v38) ∧ (((qR v38 ∧ qR x24) ∧ ∀ v42 : Int, v42 = (if ¬ v38 = x24 then x26 else x27) → ∀ x46 : Int, x46 = x27 + 1 → ∃ n48 : Nat, n48 < n29 ∧ Inv28 n48 v42 x46))))))))) ∧ (¬ (v10 ≤ 0) → Post σ15 (.inl (some (vi 0)))))))))) ∧ (v3 = 0 → (∀ σ55 : qS, σ55 = sI σ 320 a0 1 → Post σ55 (.inl (some (vi 0))))))))) : qMet g l M_X8_beside [vr a0, vi a1, vi a2] σ Post := by
  refine qMet_of hl (by decide +kernel) (Nat.le_of_ble_eq_true rfl) (List.forall_mem_cons.mpr ⟨trivial, List.forall_mem_cons.mpr ⟨trivial, List.forall_mem_cons.mpr ⟨trivial, fun _ h => nomatch h⟩⟩⟩) ?_
  show qW g l M_X8_beside 0 0 0 [some (vr a0), some (vi a1), some (vi a2), none, none, none, none] [] σ Post
  refine wp_aload_n dX8_beside_0 rfl ?_
  refine wp_aload_n dX8_beside_1 rfl ?_
  refine wp_iload_n dX8_beside_2 rfl ?_
  obtain ⟨hk2, h⟩ := h
  obtain ⟨v3, hm1, h⟩ := h
  refine wp_callV (M' := M_X8_isPage) (As := [vi a1]) (st := [vr a0]) (ci := 8) dX8_beside_3 cee_X8_isPage np_X8_isPage rfl ⟨Nat.le_of_ble_eq_true rfl, Nat.le_of_ble_eq_true rfl, Nat.le_of_ble_eq_true rfl, Nat.le_of_ble_eq_true rfl⟩ wd_1340 wd_1342 sel_X8_isPage rfl (Or.inl hk2) (q_small_of (Nat.le_of_ble_eq_true rfl)) hm1 (q_kPi ?_) q_kPi0
  refine wp_less (ac2 := 0) (as2 := 0) (Nat.le_of_ble_eq_true rfl) (Nat.le_of_ble_eq_true rfl) ?_
  obtain ⟨hr4, h⟩ := h
  refine wp_if_ne (tgt := 13) dX8_beside_6 (by decide) hr4 (fun c5 => ?_) (fun c5 => ?_)
  · replace h := h.1 c5
    refine wp_iload_n dX8_beside_13 rfl ?_
    obtain ⟨v7, hm6, h⟩ := h
    refine wp_callS (M' := M_X8_isSize) (As := [vi a2]) (st := [vr a0]) dX8_beside_14 cee_X8_isSize np_X8_isSize rfl ⟨Nat.le_of_ble_eq_true rfl, Nat.le_of_ble_eq_true rfl, Nat.le_of_ble_eq_true rfl, Nat.le_of_ble_eq_true rfl⟩ wd_1528 wd_1529 (q_small_of (Nat.le_of_ble_eq_true rfl)) hm6 (q_kPi ?_) q_kPi0
    refine wp_less (ac2 := 0) (as2 := 0) (Nat.le_of_ble_eq_true rfl) (Nat.le_of_ble_eq_true rfl) ?_
    obtain ⟨h, hk13⟩ := h
    have key12 : ∀ v10 : Int, v10 = (if v7 = 0 then 2 else 0) → qW g l M_X8_beside 0 0 25 [some (vr a0), some (vi a1), some (vi a2), none, none, none, none] [vi v10, vr a0] σ Post := by
      intro v10 hv11
      have h := hk13 v10 hv11
      have hr14 : qR v10 := by (rw [hv11]; unfold qR; repeat' split) <;> omega
      refine wp_put (v := vi v10) dX8_beside_25 fs_RX8_108 (fun h => absurd h (by decide)) hk2 (Or.inl rfl) ?_
      refine wp_nmS (fun σ15 hs16 => ?_)
      replace h := h σ15 hs16
      refine wp_aload_n dX8_beside_28 rfl ?_
      refine wp_get (v := vi v10) dX8_beside_29 fl_RX8_108 (by rw [hs16]; exact hk2) (by rw [hs16]; exact q_memI) ?_
      refine wp_if_le (tgt := 37) dX8_beside_32 (by decide) hr14 (fun c17 => ?_) (fun c17 => ?_)
      · replace h := h.1 c17
        refine wp_aload_n dX8_beside_37 rfl ?_
        refine wp_iload_n dX8_beside_38 rfl ?_
        refine wp_iload_n dX8_beside_39 rfl ?_
        obtain ⟨v19, hm18, h⟩ := h
        refine wp_callV (M' := M_X8_leafOf) (As := [vi a1, vi a2]) (st := []) (ci := 8) dX8_beside_40 cee_X8_leafOf np_X8_leafOf rfl ⟨Nat.le_of_ble_eq_true rfl, Nat.le_of_ble_eq_true rfl, Nat.le_of_ble_eq_true rfl, Nat.le_of_ble_eq_true rfl⟩ wd_1531 wd_1533 sel_X8_leafOf rfl (Or.inl (by rw [hs16]; exact hk2)) (q_small_of (Nat.le_of_ble_eq_true rfl)) hm18 (q_kPi ?_) q_kPi0
        refine wp_less (ac2 := 0) (as2 := 0) (Nat.le_of_ble_eq_true rfl) (Nat.le_of_ble_eq_true rfl) ?_
        refine wp_istore_n' (ls' := [some (vr a0), some (vi a1), some (vi a2), some (vi v19), none, none, none]) dX8_beside_43 (Nat.le_of_ble_eq_true rfl) rfl ?_
        refine wp_iload_n dX8_beside_44 rfl ?_
        refine wp_iload_n dX8_beside_45 rfl ?_
        obtain ⟨hd20, hd21, h⟩ := h
        refine wp_idiv dX8_beside_46 hd20 hd21 ?_
        refine wp_iload_n dX8_beside_47 rfl ?_
        refine wp_imul dX8_beside_48 ?_
        refine wp_iload_n dX8_beside_49 rfl ?_
        refine wp_iadd dX8_beside_50 ?_
        refine wp_iconst dX8_beside_51 ?_
        refine wp_isub dX8_beside_52 ?_
        refine wp_iload_n dX8_beside_53 rfl ?_
        refine wp_iload_n dX8_beside_54 rfl ?_
        obtain ⟨hd22, hd23, h⟩ := h
        refine wp_irem dX8_beside_55 hd22 hd23 ?_
        refine wp_isub dX8_beside_56 ?_
        refine wp_nmI (fun x24 hx25 => ?_)
        replace h := h x24 hx25
        refine wp_istore' (ls' := [some (vr a0), some (vi a1), some (vi a2), some (vi v19), some (vi x24), none, none]) dX8_beside_57 (Nat.le_of_ble_eq_true rfl) rfl ?_
        refine wp_iconst dX8_beside_59 ?_
        refine wp_istore' (ls' := [some (vr a0), some (vi a1), some (vi a2), some (vi v19), some (vi x24), some (vi ((-1))), none]) dX8_beside_60 (Nat.le_of_ble_eq_true rfl) rfl ?_
        refine wp_iconst dX8_beside_62 ?_
        refine wp_istore' (ls' := [some (vr a0), some (vi a1), some (vi a2), some (vi v19), some (vi x24), some (vi ((-1))), some (vi 0)]) dX8_beside_63 (Nat.le_of_ble_eq_true rfl) rfl ?_
        obtain ⟨Inv28, ⟨n29_0, h033⟩, hb32⟩ := h
        have loop52 : ∀ (n29 : Nat) (x26 : Int) (x27 : Int), Inv28 n29 x26 x27 → qW g l M_X8_beside 0 0 65 [some (vr a0), some (vi a1), some (vi a2), some (vi v19), some (vi x24), some (vi x26), some (vi x27)] [] σ15 Post := by
          intro n29
          induction n29 using Nat.strongRecOn with
          | ind n29 ih30 =>
            intro x26 x27 hI31
            have h := hb32 n29 x26 x27 hI31
            refine wp_iload dX8_beside_65 rfl ?_
            refine wp_aload_n dX8_beside_67 rfl ?_
            refine wp_get (v := vi (gI σ15 321 a0)) dX8_beside_68 fl_RX8_111 (by rw [hs16]; exact hk2) rfl ?_
            obtain ⟨hr34, hr35, h⟩ := h
            refine wp_icmp_ge (tgt := 101) dX8_beside_71 (by decide) hr34 hr35 (fun c36 => ?_) (fun c36 => ?_)
            · replace h := h.1 c36
              refine wp_iload dX8_beside_101 rfl ?_
              exact wp_ret_i dX8_beside_103 rfl rfl h
            · replace h := h.2 c36
              refine wp_aload_n dX8_beside_74 rfl ?_
              refine wp_iload dX8_beside_75 rfl ?_
              refine wp_iload_n dX8_beside_77 rfl ?_
              obtain ⟨v38, hm37, h⟩ := h
              refine wp_callV (M' := M_X8_leafOf) (As := [vi x27, vi a2]) (st := []) (ci := 8) dX8_beside_78 cee_X8_leafOf np_X8_leafOf rfl ⟨Nat.le_of_ble_eq_true rfl, Nat.le_of_ble_eq_true rfl, Nat.le_of_ble_eq_true rfl, Nat.le_of_ble_eq_true rfl⟩ wd_1531 wd_1533 sel_X8_leafOf rfl (Or.inl (by rw [hs16]; exact hk2)) (q_small_of (Nat.le_of_ble_eq_true rfl)) hm37 (q_kPi ?_) q_kPi0
              refine wp_less (ac2 := 0) (as2 := 0) (Nat.le_of_ble_eq_true rfl) (Nat.le_of_ble_eq_true rfl) ?_
              refine wp_iload dX8_beside_81 rfl ?_
              obtain ⟨h, hk45⟩ := h
              have key44 : ∀ v42 : Int, v42 = (if ¬ v38 = x24 then x26 else x27) → qW g l M_X8_beside 0 0 93 [some (vr a0), some (vi a1), some (vi a2), some (vi v19), some (vi x24), some (vi x26), some (vi x27)] [vi v42] σ15 Post := by
                intro v42 hv43
                have h := hk45 v42 hv43
                refine wp_istore' (ls' := [some (vr a0), some (vi a1), some (vi a2), some (vi v19), some (vi x24), some (vi v42), some (vi x27)]) dX8_beside_93 (Nat.le_of_ble_eq_true rfl) rfl ?_
                refine wp_nmT (x27 + 1) (fun x46 hx47 => ?_)
                replace h := h x46 hx47
                refine wp_iinc' (z' := x46) (ls' := [some (vr a0), some (vi a1), some (vi a2), some (vi v19), some (vi x24), some (vi v42), some (vi x46)]) dX8_beside_95 (Nat.le_of_ble_eq_true rfl) rfl hx47 rfl ?_
                refine wp_goto (tgt := 65) dX8_beside_98 (by decide) ?_
                obtain ⟨n48, hlt, h⟩ := h
                exact wp_lsub (ls' := [some (vr a0), some (vi a1), some (vi a2), some (vi v19), some (vi x24), some (vi v42), some (vi x46)]) ⟨rfl, ⟨rfl, ⟨rfl, ⟨rfl, ⟨rfl, ⟨rfl, ⟨rfl, trivial⟩⟩⟩⟩⟩⟩⟩ (ih30 n48 hlt _ _ h)
              obtain ⟨hr49, hr50⟩ := h
              refine wp_icmp_ne (tgt := 91) dX8_beside_83 (by decide) hr49 hr50 (fun c51 => ?_) (fun c51 => ?_)
              · refine wp_iload dX8_beside_91 rfl ?_
                exact key44 _ (by rw [if_pos c51])
              · refine wp_iload dX8_beside_86 rfl ?_
                refine wp_goto (tgt := 93) dX8_beside_88 (by decide) ?_
                exact key44 _ (by rw [if_neg (fun z => z c51)])
        exact wp_lsub (ls' := [some (vr a0), some (vi a1), some (vi a2), some (vi v19), some (vi x24), some (vi ((-1))), some (vi 0)]) ⟨rfl, ⟨rfl, ⟨rfl, ⟨rfl, ⟨rfl, ⟨rfl, ⟨rfl, trivial⟩⟩⟩⟩⟩⟩⟩ (loop52 _ _ _ h033)
      · replace h := h.2 c17
        refine wp_iconst dX8_beside_35 ?_
        exact wp_ret_i dX8_beside_36 rfl rfl h
    have hr53 := h
    refine wp_if_eq (tgt := 24) dX8_beside_17 (by decide) hr53 (fun c54 => ?_) (fun c54 => ?_)
    · refine wp_iconst dX8_beside_24 ?_
      exact key12 _ (by rw [if_pos c54])
    · refine wp_iconst dX8_beside_20 ?_
      refine wp_goto (tgt := 25) dX8_beside_21 (by decide) ?_
      exact key12 _ (by rw [if_neg c54])
  · replace h := h.2 c5
    refine wp_iconst dX8_beside_9 ?_
    refine wp_goto (tgt := 25) dX8_beside_10 (by decide) ?_
    refine wp_put (v := vi 1) dX8_beside_25 fs_RX8_108 (fun h => absurd h (by decide)) hk2 (Or.inl rfl) ?_
    refine wp_nmS (fun σ55 hs56 => ?_)
    replace h := h σ55 hs56
    refine wp_aload_n dX8_beside_28 rfl ?_
    refine wp_get (v := vi 1) dX8_beside_29 fl_RX8_108 (by rw [hs56]; exact hk2) (by rw [hs56]; exact q_memI) ?_
    refine wp_if_le (tgt := 37) dX8_beside_32 (by decide) (by unfold qR; omega) (fun c9 => absurd c9 (by decide)) (fun _ => ?_)
    refine wp_iconst dX8_beside_35 ?_
    exact wp_ret_i dX8_beside_36 rfl rfl h

set_option maxRecDepth 100000 in
set_option maxHeartbeats 4000000 in
theorem wm_X8_sheet {g : qG} {l : Launch} (hl : l.stackTraces = false) {a0 : Nat} {a1 : Int} {a2 : Int} {σ : qS} {Post : qS → qRs → Prop}
    (h : gK σ a0 = 9 ∧ (∃ v3 : Int, qMet g l M_X8_isPage [vr a0, vi a1] σ (qPi σ v3) ∧ (qR v3 ∧ ((¬ v3 = 0 → (∃ v7 : Int, qMet g l M_X8_isSize [vi a2] σ (qPi σ v7) ∧ (((qR v7) ∧ ∀ v10 : Int, v10 = (if v7 = 0 then 2 else 0) → (∀ σ15 : qS, σ15 = sI σ 320 a0 v10 → ((v10 ≤ 0 → (∃ v19 : Int, qMet g l M_X8_leafOf [vr a0, vi a1, vi a2] σ15 (qPi σ15 v19) ∧ ((0 ≤ v19 ∧ v19 < 2147483648) ∧ (0 < a2 ∧ a2 < 2147483648) ∧ ∀ x22 : Int, x22 = v19 % a2 → ∀ x24 : Int, x24 = (a2 - 1) - x22 → ((qR x22 ∧ qR x24) ∧ ∀ v29 : Int, v29 = (if x24 ≤ x22 then x24 else x22) → Post σ15 (.inl (some (vi v29))))))) ∧ (¬ (v10 ≤ 0) → Post σ15 (.inl (some (vi 0)))))))))) ∧ (v3 = 0 → (∀ σ38 : qS, σ38 = sI σ 320 a0 1 → Post σ38 (.inl (some (vi 0))))))))) : qMet g l M_X8_sheet [vr a0, vi a1, vi a2] σ Post := by
  refine qMet_of hl (by decide +kernel) (Nat.le_of_ble_eq_true rfl) (List.forall_mem_cons.mpr ⟨trivial, List.forall_mem_cons.mpr ⟨trivial, List.forall_mem_cons.mpr ⟨trivial, fun _ h => nomatch h⟩⟩⟩) ?_
  show qW g l M_X8_sheet 0 0 0 [some (vr a0), some (vi a1), some (vi a2), none, none] [] σ Post
  refine wp_aload_n dX8_sheet_0 rfl ?_
  refine wp_aload_n dX8_sheet_1 rfl ?_
  refine wp_iload_n dX8_sheet_2 rfl ?_
  obtain ⟨hk2, h⟩ := h
  obtain ⟨v3, hm1, h⟩ := h
  refine wp_callV (M' := M_X8_isPage) (As := [vi a1]) (st := [vr a0]) (ci := 8) dX8_sheet_3 cee_X8_isPage np_X8_isPage rfl ⟨Nat.le_of_ble_eq_true rfl, Nat.le_of_ble_eq_true rfl, Nat.le_of_ble_eq_true rfl, Nat.le_of_ble_eq_true rfl⟩ wd_1340 wd_1342 sel_X8_isPage rfl (Or.inl hk2) (q_small_of (Nat.le_of_ble_eq_true rfl)) hm1 (q_kPi ?_) q_kPi0
  refine wp_less (ac2 := 0) (as2 := 0) (Nat.le_of_ble_eq_true rfl) (Nat.le_of_ble_eq_true rfl) ?_
  obtain ⟨hr4, h⟩ := h
  refine wp_if_ne (tgt := 13) dX8_sheet_6 (by decide) hr4 (fun c5 => ?_) (fun c5 => ?_)
  · replace h := h.1 c5
    refine wp_iload_n dX8_sheet_13 rfl ?_
    obtain ⟨v7, hm6, h⟩ := h
    refine wp_callS (M' := M_X8_isSize) (As := [vi a2]) (st := [vr a0]) dX8_sheet_14 cee_X8_isSize np_X8_isSize rfl ⟨Nat.le_of_ble_eq_true rfl, Nat.le_of_ble_eq_true rfl, Nat.le_of_ble_eq_true rfl, Nat.le_of_ble_eq_true rfl⟩ wd_1528 wd_1529 (q_small_of (Nat.le_of_ble_eq_true rfl)) hm6 (q_kPi ?_) q_kPi0
    refine wp_less (ac2 := 0) (as2 := 0) (Nat.le_of_ble_eq_true rfl) (Nat.le_of_ble_eq_true rfl) ?_
    obtain ⟨h, hk13⟩ := h
    have key12 : ∀ v10 : Int, v10 = (if v7 = 0 then 2 else 0) → qW g l M_X8_sheet 0 0 25 [some (vr a0), some (vi a1), some (vi a2), none, none] [vi v10, vr a0] σ Post := by
      intro v10 hv11
      have h := hk13 v10 hv11
      have hr14 : qR v10 := by (rw [hv11]; unfold qR; repeat' split) <;> omega
      refine wp_put (v := vi v10) dX8_sheet_25 fs_RX8_108 (fun h => absurd h (by decide)) hk2 (Or.inl rfl) ?_
      refine wp_nmS (fun σ15 hs16 => ?_)
      replace h := h σ15 hs16
      refine wp_aload_n dX8_sheet_28 rfl ?_
      refine wp_get (v := vi v10) dX8_sheet_29 fl_RX8_108 (by rw [hs16]; exact hk2) (by rw [hs16]; exact q_memI) ?_
      refine wp_if_le (tgt := 37) dX8_sheet_32 (by decide) hr14 (fun c17 => ?_) (fun c17 => ?_)
      · replace h := h.1 c17
        refine wp_aload_n dX8_sheet_37 rfl ?_
        refine wp_iload_n dX8_sheet_38 rfl ?_
        refine wp_iload_n dX8_sheet_39 rfl ?_
        obtain ⟨v19, hm18, h⟩ := h
        refine wp_callV (M' := M_X8_leafOf) (As := [vi a1, vi a2]) (st := []) (ci := 8) dX8_sheet_40 cee_X8_leafOf np_X8_leafOf rfl ⟨Nat.le_of_ble_eq_true rfl, Nat.le_of_ble_eq_true rfl, Nat.le_of_ble_eq_true rfl, Nat.le_of_ble_eq_true rfl⟩ wd_1531 wd_1533 sel_X8_leafOf rfl (Or.inl (by rw [hs16]; exact hk2)) (q_small_of (Nat.le_of_ble_eq_true rfl)) hm18 (q_kPi ?_) q_kPi0
        refine wp_less (ac2 := 0) (as2 := 0) (Nat.le_of_ble_eq_true rfl) (Nat.le_of_ble_eq_true rfl) ?_
        refine wp_iload_n dX8_sheet_43 rfl ?_
        obtain ⟨hd20, hd21, h⟩ := h
        refine wp_irem dX8_sheet_44 hd20 hd21 ?_
        refine wp_nmI (fun x22 hx23 => ?_)
        replace h := h x22 hx23
        refine wp_istore_n' (ls' := [some (vr a0), some (vi a1), some (vi a2), some (vi x22), none]) dX8_sheet_45 (Nat.le_of_ble_eq_true rfl) rfl ?_
        refine wp_iload_n dX8_sheet_46 rfl ?_
        refine wp_iconst dX8_sheet_47 ?_
        refine wp_isub dX8_sheet_48 ?_
        refine wp_iload_n dX8_sheet_49 rfl ?_
        refine wp_isub dX8_sheet_50 ?_
        refine wp_nmI (fun x24 hx25 => ?_)
        replace h := h x24 hx25
        refine wp_istore' (ls' := [some (vr a0), some (vi a1), some (vi a2), some (vi x22), some (vi x24)]) dX8_sheet_51 (Nat.le_of_ble_eq_true rfl) rfl ?_
        refine wp_iload_n dX8_sheet_53 rfl ?_
        refine wp_iload dX8_sheet_54 rfl ?_
        obtain ⟨h, hk32⟩ := h
        have key31 : ∀ v29 : Int, v29 = (if x24 ≤ x22 then x24 else x22) → qW g l M_X8_sheet 0 0 65 [some (vr a0), some (vi a1), some (vi a2), some (vi x22), some (vi x24)] [vi v29] σ15 Post := by
          intro v29 hv30
          have h := hk32 v29 hv30
          exact wp_ret_i dX8_sheet_65 rfl rfl h
        obtain ⟨hr33, hr34⟩ := h
        refine wp_icmp_ge (tgt := 63) dX8_sheet_56 (by decide) hr33 hr34 (fun c35 => ?_) (fun c35 => ?_)
        · refine wp_iload dX8_sheet_63 rfl ?_
          exact key31 _ (by rw [if_pos c35])
        · refine wp_iload_n dX8_sheet_59 rfl ?_
          refine wp_goto (tgt := 65) dX8_sheet_60 (by decide) ?_
          exact key31 _ (by rw [if_neg c35])
      · replace h := h.2 c17
        refine wp_iconst dX8_sheet_35 ?_
        exact wp_ret_i dX8_sheet_36 rfl rfl h
    have hr36 := h
    refine wp_if_eq (tgt := 24) dX8_sheet_17 (by decide) hr36 (fun c37 => ?_) (fun c37 => ?_)
    · refine wp_iconst dX8_sheet_24 ?_
      exact key12 _ (by rw [if_pos c37])
    · refine wp_iconst dX8_sheet_20 ?_
      refine wp_goto (tgt := 25) dX8_sheet_21 (by decide) ?_
      exact key12 _ (by rw [if_neg c37])
  · replace h := h.2 c5
    refine wp_iconst dX8_sheet_9 ?_
    refine wp_goto (tgt := 25) dX8_sheet_10 (by decide) ?_
    refine wp_put (v := vi 1) dX8_sheet_25 fs_RX8_108 (fun h => absurd h (by decide)) hk2 (Or.inl rfl) ?_
    refine wp_nmS (fun σ38 hs39 => ?_)
    replace h := h σ38 hs39
    refine wp_aload_n dX8_sheet_28 rfl ?_
    refine wp_get (v := vi 1) dX8_sheet_29 fl_RX8_108 (by rw [hs39]; exact hk2) (by rw [hs39]; exact q_memI) ?_
    refine wp_if_le (tgt := 37) dX8_sheet_32 (by decide) (by unfold qR; omega) (fun c9 => absurd c9 (by decide)) (fun _ => ?_)
    refine wp_iconst dX8_sheet_35 ?_
    exact wp_ret_i dX8_sheet_36 rfl rfl h

set_option maxRecDepth 100000 in
set_option maxHeartbeats 4000000 in
theorem wm_X8_open {g : qG} {l : Launch} (hl : l.stackTraces = false) {a0 : Nat} {σ : qS} {Post : qS → qRs → Prop}
    (h : gK σ a0 = 9 ∧ (∀ σ2 : qS, σ2 = sI σ 320 a0 0 → (∀ σ4 : qS, σ4 = sI σ2 355 a0 0 → (∀ σ6 : qS, σ6 = sI σ4 354 a0 ((-1)) → ∃ Inv9 : Nat → Int → qS → Prop, (∃ n : Nat, Inv9 n 0 σ6) ∧ ∀ (n10 : Nat) (x8 : Int) (σ15 : qS), Inv9 n10 x8 σ15 → (gK σ15 a0 = 9 ∧ qR x8 ∧ qR (gI σ15 322 a0) ∧ (((gI σ15 322 a0) ≤ x8 → Post σ15 (.inl (some (vi (gI σ15 354 a0))))) ∧ (¬ ((gI σ15 322 a0) ≤ x8) → q_isA σ15 0 (gP σ15 329 a0) ∧ q_in σ15 (gP σ15 329 a0) x8 ∧ qR (gA σ15 (gP σ15 329 a0) x8) ∧ (((gA σ15 (gP σ15 329 a0) x8) = ((-1)) → (∀ σ24 : qS, σ24 = sI σ15 354 a0 (gI σ15 354 a0) → ∀ x26 : Int, x26 = x8 + 1 → ∃ n28 : Nat, n28 < n10 ∧ Inv9 n28 x26 σ24)) ∧ (¬ ((gA σ15 (gP σ15 329 a0) x8) = ((-1))) → qR (gI σ15 354 a0) ∧ (((gI σ15 354 a0) = ((-1)) → (∀ σ31 : qS, σ31 = sI σ15 354 a0 x8 → ∀ x33 : Int, x33 = x8 + 1 → ∃ n35 : Nat, n35 < n10 ∧ Inv9 n35 x33 σ31)) ∧ (¬ ((gI σ15 354 a0) = ((-1))) → (∃ v37 : Int, qMet g l M_X8_rank [vr a0, vi x8] σ15 (qPi σ15 v37) ∧ ((∃ v39 : Int, qMet g l M_X8_rank [vr a0, vi (gI σ15 354 a0)] σ15 (qPi σ15 v39) ∧ (((qR v37 ∧ qR v39) ∧ ∀ v43 : Int, v43 = (if v39 ≤ v37 then (gI σ15 354 a0) else x8) → (∀ σ47 : qS, σ47 = sI σ15 354 a0 v43 → ∀ x49 : Int, x49 = x8 + 1 → ∃ n51 : Nat, n51 < n10 ∧ Inv9 n51 x49 σ47))))))))))))))))) : qMet g l M_X8_open [vr a0] σ Post := by
  refine qMet_of hl (by decide +kernel) (Nat.le_of_ble_eq_true rfl) (List.forall_mem_cons.mpr ⟨trivial, fun _ h => nomatch h⟩) ?_
  show qW g l M_X8_open 0 0 0 [some (vr a0), none] [] σ Post
  refine wp_aload_n dX8_open_0 rfl ?_
  refine wp_iconst dX8_open_1 ?_
  obtain ⟨hk1, h⟩ := h
  refine wp_put (v := vi 0) dX8_open_2 fs_RX8_108 (fun h => absurd h (by decide)) hk1 (Or.inl rfl) ?_
  refine wp_nmS (fun σ2 hs3 => ?_)
  replace h := h σ2 hs3
  refine wp_aload_n dX8_open_5 rfl ?_
  refine wp_iconst dX8_open_6 ?_
  refine wp_put (v := vi 0) dX8_open_7 fs_RX8_202 (fun h => absurd h (by decide)) (by rw [hs3]; exact hk1) (Or.inl rfl) ?_
  refine wp_nmS (fun σ4 hs5 => ?_)
  replace h := h σ4 hs5
  refine wp_aload_n dX8_open_10 rfl ?_
  refine wp_iconst dX8_open_11 ?_
  refine wp_put (v := vi ((-1))) dX8_open_12 fs_RX8_101 (fun h => absurd h (by decide)) (by rw [hs5, hs3]; exact hk1) (Or.inl rfl) ?_
  refine wp_nmS (fun σ6 hs7 => ?_)
  replace h := h σ6 hs7
  refine wp_iconst dX8_open_15 ?_
  refine wp_istore_n' (ls' := [some (vr a0), some (vi 0)]) dX8_open_16 (Nat.le_of_ble_eq_true rfl) rfl ?_
  obtain ⟨Inv9, ⟨n10_0, h014⟩, hb13⟩ := h
  have loop55 : ∀ (n10 : Nat) (x8 : Int) (σ15 : qS), Inv9 n10 x8 σ15 → qW g l M_X8_open 0 0 17 [some (vr a0), some (vi x8)] [] σ15 Post := by
    intro n10
    induction n10 using Nat.strongRecOn with
    | ind n10 ih11 =>
      intro x8 σ15 hI12
      have h := hb13 n10 x8 σ15 hI12
      refine wp_iload_n dX8_open_17 rfl ?_
      refine wp_aload_n dX8_open_18 rfl ?_
      obtain ⟨hk16, h⟩ := h
      refine wp_get (v := vi (gI σ15 322 a0)) dX8_open_19 fl_RX8_118 hk16 rfl ?_
      obtain ⟨hr17, hr18, h⟩ := h
      refine wp_icmp_ge (tgt := 77) dX8_open_22 (by decide) hr17 hr18 (fun c19 => ?_) (fun c19 => ?_)
      · replace h := h.1 c19
        refine wp_aload_n dX8_open_77 rfl ?_
        refine wp_get (v := vi (gI σ15 354 a0)) dX8_open_78 fl_RX8_101 hk16 rfl ?_
        exact wp_ret_i dX8_open_81 rfl rfl h
      · replace h := h.2 c19
        refine wp_aload_n dX8_open_25 rfl ?_
        refine wp_aload_n dX8_open_26 rfl ?_
        refine wp_get (v := vr (gP σ15 329 a0)) dX8_open_27 fl_RX8_26 hk16 rfl ?_
        refine wp_iload_n dX8_open_30 rfl ?_
        obtain ⟨ha20, hi21, h⟩ := h
        refine wp_iaload dX8_open_31 ha20 hi21 ?_
        refine wp_iconst dX8_open_32 ?_
        obtain ⟨hr22, h⟩ := h
        refine wp_icmp_eq (tgt := 64) dX8_open_33 (by decide) hr22 (by unfold qR; omega) (fun c23 => ?_) (fun c23 => ?_)
        · replace h := h.1 c23
          refine wp_aload_n dX8_open_64 rfl ?_
          refine wp_get (v := vi (gI σ15 354 a0)) dX8_open_65 fl_RX8_101 hk16 rfl ?_
          refine wp_put (v := vi (gI σ15 354 a0)) dX8_open_68 fs_RX8_101 (fun h => absurd h (by decide)) hk16 (Or.inl rfl) ?_
          refine wp_nmS (fun σ24 hs25 => ?_)
          replace h := h σ24 hs25
          refine wp_nmT (x8 + 1) (fun x26 hx27 => ?_)
          replace h := h x26 hx27
          refine wp_iinc' (z' := x26) (ls' := [some (vr a0), some (vi x26)]) dX8_open_71 (Nat.le_of_ble_eq_true rfl) rfl hx27 rfl ?_
          refine wp_goto (tgt := 17) dX8_open_74 (by decide) ?_
          obtain ⟨n28, hlt, h⟩ := h
          exact wp_lsub (ls' := [some (vr a0), some (vi x26)]) ⟨rfl, ⟨rfl, trivial⟩⟩ (ih11 n28 hlt _ _ h)
        · replace h := h.2 c23
          refine wp_aload_n dX8_open_36 rfl ?_
          refine wp_get (v := vi (gI σ15 354 a0)) dX8_open_37 fl_RX8_101 hk16 rfl ?_
          refine wp_iconst dX8_open_40 ?_
          obtain ⟨hr29, h⟩ := h
          refine wp_icmp_eq (tgt := 60) dX8_open_41 (by decide) hr29 (by unfold qR; omega) (fun c30 => ?_) (fun c30 => ?_)
          · replace h := h.1 c30
            refine wp_iload_n dX8_open_60 rfl ?_
            refine wp_goto (tgt := 68) dX8_open_61 (by decide) ?_
            refine wp_put (v := vi x8) dX8_open_68 fs_RX8_101 (fun h => absurd h (by decide)) hk16 (Or.inl rfl) ?_
            refine wp_nmS (fun σ31 hs32 => ?_)
            replace h := h σ31 hs32
            refine wp_nmT (x8 + 1) (fun x33 hx34 => ?_)
            replace h := h x33 hx34
            refine wp_iinc' (z' := x33) (ls' := [some (vr a0), some (vi x33)]) dX8_open_71 (Nat.le_of_ble_eq_true rfl) rfl hx34 rfl ?_
            refine wp_goto (tgt := 17) dX8_open_74 (by decide) ?_
            obtain ⟨n35, hlt, h⟩ := h
            exact wp_lsub (ls' := [some (vr a0), some (vi x33)]) ⟨rfl, ⟨rfl, trivial⟩⟩ (ih11 n35 hlt _ _ h)
          · replace h := h.2 c30
            refine wp_aload_n dX8_open_44 rfl ?_
            refine wp_iload_n dX8_open_45 rfl ?_
            obtain ⟨v37, hm36, h⟩ := h
            refine wp_callV (M' := M_X8_rank) (As := [vi x8]) (st := [vr a0]) (ci := 8) dX8_open_46 cee_X8_rank np_X8_rank rfl ⟨Nat.le_of_ble_eq_true rfl, Nat.le_of_ble_eq_true rfl, Nat.le_of_ble_eq_true rfl, Nat.le_of_ble_eq_true rfl⟩ wd_1408 wd_1410 sel_X8_rank rfl (Or.inl hk16) (q_small_of (Nat.le_of_ble_eq_true rfl)) hm36 (q_kPi ?_) q_kPi0
            refine wp_less (ac2 := 0) (as2 := 0) (Nat.le_of_ble_eq_true rfl) (Nat.le_of_ble_eq_true rfl) ?_
            refine wp_aload_n dX8_open_49 rfl ?_
            refine wp_aload_n dX8_open_50 rfl ?_
            refine wp_get (v := vi (gI σ15 354 a0)) dX8_open_51 fl_RX8_101 hk16 rfl ?_
            obtain ⟨v39, hm38, h⟩ := h
            refine wp_callV (M' := M_X8_rank) (As := [vi (gI σ15 354 a0)]) (st := [vi v37, vr a0]) (ci := 8) dX8_open_54 cee_X8_rank np_X8_rank rfl ⟨Nat.le_of_ble_eq_true rfl, Nat.le_of_ble_eq_true rfl, Nat.le_of_ble_eq_true rfl, Nat.le_of_ble_eq_true rfl⟩ wd_1408 wd_1410 sel_X8_rank rfl (Or.inl hk16) (q_small_of (Nat.le_of_ble_eq_true rfl)) hm38 (q_kPi ?_) q_kPi0
            refine wp_less (ac2 := 0) (as2 := 0) (Nat.le_of_ble_eq_true rfl) (Nat.le_of_ble_eq_true rfl) ?_
            obtain ⟨h, hk46⟩ := h
            have key45 : ∀ v43 : Int, v43 = (if v39 ≤ v37 then (gI σ15 354 a0) else x8) → qW g l M_X8_open 0 0 68 [some (vr a0), some (vi x8)] [vi v43, vr a0] σ15 Post := by
              intro v43 hv44
              have h := hk46 v43 hv44
              refine wp_put (v := vi v43) dX8_open_68 fs_RX8_101 (fun h => absurd h (by decide)) hk16 (Or.inl rfl) ?_
              refine wp_nmS (fun σ47 hs48 => ?_)
              replace h := h σ47 hs48
              refine wp_nmT (x8 + 1) (fun x49 hx50 => ?_)
              replace h := h x49 hx50
              refine wp_iinc' (z' := x49) (ls' := [some (vr a0), some (vi x49)]) dX8_open_71 (Nat.le_of_ble_eq_true rfl) rfl hx50 rfl ?_
              refine wp_goto (tgt := 17) dX8_open_74 (by decide) ?_
              obtain ⟨n51, hlt, h⟩ := h
              exact wp_lsub (ls' := [some (vr a0), some (vi x49)]) ⟨rfl, ⟨rfl, trivial⟩⟩ (ih11 n51 hlt _ _ h)
            obtain ⟨hr52, hr53⟩ := h
            refine wp_icmp_ge (tgt := 64) dX8_open_57 (by decide) hr52 hr53 (fun c54 => ?_) (fun c54 => ?_)
            · refine wp_aload_n dX8_open_64 rfl ?_
              refine wp_get (v := vi (gI σ15 354 a0)) dX8_open_65 fl_RX8_101 hk16 rfl ?_
              exact key45 _ (by rw [if_pos c54])
            · refine wp_iload_n dX8_open_60 rfl ?_
              refine wp_goto (tgt := 68) dX8_open_61 (by decide) ?_
              exact key45 _ (by rw [if_neg c54])
  exact wp_lsub (ls' := [some (vr a0), some (vi 0)]) ⟨rfl, ⟨rfl, trivial⟩⟩ (loop55 _ _ _ h014)

set_option maxRecDepth 100000 in
set_option maxHeartbeats 4000000 in
theorem wm_X8_goesTo {g : qG} {l : Launch} (hl : l.stackTraces = false) {a0 : Nat} {a1 : Int} {σ : qS} {Post : qS → qRs → Prop}
    (h : gK σ a0 = 9 ∧ qR (gI σ 354 a0) ∧ (((gI σ 354 a0) = ((-1)) → (∀ σ4 : qS, σ4 = sI σ 354 a0 a1 → Post σ4 (.inl none))) ∧ (¬ ((gI σ 354 a0) = ((-1))) → qR (gI σ 355 a0) ∧ ((8192 ≤ (gI σ 355 a0) → (∀ σ8 : qS, σ8 = sI σ 354 a0 a1 → Post σ8 (.inl none))) ∧ (¬ (8192 ≤ (gI σ 355 a0)) → gK σ (gP σ 356 a0) = 20 ∧ q_in σ (gP σ 356 a0) (gI σ 355 a0) ∧ (∀ σ12 : qS, σ12 = sA σ (gP σ 356 a0) (gI σ 355 a0) (gI σ 354 a0) → (∀ σ14 : qS, σ14 = sI σ12 355 a0 ((gI σ12 355 a0) + 1) → (∀ σ16 : qS, σ16 = sI σ14 354 a0 a1 → Post σ16 (.inl none))))))))) : qMet g l M_X8_goesTo [vr a0, vi a1] σ Post := by
  refine qMet_of hl (by decide +kernel) (Nat.le_of_ble_eq_true rfl) (List.forall_mem_cons.mpr ⟨trivial, List.forall_mem_cons.mpr ⟨trivial, fun _ h => nomatch h⟩⟩) ?_
  show qW g l M_X8_goesTo 0 0 0 [some (vr a0), some (vi a1)] [] σ Post
  refine wp_aload_n dX8_goesTo_0 rfl ?_
  obtain ⟨hk1, h⟩ := h
  refine wp_get (v := vi (gI σ 354 a0)) dX8_goesTo_1 fl_RX8_101 hk1 rfl ?_
  refine wp_iconst dX8_goesTo_4 ?_
  obtain ⟨hr2, h⟩ := h
  refine wp_icmp_eq (tgt := 41) dX8_goesTo_5 (by decide) hr2 (by unfold qR; omega) (fun c3 => ?_) (fun c3 => ?_)
  · replace h := h.1 c3
    refine wp_aload_n dX8_goesTo_41 rfl ?_
    refine wp_iload_n dX8_goesTo_42 rfl ?_
    refine wp_put (v := vi a1) dX8_goesTo_43 fs_RX8_101 (fun h => absurd h (by decide)) hk1 (Or.inl rfl) ?_
    refine wp_nmS (fun σ4 hs5 => ?_)
    replace h := h σ4 hs5
    exact wp_ret_v dX8_goesTo_46 rfl h
  · replace h := h.2 c3
    refine wp_aload_n dX8_goesTo_8 rfl ?_
    refine wp_get (v := vi (gI σ 355 a0)) dX8_goesTo_9 fl_RX8_202 hk1 rfl ?_
    refine wp_sipush dX8_goesTo_12 (by decide) ?_
    obtain ⟨hr6, h⟩ := h
    refine wp_icmp_ge (tgt := 41) dX8_goesTo_15 (by decide) hr6 (by unfold qR; omega) (fun c7 => ?_) (fun c7 => ?_)
    · replace h := h.1 c7
      refine wp_aload_n dX8_goesTo_41 rfl ?_
      refine wp_iload_n dX8_goesTo_42 rfl ?_
      refine wp_put (v := vi a1) dX8_goesTo_43 fs_RX8_101 (fun h => absurd h (by decide)) hk1 (Or.inl rfl) ?_
      refine wp_nmS (fun σ8 hs9 => ?_)
      replace h := h σ8 hs9
      exact wp_ret_v dX8_goesTo_46 rfl h
    · replace h := h.2 c7
      refine wp_aload_n dX8_goesTo_18 rfl ?_
      refine wp_get (v := vr (gP σ 356 a0)) dX8_goesTo_19 fl_RX8_105 hk1 rfl ?_
      refine wp_aload_n dX8_goesTo_22 rfl ?_
      refine wp_get (v := vi (gI σ 355 a0)) dX8_goesTo_23 fl_RX8_202 hk1 rfl ?_
      refine wp_aload_n dX8_goesTo_26 rfl ?_
      refine wp_get (v := vi (gI σ 354 a0)) dX8_goesTo_27 fl_RX8_101 hk1 rfl ?_
      obtain ⟨hk10, hi11, h⟩ := h
      refine wp_iastore dX8_goesTo_30 hk10 hi11 ?_
      refine wp_nmS (fun σ12 hs13 => ?_)
      replace h := h σ12 hs13
      refine wp_aload_n dX8_goesTo_31 rfl ?_
      refine wp_dup dX8_goesTo_32 trivial ?_
      refine wp_get (v := vi (gI σ12 355 a0)) dX8_goesTo_33 fl_RX8_202 (by rw [hs13]; exact hk1) rfl ?_
      refine wp_iconst dX8_goesTo_36 ?_
      refine wp_iadd dX8_goesTo_37 ?_
      refine wp_put (v := vi ((gI σ12 355 a0) + 1)) dX8_goesTo_38 fs_RX8_202 (fun h => absurd h (by decide)) (by rw [hs13]; exact hk1) (Or.inl rfl) ?_
      refine wp_nmS (fun σ14 hs15 => ?_)
      replace h := h σ14 hs15
      refine wp_aload_n dX8_goesTo_41 rfl ?_
      refine wp_iload_n dX8_goesTo_42 rfl ?_
      refine wp_put (v := vi a1) dX8_goesTo_43 fs_RX8_101 (fun h => absurd h (by decide)) (by rw [hs15, hs13]; exact hk1) (Or.inl rfl) ?_
      refine wp_nmS (fun σ16 hs17 => ?_)
      replace h := h σ16 hs17
      exact wp_ret_v dX8_goesTo_46 rfl h

set_option maxRecDepth 100000 in
set_option maxHeartbeats 4000000 in
theorem wm_X8_forth {g : qG} {l : Launch} (hl : l.stackTraces = false) {a0 : Nat} {σ : qS} {Post : qS → qRs → Prop}
    (h : gK σ a0 = 9 ∧ (∀ σ2 : qS, σ2 = sI σ 320 a0 0 → qR (gI σ2 354 a0) ∧ ((¬ (gI σ2 354 a0) = ((-1)) → (∃ v7 : Int, qMet g l M_X8_neighbour [vr a0, vi (gI σ2 354 a0), vi 1] σ2 (qPi σ2 v7) ∧ (qR v7 ∧ ((v7 = ((-1)) → Post σ2 (.inl (some (vi v7)))) ∧ (¬ (v7 = ((-1))) → (∃ Mid11 : qS → Prop, qMet g l M_X8_goesTo [vr a0, vi v7] σ2 (qTv0 Mid11) ∧ ∀ (σ15 : qS), Mid11 σ15 → Post σ15 (.inl (some (vi v7))))))))) ∧ ((gI σ2 354 a0) = ((-1)) → Post σ2 (.inl (some (vi ((-1))))))))) : qMet g l M_X8_forth [vr a0] σ Post := by
  refine qMet_of hl (by decide +kernel) (Nat.le_of_ble_eq_true rfl) (List.forall_mem_cons.mpr ⟨trivial, fun _ h => nomatch h⟩) ?_
  show qW g l M_X8_forth 0 0 0 [some (vr a0), none] [] σ Post
  refine wp_aload_n dX8_forth_0 rfl ?_
  refine wp_iconst dX8_forth_1 ?_
  obtain ⟨hk1, h⟩ := h
  refine wp_put (v := vi 0) dX8_forth_2 fs_RX8_108 (fun h => absurd h (by decide)) hk1 (Or.inl rfl) ?_
  refine wp_nmS (fun σ2 hs3 => ?_)
  replace h := h σ2 hs3
  refine wp_aload_n dX8_forth_5 rfl ?_
  refine wp_get (v := vi (gI σ2 354 a0)) dX8_forth_6 fl_RX8_101 (by rw [hs3]; exact hk1) rfl ?_
  refine wp_iconst dX8_forth_9 ?_
  obtain ⟨hr4, h⟩ := h
  refine wp_icmp_ne (tgt := 17) dX8_forth_10 (by decide) hr4 (by unfold qR; omega) (fun c5 => ?_) (fun c5 => ?_)
  · replace h := h.1 c5
    refine wp_aload_n dX8_forth_17 rfl ?_
    refine wp_aload_n dX8_forth_18 rfl ?_
    refine wp_get (v := vi (gI σ2 354 a0)) dX8_forth_19 fl_RX8_101 (by rw [hs3]; exact hk1) rfl ?_
    refine wp_iconst dX8_forth_22 ?_
    obtain ⟨v7, hm6, h⟩ := h
    refine wp_callV (M' := M_X8_neighbour) (As := [vi (gI σ2 354 a0), vi 1]) (st := []) (ci := 8) dX8_forth_23 cee_X8_neighbour np_X8_neighbour rfl ⟨Nat.le_of_ble_eq_true rfl, Nat.le_of_ble_eq_true rfl, Nat.le_of_ble_eq_true rfl, Nat.le_of_ble_eq_true rfl⟩ wd_1431 wd_1433 sel_X8_neighbour rfl (Or.inl (by rw [hs3]; exact hk1)) (q_small_of (Nat.le_of_ble_eq_true rfl)) hm6 (q_kPi ?_) q_kPi0
    refine wp_less (ac2 := 0) (as2 := 0) (Nat.le_of_ble_eq_true rfl) (Nat.le_of_ble_eq_true rfl) ?_
    refine wp_istore_n' (ls' := [some (vr a0), some (vi v7)]) dX8_forth_26 (Nat.le_of_ble_eq_true rfl) rfl ?_
    refine wp_iload_n dX8_forth_27 rfl ?_
    refine wp_iconst dX8_forth_28 ?_
    obtain ⟨hr8, h⟩ := h
    refine wp_icmp_eq (tgt := 37) dX8_forth_29 (by decide) hr8 (by unfold qR; omega) (fun c9 => ?_) (fun c9 => ?_)
    · replace h := h.1 c9
      refine wp_iload_n dX8_forth_37 rfl ?_
      exact wp_ret_i dX8_forth_38 rfl rfl h
    · replace h := h.2 c9
      refine wp_aload_n dX8_forth_32 rfl ?_
      refine wp_iload_n dX8_forth_33 rfl ?_
      obtain ⟨Mid11, hm10, hk13⟩ := h
      refine wp_callV (M' := M_X8_goesTo) (As := [vi v7]) (st := []) (ci := 8) dX8_forth_34 cee_X8_goesTo np_X8_goesTo rfl ⟨Nat.le_of_ble_eq_true rfl, Nat.le_of_ble_eq_true rfl, Nat.le_of_ble_eq_true rfl, Nat.le_of_ble_eq_true rfl⟩ wd_1559 wd_1561 sel_X8_goesTo rfl (Or.inl (by rw [hs3]; exact hk1)) (q_small_of (Nat.le_of_ble_eq_true rfl)) hm10 (q_kTv0 (fun σ15 hM16 => ?_)) q_kTv00
      refine wp_less (ac2 := 0) (as2 := 0) (Nat.le_of_ble_eq_true rfl) (Nat.le_of_ble_eq_true rfl) ?_
      have h := hk13 σ15 hM16
      refine wp_iload_n dX8_forth_37 rfl ?_
      exact wp_ret_i dX8_forth_38 rfl rfl h
  · replace h := h.2 c5
    refine wp_iconst dX8_forth_13 ?_
    refine wp_goto (tgt := 26) dX8_forth_14 (by decide) ?_
    refine wp_istore_n' (ls' := [some (vr a0), some (vi ((-1)))]) dX8_forth_26 (Nat.le_of_ble_eq_true rfl) rfl ?_
    refine wp_iload_n dX8_forth_27 rfl ?_
    refine wp_iconst dX8_forth_28 ?_
    refine wp_icmp_eq (tgt := 37) dX8_forth_29 (by decide) (by unfold qR; omega) (by unfold qR; omega) (fun _ => ?_) (fun c9 => absurd (by decide) c9)
    refine wp_iload_n dX8_forth_37 rfl ?_
    exact wp_ret_i dX8_forth_38 rfl rfl h

set_option maxRecDepth 100000 in
set_option maxHeartbeats 4000000 in
theorem wm_X8_jump {g : qG} {l : Launch} (hl : l.stackTraces = false) {a0 : Nat} {a1 : Int} {σ : qS} {Post : qS → qRs → Prop}
    (h : gK σ a0 = 9 ∧ (∃ v3 : Int, qMet g l M_X8_isPanel [vr a0, vi a1] σ (qPi σ v3) ∧ (qR v3 ∧ ((¬ v3 = 0 → (∀ σ6 : qS, σ6 = sI σ 320 a0 0 → (∃ Mid9 : qS → Prop, qMet g l M_X8_goesTo [vr a0, vi a1] σ6 (qTv0 Mid9) ∧ ∀ (σ13 : qS), Mid9 σ13 → gK σ13 a0 = 9 ∧ Post σ13 (.inl (some (vi (gI σ13 355 a0))))))) ∧ (v3 = 0 → (∃ Mid17 : qS → Int → Prop, qMet g l M_X8_fails [vr a0, vi 1] σ (qTi0 Mid17) ∧ ∀ (σ21 : qS) (v23 : Int), Mid17 σ21 v23 → Post σ21 (.inl (some (vi v23))))))))) : qMet g l M_X8_jump [vr a0, vi a1] σ Post := by
  refine qMet_of hl (by decide +kernel) (Nat.le_of_ble_eq_true rfl) (List.forall_mem_cons.mpr ⟨trivial, List.forall_mem_cons.mpr ⟨trivial, fun _ h => nomatch h⟩⟩) ?_
  show qW g l M_X8_jump 0 0 0 [some (vr a0), some (vi a1)] [] σ Post
  refine wp_aload_n dX8_jump_0 rfl ?_
  refine wp_iload_n dX8_jump_1 rfl ?_
  obtain ⟨hk2, h⟩ := h
  obtain ⟨v3, hm1, h⟩ := h
  refine wp_callV (M' := M_X8_isPanel) (As := [vi a1]) (st := []) (ci := 8) dX8_jump_2 cee_X8_isPanel np_X8_isPanel rfl ⟨Nat.le_of_ble_eq_true rfl, Nat.le_of_ble_eq_true rfl, Nat.le_of_ble_eq_true rfl, Nat.le_of_ble_eq_true rfl⟩ wd_1416 wd_1418 sel_X8_isPanel rfl (Or.inl hk2) (q_small_of (Nat.le_of_ble_eq_true rfl)) hm1 (q_kPi ?_) q_kPi0
  refine wp_less (ac2 := 0) (as2 := 0) (Nat.le_of_ble_eq_true rfl) (Nat.le_of_ble_eq_true rfl) ?_
  obtain ⟨hr4, h⟩ := h
  refine wp_if_ne (tgt := 14) dX8_jump_5 (by decide) hr4 (fun c5 => ?_) (fun c5 => ?_)
  · replace h := h.1 c5
    refine wp_aload_n dX8_jump_14 rfl ?_
    refine wp_iconst dX8_jump_15 ?_
    refine wp_put (v := vi 0) dX8_jump_16 fs_RX8_108 (fun h => absurd h (by decide)) hk2 (Or.inl rfl) ?_
    refine wp_nmS (fun σ6 hs7 => ?_)
    replace h := h σ6 hs7
    refine wp_aload_n dX8_jump_19 rfl ?_
    refine wp_iload_n dX8_jump_20 rfl ?_
    obtain ⟨Mid9, hm8, hk11⟩ := h
    refine wp_callV (M' := M_X8_goesTo) (As := [vi a1]) (st := []) (ci := 8) dX8_jump_21 cee_X8_goesTo np_X8_goesTo rfl ⟨Nat.le_of_ble_eq_true rfl, Nat.le_of_ble_eq_true rfl, Nat.le_of_ble_eq_true rfl, Nat.le_of_ble_eq_true rfl⟩ wd_1559 wd_1561 sel_X8_goesTo rfl (Or.inl (by rw [hs7]; exact hk2)) (q_small_of (Nat.le_of_ble_eq_true rfl)) hm8 (q_kTv0 (fun σ13 hM14 => ?_)) q_kTv00
    refine wp_less (ac2 := 0) (as2 := 0) (Nat.le_of_ble_eq_true rfl) (Nat.le_of_ble_eq_true rfl) ?_
    have h := hk11 σ13 hM14
    refine wp_aload_n dX8_jump_24 rfl ?_
    obtain ⟨hk15, h⟩ := h
    refine wp_get (v := vi (gI σ13 355 a0)) dX8_jump_25 fl_RX8_202 hk15 rfl ?_
    exact wp_ret_i dX8_jump_28 rfl rfl h
  · replace h := h.2 c5
    refine wp_aload_n dX8_jump_8 rfl ?_
    refine wp_iconst dX8_jump_9 ?_
    obtain ⟨Mid17, hm16, hk19⟩ := h
    refine wp_callV (M' := M_X8_fails) (As := [vi 1]) (st := []) (ci := 8) dX8_jump_10 cee_X8_fails np_X8_fails rfl ⟨Nat.le_of_ble_eq_true rfl, Nat.le_of_ble_eq_true rfl, Nat.le_of_ble_eq_true rfl, Nat.le_of_ble_eq_true rfl⟩ wd_1347 wd_1349 sel_X8_fails rfl (Or.inl hk2) (q_small_of (Nat.le_of_ble_eq_true rfl)) hm16 (q_kTi0 (fun σ21 v23 hM22 => ?_)) q_kTi00
    refine wp_less (ac2 := 0) (as2 := 0) (Nat.le_of_ble_eq_true rfl) (Nat.le_of_ble_eq_true rfl) ?_
    have h := hk19 σ21 v23 hM22
    exact wp_ret_i dX8_jump_13 rfl rfl h

set_option maxRecDepth 100000 in
set_option maxHeartbeats 4000000 in
theorem wm_X8_back {g : qG} {l : Launch} (hl : l.stackTraces = false) {a0 : Nat} {σ : qS} {Post : qS → qRs → Prop}
    (h : gK σ a0 = 9 ∧ (∀ σ2 : qS, σ2 = sI σ 320 a0 0 → qR (gI σ2 355 a0) ∧ ((¬ (gI σ2 355 a0) = 0 → (∀ σ6 : qS, σ6 = sI σ2 355 a0 ((gI σ2 355 a0) - 1) → q_isA σ6 0 (gP σ6 356 a0) ∧ q_in σ6 (gP σ6 356 a0) ((gI σ2 355 a0) - 1) ∧ (∀ σ10 : qS, σ10 = sI σ6 354 a0 (gA σ6 (gP σ6 356 a0) ((gI σ2 355 a0) - 1)) → Post σ10 (.inl (some (vi (gA σ6 (gP σ6 356 a0) ((gI σ2 355 a0) - 1)))))))) ∧ ((gI σ2 355 a0) = 0 → Post σ2 (.inl (some (vi ((-1))))))))) : qMet g l M_X8_back [vr a0] σ Post := by
  refine qMet_of hl (by decide +kernel) (Nat.le_of_ble_eq_true rfl) (List.forall_mem_cons.mpr ⟨trivial, fun _ h => nomatch h⟩) ?_
  show qW g l M_X8_back 0 0 0 [some (vr a0)] [] σ Post
  refine wp_aload_n dX8_back_0 rfl ?_
  refine wp_iconst dX8_back_1 ?_
  obtain ⟨hk1, h⟩ := h
  refine wp_put (v := vi 0) dX8_back_2 fs_RX8_108 (fun h => absurd h (by decide)) hk1 (Or.inl rfl) ?_
  refine wp_nmS (fun σ2 hs3 => ?_)
  replace h := h σ2 hs3
  refine wp_aload_n dX8_back_5 rfl ?_
  refine wp_get (v := vi (gI σ2 355 a0)) dX8_back_6 fl_RX8_202 (by rw [hs3]; exact hk1) rfl ?_
  obtain ⟨hr4, h⟩ := h
  refine wp_if_ne (tgt := 14) dX8_back_9 (by decide) hr4 (fun c5 => ?_) (fun c5 => ?_)
  · replace h := h.1 c5
    refine wp_aload_n dX8_back_14 rfl ?_
    refine wp_dup dX8_back_15 trivial ?_
    refine wp_get (v := vi (gI σ2 355 a0)) dX8_back_16 fl_RX8_202 (by rw [hs3]; exact hk1) rfl ?_
    refine wp_iconst dX8_back_19 ?_
    refine wp_isub dX8_back_20 ?_
    refine wp_put (v := vi ((gI σ2 355 a0) - 1)) dX8_back_21 fs_RX8_202 (fun h => absurd h (by decide)) (by rw [hs3]; exact hk1) (Or.inl rfl) ?_
    refine wp_nmS (fun σ6 hs7 => ?_)
    replace h := h σ6 hs7
    refine wp_aload_n dX8_back_24 rfl ?_
    refine wp_aload_n dX8_back_25 rfl ?_
    refine wp_get (v := vr (gP σ6 356 a0)) dX8_back_26 fl_RX8_105 (by rw [hs7, hs3]; exact hk1) rfl ?_
    refine wp_aload_n dX8_back_29 rfl ?_
    refine wp_get (v := vi ((gI σ2 355 a0) - 1)) dX8_back_30 fl_RX8_202 (by rw [hs7, hs3]; exact hk1) (by rw [hs7]; exact q_memI) ?_
    obtain ⟨ha8, hi9, h⟩ := h
    refine wp_iaload dX8_back_33 ha8 hi9 ?_
    refine wp_put (v := vi (gA σ6 (gP σ6 356 a0) ((gI σ2 355 a0) - 1))) dX8_back_34 fs_RX8_101 (fun h => absurd h (by decide)) (by rw [hs7, hs3]; exact hk1) (Or.inl rfl) ?_
    refine wp_nmS (fun σ10 hs11 => ?_)
    replace h := h σ10 hs11
    refine wp_aload_n dX8_back_37 rfl ?_
    refine wp_get (v := vi (gA σ6 (gP σ6 356 a0) ((gI σ2 355 a0) - 1))) dX8_back_38 fl_RX8_101 (by rw [hs11, hs7, hs3]; exact hk1) (by rw [hs11]; exact q_memI) ?_
    exact wp_ret_i dX8_back_41 rfl rfl h
  · replace h := h.2 c5
    refine wp_iconst dX8_back_12 ?_
    exact wp_ret_i dX8_back_13 rfl rfl h

set_option maxRecDepth 100000 in
set_option maxHeartbeats 4000000 in
theorem wm_X8_here {g : qG} {l : Launch} (hl : l.stackTraces = false) {a0 : Nat} {σ : qS} {Post : qS → qRs → Prop}
    (h : gK σ a0 = 9 ∧ (∀ σ2 : qS, σ2 = sI σ 320 a0 0 → Post σ2 (.inl (some (vi (gI σ2 354 a0)))))) : qMet g l M_X8_here [vr a0] σ Post := by
  refine qMet_of hl (by decide +kernel) (Nat.le_of_ble_eq_true rfl) (List.forall_mem_cons.mpr ⟨trivial, fun _ h => nomatch h⟩) ?_
  show qW g l M_X8_here 0 0 0 [some (vr a0)] [] σ Post
  refine wp_aload_n dX8_here_0 rfl ?_
  refine wp_iconst dX8_here_1 ?_
  obtain ⟨hk1, h⟩ := h
  refine wp_put (v := vi 0) dX8_here_2 fs_RX8_108 (fun h => absurd h (by decide)) hk1 (Or.inl rfl) ?_
  refine wp_nmS (fun σ2 hs3 => ?_)
  replace h := h σ2 hs3
  refine wp_aload_n dX8_here_5 rfl ?_
  refine wp_get (v := vi (gI σ2 354 a0)) dX8_here_6 fl_RX8_101 (by rw [hs3]; exact hk1) rfl ?_
  exact wp_ret_i dX8_here_9 rfl rfl h
