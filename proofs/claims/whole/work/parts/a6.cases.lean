/-! printed: the law's cases -/
section
variable {g : qG} {l : Launch} {A : Nat → Nat → Nat} {L : Nat} {s : Int → Int} {D : qD} {σ : qS} {Post : qS → qRs → Prop} {nm : String} {hh : List (Nat × Nat × Nat × Nat)} {sc x m out ca sa : Nat} {i : Int}
set_option maxRecDepth 100000 in
set_option maxHeartbeats 4000000 in
theorem lc_0 (hl : l.stackTraces = false) (hg : scG g sc L s) (hs : atA A sc x m out) (J : LK A L s D D σ) (hw : WF D) (hk : (kp D).length < 512) (hi : 0 ≤ i ∧ i + 6 ≤ L) (kn : ∀ A' D' σ', atA A' sc x m out → LK A' L s D' D' σ' → Nx D D' → qW g l (M_law nm hh) ca sa 2029 [some (vr sc), some (vr x), some (vr m), some (vr out), some (vi i), none, none] [] σ' Post) : qW g l (M_law nm hh) (ca + 5) (sa + 415) 188 [some (vr sc), some (vr x), some (vr m), some (vr out), some (vi i), none, none] [] σ Post := by
  obtain ⟨rfl, rfl, rfl, rfl⟩ := hs
  obtain ⟨pa, pi, pv, pr⟩ := LX_f hg hi
  refine wp_aload_n dL_law_188 rfl ?_
  refine wp_aload_n dL_law_189 rfl ?_
  refine wp_callSX (M' := M_L_page) (As := [vr (A 0 0), vr (A 31 0)]) (st := []) dL_law_190 ceeX_L_page np_L_page rfl ⟨Nat.le_of_ble_eq_true rfl, Nat.le_of_ble_eq_true rfl, Nat.le_trans (m := 5) (Nat.le_of_ble_eq_true rfl) (Nat.le_add_left _ _), Nat.le_trans (m := 415) (Nat.le_of_ble_eq_true rfl) (Nat.le_add_left _ _)⟩ wd_181 wd_182 (q_small_of (Nat.le_of_ble_eq_true rfl)) (lw_L_page hl J hw hk) (q_kTi0 (fun σ1 k hM => ?_)) q_kTi00
  refine wp_less (ac2 := ca + 0) (as2 := sa + 0) (by show ca + 0 ≤ ca + 5 - 5; omega) (by show sa + 0 ≤ sa + 415 - 415; omega) ?_
  obtain ⟨A', J1, ⟨e0, e30, e31, e32⟩, hk1⟩ := hM
  refine wp_istore' (ls' := [some (vr (A 32 0)), some (vr (A 0 0)), some (vr (A 30 0)), some (vr (A 31 0)), some (vi i), some (vi k), none]) dL_law_193 (Nat.le_of_ble_eq_true rfl) rfl ?_
  refine wp_aload_n dL_law_195 rfl ?_
  have hm := spec_mpage (g := g) hl J1.1 J1.2.2.1 hw.1
  rw [e30] at hm
  refine wp_callV (M' := M_X8_page) (As := []) (st := []) (ci := 8) dL_law_196 cee_X8_page np_X8_page rfl ⟨Nat.le_of_ble_eq_true rfl, Nat.le_of_ble_eq_true rfl, Nat.le_trans (m := 0) (Nat.le_of_ble_eq_true rfl) (Nat.le_add_left _ _), Nat.le_trans (m := 0) (Nat.le_of_ble_eq_true rfl) (Nat.le_add_left _ _)⟩ wd_1332 wd_1333 wd_1334 rfl (Or.inl (by rw [← e30]; exact J1.2.2.1.1.1.1)) (q_small_of (Nat.le_of_ble_eq_true rfl)) hm (q_kTi0 (fun σ2 b hM2 => ?_)) q_kTi00
  refine wp_less (ac2 := ca + 0) (as2 := sa + 0) (by show ca + 0 ≤ ca + 0 - 0; omega) (by show sa + 0 ≤ sa + 0 - 0; omega) ?_
  obtain ⟨m1, m2, m3⟩ := hM2
  obtain ⟨J2, g31⟩ := LK_mod J1 m1 m2
  refine wp_nrm ?_
  refine wp_istore' (ls' := [some (vr (A 32 0)), some (vr (A 0 0)), some (vr (A 30 0)), some (vr (A 31 0)), some (vi i), some (vi k), some (vi (nrm b))]) dL_law_199 (Nat.le_of_ble_eq_true rfl) rfl ?_
  refine wp_aload_n dL_law_201 rfl ?_
  have ht := spec_thrown (g := g) hl J2.2.2.1.1.1
  rw [e30] at ht
  obtain ⟨q1, q2, q3⟩ := lw_end cOk0 hk1 m3
  rw [e30] at q1
  rw [q1] at ht
  refine wp_callV (M' := M_X8_thrown) (As := []) (st := []) (ci := 8) dL_law_202 cee_X8_thrown np_X8_thrown rfl ⟨Nat.le_of_ble_eq_true rfl, Nat.le_of_ble_eq_true rfl, Nat.le_trans (m := 0) (Nat.le_of_ble_eq_true rfl) (Nat.le_add_left _ _), Nat.le_trans (m := 0) (Nat.le_of_ble_eq_true rfl) (Nat.le_add_left _ _)⟩ wd_1328 wd_1329 wd_1330 rfl (Or.inl (by rw [← e30]; exact J2.2.2.1.1.1.1)) (q_small_of (Nat.le_of_ble_eq_true rfl)) ht (q_kPi ?_) q_kPi0
  refine wp_less (ac2 := ca) (as2 := sa) (by show ca ≤ ca + 0 - 0; omega) (by show sa ≤ sa + 0 - 0; omega) ?_
  refine wp_iload dL_law_205 rfl ?_
  have hfin : qW g l (M_law nm hh) ca sa 2029 [some (vr (A 32 0)), some (vr (A 0 0)), some (vr (A 30 0)), some (vr (A 31 0)), some (vi i), some (vi k), some (vi (nrm b))] [] σ2 Post := wp_lsub (ls' := [some (vr (A 32 0)), some (vr (A 0 0)), some (vr (A 30 0)), some (vr (A 31 0)), some (vi i), none, none]) ⟨rfl, rfl, rfl, rfl, rfl, trivial⟩ (kn A' _ σ2 ⟨e0, e30, e31, e32⟩ J2 (Nx_page hw))
  refine wp_icmp_eq (tgt := 212) dL_law_207 (by decide) q2 q2 (fun _ => ?_) (fun c9 => absurd rfl c9)
  refine wp_iload dL_law_212 rfl ?_
  refine wp_if_ne (tgt := 229) dL_law_214 (by decide) q2 (fun _ => ?_) (fun c9 => ?_)
  · exact wp_goto (tgt := 2029) dL_law_229 (by decide) hfin
  · have hg : gA σ2 (A 31 0) 0 = nrm b := by rw [← e31, g31, e31]; exact q3 c9
    obtain ⟨oa, oi⟩ := LX_o J2.2.2.2
    rw [e31] at oa oi
    refine wp_aload_n dL_law_217 rfl ?_
    refine wp_iconst dL_law_218 ?_
    refine wp_laload dL_law_219 oa oi ?_
    rw [hg]
    refine wp_iload dL_law_220 rfl ?_
    refine wp_i2l dL_law_222 (nrm_Q b) ?_
    refine wp_lcmp dL_law_223 (nrm_Q b) (nrm_Q b) ?_
    rw [if_neg (by omega), if_pos rfl]
    refine wp_if_eq (tgt := 229) dL_law_224 (by decide) (by unfold qR; omega) (fun _ => ?_) (fun c8 => absurd rfl c8)
    exact wp_goto (tgt := 2029) dL_law_229 (by decide) hfin
set_option maxRecDepth 100000 in
set_option maxHeartbeats 4000000 in
theorem lc_1 (hl : l.stackTraces = false) (hg : scG g sc L s) (hs : atA A sc x m out) (J : LK A L s D D σ) (hw : WF D) (hk : (kp D).length < 512) (hi : 0 ≤ i ∧ i + 6 ≤ L) (kn : ∀ A' D' σ', atA A' sc x m out → LK A' L s D' D' σ' → Nx D D' → qW g l (M_law nm hh) ca sa 2029 [some (vr sc), some (vr x), some (vr m), some (vr out), some (vi i), none, none] [] σ' Post) : qW g l (M_law nm hh) (ca + 16) (sa + 868) 232 [some (vr sc), some (vr x), some (vr m), some (vr out), some (vi i), none, none] [] σ Post := by
  obtain ⟨rfl, rfl, rfl, rfl⟩ := hs
  obtain ⟨pa, pi, pv, pr⟩ := LX_f hg hi
  refine wp_aload_n dL_law_232 rfl ?_
  refine wp_arg (k := 1) (v := s (i + 1)) dL_law_233 dL_law_234 dL_law_236 dL_law_237 dL_law_238 rfl rfl pa (pi 1 (by decide) (by decide)) (pv 1 (by decide) (by decide)) ?_
  refine wp_arg (k := 2) (v := s (i + 2)) dL_law_239 dL_law_240 dL_law_242 dL_law_243 dL_law_244 rfl rfl pa (pi 2 (by decide) (by decide)) (pv 2 (by decide) (by decide)) ?_
  refine wp_arg (k := 3) (v := s (i + 3)) dL_law_245 dL_law_246 dL_law_248 dL_law_249 dL_law_250 rfl rfl pa (pi 3 (by decide) (by decide)) (pv 3 (by decide) (by decide)) ?_
  refine wp_arg (k := 4) (v := s (i + 4)) dL_law_251 dL_law_252 dL_law_254 dL_law_255 dL_law_256 rfl rfl pa (pi 4 (by decide) (by decide)) (pv 4 (by decide) (by decide)) ?_
  refine wp_arg (k := 5) (v := s (i + 5)) dL_law_257 dL_law_258 dL_law_260 dL_law_261 dL_law_262 rfl rfl pa (pi 5 (by decide) (by decide)) (pv 5 (by decide) (by decide)) ?_
  refine wp_aload_n dL_law_263 rfl ?_
  refine wp_callSX (M' := M_L_panel) (As := [vr (A 0 0), vi (s (i + 1)), vi (s (i + 2)), vi (s (i + 3)), vi (s (i + 4)), vi (s (i + 5)), vr (A 31 0)]) (st := []) dL_law_264 ceeX_L_panel np_L_panel rfl ⟨Nat.le_of_ble_eq_true rfl, Nat.le_of_ble_eq_true rfl, Nat.le_trans (m := 16) (Nat.le_of_ble_eq_true rfl) (Nat.le_add_left _ _), Nat.le_trans (m := 868) (Nat.le_of_ble_eq_true rfl) (Nat.le_add_left _ _)⟩ wd_353 wd_354 (q_small_of (Nat.le_of_ble_eq_true rfl)) (lw_L_panel hl J hw hk (pr 1 (by decide) (by decide)) (pr 2 (by decide) (by decide)) (pr 3 (by decide) (by decide)) (pr 4 (by decide) (by decide)) (pr 5 (by decide) (by decide))) (q_kTi0 (fun σ1 k hM => ?_)) q_kTi00
  refine wp_less (ac2 := ca + 0) (as2 := sa + 0) (by show ca + 0 ≤ ca + 16 - 16; omega) (by show sa + 0 ≤ sa + 868 - 868; omega) ?_
  obtain ⟨A', J1, ⟨e0, e30, e31, e32⟩, hk1⟩ := hM
  refine wp_istore' (ls' := [some (vr (A 32 0)), some (vr (A 0 0)), some (vr (A 30 0)), some (vr (A 31 0)), some (vi i), some (vi k), none]) dL_law_267 (Nat.le_of_ble_eq_true rfl) rfl ?_
  refine wp_aload_n dL_law_269 rfl ?_
  refine wp_arg (k := 1) (v := s (i + 1)) dL_law_270 dL_law_271 dL_law_273 dL_law_274 dL_law_275 rfl rfl pa (pi 1 (by decide) (by decide)) (pv 1 (by decide) (by decide)) ?_
  refine wp_arg (k := 2) (v := s (i + 2)) dL_law_276 dL_law_277 dL_law_279 dL_law_280 dL_law_281 rfl rfl pa (pi 2 (by decide) (by decide)) (pv 2 (by decide) (by decide)) ?_
  refine wp_arg (k := 3) (v := s (i + 3)) dL_law_282 dL_law_283 dL_law_285 dL_law_286 dL_law_287 rfl rfl pa (pi 3 (by decide) (by decide)) (pv 3 (by decide) (by decide)) ?_
  refine wp_arg (k := 4) (v := s (i + 4)) dL_law_288 dL_law_289 dL_law_291 dL_law_292 dL_law_293 rfl rfl pa (pi 4 (by decide) (by decide)) (pv 4 (by decide) (by decide)) ?_
  refine wp_arg (k := 5) (v := s (i + 5)) dL_law_294 dL_law_295 dL_law_297 dL_law_298 dL_law_299 rfl rfl pa (pi 5 (by decide) (by decide)) (pv 5 (by decide) (by decide)) ?_
  have hm := spec_mpanel (g := g) hl J1.1 J1.2.2.1 hw (pr 1 (by decide) (by decide)) (pr 2 (by decide) (by decide)) (pr 3 (by decide) (by decide)) (pr 4 (by decide) (by decide)) (pr 5 (by decide) (by decide))
  rw [e30] at hm
  refine wp_callV (M' := M_X8_panel) (As := [vi (s (i + 1)), vi (s (i + 2)), vi (s (i + 3)), vi (s (i + 4)), vi (s (i + 5))]) (st := []) (ci := 8) dL_law_300 cee_X8_panel np_X8_panel rfl ⟨Nat.le_of_ble_eq_true rfl, Nat.le_of_ble_eq_true rfl, Nat.le_trans (m := 0) (Nat.le_of_ble_eq_true rfl) (Nat.le_add_left _ _), Nat.le_trans (m := 0) (Nat.le_of_ble_eq_true rfl) (Nat.le_add_left _ _)⟩ wd_1336 wd_1337 wd_1338 rfl (Or.inl (by rw [← e30]; exact J1.2.2.1.1.1.1)) (q_small_of (Nat.le_of_ble_eq_true rfl)) hm (q_kTi0 (fun σ2 b hM2 => ?_)) q_kTi00
  refine wp_less (ac2 := ca + 0) (as2 := sa + 0) (by show ca + 0 ≤ ca + 0 - 0; omega) (by show sa + 0 ≤ sa + 0 - 0; omega) ?_
  obtain ⟨m1, m2, m3⟩ := hM2
  obtain ⟨J2, g31⟩ := LK_mod J1 m1 m2
  refine wp_nrm ?_
  refine wp_istore' (ls' := [some (vr (A 32 0)), some (vr (A 0 0)), some (vr (A 30 0)), some (vr (A 31 0)), some (vi i), some (vi k), some (vi (nrm b))]) dL_law_303 (Nat.le_of_ble_eq_true rfl) rfl ?_
  refine wp_aload_n dL_law_305 rfl ?_
  have ht := spec_thrown (g := g) hl J2.2.2.1.1.1
  rw [e30] at ht
  obtain ⟨q1, q2, q3⟩ := lw_end cOk3 hk1 m3
  rw [e30] at q1
  rw [q1] at ht
  refine wp_callV (M' := M_X8_thrown) (As := []) (st := []) (ci := 8) dL_law_306 cee_X8_thrown np_X8_thrown rfl ⟨Nat.le_of_ble_eq_true rfl, Nat.le_of_ble_eq_true rfl, Nat.le_trans (m := 0) (Nat.le_of_ble_eq_true rfl) (Nat.le_add_left _ _), Nat.le_trans (m := 0) (Nat.le_of_ble_eq_true rfl) (Nat.le_add_left _ _)⟩ wd_1328 wd_1329 wd_1330 rfl (Or.inl (by rw [← e30]; exact J2.2.2.1.1.1.1)) (q_small_of (Nat.le_of_ble_eq_true rfl)) ht (q_kPi ?_) q_kPi0
  refine wp_less (ac2 := ca) (as2 := sa) (by show ca ≤ ca + 0 - 0; omega) (by show sa ≤ sa + 0 - 0; omega) ?_
  refine wp_iload dL_law_309 rfl ?_
  have hfin : qW g l (M_law nm hh) ca sa 2029 [some (vr (A 32 0)), some (vr (A 0 0)), some (vr (A 30 0)), some (vr (A 31 0)), some (vi i), some (vi k), some (vi (nrm b))] [] σ2 Post := wp_lsub (ls' := [some (vr (A 32 0)), some (vr (A 0 0)), some (vr (A 30 0)), some (vr (A 31 0)), some (vi i), none, none]) ⟨rfl, rfl, rfl, rfl, rfl, trivial⟩ (kn A' _ σ2 ⟨e0, e30, e31, e32⟩ J2 (Nx_panel hw))
  refine wp_icmp_eq (tgt := 316) dL_law_311 (by decide) q2 q2 (fun _ => ?_) (fun c9 => absurd rfl c9)
  refine wp_iload dL_law_316 rfl ?_
  refine wp_if_ne (tgt := 333) dL_law_318 (by decide) q2 (fun _ => ?_) (fun c9 => ?_)
  · exact wp_goto (tgt := 2029) dL_law_333 (by decide) hfin
  · have hg : gA σ2 (A 31 0) 0 = nrm b := by rw [← e31, g31, e31]; exact q3 c9
    obtain ⟨oa, oi⟩ := LX_o J2.2.2.2
    rw [e31] at oa oi
    refine wp_aload_n dL_law_321 rfl ?_
    refine wp_iconst dL_law_322 ?_
    refine wp_laload dL_law_323 oa oi ?_
    rw [hg]
    refine wp_iload dL_law_324 rfl ?_
    refine wp_i2l dL_law_326 (nrm_Q b) ?_
    refine wp_lcmp dL_law_327 (nrm_Q b) (nrm_Q b) ?_
    rw [if_neg (by omega), if_pos rfl]
    refine wp_if_eq (tgt := 333) dL_law_328 (by decide) (by unfold qR; omega) (fun _ => ?_) (fun c8 => absurd rfl c8)
    exact wp_goto (tgt := 2029) dL_law_333 (by decide) hfin
set_option maxRecDepth 100000 in
set_option maxHeartbeats 4000000 in
theorem lc_2 (hl : l.stackTraces = false) (hg : scG g sc L s) (hs : atA A sc x m out) (J : LK A L s D D σ) (hw : WF D) (hk : (kp D).length < 512) (hi : 0 ≤ i ∧ i + 6 ≤ L) (kn : ∀ A' D' σ', atA A' sc x m out → LK A' L s D' D' σ' → Nx D D' → qW g l (M_law nm hh) ca sa 2029 [some (vr sc), some (vr x), some (vr m), some (vr out), some (vi i), none, none] [] σ' Post) : qW g l (M_law nm hh) (ca + 7) (sa + 818) 336 [some (vr sc), some (vr x), some (vr m), some (vr out), some (vi i), none, none] [] σ Post := by
  obtain ⟨rfl, rfl, rfl, rfl⟩ := hs
  obtain ⟨pa, pi, pv, pr⟩ := LX_f hg hi
  refine wp_aload_n dL_law_336 rfl ?_
  refine wp_arg (k := 1) (v := s (i + 1)) dL_law_337 dL_law_338 dL_law_340 dL_law_341 dL_law_342 rfl rfl pa (pi 1 (by decide) (by decide)) (pv 1 (by decide) (by decide)) ?_
  refine wp_arg (k := 2) (v := s (i + 2)) dL_law_343 dL_law_344 dL_law_346 dL_law_347 dL_law_348 rfl rfl pa (pi 2 (by decide) (by decide)) (pv 2 (by decide) (by decide)) ?_
  refine wp_aload_n dL_law_349 rfl ?_
  refine wp_callSX (M' := M_L_movePanel) (As := [vr (A 0 0), vi (s (i + 1)), vi (s (i + 2)), vr (A 31 0)]) (st := []) dL_law_350 ceeX_L_movePanel np_L_movePanel rfl ⟨Nat.le_of_ble_eq_true rfl, Nat.le_of_ble_eq_true rfl, Nat.le_trans (m := 7) (Nat.le_of_ble_eq_true rfl) (Nat.le_add_left _ _), Nat.le_trans (m := 818) (Nat.le_of_ble_eq_true rfl) (Nat.le_add_left _ _)⟩ wd_846 wd_847 (q_small_of (Nat.le_of_ble_eq_true rfl)) (lw_L_movePanel hl J hw hk (pr 1 (by decide) (by decide)) (pr 2 (by decide) (by decide))) (q_kTi0 (fun σ1 k hM => ?_)) q_kTi00
  refine wp_less (ac2 := ca + 0) (as2 := sa + 0) (by show ca + 0 ≤ ca + 7 - 7; omega) (by show sa + 0 ≤ sa + 818 - 818; omega) ?_
  obtain ⟨A', J1, ⟨e0, e30, e31, e32⟩, hk1⟩ := hM
  refine wp_istore' (ls' := [some (vr (A 32 0)), some (vr (A 0 0)), some (vr (A 30 0)), some (vr (A 31 0)), some (vi i), some (vi k), none]) dL_law_353 (Nat.le_of_ble_eq_true rfl) rfl ?_
  refine wp_aload_n dL_law_355 rfl ?_
  refine wp_arg (k := 1) (v := s (i + 1)) dL_law_356 dL_law_357 dL_law_359 dL_law_360 dL_law_361 rfl rfl pa (pi 1 (by decide) (by decide)) (pv 1 (by decide) (by decide)) ?_
  refine wp_arg (k := 2) (v := s (i + 2)) dL_law_362 dL_law_363 dL_law_365 dL_law_366 dL_law_367 rfl rfl pa (pi 2 (by decide) (by decide)) (pv 2 (by decide) (by decide)) ?_
  have hm := spec_mmovePanel (g := g) hl J1.1 J1.2.2.1 hw (pr 1 (by decide) (by decide)) (pr 2 (by decide) (by decide))
  rw [e30] at hm
  refine wp_callV (M' := M_X8_movePanel) (As := [vi (s (i + 1)), vi (s (i + 2))]) (st := []) (ci := 8) dL_law_368 cee_X8_movePanel np_X8_movePanel rfl ⟨Nat.le_of_ble_eq_true rfl, Nat.le_of_ble_eq_true rfl, Nat.le_trans (m := 0) (Nat.le_of_ble_eq_true rfl) (Nat.le_add_left _ _), Nat.le_trans (m := 0) (Nat.le_of_ble_eq_true rfl) (Nat.le_add_left _ _)⟩ wd_1412 wd_1413 wd_1414 rfl (Or.inl (by rw [← e30]; exact J1.2.2.1.1.1.1)) (q_small_of (Nat.le_of_ble_eq_true rfl)) hm (q_kTi0 (fun σ2 b hM2 => ?_)) q_kTi00
  refine wp_less (ac2 := ca + 0) (as2 := sa + 0) (by show ca + 0 ≤ ca + 0 - 0; omega) (by show sa + 0 ≤ sa + 0 - 0; omega) ?_
  obtain ⟨m1, m2, m3⟩ := hM2
  obtain ⟨J2, g31⟩ := LK_mod J1 m1 m2
  refine wp_nrm ?_
  refine wp_istore' (ls' := [some (vr (A 32 0)), some (vr (A 0 0)), some (vr (A 30 0)), some (vr (A 31 0)), some (vi i), some (vi k), some (vi (nrm b))]) dL_law_371 (Nat.le_of_ble_eq_true rfl) rfl ?_
  refine wp_aload_n dL_law_373 rfl ?_
  have ht := spec_thrown (g := g) hl J2.2.2.1.1.1
  rw [e30] at ht
  obtain ⟨q1, q2, q3⟩ := lw_end cOk2 hk1 m3
  rw [e30] at q1
  rw [q1] at ht
  refine wp_callV (M' := M_X8_thrown) (As := []) (st := []) (ci := 8) dL_law_374 cee_X8_thrown np_X8_thrown rfl ⟨Nat.le_of_ble_eq_true rfl, Nat.le_of_ble_eq_true rfl, Nat.le_trans (m := 0) (Nat.le_of_ble_eq_true rfl) (Nat.le_add_left _ _), Nat.le_trans (m := 0) (Nat.le_of_ble_eq_true rfl) (Nat.le_add_left _ _)⟩ wd_1328 wd_1329 wd_1330 rfl (Or.inl (by rw [← e30]; exact J2.2.2.1.1.1.1)) (q_small_of (Nat.le_of_ble_eq_true rfl)) ht (q_kPi ?_) q_kPi0
  refine wp_less (ac2 := ca) (as2 := sa) (by show ca ≤ ca + 0 - 0; omega) (by show sa ≤ sa + 0 - 0; omega) ?_
  refine wp_iload dL_law_377 rfl ?_
  have hfin : qW g l (M_law nm hh) ca sa 2029 [some (vr (A 32 0)), some (vr (A 0 0)), some (vr (A 30 0)), some (vr (A 31 0)), some (vi i), some (vi k), some (vi (nrm b))] [] σ2 Post := wp_lsub (ls' := [some (vr (A 32 0)), some (vr (A 0 0)), some (vr (A 30 0)), some (vr (A 31 0)), some (vi i), none, none]) ⟨rfl, rfl, rfl, rfl, rfl, trivial⟩ (kn A' _ σ2 ⟨e0, e30, e31, e32⟩ J2 (Nx_movePanel hw))
  refine wp_icmp_eq (tgt := 384) dL_law_379 (by decide) q2 q2 (fun _ => ?_) (fun c9 => absurd rfl c9)
  refine wp_iload dL_law_384 rfl ?_
  refine wp_if_ne (tgt := 401) dL_law_386 (by decide) q2 (fun _ => ?_) (fun c9 => ?_)
  · exact wp_goto (tgt := 2029) dL_law_401 (by decide) hfin
  · have hg : gA σ2 (A 31 0) 0 = nrm b := by rw [← e31, g31, e31]; exact q3 c9
    obtain ⟨oa, oi⟩ := LX_o J2.2.2.2
    rw [e31] at oa oi
    refine wp_aload_n dL_law_389 rfl ?_
    refine wp_iconst dL_law_390 ?_
    refine wp_laload dL_law_391 oa oi ?_
    rw [hg]
    refine wp_iload dL_law_392 rfl ?_
    refine wp_i2l dL_law_394 (nrm_Q b) ?_
    refine wp_lcmp dL_law_395 (nrm_Q b) (nrm_Q b) ?_
    rw [if_neg (by omega), if_pos rfl]
    refine wp_if_eq (tgt := 401) dL_law_396 (by decide) (by unfold qR; omega) (fun _ => ?_) (fun c8 => absurd rfl c8)
    exact wp_goto (tgt := 2029) dL_law_401 (by decide) hfin
set_option maxRecDepth 100000 in
set_option maxHeartbeats 4000000 in
theorem lc_3 (hl : l.stackTraces = false) (hg : scG g sc L s) (hs : atA A sc x m out) (J : LK A L s D D σ) (hw : WF D) (hk : (kp D).length < 512) (hi : 0 ≤ i ∧ i + 6 ≤ L) (kn : ∀ A' D' σ', atA A' sc x m out → LK A' L s D' D' σ' → Nx D D' → qW g l (M_law nm hh) ca sa 2029 [some (vr sc), some (vr x), some (vr m), some (vr out), some (vi i), none, none] [] σ' Post) : qW g l (M_law nm hh) (ca + 5) (sa + 418) 404 [some (vr sc), some (vr x), some (vr m), some (vr out), some (vi i), none, none] [] σ Post := by
  obtain ⟨rfl, rfl, rfl, rfl⟩ := hs
  obtain ⟨pa, pi, pv, pr⟩ := LX_f hg hi
  refine wp_aload_n dL_law_404 rfl ?_
  refine wp_arg (k := 1) (v := s (i + 1)) dL_law_405 dL_law_406 dL_law_408 dL_law_409 dL_law_410 rfl rfl pa (pi 1 (by decide) (by decide)) (pv 1 (by decide) (by decide)) ?_
  refine wp_aload_n dL_law_411 rfl ?_
  refine wp_callSX (M' := M_L_cutPanel) (As := [vr (A 0 0), vi (s (i + 1)), vr (A 31 0)]) (st := []) dL_law_412 ceeX_L_cutPanel np_L_cutPanel rfl ⟨Nat.le_of_ble_eq_true rfl, Nat.le_of_ble_eq_true rfl, Nat.le_trans (m := 5) (Nat.le_of_ble_eq_true rfl) (Nat.le_add_left _ _), Nat.le_trans (m := 418) (Nat.le_of_ble_eq_true rfl) (Nat.le_add_left _ _)⟩ wd_876 wd_877 (q_small_of (Nat.le_of_ble_eq_true rfl)) (lw_L_cutPanel hl J hw hk (pr 1 (by decide) (by decide))) (q_kTi0 (fun σ1 k hM => ?_)) q_kTi00
  refine wp_less (ac2 := ca + 0) (as2 := sa + 0) (by show ca + 0 ≤ ca + 5 - 5; omega) (by show sa + 0 ≤ sa + 418 - 418; omega) ?_
  obtain ⟨A', J1, ⟨e0, e30, e31, e32⟩, hk1⟩ := hM
  refine wp_istore' (ls' := [some (vr (A 32 0)), some (vr (A 0 0)), some (vr (A 30 0)), some (vr (A 31 0)), some (vi i), some (vi k), none]) dL_law_415 (Nat.le_of_ble_eq_true rfl) rfl ?_
  refine wp_aload_n dL_law_417 rfl ?_
  refine wp_arg (k := 1) (v := s (i + 1)) dL_law_418 dL_law_419 dL_law_421 dL_law_422 dL_law_423 rfl rfl pa (pi 1 (by decide) (by decide)) (pv 1 (by decide) (by decide)) ?_
  have hm := spec_mcutPanel (g := g) hl J1.1 J1.2.2.1 hw (Nat.le_of_lt hk) (pr 1 (by decide) (by decide))
  rw [e30] at hm
  refine wp_callV (M' := M_X8_cutPanel) (As := [vi (s (i + 1))]) (st := []) (ci := 8) dL_law_424 cee_X8_cutPanel np_X8_cutPanel rfl ⟨Nat.le_of_ble_eq_true rfl, Nat.le_of_ble_eq_true rfl, Nat.le_trans (m := 0) (Nat.le_of_ble_eq_true rfl) (Nat.le_add_left _ _), Nat.le_trans (m := 0) (Nat.le_of_ble_eq_true rfl) (Nat.le_add_left _ _)⟩ wd_1427 wd_1428 wd_1429 rfl (Or.inl (by rw [← e30]; exact J1.2.2.1.1.1.1)) (q_small_of (Nat.le_of_ble_eq_true rfl)) hm (q_kTi0 (fun σ2 b hM2 => ?_)) q_kTi00
  refine wp_less (ac2 := ca + 0) (as2 := sa + 0) (by show ca + 0 ≤ ca + 0 - 0; omega) (by show sa + 0 ≤ sa + 0 - 0; omega) ?_
  obtain ⟨m1, m2, m3⟩ := hM2
  obtain ⟨J2, g31⟩ := LK_mod J1 m1 m2
  refine wp_nrm ?_
  refine wp_istore' (ls' := [some (vr (A 32 0)), some (vr (A 0 0)), some (vr (A 30 0)), some (vr (A 31 0)), some (vi i), some (vi k), some (vi (nrm b))]) dL_law_427 (Nat.le_of_ble_eq_true rfl) rfl ?_
  refine wp_aload_n dL_law_429 rfl ?_
  have ht := spec_thrown (g := g) hl J2.2.2.1.1.1
  rw [e30] at ht
  obtain ⟨q1, q2, q3⟩ := lw_end cOk2 hk1 m3
  rw [e30] at q1
  rw [q1] at ht
  refine wp_callV (M' := M_X8_thrown) (As := []) (st := []) (ci := 8) dL_law_430 cee_X8_thrown np_X8_thrown rfl ⟨Nat.le_of_ble_eq_true rfl, Nat.le_of_ble_eq_true rfl, Nat.le_trans (m := 0) (Nat.le_of_ble_eq_true rfl) (Nat.le_add_left _ _), Nat.le_trans (m := 0) (Nat.le_of_ble_eq_true rfl) (Nat.le_add_left _ _)⟩ wd_1328 wd_1329 wd_1330 rfl (Or.inl (by rw [← e30]; exact J2.2.2.1.1.1.1)) (q_small_of (Nat.le_of_ble_eq_true rfl)) ht (q_kPi ?_) q_kPi0
  refine wp_less (ac2 := ca) (as2 := sa) (by show ca ≤ ca + 0 - 0; omega) (by show sa ≤ sa + 0 - 0; omega) ?_
  refine wp_iload dL_law_433 rfl ?_
  have hfin : qW g l (M_law nm hh) ca sa 2029 [some (vr (A 32 0)), some (vr (A 0 0)), some (vr (A 30 0)), some (vr (A 31 0)), some (vi i), some (vi k), some (vi (nrm b))] [] σ2 Post := wp_lsub (ls' := [some (vr (A 32 0)), some (vr (A 0 0)), some (vr (A 30 0)), some (vr (A 31 0)), some (vi i), none, none]) ⟨rfl, rfl, rfl, rfl, rfl, trivial⟩ (kn A' _ σ2 ⟨e0, e30, e31, e32⟩ J2 (Nx_cutPanel hw))
  refine wp_icmp_eq (tgt := 440) dL_law_435 (by decide) q2 q2 (fun _ => ?_) (fun c9 => absurd rfl c9)
  refine wp_iload dL_law_440 rfl ?_
  refine wp_if_ne (tgt := 457) dL_law_442 (by decide) q2 (fun _ => ?_) (fun c9 => ?_)
  · exact wp_goto (tgt := 2029) dL_law_457 (by decide) hfin
  · have hg : gA σ2 (A 31 0) 0 = nrm b := by rw [← e31, g31, e31]; exact q3 c9
    obtain ⟨oa, oi⟩ := LX_o J2.2.2.2
    rw [e31] at oa oi
    refine wp_aload_n dL_law_445 rfl ?_
    refine wp_iconst dL_law_446 ?_
    refine wp_laload dL_law_447 oa oi ?_
    rw [hg]
    refine wp_iload dL_law_448 rfl ?_
    refine wp_i2l dL_law_450 (nrm_Q b) ?_
    refine wp_lcmp dL_law_451 (nrm_Q b) (nrm_Q b) ?_
    rw [if_neg (by omega), if_pos rfl]
    refine wp_if_eq (tgt := 457) dL_law_452 (by decide) (by unfold qR; omega) (fun _ => ?_) (fun c8 => absurd rfl c8)
    exact wp_goto (tgt := 2029) dL_law_457 (by decide) hfin
set_option maxRecDepth 100000 in
set_option maxHeartbeats 4000000 in
theorem lc_4 (hl : l.stackTraces = false) (hg : scG g sc L s) (hs : atA A sc x m out) (J : LK A L s D D σ) (hw : WF D) (hk : (kp D).length < 512) (hi : 0 ≤ i ∧ i + 6 ≤ L) (kn : ∀ A' D' σ', atA A' sc x m out → LK A' L s D' D' σ' → Nx D D' → qW g l (M_law nm hh) ca sa 2029 [some (vr sc), some (vr x), some (vr m), some (vr out), some (vi i), none, none] [] σ' Post) : qW g l (M_law nm hh) (ca + 9) (sa + 439) 460 [some (vr sc), some (vr x), some (vr m), some (vr out), some (vi i), none, none] [] σ Post := by
  obtain ⟨rfl, rfl, rfl, rfl⟩ := hs
  obtain ⟨pa, pi, pv, pr⟩ := LX_f hg hi
  refine wp_aload_n dL_law_460 rfl ?_
  refine wp_arg (k := 1) (v := s (i + 1)) dL_law_461 dL_law_462 dL_law_464 dL_law_465 dL_law_466 rfl rfl pa (pi 1 (by decide) (by decide)) (pv 1 (by decide) (by decide)) ?_
  refine wp_arg (k := 2) (v := s (i + 2)) dL_law_467 dL_law_468 dL_law_470 dL_law_471 dL_law_472 rfl rfl pa (pi 2 (by decide) (by decide)) (pv 2 (by decide) (by decide)) ?_
  refine wp_arg (k := 3) (v := s (i + 3)) dL_law_473 dL_law_474 dL_law_476 dL_law_477 dL_law_478 rfl rfl pa (pi 3 (by decide) (by decide)) (pv 3 (by decide) (by decide)) ?_
  refine wp_arg (k := 4) (v := s (i + 4)) dL_law_479 dL_law_480 dL_law_482 dL_law_483 dL_law_484 rfl rfl pa (pi 4 (by decide) (by decide)) (pv 4 (by decide) (by decide)) ?_
  refine wp_aload_n dL_law_485 rfl ?_
  refine wp_callSX (M' := M_L_face) (As := [vr (A 0 0), vi (s (i + 1)), vi (s (i + 2)), vi (s (i + 3)), vi (s (i + 4)), vr (A 31 0)]) (st := []) dL_law_486 ceeX_L_face np_L_face rfl ⟨Nat.le_of_ble_eq_true rfl, Nat.le_of_ble_eq_true rfl, Nat.le_trans (m := 9) (Nat.le_of_ble_eq_true rfl) (Nat.le_add_left _ _), Nat.le_trans (m := 439) (Nat.le_of_ble_eq_true rfl) (Nat.le_add_left _ _)⟩ wd_900 wd_901 (q_small_of (Nat.le_of_ble_eq_true rfl)) (lw_L_face hl J hw hk (pr 1 (by decide) (by decide)) (pr 2 (by decide) (by decide)) (pr 3 (by decide) (by decide)) (pr 4 (by decide) (by decide))) (q_kTi0 (fun σ1 k hM => ?_)) q_kTi00
  refine wp_less (ac2 := ca + 0) (as2 := sa + 0) (by show ca + 0 ≤ ca + 9 - 9; omega) (by show sa + 0 ≤ sa + 439 - 439; omega) ?_
  obtain ⟨A', J1, ⟨e0, e30, e31, e32⟩, hk1⟩ := hM
  refine wp_istore' (ls' := [some (vr (A 32 0)), some (vr (A 0 0)), some (vr (A 30 0)), some (vr (A 31 0)), some (vi i), some (vi k), none]) dL_law_489 (Nat.le_of_ble_eq_true rfl) rfl ?_
  refine wp_aload_n dL_law_491 rfl ?_
  refine wp_arg (k := 1) (v := s (i + 1)) dL_law_492 dL_law_493 dL_law_495 dL_law_496 dL_law_497 rfl rfl pa (pi 1 (by decide) (by decide)) (pv 1 (by decide) (by decide)) ?_
  refine wp_arg (k := 2) (v := s (i + 2)) dL_law_498 dL_law_499 dL_law_501 dL_law_502 dL_law_503 rfl rfl pa (pi 2 (by decide) (by decide)) (pv 2 (by decide) (by decide)) ?_
  refine wp_arg (k := 3) (v := s (i + 3)) dL_law_504 dL_law_505 dL_law_507 dL_law_508 dL_law_509 rfl rfl pa (pi 3 (by decide) (by decide)) (pv 3 (by decide) (by decide)) ?_
  refine wp_arg (k := 4) (v := s (i + 4)) dL_law_510 dL_law_511 dL_law_513 dL_law_514 dL_law_515 rfl rfl pa (pi 4 (by decide) (by decide)) (pv 4 (by decide) (by decide)) ?_
  have hm := spec_mface (g := g) hl J1.1 J1.2.2.1 hw (pr 1 (by decide) (by decide)) (pr 2 (by decide) (by decide)) (pr 3 (by decide) (by decide)) (pr 4 (by decide) (by decide))
  rw [e30] at hm
  refine wp_callV (M' := M_X8_face) (As := [vi (s (i + 1)), vi (s (i + 2)), vi (s (i + 3)), vi (s (i + 4))]) (st := []) (ci := 8) dL_law_516 cee_X8_face np_X8_face rfl ⟨Nat.le_of_ble_eq_true rfl, Nat.le_of_ble_eq_true rfl, Nat.le_trans (m := 0) (Nat.le_of_ble_eq_true rfl) (Nat.le_add_left _ _), Nat.le_trans (m := 0) (Nat.le_of_ble_eq_true rfl) (Nat.le_add_left _ _)⟩ wd_1435 wd_1436 wd_1437 rfl (Or.inl (by rw [← e30]; exact J1.2.2.1.1.1.1)) (q_small_of (Nat.le_of_ble_eq_true rfl)) hm (q_kTi0 (fun σ2 b hM2 => ?_)) q_kTi00
  refine wp_less (ac2 := ca + 0) (as2 := sa + 0) (by show ca + 0 ≤ ca + 0 - 0; omega) (by show sa + 0 ≤ sa + 0 - 0; omega) ?_
  obtain ⟨m1, m2, m3⟩ := hM2
  obtain ⟨J2, g31⟩ := LK_mod J1 m1 m2
  refine wp_nrm ?_
  refine wp_istore' (ls' := [some (vr (A 32 0)), some (vr (A 0 0)), some (vr (A 30 0)), some (vr (A 31 0)), some (vi i), some (vi k), some (vi (nrm b))]) dL_law_519 (Nat.le_of_ble_eq_true rfl) rfl ?_
  refine wp_aload_n dL_law_521 rfl ?_
  have ht := spec_thrown (g := g) hl J2.2.2.1.1.1
  rw [e30] at ht
  obtain ⟨q1, q2, q3⟩ := lw_end cOk3 hk1 m3
  rw [e30] at q1
  rw [q1] at ht
  refine wp_callV (M' := M_X8_thrown) (As := []) (st := []) (ci := 8) dL_law_522 cee_X8_thrown np_X8_thrown rfl ⟨Nat.le_of_ble_eq_true rfl, Nat.le_of_ble_eq_true rfl, Nat.le_trans (m := 0) (Nat.le_of_ble_eq_true rfl) (Nat.le_add_left _ _), Nat.le_trans (m := 0) (Nat.le_of_ble_eq_true rfl) (Nat.le_add_left _ _)⟩ wd_1328 wd_1329 wd_1330 rfl (Or.inl (by rw [← e30]; exact J2.2.2.1.1.1.1)) (q_small_of (Nat.le_of_ble_eq_true rfl)) ht (q_kPi ?_) q_kPi0
  refine wp_less (ac2 := ca) (as2 := sa) (by show ca ≤ ca + 0 - 0; omega) (by show sa ≤ sa + 0 - 0; omega) ?_
  refine wp_iload dL_law_525 rfl ?_
  have hfin : qW g l (M_law nm hh) ca sa 2029 [some (vr (A 32 0)), some (vr (A 0 0)), some (vr (A 30 0)), some (vr (A 31 0)), some (vi i), some (vi k), some (vi (nrm b))] [] σ2 Post := wp_lsub (ls' := [some (vr (A 32 0)), some (vr (A 0 0)), some (vr (A 30 0)), some (vr (A 31 0)), some (vi i), none, none]) ⟨rfl, rfl, rfl, rfl, rfl, trivial⟩ (kn A' _ σ2 ⟨e0, e30, e31, e32⟩ J2 (Nx_face hw))
  refine wp_icmp_eq (tgt := 532) dL_law_527 (by decide) q2 q2 (fun _ => ?_) (fun c9 => absurd rfl c9)
  refine wp_iload dL_law_532 rfl ?_
  refine wp_if_ne (tgt := 549) dL_law_534 (by decide) q2 (fun _ => ?_) (fun c9 => ?_)
  · exact wp_goto (tgt := 2029) dL_law_549 (by decide) hfin
  · have hg : gA σ2 (A 31 0) 0 = nrm b := by rw [← e31, g31, e31]; exact q3 c9
    obtain ⟨oa, oi⟩ := LX_o J2.2.2.2
    rw [e31] at oa oi
    refine wp_aload_n dL_law_537 rfl ?_
    refine wp_iconst dL_law_538 ?_
    refine wp_laload dL_law_539 oa oi ?_
    rw [hg]
    refine wp_iload dL_law_540 rfl ?_
    refine wp_i2l dL_law_542 (nrm_Q b) ?_
    refine wp_lcmp dL_law_543 (nrm_Q b) (nrm_Q b) ?_
    rw [if_neg (by omega), if_pos rfl]
    refine wp_if_eq (tgt := 549) dL_law_544 (by decide) (by unfold qR; omega) (fun _ => ?_) (fun c8 => absurd rfl c8)
    exact wp_goto (tgt := 2029) dL_law_549 (by decide) hfin
set_option maxRecDepth 100000 in
set_option maxHeartbeats 4000000 in
theorem lc_5 (hl : l.stackTraces = false) (hg : scG g sc L s) (hs : atA A sc x m out) (J : LK A L s D D σ) (hw : WF D) (hk : (kp D).length < 512) (hi : 0 ≤ i ∧ i + 6 ≤ L) (kn : ∀ A' D' σ', atA A' sc x m out → LK A' L s D' D' σ' → Nx D D' → qW g l (M_law nm hh) ca sa 2029 [some (vr sc), some (vr x), some (vr m), some (vr out), some (vi i), none, none] [] σ' Post) : qW g l (M_law nm hh) (ca + 12) (sa + 845) 552 [some (vr sc), some (vr x), some (vr m), some (vr out), some (vi i), none, none] [] σ Post := by
  obtain ⟨rfl, rfl, rfl, rfl⟩ := hs
  obtain ⟨pa, pi, pv, pr⟩ := LX_f hg hi
  refine wp_aload_n dL_law_552 rfl ?_
  refine wp_arg (k := 1) (v := s (i + 1)) dL_law_553 dL_law_554 dL_law_556 dL_law_557 dL_law_558 rfl rfl pa (pi 1 (by decide) (by decide)) (pv 1 (by decide) (by decide)) ?_
  refine wp_arg (k := 2) (v := s (i + 2)) dL_law_559 dL_law_560 dL_law_562 dL_law_563 dL_law_564 rfl rfl pa (pi 2 (by decide) (by decide)) (pv 2 (by decide) (by decide)) ?_
  refine wp_arg (k := 3) (v := s (i + 3)) dL_law_565 dL_law_566 dL_law_568 dL_law_569 dL_law_570 rfl rfl pa (pi 3 (by decide) (by decide)) (pv 3 (by decide) (by decide)) ?_
  refine wp_aload_n dL_law_571 rfl ?_
  refine wp_callSX (M' := M_L_balloon) (As := [vr (A 0 0), vi (s (i + 1)), vi (s (i + 2)), vi (s (i + 3)), vr (A 31 0)]) (st := []) dL_law_572 ceeX_L_balloon np_L_balloon rfl ⟨Nat.le_of_ble_eq_true rfl, Nat.le_of_ble_eq_true rfl, Nat.le_trans (m := 12) (Nat.le_of_ble_eq_true rfl) (Nat.le_add_left _ _), Nat.le_trans (m := 845) (Nat.le_of_ble_eq_true rfl) (Nat.le_add_left _ _)⟩ wd_935 wd_936 (q_small_of (Nat.le_of_ble_eq_true rfl)) (lw_L_balloon hl J hw hk (pr 1 (by decide) (by decide)) (pr 2 (by decide) (by decide)) (pr 3 (by decide) (by decide))) (q_kTi0 (fun σ1 k hM => ?_)) q_kTi00
  refine wp_less (ac2 := ca + 0) (as2 := sa + 0) (by show ca + 0 ≤ ca + 12 - 12; omega) (by show sa + 0 ≤ sa + 845 - 845; omega) ?_
  obtain ⟨A', J1, ⟨e0, e30, e31, e32⟩, hk1⟩ := hM
  refine wp_istore' (ls' := [some (vr (A 32 0)), some (vr (A 0 0)), some (vr (A 30 0)), some (vr (A 31 0)), some (vi i), some (vi k), none]) dL_law_575 (Nat.le_of_ble_eq_true rfl) rfl ?_
  refine wp_aload_n dL_law_577 rfl ?_
  refine wp_arg (k := 1) (v := s (i + 1)) dL_law_578 dL_law_579 dL_law_581 dL_law_582 dL_law_583 rfl rfl pa (pi 1 (by decide) (by decide)) (pv 1 (by decide) (by decide)) ?_
  refine wp_arg (k := 2) (v := s (i + 2)) dL_law_584 dL_law_585 dL_law_587 dL_law_588 dL_law_589 rfl rfl pa (pi 2 (by decide) (by decide)) (pv 2 (by decide) (by decide)) ?_
  refine wp_arg (k := 3) (v := s (i + 3)) dL_law_590 dL_law_591 dL_law_593 dL_law_594 dL_law_595 rfl rfl pa (pi 3 (by decide) (by decide)) (pv 3 (by decide) (by decide)) ?_
  have hm := spec_mballoon (g := g) hl J1.1 J1.2.2.1 hw (pr 1 (by decide) (by decide)) (pr 2 (by decide) (by decide)) (pr 3 (by decide) (by decide))
  rw [e30] at hm
  refine wp_callV (M' := M_X8_balloon) (As := [vi (s (i + 1)), vi (s (i + 2)), vi (s (i + 3))]) (st := []) (ci := 8) dL_law_596 cee_X8_balloon np_X8_balloon rfl ⟨Nat.le_of_ble_eq_true rfl, Nat.le_of_ble_eq_true rfl, Nat.le_trans (m := 0) (Nat.le_of_ble_eq_true rfl) (Nat.le_add_left _ _), Nat.le_trans (m := 0) (Nat.le_of_ble_eq_true rfl) (Nat.le_add_left _ _)⟩ wd_1439 wd_1440 wd_1441 rfl (Or.inl (by rw [← e30]; exact J1.2.2.1.1.1.1)) (q_small_of (Nat.le_of_ble_eq_true rfl)) hm (q_kTi0 (fun σ2 b hM2 => ?_)) q_kTi00
  refine wp_less (ac2 := ca + 0) (as2 := sa + 0) (by show ca + 0 ≤ ca + 0 - 0; omega) (by show sa + 0 ≤ sa + 0 - 0; omega) ?_
  obtain ⟨m1, m2, m3⟩ := hM2
  obtain ⟨J2, g31⟩ := LK_mod J1 m1 m2
  refine wp_nrm ?_
  refine wp_istore' (ls' := [some (vr (A 32 0)), some (vr (A 0 0)), some (vr (A 30 0)), some (vr (A 31 0)), some (vi i), some (vi k), some (vi (nrm b))]) dL_law_599 (Nat.le_of_ble_eq_true rfl) rfl ?_
  refine wp_aload_n dL_law_601 rfl ?_
  have ht := spec_thrown (g := g) hl J2.2.2.1.1.1
  rw [e30] at ht
  obtain ⟨q1, q2, q3⟩ := lw_end cOk3 hk1 m3
  rw [e30] at q1
  rw [q1] at ht
  refine wp_callV (M' := M_X8_thrown) (As := []) (st := []) (ci := 8) dL_law_602 cee_X8_thrown np_X8_thrown rfl ⟨Nat.le_of_ble_eq_true rfl, Nat.le_of_ble_eq_true rfl, Nat.le_trans (m := 0) (Nat.le_of_ble_eq_true rfl) (Nat.le_add_left _ _), Nat.le_trans (m := 0) (Nat.le_of_ble_eq_true rfl) (Nat.le_add_left _ _)⟩ wd_1328 wd_1329 wd_1330 rfl (Or.inl (by rw [← e30]; exact J2.2.2.1.1.1.1)) (q_small_of (Nat.le_of_ble_eq_true rfl)) ht (q_kPi ?_) q_kPi0
  refine wp_less (ac2 := ca) (as2 := sa) (by show ca ≤ ca + 0 - 0; omega) (by show sa ≤ sa + 0 - 0; omega) ?_
  refine wp_iload dL_law_605 rfl ?_
  have hfin : qW g l (M_law nm hh) ca sa 2029 [some (vr (A 32 0)), some (vr (A 0 0)), some (vr (A 30 0)), some (vr (A 31 0)), some (vi i), some (vi k), some (vi (nrm b))] [] σ2 Post := wp_lsub (ls' := [some (vr (A 32 0)), some (vr (A 0 0)), some (vr (A 30 0)), some (vr (A 31 0)), some (vi i), none, none]) ⟨rfl, rfl, rfl, rfl, rfl, trivial⟩ (kn A' _ σ2 ⟨e0, e30, e31, e32⟩ J2 (Nx_balloon hw))
  refine wp_icmp_eq (tgt := 612) dL_law_607 (by decide) q2 q2 (fun _ => ?_) (fun c9 => absurd rfl c9)
  refine wp_iload dL_law_612 rfl ?_
  refine wp_if_ne (tgt := 629) dL_law_614 (by decide) q2 (fun _ => ?_) (fun c9 => ?_)
  · exact wp_goto (tgt := 2029) dL_law_629 (by decide) hfin
  · have hg : gA σ2 (A 31 0) 0 = nrm b := by rw [← e31, g31, e31]; exact q3 c9
    obtain ⟨oa, oi⟩ := LX_o J2.2.2.2
    rw [e31] at oa oi
    refine wp_aload_n dL_law_617 rfl ?_
    refine wp_iconst dL_law_618 ?_
    refine wp_laload dL_law_619 oa oi ?_
    rw [hg]
    refine wp_iload dL_law_620 rfl ?_
    refine wp_i2l dL_law_622 (nrm_Q b) ?_
    refine wp_lcmp dL_law_623 (nrm_Q b) (nrm_Q b) ?_
    rw [if_neg (by omega), if_pos rfl]
    refine wp_if_eq (tgt := 629) dL_law_624 (by decide) (by unfold qR; omega) (fun _ => ?_) (fun c8 => absurd rfl c8)
    exact wp_goto (tgt := 2029) dL_law_629 (by decide) hfin
set_option maxRecDepth 100000 in
set_option maxHeartbeats 4000000 in
theorem lc_6 (hl : l.stackTraces = false) (hg : scG g sc L s) (hs : atA A sc x m out) (J : LK A L s D D σ) (hw : WF D) (hk : (kp D).length < 512) (hi : 0 ≤ i ∧ i + 6 ≤ L) (kn : ∀ A' D' σ', atA A' sc x m out → LK A' L s D' D' σ' → Nx D D' → qW g l (M_law nm hh) ca sa 2029 [some (vr sc), some (vr x), some (vr m), some (vr out), some (vi i), none, none] [] σ' Post) : qW g l (M_law nm hh) (ca + 9) (sa + 830) 632 [some (vr sc), some (vr x), some (vr m), some (vr out), some (vi i), none, none] [] σ Post := by
  obtain ⟨rfl, rfl, rfl, rfl⟩ := hs
  obtain ⟨pa, pi, pv, pr⟩ := LX_f hg hi
  refine wp_aload_n dL_law_632 rfl ?_
  refine wp_arg (k := 1) (v := s (i + 1)) dL_law_633 dL_law_634 dL_law_636 dL_law_637 dL_law_638 rfl rfl pa (pi 1 (by decide) (by decide)) (pv 1 (by decide) (by decide)) ?_
  refine wp_arg (k := 2) (v := s (i + 2)) dL_law_639 dL_law_640 dL_law_642 dL_law_643 dL_law_644 rfl rfl pa (pi 2 (by decide) (by decide)) (pv 2 (by decide) (by decide)) ?_
  refine wp_arg (k := 3) (v := s (i + 3)) dL_law_645 dL_law_646 dL_law_648 dL_law_649 dL_law_650 rfl rfl pa (pi 3 (by decide) (by decide)) (pv 3 (by decide) (by decide)) ?_
  refine wp_callSX (M' := M_L_moveBalloon) (As := [vr (A 0 0), vi (s (i + 1)), vi (s (i + 2)), vi (s (i + 3))]) (st := []) dL_law_651 ceeX_L_moveBalloon np_L_moveBalloon rfl ⟨Nat.le_of_ble_eq_true rfl, Nat.le_of_ble_eq_true rfl, Nat.le_trans (m := 9) (Nat.le_of_ble_eq_true rfl) (Nat.le_add_left _ _), Nat.le_trans (m := 830) (Nat.le_of_ble_eq_true rfl) (Nat.le_add_left _ _)⟩ wd_989 wd_990 (q_small_of (Nat.le_of_ble_eq_true rfl)) (lw_L_moveBalloon hl J hw hk (pr 1 (by decide) (by decide)) (pr 2 (by decide) (by decide)) (pr 3 (by decide) (by decide))) (q_kTi0 (fun σ1 k hM => ?_)) q_kTi00
  refine wp_less (ac2 := ca + 0) (as2 := sa + 0) (by show ca + 0 ≤ ca + 9 - 9; omega) (by show sa + 0 ≤ sa + 830 - 830; omega) ?_
  obtain ⟨A', J1, ⟨e0, e30, e31, e32⟩, hk1⟩ := hM
  refine wp_istore' (ls' := [some (vr (A 32 0)), some (vr (A 0 0)), some (vr (A 30 0)), some (vr (A 31 0)), some (vi i), some (vi k), none]) dL_law_654 (Nat.le_of_ble_eq_true rfl) rfl ?_
  refine wp_aload_n dL_law_656 rfl ?_
  refine wp_arg (k := 1) (v := s (i + 1)) dL_law_657 dL_law_658 dL_law_660 dL_law_661 dL_law_662 rfl rfl pa (pi 1 (by decide) (by decide)) (pv 1 (by decide) (by decide)) ?_
  refine wp_arg (k := 2) (v := s (i + 2)) dL_law_663 dL_law_664 dL_law_666 dL_law_667 dL_law_668 rfl rfl pa (pi 2 (by decide) (by decide)) (pv 2 (by decide) (by decide)) ?_
  refine wp_arg (k := 3) (v := s (i + 3)) dL_law_669 dL_law_670 dL_law_672 dL_law_673 dL_law_674 rfl rfl pa (pi 3 (by decide) (by decide)) (pv 3 (by decide) (by decide)) ?_
  have hm := spec_mmoveBalloon (g := g) hl J1.1 J1.2.2.1 hw (pr 1 (by decide) (by decide)) (pr 2 (by decide) (by decide)) (pr 3 (by decide) (by decide))
  rw [e30] at hm
  refine wp_callV (M' := M_X8_moveBalloon) (As := [vi (s (i + 1)), vi (s (i + 2)), vi (s (i + 3))]) (st := []) (ci := 8) dL_law_675 cee_X8_moveBalloon np_X8_moveBalloon rfl ⟨Nat.le_of_ble_eq_true rfl, Nat.le_of_ble_eq_true rfl, Nat.le_trans (m := 0) (Nat.le_of_ble_eq_true rfl) (Nat.le_add_left _ _), Nat.le_trans (m := 0) (Nat.le_of_ble_eq_true rfl) (Nat.le_add_left _ _)⟩ wd_1443 wd_1444 wd_1445 rfl (Or.inl (by rw [← e30]; exact J1.2.2.1.1.1.1)) (q_small_of (Nat.le_of_ble_eq_true rfl)) hm (q_kTv0 (fun σ2 hM2 => ?_)) q_kTv00
  refine wp_less (ac2 := ca + 0) (as2 := sa + 0) (by show ca + 0 ≤ ca + 0 - 0; omega) (by show sa + 0 ≤ sa + 0 - 0; omega) ?_
  obtain ⟨m1, m2, m3⟩ := hM2
  obtain ⟨J2, g31⟩ := LK_mod J1 m1 m2
  refine wp_aload_n dL_law_678 rfl ?_
  have ht := spec_thrown (g := g) hl J2.2.2.1.1.1
  rw [e30] at ht
  obtain ⟨q1, q2⟩ := lw_endV cOk2 hk1 m3
  rw [e30] at q1
  rw [q1] at ht
  refine wp_callV (M' := M_X8_thrown) (As := []) (st := []) (ci := 8) dL_law_679 cee_X8_thrown np_X8_thrown rfl ⟨Nat.le_of_ble_eq_true rfl, Nat.le_of_ble_eq_true rfl, Nat.le_trans (m := 0) (Nat.le_of_ble_eq_true rfl) (Nat.le_add_left _ _), Nat.le_trans (m := 0) (Nat.le_of_ble_eq_true rfl) (Nat.le_add_left _ _)⟩ wd_1328 wd_1329 wd_1330 rfl (Or.inl (by rw [← e30]; exact J2.2.2.1.1.1.1)) (q_small_of (Nat.le_of_ble_eq_true rfl)) ht (q_kPi ?_) q_kPi0
  refine wp_less (ac2 := ca) (as2 := sa) (by show ca ≤ ca + 0 - 0; omega) (by show sa ≤ sa + 0 - 0; omega) ?_
  refine wp_iload dL_law_682 rfl ?_
  have hfin : qW g l (M_law nm hh) ca sa 2029 [some (vr (A 32 0)), some (vr (A 0 0)), some (vr (A 30 0)), some (vr (A 31 0)), some (vi i), some (vi k), none] [] σ2 Post := wp_lsub (ls' := [some (vr (A 32 0)), some (vr (A 0 0)), some (vr (A 30 0)), some (vr (A 31 0)), some (vi i), none, none]) ⟨rfl, rfl, rfl, rfl, rfl, trivial⟩ (kn A' _ σ2 ⟨e0, e30, e31, e32⟩ J2 (Nx_moveBalloon hw))
  refine wp_icmp_eq (tgt := 689) dL_law_684 (by decide) q2 q2 (fun _ => ?_) (fun c9 => absurd rfl c9)
  exact wp_goto (tgt := 2029) dL_law_689 (by decide) hfin
set_option maxRecDepth 100000 in
set_option maxHeartbeats 4000000 in
theorem lc_7 (hl : l.stackTraces = false) (hg : scG g sc L s) (hs : atA A sc x m out) (J : LK A L s D D σ) (hw : WF D) (hk : (kp D).length < 512) (hi : 0 ≤ i ∧ i + 6 ≤ L) (kn : ∀ A' D' σ', atA A' sc x m out → LK A' L s D' D' σ' → Nx D D' → qW g l (M_law nm hh) ca sa 2029 [some (vr sc), some (vr x), some (vr m), some (vr out), some (vi i), none, none] [] σ' Post) : qW g l (M_law nm hh) (ca + 5) (sa + 418) 692 [some (vr sc), some (vr x), some (vr m), some (vr out), some (vi i), none, none] [] σ Post := by
  obtain ⟨rfl, rfl, rfl, rfl⟩ := hs
  obtain ⟨pa, pi, pv, pr⟩ := LX_f hg hi
  refine wp_aload_n dL_law_692 rfl ?_
  refine wp_arg (k := 1) (v := s (i + 1)) dL_law_693 dL_law_694 dL_law_696 dL_law_697 dL_law_698 rfl rfl pa (pi 1 (by decide) (by decide)) (pv 1 (by decide) (by decide)) ?_
  refine wp_aload_n dL_law_699 rfl ?_
  refine wp_callSX (M' := M_L_cutBalloon) (As := [vr (A 0 0), vi (s (i + 1)), vr (A 31 0)]) (st := []) dL_law_700 ceeX_L_cutBalloon np_L_cutBalloon rfl ⟨Nat.le_of_ble_eq_true rfl, Nat.le_of_ble_eq_true rfl, Nat.le_trans (m := 5) (Nat.le_of_ble_eq_true rfl) (Nat.le_add_left _ _), Nat.le_trans (m := 418) (Nat.le_of_ble_eq_true rfl) (Nat.le_add_left _ _)⟩ wd_1010 wd_1011 (q_small_of (Nat.le_of_ble_eq_true rfl)) (lw_L_cutBalloon hl J hw hk (pr 1 (by decide) (by decide))) (q_kTi0 (fun σ1 k hM => ?_)) q_kTi00
  refine wp_less (ac2 := ca + 0) (as2 := sa + 0) (by show ca + 0 ≤ ca + 5 - 5; omega) (by show sa + 0 ≤ sa + 418 - 418; omega) ?_
  obtain ⟨A', J1, ⟨e0, e30, e31, e32⟩, hk1⟩ := hM
  refine wp_istore' (ls' := [some (vr (A 32 0)), some (vr (A 0 0)), some (vr (A 30 0)), some (vr (A 31 0)), some (vi i), some (vi k), none]) dL_law_703 (Nat.le_of_ble_eq_true rfl) rfl ?_
  refine wp_aload_n dL_law_705 rfl ?_
  refine wp_arg (k := 1) (v := s (i + 1)) dL_law_706 dL_law_707 dL_law_709 dL_law_710 dL_law_711 rfl rfl pa (pi 1 (by decide) (by decide)) (pv 1 (by decide) (by decide)) ?_
  have hm := spec_mcutBalloon (g := g) hl J1.1 J1.2.2.1 hw (pr 1 (by decide) (by decide))
  rw [e30] at hm
  refine wp_callV (M' := M_X8_cutBalloon) (As := [vi (s (i + 1))]) (st := []) (ci := 8) dL_law_712 cee_X8_cutBalloon np_X8_cutBalloon rfl ⟨Nat.le_of_ble_eq_true rfl, Nat.le_of_ble_eq_true rfl, Nat.le_trans (m := 0) (Nat.le_of_ble_eq_true rfl) (Nat.le_add_left _ _), Nat.le_trans (m := 0) (Nat.le_of_ble_eq_true rfl) (Nat.le_add_left _ _)⟩ wd_1451 wd_1452 wd_1453 rfl (Or.inl (by rw [← e30]; exact J1.2.2.1.1.1.1)) (q_small_of (Nat.le_of_ble_eq_true rfl)) hm (q_kTi0 (fun σ2 b hM2 => ?_)) q_kTi00
  refine wp_less (ac2 := ca + 0) (as2 := sa + 0) (by show ca + 0 ≤ ca + 0 - 0; omega) (by show sa + 0 ≤ sa + 0 - 0; omega) ?_
  obtain ⟨m1, m2, m3⟩ := hM2
  obtain ⟨J2, g31⟩ := LK_mod J1 m1 m2
  refine wp_nrm ?_
  refine wp_istore' (ls' := [some (vr (A 32 0)), some (vr (A 0 0)), some (vr (A 30 0)), some (vr (A 31 0)), some (vi i), some (vi k), some (vi (nrm b))]) dL_law_715 (Nat.le_of_ble_eq_true rfl) rfl ?_
  refine wp_aload_n dL_law_717 rfl ?_
  have ht := spec_thrown (g := g) hl J2.2.2.1.1.1
  rw [e30] at ht
  obtain ⟨q1, q2, q3⟩ := lw_end cOk2 hk1 m3
  rw [e30] at q1
  rw [q1] at ht
  refine wp_callV (M' := M_X8_thrown) (As := []) (st := []) (ci := 8) dL_law_718 cee_X8_thrown np_X8_thrown rfl ⟨Nat.le_of_ble_eq_true rfl, Nat.le_of_ble_eq_true rfl, Nat.le_trans (m := 0) (Nat.le_of_ble_eq_true rfl) (Nat.le_add_left _ _), Nat.le_trans (m := 0) (Nat.le_of_ble_eq_true rfl) (Nat.le_add_left _ _)⟩ wd_1328 wd_1329 wd_1330 rfl (Or.inl (by rw [← e30]; exact J2.2.2.1.1.1.1)) (q_small_of (Nat.le_of_ble_eq_true rfl)) ht (q_kPi ?_) q_kPi0
  refine wp_less (ac2 := ca) (as2 := sa) (by show ca ≤ ca + 0 - 0; omega) (by show sa ≤ sa + 0 - 0; omega) ?_
  refine wp_iload dL_law_721 rfl ?_
  have hfin : qW g l (M_law nm hh) ca sa 2029 [some (vr (A 32 0)), some (vr (A 0 0)), some (vr (A 30 0)), some (vr (A 31 0)), some (vi i), some (vi k), some (vi (nrm b))] [] σ2 Post := wp_lsub (ls' := [some (vr (A 32 0)), some (vr (A 0 0)), some (vr (A 30 0)), some (vr (A 31 0)), some (vi i), none, none]) ⟨rfl, rfl, rfl, rfl, rfl, trivial⟩ (kn A' _ σ2 ⟨e0, e30, e31, e32⟩ J2 (Nx_cutBalloon hw))
  refine wp_icmp_eq (tgt := 728) dL_law_723 (by decide) q2 q2 (fun _ => ?_) (fun c9 => absurd rfl c9)
  refine wp_iload dL_law_728 rfl ?_
  refine wp_if_ne (tgt := 745) dL_law_730 (by decide) q2 (fun _ => ?_) (fun c9 => ?_)
  · exact wp_goto (tgt := 2029) dL_law_745 (by decide) hfin
  · have hg : gA σ2 (A 31 0) 0 = nrm b := by rw [← e31, g31, e31]; exact q3 c9
    obtain ⟨oa, oi⟩ := LX_o J2.2.2.2
    rw [e31] at oa oi
    refine wp_aload_n dL_law_733 rfl ?_
    refine wp_iconst dL_law_734 ?_
    refine wp_laload dL_law_735 oa oi ?_
    rw [hg]
    refine wp_iload dL_law_736 rfl ?_
    refine wp_i2l dL_law_738 (nrm_Q b) ?_
    refine wp_lcmp dL_law_739 (nrm_Q b) (nrm_Q b) ?_
    rw [if_neg (by omega), if_pos rfl]
    refine wp_if_eq (tgt := 745) dL_law_740 (by decide) (by unfold qR; omega) (fun _ => ?_) (fun c8 => absurd rfl c8)
    exact wp_goto (tgt := 2029) dL_law_745 (by decide) hfin
set_option maxRecDepth 100000 in
set_option maxHeartbeats 4000000 in
theorem lc_8 (hl : l.stackTraces = false) (hg : scG g sc L s) (hs : atA A sc x m out) (J : LK A L s D D σ) (hw : WF D) (hk : (kp D).length < 512) (hi : 0 ≤ i ∧ i + 6 ≤ L) (kn : ∀ A' D' σ', atA A' sc x m out → LK A' L s D' D' σ' → Nx D D' → qW g l (M_law nm hh) ca sa 2029 [some (vr sc), some (vr x), some (vr m), some (vr out), some (vi i), none, none] [] σ' Post) : qW g l (M_law nm hh) (ca + 3) (sa + 18) 748 [some (vr sc), some (vr x), some (vr m), some (vr out), some (vi i), none, none] [] σ Post := by
  obtain ⟨rfl, rfl, rfl, rfl⟩ := hs
  obtain ⟨pa, pi, pv, pr⟩ := LX_f hg hi
  refine wp_aload_n dL_law_748 rfl ?_
  refine wp_arg (k := 1) (v := s (i + 1)) dL_law_749 dL_law_750 dL_law_752 dL_law_753 dL_law_754 rfl rfl pa (pi 1 (by decide) (by decide)) (pv 1 (by decide) (by decide)) ?_
  refine wp_arg (k := 2) (v := s (i + 2)) dL_law_755 dL_law_756 dL_law_758 dL_law_759 dL_law_760 rfl rfl pa (pi 2 (by decide) (by decide)) (pv 2 (by decide) (by decide)) ?_
  refine wp_aload_n dL_law_761 rfl ?_
  refine wp_callSX (M' := M_L_answer) (As := [vr (A 0 0), vi (s (i + 1)), vi (s (i + 2)), vr (A 31 0)]) (st := []) dL_law_762 ceeX_L_answer np_L_answer rfl ⟨Nat.le_of_ble_eq_true rfl, Nat.le_of_ble_eq_true rfl, Nat.le_trans (m := 3) (Nat.le_of_ble_eq_true rfl) (Nat.le_add_left _ _), Nat.le_trans (m := 18) (Nat.le_of_ble_eq_true rfl) (Nat.le_add_left _ _)⟩ wd_1022 wd_1023 (q_small_of (Nat.le_of_ble_eq_true rfl)) (lw_L_answer hl J hw hk (pr 1 (by decide) (by decide)) (pr 2 (by decide) (by decide))) (q_kTi0 (fun σ1 k hM => ?_)) q_kTi00
  refine wp_less (ac2 := ca + 0) (as2 := sa + 0) (by show ca + 0 ≤ ca + 3 - 3; omega) (by show sa + 0 ≤ sa + 18 - 18; omega) ?_
  obtain ⟨A', J1, ⟨e0, e30, e31, e32⟩, hk1⟩ := hM
  refine wp_istore' (ls' := [some (vr (A 32 0)), some (vr (A 0 0)), some (vr (A 30 0)), some (vr (A 31 0)), some (vi i), some (vi k), none]) dL_law_765 (Nat.le_of_ble_eq_true rfl) rfl ?_
  refine wp_aload_n dL_law_767 rfl ?_
  refine wp_arg (k := 1) (v := s (i + 1)) dL_law_768 dL_law_769 dL_law_771 dL_law_772 dL_law_773 rfl rfl pa (pi 1 (by decide) (by decide)) (pv 1 (by decide) (by decide)) ?_
  refine wp_arg (k := 2) (v := s (i + 2)) dL_law_774 dL_law_775 dL_law_777 dL_law_778 dL_law_779 rfl rfl pa (pi 2 (by decide) (by decide)) (pv 2 (by decide) (by decide)) ?_
  have hm := spec_manswer (g := g) hl J1.1 J1.2.2.1 hw.1 (pr 1 (by decide) (by decide)) (pr 2 (by decide) (by decide))
  rw [e30] at hm
  refine wp_callV (M' := M_X8_answer) (As := [vi (s (i + 1)), vi (s (i + 2))]) (st := []) (ci := 8) dL_law_780 cee_X8_answer np_X8_answer rfl ⟨Nat.le_of_ble_eq_true rfl, Nat.le_of_ble_eq_true rfl, Nat.le_trans (m := 0) (Nat.le_of_ble_eq_true rfl) (Nat.le_add_left _ _), Nat.le_trans (m := 0) (Nat.le_of_ble_eq_true rfl) (Nat.le_add_left _ _)⟩ wd_1455 wd_1456 wd_1457 rfl (Or.inl (by rw [← e30]; exact J1.2.2.1.1.1.1)) (q_small_of (Nat.le_of_ble_eq_true rfl)) hm (q_kTi0 (fun σ2 b hM2 => ?_)) q_kTi00
  refine wp_less (ac2 := ca + 0) (as2 := sa + 0) (by show ca + 0 ≤ ca + 0 - 0; omega) (by show sa + 0 ≤ sa + 0 - 0; omega) ?_
  obtain ⟨m1, m2, m3⟩ := hM2
  obtain ⟨J2, g31⟩ := LK_mod J1 m1 m2
  refine wp_nrm ?_
  refine wp_istore' (ls' := [some (vr (A 32 0)), some (vr (A 0 0)), some (vr (A 30 0)), some (vr (A 31 0)), some (vi i), some (vi k), some (vi (nrm b))]) dL_law_783 (Nat.le_of_ble_eq_true rfl) rfl ?_
  refine wp_aload_n dL_law_785 rfl ?_
  have ht := spec_thrown (g := g) hl J2.2.2.1.1.1
  rw [e30] at ht
  obtain ⟨q1, q2, q3⟩ := lw_end cOk2 hk1 m3
  rw [e30] at q1
  rw [q1] at ht
  refine wp_callV (M' := M_X8_thrown) (As := []) (st := []) (ci := 8) dL_law_786 cee_X8_thrown np_X8_thrown rfl ⟨Nat.le_of_ble_eq_true rfl, Nat.le_of_ble_eq_true rfl, Nat.le_trans (m := 0) (Nat.le_of_ble_eq_true rfl) (Nat.le_add_left _ _), Nat.le_trans (m := 0) (Nat.le_of_ble_eq_true rfl) (Nat.le_add_left _ _)⟩ wd_1328 wd_1329 wd_1330 rfl (Or.inl (by rw [← e30]; exact J2.2.2.1.1.1.1)) (q_small_of (Nat.le_of_ble_eq_true rfl)) ht (q_kPi ?_) q_kPi0
  refine wp_less (ac2 := ca) (as2 := sa) (by show ca ≤ ca + 0 - 0; omega) (by show sa ≤ sa + 0 - 0; omega) ?_
  refine wp_iload dL_law_789 rfl ?_
  have hfin : qW g l (M_law nm hh) ca sa 2029 [some (vr (A 32 0)), some (vr (A 0 0)), some (vr (A 30 0)), some (vr (A 31 0)), some (vi i), some (vi k), some (vi (nrm b))] [] σ2 Post := wp_lsub (ls' := [some (vr (A 32 0)), some (vr (A 0 0)), some (vr (A 30 0)), some (vr (A 31 0)), some (vi i), none, none]) ⟨rfl, rfl, rfl, rfl, rfl, trivial⟩ (kn A' _ σ2 ⟨e0, e30, e31, e32⟩ J2 (Nx_answer hw))
  refine wp_icmp_eq (tgt := 796) dL_law_791 (by decide) q2 q2 (fun _ => ?_) (fun c9 => absurd rfl c9)
  refine wp_iload dL_law_796 rfl ?_
  refine wp_if_ne (tgt := 813) dL_law_798 (by decide) q2 (fun _ => ?_) (fun c9 => ?_)
  · exact wp_goto (tgt := 2029) dL_law_813 (by decide) hfin
  · have hg : gA σ2 (A 31 0) 0 = nrm b := by rw [← e31, g31, e31]; exact q3 c9
    obtain ⟨oa, oi⟩ := LX_o J2.2.2.2
    rw [e31] at oa oi
    refine wp_aload_n dL_law_801 rfl ?_
    refine wp_iconst dL_law_802 ?_
    refine wp_laload dL_law_803 oa oi ?_
    rw [hg]
    refine wp_iload dL_law_804 rfl ?_
    refine wp_i2l dL_law_806 (nrm_Q b) ?_
    refine wp_lcmp dL_law_807 (nrm_Q b) (nrm_Q b) ?_
    rw [if_neg (by omega), if_pos rfl]
    refine wp_if_eq (tgt := 813) dL_law_808 (by decide) (by unfold qR; omega) (fun _ => ?_) (fun c8 => absurd rfl c8)
    exact wp_goto (tgt := 2029) dL_law_813 (by decide) hfin
set_option maxRecDepth 100000 in
set_option maxHeartbeats 4000000 in
theorem lc_9 (hl : l.stackTraces = false) (hg : scG g sc L s) (hs : atA A sc x m out) (J : LK A L s D D σ) (hw : WF D) (hk : (kp D).length < 512) (hi : 0 ≤ i ∧ i + 6 ≤ L) (kn : ∀ A' D' σ', atA A' sc x m out → LK A' L s D' D' σ' → Nx D D' → qW g l (M_law nm hh) ca sa 2029 [some (vr sc), some (vr x), some (vr m), some (vr out), some (vi i), none, none] [] σ' Post) : qW g l (M_law nm hh) (ca + 3) (sa + 18) 816 [some (vr sc), some (vr x), some (vr m), some (vr out), some (vi i), none, none] [] σ Post := by
  obtain ⟨rfl, rfl, rfl, rfl⟩ := hs
  obtain ⟨pa, pi, pv, pr⟩ := LX_f hg hi
  refine wp_aload_n dL_law_816 rfl ?_
  refine wp_arg (k := 1) (v := s (i + 1)) dL_law_817 dL_law_818 dL_law_820 dL_law_821 dL_law_822 rfl rfl pa (pi 1 (by decide) (by decide)) (pv 1 (by decide) (by decide)) ?_
  refine wp_arg (k := 2) (v := s (i + 2)) dL_law_823 dL_law_824 dL_law_826 dL_law_827 dL_law_828 rfl rfl pa (pi 2 (by decide) (by decide)) (pv 2 (by decide) (by decide)) ?_
  refine wp_aload_n dL_law_829 rfl ?_
  refine wp_callSX (M' := M_L_translate) (As := [vr (A 0 0), vi (s (i + 1)), vi (s (i + 2)), vr (A 31 0)]) (st := []) dL_law_830 ceeX_L_translate np_L_translate rfl ⟨Nat.le_of_ble_eq_true rfl, Nat.le_of_ble_eq_true rfl, Nat.le_trans (m := 3) (Nat.le_of_ble_eq_true rfl) (Nat.le_add_left _ _), Nat.le_trans (m := 18) (Nat.le_of_ble_eq_true rfl) (Nat.le_add_left _ _)⟩ wd_1030 wd_1031 (q_small_of (Nat.le_of_ble_eq_true rfl)) (lw_L_translate hl J hw hk (pr 1 (by decide) (by decide)) (pr 2 (by decide) (by decide))) (q_kTi0 (fun σ1 k hM => ?_)) q_kTi00
  refine wp_less (ac2 := ca + 0) (as2 := sa + 0) (by show ca + 0 ≤ ca + 3 - 3; omega) (by show sa + 0 ≤ sa + 18 - 18; omega) ?_
  obtain ⟨A', J1, ⟨e0, e30, e31, e32⟩, hk1⟩ := hM
  refine wp_istore' (ls' := [some (vr (A 32 0)), some (vr (A 0 0)), some (vr (A 30 0)), some (vr (A 31 0)), some (vi i), some (vi k), none]) dL_law_833 (Nat.le_of_ble_eq_true rfl) rfl ?_
  refine wp_aload_n dL_law_835 rfl ?_
  refine wp_arg (k := 1) (v := s (i + 1)) dL_law_836 dL_law_837 dL_law_839 dL_law_840 dL_law_841 rfl rfl pa (pi 1 (by decide) (by decide)) (pv 1 (by decide) (by decide)) ?_
  refine wp_arg (k := 2) (v := s (i + 2)) dL_law_842 dL_law_843 dL_law_845 dL_law_846 dL_law_847 rfl rfl pa (pi 2 (by decide) (by decide)) (pv 2 (by decide) (by decide)) ?_
  have hm := spec_mtranslate (g := g) hl J1.1 J1.2.2.1 hw (pr 1 (by decide) (by decide)) (pr 2 (by decide) (by decide))
  rw [e30] at hm
  refine wp_callV (M' := M_X8_translate) (As := [vi (s (i + 1)), vi (s (i + 2))]) (st := []) (ci := 8) dL_law_848 cee_X8_translate np_X8_translate rfl ⟨Nat.le_of_ble_eq_true rfl, Nat.le_of_ble_eq_true rfl, Nat.le_trans (m := 0) (Nat.le_of_ble_eq_true rfl) (Nat.le_add_left _ _), Nat.le_trans (m := 0) (Nat.le_of_ble_eq_true rfl) (Nat.le_add_left _ _)⟩ wd_1459 wd_1460 wd_1461 rfl (Or.inl (by rw [← e30]; exact J1.2.2.1.1.1.1)) (q_small_of (Nat.le_of_ble_eq_true rfl)) hm (q_kTi0 (fun σ2 b hM2 => ?_)) q_kTi00
  refine wp_less (ac2 := ca + 0) (as2 := sa + 0) (by show ca + 0 ≤ ca + 0 - 0; omega) (by show sa + 0 ≤ sa + 0 - 0; omega) ?_
  obtain ⟨m1, m2, m3⟩ := hM2
  obtain ⟨J2, g31⟩ := LK_mod J1 m1 m2
  refine wp_nrm ?_
  refine wp_istore' (ls' := [some (vr (A 32 0)), some (vr (A 0 0)), some (vr (A 30 0)), some (vr (A 31 0)), some (vi i), some (vi k), some (vi (nrm b))]) dL_law_851 (Nat.le_of_ble_eq_true rfl) rfl ?_
  refine wp_aload_n dL_law_853 rfl ?_
  have ht := spec_thrown (g := g) hl J2.2.2.1.1.1
  rw [e30] at ht
  obtain ⟨q1, q2, q3⟩ := lw_end cOk3 hk1 m3
  rw [e30] at q1
  rw [q1] at ht
  refine wp_callV (M' := M_X8_thrown) (As := []) (st := []) (ci := 8) dL_law_854 cee_X8_thrown np_X8_thrown rfl ⟨Nat.le_of_ble_eq_true rfl, Nat.le_of_ble_eq_true rfl, Nat.le_trans (m := 0) (Nat.le_of_ble_eq_true rfl) (Nat.le_add_left _ _), Nat.le_trans (m := 0) (Nat.le_of_ble_eq_true rfl) (Nat.le_add_left _ _)⟩ wd_1328 wd_1329 wd_1330 rfl (Or.inl (by rw [← e30]; exact J2.2.2.1.1.1.1)) (q_small_of (Nat.le_of_ble_eq_true rfl)) ht (q_kPi ?_) q_kPi0
  refine wp_less (ac2 := ca) (as2 := sa) (by show ca ≤ ca + 0 - 0; omega) (by show sa ≤ sa + 0 - 0; omega) ?_
  refine wp_iload dL_law_857 rfl ?_
  have hfin : qW g l (M_law nm hh) ca sa 2029 [some (vr (A 32 0)), some (vr (A 0 0)), some (vr (A 30 0)), some (vr (A 31 0)), some (vi i), some (vi k), some (vi (nrm b))] [] σ2 Post := wp_lsub (ls' := [some (vr (A 32 0)), some (vr (A 0 0)), some (vr (A 30 0)), some (vr (A 31 0)), some (vi i), none, none]) ⟨rfl, rfl, rfl, rfl, rfl, trivial⟩ (kn A' _ σ2 ⟨e0, e30, e31, e32⟩ J2 (Nx_translate hw))
  refine wp_icmp_eq (tgt := 864) dL_law_859 (by decide) q2 q2 (fun _ => ?_) (fun c9 => absurd rfl c9)
  refine wp_iload dL_law_864 rfl ?_
  refine wp_if_ne (tgt := 881) dL_law_866 (by decide) q2 (fun _ => ?_) (fun c9 => ?_)
  · exact wp_goto (tgt := 2029) dL_law_881 (by decide) hfin
  · have hg : gA σ2 (A 31 0) 0 = nrm b := by rw [← e31, g31, e31]; exact q3 c9
    obtain ⟨oa, oi⟩ := LX_o J2.2.2.2
    rw [e31] at oa oi
    refine wp_aload_n dL_law_869 rfl ?_
    refine wp_iconst dL_law_870 ?_
    refine wp_laload dL_law_871 oa oi ?_
    rw [hg]
    refine wp_iload dL_law_872 rfl ?_
    refine wp_i2l dL_law_874 (nrm_Q b) ?_
    refine wp_lcmp dL_law_875 (nrm_Q b) (nrm_Q b) ?_
    rw [if_neg (by omega), if_pos rfl]
    refine wp_if_eq (tgt := 881) dL_law_876 (by decide) (by unfold qR; omega) (fun _ => ?_) (fun c8 => absurd rfl c8)
    exact wp_goto (tgt := 2029) dL_law_881 (by decide) hfin
set_option maxRecDepth 100000 in
set_option maxHeartbeats 4000000 in
theorem lc_10 (hl : l.stackTraces = false) (hg : scG g sc L s) (hs : atA A sc x m out) (J : LK A L s D D σ) (hw : WF D) (hk : (kp D).length < 512) (hi : 0 ≤ i ∧ i + 6 ≤ L) (kn : ∀ A' D' σ', atA A' sc x m out → LK A' L s D' D' σ' → Nx D D' → qW g l (M_law nm hh) ca sa 2029 [some (vr sc), some (vr x), some (vr m), some (vr out), some (vi i), none, none] [] σ' Post) : qW g l (M_law nm hh) (ca + 3) (sa + 18) 884 [some (vr sc), some (vr x), some (vr m), some (vr out), some (vi i), none, none] [] σ Post := by
  obtain ⟨rfl, rfl, rfl, rfl⟩ := hs
  obtain ⟨pa, pi, pv, pr⟩ := LX_f hg hi
  refine wp_aload_n dL_law_884 rfl ?_
  refine wp_arg (k := 1) (v := s (i + 1)) dL_law_885 dL_law_886 dL_law_888 dL_law_889 dL_law_890 rfl rfl pa (pi 1 (by decide) (by decide)) (pv 1 (by decide) (by decide)) ?_
  refine wp_arg (k := 2) (v := s (i + 2)) dL_law_891 dL_law_892 dL_law_894 dL_law_895 dL_law_896 rfl rfl pa (pi 2 (by decide) (by decide)) (pv 2 (by decide) (by decide)) ?_
  refine wp_aload_n dL_law_897 rfl ?_
  refine wp_callSX (M' := M_L_setGrowth) (As := [vr (A 0 0), vi (s (i + 1)), vi (s (i + 2)), vr (A 31 0)]) (st := []) dL_law_898 ceeX_L_setGrowth np_L_setGrowth rfl ⟨Nat.le_of_ble_eq_true rfl, Nat.le_of_ble_eq_true rfl, Nat.le_trans (m := 3) (Nat.le_of_ble_eq_true rfl) (Nat.le_add_left _ _), Nat.le_trans (m := 18) (Nat.le_of_ble_eq_true rfl) (Nat.le_add_left _ _)⟩ wd_1037 wd_1038 (q_small_of (Nat.le_of_ble_eq_true rfl)) (lw_L_setGrowth hl J hw hk (pr 1 (by decide) (by decide)) (pr 2 (by decide) (by decide))) (q_kTi0 (fun σ1 k hM => ?_)) q_kTi00
  refine wp_less (ac2 := ca + 0) (as2 := sa + 0) (by show ca + 0 ≤ ca + 3 - 3; omega) (by show sa + 0 ≤ sa + 18 - 18; omega) ?_
  obtain ⟨A', J1, ⟨e0, e30, e31, e32⟩, hk1⟩ := hM
  refine wp_istore' (ls' := [some (vr (A 32 0)), some (vr (A 0 0)), some (vr (A 30 0)), some (vr (A 31 0)), some (vi i), some (vi k), none]) dL_law_901 (Nat.le_of_ble_eq_true rfl) rfl ?_
  refine wp_aload_n dL_law_903 rfl ?_
  refine wp_arg (k := 1) (v := s (i + 1)) dL_law_904 dL_law_905 dL_law_907 dL_law_908 dL_law_909 rfl rfl pa (pi 1 (by decide) (by decide)) (pv 1 (by decide) (by decide)) ?_
  refine wp_arg (k := 2) (v := s (i + 2)) dL_law_910 dL_law_911 dL_law_913 dL_law_914 dL_law_915 rfl rfl pa (pi 2 (by decide) (by decide)) (pv 2 (by decide) (by decide)) ?_
  have hm := spec_msetGrowth (g := g) hl J1.1 J1.2.2.1 hw (pr 1 (by decide) (by decide)) (pr 2 (by decide) (by decide))
  rw [e30] at hm
  refine wp_callV (M' := M_X8_setGrowth) (As := [vi (s (i + 1)), vi (s (i + 2))]) (st := []) (ci := 8) dL_law_916 cee_X8_setGrowth np_X8_setGrowth rfl ⟨Nat.le_of_ble_eq_true rfl, Nat.le_of_ble_eq_true rfl, Nat.le_trans (m := 0) (Nat.le_of_ble_eq_true rfl) (Nat.le_add_left _ _), Nat.le_trans (m := 0) (Nat.le_of_ble_eq_true rfl) (Nat.le_add_left _ _)⟩ wd_1463 wd_1464 wd_1465 rfl (Or.inl (by rw [← e30]; exact J1.2.2.1.1.1.1)) (q_small_of (Nat.le_of_ble_eq_true rfl)) hm (q_kTi0 (fun σ2 b hM2 => ?_)) q_kTi00
  refine wp_less (ac2 := ca + 0) (as2 := sa + 0) (by show ca + 0 ≤ ca + 0 - 0; omega) (by show sa + 0 ≤ sa + 0 - 0; omega) ?_
  obtain ⟨m1, m2, m3⟩ := hM2
  obtain ⟨J2, g31⟩ := LK_mod J1 m1 m2
  refine wp_nrm ?_
  refine wp_istore' (ls' := [some (vr (A 32 0)), some (vr (A 0 0)), some (vr (A 30 0)), some (vr (A 31 0)), some (vi i), some (vi k), some (vi (nrm b))]) dL_law_919 (Nat.le_of_ble_eq_true rfl) rfl ?_
  refine wp_aload_n dL_law_921 rfl ?_
  have ht := spec_thrown (g := g) hl J2.2.2.1.1.1
  rw [e30] at ht
  obtain ⟨q1, q2, q3⟩ := lw_end cOk1 hk1 m3
  rw [e30] at q1
  rw [q1] at ht
  refine wp_callV (M' := M_X8_thrown) (As := []) (st := []) (ci := 8) dL_law_922 cee_X8_thrown np_X8_thrown rfl ⟨Nat.le_of_ble_eq_true rfl, Nat.le_of_ble_eq_true rfl, Nat.le_trans (m := 0) (Nat.le_of_ble_eq_true rfl) (Nat.le_add_left _ _), Nat.le_trans (m := 0) (Nat.le_of_ble_eq_true rfl) (Nat.le_add_left _ _)⟩ wd_1328 wd_1329 wd_1330 rfl (Or.inl (by rw [← e30]; exact J2.2.2.1.1.1.1)) (q_small_of (Nat.le_of_ble_eq_true rfl)) ht (q_kPi ?_) q_kPi0
  refine wp_less (ac2 := ca) (as2 := sa) (by show ca ≤ ca + 0 - 0; omega) (by show sa ≤ sa + 0 - 0; omega) ?_
  refine wp_iload dL_law_925 rfl ?_
  have hfin : qW g l (M_law nm hh) ca sa 2029 [some (vr (A 32 0)), some (vr (A 0 0)), some (vr (A 30 0)), some (vr (A 31 0)), some (vi i), some (vi k), some (vi (nrm b))] [] σ2 Post := wp_lsub (ls' := [some (vr (A 32 0)), some (vr (A 0 0)), some (vr (A 30 0)), some (vr (A 31 0)), some (vi i), none, none]) ⟨rfl, rfl, rfl, rfl, rfl, trivial⟩ (kn A' _ σ2 ⟨e0, e30, e31, e32⟩ J2 (Nx_setGrowth hw))
  refine wp_icmp_eq (tgt := 932) dL_law_927 (by decide) q2 q2 (fun _ => ?_) (fun c9 => absurd rfl c9)
  refine wp_iload dL_law_932 rfl ?_
  refine wp_if_ne (tgt := 949) dL_law_934 (by decide) q2 (fun _ => ?_) (fun c9 => ?_)
  · exact wp_goto (tgt := 2029) dL_law_949 (by decide) hfin
  · have hg : gA σ2 (A 31 0) 0 = nrm b := by rw [← e31, g31, e31]; exact q3 c9
    obtain ⟨oa, oi⟩ := LX_o J2.2.2.2
    rw [e31] at oa oi
    refine wp_aload_n dL_law_937 rfl ?_
    refine wp_iconst dL_law_938 ?_
    refine wp_laload dL_law_939 oa oi ?_
    rw [hg]
    refine wp_iload dL_law_940 rfl ?_
    refine wp_i2l dL_law_942 (nrm_Q b) ?_
    refine wp_lcmp dL_law_943 (nrm_Q b) (nrm_Q b) ?_
    rw [if_neg (by omega), if_pos rfl]
    refine wp_if_eq (tgt := 949) dL_law_944 (by decide) (by unfold qR; omega) (fun _ => ?_) (fun c8 => absurd rfl c8)
    exact wp_goto (tgt := 2029) dL_law_949 (by decide) hfin
set_option maxRecDepth 100000 in
set_option maxHeartbeats 4000000 in
theorem lc_11 (hl : l.stackTraces = false) (hg : scG g sc L s) (hs : atA A sc x m out) (J : LK A L s D D σ) (hw : WF D) (hk : (kp D).length < 512) (hi : 0 ≤ i ∧ i + 6 ≤ L) (kn : ∀ A' D' σ', atA A' sc x m out → LK A' L s D' D' σ' → Nx D D' → qW g l (M_law nm hh) ca sa 2029 [some (vr sc), some (vr x), some (vr m), some (vr out), some (vi i), none, none] [] σ' Post) : qW g l (M_law nm hh) (ca + 0) (sa + 0) 952 [some (vr sc), some (vr x), some (vr m), some (vr out), some (vi i), none, none] [] σ Post := by
  obtain ⟨rfl, rfl, rfl, rfl⟩ := hs
  obtain ⟨pa, pi, pv, pr⟩ := LX_f hg hi
  refine wp_aload_n dL_law_952 rfl ?_
  refine wp_callV (M' := M_X7_pages) (As := []) (st := []) (ci := 7) dL_law_953 cee_X7_pages np_X7_pages rfl ⟨Nat.le_of_ble_eq_true rfl, Nat.le_of_ble_eq_true rfl, Nat.le_trans (m := 0) (Nat.le_of_ble_eq_true rfl) (Nat.le_add_left _ _), Nat.le_trans (m := 0) (Nat.le_of_ble_eq_true rfl) (Nat.le_add_left _ _)⟩ wd_117 wd_118 wd_119 rfl (Or.inl J.2.1.1.1) (q_small_of (Nat.le_of_ble_eq_true rfl)) (spec_pages hl J.2.1) (fun σ1 v hM => ?_) (fun σ1 n hM => lw_pn σ1 n (qQo_P J hM))
  obtain ⟨rfl, A', J1, e0, e30, e31, e32⟩ := lw_pl J σ1 v (qQo_P J hM)
  refine wp_less (ac2 := ca + 0) (as2 := sa + 0) (by show ca + 0 ≤ ca + 0 - 0; omega) (by show sa + 0 ≤ sa + 0 - 0; omega) ?_
  show qW g l (M_law nm hh) (ca + 0) (sa + 0) 956 [some (vr (A 32 0)), some (vr (A 0 0)), some (vr (A 30 0)), some (vr (A 31 0)), some (vi i), none, none] [vi ((np D))] σ1 Post
  refine wp_nrm ?_
  refine wp_aload_n dL_law_956 rfl ?_
  have hm := spec_mpages (g := g) (c := c2) hl J1.1 J1.2.2.1
  rw [e30] at hm
  refine wp_callV (M' := M_X8_pages) (As := []) (st := [vi (nrm ((np D)))]) (ci := 8) dL_law_957 cee_X8_pages np_X8_pages rfl ⟨Nat.le_of_ble_eq_true rfl, Nat.le_of_ble_eq_true rfl, Nat.le_trans (m := 0) (Nat.le_of_ble_eq_true rfl) (Nat.le_add_left _ _), Nat.le_trans (m := 0) (Nat.le_of_ble_eq_true rfl) (Nat.le_add_left _ _)⟩ wd_1467 wd_1468 wd_1469 rfl (Or.inl (by rw [← e30]; exact J1.2.2.1.1.1.1)) (q_small_of (Nat.le_of_ble_eq_true rfl)) hm (q_kTi0 (fun σ2 b hM2 => ?_)) q_kTi00
  refine wp_less (ac2 := ca) (as2 := sa) (by show ca ≤ ca + 0 - 0; omega) (by show sa ≤ sa + 0 - 0; omega) ?_
  obtain ⟨m1, m2, m3, m4⟩ := hM2
  obtain ⟨J2, g31⟩ := LK_mod J1 m1 m2
  rw [m3]
  refine wp_nrm ?_
  have hfin : qW g l (M_law nm hh) ca sa 2029 [some (vr (A 32 0)), some (vr (A 0 0)), some (vr (A 30 0)), some (vr (A 31 0)), some (vi i), none, none] [] σ2 Post := kn A' _ σ2 ⟨e0, e30, e31, e32⟩ J2 ⟨hw, Nat.le_succ _⟩
  refine wp_icmp_eq (tgt := 2029) dL_law_960 (by decide) (nrm_Q _) (nrm_Q _) (fun _ => ?_) (fun c9 => absurd rfl c9)
  exact hfin
set_option maxRecDepth 100000 in
set_option maxHeartbeats 4000000 in
theorem lc_12 (hl : l.stackTraces = false) (hg : scG g sc L s) (hs : atA A sc x m out) (J : LK A L s D D σ) (hw : WF D) (hk : (kp D).length < 512) (hi : 0 ≤ i ∧ i + 6 ≤ L) (kn : ∀ A' D' σ', atA A' sc x m out → LK A' L s D' D' σ' → Nx D D' → qW g l (M_law nm hh) ca sa 2029 [some (vr sc), some (vr x), some (vr m), some (vr out), some (vi i), none, none] [] σ' Post) : qW g l (M_law nm hh) (ca + 1) (sa + 6) 965 [some (vr sc), some (vr x), some (vr m), some (vr out), some (vi i), none, none] [] σ Post := by
  obtain ⟨rfl, rfl, rfl, rfl⟩ := hs
  obtain ⟨pa, pi, pv, pr⟩ := LX_f hg hi
  refine wp_aload_n dL_law_965 rfl ?_
  refine wp_arg (k := 1) (v := s (i + 1)) dL_law_966 dL_law_967 dL_law_969 dL_law_970 dL_law_971 rfl rfl pa (pi 1 (by decide) (by decide)) (pv 1 (by decide) (by decide)) ?_
  refine wp_aload_n dL_law_972 rfl ?_
  refine wp_callSX (M' := M_L_rows) (As := [vr (A 0 0), vi (s (i + 1)), vr (A 31 0)]) (st := []) dL_law_973 ceeX_L_rows np_L_rows rfl ⟨Nat.le_of_ble_eq_true rfl, Nat.le_of_ble_eq_true rfl, Nat.le_trans (m := 1) (Nat.le_of_ble_eq_true rfl) (Nat.le_add_left _ _), Nat.le_trans (m := 6) (Nat.le_of_ble_eq_true rfl) (Nat.le_add_left _ _)⟩ wd_1045 wd_1046 (q_small_of (Nat.le_of_ble_eq_true rfl)) (lw_L_rows hl J hw hk (pr 1 (by decide) (by decide))) (q_kTi0 (fun σ1 k hM => ?_)) q_kTi00
  refine wp_less (ac2 := ca + 0) (as2 := sa + 0) (by show ca + 0 ≤ ca + 1 - 1; omega) (by show sa + 0 ≤ sa + 6 - 6; omega) ?_
  obtain ⟨A', J1, ⟨e0, e30, e31, e32⟩, hk1⟩ := hM
  refine wp_istore' (ls' := [some (vr (A 32 0)), some (vr (A 0 0)), some (vr (A 30 0)), some (vr (A 31 0)), some (vi i), some (vi k), none]) dL_law_976 (Nat.le_of_ble_eq_true rfl) rfl ?_
  refine wp_aload_n dL_law_978 rfl ?_
  refine wp_arg (k := 1) (v := s (i + 1)) dL_law_979 dL_law_980 dL_law_982 dL_law_983 dL_law_984 rfl rfl pa (pi 1 (by decide) (by decide)) (pv 1 (by decide) (by decide)) ?_
  have hm := spec_mrows (g := g) hl J1.1 J1.2.2.1 hw.1 (pr 1 (by decide) (by decide))
  rw [e30] at hm
  refine wp_callV (M' := M_X8_rows) (As := [vi (s (i + 1))]) (st := []) (ci := 8) dL_law_985 cee_X8_rows np_X8_rows rfl ⟨Nat.le_of_ble_eq_true rfl, Nat.le_of_ble_eq_true rfl, Nat.le_trans (m := 0) (Nat.le_of_ble_eq_true rfl) (Nat.le_add_left _ _), Nat.le_trans (m := 0) (Nat.le_of_ble_eq_true rfl) (Nat.le_add_left _ _)⟩ wd_1471 wd_1472 wd_1473 rfl (Or.inl (by rw [← e30]; exact J1.2.2.1.1.1.1)) (q_small_of (Nat.le_of_ble_eq_true rfl)) hm (q_kTi0 (fun σ2 b hM2 => ?_)) q_kTi00
  refine wp_less (ac2 := ca + 0) (as2 := sa + 0) (by show ca + 0 ≤ ca + 0 - 0; omega) (by show sa + 0 ≤ sa + 0 - 0; omega) ?_
  obtain ⟨m1, m2, m3⟩ := hM2
  obtain ⟨J2, g31⟩ := LK_mod J1 m1 m2
  refine wp_nrm ?_
  refine wp_istore' (ls' := [some (vr (A 32 0)), some (vr (A 0 0)), some (vr (A 30 0)), some (vr (A 31 0)), some (vi i), some (vi k), some (vi (nrm b))]) dL_law_988 (Nat.le_of_ble_eq_true rfl) rfl ?_
  refine wp_aload_n dL_law_990 rfl ?_
  have ht := spec_thrown (g := g) hl J2.2.2.1.1.1
  rw [e30] at ht
  obtain ⟨q1, q2, q3⟩ := lw_end cOk2 hk1 m3
  rw [e30] at q1
  rw [q1] at ht
  refine wp_callV (M' := M_X8_thrown) (As := []) (st := []) (ci := 8) dL_law_991 cee_X8_thrown np_X8_thrown rfl ⟨Nat.le_of_ble_eq_true rfl, Nat.le_of_ble_eq_true rfl, Nat.le_trans (m := 0) (Nat.le_of_ble_eq_true rfl) (Nat.le_add_left _ _), Nat.le_trans (m := 0) (Nat.le_of_ble_eq_true rfl) (Nat.le_add_left _ _)⟩ wd_1328 wd_1329 wd_1330 rfl (Or.inl (by rw [← e30]; exact J2.2.2.1.1.1.1)) (q_small_of (Nat.le_of_ble_eq_true rfl)) ht (q_kPi ?_) q_kPi0
  refine wp_less (ac2 := ca) (as2 := sa) (by show ca ≤ ca + 0 - 0; omega) (by show sa ≤ sa + 0 - 0; omega) ?_
  refine wp_iload dL_law_994 rfl ?_
  have hfin : qW g l (M_law nm hh) ca sa 2029 [some (vr (A 32 0)), some (vr (A 0 0)), some (vr (A 30 0)), some (vr (A 31 0)), some (vi i), some (vi k), some (vi (nrm b))] [] σ2 Post := wp_lsub (ls' := [some (vr (A 32 0)), some (vr (A 0 0)), some (vr (A 30 0)), some (vr (A 31 0)), some (vi i), none, none]) ⟨rfl, rfl, rfl, rfl, rfl, trivial⟩ (kn A' _ σ2 ⟨e0, e30, e31, e32⟩ J2 ⟨hw, Nat.le_succ _⟩)
  refine wp_icmp_eq (tgt := 1001) dL_law_996 (by decide) q2 q2 (fun _ => ?_) (fun c9 => absurd rfl c9)
  refine wp_iload dL_law_1001 rfl ?_
  refine wp_if_ne (tgt := 1018) dL_law_1003 (by decide) q2 (fun _ => ?_) (fun c9 => ?_)
  · exact wp_goto (tgt := 2029) dL_law_1018 (by decide) hfin
  · have hg : gA σ2 (A 31 0) 0 = nrm b := by rw [← e31, g31, e31]; exact q3 c9
    obtain ⟨oa, oi⟩ := LX_o J2.2.2.2
    rw [e31] at oa oi
    refine wp_aload_n dL_law_1006 rfl ?_
    refine wp_iconst dL_law_1007 ?_
    refine wp_laload dL_law_1008 oa oi ?_
    rw [hg]
    refine wp_iload dL_law_1009 rfl ?_
    refine wp_i2l dL_law_1011 (nrm_Q b) ?_
    refine wp_lcmp dL_law_1012 (nrm_Q b) (nrm_Q b) ?_
    rw [if_neg (by omega), if_pos rfl]
    refine wp_if_eq (tgt := 1018) dL_law_1013 (by decide) (by unfold qR; omega) (fun _ => ?_) (fun c8 => absurd rfl c8)
    exact wp_goto (tgt := 2029) dL_law_1018 (by decide) hfin
set_option maxRecDepth 100000 in
set_option maxHeartbeats 4000000 in
theorem lc_13 (hl : l.stackTraces = false) (hg : scG g sc L s) (hs : atA A sc x m out) (J : LK A L s D D σ) (hw : WF D) (hk : (kp D).length < 512) (hi : 0 ≤ i ∧ i + 6 ≤ L) (kn : ∀ A' D' σ', atA A' sc x m out → LK A' L s D' D' σ' → Nx D D' → qW g l (M_law nm hh) ca sa 2029 [some (vr sc), some (vr x), some (vr m), some (vr out), some (vi i), none, none] [] σ' Post) : qW g l (M_law nm hh) (ca + 1) (sa + 6) 1021 [some (vr sc), some (vr x), some (vr m), some (vr out), some (vi i), none, none] [] σ Post := by
  obtain ⟨rfl, rfl, rfl, rfl⟩ := hs
  obtain ⟨pa, pi, pv, pr⟩ := LX_f hg hi
  refine wp_aload_n dL_law_1021 rfl ?_
  refine wp_arg (k := 1) (v := s (i + 1)) dL_law_1022 dL_law_1023 dL_law_1025 dL_law_1026 dL_law_1027 rfl rfl pa (pi 1 (by decide) (by decide)) (pv 1 (by decide) (by decide)) ?_
  refine wp_aload_n dL_law_1028 rfl ?_
  refine wp_callSX (M' := M_L_panels) (As := [vr (A 0 0), vi (s (i + 1)), vr (A 31 0)]) (st := []) dL_law_1029 ceeX_L_panels np_L_panels rfl ⟨Nat.le_of_ble_eq_true rfl, Nat.le_of_ble_eq_true rfl, Nat.le_trans (m := 1) (Nat.le_of_ble_eq_true rfl) (Nat.le_add_left _ _), Nat.le_trans (m := 6) (Nat.le_of_ble_eq_true rfl) (Nat.le_add_left _ _)⟩ wd_1052 wd_1053 (q_small_of (Nat.le_of_ble_eq_true rfl)) (lw_L_panels hl J hw hk (pr 1 (by decide) (by decide))) (q_kTi0 (fun σ1 k hM => ?_)) q_kTi00
  refine wp_less (ac2 := ca + 0) (as2 := sa + 0) (by show ca + 0 ≤ ca + 1 - 1; omega) (by show sa + 0 ≤ sa + 6 - 6; omega) ?_
  obtain ⟨A', J1, ⟨e0, e30, e31, e32⟩, hk1⟩ := hM
  refine wp_istore' (ls' := [some (vr (A 32 0)), some (vr (A 0 0)), some (vr (A 30 0)), some (vr (A 31 0)), some (vi i), some (vi k), none]) dL_law_1032 (Nat.le_of_ble_eq_true rfl) rfl ?_
  refine wp_aload_n dL_law_1034 rfl ?_
  refine wp_arg (k := 1) (v := s (i + 1)) dL_law_1035 dL_law_1036 dL_law_1038 dL_law_1039 dL_law_1040 rfl rfl pa (pi 1 (by decide) (by decide)) (pv 1 (by decide) (by decide)) ?_
  have hm := spec_mpanels (g := g) hl J1.1 J1.2.2.1 hw.1 (pr 1 (by decide) (by decide))
  rw [e30] at hm
  refine wp_callV (M' := M_X8_panels) (As := [vi (s (i + 1))]) (st := []) (ci := 8) dL_law_1041 cee_X8_panels np_X8_panels rfl ⟨Nat.le_of_ble_eq_true rfl, Nat.le_of_ble_eq_true rfl, Nat.le_trans (m := 0) (Nat.le_of_ble_eq_true rfl) (Nat.le_add_left _ _), Nat.le_trans (m := 0) (Nat.le_of_ble_eq_true rfl) (Nat.le_add_left _ _)⟩ wd_1475 wd_1476 wd_1477 rfl (Or.inl (by rw [← e30]; exact J1.2.2.1.1.1.1)) (q_small_of (Nat.le_of_ble_eq_true rfl)) hm (q_kTi0 (fun σ2 b hM2 => ?_)) q_kTi00
  refine wp_less (ac2 := ca + 0) (as2 := sa + 0) (by show ca + 0 ≤ ca + 0 - 0; omega) (by show sa + 0 ≤ sa + 0 - 0; omega) ?_
  obtain ⟨m1, m2, m3⟩ := hM2
  obtain ⟨J2, g31⟩ := LK_mod J1 m1 m2
  refine wp_nrm ?_
  refine wp_istore' (ls' := [some (vr (A 32 0)), some (vr (A 0 0)), some (vr (A 30 0)), some (vr (A 31 0)), some (vi i), some (vi k), some (vi (nrm b))]) dL_law_1044 (Nat.le_of_ble_eq_true rfl) rfl ?_
  refine wp_aload_n dL_law_1046 rfl ?_
  have ht := spec_thrown (g := g) hl J2.2.2.1.1.1
  rw [e30] at ht
  obtain ⟨q1, q2, q3⟩ := lw_end cOk2 hk1 m3
  rw [e30] at q1
  rw [q1] at ht
  refine wp_callV (M' := M_X8_thrown) (As := []) (st := []) (ci := 8) dL_law_1047 cee_X8_thrown np_X8_thrown rfl ⟨Nat.le_of_ble_eq_true rfl, Nat.le_of_ble_eq_true rfl, Nat.le_trans (m := 0) (Nat.le_of_ble_eq_true rfl) (Nat.le_add_left _ _), Nat.le_trans (m := 0) (Nat.le_of_ble_eq_true rfl) (Nat.le_add_left _ _)⟩ wd_1328 wd_1329 wd_1330 rfl (Or.inl (by rw [← e30]; exact J2.2.2.1.1.1.1)) (q_small_of (Nat.le_of_ble_eq_true rfl)) ht (q_kPi ?_) q_kPi0
  refine wp_less (ac2 := ca) (as2 := sa) (by show ca ≤ ca + 0 - 0; omega) (by show sa ≤ sa + 0 - 0; omega) ?_
  refine wp_iload dL_law_1050 rfl ?_
  have hfin : qW g l (M_law nm hh) ca sa 2029 [some (vr (A 32 0)), some (vr (A 0 0)), some (vr (A 30 0)), some (vr (A 31 0)), some (vi i), some (vi k), some (vi (nrm b))] [] σ2 Post := wp_lsub (ls' := [some (vr (A 32 0)), some (vr (A 0 0)), some (vr (A 30 0)), some (vr (A 31 0)), some (vi i), none, none]) ⟨rfl, rfl, rfl, rfl, rfl, trivial⟩ (kn A' _ σ2 ⟨e0, e30, e31, e32⟩ J2 ⟨hw, Nat.le_succ _⟩)
  refine wp_icmp_eq (tgt := 1057) dL_law_1052 (by decide) q2 q2 (fun _ => ?_) (fun c9 => absurd rfl c9)
  refine wp_iload dL_law_1057 rfl ?_
  refine wp_if_ne (tgt := 1074) dL_law_1059 (by decide) q2 (fun _ => ?_) (fun c9 => ?_)
  · exact wp_goto (tgt := 2029) dL_law_1074 (by decide) hfin
  · have hg : gA σ2 (A 31 0) 0 = nrm b := by rw [← e31, g31, e31]; exact q3 c9
    obtain ⟨oa, oi⟩ := LX_o J2.2.2.2
    rw [e31] at oa oi
    refine wp_aload_n dL_law_1062 rfl ?_
    refine wp_iconst dL_law_1063 ?_
    refine wp_laload dL_law_1064 oa oi ?_
    rw [hg]
    refine wp_iload dL_law_1065 rfl ?_
    refine wp_i2l dL_law_1067 (nrm_Q b) ?_
    refine wp_lcmp dL_law_1068 (nrm_Q b) (nrm_Q b) ?_
    rw [if_neg (by omega), if_pos rfl]
    refine wp_if_eq (tgt := 1074) dL_law_1069 (by decide) (by unfold qR; omega) (fun _ => ?_) (fun c8 => absurd rfl c8)
    exact wp_goto (tgt := 2029) dL_law_1074 (by decide) hfin
set_option maxRecDepth 100000 in
set_option maxHeartbeats 4000000 in
theorem lc_14 (hl : l.stackTraces = false) (hg : scG g sc L s) (hs : atA A sc x m out) (J : LK A L s D D σ) (hw : WF D) (hk : (kp D).length < 512) (hi : 0 ≤ i ∧ i + 6 ≤ L) (kn : ∀ A' D' σ', atA A' sc x m out → LK A' L s D' D' σ' → Nx D D' → qW g l (M_law nm hh) ca sa 2029 [some (vr sc), some (vr x), some (vr m), some (vr out), some (vi i), none, none] [] σ' Post) : qW g l (M_law nm hh) (ca + 2) (sa + 12) 1077 [some (vr sc), some (vr x), some (vr m), some (vr out), some (vi i), none, none] [] σ Post := by
  obtain ⟨rfl, rfl, rfl, rfl⟩ := hs
  obtain ⟨pa, pi, pv, pr⟩ := LX_f hg hi
  refine wp_aload_n dL_law_1077 rfl ?_
  refine wp_arg (k := 1) (v := s (i + 1)) dL_law_1078 dL_law_1079 dL_law_1081 dL_law_1082 dL_law_1083 rfl rfl pa (pi 1 (by decide) (by decide)) (pv 1 (by decide) (by decide)) ?_
  refine wp_arg (k := 2) (v := s (i + 2)) dL_law_1084 dL_law_1085 dL_law_1087 dL_law_1088 dL_law_1089 rfl rfl pa (pi 2 (by decide) (by decide)) (pv 2 (by decide) (by decide)) ?_
  refine wp_aload_n dL_law_1090 rfl ?_
  refine wp_callSX (M' := M_L_panelAt) (As := [vr (A 0 0), vi (s (i + 1)), vi (s (i + 2)), vr (A 31 0)]) (st := []) dL_law_1091 ceeX_L_panelAt np_L_panelAt rfl ⟨Nat.le_of_ble_eq_true rfl, Nat.le_of_ble_eq_true rfl, Nat.le_trans (m := 2) (Nat.le_of_ble_eq_true rfl) (Nat.le_add_left _ _), Nat.le_trans (m := 12) (Nat.le_of_ble_eq_true rfl) (Nat.le_add_left _ _)⟩ wd_1059 wd_1060 (q_small_of (Nat.le_of_ble_eq_true rfl)) (lw_L_panelAt hl J hw hk (pr 1 (by decide) (by decide)) (pr 2 (by decide) (by decide))) (q_kTi0 (fun σ1 k hM => ?_)) q_kTi00
  refine wp_less (ac2 := ca + 0) (as2 := sa + 0) (by show ca + 0 ≤ ca + 2 - 2; omega) (by show sa + 0 ≤ sa + 12 - 12; omega) ?_
  obtain ⟨A', J1, ⟨e0, e30, e31, e32⟩, hk1⟩ := hM
  refine wp_istore' (ls' := [some (vr (A 32 0)), some (vr (A 0 0)), some (vr (A 30 0)), some (vr (A 31 0)), some (vi i), some (vi k), none]) dL_law_1094 (Nat.le_of_ble_eq_true rfl) rfl ?_
  refine wp_aload_n dL_law_1096 rfl ?_
  refine wp_arg (k := 1) (v := s (i + 1)) dL_law_1097 dL_law_1098 dL_law_1100 dL_law_1101 dL_law_1102 rfl rfl pa (pi 1 (by decide) (by decide)) (pv 1 (by decide) (by decide)) ?_
  refine wp_arg (k := 2) (v := s (i + 2)) dL_law_1103 dL_law_1104 dL_law_1106 dL_law_1107 dL_law_1108 rfl rfl pa (pi 2 (by decide) (by decide)) (pv 2 (by decide) (by decide)) ?_
  have hm := spec_mpanelAt (g := g) hl J1.1 J1.2.2.1 hw.1 (pr 1 (by decide) (by decide)) (pr 2 (by decide) (by decide))
  rw [e30] at hm
  refine wp_callV (M' := M_X8_panelAt) (As := [vi (s (i + 1)), vi (s (i + 2))]) (st := []) (ci := 8) dL_law_1109 cee_X8_panelAt np_X8_panelAt rfl ⟨Nat.le_of_ble_eq_true rfl, Nat.le_of_ble_eq_true rfl, Nat.le_trans (m := 0) (Nat.le_of_ble_eq_true rfl) (Nat.le_add_left _ _), Nat.le_trans (m := 0) (Nat.le_of_ble_eq_true rfl) (Nat.le_add_left _ _)⟩ wd_1479 wd_1480 wd_1481 rfl (Or.inl (by rw [← e30]; exact J1.2.2.1.1.1.1)) (q_small_of (Nat.le_of_ble_eq_true rfl)) hm (q_kTi0 (fun σ2 b hM2 => ?_)) q_kTi00
  refine wp_less (ac2 := ca + 0) (as2 := sa + 0) (by show ca + 0 ≤ ca + 0 - 0; omega) (by show sa + 0 ≤ sa + 0 - 0; omega) ?_
  obtain ⟨m1, m2, m3⟩ := hM2
  obtain ⟨J2, g31⟩ := LK_mod J1 m1 m2
  refine wp_nrm ?_
  refine wp_istore' (ls' := [some (vr (A 32 0)), some (vr (A 0 0)), some (vr (A 30 0)), some (vr (A 31 0)), some (vi i), some (vi k), some (vi (nrm b))]) dL_law_1112 (Nat.le_of_ble_eq_true rfl) rfl ?_
  refine wp_aload_n dL_law_1114 rfl ?_
  have ht := spec_thrown (g := g) hl J2.2.2.1.1.1
  rw [e30] at ht
  obtain ⟨q1, q2, q3⟩ := lw_end cOk2 hk1 m3
  rw [e30] at q1
  rw [q1] at ht
  refine wp_callV (M' := M_X8_thrown) (As := []) (st := []) (ci := 8) dL_law_1115 cee_X8_thrown np_X8_thrown rfl ⟨Nat.le_of_ble_eq_true rfl, Nat.le_of_ble_eq_true rfl, Nat.le_trans (m := 0) (Nat.le_of_ble_eq_true rfl) (Nat.le_add_left _ _), Nat.le_trans (m := 0) (Nat.le_of_ble_eq_true rfl) (Nat.le_add_left _ _)⟩ wd_1328 wd_1329 wd_1330 rfl (Or.inl (by rw [← e30]; exact J2.2.2.1.1.1.1)) (q_small_of (Nat.le_of_ble_eq_true rfl)) ht (q_kPi ?_) q_kPi0
  refine wp_less (ac2 := ca) (as2 := sa) (by show ca ≤ ca + 0 - 0; omega) (by show sa ≤ sa + 0 - 0; omega) ?_
  refine wp_iload dL_law_1118 rfl ?_
  have hfin : qW g l (M_law nm hh) ca sa 2029 [some (vr (A 32 0)), some (vr (A 0 0)), some (vr (A 30 0)), some (vr (A 31 0)), some (vi i), some (vi k), some (vi (nrm b))] [] σ2 Post := wp_lsub (ls' := [some (vr (A 32 0)), some (vr (A 0 0)), some (vr (A 30 0)), some (vr (A 31 0)), some (vi i), none, none]) ⟨rfl, rfl, rfl, rfl, rfl, trivial⟩ (kn A' _ σ2 ⟨e0, e30, e31, e32⟩ J2 ⟨hw, Nat.le_succ _⟩)
  refine wp_icmp_eq (tgt := 1125) dL_law_1120 (by decide) q2 q2 (fun _ => ?_) (fun c9 => absurd rfl c9)
  refine wp_iload dL_law_1125 rfl ?_
  refine wp_if_ne (tgt := 1142) dL_law_1127 (by decide) q2 (fun _ => ?_) (fun c9 => ?_)
  · exact wp_goto (tgt := 2029) dL_law_1142 (by decide) hfin
  · have hg : gA σ2 (A 31 0) 0 = nrm b := by rw [← e31, g31, e31]; exact q3 c9
    obtain ⟨oa, oi⟩ := LX_o J2.2.2.2
    rw [e31] at oa oi
    refine wp_aload_n dL_law_1130 rfl ?_
    refine wp_iconst dL_law_1131 ?_
    refine wp_laload dL_law_1132 oa oi ?_
    rw [hg]
    refine wp_iload dL_law_1133 rfl ?_
    refine wp_i2l dL_law_1135 (nrm_Q b) ?_
    refine wp_lcmp dL_law_1136 (nrm_Q b) (nrm_Q b) ?_
    rw [if_neg (by omega), if_pos rfl]
    refine wp_if_eq (tgt := 1142) dL_law_1137 (by decide) (by unfold qR; omega) (fun _ => ?_) (fun c8 => absurd rfl c8)
    exact wp_goto (tgt := 2029) dL_law_1142 (by decide) hfin
set_option maxRecDepth 100000 in
set_option maxHeartbeats 4000000 in
theorem lc_15 (hl : l.stackTraces = false) (hg : scG g sc L s) (hs : atA A sc x m out) (J : LK A L s D D σ) (hw : WF D) (hk : (kp D).length < 512) (hi : 0 ≤ i ∧ i + 6 ≤ L) (kn : ∀ A' D' σ', atA A' sc x m out → LK A' L s D' D' σ' → Nx D D' → qW g l (M_law nm hh) ca sa 2029 [some (vr sc), some (vr x), some (vr m), some (vr out), some (vi i), none, none] [] σ' Post) : qW g l (M_law nm hh) (ca + 2) (sa + 12) 1145 [some (vr sc), some (vr x), some (vr m), some (vr out), some (vi i), none, none] [] σ Post := by
  obtain ⟨rfl, rfl, rfl, rfl⟩ := hs
  obtain ⟨pa, pi, pv, pr⟩ := LX_f hg hi
  refine wp_aload_n dL_law_1145 rfl ?_
  refine wp_arg (k := 1) (v := s (i + 1)) dL_law_1146 dL_law_1147 dL_law_1149 dL_law_1150 dL_law_1151 rfl rfl pa (pi 1 (by decide) (by decide)) (pv 1 (by decide) (by decide)) ?_
  refine wp_arg (k := 2) (v := s (i + 2)) dL_law_1152 dL_law_1153 dL_law_1155 dL_law_1156 dL_law_1157 rfl rfl pa (pi 2 (by decide) (by decide)) (pv 2 (by decide) (by decide)) ?_
  refine wp_aload_n dL_law_1158 rfl ?_
  refine wp_callSX (M' := M_L_lies) (As := [vr (A 0 0), vi (s (i + 1)), vi (s (i + 2)), vr (A 31 0)]) (st := []) dL_law_1159 ceeX_L_lies np_L_lies rfl ⟨Nat.le_of_ble_eq_true rfl, Nat.le_of_ble_eq_true rfl, Nat.le_trans (m := 2) (Nat.le_of_ble_eq_true rfl) (Nat.le_add_left _ _), Nat.le_trans (m := 12) (Nat.le_of_ble_eq_true rfl) (Nat.le_add_left _ _)⟩ wd_1066 wd_1067 (q_small_of (Nat.le_of_ble_eq_true rfl)) (lw_L_lies hl J hw hk (pr 1 (by decide) (by decide)) (pr 2 (by decide) (by decide))) (q_kTi0 (fun σ1 k hM => ?_)) q_kTi00
  refine wp_less (ac2 := ca + 0) (as2 := sa + 0) (by show ca + 0 ≤ ca + 2 - 2; omega) (by show sa + 0 ≤ sa + 12 - 12; omega) ?_
  obtain ⟨A', J1, ⟨e0, e30, e31, e32⟩, hk1⟩ := hM
  refine wp_istore' (ls' := [some (vr (A 32 0)), some (vr (A 0 0)), some (vr (A 30 0)), some (vr (A 31 0)), some (vi i), some (vi k), none]) dL_law_1162 (Nat.le_of_ble_eq_true rfl) rfl ?_
  refine wp_aload_n dL_law_1164 rfl ?_
  refine wp_arg (k := 1) (v := s (i + 1)) dL_law_1165 dL_law_1166 dL_law_1168 dL_law_1169 dL_law_1170 rfl rfl pa (pi 1 (by decide) (by decide)) (pv 1 (by decide) (by decide)) ?_
  refine wp_arg (k := 2) (v := s (i + 2)) dL_law_1171 dL_law_1172 dL_law_1174 dL_law_1175 dL_law_1176 rfl rfl pa (pi 2 (by decide) (by decide)) (pv 2 (by decide) (by decide)) ?_
  have hm := spec_mlies (g := g) hl J1.1 J1.2.2.1 hw.1 (pr 1 (by decide) (by decide)) (pr 2 (by decide) (by decide))
  rw [e30] at hm
  refine wp_callV (M' := M_X8_lies) (As := [vi (s (i + 1)), vi (s (i + 2))]) (st := []) (ci := 8) dL_law_1177 cee_X8_lies np_X8_lies rfl ⟨Nat.le_of_ble_eq_true rfl, Nat.le_of_ble_eq_true rfl, Nat.le_trans (m := 0) (Nat.le_of_ble_eq_true rfl) (Nat.le_add_left _ _), Nat.le_trans (m := 0) (Nat.le_of_ble_eq_true rfl) (Nat.le_add_left _ _)⟩ wd_1483 wd_1484 wd_1485 rfl (Or.inl (by rw [← e30]; exact J1.2.2.1.1.1.1)) (q_small_of (Nat.le_of_ble_eq_true rfl)) hm (q_kTi0 (fun σ2 b hM2 => ?_)) q_kTi00
  refine wp_less (ac2 := ca + 0) (as2 := sa + 0) (by show ca + 0 ≤ ca + 0 - 0; omega) (by show sa + 0 ≤ sa + 0 - 0; omega) ?_
  obtain ⟨m1, m2, m3⟩ := hM2
  obtain ⟨J2, g31⟩ := LK_mod J1 m1 m2
  refine wp_nrm ?_
  refine wp_istore' (ls' := [some (vr (A 32 0)), some (vr (A 0 0)), some (vr (A 30 0)), some (vr (A 31 0)), some (vi i), some (vi k), some (vi (nrm b))]) dL_law_1180 (Nat.le_of_ble_eq_true rfl) rfl ?_
  refine wp_aload_n dL_law_1182 rfl ?_
  have ht := spec_thrown (g := g) hl J2.2.2.1.1.1
  rw [e30] at ht
  obtain ⟨q1, q2, q3⟩ := lw_end cOk2 hk1 m3
  rw [e30] at q1
  rw [q1] at ht
  refine wp_callV (M' := M_X8_thrown) (As := []) (st := []) (ci := 8) dL_law_1183 cee_X8_thrown np_X8_thrown rfl ⟨Nat.le_of_ble_eq_true rfl, Nat.le_of_ble_eq_true rfl, Nat.le_trans (m := 0) (Nat.le_of_ble_eq_true rfl) (Nat.le_add_left _ _), Nat.le_trans (m := 0) (Nat.le_of_ble_eq_true rfl) (Nat.le_add_left _ _)⟩ wd_1328 wd_1329 wd_1330 rfl (Or.inl (by rw [← e30]; exact J2.2.2.1.1.1.1)) (q_small_of (Nat.le_of_ble_eq_true rfl)) ht (q_kPi ?_) q_kPi0
  refine wp_less (ac2 := ca) (as2 := sa) (by show ca ≤ ca + 0 - 0; omega) (by show sa ≤ sa + 0 - 0; omega) ?_
  refine wp_iload dL_law_1186 rfl ?_
  have hfin : qW g l (M_law nm hh) ca sa 2029 [some (vr (A 32 0)), some (vr (A 0 0)), some (vr (A 30 0)), some (vr (A 31 0)), some (vi i), some (vi k), some (vi (nrm b))] [] σ2 Post := wp_lsub (ls' := [some (vr (A 32 0)), some (vr (A 0 0)), some (vr (A 30 0)), some (vr (A 31 0)), some (vi i), none, none]) ⟨rfl, rfl, rfl, rfl, rfl, trivial⟩ (kn A' _ σ2 ⟨e0, e30, e31, e32⟩ J2 ⟨hw, Nat.le_succ _⟩)
  refine wp_icmp_eq (tgt := 1193) dL_law_1188 (by decide) q2 q2 (fun _ => ?_) (fun c9 => absurd rfl c9)
  refine wp_iload dL_law_1193 rfl ?_
  refine wp_if_ne (tgt := 1210) dL_law_1195 (by decide) q2 (fun _ => ?_) (fun c9 => ?_)
  · exact wp_goto (tgt := 2029) dL_law_1210 (by decide) hfin
  · have hg : gA σ2 (A 31 0) 0 = nrm b := by rw [← e31, g31, e31]; exact q3 c9
    obtain ⟨oa, oi⟩ := LX_o J2.2.2.2
    rw [e31] at oa oi
    refine wp_aload_n dL_law_1198 rfl ?_
    refine wp_iconst dL_law_1199 ?_
    refine wp_laload dL_law_1200 oa oi ?_
    rw [hg]
    refine wp_iload dL_law_1201 rfl ?_
    refine wp_i2l dL_law_1203 (nrm_Q b) ?_
    refine wp_lcmp dL_law_1204 (nrm_Q b) (nrm_Q b) ?_
    rw [if_neg (by omega), if_pos rfl]
    refine wp_if_eq (tgt := 1210) dL_law_1205 (by decide) (by unfold qR; omega) (fun _ => ?_) (fun c8 => absurd rfl c8)
    exact wp_goto (tgt := 2029) dL_law_1210 (by decide) hfin
set_option maxRecDepth 100000 in
set_option maxHeartbeats 4000000 in
theorem lc_16 (hl : l.stackTraces = false) (hg : scG g sc L s) (hs : atA A sc x m out) (J : LK A L s D D σ) (hw : WF D) (hk : (kp D).length < 512) (hi : 0 ≤ i ∧ i + 6 ≤ L) (kn : ∀ A' D' σ', atA A' sc x m out → LK A' L s D' D' σ' → Nx D D' → qW g l (M_law nm hh) ca sa 2029 [some (vr sc), some (vr x), some (vr m), some (vr out), some (vi i), none, none] [] σ' Post) : qW g l (M_law nm hh) (ca + 2) (sa + 12) 1213 [some (vr sc), some (vr x), some (vr m), some (vr out), some (vi i), none, none] [] σ Post := by
  obtain ⟨rfl, rfl, rfl, rfl⟩ := hs
  obtain ⟨pa, pi, pv, pr⟩ := LX_f hg hi
  refine wp_aload_n dL_law_1213 rfl ?_
  refine wp_arg (k := 1) (v := s (i + 1)) dL_law_1214 dL_law_1215 dL_law_1217 dL_law_1218 dL_law_1219 rfl rfl pa (pi 1 (by decide) (by decide)) (pv 1 (by decide) (by decide)) ?_
  refine wp_arg (k := 2) (v := s (i + 2)) dL_law_1220 dL_law_1221 dL_law_1223 dL_law_1224 dL_law_1225 rfl rfl pa (pi 2 (by decide) (by decide)) (pv 2 (by decide) (by decide)) ?_
  refine wp_aload_n dL_law_1226 rfl ?_
  refine wp_callSX (M' := M_L_floats) (As := [vr (A 0 0), vi (s (i + 1)), vi (s (i + 2)), vr (A 31 0)]) (st := []) dL_law_1227 ceeX_L_floats np_L_floats rfl ⟨Nat.le_of_ble_eq_true rfl, Nat.le_of_ble_eq_true rfl, Nat.le_trans (m := 2) (Nat.le_of_ble_eq_true rfl) (Nat.le_add_left _ _), Nat.le_trans (m := 12) (Nat.le_of_ble_eq_true rfl) (Nat.le_add_left _ _)⟩ wd_1077 wd_1078 (q_small_of (Nat.le_of_ble_eq_true rfl)) (lw_L_floats hl J hw hk (pr 1 (by decide) (by decide)) (pr 2 (by decide) (by decide))) (q_kTi0 (fun σ1 k hM => ?_)) q_kTi00
  refine wp_less (ac2 := ca + 0) (as2 := sa + 0) (by show ca + 0 ≤ ca + 2 - 2; omega) (by show sa + 0 ≤ sa + 12 - 12; omega) ?_
  obtain ⟨A', J1, ⟨e0, e30, e31, e32⟩, hk1⟩ := hM
  refine wp_istore' (ls' := [some (vr (A 32 0)), some (vr (A 0 0)), some (vr (A 30 0)), some (vr (A 31 0)), some (vi i), some (vi k), none]) dL_law_1230 (Nat.le_of_ble_eq_true rfl) rfl ?_
  refine wp_aload_n dL_law_1232 rfl ?_
  refine wp_arg (k := 1) (v := s (i + 1)) dL_law_1233 dL_law_1234 dL_law_1236 dL_law_1237 dL_law_1238 rfl rfl pa (pi 1 (by decide) (by decide)) (pv 1 (by decide) (by decide)) ?_
  refine wp_arg (k := 2) (v := s (i + 2)) dL_law_1239 dL_law_1240 dL_law_1242 dL_law_1243 dL_law_1244 rfl rfl pa (pi 2 (by decide) (by decide)) (pv 2 (by decide) (by decide)) ?_
  have hm := spec_mfloats (g := g) hl J1.1 J1.2.2.1 hw.1 (pr 1 (by decide) (by decide)) (pr 2 (by decide) (by decide))
  rw [e30] at hm
  refine wp_callV (M' := M_X8_floats) (As := [vi (s (i + 1)), vi (s (i + 2))]) (st := []) (ci := 8) dL_law_1245 cee_X8_floats np_X8_floats rfl ⟨Nat.le_of_ble_eq_true rfl, Nat.le_of_ble_eq_true rfl, Nat.le_trans (m := 0) (Nat.le_of_ble_eq_true rfl) (Nat.le_add_left _ _), Nat.le_trans (m := 0) (Nat.le_of_ble_eq_true rfl) (Nat.le_add_left _ _)⟩ wd_1487 wd_1488 wd_1489 rfl (Or.inl (by rw [← e30]; exact J1.2.2.1.1.1.1)) (q_small_of (Nat.le_of_ble_eq_true rfl)) hm (q_kTi0 (fun σ2 b hM2 => ?_)) q_kTi00
  refine wp_less (ac2 := ca + 0) (as2 := sa + 0) (by show ca + 0 ≤ ca + 0 - 0; omega) (by show sa + 0 ≤ sa + 0 - 0; omega) ?_
  obtain ⟨m1, m2, m3⟩ := hM2
  obtain ⟨J2, g31⟩ := LK_mod J1 m1 m2
  refine wp_nrm ?_
  refine wp_istore' (ls' := [some (vr (A 32 0)), some (vr (A 0 0)), some (vr (A 30 0)), some (vr (A 31 0)), some (vi i), some (vi k), some (vi (nrm b))]) dL_law_1248 (Nat.le_of_ble_eq_true rfl) rfl ?_
  refine wp_aload_n dL_law_1250 rfl ?_
  have ht := spec_thrown (g := g) hl J2.2.2.1.1.1
  rw [e30] at ht
  obtain ⟨q1, q2, q3⟩ := lw_end cOk2 hk1 m3
  rw [e30] at q1
  rw [q1] at ht
  refine wp_callV (M' := M_X8_thrown) (As := []) (st := []) (ci := 8) dL_law_1251 cee_X8_thrown np_X8_thrown rfl ⟨Nat.le_of_ble_eq_true rfl, Nat.le_of_ble_eq_true rfl, Nat.le_trans (m := 0) (Nat.le_of_ble_eq_true rfl) (Nat.le_add_left _ _), Nat.le_trans (m := 0) (Nat.le_of_ble_eq_true rfl) (Nat.le_add_left _ _)⟩ wd_1328 wd_1329 wd_1330 rfl (Or.inl (by rw [← e30]; exact J2.2.2.1.1.1.1)) (q_small_of (Nat.le_of_ble_eq_true rfl)) ht (q_kPi ?_) q_kPi0
  refine wp_less (ac2 := ca) (as2 := sa) (by show ca ≤ ca + 0 - 0; omega) (by show sa ≤ sa + 0 - 0; omega) ?_
  refine wp_iload dL_law_1254 rfl ?_
  have hfin : qW g l (M_law nm hh) ca sa 2029 [some (vr (A 32 0)), some (vr (A 0 0)), some (vr (A 30 0)), some (vr (A 31 0)), some (vi i), some (vi k), some (vi (nrm b))] [] σ2 Post := wp_lsub (ls' := [some (vr (A 32 0)), some (vr (A 0 0)), some (vr (A 30 0)), some (vr (A 31 0)), some (vi i), none, none]) ⟨rfl, rfl, rfl, rfl, rfl, trivial⟩ (kn A' _ σ2 ⟨e0, e30, e31, e32⟩ J2 ⟨hw, Nat.le_succ _⟩)
  refine wp_icmp_eq (tgt := 1261) dL_law_1256 (by decide) q2 q2 (fun _ => ?_) (fun c9 => absurd rfl c9)
  refine wp_iload dL_law_1261 rfl ?_
  refine wp_if_ne (tgt := 1278) dL_law_1263 (by decide) q2 (fun _ => ?_) (fun c9 => ?_)
  · exact wp_goto (tgt := 2029) dL_law_1278 (by decide) hfin
  · have hg : gA σ2 (A 31 0) 0 = nrm b := by rw [← e31, g31, e31]; exact q3 c9
    obtain ⟨oa, oi⟩ := LX_o J2.2.2.2
    rw [e31] at oa oi
    refine wp_aload_n dL_law_1266 rfl ?_
    refine wp_iconst dL_law_1267 ?_
    refine wp_laload dL_law_1268 oa oi ?_
    rw [hg]
    refine wp_iload dL_law_1269 rfl ?_
    refine wp_i2l dL_law_1271 (nrm_Q b) ?_
    refine wp_lcmp dL_law_1272 (nrm_Q b) (nrm_Q b) ?_
    rw [if_neg (by omega), if_pos rfl]
    refine wp_if_eq (tgt := 1278) dL_law_1273 (by decide) (by unfold qR; omega) (fun _ => ?_) (fun c8 => absurd rfl c8)
    exact wp_goto (tgt := 2029) dL_law_1278 (by decide) hfin
set_option maxRecDepth 100000 in
set_option maxHeartbeats 4000000 in
theorem lc_17 (hl : l.stackTraces = false) (hg : scG g sc L s) (hs : atA A sc x m out) (J : LK A L s D D σ) (hw : WF D) (hk : (kp D).length < 512) (hi : 0 ≤ i ∧ i + 6 ≤ L) (kn : ∀ A' D' σ', atA A' sc x m out → LK A' L s D' D' σ' → Nx D D' → qW g l (M_law nm hh) ca sa 2029 [some (vr sc), some (vr x), some (vr m), some (vr out), some (vi i), none, none] [] σ' Post) : qW g l (M_law nm hh) (ca + 3) (sa + 18) 1281 [some (vr sc), some (vr x), some (vr m), some (vr out), some (vi i), none, none] [] σ Post := by
  obtain ⟨rfl, rfl, rfl, rfl⟩ := hs
  obtain ⟨pa, pi, pv, pr⟩ := LX_f hg hi
  refine wp_aload_n dL_law_1281 rfl ?_
  refine wp_arg (k := 1) (v := s (i + 1)) dL_law_1282 dL_law_1283 dL_law_1285 dL_law_1286 dL_law_1287 rfl rfl pa (pi 1 (by decide) (by decide)) (pv 1 (by decide) (by decide)) ?_
  refine wp_arg (k := 2) (v := s (i + 2)) dL_law_1288 dL_law_1289 dL_law_1291 dL_law_1292 dL_law_1293 rfl rfl pa (pi 2 (by decide) (by decide)) (pv 2 (by decide) (by decide)) ?_
  refine wp_arg (k := 3) (v := s (i + 3)) dL_law_1294 dL_law_1295 dL_law_1297 dL_law_1298 dL_law_1299 rfl rfl pa (pi 3 (by decide) (by decide)) (pv 3 (by decide) (by decide)) ?_
  refine wp_aload_n dL_law_1300 rfl ?_
  refine wp_callSX (M' := M_L_cell) (As := [vr (A 0 0), vi (s (i + 1)), vi (s (i + 2)), vi (s (i + 3)), vr (A 31 0)]) (st := []) dL_law_1301 ceeX_L_cell np_L_cell rfl ⟨Nat.le_of_ble_eq_true rfl, Nat.le_of_ble_eq_true rfl, Nat.le_trans (m := 3) (Nat.le_of_ble_eq_true rfl) (Nat.le_add_left _ _), Nat.le_trans (m := 18) (Nat.le_of_ble_eq_true rfl) (Nat.le_add_left _ _)⟩ wd_1084 wd_1085 (q_small_of (Nat.le_of_ble_eq_true rfl)) (lw_L_cell hl J hw hk (pr 1 (by decide) (by decide)) (pr 2 (by decide) (by decide)) (pr 3 (by decide) (by decide))) (q_kTi0 (fun σ1 k hM => ?_)) q_kTi00
  refine wp_less (ac2 := ca + 0) (as2 := sa + 0) (by show ca + 0 ≤ ca + 3 - 3; omega) (by show sa + 0 ≤ sa + 18 - 18; omega) ?_
  obtain ⟨A', J1, ⟨e0, e30, e31, e32⟩, hk1⟩ := hM
  refine wp_istore' (ls' := [some (vr (A 32 0)), some (vr (A 0 0)), some (vr (A 30 0)), some (vr (A 31 0)), some (vi i), some (vi k), none]) dL_law_1304 (Nat.le_of_ble_eq_true rfl) rfl ?_
  refine wp_aload_n dL_law_1306 rfl ?_
  refine wp_arg (k := 1) (v := s (i + 1)) dL_law_1307 dL_law_1308 dL_law_1310 dL_law_1311 dL_law_1312 rfl rfl pa (pi 1 (by decide) (by decide)) (pv 1 (by decide) (by decide)) ?_
  refine wp_arg (k := 2) (v := s (i + 2)) dL_law_1313 dL_law_1314 dL_law_1316 dL_law_1317 dL_law_1318 rfl rfl pa (pi 2 (by decide) (by decide)) (pv 2 (by decide) (by decide)) ?_
  refine wp_arg (k := 3) (v := s (i + 3)) dL_law_1319 dL_law_1320 dL_law_1322 dL_law_1323 dL_law_1324 rfl rfl pa (pi 3 (by decide) (by decide)) (pv 3 (by decide) (by decide)) ?_
  have hm := spec_mcell (g := g) hl J1.1 J1.2.2.1 hw (pr 1 (by decide) (by decide)) (pr 2 (by decide) (by decide)) (pr 3 (by decide) (by decide))
  rw [e30] at hm
  refine wp_callV (M' := M_X8_cell) (As := [vi (s (i + 1)), vi (s (i + 2)), vi (s (i + 3))]) (st := []) (ci := 8) dL_law_1325 cee_X8_cell np_X8_cell rfl ⟨Nat.le_of_ble_eq_true rfl, Nat.le_of_ble_eq_true rfl, Nat.le_trans (m := 0) (Nat.le_of_ble_eq_true rfl) (Nat.le_add_left _ _), Nat.le_trans (m := 0) (Nat.le_of_ble_eq_true rfl) (Nat.le_add_left _ _)⟩ wd_1491 wd_1492 wd_1493 rfl (Or.inl (by rw [← e30]; exact J1.2.2.1.1.1.1)) (q_small_of (Nat.le_of_ble_eq_true rfl)) hm (q_kTi0 (fun σ2 b hM2 => ?_)) q_kTi00
  refine wp_less (ac2 := ca + 0) (as2 := sa + 0) (by show ca + 0 ≤ ca + 0 - 0; omega) (by show sa + 0 ≤ sa + 0 - 0; omega) ?_
  obtain ⟨m1, m2, m3⟩ := hM2
  obtain ⟨J2, g31⟩ := LK_mod J1 m1 m2
  refine wp_nrm ?_
  refine wp_istore' (ls' := [some (vr (A 32 0)), some (vr (A 0 0)), some (vr (A 30 0)), some (vr (A 31 0)), some (vi i), some (vi k), some (vi (nrm b))]) dL_law_1328 (Nat.le_of_ble_eq_true rfl) rfl ?_
  refine wp_aload_n dL_law_1330 rfl ?_
  have ht := spec_thrown (g := g) hl J2.2.2.1.1.1
  rw [e30] at ht
  obtain ⟨q1, q2, q3⟩ := lw_end cOk2 hk1 m3
  rw [e30] at q1
  rw [q1] at ht
  refine wp_callV (M' := M_X8_thrown) (As := []) (st := []) (ci := 8) dL_law_1331 cee_X8_thrown np_X8_thrown rfl ⟨Nat.le_of_ble_eq_true rfl, Nat.le_of_ble_eq_true rfl, Nat.le_trans (m := 0) (Nat.le_of_ble_eq_true rfl) (Nat.le_add_left _ _), Nat.le_trans (m := 0) (Nat.le_of_ble_eq_true rfl) (Nat.le_add_left _ _)⟩ wd_1328 wd_1329 wd_1330 rfl (Or.inl (by rw [← e30]; exact J2.2.2.1.1.1.1)) (q_small_of (Nat.le_of_ble_eq_true rfl)) ht (q_kPi ?_) q_kPi0
  refine wp_less (ac2 := ca) (as2 := sa) (by show ca ≤ ca + 0 - 0; omega) (by show sa ≤ sa + 0 - 0; omega) ?_
  refine wp_iload dL_law_1334 rfl ?_
  have hfin : qW g l (M_law nm hh) ca sa 2029 [some (vr (A 32 0)), some (vr (A 0 0)), some (vr (A 30 0)), some (vr (A 31 0)), some (vi i), some (vi k), some (vi (nrm b))] [] σ2 Post := wp_lsub (ls' := [some (vr (A 32 0)), some (vr (A 0 0)), some (vr (A 30 0)), some (vr (A 31 0)), some (vi i), none, none]) ⟨rfl, rfl, rfl, rfl, rfl, trivial⟩ (kn A' _ σ2 ⟨e0, e30, e31, e32⟩ J2 ⟨hw, Nat.le_succ _⟩)
  refine wp_icmp_eq (tgt := 1341) dL_law_1336 (by decide) q2 q2 (fun _ => ?_) (fun c9 => absurd rfl c9)
  refine wp_iload dL_law_1341 rfl ?_
  refine wp_if_ne (tgt := 1358) dL_law_1343 (by decide) q2 (fun _ => ?_) (fun c9 => ?_)
  · exact wp_goto (tgt := 2029) dL_law_1358 (by decide) hfin
  · have hg : gA σ2 (A 31 0) 0 = nrm b := by rw [← e31, g31, e31]; exact q3 c9
    obtain ⟨oa, oi⟩ := LX_o J2.2.2.2
    rw [e31] at oa oi
    refine wp_aload_n dL_law_1346 rfl ?_
    refine wp_iconst dL_law_1347 ?_
    refine wp_laload dL_law_1348 oa oi ?_
    rw [hg]
    refine wp_iload dL_law_1349 rfl ?_
    refine wp_i2l dL_law_1351 (nrm_Q b) ?_
    refine wp_lcmp dL_law_1352 (nrm_Q b) (nrm_Q b) ?_
    rw [if_neg (by omega), if_pos rfl]
    refine wp_if_eq (tgt := 1358) dL_law_1353 (by decide) (by unfold qR; omega) (fun _ => ?_) (fun c8 => absurd rfl c8)
    exact wp_goto (tgt := 2029) dL_law_1358 (by decide) hfin
set_option maxRecDepth 100000 in
set_option maxHeartbeats 4000000 in
theorem lc_18 (hl : l.stackTraces = false) (hg : scG g sc L s) (hs : atA A sc x m out) (J : LK A L s D D σ) (hw : WF D) (hk : (kp D).length < 512) (hi : 0 ≤ i ∧ i + 6 ≤ L) (kn : ∀ A' D' σ', atA A' sc x m out → LK A' L s D' D' σ' → Nx D D' → qW g l (M_law nm hh) ca sa 2029 [some (vr sc), some (vr x), some (vr m), some (vr out), some (vi i), none, none] [] σ' Post) : qW g l (M_law nm hh) (ca + 0) (sa + 0) 1361 [some (vr sc), some (vr x), some (vr m), some (vr out), some (vi i), none, none] [] σ Post := by
  obtain ⟨rfl, rfl, rfl, rfl⟩ := hs
  obtain ⟨pa, pi, pv, pr⟩ := LX_f hg hi
  refine wp_aload_n dL_law_1361 rfl ?_
  refine wp_callV (M' := M_X7_balloons) (As := []) (st := []) (ci := 7) dL_law_1362 cee_X7_balloons np_X7_balloons rfl ⟨Nat.le_of_ble_eq_true rfl, Nat.le_of_ble_eq_true rfl, Nat.le_trans (m := 0) (Nat.le_of_ble_eq_true rfl) (Nat.le_add_left _ _), Nat.le_trans (m := 0) (Nat.le_of_ble_eq_true rfl) (Nat.le_add_left _ _)⟩ wd_125 wd_126 wd_127 rfl (Or.inl J.2.1.1.1) (q_small_of (Nat.le_of_ble_eq_true rfl)) (spec_balloons hl J.2.1 hw.1) (fun σ1 v hM => ?_) (fun σ1 n hM => lw_pn σ1 n (qQo_P J hM))
  obtain ⟨rfl, A', J1, e0, e30, e31, e32⟩ := lw_pl J σ1 v (qQo_P J hM)
  refine wp_less (ac2 := ca + 0) (as2 := sa + 0) (by show ca + 0 ≤ ca + 0 - 0; omega) (by show sa + 0 ≤ sa + 0 - 0; omega) ?_
  show qW g l (M_law nm hh) (ca + 0) (sa + 0) 1365 [some (vr (A 32 0)), some (vr (A 0 0)), some (vr (A 30 0)), some (vr (A 31 0)), some (vi i), none, none] [vi ((o_balloons D))] σ1 Post
  refine wp_nrm ?_
  refine wp_aload_n dL_law_1365 rfl ?_
  have hm := spec_mballoons (g := g) (c := c2) hl J1.1 J1.2.2.1 hw.1
  rw [e30] at hm
  refine wp_callV (M' := M_X8_balloons) (As := []) (st := [vi (nrm ((o_balloons D)))]) (ci := 8) dL_law_1366 cee_X8_balloons np_X8_balloons rfl ⟨Nat.le_of_ble_eq_true rfl, Nat.le_of_ble_eq_true rfl, Nat.le_trans (m := 0) (Nat.le_of_ble_eq_true rfl) (Nat.le_add_left _ _), Nat.le_trans (m := 0) (Nat.le_of_ble_eq_true rfl) (Nat.le_add_left _ _)⟩ wd_1495 wd_1496 wd_1497 rfl (Or.inl (by rw [← e30]; exact J1.2.2.1.1.1.1)) (q_small_of (Nat.le_of_ble_eq_true rfl)) hm (q_kTi0 (fun σ2 b hM2 => ?_)) q_kTi00
  refine wp_less (ac2 := ca) (as2 := sa) (by show ca ≤ ca + 0 - 0; omega) (by show sa ≤ sa + 0 - 0; omega) ?_
  obtain ⟨m1, m2, m3, m4⟩ := hM2
  obtain ⟨J2, g31⟩ := LK_mod J1 m1 m2
  rw [m3]
  refine wp_nrm ?_
  have hfin : qW g l (M_law nm hh) ca sa 2029 [some (vr (A 32 0)), some (vr (A 0 0)), some (vr (A 30 0)), some (vr (A 31 0)), some (vi i), none, none] [] σ2 Post := kn A' _ σ2 ⟨e0, e30, e31, e32⟩ J2 ⟨hw, Nat.le_succ _⟩
  refine wp_icmp_eq (tgt := 2029) dL_law_1369 (by decide) (nrm_Q _) (nrm_Q _) (fun _ => ?_) (fun c9 => absurd rfl c9)
  exact hfin
set_option maxRecDepth 100000 in
set_option maxHeartbeats 4000000 in
theorem lc_19 (hl : l.stackTraces = false) (hg : scG g sc L s) (hs : atA A sc x m out) (J : LK A L s D D σ) (hw : WF D) (hk : (kp D).length < 512) (hi : 0 ≤ i ∧ i + 6 ≤ L) (kn : ∀ A' D' σ', atA A' sc x m out → LK A' L s D' D' σ' → Nx D D' → qW g l (M_law nm hh) ca sa 2029 [some (vr sc), some (vr x), some (vr m), some (vr out), some (vi i), none, none] [] σ' Post) : qW g l (M_law nm hh) (ca + 1) (sa + 6) 1374 [some (vr sc), some (vr x), some (vr m), some (vr out), some (vi i), none, none] [] σ Post := by
  obtain ⟨rfl, rfl, rfl, rfl⟩ := hs
  obtain ⟨pa, pi, pv, pr⟩ := LX_f hg hi
  refine wp_aload_n dL_law_1374 rfl ?_
  refine wp_arg (k := 1) (v := s (i + 1)) dL_law_1375 dL_law_1376 dL_law_1378 dL_law_1379 dL_law_1380 rfl rfl pa (pi 1 (by decide) (by decide)) (pv 1 (by decide) (by decide)) ?_
  refine wp_aload_n dL_law_1381 rfl ?_
  refine wp_callSX (M' := M_L_read) (As := [vr (A 0 0), vi (s (i + 1)), vr (A 31 0)]) (st := []) dL_law_1382 ceeX_L_read np_L_read rfl ⟨Nat.le_of_ble_eq_true rfl, Nat.le_of_ble_eq_true rfl, Nat.le_trans (m := 1) (Nat.le_of_ble_eq_true rfl) (Nat.le_add_left _ _), Nat.le_trans (m := 6) (Nat.le_of_ble_eq_true rfl) (Nat.le_add_left _ _)⟩ wd_1100 wd_1101 (q_small_of (Nat.le_of_ble_eq_true rfl)) (lw_L_read hl J hw hk (pr 1 (by decide) (by decide))) (q_kTi0 (fun σ1 k hM => ?_)) q_kTi00
  refine wp_less (ac2 := ca + 0) (as2 := sa + 0) (by show ca + 0 ≤ ca + 1 - 1; omega) (by show sa + 0 ≤ sa + 6 - 6; omega) ?_
  obtain ⟨A', J1, ⟨e0, e30, e31, e32⟩, hk1⟩ := hM
  refine wp_istore' (ls' := [some (vr (A 32 0)), some (vr (A 0 0)), some (vr (A 30 0)), some (vr (A 31 0)), some (vi i), some (vi k), none]) dL_law_1385 (Nat.le_of_ble_eq_true rfl) rfl ?_
  refine wp_aload_n dL_law_1387 rfl ?_
  refine wp_arg (k := 1) (v := s (i + 1)) dL_law_1388 dL_law_1389 dL_law_1391 dL_law_1392 dL_law_1393 rfl rfl pa (pi 1 (by decide) (by decide)) (pv 1 (by decide) (by decide)) ?_
  have hm := spec_mread (g := g) hl J1.1 J1.2.2.1 hw.1 (pr 1 (by decide) (by decide))
  rw [e30] at hm
  refine wp_callV (M' := M_X8_read) (As := [vi (s (i + 1))]) (st := []) (ci := 8) dL_law_1394 cee_X8_read np_X8_read rfl ⟨Nat.le_of_ble_eq_true rfl, Nat.le_of_ble_eq_true rfl, Nat.le_trans (m := 0) (Nat.le_of_ble_eq_true rfl) (Nat.le_add_left _ _), Nat.le_trans (m := 0) (Nat.le_of_ble_eq_true rfl) (Nat.le_add_left _ _)⟩ wd_1499 wd_1500 wd_1501 rfl (Or.inl (by rw [← e30]; exact J1.2.2.1.1.1.1)) (q_small_of (Nat.le_of_ble_eq_true rfl)) hm (q_kTi0 (fun σ2 b hM2 => ?_)) q_kTi00
  refine wp_less (ac2 := ca + 0) (as2 := sa + 0) (by show ca + 0 ≤ ca + 0 - 0; omega) (by show sa + 0 ≤ sa + 0 - 0; omega) ?_
  obtain ⟨m1, m2, m3⟩ := hM2
  obtain ⟨J2, g31⟩ := LK_mod J1 m1 m2
  refine wp_nrm ?_
  refine wp_istore' (ls' := [some (vr (A 32 0)), some (vr (A 0 0)), some (vr (A 30 0)), some (vr (A 31 0)), some (vi i), some (vi k), some (vi (nrm b))]) dL_law_1397 (Nat.le_of_ble_eq_true rfl) rfl ?_
  refine wp_aload_n dL_law_1399 rfl ?_
  have ht := spec_thrown (g := g) hl J2.2.2.1.1.1
  rw [e30] at ht
  obtain ⟨q1, q2, q3⟩ := lw_end cOk2 hk1 m3
  rw [e30] at q1
  rw [q1] at ht
  refine wp_callV (M' := M_X8_thrown) (As := []) (st := []) (ci := 8) dL_law_1400 cee_X8_thrown np_X8_thrown rfl ⟨Nat.le_of_ble_eq_true rfl, Nat.le_of_ble_eq_true rfl, Nat.le_trans (m := 0) (Nat.le_of_ble_eq_true rfl) (Nat.le_add_left _ _), Nat.le_trans (m := 0) (Nat.le_of_ble_eq_true rfl) (Nat.le_add_left _ _)⟩ wd_1328 wd_1329 wd_1330 rfl (Or.inl (by rw [← e30]; exact J2.2.2.1.1.1.1)) (q_small_of (Nat.le_of_ble_eq_true rfl)) ht (q_kPi ?_) q_kPi0
  refine wp_less (ac2 := ca) (as2 := sa) (by show ca ≤ ca + 0 - 0; omega) (by show sa ≤ sa + 0 - 0; omega) ?_
  refine wp_iload dL_law_1403 rfl ?_
  have hfin : qW g l (M_law nm hh) ca sa 2029 [some (vr (A 32 0)), some (vr (A 0 0)), some (vr (A 30 0)), some (vr (A 31 0)), some (vi i), some (vi k), some (vi (nrm b))] [] σ2 Post := wp_lsub (ls' := [some (vr (A 32 0)), some (vr (A 0 0)), some (vr (A 30 0)), some (vr (A 31 0)), some (vi i), none, none]) ⟨rfl, rfl, rfl, rfl, rfl, trivial⟩ (kn A' _ σ2 ⟨e0, e30, e31, e32⟩ J2 ⟨hw, Nat.le_succ _⟩)
  refine wp_icmp_eq (tgt := 1410) dL_law_1405 (by decide) q2 q2 (fun _ => ?_) (fun c9 => absurd rfl c9)
  refine wp_iload dL_law_1410 rfl ?_
  refine wp_if_ne (tgt := 1427) dL_law_1412 (by decide) q2 (fun _ => ?_) (fun c9 => ?_)
  · exact wp_goto (tgt := 2029) dL_law_1427 (by decide) hfin
  · have hg : gA σ2 (A 31 0) 0 = nrm b := by rw [← e31, g31, e31]; exact q3 c9
    obtain ⟨oa, oi⟩ := LX_o J2.2.2.2
    rw [e31] at oa oi
    refine wp_aload_n dL_law_1415 rfl ?_
    refine wp_iconst dL_law_1416 ?_
    refine wp_laload dL_law_1417 oa oi ?_
    rw [hg]
    refine wp_iload dL_law_1418 rfl ?_
    refine wp_i2l dL_law_1420 (nrm_Q b) ?_
    refine wp_lcmp dL_law_1421 (nrm_Q b) (nrm_Q b) ?_
    rw [if_neg (by omega), if_pos rfl]
    refine wp_if_eq (tgt := 1427) dL_law_1422 (by decide) (by unfold qR; omega) (fun _ => ?_) (fun c8 => absurd rfl c8)
    exact wp_goto (tgt := 2029) dL_law_1427 (by decide) hfin
set_option maxRecDepth 100000 in
set_option maxHeartbeats 4000000 in
theorem lc_20 (hl : l.stackTraces = false) (hg : scG g sc L s) (hs : atA A sc x m out) (J : LK A L s D D σ) (hw : WF D) (hk : (kp D).length < 512) (hi : 0 ≤ i ∧ i + 6 ≤ L) (kn : ∀ A' D' σ', atA A' sc x m out → LK A' L s D' D' σ' → Nx D D' → qW g l (M_law nm hh) ca sa 2029 [some (vr sc), some (vr x), some (vr m), some (vr out), some (vi i), none, none] [] σ' Post) : qW g l (M_law nm hh) (ca + 1) (sa + 6) 1430 [some (vr sc), some (vr x), some (vr m), some (vr out), some (vi i), none, none] [] σ Post := by
  obtain ⟨rfl, rfl, rfl, rfl⟩ := hs
  obtain ⟨pa, pi, pv, pr⟩ := LX_f hg hi
  refine wp_aload_n dL_law_1430 rfl ?_
  refine wp_arg (k := 1) (v := s (i + 1)) dL_law_1431 dL_law_1432 dL_law_1434 dL_law_1435 dL_law_1436 rfl rfl pa (pi 1 (by decide) (by decide)) (pv 1 (by decide) (by decide)) ?_
  refine wp_aload_n dL_law_1437 rfl ?_
  refine wp_callSX (M' := M_L_placeOf) (As := [vr (A 0 0), vi (s (i + 1)), vr (A 31 0)]) (st := []) dL_law_1438 ceeX_L_placeOf np_L_placeOf rfl ⟨Nat.le_of_ble_eq_true rfl, Nat.le_of_ble_eq_true rfl, Nat.le_trans (m := 1) (Nat.le_of_ble_eq_true rfl) (Nat.le_add_left _ _), Nat.le_trans (m := 6) (Nat.le_of_ble_eq_true rfl) (Nat.le_add_left _ _)⟩ wd_1111 wd_1112 (q_small_of (Nat.le_of_ble_eq_true rfl)) (lw_L_placeOf hl J hw hk (pr 1 (by decide) (by decide))) (q_kTi0 (fun σ1 k hM => ?_)) q_kTi00
  refine wp_less (ac2 := ca + 0) (as2 := sa + 0) (by show ca + 0 ≤ ca + 1 - 1; omega) (by show sa + 0 ≤ sa + 6 - 6; omega) ?_
  obtain ⟨A', J1, ⟨e0, e30, e31, e32⟩, hk1⟩ := hM
  refine wp_istore' (ls' := [some (vr (A 32 0)), some (vr (A 0 0)), some (vr (A 30 0)), some (vr (A 31 0)), some (vi i), some (vi k), none]) dL_law_1441 (Nat.le_of_ble_eq_true rfl) rfl ?_
  refine wp_aload_n dL_law_1443 rfl ?_
  refine wp_arg (k := 1) (v := s (i + 1)) dL_law_1444 dL_law_1445 dL_law_1447 dL_law_1448 dL_law_1449 rfl rfl pa (pi 1 (by decide) (by decide)) (pv 1 (by decide) (by decide)) ?_
  have hm := spec_mplaceOf (g := g) hl J1.1 J1.2.2.1 hw.1 (pr 1 (by decide) (by decide))
  rw [e30] at hm
  refine wp_callV (M' := M_X8_placeOf) (As := [vi (s (i + 1))]) (st := []) (ci := 8) dL_law_1450 cee_X8_placeOf np_X8_placeOf rfl ⟨Nat.le_of_ble_eq_true rfl, Nat.le_of_ble_eq_true rfl, Nat.le_trans (m := 0) (Nat.le_of_ble_eq_true rfl) (Nat.le_add_left _ _), Nat.le_trans (m := 0) (Nat.le_of_ble_eq_true rfl) (Nat.le_add_left _ _)⟩ wd_1507 wd_1508 wd_1509 rfl (Or.inl (by rw [← e30]; exact J1.2.2.1.1.1.1)) (q_small_of (Nat.le_of_ble_eq_true rfl)) hm (q_kTi0 (fun σ2 b hM2 => ?_)) q_kTi00
  refine wp_less (ac2 := ca + 0) (as2 := sa + 0) (by show ca + 0 ≤ ca + 0 - 0; omega) (by show sa + 0 ≤ sa + 0 - 0; omega) ?_
  obtain ⟨m1, m2, m3⟩ := hM2
  obtain ⟨J2, g31⟩ := LK_mod J1 m1 m2
  refine wp_nrm ?_
  refine wp_istore' (ls' := [some (vr (A 32 0)), some (vr (A 0 0)), some (vr (A 30 0)), some (vr (A 31 0)), some (vi i), some (vi k), some (vi (nrm b))]) dL_law_1453 (Nat.le_of_ble_eq_true rfl) rfl ?_
  refine wp_aload_n dL_law_1455 rfl ?_
  have ht := spec_thrown (g := g) hl J2.2.2.1.1.1
  rw [e30] at ht
  obtain ⟨q1, q2, q3⟩ := lw_end cOk2 hk1 m3
  rw [e30] at q1
  rw [q1] at ht
  refine wp_callV (M' := M_X8_thrown) (As := []) (st := []) (ci := 8) dL_law_1456 cee_X8_thrown np_X8_thrown rfl ⟨Nat.le_of_ble_eq_true rfl, Nat.le_of_ble_eq_true rfl, Nat.le_trans (m := 0) (Nat.le_of_ble_eq_true rfl) (Nat.le_add_left _ _), Nat.le_trans (m := 0) (Nat.le_of_ble_eq_true rfl) (Nat.le_add_left _ _)⟩ wd_1328 wd_1329 wd_1330 rfl (Or.inl (by rw [← e30]; exact J2.2.2.1.1.1.1)) (q_small_of (Nat.le_of_ble_eq_true rfl)) ht (q_kPi ?_) q_kPi0
  refine wp_less (ac2 := ca) (as2 := sa) (by show ca ≤ ca + 0 - 0; omega) (by show sa ≤ sa + 0 - 0; omega) ?_
  refine wp_iload dL_law_1459 rfl ?_
  have hfin : qW g l (M_law nm hh) ca sa 2029 [some (vr (A 32 0)), some (vr (A 0 0)), some (vr (A 30 0)), some (vr (A 31 0)), some (vi i), some (vi k), some (vi (nrm b))] [] σ2 Post := wp_lsub (ls' := [some (vr (A 32 0)), some (vr (A 0 0)), some (vr (A 30 0)), some (vr (A 31 0)), some (vi i), none, none]) ⟨rfl, rfl, rfl, rfl, rfl, trivial⟩ (kn A' _ σ2 ⟨e0, e30, e31, e32⟩ J2 ⟨hw, Nat.le_succ _⟩)
  refine wp_icmp_eq (tgt := 1466) dL_law_1461 (by decide) q2 q2 (fun _ => ?_) (fun c9 => absurd rfl c9)
  refine wp_iload dL_law_1466 rfl ?_
  refine wp_if_ne (tgt := 1483) dL_law_1468 (by decide) q2 (fun _ => ?_) (fun c9 => ?_)
  · exact wp_goto (tgt := 2029) dL_law_1483 (by decide) hfin
  · have hg : gA σ2 (A 31 0) 0 = nrm b := by rw [← e31, g31, e31]; exact q3 c9
    obtain ⟨oa, oi⟩ := LX_o J2.2.2.2
    rw [e31] at oa oi
    refine wp_aload_n dL_law_1471 rfl ?_
    refine wp_iconst dL_law_1472 ?_
    refine wp_laload dL_law_1473 oa oi ?_
    rw [hg]
    refine wp_iload dL_law_1474 rfl ?_
    refine wp_i2l dL_law_1476 (nrm_Q b) ?_
    refine wp_lcmp dL_law_1477 (nrm_Q b) (nrm_Q b) ?_
    rw [if_neg (by omega), if_pos rfl]
    refine wp_if_eq (tgt := 1483) dL_law_1478 (by decide) (by unfold qR; omega) (fun _ => ?_) (fun c8 => absurd rfl c8)
    exact wp_goto (tgt := 2029) dL_law_1483 (by decide) hfin
set_option maxRecDepth 100000 in
set_option maxHeartbeats 4000000 in
theorem lc_21 (hl : l.stackTraces = false) (hg : scG g sc L s) (hs : atA A sc x m out) (J : LK A L s D D σ) (hw : WF D) (hk : (kp D).length < 512) (hi : 0 ≤ i ∧ i + 6 ≤ L) (kn : ∀ A' D' σ', atA A' sc x m out → LK A' L s D' D' σ' → Nx D D' → qW g l (M_law nm hh) ca sa 2029 [some (vr sc), some (vr x), some (vr m), some (vr out), some (vi i), none, none] [] σ' Post) : qW g l (M_law nm hh) (ca + 1) (sa + 6) 1486 [some (vr sc), some (vr x), some (vr m), some (vr out), some (vi i), none, none] [] σ Post := by
  obtain ⟨rfl, rfl, rfl, rfl⟩ := hs
  obtain ⟨pa, pi, pv, pr⟩ := LX_f hg hi
  refine wp_aload_n dL_law_1486 rfl ?_
  refine wp_arg (k := 1) (v := s (i + 1)) dL_law_1487 dL_law_1488 dL_law_1490 dL_law_1491 dL_law_1492 rfl rfl pa (pi 1 (by decide) (by decide)) (pv 1 (by decide) (by decide)) ?_
  refine wp_aload_n dL_law_1493 rfl ?_
  refine wp_callSX (M' := M_L_placeByPairs) (As := [vr (A 0 0), vi (s (i + 1)), vr (A 31 0)]) (st := []) dL_law_1494 ceeX_L_placeByPairs np_L_placeByPairs rfl ⟨Nat.le_of_ble_eq_true rfl, Nat.le_of_ble_eq_true rfl, Nat.le_trans (m := 1) (Nat.le_of_ble_eq_true rfl) (Nat.le_add_left _ _), Nat.le_trans (m := 6) (Nat.le_of_ble_eq_true rfl) (Nat.le_add_left _ _)⟩ wd_1122 wd_1123 (q_small_of (Nat.le_of_ble_eq_true rfl)) (lw_L_placeByPairs hl J hw hk (pr 1 (by decide) (by decide))) (q_kTi0 (fun σ1 k hM => ?_)) q_kTi00
  refine wp_less (ac2 := ca + 0) (as2 := sa + 0) (by show ca + 0 ≤ ca + 1 - 1; omega) (by show sa + 0 ≤ sa + 6 - 6; omega) ?_
  obtain ⟨A', J1, ⟨e0, e30, e31, e32⟩, hk1⟩ := hM
  refine wp_istore' (ls' := [some (vr (A 32 0)), some (vr (A 0 0)), some (vr (A 30 0)), some (vr (A 31 0)), some (vi i), some (vi k), none]) dL_law_1497 (Nat.le_of_ble_eq_true rfl) rfl ?_
  refine wp_aload_n dL_law_1499 rfl ?_
  refine wp_arg (k := 1) (v := s (i + 1)) dL_law_1500 dL_law_1501 dL_law_1503 dL_law_1504 dL_law_1505 rfl rfl pa (pi 1 (by decide) (by decide)) (pv 1 (by decide) (by decide)) ?_
  have hm := spec_mplaceByPairs (g := g) hl J1.1 J1.2.2.1 hw.1 (pr 1 (by decide) (by decide))
  rw [e30] at hm
  refine wp_callV (M' := M_X8_placeByPairs) (As := [vi (s (i + 1))]) (st := []) (ci := 8) dL_law_1506 cee_X8_placeByPairs np_X8_placeByPairs rfl ⟨Nat.le_of_ble_eq_true rfl, Nat.le_of_ble_eq_true rfl, Nat.le_trans (m := 0) (Nat.le_of_ble_eq_true rfl) (Nat.le_add_left _ _), Nat.le_trans (m := 0) (Nat.le_of_ble_eq_true rfl) (Nat.le_add_left _ _)⟩ wd_1511 wd_1512 wd_1513 rfl (Or.inl (by rw [← e30]; exact J1.2.2.1.1.1.1)) (q_small_of (Nat.le_of_ble_eq_true rfl)) hm (q_kTi0 (fun σ2 b hM2 => ?_)) q_kTi00
  refine wp_less (ac2 := ca + 0) (as2 := sa + 0) (by show ca + 0 ≤ ca + 0 - 0; omega) (by show sa + 0 ≤ sa + 0 - 0; omega) ?_
  obtain ⟨m1, m2, m3⟩ := hM2
  obtain ⟨J2, g31⟩ := LK_mod J1 m1 m2
  refine wp_nrm ?_
  refine wp_istore' (ls' := [some (vr (A 32 0)), some (vr (A 0 0)), some (vr (A 30 0)), some (vr (A 31 0)), some (vi i), some (vi k), some (vi (nrm b))]) dL_law_1509 (Nat.le_of_ble_eq_true rfl) rfl ?_
  refine wp_aload_n dL_law_1511 rfl ?_
  have ht := spec_thrown (g := g) hl J2.2.2.1.1.1
  rw [e30] at ht
  obtain ⟨q1, q2, q3⟩ := lw_end cOk2 hk1 m3
  rw [e30] at q1
  rw [q1] at ht
  refine wp_callV (M' := M_X8_thrown) (As := []) (st := []) (ci := 8) dL_law_1512 cee_X8_thrown np_X8_thrown rfl ⟨Nat.le_of_ble_eq_true rfl, Nat.le_of_ble_eq_true rfl, Nat.le_trans (m := 0) (Nat.le_of_ble_eq_true rfl) (Nat.le_add_left _ _), Nat.le_trans (m := 0) (Nat.le_of_ble_eq_true rfl) (Nat.le_add_left _ _)⟩ wd_1328 wd_1329 wd_1330 rfl (Or.inl (by rw [← e30]; exact J2.2.2.1.1.1.1)) (q_small_of (Nat.le_of_ble_eq_true rfl)) ht (q_kPi ?_) q_kPi0
  refine wp_less (ac2 := ca) (as2 := sa) (by show ca ≤ ca + 0 - 0; omega) (by show sa ≤ sa + 0 - 0; omega) ?_
  refine wp_iload dL_law_1515 rfl ?_
  have hfin : qW g l (M_law nm hh) ca sa 2029 [some (vr (A 32 0)), some (vr (A 0 0)), some (vr (A 30 0)), some (vr (A 31 0)), some (vi i), some (vi k), some (vi (nrm b))] [] σ2 Post := wp_lsub (ls' := [some (vr (A 32 0)), some (vr (A 0 0)), some (vr (A 30 0)), some (vr (A 31 0)), some (vi i), none, none]) ⟨rfl, rfl, rfl, rfl, rfl, trivial⟩ (kn A' _ σ2 ⟨e0, e30, e31, e32⟩ J2 ⟨hw, Nat.le_succ _⟩)
  refine wp_icmp_eq (tgt := 1522) dL_law_1517 (by decide) q2 q2 (fun _ => ?_) (fun c9 => absurd rfl c9)
  refine wp_iload dL_law_1522 rfl ?_
  refine wp_if_ne (tgt := 1539) dL_law_1524 (by decide) q2 (fun _ => ?_) (fun c9 => ?_)
  · exact wp_goto (tgt := 2029) dL_law_1539 (by decide) hfin
  · have hg : gA σ2 (A 31 0) 0 = nrm b := by rw [← e31, g31, e31]; exact q3 c9
    obtain ⟨oa, oi⟩ := LX_o J2.2.2.2
    rw [e31] at oa oi
    refine wp_aload_n dL_law_1527 rfl ?_
    refine wp_iconst dL_law_1528 ?_
    refine wp_laload dL_law_1529 oa oi ?_
    rw [hg]
    refine wp_iload dL_law_1530 rfl ?_
    refine wp_i2l dL_law_1532 (nrm_Q b) ?_
    refine wp_lcmp dL_law_1533 (nrm_Q b) (nrm_Q b) ?_
    rw [if_neg (by omega), if_pos rfl]
    refine wp_if_eq (tgt := 1539) dL_law_1534 (by decide) (by unfold qR; omega) (fun _ => ?_) (fun c8 => absurd rfl c8)
    exact wp_goto (tgt := 2029) dL_law_1539 (by decide) hfin
set_option maxRecDepth 100000 in
set_option maxHeartbeats 4000000 in
theorem lc_22 (hl : l.stackTraces = false) (hg : scG g sc L s) (hs : atA A sc x m out) (J : LK A L s D D σ) (hw : WF D) (hk : (kp D).length < 512) (hi : 0 ≤ i ∧ i + 6 ≤ L) (kn : ∀ A' D' σ', atA A' sc x m out → LK A' L s D' D' σ' → Nx D D' → qW g l (M_law nm hh) ca sa 2029 [some (vr sc), some (vr x), some (vr m), some (vr out), some (vi i), none, none] [] σ' Post) : qW g l (M_law nm hh) (ca + 1) (sa + 6) 1542 [some (vr sc), some (vr x), some (vr m), some (vr out), some (vi i), none, none] [] σ Post := by
  obtain ⟨rfl, rfl, rfl, rfl⟩ := hs
  obtain ⟨pa, pi, pv, pr⟩ := LX_f hg hi
  refine wp_aload_n dL_law_1542 rfl ?_
  refine wp_arg (k := 1) (v := s (i + 1)) dL_law_1543 dL_law_1544 dL_law_1546 dL_law_1547 dL_law_1548 rfl rfl pa (pi 1 (by decide) (by decide)) (pv 1 (by decide) (by decide)) ?_
  refine wp_aload_n dL_law_1549 rfl ?_
  refine wp_callSX (M' := M_L_depth) (As := [vr (A 0 0), vi (s (i + 1)), vr (A 31 0)]) (st := []) dL_law_1550 ceeX_L_depth np_L_depth rfl ⟨Nat.le_of_ble_eq_true rfl, Nat.le_of_ble_eq_true rfl, Nat.le_trans (m := 1) (Nat.le_of_ble_eq_true rfl) (Nat.le_add_left _ _), Nat.le_trans (m := 6) (Nat.le_of_ble_eq_true rfl) (Nat.le_add_left _ _)⟩ wd_1138 wd_1139 (q_small_of (Nat.le_of_ble_eq_true rfl)) (lw_L_depth hl J hw hk (pr 1 (by decide) (by decide))) (q_kTi0 (fun σ1 k hM => ?_)) q_kTi00
  refine wp_less (ac2 := ca + 0) (as2 := sa + 0) (by show ca + 0 ≤ ca + 1 - 1; omega) (by show sa + 0 ≤ sa + 6 - 6; omega) ?_
  obtain ⟨A', J1, ⟨e0, e30, e31, e32⟩, hk1⟩ := hM
  refine wp_istore' (ls' := [some (vr (A 32 0)), some (vr (A 0 0)), some (vr (A 30 0)), some (vr (A 31 0)), some (vi i), some (vi k), none]) dL_law_1553 (Nat.le_of_ble_eq_true rfl) rfl ?_
  refine wp_aload_n dL_law_1555 rfl ?_
  refine wp_arg (k := 1) (v := s (i + 1)) dL_law_1556 dL_law_1557 dL_law_1559 dL_law_1560 dL_law_1561 rfl rfl pa (pi 1 (by decide) (by decide)) (pv 1 (by decide) (by decide)) ?_
  have hm := spec_mdepth (g := g) hl J1.1 J1.2.2.1 hw (pr 1 (by decide) (by decide))
  rw [e30] at hm
  refine wp_callV (M' := M_X8_depth) (As := [vi (s (i + 1))]) (st := []) (ci := 8) dL_law_1562 cee_X8_depth np_X8_depth rfl ⟨Nat.le_of_ble_eq_true rfl, Nat.le_of_ble_eq_true rfl, Nat.le_trans (m := 0) (Nat.le_of_ble_eq_true rfl) (Nat.le_add_left _ _), Nat.le_trans (m := 0) (Nat.le_of_ble_eq_true rfl) (Nat.le_add_left _ _)⟩ wd_1516 wd_1517 wd_1518 rfl (Or.inl (by rw [← e30]; exact J1.2.2.1.1.1.1)) (q_small_of (Nat.le_of_ble_eq_true rfl)) hm (q_kTi0 (fun σ2 b hM2 => ?_)) q_kTi00
  refine wp_less (ac2 := ca + 0) (as2 := sa + 0) (by show ca + 0 ≤ ca + 0 - 0; omega) (by show sa + 0 ≤ sa + 0 - 0; omega) ?_
  obtain ⟨m1, m2, m3⟩ := hM2
  obtain ⟨J2, g31⟩ := LK_mod J1 m1 m2
  refine wp_nrm ?_
  refine wp_istore' (ls' := [some (vr (A 32 0)), some (vr (A 0 0)), some (vr (A 30 0)), some (vr (A 31 0)), some (vi i), some (vi k), some (vi (nrm b))]) dL_law_1565 (Nat.le_of_ble_eq_true rfl) rfl ?_
  refine wp_aload_n dL_law_1567 rfl ?_
  have ht := spec_thrown (g := g) hl J2.2.2.1.1.1
  rw [e30] at ht
  obtain ⟨q1, q2, q3⟩ := lw_end cOk2 hk1 m3
  rw [e30] at q1
  rw [q1] at ht
  refine wp_callV (M' := M_X8_thrown) (As := []) (st := []) (ci := 8) dL_law_1568 cee_X8_thrown np_X8_thrown rfl ⟨Nat.le_of_ble_eq_true rfl, Nat.le_of_ble_eq_true rfl, Nat.le_trans (m := 0) (Nat.le_of_ble_eq_true rfl) (Nat.le_add_left _ _), Nat.le_trans (m := 0) (Nat.le_of_ble_eq_true rfl) (Nat.le_add_left _ _)⟩ wd_1328 wd_1329 wd_1330 rfl (Or.inl (by rw [← e30]; exact J2.2.2.1.1.1.1)) (q_small_of (Nat.le_of_ble_eq_true rfl)) ht (q_kPi ?_) q_kPi0
  refine wp_less (ac2 := ca) (as2 := sa) (by show ca ≤ ca + 0 - 0; omega) (by show sa ≤ sa + 0 - 0; omega) ?_
  refine wp_iload dL_law_1571 rfl ?_
  have hfin : qW g l (M_law nm hh) ca sa 2029 [some (vr (A 32 0)), some (vr (A 0 0)), some (vr (A 30 0)), some (vr (A 31 0)), some (vi i), some (vi k), some (vi (nrm b))] [] σ2 Post := wp_lsub (ls' := [some (vr (A 32 0)), some (vr (A 0 0)), some (vr (A 30 0)), some (vr (A 31 0)), some (vi i), none, none]) ⟨rfl, rfl, rfl, rfl, rfl, trivial⟩ (kn A' _ σ2 ⟨e0, e30, e31, e32⟩ J2 ⟨hw, Nat.le_succ _⟩)
  refine wp_icmp_eq (tgt := 1578) dL_law_1573 (by decide) q2 q2 (fun _ => ?_) (fun c9 => absurd rfl c9)
  refine wp_iload dL_law_1578 rfl ?_
  refine wp_if_ne (tgt := 1595) dL_law_1580 (by decide) q2 (fun _ => ?_) (fun c9 => ?_)
  · exact wp_goto (tgt := 2029) dL_law_1595 (by decide) hfin
  · have hg : gA σ2 (A 31 0) 0 = nrm b := by rw [← e31, g31, e31]; exact q3 c9
    obtain ⟨oa, oi⟩ := LX_o J2.2.2.2
    rw [e31] at oa oi
    refine wp_aload_n dL_law_1583 rfl ?_
    refine wp_iconst dL_law_1584 ?_
    refine wp_laload dL_law_1585 oa oi ?_
    rw [hg]
    refine wp_iload dL_law_1586 rfl ?_
    refine wp_i2l dL_law_1588 (nrm_Q b) ?_
    refine wp_lcmp dL_law_1589 (nrm_Q b) (nrm_Q b) ?_
    rw [if_neg (by omega), if_pos rfl]
    refine wp_if_eq (tgt := 1595) dL_law_1590 (by decide) (by unfold qR; omega) (fun _ => ?_) (fun c8 => absurd rfl c8)
    exact wp_goto (tgt := 2029) dL_law_1595 (by decide) hfin
set_option maxRecDepth 100000 in
set_option maxHeartbeats 4000000 in
theorem lc_23 (hl : l.stackTraces = false) (hg : scG g sc L s) (hs : atA A sc x m out) (J : LK A L s D D σ) (hw : WF D) (hk : (kp D).length < 512) (hi : 0 ≤ i ∧ i + 6 ≤ L) (kn : ∀ A' D' σ', atA A' sc x m out → LK A' L s D' D' σ' → Nx D D' → qW g l (M_law nm hh) ca sa 2029 [some (vr sc), some (vr x), some (vr m), some (vr out), some (vi i), none, none] [] σ' Post) : qW g l (M_law nm hh) (ca + 3) (sa + 18) 1598 [some (vr sc), some (vr x), some (vr m), some (vr out), some (vi i), none, none] [] σ Post := by
  obtain ⟨rfl, rfl, rfl, rfl⟩ := hs
  obtain ⟨pa, pi, pv, pr⟩ := LX_f hg hi
  refine wp_aload_n dL_law_1598 rfl ?_
  refine wp_arg (k := 1) (v := s (i + 1)) dL_law_1599 dL_law_1600 dL_law_1602 dL_law_1603 dL_law_1604 rfl rfl pa (pi 1 (by decide) (by decide)) (pv 1 (by decide) (by decide)) ?_
  refine wp_aload_n dL_law_1605 rfl ?_
  refine wp_callSX (M' := M_L_spread) (As := [vr (A 0 0), vi (s (i + 1)), vr (A 31 0)]) (st := []) dL_law_1606 ceeX_L_spread np_L_spread rfl ⟨Nat.le_of_ble_eq_true rfl, Nat.le_of_ble_eq_true rfl, Nat.le_trans (m := 3) (Nat.le_of_ble_eq_true rfl) (Nat.le_add_left _ _), Nat.le_trans (m := 18) (Nat.le_of_ble_eq_true rfl) (Nat.le_add_left _ _)⟩ wd_1145 wd_1146 (q_small_of (Nat.le_of_ble_eq_true rfl)) (lw_L_spread hl J hw hk (pr 1 (by decide) (by decide))) (q_kTi0 (fun σ1 k hM => ?_)) q_kTi00
  refine wp_less (ac2 := ca + 0) (as2 := sa + 0) (by show ca + 0 ≤ ca + 3 - 3; omega) (by show sa + 0 ≤ sa + 18 - 18; omega) ?_
  obtain ⟨A', J1, ⟨e0, e30, e31, e32⟩, hk1⟩ := hM
  refine wp_istore' (ls' := [some (vr (A 32 0)), some (vr (A 0 0)), some (vr (A 30 0)), some (vr (A 31 0)), some (vi i), some (vi k), none]) dL_law_1609 (Nat.le_of_ble_eq_true rfl) rfl ?_
  refine wp_aload_n dL_law_1611 rfl ?_
  refine wp_arg (k := 1) (v := s (i + 1)) dL_law_1612 dL_law_1613 dL_law_1615 dL_law_1616 dL_law_1617 rfl rfl pa (pi 1 (by decide) (by decide)) (pv 1 (by decide) (by decide)) ?_
  have hm := spec_mspread (g := g) hl J1.1 J1.2.2.1 hw.1 (pr 1 (by decide) (by decide))
  rw [e30] at hm
  refine wp_callV (M' := M_X8_spread) (As := [vi (s (i + 1))]) (st := []) (ci := 8) dL_law_1618 cee_X8_spread np_X8_spread rfl ⟨Nat.le_of_ble_eq_true rfl, Nat.le_of_ble_eq_true rfl, Nat.le_trans (m := 0) (Nat.le_of_ble_eq_true rfl) (Nat.le_add_left _ _), Nat.le_trans (m := 0) (Nat.le_of_ble_eq_true rfl) (Nat.le_add_left _ _)⟩ wd_1520 wd_1521 wd_1522 rfl (Or.inl (by rw [← e30]; exact J1.2.2.1.1.1.1)) (q_small_of (Nat.le_of_ble_eq_true rfl)) hm (q_kTi0 (fun σ2 b hM2 => ?_)) q_kTi00
  refine wp_less (ac2 := ca + 0) (as2 := sa + 0) (by show ca + 0 ≤ ca + 0 - 0; omega) (by show sa + 0 ≤ sa + 0 - 0; omega) ?_
  obtain ⟨m1, m2, m3⟩ := hM2
  obtain ⟨J2, g31⟩ := LK_mod J1 m1 m2
  refine wp_nrm ?_
  refine wp_istore' (ls' := [some (vr (A 32 0)), some (vr (A 0 0)), some (vr (A 30 0)), some (vr (A 31 0)), some (vi i), some (vi k), some (vi (nrm b))]) dL_law_1621 (Nat.le_of_ble_eq_true rfl) rfl ?_
  refine wp_aload_n dL_law_1623 rfl ?_
  have ht := spec_thrown (g := g) hl J2.2.2.1.1.1
  rw [e30] at ht
  obtain ⟨q1, q2, q3⟩ := lw_endB cOk2 hk1 m3
  rw [e30] at q1
  rw [q1] at ht
  refine wp_callV (M' := M_X8_thrown) (As := []) (st := []) (ci := 8) dL_law_1624 cee_X8_thrown np_X8_thrown rfl ⟨Nat.le_of_ble_eq_true rfl, Nat.le_of_ble_eq_true rfl, Nat.le_trans (m := 0) (Nat.le_of_ble_eq_true rfl) (Nat.le_add_left _ _), Nat.le_trans (m := 0) (Nat.le_of_ble_eq_true rfl) (Nat.le_add_left _ _)⟩ wd_1328 wd_1329 wd_1330 rfl (Or.inl (by rw [← e30]; exact J2.2.2.1.1.1.1)) (q_small_of (Nat.le_of_ble_eq_true rfl)) ht (q_kPi ?_) q_kPi0
  refine wp_less (ac2 := ca) (as2 := sa) (by show ca ≤ ca + 0 - 0; omega) (by show sa ≤ sa + 0 - 0; omega) ?_
  refine wp_iload dL_law_1627 rfl ?_
  have hfin : qW g l (M_law nm hh) ca sa 2029 [some (vr (A 32 0)), some (vr (A 0 0)), some (vr (A 30 0)), some (vr (A 31 0)), some (vi i), some (vi k), some (vi (nrm b))] [] σ2 Post := wp_lsub (ls' := [some (vr (A 32 0)), some (vr (A 0 0)), some (vr (A 30 0)), some (vr (A 31 0)), some (vi i), none, none]) ⟨rfl, rfl, rfl, rfl, rfl, trivial⟩ (kn A' _ σ2 ⟨e0, e30, e31, e32⟩ J2 (Nx_spread hw))
  refine wp_icmp_eq (tgt := 1634) dL_law_1629 (by decide) q2 q2 (fun _ => ?_) (fun c9 => absurd rfl c9)
  refine wp_iload dL_law_1634 rfl ?_
  refine wp_if_ne (tgt := 1658) dL_law_1636 (by decide) q2 (fun _ => ?_) (fun c9 => ?_)
  · exact wp_goto (tgt := 2029) dL_law_1658 (by decide) hfin
  · have hg : gA σ2 (A 31 0) 0 = (if nrm b = 0 then 0 else 1) := by rw [← e31, g31, e31]; exact q3 c9
    obtain ⟨oa, oi⟩ := LX_o J2.2.2.2
    rw [e31] at oa oi
    refine wp_aload_n dL_law_1639 rfl ?_
    refine wp_iconst dL_law_1640 ?_
    refine wp_laload dL_law_1641 oa oi ?_
    rw [hg]
    refine wp_iload dL_law_1642 rfl ?_
    refine wp_if_eq (tgt := 1651) dL_law_1644 (by decide) (nrm_Q b) (fun c7 => ?_) (fun c7 => ?_)
    · rw [if_pos c7]
      refine wp_lconst dL_law_1651 ?_
      refine wp_lcmp dL_law_1652 (by unfold qR; decide) (by unfold qR; decide) ?_
      rw [if_neg (by decide), if_pos (by decide)]
      refine wp_if_eq (tgt := 1658) dL_law_1653 (by decide) (by unfold qR; omega) (fun _ => ?_) (fun c8 => absurd rfl c8)
      exact wp_goto (tgt := 2029) dL_law_1658 (by decide) hfin
    · rw [if_neg c7]
      refine wp_lconst dL_law_1647 ?_
      refine wp_goto (tgt := 1652) dL_law_1648 (by decide) ?_
      refine wp_lcmp dL_law_1652 (by unfold qR; decide) (by unfold qR; decide) ?_
      rw [if_neg (by decide), if_pos (by decide)]
      refine wp_if_eq (tgt := 1658) dL_law_1653 (by decide) (by unfold qR; omega) (fun _ => ?_) (fun c8 => absurd rfl c8)
      exact wp_goto (tgt := 2029) dL_law_1658 (by decide) hfin
set_option maxRecDepth 100000 in
set_option maxHeartbeats 4000000 in
theorem lc_24 (hl : l.stackTraces = false) (hg : scG g sc L s) (hs : atA A sc x m out) (J : LK A L s D D σ) (hw : WF D) (hk : (kp D).length < 512) (hi : 0 ≤ i ∧ i + 6 ≤ L) (kn : ∀ A' D' σ', atA A' sc x m out → LK A' L s D' D' σ' → Nx D D' → qW g l (M_law nm hh) ca sa 2029 [some (vr sc), some (vr x), some (vr m), some (vr out), some (vi i), none, none] [] σ' Post) : qW g l (M_law nm hh) (ca + 1) (sa + 6) 1661 [some (vr sc), some (vr x), some (vr m), some (vr out), some (vi i), none, none] [] σ Post := by
  obtain ⟨rfl, rfl, rfl, rfl⟩ := hs
  obtain ⟨pa, pi, pv, pr⟩ := LX_f hg hi
  refine wp_aload_n dL_law_1661 rfl ?_
  refine wp_arg (k := 1) (v := s (i + 1)) dL_law_1662 dL_law_1663 dL_law_1665 dL_law_1666 dL_law_1667 rfl rfl pa (pi 1 (by decide) (by decide)) (pv 1 (by decide) (by decide)) ?_
  refine wp_aload_n dL_law_1668 rfl ?_
  refine wp_callSX (M' := M_L_leaves) (As := [vr (A 0 0), vi (s (i + 1)), vr (A 31 0)]) (st := []) dL_law_1669 ceeX_L_leaves np_L_leaves rfl ⟨Nat.le_of_ble_eq_true rfl, Nat.le_of_ble_eq_true rfl, Nat.le_trans (m := 1) (Nat.le_of_ble_eq_true rfl) (Nat.le_add_left _ _), Nat.le_trans (m := 6) (Nat.le_of_ble_eq_true rfl) (Nat.le_add_left _ _)⟩ wd_1157 wd_1158 (q_small_of (Nat.le_of_ble_eq_true rfl)) (lw_L_leaves hl J hw hk (pr 1 (by decide) (by decide))) (q_kTi0 (fun σ1 k hM => ?_)) q_kTi00
  refine wp_less (ac2 := ca + 0) (as2 := sa + 0) (by show ca + 0 ≤ ca + 1 - 1; omega) (by show sa + 0 ≤ sa + 6 - 6; omega) ?_
  obtain ⟨A', J1, ⟨e0, e30, e31, e32⟩, hk1⟩ := hM
  refine wp_istore' (ls' := [some (vr (A 32 0)), some (vr (A 0 0)), some (vr (A 30 0)), some (vr (A 31 0)), some (vi i), some (vi k), none]) dL_law_1672 (Nat.le_of_ble_eq_true rfl) rfl ?_
  refine wp_aload_n dL_law_1674 rfl ?_
  refine wp_arg (k := 1) (v := s (i + 1)) dL_law_1675 dL_law_1676 dL_law_1678 dL_law_1679 dL_law_1680 rfl rfl pa (pi 1 (by decide) (by decide)) (pv 1 (by decide) (by decide)) ?_
  have hm := spec_mleaves (g := g) hl J1.1 J1.2.2.1 hw.1 (pr 1 (by decide) (by decide))
  rw [e30] at hm
  refine wp_callV (M' := M_X8_leaves) (As := [vi (s (i + 1))]) (st := []) (ci := 8) dL_law_1681 cee_X8_leaves np_X8_leaves rfl ⟨Nat.le_of_ble_eq_true rfl, Nat.le_of_ble_eq_true rfl, Nat.le_trans (m := 0) (Nat.le_of_ble_eq_true rfl) (Nat.le_add_left _ _), Nat.le_trans (m := 0) (Nat.le_of_ble_eq_true rfl) (Nat.le_add_left _ _)⟩ wd_1524 wd_1525 wd_1526 rfl (Or.inl (by rw [← e30]; exact J1.2.2.1.1.1.1)) (q_small_of (Nat.le_of_ble_eq_true rfl)) hm (q_kTi0 (fun σ2 b hM2 => ?_)) q_kTi00
  refine wp_less (ac2 := ca + 0) (as2 := sa + 0) (by show ca + 0 ≤ ca + 0 - 0; omega) (by show sa + 0 ≤ sa + 0 - 0; omega) ?_
  obtain ⟨m1, m2, m3⟩ := hM2
  obtain ⟨J2, g31⟩ := LK_mod J1 m1 m2
  refine wp_nrm ?_
  refine wp_istore' (ls' := [some (vr (A 32 0)), some (vr (A 0 0)), some (vr (A 30 0)), some (vr (A 31 0)), some (vi i), some (vi k), some (vi (nrm b))]) dL_law_1684 (Nat.le_of_ble_eq_true rfl) rfl ?_
  refine wp_aload_n dL_law_1686 rfl ?_
  have ht := spec_thrown (g := g) hl J2.2.2.1.1.1
  rw [e30] at ht
  obtain ⟨q1, q2, q3⟩ := lw_end cOk1 hk1 m3
  rw [e30] at q1
  rw [q1] at ht
  refine wp_callV (M' := M_X8_thrown) (As := []) (st := []) (ci := 8) dL_law_1687 cee_X8_thrown np_X8_thrown rfl ⟨Nat.le_of_ble_eq_true rfl, Nat.le_of_ble_eq_true rfl, Nat.le_trans (m := 0) (Nat.le_of_ble_eq_true rfl) (Nat.le_add_left _ _), Nat.le_trans (m := 0) (Nat.le_of_ble_eq_true rfl) (Nat.le_add_left _ _)⟩ wd_1328 wd_1329 wd_1330 rfl (Or.inl (by rw [← e30]; exact J2.2.2.1.1.1.1)) (q_small_of (Nat.le_of_ble_eq_true rfl)) ht (q_kPi ?_) q_kPi0
  refine wp_less (ac2 := ca) (as2 := sa) (by show ca ≤ ca + 0 - 0; omega) (by show sa ≤ sa + 0 - 0; omega) ?_
  refine wp_iload dL_law_1690 rfl ?_
  have hfin : qW g l (M_law nm hh) ca sa 2029 [some (vr (A 32 0)), some (vr (A 0 0)), some (vr (A 30 0)), some (vr (A 31 0)), some (vi i), some (vi k), some (vi (nrm b))] [] σ2 Post := wp_lsub (ls' := [some (vr (A 32 0)), some (vr (A 0 0)), some (vr (A 30 0)), some (vr (A 31 0)), some (vi i), none, none]) ⟨rfl, rfl, rfl, rfl, rfl, trivial⟩ (kn A' _ σ2 ⟨e0, e30, e31, e32⟩ J2 ⟨hw, Nat.le_succ _⟩)
  refine wp_icmp_eq (tgt := 1697) dL_law_1692 (by decide) q2 q2 (fun _ => ?_) (fun c9 => absurd rfl c9)
  refine wp_iload dL_law_1697 rfl ?_
  refine wp_if_ne (tgt := 1714) dL_law_1699 (by decide) q2 (fun _ => ?_) (fun c9 => ?_)
  · exact wp_goto (tgt := 2029) dL_law_1714 (by decide) hfin
  · have hg : gA σ2 (A 31 0) 0 = nrm b := by rw [← e31, g31, e31]; exact q3 c9
    obtain ⟨oa, oi⟩ := LX_o J2.2.2.2
    rw [e31] at oa oi
    refine wp_aload_n dL_law_1702 rfl ?_
    refine wp_iconst dL_law_1703 ?_
    refine wp_laload dL_law_1704 oa oi ?_
    rw [hg]
    refine wp_iload dL_law_1705 rfl ?_
    refine wp_i2l dL_law_1707 (nrm_Q b) ?_
    refine wp_lcmp dL_law_1708 (nrm_Q b) (nrm_Q b) ?_
    rw [if_neg (by omega), if_pos rfl]
    refine wp_if_eq (tgt := 1714) dL_law_1709 (by decide) (by unfold qR; omega) (fun _ => ?_) (fun c8 => absurd rfl c8)
    exact wp_goto (tgt := 2029) dL_law_1714 (by decide) hfin
set_option maxRecDepth 100000 in
set_option maxHeartbeats 4000000 in
theorem lc_25 (hl : l.stackTraces = false) (hg : scG g sc L s) (hs : atA A sc x m out) (J : LK A L s D D σ) (hw : WF D) (hk : (kp D).length < 512) (hi : 0 ≤ i ∧ i + 6 ≤ L) (kn : ∀ A' D' σ', atA A' sc x m out → LK A' L s D' D' σ' → Nx D D' → qW g l (M_law nm hh) ca sa 2029 [some (vr sc), some (vr x), some (vr m), some (vr out), some (vi i), none, none] [] σ' Post) : qW g l (M_law nm hh) (ca + 2) (sa + 12) 1717 [some (vr sc), some (vr x), some (vr m), some (vr out), some (vi i), none, none] [] σ Post := by
  obtain ⟨rfl, rfl, rfl, rfl⟩ := hs
  obtain ⟨pa, pi, pv, pr⟩ := LX_f hg hi
  refine wp_aload_n dL_law_1717 rfl ?_
  refine wp_arg (k := 1) (v := s (i + 1)) dL_law_1718 dL_law_1719 dL_law_1721 dL_law_1722 dL_law_1723 rfl rfl pa (pi 1 (by decide) (by decide)) (pv 1 (by decide) (by decide)) ?_
  refine wp_arg (k := 2) (v := s (i + 2)) dL_law_1724 dL_law_1725 dL_law_1727 dL_law_1728 dL_law_1729 rfl rfl pa (pi 2 (by decide) (by decide)) (pv 2 (by decide) (by decide)) ?_
  refine wp_aload_n dL_law_1730 rfl ?_
  refine wp_callSX (M' := M_L_leaf) (As := [vr (A 0 0), vi (s (i + 1)), vi (s (i + 2)), vr (A 31 0)]) (st := []) dL_law_1731 ceeX_L_leaf np_L_leaf rfl ⟨Nat.le_of_ble_eq_true rfl, Nat.le_of_ble_eq_true rfl, Nat.le_trans (m := 2) (Nat.le_of_ble_eq_true rfl) (Nat.le_add_left _ _), Nat.le_trans (m := 12) (Nat.le_of_ble_eq_true rfl) (Nat.le_add_left _ _)⟩ wd_1180 wd_1181 (q_small_of (Nat.le_of_ble_eq_true rfl)) (lw_L_leaf hl J hw hk (pr 1 (by decide) (by decide)) (pr 2 (by decide) (by decide))) (q_kTi0 (fun σ1 k hM => ?_)) q_kTi00
  refine wp_less (ac2 := ca + 0) (as2 := sa + 0) (by show ca + 0 ≤ ca + 2 - 2; omega) (by show sa + 0 ≤ sa + 12 - 12; omega) ?_
  obtain ⟨A', J1, ⟨e0, e30, e31, e32⟩, hk1⟩ := hM
  refine wp_istore' (ls' := [some (vr (A 32 0)), some (vr (A 0 0)), some (vr (A 30 0)), some (vr (A 31 0)), some (vi i), some (vi k), none]) dL_law_1734 (Nat.le_of_ble_eq_true rfl) rfl ?_
  refine wp_aload_n dL_law_1736 rfl ?_
  refine wp_arg (k := 1) (v := s (i + 1)) dL_law_1737 dL_law_1738 dL_law_1740 dL_law_1741 dL_law_1742 rfl rfl pa (pi 1 (by decide) (by decide)) (pv 1 (by decide) (by decide)) ?_
  refine wp_arg (k := 2) (v := s (i + 2)) dL_law_1743 dL_law_1744 dL_law_1746 dL_law_1747 dL_law_1748 rfl rfl pa (pi 2 (by decide) (by decide)) (pv 2 (by decide) (by decide)) ?_
  have hm := spec_mleaf (g := g) hl J1.1 J1.2.2.1 hw.1 (pr 1 (by decide) (by decide)) (pr 2 (by decide) (by decide))
  rw [e30] at hm
  refine wp_callV (M' := M_X8_leaf) (As := [vi (s (i + 1)), vi (s (i + 2))]) (st := []) (ci := 8) dL_law_1749 cee_X8_leaf np_X8_leaf rfl ⟨Nat.le_of_ble_eq_true rfl, Nat.le_of_ble_eq_true rfl, Nat.le_trans (m := 0) (Nat.le_of_ble_eq_true rfl) (Nat.le_add_left _ _), Nat.le_trans (m := 0) (Nat.le_of_ble_eq_true rfl) (Nat.le_add_left _ _)⟩ wd_1539 wd_1540 wd_1541 rfl (Or.inl (by rw [← e30]; exact J1.2.2.1.1.1.1)) (q_small_of (Nat.le_of_ble_eq_true rfl)) hm (q_kTi0 (fun σ2 b hM2 => ?_)) q_kTi00
  refine wp_less (ac2 := ca + 0) (as2 := sa + 0) (by show ca + 0 ≤ ca + 0 - 0; omega) (by show sa + 0 ≤ sa + 0 - 0; omega) ?_
  obtain ⟨m1, m2, m3⟩ := hM2
  obtain ⟨J2, g31⟩ := LK_mod J1 m1 m2
  refine wp_nrm ?_
  refine wp_istore' (ls' := [some (vr (A 32 0)), some (vr (A 0 0)), some (vr (A 30 0)), some (vr (A 31 0)), some (vi i), some (vi k), some (vi (nrm b))]) dL_law_1752 (Nat.le_of_ble_eq_true rfl) rfl ?_
  refine wp_aload_n dL_law_1754 rfl ?_
  have ht := spec_thrown (g := g) hl J2.2.2.1.1.1
  rw [e30] at ht
  obtain ⟨q1, q2, q3⟩ := lw_end cOk2 hk1 m3
  rw [e30] at q1
  rw [q1] at ht
  refine wp_callV (M' := M_X8_thrown) (As := []) (st := []) (ci := 8) dL_law_1755 cee_X8_thrown np_X8_thrown rfl ⟨Nat.le_of_ble_eq_true rfl, Nat.le_of_ble_eq_true rfl, Nat.le_trans (m := 0) (Nat.le_of_ble_eq_true rfl) (Nat.le_add_left _ _), Nat.le_trans (m := 0) (Nat.le_of_ble_eq_true rfl) (Nat.le_add_left _ _)⟩ wd_1328 wd_1329 wd_1330 rfl (Or.inl (by rw [← e30]; exact J2.2.2.1.1.1.1)) (q_small_of (Nat.le_of_ble_eq_true rfl)) ht (q_kPi ?_) q_kPi0
  refine wp_less (ac2 := ca) (as2 := sa) (by show ca ≤ ca + 0 - 0; omega) (by show sa ≤ sa + 0 - 0; omega) ?_
  refine wp_iload dL_law_1758 rfl ?_
  have hfin : qW g l (M_law nm hh) ca sa 2029 [some (vr (A 32 0)), some (vr (A 0 0)), some (vr (A 30 0)), some (vr (A 31 0)), some (vi i), some (vi k), some (vi (nrm b))] [] σ2 Post := wp_lsub (ls' := [some (vr (A 32 0)), some (vr (A 0 0)), some (vr (A 30 0)), some (vr (A 31 0)), some (vi i), none, none]) ⟨rfl, rfl, rfl, rfl, rfl, trivial⟩ (kn A' _ σ2 ⟨e0, e30, e31, e32⟩ J2 ⟨hw, Nat.le_succ _⟩)
  refine wp_icmp_eq (tgt := 1765) dL_law_1760 (by decide) q2 q2 (fun _ => ?_) (fun c9 => absurd rfl c9)
  refine wp_iload dL_law_1765 rfl ?_
  refine wp_if_ne (tgt := 1782) dL_law_1767 (by decide) q2 (fun _ => ?_) (fun c9 => ?_)
  · exact wp_goto (tgt := 2029) dL_law_1782 (by decide) hfin
  · have hg : gA σ2 (A 31 0) 0 = nrm b := by rw [← e31, g31, e31]; exact q3 c9
    obtain ⟨oa, oi⟩ := LX_o J2.2.2.2
    rw [e31] at oa oi
    refine wp_aload_n dL_law_1770 rfl ?_
    refine wp_iconst dL_law_1771 ?_
    refine wp_laload dL_law_1772 oa oi ?_
    rw [hg]
    refine wp_iload dL_law_1773 rfl ?_
    refine wp_i2l dL_law_1775 (nrm_Q b) ?_
    refine wp_lcmp dL_law_1776 (nrm_Q b) (nrm_Q b) ?_
    rw [if_neg (by omega), if_pos rfl]
    refine wp_if_eq (tgt := 1782) dL_law_1777 (by decide) (by unfold qR; omega) (fun _ => ?_) (fun c8 => absurd rfl c8)
    exact wp_goto (tgt := 2029) dL_law_1782 (by decide) hfin
set_option maxRecDepth 100000 in
set_option maxHeartbeats 4000000 in
theorem lc_26 (hl : l.stackTraces = false) (hg : scG g sc L s) (hs : atA A sc x m out) (J : LK A L s D D σ) (hw : WF D) (hk : (kp D).length < 512) (hi : 0 ≤ i ∧ i + 6 ≤ L) (kn : ∀ A' D' σ', atA A' sc x m out → LK A' L s D' D' σ' → Nx D D' → qW g l (M_law nm hh) ca sa 2029 [some (vr sc), some (vr x), some (vr m), some (vr out), some (vi i), none, none] [] σ' Post) : qW g l (M_law nm hh) (ca + 2) (sa + 12) 1785 [some (vr sc), some (vr x), some (vr m), some (vr out), some (vi i), none, none] [] σ Post := by
  obtain ⟨rfl, rfl, rfl, rfl⟩ := hs
  obtain ⟨pa, pi, pv, pr⟩ := LX_f hg hi
  refine wp_aload_n dL_law_1785 rfl ?_
  refine wp_arg (k := 1) (v := s (i + 1)) dL_law_1786 dL_law_1787 dL_law_1789 dL_law_1790 dL_law_1791 rfl rfl pa (pi 1 (by decide) (by decide)) (pv 1 (by decide) (by decide)) ?_
  refine wp_arg (k := 2) (v := s (i + 2)) dL_law_1792 dL_law_1793 dL_law_1795 dL_law_1796 dL_law_1797 rfl rfl pa (pi 2 (by decide) (by decide)) (pv 2 (by decide) (by decide)) ?_
  refine wp_aload_n dL_law_1798 rfl ?_
  refine wp_callSX (M' := M_L_beside) (As := [vr (A 0 0), vi (s (i + 1)), vi (s (i + 2)), vr (A 31 0)]) (st := []) dL_law_1799 ceeX_L_beside np_L_beside rfl ⟨Nat.le_of_ble_eq_true rfl, Nat.le_of_ble_eq_true rfl, Nat.le_trans (m := 2) (Nat.le_of_ble_eq_true rfl) (Nat.le_add_left _ _), Nat.le_trans (m := 12) (Nat.le_of_ble_eq_true rfl) (Nat.le_add_left _ _)⟩ wd_1187 wd_1188 (q_small_of (Nat.le_of_ble_eq_true rfl)) (lw_L_beside hl J hw hk (pr 1 (by decide) (by decide)) (pr 2 (by decide) (by decide))) (q_kTi0 (fun σ1 k hM => ?_)) q_kTi00
  refine wp_less (ac2 := ca + 0) (as2 := sa + 0) (by show ca + 0 ≤ ca + 2 - 2; omega) (by show sa + 0 ≤ sa + 12 - 12; omega) ?_
  obtain ⟨A', J1, ⟨e0, e30, e31, e32⟩, hk1⟩ := hM
  refine wp_istore' (ls' := [some (vr (A 32 0)), some (vr (A 0 0)), some (vr (A 30 0)), some (vr (A 31 0)), some (vi i), some (vi k), none]) dL_law_1802 (Nat.le_of_ble_eq_true rfl) rfl ?_
  refine wp_aload_n dL_law_1804 rfl ?_
  refine wp_arg (k := 1) (v := s (i + 1)) dL_law_1805 dL_law_1806 dL_law_1808 dL_law_1809 dL_law_1810 rfl rfl pa (pi 1 (by decide) (by decide)) (pv 1 (by decide) (by decide)) ?_
  refine wp_arg (k := 2) (v := s (i + 2)) dL_law_1811 dL_law_1812 dL_law_1814 dL_law_1815 dL_law_1816 rfl rfl pa (pi 2 (by decide) (by decide)) (pv 2 (by decide) (by decide)) ?_
  have hm := spec_mbeside (g := g) hl J1.1 J1.2.2.1 hw.1 (pr 1 (by decide) (by decide)) (pr 2 (by decide) (by decide))
  rw [e30] at hm
  refine wp_callV (M' := M_X8_beside) (As := [vi (s (i + 1)), vi (s (i + 2))]) (st := []) (ci := 8) dL_law_1817 cee_X8_beside np_X8_beside rfl ⟨Nat.le_of_ble_eq_true rfl, Nat.le_of_ble_eq_true rfl, Nat.le_trans (m := 0) (Nat.le_of_ble_eq_true rfl) (Nat.le_add_left _ _), Nat.le_trans (m := 0) (Nat.le_of_ble_eq_true rfl) (Nat.le_add_left _ _)⟩ wd_1543 wd_1544 wd_1545 rfl (Or.inl (by rw [← e30]; exact J1.2.2.1.1.1.1)) (q_small_of (Nat.le_of_ble_eq_true rfl)) hm (q_kTi0 (fun σ2 b hM2 => ?_)) q_kTi00
  refine wp_less (ac2 := ca + 0) (as2 := sa + 0) (by show ca + 0 ≤ ca + 0 - 0; omega) (by show sa + 0 ≤ sa + 0 - 0; omega) ?_
  obtain ⟨m1, m2, m3⟩ := hM2
  obtain ⟨J2, g31⟩ := LK_mod J1 m1 m2
  refine wp_nrm ?_
  refine wp_istore' (ls' := [some (vr (A 32 0)), some (vr (A 0 0)), some (vr (A 30 0)), some (vr (A 31 0)), some (vi i), some (vi k), some (vi (nrm b))]) dL_law_1820 (Nat.le_of_ble_eq_true rfl) rfl ?_
  refine wp_aload_n dL_law_1822 rfl ?_
  have ht := spec_thrown (g := g) hl J2.2.2.1.1.1
  rw [e30] at ht
  obtain ⟨q1, q2, q3⟩ := lw_end cOk2 hk1 m3
  rw [e30] at q1
  rw [q1] at ht
  refine wp_callV (M' := M_X8_thrown) (As := []) (st := []) (ci := 8) dL_law_1823 cee_X8_thrown np_X8_thrown rfl ⟨Nat.le_of_ble_eq_true rfl, Nat.le_of_ble_eq_true rfl, Nat.le_trans (m := 0) (Nat.le_of_ble_eq_true rfl) (Nat.le_add_left _ _), Nat.le_trans (m := 0) (Nat.le_of_ble_eq_true rfl) (Nat.le_add_left _ _)⟩ wd_1328 wd_1329 wd_1330 rfl (Or.inl (by rw [← e30]; exact J2.2.2.1.1.1.1)) (q_small_of (Nat.le_of_ble_eq_true rfl)) ht (q_kPi ?_) q_kPi0
  refine wp_less (ac2 := ca) (as2 := sa) (by show ca ≤ ca + 0 - 0; omega) (by show sa ≤ sa + 0 - 0; omega) ?_
  refine wp_iload dL_law_1826 rfl ?_
  have hfin : qW g l (M_law nm hh) ca sa 2029 [some (vr (A 32 0)), some (vr (A 0 0)), some (vr (A 30 0)), some (vr (A 31 0)), some (vi i), some (vi k), some (vi (nrm b))] [] σ2 Post := wp_lsub (ls' := [some (vr (A 32 0)), some (vr (A 0 0)), some (vr (A 30 0)), some (vr (A 31 0)), some (vi i), none, none]) ⟨rfl, rfl, rfl, rfl, rfl, trivial⟩ (kn A' _ σ2 ⟨e0, e30, e31, e32⟩ J2 ⟨hw, Nat.le_succ _⟩)
  refine wp_icmp_eq (tgt := 1833) dL_law_1828 (by decide) q2 q2 (fun _ => ?_) (fun c9 => absurd rfl c9)
  refine wp_iload dL_law_1833 rfl ?_
  refine wp_if_ne (tgt := 1850) dL_law_1835 (by decide) q2 (fun _ => ?_) (fun c9 => ?_)
  · exact wp_goto (tgt := 2029) dL_law_1850 (by decide) hfin
  · have hg : gA σ2 (A 31 0) 0 = nrm b := by rw [← e31, g31, e31]; exact q3 c9
    obtain ⟨oa, oi⟩ := LX_o J2.2.2.2
    rw [e31] at oa oi
    refine wp_aload_n dL_law_1838 rfl ?_
    refine wp_iconst dL_law_1839 ?_
    refine wp_laload dL_law_1840 oa oi ?_
    rw [hg]
    refine wp_iload dL_law_1841 rfl ?_
    refine wp_i2l dL_law_1843 (nrm_Q b) ?_
    refine wp_lcmp dL_law_1844 (nrm_Q b) (nrm_Q b) ?_
    rw [if_neg (by omega), if_pos rfl]
    refine wp_if_eq (tgt := 1850) dL_law_1845 (by decide) (by unfold qR; omega) (fun _ => ?_) (fun c8 => absurd rfl c8)
    exact wp_goto (tgt := 2029) dL_law_1850 (by decide) hfin
set_option maxRecDepth 100000 in
set_option maxHeartbeats 4000000 in
theorem lc_27 (hl : l.stackTraces = false) (hg : scG g sc L s) (hs : atA A sc x m out) (J : LK A L s D D σ) (hw : WF D) (hk : (kp D).length < 512) (hi : 0 ≤ i ∧ i + 6 ≤ L) (kn : ∀ A' D' σ', atA A' sc x m out → LK A' L s D' D' σ' → Nx D D' → qW g l (M_law nm hh) ca sa 2029 [some (vr sc), some (vr x), some (vr m), some (vr out), some (vi i), none, none] [] σ' Post) : qW g l (M_law nm hh) (ca + 2) (sa + 12) 1853 [some (vr sc), some (vr x), some (vr m), some (vr out), some (vi i), none, none] [] σ Post := by
  obtain ⟨rfl, rfl, rfl, rfl⟩ := hs
  obtain ⟨pa, pi, pv, pr⟩ := LX_f hg hi
  refine wp_aload_n dL_law_1853 rfl ?_
  refine wp_arg (k := 1) (v := s (i + 1)) dL_law_1854 dL_law_1855 dL_law_1857 dL_law_1858 dL_law_1859 rfl rfl pa (pi 1 (by decide) (by decide)) (pv 1 (by decide) (by decide)) ?_
  refine wp_arg (k := 2) (v := s (i + 2)) dL_law_1860 dL_law_1861 dL_law_1863 dL_law_1864 dL_law_1865 rfl rfl pa (pi 2 (by decide) (by decide)) (pv 2 (by decide) (by decide)) ?_
  refine wp_aload_n dL_law_1866 rfl ?_
  refine wp_callSX (M' := M_L_sheet) (As := [vr (A 0 0), vi (s (i + 1)), vi (s (i + 2)), vr (A 31 0)]) (st := []) dL_law_1867 ceeX_L_sheet np_L_sheet rfl ⟨Nat.le_of_ble_eq_true rfl, Nat.le_of_ble_eq_true rfl, Nat.le_trans (m := 2) (Nat.le_of_ble_eq_true rfl) (Nat.le_add_left _ _), Nat.le_trans (m := 12) (Nat.le_of_ble_eq_true rfl) (Nat.le_add_left _ _)⟩ wd_1194 wd_1195 (q_small_of (Nat.le_of_ble_eq_true rfl)) (lw_L_sheet hl J hw hk (pr 1 (by decide) (by decide)) (pr 2 (by decide) (by decide))) (q_kTi0 (fun σ1 k hM => ?_)) q_kTi00
  refine wp_less (ac2 := ca + 0) (as2 := sa + 0) (by show ca + 0 ≤ ca + 2 - 2; omega) (by show sa + 0 ≤ sa + 12 - 12; omega) ?_
  obtain ⟨A', J1, ⟨e0, e30, e31, e32⟩, hk1⟩ := hM
  refine wp_istore' (ls' := [some (vr (A 32 0)), some (vr (A 0 0)), some (vr (A 30 0)), some (vr (A 31 0)), some (vi i), some (vi k), none]) dL_law_1870 (Nat.le_of_ble_eq_true rfl) rfl ?_
  refine wp_aload_n dL_law_1872 rfl ?_
  refine wp_arg (k := 1) (v := s (i + 1)) dL_law_1873 dL_law_1874 dL_law_1876 dL_law_1877 dL_law_1878 rfl rfl pa (pi 1 (by decide) (by decide)) (pv 1 (by decide) (by decide)) ?_
  refine wp_arg (k := 2) (v := s (i + 2)) dL_law_1879 dL_law_1880 dL_law_1882 dL_law_1883 dL_law_1884 rfl rfl pa (pi 2 (by decide) (by decide)) (pv 2 (by decide) (by decide)) ?_
  have hm := spec_msheet (g := g) hl J1.1 J1.2.2.1 hw.1 (pr 1 (by decide) (by decide)) (pr 2 (by decide) (by decide))
  rw [e30] at hm
  refine wp_callV (M' := M_X8_sheet) (As := [vi (s (i + 1)), vi (s (i + 2))]) (st := []) (ci := 8) dL_law_1885 cee_X8_sheet np_X8_sheet rfl ⟨Nat.le_of_ble_eq_true rfl, Nat.le_of_ble_eq_true rfl, Nat.le_trans (m := 0) (Nat.le_of_ble_eq_true rfl) (Nat.le_add_left _ _), Nat.le_trans (m := 0) (Nat.le_of_ble_eq_true rfl) (Nat.le_add_left _ _)⟩ wd_1547 wd_1548 wd_1549 rfl (Or.inl (by rw [← e30]; exact J1.2.2.1.1.1.1)) (q_small_of (Nat.le_of_ble_eq_true rfl)) hm (q_kTi0 (fun σ2 b hM2 => ?_)) q_kTi00
  refine wp_less (ac2 := ca + 0) (as2 := sa + 0) (by show ca + 0 ≤ ca + 0 - 0; omega) (by show sa + 0 ≤ sa + 0 - 0; omega) ?_
  obtain ⟨m1, m2, m3⟩ := hM2
  obtain ⟨J2, g31⟩ := LK_mod J1 m1 m2
  refine wp_nrm ?_
  refine wp_istore' (ls' := [some (vr (A 32 0)), some (vr (A 0 0)), some (vr (A 30 0)), some (vr (A 31 0)), some (vi i), some (vi k), some (vi (nrm b))]) dL_law_1888 (Nat.le_of_ble_eq_true rfl) rfl ?_
  refine wp_aload_n dL_law_1890 rfl ?_
  have ht := spec_thrown (g := g) hl J2.2.2.1.1.1
  rw [e30] at ht
  obtain ⟨q1, q2, q3⟩ := lw_end cOk2 hk1 m3
  rw [e30] at q1
  rw [q1] at ht
  refine wp_callV (M' := M_X8_thrown) (As := []) (st := []) (ci := 8) dL_law_1891 cee_X8_thrown np_X8_thrown rfl ⟨Nat.le_of_ble_eq_true rfl, Nat.le_of_ble_eq_true rfl, Nat.le_trans (m := 0) (Nat.le_of_ble_eq_true rfl) (Nat.le_add_left _ _), Nat.le_trans (m := 0) (Nat.le_of_ble_eq_true rfl) (Nat.le_add_left _ _)⟩ wd_1328 wd_1329 wd_1330 rfl (Or.inl (by rw [← e30]; exact J2.2.2.1.1.1.1)) (q_small_of (Nat.le_of_ble_eq_true rfl)) ht (q_kPi ?_) q_kPi0
  refine wp_less (ac2 := ca) (as2 := sa) (by show ca ≤ ca + 0 - 0; omega) (by show sa ≤ sa + 0 - 0; omega) ?_
  refine wp_iload dL_law_1894 rfl ?_
  have hfin : qW g l (M_law nm hh) ca sa 2029 [some (vr (A 32 0)), some (vr (A 0 0)), some (vr (A 30 0)), some (vr (A 31 0)), some (vi i), some (vi k), some (vi (nrm b))] [] σ2 Post := wp_lsub (ls' := [some (vr (A 32 0)), some (vr (A 0 0)), some (vr (A 30 0)), some (vr (A 31 0)), some (vi i), none, none]) ⟨rfl, rfl, rfl, rfl, rfl, trivial⟩ (kn A' _ σ2 ⟨e0, e30, e31, e32⟩ J2 ⟨hw, Nat.le_succ _⟩)
  refine wp_icmp_eq (tgt := 1901) dL_law_1896 (by decide) q2 q2 (fun _ => ?_) (fun c9 => absurd rfl c9)
  refine wp_iload dL_law_1901 rfl ?_
  refine wp_if_ne (tgt := 1918) dL_law_1903 (by decide) q2 (fun _ => ?_) (fun c9 => ?_)
  · exact wp_goto (tgt := 2029) dL_law_1918 (by decide) hfin
  · have hg : gA σ2 (A 31 0) 0 = nrm b := by rw [← e31, g31, e31]; exact q3 c9
    obtain ⟨oa, oi⟩ := LX_o J2.2.2.2
    rw [e31] at oa oi
    refine wp_aload_n dL_law_1906 rfl ?_
    refine wp_iconst dL_law_1907 ?_
    refine wp_laload dL_law_1908 oa oi ?_
    rw [hg]
    refine wp_iload dL_law_1909 rfl ?_
    refine wp_i2l dL_law_1911 (nrm_Q b) ?_
    refine wp_lcmp dL_law_1912 (nrm_Q b) (nrm_Q b) ?_
    rw [if_neg (by omega), if_pos rfl]
    refine wp_if_eq (tgt := 1918) dL_law_1913 (by decide) (by unfold qR; omega) (fun _ => ?_) (fun c8 => absurd rfl c8)
    exact wp_goto (tgt := 2029) dL_law_1918 (by decide) hfin
set_option maxRecDepth 100000 in
set_option maxHeartbeats 4000000 in
theorem lc_28 (hl : l.stackTraces = false) (hg : scG g sc L s) (hs : atA A sc x m out) (J : LK A L s D D σ) (hw : WF D) (hk : (kp D).length < 512) (hi : 0 ≤ i ∧ i + 6 ≤ L) (kn : ∀ A' D' σ', atA A' sc x m out → LK A' L s D' D' σ' → Nx D D' → qW g l (M_law nm hh) ca sa 2029 [some (vr sc), some (vr x), some (vr m), some (vr out), some (vi i), none, none] [] σ' Post) : qW g l (M_law nm hh) (ca + 0) (sa + 0) 1921 [some (vr sc), some (vr x), some (vr m), some (vr out), some (vi i), none, none] [] σ Post := by
  obtain ⟨rfl, rfl, rfl, rfl⟩ := hs
  obtain ⟨pa, pi, pv, pr⟩ := LX_f hg hi
  refine wp_aload_n dL_law_1921 rfl ?_
  refine wp_callV (M' := M_X7_open) (As := []) (st := []) (ci := 7) dL_law_1922 cee_X7_open np_X7_open rfl ⟨Nat.le_of_ble_eq_true rfl, Nat.le_of_ble_eq_true rfl, Nat.le_trans (m := 0) (Nat.le_of_ble_eq_true rfl) (Nat.le_add_left _ _), Nat.le_trans (m := 0) (Nat.le_of_ble_eq_true rfl) (Nat.le_add_left _ _)⟩ wd_144 wd_145 wd_146 rfl (Or.inl J.2.1.1.1) (q_small_of (Nat.le_of_ble_eq_true rfl)) (spec_open hl J.1 J.2.1 hw.1) (fun σ1 v hM => ?_) (fun σ1 n hM => lw_pn σ1 n hM)
  obtain ⟨rfl, A', J1, e0, e30, e31, e32⟩ := lw_pl J σ1 v hM
  refine wp_less (ac2 := ca + 0) (as2 := sa + 0) (by show ca + 0 ≤ ca + 0 - 0; omega) (by show sa + 0 ≤ sa + 0 - 0; omega) ?_
  show qW g l (M_law nm hh) (ca + 0) (sa + 0) 1925 [some (vr (A 32 0)), some (vr (A 0 0)), some (vr (A 30 0)), some (vr (A 31 0)), some (vi i), none, none] [vi ((nxt D (-1)))] σ1 Post
  refine wp_nrm ?_
  refine wp_aload_n dL_law_1925 rfl ?_
  have hm := spec_mopen (g := g) (c := c2) hl J1.1 J1.2.2.1 hw.1
  rw [e30] at hm
  refine wp_callV (M' := M_X8_open) (As := []) (st := [vi (nrm ((nxt D (-1))))]) (ci := 8) dL_law_1926 cee_X8_open np_X8_open rfl ⟨Nat.le_of_ble_eq_true rfl, Nat.le_of_ble_eq_true rfl, Nat.le_trans (m := 0) (Nat.le_of_ble_eq_true rfl) (Nat.le_add_left _ _), Nat.le_trans (m := 0) (Nat.le_of_ble_eq_true rfl) (Nat.le_add_left _ _)⟩ wd_1551 wd_1552 wd_1553 rfl (Or.inl (by rw [← e30]; exact J1.2.2.1.1.1.1)) (q_small_of (Nat.le_of_ble_eq_true rfl)) hm (q_kTi0 (fun σ2 b hM2 => ?_)) q_kTi00
  refine wp_less (ac2 := ca) (as2 := sa) (by show ca ≤ ca + 0 - 0; omega) (by show sa ≤ sa + 0 - 0; omega) ?_
  obtain ⟨m1, m2, m3, m4⟩ := hM2
  obtain ⟨J2, g31⟩ := LK_mod J1 m1 m2
  rw [m3]
  refine wp_nrm ?_
  have hfin : qW g l (M_law nm hh) ca sa 2029 [some (vr (A 32 0)), some (vr (A 0 0)), some (vr (A 30 0)), some (vr (A 31 0)), some (vi i), none, none] [] σ2 Post := kn A' _ σ2 ⟨e0, e30, e31, e32⟩ J2 (Nx_open hw)
  refine wp_icmp_eq (tgt := 2029) dL_law_1929 (by decide) (nrm_Q _) (nrm_Q _) (fun _ => ?_) (fun c9 => absurd rfl c9)
  exact hfin
set_option maxRecDepth 100000 in
set_option maxHeartbeats 4000000 in
theorem lc_29 (hl : l.stackTraces = false) (hg : scG g sc L s) (hs : atA A sc x m out) (J : LK A L s D D σ) (hw : WF D) (hk : (kp D).length < 512) (hi : 0 ≤ i ∧ i + 6 ≤ L) (kn : ∀ A' D' σ', atA A' sc x m out → LK A' L s D' D' σ' → Nx D D' → qW g l (M_law nm hh) ca sa 2029 [some (vr sc), some (vr x), some (vr m), some (vr out), some (vi i), none, none] [] σ' Post) : qW g l (M_law nm hh) (ca + 0) (sa + 0) 1934 [some (vr sc), some (vr x), some (vr m), some (vr out), some (vi i), none, none] [] σ Post := by
  obtain ⟨rfl, rfl, rfl, rfl⟩ := hs
  obtain ⟨pa, pi, pv, pr⟩ := LX_f hg hi
  refine wp_aload_n dL_law_1934 rfl ?_
  refine wp_callV (M' := M_X7_forth) (As := []) (st := []) (ci := 7) dL_law_1935 cee_X7_forth np_X7_forth rfl ⟨Nat.le_of_ble_eq_true rfl, Nat.le_of_ble_eq_true rfl, Nat.le_trans (m := 0) (Nat.le_of_ble_eq_true rfl) (Nat.le_add_left _ _), Nat.le_trans (m := 0) (Nat.le_of_ble_eq_true rfl) (Nat.le_add_left _ _)⟩ wd_161 wd_162 wd_163 rfl (Or.inl J.2.1.1.1) (q_small_of (Nat.le_of_ble_eq_true rfl)) (spec_forth hl J.1 J.2.1 hw.1 hk) (fun σ1 v hM => ?_) (fun σ1 n hM => lw_pn σ1 n hM)
  obtain ⟨rfl, A', J1, e0, e30, e31, e32⟩ := lw_pl J σ1 v hM
  refine wp_less (ac2 := ca + 0) (as2 := sa + 0) (by show ca + 0 ≤ ca + 0 - 0; omega) (by show sa + 0 ≤ sa + 0 - 0; omega) ?_
  show qW g l (M_law nm hh) (ca + 0) (sa + 0) 1938 [some (vr (A 32 0)), some (vr (A 0 0)), some (vr (A 30 0)), some (vr (A 31 0)), some (vi i), none, none] [vi ((o_forth D))] σ1 Post
  refine wp_nrm ?_
  refine wp_aload_n dL_law_1938 rfl ?_
  have hm := spec_mforth (g := g) (c := c2) hl J1.1 J1.2.2.1 hw.1 hk
  rw [e30] at hm
  refine wp_callV (M' := M_X8_forth) (As := []) (st := [vi (nrm ((o_forth D)))]) (ci := 8) dL_law_1939 cee_X8_forth np_X8_forth rfl ⟨Nat.le_of_ble_eq_true rfl, Nat.le_of_ble_eq_true rfl, Nat.le_trans (m := 0) (Nat.le_of_ble_eq_true rfl) (Nat.le_add_left _ _), Nat.le_trans (m := 0) (Nat.le_of_ble_eq_true rfl) (Nat.le_add_left _ _)⟩ wd_1555 wd_1556 wd_1557 rfl (Or.inl (by rw [← e30]; exact J1.2.2.1.1.1.1)) (q_small_of (Nat.le_of_ble_eq_true rfl)) hm (q_kTi0 (fun σ2 b hM2 => ?_)) q_kTi00
  refine wp_less (ac2 := ca) (as2 := sa) (by show ca ≤ ca + 0 - 0; omega) (by show sa ≤ sa + 0 - 0; omega) ?_
  obtain ⟨m1, m2, m3, m4⟩ := hM2
  obtain ⟨J2, g31⟩ := LK_mod J1 m1 m2
  rw [m3]
  refine wp_nrm ?_
  have hfin : qW g l (M_law nm hh) ca sa 2029 [some (vr (A 32 0)), some (vr (A 0 0)), some (vr (A 30 0)), some (vr (A 31 0)), some (vi i), none, none] [] σ2 Post := kn A' _ σ2 ⟨e0, e30, e31, e32⟩ J2 (Nx_forth hw)
  refine wp_icmp_eq (tgt := 2029) dL_law_1942 (by decide) (nrm_Q _) (nrm_Q _) (fun _ => ?_) (fun c9 => absurd rfl c9)
  exact hfin
set_option maxRecDepth 100000 in
set_option maxHeartbeats 4000000 in
theorem lc_30 (hl : l.stackTraces = false) (hg : scG g sc L s) (hs : atA A sc x m out) (J : LK A L s D D σ) (hw : WF D) (hk : (kp D).length < 512) (hi : 0 ≤ i ∧ i + 6 ≤ L) (kn : ∀ A' D' σ', atA A' sc x m out → LK A' L s D' D' σ' → Nx D D' → qW g l (M_law nm hh) ca sa 2029 [some (vr sc), some (vr x), some (vr m), some (vr out), some (vi i), none, none] [] σ' Post) : qW g l (M_law nm hh) (ca + 1) (sa + 6) 1947 [some (vr sc), some (vr x), some (vr m), some (vr out), some (vi i), none, none] [] σ Post := by
  obtain ⟨rfl, rfl, rfl, rfl⟩ := hs
  obtain ⟨pa, pi, pv, pr⟩ := LX_f hg hi
  refine wp_aload_n dL_law_1947 rfl ?_
  refine wp_arg (k := 1) (v := s (i + 1)) dL_law_1948 dL_law_1949 dL_law_1951 dL_law_1952 dL_law_1953 rfl rfl pa (pi 1 (by decide) (by decide)) (pv 1 (by decide) (by decide)) ?_
  refine wp_aload_n dL_law_1954 rfl ?_
  refine wp_callSX (M' := M_L_jump) (As := [vr (A 0 0), vi (s (i + 1)), vr (A 31 0)]) (st := []) dL_law_1955 ceeX_L_jump np_L_jump rfl ⟨Nat.le_of_ble_eq_true rfl, Nat.le_of_ble_eq_true rfl, Nat.le_trans (m := 1) (Nat.le_of_ble_eq_true rfl) (Nat.le_add_left _ _), Nat.le_trans (m := 6) (Nat.le_of_ble_eq_true rfl) (Nat.le_add_left _ _)⟩ wd_1202 wd_1203 (q_small_of (Nat.le_of_ble_eq_true rfl)) (lw_L_jump hl J hw hk (pr 1 (by decide) (by decide))) (q_kTi0 (fun σ1 k hM => ?_)) q_kTi00
  refine wp_less (ac2 := ca + 0) (as2 := sa + 0) (by show ca + 0 ≤ ca + 1 - 1; omega) (by show sa + 0 ≤ sa + 6 - 6; omega) ?_
  obtain ⟨A', J1, ⟨e0, e30, e31, e32⟩, hk1⟩ := hM
  refine wp_istore' (ls' := [some (vr (A 32 0)), some (vr (A 0 0)), some (vr (A 30 0)), some (vr (A 31 0)), some (vi i), some (vi k), none]) dL_law_1958 (Nat.le_of_ble_eq_true rfl) rfl ?_
  refine wp_aload_n dL_law_1960 rfl ?_
  refine wp_arg (k := 1) (v := s (i + 1)) dL_law_1961 dL_law_1962 dL_law_1964 dL_law_1965 dL_law_1966 rfl rfl pa (pi 1 (by decide) (by decide)) (pv 1 (by decide) (by decide)) ?_
  have hm := spec_mjump (g := g) hl J1.1 J1.2.2.1 hw.1 hk (pr 1 (by decide) (by decide))
  rw [e30] at hm
  refine wp_callV (M' := M_X8_jump) (As := [vi (s (i + 1))]) (st := []) (ci := 8) dL_law_1967 cee_X8_jump np_X8_jump rfl ⟨Nat.le_of_ble_eq_true rfl, Nat.le_of_ble_eq_true rfl, Nat.le_trans (m := 0) (Nat.le_of_ble_eq_true rfl) (Nat.le_add_left _ _), Nat.le_trans (m := 0) (Nat.le_of_ble_eq_true rfl) (Nat.le_add_left _ _)⟩ wd_1563 wd_1564 wd_1565 rfl (Or.inl (by rw [← e30]; exact J1.2.2.1.1.1.1)) (q_small_of (Nat.le_of_ble_eq_true rfl)) hm (q_kTi0 (fun σ2 b hM2 => ?_)) q_kTi00
  refine wp_less (ac2 := ca + 0) (as2 := sa + 0) (by show ca + 0 ≤ ca + 0 - 0; omega) (by show sa + 0 ≤ sa + 0 - 0; omega) ?_
  obtain ⟨m1, m2, m3⟩ := hM2
  obtain ⟨J2, g31⟩ := LK_mod J1 m1 m2
  refine wp_nrm ?_
  refine wp_istore' (ls' := [some (vr (A 32 0)), some (vr (A 0 0)), some (vr (A 30 0)), some (vr (A 31 0)), some (vi i), some (vi k), some (vi (nrm b))]) dL_law_1970 (Nat.le_of_ble_eq_true rfl) rfl ?_
  refine wp_aload_n dL_law_1972 rfl ?_
  have ht := spec_thrown (g := g) hl J2.2.2.1.1.1
  rw [e30] at ht
  obtain ⟨q1, q2, q3⟩ := lw_end cOk2 hk1 m3
  rw [e30] at q1
  rw [q1] at ht
  refine wp_callV (M' := M_X8_thrown) (As := []) (st := []) (ci := 8) dL_law_1973 cee_X8_thrown np_X8_thrown rfl ⟨Nat.le_of_ble_eq_true rfl, Nat.le_of_ble_eq_true rfl, Nat.le_trans (m := 0) (Nat.le_of_ble_eq_true rfl) (Nat.le_add_left _ _), Nat.le_trans (m := 0) (Nat.le_of_ble_eq_true rfl) (Nat.le_add_left _ _)⟩ wd_1328 wd_1329 wd_1330 rfl (Or.inl (by rw [← e30]; exact J2.2.2.1.1.1.1)) (q_small_of (Nat.le_of_ble_eq_true rfl)) ht (q_kPi ?_) q_kPi0
  refine wp_less (ac2 := ca) (as2 := sa) (by show ca ≤ ca + 0 - 0; omega) (by show sa ≤ sa + 0 - 0; omega) ?_
  refine wp_iload dL_law_1976 rfl ?_
  have hfin : qW g l (M_law nm hh) ca sa 2029 [some (vr (A 32 0)), some (vr (A 0 0)), some (vr (A 30 0)), some (vr (A 31 0)), some (vi i), some (vi k), some (vi (nrm b))] [] σ2 Post := wp_lsub (ls' := [some (vr (A 32 0)), some (vr (A 0 0)), some (vr (A 30 0)), some (vr (A 31 0)), some (vi i), none, none]) ⟨rfl, rfl, rfl, rfl, rfl, trivial⟩ (kn A' _ σ2 ⟨e0, e30, e31, e32⟩ J2 (Nx_jump hw))
  refine wp_icmp_eq (tgt := 1983) dL_law_1978 (by decide) q2 q2 (fun _ => ?_) (fun c9 => absurd rfl c9)
  refine wp_iload dL_law_1983 rfl ?_
  refine wp_if_ne (tgt := 2000) dL_law_1985 (by decide) q2 (fun _ => ?_) (fun c9 => ?_)
  · exact wp_goto (tgt := 2029) dL_law_2000 (by decide) hfin
  · have hg : gA σ2 (A 31 0) 0 = nrm b := by rw [← e31, g31, e31]; exact q3 c9
    obtain ⟨oa, oi⟩ := LX_o J2.2.2.2
    rw [e31] at oa oi
    refine wp_aload_n dL_law_1988 rfl ?_
    refine wp_iconst dL_law_1989 ?_
    refine wp_laload dL_law_1990 oa oi ?_
    rw [hg]
    refine wp_iload dL_law_1991 rfl ?_
    refine wp_i2l dL_law_1993 (nrm_Q b) ?_
    refine wp_lcmp dL_law_1994 (nrm_Q b) (nrm_Q b) ?_
    rw [if_neg (by omega), if_pos rfl]
    refine wp_if_eq (tgt := 2000) dL_law_1995 (by decide) (by unfold qR; omega) (fun _ => ?_) (fun c8 => absurd rfl c8)
    exact wp_goto (tgt := 2029) dL_law_2000 (by decide) hfin
set_option maxRecDepth 100000 in
set_option maxHeartbeats 4000000 in
theorem lc_31 (hl : l.stackTraces = false) (hg : scG g sc L s) (hs : atA A sc x m out) (J : LK A L s D D σ) (hw : WF D) (hk : (kp D).length < 512) (hi : 0 ≤ i ∧ i + 6 ≤ L) (kn : ∀ A' D' σ', atA A' sc x m out → LK A' L s D' D' σ' → Nx D D' → qW g l (M_law nm hh) ca sa 2029 [some (vr sc), some (vr x), some (vr m), some (vr out), some (vi i), none, none] [] σ' Post) : qW g l (M_law nm hh) (ca + 0) (sa + 0) 2003 [some (vr sc), some (vr x), some (vr m), some (vr out), some (vi i), none, none] [] σ Post := by
  obtain ⟨rfl, rfl, rfl, rfl⟩ := hs
  obtain ⟨pa, pi, pv, pr⟩ := LX_f hg hi
  refine wp_aload_n dL_law_2003 rfl ?_
  refine wp_callV (M' := M_X7_back) (As := []) (st := []) (ci := 7) dL_law_2004 cee_X7_back np_X7_back rfl ⟨Nat.le_of_ble_eq_true rfl, Nat.le_of_ble_eq_true rfl, Nat.le_trans (m := 0) (Nat.le_of_ble_eq_true rfl) (Nat.le_add_left _ _), Nat.le_trans (m := 0) (Nat.le_of_ble_eq_true rfl) (Nat.le_add_left _ _)⟩ wd_169 wd_170 wd_171 rfl (Or.inl J.2.1.1.1) (q_small_of (Nat.le_of_ble_eq_true rfl)) (spec_back hl J.1 J.2.1 hw.1 (Nat.le_of_lt hk)) (fun σ1 v hM => ?_) (fun σ1 n hM => lw_pn σ1 n hM)
  obtain ⟨rfl, A', J1, e0, e30, e31, e32⟩ := lw_pl J σ1 v hM
  refine wp_less (ac2 := ca + 0) (as2 := sa + 0) (by show ca + 0 ≤ ca + 0 - 0; omega) (by show sa + 0 ≤ sa + 0 - 0; omega) ?_
  show qW g l (M_law nm hh) (ca + 0) (sa + 0) 2007 [some (vr (A 32 0)), some (vr (A 0 0)), some (vr (A 30 0)), some (vr (A 31 0)), some (vi i), none, none] [vi ((o_back D))] σ1 Post
  refine wp_nrm ?_
  refine wp_aload_n dL_law_2007 rfl ?_
  have hm := spec_mback (g := g) (c := c2) hl J1.1 J1.2.2.1 hw.1 (Nat.le_of_lt hk)
  rw [e30] at hm
  refine wp_callV (M' := M_X8_back) (As := []) (st := [vi (nrm ((o_back D)))]) (ci := 8) dL_law_2008 cee_X8_back np_X8_back rfl ⟨Nat.le_of_ble_eq_true rfl, Nat.le_of_ble_eq_true rfl, Nat.le_trans (m := 0) (Nat.le_of_ble_eq_true rfl) (Nat.le_add_left _ _), Nat.le_trans (m := 0) (Nat.le_of_ble_eq_true rfl) (Nat.le_add_left _ _)⟩ wd_1567 wd_1568 wd_1569 rfl (Or.inl (by rw [← e30]; exact J1.2.2.1.1.1.1)) (q_small_of (Nat.le_of_ble_eq_true rfl)) hm (q_kTi0 (fun σ2 b hM2 => ?_)) q_kTi00
  refine wp_less (ac2 := ca) (as2 := sa) (by show ca ≤ ca + 0 - 0; omega) (by show sa ≤ sa + 0 - 0; omega) ?_
  obtain ⟨m1, m2, m3, m4⟩ := hM2
  obtain ⟨J2, g31⟩ := LK_mod J1 m1 m2
  rw [m3]
  refine wp_nrm ?_
  have hfin : qW g l (M_law nm hh) ca sa 2029 [some (vr (A 32 0)), some (vr (A 0 0)), some (vr (A 30 0)), some (vr (A 31 0)), some (vi i), none, none] [] σ2 Post := kn A' _ σ2 ⟨e0, e30, e31, e32⟩ J2 (Nx_back hw)
  refine wp_icmp_eq (tgt := 2029) dL_law_2011 (by decide) (nrm_Q _) (nrm_Q _) (fun _ => ?_) (fun c9 => absurd rfl c9)
  exact hfin
set_option maxRecDepth 100000 in
set_option maxHeartbeats 4000000 in
theorem lc_32 (hl : l.stackTraces = false) (hg : scG g sc L s) (hs : atA A sc x m out) (J : LK A L s D D σ) (hw : WF D) (hk : (kp D).length < 512) (hi : 0 ≤ i ∧ i + 6 ≤ L) (kn : ∀ A' D' σ', atA A' sc x m out → LK A' L s D' D' σ' → Nx D D' → qW g l (M_law nm hh) ca sa 2029 [some (vr sc), some (vr x), some (vr m), some (vr out), some (vi i), none, none] [] σ' Post) : qW g l (M_law nm hh) (ca + 0) (sa + 0) 2016 [some (vr sc), some (vr x), some (vr m), some (vr out), some (vi i), none, none] [] σ Post := by
  obtain ⟨rfl, rfl, rfl, rfl⟩ := hs
  obtain ⟨pa, pi, pv, pr⟩ := LX_f hg hi
  refine wp_aload_n dL_law_2016 rfl ?_
  refine wp_callV (M' := M_X7_here) (As := []) (st := []) (ci := 7) dL_law_2017 cee_X7_here np_X7_here rfl ⟨Nat.le_of_ble_eq_true rfl, Nat.le_of_ble_eq_true rfl, Nat.le_trans (m := 0) (Nat.le_of_ble_eq_true rfl) (Nat.le_add_left _ _), Nat.le_trans (m := 0) (Nat.le_of_ble_eq_true rfl) (Nat.le_add_left _ _)⟩ wd_177 wd_178 wd_179 rfl (Or.inl J.2.1.1.1) (q_small_of (Nat.le_of_ble_eq_true rfl)) (spec_here hl J.1 J.2.1 hw.1) (fun σ1 v hM => ?_) (fun σ1 n hM => lw_pn σ1 n (qQo_P J hM))
  obtain ⟨rfl, A', J1, e0, e30, e31, e32⟩ := lw_pl J σ1 v (qQo_P J hM)
  refine wp_less (ac2 := ca + 0) (as2 := sa + 0) (by show ca + 0 ≤ ca + 0 - 0; omega) (by show sa + 0 ≤ sa + 0 - 0; omega) ?_
  show qW g l (M_law nm hh) (ca + 0) (sa + 0) 2020 [some (vr (A 32 0)), some (vr (A 0 0)), some (vr (A 30 0)), some (vr (A 31 0)), some (vi i), none, none] [vi ((he D))] σ1 Post
  refine wp_nrm ?_
  refine wp_aload_n dL_law_2020 rfl ?_
  have hm := spec_mhere (g := g) (c := c2) hl J1.1 J1.2.2.1
  rw [e30] at hm
  refine wp_callV (M' := M_X8_here) (As := []) (st := [vi (nrm ((he D)))]) (ci := 8) dL_law_2021 cee_X8_here np_X8_here rfl ⟨Nat.le_of_ble_eq_true rfl, Nat.le_of_ble_eq_true rfl, Nat.le_trans (m := 0) (Nat.le_of_ble_eq_true rfl) (Nat.le_add_left _ _), Nat.le_trans (m := 0) (Nat.le_of_ble_eq_true rfl) (Nat.le_add_left _ _)⟩ wd_1571 wd_1572 wd_1573 rfl (Or.inl (by rw [← e30]; exact J1.2.2.1.1.1.1)) (q_small_of (Nat.le_of_ble_eq_true rfl)) hm (q_kTi0 (fun σ2 b hM2 => ?_)) q_kTi00
  refine wp_less (ac2 := ca) (as2 := sa) (by show ca ≤ ca + 0 - 0; omega) (by show sa ≤ sa + 0 - 0; omega) ?_
  obtain ⟨m1, m2, m3, m4⟩ := hM2
  obtain ⟨J2, g31⟩ := LK_mod J1 m1 m2
  rw [m3]
  refine wp_nrm ?_
  have hfin : qW g l (M_law nm hh) ca sa 2029 [some (vr (A 32 0)), some (vr (A 0 0)), some (vr (A 30 0)), some (vr (A 31 0)), some (vi i), none, none] [] σ2 Post := kn A' _ σ2 ⟨e0, e30, e31, e32⟩ J2 ⟨hw, Nat.le_succ _⟩
  refine wp_icmp_eq (tgt := 2029) dL_law_2024 (by decide) (nrm_Q _) (nrm_Q _) (fun _ => ?_) (fun c9 => absurd rfl c9)
  exact hfin
end
