/-! the law: from its entry to the loop -/
theorem wd_33 : (Cond.instantiable "GutterPages" (5 : Nat)) ∈ lw_tbl := List.mem_of_getElem? (i := 84) (by decide +kernel)
theorem wd_1210 : (Cond.instantiable "GutterPagesModel" (37 : Nat)) ∈ lw_tbl := List.mem_of_getElem? (i := 1261) (by decide +kernel)
theorem wd_35 : (Cond.instanceMethod ({ cls := "GutterPages", name := "<init>", desc := "()V" } : MethodName)) ∈ lw_tbl := List.mem_of_getElem? (i := 86) (by decide +kernel)
theorem wd_1212 : (Cond.instanceMethod ({ cls := "GutterPagesModel", name := "<init>", desc := "()V" } : MethodName)) ∈ lw_tbl := List.mem_of_getElem? (i := 1263) (by decide +kernel)
theorem nw_RL_8 : q_nw RL 8 7 := ⟨_, rfl, wd_32, wd_33, wd_1⟩
theorem nw_RL_105 : q_nw RL 105 8 := ⟨_, rfl, wd_1209, wd_1210, wd_7⟩
section
variable {g : qG} {l : Launch} {L : Nat} {s : Int → Int} {Post : qS → qRs → Prop} {nm : String} {hh : List (Nat × Nat × Nat × Nat)} {sc : Nat}
theorem sm_nO {σ : qS} {r k z : Nat} (hz : gK σ r = 0) (h : gK σ z ≠ 0) : qSame σ (nO σ r k) z := by
  have m : z ≠ r := ne_f h hz
  exact ⟨if_neg m, fun f => if_neg m, fun f => if_neg m, fun _ => rfl, fun _ => rfl, rfl, rfl⟩
theorem sm_nA {σ : qS} {r k z : Nat} {n : Int} (hz : gK σ r = 0) (h : gK σ z ≠ 0) : qSame σ (nA σ r k n) z := by
  have m : z ≠ r := ne_f h hz
  exact ⟨if_neg m, fun f => rfl, fun f => rfl, fun _ => if_neg m, fun _ => if_neg m, rfl, if_neg m⟩
set_option maxRecDepth 100000 in
theorem law_start (hl : l.stackTraces = false) (hL : L ≤ 3072) (hP : ∀ σ, Post σ (.inl (some (vi 1)))) {A : Nat → Nat → Nat} (hA : qInj A) {σ : qS} (hg : scG g sc L s) (hsz : sc ≠ 0) (hk : gK σ sc = 40) : qW g l (M_law nm hh) 601024 7293034 0 [some (vr sc), none, none, none, none, none, none] [] σ Post := by
  have k0 : gK σ sc ≠ 0 := by rw [hk]; decide
  refine wp_new (n := 5) dL_law_0 nw_RL_8 rfl (Nat.le_of_ble_eq_true rfl) (Nat.le_of_ble_eq_true rfl) (fun x hz hx => ?_)
  refine wp_dup dL_law_3 trivial ?_
  have t1 := sm_nO (k := 8) hz k0
  have kx : gK (nO σ x 8) x = 8 := if_pos rfl
  refine wp_callI (M' := M_X7_init) (As := []) (st := [vr x]) dL_law_4 cee_X7_init np_X7_init rfl ⟨Nat.le_of_ble_eq_true rfl, Nat.le_of_ble_eq_true rfl, Nat.le_of_ble_eq_true rfl, Nat.le_of_ble_eq_true rfl⟩ wd_34 wd_35 rfl rfl hx (q_small_of (Nat.le_of_ble_eq_true rfl)) (spec_init0 hl hA hx kx) (q_kTv0 (fun σ1 h1 => ?_)) q_kTv00
  refine wp_less (ac2 := 600000) (as2 := 7000000) (Nat.le_of_ble_eq_true rfl) (Nat.le_of_ble_eq_true rfl) ?_
  obtain ⟨B, hB, b0, hC, hq1⟩ := h1
  refine wp_astore_n' (ls' := [some (vr sc), some (vr x), none, none, none, none, none]) dL_law_7 (Nat.le_of_ble_eq_true rfl) rfl ?_
  have nx : sc ≠ x := ne_f k0 hz
  have t2 : qSame σ σ1 sc := qSame_tr t1 (hq1 sc (by rw [t1.1]; exact k0) nx)
  have k1 : gK σ1 sc ≠ 0 := by rw [t2.1]; exact k0
  refine wp_new (n := 37) dL_law_8 nw_RL_105 rfl (Nat.le_of_ble_eq_true rfl) (Nat.le_of_ble_eq_true rfl) (fun m hzm hm => ?_)
  refine wp_dup dL_law_11 trivial ?_
  have t3 := sm_nO (k := 9) hzm k1
  have km : gK (nO σ1 m 9) m = 9 := if_pos rfl
  refine wp_callI (M' := M_X8_init) (As := []) (st := [vr m]) dL_law_12 cee_X8_init np_X8_init rfl ⟨Nat.le_of_ble_eq_true rfl, Nat.le_of_ble_eq_true rfl, Nat.le_of_ble_eq_true rfl, Nat.le_of_ble_eq_true rfl⟩ wd_1211 wd_1212 rfl rfl hm (q_small_of (Nat.le_of_ble_eq_true rfl)) (spec_minit0 hl hB hm km (fun f => if_pos rfl)) (q_kTv0 (fun σ2 h2 => ?_)) q_kTv00
  refine wp_less (ac2 := 500000) (as2 := 6000000) (Nat.le_of_ble_eq_true rfl) (Nat.le_of_ble_eq_true rfl) ?_
  obtain ⟨B2, hB2, hM, b30, hag, hq2⟩ := h2
  refine wp_astore_n' (ls' := [some (vr sc), some (vr x), some (vr m), none, none, none, none]) dL_law_15 (Nat.le_of_ble_eq_true rfl) rfl ?_
  have nm' : sc ≠ m := ne_f k1 hzm
  have t4 : qSame σ σ2 sc := qSame_tr t2 (qSame_tr t3 (hq2 sc (by rw [t3.1]; exact k1) nm'))
  have k2 : gK σ2 sc ≠ 0 := by rw [t4.1]; exact k0
  have hlive := CR_live hC
  have hC2 : CR B2 D0 σ2 := CR_D0 hC (fun t ht => by
    have hlt := (hlive t ht).1
    have ht20 : t < 20 := by
      have : ∀ t ∈ cT, t < 20 := by decide
      exact this t ht
    have ne := ne_f hlt hzm
    have s1 := sm_nO (k := 9) hzm hlt
    have l1 : gK (nO σ1 m 9) (B t 0) ≠ 0 := by rw [s1.1]; exact hlt
    exact ⟨hag t 0 ht20 l1 ne, qSame_tr s1 (hq2 _ l1 ne)⟩)
  have hx2 : B2 0 0 = x := by
    have hlt := (hlive 0 (by decide)).1
    have ne := ne_f hlt hzm
    have s1 := sm_nO (k := 9) hzm hlt
    rw [hag 0 0 (by decide) (by rw [s1.1]; exact hlt) ne, b0]
  refine wp_iconst dL_law_16 ?_
  refine wp_newarray (j := 2) dL_law_17 (by decide) (by decide) (Nat.le_of_ble_eq_true rfl) (Nat.le_of_ble_eq_true rfl) (fun o hzo ho => ?_)
  refine wp_less (ac2 := 16 * 512) (as2 := 868 * 512) (Nat.le_of_ble_eq_true rfl) (Nat.le_of_ble_eq_true rfl) ?_
  refine wp_astore_n' (ls' := [some (vr sc), some (vr x), some (vr m), some (vr o), none, none, none]) dL_law_19 (Nat.le_of_ble_eq_true rfl) rfl ?_
  refine wp_iconst dL_law_20 ?_
  refine wp_istore' (ls' := [some (vr sc), some (vr x), some (vr m), some (vr o), some (vi 0), none, none]) dL_law_21 (Nat.le_of_ble_eq_true rfl) rfl ?_
  have no : sc ≠ o := ne_f k2 hzo
  have t5 := sm_nA (k := 20 + 2) (n := 1) hzo k2
  obtain ⟨hB3, hv3, hn3⟩ := swL_sp hB2 [(31, 0, o), (32, 0, sc)] (by simp [ho, hsz]) (by simp [Ne.symm no]) (by simp)
  generalize swL B2 [(31, 0, o), (32, 0, sc)] = B3 at hB3 hv3 hn3
  have e31 : B3 31 0 = o := hv3 (31, 0, o) (by simp)
  have e32 : B3 32 0 = sc := hv3 (32, 0, sc) (by simp)
  have hoth : ∀ k, k ≠ 31 → k ≠ 32 → gK σ2 (B2 k 0) ≠ 0 → gK σ2 (B2 k 0) ≠ 40 → B3 k 0 = B2 k 0 ∧ qSame σ2 (nA σ2 o (20 + 2) 1) (B2 k 0) := fun k h31 h32 hl' h30 => ⟨hn3 k 0 (fun t ht => by
    simp only [List.mem_cons, List.not_mem_nil, or_false] at ht
    rcases ht with rfl | rfl
    · exact ne_f hl' hzo
    · exact fun z => h30 (by rw [z, t4.1]; exact hk)) (fun t ht z => by
    simp only [List.mem_cons, List.not_mem_nil, or_false] at ht
    rcases ht with rfl | rfl
    · exact h31 z.1
    · exact h32 z.1), sm_nA hzo hl'⟩
  have hlive2 := CR_live hC2
  have hC3 : CR B3 D0 (nA σ2 o (20 + 2) 1) := CR_D0 hC2 (fun t ht => by
    have : ∀ t ∈ cT, t ≠ 31 ∧ t ≠ 32 := by decide
    exact hoth t (this t ht).1 (this t ht).2 (hlive2 t ht).1 (hlive2 t ht).2)
  have h30l : gK σ2 (B2 30 0) = 9 := hM.1.1.1
  have h30' := hoth 30 (by decide) (by decide) (by rw [h30l]; decide) (by rw [h30l]; decide)
  have hM3 : MR B3 D0 (nA σ2 o (20 + 2) 1) := MR_same h30' (fun t ht => by
    have hkt := (hM.1.1.2 t ht).2.1
    have : ∀ t ∈ mTab, t.2.1 ≠ 0 ∧ t.2.1 ≠ 40 ∧ t.1 - 280 ≠ 31 ∧ t.1 - 280 ≠ 32 := by decide
    have q := this t ht
    exact hoth _ q.2.2.1 q.2.2.2 (by rw [hkt]; exact q.1) (by rw [hkt]; exact q.2.1)) hM
  have hX : LX B3 L s (nA σ2 o (20 + 2) 1) := ⟨by rw [e31]; exact if_pos rfl, by rw [e31]; exact if_pos rfl, by rw [e32, t5.1, t4.1]; exact hk, rfl, rfl⟩
  have x3 : B3 0 0 = x := by
    have := (hoth 0 (by decide) (by decide) (hlive2 0 (by decide)).1 (hlive2 0 (by decide)).2).1
    rw [this]; exact hx2
  exact law_loop hl hL hg hP 512 0 B3 D0 _ ⟨by decide, by decide⟩ ⟨x3, by rw [h30'.1]; exact b30, e31, e32⟩ ⟨hB3, hC3, hM3, hX⟩ WF_D0 (by decide) (by omega)
end
