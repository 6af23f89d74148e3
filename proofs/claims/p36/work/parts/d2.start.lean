/-! p36: from the entry to the loop -/
theorem st_48 : (Cond.classLink "GutterPagesLaw" (9 : Nat) "GutterPages") ∈ lw_tbl := List.mem_of_getElem? (i := 48) (by decide +kernel)
theorem st_49 : (Cond.instantiable "GutterPages" (5 : Nat)) ∈ lw_tbl := List.mem_of_getElem? (i := 49) (by decide +kernel)
theorem st_25 : (Cond.initialized "GutterPages") ∈ lw_tbl := List.mem_of_getElem? (i := 25) (by decide +kernel)
theorem st_50 : (Cond.methodLink "GutterPagesLaw" (43 : Nat) ({ cls := "GutterPages", name := "<init>", desc := "()V" } : MethodName)) ∈ lw_tbl := List.mem_of_getElem? (i := 50) (by decide +kernel)
theorem st_51 : (Cond.instanceMethod ({ cls := "GutterPages", name := "<init>", desc := "()V" } : MethodName)) ∈ lw_tbl := List.mem_of_getElem? (i := 51) (by decide +kernel)
theorem nw_RL_9 : q_nw RL 9 7 := ⟨_, rfl, st_48, st_49, st_25⟩
section
variable {A : Nat → Nat → Nat} {D : qD} {σ σ' : qS}
def cT : List Nat := [0, 1, 2, 3, 4, 8, 9, 18, 19]
theorem CR_live (h : CR A D0 σ) : ∀ t ∈ cT, gK σ (A t 0) ≠ 0 ∧ gK σ (A t 0) ≠ 40 := by
  obtain ⟨h1, h2, h3, -⟩ := h
  unfold BsR at h1
  unfold LyR at h2
  unfold RdR at h3
  intro t ht
  simp only [cT, List.mem_cons, List.not_mem_nil, or_false] at ht
  rcases ht with rfl | rfl | rfl | rfl | rfl | rfl | rfl | rfl | rfl
  · rw [h1.1]; decide
  · rw [h1.2.2.2.2.2.2.1]; decide
  · rw [h1.2.2.2.2.2.2.2.2.1]; decide
  · rw [h1.2.2.2.2.2.2.2.2.2.2.1]; decide
  · rw [h2.1]; decide
  · rw [h3.1]; decide
  · rw [h2.2.2.2.1]; decide
  · rw [h2.2.2.2.2.2.2.1]; decide
  · rw [h3.2.2.1]; decide
theorem CR_D0 {A' : Nat → Nat → Nat} (h : CR A D0 σ) (hs : ∀ t ∈ cT, A' t 0 = A t 0 ∧ qSame σ σ' (A t 0)) : CR A' D0 σ' := by
  obtain ⟨h1, h2, h3, -⟩ := h
  obtain ⟨a0, s0⟩ := hs 0 (by decide)
  obtain ⟨a1, s1⟩ := hs 1 (by decide)
  obtain ⟨a2, s2⟩ := hs 2 (by decide)
  obtain ⟨a3, s3⟩ := hs 3 (by decide)
  obtain ⟨a4, s4⟩ := hs 4 (by decide)
  obtain ⟨a8, s8⟩ := hs 8 (by decide)
  obtain ⟨a9, s9⟩ := hs 9 (by decide)
  obtain ⟨a18, s18⟩ := hs 18 (by decide)
  obtain ⟨a19, s19⟩ := hs 19 (by decide)
  refine ⟨?_, ?_, ?_, fun p h => absurd h (Nat.not_lt_zero _), fun q h => absurd h (Nat.not_lt_zero _), fun b h => absurd h (Nat.not_lt_zero _)⟩
  · unfold BsR at h1 ⊢
    rw [a0, a1, a2, a3, a4, a8, s0.1, s0.2.2.1, s0.2.2.1, s0.2.2.1, s0.2.2.1, s0.2.2.1, s1.1, s1.2.2.2.2.2.1, s2.1, s2.2.2.2.2.2.1, s3.1, s3.2.2.2.2.2.1]
    exact h1
  · unfold LyR at h2 ⊢
    rw [a4, a9, a18, s4.1, s4.2.2.1, s4.2.2.1, s9.1, s9.2.2.2.2.2.2, s18.1, s18.2.2.2.2.2.2]
    simp only [s9.2.2.2.1]
    exact h2
  · unfold RdR at h3 ⊢
    rw [a8, a19, s8.1, s8.2.2.1, s8.2.2.1, s8.2.1, s19.1, s19.2.2.2.2.2.2]
    refine ⟨h3.1, h3.2.1, h3.2.2.1, h3.2.2.2.1, h3.2.2.2.2.1, fun i hi => absurd hi (Nat.not_lt_zero _), h3.2.2.2.2.2.2⟩
end
section
variable {g : qG} {l : Launch} {Post : qS → qRs → Prop} {nm : String} {hh : List (Nat × Nat × Nat × Nat)} {sc : Nat}
theorem sm_nO {σ : qS} {r k z : Nat} (hz : gK σ r = 0) (h : gK σ z ≠ 0) : qSame σ (nO σ r k) z := by
  have m : z ≠ r := ne_f h hz
  exact ⟨if_neg m, fun f => if_neg m, fun f => if_neg m, fun _ => rfl, fun _ => rfl, rfl, rfl⟩
theorem sm_nA {σ : qS} {r k z : Nat} {n : Int} (hz : gK σ r = 0) (h : gK σ z ≠ 0) : qSame σ (nA σ r k n) z := by
  have m : z ≠ r := ne_f h hz
  exact ⟨if_neg m, fun f => rfl, fun f => rfl, fun _ => if_neg m, fun _ => if_neg m, rfl, if_neg m⟩
theorem Sm_D0 : Sm D0 := ⟨by decide, by decide, by decide, fun p h => absurd h (Nat.not_lt_zero _), fun q h => absurd h.1 (Nat.not_lt_zero _), fun b h => absurd h.1 (Nat.not_lt_zero _)⟩
theorem NoA_D0 : NoA D0 := fun b h => absurd h.1 (Nat.not_lt_zero _)
theorem CR_nA {B : Nat → Nat → Nat} {σ : qS} {r k : Nat} {n : Int} (hC : CR B D0 σ) (hz : gK σ r = 0) : CR B D0 (nA σ r k n) := CR_D0 hC (fun t ht => ⟨rfl, sm_nA hz (CR_live hC t ht).1⟩)
set_option maxRecDepth 100000 in
theorem law_start (hl : l.stackTraces = false) (hsc : sc = g.2.2.1 8 + 1) (hL : @LE.le Nat instLENat (g.2.2.1 9) 3072) (hP : ∀ σ, Post σ (.inl (some (vi 1)))) {A : Nat → Nat → Nat} (hA : qInj A) {σ : qS} : qW g l (M_law nm hh) 686622 7041831 0 [some (vr sc), none, none, none, none, none, none, none, none, none, none, none, none, none, none, none, none, none, none, none] [] σ Post := by
  refine wp_new (n := 5) dL_law_0 nw_RL_9 rfl (Nat.le_of_ble_eq_true rfl) (Nat.le_of_ble_eq_true rfl) (fun x hz hx => ?_)
  refine wp_dup dL_law_3 trivial ?_
  have kx : gK (nO σ x 8) x = 8 := if_pos rfl
  refine wp_callI (M' := M_X7_init) (As := []) (st := [vr x]) dL_law_4 cee_X7_init np_X7_init rfl ⟨Nat.le_of_ble_eq_true rfl, Nat.le_of_ble_eq_true rfl, Nat.le_of_ble_eq_true rfl, Nat.le_of_ble_eq_true rfl⟩ st_50 st_51 rfl rfl hx (q_small_of (Nat.le_of_ble_eq_true rfl)) (spec_init0 hl hA hx kx) (q_kTv0 (fun σ1 h1 => ?_)) q_kTv00
  refine wp_less (ac2 := 600000) (as2 := 7000000) (Nat.le_of_ble_eq_true rfl) (Nat.le_of_ble_eq_true rfl) ?_
  obtain ⟨B, hB, b0, hC1, -⟩ := h1
  refine wp_astore_n' (ls' := [some (vr sc), some (vr x), none, none, none, none, none, none, none, none, none, none, none, none, none, none, none, none, none, none]) dL_law_7 (Nat.le_of_ble_eq_true rfl) rfl ?_
  refine wp_bipush dL_law_8 (by decide) ?_
  refine wp_newarray (j := 0) dL_law_10 (by decide) (by decide) (Nat.le_of_ble_eq_true rfl) (Nat.le_of_ble_eq_true rfl) (fun r1 hz1 hr1 => ?_)
  refine wp_less (ac2 := 500000) (as2 := 6000000) (Nat.le_of_ble_eq_true rfl) (Nat.le_of_ble_eq_true rfl) ?_
  refine wp_astore_n' (ls' := [some (vr sc), some (vr x), some (vr r1), none, none, none, none, none, none, none, none, none, none, none, none, none, none, none, none, none]) dL_law_12 (Nat.le_of_ble_eq_true rfl) rfl ?_
  refine wp_bipush dL_law_13 (by decide) ?_
  refine wp_newarray (j := 0) dL_law_15 (by decide) (by decide) (Nat.le_of_ble_eq_true rfl) (Nat.le_of_ble_eq_true rfl) (fun r2 hz2 hr2 => ?_)
  refine wp_less (ac2 := 400000) (as2 := 5000000) (Nat.le_of_ble_eq_true rfl) (Nat.le_of_ble_eq_true rfl) ?_
  refine wp_astore_n' (ls' := [some (vr sc), some (vr x), some (vr r1), some (vr r2), none, none, none, none, none, none, none, none, none, none, none, none, none, none, none, none]) dL_law_17 (Nat.le_of_ble_eq_true rfl) rfl ?_
  refine wp_bipush dL_law_18 (by decide) ?_
  refine wp_newarray (j := 0) dL_law_20 (by decide) (by decide) (Nat.le_of_ble_eq_true rfl) (Nat.le_of_ble_eq_true rfl) (fun r3 hz3 hr3 => ?_)
  refine wp_less (ac2 := 300000) (as2 := 4000000) (Nat.le_of_ble_eq_true rfl) (Nat.le_of_ble_eq_true rfl) ?_
  refine wp_astore' (ls' := [some (vr sc), some (vr x), some (vr r1), some (vr r2), some (vr r3), none, none, none, none, none, none, none, none, none, none, none, none, none, none, none]) dL_law_22 (Nat.le_of_ble_eq_true rfl) rfl ?_
  refine wp_bipush dL_law_24 (by decide) ?_
  refine wp_newarray (j := 0) dL_law_26 (by decide) (by decide) (Nat.le_of_ble_eq_true rfl) (Nat.le_of_ble_eq_true rfl) (fun r4 hz4 hr4 => ?_)
  refine wp_less (ac2 := 2300 * 60) (as2 := 16200 * 60) (Nat.le_of_ble_eq_true rfl) (Nat.le_of_ble_eq_true rfl) ?_
  refine wp_astore' (ls' := [some (vr sc), some (vr x), some (vr r1), some (vr r2), some (vr r3), some (vr r4), none, none, none, none, none, none, none, none, none, none, none, none, none, none]) dL_law_28 (Nat.le_of_ble_eq_true rfl) rfl ?_
  refine wp_iconst dL_law_30 ?_
  refine wp_istore' (ls' := [some (vr sc), some (vr x), some (vr r1), some (vr r2), some (vr r3), some (vr r4), some (vi 0), none, none, none, none, none, none, none, none, none, none, none, none, none]) dL_law_31 (Nat.le_of_ble_eq_true rfl) rfl ?_
  refine wp_iconst dL_law_33 ?_
  refine wp_istore' (ls' := [some (vr sc), some (vr x), some (vr r1), some (vr r2), some (vr r3), some (vr r4), some (vi 0), some (vi 0), none, none, none, none, none, none, none, none, none, none, none, none]) dL_law_34 (Nat.le_of_ble_eq_true rfl) rfl ?_
  refine wp_iconst dL_law_36 ?_
  refine wp_istore' (ls' := [some (vr sc), some (vr x), some (vr r1), some (vr r2), some (vr r3), some (vr r4), some (vi 0), some (vi 0), some (vi 0), none, none, none, none, none, none, none, none, none, none, none]) dL_law_37 (Nat.le_of_ble_eq_true rfl) rfl ?_
  refine wp_iconst dL_law_39 ?_
  refine wp_istore' (ls' := lQ sc x r1 r2 r3 r4 0 0 0 0) dL_law_40 (Nat.le_of_ble_eq_true rfl) rfl ?_
  have hC2 := CR_nA (k := 20 + 0) (n := 40) hC1 hz1
  have hC3 := CR_nA (k := 20 + 0) (n := 40) hC2 hz2
  have hC4 := CR_nA (k := 20 + 0) (n := 40) hC3 hz3
  have hC5 := CR_nA (k := 20 + 0) (n := 40) hC4 hz4
  generalize h2 : nA σ1 r1 (20 + 0) 40 = σ2 at *
  generalize h3 : nA σ2 r2 (20 + 0) 40 = σ3 at *
  generalize h4 : nA σ3 r3 (20 + 0) 40 = σ4 at *
  generalize h5 : nA σ4 r4 (20 + 0) 40 = σ5 at *
  have a1 : gK σ2 r1 = 20 ∧ gN σ2 r1 = 40 ∧ ∀ i, gA σ2 r1 i = 0 := by rw [← h2]; exact ⟨if_pos rfl, if_pos rfl, fun i => if_pos rfl⟩
  have a2 : gK σ3 r2 = 20 ∧ gN σ3 r2 = 40 ∧ ∀ i, gA σ3 r2 i = 0 := by rw [← h3]; exact ⟨if_pos rfl, if_pos rfl, fun i => if_pos rfl⟩
  have a3 : gK σ4 r3 = 20 ∧ gN σ4 r3 = 40 ∧ ∀ i, gA σ4 r3 i = 0 := by rw [← h4]; exact ⟨if_pos rfl, if_pos rfl, fun i => if_pos rfl⟩
  have a4 : gK σ5 r4 = 20 ∧ gN σ5 r4 = 40 ∧ ∀ i, gA σ5 r4 i = 0 := by rw [← h5]; exact ⟨if_pos rfl, if_pos rfl, fun i => if_pos rfl⟩
  have s3 : ∀ z, gK σ2 z ≠ 0 → qSame σ2 σ3 z := fun z hz => by rw [← h3]; exact sm_nA hz2 hz
  have s4 : ∀ z, gK σ3 z ≠ 0 → qSame σ3 σ4 z := fun z hz => by rw [← h4]; exact sm_nA hz3 hz
  have s5 : ∀ z, gK σ4 z ≠ 0 → qSame σ4 σ5 z := fun z hz => by rw [← h5]; exact sm_nA hz4 hz
  have k1 : gK σ2 r1 ≠ 0 := by rw [a1.1]; decide
  have k1' : gK σ3 r1 ≠ 0 := by rw [(s3 _ k1).1]; exact k1
  have k1'' : gK σ4 r1 ≠ 0 := by rw [(s4 _ k1').1]; exact k1'
  have k2 : gK σ3 r2 ≠ 0 := by rw [a2.1]; decide
  have k2' : gK σ4 r2 ≠ 0 := by rw [(s4 _ k2).1]; exact k2
  have k3 : gK σ4 r3 ≠ 0 := by rw [a3.1]; decide
  have t1 : qSame σ2 σ5 r1 := qSame_tr (s3 _ k1) (qSame_tr (s4 _ k1') (s5 _ k1''))
  have t2 : qSame σ3 σ5 r2 := qSame_tr (s4 _ k2) (s5 _ k2')
  have t3 : qSame σ4 σ5 r3 := s5 _ k3
  have n12 : r1 ≠ r2 := ne_f k1 hz2
  have n13 : r1 ≠ r3 := ne_f k1' hz3
  have n14 : r1 ≠ r4 := ne_f k1'' hz4
  have n23 : r2 ≠ r3 := ne_f k2 hz3
  have n24 : r2 ≠ r4 := ne_f k2' hz4
  have n34 : r3 ≠ r4 := ne_f k3 hz4
  obtain ⟨hB5, hv5, hn5⟩ := swL_sp hB [(31, 0, r1), (32, 0, r2), (33, 0, r3), (34, 0, r4)] (by simp [hr1, hr2, hr3, hr4]) (by simp [n12, n13, n14, n23, n24, n34]) (by simp)
  generalize swL B [(31, 0, r1), (32, 0, r2), (33, 0, r3), (34, 0, r4)] = B5 at hB5 hv5 hn5
  have e31 : B5 31 0 = r1 := hv5 (31, 0, r1) (by simp)
  have e32 : B5 32 0 = r2 := hv5 (32, 0, r2) (by simp)
  have e33 : B5 33 0 = r3 := hv5 (33, 0, r3) (by simp)
  have e34 : B5 34 0 = r4 := hv5 (34, 0, r4) (by simp)
  have hsame : ∀ t ∈ cT, B5 t 0 = B t 0 := by
    intro t ht
    have hlt : t < 20 := by
      have : ∀ t ∈ cT, t < 20 := by decide
      exact this t ht
    have l1 := (CR_live hC1 t ht).1
    have l2 := (CR_live hC2 t ht).1
    have l3 := (CR_live hC3 t ht).1
    have l4 := (CR_live hC4 t ht).1
    refine hn5 t 0 (fun u hu => ?_) (fun u hu z => ?_)
    · simp only [List.mem_cons, List.not_mem_nil, or_false] at hu
      rcases hu with rfl | rfl | rfl | rfl
      · exact ne_f l1 hz1
      · exact ne_f l2 hz2
      · exact ne_f l3 hz3
      · exact ne_f l4 hz4
    · simp only [List.mem_cons, List.not_mem_nil, or_false] at hu
      rcases hu with rfl | rfl | rfl | rfl <;> (have := z.1; simp at this; omega)
  have hC6 : CR B5 D0 σ5 := CR_D0 hC5 (fun t ht => ⟨hsame t ht, qSame_rf σ5 _⟩)
  have hR : ∀ r, r = r1 ∨ r = r2 ∨ r = r3 ∨ r = r4 → gK σ5 r = 20 ∧ gN σ5 r = 40 := by
    intro r hr
    rcases hr with rfl | rfl | rfl | rfl
    · exact ⟨by rw [t1.1]; exact a1.1, by rw [t1.2.2.2.2.2.2]; exact a1.2.1⟩
    · exact ⟨by rw [t2.1]; exact a2.1, by rw [t2.2.2.2.2.2.2]; exact a2.2.1⟩
    · exact ⟨by rw [t3.1]; exact a3.1, by rw [t3.2.2.2.2.2.2]; exact a3.2.1⟩
    · exact ⟨a4.1, a4.2.1⟩
  have hLw : Lw B5 D0 σ5 x r1 r2 r3 r4 0 0 0 (3 * 0) := by
    refine ⟨⟨⟨by rw [hsame 0 (by decide)]; exact b0, e31, e32, e33, e34⟩, hB5, hC6, WF_D0, Sm_D0, hR⟩, ⟨fun q h => absurd h (Nat.not_lt_zero _), fun q h => absurd h.1 (Nat.not_lt_zero _), fun q _ => by rw [t3.2.2.2.1]; exact a3.2.2 _, fun b h => absurd h (Nat.not_lt_zero _)⟩, rfl, rfl, ⟨by decide, by decide⟩, fun _ => NoA_D0, Nat.le_refl _⟩
  exact law_loop hl hsc hL hP 60 0 B5 D0 σ5 0 0 0 rfl hLw
end
