/-! the class: a new object -/
def swL (A : Nat → Nat → Nat) : List (Nat × Nat × Nat) → Nat → Nat → Nat
  | [] => A
  | t :: L => swA (swL A L) t.1 t.2.1 t.2.2
theorem swL_sp {A : Nat → Nat → Nat} (hA : qInj A) : ∀ L : List (Nat × Nat × Nat), (∀ t ∈ L, t.2.2 ≠ 0) → (L.map (fun t => t.2.2)).Nodup → (L.map (fun t => (t.1, t.2.1))).Nodup →
    qInj (swL A L) ∧ (∀ t ∈ L, swL A L t.1 t.2.1 = t.2.2) ∧ ∀ k j, (∀ t ∈ L, A k j ≠ t.2.2) → (∀ t ∈ L, ¬ (k = t.1 ∧ j = t.2.1)) → swL A L k j = A k j
  | [], _, _, _ => ⟨hA, fun t h => absurd h List.not_mem_nil, fun _ _ _ _ => rfl⟩
  | t :: L, h0, h1, h2 => by
    rw [List.map_cons, List.nodup_cons] at h1 h2
    obtain ⟨i1, i2, i3⟩ := swL_sp hA L (fun t' h => h0 t' (List.mem_cons_of_mem _ h)) h1.2 h2.2
    have ht := h0 t List.mem_cons_self
    refine ⟨swA_inj i1 ht, fun t' h' => ?_, fun k j hr hk => ?_⟩
    · rcases List.mem_cons.mp h' with e | e
      · rw [e]; exact swA_at
      · have e2 := i2 t' e
        show swA (swL A L) t.1 t.2.1 t.2.2 t'.1 t'.2.1 = _
        rw [swA_ne (by rw [e2]; exact fun z => h1.1 (List.mem_map.mpr ⟨t', e, z⟩)) (fun z => h2.1 (List.mem_map.mpr ⟨t', e, by rw [z.1, z.2]⟩)), e2]
    · have e3 := i3 k j (fun t' h => hr t' (List.mem_cons_of_mem _ h)) (fun t' h => hk t' (List.mem_cons_of_mem _ h))
      show swA (swL A L) t.1 t.2.1 t.2.2 k j = _
      rw [swA_ne (by rw [e3]; exact hr t List.mem_cons_self) (hk t List.mem_cons_self), e3]
def D0 : qD := (fun _ _ => 0, fun t _ => if t = 3 then 100 else if t = 11 then -1 else 0, fun _ _ => [], fun _ => [])
theorem WF_D0 : WF D0 := by
  refine ⟨⟨⟨by decide, by decide, by decide⟩, fun p h => absurd h (Nat.not_lt_zero _), fun p h => ⟨rfl, rfl, rfl⟩, fun t _ => ⟨(by decide : (50 : Int) ≤ 100), (by decide : (100 : Int) ≤ 250)⟩, fun q h => absurd h (Nat.not_lt_zero _), fun b h => absurd h (Nat.not_lt_zero _), Or.inl rfl, fun x h => absurd h List.not_mem_nil, fun p h => absurd h (Nat.not_lt_zero _)⟩, fun p h => absurd h (Nat.not_lt_zero _), fun b h => absurd h.1 (Nat.not_lt_zero _)⟩
section
variable {g : qG} {l : Launch} {σ : qS}
theorem spec_initL (hl : l.stackTraces = false) {r : Nat} (hr : r ≠ 0) (hK : gK σ r = 4) :
    qMet g l M_X3_init [vr r] σ (qTv0 (fun σ' => ∃ r2 r11, (gK σ r2 = 0 ∧ r2 ≠ 0) ∧ (gK σ r11 = 0 ∧ r11 ≠ 0) ∧ r11 ≠ r2 ∧ (∀ z, gK σ z ≠ 0 → z ≠ r → qSame σ σ' z) ∧ gK σ' r = 4 ∧ gP σ' 120 r = r2 ∧ gP σ' 121 r = r11 ∧ gK σ' r2 = 20 ∧ gN σ' r2 = 3 ∧ (∀ t : Nat, t < 3 → gA σ' r2 t = 100) ∧ gK σ' r11 = 20 ∧ gN σ' r11 = 16)) := by
  refine wm_X3_init hl ⟨hr, fun r2 hz2 hr2 σ5 h5 => ?_⟩
  have n2 : r ≠ r2 := fun z => by rw [z] at hK; omega
  have k5 : gK σ5 r = 4 := by rw [h5]; exact (if_neg n2).trans hK
  refine ⟨k5, fun σ9 h9 r11 hz11 hr11 σ14 h14 => ?_⟩
  have e9 : ∀ z, gK σ9 z = if z = r2 then 20 else gK σ z := fun z => by rw [h9, h5]; rfl
  have n11 : r11 ≠ r2 := fun z => by rw [e9, if_pos z] at hz11; exact absurd hz11 (by decide)
  rw [e9, if_neg n11] at hz11
  have nr : r ≠ r11 := fun z => by rw [z] at hK; omega
  have e14 : ∀ z, gK σ14 z = if z = r11 then 20 else gK σ9 z := fun z => by rw [h14]; rfl
  refine ⟨by rw [e14, if_neg nr, e9, if_neg n2]; exact hK, fun σ18 h18 => ?_⟩
  have eK : ∀ z, gK σ18 z = if z = r11 then 20 else if z = r2 then 20 else gK σ z := fun z => by rw [h18, h14, h9, h5]; rfl
  have eN : ∀ z, gN σ18 z = if z = r11 then 16 else if z = r2 then 3 else gN σ z := fun z => by rw [h18, h14, h9, h5]; rfl
  have eP : ∀ f z, gP σ18 f z = if f = 121 ∧ z = r then r11 else if f = 120 ∧ z = r then r2 else gP σ f z := fun f z => by rw [h18, h14, h9, h5]; rfl
  have eA : ∀ z i, gA σ18 z i = if z = r11 then 0 else if z = r2 then 0 else gA σ z i := fun z i => by rw [h18, h14, h9, h5]; rfl
  have eR : ∀ z i, gR σ18 z i = if z = r11 then 0 else if z = r2 then 0 else gR σ z i := fun z i => by rw [h18, h14, h9, h5]; rfl
  have eI : gI σ18 = gI σ := by rw [h18, h14, h9, h5]; rfl
  have eL : gL σ18 = gL σ := by rw [h18, h14, h9, h5]; rfl
  refine ⟨fun n x σ3 => ∃ k : Nat, x = k ∧ k ≤ 3 ∧ n = 3 - k ∧ qChg (fun f x => f = 999 ∧ x = r2) σ18 σ3 ∧ ∀ t : Nat, t < k → gA σ3 r2 t = 100, ⟨_, 0, rfl, Nat.zero_le _, rfl, qChg_rf, fun t z => absurd z (Nat.not_lt_zero _)⟩, ?_⟩
  rintro n x σ3 ⟨k, rfl, hk, rfl, hc, hv⟩
  obtain ⟨c1, c2, c3, c4, c5, c6, c7⟩ := id hc
  have p120 : gP σ3 120 r = r2 := by rw [c4, eP, if_neg (fun z => absurd z.1 (by decide)), if_pos ⟨rfl, rfl⟩]
  have k20 : gK σ3 r2 = 20 := by rw [c1, eK, if_neg (fun z => n11 z.symm), if_pos rfl]
  have n3 : gN σ3 r2 = 3 := by rw [c3, eN, if_neg (fun z => n11 z.symm), if_pos rfl]
  have k4 : gK σ3 r = 4 := by rw [c1, eK, if_neg nr, if_neg n2]; exact hK
  rw [p120, n3]
  refine ⟨k4, ⟨by decide, Or.inl k20⟩, by unfold qR; omega, by unfold qR; omega, fun hd => ⟨rfl, r2, r11, ⟨hz2, hr2⟩, ⟨hz11, hr11⟩, n11, fun z hz hzr => ?_, k4, p120, ?_, k20, n3, fun t ht => hv t (by omega), ?_, ?_⟩, fun hd => ⟨k20, ⟨by omega, by rw [n3]; omega⟩, fun σ35 h35 x37 h37 => ⟨_, ?_, k + 1, by omega, by omega, rfl, ?_, fun t ht => ?_⟩⟩⟩
  · have m2 : z ≠ r2 := fun e => hz (by rw [e]; exact hz2)
    have m11 : z ≠ r11 := fun e => hz (by rw [e]; exact hz11)
    refine ⟨by rw [c1, eK, if_neg m11, if_neg m2], fun f => by rw [c6 f z (fun y => m2 y.2), eI], fun f => by rw [c4, eP, if_neg (fun y => hzr y.2), if_neg (fun y => hzr y.2)], fun i => by rw [c7 z (fun y => m2 y.2), eA, if_neg m11, if_neg m2], fun i => by rw [c5, eR, if_neg m11, if_neg m2], by rw [c2, eL], by rw [c3, eN, if_neg m11, if_neg m2]⟩
  · rw [c4, eP, if_pos ⟨rfl, rfl⟩]
  · rw [c1, eK, if_pos rfl]
  · rw [c3, eN, if_pos rfl]
  · omega
  · exact qChg_tr hc (by rw [h35]; exact qChg_A ⟨rfl, rfl⟩) (fun _ _ z => z) (fun _ _ z => z)
  · rw [h35, gA_sA]
    by_cases c : t = k
    · rw [if_pos ⟨rfl, by omega⟩]
    · rw [if_neg (fun z => c (by omega))]
      exact hv t (by omega)
theorem spec_initR (hl : l.stackTraces = false) {r : Nat} (hr : r ≠ 0) (hK : gK σ r = 7) :
    qMet g l M_X6_init [vr r] σ (qTv0 (fun σ' => ∃ r2, (gK σ r2 = 0 ∧ r2 ≠ 0) ∧ (∀ z, gK σ z ≠ 0 → z ≠ r → qSame σ σ' z) ∧ gK σ' r = 7 ∧ gP σ' 240 r = r2 ∧ gK σ' r2 = 23 ∧ gN σ' r2 = 512 ∧ gI σ' 241 r = gI σ 241 r ∧ gP σ' 242 r = gP σ 242 r)) := by
  refine wm_X6_init hl ⟨hr, fun r2 hz2 hr2 σ5 h5 => ?_⟩
  have n2 : r ≠ r2 := fun z => by rw [z] at hK; omega
  have k5 : gK σ5 r = 7 := by rw [h5]; exact (if_neg n2).trans hK
  refine ⟨k5, fun σ9 h9 => ⟨rfl, r2, ⟨hz2, hr2⟩, fun z hz hzr => ?_, by rw [h9]; exact k5, by rw [h9]; exact if_pos ⟨rfl, rfl⟩, by rw [h9, h5]; exact if_pos rfl, by rw [h9, h5]; exact if_pos rfl, by rw [h9, h5]; rfl, ?_⟩⟩
  · have m2 : z ≠ r2 := fun e => hz (by rw [e]; exact hz2)
    rw [h9, h5]
    exact ⟨if_neg m2, fun _ => rfl, fun f => if_neg (fun y => hzr y.2), fun i => if_neg m2, fun i => if_neg m2, rfl, if_neg m2⟩
  · rw [h9, h5]
    rw [gP_sP, if_neg (fun y => absurd y.1 (by decide))]; rfl
/-- a list made and put into a field -/
theorem mkL {σ' : qS} {a r f : Nat} (ha : gK σ a ≠ 0) (hz : gK σ r = 0) (h : σ' = sP (sL (sK (nO σ r 10) r 50) r []) f a r) : (∀ z, gK σ z ≠ 0 → z ≠ a → qSame σ σ' z) ∧ gK σ' r = 50 ∧ gL σ' r = [] ∧ gK σ' a = gK σ a ∧ gP σ' f a = r ∧ ∀ f', f' ≠ f → gP σ' f' a = gP σ f' a := by
  have hn : a ≠ r := fun z => ha (by rw [z]; exact hz)
  rw [h]
  refine ⟨fun z hz' hza => ?_, if_pos rfl, if_pos rfl, ?_, if_pos ⟨rfl, rfl⟩, fun f' hf => ?_⟩
  · have m : z ≠ r := fun e => hz' (by rw [e]; exact hz)
    exact ⟨(if_neg m).trans (if_neg m), fun f => if_neg m, fun f => (if_neg (fun y => hza y.2)).trans (if_neg m), fun _ => rfl, fun _ => rfl, if_neg m, rfl⟩
  · exact (if_neg hn).trans (if_neg hn)
  · exact (if_neg (fun y => hf y.1)).trans (if_neg hn)
theorem fresh {σ1 σ2 : qS} {a r : Nat} (h : ∀ z, gK σ1 z ≠ 0 → z ≠ a → qSame σ1 σ2 z) (ha : gK σ2 a ≠ 0) (hr : gK σ2 r = 0) : gK σ1 r = 0 := by
  by_cases c : gK σ1 r = 0
  · exact c
  · by_cases d : r = a
    · rw [d] at hr; exact absurd hr ha
    · have := (h r c d).1
      rw [this] at hr
      exact hr
theorem ne_f {s : qS} {z r : Nat} (h1 : gK s z ≠ 0) (h2 : gK s r = 0) : z ≠ r := fun e => h1 (by rw [e]; exact h2)
theorem spec_init0 (hl : l.stackTraces = false) {A : Nat → Nat → Nat} (hA : qInj A) {a : Nat} (ha : a ≠ 0) (hK : gK σ a = 8) :
    qMet g l M_X7_init [vr a] σ (qTv0 (fun σ' => ∃ B, qInj B ∧ B 0 0 = a ∧ CR B D0 σ' ∧ ∀ z, gK σ z ≠ 0 → z ≠ a → qSame σ σ' z)) := by
  refine wm_X7_init hl ⟨ha, fun r2 hz2 hr2 σ5 h5 => ⟨_, spec_init hl (r := r2) (by rw [h5]; exact if_pos rfl) (by rw [h5]; exact if_pos rfl) hr2, fun σ13 h13 => ?_⟩⟩
  have t1 : ∀ σ16, σ16 = sP σ13 280 a r2 → σ16 = sP (sL (sK (nO σ r2 10) r2 50) r2 []) 280 a r2 := fun σ16 h => by rw [h, h13, h5]
  have ha1 : gK σ a ≠ 0 := by rw [hK]; decide
  obtain ⟨q1, -, -, e1, -⟩ := mkL ha1 hz2 (t1 _ rfl)
  refine ⟨by rw [← hK]; exact e1, fun σ16 h16 r18 hz18 hr18 σ21 h21 => ⟨_, spec_init hl (r := r18) (by rw [h21]; exact if_pos rfl) (by rw [h21]; exact if_pos rfl) hr18, fun σ29 h29 => ?_⟩⟩
  obtain ⟨q1, k2, l2, e1, p280, f1⟩ := mkL ha1 hz2 (t1 _ h16)
  have ha2 : gK σ16 a ≠ 0 := by rw [e1]; exact ha1
  have t2 : ∀ σ32, σ32 = sP σ29 281 a r18 → σ32 = sP (sL (sK (nO σ16 r18 10) r18 50) r18 []) 281 a r18 := fun σ32 h => by rw [h, h29, h21]
  obtain ⟨-, -, -, e2, -⟩ := mkL ha2 hz18 (t2 _ rfl)
  refine ⟨by rw [← hK, ← e1]; exact e2, fun σ32 h32 r34 hz34 hr34 σ37 h37 => ⟨_, spec_init hl (r := r34) (by rw [h37]; exact if_pos rfl) (by rw [h37]; exact if_pos rfl) hr34, fun σ45 h45 => ?_⟩⟩
  obtain ⟨q2, k18, l18, e2, p281, f2⟩ := mkL ha2 hz18 (t2 _ h32)
  have ha3 : gK σ32 a ≠ 0 := by rw [e2]; exact ha2
  have t3 : ∀ σ48, σ48 = sP σ45 282 a r34 → σ48 = sP (sL (sK (nO σ32 r34 10) r34 50) r34 []) 282 a r34 := fun σ48 h => by rw [h, h45, h37]
  obtain ⟨-, -, -, e3, -⟩ := mkL ha3 hz34 (t3 _ rfl)
  refine ⟨by rw [← hK, ← e1, ← e2]; exact e3, fun σ48 h48 r50 hz50 hr50 σ53 h53 => ⟨_, spec_initL hl (r := r50) hr50 (by rw [h53]; exact if_pos rfl), fun σ61 h61 => ?_⟩⟩
  obtain ⟨q3, k34, l34, e3, p282, f3⟩ := mkL ha3 hz34 (t3 _ h48)
  have ha4 : gK σ48 a ≠ 0 := by rw [e3]; exact ha3
  have n50 : ∀ z, gK σ48 z ≠ 0 → z ≠ r50 := fun z hz => ne_f hz hz50
  have q53 : ∀ z, gK σ48 z ≠ 0 → qSame σ48 σ53 z := fun z hz => by
    rw [h53]
    exact ⟨if_neg (n50 z hz), fun f => if_neg (n50 z hz), fun f => if_neg (n50 z hz), fun _ => rfl, fun _ => rfl, rfl, rfl⟩
  have k53 : gK σ53 r50 = 4 := by rw [h53]; exact if_pos rfl
  obtain ⟨y1, y2, hy1, hy2, n21, q61, k50, p120, p121, ky1, ny1, ay1, ky2, ny2⟩ := h61
  have q4 : ∀ z, gK σ48 z ≠ 0 → qSame σ48 σ61 z := fun z hz => by
    have a1 := q53 z hz
    exact qSame_tr a1 (q61 z (by rw [a1.1]; exact hz) (n50 z hz))
  have e4 : gK σ61 a = 8 := by rw [(q4 a ha4).1, e3, e2, e1]; exact hK
  refine ⟨e4, fun σ64 h64 r66 hz66 hr66 σ69 h69 => ⟨_, spec_initR hl (r := r66) hr66 (by rw [h69]; exact if_pos rfl), fun σ77 h77 => ?_⟩⟩
  have q64 : ∀ z, gK σ61 z ≠ 0 → z ≠ a → qSame σ61 σ64 z := fun z hz hza => by
    rw [h64]
    exact ⟨rfl, fun _ => rfl, fun f => if_neg (fun y => hza y.2), fun _ => rfl, fun _ => rfl, rfl, rfl⟩
  have g64 : gK σ64 = gK σ61 := by rw [h64]; rfl
  have n66 : ∀ z, gK σ64 z ≠ 0 → z ≠ r66 := fun z hz => ne_f hz hz66
  have q69 : ∀ z, gK σ64 z ≠ 0 → qSame σ64 σ69 z := fun z hz => by
    rw [h69]
    exact ⟨if_neg (n66 z hz), fun f => if_neg (n66 z hz), fun f => if_neg (n66 z hz), fun _ => rfl, fun _ => rfl, rfl, rfl⟩
  have k69 : gK σ69 r66 = 7 := by rw [h69]; exact if_pos rfl
  obtain ⟨y3, hy3, q77, k66, p240, ky3, ny3, i241, p242⟩ := h77
  have q5 : ∀ z, gK σ64 z ≠ 0 → qSame σ64 σ77 z := fun z hz => by
    have a1 := q69 z hz
    exact qSame_tr a1 (q77 z (by rw [a1.1]; exact hz) (n66 z hz))
  have ha5 : gK σ64 a ≠ 0 := by rw [g64, e4]; decide
  refine ⟨by rw [(q5 a ha5).1, g64]; exact e4, fun σ80 h80 => ?_⟩
  have g80 : gK σ80 = gK σ77 := by rw [h80]; rfl
  have q80 : ∀ z, z ≠ a → qSame σ77 σ80 z := fun z hza => by
    rw [h80]
    exact ⟨rfl, fun _ => rfl, fun f => if_neg (fun y => hza y.2), fun _ => rfl, fun _ => rfl, rfl, rfl⟩
  -- from each heap to the last
  have w5 : ∀ z, gK σ64 z ≠ 0 → z ≠ a → qSame σ64 σ80 z := fun z hz hza => qSame_tr (q5 z hz) (q80 z hza)
  have w4' : ∀ z, gK σ61 z ≠ 0 → z ≠ a → qSame σ61 σ80 z := fun z hz hza => qSame_tr (q64 z hz hza) (w5 z (by rw [g64]; exact hz) hza)
  have w4 : ∀ z, gK σ48 z ≠ 0 → z ≠ a → qSame σ48 σ80 z := fun z hz hza => qSame_tr (q4 z hz) (w4' z (by rw [(q4 z hz).1]; exact hz) hza)
  have w3 : ∀ z, gK σ32 z ≠ 0 → z ≠ a → qSame σ32 σ80 z := fun z hz hza => qSame_tr (q3 z hz hza) (w4 z (by rw [(q3 z hz hza).1]; exact hz) hza)
  have w2 : ∀ z, gK σ16 z ≠ 0 → z ≠ a → qSame σ16 σ80 z := fun z hz hza => qSame_tr (q2 z hz hza) (w3 z (by rw [(q2 z hz hza).1]; exact hz) hza)
  have w1 : ∀ z, gK σ z ≠ 0 → z ≠ a → qSame σ σ80 z := fun z hz hza => qSame_tr (q1 z hz hza) (w2 z (by rw [(q1 z hz hza).1]; exact hz) hza)
  -- all apart
  have d1 := ne_f ha1 hz2
  have o2 : gK σ16 r2 ≠ 0 := by rw [k2]; decide
  have d2 := ne_f ha2 hz18
  have d3 := ne_f o2 hz18
  have o3 : gK σ32 r2 ≠ 0 := by rw [(q2 r2 o2 (fun z => d1 z.symm)).1]; exact o2
  have o4 : gK σ32 r18 ≠ 0 := by rw [k18]; decide
  have d4 := ne_f ha3 hz34
  have d5 := ne_f o3 hz34
  have d6 := ne_f o4 hz34
  have o5 : gK σ48 r2 ≠ 0 := by rw [(q3 r2 o3 (fun z => d1 z.symm)).1]; exact o3
  have o6 : gK σ48 r18 ≠ 0 := by rw [(q3 r18 o4 (fun z => d2 z.symm)).1]; exact o4
  have o7 : gK σ48 r34 ≠ 0 := by rw [k34]; decide
  have d7 := n50 a ha4
  have d8 := n50 r2 o5
  have d9 := n50 r18 o6
  have d10 := n50 r34 o7
  have o53 : ∀ z, gK σ48 z ≠ 0 → gK σ53 z ≠ 0 := fun z hz => by rw [(q53 z hz).1]; exact hz
  have o50 : gK σ53 r50 ≠ 0 := by rw [k53]; decide
  have d11 := ne_f (o53 a ha4) hy1.1
  have d12 := ne_f (o53 r2 o5) hy1.1
  have d13 := ne_f (o53 r18 o6) hy1.1
  have d14 := ne_f (o53 r34 o7) hy1.1
  have d15 := ne_f o50 hy1.1
  have d16 := ne_f (o53 a ha4) hy2.1
  have d17 := ne_f (o53 r2 o5) hy2.1
  have d18 := ne_f (o53 r18 o6) hy2.1
  have d19 := ne_f (o53 r34 o7) hy2.1
  have d20 := ne_f o50 hy2.1
  have d21 : y1 ≠ y2 := fun z => n21 z.symm
  have o61 : ∀ z, gK σ48 z ≠ 0 → gK σ64 z ≠ 0 := fun z hz => by rw [g64, (q4 z hz).1]; exact hz
  have o8 : gK σ64 r50 ≠ 0 := by rw [g64, k50]; decide
  have o9 : gK σ64 y1 ≠ 0 := by rw [g64, ky1]; decide
  have o10 : gK σ64 y2 ≠ 0 := by rw [g64, ky2]; decide
  have d22 := n66 a ha5
  have d23 := n66 r2 (o61 _ o5)
  have d24 := n66 r18 (o61 _ o6)
  have d25 := n66 r34 (o61 _ o7)
  have d26 := n66 r50 o8
  have d27 := n66 y1 o9
  have d28 := n66 y2 o10
  have o69 : ∀ z, gK σ64 z ≠ 0 → gK σ69 z ≠ 0 := fun z hz => by rw [(q69 z hz).1]; exact hz
  have o11 : gK σ69 r66 ≠ 0 := by rw [k69]; decide
  have d29 := ne_f (o69 _ ha5) hy3.1
  have d30 := ne_f (o69 _ (o61 _ o5)) hy3.1
  have d31 := ne_f (o69 _ (o61 _ o6)) hy3.1
  have d32 := ne_f (o69 _ (o61 _ o7)) hy3.1
  have d33 := ne_f (o69 _ o8) hy3.1
  have d34 := ne_f (o69 _ o9) hy3.1
  have d35 := ne_f (o69 _ o10) hy3.1
  have d36 := ne_f o11 hy3.1
  obtain ⟨hB, hBv, -⟩ := swL_sp hA [(0, 0, a), (1, 0, r2), (2, 0, r18), (3, 0, r34), (4, 0, r50), (9, 0, y1), (18, 0, y2), (8, 0, r66), (19, 0, y3)] (by simp [ha, hr2, hr18, hr34, hr50, hy1.2, hy2.2, hr66, hy3.2]) (by simp [d1, d2, d3, d4, d5, d6, d7, d8, d9, d10, d11, d12, d13, d14, d15, d16, d17, d18, d19, d20, d21, d22, d23, d24, d25, d26, d27, d28, d29, d30, d31, d32, d33, d34, d35, d36]) (by simp)
  generalize swL A [(0, 0, a), (1, 0, r2), (2, 0, r18), (3, 0, r34), (4, 0, r50), (9, 0, y1), (18, 0, y2), (8, 0, r66), (19, 0, y3)] = B at hB hBv
  have b0 : B 0 0 = a := hBv (0, 0, a) (by simp)
  have b1 : B 1 0 = r2 := hBv (1, 0, r2) (by simp)
  have b2 : B 2 0 = r18 := hBv (2, 0, r18) (by simp)
  have b3 : B 3 0 = r34 := hBv (3, 0, r34) (by simp)
  have b4 : B 4 0 = r50 := hBv (4, 0, r50) (by simp)
  have b9 : B 9 0 = y1 := hBv (9, 0, y1) (by simp)
  have b18 : B 18 0 = y2 := hBv (18, 0, y2) (by simp)
  have b8 : B 8 0 = r66 := hBv (8, 0, r66) (by simp)
  have b19 : B 19 0 = y3 := hBv (19, 0, y3) (by simp)
  have s2 := w2 r2 o2 (fun z => d1 z.symm)
  have s18 := w3 r18 o4 (fun z => d2 z.symm)
  have s34 := w4 r34 o7 (fun z => d4 z.symm)
  have s50 := w5 r50 o8 (fun z => d7 z.symm)
  have sy1 := w5 y1 o9 (fun z => d11 z.symm)
  have sy2 := w5 y2 o10 (fun z => d16 z.symm)
  have s66 := q80 r66 (fun z => d22 z.symm)
  have sy3 := q80 y3 (fun z => d29 z.symm)
  have t50 := q64 r50 (by rw [k50]; decide) (fun z => d7 z.symm)
  have ty1 := q64 y1 (by rw [ky1]; decide) (fun z => d11 z.symm)
  have ty2 := q64 y2 (by rw [ky2]; decide) (fun z => d16 z.symm)
  have pa : ∀ f, gP σ80 f a = if f = 284 then r66 else if f = 283 then r50 else gP σ48 f a := by
    intro f
    rw [h80, gP_sP]
    by_cases c : f = 284
    · rw [if_pos ⟨c, rfl⟩, if_pos c]
    · rw [if_neg (fun z => c z.1), if_neg c, (q5 a ha5).2.2.1, h64, gP_sP]
      by_cases d : f = 283
      · rw [if_pos ⟨d, rfl⟩, if_pos d]
      · rw [if_neg (fun z => d z.1), if_neg d, (q4 a ha4).2.2.1]
  refine ⟨rfl, B, hB, b0, ⟨?_, ?_, ?_, fun p h => absurd h (Nat.not_lt_zero _), fun q h => absurd h (Nat.not_lt_zero _), fun b h => absurd h (Nat.not_lt_zero _)⟩, w1⟩
  · unfold BsR
    rw [b0, b1, b2, b3, b4, b8, pa, pa, pa, pa, pa]
    refine ⟨?_, ?_, ?_, ?_, rfl, rfl, ?_, ?_, ?_, ?_, ?_, ?_⟩
    · rw [g80, (q5 a ha5).1, g64]; exact e4
    · show gP σ48 280 a = r2
      rw [f3 280 (by decide), f2 280 (by decide)]; exact p280
    · show gP σ48 281 a = r18
      rw [f3 281 (by decide)]; exact p281
    · exact p282
    · rw [s2.1]; exact k2
    · rw [s2.2.2.2.2.2.1]; exact l2
    · rw [s18.1]; exact k18
    · rw [s18.2.2.2.2.2.1]; exact l18
    · rw [s34.1]; exact k34
    · rw [s34.2.2.2.2.2.1]; exact l34
  · unfold LyR
    rw [b4, b9, b18]
    refine ⟨?_, ?_, ?_, ?_, ?_, fun t ht => ?_, ?_, ?_⟩
    · rw [s50.1, t50.1]; exact k50
    · rw [s50.2.2.1, t50.2.2.1]; exact p120
    · rw [s50.2.2.1, t50.2.2.1]; exact p121
    · rw [sy1.1, ty1.1]; exact ky1
    · rw [sy1.2.2.2.2.2.2, ty1.2.2.2.2.2.2]; exact ny1
    · rw [sy1.2.2.2.1, ty1.2.2.2.1]; exact ay1 t ht
    · rw [sy2.1, ty2.1]; exact ky2
    · rw [sy2.2.2.2.2.2.2, ty2.2.2.2.2.2.2]; exact ny2
  · unfold RdR
    rw [b8, b19]
    refine ⟨?_, ?_, ?_, ?_, ?_, fun i hi => absurd hi (Nat.not_lt_zero _), ?_⟩
    · rw [s66.1]; exact k66
    · rw [s66.2.2.1]; exact p240
    · rw [sy3.1]; exact ky3
    · rw [sy3.2.2.2.2.2.2]; exact ny3
    · rw [s66.2.1, i241, h69]; exact if_pos rfl
    · rw [s66.2.2.1, p242, h69]; exact if_pos rfl
end
