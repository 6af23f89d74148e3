/-! the model: what is kept and put back -/
/-- rows copied: to, from, length -/
def cpI (A : Nat → Nat → Nat) (L : List (Nat × Nat × Int)) (σ0 σ1 : qS) : Prop := qMc A noI (fun t _ => t ∈ L.map (fun u => u.1)) σ0 σ1 ∧ ∀ u ∈ L, ∀ i, 0 ≤ i → i < u.2.2 → gA σ1 (A u.1 0) i = gA σ0 (A u.2.1 0) i
def told (t : Nat) : Nat := if t = 44 then 64 else if t = 45 then 65 else if t = 46 then 66 else if t = 48 then 67 else if t = 49 then 68 else if t = 53 then 69 else if t = 55 then 70 else if t = 56 then 71 else 72
theorem told_hi (t : Nat) : 64 ≤ told t ∧ told t ≤ 72 := by
  unfold told
  repeat (first | omega | split)
def kpL : List (Nat × Int) := [(44, 10), (45, 10), (46, 80), (48, 3), (49, 50), (53, 50), (55, 50), (56, 200), (57, 80)]
def cpK : List (Nat × Nat × Int) := [(73, 60, 250), (72, 57, 80), (71, 56, 200), (70, 55, 50), (69, 53, 50), (68, 49, 50), (67, 48, 3), (66, 46, 80), (65, 45, 10), (64, 44, 10)]
def cpB : List (Nat × Nat × Int) := [(57, 72, 80), (56, 71, 200), (55, 70, 50), (53, 69, 50), (49, 68, 50), (48, 67, 3), (46, 66, 80), (45, 65, 10), (44, 64, 10)]
section
variable {A : Nat → Nat → Nat} {D : qD} {σ σ' σ0 σ1 σ2 : qS}
theorem cpI_0 : cpI A [] σ σ := ⟨qMc_rf, fun u h => absurd h List.not_mem_nil⟩
theorem cpI_s (hA : qInj A) {L : List (Nat × Nat × Int)} {t s : Nat} {n : Int} (h : cpI A L σ0 σ1) (hc : qMc A noI (fun u _ => u = t) σ1 σ2) (hv : ∀ i, 0 ≤ i → i < n → gA σ2 (A t 0) i = gA σ1 (A s 0) i) (ht : t ∉ L.map (fun u => u.1)) (hs : s ∉ L.map (fun u => u.1)) : cpI A ((t, s, n) :: L) σ0 σ2 := by
  refine ⟨qMc_tr (qMc_mono h.1 (fun _ z => z) (fun u i z => List.mem_cons_of_mem _ z)) (qMc_mono hc (fun _ z => z) (fun u i z => by rw [z]; exact List.mem_cons_self)), fun u hu i i0 i1 => ?_⟩
  rcases List.mem_cons.mp hu with e | e
  · subst e
    rw [hv i i0 i1]
    exact qMc_at hA h.1 hs
  · rw [qMc_at hA hc (fun z => ht (by rw [← z]; exact List.mem_map.mpr ⟨u, e, rfl⟩))]
    exact h.2 u e i i0 i1
theorem MA1_map (hw : WF0 D) {τ τ' : Nat → Nat} (hk : ∀ u ∈ kpL, ∀ i, 0 ≤ i → i < u.2 → gA σ' (A (τ' u.1) 0) i = gA σ (A (τ u.1) 0) i) (h : MA1 A τ D σ) : MA1 A τ' D σ' := by
  obtain ⟨h1, h2, h3, h4⟩ := h
  have hn := hw.1
  have k44 : ∀ i, 0 ≤ i → i < 10 → gA σ' (A (τ' 44) 0) i = gA σ (A (τ 44) 0) i := hk (44, 10) (by decide)
  have k45 : ∀ i, 0 ≤ i → i < 10 → gA σ' (A (τ' 45) 0) i = gA σ (A (τ 45) 0) i := hk (45, 10) (by decide)
  have k46 : ∀ i, 0 ≤ i → i < 80 → gA σ' (A (τ' 46) 0) i = gA σ (A (τ 46) 0) i := hk (46, 80) (by decide)
  have k48 : ∀ i, 0 ≤ i → i < 3 → gA σ' (A (τ' 48) 0) i = gA σ (A (τ 48) 0) i := hk (48, 3) (by decide)
  have k49 : ∀ i, 0 ≤ i → i < 50 → gA σ' (A (τ' 49) 0) i = gA σ (A (τ 49) 0) i := hk (49, 50) (by decide)
  have k53 : ∀ i, 0 ≤ i → i < 50 → gA σ' (A (τ' 53) 0) i = gA σ (A (τ 53) 0) i := hk (53, 50) (by decide)
  have k55 : ∀ i, 0 ≤ i → i < 50 → gA σ' (A (τ' 55) 0) i = gA σ (A (τ 55) 0) i := hk (55, 50) (by decide)
  have k56 : ∀ i, 0 ≤ i → i < 200 → gA σ' (A (τ' 56) 0) i = gA σ (A (τ 56) 0) i := hk (56, 200) (by decide)
  have k57 : ∀ i, 0 ≤ i → i < 80 → gA σ' (A (τ' 57) 0) i = gA σ (A (τ 57) 0) i := hk (57, 80) (by decide)
  refine ⟨fun p hp' => ?_, fun t ht => ?_, fun q hq => ?_, fun b hb => ?_⟩
  · obtain ⟨a, b, c⟩ := h1 p hp'
    have hpn8 : pn D p ≤ 8 := by
      rcases Nat.lt_or_ge p (np D) with d | d
      · exact (hw.2.1 p d).2.2.1
      · unfold pn; rw [(hw.2.2.1 p d).2.2]; exact Nat.zero_le _
    exact ⟨by rw [k44 _ (by omega) (by omega)]; exact a, by rw [k45 _ (by omega) (by omega)]; exact b, fun i hi => by rw [k46 _ (by omega) (by omega)]; exact c i hi⟩
  · rw [k48 _ (by omega) (by omega)]; exact h2 t ht
  · obtain ⟨a, b, c, d⟩ := h3 q hq
    have h4' := (hw.2.2.2.2.1 q hq).2.2.1.2.2.1
    exact ⟨by rw [k49 _ (by omega) (by omega)]; exact a, by rw [k53 _ (by omega) (by omega)]; exact b, by rw [k55 _ (by omega) (by omega)]; exact c, fun k hk' => by rw [k56 _ (by omega) (by omega)]; exact d k hk'⟩
  · rw [k57 _ (by omega) (by omega)]; exact h4 b hb
theorem MA1_keep (hw : WF0 D) (hc : cpI A cpK σ σ') (h : MA1 A tid D σ) : MA1 A told D σ' := by
  refine MA1_map hw (fun u hu i i0 i1 => ?_) h
  have hall : ∀ u ∈ kpL, (told u.1, u.1, u.2) ∈ cpK := by decide
  exact hc.2 _ (hall u hu) i i0 i1
theorem MA1_put (hw : WF0 D) (hc : cpI A cpB σ σ') (h : MA1 A told D σ) : MA1 A tid D σ' := by
  refine MA1_map hw (fun u hu i i0 i1 => ?_) h
  have hall : ∀ u ∈ kpL, (u.1, told u.1, u.2) ∈ cpB := by decide
  exact hc.2 _ (hall u hu) i i0 i1
end
section
variable {g : qG} {l : Launch} {A : Nat → Nat → Nat} {D D1 : qD} {σ : qS}
theorem spec_keeps (hl : l.stackTraces = false) (hA : qInj A) (h : MS A σ) : qMet g l M_X8_keeps [vr (A 30 0)] σ (qTv0 (cpI A cpK σ)) := by
  have I0 : cpI A [] σ σ := cpI_0
  have S0 := h
  obtain ⟨a1, a2, a3⟩ := m324 S0
  obtain ⟨b1, b2, b3⟩ := m344 S0
  refine wm_X8_keeps hl ⟨S0.1, ?_⟩
  rw [a1, b1]
  refine ⟨_, spec_copies hl hA a2 a3 b2 b3 (by decide) (by decide), fun s1 hs => ?_⟩
  have I1 := cpI_s hA I0 hs.1 hs.2 (by decide) (by decide)
  have S1 : MS A s1 := MS_c I1.1 h
  clear hs a1 a2 a3 b1 b2 b3
  refine ⟨S1.1, ?_⟩
  obtain ⟨a1, a2, a3⟩ := m325 S1
  obtain ⟨b1, b2, b3⟩ := m345 S1
  rw [a1, b1]
  refine ⟨_, spec_copies hl hA a2 a3 b2 b3 (by decide) (by decide), fun s2 hs => ?_⟩
  have I2 := cpI_s hA I1 hs.1 hs.2 (by decide) (by decide)
  have S2 : MS A s2 := MS_c I2.1 h
  clear hs a1 a2 a3 b1 b2 b3
  refine ⟨S2.1, ?_⟩
  obtain ⟨a1, a2, a3⟩ := m326 S2
  obtain ⟨b1, b2, b3⟩ := m346 S2
  rw [a1, b1]
  refine ⟨_, spec_copies hl hA a2 a3 b2 b3 (by decide) (by decide), fun s3 hs => ?_⟩
  have I3 := cpI_s hA I2 hs.1 hs.2 (by decide) (by decide)
  have S3 : MS A s3 := MS_c I3.1 h
  clear hs a1 a2 a3 b1 b2 b3
  refine ⟨S3.1, ?_⟩
  obtain ⟨a1, a2, a3⟩ := m328 S3
  obtain ⟨b1, b2, b3⟩ := m347 S3
  rw [a1, b1]
  refine ⟨_, spec_copies hl hA a2 a3 b2 b3 (by decide) (by decide), fun s4 hs => ?_⟩
  have I4 := cpI_s hA I3 hs.1 hs.2 (by decide) (by decide)
  have S4 : MS A s4 := MS_c I4.1 h
  clear hs a1 a2 a3 b1 b2 b3
  refine ⟨S4.1, ?_⟩
  obtain ⟨a1, a2, a3⟩ := m329 S4
  obtain ⟨b1, b2, b3⟩ := m348 S4
  rw [a1, b1]
  refine ⟨_, spec_copies hl hA a2 a3 b2 b3 (by decide) (by decide), fun s5 hs => ?_⟩
  have I5 := cpI_s hA I4 hs.1 hs.2 (by decide) (by decide)
  have S5 : MS A s5 := MS_c I5.1 h
  clear hs a1 a2 a3 b1 b2 b3
  refine ⟨S5.1, ?_⟩
  obtain ⟨a1, a2, a3⟩ := m333 S5
  obtain ⟨b1, b2, b3⟩ := m349 S5
  rw [a1, b1]
  refine ⟨_, spec_copies hl hA a2 a3 b2 b3 (by decide) (by decide), fun s6 hs => ?_⟩
  have I6 := cpI_s hA I5 hs.1 hs.2 (by decide) (by decide)
  have S6 : MS A s6 := MS_c I6.1 h
  clear hs a1 a2 a3 b1 b2 b3
  refine ⟨S6.1, ?_⟩
  obtain ⟨a1, a2, a3⟩ := m335 S6
  obtain ⟨b1, b2, b3⟩ := m350 S6
  rw [a1, b1]
  refine ⟨_, spec_copies hl hA a2 a3 b2 b3 (by decide) (by decide), fun s7 hs => ?_⟩
  have I7 := cpI_s hA I6 hs.1 hs.2 (by decide) (by decide)
  have S7 : MS A s7 := MS_c I7.1 h
  clear hs a1 a2 a3 b1 b2 b3
  refine ⟨S7.1, ?_⟩
  obtain ⟨a1, a2, a3⟩ := m336 S7
  obtain ⟨b1, b2, b3⟩ := m351 S7
  rw [a1, b1]
  refine ⟨_, spec_copies hl hA a2 a3 b2 b3 (by decide) (by decide), fun s8 hs => ?_⟩
  have I8 := cpI_s hA I7 hs.1 hs.2 (by decide) (by decide)
  have S8 : MS A s8 := MS_c I8.1 h
  clear hs a1 a2 a3 b1 b2 b3
  refine ⟨S8.1, ?_⟩
  obtain ⟨a1, a2, a3⟩ := m337 S8
  obtain ⟨b1, b2, b3⟩ := m352 S8
  rw [a1, b1]
  refine ⟨_, spec_copies hl hA a2 a3 b2 b3 (by decide) (by decide), fun s9 hs => ?_⟩
  have I9 := cpI_s hA I8 hs.1 hs.2 (by decide) (by decide)
  have S9 : MS A s9 := MS_c I9.1 h
  clear hs a1 a2 a3 b1 b2 b3
  refine ⟨S9.1, ?_⟩
  obtain ⟨a1, a2, a3⟩ := m340 S9
  obtain ⟨b1, b2, b3⟩ := m353 S9
  rw [a1, b1]
  refine ⟨_, spec_copies hl hA a2 a3 b2 b3 (by decide) (by decide), fun s10 hs => ?_⟩
  have I10 := cpI_s hA I9 hs.1 hs.2 (by decide) (by decide)
  have S10 : MS A s10 := MS_c I10.1 h
  clear hs a1 a2 a3 b1 b2 b3
  exact ⟨rfl, I10⟩
/-- where trying a change and putting it back write -/
def stSA (D1 D : qD) : Nat → Int → Prop := fun t i => (44 ≤ t ∧ t ≤ 57 ∧ t ≠ 47 ∧ t ≠ 50 ∧ t ≠ 51 ∧ t ≠ 52 ∧ t ≠ 54) ∨ t = 61 ∨ t = 62 ∨ (t = 63 ∧ 0 ≤ i ∧ i < np D) ∨ (t = 60 ∧ ∃ q : Nat, (alP D1 q ∨ alP D q) ∧ 5 * (q : Int) ≤ i ∧ i < 5 * (q : Int) + 5)
def stP (A : Nat → Nat → Nat) (D1 D : qD) (σ : qS) : qS → Int → Prop := fun σ' v => qMc A noI (stSA D1 D) σ σ' ∧ ((v = 1 ∧ (∀ p, p < np D1 → OKp D1 p) ∧ Ans D1 ∧ MB A D1 σ' ∧ (∀ p, p < np D1 → ML A D1 σ' p) ∧ qMc A noI (allSA D1) σ σ') ∨ (v = 0 ∧ ¬ ((∀ p, p < np D1 → OKp D1 p) ∧ Ans D1) ∧ MB A D σ' ∧ ∀ p, p < np D → ML A D σ' p))
theorem allSA_st1 (hw1 : WF0 D1) (hn : np D = np D1) {t : Nat} {i : Int} (h : allSA D1 t i) : stSA D1 D t i := by
  obtain ⟨p, hp', z | ⟨z, z2⟩ | ⟨q, hq, z | z⟩⟩ := h
  · exact Or.inr (Or.inr (Or.inl z))
  · exact Or.inr (Or.inr (Or.inr (Or.inl ⟨z, by omega, by omega⟩)))
  · exact Or.inr (Or.inr (Or.inr (Or.inr ⟨z.1, q, Or.inl ((hw1.2.1 p hp').2.2.2 q hq).1, z.2⟩)))
  · exact Or.inr (Or.inl z.1)
theorem allSA_st2 (hw : WF0 D) {t : Nat} {i : Int} (h : allSA D t i) : stSA D1 D t i := by
  obtain ⟨p, hp', z | ⟨z, z2⟩ | ⟨q, hq, z | z⟩⟩ := h
  · exact Or.inr (Or.inr (Or.inl z))
  · exact Or.inr (Or.inr (Or.inr (Or.inl ⟨z, by omega, by omega⟩)))
  · exact Or.inr (Or.inr (Or.inr (Or.inr ⟨z.1, q, Or.inr ((hw.2.1 p hp').2.2.2 q hq).1, z.2⟩)))
  · exact Or.inr (Or.inl z.1)
theorem spec_stays (hl : l.stackTraces = false) (hA : qInj A) (hB1 : MB A D1 σ) (hw1 : WF0 D1) (h321 : gI σ 321 (A 30 0) = np D1) (h323 : gI σ 323 (A 30 0) = nb D1) (hold : MA1 A told D σ) (h2 : MA2 A D σ) (hw : WF D) (hn : np D = np D1) :
    qMet g l M_X8_stays [vr (A 30 0)] σ (qTi0 (stP A D1 D σ)) := by
  -- putting back
  have hput : ∀ σ7 : qS, qMc A noI (allSA D1) σ σ7 → ¬ ((∀ p, p < np D1 → OKp D1 p) ∧ Ans D1) → (∃ Mid7 : qS → Prop, qMet g l M_X8_copies [vr (gP σ7 344 (A 30 0)), vr (gP σ7 324 (A 30 0))] σ7 (qTv0 Mid7) ∧ ∀ (σ18 : qS), Mid7 σ18 → gK σ18 (A 30 0) = 9 ∧ (∃ Mid18 : qS → Prop, qMet g l M_X8_copies [vr (gP σ18 345 (A 30 0)), vr (gP σ18 325 (A 30 0))] σ18 (qTv0 Mid18) ∧ ∀ (σ26 : qS), Mid18 σ26 → gK σ26 (A 30 0) = 9 ∧ (∃ Mid26 : qS → Prop, qMet g l M_X8_copies [vr (gP σ26 346 (A 30 0)), vr (gP σ26 326 (A 30 0))] σ26 (qTv0 Mid26) ∧ ∀ (σ34 : qS), Mid26 σ34 → gK σ34 (A 30 0) = 9 ∧ (∃ Mid34 : qS → Prop, qMet g l M_X8_copies [vr (gP σ34 347 (A 30 0)), vr (gP σ34 328 (A 30 0))] σ34 (qTv0 Mid34) ∧ ∀ (σ42 : qS), Mid34 σ42 → gK σ42 (A 30 0) = 9 ∧ (∃ Mid42 : qS → Prop, qMet g l M_X8_copies [vr (gP σ42 348 (A 30 0)), vr (gP σ42 329 (A 30 0))] σ42 (qTv0 Mid42) ∧ ∀ (σ50 : qS), Mid42 σ50 → gK σ50 (A 30 0) = 9 ∧ (∃ Mid50 : qS → Prop, qMet g l M_X8_copies [vr (gP σ50 349 (A 30 0)), vr (gP σ50 333 (A 30 0))] σ50 (qTv0 Mid50) ∧ ∀ (σ58 : qS), Mid50 σ58 → gK σ58 (A 30 0) = 9 ∧ (∃ Mid58 : qS → Prop, qMet g l M_X8_copies [vr (gP σ58 350 (A 30 0)), vr (gP σ58 335 (A 30 0))] σ58 (qTv0 Mid58) ∧ ∀ (σ66 : qS), Mid58 σ66 → gK σ66 (A 30 0) = 9 ∧ (∃ Mid66 : qS → Prop, qMet g l M_X8_copies [vr (gP σ66 351 (A 30 0)), vr (gP σ66 336 (A 30 0))] σ66 (qTv0 Mid66) ∧ ∀ (σ74 : qS), Mid66 σ74 → gK σ74 (A 30 0) = 9 ∧ (∃ Mid74 : qS → Prop, qMet g l M_X8_copies [vr (gP σ74 352 (A 30 0)), vr (gP σ74 337 (A 30 0))] σ74 (qTv0 Mid74) ∧ ∀ (σ82 : qS), Mid74 σ82 → gK σ82 (A 30 0) = 9 ∧ (∃ Mid86 : qS → Int → Prop, qMet g l M_X8_laysAll [vr (A 30 0)] σ82 (qTi0 Mid86) ∧ ∀ (σ90 : qS) (v92 : Int), Mid86 σ90 v92 → qTi0 (stP A D1 D σ) σ90 (.inl (some (vi 0))))))))))))) := by
    intro s0 hc7 hno
    have S0 : MS A s0 := MS_c hc7 hB1.1
    have I0 : cpI A [] s0 s0 := cpI_0
    obtain ⟨a1, a2, a3⟩ := m344 S0
    obtain ⟨b1, b2, b3⟩ := m324 S0
    rw [a1, b1]
    refine ⟨_, spec_copies hl hA a2 a3 b2 b3 (by decide) (by decide), fun s1 hs => ?_⟩
    have I1 := cpI_s hA I0 hs.1 hs.2 (by decide) (by decide)
    have S1 : MS A s1 := MS_c I1.1 S0
    clear hs a1 a2 a3 b1 b2 b3
    refine ⟨S1.1, ?_⟩
    obtain ⟨a1, a2, a3⟩ := m345 S1
    obtain ⟨b1, b2, b3⟩ := m325 S1
    rw [a1, b1]
    refine ⟨_, spec_copies hl hA a2 a3 b2 b3 (by decide) (by decide), fun s2 hs => ?_⟩
    have I2 := cpI_s hA I1 hs.1 hs.2 (by decide) (by decide)
    have S2 : MS A s2 := MS_c I2.1 S0
    clear hs a1 a2 a3 b1 b2 b3
    refine ⟨S2.1, ?_⟩
    obtain ⟨a1, a2, a3⟩ := m346 S2
    obtain ⟨b1, b2, b3⟩ := m326 S2
    rw [a1, b1]
    refine ⟨_, spec_copies hl hA a2 a3 b2 b3 (by decide) (by decide), fun s3 hs => ?_⟩
    have I3 := cpI_s hA I2 hs.1 hs.2 (by decide) (by decide)
    have S3 : MS A s3 := MS_c I3.1 S0
    clear hs a1 a2 a3 b1 b2 b3
    refine ⟨S3.1, ?_⟩
    obtain ⟨a1, a2, a3⟩ := m347 S3
    obtain ⟨b1, b2, b3⟩ := m328 S3
    rw [a1, b1]
    refine ⟨_, spec_copies hl hA a2 a3 b2 b3 (by decide) (by decide), fun s4 hs => ?_⟩
    have I4 := cpI_s hA I3 hs.1 hs.2 (by decide) (by decide)
    have S4 : MS A s4 := MS_c I4.1 S0
    clear hs a1 a2 a3 b1 b2 b3
    refine ⟨S4.1, ?_⟩
    obtain ⟨a1, a2, a3⟩ := m348 S4
    obtain ⟨b1, b2, b3⟩ := m329 S4
    rw [a1, b1]
    refine ⟨_, spec_copies hl hA a2 a3 b2 b3 (by decide) (by decide), fun s5 hs => ?_⟩
    have I5 := cpI_s hA I4 hs.1 hs.2 (by decide) (by decide)
    have S5 : MS A s5 := MS_c I5.1 S0
    clear hs a1 a2 a3 b1 b2 b3
    refine ⟨S5.1, ?_⟩
    obtain ⟨a1, a2, a3⟩ := m349 S5
    obtain ⟨b1, b2, b3⟩ := m333 S5
    rw [a1, b1]
    refine ⟨_, spec_copies hl hA a2 a3 b2 b3 (by decide) (by decide), fun s6 hs => ?_⟩
    have I6 := cpI_s hA I5 hs.1 hs.2 (by decide) (by decide)
    have S6 : MS A s6 := MS_c I6.1 S0
    clear hs a1 a2 a3 b1 b2 b3
    refine ⟨S6.1, ?_⟩
    obtain ⟨a1, a2, a3⟩ := m350 S6
    obtain ⟨b1, b2, b3⟩ := m335 S6
    rw [a1, b1]
    refine ⟨_, spec_copies hl hA a2 a3 b2 b3 (by decide) (by decide), fun s7 hs => ?_⟩
    have I7 := cpI_s hA I6 hs.1 hs.2 (by decide) (by decide)
    have S7 : MS A s7 := MS_c I7.1 S0
    clear hs a1 a2 a3 b1 b2 b3
    refine ⟨S7.1, ?_⟩
    obtain ⟨a1, a2, a3⟩ := m351 S7
    obtain ⟨b1, b2, b3⟩ := m336 S7
    rw [a1, b1]
    refine ⟨_, spec_copies hl hA a2 a3 b2 b3 (by decide) (by decide), fun s8 hs => ?_⟩
    have I8 := cpI_s hA I7 hs.1 hs.2 (by decide) (by decide)
    have S8 : MS A s8 := MS_c I8.1 S0
    clear hs a1 a2 a3 b1 b2 b3
    refine ⟨S8.1, ?_⟩
    obtain ⟨a1, a2, a3⟩ := m352 S8
    obtain ⟨b1, b2, b3⟩ := m337 S8
    rw [a1, b1]
    refine ⟨_, spec_copies hl hA a2 a3 b2 b3 (by decide) (by decide), fun s9 hs => ?_⟩
    have I9 := cpI_s hA I8 hs.1 hs.2 (by decide) (by decide)
    have S9 : MS A s9 := MS_c I9.1 S0
    clear hs a1 a2 a3 b1 b2 b3
    refine ⟨S9.1, ?_⟩
    have hall : qMc A noI (stSA D1 D) σ s9 := by
      refine qMc_tr (qMc_mono hc7 (fun _ z => z) (fun t i z => allSA_st1 hw1 hn z)) (qMc_mono I9.1 (fun _ z => z) (fun t i z => Or.inl ?_))
      have : ∀ t ∈ cpB.map (fun u => u.1), 44 ≤ t ∧ t ≤ 57 ∧ t ≠ 47 ∧ t ≠ 50 ∧ t ≠ 51 ∧ t ≠ 52 ∧ t ≠ 54 := by decide
      exact this t z
    have hold7 : MA1 A told D s0 := MA1_c hA hc7 (fun t i ht z => by have := allSA_hi z; have := told_hi t; omega) hold
    have h27 : MA2 A D s9 := MA2_c hA hall (fun t i ht z => by unfold stSA at z; omega) h2
    have hB : MB A D s9 := ⟨S9, MA1_put hw.1 I9 hold7, h27⟩
    refine ⟨_, spec_laysAll hl hA hB hw.1 ?_, fun s10 v10 h10 => ⟨0, rfl, ?_, Or.inr ⟨rfl, hno, ?_, fun p hp' => h10.2.2 p hp' (hw.2.1 p hp')⟩⟩⟩
    · rw [qMc_f hall (fun z => z), h321, hn]
    · exact qMc_tr hall (qMc_mono h10.1 (fun _ z => z) (fun t i z => allSA_st2 hw.1 z))
    · exact MB_c hA h10.1 (fun t i t1 t2 z => by have := allSA_hi z; omega) hB
  refine wm_X8_stays hl ⟨hB1.1.1, _, spec_laysAll hl hA hB1 hw1 h321, fun σ7 v9 h7 => ?_⟩
  obtain ⟨hc7, hv9, hml⟩ := h7
  have hB7 : MB A D1 σ7 := MB_c hA hc7 (fun t i t1 t2 z => by have := allSA_hi z; omega) hB1
  have h01 : ∀ P : Prop, (cif P 1 0 : Int) = 0 ∨ (cif P 1 0 : Int) = 1 := fun P => by unfold cif; split <;> omega
  refine ⟨by rcases h01 (∀ p, p < np D1 → OKp D1 p) with z | z <;> (rw [hv9, z]; unfold qR; omega), fun hz => ⟨hB7.1.1, hput σ7 hc7 (fun z => by rw [hv9, cif_pos z.1] at hz; exact absurd hz (by decide))⟩, fun hnz => ⟨hB7.1.1, _, spec_areAnswered hl hB7 hw1 (by rw [qMc_f hc7 (fun z => z)]; exact h323), by rcases h01 (Ans D1) with z | z <;> (rw [z]; unfold qR; omega), fun ha => hput σ7 hc7 (fun z => by rw [cif_pos z.2] at ha; exact absurd ha (by decide)), fun ha => ⟨1, rfl, qMc_mono hc7 (fun _ z => z) (fun t i z => allSA_st1 hw1 hn z), Or.inl ⟨rfl, ?_, ?_, hB7, fun p hp' => ?_, hc7⟩⟩⟩⟩
  · by_cases c : ∀ p, p < np D1 → OKp D1 p
    · exact c
    · rw [hv9, cif_neg c] at hnz; exact absurd rfl hnz
  · by_cases c : Ans D1
    · exact c
    · rw [cif_neg c] at ha; exact absurd rfl ha
  · have hall : ∀ p, p < np D1 → OKp D1 p := by
      by_cases c : ∀ p, p < np D1 → OKp D1 p
      · exact c
      · rw [hv9, cif_neg c] at hnz; exact absurd rfl hnz
    exact hml p hp' (hall p hp')
end
