/-! the class: a new page -/
section
variable {A : Nat → Nat → Nat} {D : qD} {σ σ2 : qS}
theorem SR_ext (he : ∀ x, gK σ x ≠ 0 → qSame σ σ2 x) (h : SR A D σ) : SR A D σ2 := by
  obtain ⟨⟨b1, b2, b3, b4, b5, b6, b7, b8, b9, b10, b11, b12⟩, ⟨y1, y2, y3, y4, y5, y6, y7, y8⟩, ⟨r1, r2, r3, r4, r5, r6, r7⟩, h4, h5, h6⟩ := h
  have s0 := he (A 0 0) (by omega)
  have s1 := he (A 1 0) (by omega)
  have s2 := he (A 2 0) (by omega)
  have s3 := he (A 3 0) (by omega)
  have s4 := he (A 4 0) (by omega)
  have s8 := he (A 8 0) (by omega)
  have s9 := he (A 9 0) (by omega)
  have s18 := he (A 18 0) (by omega)
  have s19 := he (A 19 0) (by omega)
  refine ⟨?_, ?_, ?_, fun p hp' => ?_, fun q hq => ?_, fun b hb => ?_⟩
  · unfold BsR
    rw [s0.1, s0.2.2.1, s0.2.2.1, s0.2.2.1, s0.2.2.1, s0.2.2.1, s1.1, s1.2.2.2.2.2.1, s2.1, s2.2.2.2.2.2.1, s3.1, s3.2.2.2.2.2.1]
    exact ⟨b1, b2, b3, b4, b5, b6, b7, b8, b9, b10, b11, b12⟩
  · unfold LyR
    rw [s4.1, s4.2.2.1, s4.2.2.1, s9.1, s9.2.2.2.2.2.2, s18.1, s18.2.2.2.2.2.2]
    exact ⟨y1, y2, y3, y4, y5, fun t ht => by rw [s9.2.2.2.1]; exact y6 t ht, y7, y8⟩
  · unfold RdR
    rw [s8.1, s8.2.2.1, s8.2.2.1, s8.2.1, s19.1, s19.2.2.2.2.2.2]
    exact ⟨r1, r2, r3, r4, r5, fun i hi => by rw [s19.2.2.2.2.1]; exact r6 i hi, r7⟩
  · obtain ⟨⟨p1, p2, p3, p4, p5, p6⟩, p7⟩ := h4 p hp'
    have t1 := he (A 5 p) (by omega)
    have t2 := he (A 10 p) (by omega)
    unfold PgR
    rw [t1.1, t1.2.1, t1.2.1, t1.2.1, t1.2.2.1, t2.1, t2.2.2.2.2.2.1]
    exact ⟨⟨p1, p2, p3, p4, p5, p6⟩, p7⟩
  · obtain ⟨⟨a1, a2, a3, a4, a5, a6, a7, a8, a9, a10, a11, a12, a13, a14, a15, a16, a17⟩, p2⟩ := h5 q hq
    have t1 := he (A 6 q) (by omega)
    have t2 := he (A 11 q) (by omega)
    have t3 := he (A 12 q) (by omega)
    have t4 := he (A 13 q) (by omega)
    have t5 := he (A 14 q) (by omega)
    unfold PnR
    simp only [t1.1, t1.2.1, t1.2.2.1, t2.1, t2.2.2.2.2.2.1, t3.1, t3.2.2.2.2.2.1, t4.1, t5.1]
    refine ⟨⟨a1, a2, a3, a4, a5, a6, a7, a8, a9, a10, a11, a12, a13, a14, a15, a16, fun i hi => ?_⟩, p2⟩
    have f := a17 i hi
    have t6 := he (A 15 (2 * q + i)) (by have := f.1; omega)
    unfold FcR at f ⊢
    rw [t6.1, t6.2.1, t6.2.1, t6.2.1]
    exact f
  · obtain ⟨⟨b1, b2, b3, b4, b5, b6, b7, b8⟩, p2, p3⟩ := h6 b hb
    have t1 := he (A 7 b) (by omega)
    have t2 := he (A 16 b) (by omega)
    have t3 := he (A 17 b) (by omega)
    unfold BlR
    simp only [t1.1, t1.2.1, t1.2.2.1, t2.1, t3.1]
    exact ⟨⟨b1, b2, b3, b4, b5, b6, b7, b8⟩, p2, p3⟩
theorem LaR_ext (hw : WF0 D) (hS : SR A D σ) (he : ∀ x, gK σ x ≠ 0 → qSame σ σ2 x) {p : Nat} (hp' : p < np D) (h : LaR A D σ p) : LaR A D σ2 p := by
  obtain ⟨s1, s2, s3, s4, s5, s6⟩ := hS
  have hh := hom hw hp'
  refine LaR_of (WF0_Pg hw hp') h LyEq_rf (fun q hq => ⟨(hh q hq).1, (hh q hq).1, fun b hb => ⟨(hh q hq).2 b hb, (hh q hq).2 b hb⟩⟩) ((he (A 5 p) (by have := (s4 p hp').1.1; omega)).2.1 163) (fun q hq => ?_)
  obtain ⟨k1, k2⟩ := (hw.2.1 p hp').2.2.2 q hq
  have hP := (s5 q k1.1).1
  refine ⟨(he (A 6 q) (by have := hP.1; omega)).2.1 209, fun f _ _ => (he (A 13 q) (by have := hP.2.2.2.2.2.2.2.2.2.2.2.2.2.2.1; omega)).2.1 f, fun b hb f _ _ => ?_⟩
  have hB := (s6 b ((hw.2.2.2.2.1 q k1.1).2.2.2.2 k1.2 b hb).1.1).1
  exact (he (A 16 b) (by have := hB.2.2.2.2.2.2.1; omega)).2.1 f
def dPg (D : qD) : qD := dN D 0 0 (np D + 1)
theorem np_Pg : np (dPg D) = np D + 1 := by
  show q_u2 D.1 0 0 (np D + 1) 0 0 = _
  exact if_pos ⟨rfl, rfl⟩
theorem LyEq_Pg {p : Nat} : LyEq D (dPg D) p := ⟨rfl, rfl, rfl, fun q _ => ⟨rfl, rfl, rfl, rfl, rfl, fun b _ => rfl⟩⟩
theorem WF0_Pgn (hw : WF0 D) (hn : np D < 10) : WF0 (dPg D) := by
  obtain ⟨⟨n1, n2, n3⟩, w2, w3, w4, w5, w6, w7, w8, w9⟩ := hw
  obtain ⟨z1, z2, z3⟩ := w3 (np D) (Nat.le_refl _)
  refine ⟨⟨by rw [np_Pg]; omega, n2, n3⟩, fun p h => ?_, fun p h => ?_, w4, fun q hq => ?_, w6, w7, w8, fun p h => ?_⟩
  · rw [np_Pg] at h
    by_cases c : p = np D
    · subst c
      show (0 ≤ tg D (np D) ∧ tg D (np D) ≤ 2) ∧ (row D (np D)).Nodup ∧ (row D (np D)).length ≤ 8 ∧ ∀ q, q ∈ row D (np D) → _
      rw [z1, z3]
      exact ⟨by omega, List.nodup_nil, Nat.zero_le _, fun q hq => absurd hq (List.not_mem_nil)⟩
    · exact w2 p (by omega)
  · rw [np_Pg] at h
    exact w3 p (by omega)
  · obtain ⟨a, b, c⟩ := w5 q hq
    exact ⟨a, by rw [np_Pg]; show hp D q < _; omega, c⟩
  · rw [np_Pg] at h
    by_cases c : p = np D
    · subst c
      refine ⟨Or.inl z2, fun y => ?_⟩
      have : sp D (np D) = 1 := y
      omega
    · obtain ⟨a, b⟩ := w9 p (by omega)
      exact ⟨a, fun y => ⟨by rw [np_Pg]; have := (b y).1; omega, (b y).2⟩⟩
end
section
variable {g : qG} {l : Launch} {A : Nat → Nat → Nat} {D : qD} {σ : qS}
noncomputable def o_page (D : qD) : Int ⊕ Nat := cif (np D < 10) (.inl (np D)) (.inr 0)
noncomputable def d_page (D : qD) : qD := cif (np D < 10) (dPg D) D
theorem qSame_ne {x r : Nat} {σ σ2 : qS} (hx : gK σ x ≠ 0) (hr : gK σ r = 0) : x ≠ r := fun z => hx (by rw [z]; exact hr)
theorem spec_page (hl : l.stackTraces = false) (hA : qInj A) (h : CR A D σ) (hw : WF D) : qMet g l M_X7_page [vr (A 0 0)] σ (qClP A σ (o_page D) (d_page D)) := by
  have hn := hw.1.1.1
  have hS0 := CR_SR h
  unfold o_page d_page
  refine wm_X7_page hl ⟨h.1.1, by rw [h.1.2.1]; exact h.1.2.2.2.2.2.2.1, np D, by rw [h.1.2.1]; exact spec_sizePg hl h, by unfold qR; omega, fun h10 r7 hz7 hr7 σ10 h10' => ?_, fun h10 => ?_⟩
  · have hn10 : np D < 10 := by omega
    rw [cif_pos hn10, cif_pos hn10]
    have x10 : ∀ x, gK σ x ≠ 0 → qSame σ σ10 x := by
      intro x hx
      have hne : x ≠ r7 := fun z => hx (by rw [z]; exact hz7)
      rw [h10']
      exact ⟨if_neg hne, fun f => if_neg hne, fun f => if_neg hne, fun _ => rfl, fun _ => rfl, rfl, rfl⟩
    have hS10 := SR_ext x10 hS0
    have hK10 : gK σ10 r7 = 5 := by rw [h10']; exact if_pos rfl
    have hsz : ∀ σ3, SR A D σ3 → qMet g l M_Jx4a65c_size_8abf5 [vr (A 1 0)] σ3 (qPi σ3 (np D)) := fun σ3 h3 => by
      have := spec_sizeM (g := g) hl h3.1.2.2.2.2.2.2.1 h3.1.2.2.2.2.2.2.2.1
      rwa [List.length_range] at this
    rw [hS10.1.2.1]
    refine ⟨hS10.1.1, hS10.1.2.2.2.2.2.2.1, np D, hsz σ10 hS10, fun σ22 => ∃ r2, gK σ10 r2 = 0 ∧ r2 ≠ 0 ∧ (∀ x, gK σ10 x ≠ 0 → x ≠ r7 → qSame σ10 σ22 x) ∧ gK σ22 r7 = 5 ∧ gI σ22 160 r7 = np D ∧ gP σ22 161 r7 = r2 ∧ gI σ22 162 r7 = 0 ∧ gI σ22 163 r7 = 0 ∧ gI σ22 165 r7 = 0 ∧ gK σ22 r2 = 50 ∧ gL σ22 r2 = [], ?_, fun σ22 h22 => ?_⟩
    · refine wm_X4_init hl ⟨hr7, fun r2 hz2 hr2 σ5 h5 => ⟨_, spec_init hl (r := r2) (by rw [h5]; exact if_pos rfl) (by rw [h5]; exact if_pos rfl) hr2, fun σ13 h13 => ?_⟩⟩
      have h72 : r7 ≠ r2 := fun z => by rw [z] at hK10; omega
      have k13 : gK σ13 r7 = 5 := by
        rw [h13, h5]
        show (if r7 = r2 then 50 else if r7 = r2 then 10 else gK σ10 r7) = 5
        rw [if_neg h72, if_neg h72]; exact hK10
      refine ⟨k13, fun σ16 h16 σ18 h18 => ⟨rfl, r2, hz2, hr2, fun x hx hx7 => ?_, ?_, ?_, ?_, ?_, ?_, ?_, ?_, ?_⟩⟩
      · have hx2 : x ≠ r2 := fun z => hx (by rw [z]; exact hz2)
        rw [h18, h16, h13, h5]
        refine ⟨?_, fun f => ?_, fun f => ?_, fun _ => rfl, fun _ => rfl, ?_, rfl⟩
        · show (if x = r2 then 50 else if x = r2 then 10 else gK σ10 x) = _
          rw [if_neg hx2, if_neg hx2]
        · show (if f = 160 ∧ x = r7 then _ else if x = r2 then 0 else gI σ10 f x) = _
          rw [if_neg (fun z => hx7 z.2), if_neg hx2]
        · show (if f = 161 ∧ x = r7 then _ else if x = r2 then 0 else gP σ10 f x) = _
          rw [if_neg (fun z => hx7 z.2), if_neg hx2]
        · show (if x = r2 then [] else gL σ10 x) = _
          rw [if_neg hx2]
      · rw [h18, h16]; exact k13
      · rw [h18]; exact if_pos ⟨rfl, rfl⟩
      · rw [h18, h16]; exact if_pos ⟨rfl, rfl⟩
      · rw [h18, h16, h13, h5]
        show (if 162 = 160 ∧ r7 = r7 then (np D : Int) else if r7 = r2 then 0 else gI σ10 162 r7) = 0
        rw [if_neg (fun z => absurd z.1 (by decide)), if_neg h72, h10']; exact if_pos rfl
      · rw [h18, h16, h13, h5]
        show (if 163 = 160 ∧ r7 = r7 then (np D : Int) else if r7 = r2 then 0 else gI σ10 163 r7) = 0
        rw [if_neg (fun z => absurd z.1 (by decide)), if_neg h72, h10']; exact if_pos rfl
      · rw [h18, h16, h13, h5]
        show (if 165 = 160 ∧ r7 = r7 then (np D : Int) else if r7 = r2 then 0 else gI σ10 165 r7) = 0
        rw [if_neg (fun z => absurd z.1 (by decide)), if_neg h72, h10']; exact if_pos rfl
      · rw [h18, h16, h13]; exact if_pos rfl
      · rw [h18, h16, h13]; exact if_pos rfl
    · obtain ⟨r2, hz2, hr2, x22, k1, k2, k3, k4, k5, k6, k7, k8⟩ := h22
      have x02 : ∀ x, gK σ x ≠ 0 → qSame σ σ22 x := fun x hx => by
        have hne : x ≠ r7 := fun z => hx (by rw [z]; exact hz7)
        have a := x10 x hx
        exact qSame_tr a (x22 x (by rw [a.1]; exact hx) hne)
      have hz2' : gK σ r2 = 0 := by
        by_cases c : gK σ r2 = 0
        · exact c
        · have := (x10 r2 c).1; omega
      have h72 : r7 ≠ r2 := fun z => by rw [z] at hK10; omega
      have hS22 := SR_ext x02 hS0
      rw [hS22.1.2.1]
      refine ⟨hS22.1.1, hS22.1.2.2.2.2.2.2.1, _, spec_add hl hS22.1.2.2.2.2.2.2.1 (by omega) (by rw [hS22.1.2.2.2.2.2.2.2.1, List.length_map, List.length_range]; omega), fun σ31 v33 h31 => ?_⟩
      obtain ⟨rfl, h31⟩ := h31
      have hA1 := swA_inj (k := 5) (i := np D) hA hr7
      have hA2 := swA_inj (k := 10) (i := np D) hA1 hr2
      have hag : ∀ k i, gK σ (A k i) ≠ 0 → ¬ ((k = 5 ∨ k = 10) ∧ i = np D) → swA (swA A 5 (np D) r7) 10 (np D) r2 k i = A k i := by
        intro k i hk hki
        have n7 : A k i ≠ r7 := fun z => hk (by rw [z]; exact hz7)
        have n2 : A k i ≠ r2 := fun z => hk (by rw [z]; exact hz2')
        have e1 : swA A 5 (np D) r7 k i = A k i := swA_ne n7 (fun z => hki ⟨Or.inl z.1, z.2⟩)
        rw [swA_ne (by rw [e1]; exact n2) (fun z => hki ⟨Or.inr z.1, z.2⟩), e1]
      have h5n : swA (swA A 5 (np D) r7) 10 (np D) r2 5 (np D) = r7 := by
        rw [swA_ne (by rw [swA_at]; exact h72) (fun z => absurd z.1 (by decide)), swA_at]
      have h10n : swA (swA A 5 (np D) r7) 10 (np D) r2 10 (np D) = r2 := swA_at
      have hagL : ∀ k i, gK σ (A k i) ≠ 0 → Liv D k i → swA (swA A 5 (np D) r7) 10 (np D) r2 k i = A k i := fun k i hk hl => hag k i hk (fun z => by have := hl.1 z.1; omega)
      have hSw := SR_ext x02 (SR_sw hw.1 hagL hS0)
      have hLw : ∀ p, p < np D → LaR (swA (swA A 5 (np D) r7) 10 (np D) r2) D σ22 p := fun p hp2 => LaR_ext hw.1 (SR_sw hw.1 hagL hS0) x02 hp2 (LaR_sw hw.1 hagL hS0 hp2 (CR_La h hw.1 hp2))
      have e10 : swA (swA A 5 (np D) r7) 10 (np D) r2 1 0 = A 1 0 := hagL 1 0 (by have := h.1.2.2.2.2.2.2.1; omega) (liv (by decide) (by omega) (by omega) (by omega))
      have hwn := WF0_Pgn hw.1 hn10
      have z0 := hw.1.2.2.1 (np D) (Nat.le_refl _)
      generalize swA (swA A 5 (np D) r7) 10 (np D) r2 = B at *
      have hK31 : gK σ31 = gK σ22 := by rw [h31]; rfl
      have hI31 : gI σ31 = gI σ22 := by rw [h31]; rfl
      have hP31 : gP σ31 = gP σ22 := by rw [h31]; rfl
      have hN31 : gN σ31 = gN σ22 := by rw [h31]; rfl
      have hA31 : gA σ31 = gA σ22 := by rw [h31]; rfl
      have hR31 : gR σ31 = gR σ22 := by rw [h31]; rfl
      have hL31 : ∀ x, x ≠ B 1 0 → gL σ31 x = gL σ22 x := fun x hx => by rw [h31]; exact if_neg (by rw [e10] at hx; exact hx)
      obtain ⟨s1, s2, s3, s4, s5, s6⟩ := hSw
      obtain ⟨b1, b2, b3, b4, b5, b6, b7, b8, b9, b10, b11, b12⟩ := s1
      have hSR : SR B (dPg D) σ31 := by
        refine ⟨?_, ?_, ?_, fun p hp2 => ?_, fun q hq => ?_, fun b hb => ?_⟩
        · unfold BsR
          rw [hK31, hP31, hL31 (B 2 0) (by rw [Ne, hA2.1]; omega), hL31 (B 3 0) (by rw [Ne, hA2.1]; omega), np_Pg]
          refine ⟨b1, b2, b3, b4, b5, b6, b7, ?_, b9, b10, b11, b12⟩
          rw [h31, e10]
          refine (if_pos rfl).trans ?_
          rw [← e10, b8, List.range_succ, List.map_append, List.map_cons, List.map_nil, h5n]
        · unfold LyR at s2 ⊢
          rw [hK31, hP31, hN31, hA31]
          exact s2
        · unfold RdR at s3 ⊢
          rw [hK31, hP31, hN31, hI31, hR31]
          exact s3
        · rw [np_Pg] at hp2
          unfold PgR
          rw [hK31, hP31, hI31, hL31 (B 10 p) (by rw [Ne, hA2.1]; omega)]
          by_cases c : p = np D
          · subst c
            rw [h5n, h10n]
            refine ⟨⟨k1, k2, k3, k4.trans z0.1.symm, k7, k8.trans ?_⟩, k6.trans z0.2.1.symm⟩
            show [] = (row D (np D)).map _
            rw [z0.2.2]; rfl
          · exact s4 p (by omega)
        · have := s5 q hq
          unfold PnR FcR at this ⊢
          rw [hK31, hP31, hI31, hL31 (B 11 q) (by rw [Ne, hA2.1]; omega), hL31 (B 12 q) (by rw [Ne, hA2.1]; omega)]
          exact this
        · have := s6 b hb
          unfold BlR at this ⊢
          rw [hK31, hP31, hI31]
          exact this
      have hK7 : gK σ31 r7 = 5 := by rw [hK31]; exact k1
      refine ⟨hK7, B, hA2, fun k i hk hg => hag k i hg (fun z => by omega), SR_CR hSR hwn (fun p hp2 => ?_), fun x hx hn2 => ?_, ?_⟩
      · rw [np_Pg] at hp2
        by_cases c : p = np D
        · subst c
          refine ⟨?_, fun q hq => ?_⟩
          · rw [h5n, hI31, k5]
            have e : pn (dPg D) (np D) = 0 := by
              show (row D (np D)).length = 0
              rw [z0.2.2]; rfl
            unfold rowsOf
            rw [e]
            rfl
          · have : q ∈ row D (np D) := hq
            rw [z0.2.2] at this
            exact absurd this List.not_mem_nil
        · have hp3 : p < np D := by omega
          have hh := hom hw.1 hp3
          exact LaR_of (WF0_Pg hw.1 hp3) (hLw p hp3) LyEq_Pg (fun q hq => ⟨(hh q hq).1, (hh q hq).1, fun b hb => ⟨(hh q hq).2 b hb, (hh q hq).2 b hb⟩⟩) (by rw [hI31]) (fun q hq => ⟨by rw [hI31], fun f _ _ => by rw [hI31], fun b hb f _ _ => by rw [hI31]⟩)
      · have a := x02 x hx
        refine qSame_tr a ⟨by rw [hK31], fun _ => by rw [hI31], fun _ => by rw [hP31], fun _ => by rw [hA31], fun _ => by rw [hR31], hL31 x ?_, by rw [hN31]⟩
        rw [e10]
        exact hn2 1 0 (by omega)
      · rw [hI31, k2]; rfl
  · rw [cif_neg (by omega), cif_neg (by omega)]
    exact ⟨A, hA, fun _ _ _ _ => rfl, h, frm_rf, rfl⟩
end
