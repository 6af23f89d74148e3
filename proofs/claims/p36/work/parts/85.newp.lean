/-! the book with a new panel -/
def dNp (D : qD) (p i : Nat) (w wd0 ht0 : Int) : qD := dF (dL (dL (dI (dI (dI (dI (dN (dN D 0 1 (nq D + 1)) 1 (nq D) p) 4 (nq D) 0) 5 (nq D) w) 6 (nq D) wd0) 7 (nq D) ht0) 0 p ((row D p).insertIdx i (nq D))) 1 (nq D) []) (nq D) []
def pnOkV (w wd0 ht0 : Int) : Prop := (1 ≤ w ∧ w ≤ 9) ∧ (4 ≤ wd0 ∧ wd0 ≤ 24) ∧ 3 ≤ ht0 ∧ ht0 ≤ 12
section
variable {D : qD} {p i : Nat} {w x y : Int}
theorem N_Np (t b : Nat) : (dNp D p i w x y).1 t b = if t = 1 ∧ b = nq D then p else if t = 0 ∧ b = 1 then nq D + 1 else D.1 t b := rfl
theorem I_Np (t b : Nat) : (dNp D p i w x y).2.1 t b = if t = 7 ∧ b = nq D then y else if t = 6 ∧ b = nq D then x else if t = 5 ∧ b = nq D then w else if t = 4 ∧ b = nq D then 0 else D.2.1 t b := rfl
theorem L_Np (t b : Nat) : (dNp D p i w x y).2.2.1 t b = if t = 1 ∧ b = nq D then [] else if t = 0 ∧ b = p then (row D p).insertIdx i (nq D) else D.2.2.1 t b := rfl
theorem np_Np : np (dNp D p i w x y) = np D := by
  show (dNp D p i w x y).1 0 0 = _
  rw [N_Np, if_neg (fun z => absurd z.1 (by decide)), if_neg (fun z => absurd z.2 (by decide))]; rfl
theorem nq_Np : nq (dNp D p i w x y) = nq D + 1 := by
  show (dNp D p i w x y).1 0 1 = _
  rw [N_Np, if_neg (fun z => absurd z.1 (by decide)), if_pos ⟨rfl, rfl⟩]
theorem nb_Np : nb (dNp D p i w x y) = nb D := by
  show (dNp D p i w x y).1 0 2 = _
  rw [N_Np, if_neg (fun z => absurd z.1 (by decide)), if_neg (fun z => absurd z.2 (by decide))]; rfl
theorem hb_Np {b : Nat} : hb (dNp D p i w x y) b = hb D b := by
  show (dNp D p i w x y).1 2 b = _
  rw [N_Np, if_neg (fun z => absurd z.1 (by decide)), if_neg (fun z => absurd z.1 (by decide))]; rfl
theorem hp_Np {q : Nat} : hp (dNp D p i w x y) q = if q = nq D then p else hp D q := by
  show (dNp D p i w x y).1 1 q = _
  rw [N_Np]
  by_cases c : q = nq D
  · rw [if_pos ⟨rfl, c⟩, if_pos c]
  · rw [if_neg (fun z => c z.2), if_neg c, if_neg (fun z => absurd z.1 (by decide))]; rfl
theorem gq_Np {q : Nat} : gq (dNp D p i w x y) q = if q = nq D then 0 else gq D q := by
  show (dNp D p i w x y).2.1 4 q = _
  rw [I_Np, if_neg (fun z => absurd z.1 (by decide)), if_neg (fun z => absurd z.1 (by decide)), if_neg (fun z => absurd z.1 (by decide))]
  by_cases c : q = nq D
  · rw [if_pos ⟨rfl, c⟩, if_pos c]
  · rw [if_neg (fun z => c z.2), if_neg c]; rfl
theorem wt_Np {q : Nat} : wt (dNp D p i w x y) q = if q = nq D then w else wt D q := by
  show (dNp D p i w x y).2.1 5 q = _
  rw [I_Np, if_neg (fun z => absurd z.1 (by decide)), if_neg (fun z => absurd z.1 (by decide))]
  by_cases c : q = nq D
  · rw [if_pos ⟨rfl, c⟩, if_pos c]
  · rw [if_neg (fun z => c z.2), if_neg c, if_neg (fun z => absurd z.1 (by decide))]; rfl
theorem wd_Np {q : Nat} : wd (dNp D p i w x y) q = if q = nq D then x else wd D q := by
  show (dNp D p i w x y).2.1 6 q = _
  rw [I_Np, if_neg (fun z => absurd z.1 (by decide))]
  by_cases c : q = nq D
  · rw [if_pos ⟨rfl, c⟩, if_pos c]
  · rw [if_neg (fun z => c z.2), if_neg c, if_neg (fun z => absurd z.1 (by decide)), if_neg (fun z => absurd z.1 (by decide))]; rfl
theorem ht_Np {q : Nat} : ht (dNp D p i w x y) q = if q = nq D then y else ht D q := by
  show (dNp D p i w x y).2.1 7 q = _
  rw [I_Np]
  by_cases c : q = nq D
  · rw [if_pos ⟨rfl, c⟩, if_pos c]
  · rw [if_neg (fun z => c z.2), if_neg c, if_neg (fun z => absurd z.1 (by decide)), if_neg (fun z => absurd z.1 (by decide)), if_neg (fun z => absurd z.1 (by decide))]; rfl
theorem row_Np {p' : Nat} : row (dNp D p i w x y) p' = if p' = p then (row D p).insertIdx i (nq D) else row D p' := by
  show (dNp D p i w x y).2.2.1 0 p' = _
  rw [L_Np, if_neg (fun z => absurd z.1 (by decide))]
  by_cases c : p' = p
  · rw [if_pos ⟨rfl, c⟩, if_pos c]
  · rw [if_neg (fun z => c z.2), if_neg c]; rfl
theorem hs_Np {q : Nat} : hs (dNp D p i w x y) q = if q = nq D then [] else hs D q := by
  show (dNp D p i w x y).2.2.1 1 q = _
  rw [L_Np]
  by_cases c : q = nq D
  · rw [if_pos ⟨rfl, c⟩, if_pos c]
  · rw [if_neg (fun z => c z.2), if_neg c, if_neg (fun z => absurd z.1 (by decide))]; rfl
theorem fc_Np {q : Nat} : fc (dNp D p i w x y) q = if q = nq D then [] else fc D q := rfl
theorem row_lt (hw : WF0 D) {p' : Nat} (hp' : p' < np D) {q : Nat} (hq : q ∈ row D p') : q < nq D := ((hw.2.1 p' hp').2.2.2 q hq).1.1
theorem WF0_Np (hw : WF0 D) (hp' : p < np D) (hl : pn D p < 8) (hn : nq D < 50) (hi : i ≤ pn D p) (hv : pnOkV w x y) : WF0 (dNp D p i w x y) := by
  have hnew : nq D ∉ row D p := fun z => absurd (row_lt hw hp' z) (Nat.lt_irrefl _)
  obtain ⟨⟨n1, n2, n3⟩, w2, w3, w4, w5, w6, w7, w8, w9⟩ := hw
  have hi' : i ≤ (row D p).length := hi
  refine ⟨⟨by rw [np_Np]; exact n1, by rw [nq_Np]; omega, by rw [nb_Np]; exact n3⟩, fun p' h => ?_, fun p' h => ?_, w4, fun q hq => ?_, fun b hb' => ?_, ?_, fun z hz => ?_, fun p' h => ?_⟩
  · rw [np_Np] at h
    obtain ⟨a, b, c, d⟩ := w2 p' h
    refine ⟨a, ?_, ?_, fun q hq => ?_⟩
    · rw [row_Np]
      split
      · exact ins_nodup (w2 p hp').2.1 hnew hi'
      · exact b
    · unfold pn
      rw [row_Np]
      split
      · rw [List.length_insertIdx, if_pos hi']
        unfold pn at hl; omega
      · exact c
    · have hold : ∀ q, q ∈ row D p' → alP (dNp D p i w x y) q ∧ hp (dNp D p i w x y) q = p' := by
        intro q hq
        obtain ⟨e, f⟩ := d q hq
        have hne : q ≠ nq D := by have := e.1; omega
        exact ⟨⟨by rw [nq_Np]; have := e.1; omega, by rw [gq_Np, if_neg hne]; exact e.2⟩, by rw [hp_Np, if_neg hne]; exact f⟩
      rw [row_Np] at hq
      by_cases c' : p' = p
      · rw [if_pos c', List.mem_insertIdx hi'] at hq
        rcases hq with z | z
        · rw [z]
          exact ⟨⟨by rw [nq_Np]; omega, by rw [gq_Np, if_pos rfl]⟩, by rw [hp_Np, if_pos rfl]; exact c'.symm⟩
        · exact hold q (by rw [c']; exact z)
      · rw [if_neg c'] at hq
        exact hold q hq
  · rw [np_Np] at h
    obtain ⟨a, b, c⟩ := w3 p' h
    refine ⟨a, b, ?_⟩
    rw [row_Np, if_neg (by omega)]
    exact c
  · rw [nq_Np] at hq
    unfold PnS PnW
    rw [gq_Np, hp_Np, hs_Np, fc_Np, wt_Np, wd_Np, ht_Np, np_Np, row_Np, nb_Np]
    by_cases c : q = nq D
    · rw [if_pos c, if_pos c, if_pos c, if_pos c, if_pos c, if_pos c, if_pos c]
      refine ⟨Or.inl rfl, hp', ⟨⟨Nat.zero_le _, fun f z => absurd z List.not_mem_nil⟩, List.nodup_nil, Nat.zero_le _, fun b z => absurd z List.not_mem_nil, hv.1, hv.2.1, hv.2.2⟩, fun _ => ?_, fun _ b z => absurd z List.not_mem_nil⟩
      rw [if_pos rfl, List.mem_insertIdx hi']
      exact Or.inl c
    · rw [if_neg c, if_neg c, if_neg c, if_neg c, if_neg c, if_neg c, if_neg c]
      obtain ⟨a1, a2, a3, a4, a5⟩ := w5 q (by omega)
      refine ⟨a1, a2, a3, fun hg => ?_, fun hg b hb' => ?_⟩
      · have := a4 hg
        by_cases d : hp D q = p
        · rw [if_pos d, List.mem_insertIdx hi', ← d]
          exact Or.inr this
        · rw [if_neg d]; exact this
      · obtain ⟨g1, g2⟩ := a5 hg b hb'
        exact ⟨⟨by rw [nb_Np]; exact g1.1, g1.2⟩, by rw [hb_Np]; exact g2⟩
  · rw [nb_Np] at hb'
    obtain ⟨a1, a2, a3, a4, a5, a6⟩ := w6 b hb'
    unfold BlS
    rw [hb_Np, nq_Np, nb_Np, gq_Np, hs_Np, if_neg (show ¬ hb D b = nq D by omega), if_neg (show ¬ hb D b = nq D by omega)]
    exact ⟨a1, by omega, a3, a4, a5, a6⟩
  · rcases w7 with z | z
    · exact Or.inl z
    · refine Or.inr ⟨z.1, by rw [nq_Np]; have := z.2.1; show (he D).toNat < _; omega, ?_⟩
      rw [gq_Np, if_neg]
      · exact z.2.2
      · have := z.2.1
        show ¬ (he D).toNat = nq D
        omega
  · have := w8 z hz
    exact ⟨by rw [nq_Np]; have := this.1; omega, by rw [gq_Np, if_neg (by have := this.1; omega)]; exact this.2⟩
  · rw [np_Np] at h
    obtain ⟨a, b⟩ := w9 p' h
    exact ⟨a, fun y' => ⟨by rw [np_Np]; exact (b y').1, (b y').2⟩⟩
theorem LyEq_Np (hw : WF0 D) {p' : Nat} (h2 : p' < np D) (h : p' ≠ p) : LyEq D (dNp D p i w x y) p' := by
  refine ⟨by rw [row_Np, if_neg h], rfl, rfl, fun q' hq' => ?_⟩
  have hne : q' ≠ nq D := by have := row_lt hw h2 hq'; omega
  rw [wt_Np, wd_Np, ht_Np, fc_Np, hs_Np, if_neg hne, if_neg hne, if_neg hne, if_neg hne, if_neg hne]
  exact ⟨rfl, rfl, rfl, rfl, rfl, fun b _ => rfl⟩
end
section
variable {A : Nat → Nat → Nat} {D : qD} {σ : qS}
/-- the new panel stands -/
def NewP (A : Nat → Nat → Nat) (σ : qS) (q p : Nat) (w x y : Int) : Prop := (gK σ (A 6 q) = 6 ∧ gI σ 200 (A 6 q) = q ∧ gP σ 201 (A 6 q) = A 5 p ∧ gI σ 202 (A 6 q) = w ∧ gI σ 203 (A 6 q) = x ∧ gI σ 204 (A 6 q) = y ∧
  gP σ 205 (A 6 q) = A 11 q ∧ gP σ 206 (A 6 q) = A 12 q ∧ gP σ 207 (A 6 q) = A 13 q ∧ gP σ 208 (A 6 q) = A 14 q ∧ gK σ (A 11 q) = 50 ∧ gL σ (A 11 q) = [] ∧
  gK σ (A 12 q) = 50 ∧ gL σ (A 12 q) = [] ∧ gK σ (A 13 q) = 2 ∧ gK σ (A 14 q) = 2) ∧ gI σ 211 (A 6 q) = 0
theorem SR_Np (hA : qInj A) {σ' : qS} {p i : Nat} {w x y : Int} (h : SR A (dRow D p ((row D p).insertIdx i (nq D))) σ) (hN : NewP A σ (nq D) p w x y) (hs' : σ' = sL σ (A 2 0) ((List.range (nq D + 1)).map (A 6))) : SR A (dNp D p i w x y) σ' := by
  have iK : gK σ' = gK σ := by rw [hs']; rfl
  have iI : gI σ' = gI σ := by rw [hs']; rfl
  have iN : gN σ' = gN σ := by rw [hs']; rfl
  have iP : gP σ' = gP σ := by rw [hs']; rfl
  have iA : gA σ' = gA σ := by rw [hs']; rfl
  have iR : gR σ' = gR σ := by rw [hs']; rfl
  have iL : ∀ x, x ≠ A 2 0 → gL σ' x = gL σ x := fun x hx => by rw [hs']; exact if_neg hx
  obtain ⟨h1, h2, h3, h4, h5, h6⟩ := h
  refine ⟨?_, ?_, ?_, fun p' hp' => ?_, fun q' hq => ?_, fun b hb => ?_⟩
  · obtain ⟨b1, b2, b3, b4, b5, b6, b7, b8, b9, b10, b11, b12⟩ := h1
    unfold BsR
    rw [iK, iP, iL (A 1 0) (by rw [Ne, hA.1]; omega), iL (A 3 0) (by rw [Ne, hA.1]; omega), np_Np, nq_Np, nb_Np]
    refine ⟨b1, b2, b3, b4, b5, b6, b7, b8, b9, ?_, b11, b12⟩
    rw [hs']; exact if_pos rfl
  · unfold LyR at h2 ⊢
    rw [iK, iN, iP, iA]
    exact h2
  · unfold RdR at h3 ⊢
    rw [iK, iN, iP, iR, iI]
    exact h3
  · rw [np_Np] at hp'
    have := h4 p' hp'
    unfold PgR at this ⊢
    rw [row_at] at this
    rw [iK, iP, iI, iL (A 10 p') (by rw [Ne, hA.1]; omega), row_Np]
    exact this
  · rw [nq_Np] at hq
    unfold PnR FcR
    rw [iK, iP, iI, iL (A 11 q') (by rw [Ne, hA.1]; omega), iL (A 12 q') (by rw [Ne, hA.1]; omega), hp_Np, gq_Np, hs_Np, fc_Np, wt_Np, wd_Np, ht_Np]
    by_cases c : q' = nq D
    · subst c
      simp only [if_true]
      obtain ⟨⟨a1, a2, a3, a4, a5, a6, a7, a8, a9, a10, a11, a12, a13, a14, a15, a16⟩, p2⟩ := hN
      exact ⟨⟨a1, a2, a3, a4, a5, a6, a7, a8, a9, a10, a11, a12, a13, a14, a15, a16, fun i hi => absurd hi (Nat.not_lt_zero _)⟩, p2⟩
    · simp only [if_neg c]
      exact h5 q' (show q' < nq D by omega)
  · rw [nb_Np] at hb
    have := h6 b hb
    unfold BlR at this ⊢
    rw [iK, iP, iI, hb_Np]
    exact this
end
section
variable {g : qG} {l : Launch} {A : Nat → Nat → Nat} {D : qD} {σ : qS}
/-- what a panel's constructor leaves -/
theorem spec_initP (hl : l.stackTraces = false) {r h0 : Nat} {n v x y : Int} (hr : r ≠ 0) (hK : gK σ r = 6) (h11 : gI σ 211 r = 0) :
    qMet g l M_X5_init [vr r, vi n, vr h0, vi v, vi x, vi y] σ (qTv0 (fun σ' => ∃ r2 r3 r4 r5, (gK σ r2 = 0 ∧ r2 ≠ 0) ∧ (gK σ r3 = 0 ∧ r3 ≠ 0) ∧ (gK σ r4 = 0 ∧ r4 ≠ 0) ∧ (gK σ r5 = 0 ∧ r5 ≠ 0) ∧ (r3 ≠ r2 ∧ r4 ≠ r2 ∧ r4 ≠ r3 ∧ r5 ≠ r2 ∧ r5 ≠ r3 ∧ r5 ≠ r4) ∧ (∀ z, gK σ z ≠ 0 → z ≠ r → qSame σ σ' z) ∧
      (gK σ' r = 6 ∧ gI σ' 200 r = n ∧ gP σ' 201 r = h0 ∧ gI σ' 202 r = v ∧ gI σ' 203 r = x ∧ gI σ' 204 r = y ∧ gP σ' 205 r = r2 ∧ gP σ' 206 r = r3 ∧ gP σ' 207 r = r4 ∧ gP σ' 208 r = r5 ∧ gK σ' r2 = 50 ∧ gL σ' r2 = [] ∧ gK σ' r3 = 50 ∧ gL σ' r3 = [] ∧ gK σ' r4 = 2 ∧ gK σ' r5 = 2) ∧ gI σ' 211 r = 0 ∧ ∀ f, gI σ' f r4 = 0)) := by
  refine wm_X5_init hl ⟨hr, fun r2 hz2 hr2 σ5 h5 => ⟨_, spec_init hl (r := r2) (by rw [h5]; exact if_pos rfl) (by rw [h5]; exact if_pos rfl) hr2, fun σ13 h13 => ?_⟩⟩
  have n2 : r ≠ r2 := fun z => by rw [z] at hK; omega
  have e13 : ∀ z, gK σ13 z = if z = r2 then 50 else if z = r2 then 10 else gK σ z := fun z => by rw [h13, h5]; rfl
  refine ⟨by rw [e13, if_neg n2, if_neg n2]; exact hK, fun σ16 h16 r3 hz3 hr3 σ21 h21 => ⟨_, spec_init hl (r := r3) (by rw [h21]; exact if_pos rfl) (by rw [h21]; exact if_pos rfl) hr3, fun σ29 h29 => ?_⟩⟩
  have e16 : ∀ z, gK σ16 z = gK σ13 z := fun z => by rw [h16]; rfl
  rw [e16] at hz3
  have n32 : r3 ≠ r2 := fun z => by rw [e13, if_pos z] at hz3; exact absurd hz3 (by decide)
  rw [e13, if_neg n32, if_neg n32] at hz3
  have n3 : r ≠ r3 := fun z => by rw [z] at hK; omega
  have e29 : ∀ z, gK σ29 z = if z = r3 then 50 else if z = r3 then 10 else gK σ13 z := fun z => by rw [h29, h21, h16]; rfl
  refine ⟨by rw [e29, if_neg n3, if_neg n3, e13, if_neg n2, if_neg n2]; exact hK, fun σ32 h32 r4 hz4 hr4 σ37 h37 => ⟨fun s => s = σ37, wm_X1_init hl ⟨hr4, rfl, rfl⟩, fun σ45 h45 => ?_⟩⟩
  subst h45
  have e32 : ∀ z, gK σ32 z = gK σ29 z := fun z => by rw [h32]; rfl
  rw [e32] at hz4
  have n43 : r4 ≠ r3 := fun z => by rw [e29, if_pos z] at hz4; exact absurd hz4 (by decide)
  rw [e29, if_neg n43, if_neg n43] at hz4
  have n42 : r4 ≠ r2 := fun z => by rw [e13, if_pos z] at hz4; exact absurd hz4 (by decide)
  rw [e13, if_neg n42, if_neg n42] at hz4
  have n4 : r ≠ r4 := fun z => by rw [z] at hK; omega
  have e45 : ∀ z, gK σ45 z = if z = r4 then 2 else gK σ29 z := fun z => by rw [h37, h32]; rfl
  refine ⟨by rw [e45, if_neg n4, e29, if_neg n3, if_neg n3, e13, if_neg n2, if_neg n2]; exact hK, fun σ48 h48 r5 hz5 hr5 σ53 h53 => ⟨fun s => s = σ53, wm_X1_init hl ⟨hr5, rfl, rfl⟩, fun σ61 h61 => ?_⟩⟩
  subst h61
  have e48 : ∀ z, gK σ48 z = gK σ45 z := fun z => by rw [h48]; rfl
  rw [e48] at hz5
  have n54 : r5 ≠ r4 := fun z => by rw [e45, if_pos z] at hz5; exact absurd hz5 (by decide)
  rw [e45, if_neg n54] at hz5
  have n53 : r5 ≠ r3 := fun z => by rw [e29, if_pos z] at hz5; exact absurd hz5 (by decide)
  rw [e29, if_neg n53, if_neg n53] at hz5
  have n52 : r5 ≠ r2 := fun z => by rw [e13, if_pos z] at hz5; exact absurd hz5 (by decide)
  rw [e13, if_neg n52, if_neg n52] at hz5
  have n5 : r ≠ r5 := fun z => by rw [z] at hK; omega
  have e61 : ∀ z, gK σ61 z = if z = r5 then 2 else gK σ45 z := fun z => by rw [h53, h48]; rfl
  refine ⟨by rw [e61, if_neg n5, e45, if_neg n4, e29, if_neg n3, if_neg n3, e13, if_neg n2, if_neg n2]; exact hK, fun σ64 h64 σ66 h66 σ68 h68 σ70 h70 σ72 h72 σ74 h74 => ⟨rfl, r2, r3, r4, r5, ⟨hz2, hr2⟩, ⟨hz3, hr3⟩, ⟨hz4, hr4⟩, ⟨hz5, hr5⟩, ⟨n32, n42, n43, n52, n53, n54⟩, ?_⟩⟩
  have eK : ∀ z, gK σ74 z = if z = r5 then 2 else if z = r4 then 2 else if z = r3 then 50 else if z = r3 then 10 else if z = r2 then 50 else if z = r2 then 10 else gK σ z := fun z => by rw [h74, h72, h70, h68, h66, h64, h53, h48, h37, h32, h29, h21, h16, h13, h5]; rfl
  have eI : ∀ f z, gI σ74 f z = if f = 204 ∧ z = r then y else if f = 203 ∧ z = r then x else if f = 202 ∧ z = r then v else if f = 200 ∧ z = r then n else if z = r5 then 0 else if z = r4 then 0 else if z = r3 then 0 else if z = r2 then 0 else gI σ f z := fun f z => by rw [h74, h72, h70, h68, h66, h64, h53, h48, h37, h32, h29, h21, h16, h13, h5]; rfl
  have eP : ∀ f z, gP σ74 f z = if f = 201 ∧ z = r then h0 else if f = 208 ∧ z = r then r5 else if z = r5 then 0 else if f = 207 ∧ z = r then r4 else if z = r4 then 0 else if f = 206 ∧ z = r then r3 else if z = r3 then 0 else if f = 205 ∧ z = r then r2 else if z = r2 then 0 else gP σ f z := fun f z => by rw [h74, h72, h70, h68, h66, h64, h53, h48, h37, h32, h29, h21, h16, h13, h5]; rfl
  have eL : ∀ z, gL σ74 z = if z = r3 then [] else if z = r2 then [] else gL σ z := fun z => by rw [h74, h72, h70, h68, h66, h64, h53, h48, h37, h32, h29, h21, h16, h13, h5]; rfl
  have eA : gA σ74 = gA σ := by rw [h74, h72, h70, h68, h66, h64, h53, h48, h37, h32, h29, h21, h16, h13, h5]; rfl
  have eR : gR σ74 = gR σ := by rw [h74, h72, h70, h68, h66, h64, h53, h48, h37, h32, h29, h21, h16, h13, h5]; rfl
  have eN : gN σ74 = gN σ := by rw [h74, h72, h70, h68, h66, h64, h53, h48, h37, h32, h29, h21, h16, h13, h5]; rfl
  refine ⟨fun z hz hzr => ?_, ⟨?_, ?_, ?_, ?_, ?_, ?_, ?_, ?_, ?_, ?_, ?_, ?_, ?_, ?_, ?_, ?_⟩, ?_, fun f => ?_⟩
  · have m2 : z ≠ r2 := fun e => hz (by rw [e]; exact hz2)
    have m3 : z ≠ r3 := fun e => hz (by rw [e]; exact hz3)
    have m4 : z ≠ r4 := fun e => hz (by rw [e]; exact hz4)
    have m5 : z ≠ r5 := fun e => hz (by rw [e]; exact hz5)
    refine ⟨?_, fun f => ?_, fun f => ?_, fun _ => by rw [eA], fun _ => by rw [eR], ?_, by rw [eN]⟩
    · rw [eK, if_neg m5, if_neg m4, if_neg m3, if_neg m3, if_neg m2, if_neg m2]
    · rw [eI]; simp [hzr, m2, m3, m4, m5]
    · rw [eP]; simp [hzr, m2, m3, m4, m5]
    · rw [eL, if_neg m3, if_neg m2]
  · rw [eK, if_neg n5, if_neg n4, if_neg n3, if_neg n3, if_neg n2, if_neg n2]; exact hK
  · rw [eI]; simp
  · rw [eP]; simp
  · rw [eI]; simp
  · rw [eI]; simp
  · rw [eI]; simp
  · rw [eP]; simp [n3, n4, n5]
  · rw [eP]; simp [n4, n5]
  · rw [eP]; simp [n5]
  · rw [eP]; simp
  · rw [eK, if_neg (fun z => n52 z.symm), if_neg (fun z => n42 z.symm), if_neg (fun z => n32 z.symm), if_neg (fun z => n32 z.symm), if_pos rfl]
  · rw [eL, if_neg (fun z => n32 z.symm), if_pos rfl]
  · rw [eK, if_neg (fun z => n53 z.symm), if_neg (fun z => n43 z.symm), if_pos rfl]
  · rw [eL, if_pos rfl]
  · rw [eK, if_neg (fun z => n54 z.symm), if_pos rfl]
  · rw [eK, if_pos rfl]
  · rw [eI]; simp [n2, n3, n4, n5, h11]
  · rw [eI]
    have m4 : r4 ≠ r := fun z => n4 z.symm
    simp [m4]
end
