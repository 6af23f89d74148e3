/-! the order of the balloons stays where lists are only put into or taken out of -/
theorem idx_ne {xs : List Nat} {a x : Nat} (h : a ≠ x) : (a :: xs).idxOf x = xs.idxOf x + 1 := by
  rw [List.idxOf_cons]
  have : (a == x) = false := by
    cases e : a == x
    · rfl
    · exact absurd (eq_of_beq e) h
  rw [this]
  rfl
theorem idx_self {xs : List Nat} {a : Nat} : (a :: xs).idxOf a = 0 := by
  rw [List.idxOf_cons]; simp
theorem ix_sub {xs ys : List Nat} (h : xs.Sublist ys) : ys.Nodup → ∀ x y, x ∈ xs → y ∈ xs → (xs.idxOf x < xs.idxOf y ↔ ys.idxOf x < ys.idxOf y) := by
  induction h with
  | slnil => intro _ x y hx; exact absurd hx List.not_mem_nil
  | cons a hs ih =>
    intro hnd x y hx hy
    obtain ⟨n1, n2⟩ := List.nodup_cons.mp hnd
    have hxa : a ≠ x := fun z => n1 (by rw [z]; exact hs.subset hx)
    have hya : a ≠ y := fun z => n1 (by rw [z]; exact hs.subset hy)
    rw [ih n2 x y hx hy, idx_ne hxa, idx_ne hya]
    omega
  | cons_cons a hs ih =>
    intro hnd x y hx hy
    obtain ⟨n1, n2⟩ := List.nodup_cons.mp hnd
    by_cases cx : a = x
    · subst cx
      by_cases cy : a = y
      · subst cy
        simp
      · rw [idx_self, idx_self, idx_ne cy, idx_ne cy]
        omega
    · rw [idx_ne cx, idx_ne cx]
      by_cases cy : a = y
      · subst cy
        rw [idx_self, idx_self]
        omega
      · rw [idx_ne cy, idx_ne cy]
        have hx' : x ∈ _ := (List.mem_cons.mp hx).resolve_left (fun z => cx z.symm)
        have hy' : y ∈ _ := (List.mem_cons.mp hy).resolve_left (fun z => cy z.symm)
        have := ih n2 x y hx' hy'
        omega
section
variable {D D1 : qD}
theorem rk_lt (hw : WF0 D) {q q' : Nat} (h : alP D q) (h' : alP D q') : rk D q < rk D q' ↔ hp D q < hp D q' ∨ (hp D q = hp D q' ∧ ixP D q < ixP D q') := by
  obtain ⟨a, b⟩ := alP_home hw h
  obtain ⟨a', b'⟩ := alP_home hw h'
  have c := ix_lt b
  have c' := ix_lt b'
  have d := (hw.2.1 _ a).2.2.1
  have d' := (hw.2.1 _ a').2.2.1
  unfold pn at d d'
  unfold rk ixP
  omega
theorem ky_lt (hw : WF0 D) {b b' : Nat} (h : alB D b) (h' : alB D b') : ky D b < ky D b' ↔ rk D (hb D b) < rk D (hb D b') ∨ (hb D b = hb D b' ∧ ixB D b < ixB D b') := by
  obtain ⟨a, m⟩ := alB_home hw h
  obtain ⟨a', m'⟩ := alB_home hw h'
  have c := ix_lt m
  have c' := ix_lt m'
  have d := (hw.2.2.2.2.1 _ a.1).2.2.1.2.2.1
  have d' := (hw.2.2.2.2.1 _ a'.1).2.2.1.2.2.1
  by_cases e : hb D b = hb D b'
  · unfold ky; rw [e]; omega
  · have : rk D (hb D b) ≠ rk D (hb D b') := fun z => e (rk_inj hw a a' z)
    unfold ky ixB
    omega
theorem Ans_sub (hw : WF0 D) (hw1 : WF0 D1) (ha : Ans D) (hk : ∀ b, alB D1 b → an D1 b ≠ -1 → alB D b ∧ an D b = an D1 b) (hhb : ∀ b, alB D b → alB D1 b → hb D1 b = hb D b) (hhp : ∀ q, alP D q → alP D1 q → hp D1 q = hp D q) (hhs : ∀ q, alP D q → alP D1 q → (hs D1 q).Sublist (hs D q) ∨ (hs D q).Sublist (hs D1 q)) (hrow : ∀ p, p < np D → p < np D1 → (row D1 p).Sublist (row D p) ∨ (row D p).Sublist (row D1 p)) : Ans D1 := by
  intro b hb1 hv1
  obtain ⟨hb0, hv⟩ := hk b hb1 hv1
  rw [← hv]
  have hv0 : an D b ≠ -1 := by rw [hv]; exact hv1
  have c0 : alB D (an D b).toNat := ⟨((an_Q hw hb0.1).2 hv0).2, (hw.2.2.2.2.2.1 b hb0.1).2.2.2.2.2 hb0.2 hv0⟩
  have c1 : alB D1 (an D b).toNat := by rw [hv]; exact ⟨((an_Q hw1 hb1.1).2 hv1).2, (hw1.2.2.2.2.2.1 b hb1.1).2.2.2.2.2 hb1.2 hv1⟩
  have h := ha b hb0 hv0
  generalize (an D b).toNat = c at c0 c1 h
  obtain ⟨qb0, mb0⟩ := alB_home hw hb0
  obtain ⟨qb1, mb1⟩ := alB_home hw1 hb1
  obtain ⟨qc0, mc0⟩ := alB_home hw c0
  obtain ⟨qc1, mc1⟩ := alB_home hw1 c1
  have eb := hhb b hb0 hb1
  have ec := hhb c c0 c1
  rw [eb] at qb1 mb1
  rw [ec] at qc1 mc1
  rw [ky_lt hw1 c1 hb1, eb, ec]
  rcases (ky_lt hw c0 hb0).mp h with y | ⟨y1, y2⟩
  · refine Or.inl ?_
    have ep := hhp _ qb0 qb1
    have ecp := hhp _ qc0 qc1
    obtain ⟨pb0, rb0⟩ := alP_home hw qb0
    obtain ⟨pb1, rb1⟩ := alP_home hw1 qb1
    obtain ⟨pc0, rc0⟩ := alP_home hw qc0
    obtain ⟨pc1, rc1⟩ := alP_home hw1 qc1
    rw [ep] at pb1 rb1
    rw [ecp] at pc1 rc1
    rw [rk_lt hw1 qc1 qb1, ep, ecp]
    rcases (rk_lt hw qc0 qb0).mp y with z | ⟨z1, z2⟩
    · exact Or.inl z
    · refine Or.inr ⟨z1, ?_⟩
      unfold ixP at z2 ⊢
      rw [ep, ecp, z1]
      rw [z1] at rc0 rc1 z2
      rcases hrow _ pb0 pb1 with s | s
      · exact (ix_sub s (hw.2.1 _ pb0).2.1 _ _ rc1 rb1).mpr z2
      · exact (ix_sub s (hw1.2.1 _ pb1).2.1 _ _ rc0 rb0).mp z2
  · refine Or.inr ⟨y1, ?_⟩
    unfold ixB at y2 ⊢
    rw [eb, ec, y1]
    rw [y1] at mc0 mc1 y2
    rcases hhs _ qb0 qb1 with s | s
    · exact (ix_sub s (hw.2.2.2.2.1 _ qb0.1).2.2.1.2.1 _ _ mc1 mb1).mpr y2
    · exact (ix_sub s (hw1.2.2.2.2.1 _ qb1.1).2.2.1.2.1 _ _ mc0 mb0).mp y2
theorem ins_sub {xs : List Nat} {i x : Nat} : xs.Sublist (xs.insertIdx i x) := by
  have := List.eraseIdx_sublist (xs.insertIdx i x) i
  rwa [List.eraseIdx_insertIdx_self] at this
theorem Ans_Cb (hw : WF D) {b : Nat} (hb' : alB D b) (hw1 : WF0 (dCb D b)) : Ans (dCb D b) := by
  refine Ans_sub hw.1 hw1 hw.2.2 (fun c hc _ => ⟨⟨hc.1, ?_⟩, rfl⟩) (fun _ _ _ => rfl) (fun _ _ _ => rfl) (fun q _ _ => Or.inl ?_) (fun p _ _ => Or.inl (List.Sublist.refl _))
  · have := hc.2
    rw [gb_Cb] at this
    by_cases e : c = b
    · rw [if_pos e] at this; omega
    · rwa [if_neg e] at this
  · rw [hs_Cb]
    by_cases e : q = hb D b
    · rw [if_pos e, e]; exact List.eraseIdx_sublist _ _
    · rw [if_neg e]; exact List.Sublist.refl _
theorem Ans_Nb (hw : WF D) {q i : Nat} {v : Int} (hw1 : WF0 (dNb D q i v)) : Ans (dNb D q i v) := by
  refine Ans_sub hw.1 hw1 hw.2.2 (fun c hc hv => ?_) (fun c hc _ => ?_) (fun _ _ _ => hp_Nb) (fun q' _ _ => Or.inr ?_) (fun p _ _ => Or.inl (List.Sublist.refl _))
  · rw [an_Nb] at hv ⊢
    by_cases e : c = nb D
    · rw [if_pos e] at hv; exact absurd rfl hv
    · rw [if_neg e]
      have h1 := hc.1
      have h2 := hc.2
      rw [nb_Nb] at h1
      rw [gb_Nb, if_neg e] at h2
      exact ⟨⟨by omega, h2⟩, rfl⟩
  · rw [hb_Nb, if_neg (by have := hc.1; omega)]
  · rw [hs_Nb]
    by_cases e : q' = q
    · rw [if_pos e, e]; exact ins_sub
    · rw [if_neg e]; exact List.Sublist.refl _
theorem Ans_Np (hw : WF D) {p i : Nat} {w x y : Int} (hw1 : WF0 (dNp D p i w x y)) : Ans (dNp D p i w x y) := by
  have hlt : ∀ b, b < nb D → hb D b ≠ nq D := fun b hb' z => by have := (hw.1.2.2.2.2.2.1 b hb').2.1; omega
  refine Ans_sub hw.1 hw1 hw.2.2 (fun c hc hv => ⟨hc, rfl⟩) (fun _ _ _ => hb_Np) (fun q hq _ => by rw [hp_Np, if_neg (by have := hq.1; omega)]) (fun q hq _ => Or.inl ?_) (fun p' _ _ => Or.inr ?_)
  · rw [hs_Np, if_neg (by have := hq.1; omega)]; exact List.Sublist.refl _
  · rw [row_Np]
    by_cases e : p' = p
    · rw [if_pos e, e]; exact ins_sub
    · rw [if_neg e]; exact List.Sublist.refl _
theorem Ans_Cp (hw : WF D) {q : Nat} (hw1 : WF0 (dCp D q)) : Ans (dCp D q) := by
  refine Ans_sub hw.1 hw1 hw.2.2 (fun c hc hv => ⟨⟨hc.1, ?_⟩, an_Cp.symm⟩) (fun _ _ _ => rfl) (fun _ _ _ => rfl) (fun q' _ _ => Or.inl (by rw [hs_Cp]; exact List.Sublist.refl _)) (fun p _ _ => Or.inl ?_)
  · have := hc.2
    rw [gb_Cp] at this
    by_cases e : c ∈ hs D q
    · rw [if_pos e] at this; omega
    · rwa [if_neg e] at this
  · rw [row_Cp]
    by_cases e : p = hp D q
    · rw [if_pos e, e]; exact List.eraseIdx_sublist _ _
    · rw [if_neg e]; exact List.Sublist.refl _
end
