/-! the law: what stands at the head of its loop -/
def LX (A : Nat → Nat → Nat) (L : Nat) (s : Int → Int) (σ : qS) : Prop := gK σ (A 31 0) = 22 ∧ gN σ (A 31 0) = 1 ∧ gK σ (A 32 0) = 40 ∧ L = L ∧ s = s
def LK (A : Nat → Nat → Nat) (L : Nat) (s : Int → Int) (D D' : qD) (σ : qS) : Prop := qInj A ∧ CR A D' σ ∧ MR A D σ ∧ LX A L s σ
def sameA (A A' : Nat → Nat → Nat) : Prop := A' 0 0 = A 0 0 ∧ A' 30 0 = A 30 0 ∧ A' 31 0 = A 31 0 ∧ A' 32 0 = A 32 0
/-- what a wrapper leaves: the class at D', the model at D, its own number, its answer in the array -/
def qLw (A : Nat → Nat → Nat) (L : Nat) (s : Int → Int) (D : qD) (c : Nat → Int) (o : Int ⊕ Nat) (D' : qD) (σ' : qS) (k : Int) : Prop := ∃ A', LK A' L s D D' σ' ∧ sameA A A' ∧ (match o with | .inl w => k = 0 ∧ gA σ' (A 31 0) 0 = nrm w | .inr n => k = c n)
def qLwB (A : Nat → Nat → Nat) (L : Nat) (s : Int → Int) (D : qD) (c : Nat → Int) (o : Int ⊕ Nat) (D' : qD) (σ' : qS) (k : Int) : Prop := ∃ A', LK A' L s D D' σ' ∧ sameA A A' ∧ (match o with | .inl w => k = 0 ∧ gA σ' (A 31 0) 0 = (if nrm w = 0 then 0 else 1) | .inr n => k = c n)
def qLwV (A : Nat → Nat → Nat) (L : Nat) (s : Int → Int) (D : qD) (c : Nat → Int) (o : Int ⊕ Nat) (D' : qD) (σ' : qS) (k : Int) : Prop := ∃ A', LK A' L s D D' σ' ∧ sameA A A' ∧ (match o with | .inl _ => k = 0 | .inr n => k = c n)
section
variable {A A' : Nat → Nat → Nat} {L : Nat} {s : Int → Int} {D D' : qD} {σ σ' : qS} {c : Nat → Int} {o : Int ⊕ Nat}
theorem LX_cls (hA : qInj A) (hx : LX A L s σ) (hag : ∀ k i, (20 ≤ k ∨ k = 0) → gK σ (A k i) ≠ 0 → A' k i = A k i) (hf : qFrm A σ σ') : LX A' L s σ' ∧ A' 31 0 = A 31 0 ∧ A' 32 0 = A 32 0 := by
  obtain ⟨h1, h2, h3, h4, h5⟩ := hx
  have z31 : gK σ (A 31 0) ≠ 0 := by rw [h1]; decide
  have z32 : gK σ (A 32 0) ≠ 0 := by rw [h3]; decide
  have e31 := hag 31 0 (Or.inl (by decide)) z31
  have e32 := hag 32 0 (Or.inl (by decide)) z32
  have s31 := hf _ z31 (fun k' i hk' z => by rw [hA.1] at z; omega)
  have s32 := hf _ z32 (fun k' i hk' z => by rw [hA.1] at z; omega)
  refine ⟨⟨?_, ?_, ?_, rfl, rfl⟩, e31, e32⟩
  · rw [e31, s31.1]; exact h1
  · rw [e31, s31.2.2.2.2.2.2]; exact h2
  · rw [e32, s32.1]; exact h3
theorem LK_cls (J : LK A L s D D σ) (hA' : qInj A') (hag : ∀ k i, (20 ≤ k ∨ k = 0) → gK σ (A k i) ≠ 0 → A' k i = A k i) (hC : CR A' D' σ') (hf : qFrm A σ σ') : LK A' L s D D' σ' ∧ sameA A A' := by
  obtain ⟨hA, hCR, hMR, hx⟩ := J
  obtain ⟨x1, x2, x3⟩ := LX_cls hA hx hag hf
  have z0 : gK σ (A 0 0) ≠ 0 := by rw [hCR.1.1]; decide
  have z30 : gK σ (A 30 0) ≠ 0 := by rw [hMR.1.1.1]; decide
  exact ⟨⟨hA', hC, MR_cls hA hag hf hMR, x1⟩, hag 0 0 (Or.inr rfl) z0, hag 30 0 (Or.inl (by decide)) z30, x2, x3⟩
theorem LK_out (J : LK A L s D D' σ) {z : Int} : LK A L s D D' (sA σ (A 31 0) 0 z) := by
  obtain ⟨hA, hCR, hMR, h1, h2, h3, h4, h5⟩ := J
  have hc : qMc A noI (fun t _ => t = 31) σ (sA σ (A 31 0) 0 z) := qMc_A rfl
  obtain ⟨m1, m2, m3, m4, m5, m6⟩ := hMR
  refine ⟨hA, CR_mc hA (fun t i y => by omega) hc hCR, ⟨MB_c hA hc (fun t i t1 t2 y => by omega) m1, MSc_c hc (fun _ _ _ y => y) m2, MRd_c hA hc ⟨fun y => y, fun y => y⟩ (fun i y => by omega) m3, MZ_c hA hc (fun i _ y => by omega) m4, fun p hp' => ML_c hA hc (fun t i t1 t2 y => by omega) (m5 p hp'), fun q hq hg i i0 i1 => by rw [qMc_at hA hc (by decide)]; exact m6 q hq hg i i0 i1⟩, h1, h2, h3, rfl, rfl⟩
theorem lw_in (hx : LX A L s σ) : q_in σ (A 31 0) 0 := ⟨by omega, by rw [hx.2.1]; omega⟩
theorem lw_v (J : LK A L s D D σ) : ∀ σ' v, qClP A σ o D' σ' (.inl v) → ∃ z, v = some (vi z) ∧ gK σ' (A 31 0) = 22 ∧ q_in σ' (A 31 0) 0 ∧ qTi0 (qLw A L s D c o D') (sA σ' (A 31 0) 0 (nrm z)) (.inl (some (vi 0))) := by
  rintro σ' v ⟨A', hA', hag, hC, hf, hr⟩
  obtain ⟨k, sm⟩ := LK_cls J hA' hag hC hf
  cases o with
  | inr n => cases hr
  | inl w =>
    have hv : v = some (vi w) := Sum.inl.inj hr
    have k31 := k.2.2.2
    have e31 := sm.2.2.1
    refine ⟨w, hv, by rw [← e31]; exact k31.1, by rw [← e31]; exact lw_in k31, 0, rfl, A', ?_, sm, rfl, ?_⟩
    · rw [← e31]; exact LK_out k
    · exact if_pos ⟨rfl, rfl⟩
theorem lw_vB (J : LK A L s D D σ) : ∀ σ' v, qClP A σ o D' σ' (.inl v) → ∃ z, v = some (vi z) ∧ gK σ' (A 31 0) = 22 ∧ q_in σ' (A 31 0) 0 ∧ qTi0 (qLwB A L s D c o D') (sA σ' (A 31 0) 0 (if nrm z = 0 then 0 else 1)) (.inl (some (vi 0))) := by
  rintro σ' v ⟨A', hA', hag, hC, hf, hr⟩
  obtain ⟨k, sm⟩ := LK_cls J hA' hag hC hf
  cases o with
  | inr n => cases hr
  | inl w =>
    have hv : v = some (vi w) := Sum.inl.inj hr
    have k31 := k.2.2.2
    have e31 := sm.2.2.1
    refine ⟨w, hv, by rw [← e31]; exact k31.1, by rw [← e31]; exact lw_in k31, 0, rfl, A', ?_, sm, rfl, ?_⟩
    · rw [← e31]; exact LK_out k
    · exact if_pos ⟨rfl, rfl⟩
theorem lw_vV (J : LK A L s D D σ) : ∀ σ' v, qClV A σ o D' σ' (.inl v) → v = none ∧ qTi0 (qLwV A L s D c o D') σ' (.inl (some (vi 0))) := by
  rintro σ' v ⟨A', hA', hag, hC, hf, hr⟩
  obtain ⟨k, sm⟩ := LK_cls J hA' hag hC hf
  cases o with
  | inr n => cases hr
  | inl w => exact ⟨Sum.inl.inj hr, 0, rfl, A', k, sm, rfl⟩
theorem lw_x (J : LK A L s D D σ) : ∀ σ' n, qClP A σ o D' σ' (.inr n) → o = .inr n ∧ qTi0 (qLw A L s D c o D') σ' (.inl (some (vi (c n)))) := by
  rintro σ' n ⟨A', hA', hag, hC, hf, hr⟩
  obtain ⟨k, sm⟩ := LK_cls J hA' hag hC hf
  cases o with
  | inl w => cases hr
  | inr n' =>
    have hn : n = n' := Sum.inr.inj hr
    subst hn
    exact ⟨rfl, _, rfl, A', k, sm, rfl⟩
theorem lw_xB (J : LK A L s D D σ) : ∀ σ' n, qClP A σ o D' σ' (.inr n) → o = .inr n ∧ qTi0 (qLwB A L s D c o D') σ' (.inl (some (vi (c n)))) := by
  rintro σ' n ⟨A', hA', hag, hC, hf, hr⟩
  obtain ⟨k, sm⟩ := LK_cls J hA' hag hC hf
  cases o with
  | inl w => cases hr
  | inr n' =>
    have hn : n = n' := Sum.inr.inj hr
    subst hn
    exact ⟨rfl, _, rfl, A', k, sm, rfl⟩
theorem lw_xV (J : LK A L s D D σ) : ∀ σ' n, qClV A σ o D' σ' (.inr n) → o = .inr n ∧ qTi0 (qLwV A L s D c o D') σ' (.inl (some (vi (c n)))) := by
  rintro σ' n ⟨A', hA', hag, hC, hf, hr⟩
  obtain ⟨k, sm⟩ := LK_cls J hA' hag hC hf
  cases o with
  | inl w => cases hr
  | inr n' =>
    have hn : n = n' := Sum.inr.inj hr
    subst hn
    exact ⟨rfl, _, rfl, A', k, sm, rfl⟩
/-- a question is a change that changes nothing -/
theorem qQo_P (J : LK A L s D D σ) {r : qRs} (h : qQo σ o σ' r) : qClP A σ o D σ' r := by
  obtain ⟨h1, h2⟩ := h
  refine ⟨A, J.1, fun _ _ _ _ => rfl, by rw [h1]; exact J.2.1, fun x _ _ => by rw [h1]; exact qSame_rf σ x, ?_⟩
  rw [h2]
  cases o <;> rfl
/-- the model's call behind the wrapper -/
theorem LK_mod (J : LK A L s D D' σ) (hM : MR A D' σ') (hc : qMc A mI mA σ σ') : LK A L s D' D' σ' ∧ gA σ' (A 31 0) 0 = gA σ (A 31 0) 0 := by
  obtain ⟨hA, hCR, hMR, h1, h2, h3, h4, h5⟩ := J
  have n31 : ∀ i, ¬ mA 31 i := fun i z => absurd z (by unfold mA; decide)
  refine ⟨⟨hA, CR_mc hA (fun t i y => Nat.le_trans (by decide) y) hc hCR, hM, ?_, ?_, ?_, rfl, rfl⟩, qMc_at hA hc (n31 0)⟩
  · rw [hc.1]; exact h1
  · rw [hc.2.2.1]; exact h2
  · rw [hc.1]; exact h3
end
