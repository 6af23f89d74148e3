/-! the law: a call of both and what is looked at -/
def M_law (nm : String) (hh : List (Nat × Nat × Nat × Nat)) : qM := (⟨RL, nm, "([I)Z"⟩, cL_law, 7, some .boolean, room_1, hh)
def atA (A : Nat → Nat → Nat) (sc x m out : Nat) : Prop := A 0 0 = x ∧ A 30 0 = m ∧ A 31 0 = out ∧ A 32 0 = sc
def cOk (c : Nat → Int) : Prop := ∀ n, 1 ≤ c n ∧ c n ≤ 3
theorem cOk0 : cOk c0 := fun n => by unfold c0; omega
theorem cOk1 : cOk c1 := fun n => by unfold c1; split <;> omega
theorem cOk2 : cOk c2 := fun n => by unfold c2; split <;> omega
theorem cOk3 : cOk c3 := fun n => by unfold c3; split; omega; split <;> omega
section
variable {g : qG} {l : Launch} {M : qM} {ac as' pc : Nat} {ls : List (Option qV)} {st : List qV} {σ : qS} {Post : qS → qRs → Prop}
theorem wp_arg {sc : Nat} {i k v : Int} (d1 : decode M.2.1 pc = .ok (.aload_n 0, 1)) (d2 : decode M.2.1 (pc + 1) = .ok (.iload 4, 2)) (d3 : decode M.2.1 (pc + 3) = .ok (.iconst k, 1)) (d4 : decode M.2.1 (pc + 4) = .ok (.iadd, 1)) (d5 : decode M.2.1 (pc + 5) = .ok (.iaload, 1)) (h0 : ls[0]? = some (some (vr sc))) (h4 : ls[4]? = some (some (vi i))) (ha : sc = g.2.2.1 8 + 1) (hi : 0 ≤ i + k ∧ i + k < (g.2.2.1 9 : Int)) (hv : nrm (scv g (i + k)) = v) (kk : qW g l M ac as' (pc + 6) ls (vi v :: st) σ Post) : qW g l M ac as' pc ls st σ Post := by
  refine wp_aload_n (k := 0) d1 h0 ?_
  refine wp_iload d2 h4 ?_
  refine wp_iconst d3 ?_
  refine wp_iadd d4 ?_
  refine wp_ialoadS ha d5 hi.1 hi.2 ?_
  rw [hv]
  exact kk
end
section
variable {A A' : Nat → Nat → Nat} {L : Nat} {s : Int → Int} {D D' : qD} {σ σ1 σ2 σ' : qS} {c : Nat → Int} {o : Int ⊕ Nat} {k b : Int}
/-- the numbers that both tell are alike; and their answers -/
theorem lw_end (hc : cOk c) (h1 : match o with | .inl w => k = 0 ∧ gA σ1 (A 31 0) 0 = nrm w | .inr n => k = c n) (h2 : mOut A' σ2 c o b) : gI σ2 320 (A' 30 0) = k ∧ qR k ∧ (k = 0 → gA σ1 (A 31 0) 0 = nrm b) := by
  cases o with
  | inl w =>
    obtain ⟨x, y⟩ := h1
    obtain ⟨z, t⟩ := h2
    exact ⟨by rw [t, x], by rw [x]; unfold qR; omega, fun _ => by rw [z]; exact y⟩
  | inr n =>
    have h2' : gI σ2 320 (A' 30 0) = c n := h2
    have := hc n
    have h1' : k = c n := h1
    exact ⟨by rw [h2', h1'], by unfold qR; omega, fun e => by omega⟩
theorem lw_endB (hc : cOk c) (h1 : match o with | .inl w => k = 0 ∧ gA σ1 (A 31 0) 0 = (if nrm w = 0 then 0 else 1) | .inr n => k = c n) (h2 : mOut A' σ2 c o b) : gI σ2 320 (A' 30 0) = k ∧ qR k ∧ (k = 0 → gA σ1 (A 31 0) 0 = (if nrm b = 0 then 0 else 1)) := by
  cases o with
  | inl w =>
    obtain ⟨x, y⟩ := h1
    obtain ⟨z, t⟩ := h2
    exact ⟨by rw [t, x], by rw [x]; unfold qR; omega, fun _ => by rw [z]; exact y⟩
  | inr n =>
    have h2' : gI σ2 320 (A' 30 0) = c n := h2
    have := hc n
    have h1' : k = c n := h1
    exact ⟨by rw [h2', h1'], by unfold qR; omega, fun e => by omega⟩
theorem lw_endV (hc : cOk c) (h1 : match o with | .inl _ => k = 0 | .inr n => k = c n) (h2 : mOut A' σ2 c o b) : gI σ2 320 (A' 30 0) = k ∧ qR k := by
  cases o with
  | inl w =>
    have h1' : k = 0 := h1
    obtain ⟨z, t⟩ := h2
    exact ⟨by rw [t, h1'], by unfold qR; omega⟩
  | inr n =>
    have h2' : gI σ2 320 (A' 30 0) = c n := h2
    have := hc n
    have h1' : k = c n := h1
    exact ⟨by rw [h2', h1'], by unfold qR; omega⟩
/-- a call that cannot fail -/
theorem lw_pl {w : Int} (J : LK A L s D D σ) : ∀ σ' v, qClP A σ (.inl w) D' σ' (.inl v) → v = some (vi w) ∧ ∃ A', LK A' L s D D' σ' ∧ sameA A A' := by
  rintro σ' v ⟨A', hA', hag, hC, hf, hr⟩
  obtain ⟨k, sm⟩ := LK_cls J hA' hag hC hf
  exact ⟨Sum.inl.inj hr, A', k, sm⟩
theorem lw_pn {w : Int} {R : Prop} : ∀ σ' n, qClP A σ (.inl w) D' σ' (.inr n) → R := by
  rintro σ' n ⟨A', hA', hag, hC, hf, hr⟩
  cases hr
theorem LX_f {g : qG} {sc : Nat} (hg : scG g sc L s) {i : Int} (hi : 0 ≤ i ∧ i + 6 ≤ L) : sc = g.2.2.1 8 + 1 ∧ (∀ k : Int, 0 ≤ k → k ≤ 5 → 0 ≤ i + k ∧ i + k < (g.2.2.1 9 : Int)) ∧ (∀ k : Int, 0 ≤ k → k ≤ 5 → nrm (scv g (i + k)) = s (i + k)) ∧ ∀ k : Int, 0 ≤ k → k ≤ 5 → qR (s (i + k)) := by
  obtain ⟨h1, h2, h3⟩ := hg
  exact ⟨h1, fun k k0 k1 => by omega, fun k _ _ => h3 _, fun k _ _ => by rw [← h3]; exact nrm_Q _⟩
theorem LX_o (hx : LX A L s σ) : q_isA σ 2 (A 31 0) ∧ q_in σ (A 31 0) 0 := ⟨⟨by decide, Or.inl hx.1⟩, lw_in hx⟩
end
