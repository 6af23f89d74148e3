/-! p36: small things that the law's walk wants -/
theorem cat1_1 {v : qV} (h : q_cat1 v) : (q_v v).category = 1 := by
  rcases v with z | r | z
  · rfl
  · cases r <;> rfl
  · exact h.elim
theorem q_small1 {st : List qV} (h : ∀ v, v ∈ st → q_cat1 v) (hl : st.length ≤ 8) : q_small st := by
  unfold q_small
  have key : ∀ st : List qV, (∀ v, v ∈ st → q_cat1 v) → (st.map q_v |>.map fun v => v.category).sum = st.length := by
    intro st
    induction st with
    | nil => intro _; rfl
    | cons a st ih =>
      intro h
      simp only [List.map_cons, List.sum_cons, List.length_cons]
      rw [ih (fun v hv => h v (List.mem_cons_of_mem _ hv)), cat1_1 (h a List.mem_cons_self)]
      omega
  rw [key st h]
  exact hl
theorem q_small5 {a b c d e : qV} (h1 : q_cat1 a) (h2 : q_cat1 b) (h3 : q_cat1 c) (h4 : q_cat1 d) (h5 : q_cat1 e) : q_small [a, b, c, d, e] := by
  refine q_small1 (fun v hv => ?_) (by simp)
  simp only [List.mem_cons, List.not_mem_nil, or_false] at hv
  rcases hv with rfl | rfl | rfl | rfl | rfl <;> assumption
theorem q_small6 {a b c d e f : qV} (h1 : q_cat1 a) (h2 : q_cat1 b) (h3 : q_cat1 c) (h4 : q_cat1 d) (h5 : q_cat1 e) (h6 : q_cat1 f) : q_small [a, b, c, d, e, f] := by
  refine q_small1 (fun v hv => ?_) (by simp)
  simp only [List.mem_cons, List.not_mem_nil, or_false] at hv
  rcases hv with rfl | rfl | rfl | rfl | rfl | rfl <;> assumption
section
variable {g : qG} {l : Launch} {M : qM} {As : List qV} {σ : qS}
theorem qMet_mono {P Q : qS → qRs → Prop} (h : qMet g l M As σ P) (hp : ∀ σ' r, P σ' r → Q σ' r) : qMet g l M As σ Q := by
  unfold qMet vx_Met at h ⊢
  refine MetFree.mono h (fun _ _ z => z) (fun _ _ _ _ _ z => z) (fun a s o t _ hq => ?_)
  rcases hq with ⟨⟨σ1, v, e1, e2, e3, e4⟩, h2⟩ | ⟨q, e0, E, ce, L, ⟨σ1, n, e1, e2, e3, e4⟩, h2⟩
  · exact Or.inl ⟨⟨σ1, v, e1, hp _ _ e2, e3, e4⟩, h2⟩
  · exact Or.inr ⟨q, e0, E, ce, L, ⟨σ1, n, e1, hp _ _ e2, e3, e4⟩, h2⟩
/-- what a change leaves -/
def qCg (A : Nat → Nat → Nat) (σ : qS) (D' : qD) (σ' : qS) : Prop := ∃ A', qInj A' ∧ (∀ k i, (20 ≤ k ∨ k = 0) → gK σ (A k i) ≠ 0 → A' k i = A k i) ∧ CR A' D' σ' ∧ qFrm A σ σ'
theorem cq {o : Int ⊕ Nat} {w : Int} (h : qMet g l M As σ (qQo σ o)) (e : o = .inl w) : qMet g l M As σ (qTi (fun σ' v => σ' = σ ∧ v = w) (fun _ _ => False)) := by
  subst e
  exact qMet_mono h (fun σ' r z => Or.inl ⟨w, z.2, z.1, rfl⟩)
theorem cq1 {o : Int ⊕ Nat} {w : Int} (h : qMet g l M As σ (qQo σ o)) (e : o = .inl w) : qMet g l M As σ (qPi σ w) := by
  subst e
  exact qMet_mono h (fun σ' r z => z)
theorem cc {A : Nat → Nat → Nat} {D' D2 : qD} {o : Int ⊕ Nat} {w : Int} (h : qMet g l M As σ (qClP A σ o D')) (e : o = .inl w) (e2 : D' = D2) : qMet g l M As σ (qTi (fun σ' v => v = w ∧ qCg A σ D2 σ') (fun _ _ => False)) := by
  subst e
  subst e2
  exact qMet_mono h (fun σ' r ⟨A', z1, z2, z3, z4, z5⟩ => Or.inl ⟨w, z5, rfl, A', z1, z2, z3, z4⟩)
theorem cc0 {A : Nat → Nat → Nat} {D' D2 : qD} {o : Int ⊕ Nat} {w : Int} (h : qMet g l M As σ (qClP A σ o D')) (e : o = .inl w) (e2 : D' = D2) : qMet g l M As σ (qTi0 (fun σ' v => v = w ∧ qCg A σ D2 σ')) := by
  subst e
  subst e2
  exact qMet_mono h (fun σ' r ⟨A', z1, z2, z3, z4, z5⟩ => ⟨w, z5, rfl, A', z1, z2, z3, z4⟩)
theorem cv {A : Nat → Nat → Nat} {D' D2 : qD} {o : Int ⊕ Nat} {w : Int} (h : qMet g l M As σ (qClV A σ o D')) (e : o = .inl w) (e2 : D' = D2) : qMet g l M As σ (qTv (fun σ' => qCg A σ D2 σ') (fun _ _ => False)) := by
  subst e
  subst e2
  exact qMet_mono h (fun σ' r ⟨A', z1, z2, z3, z4, z5⟩ => Or.inl ⟨z5, A', z1, z2, z3, z4⟩)
end
