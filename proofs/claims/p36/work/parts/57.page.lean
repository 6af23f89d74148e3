/-! the class's layout: a page -/
noncomputable def pX (D : qD) (p k i : Nat) : Int := sm (pW D p (rS D p k) (rS D p (k + 1))) i - sm (pW D p (rS D p k) (rS D p (k + 1))) (rS D p k)
noncomputable def pWd (D : qD) (p k i : Nat) : Int := pW D p (rS D p k) (rS D p (k + 1)) i
noncomputable def pH (D : qD) (p k : Nat) : Int := (rH D p (rS D p k) (rS D p (k + 1)) : Nat)
noncomputable def pB (D : qD) (p k i : Nat) : Bx := (if tg D p = 1 then 24 - pX D p k i - pWd D p k i else pX D p k i, rT D p k, pWd D p k i, pH D p k)
section
variable {D : qD} {p : Nat}
theorem rS_nx (hw : PgW D p) {k : Nat} (h : rS D p k < pn D p) : rS D p k < rS D p (k + 1) ∧ rS D p (k + 1) ≤ pn D p ∧ (∀ t, rS D p k ≤ t → t < rS D p (k + 1) → sm (pw D p) (t + 1) - sm (pw D p) (rS D p k) ≤ 24) ∧ (rS D p (k + 1) < pn D p → 24 < sm (pw D p) (rS D p (k + 1) + 1) - sm (pw D p) (rS D p k)) := by
  have he : rS D p (k + 1) = rEnd (pw D p) (pn D p) (rS D p k) := rfl
  obtain ⟨h1, h2, h3⟩ := lsp_sp (fun e => rS D p k < e ∧ 24 < sm (pw D p) (e + 1) - sm (pw D p) (rS D p k)) (pn D p)
  have he' : rS D p (k + 1) = lsp (fun e => rS D p k < e ∧ 24 < sm (pw D p) (e + 1) - sm (pw D p) (rS D p k)) (pn D p) := he
  rw [← he'] at h1 h2 h3
  have hlt : rS D p k < rS D p (k + 1) := by
    rcases Nat.lt_or_ge (rS D p k) (rS D p (k + 1)) with c | c
    · exact c
    · exact (h3 (by omega)).1
  refine ⟨hlt, h1, fun t ht1 ht2 => ?_, fun hn => (h3 hn).2⟩
  by_cases c : t = rS D p k
  · have := (hw.2.2.2.1 _ (pq_mem h)).2.2.2.2.2.1.2
    rw [c]
    show sm (pw D p) (rS D p k) + pw D p (rS D p k) - sm (pw D p) (rS D p k) ≤ 24
    unfold pw at this ⊢
    omega
  · have := h2 t ht2
    rcases Int.lt_or_le 24 (sm (pw D p) (t + 1) - sm (pw D p) (rS D p k)) with d | d
    · exact absurd ⟨by omega, d⟩ this
    · exact d
theorem rS_n (hw : PgW D p) {k : Nat} (h : rS D p k = pn D p) : rS D p (k + 1) = pn D p := by
  have he' : rS D p (k + 1) = lsp (fun e => rS D p k < e ∧ 24 < sm (pw D p) (e + 1) - sm (pw D p) (rS D p k)) (pn D p) := rfl
  rw [he']
  exact lsp_eq (Nat.le_refl _) (fun t ht hh => by omega) (fun z => absurd z (Nat.lt_irrefl _))
theorem rS_le (hw : PgW D p) : ∀ k, rS D p k ≤ pn D p
  | 0 => Nat.zero_le _
  | k + 1 => by
    rcases Nat.lt_or_ge (rS D p k) (pn D p) with c | c
    · exact (rS_nx hw c).2.1
    · exact Nat.le_of_eq (rS_n hw (by have := rS_le hw k; omega))
theorem rS_mono (hw : PgW D p) {j : Nat} : ∀ {k}, j ≤ k → rS D p j ≤ rS D p k
  | 0, h => by
    have : j = 0 := by omega
    rw [this]; exact Nat.le_refl _
  | k + 1, h => by
    by_cases c : j = k + 1
    · rw [c]; exact Nat.le_refl _
    · have h1 := rS_mono hw (j := j) (k := k) (by omega)
      have h2 : rS D p k ≤ rS D p (k + 1) := by
        rcases Nat.lt_or_ge (rS D p k) (pn D p) with c | c
        · exact Nat.le_of_lt (rS_nx hw c).1
        · have := rS_le hw k
          rw [rS_n hw (by omega)]; exact this
      omega
end
def TrR (A : Nat → Nat → Nat) (D : qD) (σ : qS) (p k : Nat) : Prop := rS D p k < pn D p → ∀ i, rS D p k ≤ i → i < rS D p (k + 1) → gI σ 210 (A 6 (pq D p i)) = k ∧ BxR σ (A 14 (pq D p i)) (pB D p k i) ∧ ∀ j, j < (hs D (pq D p i)).length → BxR σ (A 17 (bl D (pq D p i) j)) (box D p (pq D p i) (pWd D p k i) (pH D p k) j)
def roW (A : Nat → Nat → Nat) (D : qD) (p f e fl x : Nat) : Prop := (fl = 164 ∧ x = A 5 p) ∨ shW A D p f e fl x ∨ fiW A D p f e fl x ∨ puW A D p f e fl x
section
variable {g : qG} {l : Launch} {A : Nat → Nat → Nat} {D : qD} {σ : qS}
theorem roW_tr {p f e fl x : Nat} (h : roW A D p f e fl x) : tr1 A fl x := by
  rcases h with h | h | h | h
  · exact Or.inl h.1
  · exact shW_tr h
  · exact fiW_tr h
  · exact puW_tr h
theorem roW_mono {p f e f' e' fl x : Nat} (h1 : f' ≤ f) (h2 : e ≤ e') (h : roW A D p f e fl x) : roW A D p f' e' fl x := by
  rcases h with h | ⟨h, i, a, b, c⟩ | (h | ⟨i, a, b, c⟩) | ⟨i, a, b, c⟩
  · exact Or.inl h
  · exact Or.inr (Or.inl ⟨h, i, by omega, by omega, c⟩)
  · exact Or.inr (Or.inr (Or.inl (Or.inl h)))
  · exact Or.inr (Or.inr (Or.inl (Or.inr ⟨i, by omega, by omega, c⟩)))
  · exact Or.inr (Or.inr (Or.inr ⟨i, by omega, by omega, c⟩))
/-- what a row writes leaves the rows before it -/
theorem roW_out (hA : qInj A) {p f e i fl x : Nat} (hw : PgW D p) (hi : i < f) (hf : f ≤ e) (he : e ≤ pn D p) (hx : x = A 6 (pq D p i) ∨ x = A 14 (pq D p i) ∨ ∃ j, j < (hs D (pq D p i)).length ∧ x = A 17 (bl D (pq D p i) j)) (hfl : fl ≠ 999) : ¬ roW A D p f e fl x := by
  have hne : ∀ i', f ≤ i' → i' < e → pq D p i ≠ pq D p i' := fun i' a b z => by
    have := nodup_at hw.2.1 (show i < pn D p by omega) (show i' < pn D p by omega) z
    omega
  rintro (h | ⟨h, i', a, b, c⟩ | (h | ⟨i', a, b, c⟩) | ⟨i', a, b, c⟩)
  · rcases hx with rfl | rfl | ⟨j, -, rfl⟩ <;> (have := h.2; rw [hA.1] at this; omega)
  · rcases hx with rfl | rfl | ⟨j, -, rfl⟩
    · rw [hA.1] at c; omega
    · exact hne i' a b (qInj_i hA c)
    · rw [hA.1] at c; omega
  · exact hfl h.1
  · rcases c with ⟨c1, c2⟩ | ⟨c1, c2, b', hb, c3⟩
    · rcases hx with rfl | rfl | ⟨j, -, rfl⟩
      · rw [hA.1] at c2; omega
      · exact hne i' a b (qInj_i hA c2)
      · rw [hA.1] at c2; omega
    · rcases hx with rfl | rfl | ⟨j, hj, rfl⟩
      · rw [hA.1] at c3; omega
      · rw [hA.1] at c3; omega
      · have := qInj_i hA c3
        exact hne i' a b (hw.2.2.2.2 _ _ b' (pq_mem (show i < pn D p by omega)) (pq_mem (show i' < pn D p by omega)) (this ▸ bl_mem hj) hb)
  · rcases c with ⟨c1, c2⟩ | ⟨c1, c2⟩
    · rcases hx with rfl | rfl | ⟨j, -, rfl⟩
      · exact hne i' a b (qInj_i hA c2)
      · rw [hA.1] at c2; omega
      · rw [hA.1] at c2; omega
    · rcases hx with rfl | rfl | ⟨j, -, rfl⟩
      · rw [hA.1] at c2; omega
      · exact hne i' a b (qInj_i hA c2)
      · rw [hA.1] at c2; omega
theorem TrR_out (hA : qInj A) {p f e k : Nat} {σ' : qS} (hw : PgW D p) (hc : qChg (roW A D p f e) σ σ') (hk : rS D p (k + 1) ≤ f) (hf : f ≤ e) (he : e ≤ pn D p) (h : TrR A D σ p k) : TrR A D σ' p k := by
  intro h0 i a b
  obtain ⟨t1, t2, t3⟩ := h h0 i a b
  have hun := fun fl x hx hfl => hc.2.2.2.2.2.1 fl x (roW_out hA hw (show i < f by omega) hf he hx hfl)
  refine ⟨(hun 210 _ (Or.inl rfl) (by decide)).trans t1, ?_, fun j hj => ?_⟩
  · unfold BxR at t2 ⊢
    rw [hun 40 _ (Or.inr (Or.inl rfl)) (by decide), hun 41 _ (Or.inr (Or.inl rfl)) (by decide), hun 42 _ (Or.inr (Or.inl rfl)) (by decide), hun 43 _ (Or.inr (Or.inl rfl)) (by decide)]
    exact t2
  · have t := t3 j hj
    unfold BxR at t ⊢
    rw [hun 40 _ (Or.inr (Or.inr ⟨j, hj, rfl⟩)) (by decide), hun 41 _ (Or.inr (Or.inr ⟨j, hj, rfl⟩)) (by decide), hun 42 _ (Or.inr (Or.inr ⟨j, hj, rfl⟩)) (by decide), hun 43 _ (Or.inr (Or.inr ⟨j, hj, rfl⟩)) (by decide)]
    exact t
end
