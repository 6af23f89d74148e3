/-- all of a page tried -/
def TrP (A : Nat → Nat → Nat) (D : qD) (σ : qS) (p : Nat) : Prop := (∀ k, TrR A D σ p k) ∧ gI σ 164 (A 5 p) = rowsOf D p
section
variable {g : qG} {l : Launch} {A : Nat → Nat → Nat} {D : qD} {σ : qS}
theorem spec_tryPage (hl : l.stackTraces = false) (hA : qInj A) {p : Nat} (hR : LR A D σ p) (hw : PgW D p) :
    qMet g l M_X3_tryPage [vr (A 4 0), vr (A 5 p)] σ (qTi0 (fun σ' v => qChg (roW A D p 0 (pn D p)) σ σ' ∧ ((v = 1 ∧ OKp D p ∧ TrP A D σ' p) ∨ (v = 0 ∧ ¬ OKp D p)))) := by
  have hn8 := hw.2.2.1
  have hpw : ∀ i, i < pn D p → PnW D (pq D p i) := fun i h2 => hw.2.2.2.1 _ (pq_mem h2)
  refine wm_X3_tryPage hl ⟨hR.2.1.1, fun σ1 h1 => ⟨fun n f x5 tp x7 σ2 => ∃ k i : Nat, x7 = i ∧ f = rS D p k ∧ n = pn D p - i ∧ x5 = sm (pw D p) i - sm (pw D p) (rS D p k) ∧ (rS D p k ≤ i ∧ i ≤ pn D p) ∧ tp = rT D p k ∧ (i < pn D p → i < rS D p (k + 1)) ∧ (i = pn D p → rS D p k = pn D p) ∧ (k ≤ rS D p k ∧ (∀ j, j < k → rS D p j < pn D p)) ∧ gI σ2 164 (A 5 p) = k ∧ qChg (roW A D p 0 (pn D p)) σ σ2 ∧
    (∀ j, j < k → rS D p j < pn D p → rH D p (rS D p j) (rS D p (j + 1)) ≤ 16 ∧ rT D p (j + 1) ≤ 50) ∧ ∀ j, j < k → TrR A D σ2 p j, ⟨_, 0, 0, rfl, rfl, rfl, by show (0 : Int) = sm _ 0 - sm _ 0; omega, ⟨Nat.le_refl _, Nat.zero_le _⟩, rfl, ?_, fun z => z, ⟨Nat.zero_le _, fun j z => absurd z (Nat.not_lt_zero _)⟩, ?_, ?_, fun j z => absurd z (Nat.not_lt_zero _), fun j z => absurd z (Nat.not_lt_zero _)⟩, ?_⟩⟩
  · intro h0
    exact (rS_nx hw (k := 0) h0).1
  · rw [h1, gI_eq]; rfl
  · rw [h1]; exact qChg_I (Or.inl ⟨rfl, rfl⟩)
  rintro n x4 x5 x6 x7 σ2 ⟨k, i, rfl, rfl, rfl, rfl, ⟨hi1, hi2⟩, rfl, hi3, hi4, ⟨hk0, hk1⟩, hrc, hc2, hok2, htr2⟩
  have hR2 := LR_tr hA (qChg_mono hc2 (fun _ _ => roW_tr)) hR
  obtain ⟨p1, p2, p3, p4, p5, p6⟩ := hR2.2.1
  rw [p3]
  refine ⟨p1, p5, _, spec_sizeM hl p5 p6, by unfold qR; omega, by show qR (pn D p : Int); unfold qR; omega, fun hd => ?_, fun hd => ?_⟩
  · have hie : i = pn D p := by have : ((row D p).length : Int) = (pn D p : Int) := rfl; omega
    have hkn := hi4 hie
    refine ⟨1, rfl, hc2, Or.inl ⟨rfl, fun j hj => hok2 j ?_ hj, fun j hj => htr2 j ?_ hj, ?_⟩⟩
    · rcases Nat.lt_or_ge j k with c | c
      · exact c
      · have := rS_mono hw c; omega
    · rcases Nat.lt_or_ge j k with c | c
      · exact c
      · have := rS_mono hw c; omega
    · rw [hrc]
      have : rowsOf D p = k := lsp_eq (by omega) (fun t ht hh => by have := hk1 t ht; omega) (fun _ => hkn)
      rw [this]
  have hin : i < pn D p := by have : ((row D p).length : Int) = (pn D p : Int) := rfl; omega
  have hi5 := hi3 hin
  have hkn : rS D p k < pn D p := by omega
  have hnx := rS_nx hw hkn
  obtain ⟨s1, s2, s3, s4, s5⟩ := spec_at (g := g) hl hR2 (rfl : (i : Int) = i) hin
  have hwi := (hpw i hin).2.2.2.2.2.1
  have hsm24 := hnx.2.2.1 i hi1 hi5
  have hsm0 : 0 ≤ sm (pw D p) i - sm (pw D p) (rS D p k) := by
    have := sm_ge0 (w := pw D p) (c := 0) hi1 (fun j a b => by have := (hpw j (by omega)).2.2.2.2.2.1.1; show 0 ≤ wd D (pq D p j); omega)
    omega
  have hsmi : sm (pw D p) (i + 1) = sm (pw D p) i + wd D (pq D p i) := rfl
  have hrT0 : 0 ≤ rT D p k ∧ rT D p k ≤ 50 := by
    have hmn : ∀ j, 0 ≤ rT D p j := by
      intro j
      induction j with
      | zero => exact Int.le_refl _
      | succ j ih => show 0 ≤ rT D p j + _; omega
    refine ⟨hmn k, ?_⟩
    cases k with
    | zero => show (0 : Int) ≤ 50; omega
    | succ k => exact (hok2 k (by omega) (hk1 k (by omega))).2
  refine ⟨A 6 (pq D p i), s4, Or.inr s5.1, s5.1, ?_⟩
  rw [s5.2.2.2.2.1]
  refine fun x26 h26 => ⟨_, spec_sizeM hl p5 p6, by unfold qR; omega, by show qR (pn D p : Int); unfold qR; omega, fun hd2 => ?_, fun hd2 => ?_⟩
  · have hE : rS D p (k + 1) = i + 1 := by
      have := hnx.2.1
      rcases Nat.lt_or_ge (i + 1) (rS D p (k + 1)) with c | c
      · exfalso
        have hll : ((row D p).length : Int) = (pn D p : Int) := rfl
        omega
      · omega
    have hc : qChg (roW A D p (rS D p k) (rS D p (k + 1))) σ2 σ2 := qChg_rf
    refine ⟨_, spec_share hl hA hR2 hw hnx.1 hnx.2.1 (by rw [hE]; omega) (by rw [h26, hE]; unfold spare; show 24 - (sm (pw D p) i - sm (pw D p) (rS D p k) + wd D (pq D p i)) = _; rw [show sm (pw D p) (i + 1) = sm (pw D p) i + wd D (pq D p i) from rfl]; omega) (by omega), fun σ3 h3 => ⟨by rw [h3.1.1]; exact hR2.1.1, ?_⟩⟩
    have hR3 := LR_tr hA (qChg_mono h3.1 (fun _ _ => shW_tr)) hR2
    refine ⟨_, spec_height hl hA hR3 hw hnx.1 hnx.2.1 (by rw [hE]; omega) (fun i' a b => ⟨h3.2 i' a b, ?_⟩), fun σ4 v4 h4 => ?_⟩
    · have := wid_le (w := pw D p) (wg := pg D p) ⟨a, b⟩ (fun j a b => (hpw j (by omega)).2.2.2.2.2.1.1) (fun j a b => (hpw j (by omega)).2.2.2.2.1.1) (by unfold spare; rw [hE]; have := hnx.2.2.1 i (by omega) (by omega); omega)
      have h5 := (hpw i' (by omega)).2.2.2.2.2.1.1
      unfold pW
      have h6 : pw D p i' = wd D (pq D p i') := rfl
      omega
    have hrH0 : (rH D p (rS D p k) (rS D p (k + 1)) : Int) = pH D p k := rfl
    have hc4 : qChg (roW A D p (rS D p k) (rS D p (k + 1))) σ2 σ4 := qChg_tr h3.1 h4.1 (fun _ _ h => Or.inr (Or.inl h)) (fun _ _ h => Or.inr (Or.inr (Or.inl h)))
    have hc04 : qChg (roW A D p 0 (pn D p)) σ σ4 := qChg_tr hc2 hc4 (fun _ _ h => h) (fun _ _ => roW_mono (Nat.zero_le _) hnx.2.1)
    rcases h4.2 with ⟨rfl, hr17⟩ | ⟨hv4, hr1, hr16, hfi⟩
    · refine ⟨by unfold qR; omega, fun _ => ⟨0, rfl, hc04, Or.inr ⟨rfl, fun hok => ?_⟩⟩, fun z => absurd rfl z⟩
      have := (hok k hkn).1
      omega
    have hrT : rT D p (k + 1) = rT D p k + v4 := by rw [hv4]; rfl
    refine ⟨by unfold qR; omega, fun z => by omega, fun _ => ⟨by unfold qR; omega, fun h50 => ?_, fun h50 => ⟨0, rfl, hc04, Or.inr ⟨rfl, fun hok => by have := (hok k hkn).2; omega⟩⟩⟩⟩
    have hR4 := LR_tr hA (qChg_mono h4.1 (fun _ _ => fiW_tr)) hR3
    have hrc4 : gI σ4 164 (A 5 p) = k := by
      rw [h4.1.2.2.2.2.2.1 164 _ ?_, h3.1.2.2.2.2.2.1 164 _ ?_]
      · exact hrc
      · rintro ⟨z, -⟩; omega
      · rintro (z | ⟨i', -, -, ⟨z, -⟩ | ⟨z1, z2, -⟩⟩)
        · have := z.1; omega
        · omega
        · omega
    have hw4 : ∀ i', rS D p k ≤ i' → i' < rS D p (k + 1) → gI σ4 42 (A 14 (pq D p i')) = pW D p (rS D p k) (rS D p (k + 1)) i' := by
      intro i' a b
      rw [h4.1.2.2.2.2.2.1 42 _ ?_]
      · exact h3.2 i' a b
      · unfold fiW tk1
        simp [hA.1]
    refine ⟨_, spec_put hl hA (tp := rT D p k) hR4 hw hnx.1 hnx.2.1 (by rw [hE]; omega) hrc4 hw4, fun σ5 h5 => ?_⟩
    have hrc5 : gI σ5 164 (A 5 p) = k := by
      rw [h5.1.2.2.2.2.2.1 164 _ ?_]
      · exact hrc4
      · rintro ⟨i', -, -, ⟨z, -⟩ | ⟨z, -⟩⟩ <;> omega
    have hc5 : qChg (roW A D p (rS D p k) (rS D p (k + 1))) σ4 σ5 := qChg_mono h5.1 (fun _ _ h => Or.inr (Or.inr (Or.inr h)))
    refine ⟨by rw [h5.1.1]; exact hR4.2.1.1, fun σ6 h6 x63 h63 x65 h65 x67 h67 => ⟨_, ?_, k + 1, i + 1, by omega, by omega, rfl, by rw [hE]; omega, ?_, by rw [h63, hrT], ?_, ?_, ?_, ?_, ?_, fun j hj hjn => ?_, fun j hj => ?_⟩⟩
    · omega
    · rw [hE]; omega
    · intro hlt
      have := (rS_nx hw (k := k + 1) (by omega)).1
      omega
    · omega
    · refine ⟨by omega, fun j hj => ?_⟩
      by_cases c : j = k
      · rw [c]; exact hkn
      · exact hk1 j (by omega)
    · rw [h6, gI_eq, hrc5]; omega
    · refine qChg_tr hc04 (Q := roW A D p 0 (pn D p)) (qChg_tr hc5 (Q := roW A D p 0 (pn D p)) ?_ (fun _ _ => roW_mono (Nat.zero_le _) hnx.2.1) (fun _ _ h => h)) (fun _ _ h => h) (fun _ _ h => h)
      rw [h6]; exact qChg_I (Or.inl ⟨rfl, rfl⟩)
    · by_cases c : j = k
      · subst c
        exact ⟨hr16, by omega⟩
      · exact hok2 j (by omega) hjn
    · have hc6 : qChg (roW A D p (rS D p k) (rS D p (k + 1))) σ2 σ6 := by
        refine qChg_tr hc4 (Q := roW A D p (rS D p k) (rS D p (k + 1))) (qChg_tr hc5 (Q := roW A D p (rS D p k) (rS D p (k + 1))) ?_ (fun _ _ h => h) (fun _ _ h => h)) (fun _ _ h => h) (fun _ _ h => h)
        rw [h6]; exact qChg_I (Or.inl ⟨rfl, rfl⟩)
      by_cases c : j = k
      · subst c
        intro _ i' a b
        obtain ⟨u1, u2, u3⟩ := h5.2 i' a b
        obtain ⟨f1, f2⟩ := hfi i' a b
        have hun6 : ∀ fl x, fl ≠ 164 → gI σ6 fl x = gI σ5 fl x := fun fl x hfl => by rw [h6]; exact gI_ne (fun z => hfl z.1)
        have hun5 : ∀ fl x, fl ≠ 210 → fl ≠ 40 → fl ≠ 41 → gI σ5 fl x = gI σ4 fl x := fun fl x z1 z2 z3 => h5.1.2.2.2.2.2.1 fl x (by rintro ⟨i', -, -, ⟨z, -⟩ | ⟨z, -⟩⟩ <;> omega)
        have hun7 : ∀ fl b', gI σ5 fl (A 17 b') = gI σ4 fl (A 17 b') := fun fl b' => h5.1.2.2.2.2.2.1 fl _ (by rintro ⟨i', -, -, ⟨z, z2⟩ | ⟨z, z2⟩⟩ <;> (rw [hA.1] at z2; omega))
        refine ⟨(hun6 _ _ (by decide)).trans u1, ?_, fun j' hj' => ?_⟩
        · refine ⟨(hun6 _ _ (by decide)).trans u3, (hun6 _ _ (by decide)).trans u2, ?_, ?_⟩
          · rw [hun6 _ _ (by decide), hun5 _ _ (by decide) (by decide) (by decide)]
            exact hw4 i' a b
          · rw [hun6 _ _ (by decide), hun5 _ _ (by decide) (by decide) (by decide), f1, hv4]; rfl
        · have t := f2 j' hj'
          rw [hv4] at t
          unfold BxR at t ⊢
          rw [hun6 _ _ (by decide), hun6 _ _ (by decide), hun6 _ _ (by decide), hun6 _ _ (by decide), hun7, hun7, hun7, hun7]
          exact t
      · exact TrR_out hA hw hc6 (rS_mono hw (by omega)) (Nat.le_of_lt hnx.1) hnx.2.1 (htr2 j (by omega))
  · have hin1 : i + 1 < pn D p := by have : ((row D p).length : Int) = (pn D p : Int) := rfl; omega
    obtain ⟨t1, t2, t3, t4, t5⟩ := spec_at (g := g) hl hR2 (i := i + 1) (x := (i : Int) + 1) (by omega) hin1
    have hwi1 := (hpw (i + 1) hin1).2.2.2.2.2.1
    have hsmi1 : sm (pw D p) (i + 1 + 1) = sm (pw D p) (i + 1) + wd D (pq D p (i + 1)) := rfl
    refine ⟨A 6 (pq D p (i + 1)), t4, Or.inr t5.1, t5.1, ?_⟩
    rw [t5.2.2.2.2.1]
    refine ⟨by unfold qR; omega, fun hd3 => ?_, fun hd3 x113 h113 => ⟨_, ?_, k, i + 1, by omega, rfl, rfl, by omega, by omega, rfl, fun _ => ?_, fun z => by omega, ⟨hk0, hk1⟩, hrc, hc2, hok2, htr2⟩⟩
    · have hE : rS D p (k + 1) = i + 1 := by
        have := hnx.2.1
        rcases Nat.lt_or_ge (i + 1) (rS D p (k + 1)) with c | c
        · exfalso
          have := hnx.2.2.1 (i + 1) (by omega) c
          omega
        · omega
      have hc : qChg (roW A D p (rS D p k) (rS D p (k + 1))) σ2 σ2 := qChg_rf
      refine ⟨_, spec_share hl hA hR2 hw hnx.1 hnx.2.1 (by rw [hE]; omega) (by rw [h26, hE]; unfold spare; show 24 - (sm (pw D p) i - sm (pw D p) (rS D p k) + wd D (pq D p i)) = _; rw [show sm (pw D p) (i + 1) = sm (pw D p) i + wd D (pq D p i) from rfl]; omega) (by omega), fun σ3 h3 => ⟨by rw [h3.1.1]; exact hR2.1.1, ?_⟩⟩
      have hR3 := LR_tr hA (qChg_mono h3.1 (fun _ _ => shW_tr)) hR2
      refine ⟨_, spec_height hl hA hR3 hw hnx.1 hnx.2.1 (by rw [hE]; omega) (fun i' a b => ⟨h3.2 i' a b, ?_⟩), fun σ4 v4 h4 => ?_⟩
      · have := wid_le (w := pw D p) (wg := pg D p) ⟨a, b⟩ (fun j a b => (hpw j (by omega)).2.2.2.2.2.1.1) (fun j a b => (hpw j (by omega)).2.2.2.2.1.1) (by unfold spare; rw [hE]; have := hnx.2.2.1 i (by omega) (by omega); omega)
        have h5 := (hpw i' (by omega)).2.2.2.2.2.1.1
        unfold pW
        have h6 : pw D p i' = wd D (pq D p i') := rfl
        omega
      have hrH0 : (rH D p (rS D p k) (rS D p (k + 1)) : Int) = pH D p k := rfl
      have hc4 : qChg (roW A D p (rS D p k) (rS D p (k + 1))) σ2 σ4 := qChg_tr h3.1 h4.1 (fun _ _ h => Or.inr (Or.inl h)) (fun _ _ h => Or.inr (Or.inr (Or.inl h)))
      have hc04 : qChg (roW A D p 0 (pn D p)) σ σ4 := qChg_tr hc2 hc4 (fun _ _ h => h) (fun _ _ => roW_mono (Nat.zero_le _) hnx.2.1)
      rcases h4.2 with ⟨rfl, hr17⟩ | ⟨hv4, hr1, hr16, hfi⟩
      · refine ⟨by unfold qR; omega, fun _ => ⟨0, rfl, hc04, Or.inr ⟨rfl, fun hok => ?_⟩⟩, fun z => absurd rfl z⟩
        have := (hok k hkn).1
        omega
      have hrT : rT D p (k + 1) = rT D p k + v4 := by rw [hv4]; rfl
      refine ⟨by unfold qR; omega, fun z => by omega, fun _ => ⟨by unfold qR; omega, fun h50 => ?_, fun h50 => ⟨0, rfl, hc04, Or.inr ⟨rfl, fun hok => by have := (hok k hkn).2; omega⟩⟩⟩⟩
      have hR4 := LR_tr hA (qChg_mono h4.1 (fun _ _ => fiW_tr)) hR3
      have hrc4 : gI σ4 164 (A 5 p) = k := by
        rw [h4.1.2.2.2.2.2.1 164 _ ?_, h3.1.2.2.2.2.2.1 164 _ ?_]
        · exact hrc
        · rintro ⟨z, -⟩; omega
        · rintro (z | ⟨i', -, -, ⟨z, -⟩ | ⟨z1, z2, -⟩⟩)
          · have := z.1; omega
          · omega
          · omega
      have hw4 : ∀ i', rS D p k ≤ i' → i' < rS D p (k + 1) → gI σ4 42 (A 14 (pq D p i')) = pW D p (rS D p k) (rS D p (k + 1)) i' := by
        intro i' a b
        rw [h4.1.2.2.2.2.2.1 42 _ ?_]
        · exact h3.2 i' a b
        · unfold fiW tk1
          simp [hA.1]
      refine ⟨_, spec_put hl hA (tp := rT D p k) hR4 hw hnx.1 hnx.2.1 (by rw [hE]; omega) hrc4 hw4, fun σ5 h5 => ?_⟩
      have hrc5 : gI σ5 164 (A 5 p) = k := by
        rw [h5.1.2.2.2.2.2.1 164 _ ?_]
        · exact hrc4
        · rintro ⟨i', -, -, ⟨z, -⟩ | ⟨z, -⟩⟩ <;> omega
      have hc5 : qChg (roW A D p (rS D p k) (rS D p (k + 1))) σ4 σ5 := qChg_mono h5.1 (fun _ _ h => Or.inr (Or.inr (Or.inr h)))
      refine ⟨by rw [h5.1.1]; exact hR4.2.1.1, fun σ6 h6 x63 h63 x65 h65 x67 h67 => ⟨_, ?_, k + 1, i + 1, by omega, by omega, rfl, by rw [hE]; omega, ?_, by rw [h63, hrT], ?_, ?_, ?_, ?_, ?_, fun j hj hjn => ?_, fun j hj => ?_⟩⟩
      · omega
      · rw [hE]; omega
      · intro hlt
        have := (rS_nx hw (k := k + 1) (by omega)).1
        omega
      · omega
      · refine ⟨by omega, fun j hj => ?_⟩
        by_cases c : j = k
        · rw [c]; exact hkn
        · exact hk1 j (by omega)
      · rw [h6, gI_eq, hrc5]; omega
      · refine qChg_tr hc04 (Q := roW A D p 0 (pn D p)) (qChg_tr hc5 (Q := roW A D p 0 (pn D p)) ?_ (fun _ _ => roW_mono (Nat.zero_le _) hnx.2.1) (fun _ _ h => h)) (fun _ _ h => h) (fun _ _ h => h)
        rw [h6]; exact qChg_I (Or.inl ⟨rfl, rfl⟩)
      · by_cases c : j = k
        · subst c
          exact ⟨hr16, by omega⟩
        · exact hok2 j (by omega) hjn
      · have hc6 : qChg (roW A D p (rS D p k) (rS D p (k + 1))) σ2 σ6 := by
          refine qChg_tr hc4 (Q := roW A D p (rS D p k) (rS D p (k + 1))) (qChg_tr hc5 (Q := roW A D p (rS D p k) (rS D p (k + 1))) ?_ (fun _ _ h => h) (fun _ _ h => h)) (fun _ _ h => h) (fun _ _ h => h)
          rw [h6]; exact qChg_I (Or.inl ⟨rfl, rfl⟩)
        by_cases c : j = k
        · subst c
          intro _ i' a b
          obtain ⟨u1, u2, u3⟩ := h5.2 i' a b
          obtain ⟨f1, f2⟩ := hfi i' a b
          have hun6 : ∀ fl x, fl ≠ 164 → gI σ6 fl x = gI σ5 fl x := fun fl x hfl => by rw [h6]; exact gI_ne (fun z => hfl z.1)
          have hun5 : ∀ fl x, fl ≠ 210 → fl ≠ 40 → fl ≠ 41 → gI σ5 fl x = gI σ4 fl x := fun fl x z1 z2 z3 => h5.1.2.2.2.2.2.1 fl x (by rintro ⟨i', -, -, ⟨z, -⟩ | ⟨z, -⟩⟩ <;> omega)
          have hun7 : ∀ fl b', gI σ5 fl (A 17 b') = gI σ4 fl (A 17 b') := fun fl b' => h5.1.2.2.2.2.2.1 fl _ (by rintro ⟨i', -, -, ⟨z, z2⟩ | ⟨z, z2⟩⟩ <;> (rw [hA.1] at z2; omega))
          refine ⟨(hun6 _ _ (by decide)).trans u1, ?_, fun j' hj' => ?_⟩
          · refine ⟨(hun6 _ _ (by decide)).trans u3, (hun6 _ _ (by decide)).trans u2, ?_, ?_⟩
            · rw [hun6 _ _ (by decide), hun5 _ _ (by decide) (by decide) (by decide)]
              exact hw4 i' a b
            · rw [hun6 _ _ (by decide), hun5 _ _ (by decide) (by decide) (by decide), f1, hv4]; rfl
          · have t := f2 j' hj'
            rw [hv4] at t
            unfold BxR at t ⊢
            rw [hun6 _ _ (by decide), hun6 _ _ (by decide), hun6 _ _ (by decide), hun6 _ _ (by decide), hun7, hun7, hun7, hun7]
            exact t
        · exact TrR_out hA hw hc6 (rS_mono hw (by omega)) (Nat.le_of_lt hnx.1) hnx.2.1 (htr2 j (by omega))
    · omega
    · rcases Nat.lt_or_ge (i + 1) (rS D p (k + 1)) with c | c
      · exact c
      · exfalso
        have he : rS D p (k + 1) = i + 1 := by omega
        have := hnx.2.2.2 (by omega)
        rw [he] at this
        omega
end
