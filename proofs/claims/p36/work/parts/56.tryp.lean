/-! the class's layout: heights, places, a page -/
section
variable {g : qG} {l : Launch} {A : Nat → Nat → Nat} {D : qD} {σ : qS}
theorem plW_fi {p f e i fl x : Nat} (h1 : f ≤ i) (h2 : i < e) (h : plW A D (pq D p i) fl x) : fiW A D p f e fl x := by
  rcases h with h | ⟨a, b, c⟩
  · exact Or.inl h
  · exact Or.inr ⟨i, h1, h2, Or.inr ⟨a, b, c⟩⟩
/-- the panels of a row at a height, with their balloons -/
def FiR (A : Nat → Nat → Nat) (D : qD) (σ : qS) (p f e : Nat) (Wd : Nat → Int) (h : Int) : Prop := ∀ i, f ≤ i → i < e → gI σ 43 (A 14 (pq D p i)) = h ∧ ∀ k, k < (hs D (pq D p i)).length → BxR σ (A 17 (bl D (pq D p i) k)) (box D p (pq D p i) (Wd i) h k)
theorem spec_fits (hl : l.stackTraces = false) (hA : qInj A) {p f e : Nat} {x2 h : Int} {Wd : Nat → Int} (hR : LR A D σ p) (hw : PgW D p) (hfe : f < e) (he : e ≤ pn D p) (hx2 : x2 = (e : Int) - 1) (hh : 0 ≤ h ∧ h ≤ 16)
    (hW : ∀ i, f ≤ i → i < e → gI σ 42 (A 14 (pq D p i)) = Wd i ∧ 1 ≤ Wd i ∧ Wd i ≤ 24) :
    qMet g l M_X3_fitsInto [vr (A 4 0), vi h, vr (A 5 p), vi f, vi x2] σ (qTi0 (fun σ' v => qChg (fiW A D p f e) σ σ' ∧ ((v = 1 ∧ (∀ i, f ≤ i → i < e → Fit D p (pq D p i) (Wd i) h) ∧ FiR A D σ' p f e Wd h) ∨ (v = 0 ∧ ∃ i, f ≤ i ∧ i < e ∧ ¬ Fit D p (pq D p i) (Wd i) h)))) := by
  have hn8 := hw.2.2.1
  refine wm_X3_fitsInto hl ⟨fun n x1 σ1 => ∃ k : Nat, f ≤ k ∧ k ≤ e ∧ x1 = k ∧ n = e - k ∧ qChg (fiW A D p f e) σ σ1 ∧ (∀ i, f ≤ i → i < k → Fit D p (pq D p i) (Wd i) h) ∧ FiR A D σ1 p f k Wd h, ⟨_, f, by omega, by omega, rfl, rfl, qChg_rf, fun i a b => by omega, fun i a b => by omega⟩, ?_⟩
  rintro n x1 σ1 ⟨k, hk1, hk2, rfl, rfl, hc1, hf1, hr1⟩
  refine ⟨by unfold qR; omega, by unfold qR; omega, fun hd => ?_, fun hd => ?_⟩
  · have : k = e := by omega
    subst this
    exact ⟨1, rfl, hc1, Or.inl ⟨rfl, hf1, hr1⟩⟩
  have hR1 := LR_tr hA (qChg_mono hc1 (fun _ _ => fiW_tr)) hR
  obtain ⟨s1, s2, s3, s4, s5⟩ := spec_at (g := g) hl hR1 (rfl : (k : Int) = k) (by omega)
  have s50 := s5
  obtain ⟨r1, r2, r3, r4, r5, r6, r7, r8, r9, r10, r11, r12, r13, r14, r15, r16, r17⟩ := s5
  have hm := pq_mem (show k < pn D p by omega)
  have hmR := hR1.2.2 _ hm
  rw [s2]
  refine ⟨s1, s3, A 6 (pq D p k), s4, Or.inr r1, r1, by rw [r10]; exact r16, ?_⟩
  rw [r10]
  refine fun σ2 h2 => ⟨by rw [h2]; exact hR1.1.1, ?_⟩
  have hc2 : qChg (fiW A D p f e) σ1 σ2 := by rw [h2]; exact qChg_I (Or.inr ⟨k, hk1, by omega, Or.inl ⟨rfl, rfl⟩⟩)
  have hR2 := LR_tr hA (qChg_mono hc2 (fun _ _ => fiW_tr)) hR1
  have hmR2 := hR2.2.2 _ hm
  have hWk := hW k hk1 (by omega)
  have hW1 : gI σ1 42 (A 14 (pq D p k)) = Wd k := by
    rw [hc1.2.2.2.2.2.1 42 _ ?_]
    · exact hWk.1
    · unfold fiW tk1
      simp [hA.1]
  have hW2 : gI σ2 42 (A 14 (pq D p k)) = Wd k := by rw [h2, gI_sI, if_neg (fun z => absurd z.1 (by decide))]; exact hW1
  have hH2 : gI σ2 43 (A 14 (pq D p k)) = h := by rw [h2]; exact gI_eq
  refine ⟨_, spec_place hl hA (p := p) hR2.1 hR2.2.1 hmR2.1 hmR2.2.1 hmR2.2.2 (hw.2.2.2.1 _ hm) hw.1 hW2 hH2 hWk.2 hh, fun σ3 v h3 => ?_⟩
  obtain ⟨hc3, hv⟩ := h3
  have hc03 := qChg_tr hc1 (qChg_tr hc2 hc3 (R := fiW A D p f e) (fun _ _ h => h) (fun _ _ => plW_fi hk1 (by omega))) (R := fiW A D p f e) (fun _ _ h => h) (fun _ _ h => h)
  rcases hv with ⟨rfl, hfit, hbx⟩ | ⟨rfl, hfit⟩
  · refine ⟨by unfold qR; omega, fun _ x32 h32 => ⟨_, ?_, k + 1, by omega, by omega, by omega, rfl, hc03, fun i a b => ?_, fun i a b => ?_⟩, fun z => by omega⟩
    · omega
    · by_cases c : i = k
      · rw [c]; exact hfit
      · exact hf1 i a (by omega)
    · by_cases c : i = k
      · subst c
        refine ⟨?_, hbx⟩
        rw [hc3.2.2.2.2.2.1 43 _ ?_]
        · exact hH2
        · unfold plW tk1
          simp [hA.1]
      · have hne : ∀ fl x, (x = A 14 (pq D p i) ∨ ∃ j, j < (hs D (pq D p i)).length ∧ x = A 17 (bl D (pq D p i) j)) → fl ≠ 999 → gI σ3 fl x = gI σ1 fl x := by
          intro fl x hx hfl
          rw [hc3.2.2.2.2.2.1 fl x ?_, h2, gI_sI, if_neg ?_]
          · rintro ⟨z1, z2⟩
            rcases hx with hx | ⟨j, hj, hx⟩
            · rw [hx] at z2
              exact c (nodup_at hw.2.1 (show i < pn D p by omega) (show k < pn D p by omega) (qInj_i hA z2))
            · rw [hx, hA.1] at z2
              omega
          · rintro (h | ⟨h1, h4, b, hb, hb2⟩)
            · exact hfl h.1
            · rcases hx with hx | ⟨j, hj, hx⟩
              · rw [hx, hA.1] at hb2; omega
              · rw [hx] at hb2
                have := qInj_i hA hb2
                have h5 := hw.2.2.2.2 _ _ b hm (pq_mem (show i < pn D p by omega)) hb (this ▸ bl_mem hj)
                exact c (nodup_at hw.2.1 (show i < pn D p by omega) (show k < pn D p by omega) h5.symm)
        obtain ⟨t1, t2⟩ := hr1 i a (by omega)
        refine ⟨(hne 43 _ (Or.inl rfl) (by decide)).trans t1, fun j hj => ?_⟩
        have t3 := t2 j hj
        unfold BxR at t3 ⊢
        rw [hne 40 _ (Or.inr ⟨j, hj, rfl⟩) (by decide), hne 41 _ (Or.inr ⟨j, hj, rfl⟩) (by decide), hne 42 _ (Or.inr ⟨j, hj, rfl⟩) (by decide), hne 43 _ (Or.inr ⟨j, hj, rfl⟩) (by decide)]
        exact t3
  · exact ⟨by unfold qR; omega, fun z => absurd rfl z, fun _ => ⟨0, rfl, hc03, Or.inr ⟨rfl, k, hk1, by omega, hfit⟩⟩⟩
theorem spec_height (hl : l.stackTraces = false) (hA : qInj A) {p f e : Nat} {x2 : Int} (hR : LR A D σ p) (hw : PgW D p) (hfe : f < e) (he : e ≤ pn D p) (hx2 : x2 = (e : Int) - 1)
    (hW : ∀ i, f ≤ i → i < e → gI σ 42 (A 14 (pq D p i)) = pW D p f e i ∧ 1 ≤ pW D p f e i ∧ pW D p f e i ≤ 24) :
    qMet g l M_X3_heightOfRow [vr (A 4 0), vr (A 5 p), vi f, vi x2] σ (qTi0 (fun σ' v => qChg (fiW A D p f e) σ σ' ∧ ((v = 0 ∧ rH D p f e = 17) ∨ (v = (rH D p f e : Nat) ∧ 1 ≤ rH D p f e ∧ rH D p f e ≤ 16 ∧ FiR A D σ' p f e (pW D p f e) v)))) := by
  have hn8 := hw.2.2.1
  have hpw : ∀ i, f ≤ i → i < e → PnW D (pq D p i) := fun i _ h2 => hw.2.2.2.1 _ (pq_mem (by omega))
  refine wm_X3_heightOfRow hl ⟨fun n x1 x2' σ1 => σ1 = σ ∧ ∃ k : Nat, f ≤ k ∧ k ≤ e ∧ x2' = k ∧ n = e - k ∧ 0 ≤ x1 ∧ x1 ≤ 12 ∧ (∀ i, f ≤ i → i < k → ht D (pq D p i) ≤ x1) ∧ (f < k → ∃ i, f ≤ i ∧ i < k ∧ ht D (pq D p i) = x1) ∧ (f = k → x1 = 0), ⟨_, rfl, f, by omega, by omega, rfl, rfl, by omega, by omega, fun i a b => by omega, fun z => by omega, fun _ => rfl⟩, ?_⟩
  rintro n x1 x2' σ1 ⟨rfl, k, hk1, hk2, rfl, rfl, h10, h11, hm1, hm2, hm3⟩
  refine ⟨by unfold qR; omega, by unfold qR; omega, fun hc => ?_, fun hc => ?_⟩
  · have : k = e := by omega
    subst this
    obtain ⟨i0, hi0, hi1, hi2⟩ := hm2 hfe
    have hx3 : 3 ≤ x1 := by have := (hpw i0 hi0 hi1).2.2.2.2.2.2.1; omega
    refine ⟨fun n h σ2 => ∃ m : Nat, h = m ∧ x1 ≤ h ∧ m ≤ 17 ∧ n = 17 - m ∧ qChg (fiW A D p f k) σ1 σ2 ∧ ∀ t, t < m → ¬ ∀ i, f ≤ i → i < k → ht D (pq D p i) ≤ t ∧ Fit D p (pq D p i) (pW D p f k i) t, ⟨_, x1.toNat, by omega, by omega, by omega, rfl, qChg_rf, fun t ht' hh => ?_⟩, ?_⟩
    · have := (hh i0 hi0 hi1).1
      omega
    rintro n h σ2 ⟨m, rfl, hm3, hm4, rfl, hc2, hno⟩
    refine ⟨by unfold qR; omega, fun hd => ⟨0, rfl, hc2, Or.inl ⟨rfl, ?_⟩⟩, fun hd => ?_⟩
    · have : m = 17 := by omega
      subst this
      exact lsp_eq (by omega) hno (fun z => absurd z (by omega))
    have hR2 := LR_tr hA (qChg_mono hc2 (fun _ _ => fiW_tr)) hR
    refine ⟨hR2.1.1, _, spec_fits hl hA hR2 hw hfe he hx2 (by omega) (fun i a b => ⟨?_, (hW i a b).2⟩), fun σ3 v h3 => ?_⟩
    · rw [hc2.2.2.2.2.2.1 42 _ ?_]
      · exact (hW i a b).1
      · unfold fiW tk1
        simp [hA.1]
    obtain ⟨hc3, hv⟩ := h3
    have hc03 := qChg_tr hc2 hc3 (R := fiW A D p f k) (fun _ _ h => h) (fun _ _ h => h)
    rcases hv with ⟨rfl, hfit, hfi⟩ | ⟨rfl, i, hi, hi', hfit⟩
    · have hrh : rH D p f k = m := lsp_eq (by omega) hno (fun _ i a b => ⟨by have := hm1 i a b; omega, hfit i a b⟩)
      exact ⟨by unfold qR; omega, fun z => by omega, fun _ => ⟨_, rfl, hc03, Or.inr ⟨by rw [hrh], by omega, by omega, hfi⟩⟩⟩
    · refine ⟨by unfold qR; omega, fun _ x34 h34 => ⟨_, ?_, m + 1, by omega, by omega, by omega, rfl, hc03, fun t ht' => ?_⟩, fun z => absurd rfl z⟩
      · omega
      · by_cases c : t = m
        · rw [c]; exact fun hh => hfit (hh i hi hi').2
        · exact hno t (by omega)
  · obtain ⟨s1, s2, s3, s4, s5⟩ := spec_at (g := g) hl hR (rfl : (k : Int) = k) (by omega)
    have hht := (hpw k hk1 (by omega)).2.2.2.2.2.2
    rw [s2]
    refine ⟨s1, s3, A 6 (pq D p k), s4, Or.inr s5.1, s5.1, by unfold qR; omega, by rw [s5.2.2.2.2.2.1]; unfold qR; omega, ?_⟩
    rw [s5.2.2.2.2.2.1]
    refine fun x46 h46 x48 h48 => ⟨_, ?_, rfl, k + 1, by omega, by omega, by omega, rfl, by omega, by omega, fun i a b => ?_, fun _ => ?_, fun z => by omega⟩
    · omega
    · by_cases c : i = k
      · rw [c]; omega
      · have := hm1 i a (by omega); omega
    · by_cases c : x1 ≤ ht D (pq D p k)
      · exact ⟨k, hk1, by omega, by omega⟩
      · have hfk : f < k := by
          rcases Nat.lt_or_ge f k with h | h
          · exact h
          · have := hm3 (by omega)
            omega
        obtain ⟨i, a, b, d⟩ := hm2 hfk
        exact ⟨i, a, by omega, by omega⟩
theorem spec_put (hl : l.stackTraces = false) (hA : qInj A) {p f e : Nat} {x2 tp rc : Int} {Wd : Nat → Int} (hR : LR A D σ p) (hw : PgW D p) (hfe : f < e) (he : e ≤ pn D p) (hx2 : x2 = (e : Int) - 1) (hrc : gI σ 164 (A 5 p) = rc)
    (hW : ∀ i, f ≤ i → i < e → gI σ 42 (A 14 (pq D p i)) = Wd i) :
    qMet g l M_X3_putRow [vr (A 5 p), vi f, vi x2, vi tp] σ (qTv0 (fun σ' => qChg (puW A D p f e) σ σ' ∧ ∀ i, f ≤ i → i < e → gI σ' 210 (A 6 (pq D p i)) = rc ∧ gI σ' 41 (A 14 (pq D p i)) = tp ∧ gI σ' 40 (A 14 (pq D p i)) = if tg D p = 1 then 24 - (sm Wd i - sm Wd f) - Wd i else sm Wd i - sm Wd f)) := by
  have hn8 := hw.2.2.1
  refine wm_X3_putRow hl ⟨fun n x1 x2' σ1 => ∃ k : Nat, f ≤ k ∧ k ≤ e ∧ x2' = k ∧ n = e - k ∧ x1 = sm Wd k - sm Wd f ∧ qChg (puW A D p f e) σ σ1 ∧ ∀ i, f ≤ i → i < k → gI σ1 210 (A 6 (pq D p i)) = rc ∧ gI σ1 41 (A 14 (pq D p i)) = tp ∧ gI σ1 40 (A 14 (pq D p i)) = if tg D p = 1 then 24 - (sm Wd i - sm Wd f) - Wd i else sm Wd i - sm Wd f,
    ⟨_, f, by omega, by omega, rfl, rfl, by omega, qChg_rf, fun i a b => by omega⟩, ?_⟩
  rintro n x1 x2' σ1 ⟨k, hk1, hk2, rfl, rfl, hx1, hc1, hv1⟩
  refine ⟨by unfold qR; omega, by unfold qR; omega, fun hd => ?_, fun hd => ?_⟩
  · have : k = e := by omega
    subst this
    exact ⟨rfl, hc1, hv1⟩
  have hR1 := LR_tr hA (qChg_mono hc1 (fun _ _ => puW_tr)) hR
  obtain ⟨s1, s2, s3, s4, s5⟩ := spec_at (g := g) hl hR1 (rfl : (k : Int) = k) (by omega)
  obtain ⟨r1, r2, r3, r4, r5, r6, r7, r8, r9, r10, r11, r12, r13, r14, r15, r16, r17⟩ := s5
  have hrc1 : gI σ1 164 (A 5 p) = rc := by
    rw [hc1.2.2.2.2.2.1 164 _ ?_]
    · exact hrc
    · rintro ⟨i, -, -, ⟨h, -⟩ | ⟨h, -⟩⟩ <;> omega
  have hW1 : gI σ1 42 (A 14 (pq D p k)) = Wd k := by
    rw [hc1.2.2.2.2.2.1 42 _ ?_]
    · exact hW k hk1 (by omega)
    · rintro ⟨i, -, -, ⟨h, -⟩ | ⟨h, -⟩⟩ <;> omega
  rw [s2, hrc1]
  refine ⟨s1, s3, A 6 (pq D p k), s4, Or.inr r1, r1, fun σ2 h2 => ?_⟩
  have e2 : gP σ2 208 (A 6 (pq D p k)) = A 14 (pq D p k) := by rw [h2]; exact r10
  rw [e2]
  refine ⟨by rw [h2]; exact r16, fun σ3 h3 => ?_⟩
  have e3 : gP σ3 208 (A 6 (pq D p k)) = A 14 (pq D p k) := by rw [h3]; exact e2
  rw [e3]
  have hc3 : qChg (puW A D p f e) σ1 σ3 := by
    refine qChg_tr (Q := puW A D p f e) (P := puW A D p f e) (σ1 := σ2) ?_ ?_ (fun _ _ h => h) (fun _ _ h => h)
    · rw [h2]; exact qChg_I ⟨k, hk1, by omega, Or.inl ⟨rfl, rfl⟩⟩
    · rw [h3]; exact qChg_I ⟨k, hk1, by omega, Or.inr ⟨Or.inr rfl, rfl⟩⟩
  have hR3 := LR_tr hA (qChg_mono hc3 (fun _ _ => puW_tr)) hR1
  have hW3 : gI σ3 42 (A 14 (pq D p k)) = Wd k := by rw [h3, h2, gI_sI, if_neg (fun z => absurd z.1 (by decide)), gI_sI, if_neg (fun z => absurd z.1 (by decide))]; exact hW1
  rw [hW3]
  refine ⟨by rw [h3, h2]; exact r16, _, spec_isFromRight hl hR3.2.1 hw.1.1, _, spec_turned hl rfl, fun σ4 h4 => ?_⟩
  have e4 : gP σ4 208 (A 6 (pq D p k)) = A 14 (pq D p k) := by rw [h4]; exact e3
  have hW4 : gI σ4 42 (A 14 (pq D p k)) = Wd k := by rw [h4, gI_sI, if_neg (fun z => absurd z.1 (by decide))]; exact hW3
  have hc4 : qChg (puW A D p f e) σ3 σ4 := by rw [h4]; exact qChg_I ⟨k, hk1, by omega, Or.inr ⟨Or.inl rfl, rfl⟩⟩
  rw [e4, hW4]
  refine ⟨by rw [h4, h3, h2]; exact r16, fun x32 h32 x34 h34 => ⟨_, ?_, k + 1, by omega, by omega, by omega, rfl, ?_, qChg_tr hc1 (qChg_tr hc3 hc4 (R := puW A D p f e) (fun _ _ h => h) (fun _ _ h => h)) (fun _ _ h => h) (fun _ _ h => h), fun i a b => ?_⟩⟩
  · omega
  · rw [h32, hx1]
    show _ = sm Wd k + Wd k - sm Wd f
    omega
  · by_cases c : i = k
    · subst c
      refine ⟨?_, ?_, ?_⟩
      · rw [h4, h3, h2]; simp [gI_sI]
      · rw [h4, h3, h2]; simp [gI_sI]
      · rw [h4, gI_eq, hx1]
    · have hne : pq D p i ≠ pq D p k := fun z => c (nodup_at hw.2.1 (show i < pn D p by omega) (show k < pn D p by omega) z)
      have := hv1 i a (by omega)
      have hun : ∀ f x, (x = A 6 (pq D p i) ∨ x = A 14 (pq D p i)) → gI σ4 f x = gI σ1 f x := by
        intro f x hx
        rw [h4, h3, h2]
        rcases hx with rfl | rfl <;> simp [gI_sI, hA.1, hne]
      rw [hun 210 _ (Or.inl rfl), hun 41 _ (Or.inr rfl), hun 40 _ (Or.inr rfl)]
      exact this
end
