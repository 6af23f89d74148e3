/-! the class's layout: rows -/
theorem sm_ge0 {w : Nat → Int} {c : Int} {f : Nat} : ∀ {e : Nat}, f ≤ e → (∀ j, f ≤ j → j < e → c ≤ w j) → c * ((e : Int) - f) ≤ sm w e - sm w f
  | 0, h, _ => by
    have : f = 0 := by omega
    rw [this]; simp
  | e + 1, h, hw => by
    by_cases c1 : f = e + 1
    · rw [c1]; simp
    · have h1 := sm_ge0 (e := e) (by omega) (fun j a b => hw j a (by omega))
      have h2 := hw e (by omega) (by omega)
      have h3 : c * (((e + 1 : Nat) : Int) - f) = c * ((e : Int) - f) + c := by
        rw [show (((e + 1 : Nat) : Int) - f) = ((e : Int) - f) + 1 by omega, Int.mul_add, Int.mul_one]
      rw [h3]
      show _ ≤ sm w e + w e - sm w f
      omega
theorem sm_ge1 {w : Nat → Int} {c : Int} {f i : Nat} (h1 : f ≤ i) : ∀ {e : Nat}, i < e → (∀ j, f ≤ j → j < e → c ≤ w j) → c * ((e : Int) - f - 1) + w i ≤ sm w e - sm w f
  | 0, h, _ => absurd h (Nat.not_lt_zero _)
  | e + 1, h, hw => by
    have h3 : c * (((e + 1 : Nat) : Int) - f - 1) = c * ((e : Int) - f) := by
      rw [show (((e + 1 : Nat) : Int) - f - 1) = ((e : Int) - f) by omega]
    rw [h3]
    show _ ≤ sm w e + w e - sm w f
    by_cases c1 : i = e
    · rw [c1]
      have := sm_ge0 (e := e) (w := w) (c := c) (f := f) (by omega) (fun j a b => hw j a (by omega))
      omega
    · have h4 := sm_ge1 (e := e) (w := w) (c := c) h1 (by omega) (fun j a b => hw j a (by omega))
      have h2 := hw e (by omega) (by omega)
      have h5 : c * ((e : Int) - f) = c * ((e : Int) - f - 1) + c := by
        rw [show ((e : Int) - f) = ((e : Int) - f - 1) + 1 by omega, Int.mul_add, Int.mul_one]
        rw [show ((e : Int) - f - 1 + 1 - 1) = (e : Int) - f - 1 by omega]
      omega
theorem more_le {w wg : Nat → Int} {f e i : Nat} (hi : f ≤ i ∧ i < e) (hg : ∀ j, f ≤ j → j < e → 1 ≤ wg j) (hs : 0 ≤ spare w f e) : 0 ≤ more w wg f e i ∧ more w wg f e i ≤ spare w f e ∧ wg i ≤ sm wg e - sm wg f := by
  have h1 := sm_ge1 (w := wg) (c := 1) hi.1 hi.2 hg
  have h2 := hg i hi.1 hi.2
  have h3 : wg i ≤ sm wg e - sm wg f := by omega
  refine ⟨?_, ?_, h3⟩
  · exact Int.ediv_nonneg (Int.mul_nonneg hs (by omega)) (by omega)
  · refine Int.ediv_le_of_le_mul (by omega) ?_
    exact Int.mul_le_mul_of_nonneg_left h3 hs
theorem wid_le {w wg : Nat → Int} {f e i : Nat} (hi : f ≤ i ∧ i < e) (hw : ∀ j, f ≤ j → j < e → 4 ≤ w j) (hg : ∀ j, f ≤ j → j < e → 1 ≤ wg j) (hs : 0 ≤ spare w f e) : w i ≤ wid w wg f e i ∧ wid w wg f e i ≤ 24 := by
  obtain ⟨m0, m1, m2⟩ := more_le hi hg hs
  have h1 := sm_ge1 (w := w) (c := 4) hi.1 hi.2 hw
  unfold wid
  by_cases c : e = f + 1
  · have hif : i = f := by omega
    subst hif
    subst c
    have e1 : sm wg (i + 1) - sm wg i = wg i := by
      show sm wg i + wg i - sm wg i = wg i
      omega
    have e2 : more w wg i (i + 1) i = spare w i (i + 1) := by
      unfold more
      rw [e1]
      exact Int.mul_ediv_cancel _ (by have := hg i (by omega) (by omega); omega)
    have e3 : rst w wg i (i + 1) = 0 := by
      unfold rst
      show spare w i (i + 1) - (sm (more w wg i (i + 1)) i + more w wg i (i + 1) i - sm (more w wg i (i + 1)) i) = 0
      rw [e2]; omega
    have e4 : sm w (i + 1) - sm w i = w i := by
      show sm w i + w i - sm w i = w i
      omega
    rw [e2, e3, if_neg (by omega)]
    have : spare w i (i + 1) = 24 - w i := by unfold spare; rw [e4]
    omega
  · have : spare w f e = 24 - (sm w e - sm w f) := rfl
    have h6 : 4 * (1 : Int) ≤ 4 * ((e : Int) - f - 1) := Int.mul_le_mul_of_nonneg_left (by omega) (by omega)
    split <;> omega
/-- a page as it may be -/
def PgW (D : qD) (p : Nat) : Prop := TgW D p ∧ (row D p).Nodup ∧ pn D p ≤ 8 ∧ (∀ q, q ∈ row D p → PnW D q) ∧ ∀ q q' b, q ∈ row D p → q' ∈ row D p → b ∈ hs D q → b ∈ hs D q' → q = q'
theorem pq_mem {D : qD} {p i : Nat} (h : i < pn D p) : pq D p i ∈ row D p := by
  unfold pq
  rw [List.getD_eq_getElem?_getD, List.getElem?_eq_getElem h]
  exact List.getElem_mem h
theorem qInj_i {A : Nat → Nat → Nat} (hA : qInj A) {k i j : Nat} (h : A k i = A k j) : i = j := by
  rw [hA.1] at h
  exact h.2
def shW (A : Nat → Nat → Nat) (D : qD) (p f e fl x : Nat) : Prop := fl = 42 ∧ ∃ i, f ≤ i ∧ i < e ∧ x = A 14 (pq D p i)
def fiW (A : Nat → Nat → Nat) (D : qD) (p f e fl x : Nat) : Prop := tk1 A fl x ∨ ∃ i, f ≤ i ∧ i < e ∧ ((fl = 43 ∧ x = A 14 (pq D p i)) ∨ (40 ≤ fl ∧ fl ≤ 43 ∧ ∃ b, b ∈ hs D (pq D p i) ∧ x = A 17 b))
def puW (A : Nat → Nat → Nat) (D : qD) (p f e fl x : Nat) : Prop := ∃ i, f ≤ i ∧ i < e ∧ ((fl = 210 ∧ x = A 6 (pq D p i)) ∨ ((fl = 40 ∨ fl = 41) ∧ x = A 14 (pq D p i)))
section
variable {g : qG} {l : Launch} {A : Nat → Nat → Nat} {D : qD} {σ : qS}
theorem shW_tr {p f e fl x : Nat} (h : shW A D p f e fl x) : tr1 A fl x := by
  obtain ⟨h1, i, -, -, h2⟩ := h
  exact Or.inr (Or.inr (Or.inr ⟨by omega, by omega, _, Or.inl h2⟩))
theorem fiW_tr {p f e fl x : Nat} (h : fiW A D p f e fl x) : tr1 A fl x := by
  rcases h with h | ⟨i, -, -, ⟨h1, h2⟩ | ⟨h1, h2, b, -, h3⟩⟩
  · exact tk1_tr h
  · exact Or.inr (Or.inr (Or.inr ⟨by omega, by omega, _, Or.inl h2⟩))
  · exact Or.inr (Or.inr (Or.inr ⟨h1, h2, _, Or.inr h3⟩))
theorem puW_tr {p f e fl x : Nat} (h : puW A D p f e fl x) : tr1 A fl x := by
  obtain ⟨i, -, -, ⟨h1, h2⟩ | ⟨h1, h2⟩⟩ := h
  · exact Or.inr (Or.inl h1)
  · exact Or.inr (Or.inr (Or.inr ⟨by omega, by omega, _, Or.inl h2⟩))
/-- the panel at a place, by the list -/
theorem spec_at (hl : l.stackTraces = false) {p i : Nat} {x : Int} (h : LR A D σ p) (hi : x = i) (hn : i < pn D p) : gK σ (A 5 p) = 5 ∧ gP σ 161 (A 5 p) = A 10 p ∧ gK σ (A 10 p) = 50 ∧ qMet g l M_Jx4a65c_get_915e3 [vr (A 10 p), vi x] σ (qPr σ (A 6 (pq D p i))) ∧ PnR A D σ (pq D p i) := by
  obtain ⟨h1, ⟨p1, p2, p3, p4, p5, p6⟩, h3⟩ := h
  exact ⟨p1, p3, p5, spec_getM hl p5 p6 hi hn, (h3 _ (pq_mem hn)).1⟩
theorem spec_share (hl : l.stackTraces = false) (hA : qInj A) {p f e : Nat} {x2 x3 : Int} (h : LR A D σ p) (hw : PgW D p) (hfe : f < e) (he : e ≤ pn D p) (hx2 : x2 = (e : Int) - 1) (hx3 : x3 = spare (pw D p) f e) (hs : 0 ≤ x3 ∧ x3 ≤ 24) :
    qMet g l M_X3_shareWidth [vr (A 5 p), vi f, vi x2, vi x3] σ (qTv0 (fun σ' => qChg (shW A D p f e) σ σ' ∧ ∀ i, f ≤ i → i < e → gI σ' 42 (A 14 (pq D p i)) = pW D p f e i)) := by
  have hn8 := hw.2.2.1
  have hpw : ∀ i, f ≤ i → i < e → PnW D (pq D p i) := fun i _ h2 => hw.2.2.2.1 _ (pq_mem (by omega))
  have hg1 : ∀ i, f ≤ i → i < e → 1 ≤ pg D p i := fun i h1 h2 => (hpw i h1 h2).2.2.2.2.1.1
  have hg9 : ∀ i, f ≤ i → i < e → pg D p i ≤ 9 := fun i h1 h2 => (hpw i h1 h2).2.2.2.2.1.2
  have hw4 : ∀ i, f ≤ i → i < e → 4 ≤ pw D p i := fun i h1 h2 => (hpw i h1 h2).2.2.2.2.2.1.1
  have hsum : ∀ k, f ≤ k → k ≤ e → sm (pg D p) k - sm (pg D p) f ≤ 9 * ((k : Int) - f) := by
    intro k h1 h2
    have := sm_ge0 (w := fun i => - pg D p i) (c := -9) (f := f) (e := k) h1 (fun j a b => by have := hg9 j a (by omega); omega)
    have hneg : ∀ n, sm (fun i => - pg D p i) n = - sm (pg D p) n := by
      intro n
      induction n with
      | zero => rfl
      | succ n ih => show sm _ n + - pg D p n = - (sm (pg D p) n + pg D p n); rw [ih]; omega
    rw [hneg, hneg] at this
    omega
  refine wm_X3_shareWidth hl ⟨fun n x1 x2' => ∃ k : Nat, f ≤ k ∧ k ≤ e ∧ x2' = k ∧ n = e - k ∧ x1 = sm (pg D p) k - sm (pg D p) f, ⟨_, f, by omega, by omega, rfl, rfl, by omega⟩, ?_⟩
  rintro n x1 x2' ⟨k, hk1, hk2, rfl, rfl, hx1⟩
  refine ⟨by unfold qR; omega, by unfold qR; omega, fun hc => ?_, fun hc => ?_⟩
  · have hke : k = e := by omega
    subst hke
    clear hk1 hk2 hc
    have hx1b := hsum k (by omega) (by omega)
    have hx1a := sm_ge0 (w := pg D p) (c := 1) (f := f) (e := k) (by omega) hg1
    refine ⟨fun n x12 x13 σ1 => ∃ j : Nat, f ≤ j ∧ j ≤ k ∧ x13 = j ∧ n = k - j ∧ x12 = x3 - (sm (more (pw D p) (pg D p) f k) j - sm (more (pw D p) (pg D p) f k) f) ∧ qChg (shW A D p f k) σ σ1 ∧ ∀ i, f ≤ i → i < j → gI σ1 42 (A 14 (pq D p i)) = pw D p i + more (pw D p) (pg D p) f k i,
      ⟨_, f, by omega, by omega, rfl, rfl, by omega, qChg_rf, fun i a b => by omega⟩, ?_⟩
    rintro n x12 x13 σ1 ⟨j, hj1, hj2, rfl, rfl, hx12, hc1, hv1⟩
    refine ⟨by unfold qR; omega, fun hd => ?_, fun hd => ?_⟩
    · have hjk : j = k := by omega
      subst hjk
      have hr : x12 = rst (pw D p) (pg D p) f j := by rw [hx12, hx3]; rfl
      have hrb : -1000 ≤ x12 ∧ x12 ≤ 24 := by
        have h1 := sm_ge0 (w := more (pw D p) (pg D p) f j) (c := 0) (f := f) (e := j) (by omega) (fun i a b => (more_le ⟨a, b⟩ hg1 (by omega)).1)
        have h2 := sm_ge0 (w := fun i => - more (pw D p) (pg D p) f j i) (c := -24) (f := f) (e := j) (by omega) (fun i a b => by have := (more_le (w := pw D p) ⟨a, b⟩ hg1 (by omega)).2.1; show -24 ≤ - more (pw D p) (pg D p) f j i; omega)
        have hneg : ∀ n, sm (fun i => - more (pw D p) (pg D p) f j i) n = - sm (more (pw D p) (pg D p) f j) n := by
          intro n
          induction n with
          | zero => rfl
          | succ n ih => show sm _ n + - more (pw D p) (pg D p) f j n = - (sm (more (pw D p) (pg D p) f j) n + more (pw D p) (pg D p) f j n); rw [ih]; omega
        rw [hneg, hneg] at h2
        omega
      refine ⟨fun n x23 σ2 => ∃ m : Nat, f ≤ m ∧ m ≤ j ∧ x23 = m ∧ n = j - m ∧ (f < m → (m : Int) - 1 < f + x12) ∧ qChg (shW A D p f j) σ σ2 ∧ ∀ i, f ≤ i → i < j → gI σ2 42 (A 14 (pq D p i)) = pw D p i + more (pw D p) (pg D p) f j i + if i < m ∧ (i : Int) - f < x12 then 1 else 0,
        ⟨_, f, by omega, by omega, rfl, rfl, by omega, hc1, fun i a b => by rw [hv1 i a b, if_neg (by omega)]; omega⟩, ?_⟩
      rintro n x23 σ2 ⟨m, hm1, hm2, rfl, rfl, hm3, hc2, hv2⟩
      have hfin : (j ≤ m ∨ (f : Int) + x12 ≤ m) → ∀ i, f ≤ i → i < j → gI σ2 42 (A 14 (pq D p i)) = pW D p f j i := by
        intro hh i a b
        rw [hv2 i a b]
        unfold pW wid
        rw [← hr]
        congr 1
        by_cases c : (i : Int) - f < x12
        · rw [if_pos c, if_pos ⟨by omega, c⟩]
        · rw [if_neg c, if_neg (fun z => c z.2)]
      refine ⟨by unfold qR; omega, fun he => ⟨rfl, hc2, hfin (Or.inl (by omega))⟩, fun he => ⟨by unfold qR; omega, fun hg => ⟨rfl, hc2, hfin (Or.inr hg)⟩, fun hg => ?_⟩⟩
      obtain ⟨s1, s2, s3, s4, s5⟩ := spec_at (g := g) hl (LR_tr hA (qChg_mono hc2 (fun _ _ => shW_tr)) h) (rfl : (m : Int) = m) (by omega)
      obtain ⟨r1, r2, r3, r4, r5, r6, r7, r8, r9, r10, r11, r12, r13, r14, r15, r16, r17⟩ := s5
      rw [s2]
      refine ⟨s1, s3, A 6 (pq D p m), s4, Or.inr r1, r1, by rw [r10]; exact r16, ?_⟩
      rw [r10]
      refine fun σ3 h3 x44 h44 => ⟨_, ?_, m + 1, by omega, by omega, by omega, rfl, by omega, ?_, fun i a b => ?_⟩
      · omega
      · refine qChg_tr hc2 (Q := shW A D p f j) ?_ (fun _ _ h => h) (fun _ _ h => h)
        rw [h3]; exact qChg_I ⟨rfl, m, by omega, by omega, rfl⟩
      · rw [h3, gI_sI]
        by_cases c : i = m
        · subst c
          rw [if_pos ⟨rfl, rfl⟩, hv2 i a b, if_neg (fun z => absurd z.1 (Nat.lt_irrefl _)), if_pos ⟨by omega, by omega⟩]
          omega
        · rw [if_neg (fun z => c (nodup_at hw.2.1 (show i < pn D p by omega) (show m < pn D p by omega) (qInj_i hA z.2))), hv2 i a b]
          congr 1
          by_cases c2 : (i < m ∧ (i : Int) - f < x12)
          · rw [if_pos c2, if_pos ⟨by omega, c2.2⟩]
          · rw [if_neg c2, if_neg (fun z => c2 ⟨by omega, z.2⟩)]
    · obtain ⟨s1, s2, s3, s4, s5⟩ := spec_at (g := g) hl (LR_tr hA (qChg_mono hc1 (fun _ _ => shW_tr)) h) (rfl : (j : Int) = j) (by omega)
      obtain ⟨r1, r2, r3, r4, r5, r6, r7, r8, r9, r10, r11, r12, r13, r14, r15, r16, r17⟩ := s5
      rw [s2]
      refine ⟨s1, s3, _, s4, Or.inr r1, ?_⟩
      rw [r4, r5, r10]
      have hg := hg1 j (by omega) (by omega)
      have hg' := hg9 j (by omega) (by omega)
      have hgj : wt D (pq D p j) = pg D p j := rfl
      rw [hgj]
      have hmul : 0 ≤ x3 * pg D p j ∧ x3 * pg D p j ≤ 24 * 9 := ⟨Int.mul_nonneg (by omega) (by omega), Int.mul_le_mul hs.2 hg' (by omega) (by omega)⟩
      refine ⟨⟨by unfold qR; omega, fun _ => ⟨r1, ⟨hmul.1, by omega⟩, by omega, by omega⟩⟩, fun v58 h58 => ⟨r1, r16, fun σ2 h2 x66 h66 x68 h68 => ⟨_, ?_, j + 1, by omega, by omega, by omega, rfl, ?_, ?_, fun i a b => ?_⟩⟩⟩
      · omega
      · have hv : v58 = more (pw D p) (pg D p) f k j := by
          rw [h58, if_neg (by omega), hx1, hx3]; rfl
        rw [h66, hx12, hv]
        show _ = x3 - (sm _ j + more _ _ f k j - _)
        omega
      · refine qChg_tr hc1 (Q := shW A D p f k) ?_ (fun _ _ h => h) (fun _ _ h => h)
        rw [h2]; exact qChg_I ⟨rfl, j, by omega, by omega, rfl⟩
      · have hv : v58 = more (pw D p) (pg D p) f k j := by
          rw [h58, if_neg (by omega), hx1, hx3]; rfl
        rw [h2, gI_sI]
        by_cases c : i = j
        · subst c
          rw [if_pos ⟨rfl, rfl⟩, hv]; rfl
        · rw [if_neg (fun z => c (nodup_at hw.2.1 (show i < pn D p by omega) (show j < pn D p by omega) (qInj_i hA z.2))), hv1 i a (by omega)]
  · obtain ⟨s1, s2, s3, s4, s5⟩ := spec_at (g := g) hl h (rfl : (k : Int) = k) (by omega)
    rw [s2]
    refine ⟨s1, s3, _, s4, Or.inr s5.1, s5.1, fun x83 h83 x85 h85 => ⟨_, ?_, k + 1, by omega, by omega, by omega, rfl, ?_⟩⟩
    · omega
    · rw [h83, hx1, s5.2.2.2.1]
      show _ = sm _ k + pg D p k - _
      unfold pg
      omega
end
