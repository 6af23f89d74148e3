/-! the model: a row is laid -/
def rwSA (D : qD) (p f e : Nat) : Nat → Int → Prop := fun t i => t = 62 ∨ ∃ j, f ≤ j ∧ j < e ∧ ((t = 60 ∧ 5 * (pq D p j : Int) ≤ i ∧ i < 5 * (pq D p j : Int) + 5) ∨ (t = 61 ∧ ∃ b, b ∈ hs D (pq D p j) ∧ 4 * (b : Int) ≤ i ∧ i < 4 * (b : Int) + 4))
def lft (D : qD) (p f e j : Nat) : Int := if tg D p = 1 then 24 - (sm (pW D p f e) j - sm (pW D p f e) f) - pW D p f e j else sm (pW D p f e) j - sm (pW D p f e) f
/-- what lies of the panel at j, but for its height and balloons -/
def RowA (A : Nat → Nat → Nat) (D : qD) (σ : qS) (p f e : Nat) (row top : Int) (j : Nat) : Prop := gA σ (A 60 0) (5 * (pq D p j : Int)) = row ∧ gA σ (A 60 0) (5 * (pq D p j : Int) + 1) = lft D p f e j ∧ gA σ (A 60 0) (5 * (pq D p j : Int) + 2) = top ∧ gA σ (A 60 0) (5 * (pq D p j : Int) + 3) = pW D p f e j
noncomputable def RowB (A : Nat → Nat → Nat) (D : qD) (σ : qS) (p f e : Nat) (H : Int) (j : Nat) : Prop := gA σ (A 60 0) (5 * (pq D p j : Int) + 4) = H ∧ ∀ k, k < (hs D (pq D p j)).length → MBox A σ 61 (4 * (bl D (pq D p j) k : Int)) (box D p (pq D p j) (pW D p f e j) H k)
section
variable {g : qG} {l : Launch} {A : Nat → Nat → Nat} {D : qD} {σ : qS}
theorem rwSA_hi {p f e t : Nat} {i : Int} (h : rwSA D p f e t i) : 60 ≤ t ∧ t ≤ 62 := by
  rcases h with z | ⟨j, -, -, z | z⟩ <;> omega
/-- what the model says of the panel at a place -/
theorem at_m (h : MB A D σ) (hw : WF0 D) {p j : Nat} (hp' : p < np D) (hj : j < pn D p) : alP D (pq D p j) ∧ hp D (pq D p j) = p ∧ gA σ (A 46 0) (8 * (p : Int) + j) = pq D p j ∧ gA σ (A 51 0) (pq D p j : Int) = pw D p j ∧ gA σ (A 50 0) (pq D p j : Int) = pg D p j ∧ gA σ (A 52 0) (pq D p j : Int) = ht D (pq D p j) ∧ PnW D (pq D p j) := by
  have hn := hw.1.1
  obtain ⟨y1, y2, y3, y4⟩ := pq_rk hw hp' hj
  have h1 := (h.2.1.1 p (by omega)).2.2 j hj
  obtain ⟨h2, h3, h4, -⟩ := h.2.2.2.1 _ y1.1
  exact ⟨y1, y4, h1, h3, h2, h4, (hw.2.2.2.2.1 _ y1.1).2.2.1⟩
theorem spec_laysRow (hl : l.stackTraces = false) (hA : qInj A) (h : MB A D σ) (hw : WF0 D) {p f e : Nat} (hp' : p < np D) (hfe : f < e) (he : e ≤ pn D p) (hs24 : 0 ≤ spare (pw D p) f e ∧ spare (pw D p) f e ≤ 24) {row top : Int} (hrow : qR row) (htop : 0 ≤ top ∧ top ≤ 1000) :
    qMet g l M_X8_laysRow [vr (A 30 0), vi (p : Int), vi (f : Int), vi (e : Int), vi row, vi top] σ (qTi0 (fun σ' v => qMc A noI (rwSA D p f e) σ σ' ∧ ((v = (rH D p f e : Nat) ∧ rH D p f e ≤ 16 ∧ ∀ j, f ≤ j → j < e → RowA A D σ' p f e row top j ∧ RowB A D σ' p f e (rH D p f e : Nat) j) ∨ (v = -1 ∧ rH D p f e = 17)))) := by
  have hn := hw.1
  have hPg := WF0_Pg hw hp'
  have hn8 := hPg.2.2.1
  have hat : ∀ {s : qS}, MB A D s → ∀ j, j < pn D p → _ := fun {s} hB j hj => at_m (A := A) (σ := s) hB hw hp' hj
  have hMBc : ∀ {s : qS}, qMc A noI (rwSA D p f e) σ s → MB A D s := fun hc => MB_c hA hc (fun t i t1 t2 z => by have := rwSA_hi z; omega) h
  have hpwn : ∀ j, j < pn D p → PnW D (pq D p j) := fun j hj => (at_m h hw hp' hj).2.2.2.2.2.2
  have hg1 : ∀ j, f ≤ j → j < e → 1 ≤ pg D p j := fun j _ h2 => (hpwn j (by omega)).2.2.2.2.1.1
  have hg9 : ∀ j, f ≤ j → j < e → pg D p j ≤ 9 := fun j _ h2 => (hpwn j (by omega)).2.2.2.2.1.2
  have hw4 : ∀ j, f ≤ j → j < e → 4 ≤ pw D p j := fun j _ h2 => (hpwn j (by omega)).2.2.2.2.2.1.1
  have hw24 : ∀ j, f ≤ j → j < e → pw D p j ≤ 24 := fun j _ h2 => (hpwn j (by omega)).2.2.2.2.2.1.2
  have hhb : ∀ j, f ≤ j → j < e → 3 ≤ ht D (pq D p j) ∧ ht D (pq D p j) ≤ 12 := fun j _ h2 => ⟨(hpwn j (by omega)).2.2.2.2.2.2.1, (hpwn j (by omega)).2.2.2.2.2.2.2⟩
  have hq50 : ∀ j, j < pn D p → pq D p j < 50 := fun j hj => by have := (at_m h hw hp' hj).1.1; omega
  have hwid : ∀ j, f ≤ j → j < e → 4 ≤ pW D p f e j ∧ pW D p f e j ≤ 24 := fun j a b => by
    have := wid_le (w := pw D p) (wg := pg D p) ⟨a, b⟩ hw4 hg1 hs24.1
    have := hw4 j a b
    unfold pW
    omega
  have hpqi : ∀ i j, i < pn D p → j < pn D p → pq D p i = pq D p j → i = j := fun i j hi hj z => nodup_at hPg.2.1 hi hj z
  have hin60 : ∀ j, f ≤ j → j < e → ∀ i : Int, 5 * (pq D p j : Int) ≤ i → i < 5 * (pq D p j : Int) + 5 → rwSA D p f e 60 i := fun j a b i i0 i1 => Or.inr ⟨j, a, b, Or.inl ⟨rfl, i0, i1⟩⟩
  refine wm_X8_laysRow hl ⟨fun n x1 x2 x3 x4 => ∃ k : Nat, x4 = k ∧ f ≤ k ∧ k ≤ e ∧ n = e - k ∧ x1 = 24 - (sm (pw D p) k - sm (pw D p) f) ∧ x2 = sm (pg D p) k - sm (pg D p) f ∧ (0 ≤ x3 ∧ x3 ≤ 12) ∧ (∀ i, f ≤ i → i < k → ht D (pq D p i) ≤ x3) ∧ (x3 = 0 ∨ ∃ i, f ≤ i ∧ i < k ∧ x3 = ht D (pq D p i)), ⟨_, f, rfl, Nat.le_refl _, by omega, rfl, by omega, by omega, by omega, fun i a b => by omega, Or.inl rfl⟩, ?_⟩
  rintro n x1 x2 x3 x4 ⟨k, rfl, hk1, hk2, rfl, hx1, hx2, hx3, hmx, hmx2⟩
  refine ⟨by unfold qR; omega, by unfold qR; omega, fun hd => ?_, fun hd => ?_⟩
  rotate_left
  · obtain ⟨y1, y2, y3, y4, y5, y6, y7⟩ := hat h k (by omega)
    have hqk := hq50 k (by omega)
    obtain ⟨a1, a2, a3⟩ := m326 h.1
    obtain ⟨b1, b2, b3⟩ := m331 h.1
    obtain ⟨c1, c2, c3⟩ := m330 h.1
    obtain ⟨d1, d2, d3⟩ := m332 h.1
    rw [a1, b1, c1, d1]
    refine ⟨h.1.1, q_isA0 a2, ⟨by omega, by rw [a3]; omega⟩, fun x207 h207 => ?_⟩
    rw [y3] at h207
    subst h207
    rw [y4, y5, y6]
    have hhk := hhb k hk1 (by omega)
    refine ⟨q_isA0 b2, ⟨by omega, by rw [b3]; omega⟩, fun x211 h211 => ⟨q_isA0 c2, ⟨by omega, by rw [c3]; omega⟩, fun x215 h215 => ⟨q_isA0 d2, ⟨by omega, by rw [d3]; omega⟩, ⟨by unfold qR; omega, by unfold qR; omega⟩, fun v222 h222 x226 h226 => ⟨_, ?_, k + 1, by omega, by omega, by omega, rfl, ?_, ?_, ?_, fun i a b => ?_, ?_⟩⟩⟩⟩
    · omega
    · rw [h211, hx1]; show _ = 24 - (sm (pw D p) k + pw D p k - sm (pw D p) f); omega
    · rw [h215, hx2]; show _ = sm (pg D p) k + pg D p k - sm (pg D p) f; omega
    · rw [h222]; split <;> omega
    · rw [h222]
      by_cases c : i = k
      · rw [c]; split <;> omega
      · have := hmx i a (by omega)
        split <;> omega
    · rw [h222]
      by_cases c : ht D (pq D p k) ≤ x3
      · rw [if_pos c]
        rcases hmx2 with z | ⟨i, a, b, z⟩
        · exact Or.inl z
        · exact Or.inr ⟨i, a, by omega, z⟩
      · rw [if_neg c]
        exact Or.inr ⟨k, hk1, by omega, rfl⟩
  have hke : k = e := by omega
  subst hke
  have hx1' : x1 = spare (pw D p) f k := hx1
  have hpos2 : 1 ≤ x2 := by
    have := sm_ge1 (w := pg D p) (c := 1) (Nat.le_refl f) hfe hg1
    have := hg1 f (Nat.le_refl _) hfe
    omega
  have hmore : ∀ j, f ≤ j → j < k → 0 ≤ more (pw D p) (pg D p) f k j ∧ more (pw D p) (pg D p) f k j ≤ x1 := fun j a b => by
    have := more_le (w := pw D p) ⟨a, b⟩ hg1 hs24.1
    rw [hx1']; exact ⟨this.1, this.2.1⟩
  have hmoree : ∀ j, more (pw D p) (pg D p) f k j = x1 * pg D p j / x2 := fun j => by unfold more; rw [hx1', hx2]
  -- the widths
  refine ⟨fun n x14 x15 σ1 => ∃ m : Nat, x15 = m ∧ f ≤ m ∧ m ≤ k ∧ n = k - m ∧ x14 = x1 - (sm (more (pw D p) (pg D p) f k) m - sm (more (pw D p) (pg D p) f k) f) ∧ qMc A noI (rwSA D p f k) σ σ1 ∧ ∀ j, f ≤ j → j < m → gA σ1 (A 60 0) (5 * (pq D p j : Int) + 3) = pw D p j + more (pw D p) (pg D p) f k j, ⟨_, f, rfl, Nat.le_refl _, by omega, rfl, by omega, qMc_rf, fun j a b => by omega⟩, ?_⟩
  rintro n x14 x15 σ1 ⟨m, rfl, hm1, hm2, rfl, hx14, hc1, hv1⟩
  have hB1 := hMBc hc1
  refine ⟨by unfold qR; omega, fun hd1 => ?_, fun hd1 => ?_⟩
  rotate_left
  · obtain ⟨y1, y2, y3, y4, y5, y6, y7⟩ := hat hB1 m (by omega)
    have hqk := hq50 m (by omega)
    obtain ⟨a1, a2, a3⟩ := m326 hB1.1
    obtain ⟨b1, b2, b3⟩ := m331 hB1.1
    obtain ⟨c1, c2, c3⟩ := m330 hB1.1
    obtain ⟨d1, d2, d3⟩ := m340 hB1.1
    rw [a1, b1, c1, d1]
    refine ⟨hB1.1.1, q_isA0 a2, ⟨by omega, by rw [a3]; omega⟩, fun x182 h182 => ?_⟩
    rw [y3] at h182
    subst h182
    rw [y4, y5]
    have hgm := hg1 m hm1 (by omega)
    have hgm9 := hg9 m hm1 (by omega)
    have hmul : 0 ≤ x1 * pg D p m ∧ x1 * pg D p m ≤ 24 * 9 := ⟨Int.mul_nonneg (by omega) (by omega), Int.mul_le_mul (by omega) hgm9 (by omega) (by omega)⟩
    have hx2b : x2 < 2147483648 := by
      have := sm_ge0 (w := fun i => - pg D p i) (c := -9) (f := f) (e := k) (by omega) (fun j a b => by have := hg9 j a b; show -9 ≤ - pg D p j; omega)
      have hneg : ∀ n, sm (fun i => - pg D p i) n = - sm (pg D p) n := by
        intro n
        induction n with
        | zero => rfl
        | succ n ih => show sm _ n + - pg D p n = - (sm (pg D p) n + pg D p n); rw [ih]; omega
      rw [hneg, hneg] at this
      omega
    refine ⟨q_isA0 b2, ⟨by omega, by rw [b3]; omega⟩, q_isA0 c2, ⟨by omega, by rw [c3]; omega⟩, by omega, by omega, d2, ⟨by omega, by rw [d3]; omega⟩, fun σ192 h192 => ?_⟩
    have hc192 : qMc A noI (rwSA D p f k) σ σ192 := qMc_tr hc1 (by rw [h192]; exact qMc_A (hin60 m hm1 (by omega) _ (by omega) (by omega)))
    have hB192 := hMBc hc192
    obtain ⟨-, -, -, -, z5, -, -⟩ := hat hB192 m (by omega)
    obtain ⟨c1', c2', c3'⟩ := m330 hB192.1
    rw [c1', z5]
    refine ⟨q_isA0 c2', ⟨by omega, by rw [c3']; omega⟩, by omega, by omega, fun x198 h198 x200 h200 => ⟨_, ?_, m + 1, by omega, by omega, by omega, rfl, ?_, hc192, fun j a b => ?_⟩⟩
    · omega
    · rw [h198, hx14, ← hmoree]
      show _ = x1 - (sm (more (pw D p) (pg D p) f k) m + more (pw D p) (pg D p) f k m - sm (more (pw D p) (pg D p) f k) f)
      omega
    · rw [h192, gA_at hA]
      by_cases c : j = m
      · rw [c, if_pos ⟨rfl, rfl⟩, hmoree]
      · rw [if_neg (fun z => c (hpqi j m (by omega) (by omega) (by omega)))]
        exact hv1 j a (by omega)
  have hmk : m = k := by omega
  subst hmk
  have hx14' : x14 = rst (pw D p) (pg D p) f m := by rw [hx14, hx1']; rfl
  have hx14b : -1000 ≤ x14 ∧ x14 ≤ 1000 := by
    have h1 := sm_ge0 (w := more (pw D p) (pg D p) f m) (c := 0) (f := f) (e := m) (by omega) (fun i a b => (hmore i a b).1)
    have h2 := sm_ge0 (w := fun i => - more (pw D p) (pg D p) f m i) (c := -24) (f := f) (e := m) (by omega) (fun i a b => by have := (hmore i a b).2; show -24 ≤ - more (pw D p) (pg D p) f m i; omega)
    have hneg : ∀ n, sm (fun i => - more (pw D p) (pg D p) f m i) n = - sm (more (pw D p) (pg D p) f m) n := by
      intro n
      induction n with
      | zero => rfl
      | succ n ih => show sm _ n + - more (pw D p) (pg D p) f m n = - (sm (more (pw D p) (pg D p) f m) n + more (pw D p) (pg D p) f m n); rw [ih]; omega
    rw [hneg, hneg] at h2
    omega
  have hwide : ∀ j, pW D p f m j = pw D p j + more (pw D p) (pg D p) f m j + if x14 ≤ (j : Int) - f then 0 else 1 := fun j => by
    unfold pW wid
    rw [← hx14']
    congr 1
    by_cases c : x14 ≤ (j : Int) - f
    · rw [if_pos c, if_neg (by omega)]
    · rw [if_neg c, if_pos (by omega)]
  have hsX : ∀ j, f ≤ j → j ≤ m → 0 ≤ sm (pW D p f m) j - sm (pW D p f m) f ∧ sm (pW D p f m) j - sm (pW D p f m) f ≤ 24 * 8 := by
    intro j a b
    have h1 := sm_ge0 (w := pW D p f m) (c := 0) (f := f) (e := j) a (fun i c d => by have := (hwid i c (by omega)).1; omega)
    have h2 := sm_ge0 (w := fun i => - pW D p f m i) (c := -24) (f := f) (e := j) a (fun i c d => by have := (hwid i c (by omega)).2; show -24 ≤ - pW D p f m i; omega)
    have hneg : ∀ n, sm (fun i => - pW D p f m i) n = - sm (pW D p f m) n := by
      intro n
      induction n with
      | zero => rfl
      | succ n ih => show sm _ n + - pW D p f m n = - (sm (pW D p f m) n + pW D p f m n); rw [ih]; omega
    rw [hneg, hneg] at h2
    omega
  -- where they lie
  refine ⟨fun n x25 x26 σ2 => ∃ r : Nat, x26 = r ∧ f ≤ r ∧ r ≤ m ∧ n = m - r ∧ x25 = sm (pW D p f m) r - sm (pW D p f m) f ∧ qMc A noI (rwSA D p f m) σ σ2 ∧ (∀ j, f ≤ j → j < r → RowA A D σ2 p f m row top j) ∧ ∀ j, r ≤ j → j < m → gA σ2 (A 60 0) (5 * (pq D p j : Int) + 3) = pw D p j + more (pw D p) (pg D p) f m j, ⟨_, f, rfl, Nat.le_refl _, by omega, rfl, by omega, hc1, fun j a b => by omega, fun j a b => hv1 j a b⟩, ?_⟩
  rintro n x25 x26 σ2 ⟨r, rfl, hr1, hr2, rfl, hx25, hc2, hdone, hrest⟩
  have hB2 := hMBc hc2
  refine ⟨by unfold qR; omega, fun hd2 => ?_, fun hd2 => ?_⟩
  rotate_left
  · obtain ⟨y1, y2, y3, y4, y5, y6, y7⟩ := hat hB2 r (by omega)
    have hqk := hq50 r (by omega)
    obtain ⟨a1, a2, a3⟩ := m326 hB2.1
    obtain ⟨d1, d2, d3⟩ := m340 hB2.1
    rw [a1, d1]
    refine ⟨hB2.1.1, q_isA0 a2, ⟨by omega, by rw [a3]; omega⟩, fun x126 h126 => ?_⟩
    rw [y3] at h126
    subst h126
    rw [hrest r (Nat.le_refl _) (by omega)]
    refine ⟨q_isA0 d2, ⟨by omega, by rw [d3]; omega⟩, ⟨by unfold qR; omega, by unfold qR; omega⟩, fun v133 h133 => ⟨d2, fun σ140 h140 => ?_⟩⟩
    have hin := hin60 r hr1 (by omega)
    have hc140 : qMc A noI (rwSA D p f m) σ σ140 := qMc_tr hc2 (by rw [h140]; exact qMc_A (hin _ (by omega) (by omega)))
    have hB140 := hMBc hc140
    obtain ⟨d1, d2, d3⟩ := m340 hB140.1
    rw [d1]
    refine ⟨d2, ⟨by omega, by rw [d3]; omega⟩, fun σ144 h144 => ?_⟩
    have hc144 : qMc A noI (rwSA D p f m) σ σ144 := qMc_tr hc140 (by rw [h144]; exact qMc_A (hin _ (by omega) (by omega)))
    have hB144 := hMBc hc144
    obtain ⟨d1, d2, d3⟩ := m340 hB144.1
    rw [d1]
    have hwv : gA σ144 (A 60 0) (5 * (pq D p r : Int) + 3) = pW D p f m r := by
      rw [h144, gA_at hA, if_neg (fun z => by omega), h140, gA_at hA, if_pos ⟨rfl, rfl⟩, hwide, h133]
    have hwr := hwid r hr1 (by omega)
    have hXr := hsX r hr1 (by omega)
    refine ⟨_, spec_mFromRight hl hB144 hw hp', ⟨by split <;> (unfold qR; omega), fun _ => ⟨q_isA0 d2, ⟨by omega, by rw [d3]; omega⟩⟩⟩, fun v152 h152 => ⟨d2, ⟨by omega, by rw [d3]; omega⟩, fun σ158 h158 => ?_⟩⟩
    have hv152 : v152 = lft D p f m r := by
      rw [h152, hwv, hx25]
      unfold lft
      by_cases c : tg D p = 1
      · have e1 : ¬ ((if ¬ tg D p = 1 then (0 : Int) else 1) = 0) := by simp [c]
        rw [if_neg e1, if_pos c]
      · have e1 : (if ¬ tg D p = 1 then (0 : Int) else 1) = 0 := if_pos c
        rw [if_pos e1, if_neg c]
    have hc158 : qMc A noI (rwSA D p f m) σ σ158 := qMc_tr hc144 (by rw [h158]; exact qMc_A (hin _ (by omega) (by omega)))
    have hB158 := hMBc hc158
    obtain ⟨d1, d2, d3⟩ := m340 hB158.1
    rw [d1]
    refine ⟨d2, ⟨by omega, by rw [d3]; omega⟩, fun σ162 h162 => ?_⟩
    have hc162 : qMc A noI (rwSA D p f m) σ σ162 := qMc_tr hc158 (by rw [h162]; exact qMc_A (hin _ (by omega) (by omega)))
    have hB162 := hMBc hc162
    obtain ⟨d1, d2, d3⟩ := m340 hB162.1
    rw [d1]
    have hget : ∀ i : Int, gA σ162 (A 60 0) i = if i = 5 * (pq D p r : Int) + 2 then top else if i = 5 * (pq D p r : Int) + 1 then lft D p f m r else if i = 5 * (pq D p r : Int) then row else if i = 5 * (pq D p r : Int) + 3 then pW D p f m r else gA σ2 (A 60 0) i := by
      intro i
      rw [h162, gA_at hA]
      by_cases c2 : i = 5 * (pq D p r : Int) + 2
      · rw [if_pos ⟨rfl, c2⟩, if_pos c2]
      rw [if_neg (fun z => c2 z.2), if_neg c2, h158, gA_at hA]
      by_cases c1 : i = 5 * (pq D p r : Int) + 1
      · rw [if_pos ⟨rfl, c1⟩, if_pos c1, hv152]
      rw [if_neg (fun z => c1 z.2), if_neg c1, h144, gA_at hA]
      by_cases c0 : i = 5 * (pq D p r : Int)
      · rw [if_pos ⟨rfl, c0⟩, if_pos c0]
      rw [if_neg (fun z => c0 z.2), if_neg c0, h140, gA_at hA]
      by_cases c3 : i = 5 * (pq D p r : Int) + 3
      · rw [if_pos ⟨rfl, c3⟩, if_pos c3, hwide, h133]
      rw [if_neg (fun z => c3 z.2), if_neg c3]
    refine ⟨q_isA0 d2, ⟨by omega, by rw [d3]; omega⟩, fun x166 h166 x168 h168 => ⟨_, ?_, r + 1, by omega, by omega, by omega, rfl, ?_, hc162, fun j a b => ?_, fun j a b => ?_⟩⟩
    · omega
    · rw [h166, hget, if_neg (by omega), if_neg (by omega), if_neg (by omega), if_pos rfl, hx25]
      show _ = sm (pW D p f m) r + pW D p f m r - _
      omega
    · unfold RowA
      by_cases c : j = r
      · subst c
        simp only [hget]
        refine ⟨?_, ?_, ?_, ?_⟩
        · rw [if_neg (by omega), if_neg (by omega), if_pos trivial]
        · rw [if_neg (by omega), if_pos trivial]
        · rw [if_pos trivial]
        · rw [if_neg (by omega), if_neg (by omega), if_neg (by omega), if_pos trivial]
      · have hne : pq D p j ≠ pq D p r := fun z => c (hpqi j r (by omega) (by omega) z)
        obtain ⟨e1, e2, e3, e4⟩ := hdone j a (by omega)
        simp only [hget]
        refine ⟨?_, ?_, ?_, ?_⟩
        · rw [if_neg (by omega), if_neg (by omega), if_neg (by omega), if_neg (by omega)]; exact e1
        · rw [if_neg (by omega), if_neg (by omega), if_neg (by omega), if_neg (by omega)]; exact e2
        · rw [if_neg (by omega), if_neg (by omega), if_neg (by omega), if_neg (by omega)]; exact e3
        · rw [if_neg (by omega), if_neg (by omega), if_neg (by omega), if_neg (by omega)]; exact e4
    · have hne : pq D p j ≠ pq D p r := fun z => by have := hpqi j r (by omega) (by omega) z; omega
      rw [hget, if_neg (by omega), if_neg (by omega), if_neg (by omega), if_neg (by omega)]
      exact hrest j (by omega) b
  have hrm : r = m := by omega
  subst hrm
  -- the heights
  have hnok : ∀ t : Nat, (t : Int) < x3 → ¬ (∀ i, f ≤ i → i < r → ht D (pq D p i) ≤ (t : Int) ∧ Fit D p (pq D p i) (pW D p f r i) (t : Int)) := by
    intro t ht' z
    rcases hmx2 with y | ⟨i, a, b, y⟩
    · omega
    · have := (z i a b).1
      omega
  refine ⟨fun n x36 x37 σ3 => ∃ hh : Nat, x36 = hh ∧ x3 ≤ x36 ∧ hh ≤ 17 ∧ n = 17 - hh + (if x37 = 0 then 1 else 0) ∧ qMc A noI (rwSA D p f r) σ σ3 ∧ (∀ j, f ≤ j → j < r → RowA A D σ3 p f r row top j) ∧ (∀ t : Nat, t < hh → ¬ (∀ i, f ≤ i → i < r → ht D (pq D p i) ≤ (t : Int) ∧ Fit D p (pq D p i) (pW D p f r i) (t : Int))) ∧ (x37 = 0 ∨ (x37 = 1 ∧ hh ≤ 16 ∧ ∀ j, f ≤ j → j < r → Fit D p (pq D p j) (pW D p f r j) (hh : Int) ∧ RowB A D σ3 p f r (hh : Int) j)), ⟨_, x3.toNat, by omega, by omega, by omega, rfl, hc2, hdone, fun t ht' => hnok t (by omega), Or.inl rfl⟩, ?_⟩
  rintro n x36 x37 σ3 ⟨hh, rfl, hge, hh17, rfl, hc3, hra3, hno3, hor⟩
  have hr37 : qR x37 := by rcases hor with z | ⟨z, -⟩ <;> (rw [z]; unfold qR; omega)
  refine ⟨hr37, fun hnz v48 h48 => ⟨v48, rfl, hc3, Or.inl ?_⟩, fun hz => ⟨by unfold qR; omega, fun h16 v56 h56 => ⟨v56, rfl, hc3, Or.inr ⟨by rw [h56, if_pos hz], ?_⟩⟩, fun h16 => ?_⟩⟩
  · rcases hor with z | ⟨z, h16, hall⟩
    · exact absurd z hnz
    · have hrh : rH D p f r = hh := lsp_eq (by omega) hno3 (fun _ i a b => ⟨by have := hmx i a b; omega, (hall i a b).1⟩)
      rw [h48, if_neg hnz, hrh]
      exact ⟨rfl, h16, fun j a b => ⟨hra3 j a b, (hall j a b).2⟩⟩
  · have : hh = 17 := by omega
    subst this
    exact lsp_eq (Nat.le_refl _) hno3 (fun z => absurd z (Nat.lt_irrefl _))
  · refine ⟨fun n x61 x62 σ4 => ∃ u : Nat, x62 = u ∧ f ≤ u ∧ u ≤ r ∧ n = r - u ∧ qMc A noI (rwSA D p f r) σ σ4 ∧ (∀ j, f ≤ j → j < r → RowA A D σ4 p f r row top j) ∧ ((x61 = 1 ∧ ∀ j, f ≤ j → j < u → Fit D p (pq D p j) (pW D p f r j) (hh : Int) ∧ RowB A D σ4 p f r (hh : Int) j) ∨ (x61 = 0 ∧ ∃ j, f ≤ j ∧ j < r ∧ ¬ Fit D p (pq D p j) (pW D p f r j) (hh : Int))), ⟨_, f, rfl, Nat.le_refl _, by omega, rfl, hc3, hra3, Or.inl ⟨rfl, fun j a b => by omega⟩⟩, ?_⟩
    rintro n x61 x62 σ4 ⟨u, rfl, hu1, hu2, rfl, hc4, hra4, hor4⟩
    have hB4 := hMBc hc4
    have hr61 : qR x61 := by rcases hor4 with ⟨z, -⟩ | ⟨z, -⟩ <;> (rw [z]; unfold qR; omega)
    have hfail : (∃ j, f ≤ j ∧ j < r ∧ ¬ Fit D p (pq D p j) (pW D p f r j) (hh : Int)) → x61 = 0 → ∀ x94 : Int, x94 = (hh : Int) + 1 → ∃ n96 : Nat, n96 < 17 - hh + (if x37 = 0 then 1 else 0) ∧ ∃ hh' : Nat, x94 = hh' ∧ x3 ≤ x94 ∧ hh' ≤ 17 ∧ n96 = 17 - hh' + (if x61 = 0 then 1 else 0) ∧ qMc A noI (rwSA D p f r) σ σ4 ∧ (∀ j, f ≤ j → j < r → RowA A D σ4 p f r row top j) ∧ (∀ t : Nat, t < hh' → ¬ (∀ i, f ≤ i → i < r → ht D (pq D p i) ≤ (t : Int) ∧ Fit D p (pq D p i) (pW D p f r i) (t : Int))) ∧ (x61 = 0 ∨ (x61 = 1 ∧ hh' ≤ 16 ∧ ∀ j, f ≤ j → j < r → Fit D p (pq D p j) (pW D p f r j) (hh' : Int) ∧ RowB A D σ4 p f r (hh' : Int) j)) := by
      rintro ⟨j, ja, jb, jf⟩ h0 x94 h94
      refine ⟨_, ?_, hh + 1, by omega, by omega, by omega, rfl, hc4, hra4, fun t ht' => ?_, Or.inl h0⟩
      · rw [if_pos h0, if_pos hz]; omega
      · by_cases c : t = hh
        · subst c
          exact fun z => jf (z j ja jb).2
        · exact hno3 t (by omega)
    refine ⟨by unfold qR; omega, fun hd4 => ⟨hr61, fun v74 h74 x80 h80 => ?_⟩, fun hd4 => ⟨hr61, fun h0 v88 h88 x94 h94 => ?_, fun hn0 => ?_⟩⟩
    · have hur : u = r := by omega
      subst hur
      rcases hor4 with ⟨z, hall⟩ | ⟨z, hex⟩
      · rw [if_neg (by omega)] at h74
        refine ⟨_, ?_, hh, by omega, by omega, by omega, rfl, hc4, hra4, hno3, Or.inr ⟨z, by omega, hall⟩⟩
        rw [if_neg (show ¬ x61 = 0 by omega), if_pos hz]; omega
      · rw [if_pos z] at h74
        exact hfail hex z x80 (by omega)
    · rcases hor4 with ⟨z, -⟩ | ⟨z, hex⟩
      · omega
      · rw [if_pos z] at h88
        exact hfail hex z x94 (by omega)
    · rcases hor4 with ⟨z, hall⟩ | ⟨z, hex⟩
      rotate_left
      · exact absurd z hn0
      obtain ⟨y1, y2, y3, y4, y5, y6, y7⟩ := hat hB4 u (by omega)
      have hqk := hq50 u (by omega)
      obtain ⟨a1, a2, a3⟩ := m326 hB4.1
      obtain ⟨d1, d2, d3⟩ := m340 hB4.1
      rw [a1, d1]
      refine ⟨hB4.1.1, q_isA0 a2, ⟨by omega, by rw [a3]; omega⟩, fun x101 h101 => ?_⟩
      rw [y3] at h101
      subst h101
      have hwu := hwid u hu1 (by omega)
      rw [(hra4 u hu1 (by omega)).2.2.2]
      refine ⟨q_isA0 d2, ⟨by omega, by rw [d3]; omega⟩, _, spec_mplaces hl hA hB4 hw y1 (by omega) (by omega), fun σ5 v112 h5 => ?_⟩
      rw [y2] at h5
      obtain ⟨hc5, hres⟩ := h5
      have hc05 : qMc A noI (rwSA D p f r) σ σ5 := qMc_trm hc4 hc5 (fun _ z => z) (fun t i z => by
        rcases z with z | ⟨z, b, hb1, hb2⟩
        · exact Or.inl z
        · exact Or.inr ⟨u, hu1, by omega, Or.inr ⟨z, b, hb1, hb2⟩⟩)
      have hB5 := hMBc hc05
      obtain ⟨d1, d2, d3⟩ := m340 hB5.1
      rw [d1]
      have h60 : ∀ i, gA σ5 (A 60 0) i = gA σ4 (A 60 0) i := fun i => qMc_at hA hc5 (by rintro (z | ⟨z, -⟩) <;> omega)
      refine ⟨hB5.1.1, d2, ⟨by omega, by rw [d3]; omega⟩, fun σ6 h6 x118 h118 => ⟨_, ?_, u + 1, by omega, by omega, by omega, rfl, ?_, fun j a b => ?_, ?_⟩⟩
      · omega
      · exact qMc_tr hc05 (by rw [h6]; exact qMc_A (hin60 u hu1 (by omega) _ (by omega) (by omega)))
      · have hne : j ≠ u → pq D p j ≠ pq D p u := fun c z => c (hpqi j u (by omega) (by omega) z)
        obtain ⟨e1, e2, e3, e4⟩ := hra4 j a b
        unfold RowA
        rw [h6]
        simp only [gA_at hA, h60]
        by_cases c : j = u
        · subst c
          rw [if_neg (fun z => by omega), if_neg (fun z => by omega), if_neg (fun z => by omega), if_neg (fun z => by omega)]
          exact ⟨e1, e2, e3, e4⟩
        · have := hne c
          rw [if_neg (fun z => by omega), if_neg (fun z => by omega), if_neg (fun z => by omega), if_neg (fun z => by omega)]
          exact ⟨e1, e2, e3, e4⟩
      · have h61 : ∀ i, gA σ6 (A 61 0) i = gA σ5 (A 61 0) i := fun i => by rw [h6, gA_at hA, if_neg (fun z => absurd z.1 (by decide))]
        have hbx61 : ∀ {i : Int} {b : Bx}, MBox A σ5 61 i b → MBox A σ6 61 i b := fun hb => by
          unfold MBox at hb ⊢
          rw [h61, h61, h61, h61]; exact hb
        rcases hres with ⟨v1, hfit, hfl, -⟩ | ⟨v0, hnf⟩
        · refine Or.inl ⟨v1, fun j a b => ?_⟩
          by_cases c : j = u
          · subst c
            refine ⟨hfit, ?_, fun k' hk' => hbx61 (hfl k' hk')⟩
            rw [h6, gA_at hA, if_pos ⟨rfl, rfl⟩]
          · obtain ⟨f1, f2, f3⟩ := hall j a (by omega)
            refine ⟨f1, ?_, fun k' hk' => hbx61 (MBox_c hA hc5 (fun i i0 i1 z => ?_) (f3 k' hk'))⟩
            · rw [h6, gA_at hA, if_neg (fun z => c (hpqi j u (by omega) (by omega) (by omega))), h60]
              exact f2
            · rcases z with z | ⟨-, b', hb1, hb2⟩
              · omega
              · have hbe : bl D (pq D p j) k' = b' := by omega
                exact c (hpqi j u (by omega) (by omega) (hPg.2.2.2.2 _ _ b' (pq_mem (by omega)) (pq_mem (by omega)) (hbe ▸ bl_mem hk') hb1))
        · exact Or.inr ⟨v0, u, hu1, by omega, hnf⟩
end
