/-! the model: small ones -/
section
variable {g : qG} {l : Launch} {A : Nat → Nat → Nat} {D : qD} {σ : qS}
theorem q_isA0 {x : Nat} (h : gK σ x = 20) : q_isA σ 0 x := ⟨by decide, Or.inl h⟩
theorem spec_fails (hl : l.stackTraces = false) (h : MS A σ) {z : Int} : qMet g l M_X8_fails [vr (A 30 0), vi z] σ (qTi0 (fun σ' v => v = 0 ∧ σ' = sI σ 320 (A 30 0) z)) :=
  wm_X8_fails hl ⟨h.1, fun σ2 h2 => ⟨0, rfl, rfl, h2⟩⟩
theorem spec_in (hl : l.stackTraces = false) {x a b : Int} (hx : qR x) (ha : qR a) (hb : qR b) : qMet g l M_X8_in [vi x, vi a, vi b] σ (qPi σ (if a ≤ x ∧ x ≤ b then 1 else 0)) := by
  refine wm_X8_in hl ⟨⟨hx, ha, fun _ => hb⟩, fun v hv => ⟨rfl, ?_⟩⟩
  rw [hv]
  by_cases c : x < a
  · rw [if_pos c, if_neg (fun z => by omega)]
  · by_cases d : b < x
    · rw [if_neg c, if_pos d, if_neg (fun z => by omega)]
    · rw [if_neg c, if_neg d, if_pos (by omega)]
theorem pgv_ne {q : Nat} : pgv D q = -1 ↔ gq D q ≠ 0 := by
  unfold pgv
  by_cases c : gq D q = 0
  · rw [if_pos c]; omega
  · rw [if_neg c]; simp [c]
theorem pnv_ne {b : Nat} : pnv D b = -1 ↔ gb D b ≠ 0 := by
  unfold pnv
  by_cases c : gb D b = 0
  · rw [if_pos c]; omega
  · rw [if_neg c]; simp [c]
theorem pgv_al {q : Nat} (h : alP D q) : pgv D q = hp D q := by unfold pgv; rw [if_pos h.2]
theorem pnv_al {b : Nat} (h : alB D b) : pnv D b = hb D b := by unfold pnv; rw [if_pos h.2]
theorem pgv_Q (hw : WF0 D) {q : Nat} (hq : q < nq D) : qR (pgv D q) := by
  unfold pgv
  have h1 := (hw.2.2.2.2.1 q hq).2.1
  have h2 := hw.1.1
  split <;> (unfold qR; omega)
theorem pnv_Q (hw : WF0 D) {b : Nat} (hb' : b < nb D) : qR (pnv D b) := by
  unfold pnv
  have h1 := (hw.2.2.2.2.2.1 b hb').2.1
  have h2 := hw.1.2.1
  split <;> (unfold qR; omega)
theorem MSn (h : MSc A D σ) (hw : WF0 D) : qR (gI σ 321 (A 30 0)) ∧ qR (gI σ 322 (A 30 0)) ∧ qR (gI σ 323 (A 30 0)) := by
  have := hw.1
  rw [h.1, h.2.1, h.2.2]
  unfold qR
  omega
theorem spec_isPage (hl : l.stackTraces = false) (hS : MS A σ) (hc : MSc A D σ) (hw : WF0 D) {p : Int} (hq : qR p) : qMet g l M_X8_isPage [vr (A 30 0), vi p] σ (qPi σ (cif (pgOk D p) 1 0)) := by
  have hn := hw.1.1
  refine wm_X8_isPage hl ⟨hS.1, _, spec_in hl hq (by unfold qR; omega) (by rw [hc.1]; unfold qR; omega), by split <;> omega, rfl, ?_⟩
  rw [hc.1]
  by_cases c : pgOk D p
  · rw [cif_pos c, if_pos (by unfold pgOk at c; omega)]
  · rw [cif_neg c, if_neg (fun z => c (by unfold pgOk; omega))]
theorem spec_isPanel (hl : l.stackTraces = false) (h : MB A D σ) (hc : MSc A D σ) (hw : WF0 D) {q : Int} (hq : qR q) : qMet g l M_X8_isPanel [vr (A 30 0), vi q] σ (qPi σ (cif (pnOk D q) 1 0)) := by
  have hn := hw.1.2.1
  obtain ⟨a1, a2, a3⟩ := m329 h.1
  have hb : 0 ≤ q → q < nq D → gA σ (A 49 0) q = pgv D q.toNat := fun h0 h1 => by
    have := (h.2.1.2.2.1 q.toNat (by omega)).1
    rwa [Int.toNat_of_nonneg h0] at this
  refine wm_X8_isPanel hl ⟨h.1.1, _, spec_in hl hq (by unfold qR; omega) (by rw [hc.2.1]; unfold qR; omega), ⟨by split <;> (unfold qR; omega), fun hv => ?_⟩, fun v hv => ⟨rfl, ?_⟩⟩
  · rw [a1]
    have hr : 0 ≤ q ∧ q ≤ gI σ 322 (A 30 0) - 1 := by
      by_cases c : 0 ≤ q ∧ q ≤ gI σ 322 (A 30 0) - 1
      · exact c
      · rw [if_neg c] at hv; exact absurd rfl hv
    rw [hc.2.1] at hr
    exact ⟨q_isA0 a2, ⟨hr.1, by rw [a3]; omega⟩, by rw [hb hr.1 (by omega)]; exact pgv_Q hw (by omega)⟩
  · rw [hv, hc.2.1, a1]
    by_cases c : 0 ≤ q ∧ q ≤ (nq D : Int) - 1
    · rw [if_pos c, if_neg (by decide), hb c.1 (by omega)]
      by_cases d : gq D q.toNat = 0
      · rw [if_neg (fun z => pgv_ne.mp z d), cif_pos ⟨c.1, by omega, d⟩]
      · rw [if_pos (pgv_ne.mpr d), cif_neg (fun z => d z.2.2)]
    · rw [if_neg c, if_pos rfl, cif_neg (fun z => c (by have := z.1; have := z.2.1; omega))]
theorem spec_isBalloon (hl : l.stackTraces = false) (h : MB A D σ) (hc : MSc A D σ) (hw : WF0 D) {q : Int} (hq : qR q) : qMet g l M_X8_isBalloon [vr (A 30 0), vi q] σ (qPi σ (cif (blOk D q) 1 0)) := by
  have hn := hw.1.2.2
  obtain ⟨a1, a2, a3⟩ := m337 h.1
  have hb : 0 ≤ q → q < nb D → gA σ (A 57 0) q = pnv D q.toNat := fun h0 h1 => by
    have := h.2.1.2.2.2 q.toNat (by omega)
    rwa [Int.toNat_of_nonneg h0] at this
  refine wm_X8_isBalloon hl ⟨h.1.1, _, spec_in hl hq (by unfold qR; omega) (by rw [hc.2.2]; unfold qR; omega), ⟨by split <;> (unfold qR; omega), fun hv => ?_⟩, fun v hv => ⟨rfl, ?_⟩⟩
  · rw [a1]
    have hr : 0 ≤ q ∧ q ≤ gI σ 323 (A 30 0) - 1 := by
      by_cases c : 0 ≤ q ∧ q ≤ gI σ 323 (A 30 0) - 1
      · exact c
      · rw [if_neg c] at hv; exact absurd rfl hv
    rw [hc.2.2] at hr
    exact ⟨q_isA0 a2, ⟨hr.1, by rw [a3]; omega⟩, by rw [hb hr.1 (by omega)]; exact pnv_Q hw (by omega)⟩
  · rw [hv, hc.2.2, a1]
    by_cases c : 0 ≤ q ∧ q ≤ (nb D : Int) - 1
    · rw [if_pos c, if_neg (by decide), hb c.1 (by omega)]
      by_cases d : gb D q.toNat = 0
      · rw [if_neg (fun z => pnv_ne.mp z d), cif_pos ⟨c.1, by omega, d⟩]
      · rw [if_pos (pnv_ne.mpr d), cif_neg (fun z => d z.2.2)]
    · rw [if_neg c, if_pos rfl, cif_neg (fun z => c (by have := z.1; have := z.2.1; omega))]
/-- where a number stands in a row -/
theorem spec_find (hl : l.stackTraces = false) {x : Nat} {f n : Int} {xs : List Nat} {its : Nat} (hK : gK σ x = 20) (hN : gN σ x = n) (h0 : 0 ≤ f) (h1 : f + xs.length ≤ n) (h3 : n ≤ 1000000) (hx : ∀ i : Nat, i < xs.length → gA σ x (f + i) = xs.getD i 0) (hm : its ∈ xs) (hs : ∀ y, y ∈ xs → y < 1000) :
    qMet g l M_X8_find [vr x, vi f, vi (its : Int)] σ (qPi σ (xs.idxOf its : Nat)) := by
  have hlt := ix_lt hm
  refine wm_X8_find hl ⟨fun n x1 => ∃ k : Nat, x1 = k ∧ k ≤ xs.idxOf its ∧ n = xs.length - k, ⟨_, 0, rfl, Nat.zero_le _, rfl⟩, ?_⟩
  rintro n x1 ⟨k, rfl, hk, rfl⟩
  have hg : ∀ i, i < xs.length → xs.getD i 0 < 1000 := fun i hi => by
    refine hs _ ?_
    rw [List.getD_eq_getElem?_getD, List.getElem?_eq_getElem hi]
    exact List.getElem_mem hi
  rw [hx k (by omega)]
  have := hg k (by omega)
  have := hs its hm
  refine ⟨q_isA0 hK, ⟨by omega, by rw [hN]; omega⟩, by unfold qR; omega, by unfold qR; omega, fun he => ⟨rfl, ?_⟩, fun hne x13 h13 => ⟨_, ?_, k + 1, by omega, ?_, rfl⟩⟩
  · have he' : xs.getD k 0 = its := by omega
    by_cases c : k = xs.idxOf its
    · rw [c]
    · have := List.not_of_lt_findIdx (p := (· == its)) (xs := xs) (i := k) (show k < xs.findIdx (· == its) from by have : xs.idxOf its = xs.findIdx (· == its) := rfl; omega)
      rw [List.getD_eq_getElem?_getD, List.getElem?_eq_getElem (by omega)] at he'
      simp at this
      exact absurd he' this
  · omega
  · by_cases c : k = xs.idxOf its
    · exact absurd (by rw [c, ix_get hm]) hne
    · omega
/-- a thing put into a row -/
theorem spec_ins (hl : l.stackTraces = false) (hA : qInj A) {t : Nat} {f n : Int} {xs : List Nat} {i its : Nat} (hK : gK σ (A t 0) = 20) (hN : gN σ (A t 0) = n) (h0 : 0 ≤ f) (h1 : f + xs.length + 1 ≤ n) (h3 : n ≤ 1000000) (hx : ∀ j : Nat, j < xs.length → gA σ (A t 0) (f + j) = xs.getD j 0) (hi : i ≤ xs.length) :
    qMet g l M_X8_inserts [vr (A t 0), vi f, vi (xs.length : Nat), vi (i : Int), vi (its : Int)] σ (qTv0 (fun σ' => qMc A noI (fun t' j => t' = t ∧ f ≤ j ∧ j ≤ f + xs.length) σ σ' ∧ ∀ j : Nat, j < xs.length + 1 → gA σ' (A t 0) (f + j) = (xs.insertIdx i its).getD j 0)) := by
  refine wm_X8_inserts hl ⟨fun n x1 σ2 => ∃ k : Nat, x1 = k ∧ i ≤ k ∧ k ≤ xs.length ∧ n = k + 1 ∧ qMc A noI (fun t' j => t' = t ∧ f ≤ j ∧ j ≤ f + xs.length) σ σ2 ∧ (∀ j : Nat, j < k → gA σ2 (A t 0) (f + j) = xs.getD j 0) ∧ ∀ j : Nat, k < j → j ≤ xs.length → gA σ2 (A t 0) (f + j) = xs.getD (j - 1) 0, ⟨_, xs.length, rfl, hi, Nat.le_refl _, rfl, qMc_rf, hx, fun j h1 h2 => by omega⟩, ?_⟩
  rintro n' x1 σ2 ⟨k, rfl, hik, hk, rfl, hc, hlo, hhi⟩
  have k20 : gK σ2 (A t 0) = 20 := by rw [hc.1]; exact hK
  have n20 : gN σ2 (A t 0) = n := by rw [hc.2.2.1]; exact hN
  refine ⟨by unfold qR; omega, by unfold qR; omega, fun hd => ⟨k20, ⟨by omega, by rw [n20]; omega⟩, fun σ14 h14 => ⟨rfl, ?_, fun j hj => ?_⟩⟩, fun hd => ⟨q_isA0 k20, ⟨by omega, by rw [n20]; omega⟩, k20, ⟨by omega, by rw [n20]; omega⟩, fun σ20 h20 x22 h22 => ⟨_, ?_, k - 1, by omega, by omega, by omega, rfl, ?_, fun j hj => ?_, fun j hj hj2 => ?_⟩⟩⟩
  · exact qMc_tr hc (by rw [h14]; exact qMc_A ⟨rfl, by omega, by omega⟩)
  · have hki : k = i := by omega
    subst hki
    rw [h14, gA_at hA, List.getD_eq_getElem?_getD, List.getElem?_insertIdx]
    by_cases c1 : j < k
    · rw [if_neg (fun z => by omega), if_pos c1, hlo j c1, List.getD_eq_getElem?_getD]
    · by_cases c2 : j = k
      · rw [if_pos ⟨rfl, by omega⟩, if_neg c1, if_pos c2, if_pos (by omega)]; rfl
      · rw [if_neg (fun z => by omega), if_neg c1, if_neg c2, hhi j (by omega) (by omega), List.getD_eq_getElem?_getD]
  · omega
  · exact qMc_tr hc (by rw [h20]; exact qMc_A ⟨rfl, by omega, by omega⟩)
  · rw [h20, gA_at hA, if_neg (fun z => by omega)]
    exact hlo j (by omega)
  · rw [h20, gA_at hA]
    by_cases c : j = k
    · rw [if_pos ⟨rfl, by omega⟩, c]
      have := hlo (k - 1) (by omega)
      rw [show f + ((k - 1 : Nat) : Int) = f + (k : Int) - 1 by omega] at this
      exact this
    · rw [if_neg (fun z => by omega)]
      exact hhi j (by omega) hj2
/-- a thing taken out of a row -/
theorem spec_rem (hl : l.stackTraces = false) (hA : qInj A) {t : Nat} {f n : Int} {xs : List Nat} {i : Nat} (hK : gK σ (A t 0) = 20) (hN : gN σ (A t 0) = n) (h0 : 0 ≤ f) (h1 : f + xs.length ≤ n) (h3 : n ≤ 1000000) (hx : ∀ j : Nat, j < xs.length → gA σ (A t 0) (f + j) = xs.getD j 0) (hi : i < xs.length) :
    qMet g l M_X8_removes [vr (A t 0), vi f, vi (xs.length : Nat), vi (i : Int)] σ (qTv0 (fun σ' => qMc A noI (fun t' j => t' = t ∧ f ≤ j ∧ j < f + xs.length) σ σ' ∧ ∀ j : Nat, j < xs.length - 1 → gA σ' (A t 0) (f + j) = (xs.eraseIdx i).getD j 0)) := by
  refine wm_X8_removes hl ⟨fun n x1 σ2 => ∃ k : Nat, x1 = k ∧ i ≤ k ∧ k + 1 ≤ xs.length ∧ n = xs.length - k ∧ qMc A noI (fun t' j => t' = t ∧ f ≤ j ∧ j < f + xs.length) σ σ2 ∧ (∀ j : Nat, j < k → gA σ2 (A t 0) (f + j) = (xs.eraseIdx i).getD j 0) ∧ ∀ j : Nat, k ≤ j → j < xs.length → gA σ2 (A t 0) (f + j) = xs.getD j 0, ⟨_, i, rfl, Nat.le_refl _, by omega, rfl, qMc_rf, fun j hj => ?_, fun j _ hj => hx j hj⟩, ?_⟩
  · rw [hx j (by omega), List.getD_eq_getElem?_getD, List.getD_eq_getElem?_getD, List.getElem?_eraseIdx, if_pos hj]
  rintro n' x1 σ2 ⟨k, rfl, hik, hk, rfl, hc, hlo, hhi⟩
  have k20 : gK σ2 (A t 0) = 20 := by rw [hc.1]; exact hK
  have n20 : gN σ2 (A t 0) = n := by rw [hc.2.2.1]; exact hN
  refine ⟨by unfold qR; omega, by unfold qR; omega, fun hd => ⟨rfl, hc, fun j hj => hlo j (by omega)⟩, fun hd => ⟨q_isA0 k20, ⟨by omega, by rw [n20]; omega⟩, k20, ⟨by omega, by rw [n20]; omega⟩, fun σ20 h20 x22 h22 => ⟨_, ?_, k + 1, by omega, by omega, by omega, rfl, ?_, fun j hj => ?_, fun j hj hj2 => ?_⟩⟩⟩
  · omega
  · exact qMc_tr hc (by rw [h20]; exact qMc_A ⟨rfl, by omega, by omega⟩)
  · rw [h20, gA_at hA]
    by_cases c : j = k
    · rw [if_pos ⟨rfl, by omega⟩, c, List.getD_eq_getElem?_getD, List.getElem?_eraseIdx, if_neg (by omega)]
      have := hhi (k + 1) (by omega) (by omega)
      rw [List.getD_eq_getElem?_getD] at this
      rw [show f + ((k + 1 : Nat) : Int) = f + (k : Int) + 1 by omega] at this
      exact this
    · rw [if_neg (fun z => by omega)]
      exact hlo j (by omega)
  · rw [h20, gA_at hA, if_neg (fun z => by omega)]
    exact hhi j (by omega) hj2
/-- a row copied -/
theorem spec_copies (hl : l.stackTraces = false) (hA : qInj A) {t t' : Nat} {n : Int} (hK : gK σ (A t 0) = 20) (hN : gN σ (A t 0) = n) (hK' : gK σ (A t' 0) = 20) (hN' : gN σ (A t' 0) = n) (h3 : 0 ≤ n ∧ n ≤ 1000000) (hne : t ≠ t') :
    qMet g l M_X8_copies [vr (A t 0), vr (A t' 0)] σ (qTv0 (fun σ' => qMc A noI (fun u _ => u = t') σ σ' ∧ ∀ i, 0 ≤ i → i < n → gA σ' (A t' 0) i = gA σ (A t 0) i)) := by
  refine wm_X8_copies hl ⟨fun m x1 σ2 => (0 ≤ x1 ∧ x1 ≤ n) ∧ m = (n - x1).toNat ∧ qMc A noI (fun u _ => u = t') σ σ2 ∧ ∀ i, 0 ≤ i → i < x1 → gA σ2 (A t' 0) i = gA σ (A t 0) i, ⟨_, ⟨by omega, h3.1⟩, rfl, qMc_rf, fun i h1 h2 => by omega⟩, ?_⟩
  rintro m x1 σ2 ⟨hx1, rfl, hc, hv⟩
  have k1 : gK σ2 (A t 0) = 20 := by rw [hc.1]; exact hK
  have k2 : gK σ2 (A t' 0) = 20 := by rw [hc.1]; exact hK'
  have n1 : gN σ2 (A t 0) = n := by rw [hc.2.2.1]; exact hN
  have n2 : gN σ2 (A t' 0) = n := by rw [hc.2.2.1]; exact hN'
  rw [n1]
  refine ⟨q_isA0 k1, by unfold qR; omega, by unfold qR; omega, fun hd => ⟨rfl, hc, fun i h1 h2 => hv i h1 (by omega)⟩, fun hd => ⟨⟨hx1.1, by rw [n1]; omega⟩, k2, ⟨hx1.1, by rw [n2]; omega⟩, fun σ16 h16 x18 h18 => ⟨_, ?_, by omega, rfl, ?_, fun i h1 h2 => ?_⟩⟩⟩
  · omega
  · exact qMc_tr hc (by rw [h16]; exact qMc_A rfl)
  · rw [h16, gA_at hA]
    by_cases c : i = x1
    · rw [if_pos ⟨rfl, c⟩, c, qMc_at hA hc (fun z => hne z)]
    · rw [if_neg (fun z => c z.2)]
      exact hv i h1 (by omega)
theorem spec_mFromRight (hl : l.stackTraces = false) (h : MB A D σ) (hw : WF0 D) {p : Nat} (hp' : p < np D) : qMet g l M_X8_isFromRight [vr (A 30 0), vi (p : Int)] σ (qPi σ (if ¬ tg D p = 1 then 0 else 1)) := by
  have hn := hw.1.1
  obtain ⟨a1, a2, a3⟩ := m324 h.1
  have ht := (h.2.1.1 p (by omega)).1
  have hr := (hw.2.1 p hp').1
  have ht' : gA σ (A 44 0) (p : Int) = tg D p := ht
  rw [← ht']
  refine wm_X8_isFromRight hl ⟨h.1.1, ?_⟩
  rw [a1]
  exact ⟨q_isA0 a2, ⟨by omega, by rw [a3]; omega⟩, by rw [ht']; unfold qR; omega, fun v hv => ⟨rfl, by rw [hv]⟩⟩
theorem spec_grown (hl : l.stackTraces = false) (h : MB A D σ) (hw : WF0 D) {p b : Nat} (hp' : p < np D) (hb' : b < nb D) : qMet g l M_X8_grown [vr (A 30 0), vi (b : Int), vi (p : Int)] σ (qPi σ (mny (gro D p) (lt D b))) := by
  have hn := hw.1
  obtain ⟨a1, a2, a3⟩ := m324 h.1
  obtain ⟨b1, b2, b3⟩ := m338 h.1
  obtain ⟨c1, c2, c3⟩ := m328 h.1
  have ht : gA σ (A 44 0) (p : Int) = tg D p := (h.2.1.1 p (by omega)).1
  have hr := (hw.2.1 p hp').1
  have hg : gA σ (A 48 0) (tg D p) = gro D p := by
    have := h.2.1.2.1 (tg D p).toNat (by omega)
    unfold tid at this
    rw [Int.toNat_of_nonneg hr.1] at this
    exact this
  have hlt : gA σ (A 58 0) (b : Int) = lt D b := (h.2.2.2.2 b hb').1
  have hm := mny_le (g := gro D p) (lt := lt D b) (hw.2.2.2.1 _ (by omega)) (hw.2.2.2.2.2.1 b hb').2.2.1
  refine wm_X8_grown hl ⟨h.1.1, ?_⟩
  rw [a1, b1, c1, ht, hg, hlt]
  exact ⟨q_isA0 b2, ⟨by omega, by rw [b3]; omega⟩, q_isA0 a2, ⟨by omega, by rw [a3]; omega⟩, q_isA0 c2, ⟨hr.1, by rw [c3]; omega⟩, ⟨by omega, by omega⟩, rfl, rfl⟩
end
