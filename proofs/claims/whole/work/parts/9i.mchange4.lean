/-! the model: the panels' balloons, taken out and put in -/
def HSm (A : Nat → Nat → Nat) (n : Nat) (H : Nat → List Nat) (σ : qS) : Prop := ∀ q : Nat, q < n → gA σ (A 55 0) (q : Int) = ((H q).length : Nat) ∧ ∀ k : Nat, k < (H q).length → gA σ (A 56 0) (4 * (q : Int) + (k : Int)) = ((H q).getD k 0 : Nat)
def updL (H : Nat → List Nat) (q : Nat) (xs : List Nat) : Nat → List Nat := fun q' => if q' = q then xs else H q'
section
variable {g : qG} {l : Launch} {A : Nat → Nat → Nat} {D D1 : qD} {σ σ0 σ1 σ2 σ' : qS} {c : Nat → Int} {H : Nat → List Nat} {n : Nat}
theorem HS_step (hA : qInj A) (h : HSm A n H σ) {q : Nat} {xs : List Nat} (h4 : ∀ q', q' < n → (H q').length ≤ 4) (hc : qMc A noI (fun t i => t = 56 ∧ 4 * (q : Int) ≤ i ∧ i < 4 * (q : Int) + 4) σ σ1) (hv : ∀ k : Nat, k < xs.length → gA σ1 (A 56 0) (4 * (q : Int) + (k : Int)) = (xs.getD k 0 : Nat)) {v : Int} (hv2 : v = (xs.length : Nat)) (s2 : σ2 = sA σ1 (A 55 0) (q : Int) v) : HSm A n (updL H q xs) σ2 := by
  intro q' hq'
  have g56 : ∀ j, gA σ2 (A 56 0) j = gA σ1 (A 56 0) j := fun j => by rw [s2, gA_at hA, if_neg (fun z => absurd z.1 (by decide))]
  unfold updL
  by_cases e : q' = q
  · rw [if_pos e, e]
    refine ⟨?_, fun k hk => by rw [g56]; exact hv k hk⟩
    rw [s2, gA_at hA, if_pos ⟨rfl, rfl⟩, hv2]
  · rw [if_neg e]
    obtain ⟨x, y⟩ := h q' hq'
    refine ⟨?_, fun k hk => ?_⟩
    · rw [s2, gA_at hA, if_neg (fun z => e (by omega)), qMc_at hA hc (fun z => absurd z.1 (by decide))]
      exact x
    · have := h4 q' hq'
      rw [g56, qMc_at hA hc (fun z => by omega)]
      exact y k hk
theorem HS_f (hA : qInj A) {SI : Nat → Prop} {SA : Nat → Int → Prop} (hc : qMc A SI SA σ σ') (hS : ∀ t i, t = 55 ∨ t = 56 → ¬ SA t i) (h : HSm A n H σ) : HSm A n H σ' := fun q hq => by
  rw [qMc_at hA hc (hS _ _ (Or.inl rfl))]
  exact ⟨(h q hq).1, fun k hk => by rw [qMc_at hA hc (hS _ _ (Or.inr rfl))]; exact (h q hq).2 k hk⟩
theorem tk_b (hl : l.stackTraces = false) (hA : qInj A) (hS : MS A σ) (hH : HSm A n H σ) {q b : Nat} (hq : q < n) (hn : n ≤ 50) (h4 : ∀ q', q' < n → (H q').length ≤ 4) (hm : b ∈ H q) (hlt : ∀ y, y ∈ H q → y < 1000) {Rest : qS → Prop} (hR : ∀ σ46, qMc A noI (fun t _ => t = 55 ∨ t = 56) σ σ46 → HSm A n (updL H q ((H q).eraseIdx ((H q).idxOf b))) σ46 → Rest σ46) :
    gK σ (A 30 0) = 9 ∧ q_isA σ 0 (gP σ 335 (A 30 0)) ∧ q_in σ (gP σ 335 (A 30 0)) (q : Int) ∧ (∃ v34 : Int, qMet g l M_X8_find [vr (gP σ 336 (A 30 0)), vi (4 * (q : Int)), vi (b : Int)] σ (qPi σ v34) ∧ ((∃ Mid36 : qS → Prop, qMet g l M_X8_removes [vr (gP σ 336 (A 30 0)), vi (4 * (q : Int)), vi (gA σ (gP σ 335 (A 30 0)) (q : Int)), vi v34] σ (qTv0 Mid36) ∧ ∀ (σ40 : qS), Mid36 σ40 → gK σ40 (A 30 0) = 9 ∧ q_isA σ40 0 (gP σ40 335 (A 30 0)) ∧ q_in σ40 (gP σ40 335 (A 30 0)) (q : Int) ∧ gK σ40 (gP σ40 335 (A 30 0)) = 20 ∧ (∀ σ46 : qS, σ46 = sA σ40 (gP σ40 335 (A 30 0)) (q : Int) ((gA σ40 (gP σ40 335 (A 30 0)) (q : Int)) - 1) → Rest σ46)))) := by
  obtain ⟨a1, a2, a3⟩ := m335 hS
  obtain ⟨b1, b2, b3⟩ := m336 hS
  obtain ⟨x, y⟩ := hH q hq
  have hl4 := h4 q hq
  have hix := ix_lt hm
  have hel := ers_len hm
  rw [a1, b1, x]
  refine ⟨hS.1, q_isA0 a2, ⟨by omega, by rw [a3]; omega⟩, _, spec_find hl b2 b3 (by omega) (by omega) (by decide) y hm hlt, _, spec_rem hl hA (xs := H q) b2 b3 (by omega) (by omega) (by decide) y hix, fun σ40 h40 => ?_⟩
  obtain ⟨hc, hv⟩ := h40
  have hS1 := MS_c hc hS
  obtain ⟨a1, a2, a3⟩ := m335 hS1
  have hx : gA σ40 (A 55 0) (q : Int) = ((H q).length : Nat) := by rw [qMc_at hA hc (fun z => absurd z.1 (by decide))]; exact x
  rw [a1, hx]
  refine ⟨hS1.1, q_isA0 a2, ⟨by omega, by rw [a3]; omega⟩, a2, fun σ46 h46 => hR σ46 ?_ ?_⟩
  · exact qMc_tr (qMc_mono hc (fun _ z => z) (fun t i z => Or.inr z.1)) (by rw [h46]; exact qMc_A (Or.inl rfl))
  · exact HS_step hA hH h4 (qMc_mono hc (fun _ z => z) (fun t i z => ⟨z.1, z.2.1, by have := z.2.2; omega⟩)) (fun k hk => hv k (by rw [hel] at hk; exact hk)) (by rw [hel]; omega) h46
theorem pt_b (hl : l.stackTraces = false) (hA : qInj A) (hS : MS A σ) (hH : HSm A n H σ) {q b i : Nat} (hq : q < n) (hn : n ≤ 50) (h4 : ∀ q', q' < n → (H q').length ≤ 4) (h3 : (H q).length < 4) (hi : i ≤ (H q).length) {Rest : qS → Prop} (hR : ∀ σ46, qMc A noI (fun t _ => t = 55 ∨ t = 56) σ σ46 → HSm A n (updL H q ((H q).insertIdx i b)) σ46 → Rest σ46) :
    q_isA σ 0 (gP σ 335 (A 30 0)) ∧ q_in σ (gP σ 335 (A 30 0)) (q : Int) ∧ (∃ Mid94 : qS → Prop, qMet g l M_X8_inserts [vr (gP σ 336 (A 30 0)), vi (4 * (q : Int)), vi (gA σ (gP σ 335 (A 30 0)) (q : Int)), vi (i : Int), vi (b : Int)] σ (qTv0 Mid94) ∧ ∀ (σ98 : qS), Mid94 σ98 → gK σ98 (A 30 0) = 9 ∧ q_isA σ98 0 (gP σ98 335 (A 30 0)) ∧ q_in σ98 (gP σ98 335 (A 30 0)) (q : Int) ∧ gK σ98 (gP σ98 335 (A 30 0)) = 20 ∧ (∀ σ104 : qS, σ104 = sA σ98 (gP σ98 335 (A 30 0)) (q : Int) ((gA σ98 (gP σ98 335 (A 30 0)) (q : Int)) + 1) → Rest σ104)) := by
  obtain ⟨a1, a2, a3⟩ := m335 hS
  obtain ⟨b1, b2, b3⟩ := m336 hS
  obtain ⟨x, y⟩ := hH q hq
  have hlen : ((H q).insertIdx i b).length = (H q).length + 1 := by rw [List.length_insertIdx, if_pos hi]
  rw [a1, b1, x]
  refine ⟨q_isA0 a2, ⟨by omega, by rw [a3]; omega⟩, _, spec_ins hl hA (xs := H q) b2 b3 (by omega) (by omega) (by decide) y hi, fun σ40 h40 => ?_⟩
  obtain ⟨hc, hv⟩ := h40
  have hS1 := MS_c hc hS
  obtain ⟨a1, a2, a3⟩ := m335 hS1
  have hx : gA σ40 (A 55 0) (q : Int) = ((H q).length : Nat) := by rw [qMc_at hA hc (fun z => absurd z.1 (by decide))]; exact x
  rw [a1, hx]
  refine ⟨hS1.1, q_isA0 a2, ⟨by omega, by rw [a3]; omega⟩, a2, fun σ46 h46 => hR σ46 ?_ ?_⟩
  · exact qMc_tr (qMc_mono hc (fun _ z => z) (fun t i z => Or.inr z.1)) (by rw [h46]; exact qMc_A (Or.inl rfl))
  · exact HS_step hA hH h4 (qMc_mono hc (fun _ z => z) (fun t i z => ⟨z.1, z.2.1, by have := z.2.2; omega⟩)) (fun k hk => hv k (by rw [hlen] at hk; exact hk)) (by rw [hlen]; omega) h46
theorem HS_of (h : MB A D σ) : HSm A (nq D) (hs D) σ := fun q hq => ⟨(h.2.1.2.2.1 q hq).2.2.1, (h.2.1.2.2.1 q hq).2.2.2⟩
theorem hs_len4 (hw : WF0 D) {q : Nat} (hq : q < nq D) : (hs D q).length ≤ 4 := (hw.2.2.2.2.1 q hq).2.2.1.2.2.1
theorem hs_lt (hw : WF0 D) {q : Nat} (hq : q < nq D) {y : Nat} (hy : y ∈ hs D q) : y < 1000 := by
  have := ((hw.2.2.2.2.1 q hq).2.2.1.2.2.2.1 y hy).2
  have := hw.1
  omega
/-- the model's data, where only the panels' balloons, the balloons' panels and the balloons are otherwise -/
theorem MB_hs (hA : qInj A) {SA : Nat → Int → Prop} (hc : qMc A noI SA σ σ') (hS : ∀ t i, SA t i → 55 ≤ t ∧ t ≤ 59) (h : MB A D σ) (hn : nq D1 = nq D) (hH : HSm A (nq D) (hs D1) σ') (h57 : ∀ b : Nat, b < nb D1 → gA σ' (A 57 0) (b : Int) = pnv D1 b) (e1 : ∀ p, tg D1 p = tg D p) (e2 : ∀ p, row D1 p = row D p) (e3 : ∀ t, gr D1 t = gr D t) (e4 : ∀ q, pgv D1 q = pgv D q) (e5 : ∀ q, fc D1 q = fc D q) (h2 : MA2 A D1 σ') : MB A D1 σ' := by
  have hno : ∀ t i, t < 55 → ¬ SA t i := fun t i ht z => by have := hS t i z; omega
  obtain ⟨h1, ⟨b1, b2, b3, b4⟩, -⟩ := h
  refine ⟨MS_c hc h1, ⟨fun p hp' => ?_, fun t ht => ?_, fun q hq => ?_, h57⟩, h2⟩
  · obtain ⟨x, y, z⟩ := b1 p hp'
    have epn : pn D1 p = pn D p := by unfold pn; rw [e2]
    refine ⟨by rw [qMc_at hA hc (hno _ _ (by decide)), e1]; exact x, by rw [qMc_at hA hc (hno _ _ (by decide)), epn]; exact y, fun i hi => ?_⟩
    rw [epn] at hi
    rw [qMc_at hA hc (hno _ _ (by decide))]
    have := z i hi
    unfold pq at this ⊢
    rw [e2]
    exact this
  · rw [qMc_at hA hc (hno _ _ (by decide)), e3]; exact b2 t ht
  · rw [hn] at hq
    obtain ⟨x, y, z, w⟩ := b3 q hq
    obtain ⟨u, v⟩ := hH q hq
    exact ⟨by rw [qMc_at hA hc (hno _ _ (by decide)), e4]; exact x, by rw [qMc_at hA hc (hno _ _ (by decide)), e5]; exact y, u, v⟩
end
