/-! the model: pages are laid -/
def pgSA (D : qD) (p : Nat) : Nat → Int → Prop := fun t i => t = 62 ∨ (t = 63 ∧ i = p) ∨ ∃ q, q ∈ row D p ∧ ((t = 60 ∧ 5 * (q : Int) ≤ i ∧ i < 5 * (q : Int) + 5) ∨ (t = 61 ∧ ∃ b, b ∈ hs D q ∧ 4 * (b : Int) ≤ i ∧ i < 4 * (b : Int) + 4))
def allSA (D : qD) : Nat → Int → Prop := fun t i => ∃ p, p < np D ∧ pgSA D p t i
/-- what stands after k rows -/
def lpI (A : Nat → Nat → Nat) (D : qD) (σ : qS) (p : Nat) (n : Nat) (x6 x7 : Int) (s : qS) : Prop := ∃ k : Nat, x6 = rS D p k ∧ x7 = rT D p k ∧ n = pn D p - rS D p k ∧ k ≤ rS D p k ∧ (∀ j, j < k → rS D p j < pn D p) ∧ (0 ≤ x7 ∧ x7 ≤ 50) ∧ qMc A noI (pgSA D p) σ s ∧ gA s (A 63 0) p = k ∧
  (∀ j, j < k → rH D p (rS D p j) (rS D p (j + 1)) ≤ 16 ∧ rT D p (j + 1) ≤ 50) ∧ ∀ j, j < k → ∀ i, rS D p j ≤ i → i < rS D p (j + 1) → RowA A D s p (rS D p j) (rS D p (j + 1)) j (rT D p j) i ∧ RowB A D s p (rS D p j) (rS D p (j + 1)) (rH D p (rS D p j) (rS D p (j + 1)) : Nat) i
def lpP (A : Nat → Nat → Nat) (D : qD) (σ : qS) (p : Nat) (s : qS) (v : Int) : Prop := qMc A noI (pgSA D p) σ s ∧ ((v = 1 ∧ OKp D p ∧ ML A D s p) ∨ (v = 0 ∧ ¬ OKp D p))
section
variable {g : qG} {l : Launch} {A : Nat → Nat → Nat} {D : qD} {σ : qS}
theorem pgSA_hi {p t : Nat} {i : Int} (h : pgSA D p t i) : 60 ≤ t ∧ t ≤ 63 := by
  rcases h with z | ⟨z, -⟩ | ⟨q, -, z | z⟩ <;> omega
theorem rwSA_pg {p f e t : Nat} {i : Int} (he : e ≤ pn D p) (h : rwSA D p f e t i) : pgSA D p t i := by
  rcases h with z | ⟨j, a, b, z⟩
  · exact Or.inl z
  · exact Or.inr (Or.inr ⟨_, pq_mem (show j < pn D p by omega), z⟩)
theorem Row_out (hA : qInj A) {p f e f' e' i : Nat} {row top H : Int} {σ' : qS} (hw : PgW D p) (hc : qMc A noI (rwSA D p f e) σ σ') (hi : i < f) (hf : f ≤ e) (he : e ≤ pn D p) (h : RowA A D σ p f' e' row top i ∧ RowB A D σ p f' e' H i) : RowA A D σ' p f' e' row top i ∧ RowB A D σ' p f' e' H i := by
  have hne : ∀ j, f ≤ j → j < e → pq D p j ≠ pq D p i := fun j a b z => by have := nodup_at hw.2.1 (show j < pn D p by omega) (show i < pn D p by omega) z; omega
  have h60 : ∀ x : Int, 5 * (pq D p i : Int) ≤ x → x < 5 * (pq D p i : Int) + 5 → gA σ' (A 60 0) x = gA σ (A 60 0) x := fun x x0 x1 => qMc_at hA hc (by
    rintro (z | ⟨j, a, b, z | z⟩)
    · omega
    · exact hne j a b (by omega)
    · omega)
  obtain ⟨⟨a1, a2, a3, a4⟩, b1, b2⟩ := h
  refine ⟨⟨?_, ?_, ?_, ?_⟩, ?_, fun k hk => MBox_c hA hc (fun x x0 x1 z => ?_) (b2 k hk)⟩
  · rw [h60 _ (by omega) (by omega)]; exact a1
  · rw [h60 _ (by omega) (by omega)]; exact a2
  · rw [h60 _ (by omega) (by omega)]; exact a3
  · rw [h60 _ (by omega) (by omega)]; exact a4
  · rw [h60 _ (by omega) (by omega)]; exact b1
  · rcases z with z | ⟨j, a, b, z | ⟨-, b', hb1, hb2⟩⟩
    · omega
    · omega
    · have hbe : bl D (pq D p i) k = b' := by omega
      exact hne j a b (hw.2.2.2.2 _ _ b' (pq_mem (by omega)) (pq_mem (by omega)) hb1 (hbe ▸ bl_mem hk))
theorem Row_at (hA : qInj A) {p f' e' i : Nat} {row top H : Int} {σ' : qS} (h60 : ∀ x, gA σ' (A 60 0) x = gA σ (A 60 0) x) (h61 : ∀ x, gA σ' (A 61 0) x = gA σ (A 61 0) x) (h : RowA A D σ p f' e' row top i ∧ RowB A D σ p f' e' H i) : RowA A D σ' p f' e' row top i ∧ RowB A D σ' p f' e' H i := by
  unfold RowA RowB MBox at h ⊢
  simp only [h60, h61]
  exact h
theorem spec_mlaysPage (hl : l.stackTraces = false) (hA : qInj A) (h : MB A D σ) (hw : WF0 D) {p : Nat} (hp' : p < np D) : qMet g l M_X8_laysPage [vr (A 30 0), vi (p : Int)] σ (qTi0 (lpP A D σ p)) := by
  have hn := hw.1
  have hPg := WF0_Pg hw hp'
  have hn8 := hPg.2.2.1
  have hMBc : ∀ {s : qS}, qMc A noI (pgSA D p) σ s → MB A D s := fun hc => MB_c hA hc (fun t i t1 t2 z => by have := pgSA_hi z; omega) h
  have hw4 : ∀ j, j < pn D p → 4 ≤ pw D p j ∧ pw D p j ≤ 24 := fun j h2 => (at_m h hw hp' h2).2.2.2.2.2.2.2.2.2.2.2.1
  obtain ⟨r1, r2, r3⟩ := m343 h.1
  refine wm_X8_laysPage hl ⟨h.1.1, by rw [r1]; exact r2, by rw [r1]; exact ⟨by omega, by rw [r3]; omega⟩, fun σ4 h4 => ?_⟩
  rw [r1] at h4
  have hc4 : qMc A noI (pgSA D p) σ σ4 := by rw [h4]; exact qMc_A (Or.inr (Or.inl ⟨rfl, rfl⟩))
  refine ⟨lpI A D σ p, ⟨_, 0, rfl, rfl, rfl, Nat.zero_le _, fun j z => absurd z (Nat.not_lt_zero _), by omega, hc4, ?_, fun j z => absurd z (Nat.not_lt_zero _), fun j z => absurd z (Nat.not_lt_zero _)⟩, ?_⟩
  · rw [h4, gA_at hA, if_pos ⟨rfl, rfl⟩]; rfl
  rintro n x6 x7 σ1 ⟨k, rfl, hx7, rfl, hk0, hk1, hx7b, hc1, h63, hok1, hrow1⟩
  have hB1 := hMBc hc1
  obtain ⟨c1, c2, c3⟩ := m325 hB1.1
  have hcnt : gA σ1 (A 45 0) (p : Int) = pn D p := (hB1.2.1.1 p (by omega)).2.1
  rw [c1, hcnt]
  have hSle := rS_le hPg k
  refine ⟨hB1.1.1, q_isA0 c2, ⟨by omega, by rw [c3]; omega⟩, by unfold qR; omega, by unfold qR; omega, fun hd => ⟨1, rfl, hc1, Or.inl ⟨rfl, ?_, ?_⟩⟩, fun hd => ?_⟩
  · have hke : rS D p k = pn D p := by omega
    intro j hj
    rcases Nat.lt_or_ge j k with c | c
    · exact hok1 j c
    · have := rS_mono hPg c; omega
  · have hke : rS D p k = pn D p := by omega
    have hh := hom hw hp'
    refine ⟨?_, fun q hq => ?_⟩
    · rw [h63]
      have : rowsOf D p = k := lsp_eq (by omega) (fun t ht hh => by have := hk1 t ht; omega) (fun _ => hke)
      rw [this]
    · have hpq := (hh q hq).1
      have hi : ixP D q < pn D p := by unfold ixP; rw [hpq]; exact ix_lt hq
      obtain ⟨k1, k2, k3⟩ := kOf_sp hPg hi
      have hqq : pq D p (ixP D q) = q := by unfold pq ixP; rw [hpq]; exact ix_get hq
      have hkk : kOf D p (ixP D q) < k := by
        rcases Nat.lt_or_ge (kOf D p (ixP D q)) k with c | c
        · exact c
        · have := rS_mono hPg c; omega
      obtain ⟨⟨d1, d2, d3, d4⟩, d5, d6⟩ := hrow1 _ hkk _ k2 k3
      rw [hqq] at d1 d2 d3 d4 d5 d6
      have e1 : kq D q = kOf D p (ixP D q) := by unfold kq; rw [hpq]
      have e2 : LB D q = pB D p (kOf D p (ixP D q)) (ixP D q) := by unfold LB; rw [e1, hpq]
      rw [e1, e2]
      refine ⟨d1, ⟨d2, by rw [show (5 * (q : Int) + 1 + 1) = 5 * (q : Int) + 2 by omega]; exact d3, by rw [show (5 * (q : Int) + 1 + 2) = 5 * (q : Int) + 3 by omega]; exact d4, by rw [show (5 * (q : Int) + 1 + 3) = 5 * (q : Int) + 4 by omega]; exact d5⟩, fun b hbm => ?_⟩
      have e3 : hb D b = q := (hh q hq).2 b hbm
      have e4 : bl D q (ixB D b) = b := by unfold bl ixB; rw [e3]; exact ix_get hbm
      have e5 : ixB D b < (hs D q).length := by unfold ixB; rw [e3]; exact ix_lt hbm
      have := d6 _ e5
      rw [e4] at this
      unfold FB FBq
      rw [e3, hpq, e2]
      exact this
  have hkn : rS D p k < pn D p := by omega
  -- a row
  have hRow : ∀ e : Nat, rS D p (k + 1) = e → rS D p k < e → e ≤ pn D p → (0 ≤ spare (pw D p) (rS D p k) e ∧ spare (pw D p) (rS D p k) e ≤ 24) → q_isA σ1 0 (gP σ1 343 (A 30 0)) ∧ q_in σ1 (gP σ1 343 (A 30 0)) p ∧ (∃ Mid34 : qS → Int → Prop, qMet g l M_X8_laysRow [vr (A 30 0), vi (p : Int), vi (rS D p k : Int), vi (e : Int), vi (gA σ1 (gP σ1 343 (A 30 0)) p), vi x7] σ1 (qTi0 Mid34) ∧ ∀ (σ38 : qS) (v40 : Int), Mid34 σ38 v40 → qR v40 ∧ ((v40 = ((-1)) → qTi0 (lpP A D σ p) σ38 (.inl (some (vi 0)))) ∧ (¬ (v40 = ((-1))) → qR (x7 + v40) ∧ (((x7 + v40) ≤ 50 → ∀ x45 : Int, x45 = x7 + v40 → gK σ38 (A 30 0) = 9 ∧ q_isA σ38 0 (gP σ38 343 (A 30 0)) ∧ q_in σ38 (gP σ38 343 (A 30 0)) p ∧ gK σ38 (gP σ38 343 (A 30 0)) = 20 ∧ (∀ σ51 : qS, σ51 = sA σ38 (gP σ38 343 (A 30 0)) p ((gA σ38 (gP σ38 343 (A 30 0)) p) + 1) → ∃ n53 : Nat, n53 < pn D p - rS D p k ∧ lpI A D σ p n53 e x45 σ51)) ∧ (¬ ((x7 + v40) ≤ 50) → qTi0 (lpP A D σ p) σ38 (.inl (some (vi 0)))))))) := by
    intro e he hlt hle hsp
    obtain ⟨r1, r2, r3⟩ := m343 hB1.1
    rw [r1, h63]
    refine ⟨q_isA0 r2, ⟨by omega, by rw [r3]; omega⟩, _, spec_laysRow hl hA hB1 hw hp' hlt hle hsp (by unfold qR; omega) (by omega), fun σ2 v2 h2 => ?_⟩
    obtain ⟨hc2, hres⟩ := h2
    have hc02 : qMc A noI (pgSA D p) σ σ2 := qMc_trm hc1 hc2 (fun _ z => z) (fun t i z => rwSA_pg hle z)
    have hB2 := hMBc hc02
    have hrT : rT D p (k + 1) = x7 + (rH D p (rS D p k) e : Nat) := by
      show rT D p k + (rH D p (rS D p k) (rS D p (k + 1)) : Nat) = _
      rw [he, hx7]
    rcases hres with ⟨rfl, h16, hall⟩ | ⟨rfl, h17⟩
    · refine ⟨by unfold qR; omega, fun z => by omega, fun _ => ⟨by unfold qR; omega, fun h50 x45 h45 => ?_, fun h50 => ⟨0, rfl, hc02, Or.inr ⟨rfl, fun hok => ?_⟩⟩⟩⟩
      · obtain ⟨r1', r2', r3'⟩ := m343 hB2.1
        have h63' : gA σ2 (A 63 0) (p : Int) = k := by
          rw [qMc_at hA hc2 (fun z => by have := rwSA_hi z; omega)]; exact h63
        rw [r1', h63']
        refine ⟨hB2.1.1, q_isA0 r2', ⟨by omega, by rw [r3']; omega⟩, r2', fun σ3 h3 => ⟨_, ?_, k + 1, by rw [he], by rw [h45, hrT], rfl, by rw [he]; omega, fun j hj => ?_, by omega, ?_, ?_, fun j hj => ?_, fun j hj i i0 i1 => ?_⟩⟩
        · rw [he]; omega
        · by_cases c : j = k
          · rw [c]; exact hkn
          · exact hk1 j (by omega)
        · exact qMc_tr hc02 (by rw [h3]; exact qMc_A (Or.inr (Or.inl ⟨rfl, rfl⟩)))
        · rw [h3, gA_at hA, if_pos ⟨rfl, rfl⟩]; omega
        · by_cases c : j = k
          · subst c
            rw [he, hrT]
            exact ⟨h16, h50⟩
          · exact hok1 j (by omega)
        · have h60 : ∀ x, gA σ3 (A 60 0) x = gA σ2 (A 60 0) x := fun x => by rw [h3, gA_at hA, if_neg (fun z => absurd z.1 (by decide))]
          have h61 : ∀ x, gA σ3 (A 61 0) x = gA σ2 (A 61 0) x := fun x => by rw [h3, gA_at hA, if_neg (fun z => absurd z.1 (by decide))]
          refine Row_at hA h60 h61 ?_
          by_cases c : j = k
          · subst c
            rw [he] at i1 ⊢
            rw [← hx7]
            exact hall i i0 i1
          · have hj2 : j < k := by omega
            have := rS_mono hPg (j := j + 1) (k := k) (by omega)
            exact Row_out hA hPg hc2 (by omega) (by omega) hle (hrow1 j hj2 i i0 i1)
      · have := (hok k hkn).2
        rw [hrT] at this
        omega
    · refine ⟨by unfold qR; omega, fun _ => ⟨0, rfl, hc02, Or.inr ⟨rfl, fun hok => ?_⟩⟩, fun z => absurd rfl z⟩
      have := (hok k hkn).1
      rw [he] at this
      omega
  refine ⟨fun n x21 x22 => ∃ e : Nat, x21 = e ∧ rS D p k ≤ e ∧ e ≤ pn D p ∧ n = pn D p - e ∧ x22 = sm (pw D p) e - sm (pw D p) (rS D p k) ∧ (0 ≤ x22 ∧ x22 ≤ 24) ∧ ∀ t, rS D p k ≤ t → t < e → sm (pw D p) (t + 1) - sm (pw D p) (rS D p k) ≤ 24, ⟨_, rS D p k, rfl, Nat.le_refl _, hSle, rfl, by omega, by omega, fun t a b => by omega⟩, ?_⟩
  rintro n x21 x22 ⟨e, rfl, he1, he2, rfl, hx22, hx22b, hall⟩
  have hSdef : rS D p (k + 1) = lsp (fun e => rS D p k < e ∧ 24 < sm (pw D p) (e + 1) - sm (pw D p) (rS D p k)) (pn D p) := rfl
  have hspr : spare (pw D p) (rS D p k) e = 24 - x22 := by unfold spare; rw [hx22]
  refine ⟨by unfold qR; omega, fun hd2 => ?_, fun hd2 => ?_⟩
  · have hen : e = pn D p := by omega
    exact hRow e (by rw [hSdef]; exact lsp_eq he2 (fun t ht z => by have := hall t (by omega) ht; omega) (fun z => by omega)) (by omega) he2 (by rw [hspr]; omega)
  · have hel : e < pn D p := by omega
    obtain ⟨y1, y2, y3, y4, y5, y6, y7⟩ := at_m hB1 hw hp' hel
    have hqe : pq D p e < 50 := by have := y1.1; omega
    obtain ⟨a1, a2, a3⟩ := m326 hB1.1
    obtain ⟨b1, b2, b3⟩ := m331 hB1.1
    rw [a1, b1, y3, y4]
    have hwe := hw4 e hel
    have hsme : sm (pw D p) (e + 1) = sm (pw D p) e + pw D p e := rfl
    refine ⟨q_isA0 a2, ⟨by omega, by rw [a3]; omega⟩, q_isA0 b2, ⟨by omega, by rw [b3]; omega⟩, by unfold qR; omega, fun h24 => ?_, fun h24 x83 h83 x85 h85 => ⟨_, ?_, e + 1, by omega, by omega, by omega, rfl, by rw [h83, hsme]; omega, by omega, fun t a b => ?_⟩⟩
    · have hlt : rS D p k < e := by
        rcases Nat.lt_or_ge (rS D p k) e with c | c
        · exact c
        · have : e = rS D p k := by omega
          subst this
          omega
      exact hRow e (by rw [hSdef]; exact lsp_eq he2 (fun t ht z => by have := hall t (by omega) ht; omega) (fun _ => ⟨hlt, by omega⟩)) hlt he2 (by rw [hspr]; omega)
    · omega
    · by_cases c : t = e
      · rw [c, hsme]; omega
      · exact hall t a (by omega)
theorem ML_out (hA : qInj A) (hw : WF0 D) {p p' : Nat} {σ' : qS} (hp' : p < np D) (hp2 : p' < np D) (hne : p ≠ p') (hc : qMc A noI (pgSA D p') σ σ') (h : ML A D σ p) : ML A D σ' p := by
  have h1 := hom hw hp'
  have h2 := hom hw hp2
  have hqn : ∀ q q', q ∈ row D p → q' ∈ row D p' → q ≠ q' := fun q q' a b z => by
    have e1 := (h1 q a).1
    have e2 := (h2 q' b).1
    rw [z] at e1; omega
  refine ⟨?_, fun q hq => ?_⟩
  · rw [qMc_at hA hc (by
      rintro (z | ⟨-, z⟩ | ⟨q, -, z | z⟩) <;> omega)]
    exact h.1
  · obtain ⟨k1, k2, k3⟩ := h.2 q hq
    have h60 : ∀ x : Int, 5 * (q : Int) ≤ x → x < 5 * (q : Int) + 5 → ¬ pgSA D p' 60 x := by
      rintro x x0 x1 (z | ⟨z, -⟩ | ⟨q', hq', z | z⟩)
      · omega
      · omega
      · exact hqn q q' hq hq' (by omega)
      · omega
    refine ⟨by rw [qMc_at hA hc (h60 _ (by omega) (by omega))]; exact k1, MBox_c hA hc (fun x x0 x1 => h60 x (by omega) (by omega)) k2, fun b hb => MBox_c hA hc (fun x x0 x1 z => ?_) (k3 b hb)⟩
    rcases z with z | ⟨z, -⟩ | ⟨q', hq', z | ⟨-, b', hb', z⟩⟩
    · omega
    · omega
    · omega
    · have hbb : b = b' := by omega
      have e1 := (h1 q hq).2 b hb
      have e2 := (h2 q' hq').2 b' hb'
      rw [hbb] at e1
      exact hqn q q' hq hq' (by omega)
theorem allSA_hi {t : Nat} {i : Int} (h : allSA D t i) : 60 ≤ t ∧ t ≤ 63 := by
  obtain ⟨p, -, z⟩ := h
  exact pgSA_hi z
theorem spec_laysAll (hl : l.stackTraces = false) (hA : qInj A) (h : MB A D σ) (hw : WF0 D) (hnp : gI σ 321 (A 30 0) = np D) :
    qMet g l M_X8_laysAll [vr (A 30 0)] σ (qTi0 (fun σ' v => qMc A noI (allSA D) σ σ' ∧ v = cif (∀ p, p < np D → OKp D p) 1 0 ∧ ∀ p, p < np D → OKp D p → ML A D σ' p)) := by
  have hn := hw.1.1
  have h01 : ∀ P : Prop, (cif P 1 0 : Int) = 0 ∨ (cif P 1 0 : Int) = 1 := fun P => by unfold cif; split <;> omega
  refine wm_X8_laysAll hl ⟨fun n x1 x2 σ1 => ∃ k : Nat, x2 = k ∧ k ≤ np D ∧ n = np D - k ∧ qMc A noI (allSA D) σ σ1 ∧ x1 = cif (∀ p, p < k → OKp D p) 1 0 ∧ ∀ p, p < k → OKp D p → ML A D σ1 p, ⟨_, 0, rfl, Nat.zero_le _, rfl, qMc_rf, by rw [cif_pos (fun p z => absurd z (Nat.not_lt_zero _))], fun p z => absurd z (Nat.not_lt_zero _)⟩, ?_⟩
  rintro n x1 x2 σ1 ⟨k, rfl, hk, rfl, hc1, rfl, hall⟩
  have hB1 : MB A D σ1 := MB_c hA hc1 (fun t i t1 t2 z => by have := allSA_hi z; omega) h
  have h321 : gI σ1 321 (A 30 0) = np D := by rw [qMc_f hc1 (fun z => z)]; exact hnp
  rw [h321]
  refine ⟨hB1.1.1, by unfold qR; omega, by unfold qR; omega, fun hd => ⟨h01 _, _, rfl, hc1, ?_, ?_⟩, fun hd => ?_⟩
  · rw [show k = np D by omega]
  · rw [show np D = k by omega]; exact hall
  · have hkn : k < np D := by omega
    refine ⟨_, spec_mlaysPage hl hA hB1 hw hkn, fun σ2 v2 h2 => ?_⟩
    obtain ⟨hc2, hres⟩ := h2
    have hc02 : qMc A noI (allSA D) σ σ2 := qMc_trm hc1 hc2 (fun _ z => z) (fun t i z => ⟨k, hkn, z⟩)
    have hv2 : v2 = cif (OKp D k) 1 0 := by
      rcases hres with ⟨z, hok, -⟩ | ⟨z, hok⟩
      · rw [cif_pos hok, z]
      · rw [cif_neg hok, z]
    refine ⟨⟨by rcases h01 (OKp D k) with z | z <;> (rw [hv2, z]; unfold qR; omega), fun _ => by rcases h01 (∀ p, p < k → OKp D p) with z | z <;> (rw [z]; unfold qR; omega)⟩, fun v27 h27 x33 h33 => ⟨_, ?_, k + 1, by omega, by omega, rfl, hc02, ?_, fun p hpk hok => ?_⟩⟩
    · omega
    · rw [h27, hv2]
      by_cases c : OKp D k
      · rw [cif_pos c, if_neg (by decide)]
        by_cases d : ∀ p, p < k → OKp D p
        · rw [cif_pos d, if_neg (by decide), cif_pos]
          intro p hpk
          by_cases e : p = k
          · rw [e]; exact c
          · exact d p (by omega)
        · rw [cif_neg d, if_pos rfl, cif_neg (fun z => d (fun p hpk => z p (by omega)))]
      · rw [cif_neg c, if_pos rfl, cif_neg (fun z => c (z k (by omega)))]
    · by_cases e : p = k
      · subst e
        rcases hres with ⟨-, -, z⟩ | ⟨-, z⟩
        · exact z
        · exact absurd hok z
      · exact ML_out hA hw (by omega) hkn e hc2 (hall p (by omega) hok)
end
