/-! the model: changes -/
def modI : Nat → Prop := fun f => 320 ≤ f ∧ f ≤ 323
def modA : Nat → Int → Prop := fun t _ => (44 ≤ t ∧ t ≤ 59) ∨ (64 ≤ t ∧ t ≤ 73)
def rawB (A : Nat → Nat → Nat) (σ : qS) (t : Nat) (i : Int) : Bx := (gA σ (A t 0) i, gA σ (A t 0) (i + 1), gA σ (A t 0) (i + 2), gA σ (A t 0) (i + 3))
section
variable {g : qG} {l : Launch} {A : Nat → Nat → Nat} {D D1 : qD} {σ σ0 σ1 σ' : qS} {c : Nat → Int}
theorem rawB_eq {t : Nat} {i : Int} {b : Bx} (h : MBox A σ t i b) : rawB A σ t i = b := Prod.ext h.1 (Prod.ext h.2.1 (Prod.ext h.2.2.1 h.2.2.2))
theorem MR_kept (hA : qInj A) (hw : WF0 D) (h : MR A D σ) (hc : cpI A cpK σ σ') : MR A D σ' ∧ qMc A noI (fun t _ => 64 ≤ t ∧ t ≤ 73) σ σ' ∧ MA1 A told D σ' ∧ ∀ i, 0 ≤ i → i < 250 → gA σ' (A 73 0) i = gA σ (A 60 0) i := by
  have hc' : qMc A noI (fun t _ => 64 ≤ t ∧ t ≤ 73) σ σ' := qMc_mono hc.1 (fun _ z => z) (fun t i z => by
    have : ∀ t ∈ cpK.map (fun u => u.1), 64 ≤ t ∧ t ≤ 73 := by decide
    exact this t z)
  obtain ⟨h1, h2, h3, h4, h5, h6⟩ := h
  refine ⟨⟨MB_c hA hc' (fun t i t1 t2 z => by omega) h1, MSc_c hc' (fun _ _ _ z => z) h2, MRd_c hA hc' ⟨fun z => z, fun z => z⟩ (fun i z => by omega) h3, MZ_c hA hc' (fun i _ z => by omega) h4, fun p hp' => ML_c hA hc' (fun t i t1 t2 z => by omega) (h5 p hp'), fun q hq hg i i0 i1 => by rw [qMc_at hA hc' (by omega)]; exact h6 q hq hg i i0 i1⟩, hc', MA1_keep hw hc h1.2.1, fun i i0 i1 => hc.2 (73, 60, 250) (by decide) i i0 i1⟩
theorem st_core (hA : qInj A) (hw1 : WF0 D1) (h0 : MR A D σ0) (hnp : np D1 = np D) (hc1 : qMc A modI modA σ0 σ1) (hsc : MSc A D1 σ1) (hst : qMc A noI (allSA D1) σ1 σ') (hgo : ∀ q : Nat, q < nq D1 → gq D1 q ≠ 0 → ∀ i : Int, 5 * (q : Int) ≤ i → i < 5 * (q : Int) + 5 → qR (gA σ0 (A 60 0) i)) :
    MSc A D1 σ' ∧ MRd A D σ' ∧ MZ A D1 σ' ∧ MGo A D1 σ' := by
  obtain ⟨h1, h2, h3, h4, h5, h6⟩ := h0
  have hA1 : ∀ t i, allSA D1 t i → 60 ≤ t ∧ t ≤ 63 := fun t i z => allSA_hi z
  refine ⟨MSc_c hst (fun _ _ _ z => z) hsc, MRd_c hA hst ⟨fun z => z, fun z => z⟩ (fun i z => by have := hA1 _ _ z; omega) (MRd_c hA hc1 ⟨fun z => by unfold modI at z; omega, fun z => by unfold modI at z; omega⟩ (fun i z => by unfold modA at z; omega) h3), fun p hp' hp2 => ?_, fun q hq hg i i0 i1 => ?_⟩
  · rw [qMc_at hA hst (by
      rintro ⟨p', hp1, z | ⟨-, z⟩ | ⟨q, -, z | z⟩⟩ <;> omega), qMc_at hA hc1 (fun z => by unfold modA at z; omega)]
    exact h4 p (by omega) hp2
  · rw [qMc_at hA hst (by
      rintro ⟨p', hp1, z | ⟨z, -⟩ | ⟨q', hq', z | z⟩⟩
      · omega
      · omega
      · have hqq : q' = q := by omega
        have := ((hw1.2.1 p' hp1).2.2.2 q' hq').1.2
        rw [hqq] at this
        exact hg this
      · omega), qMc_at hA hc1 (fun z => by unfold modA at z; omega)]
    exact hgo q hq hg i i0 i1
theorem st_no (hA : qInj A) (h0 : MR A D σ0) (hc1 : qMc A modI modA σ0 σ1) (hst : qMc A noI (stSA D1 D) σ1 σ') (hgo : ∀ q : Nat, q < nq D → gq D q ≠ 0 → ¬ alP D1 q) : MRd A D σ' ∧ MZ A D σ' ∧ MGo A D σ' := by
  obtain ⟨h1, h2, h3, h4, h5, h6⟩ := h0
  refine ⟨MRd_c hA hst ⟨fun z => z, fun z => z⟩ (fun i z => by unfold stSA at z; omega) (MRd_c hA hc1 ⟨fun z => by unfold modI at z; omega, fun z => by unfold modI at z; omega⟩ (fun i z => by unfold modA at z; omega) h3), fun p hp' hp2 => ?_, fun q hq hg i i0 i1 => ?_⟩
  · rw [qMc_at hA hst (fun z => by unfold stSA at z; omega), qMc_at hA hc1 (fun z => by unfold modA at z; omega)]
    exact h4 p hp' hp2
  · rw [qMc_at hA hst (by
      rintro (z | z | z | z | ⟨-, q', hq', z1, z2⟩)
      · omega
      · omega
      · omega
      · omega
      · have hqq : q' = q := by omega
        rw [hqq] at hq'
        rcases hq' with y | y
        · exact hgo q hq hg y
        · exact hg y.2), qMc_at hA hc1 (fun z => by unfold modA at z; omega)]
    exact h6 q hq hg i i0 i1
theorem mod_mA {SI : Nat → Prop} {SA : Nat → Int → Prop} (h : qMc A SI SA σ σ') (hS : ∀ t i, SA t i → 40 ≤ t) : qMc A mI mA σ σ' := qMc_mono h (fun _ _ => trivial) hS
theorem stSA_lo {t : Nat} {i : Int} (h : stSA D1 D t i) : 40 ≤ t := by unfold stSA at h; omega
/-- how many lie otherwise, by the books -/
theorem spec_changedLB (hl : l.stackTraces = false) (hA : qInj A) (h1 : MR A D1 σ') (h0 : MR A D σ0) (hw1 : WF D1) (hw : WF D) (hnq : nq D1 = nq D) (hgq : ∀ q, q < nq D → gq D1 q = gq D q) (h73 : ∀ i, 0 ≤ i → i < 250 → gA σ' (A 73 0) i = gA σ0 (A 60 0) i) {a : Int} (ha : qR a) :
    qMet g l M_X8_changed [vr (A 30 0), vi a] σ' (qPi σ' (ct (fun q => gq D1 q = 0 ∧ (a = -1 ∨ a = hp D1 q) ∧ LB D q ≠ LB D1 q) (nq D1))) := by
  have hn := hw.1.1.2.1
  have e1 : ∀ q, alP D1 q → rawB A σ' 60 (5 * (q : Int) + 1) = LB D1 q := fun q hq => rawB_eq (ML_al h1 hw1.1 hq).2.1
  have e0 : ∀ q, alP D q → rawB A σ0 60 (5 * (q : Int) + 1) = LB D q := fun q hq => rawB_eq (ML_al h0 hw.1 hq).2.1
  have e73 : ∀ q : Nat, q < nq D → rawB A σ' 73 (5 * (q : Int) + 1) = rawB A σ0 60 (5 * (q : Int) + 1) := fun q hq => by
    unfold rawB
    rw [h73 _ (by omega) (by omega), h73 _ (by omega) (by omega), h73 _ (by omega) (by omega), h73 _ (by omega) (by omega)]
  have q1 : ∀ q : Nat, q < nq D1 → bxQ (rawB A σ' 60 (5 * (q : Int) + 1)) := fun q hq => by
    by_cases c : gq D1 q = 0
    · rw [e1 q ⟨hq, c⟩]; exact LB_Q hw1 ⟨hq, c⟩
    · have := h1.2.2.2.2.2 q hq c
      exact ⟨this _ (by omega) (by omega), this _ (by omega) (by omega), this _ (by omega) (by omega), this _ (by omega) (by omega)⟩
  have q0 : ∀ q : Nat, q < nq D → bxQ (rawB A σ0 60 (5 * (q : Int) + 1)) := fun q hq => by
    by_cases c : gq D q = 0
    · rw [e0 q ⟨hq, c⟩]; exact LB_Q hw ⟨hq, c⟩
    · have := h0.2.2.2.2.2 q hq c
      exact ⟨this _ (by omega) (by omega), this _ (by omega) (by omega), this _ (by omega) (by omega), this _ (by omega) (by omega)⟩
  have := spec_changed (g := g) hl h1.1 hw1.1 h1.2.1.2.1 (L0 := fun q => rawB A σ' 73 (5 * (q : Int) + 1)) (L1 := fun q => rawB A σ' 60 (5 * (q : Int) + 1)) (fun q hq => ⟨⟨rfl, rfl, rfl, rfl⟩, q1 q hq⟩) (fun q hq => ⟨⟨rfl, rfl, rfl, rfl⟩, by rw [e73 q (by omega)]; exact q0 q (by omega)⟩) ha
  have hct : ct (fun q => gq D1 q = 0 ∧ (a = -1 ∨ a = hp D1 q) ∧ rawB A σ' 73 (5 * (q : Int) + 1) ≠ rawB A σ' 60 (5 * (q : Int) + 1)) (nq D1) = ct (fun q => gq D1 q = 0 ∧ (a = -1 ∨ a = hp D1 q) ∧ LB D q ≠ LB D1 q) (nq D1) := by
    refine ct_congr (fun q hq => ?_)
    by_cases c : gq D1 q = 0
    · rw [e73 q (by omega), e1 q ⟨hq, c⟩, e0 q ⟨by omega, by rw [← hgq q (by omega)]; exact c⟩]
    · exact ⟨fun z => absurd z.1 c, fun z => absurd z.1 c⟩
  rw [hct] at this
  exact this
theorem ct_pageI {p : Nat} {P : Nat → Prop} : ct (fun q => gq D1 q = 0 ∧ ((p : Int) = -1 ∨ (p : Int) = hp D1 q) ∧ P q) (nq D1) = ct (fun q => gq D1 q = 0 ∧ hp D1 q = p ∧ P q) (nq D1) :=
  ct_congr (fun q _ => ⟨fun z => ⟨z.1, by rcases z.2.1 with y | y <;> omega, z.2.2⟩, fun z => ⟨z.1, Or.inr (by omega), z.2.2⟩⟩)
theorem OK_one {p : Nat} (hw : WF D) (hnp : np D1 = np D) (hp' : p < np D) (hly : ∀ p', p' < np D → p' ≠ p → LyEq D D1 p') : (∀ p', p' < np D1 → OKp D1 p') ↔ OKp D1 p := by
  refine ⟨fun z => z p (by omega), fun z p' hp2 => ?_⟩
  by_cases c : p' = p
  · rw [c]; exact z
  · exact (LyEq_OK (WF0_Pg hw.1 (by omega)) (hly p' (by omega) c)).mpr (hw.2.1 p' (by omega))
/-- an answer -/
theorem spec_manswer (hl : l.stackTraces = false) (hA : qInj A) (h : MR A D σ) (hw : WF0 D) {b o : Int} (hb' : qR b) (ho : qR o) : qMet g l M_X8_answer [vr (A 30 0), vi b, vi o] σ (qTi0 (qMP A (d_answer D b o) σ c2 (o_answer D b o))) := by
  have hn := hw.1
  unfold o_answer d_answer
  have hbad : ∀ σ6 : qS, σ6 = sI σ 320 (A 30 0) 1 → (¬ blOk D b ∨ (o ≠ -1 ∧ ¬ blOk D o)) → qTi0 (qMP A (cif ((¬ blOk D b ∨ (o ≠ -1 ∧ ¬ blOk D o)) ∨ (o ≠ -1 ∧ ¬ ky D o.toNat < ky D b.toNat)) D (dAn D b.toNat o)) σ c2 (cif (¬ blOk D b ∨ (o ≠ -1 ∧ ¬ blOk D o)) (.inr 2) (cif (o ≠ -1 ∧ ¬ ky D o.toNat < ky D b.toNat) (.inr 0) (.inl (an D b.toNat))))) σ6 (.inl (some (vi 0))) := by
    intro σ6 h6 hno
    obtain ⟨m1, m2, m3⟩ := MR_t hA h h6
    rw [cif_pos (Or.inl hno), cif_pos hno]
    exact ⟨_, rfl, qMP_q hA h m2 m3⟩
  -- the write
  have hset : ∀ σ10 : qS, σ10 = sI σ 320 (A 30 0) 0 → blOk D b → (o = -1 ∨ blOk D o) → (o = -1 ∨ ky D o.toNat < ky D b.toNat) → q_isA σ10 0 (gP σ10 339 (A 30 0)) ∧ q_in σ10 (gP σ10 339 (A 30 0)) b ∧ ∀ x15 : Int, x15 = gA σ10 (gP σ10 339 (A 30 0)) b → gK σ10 (gP σ10 339 (A 30 0)) = 20 ∧ (∀ σ18 : qS, σ18 = sA σ10 (gP σ10 339 (A 30 0)) b o → qTi0 (qMP A (cif ((¬ blOk D b ∨ (o ≠ -1 ∧ ¬ blOk D o)) ∨ (o ≠ -1 ∧ ¬ ky D o.toNat < ky D b.toNat)) D (dAn D b.toNat o)) σ c2 (cif (¬ blOk D b ∨ (o ≠ -1 ∧ ¬ blOk D o)) (.inr 2) (cif (o ≠ -1 ∧ ¬ ky D o.toNat < ky D b.toNat) (.inr 0) (.inl (an D b.toNat))))) σ18 (.inl (some (vi x15)))) := by
    intro σ10 h10 hok hok2 hlt
    obtain ⟨m1, m2, m3⟩ := MR_t hA h h10
    obtain ⟨a1, a2, a3⟩ := m339 m1.1.1
    have hokn := hok.2.1
    have hok1 := hok.1
    rw [a1]
    refine ⟨q_isA0 a2, ⟨hok.1, by rw [a3]; omega⟩, fun x15 h15 => ⟨a2, fun σ18 h18 => ⟨_, rfl, ?_, ?_, ?_⟩⟩⟩
    · rw [cif_neg (fun z => by
        rcases z with (z | z) | z
        · exact z hok
        · exact hok2.elim z.1 z.2
        · exact hlt.elim z.1 z.2)]
      have hc : qMc A noI (fun t _ => t = 59) σ10 σ18 := by rw [h18]; exact qMc_A rfl
      obtain ⟨⟨p1, p2, p3, p4, p5⟩, p6, p7, p8, p9, p10⟩ := m1
      refine ⟨⟨MS_c hc p1, MA1_c hA hc (fun t i ht z => by unfold tid at z; omega) p2, ⟨fun p hp' => by rw [qMc_at hA hc (by decide)]; exact p3 p hp', fun q hq => ?_, fun b' hb2 => ?_⟩⟩, MSc_c hc (fun _ _ _ z => z) p6, MRd_c hA hc ⟨fun z => z, fun z => z⟩ (fun i z => by omega) p7, MZ_c hA hc (fun i _ z => by omega) p8, fun p hp' => ?_, fun q hq hg i i0 i1 => by rw [qMc_at hA hc (by decide)]; exact p10 q hq hg i i0 i1⟩
      · have := p4 q hq
        rw [qMc_at hA hc (by decide), qMc_at hA hc (by decide), qMc_at hA hc (by decide)]
        refine ⟨this.1, this.2.1, this.2.2.1, fun i hi => ?_⟩
        rw [qMc_at hA hc (by decide), qMc_at hA hc (by decide), qMc_at hA hc (by decide)]
        exact this.2.2.2 i hi
      · have := p5 b' hb2
        rw [qMc_at hA hc (by decide), an_at]
        refine ⟨this.1, ?_⟩
        rw [h18, gA_at hA]
        by_cases e : b' = b.toNat
        · rw [if_pos ⟨rfl, by omega⟩, if_pos e]
        · rw [if_neg (fun z => e (by omega)), if_neg e]
          exact this.2
      · have hh := hom hw (p := p) hp'
        exact ML_c hA hc (fun t i t1 t2 z => by omega) (ML_ly (WF0_Pg hw (p := p) hp') (p9 p hp') LyEq_an (fun q hq => ⟨(hh q hq).1, (hh q hq).1, fun b hb => ⟨(hh q hq).2 b hb, (hh q hq).2 b hb⟩⟩))
    · exact qMc_tr (mod_mA m2 (fun _ _ z => z.elim)) (by rw [h18]; exact qMc_A (show 40 ≤ 59 by decide))
    · rw [cif_neg (fun z => by
        rcases z with z | z
        · exact z hok
        · exact hok2.elim z.1 z.2), cif_neg (fun z => hlt.elim z.1 z.2)]
      refine ⟨?_, by rw [h18]; exact m3⟩
      have := (m1.1.2.2.2.2 b.toNat hokn).2
      rw [Int.toNat_of_nonneg hok.1] at this
      rw [h15]; exact this
  refine wm_X8_answer hl ⟨h.1.1.1, _, spec_isBalloon hl h.1 h.2.1 hw hb', cifQ, fun hz σ6 h6 => hbad σ6 h6 (Or.inl (cif0 hz)), fun hz => ⟨ho, fun hm1 σ10 h10 => ⟨fun _ => hset σ10 h10 (cif1 hz) (Or.inl hm1) (Or.inl hm1), fun z => absurd hm1 z⟩, fun hm1 => ⟨_, spec_isBalloon hl h.1 h.2.1 hw ho, cifQ, fun v43 h43 σ49 h49 => ⟨fun hv => ?_, fun hv => ?_⟩⟩⟩⟩
  · have hok := cif1 hz
    have hoko : blOk D o := by
      by_cases e : blOk D o
      · exact e
      · rw [cif_neg e, if_neg (fun z => z rfl)] at h43; omega
    rw [cif_pos hoko, if_pos (by decide)] at h43
    subst h43
    obtain ⟨m1, m2, m3⟩ := MR_t hA h h49
    have hbf := spec_misBefore (g := g) hl m1.1 hw hoko.2 hok.2
    rw [Int.toNat_of_nonneg hok.1, Int.toNat_of_nonneg hoko.1] at hbf
    refine ⟨fun z => absurd z hm1, fun _ => ⟨_, hbf, cifQ, fun hnz => hset σ49 h49 hok (Or.inr hoko) (Or.inr (cif1 hnz)), fun hz2 => ⟨_, fails_q hl hA (c := c2) (n := 0) h m2 rfl, fun σ3 v3 h3 => ⟨v3, rfl, ?_⟩⟩⟩⟩
    have hnl := cif0 hz2
    rw [cif_pos (Or.inr ⟨hm1, hnl⟩), cif_neg (fun z => z.elim (fun y => y hok) (fun y => y.2 hoko)), cif_pos ⟨hm1, hnl⟩]
    exact h3
  · have hno : ¬ blOk D o := fun e => by rw [cif_pos e, if_pos (by decide)] at h43; omega
    rw [cif_neg hno, if_neg (fun z => z rfl)] at h43
    subst h43
    exact hbad σ49 h49 (Or.inr ⟨hm1, hno⟩)
/-- behind stays, where the books' panels are the same -/
theorem mfin (hA : qInj A) (h : MR A D σ) (hw : WF D) (hw1 : WF0 D1) (hnp : np D1 = np D) (hnq : nq D1 = nq D) (hgq : ∀ q, q < nq D → gq D1 q = gq D q) (hrd : he D1 = he D ∧ kp D1 = kp D) (hc1 : qMc A modI modA σ σ1) (hsc : MSc A D1 σ1) (hscD : MSc A D σ1) {v : Int} (hst : stP A D1 D σ1 σ' v) :
    (v = 1 ∧ (∀ p, p < np D1 → OKp D1 p) ∧ Ans D1 ∧ WF D1 ∧ MR A D1 σ' ∧ qMc A mI mA σ σ' ∧ ∀ i, gA σ' (A 73 0) i = gA σ1 (A 73 0) i) ∨ (v = 0 ∧ ¬ ((∀ p, p < np D1 → OKp D1 p) ∧ Ans D1) ∧ MR A D σ' ∧ qMc A mI mA σ σ') := by
  obtain ⟨hs1, hs2⟩ := hst
  have hmm : qMc A mI mA σ σ' := qMc_tr (mod_mA hc1 (fun t i z => by unfold modA at z; omega)) (mod_mA hs1 (fun t i z => stSA_lo z))
  rcases hs2 with ⟨rfl, hok, hans, hB, hL, hall⟩ | ⟨rfl, hno, hB, hL⟩
  · obtain ⟨k1, k2, k3, k4⟩ := st_core hA hw1 h hnp hc1 hsc hall (fun q hq hg i i0 i1 => h.2.2.2.2.2 q (by omega) (by rw [← hgq q (by omega)]; exact hg) i i0 i1)
    refine Or.inl ⟨rfl, hok, hans, ⟨hw1, hok, hans⟩, ⟨hB, k1, ?_, k3, hL, k4⟩, hmm, fun i => qMc_at hA hall (fun z => by have := allSA_hi z; omega)⟩
    unfold MRd at k2 ⊢
    rw [hrd.1, hrd.2]
    exact k2
  · obtain ⟨k1, k2, k3⟩ := st_no hA h hc1 hs1 (fun q hq hg z => hg (by rw [← hgq q hq]; exact z.2))
    exact Or.inr ⟨rfl, hno, ⟨hB, MSc_c hs1 (fun _ _ _ z => z) hscD, k1, k2, hL, k3⟩, hmm⟩
end
