/-! the model: questions -/
def mI : Nat → Prop := fun _ => True
def mA : Nat → Int → Prop := fun t _ => 40 ≤ t
def m320 : Nat → Prop := fun f => f = 320
def mOut (A : Nat → Nat → Nat) (s : qS) (c : Nat → Int) (o : Int ⊕ Nat) (v : Int) : Prop := match o with | .inl w => v = w ∧ gI s 320 (A 30 0) = 0 | .inr n => gI s 320 (A 30 0) = c n
/-- what a call of the model leaves and answers -/
def qMP (A : Nat → Nat → Nat) (D' : qD) (σ : qS) (c : Nat → Int) (o : Int ⊕ Nat) : qS → Int → Prop := fun σ' v => MR A D' σ' ∧ qMc A mI mA σ σ' ∧ mOut A σ' c o v
/-- exceptions' numbers as the model tells them -/
def c3 : Nat → Int := fun n => if n = 2 then 1 else if n = 1 then 2 else 3
def c2 : Nat → Int := fun n => if n = 2 then 1 else 2
def c1 : Nat → Int := fun n => if n = 1 then 1 else 2
def c0 : Nat → Int := fun _ => 1
section
variable {g : qG} {l : Launch} {A : Nat → Nat → Nat} {D : qD} {σ σ' : qS} {c : Nat → Int}
theorem MR_q (hA : qInj A) (hc : qMc A m320 noA σ σ') (h : MR A D σ) : MR A D σ' := by
  have n1 : ∀ f, f ≠ 320 → ¬ m320 f := fun f hf z => hf z
  obtain ⟨h1, h2, h3, h4, h5, h6⟩ := h
  exact ⟨MB_c hA hc (fun _ _ _ _ z => z) h1, MSc_c hc (fun f f1 f2 => n1 f (by omega)) h2, MRd_c hA hc ⟨n1 _ (by decide), n1 _ (by decide)⟩ (fun _ z => z) h3, MZ_c hA hc (fun _ _ z => z) h4, fun p hp' => ML_c hA hc (fun _ _ _ _ z => z) (h5 p hp'), fun q hq hg i i0 i1 => by rw [qMc_at hA hc (fun z => z)]; exact h6 q hq hg i i0 i1⟩
theorem MR_t (hA : qInj A) {z : Int} (h : MR A D σ) (hs : σ' = sI σ 320 (A 30 0) z) : MR A D σ' ∧ qMc A m320 noA σ σ' ∧ gI σ' 320 (A 30 0) = z := by
  have hc : qMc A m320 noA σ σ' := by rw [hs]; exact qMc_I rfl
  exact ⟨MR_q hA hc h, hc, by rw [hs]; exact gI_eq⟩
theorem qMP_q (hA : qInj A) {o : Int ⊕ Nat} {v : Int} (h : MR A D σ) (hc : qMc A m320 noA σ σ') (ho : mOut A σ' c o v) : qMP A D σ c o σ' v := ⟨MR_q hA hc h, qMc_mono hc (fun _ _ => trivial) (fun _ _ z => z.elim), ho⟩
theorem cifQ {P : Prop} : qR (cif P 1 0) := by unfold cif; split <;> (unfold qR; omega)
theorem cif0 {P : Prop} (h : (cif P 1 0 : Int) = 0) : ¬ P := fun z => by rw [cif_pos z] at h; exact absurd h (by decide)
theorem cif1 {P : Prop} (h : ¬ (cif P 1 0 : Int) = 0) : P := by
  by_cases z : P
  · exact z
  · rw [cif_neg z] at h; exact absurd rfl h
theorem spec_thrown (hl : l.stackTraces = false) (h : MS A σ) : qMet g l M_X8_thrown [vr (A 30 0)] σ (qPi σ (gI σ 320 (A 30 0))) := wm_X8_thrown hl ⟨h.1, rfl, rfl⟩
theorem spec_mpages (hl : l.stackTraces = false) (hA : qInj A) (h : MR A D σ) : qMet g l M_X8_pages [vr (A 30 0)] σ (qTi0 (qMP A D σ c (.inl (np D)))) := by
  refine wm_X8_pages hl ⟨h.1.1.1, fun σ2 h2 => ⟨_, rfl, ?_⟩⟩
  obtain ⟨m1, m2, m3⟩ := MR_t hA h h2
  exact qMP_q hA h m2 ⟨m1.2.1.1, m3⟩
theorem spec_mhere (hl : l.stackTraces = false) (hA : qInj A) (h : MR A D σ) : qMet g l M_X8_here [vr (A 30 0)] σ (qTi0 (qMP A D σ c (.inl (he D)))) := by
  refine wm_X8_here hl ⟨h.1.1.1, fun σ2 h2 => ⟨_, rfl, ?_⟩⟩
  obtain ⟨m1, m2, m3⟩ := MR_t hA h h2
  exact qMP_q hA h m2 ⟨m1.2.2.1.1, m3⟩
/-- a call that fails -/
theorem fails_q (hl : l.stackTraces = false) (hA : qInj A) {σ2 : qS} (h : MR A D σ) (hc : qMc A m320 noA σ σ2) {z : Int} {n : Nat} (hz : z = c n) : qMet g l M_X8_fails [vr (A 30 0), vi z] σ2 (qTi0 (fun σ' v => qMP A D σ c (.inr n) σ' v)) := by
  refine wm_X8_fails hl ⟨by rw [hc.1]; exact h.1.1.1, fun σ3 h3 => ⟨0, rfl, ?_⟩⟩
  refine qMP_q hA h (qMc_tr hc (by rw [h3]; exact qMc_I rfl)) ?_
  show gI σ3 320 (A 30 0) = c n
  rw [h3, gI_eq, hz]
theorem spec_mrows (hl : l.stackTraces = false) (hA : qInj A) (h : MR A D σ) (hw : WF0 D) {p : Int} (hp' : qR p) : qMet g l M_X8_rows [vr (A 30 0), vi p] σ (qTi0 (qMP A D σ c2 (o_rows D p))) := by
  have hn := hw.1.1
  unfold o_rows
  refine wm_X8_rows hl ⟨h.1.1.1, fun σ2 h2 => ?_⟩
  obtain ⟨m1, m2, m3⟩ := MR_t hA h h2
  refine ⟨_, spec_isPage hl m1.1.1 m1.2.1 hw hp', cifQ, fun hz => ⟨_, fails_q hl hA (c := c2) (n := 2) h m2 rfl, fun σ3 v3 h3 => ⟨v3, rfl, ?_⟩⟩, fun hz => ?_⟩
  · rw [cif_neg (cif0 hz)]; exact h3
  · have hok := cif1 hz
    obtain ⟨a1, a2, a3⟩ := m343 m1.1.1
    have hok2 : 0 ≤ p ∧ p < np D := hok
    rw [cif_pos hok, a1]
    refine ⟨q_isA0 a2, ⟨hok.1, by rw [a3]; omega⟩, _, rfl, qMP_q hA h m2 ⟨?_, m3⟩⟩
    have := (m1.2.2.2.2.1 p.toNat (by omega)).1
    rwa [Int.toNat_of_nonneg hok.1] at this
theorem mcount (h : MR A D σ) {p : Int} (hok : pgOk D p) (hn : np D ≤ 10) : gA σ (A 45 0) p = pn D p.toNat := by
  have := (h.1.2.1.1 p.toNat (by have := hok.2; have := hok.1; omega)).2.1
  rwa [Int.toNat_of_nonneg hok.1] at this
theorem spec_mpanels (hl : l.stackTraces = false) (hA : qInj A) (h : MR A D σ) (hw : WF0 D) {p : Int} (hp' : qR p) : qMet g l M_X8_panels [vr (A 30 0), vi p] σ (qTi0 (qMP A D σ c2 (o_panels D p))) := by
  have hn := hw.1.1
  unfold o_panels
  refine wm_X8_panels hl ⟨h.1.1.1, fun σ2 h2 => ?_⟩
  obtain ⟨m1, m2, m3⟩ := MR_t hA h h2
  refine ⟨_, spec_isPage hl m1.1.1 m1.2.1 hw hp', cifQ, fun hz => ⟨_, fails_q hl hA (c := c2) (n := 2) h m2 rfl, fun σ3 v3 h3 => ⟨v3, rfl, ?_⟩⟩, fun hz => ?_⟩
  · rw [cif_neg (cif0 hz)]; exact h3
  · have hok := cif1 hz
    obtain ⟨a1, a2, a3⟩ := m325 m1.1.1
    have hok2 : 0 ≤ p ∧ p < np D := hok
    rw [cif_pos hok, a1]
    exact ⟨q_isA0 a2, ⟨hok.1, by rw [a3]; omega⟩, _, rfl, qMP_q hA h m2 ⟨mcount m1 hok hn, m3⟩⟩
theorem spec_mpanelAt (hl : l.stackTraces = false) (hA : qInj A) (h : MR A D σ) (hw : WF0 D) {p i : Int} (hp' : qR p) (hi : qR i) : qMet g l M_X8_panelAt [vr (A 30 0), vi p, vi i] σ (qTi0 (qMP A D σ c2 (o_panelAt D p i))) := by
  have hn := hw.1.1
  unfold o_panelAt
  refine wm_X8_panelAt hl ⟨h.1.1.1, fun σ2 h2 => ?_⟩
  obtain ⟨m1, m2, m3⟩ := MR_t hA h h2
  refine ⟨_, spec_isPage hl m1.1.1 m1.2.1 hw hp', cifQ, fun hz => ⟨_, fails_q hl hA (c := c2) (n := 2) h m2 rfl, fun σ3 v3 h3 => ⟨v3, rfl, ?_⟩⟩, fun hz => ?_⟩
  · rw [cif_neg (fun z => cif0 hz z.1)]; exact h3
  · have hok := cif1 hz
    obtain ⟨a1, a2, a3⟩ := m325 m1.1.1
    obtain ⟨b1, b2, b3⟩ := m326 m1.1.1
    have hok2 : 0 ≤ p ∧ p < np D := hok
    have h8 := (hw.2.1 p.toNat (by omega)).2.2.1
    rw [a1, mcount m1 hok hn, b1]
    refine ⟨q_isA0 a2, ⟨hok.1, by rw [a3]; omega⟩, _, spec_in hl hi (by unfold qR; omega) (by unfold qR; omega), by split <;> (unfold qR; omega), fun hz2 => ⟨_, fails_q hl hA (c := c2) (n := 2) h m2 rfl, fun σ3 v3 h3 => ⟨v3, rfl, ?_⟩⟩, fun hz2 => ?_⟩
    · rw [cif_neg (fun z => by rw [if_pos (by omega)] at hz2; exact absurd hz2 (by decide))]; exact h3
    · have hin : 0 ≤ i ∧ i ≤ (pn D p.toNat : Int) - 1 := by
        by_cases e : 0 ≤ i ∧ i ≤ (pn D p.toNat : Int) - 1
        · exact e
        · rw [if_neg e] at hz2; exact absurd rfl hz2
      rw [cif_pos ⟨hok, hin.1, by omega⟩]
      refine ⟨q_isA0 b2, ⟨by omega, by rw [b3]; omega⟩, _, rfl, qMP_q hA h m2 ⟨?_, m3⟩⟩
      have := (m1.1.2.1.1 p.toNat (by omega)).2.2 i.toNat (by omega)
      rw [Int.toNat_of_nonneg hok.1, Int.toNat_of_nonneg hin.1] at this
      exact this
theorem ML_al (h : MR A D σ) (hw : WF0 D) {q : Nat} (hq : alP D q) : gA σ (A 60 0) (5 * (q : Int)) = kq D q ∧ MBox A σ 60 (5 * (q : Int) + 1) (LB D q) ∧ ∀ b, b ∈ hs D q → MBox A σ 61 (4 * (b : Int)) (FB D b) := by
  obtain ⟨a, b⟩ := alP_home hw hq
  exact (h.2.2.2.2.1 _ a).2 q b
theorem spec_mlies (hl : l.stackTraces = false) (hA : qInj A) (h : MR A D σ) (hw : WF0 D) {q w : Int} (hq : qR q) (hww : qR w) : qMet g l M_X8_lies [vr (A 30 0), vi q, vi w] σ (qTi0 (qMP A D σ c2 (o_lies D q w))) := by
  have hn := hw.1.2.1
  unfold o_lies
  refine wm_X8_lies hl ⟨h.1.1.1, _, spec_isPanel hl h.1 h.2.1 hw hq, cifQ, fun hz => ?_, fun hz σ2 h2 => ?_⟩
  · have hok := cif1 hz
    have hok2 := hok.2.1
    have hok1 := hok.1
    rw [cif_neg (fun z => z hok)]
    refine ⟨_, spec_in hl hww (by unfold qR; omega) (by unfold qR; omega), by split <;> (unfold qR; omega), fun v10 h10 σ2 h2 => ?_⟩
    obtain ⟨m1, m2, m3⟩ := MR_t hA h h2
    obtain ⟨a1, a2, a3⟩ := m340 m1.1.1
    rw [a1]
    by_cases e : 0 ≤ w ∧ w ≤ 4
    · rw [if_pos e, if_neg (by decide)] at h10
      rw [cif_pos e]
      refine ⟨fun _ => ⟨q_isA0 a2, ⟨by omega, by rw [a3]; omega⟩⟩, fun v20 h20 => ⟨_, rfl, qMP_q hA h m2 ⟨?_, by rw [m3, h10]⟩⟩⟩
      rw [h20, if_pos (by omega)]
      obtain ⟨k1, ⟨k2, k3, k4, k5⟩, -⟩ := ML_al m1 hw hok.2
      rw [Int.toNat_of_nonneg hok.1] at k1 k2 k3 k4 k5
      unfold bxV
      by_cases w0 : w = 0
      · rw [if_pos w0, w0, Int.add_zero]; exact k1
      by_cases w1 : w = 1
      · rw [if_neg w0, if_pos w1, w1]; exact k2
      by_cases w2 : w = 2
      · rw [if_neg w0, if_neg w1, if_pos w2, w2, show 5 * q + 2 = 5 * q + 1 + 1 by omega]; exact k3
      by_cases w3 : w = 3
      · rw [if_neg w0, if_neg w1, if_neg w2, if_pos w3, w3, show 5 * q + 3 = 5 * q + 1 + 2 by omega]; exact k4
      · rw [if_neg w0, if_neg w1, if_neg w2, if_neg w3, show w = 4 by omega, show 5 * q + 4 = 5 * q + 1 + 3 by omega]; exact k5
    · rw [if_neg e, if_pos rfl] at h10
      rw [cif_neg e]
      refine ⟨fun z => by omega, fun v20 h20 => ⟨_, rfl, qMP_q hA h m2 ?_⟩⟩
      show gI σ2 320 (A 30 0) = c2 1
      rw [m3, h10]; rfl
  · obtain ⟨m1, m2, m3⟩ := MR_t hA h h2
    rw [cif_pos (cif0 hz)]
    exact ⟨_, rfl, qMP_q hA h m2 m3⟩
theorem spec_mfloats (hl : l.stackTraces = false) (hA : qInj A) (h : MR A D σ) (hw : WF0 D) {b w : Int} (hq : qR b) (hww : qR w) : qMet g l M_X8_floats [vr (A 30 0), vi b, vi w] σ (qTi0 (qMP A D σ c2 (o_floats D b w))) := by
  have hn := hw.1
  unfold o_floats
  refine wm_X8_floats hl ⟨h.1.1.1, _, spec_isBalloon hl h.1 h.2.1 hw hq, cifQ, fun hz => ?_, fun hz σ2 h2 => ?_⟩
  · have hok := cif1 hz
    have hok2 := hok.2.1
    have hok1 := hok.1
    rw [cif_neg (fun z => z hok)]
    refine ⟨_, spec_in hl hww (by unfold qR; omega) (by unfold qR; omega), by split <;> (unfold qR; omega), fun v10 h10 σ2 h2 => ?_⟩
    obtain ⟨m1, m2, m3⟩ := MR_t hA h h2
    obtain ⟨a1, a2, a3⟩ := m341 m1.1.1
    obtain ⟨b1, b2, b3⟩ := m337 m1.1.1
    rw [a1, b1]
    by_cases e : 0 ≤ w ∧ w ≤ 4
    · rw [if_pos e, if_neg (by decide)] at h10
      rw [cif_pos e]
      refine ⟨fun _ => ⟨hww, fun w0 => ⟨q_isA0 a2, ⟨by omega, by rw [a3]; omega⟩⟩, fun w0 => ⟨q_isA0 b2, ⟨by omega, by rw [b3]; omega⟩⟩⟩, fun v24 h24 => ⟨_, rfl, qMP_q hA h m2 ⟨?_, by rw [m3, h10]⟩⟩⟩
      rw [h24, if_pos (by omega)]
      obtain ⟨hal, hm⟩ := alB_home hw hok.2
      obtain ⟨k2, k3, k4, k5⟩ := (ML_al m1 hw hal).2.2 _ hm
      rw [Int.toNat_of_nonneg hok.1] at k2 k3 k4 k5
      unfold bxV
      by_cases w0 : w = 0
      · rw [if_neg (fun z => z w0), if_pos w0]
        have := m1.1.2.1.2.2.2 b.toNat hok.2.1
        rw [Int.toNat_of_nonneg hok.1, pnv_al hok.2] at this
        exact this
      rw [if_pos w0, if_neg w0]
      by_cases w1 : w = 1
      · rw [if_pos w1, w1, show 4 * b + 1 - 1 = 4 * b by omega]; exact k2
      by_cases w2 : w = 2
      · rw [if_neg w1, if_pos w2, w2, show 4 * b + 2 - 1 = 4 * b + 1 by omega]; exact k3
      by_cases w3 : w = 3
      · rw [if_neg w1, if_neg w2, if_pos w3, w3, show 4 * b + 3 - 1 = 4 * b + 2 by omega]; exact k4
      · rw [if_neg w1, if_neg w2, if_neg w3, show w = 4 by omega, show 4 * b + 4 - 1 = 4 * b + 3 by omega]; exact k5
    · rw [if_neg e, if_pos rfl] at h10
      rw [cif_neg e]
      refine ⟨fun z => by omega, fun v20 h20 => ⟨_, rfl, qMP_q hA h m2 ?_⟩⟩
      show gI σ2 320 (A 30 0) = c2 1
      rw [m3, h10]; rfl
  · obtain ⟨m1, m2, m3⟩ := MR_t hA h h2
    rw [cif_pos (cif0 hz)]
    exact ⟨_, rfl, qMP_q hA h m2 m3⟩
theorem spec_mballoons (hl : l.stackTraces = false) (hA : qInj A) (h : MR A D σ) (hw : WF0 D) : qMet g l M_X8_balloons [vr (A 30 0)] σ (qTi0 (qMP A D σ c (.inl (o_balloons D)))) := by
  have hn := hw.1
  refine wm_X8_balloons hl ⟨h.1.1.1, fun σ2 h2 => ?_⟩
  obtain ⟨m1, m2, m3⟩ := MR_t hA h h2
  obtain ⟨a1, a2, a3⟩ := m337 m1.1.1
  refine ⟨fun n x4 x5 => ∃ k : Nat, x5 = k ∧ k ≤ nb D ∧ n = nb D - k ∧ x4 = ct (fun b => gb D b = 0) k, ⟨_, 0, rfl, Nat.zero_le _, rfl, rfl⟩, ?_⟩
  rintro n x4 x5 ⟨k, rfl, hk, rfl, rfl⟩
  rw [m1.2.1.2.2, a1]
  refine ⟨by unfold qR; omega, by unfold qR; omega, fun hd => ⟨_, rfl, qMP_q hA h m2 ⟨?_, m3⟩⟩, fun hd => ?_⟩
  · unfold o_balloons
    rw [show k = nb D by omega]
  have hkn : k < nb D := by omega
  rw [show gA σ2 (A 57 0) (k : Int) = pnv D k from m1.1.2.1.2.2.2 k hkn]
  refine ⟨q_isA0 a2, ⟨by omega, by rw [a3]; omega⟩, pnv_Q hw hkn, fun v19 h19 x25 h25 x27 h27 => ⟨_, ?_, k + 1, by omega, by omega, rfl, ?_⟩⟩
  · omega
  · rw [ct_s, h25, h19]
    by_cases e : gb D k = 0
    · rw [if_pos e, if_pos (fun z => pnv_ne.mp z e)]
    · rw [if_neg e, if_neg (fun z => z (pnv_ne.mpr e))]
theorem spec_mplaceOf (hl : l.stackTraces = false) (hA : qInj A) (h : MR A D σ) (hw : WF0 D) {b : Int} (hb' : qR b) : qMet g l M_X8_placeOf [vr (A 30 0), vi b] σ (qTi0 (qMP A D σ c2 (o_placeOf D b))) := by
  unfold o_placeOf
  refine wm_X8_placeOf hl ⟨h.1.1.1, fun σ2 h2 => ?_⟩
  obtain ⟨m1, m2, m3⟩ := MR_t hA h h2
  refine ⟨_, spec_isBalloon hl m1.1 m1.2.1 hw hb', cifQ, fun hz => ⟨_, fails_q hl hA (c := c2) (n := 2) h m2 rfl, fun σ3 v3 h3 => ⟨v3, rfl, ?_⟩⟩, fun hz => ?_⟩
  · rw [cif_neg (cif0 hz)]; exact h3
  · have hok := cif1 hz
    rw [cif_pos hok]
    have := spec_mbefore (g := g) hl m1.1 hw m1.2.1.2.2 hok.2
    rw [Int.toNat_of_nonneg hok.1] at this
    exact ⟨_, this, _, rfl, qMP_q hA h m2 ⟨rfl, m3⟩⟩
theorem spec_mplaceByPairs (hl : l.stackTraces = false) (hA : qInj A) (h : MR A D σ) (hw : WF0 D) {b : Int} (hb' : qR b) : qMet g l M_X8_placeByPairs [vr (A 30 0), vi b] σ (qTi0 (qMP A D σ c2 (o_placeOf D b))) :=
  wm_X8_placeByPairs hl ⟨h.1.1.1, _, spec_mplaceOf hl hA h hw hb', fun σ2 v2 h2 => ⟨v2, rfl, h2⟩⟩
theorem spec_mread (hl : l.stackTraces = false) (hA : qInj A) (h : MR A D σ) (hw : WF0 D) {p : Int} (hp' : qR p) : qMet g l M_X8_read [vr (A 30 0), vi p] σ (qTi0 (qMP A D σ c2 (o_read D p))) := by
  have hn := hw.1
  obtain ⟨a1, a2, a3⟩ := m337 h.1.1
  unfold o_read
  have hx : ∀ v, RB D p v → rda D p = v := fun v hv => tho_eq hv (fun v' hv' => RB_u hw hv hv')
  have hcb : ∀ K, 0 ≤ cntB D K ∧ cntB D K ≤ nb D := by
    intro K
    unfold cntB
    have : ∀ m, 0 ≤ ct (fun b => gb D b = 0 ∧ ky D b < K) m ∧ ct (fun b => gb D b = 0 ∧ ky D b < K) m ≤ m := by
      intro m
      induction m with
      | zero => exact ⟨Int.le_refl _, Int.le_refl _⟩
      | succ m ih =>
        rw [ct_s]
        split <;> omega
    exact this _
  refine wm_X8_read hl ⟨fun n x1 x2 => ∃ k : Nat, x2 = k ∧ k ≤ nb D ∧ n = nb D - k ∧ ((x1 = -1 ∧ ∀ b, b < k → gb D b = 0 → cntB D (ky D b) ≠ p) ∨ (0 ≤ x1 ∧ alB D x1.toNat ∧ cntB D (ky D x1.toNat) = p)), ⟨_, 0, rfl, Nat.zero_le _, rfl, Or.inl ⟨rfl, fun b z => absurd z (Nat.not_lt_zero _)⟩⟩, ?_⟩
  rintro n x1 x2 ⟨k, rfl, hk, rfl, hor⟩
  have hx1 : qR x1 := by
    rcases hor with ⟨z, -⟩ | ⟨z, z2, -⟩
    · rw [z]; unfold qR; omega
    · have := z2.1; unfold qR; omega
  rw [h.2.1.2.2, a1]
  refine ⟨h.1.1.1, by unfold qR; omega, by unfold qR; omega, fun hd => ⟨hx1, fun v15 h15 σ2 h2 v24 h24 => ?_⟩, fun hd => ?_⟩
  · have hke : k = nb D := by omega
    subst hke
    obtain ⟨m1, m2, m3⟩ := MR_t hA h h2
    have hrd : rda D p = x1 := by
      rw [hx x1]
      rcases hor with ⟨z, z2⟩ | ⟨z, z2, z3⟩
      · exact Or.inl ⟨z, fun b hb' => z2 b hb'.1 hb'.2⟩
      · exact Or.inr ⟨z, z2, z3⟩
    rw [hrd]
    rcases hor with ⟨z, z2⟩ | ⟨z, z2, z3⟩
    · rw [if_neg (fun y => y z)] at h15
      rw [cif_neg (fun y => y.2 z)]
      exact ⟨_, rfl, qMP_q hA h m2 (by show _ = c2 2; rw [m3, h15]; rfl)⟩
    · rw [if_pos (show ¬ x1 = -1 by omega)] at h15
      have := hcb (ky D x1.toNat)
      rw [cif_pos ⟨by omega, by omega⟩]
      exact ⟨_, rfl, qMP_q hA h m2 ⟨by rw [h24, if_pos (by omega)], by rw [m3, h15]⟩⟩
  have hkn : k < nb D := by omega
  rw [show gA σ (A 57 0) (k : Int) = pnv D k from h.1.2.1.2.2.2 k hkn]
  refine ⟨q_isA0 a2, ⟨by omega, by rw [a3]; omega⟩, pnv_Q hw hkn, fun hg x35 h35 => ⟨_, ?_, k + 1, by omega, by omega, rfl, ?_⟩, fun hg => ?_⟩
  · omega
  · rcases hor with ⟨z, z2⟩ | z
    · refine Or.inl ⟨z, fun b hb1 hb2 => ?_⟩
      by_cases e : b = k
      · rw [e] at hb2; exact absurd hb2 (pnv_ne.mp hg)
      · exact z2 b (by omega) hb2
    · exact Or.inr z
  · have hg0 : gb D k = 0 := by
      by_cases e : gb D k = 0
      · exact e
      · exact absurd (pnv_ne.mpr e) hg
    have := hcb (ky D k)
    refine ⟨_, spec_mbefore hl h.1 hw h.2.1.2.2 ⟨hkn, hg0⟩, ⟨by unfold qR; omega, hp'⟩, fun v43 h43 x47 h47 => ⟨_, ?_, k + 1, by omega, by omega, rfl, ?_⟩⟩
    · omega
    · rw [h43]
      by_cases e : cntB D (ky D k) = p
      · rw [if_neg (fun z => z e)]
        exact Or.inr ⟨by omega, by rw [Int.toNat_natCast]; exact ⟨hkn, hg0⟩, by rw [Int.toNat_natCast]; exact e⟩
      · rw [if_pos e]
        rcases hor with ⟨z, z2⟩ | z
        · refine Or.inl ⟨z, fun b hb1 hb2 => ?_⟩
          by_cases f : b = k
          · rw [f]; exact e
          · exact z2 b (by omega) hb2
        · exact Or.inr z
end
