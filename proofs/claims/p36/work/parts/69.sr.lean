/-! the class: structure and what lies, apart; trying and keeping -/
def SR (A : Nat → Nat → Nat) (D : qD) (σ : qS) : Prop := BsR A D σ ∧ LyR A D σ ∧ RdR A D σ ∧ (∀ p, p < np D → PgR A D σ p ∧ gI σ 165 (A 5 p) = sp D p) ∧ (∀ q, q < nq D → PnR A D σ q ∧ gI σ 211 (A 6 q) = gq D q) ∧ ∀ b, b < nb D → BlR A D σ b ∧ gI σ 6 (A 7 b) = gb D b ∧ gP σ 5 (A 7 b) = bRef A (an D b)
def LaR (A : Nat → Nat → Nat) (D : qD) (σ : qS) (p : Nat) : Prop := gI σ 163 (A 5 p) = rowsOf D p ∧ ∀ q, q ∈ row D p → gI σ 209 (A 6 q) = kq D q ∧ BxR σ (A 13 q) (LB D q) ∧ ∀ b, b ∈ hs D q → BxR σ (A 16 b) (FB D b)
def cls (A : Nat → Nat → Nat) (x : Nat) : Prop := ∃ k i, k < 20 ∧ x = A k i
def tr2 (A : Nat → Nat → Nat) (fl x : Nat) : Prop := tr1 A fl x ∧ cls A x
def kp2 (A : Nat → Nat → Nat) (fl x : Nat) : Prop := kp1 A fl x ∧ cls A x
section
variable {g : qG} {l : Launch} {A : Nat → Nat → Nat} {D : qD} {σ : qS}
theorem CR_SR (h : CR A D σ) : SR A D σ := ⟨h.1, h.2.1, h.2.2.1, fun p hp' => ⟨(h.2.2.2.1 p hp').1, (h.2.2.2.1 p hp').2.1⟩, fun q hq => ⟨(h.2.2.2.2.1 q hq).1, (h.2.2.2.2.1 q hq).2.1⟩, fun b hb => ⟨(h.2.2.2.2.2 b hb).1, (h.2.2.2.2.2 b hb).2.1, (h.2.2.2.2.2 b hb).2.2.1⟩⟩
theorem CR_La (h : CR A D σ) (hw : WF0 D) {p : Nat} (hp' : p < np D) : LaR A D σ p := by
  refine ⟨(h.2.2.2.1 p hp').2.2, fun q hq => ?_⟩
  obtain ⟨h1, h2⟩ := (hw.2.1 p hp').2.2.2 q hq
  obtain ⟨d1, d2, d3⟩ := CR_pn h h1
  refine ⟨(d3 h1.2).1, (d3 h1.2).2, fun b hb => ?_⟩
  have := ((hw.2.2.2.2.1 q h1.1).2.2.2.2 h1.2 b hb).1
  exact (CR_bl h this).2.2.2 this.2
theorem SR_CR (h : SR A D σ) (hw : WF0 D) (hl : ∀ p, p < np D → LaR A D σ p) : CR A D σ := by
  refine ⟨h.1, h.2.1, h.2.2.1, fun p hp' => ⟨(h.2.2.2.1 p hp').1, (h.2.2.2.1 p hp').2, (hl p hp').1⟩, fun q hq => ⟨(h.2.2.2.2.1 q hq).1, (h.2.2.2.2.1 q hq).2, fun hg => ?_⟩, fun b hb => ⟨(h.2.2.2.2.2 b hb).1, (h.2.2.2.2.2 b hb).2.1, (h.2.2.2.2.2 b hb).2.2, fun hg => ?_⟩⟩
  · have hal := alP_home hw (show alP D q from ⟨hq, hg⟩)
    have := (hl _ hal.1).2 q hal.2
    exact ⟨this.1, this.2.1⟩
  · have hbl := alB_home hw (show alB D b from ⟨hb, hg⟩)
    have hal := alP_home hw hbl.1
    exact ((hl _ hal.1).2 _ hal.2).2.2 b hbl.2
theorem SR_LR (h : SR A D σ) (hw : WF0 D) {p : Nat} (hp' : p < np D) : LR A D σ p := by
  obtain ⟨c1, c2, c3, c4, c5, c6⟩ := h
  obtain ⟨w1, w2, w3, w4, w5, w6, w7, w8, w9⟩ := hw
  obtain ⟨p1, p2, p3, p4⟩ := w2 p hp'
  refine ⟨c2, (c4 p hp').1, fun q hq => ⟨(c5 q (p4 q hq).1.1).1, (p4 q hq).2, fun b hb => (c6 b ((w5 q (p4 q hq).1.1).2.2.2.2 (p4 q hq).1.2 b hb).1.1).1⟩⟩
/-- what neither trying nor keeping touches -/
def sr1 (A : Nat → Nat → Nat) (fl x : Nat) : Prop := tr1 A fl x ∨ kp1 A fl x
theorem SR_chg (hA : qInj A) {σ' : qS} (hc : qChg (sr1 A) σ σ') (h : SR A D σ) : SR A D σ' := by
  have hc0 := hc
  obtain ⟨c1, c2, c3, c4, c5, c6, c7⟩ := hc
  have i1 : ∀ f x, (f < 40 ∨ (79 < f ∧ f < 163) ∨ f = 165 ∨ (165 < f ∧ f < 209) ∨ (210 < f ∧ f < 999)) → gI σ' f x = gI σ f x := by
    intro f x hf
    refine c6 f x ?_
    unfold sr1 tr1 kp1
    omega
  obtain ⟨h1, h2, h3, h4, h5, h6⟩ := h
  refine ⟨?_, ?_, ?_, fun p hp' => ?_, fun q hq => ?_, fun b hb => ?_⟩
  · unfold BsR at h1 ⊢
    rw [c1, c2, c4]; exact h1
  · unfold LyR at h2 ⊢
    have : ∀ i, gA σ' (A 9 0) i = gA σ (A 9 0) i := c7 _ (by unfold sr1 tr1 kp1; rw [hA.1]; omega)
    simp only [c1, c3, c4, this]
    exact h2
  · unfold RdR at h3 ⊢
    rw [c1, c3, c4, c5, i1 241 _ (by omega)]; exact h3
  · obtain ⟨p1, p2⟩ := h4 p hp'
    unfold PgR
    rw [c1, c2, c4, i1 160 _ (by omega), i1 162 _ (by omega), i1 165 _ (by omega)]
    exact ⟨p1, p2⟩
  · obtain ⟨⟨a1, a2, a3, a4, a5, a6, a7, a8, a9, a10, a11, a12, a13, a14, a15, a16, a17⟩, p2⟩ := h5 q hq
    unfold PnR FcR
    rw [c1, c2, c4, i1 200 _ (by omega), i1 202 _ (by omega), i1 203 _ (by omega), i1 204 _ (by omega), i1 211 _ (by omega)]
    refine ⟨⟨a1, a2, a3, a4, a5, a6, a7, a8, a9, a10, a11, a12, a13, a14, a15, a16, fun i hi => ?_⟩, p2⟩
    rw [i1 80 _ (by omega), i1 81 _ (by omega), i1 82 _ (by omega)]
    exact a17 i hi
  · obtain ⟨p1, p2, p3⟩ := h6 b hb
    unfold BlR
    rw [c1, c4, i1 0 _ (by omega), i1 1 _ (by omega), i1 6 _ (by omega)]
    exact ⟨p1, p2, p3⟩
/-- what lies stays where the fields do -/
theorem LaR_of {σ' : qS} {D' : qD} {p : Nat} (hw : PgW D p) (h : LaR A D σ p) (hly : LyEq D D' p) (hh : ∀ q, q ∈ row D p → hp D q = p ∧ hp D' q = p ∧ ∀ b, b ∈ hs D q → hb D b = q ∧ hb D' b = q)
    (h1 : gI σ' 163 (A 5 p) = gI σ 163 (A 5 p)) (h2 : ∀ q, q ∈ row D p → gI σ' 209 (A 6 q) = gI σ 209 (A 6 q) ∧ (∀ f, 40 ≤ f → f ≤ 43 → gI σ' f (A 13 q) = gI σ f (A 13 q)) ∧ ∀ b, b ∈ hs D q → ∀ f, 40 ≤ f → f ≤ 43 → gI σ' f (A 16 b) = gI σ f (A 16 b)) : LaR A D' σ' p := by
  have bx : ∀ (x : Nat) (b : Bx), (∀ f, 40 ≤ f → f ≤ 43 → gI σ' f x = gI σ f x) → BxR σ x b → BxR σ' x b := by
    intro x b he hb
    unfold BxR at hb ⊢
    rw [he 40 (by omega) (by omega), he 41 (by omega) (by omega), he 42 (by omega) (by omega), he 43 (by omega) (by omega)]
    exact hb
  refine ⟨h1.trans (h.1.trans (by rw [LyEq_rows hly])), fun q hq => ?_⟩
  rw [hly.1] at hq
  obtain ⟨k1, k2, k3⟩ := h.2 q hq
  obtain ⟨e1, e2, e3⟩ := hh q hq
  obtain ⟨f1, f2, f3⟩ := h2 q hq
  obtain ⟨g1, g2⟩ := LyEq_LB hw hly hq e1 e2
  rw [g1, g2]
  refine ⟨f1.trans k1, bx _ _ f2 k2, fun b hb => ?_⟩
  rw [(hly.2.2.2 q hq).2.2.2.2.1] at hb
  rw [LyEq_FB hw hly hq e1 e2 (e3 b hb).1 (e3 b hb).2]
  exact bx _ _ (f3 b hb) (k3 b hb)
theorem LyEq_rf {p : Nat} : LyEq D D p := ⟨rfl, rfl, rfl, fun _ _ => ⟨rfl, rfl, rfl, rfl, rfl, fun _ _ => rfl⟩⟩
theorem hom (hw : WF0 D) {p : Nat} (hp' : p < np D) : ∀ q, q ∈ row D p → hp D q = p ∧ ∀ b, b ∈ hs D q → hb D b = q := by
  intro q hq
  obtain ⟨h1, h2⟩ := (hw.2.1 p hp').2.2.2 q hq
  exact ⟨h2, fun b hb => ((hw.2.2.2.2.1 q h1.1).2.2.2.2 h1.2 b hb).2⟩
theorem LaR_tr (hA : qInj A) {σ' : qS} {p : Nat} (hw : WF0 D) (hp' : p < np D) (h : LaR A D σ p) (hc : qChg (tr1 A) σ σ') : LaR A D σ' p := by
  have hh := hom hw hp'
  refine LaR_of (WF0_Pg hw hp') h LyEq_rf (fun q hq => ⟨(hh q hq).1, (hh q hq).1, fun b hb => ⟨(hh q hq).2 b hb, (hh q hq).2 b hb⟩⟩) (hc.2.2.2.2.2.1 163 _ (by unfold tr1; omega)) (fun q hq => ⟨hc.2.2.2.2.2.1 209 _ (by unfold tr1; omega), fun f h1 h2 => hc.2.2.2.2.2.1 f _ ?_, fun b hb f h1 h2 => hc.2.2.2.2.2.1 f _ ?_⟩)
  · unfold tr1
    rintro (z | z | z | ⟨-, -, i, z | z⟩)
    · omega
    · omega
    · omega
    · rw [hA.1] at z; omega
    · rw [hA.1] at z; omega
  · unfold tr1
    rintro (z | z | z | ⟨-, -, i, z | z⟩)
    · omega
    · omega
    · omega
    · rw [hA.1] at z; omega
    · rw [hA.1] at z; omega
theorem LaR_kp (hA : qInj A) {σ' : qS} {p p' : Nat} (hw : WF0 D) (hp' : p < np D) (hp2 : p' < np D) (hne : p' ≠ p) (h : LaR A D σ p') (hc : qChg (kpW A D p) σ σ') : LaR A D σ' p' := by
  have hh := hom hw hp'
  have hh2 := hom hw hp2
  refine LaR_of (WF0_Pg hw hp2) h LyEq_rf (fun q hq => ⟨(hh2 q hq).1, (hh2 q hq).1, fun b hb => ⟨(hh2 q hq).2 b hb, (hh2 q hq).2 b hb⟩⟩) (hc.2.2.2.2.2.1 163 _ ?_) (fun q hq => ⟨hc.2.2.2.2.2.1 209 _ ?_, fun f h1 h2 => hc.2.2.2.2.2.1 f _ ?_, fun b hb f h1 h2 => hc.2.2.2.2.2.1 f _ ?_⟩)
  · rintro (⟨-, z⟩ | ⟨i, hi, ⟨z, -⟩ | ⟨z1, z2, -⟩⟩)
    · exact hne (qInj_i hA z)
    · omega
    · omega
  · rintro (⟨z, -⟩ | ⟨i, hi, ⟨-, z⟩ | ⟨z1, z2, -⟩⟩)
    · omega
    · have := qInj_i hA z
      have h1 := (hh _ (pq_mem hi)).1
      have h2 := (hh2 q hq).1
      rw [this] at h2; omega
    · omega
  · rintro (⟨z, -⟩ | ⟨i, hi, ⟨z, -⟩ | ⟨z1, z2, z | ⟨b, -, z⟩⟩⟩)
    · omega
    · omega
    · have := qInj_i hA z
      have h1 := (hh _ (pq_mem hi)).1
      have h2 := (hh2 q hq).1
      rw [this] at h2; omega
    · rw [hA.1] at z; omega
  · rintro (⟨z, -⟩ | ⟨i, hi, ⟨z, -⟩ | ⟨z1, z2, z | ⟨b', hb', z⟩⟩⟩)
    · omega
    · omega
    · rw [hA.1] at z; omega
    · have e := qInj_i hA z
      have h1 := hh _ (pq_mem hi)
      have h2 := hh2 q hq
      have h3 := h1.2 b' hb'
      have h4 := h2.2 b hb
      rw [e, h3] at h4
      rw [← h4] at h2
      omega
theorem LdP_La (hw : WF0 D) {p : Nat} (hp' : p < np D) (h : LdP A D σ p) : LaR A D σ p := by
  have hP := WF0_Pg hw hp'
  have hh := hom hw hp'
  refine ⟨h.2, fun q hq => ?_⟩
  have hpq := (hh q hq).1
  have hi : ixP D q < pn D p := by unfold ixP; rw [hpq]; exact ix_lt hq
  obtain ⟨k1, k2, k3⟩ := kOf_sp hP hi
  have hqq : pq D p (ixP D q) = q := by unfold pq ixP; rw [hpq]; exact ix_get hq
  obtain ⟨d1, d2, d3⟩ := h.1 _ k1 _ k2 k3
  rw [hqq] at d1 d2 d3
  have e1 : kq D q = kOf D p (ixP D q) := by unfold kq; rw [hpq]
  have e2 : LB D q = pB D p (kOf D p (ixP D q)) (ixP D q) := by unfold LB; rw [e1, hpq]
  rw [e1, e2]
  refine ⟨d1, d2, fun b hbm => ?_⟩
  have e3 : hb D b = q := (hh q hq).2 b hbm
  have e4 : bl D q (ixB D b) = b := by unfold bl ixB; rw [e3]; exact ix_get hbm
  have e5 : ixB D b < (hs D q).length := by unfold ixB; rw [e3]; exact ix_lt hbm
  have := d3 _ e5
  rw [e4] at this
  unfold FB FBq
  rw [e3, hpq, e2]
  exact this
theorem roW_cls {p f e fl x : Nat} (h : roW A D p f e fl x) : cls A x := by
  rcases h with h | ⟨-, i, -, -, h⟩ | (⟨-, h⟩ | ⟨i, -, -, ⟨-, h⟩ | ⟨-, -, b, -, h⟩⟩) | ⟨i, -, -, ⟨-, h⟩ | ⟨-, h⟩⟩
  · exact ⟨5, p, by omega, h.2⟩
  · exact ⟨14, _, by omega, h⟩
  · exact ⟨18, _, by omega, h⟩
  · exact ⟨14, _, by omega, h⟩
  · exact ⟨17, _, by omega, h⟩
  · exact ⟨6, _, by omega, h⟩
  · exact ⟨14, _, by omega, h⟩
theorem kpW_cls {p fl x : Nat} (h : kpW A D p fl x) : cls A x := by
  rcases h with ⟨-, h⟩ | ⟨i, -, ⟨-, h⟩ | ⟨-, -, h | ⟨b, -, h⟩⟩⟩
  · exact ⟨5, p, by omega, h⟩
  · exact ⟨6, _, by omega, h⟩
  · exact ⟨13, _, by omega, h⟩
  · exact ⟨16, _, by omega, h⟩
theorem frm_chg {P : Nat → Nat → Prop} {σ' : qS} (hc : qChg P σ σ') (hP : ∀ f x, P f x → cls A x) : qFrm A σ σ' := by
  intro x hx hn
  obtain ⟨c1, c2, c3, c4, c5, c6, c7⟩ := hc
  have hno : ∀ f, ¬ P f x := fun f z => by
    obtain ⟨k, i, hk, e⟩ := hP f x z
    exact hn k i hk e
  exact ⟨by rw [c1], fun f => c6 f x (hno f), fun f => by rw [c4], fun i => c7 x (hno 999) i, fun i => by rw [c5], by rw [c2], by rw [c3]⟩
theorem frm_tr {σ1 σ2 : qS} (h1 : qFrm A σ σ1) (h2 : qFrm A σ1 σ2) : qFrm A σ σ2 := by
  intro x hx hn
  have a := h1 x hx hn
  have b := h2 x (by rw [a.1]; exact hx) hn
  exact qSame_tr a b
theorem spec_tryS (hl : l.stackTraces = false) (hA : qInj A) (h : SR A D σ) (hw : WF0 D) {p : Nat} (hp' : p < np D) : qMet g l M_X3_tryPage [vr (A 4 0), vr (A 5 p)] σ (qTi0 (fun σ' v => qChg (roW A D p 0 (pn D p)) σ σ' ∧ ((v = 1 ∧ OKp D p ∧ TrP A D σ' p) ∨ (v = 0 ∧ ¬ OKp D p)))) :=
  spec_tryPage hl hA (SR_LR h hw hp') (WF0_Pg hw hp')
theorem tryS_chg {σ' : qS} {p : Nat} (h : qChg (roW A D p 0 (pn D p)) σ σ') : qChg (tr2 A) σ σ' := qChg_mono h (fun fl x z => ⟨roW_tr z, roW_cls z⟩)
theorem spec_keepS (hl : l.stackTraces = false) (hA : qInj A) (h : SR A D σ) (hw : WF0 D) {p : Nat} (hp' : p < np D) (hok : OKp D p) (hT : TrP A D σ p) (hQ : ∀ q, q ∈ row D p → BxQ σ (A 13 q)) :
    qMet g l M_X4_keepTrial [vr (A 5 p)] σ (qTi0 (fun σ' v => qChg (kpW A D p) σ σ' ∧ LdP A D σ' p ∧ v = ct (fun i => ¬ BxS σ (A 13 (pq D p i)) (A 14 (pq D p i))) (pn D p))) :=
  spec_keep hl hA (SR_LR h hw hp') (WF0_Pg hw hp') hok hT (fun i hi => hQ _ (pq_mem hi))
theorem keepS_post (hA : qInj A) (h : SR A D σ) (hw : WF0 D) {p : Nat} {σ' : qS} (hp' : p < np D) (hc : qChg (kpW A D p) σ σ') (hL' : LdP A D σ' p) : SR A D σ' ∧ qChg (kp2 A) σ σ' ∧ LaR A D σ' p ∧ ∀ p', p' < np D → p' ≠ p → LaR A D σ p' → LaR A D σ' p' :=
  ⟨SR_chg hA (qChg_mono hc (fun fl x z => Or.inr (kpW_kp z))) h, qChg_mono hc (fun fl x z => ⟨kpW_kp z, kpW_cls z⟩), LdP_La hw hp' hL', fun p' hp2 c hl' => LaR_kp hA hw hp' hp2 c hl' hc⟩
end
