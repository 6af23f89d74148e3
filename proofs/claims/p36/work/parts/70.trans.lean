/-! the class: one page tried and kept; tongues -/
noncomputable def chg (D D1 : qD) (p : Nat) : Int := ct (fun i => LB D (pq D1 p i) ≠ LB D1 (pq D1 p i)) (pn D1 p)
section
variable {g : qG} {l : Launch} {A : Nat → Nat → Nat} {D : qD} {σ : qS}
theorem BxS_iff {x y : Nat} {b c : Bx} (hx : BxR σ x b) (hy : BxR σ y c) : BxS σ x y ↔ b = c := by
  obtain ⟨x1, x2, x3, x4⟩ := hx
  obtain ⟨y1, y2, y3, y4⟩ := hy
  unfold BxS
  rw [x1, x2, x3, x4, y1, y2, y3, y4]
  constructor
  · rintro ⟨a1, a2, a3, a4⟩
    exact Prod.ext a1 (Prod.ext a2 (Prod.ext a3 a4))
  · rintro rfl
    exact ⟨rfl, rfl, rfl, rfl⟩
theorem TrP_LB (hw : WF0 D) {p : Nat} (hp' : p < np D) (h : TrP A D σ p) {i : Nat} (hi : i < pn D p) : BxR σ (A 14 (pq D p i)) (LB D (pq D p i)) := by
  obtain ⟨k1, k2, k3⟩ := kOf_sp (WF0_Pg hw hp') hi
  have := (h.1 _ k1 i k2 k3).2.1
  obtain ⟨a1, a2, a3, a4⟩ := pq_rk hw hp' hi
  unfold LB kq
  rw [a3, a4]
  exact this
theorem roW_13 (hA : qInj A) {p f e fl q : Nat} (h1 : 40 ≤ fl) (h2 : fl ≤ 43) : ¬ roW A D p f e fl (A 13 q) := by
  rintro (h | ⟨-, i, -, -, h⟩ | (⟨h, -⟩ | ⟨i, -, -, ⟨-, h⟩ | ⟨-, -, b, -, h⟩⟩) | ⟨i, -, -, ⟨-, h⟩ | ⟨-, h⟩⟩)
  · have := h.2; rw [hA.1] at this; omega
  · rw [hA.1] at h; omega
  · omega
  · rw [hA.1] at h; omega
  · rw [hA.1] at h; omega
  · rw [hA.1] at h; omega
  · rw [hA.1] at h; omega
theorem chg_eq (hA : qInj A) {D1 : qD} {σ1 σ2 : qS} (hw : WF0 D1) {p : Nat} (hp' : p < np D1) (hT : TrP A D1 σ2 p) (hc : qChg (roW A D1 p 0 (pn D1 p)) σ1 σ2) (hB : ∀ q, q ∈ row D1 p → BxR σ1 (A 13 q) (LB D q)) :
    ct (fun i => ¬ BxS σ2 (A 13 (pq D1 p i)) (A 14 (pq D1 p i))) (pn D1 p) = chg D D1 p := by
  refine ct_congr (fun i hi => ?_)
  have h1 : BxR σ2 (A 13 (pq D1 p i)) (LB D (pq D1 p i)) := by
    have := hB _ (pq_mem hi)
    unfold BxR at this ⊢
    rw [hc.2.2.2.2.2.1 40 _ (roW_13 hA (by omega) (by omega)), hc.2.2.2.2.2.1 41 _ (roW_13 hA (by omega) (by omega)), hc.2.2.2.2.2.1 42 _ (roW_13 hA (by omega) (by omega)), hc.2.2.2.2.2.1 43 _ (roW_13 hA (by omega) (by omega))]
    exact this
  rw [BxS_iff h1 (TrP_LB hw hp' hT hi)]
/-- keeping behind trying: from the heap σ1 in which the book D1 stands but for the page p's laying -/
theorem spec_keepT (hl : l.stackTraces = false) (hA : qInj A) {D1 : qD} {σ1 σ2 : qS} (h : SR A D1 σ1) (hw : WF0 D1) {p : Nat} (hp' : p < np D1) (hc : qChg (roW A D1 p 0 (pn D1 p)) σ1 σ2) (hok : OKp D1 p) (hT : TrP A D1 σ2 p) (hQ : ∀ q, q ∈ row D1 p → BxQ σ1 (A 13 q)) :
    qMet g l M_X4_keepTrial [vr (A 5 p)] σ2 (qTi0 (fun σ' v => qChg (kpW A D1 p) σ2 σ' ∧ LdP A D1 σ' p ∧ v = ct (fun i => ¬ BxS σ2 (A 13 (pq D1 p i)) (A 14 (pq D1 p i))) (pn D1 p))) := by
  refine spec_keepS hl hA (SR_chg hA (qChg_mono hc (fun fl x z => Or.inl (roW_tr z))) h) hw hp' hok hT (fun q hq => ?_)
  have := hQ q hq
  unfold BxQ at this ⊢
  rw [hc.2.2.2.2.2.1 40 _ (roW_13 hA (by omega) (by omega)), hc.2.2.2.2.2.1 41 _ (roW_13 hA (by omega) (by omega)), hc.2.2.2.2.2.1 42 _ (roW_13 hA (by omega) (by omega)), hc.2.2.2.2.2.1 43 _ (roW_13 hA (by omega) (by omega))]
  exact this
theorem keepT_post (hA : qInj A) {D1 : qD} {σ1 σ2 σ3 : qS} (h : SR A D1 σ1) (hw : WF0 D1) {p : Nat} (hp' : p < np D1) (hc : qChg (roW A D1 p 0 (pn D1 p)) σ1 σ2) (hL : ∀ p', p' < np D1 → p' ≠ p → LaR A D1 σ1 p') (hc3 : qChg (kpW A D1 p) σ2 σ3) (hd : LdP A D1 σ3 p) : CR A D1 σ3 ∧ qFrm A σ1 σ3 := by
  have h2 := SR_chg hA (qChg_mono hc (fun fl x z => Or.inl (roW_tr z))) h
  obtain ⟨k1, k2, k3, k4⟩ := keepS_post hA h2 hw hp' hc3 hd
  refine ⟨SR_CR k1 hw (fun p' hp2 => ?_), frm_tr (frm_chg hc (fun f x z => roW_cls z)) (frm_chg hc3 (fun f x z => kpW_cls z))⟩
  by_cases c : p' = p
  · rw [c]; exact k3
  · exact k4 p' hp2 c (LaR_tr hA hw hp2 (hL p' hp2 c) (qChg_mono hc (fun fl x z => roW_tr z)))
theorem La_Q (hw : WF D) {p : Nat} (hp' : p < np D) {q : Nat} (hq : q ∈ row D p) (hb : BxR σ (A 13 q) (LB D q)) : BxQ σ (A 13 q) := by
  have hP := WF0_Pg hw.1 hp'
  obtain ⟨h1, h2⟩ := (hw.1.2.1 p hp').2.2.2 q hq
  have hi : ixP D q < pn D p := by have := (ixP_lt hw.1 h1).1; rw [h2] at this; exact this
  obtain ⟨k1, k2, k3⟩ := kOf_sp hP hi
  refine BxR_Q hP (hw.2.1 p hp') k1 k2 k3 ?_
  unfold LB kq at hb
  rw [h2] at hb
  exact hb
/-! a tongue -/
def dTg (D : qD) (p : Nat) (t : Int) : qD := dI D 1 p t
theorem tg_at {p p' : Nat} {t : Int} : tg (dTg D p t) p' = if p' = p then t else tg D p' := by
  unfold tg dTg dI q_u2
  by_cases c : p' = p
  · rw [if_pos c]; exact if_pos ⟨rfl, c⟩
  · rw [if_neg c]; exact if_neg (fun z => c z.2)
theorem WF0_tg {p : Nat} {t : Int} (hw : WF0 D) (hp' : p < np D) (ht : 0 ≤ t ∧ t ≤ 2) : WF0 (dTg D p t) := by
  obtain ⟨w1, w2, w3, w4, w5, w6, w7, w8, w9⟩ := hw
  refine ⟨w1, fun p' h => ?_, fun p' h => ?_, w4, w5, w6, w7, w8, w9⟩
  · obtain ⟨a, b, c, d⟩ := w2 p' h
    refine ⟨?_, b, c, d⟩
    rw [tg_at]
    split
    · exact ht
    · exact a
  · obtain ⟨a, b⟩ := w3 p' h
    refine ⟨?_, b⟩
    rw [tg_at, if_neg]
    · exact a
    · intro z
      have : np D ≤ p' := h
      omega
theorem LyEq_tg {p p' : Nat} {t : Int} (h : p' ≠ p) : LyEq D (dTg D p t) p' := by
  have e : tg (dTg D p t) p' = tg D p' := by rw [tg_at, if_neg h]
  refine ⟨rfl, e, ?_, fun q _ => ⟨rfl, rfl, rfl, rfl, rfl, fun b _ => rfl⟩⟩
  unfold gro
  rw [e]
  rfl
theorem SR_tg (hA : qInj A) {σ' : qS} {p : Nat} {t : Int} (hs : σ' = sI σ 162 (A 5 p) t) (h : SR A D σ) : SR A (dTg D p t) σ' := by
  have i1 : ∀ f x, f ≠ 162 → gI σ' f x = gI σ f x := fun f x hf => by rw [hs]; exact gI_ne (fun z => hf z.1)
  have iK : gK σ' = gK σ := by rw [hs]; rfl
  have iL : gL σ' = gL σ := by rw [hs]; rfl
  have iN : gN σ' = gN σ := by rw [hs]; rfl
  have iP : gP σ' = gP σ := by rw [hs]; rfl
  have iA : gA σ' = gA σ := by rw [hs]; rfl
  have iR : gR σ' = gR σ := by rw [hs]; rfl
  obtain ⟨h1, h2, h3, h4, h5, h6⟩ := h
  refine ⟨?_, ?_, ?_, fun p' hp' => ?_, fun q hq => ?_, fun b hb => ?_⟩
  · unfold BsR at h1 ⊢
    rw [iK, iL, iP]
    exact h1
  · unfold LyR at h2 ⊢
    rw [iK, iN, iP, iA]
    exact h2
  · unfold RdR at h3 ⊢
    rw [iK, iN, iP, iR, i1 241 _ (by decide)]
    exact h3
  · obtain ⟨⟨p1, p2, p3, p4, p5, p6⟩, p7⟩ := h4 p' hp'
    unfold PgR
    rw [iK, iL, iP, i1 160 _ (by decide), i1 165 _ (by decide), tg_at]
    refine ⟨⟨p1, p2, p3, ?_, p5, p6⟩, p7⟩
    rw [hs, gI_sI]
    by_cases c : p' = p
    · rw [if_pos c, if_pos ⟨rfl, by rw [c]⟩]
    · rw [if_neg c, if_neg (fun z => c (qInj_i hA z.2))]
      exact p4
  · obtain ⟨⟨a1, a2, a3, a4, a5, a6, a7, a8, a9, a10, a11, a12, a13, a14, a15, a16, a17⟩, p2⟩ := h5 q hq
    unfold PnR FcR
    rw [iK, iL, iP, i1 200 _ (by decide), i1 202 _ (by decide), i1 203 _ (by decide), i1 204 _ (by decide), i1 211 _ (by decide)]
    refine ⟨⟨a1, a2, a3, a4, a5, a6, a7, a8, a9, a10, a11, a12, a13, a14, a15, a16, fun i hi => ?_⟩, p2⟩
    rw [i1 80 _ (by decide), i1 81 _ (by decide), i1 82 _ (by decide)]
    exact a17 i hi
  · obtain ⟨p1, p2, p3⟩ := h6 b hb
    unfold BlR
    rw [iK, iP, i1 0 _ (by decide), i1 1 _ (by decide), i1 6 _ (by decide)]
    exact ⟨p1, p2, p3⟩
theorem dTg_back {p : Nat} {t : Int} : dTg (dTg D p t) p (tg D p) = D := by
  unfold dTg dI
  have : q_u2 (q_u2 D.2.1 1 p t) 1 p (tg D p) = D.2.1 := by
    funext a b
    unfold q_u2
    by_cases c : a = 1 ∧ b = p
    · rw [if_pos c, c.1, c.2]; rfl
    · rw [if_neg c, if_neg c]
  show (D.1, q_u2 (q_u2 D.2.1 1 p t) 1 p (tg D p), D.2.2) = D
  rw [this]
noncomputable def o_translate (D : qD) (p t : Int) : Int ⊕ Nat := cif (¬ pgOk D p) (.inr 2) (cif (0 ≤ t ∧ t ≤ 2) (cif (OKp (dTg D p.toNat t) p.toNat) (.inl (chg D (dTg D p.toNat t) p.toNat)) (.inr 0)) (.inr 1))
noncomputable def d_translate (D : qD) (p t : Int) : qD := cif (pgOk D p ∧ (0 ≤ t ∧ t ≤ 2) ∧ OKp (dTg D p.toNat t) p.toNat) (dTg D p.toNat t) D
theorem spec_translate (hl : l.stackTraces = false) (hA : qInj A) (h : CR A D σ) (hw : WF D) {p t : Int} (hq : qR p) (ht : qR t) : qMet g l M_X7_translate [vr (A 0 0), vi p, vi t] σ (qClP A σ (o_translate D p t) (d_translate D p t)) := by
  unfold o_translate d_translate
  refine wm_X7_translate hl ⟨h.1.1, _, _, spec_needPage hl h hw.1 hq, fun σ1 v h1 => ?_, fun σ1 n h1 => ?_⟩
  · obtain ⟨rfl, hok, rfl⟩ := h1
    have hpn : p.toNat < np D := by unfold pgOk at hok; omega
    rw [cif_neg (fun z => z hok)]
    refine ⟨_, _, spec_needWithin hl ht (by unfold qR; omega) (by unfold qR; omega), fun σ2 h2 => ?_, fun σ2 n h2 => ?_⟩
    · obtain ⟨rfl, ht1⟩ := h2
      rw [cif_pos ht1]
      obtain ⟨⟨p1, p2, p3, p4, p5, p6⟩, p7, p8⟩ := h.2.2.2.1 p.toNat hpn
      refine ⟨p1, fun x18 h18 σ20 h20 => ?_⟩
      have hS1 := SR_tg hA h20 (CR_SR h)
      have hw1 := WF0_tg hw.1 hpn ht1
      rw [hS1.1.2.2.2.2.1]
      refine ⟨hS1.1.1, hS1.2.1.1, _, spec_tryS hl hA hS1 hw1 (p := p.toNat) hpn, fun σ29 v31 h29 => ?_⟩
      obtain ⟨hc, hv⟩ := h29
      have hP29 : gK σ29 (A 5 p.toNat) = 5 := by rw [hc.1, h20]; exact p1
      have hB : ∀ q, q ∈ row D p.toNat → BxR σ20 (A 13 q) (LB D q) := by
        intro q hq2
        have := ((CR_La h hw.1 hpn).2 q hq2).2.1
        unfold BxR at this ⊢
        rw [h20]
        simp only [gI_sI, show ¬ (40 = 162) by decide, show ¬ (41 = 162) by decide, show ¬ (42 = 162) by decide, show ¬ (43 = 162) by decide, false_and, if_false]
        exact this
      rcases hv with ⟨rfl, hok1, hT⟩ | ⟨rfl, hno⟩
      · refine ⟨by unfold qR; omega, fun _ => ⟨hP29, _, spec_keepT hl hA hS1 hw1 (p := p.toNat) hpn hc hok1 hT (fun q hq2 => La_Q hw hpn hq2 (hB q hq2)), fun σ40 v42 h40 => ?_⟩, fun z => by omega⟩
        obtain ⟨k1, k2, rfl⟩ := h40
        have hfin := keepT_post hA hS1 hw1 (p := p.toNat) hpn hc (fun p' hp2 hne => ?_) k1 k2
        · rw [cif_pos hok1, cif_pos ⟨hok, ht1, hok1⟩, chg_eq hA hw1 hpn hT hc hB]
          refine ⟨A, hA, fun _ _ _ _ => rfl, hfin.1, frm_tr ?_ hfin.2, rfl⟩
          intro x hx hn
          rw [h20]
          exact ⟨rfl, fun f => gI_ne (fun z => hn 5 _ (by omega) z.2), fun _ => rfl, fun _ => rfl, fun _ => rfl, rfl, rfl⟩
        · have hh := hom hw.1 hp2
          refine LaR_of (WF0_Pg hw.1 hp2) (CR_La h hw.1 hp2) (LyEq_tg hne) (fun q hq2 => ⟨(hh q hq2).1, (hh q hq2).1, fun b hb => ⟨(hh q hq2).2 b hb, (hh q hq2).2 b hb⟩⟩) ?_ (fun q hq2 => ⟨?_, fun f f1 f2 => ?_, fun b hb f f1 f2 => ?_⟩)
          all_goals (rw [h20]; exact gI_ne (fun z => by omega))
      · refine ⟨by unfold qR; omega, fun z => absurd rfl z, fun _ => ⟨hP29, fun σ44 h44 => ?_⟩⟩
        rw [cif_neg hno, cif_neg (fun z => hno z.2.2)]
        have hS2 := SR_chg hA (qChg_mono hc (fun fl x z => Or.inl (roW_tr z))) hS1
        have hx18 : x18 = tg D p.toNat := by rw [h18]; exact p4
        rw [hx18] at h44
        have hS3 := SR_tg hA h44 hS2
        rw [dTg_back] at hS3
        refine ⟨A, hA, fun _ _ _ _ => rfl, SR_CR hS3 hw.1 (fun p' hp2 => ?_), frm_tr (σ1 := σ20) ?_ (frm_tr (frm_chg hc (fun f x z => roW_cls z)) ?_), rfl⟩
        · have hh := hom hw.1 hp2
          have htr := qChg_mono hc (fun fl x z => roW_tr z)
          refine LaR_of (WF0_Pg hw.1 hp2) (CR_La h hw.1 hp2) LyEq_rf (fun q hq2 => ⟨(hh q hq2).1, (hh q hq2).1, fun b hb => ⟨(hh q hq2).2 b hb, (hh q hq2).2 b hb⟩⟩) ?_ (fun q hq2 => ⟨?_, fun f f1 f2 => ?_, fun b hb f f1 f2 => ?_⟩)
          · rw [h44, gI_ne (fun z => by omega), htr.2.2.2.2.2.1 163 _ (by unfold tr1; omega), h20]
            exact gI_ne (fun z => by omega)
          · rw [h44, gI_ne (fun z => by omega), htr.2.2.2.2.2.1 209 _ (by unfold tr1; omega), h20]
            exact gI_ne (fun z => by omega)
          · rw [h44, gI_ne (fun z => by omega), hc.2.2.2.2.2.1 f _ (roW_13 hA f1 f2), h20]
            exact gI_ne (fun z => by omega)
          · rw [h44, gI_ne (fun z => by omega), htr.2.2.2.2.2.1 f _ ?_, h20]
            · exact gI_ne (fun z => by omega)
            · unfold tr1
              rintro (z | z | z | ⟨-, -, i, z | z⟩)
              · omega
              · omega
              · omega
              · rw [hA.1] at z; omega
              · rw [hA.1] at z; omega
        · intro x hx hn
          rw [h20]
          exact ⟨rfl, fun f => gI_ne (fun z => hn 5 _ (by omega) z.2), fun _ => rfl, fun _ => rfl, fun _ => rfl, rfl, rfl⟩
        · intro x hx hn
          rw [h44]
          exact ⟨rfl, fun f => gI_ne (fun z => hn 5 _ (by omega) z.2), fun _ => rfl, fun _ => rfl, fun _ => rfl, rfl, rfl⟩
    · obtain ⟨rfl, ht1, rfl⟩ := h2
      rw [cif_neg ht1, cif_neg (fun z => ht1 z.2.1)]
      exact ⟨A, hA, fun _ _ _ _ => rfl, h, frm_rf, rfl⟩
  · obtain ⟨rfl, hok, rfl⟩ := h1
    rw [cif_pos hok, cif_neg (fun z => hok z.1)]
    exact ⟨A, hA, fun _ _ _ _ => rfl, h, frm_rf, rfl⟩
end
