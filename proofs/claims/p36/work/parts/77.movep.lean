/-! the class: movePanel -/
section
variable {g : qG} {l : Launch} {A : Nat → Nat → Nat} {D : qD} {σ : qS}
def dMv (D : qD) (q i : Nat) : qD := dRow D (hp D q) (mvd_ (row D (hp D q)) q i)
noncomputable def o_movePanel (D : qD) (q i : Int) : Int ⊕ Nat := cif (pnOk D q ∧ 0 ≤ i ∧ i ≤ (pn D (hp D q.toNat) : Int) - 1) (cif (OKp (dMv D q.toNat i.toNat) (hp D q.toNat) ∧ Ans (dMv D q.toNat i.toNat)) (.inl (chg D (dMv D q.toNat i.toNat) (hp D q.toNat))) (.inr 0)) (.inr 2)
noncomputable def d_movePanel (D : qD) (q i : Int) : qD := cif ((pnOk D q ∧ 0 ≤ i ∧ i ≤ (pn D (hp D q.toNat) : Int) - 1) ∧ OKp (dMv D q.toNat i.toNat) (hp D q.toNat) ∧ Ans (dMv D q.toNat i.toNat)) (dMv D q.toNat i.toNat) D
theorem SR_XR (h : SR A D σ) : XR A D σ := ⟨⟨h.1.1, h.1.2.2.2.1, h.1.2.2.2.2.2.2.2.2.2.2.1, h.1.2.2.2.2.2.2.2.2.2.2.2⟩, fun p hp' => (h.2.2.2.1 p hp').1, fun q hq => (h.2.2.2.2.1 q hq).1, fun b hb => h.2.2.2.2.2 b hb⟩
theorem frm_L {x : Nat} {xs : List Nat} (hx : cls A x) : qFrm A σ (sL σ x xs) := by
  intro y hy hn
  obtain ⟨k, i, hk, e⟩ := hx
  exact ⟨rfl, fun _ => rfl, fun _ => rfl, fun _ => rfl, fun _ => rfl, if_neg (fun z => hn k i hk (z.trans e)), rfl⟩
theorem LaR_I {σ' : qS} {p : Nat} (h : LaR A D σ p) (hI : gI σ' = gI σ) : LaR A D σ' p := by
  unfold LaR BxR at h ⊢
  rw [hI]
  exact h
theorem spec_movePanel (hl : l.stackTraces = false) (hA : qInj A) (h : CR A D σ) (hw : WF D) {q i : Int} (hq : qR q) (hi : qR i) : qMet g l M_X7_movePanel [vr (A 0 0), vi q, vi i] σ (qClP A σ (o_movePanel D q i) (d_movePanel D q i)) := by
  unfold o_movePanel d_movePanel
  refine wm_X7_movePanel hl ⟨h.1.1, _, _, spec_needPanel hl h hw.1 hq, fun σ1 v h1 => ?_, fun σ1 n h1 => ?_⟩
  rotate_left
  · obtain ⟨rfl, hok, rfl⟩ := h1
    rw [cif_neg (fun z => hok z.1), cif_neg (fun z => hok z.1.1)]
    exact ⟨A, hA, fun _ _ _ _ => rfl, h, frm_rf, rfl⟩
  obtain ⟨rfl, hok, rfl⟩ := h1
  have hS0 := CR_SR h
  obtain ⟨hpn, hmem⟩ := alP_home hw.1 hok.2
  have hPn := (CR_pn h hok.2).1
  have hP := (h.2.2.2.1 _ hpn).1
  obtain ⟨g1, g2, g3, g4⟩ := hw.1.2.1 _ hpn
  refine ⟨hPn.1, fun x11 h11 => ?_⟩
  rw [hPn.2.2.1] at h11
  subst h11
  rw [hP.2.2.1]
  have hlen : ((row D (hp D q.toNat)).length : Int) = (pn D (hp D q.toNat) : Int) := rfl
  refine ⟨hP.1, hP.2.2.2.2.1, _, spec_sizeM hl hP.2.2.2.2.1 hP.2.2.2.2.2, _, _, spec_needPlace hl hi (by unfold qR; omega), fun σ2 h2 => ?_, fun σ2 n h2 => ?_⟩
  rotate_left
  · obtain ⟨rfl, hne, rfl⟩ := h2
    rw [cif_neg (fun z => hne z.2), cif_neg (fun z => hne z.1.2)]
    exact ⟨A, hA, fun _ _ _ _ => rfl, h, frm_rf, rfl⟩
  obtain ⟨rfl, hi1⟩ := h2
  have hin : pnOk D q ∧ 0 ≤ i ∧ i ≤ (pn D (hp D q.toNat) : Int) - 1 := ⟨hok, hi1⟩
  rw [cif_pos hin]
  have hix := ix_lt hmem
  have hel := ers_len hmem
  obtain ⟨m1, m2, m3⟩ := mv_sp (i := i.toNat) g2 hmem (by omega)
  have e1 : i = (i.toNat : Int) := by omega
  rw [e1]
  have hw1 : WF0 (dMv D q.toNat i.toNat) := WF0_row hw.1 hpn m1 (by rw [m2]; exact g3) m3
  refine ⟨hP.1, _, spec_indexP hl hA hP g2 g3 hmem, _, spec_takeP hl hP hix g3, fun σ3 h3 => ?_⟩
  have hSa := SR_row hA h3 hS0
  have hPa := (hSa.2.2.2.1 _ hpn).1
  have hra : row (dRow D (hp D q.toNat) ((row D (hp D q.toNat)).eraseIdx ((row D (hp D q.toNat)).idxOf q.toNat))) (hp D q.toNat) = (row D (hp D q.toNat)).eraseIdx ((row D (hp D q.toNat)).idxOf q.toNat) := by rw [row_at, if_pos rfl]
  have hput := spec_putP (g := g) hl hPa (i := i.toNat) (q := q.toNat) (by rw [hra]; omega) (by rw [hra]; unfold pn at g3; omega) (by rw [h3]; exact hPn.1)
  rw [hra] at hput
  refine ⟨hPa.1, _, hput, fun σ4 h4 => ?_⟩
  have hS1 := SR_row hA h4 hSa
  rw [dRow_dRow] at hS1
  have hS1' : SR A (dMv D q.toNat i.toNat) σ4 := hS1
  have hI4 : gI σ4 = gI σ2 := by rw [h4, h3]; rfl
  have hf4 : qFrm A σ2 σ4 := by
    rw [h4]
    refine frm_tr (σ1 := σ3) ?_ (frm_L ⟨10, _, by omega, rfl⟩)
    rw [h3]; exact frm_L ⟨10, _, by omega, rfl⟩
  rw [hS1'.1.2.2.2.2.1]
  refine ⟨hS1'.1.1, hS1'.2.1.1, _, spec_tryS hl hA hS1' hw1 (p := hp D q.toNat) hpn, fun σ5 v5 h5 => ?_⟩
  obtain ⟨hc, hv⟩ := h5
  have hS2 : SR A (dMv D q.toNat i.toNat) σ5 := SR_chg hA (qChg_mono hc (fun fl x z => Or.inl (roW_tr z))) hS1'
  have hP5 := (hS2.2.2.2.1 (hp D q.toNat) hpn).1
  have hr5 : row (dMv D q.toNat i.toNat) (hp D q.toNat) = mvd_ (row D (hp D q.toNat)) q.toNat i.toNat := by unfold dMv; rw [row_at, if_pos rfl]
  have hP5n := (hS2.2.2.2.2.1 q.toNat hok.2.1).1
  -- taking it back
  have hback : (∃ Mid56 : qS → Prop, qMet g l M_X4_takeOut [vr (A 5 (hp D q.toNat)), vi (i.toNat : Int)] σ5 (qTv0 Mid56) ∧ ∀ (σ60 : qS), Mid56 σ60 → gK σ60 (A 5 (hp D q.toNat)) = 5 ∧ (∃ Mid64 : qS → Prop, qMet g l M_X4_putIn [vr (A 5 (hp D q.toNat)), vi ((row D (hp D q.toNat)).idxOf q.toNat : Nat), vr (A 6 q.toNat)] σ60 (qTv0 Mid64) ∧ ∀ (σ68 : qS), Mid64 σ68 → qClP A σ2 (.inr 0) D σ68 (.inr 0))) := by
    have htk := spec_takeP (g := g) hl hP5 (i := i.toNat) (by rw [hr5, m2]; omega) (by rw [hr5, m2]; exact g3)
    have her : (mvd_ (row D (hp D q.toNat)) q.toNat i.toNat).eraseIdx i.toNat = (row D (hp D q.toNat)).eraseIdx ((row D (hp D q.toNat)).idxOf q.toNat) := List.eraseIdx_insertIdx_self _
    rw [hr5, her] at htk
    refine ⟨_, htk, fun σ6 h6 => ?_⟩
    have hSb := SR_row hA h6 hS2
    have hSb' : SR A (dRow D (hp D q.toNat) ((row D (hp D q.toNat)).eraseIdx ((row D (hp D q.toNat)).idxOf q.toNat))) σ6 := by
      have := hSb
      unfold dMv at this
      rw [dRow_dRow] at this
      exact this
    have hPb := (hSb'.2.2.2.1 _ hpn).1
    have hpt := spec_putP (g := g) hl hPb (i := (row D (hp D q.toNat)).idxOf q.toNat) (q := q.toNat) (by rw [hra]; omega) (by rw [hra]; unfold pn at g3; omega) (by rw [h6]; exact hP5n.1)
    rw [hra, ers_back hmem] at hpt
    refine ⟨hPb.1, _, hpt, fun σ7 h7 => ?_⟩
    have hSc := SR_row hA h7 hSb'
    rw [dRow_dRow] at hSc
    have hD : dRow D (hp D q.toNat) (row D (hp D q.toNat)) = D := by
      have := dRow_back (D := D) (p := hp D q.toNat) (xs := row D (hp D q.toNat))
      rw [dRow_dRow] at this
      exact this
    rw [hD] at hSc
    have hI7 : gI σ7 = gI σ5 := by rw [h7, h6]; rfl
    refine ⟨A, hA, fun _ _ _ _ => rfl, SR_CR hSc hw.1 (fun p' hp2 => ?_), ?_, rfl⟩
    · exact LaR_I (LaR_tr hA hw.1 hp2 (LaR_I (CR_La h hw.1 hp2) hI4) (qChg_mono hc (fun fl x z => roW_tr z))) hI7
    · refine frm_tr hf4 (frm_tr (frm_chg hc (fun f x z => roW_cls z)) ?_)
      rw [h7]
      refine frm_tr (σ1 := σ6) ?_ (frm_L ⟨10, _, by omega, rfl⟩)
      rw [h6]; exact frm_L ⟨10, _, by omega, rfl⟩
  rcases hv with ⟨rfl, hok1, hT⟩ | ⟨rfl, hno⟩
  · refine ⟨by unfold qR; omega, fun z => by omega, fun _ => ⟨hS2.1.1, _, spec_answersComeLater hl hA (SR_XR hS2) hw1, by unfold cif; split <;> (unfold qR; omega), fun ha => ?_, fun ha => ⟨hP5.1, ?_⟩⟩⟩
    · have hans : Ans (dMv D q.toNat i.toNat) := by
        by_cases c : Ans (dMv D q.toNat i.toNat)
        · exact c
        · rw [cif_neg c] at ha; exact absurd rfl ha
      have hB : ∀ q', q' ∈ row (dMv D q.toNat i.toNat) (hp D q.toNat) → BxR σ4 (A 13 q') (LB D q') := by
        intro q' hq'
        rw [hr5, m3] at hq'
        have := ((CR_La h hw.1 hpn).2 q' hq').2.1
        unfold BxR at this ⊢
        rw [hI4]; exact this
      refine ⟨hP5.1, _, spec_keepT hl hA hS1' hw1 (p := hp D q.toNat) hpn hc hok1 hT (fun q' hq' => La_Q hw hpn (by rw [hr5, m3] at hq'; exact hq') (hB q' hq')), fun σ6 v6 h6 => ?_⟩
      obtain ⟨k1, k2, rfl⟩ := h6
      have hfin := keepT_post hA hS1' hw1 (p := hp D q.toNat) hpn hc (fun p' hp2 hne => ?_) k1 k2
      · rw [cif_pos ⟨hok1, hans⟩, cif_pos ⟨⟨hok, by omega, by omega⟩, hok1, hans⟩, chg_eq hA hw1 hpn hT hc hB]
        exact ⟨A, hA, fun _ _ _ _ => rfl, hfin.1, frm_tr hf4 hfin.2, rfl⟩
      · have hh := hom hw.1 hp2
        exact LaR_of (WF0_Pg hw.1 hp2) (CR_La h hw.1 hp2) (LyEq_row hne) (fun q' hq2 => ⟨(hh q' hq2).1, (hh q' hq2).1, fun b hb => ⟨(hh q' hq2).2 b hb, (hh q' hq2).2 b hb⟩⟩) (by rw [hI4]) (fun q' hq2 => ⟨by rw [hI4], fun f _ _ => by rw [hI4], fun b hb f _ _ => by rw [hI4]⟩)
    · have hans : ¬ Ans (dMv D q.toNat i.toNat) := fun c => by rw [cif_pos c] at ha; exact absurd ha (by decide)
      rw [cif_neg (fun z => hans z.2), cif_neg (fun z => hans z.2.2)]
      exact hback
  · refine ⟨by unfold qR; omega, fun _ => ⟨hP5.1, ?_⟩, fun z => absurd rfl z⟩
    rw [cif_neg (fun z => hno z.1), cif_neg (fun z => hno z.2.1)]
    exact hback
end
