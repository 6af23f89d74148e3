/-! the class: pairs counted, spreads -/
def dSp (D : qD) (p : Nat) (v : Int) : qD := dI D 2 p v
section
variable {g : qG} {l : Launch} {A : Nat → Nat → Nat} {D : qD} {σ : qS}
theorem spec_placeByPairs (hl : l.stackTraces = false) (hA : qInj A) (h : CR A D σ) (hw : WF D) {b : Int} (hb' : qR b) : qMet g l M_X7_placeByPairs [vr (A 0 0), vi b] σ (qQo σ (o_placeOf D b)) := by
  have hx := CR_XR h
  have hn := hw.1.1.2.2
  refine wm_X7_placeByPairs hl ⟨h.1.1, _, _, spec_needBalloon hl h hw.1 hb', fun σ1 v h1 => ?_, fun σ1 n h1 => ?_⟩
  · obtain ⟨rfl, hok, rfl⟩ := h1
    unfold o_placeOf
    rw [cif_pos hok]
    refine ⟨fun n x4 x => ∃ k : Nat, x = k ∧ k ≤ nb D ∧ n = 100 - k ∧ x4 = ct (fun c => gb D c = 0 ∧ ky D c < ky D b.toNat) k, ⟨_, 0, rfl, Nat.zero_le _, rfl, rfl⟩, ?_⟩
    rintro n x4 x ⟨k, rfl, hk, rfl, rfl⟩
    rw [hx.1.2.1]
    refine ⟨hx.1.1, hx.1.2.2.1, _, spec_sizeB hl hx, by unfold qR; omega, by unfold qR; omega, fun hd => ⟨rfl, ?_⟩, fun hd => ?_⟩
    · unfold cntB
      rw [show k = nb D by omega]
    have hkn : k < nb D := by omega
    obtain ⟨⟨b1, b2, b3, b4, b5, b6, b7, b8⟩, b9, b10⟩ := hx.2.2.2 k hkn
    refine ⟨A 7 k, spec_getB hl hx hkn, Or.inr b1, b1, by rw [b9]; exact gb_Q hw.1 hkn, ?_⟩
    rw [b9]
    refine ⟨fun hg x25 h25 => ⟨_, ?_, k + 1, by omega, by omega, rfl, ?_⟩, fun hg => ⟨_, spec_liesBefore hl hA h hw ⟨hkn, hg⟩ hok.2, by unfold cif; split <;> (unfold qR; omega), fun hz x38 h38 => ⟨_, ?_, k + 1, by omega, by omega, rfl, ?_⟩, fun hz x41 h41 x43 h43 => ⟨_, ?_, k + 1, by omega, by omega, rfl, ?_⟩⟩⟩
    · omega
    · rw [ct_s, if_neg (fun z => hg z.1)]; omega
    · omega
    · rw [ct_s, if_neg (fun z => by rw [cif_pos z.2] at hz; exact absurd hz (by decide))]; omega
    · omega
    · have hlt : ky D k < ky D b.toNat := by
        by_cases c : ky D k < ky D b.toNat
        · exact c
        · rw [cif_neg c] at hz; exact absurd rfl hz
      rw [ct_s, if_pos ⟨hg, hlt⟩, h41]
  · obtain ⟨rfl, hok, rfl⟩ := h1
    unfold o_placeOf
    rw [cif_neg hok]
    exact ⟨rfl, rfl⟩
theorem LyEq_sp {p' p : Nat} {v : Int} : LyEq D (dSp D p' v) p := ⟨rfl, rfl, rfl, fun q _ => ⟨rfl, rfl, rfl, rfl, rfl, fun b _ => rfl⟩⟩
theorem sp_at {p p' : Nat} {v : Int} : sp (dSp D p v) p' = if p' = p then v else sp D p' := by
  unfold sp dSp dI q_u2
  by_cases c : p' = p
  · rw [if_pos c]; exact if_pos ⟨rfl, c⟩
  · rw [if_neg c]; exact if_neg (fun z => c z.2)
theorem CR_sp (hA : qInj A) (hw : WF0 D) {σ' : qS} {p : Nat} {v : Int} (h : CR A D σ) (hs : σ' = sI σ 165 (A 5 p) v) : CR A (dSp D p v) σ' := by
  have i1 : ∀ f x, f ≠ 165 → gI σ' f x = gI σ f x := fun f x hf => by rw [hs]; exact gI_ne (fun z => hf z.1)
  have iK : gK σ' = gK σ := by rw [hs]; rfl
  have iL : gL σ' = gL σ := by rw [hs]; rfl
  have iN : gN σ' = gN σ := by rw [hs]; rfl
  have iP : gP σ' = gP σ := by rw [hs]; rfl
  have iA : gA σ' = gA σ := by rw [hs]; rfl
  have iR : gR σ' = gR σ := by rw [hs]; rfl
  obtain ⟨h1, h2, h3, h4, h5, h6⟩ := h
  have b1 : ∀ (x : Nat) (b : Bx), BxR σ x b → BxR σ' x b := by
    intro x b hb
    unfold BxR at hb ⊢
    rw [i1 40 x (by decide), i1 41 x (by decide), i1 42 x (by decide), i1 43 x (by decide)]
    exact hb
  refine ⟨?_, ?_, ?_, fun p' hp' => ?_, fun q hq => ?_, fun b hb => ?_⟩
  · unfold BsR at h1 ⊢
    rw [iK, iL, iP]
    exact h1
  · unfold LyR at h2 ⊢
    rw [iK, iN, iP, iA]
    exact h2
  · unfold RdR at h3 ⊢
    rw [iK, iN, iP, iR, i1 241 _ (by decide)]
    exact h3
  · obtain ⟨p1, p2, p3⟩ := h4 p' hp'
    unfold PgC PgR
    rw [iK, iL, iP, i1 160 _ (by decide), i1 162 _ (by decide), i1 163 _ (by decide), sp_at]
    refine ⟨p1, ?_, p3.trans (by rw [LyEq_rows LyEq_sp])⟩
    rw [hs, gI_sI]
    by_cases c : p' = p
    · rw [if_pos c, if_pos ⟨rfl, by rw [c]⟩]
    · rw [if_neg c, if_neg (fun z => c (qInj_i hA z.2))]
      exact p2
  · obtain ⟨⟨a1, a2, a3, a4, a5, a6, a7, a8, a9, a10, a11, a12, a13, a14, a15, a16, a17⟩, p2, p3⟩ := h5 q hq
    unfold PnC PnR FcR
    rw [iK, iL, iP, i1 200 _ (by decide), i1 202 _ (by decide), i1 203 _ (by decide), i1 204 _ (by decide), i1 211 _ (by decide), i1 209 _ (by decide)]
    refine ⟨⟨a1, a2, a3, a4, a5, a6, a7, a8, a9, a10, a11, a12, a13, a14, a15, a16, fun i hi => ?_⟩, p2, fun hg => ?_⟩
    · rw [i1 80 _ (by decide), i1 81 _ (by decide), i1 82 _ (by decide)]
      exact a17 i hi
    · have hal := alP_home hw (show alP D q from ⟨hq, hg⟩)
      obtain ⟨l1, l2⟩ := LyEq_LB (WF0_Pg hw hal.1) (LyEq_sp (p' := p) (v := v)) hal.2 rfl rfl
      rw [l1, l2]
      exact ⟨(p3 hg).1, b1 _ _ (p3 hg).2⟩
  · obtain ⟨p1, p2, p3, p4⟩ := h6 b hb
    unfold BlC BlR
    rw [iK, iP, i1 0 _ (by decide), i1 1 _ (by decide), i1 6 _ (by decide)]
    refine ⟨p1, p2, p3, fun hg => ?_⟩
    have hbl := alB_home hw (show alB D b from ⟨hb, hg⟩)
    have hal := alP_home hw hbl.1
    rw [LyEq_FB (WF0_Pg hw hal.1) (LyEq_sp (p' := p) (v := v)) hal.2 rfl rfl rfl rfl]
    exact b1 _ _ (p4 hg)
def spN (D : qD) (p : Int) : Prop := (0 < p ∧ sp D (p.toNat - 1) = 1) ∨ sp D (p.toNat + 1) = 1
noncomputable def o_spread (D : qD) (p : Int) : Int ⊕ Nat := cif (0 ≤ p ∧ p + 1 < np D) (cif (spN D p) (.inr 0) (.inl (1 - sp D p.toNat))) (.inr 2)
noncomputable def d_spread (D : qD) (p : Int) : qD := cif (0 ≤ p ∧ p + 1 < np D) (cif (spN D p) D (dSp D p.toNat (1 - sp D p.toNat))) D
end
