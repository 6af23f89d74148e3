/-! the class: an answer -/
def dAn (D : qD) (b : Nat) (v : Int) : qD := dI D 10 b v
section
variable {g : qG} {l : Launch} {A : Nat → Nat → Nat} {D : qD} {σ : qS}
theorem LyEq_an {b p : Nat} {v : Int} : LyEq D (dAn D b v) p := ⟨rfl, rfl, rfl, fun q _ => ⟨rfl, rfl, rfl, rfl, rfl, fun b _ => rfl⟩⟩
theorem an_at {b b' : Nat} {v : Int} : an (dAn D b v) b' = if b' = b then v else an D b' := by
  unfold an dAn dI q_u2
  by_cases c : b' = b
  · rw [if_pos c]; exact if_pos ⟨rfl, c⟩
  · rw [if_neg c]; exact if_neg (fun z => c z.2)
theorem CR_an (hA : qInj A) (hw : WF0 D) {σ' : qS} {b : Nat} {v : Int} (h : CR A D σ) (hs : σ' = sP σ 5 (A 7 b) (bRef A v)) : CR A (dAn D b v) σ' := by
  have i2 : ∀ f x, f ≠ 5 → gP σ' f x = gP σ f x := fun f x hf => by rw [hs]; exact if_neg (fun z => hf z.1)
  have iK : gK σ' = gK σ := by rw [hs]; rfl
  have iL : gL σ' = gL σ := by rw [hs]; rfl
  have iN : gN σ' = gN σ := by rw [hs]; rfl
  have iI : gI σ' = gI σ := by rw [hs]; rfl
  have iA : gA σ' = gA σ := by rw [hs]; rfl
  have iR : gR σ' = gR σ := by rw [hs]; rfl
  obtain ⟨h1, h2, h3, h4, h5, h6⟩ := h
  have b1 : ∀ (x : Nat) (b : Bx), BxR σ x b → BxR σ' x b := by
    intro x b hb
    unfold BxR at hb ⊢
    rw [iI]
    exact hb
  refine ⟨?_, ?_, ?_, fun p' hp' => ?_, fun q hq => ?_, fun b' hb => ?_⟩
  · unfold BsR at h1 ⊢
    rw [iK, iL, i2 280 _ (by decide), i2 281 _ (by decide), i2 282 _ (by decide), i2 283 _ (by decide), i2 284 _ (by decide)]
    exact h1
  · unfold LyR at h2 ⊢
    rw [iK, iN, iA, i2 120 _ (by decide), i2 121 _ (by decide)]
    exact h2
  · unfold RdR at h3 ⊢
    rw [iK, iN, iI, iR, i2 240 _ (by decide), i2 242 _ (by decide)]
    exact h3
  · obtain ⟨p1, p2, p3⟩ := h4 p' hp'
    unfold PgC PgR
    rw [iK, iL, iI, i2 161 _ (by decide)]
    exact ⟨p1, p2, p3.trans (by rw [LyEq_rows LyEq_an])⟩
  · obtain ⟨⟨a1, a2, a3, a4, a5, a6, a7, a8, a9, a10, a11, a12, a13, a14, a15, a16, a17⟩, p2, p3⟩ := h5 q hq
    unfold PnC PnR FcR
    rw [iK, iL, iI, i2 201 _ (by decide), i2 205 _ (by decide), i2 206 _ (by decide), i2 207 _ (by decide), i2 208 _ (by decide)]
    refine ⟨⟨a1, a2, a3, a4, a5, a6, a7, a8, a9, a10, a11, a12, a13, a14, a15, a16, a17⟩, p2, fun hg => ?_⟩
    have hal := alP_home hw (show alP D q from ⟨hq, hg⟩)
    obtain ⟨l1, l2⟩ := LyEq_LB (WF0_Pg hw hal.1) (LyEq_an (b := b) (v := v)) hal.2 rfl rfl
    rw [l1, l2]
    exact ⟨(p3 hg).1, b1 _ _ (p3 hg).2⟩
  · obtain ⟨p1, p2, p3, p4⟩ := h6 b' hb
    unfold BlC BlR
    rw [iK, iI, i2 2 _ (by decide), i2 3 _ (by decide), i2 4 _ (by decide), an_at]
    refine ⟨p1, p2, ?_, fun hg => ?_⟩
    · rw [hs, gP_sP]
      by_cases c : b' = b
      · rw [if_pos c, if_pos ⟨rfl, by rw [c]⟩]
      · rw [if_neg c, if_neg (fun z => c (qInj_i hA z.2))]
        exact p3
    · have hbl := alB_home hw (show alB D b' from ⟨hb, hg⟩)
      have hal := alP_home hw hbl.1
      rw [LyEq_FB (WF0_Pg hw hal.1) (LyEq_an (b := b) (v := v)) hal.2 rfl rfl rfl rfl]
      exact b1 _ _ (p4 hg)
noncomputable def o_answer (D : qD) (b o : Int) : Int ⊕ Nat := cif (¬ blOk D b ∨ (o ≠ -1 ∧ ¬ blOk D o)) (.inr 2) (cif (o ≠ -1 ∧ ¬ ky D o.toNat < ky D b.toNat) (.inr 0) (.inl (an D b.toNat)))
noncomputable def d_answer (D : qD) (b o : Int) : qD := cif ((¬ blOk D b ∨ (o ≠ -1 ∧ ¬ blOk D o)) ∨ (o ≠ -1 ∧ ¬ ky D o.toNat < ky D b.toNat)) D (dAn D b.toNat o)
theorem spec_answer (hl : l.stackTraces = false) (hA : qInj A) (h : CR A D σ) (hw : WF0 D) {b o : Int} (hb' : qR b) (ho : qR o) : qMet g l M_X7_answer [vr (A 0 0), vi b, vi o] σ (qClP A σ (o_answer D b o) (d_answer D b o)) := by
  unfold o_answer d_answer
  have hxr := CR_XR h
  refine wm_X7_answer hl ⟨h.1.1, _, _, spec_needBalloon hl h hw hb', fun σ1 v h1 => ?_, fun σ1 n h1 => ?_⟩
  · obtain ⟨rfl, hok, rfl⟩ := h1
    obtain ⟨⟨b1, -⟩, b2, b3, -⟩ := h.2.2.2.2.2 _ hok.2.1
    have hanS := (hw.2.2.2.2.2.1 _ hok.2.1).2.2.2.2.1
    -- the write, and the number before
    have hset : ∀ (ref : Nat) (o' : Int), ref = bRef A o' → ∀ x : Nat, x = gP σ1 5 (A 7 b.toNat) → ∀ σ2 : qS, σ2 = sP σ1 5 (A 7 b.toNat) ref → (¬ x = 0 → gK σ2 x = 1) ∧ ∀ v29 : Int, v29 = (if ¬ x = 0 then gI σ2 0 x else -1) → qClP A σ1 (.inl (an D b.toNat)) (dAn D b.toNat o') σ2 (.inl (some (vi v29))) := by
      intro ref o' href x hx σ2 hs2
      rw [href] at hs2
      rw [b3] at hx
      have hcr := CR_an hA hw h hs2
      have hfr : qFrm A σ1 σ2 := by
        intro y hy hn
        rw [hs2]
        exact ⟨rfl, fun _ => rfl, fun f => if_neg (fun z => hn 7 _ (by omega) z.2), fun _ => rfl, fun _ => rfl, rfl, rfl⟩
      by_cases c : an D b.toNat = -1
      · have e : x = 0 := by rw [hx]; unfold bRef; rw [if_pos c]
        refine ⟨fun z => absurd e z, fun v29 h29 => ⟨A, hA, fun _ _ _ _ => rfl, hcr, hfr, ?_⟩⟩
        rw [h29, if_neg (fun z => z e), c]; rfl
      · have e : x = A 7 (an D b.toNat).toNat := by rw [hx]; unfold bRef; rw [if_neg c]
        have hn2 : 0 ≤ an D b.toNat ∧ (an D b.toNat).toNat < nb D := by
          rcases hanS with z | z
          · exact absurd z c
          · exact z
        obtain ⟨⟨c1, c2, -⟩, -⟩ := h.2.2.2.2.2 _ hn2.2
        have hne : x ≠ 0 := by rw [e]; exact hA.2 _ _
        refine ⟨fun _ => by rw [hs2, e]; exact c1, fun v29 h29 => ⟨A, hA, fun _ _ _ _ => rfl, hcr, hfr, ?_⟩⟩
        rw [h29, if_pos hne, hs2, e]
        show Sum.inl (some (vi (gI σ1 0 (A 7 (an D b.toNat).toNat)))) = _
        rw [c2, Int.toNat_of_nonneg hn2.1]
        rfl
    refine ⟨ho, fun hno => ⟨h.1.1, _, _, spec_needBalloon hl h hw ho, fun σ2 v h2 => ?_, fun σ2 n h2 => ?_⟩, fun hyes => ⟨b1, fun x57 h57 σ59 h59 => ?_⟩⟩
    · obtain ⟨rfl, hok2, rfl⟩ := h2
      refine ⟨fun z => absurd z (hA.2 _ _), fun _ => ⟨(h.2.2.2.2.2 _ hok2.2.1).1.1, _, spec_readingKey hl hA hxr hw hok2.2, b1, _, spec_readingKey hl hA hxr hw hok.2, ?_, ?_, fun hlt x44 h44 σ46 h46 => ?_, fun hlt => ?_⟩⟩
      · have := ky_b hw hok2.2; unfold qR; omega
      · have := ky_b hw hok.2; unfold qR; omega
      · rw [cif_neg (fun z => z.elim (fun y => y hok) (fun y => y.2 hok2)), cif_neg (fun z => z.2 hlt), cif_neg (fun z => z.elim (fun w => w.elim (fun y => y hok) (fun y => y.2 hok2)) (fun y => y.2 hlt))]
        exact hset _ o (by unfold bRef; rw [if_neg hno]) x44 h44 σ46 h46
      · rw [cif_neg (fun z => z.elim (fun y => y hok) (fun y => y.2 hok2)), cif_pos ⟨hno, hlt⟩, cif_pos (Or.inr ⟨hno, hlt⟩)]
        exact ⟨A, hA, fun _ _ _ _ => rfl, h, frm_rf, rfl⟩
    · obtain ⟨rfl, hok2, rfl⟩ := h2
      rw [cif_pos (Or.inr ⟨hno, hok2⟩), cif_pos (Or.inl (Or.inr ⟨hno, hok2⟩))]
      exact ⟨A, hA, fun _ _ _ _ => rfl, h, frm_rf, rfl⟩
    · rw [cif_neg (fun z => z.elim (fun y => y hok) (fun y => y.1 hyes)), cif_neg (fun z => z.1 hyes), cif_neg (fun z => z.elim (fun w => w.elim (fun y => y hok) (fun y => y.1 hyes)) (fun y => y.1 hyes))]
      exact hset 0 o (by unfold bRef; rw [if_pos hyes]) x57 h57 σ59 h59
  · obtain ⟨rfl, hok, rfl⟩ := h1
    rw [cif_pos (Or.inl hok), cif_pos (Or.inl (Or.inl hok))]
    exact ⟨A, hA, fun _ _ _ _ => rfl, h, frm_rf, rfl⟩
end
