/-! the class: the order of reading -/
def XR (A : Nat → Nat → Nat) (D : qD) (σ : qS) : Prop := (gK σ (A 0 0) = 8 ∧ gP σ 282 (A 0 0) = A 3 0 ∧ gK σ (A 3 0) = 50 ∧ gL σ (A 3 0) = (List.range (nb D)).map (A 7)) ∧ (∀ p, p < np D → PgR A D σ p) ∧ (∀ q, q < nq D → PnR A D σ q) ∧ ∀ b, b < nb D → BlR A D σ b ∧ gI σ 6 (A 7 b) = gb D b ∧ gP σ 5 (A 7 b) = bRef A (an D b)
theorem CR_XR {A : Nat → Nat → Nat} {D : qD} {σ : qS} (h : CR A D σ) : XR A D σ :=
  ⟨⟨h.1.1, h.1.2.2.2.1, h.1.2.2.2.2.2.2.2.2.2.2.1, h.1.2.2.2.2.2.2.2.2.2.2.2⟩, fun p hp' => (h.2.2.2.1 p hp').1, fun q hq => (h.2.2.2.2.1 q hq).1, fun b hb => ⟨(h.2.2.2.2.2 b hb).1, (h.2.2.2.2.2 b hb).2.1, (h.2.2.2.2.2 b hb).2.2.1⟩⟩
section
variable {D : qD}
theorem alB_home (hw : WF0 D) {b : Nat} (hb' : alB D b) : alP D (hb D b) ∧ b ∈ hs D (hb D b) := by
  have h := hw.2.2.2.2.2.1 b hb'.1
  exact ⟨⟨h.2.1, (h.2.2.2.1 hb'.2).1⟩, (h.2.2.2.1 hb'.2).2⟩
theorem alP_home (hw : WF0 D) {q : Nat} (hq : alP D q) : hp D q < np D ∧ q ∈ row D (hp D q) := by
  have h := hw.2.2.2.2.1 q hq.1
  exact ⟨h.2.1, h.2.2.2.1 hq.2⟩
theorem ixP_lt (hw : WF0 D) {q : Nat} (hq : alP D q) : ixP D q < pn D (hp D q) ∧ ixP D q < 8 := by
  obtain ⟨h1, h2⟩ := alP_home hw hq
  have h3 := ix_lt h2
  have h4 := (hw.2.1 _ h1).2.2.1
  exact ⟨h3, by unfold ixP; unfold pn at h4; omega⟩
theorem ixB_lt (hw : WF0 D) {b : Nat} (hb' : alB D b) : ixB D b < (hs D (hb D b)).length ∧ ixB D b < 4 := by
  obtain ⟨h1, h2⟩ := alB_home hw hb'
  have h3 := ix_lt h2
  have h4 := (hw.2.2.2.2.1 _ h1.1).2.2.1.2.2.1
  exact ⟨h3, by unfold ixB; omega⟩
theorem rk_b (hw : WF0 D) {q : Nat} (hq : alP D q) : 0 ≤ rk D q ∧ rk D q < 80 := by
  have h1 := (ixP_lt hw hq).2
  have h2 := (alP_home hw hq).1
  have h3 := hw.1.1
  unfold rk
  omega
theorem ky_b (hw : WF0 D) {b : Nat} (hb' : alB D b) : 0 ≤ ky D b ∧ ky D b < 320 := by
  have h1 := (ixB_lt hw hb').2
  have h2 := rk_b hw (alB_home hw hb').1
  unfold ky
  omega
theorem rk_inj (hw : WF0 D) {q q' : Nat} (hq : alP D q) (hq' : alP D q') (h : rk D q = rk D q') : q = q' := by
  have h1 := (ixP_lt hw hq).2
  have h2 := (ixP_lt hw hq').2
  unfold rk at h
  have e1 : hp D q = hp D q' := by omega
  have e2 : ixP D q = ixP D q' := by omega
  have g1 := ix_get (alP_home hw hq).2
  have g2 := ix_get (alP_home hw hq').2
  unfold ixP at e2
  rw [← g1, ← g2, e2, e1]
theorem ky_inj (hw : WF0 D) {b b' : Nat} (hb1 : alB D b) (hb2 : alB D b') (h : ky D b = ky D b') : b = b' := by
  have h1 := (ixB_lt hw hb1).2
  have h2 := (ixB_lt hw hb2).2
  unfold ky at h
  have e1 : rk D (hb D b) = rk D (hb D b') := by omega
  have e2 : ixB D b = ixB D b' := by omega
  have e3 := rk_inj hw (alB_home hw hb1).1 (alB_home hw hb2).1 e1
  have g1 := ix_get (alB_home hw hb1).2
  have g2 := ix_get (alB_home hw hb2).2
  unfold ixB at e2
  rw [← g1, ← g2, e2, e3]
end
section
variable {g : qG} {l : Launch} {A : Nat → Nat → Nat} {D : qD} {σ : qS}
theorem spec_indexP (hl : l.stackTraces = false) (hA : qInj A) {p q : Nat} (h : PgR A D σ p) (hn : (row D p).Nodup) (hl8 : (row D p).length ≤ 8) (hm : q ∈ row D p) : qMet g l M_X4_indexOf [vr (A 5 p), vr (A 6 q)] σ (qPi σ ((row D p).idxOf q : Nat)) := by
  obtain ⟨p1, p2, p3, p4, p5, p6⟩ := h
  have hlt := ix_lt hm
  refine wm_X4_indexOf hl ⟨fun n x => ∃ k : Nat, x = k ∧ k ≤ (row D p).idxOf q ∧ n = 100 - k, ⟨_, 0, rfl, Nat.zero_le _, rfl⟩, ?_⟩
  rintro n x ⟨k, rfl, hk, rfl⟩
  rw [p3]
  refine ⟨p1, p5, _, spec_sizeM hl p5 p6, by unfold qR; omega, by unfold qR; omega, fun hd => by omega, fun hd => ⟨A 6 ((row D p).getD k 0), spec_getM hl p5 p6 rfl (by omega), fun hne x18 h18 => ⟨_, ?_, k + 1, by omega, ?_, rfl⟩, fun he => ⟨rfl, ?_⟩⟩⟩
  · omega
  · by_cases c : k = (row D p).idxOf q
    · exfalso
      apply hne
      rw [c, ix_get hm]
    · omega
  · have := qInj_i hA he
    have h2 := ix_at hn (i := k) (by omega)
    rw [this] at h2
    rw [h2]
theorem spec_indexB (hl : l.stackTraces = false) (hA : qInj A) {q b : Nat} (h : PnR A D σ q) (hn : (hs D q).Nodup) (hl8 : (hs D q).length ≤ 4) (hm : b ∈ hs D q) : qMet g l M_X5_indexOf [vr (A 6 q), vr (A 7 b)] σ (qPi σ ((hs D q).idxOf b : Nat)) := by
  obtain ⟨r1, r2, r3, r4, r5, r6, r7, r8, r9, r10, r11, r12, r13, r14, r15, r16, r17⟩ := h
  have hlt := ix_lt hm
  refine wm_X5_indexOf hl ⟨fun n x => ∃ k : Nat, x = k ∧ k ≤ (hs D q).idxOf b ∧ n = 100 - k, ⟨_, 0, rfl, Nat.zero_le _, rfl⟩, ?_⟩
  rintro n x ⟨k, rfl, hk, rfl⟩
  rw [r8]
  refine ⟨r1, r13, _, spec_sizeM hl r13 r14, by unfold qR; omega, by unfold qR; omega, fun hd => by omega, fun hd => ⟨A 7 ((hs D q).getD k 0), spec_getM hl r13 r14 rfl (by omega), fun hne x18 h18 => ⟨_, ?_, k + 1, by omega, ?_, rfl⟩, fun he => ⟨rfl, ?_⟩⟩⟩
  · omega
  · by_cases c : k = (hs D q).idxOf b
    · exfalso
      apply hne
      rw [c, ix_get hm]
    · omega
  · have := qInj_i hA he
    have h2 := ix_at hn (i := k) (by omega)
    rw [this] at h2
    rw [h2]
theorem spec_readingKey (hl : l.stackTraces = false) (hA : qInj A) (h : XR A D σ) (hw : WF0 D) {b : Nat} (hb' : alB D b) : qMet g l M_X0_readingKey [vr (A 7 b)] σ (qPi σ (ky D b)) := by
  obtain ⟨h1, h2, h3, h4⟩ := h
  obtain ⟨⟨b1, b2, b3, b4, b5, b6, b7, b8⟩, -⟩ := h4 b hb'.1
  obtain ⟨a1, a2⟩ := alB_home hw hb'
  obtain ⟨a3, a4⟩ := alP_home hw a1
  have hq := h3 _ a1.1
  have hp' := h2 _ a3
  have hS := hw.2.1 _ a3
  have hW := (hw.2.2.2.2.1 _ a1.1).2.2.1
  refine wm_X0_readingKey hl ⟨b1, ?_⟩
  rw [b6, hq.2.2.1]
  refine ⟨hq.1, fun x3 hx3 => ?_⟩
  subst hx3
  refine ⟨hp'.1, _, spec_indexP hl hA hp' hS.2.1 hS.2.2.1 a4, fun x8 h8 => ⟨_, spec_indexB hl hA hq hW.2.1 hW.2.2.1 a2, rfl, ?_⟩⟩
  rw [h8, hp'.2.1]
  unfold ky rk ixP ixB
  congr 3
  omega
theorem spec_sizeB (hl : l.stackTraces = false) (h : XR A D σ) : qMet g l M_Jx4a65c_size_8abf5 [vr (A 3 0)] σ (qPi σ (nb D)) := by
  have := spec_sizeM (g := g) hl h.1.2.2.1 h.1.2.2.2
  rwa [List.length_range] at this
theorem spec_getB (hl : l.stackTraces = false) (h : XR A D σ) {k : Nat} (hk : k < nb D) : qMet g l M_Jx4a65c_get_915e3 [vr (A 3 0), vi (k : Int)] σ (qPr σ (A 7 k)) := by
  have := spec_getM (g := g) (i := (k : Int)) (k := k) hl h.1.2.2.1 h.1.2.2.2 rfl (by rw [List.length_range]; exact hk)
  rwa [getD_range hk] at this
theorem gb_Q (hw : WF0 D) {b : Nat} (hb' : b < nb D) : qR (gb D b) := by
  have := (hw.2.2.2.2.2.1 b hb').1
  unfold qR; omega
theorem spec_answersComeLater (hl : l.stackTraces = false) (hA : qInj A) (h : XR A D σ) (hw : WF0 D) : qMet g l M_X7_answersComeLater [vr (A 0 0)] σ (qPi σ (cif (Ans D) 1 0)) := by
  have hn := hw.1.2.2
  refine wm_X7_answersComeLater hl ⟨fun n x => ∃ k : Nat, x = k ∧ k ≤ nb D ∧ n = 100 - k ∧ ∀ b, b < k → gb D b = 0 → an D b ≠ -1 → ky D (an D b).toNat < ky D b, ⟨_, 0, rfl, Nat.zero_le _, rfl, fun b z => absurd z (Nat.not_lt_zero _)⟩, ?_⟩
  rintro n x ⟨k, rfl, hk, rfl, hall⟩
  rw [h.1.2.1]
  refine ⟨h.1.1, h.1.2.2.1, _, spec_sizeB hl h, by unfold qR; omega, by unfold qR; omega, fun hd => ⟨rfl, ?_⟩, fun hd => ?_⟩
  · rw [cif_pos (show Ans D from fun b hb' => hall b (by have := hb'.1; omega) hb'.2)]
  have hkn : k < nb D := by omega
  obtain ⟨⟨b1, b2, b3, b4, b5, b6, b7, b8⟩, b9, b10⟩ := h.2.2.2 k hkn
  have hS := hw.2.2.2.2.2.1 k hkn
  refine ⟨A 7 k, spec_getB hl h hkn, Or.inr b1, b1, by rw [b9]; exact gb_Q hw hkn, ?_⟩
  rw [b9]
  have hstep : (gb D k = 0 → an D k ≠ -1 → ky D (an D k).toNat < ky D k) → ∀ x21 : Int, x21 = (k : Int) + 1 → ∃ n23 : Nat, n23 < 100 - k ∧ ∃ k' : Nat, x21 = k' ∧ k' ≤ nb D ∧ n23 = 100 - k' ∧ ∀ b, b < k' → gb D b = 0 → an D b ≠ -1 → ky D (an D b).toNat < ky D b := by
    intro hh x21 h21
    refine ⟨_, ?_, k + 1, by omega, by omega, rfl, fun b hb' => ?_⟩
    · omega
    · by_cases c : b = k
      · rw [c]; exact hh
      · exact hall b (by omega)
  refine ⟨fun hg => hstep (fun z => absurd z hg), fun hg => ?_⟩
  rw [b10]
  by_cases hv : an D k = -1
  · have e : bRef A (an D k) = 0 := by unfold bRef; rw [if_pos hv]
    rw [e]
    exact ⟨fun _ => hstep (fun _ z => absurd hv z), fun z => absurd rfl z⟩
  · have e : bRef A (an D k) = A 7 (an D k).toNat := by unfold bRef; rw [if_neg hv]
    rw [e]
    have hn2 : (an D k).toNat < nb D := by
      rcases hS.2.2.2.2.1 with z | z
      · exact absurd z hv
      · exact z.2
    have hal : alB D (an D k).toNat := ⟨hn2, hS.2.2.2.2.2 hg hv⟩
    have k1 := ky_b hw hal
    have k2 := ky_b hw (show alB D k from ⟨hkn, hg⟩)
    refine ⟨fun z => absurd z (hA.2 _ _), fun _ => ⟨(h.2.2.2 _ hn2).1.1, _, spec_readingKey hl hA h hw hal, _, spec_readingKey hl hA h hw ⟨hkn, hg⟩, by unfold qR; omega, by unfold qR; omega, fun hlt => hstep (fun _ _ => hlt), fun hlt => ⟨rfl, ?_⟩⟩⟩
    rw [cif_neg (fun z => hlt (z k ⟨hkn, hg⟩ hv))]
noncomputable def cntB (D : qD) (K : Int) : Int := ct (fun b => gb D b = 0 ∧ ky D b < K) (nb D)
theorem spec_count (hl : l.stackTraces = false) (hA : qInj A) (h : XR A D σ) (hw : WF0 D) {b : Nat} (hb' : alB D b) : qMet g l M_X7_countReadBefore [vr (A 0 0), vr (A 7 b)] σ (qPi σ (cntB D (ky D b))) := by
  have hn := hw.1.2.2
  have kb := ky_b hw hb'
  refine wm_X7_countReadBefore hl ⟨(h.2.2.2 b hb'.1).1.1, _, spec_readingKey hl hA h hw hb', fun n x4 x => ∃ k : Nat, x = k ∧ k ≤ nb D ∧ n = 100 - k ∧ x4 = ct (fun c => gb D c = 0 ∧ ky D c < ky D b) k, ⟨_, 0, rfl, Nat.zero_le _, rfl, rfl⟩, ?_⟩
  rintro n x4 x ⟨k, rfl, hk, rfl, rfl⟩
  rw [h.1.2.1]
  refine ⟨h.1.1, h.1.2.2.1, _, spec_sizeB hl h, by unfold qR; omega, by unfold qR; omega, fun hd => ⟨rfl, ?_⟩, fun hd => ?_⟩
  · unfold cntB
    rw [show k = nb D by omega]
  have hkn : k < nb D := by omega
  obtain ⟨⟨b1, b2, b3, b4, b5, b6, b7, b8⟩, b9, b10⟩ := h.2.2.2 k hkn
  refine ⟨A 7 k, spec_getB hl h hkn, Or.inr b1, b1, by rw [b9]; exact gb_Q hw hkn, ?_⟩
  rw [b9]
  refine ⟨fun hg x25 h25 => ⟨_, ?_, k + 1, by omega, by omega, rfl, ?_⟩, fun hg => ?_⟩
  · omega
  · rw [ct_s, if_neg (fun z => hg z.1)]; omega
  have k2 := ky_b hw (show alB D k from ⟨hkn, hg⟩)
  refine ⟨_, spec_readingKey hl hA h hw ⟨hkn, hg⟩, by unfold qR; omega, by unfold qR; omega, fun hle x33 h33 => ⟨_, ?_, k + 1, by omega, by omega, rfl, ?_⟩, fun hle x36 h36 x38 h38 => ⟨_, ?_, k + 1, by omega, by omega, rfl, ?_⟩⟩
  · omega
  · rw [ct_s, if_neg (fun z => by omega)]; omega
  · omega
  · rw [ct_s, if_pos ⟨hg, by omega⟩, h36]
noncomputable def o_placeOf (D : qD) (b : Int) : Int ⊕ Nat := cif (blOk D b) (.inl (cntB D (ky D b.toNat))) (.inr 2)
theorem spec_placeOf (hl : l.stackTraces = false) (hA : qInj A) (h : CR A D σ) (hw : WF0 D) {b : Int} (hb' : qR b) : qMet g l M_X7_placeOf [vr (A 0 0), vi b] σ (qQo σ (o_placeOf D b)) := by
  refine wm_X7_placeOf hl ⟨h.1.1, _, _, spec_needBalloon hl h hw hb', fun σ1 v h1 => ?_, fun σ1 n h1 => ?_⟩
  · obtain ⟨rfl, hok, rfl⟩ := h1
    unfold o_placeOf
    rw [cif_pos hok]
    exact ⟨h.1.1, _, spec_count hl hA (CR_XR h) hw hok.2, rfl, rfl⟩
  · obtain ⟨rfl, hok, rfl⟩ := h1
    unfold o_placeOf
    rw [cif_neg hok]
    exact ⟨rfl, rfl⟩
noncomputable def o_balloons (D : qD) : Int := ct (fun b => gb D b = 0) (nb D)
theorem spec_balloons (hl : l.stackTraces = false) (h : CR A D σ) (hw : WF0 D) : qMet g l M_X7_balloons [vr (A 0 0)] σ (qQo σ (.inl (o_balloons D))) := by
  have hx := CR_XR h
  have hn := hw.1.2.2
  refine wm_X7_balloons hl ⟨fun n x4 x => ∃ k : Nat, x = k ∧ k ≤ nb D ∧ n = 100 - k ∧ x4 = ct (fun c => gb D c = 0) k, ⟨_, 0, rfl, Nat.zero_le _, rfl, rfl⟩, ?_⟩
  rintro n x4 x ⟨k, rfl, hk, rfl, rfl⟩
  rw [hx.1.2.1]
  refine ⟨hx.1.1, hx.1.2.2.1, _, spec_sizeB hl hx, by unfold qR; omega, by unfold qR; omega, fun hd => ⟨rfl, ?_⟩, fun hd => ?_⟩
  · unfold o_balloons
    rw [show k = nb D by omega]
  have hkn : k < nb D := by omega
  obtain ⟨⟨b1, b2, b3, b4, b5, b6, b7, b8⟩, b9, b10⟩ := hx.2.2.2 k hkn
  refine ⟨A 7 k, spec_getB hl hx hkn, Or.inr b1, b1, by rw [b9]; exact gb_Q hw hkn, ?_⟩
  rw [b9]
  refine ⟨fun hg x25 h25 => ⟨_, ?_, k + 1, by omega, by omega, rfl, ?_⟩, fun hg x36 h36 x38 h38 => ⟨_, ?_, k + 1, by omega, by omega, rfl, ?_⟩⟩
  · omega
  · rw [ct_s, if_neg hg]; omega
  · omega
  · rw [ct_s, if_pos hg, h36]
/-- whether a balloon is answered by an alive one -/
def isAn (D : qD) (b : Nat) : Prop := ∃ c, alB D c ∧ an D c = b
theorem bRef_eq (hA : qInj A) {v : Int} {b : Nat} (h0 : v = -1 ∨ 0 ≤ v) : bRef A v = A 7 b ↔ v = b := by
  unfold bRef
  by_cases c : v = -1
  · rw [if_pos c]
    exact ⟨fun z => absurd z.symm (hA.2 _ _), fun z => by omega⟩
  · rw [if_neg c]
    exact ⟨fun z => by have := qInj_i hA z; omega, fun z => by rw [z]; rfl⟩
theorem an_c (hw : WF0 D) {b : Nat} (hb' : b < nb D) : an D b = -1 ∨ 0 ≤ an D b := by
  rcases (hw.2.2.2.2.2.1 b hb').2.2.2.2.1 with z | z
  · exact Or.inl z
  · exact Or.inr z.1
theorem spec_isAnswered (hl : l.stackTraces = false) (hA : qInj A) (h : CR A D σ) (hw : WF0 D) {b : Nat} : qMet g l M_X7_isAnswered [vr (A 0 0), vr (A 7 b)] σ (qPi σ (cif (isAn D b) 1 0)) := by
  have hx := CR_XR h
  have hn := hw.1.2.2
  refine wm_X7_isAnswered hl ⟨fun n x => ∃ k : Nat, x = k ∧ k ≤ nb D ∧ n = 100 - k ∧ ∀ c, c < k → gb D c = 0 → an D c ≠ b, ⟨_, 0, rfl, Nat.zero_le _, rfl, fun b z => absurd z (Nat.not_lt_zero _)⟩, ?_⟩
  rintro n x ⟨k, rfl, hk, rfl, hall⟩
  rw [hx.1.2.1]
  refine ⟨hx.1.1, hx.1.2.2.1, _, spec_sizeB hl hx, by unfold qR; omega, by unfold qR; omega, fun hd => ⟨rfl, ?_⟩, fun hd => ?_⟩
  · rw [cif_neg]
    rintro ⟨c, hc, hc2⟩
    exact hall c (by have := hc.1; omega) hc.2 hc2
  have hkn : k < nb D := by omega
  obtain ⟨⟨b1, b2, b3, b4, b5, b6, b7, b8⟩, b9, b10⟩ := hx.2.2.2 k hkn
  refine ⟨A 7 k, spec_getB hl hx hkn, Or.inr b1, b1, by rw [b9]; exact gb_Q hw hkn, ?_⟩
  rw [b9, b10, bRef_eq hA (an_c hw hkn)]
  have hstep : (gb D k = 0 → an D k ≠ b) → ∀ x21 : Int, x21 = (k : Int) + 1 → ∃ n23 : Nat, n23 < 100 - k ∧ ∃ k' : Nat, x21 = k' ∧ k' ≤ nb D ∧ n23 = 100 - k' ∧ ∀ c, c < k' → gb D c = 0 → an D c ≠ b := by
    intro hh x21 h21
    refine ⟨_, ?_, k + 1, by omega, by omega, rfl, fun c hb' => ?_⟩
    · omega
    · by_cases c' : c = k
      · rw [c']; exact hh
      · exact hall c (by omega)
  refine ⟨fun hg => hstep (fun z => absurd z hg), fun hg => ⟨fun hne => hstep (fun _ => hne), fun he => ⟨rfl, ?_⟩⟩⟩
  rw [cif_pos ⟨k, ⟨hkn, hg⟩, he⟩]
/-- whether a balloon of the panel is answered from elsewhere -/
def isAnE (D : qD) (q : Nat) : Prop := ∃ c, alB D c ∧ hb D c ≠ q ∧ an D c ≠ -1 ∧ hb D (an D c).toNat = q
theorem spec_isAnsweredE (hl : l.stackTraces = false) (hA : qInj A) (h : CR A D σ) (hw : WF0 D) {q : Nat} : qMet g l M_X7_isAnsweredFromElsewhere [vr (A 0 0), vr (A 6 q)] σ (qPi σ (cif (isAnE D q) 1 0)) := by
  have hx := CR_XR h
  have hn := hw.1.2.2
  refine wm_X7_isAnsweredFromElsewhere hl ⟨fun n x => ∃ k : Nat, x = k ∧ k ≤ nb D ∧ n = 100 - k ∧ ∀ c, c < k → gb D c = 0 → hb D c ≠ q → an D c ≠ -1 → hb D (an D c).toNat ≠ q, ⟨_, 0, rfl, Nat.zero_le _, rfl, fun b z => absurd z (Nat.not_lt_zero _)⟩, ?_⟩
  rintro n x ⟨k, rfl, hk, rfl, hall⟩
  rw [hx.1.2.1]
  refine ⟨hx.1.1, hx.1.2.2.1, _, spec_sizeB hl hx, by unfold qR; omega, by unfold qR; omega, fun hd => ⟨rfl, ?_⟩, fun hd => ?_⟩
  · rw [cif_neg]
    rintro ⟨c, hc, hc2, hc3, hc4⟩
    exact hall c (by have := hc.1; omega) hc.2 hc2 hc3 hc4
  have hkn : k < nb D := by omega
  obtain ⟨⟨b1, b2, b3, b4, b5, b6, b7, b8⟩, b9, b10⟩ := hx.2.2.2 k hkn
  have hS := hw.2.2.2.2.2.1 k hkn
  refine ⟨A 7 k, spec_getB hl hx hkn, Or.inr b1, b1, by rw [b9]; exact gb_Q hw hkn, ?_⟩
  rw [b9, b10, b6]
  have hstep : (gb D k = 0 → hb D k ≠ q → an D k ≠ -1 → hb D (an D k).toNat ≠ q) → ∀ x21 : Int, x21 = (k : Int) + 1 → ∃ n23 : Nat, n23 < 100 - k ∧ ∃ k' : Nat, x21 = k' ∧ k' ≤ nb D ∧ n23 = 100 - k' ∧ ∀ c, c < k' → gb D c = 0 → hb D c ≠ q → an D c ≠ -1 → hb D (an D c).toNat ≠ q := by
    intro hh x21 h21
    refine ⟨_, ?_, k + 1, by omega, by omega, rfl, fun c hb' => ?_⟩
    · omega
    · by_cases c' : c = k
      · rw [c']; exact hh
      · exact hall c (by omega)
  refine ⟨fun hg => hstep (fun z => absurd z hg), fun hg => ⟨fun he => hstep (fun _ z => absurd (qInj_i hA he) z), fun hne => ?_⟩⟩
  have hne' : hb D k ≠ q := fun z => hne (by rw [z])
  by_cases hv : an D k = -1
  · have e : bRef A (an D k) = 0 := by unfold bRef; rw [if_pos hv]
    rw [e]
    exact ⟨fun _ => hstep (fun _ _ z => absurd hv z), fun z => absurd rfl z⟩
  · have e : bRef A (an D k) = A 7 (an D k).toNat := by unfold bRef; rw [if_neg hv]
    rw [e]
    have hn2 : (an D k).toNat < nb D := by
      rcases hS.2.2.2.2.1 with z | z
      · exact absurd z hv
      · exact z.2
    obtain ⟨⟨c1, c2, c3, c4, c5, c6, c7, c8⟩, c9, c10⟩ := hx.2.2.2 _ hn2
    rw [c6]
    refine ⟨fun z => absurd z (hA.2 _ _), fun _ => ⟨c1, fun hh => hstep (fun _ _ _ z => hh (by rw [z])), fun hh => ⟨rfl, ?_⟩⟩⟩
    rw [cif_pos ⟨k, ⟨hkn, hg⟩, hne', hv, qInj_i hA hh⟩]
end
