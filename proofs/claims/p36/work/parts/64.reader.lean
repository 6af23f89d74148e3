/-! the class: the balloon at a place; the reader -/
def res (o : Int ⊕ Nat) : qRs := match o with | .inl v => .inl (some (vi v)) | .inr n => .inr n
def qFrm (A : Nat → Nat → Nat) (σ σ' : qS) : Prop := ∀ x, gK σ x ≠ 0 → (∀ k i, k < 20 → x ≠ A k i) → qSame σ σ' x
def qClP (A : Nat → Nat → Nat) (σ : qS) (o : Int ⊕ Nat) (D' : qD) : qS → qRs → Prop := fun σ' r => ∃ A', qInj A' ∧ (∀ k i, (20 ≤ k ∨ k = 0) → gK σ (A k i) ≠ 0 → A' k i = A k i) ∧ CR A' D' σ' ∧ qFrm A σ σ' ∧ r = res o
/-- only the reader is changed -/
def qRdC (A : Nat → Nat → Nat) (σ σ' : qS) : Prop := gK σ' = gK σ ∧ gL σ' = gL σ ∧ gN σ' = gN σ ∧ gA σ' = gA σ ∧ (∀ f x, ¬ (f = 241 ∧ x = A 8 0) → gI σ' f x = gI σ f x) ∧ (∀ f x, ¬ (f = 242 ∧ x = A 8 0) → gP σ' f x = gP σ f x) ∧ ∀ x, x ≠ A 19 0 → ∀ i, gR σ' x i = gR σ x i
def dRd (D : qD) (ks : List Nat) (v : Int) : qD := dI (dL D 2 0 ks) 11 0 v
section
variable {g : qG} {l : Launch} {A : Nat → Nat → Nat} {D : qD} {σ : qS}
theorem gP_sP {f f' a b v : Nat} : gP (sP σ f a v) f' b = if f' = f ∧ b = a then v else gP σ f' b := rfl
theorem gR_sR {a b x : Nat} {i j : Int} : gR (sR σ a i x) b j = if b = a ∧ j = i then x else gR σ b j := rfl
theorem LyEq_rd {ks : List Nat} {v : Int} {p : Nat} : LyEq D (dRd D ks v) p := ⟨rfl, rfl, rfl, fun q _ => ⟨rfl, rfl, rfl, rfl, rfl, fun b _ => rfl⟩⟩
theorem CR_rd (hA : qInj A) (hw : WF0 D) {σ' : qS} {ks : List Nat} {v : Int} (h : CR A D σ) (hc : qRdC A σ σ') (hr : gI σ' 241 (A 8 0) = ks.length ∧ (∀ i : Nat, i < ks.length → gR σ' (A 19 0) i = A 6 (ks.getD i 0)) ∧ gP σ' 242 (A 8 0) = pRef A v) : CR A (dRd D ks v) σ' := by
  obtain ⟨c1, c2, c3, c4, c5, c6, c7⟩ := hc
  have i1 : ∀ f x, f ≠ 241 → gI σ' f x = gI σ f x := fun f x hf => c5 f x (fun z => hf z.1)
  have i2 : ∀ f x, f ≠ 242 → gP σ' f x = gP σ f x := fun f x hf => c6 f x (fun z => hf z.1)
  obtain ⟨h1, h2, h3, h4, h5, h6⟩ := h
  have b1 : ∀ (x : Nat) (b : Bx), BxR σ x b → BxR σ' x b := by
    intro x b hb
    unfold BxR at hb ⊢
    rw [i1 40 x (by decide), i1 41 x (by decide), i1 42 x (by decide), i1 43 x (by decide)]
    exact hb
  refine ⟨?_, ?_, ?_, fun p hp' => ?_, fun q hq => ?_, fun b hb => ?_⟩
  · unfold BsR at h1 ⊢
    rw [c1, c2, i2 280 _ (by decide), i2 281 _ (by decide), i2 282 _ (by decide), i2 283 _ (by decide), i2 284 _ (by decide)]
    exact h1
  · unfold LyR at h2 ⊢
    rw [c1, c3, c4, i2 120 _ (by decide), i2 121 _ (by decide)]
    exact h2
  · obtain ⟨r1, r2, r3, r4, r5, r6, r7⟩ := h3
    unfold RdR
    rw [c1, c3, i2 240 _ (by decide)]
    exact ⟨r1, r2, r3, r4, hr⟩
  · obtain ⟨p1, p2, p3⟩ := h4 p hp'
    unfold PgC PgR
    rw [c1, c2, i1 160 _ (by decide), i1 162 _ (by decide), i1 165 _ (by decide), i1 163 _ (by decide), i2 161 _ (by decide)]
    exact ⟨p1, p2, p3.trans (by rw [LyEq_rows LyEq_rd])⟩
  · obtain ⟨⟨a1, a2, a3, a4, a5, a6, a7, a8, a9, a10, a11, a12, a13, a14, a15, a16, a17⟩, p2, p3⟩ := h5 q hq
    unfold PnC PnR FcR
    rw [c1, c2, i1 200 _ (by decide), i1 202 _ (by decide), i1 203 _ (by decide), i1 204 _ (by decide), i1 211 _ (by decide), i1 209 _ (by decide), i2 201 _ (by decide), i2 205 _ (by decide), i2 206 _ (by decide), i2 207 _ (by decide), i2 208 _ (by decide)]
    refine ⟨⟨a1, a2, a3, a4, a5, a6, a7, a8, a9, a10, a11, a12, a13, a14, a15, a16, fun i hi => ?_⟩, p2, fun hg => ?_⟩
    rotate_left
    · have hal := alP_home hw (show alP D q from ⟨hq, hg⟩)
      obtain ⟨l1, l2⟩ := LyEq_LB (WF0_Pg hw hal.1) (LyEq_rd (ks := ks) (v := v)) hal.2 rfl rfl
      rw [l1, l2]
      exact ⟨(p3 hg).1, b1 _ _ (p3 hg).2⟩
    rw [i1 80 _ (by decide), i1 81 _ (by decide), i1 82 _ (by decide)]
    exact a17 i hi
  · obtain ⟨p1, p2, p3, p4⟩ := h6 b hb
    unfold BlC BlR
    rw [c1, i1 0 _ (by decide), i1 1 _ (by decide), i1 6 _ (by decide), i2 2 _ (by decide), i2 3 _ (by decide), i2 4 _ (by decide), i2 5 _ (by decide)]
    refine ⟨p1, p2, p3, fun hg => ?_⟩
    have hbl := alB_home hw (show alB D b from ⟨hb, hg⟩)
    have hal := alP_home hw hbl.1
    rw [LyEq_FB (WF0_Pg hw hal.1) (LyEq_rd (ks := ks) (v := v)) hal.2 rfl rfl rfl rfl]
    exact b1 _ _ (p4 hg)
theorem frm_rd (hA : qInj A) {σ' : qS} (hc : qRdC A σ σ') : qFrm A σ σ' := by
  intro x hx hn
  obtain ⟨c1, c2, c3, c4, c5, c6, c7⟩ := hc
  refine ⟨by rw [c1], fun f => c5 f x (fun z => hn 8 0 (by omega) z.2), fun f => c6 f x (fun z => hn 8 0 (by omega) z.2), fun i => by rw [c4], fun i => c7 x (hn 19 0 (by omega)) i, by rw [c2], by rw [c3]⟩
theorem frm_rf : qFrm A σ σ := fun x _ _ => qSame_rf σ x
theorem spec_numberOf (hl : l.stackTraces = false) (hA : qInj A) (h : CR A D σ) {v : Int} (hv : v = -1 ∨ (0 ≤ v ∧ v.toNat < nq D)) : qMet g l M_X7_numberOf [vr (pRef A v)] σ (qPi σ v) := by
  rcases hv with rfl | ⟨hv, hn⟩
  · exact wm_X7_numberOf hl ⟨fun z => absurd rfl z, fun v3 h3 => ⟨rfl, by rw [h3]; rfl⟩⟩
  · have e : pRef A v = A 6 v.toNat := by unfold pRef; rw [if_neg (by omega)]
    have hP := (h.2.2.2.2.1 _ hn).1
    rw [e]
    refine wm_X7_numberOf hl ⟨fun _ => hP.1, fun v3 h3 => ⟨rfl, ?_⟩⟩
    rw [h3, if_pos (hA.2 _ _), hP.2.1]
    congr 3
    omega
theorem nxt_c (hw : WF0 D) (hA : qInj A) {kv : Int} (h : NX D (rkv D kv) (nxt D kv)) : nxt D kv = -1 ∨ (0 ≤ nxt D kv ∧ alP D (nxt D kv).toNat) := by
  rcases h with h | h
  · exact Or.inl h.1
  · exact Or.inr ⟨h.1, h.2.1⟩
theorem least_rk {P : Nat → Prop} (f : Nat → Int) : ∀ n, (∃ w, w < n ∧ P w) → ∃ w, w < n ∧ P w ∧ ∀ w', w' < n → P w' → f w ≤ f w'
  | 0, ⟨w, h, _⟩ => absurd h (Nat.not_lt_zero _)
  | n + 1, ⟨w, h, hp'⟩ => by
    by_cases c : ∃ w, w < n ∧ P w
    · obtain ⟨w1, h1, h2, h3⟩ := least_rk f n c
      by_cases d : P n ∧ f n < f w1
      · refine ⟨n, by omega, d.1, fun w' hw' hp2 => ?_⟩
        by_cases e : w' = n
        · rw [e]; exact Int.le_refl _
        · have := h3 w' (by omega) hp2
          omega
      · refine ⟨w1, by omega, h2, fun w' hw' hp2 => ?_⟩
        by_cases e : w' = n
        · subst e
          rcases Int.lt_or_le (f w') (f w1) with z | z
          · exact absurd ⟨hp2, z⟩ d
          · exact z
        · exact h3 w' (by omega) hp2
    · have hwn : w = n := by
        rcases Nat.lt_or_ge w n with z | z
        · exact absurd ⟨w, z, hp'⟩ c
        · omega
      subst hwn
      refine ⟨w, by omega, hp', fun w' hw' hp2 => ?_⟩
      by_cases e : w' = w
      · rw [e]; exact Int.le_refl _
      · exact absurd ⟨w', by omega, hp2⟩ c
theorem NX_ex (K : Int) : ∃ v, NX D K v := by
  by_cases c : ∃ w, w < nq D ∧ (gq D w = 0 ∧ K < rk D w)
  · obtain ⟨w, h1, h2, h3⟩ := least_rk (rk D) _ c
    exact ⟨w, Or.inr ⟨by omega, by rw [Int.toNat_natCast]; exact ⟨h1, h2.1⟩, by rw [Int.toNat_natCast]; exact h2.2, fun w' hw' hlt => by rw [Int.toNat_natCast]; exact h3 w' hw'.1 ⟨hw'.2, hlt⟩⟩⟩
  · refine ⟨-1, Or.inl ⟨rfl, fun w hw' => ?_⟩⟩
    rcases Int.lt_or_le K (rk D w) with z | z
    · exact absurd ⟨w, hw'.1, hw'.2, z⟩ c
    · exact z
theorem PV_ex (K : Int) : ∃ v, PV D K v := by
  by_cases c : ∃ w, w < nq D ∧ (gq D w = 0 ∧ rk D w < K)
  · obtain ⟨w, h1, h2, h3⟩ := least_rk (fun w => - rk D w) _ c
    exact ⟨w, Or.inr ⟨by omega, by rw [Int.toNat_natCast]; exact ⟨h1, h2.1⟩, by rw [Int.toNat_natCast]; exact h2.2, fun w' hw' hlt => by rw [Int.toNat_natCast]; have := h3 w' hw'.1 ⟨hw'.2, hlt⟩; omega⟩⟩
  · refine ⟨-1, Or.inl ⟨rfl, fun w hw' => ?_⟩⟩
    rcases Int.lt_or_le (rk D w) K with z | z
    · exact absurd ⟨w, hw'.1, hw'.2, z⟩ c
    · exact z
theorem tho_sp {P : Int → Prop} (h : ∃ v, P v) : P (tho P) := by
  unfold tho
  rw [dif_pos h]
  exact Classical.choose_spec h
theorem nxt_sp (v : Int) : NX D (rkv D v) (nxt D v) := tho_sp (NX_ex _)
theorem prv_sp (v : Int) : PV D (rkv D v) (prv D v) := tho_sp (PV_ex _)
theorem nxt_al (v : Int) : nxt D v = -1 ∨ (0 ≤ nxt D v ∧ alP D (nxt D v).toNat) := by
  rcases nxt_sp (D := D) v with h | h
  · exact Or.inl h.1
  · exact Or.inr ⟨h.1, h.2.1⟩
theorem prv_al (v : Int) : prv D v = -1 ∨ (0 ≤ prv D v ∧ alP D (prv D v).toNat) := by
  rcases prv_sp (D := D) v with h | h
  · exact Or.inl h.1
  · exact Or.inr ⟨h.1, h.2.1⟩
theorem al_nq {v : Int} (h : v = -1 ∨ (0 ≤ v ∧ alP D v.toNat)) : v = -1 ∨ (0 ≤ v ∧ v.toNat < nq D) := by
  rcases h with h | h
  · exact Or.inl h
  · exact Or.inr ⟨h.1, h.2.1⟩
def dGo (D : qD) (q : Nat) : qD := if he D = -1 then dRd D (kp D) q else dRd D (kp D ++ [(he D).toNat]) q
/-- the reader goes to a panel -/
theorem spec_goTo (hl : l.stackTraces = false) (hA : qInj A) (h : CR A D σ) (hw : WF0 D) {q : Nat} (hk : (kp D).length < 512) : qMet g l M_X6_goTo [vr (A 8 0), vr (A 6 q)] σ (qTv0 (fun σ' => CR A (dGo D q) σ' ∧ qRdC A σ σ')) := by
  obtain ⟨r1, r2, r3, r4, r5, r6, r7⟩ := h.2.2.1
  have hheal := hw.2.2.2.2.2.2.1
  have rf : qRdC A σ σ := ⟨rfl, rfl, rfl, rfl, fun _ _ _ => rfl, fun _ _ _ => rfl, fun _ _ _ => rfl⟩
  refine wm_X6_goTo hl ⟨r1, ?_⟩
  rw [r7, r5, r2, r4]
  by_cases c : he D = -1
  · have e : pRef A (he D) = 0 := by unfold pRef; rw [if_pos c]
    have e2 : dGo D q = dRd D (kp D) q := by unfold dGo; rw [if_pos c]
    rw [e, e2]
    refine ⟨fun _ σ3 h3 => ⟨rfl, ?_⟩, fun z => absurd rfl z⟩
    have hc : qRdC A σ σ3 := by
      rw [h3]
      exact ⟨rfl, rfl, rfl, rfl, fun _ _ _ => rfl, fun f x hn => if_neg hn, fun _ _ _ => rfl⟩
    refine ⟨CR_rd hA hw h hc ⟨?_, ?_, ?_⟩, hc⟩
    · rw [h3]; exact r5
    · rw [h3]; exact r6
    · rw [h3, pRef_n]; exact if_pos ⟨rfl, rfl⟩
  · have e : pRef A (he D) = A 6 (he D).toNat := by unfold pRef; rw [if_neg c]
    have e2 : dGo D q = dRd D (kp D ++ [(he D).toNat]) q := by unfold dGo; rw [if_neg c]
    have hal : alP D (he D).toNat := by
      rcases hheal with z | z
      · exact absurd z c
      · exact z.2
    rw [e, e2]
    refine ⟨fun z => absurd z (hA.2 _ _), fun _ => ⟨by unfold qR; omega, fun z => by omega, fun _ => ⟨⟨by decide, Or.inl r3⟩, by unfold qR; omega, fun z => by omega, fun _ => ⟨r3, ⟨by omega, by rw [r4]; omega⟩, Or.inr (Or.inl ⟨rfl, (h.2.2.2.2.1 _ hal.1).1.1⟩), fun σ17 h17 σ19 h19 σ21 h21 => ⟨rfl, ?_⟩⟩⟩⟩⟩
    have hc : qRdC A σ σ21 := by
      rw [h21, h19, h17]
      refine ⟨rfl, rfl, rfl, rfl, fun f x hn => if_neg hn, fun f x hn => if_neg hn, fun x hx i => if_neg (fun z => hx z.1)⟩
    refine ⟨CR_rd hA hw h hc ⟨?_, fun i hi => ?_, ?_⟩, hc⟩
    · rw [h21, h19, h17]
      show (if 241 = 241 ∧ A 8 0 = A 8 0 then gI σ 241 (A 8 0) + 1 else _) = _
      rw [if_pos ⟨rfl, rfl⟩, r5, List.length_append]
      simp
    · rw [h21, h19, h17]
      show (if A 19 0 = A 19 0 ∧ (i : Int) = (kp D).length then A 6 (he D).toNat else gR σ (A 19 0) i) = _
      rw [List.length_append] at hi
      simp at hi
      by_cases c2 : i = (kp D).length
      · rw [if_pos ⟨rfl, by omega⟩, c2]
        simp
      · rw [if_neg (fun z => c2 (by omega)), r6 i (by omega), List.getD_eq_getElem?_getD, List.getD_eq_getElem?_getD, List.getElem?_append_left (by omega)]
    · rw [h21, pRef_n]; exact if_pos ⟨rfl, rfl⟩
noncomputable def d_open (D : qD) : qD := dRd D [] (nxt D (-1))
theorem spec_open (hl : l.stackTraces = false) (hA : qInj A) (h : CR A D σ) (hw : WF0 D) : qMet g l M_X7_open [vr (A 0 0)] σ (qClP A σ (.inl (nxt D (-1))) (d_open D)) := by
  obtain ⟨r1, r2, r3, r4, r5, r6, r7⟩ := h.2.2.1
  have h0 : pRef A (-1) = 0 := rfl
  refine wm_X7_open hl ⟨h.1.1, _, by have := spec_readBehind (g := g) hl hA h hw (kv := -1) (Or.inl rfl); rw [h0] at this; exact this, by rw [h.1.2.2.2.2.2.1]; exact r1, ?_⟩
  rw [h.1.2.2.2.2.2.1]
  refine ⟨fun σ4 => CR A (d_open D) σ4 ∧ qRdC A σ σ4, wm_X6_beginAt hl ⟨r1, fun σ2 h2 σ4 h4 => ⟨rfl, ?_⟩⟩, fun σ10 h10 => ?_⟩
  · have hc : qRdC A σ σ4 := by
      rw [h4, h2]
      exact ⟨rfl, rfl, rfl, rfl, fun f x hn => if_neg hn, fun f x hn => if_neg hn, fun _ _ _ => rfl⟩
    refine ⟨CR_rd hA hw h hc ⟨?_, fun i hi => absurd hi (Nat.not_lt_zero _), ?_⟩, hc⟩
    · rw [h4]; exact if_pos ⟨rfl, rfl⟩
    · rw [h4, h2]; exact if_pos ⟨rfl, rfl⟩
  · obtain ⟨k1, k2⟩ := h10
    have e := k1.1.2.2.2.2.2.1
    rw [e]
    have r7' := k1.2.2.1.2.2.2.2.2.2
    rw [r7']
    refine ⟨k1.1.1, k1.2.2.1.1, _, spec_numberOf hl hA k1 (v := nxt D (-1)) (al_nq (nxt_al _)), A, hA, fun _ _ _ _ => rfl, k1, frm_rd hA k2, rfl⟩
noncomputable def o_forth (D : qD) : Int := if he D = -1 then -1 else nxt D (he D)
noncomputable def d_forth (D : qD) : qD := if he D = -1 ∨ nxt D (he D) = -1 then D else dGo D (nxt D (he D)).toNat
theorem spec_forth (hl : l.stackTraces = false) (hA : qInj A) (h : CR A D σ) (hw : WF0 D) (hk : (kp D).length < 512) : qMet g l M_X7_forth [vr (A 0 0)] σ (qClP A σ (.inl (o_forth D)) (d_forth D)) := by
  obtain ⟨r1, r2, r3, r4, r5, r6, r7⟩ := h.2.2.1
  have hheal := hw.2.2.2.2.2.2.1
  refine wm_X7_forth hl ⟨h.1.1, by rw [h.1.2.2.2.2.2.1]; exact r1, ?_⟩
  rw [h.1.2.2.2.2.2.1, r7]
  unfold o_forth d_forth
  by_cases c : he D = -1
  · have e : pRef A (he D) = 0 := by unfold pRef; rw [if_pos c]
    rw [e, if_pos c, if_pos (Or.inl c)]
    refine ⟨fun z => absurd rfl z, fun _ => ⟨_, spec_numberOf (v := -1) hl hA h (Or.inl rfl), A, hA, fun _ _ _ _ => rfl, h, frm_rf, rfl⟩⟩
  · have e : pRef A (he D) ≠ 0 := by unfold pRef; rw [if_neg c]; exact hA.2 _ _
    have hpo : pnOk D (he D) := by
      rcases hheal with z | z
      · exact absurd z c
      · exact z
    rw [if_neg c]
    refine ⟨fun _ => ⟨_, spec_readBehind hl hA h hw (Or.inr hpo), ?_⟩, fun z => absurd z e⟩
    have hnx := nxt_al (D := D) (he D)
    refine ⟨fun hz => ?_, fun hz => ?_⟩
    · have h1 : nxt D (he D) = -1 := by
        rcases hnx with z | z
        · exact z
        · unfold pRef at hz
          rw [if_neg (by omega)] at hz
          exact absurd hz (hA.2 _ _)
      rw [if_pos (Or.inr h1)]
      exact ⟨_, spec_numberOf hl hA h (al_nq hnx), A, hA, fun _ _ _ _ => rfl, h, frm_rf, rfl⟩
    · have h1 : nxt D (he D) ≠ -1 := fun z => hz (by unfold pRef; rw [if_pos z])
      have h2 : pRef A (nxt D (he D)) = A 6 (nxt D (he D)).toNat := by unfold pRef; rw [if_neg h1]
      rw [if_neg (fun z => z.elim c h1), h2]
      refine ⟨_, spec_goTo hl hA h hw hk, fun σ14 h14 => ⟨nxt D (he D), ?_, A, hA, fun _ _ _ _ => rfl, h14.1, frm_rd hA h14.2, rfl⟩⟩
      rw [← h2]
      refine spec_numberOf hl hA h14.1 ?_
      rcases al_nq hnx with z | z
      · exact absurd z h1
      · refine Or.inr ⟨z.1, ?_⟩
        have : nq (dGo D (nxt D (he D)).toNat) = nq D := by unfold dGo; split <;> rfl
        rw [this]; exact z.2
noncomputable def o_jump (D : qD) (q : Int) : Int ⊕ Nat := cif (pnOk D q) (.inl (kp (dGo D q.toNat)).length) (.inr 2)
noncomputable def d_jump (D : qD) (q : Int) : qD := cif (pnOk D q) (dGo D q.toNat) D
def lastK (D : qD) : Nat := (kp D).getD ((kp D).length - 1) 0
def o_back (D : qD) : Int := if (kp D).length = 0 then -1 else lastK D
def d_back (D : qD) : qD := if (kp D).length = 0 then D else dRd D ((kp D).take ((kp D).length - 1)) (lastK D)
theorem spec_back (hl : l.stackTraces = false) (hA : qInj A) (h : CR A D σ) (hw : WF0 D) (hk : (kp D).length ≤ 512) : qMet g l M_X7_back [vr (A 0 0)] σ (qClP A σ (.inl (o_back D)) (d_back D)) := by
  obtain ⟨r1, r2, r3, r4, r5, r6, r7⟩ := h.2.2.1
  refine wm_X7_back hl ⟨h.1.1, by rw [h.1.2.2.2.2.2.1]; exact r1, ?_⟩
  rw [h.1.2.2.2.2.2.1]
  refine ⟨fun σ' v => (v = 0 ∧ (kp D).length = 0 ∧ σ' = σ) ∨ (v = 1 ∧ (kp D).length ≠ 0 ∧ CR A (d_back D) σ' ∧ qRdC A σ σ'), wm_X6_goBack hl ⟨r1, by rw [r5]; unfold qR; omega, ?_⟩, fun σ8 v h8 => ?_⟩
  · rw [r5, r2, r4]
    refine ⟨fun hz => ⟨0, rfl, Or.inl ⟨rfl, by omega, rfl⟩⟩, fun hz => ⟨⟨by decide, Or.inl r3⟩, by unfold qR; omega, fun _ σ7 h7 => ?_, fun z => absurd (by omega) z⟩⟩
    have e7 : gP σ7 240 (A 8 0) = A 19 0 := by rw [h7]; exact r2
    rw [e7]
    refine ⟨⟨by decide, Or.inl (by rw [h7]; exact r3)⟩, ⟨by omega, by rw [h7]; show _ < gN σ (A 19 0); rw [r4]; omega⟩, fun σ11 h11 => ⟨1, rfl, Or.inr ⟨rfl, by omega, ?_⟩⟩⟩
    have hc : qRdC A σ σ11 := by
      rw [h11, h7]
      exact ⟨rfl, rfl, rfl, rfl, fun f x hn => if_neg hn, fun f x hn => if_neg hn, fun _ _ _ => rfl⟩
    refine ⟨?_, hc⟩
    unfold d_back
    rw [if_neg (by omega)]
    have hlen : ((kp D).take ((kp D).length - 1)).length = (kp D).length - 1 := by rw [List.length_take]; omega
    refine CR_rd hA hw h hc ⟨?_, fun i hi => ?_, ?_⟩
    · rw [h11, h7, hlen]
      exact (if_pos ⟨rfl, rfl⟩).trans (by omega)
    · rw [hlen] at hi
      rw [h11, h7]
      show gR σ (A 19 0) i = _
      rw [r6 i (by omega), List.getD_eq_getElem?_getD, List.getD_eq_getElem?_getD, List.getElem?_take, if_pos hi]
    · rw [h11, h7, pRef_n]
      refine (if_pos ⟨rfl, rfl⟩).trans ?_
      show gR σ (A 19 0) _ = _
      have := r6 ((kp D).length - 1) (by omega)
      rw [show (((kp D).length - 1 : Nat) : Int) = ((kp D).length : Int) - 1 by omega] at this
      rw [this]; rfl
  · rcases h8 with ⟨rfl, h1, rfl⟩ | ⟨rfl, h1, h2, h3⟩
    · refine ⟨by unfold qR; omega, fun _ => ?_, fun z => absurd rfl z⟩
      unfold o_back d_back
      rw [if_pos h1, if_pos h1]
      exact ⟨A, hA, fun _ _ _ _ => rfl, h, frm_rf, rfl⟩
    · refine ⟨by unfold qR; omega, fun z => by omega, fun _ => ?_⟩
      have hal : alP D (lastK D) := by
        refine hw.2.2.2.2.2.2.2.1 _ ?_
        unfold lastK
        rw [List.getD_eq_getElem?_getD, List.getElem?_eq_getElem (by omega)]
        exact List.getElem_mem _
      have e := h2.1.2.2.2.2.2.1
      have hhe : he (d_back D) = lastK D := by unfold d_back; rw [if_neg h1]; rfl
      have r7' := h2.2.2.1.2.2.2.2.2.2
      rw [hhe] at r7'
      rw [e, r7']
      have ho : o_back D = lastK D := by unfold o_back; rw [if_neg h1]
      rw [ho]
      refine ⟨h2.1.1, h2.2.2.1.1, _, spec_numberOf hl hA h2 (Or.inr ⟨by omega, ?_⟩), A, hA, fun _ _ _ _ => rfl, h2, frm_rd hA h3, rfl⟩
      have : nq (d_back D) = nq D := by unfold d_back; split <;> rfl
      rw [this, Int.toNat_natCast]
      exact hal.1
theorem spec_here (hl : l.stackTraces = false) (hA : qInj A) (h : CR A D σ) (hw : WF0 D) : qMet g l M_X7_here [vr (A 0 0)] σ (qQo σ (.inl (he D))) := by
  obtain ⟨r1, r2, r3, r4, r5, r6, r7⟩ := h.2.2.1
  refine wm_X7_here hl ⟨h.1.1, by rw [h.1.2.2.2.2.2.1]; exact r1, ?_⟩
  rw [h.1.2.2.2.2.2.1, r7]
  exact ⟨_, spec_numberOf hl hA h (al_nq hw.2.2.2.2.2.2.1), rfl, rfl⟩
end
