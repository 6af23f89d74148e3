/-! keeping what was tried -/
noncomputable def ct (P : Nat → Prop) (n : Nat) : Int := sm (fun i => @ite Int (P i) (Classical.propDecidable _) 1 0) n
def BxS (σ : qS) (x y : Nat) : Prop := gI σ 40 x = gI σ 40 y ∧ gI σ 41 x = gI σ 41 y ∧ gI σ 42 x = gI σ 42 y ∧ gI σ 43 x = gI σ 43 y
def BxQ (σ : qS) (x : Nat) : Prop := qR (gI σ 40 x) ∧ qR (gI σ 41 x) ∧ qR (gI σ 42 x) ∧ qR (gI σ 43 x)
def boW (x fl y : Nat) : Prop := 40 ≤ fl ∧ fl ≤ 43 ∧ y = x
def kpn (A : Nat → Nat → Nat) (D : qD) (q fl x : Nat) : Prop := (fl = 209 ∧ x = A 6 q) ∨ (40 ≤ fl ∧ fl ≤ 43 ∧ (x = A 13 q ∨ ∃ b, b ∈ hs D q ∧ x = A 16 b))
/-- where keeping writes -/
def kp1 (A : Nat → Nat → Nat) (fl x : Nat) : Prop := fl = 163 ∨ fl = 209 ∨ (40 ≤ fl ∧ fl ≤ 43 ∧ ∃ i, x = A 13 i ∨ x = A 16 i)
def kpW (A : Nat → Nat → Nat) (D : qD) (p fl x : Nat) : Prop := (fl = 163 ∧ x = A 5 p) ∨ ∃ i, i < pn D p ∧ kpn A D (pq D p i) fl x
/-- what lies of a row -/
def LdR (A : Nat → Nat → Nat) (D : qD) (σ : qS) (p k : Nat) : Prop := rS D p k < pn D p → ∀ i, rS D p k ≤ i → i < rS D p (k + 1) → gI σ 209 (A 6 (pq D p i)) = k ∧ BxR σ (A 13 (pq D p i)) (pB D p k i) ∧ ∀ j, j < (hs D (pq D p i)).length → BxR σ (A 16 (bl D (pq D p i) j)) (box D p (pq D p i) (pWd D p k i) (pH D p k) j)
def LdP (A : Nat → Nat → Nat) (D : qD) (σ : qS) (p : Nat) : Prop := (∀ k, LdR A D σ p k) ∧ gI σ 163 (A 5 p) = rowsOf D p
section
variable {g : qG} {l : Launch} {A : Nat → Nat → Nat} {D : qD} {σ : qS}
theorem PgR_kp {σ' : qS} {p : Nat} (h : qChg (kp1 A) σ σ') (hr : PgR A D σ p) : PgR A D σ' p := by
  obtain ⟨c1, c2, c3, c4, c5, c6, c7⟩ := h
  unfold PgR at hr ⊢
  rw [c1, c2, c4, c6 160 _ (by unfold kp1; omega), c6 162 _ (by unfold kp1; omega)]
  exact hr
theorem FcR_kp {σ' : qS} {q i : Nat} (h : qChg (kp1 A) σ σ') (hr : FcR A D σ q i) : FcR A D σ' q i := by
  obtain ⟨c1, c2, c3, c4, c5, c6, c7⟩ := h
  unfold FcR at hr ⊢
  rw [c1, c6 80 _ (by unfold kp1; omega), c6 81 _ (by unfold kp1; omega), c6 82 _ (by unfold kp1; omega)]
  exact hr
theorem PnR_kp {σ' : qS} {q : Nat} (h : qChg (kp1 A) σ σ') (hr : PnR A D σ q) : PnR A D σ' q := by
  have h0 := h
  obtain ⟨c1, c2, c3, c4, c5, c6, c7⟩ := h
  unfold PnR at hr ⊢
  rw [c1, c2, c4, c6 200 _ (by unfold kp1; omega), c6 202 _ (by unfold kp1; omega), c6 203 _ (by unfold kp1; omega), c6 204 _ (by unfold kp1; omega)]
  obtain ⟨a1, a2, a3, a4, a5, a6, a7, a8, a9, a10, a11, a12, a13, a14, a15, a16, a17⟩ := hr
  exact ⟨a1, a2, a3, a4, a5, a6, a7, a8, a9, a10, a11, a12, a13, a14, a15, a16, fun i hi => FcR_kp h0 (a17 i hi)⟩
theorem BlR_kp {σ' : qS} {b : Nat} (h : qChg (kp1 A) σ σ') (hr : BlR A D σ b) : BlR A D σ' b := by
  obtain ⟨c1, c2, c3, c4, c5, c6, c7⟩ := h
  unfold BlR at hr ⊢
  rw [c1, c4, c6 0 _ (by unfold kp1; omega), c6 1 _ (by unfold kp1; omega)]
  exact hr
theorem LyR_kp {σ' : qS} (h : qChg (kp1 A) σ σ') (hr : LyR A D σ) : LyR A D σ' := by
  obtain ⟨c1, c2, c3, c4, c5, c6, c7⟩ := h
  unfold LyR at hr ⊢
  have : ∀ i, gA σ' (A 9 0) i = gA σ (A 9 0) i := c7 _ (by unfold kp1; omega)
  simp only [c1, c3, c4, this]
  exact hr
theorem LR_kp {σ' : qS} {p : Nat} (h : qChg (kp1 A) σ σ') (hr : LR A D σ p) : LR A D σ' p :=
  ⟨LyR_kp h hr.1, PgR_kp h hr.2.1, fun q hq => ⟨PnR_kp h (hr.2.2 q hq).1, (hr.2.2 q hq).2.1, fun b hb => BlR_kp h ((hr.2.2 q hq).2.2 b hb)⟩⟩
theorem kpn_kp {q fl x : Nat} (h : kpn A D q fl x) : kp1 A fl x := by
  rcases h with ⟨h, -⟩ | ⟨h1, h2, h3 | ⟨b, -, h3⟩⟩
  · exact Or.inr (Or.inl h)
  · exact Or.inr (Or.inr ⟨h1, h2, _, Or.inl h3⟩)
  · exact Or.inr (Or.inr ⟨h1, h2, _, Or.inr h3⟩)
theorem kpW_kp {p fl x : Nat} (h : kpW A D p fl x) : kp1 A fl x := by
  rcases h with ⟨h, -⟩ | ⟨i, -, h⟩
  · exact Or.inl h
  · exact kpn_kp h
theorem spec_set (hl : l.stackTraces = false) {x y : Nat} {b : Bx} (hx : gK σ x = 2) (hy : gK σ y = 2) (hxy : x ≠ y) (hb : BxR σ y b) : qMet g l M_X1_set [vr x, vr y] σ (qTv0 (fun σ' => qChg (boW x) σ σ' ∧ BxR σ' x b)) := by
  have hyx : y ≠ x := fun h => hxy h.symm
  obtain ⟨b1, b2, b3, b4⟩ := hb
  refine wm_X1_set hl ⟨hy, hx, fun σ3 h3 σ5 h5 σ7 h7 σ9 h9 => ⟨rfl, ?_, ?_⟩⟩
  · refine qChg_tr (Q := boW x) (P := boW x) (σ1 := σ3) (by rw [h3]; exact qChg_I ⟨by omega, by omega, rfl⟩) ?_ (fun _ _ h => h) (fun _ _ h => h)
    refine qChg_tr (Q := boW x) (P := boW x) (σ1 := σ5) (by rw [h5]; exact qChg_I ⟨by omega, by omega, rfl⟩) ?_ (fun _ _ h => h) (fun _ _ h => h)
    refine qChg_tr (Q := boW x) (P := boW x) (σ1 := σ7) (by rw [h7]; exact qChg_I ⟨by omega, by omega, rfl⟩) ?_ (fun _ _ h => h) (fun _ _ h => h)
    rw [h9]; exact qChg_I ⟨by omega, by omega, rfl⟩
  · unfold BxR
    rw [h9, h7, h5, h3]
    simp [gI_sI, hyx, b1, b2, b3, b4]
theorem spec_isLike (hl : l.stackTraces = false) {x y : Nat} (hx : gK σ x = 2) (hy : gK σ y = 2) (qx : BxQ σ x) (qy : BxQ σ y) : qMet g l M_X1_isLike [vr x, vr y] σ (qPi σ (@ite Int (BxS σ x y) (Classical.propDecidable _) 1 0)) := by
  refine wm_X1_isLike hl ⟨hx, hy, ⟨qx.1, qy.1, fun _ => ⟨qx.2.1, qy.2.1, fun _ => ⟨qx.2.2.1, qy.2.2.1, fun _ => ⟨qx.2.2.2, qy.2.2.2⟩⟩⟩⟩, fun v hv => ⟨rfl, ?_⟩⟩
  rw [hv]
  unfold BxS
  by_cases c1 : gI σ 40 x = gI σ 40 y
  · by_cases c2 : gI σ 41 x = gI σ 41 y
    · by_cases c3 : gI σ 42 x = gI σ 42 y
      · by_cases c4 : gI σ 43 x = gI σ 43 y
        · simp [c1, c2, c3, c4]
        · simp [c1, c2, c3, c4]
      · simp [c1, c2, c3]
    · simp [c1, c2]
  · simp [c1]
theorem spec_keepPn (hl : l.stackTraces = false) (hA : qInj A) {q : Nat} {rn : Int} {b : Bx} {bs : Nat → Bx} (hq : PnR A D σ q) (hb : ∀ x, x ∈ hs D q → BlR A D σ x) (hnd : (hs D q).Nodup) (hl4 : (hs D q).length ≤ 4) (hrn : gI σ 210 (A 6 q) = rn) (hbx : BxR σ (A 14 q) b) (hbb : ∀ j, j < (hs D q).length → BxR σ (A 17 (bl D q j)) (bs j)) :
    qMet g l M_X5_keepTrial [vr (A 6 q)] σ (qTv0 (fun σ' => qChg (kpn A D q) σ σ' ∧ gI σ' 209 (A 6 q) = rn ∧ BxR σ' (A 13 q) b ∧ ∀ j, j < (hs D q).length → BxR σ' (A 16 (bl D q j)) (bs j))) := by
  have hq0 := hq
  obtain ⟨q1, q2, q3, q4, q5, q6, q7, q8, q9, q10, q11, q12, q13, q14, q15, q16, q17⟩ := hq
  refine wm_X5_keepTrial hl ⟨q1, by rw [q9]; exact q15, ?_⟩
  rw [q9, q10]
  refine ⟨_, spec_set hl q15 q16 (by rw [Ne, hA.1]; omega) hbx, fun σ1 h1 => ⟨by rw [h1.1.1]; exact q1, fun σ2 h2 => ?_⟩⟩
  have hc1 : qChg (kpn A D q) σ σ1 := qChg_mono h1.1 (fun fl x h => Or.inr ⟨h.1, h.2.1, Or.inl h.2.2⟩)
  have hc2 : qChg (kpn A D q) σ σ2 := qChg_tr hc1 (Q := kpn A D q) (by rw [h2]; exact qChg_I (Or.inl ⟨rfl, rfl⟩)) (fun _ _ h => h) (fun _ _ h => h)
  refine ⟨fun n x σ3 => ∃ k : Nat, x = k ∧ k ≤ (hs D q).length ∧ n = (hs D q).length - k ∧ qChg (kpn A D q) σ σ3 ∧ gI σ3 209 (A 6 q) = rn ∧ BxR σ3 (A 13 q) b ∧ ∀ j, j < k → BxR σ3 (A 16 (bl D q j)) (bs j), ⟨_, 0, rfl, Nat.zero_le _, rfl, hc2, ?_, ?_, fun j h => absurd h (Nat.not_lt_zero _)⟩, ?_⟩
  · rw [h2, gI_eq, h1.1.2.2.2.2.2.1 210 _ (by unfold boW; omega)]
    exact hrn
  · have := h1.2
    unfold BxR at this ⊢
    rw [h2]
    simp only [gI_sI, show ¬ (40 = 209) by decide, show ¬ (41 = 209) by decide, show ¬ (42 = 209) by decide, show ¬ (43 = 209) by decide, false_and, if_false]
    exact this
  rintro n x σ3 ⟨k, rfl, hk, rfl, hc3, hr3, hb3, hj3⟩
  have hc3' := qChg_mono hc3 (fun f x => kpn_kp (A := A))
  obtain ⟨r1, r2, r3, r4, r5, r6, r7, r8, r9, r10, r11, r12, r13, r14, r15, r16, r17⟩ := PnR_kp hc3' hq0
  rw [r8]
  refine ⟨r1, r13, _, spec_sizeM hl r13 r14, by unfold qR; omega, by unfold qR; omega, fun hd => ⟨rfl, hc3, hr3, hb3, fun j hj => hj3 j (by omega)⟩, fun hd => ?_⟩
  have hkl : k < (hs D q).length := by omega
  have hB := BlR_kp hc3' (hb _ (bl_mem hkl))
  obtain ⟨b1, b2, b3, b4, b5, b6, b7, b8⟩ := hB
  refine ⟨A 7 (bl D q k), spec_getM hl r13 r14 rfl hkl, Or.inr b1, b1, A 7 (bl D q k), spec_getM hl r13 r14 rfl hkl, Or.inr b1, b1, by rw [b4]; exact b7, ?_⟩
  rw [b4, b5]
  have hbk : BxR σ3 (A 17 (bl D q k)) (bs k) := by
    have := hbb k hkl
    have hun : ∀ fl, gI σ3 fl (A 17 (bl D q k)) = gI σ fl (A 17 (bl D q k)) := fun fl => hc3.2.2.2.2.2.1 fl _ (by unfold kpn; simp [hA.1])
    unfold BxR at this ⊢
    rw [hun, hun, hun, hun]
    exact this
  refine ⟨_, spec_set hl b7 b8 (by rw [Ne, hA.1]; omega) hbk, fun σ4 h4 x44 h44 => ⟨_, ?_, k + 1, by omega, by omega, rfl, ?_, ?_, ?_, fun j hj => ?_⟩⟩
  · omega
  · exact qChg_tr hc3 h4.1 (fun _ _ h => h) (fun fl x h => Or.inr ⟨h.1, h.2.1, Or.inr ⟨_, bl_mem hkl, h.2.2⟩⟩)
  · rw [h4.1.2.2.2.2.2.1 209 _ (by unfold boW; omega)]; exact hr3
  · have hun : ∀ fl, gI σ4 fl (A 13 q) = gI σ3 fl (A 13 q) := fun fl => h4.1.2.2.2.2.2.1 fl _ (by unfold boW; rw [hA.1]; omega)
    unfold BxR at hb3 ⊢
    rw [hun, hun, hun, hun]
    exact hb3
  · by_cases c : j = k
    · rw [c]; exact h4.2
    · have := hj3 j (by omega)
      have hun : ∀ fl, gI σ4 fl (A 16 (bl D q j)) = gI σ3 fl (A 16 (bl D q j)) := fun fl => h4.1.2.2.2.2.2.1 fl _ (by
        rintro ⟨-, -, z⟩
        exact c (nodup_at hnd (by omega) hkl (qInj_i hA z)))
      unfold BxR at this ⊢
      rw [hun, hun, hun, hun]
      exact this
end
