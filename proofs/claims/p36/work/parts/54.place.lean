/-! the class's layout: the balloons of a panel -/
def plS (t g W Ht : Int) (fc : List (Int × Int × Int)) (lts : Nat → Int) (k : Nat) : Nat → Prop := fun s => (pl t g W Ht fc lts k).1 ≤ s ∧ okS t W Ht fc k (pl t g W Ht fc lts k).2 (wde W (mny g (lts k))) (hgh (mny g (lts k)) (wde W (mny g (lts k)))) s
noncomputable def plN (t g W Ht : Int) (fc : List (Int × Int × Int)) (lts : Nat → Int) (k : Nat) : Nat := lsp (plS t g W Ht fc lts k) (W * Ht).toNat
noncomputable def plB (t g W Ht : Int) (fc : List (Int × Int × Int)) (lts : Nat → Int) (k : Nat) : Bx := cnd t W (wde W (mny g (lts k))) (hgh (mny g (lts k)) (wde W (mny g (lts k)))) (plN t g W Ht fc lts k)
theorem pl_1 {t g W Ht : Int} {fc : List (Int × Int × Int)} {lts : Nat → Int} {k : Nat} : (pl t g W Ht fc lts (k + 1)).1 = plN t g W Ht fc lts k + 1 := rfl
theorem pl_2 {t g W Ht : Int} {fc : List (Int × Int × Int)} {lts : Nat → Int} {k j : Nat} : (pl t g W Ht fc lts (k + 1)).2 j = if j = k then plB t g W Ht fc lts k else (pl t g W Ht fc lts k).2 j := rfl
theorem pl_at {t g W Ht : Int} {fc : List (Int × Int × Int)} {lts : Nat → Int} {j : Nat} : ∀ {k : Nat}, j < k → (pl t g W Ht fc lts k).2 j = plB t g W Ht fc lts j
  | 0, h => absurd h (Nat.not_lt_zero _)
  | k + 1, h => by
    rw [pl_2]
    by_cases c : j = k
    · rw [if_pos c, c]
    · rw [if_neg c, pl_at (by omega)]
theorem mny_le {g lt : Int} (hg : 50 ≤ g ∧ g ≤ 250) (hl : 1 ≤ lt ∧ lt ≤ 60) : (0 ≤ lt * g ∧ lt * g ≤ 15000) ∧ 1 ≤ mny g lt ∧ mny g lt ≤ 150 := by
  have h1 : lt * g ≤ 60 * g := Int.mul_le_mul_of_nonneg_right hl.2 (by omega)
  have h2 : 1 * g ≤ lt * g := Int.mul_le_mul_of_nonneg_right hl.1 (by omega)
  unfold mny
  omega
theorem wde_le {W m : Int} (hW : 1 ≤ W) (hm : 1 ≤ m) : 1 ≤ wde W m ∧ wde W m ≤ 6 ∧ wde W m ≤ W ∧ wde W m ≤ m := by unfold wde; omega
theorem hgh_le {m w : Int} (hw : 1 ≤ w) (hwm : w ≤ m) : 1 ≤ hgh m w ∧ hgh m w ≤ m + w := by
  unfold hgh
  refine ⟨(Int.le_ediv_iff_mul_le (by omega)).mpr (by omega), ?_⟩
  have := Int.ediv_le_self w (show 0 ≤ m + w - 1 by omega)
  omega
def BxR (σ : qS) (x : Nat) (b : Bx) : Prop := gI σ 40 x = b.1 ∧ gI σ 41 x = b.2.1 ∧ gI σ 42 x = b.2.2.1 ∧ gI σ 43 x = b.2.2.2
/-- where placing the balloons of q writes -/
def plW (A : Nat → Nat → Nat) (D : qD) (q f x : Nat) : Prop := tk1 A f x ∨ (40 ≤ f ∧ f ≤ 43 ∧ ∃ b, b ∈ hs D q ∧ x = A 17 b)
/-- a panel as it may be -/
def PnW (D : qD) (q : Nat) : Prop := FcW (fc D q) ∧ (hs D q).Nodup ∧ (hs D q).length ≤ 4 ∧ (∀ b, b ∈ hs D q → (1 ≤ lt D b ∧ lt D b ≤ 60) ∧ b < nb D) ∧ (1 ≤ wt D q ∧ wt D q ≤ 9) ∧ (4 ≤ wd D q ∧ wd D q ≤ 24) ∧ 3 ≤ ht D q ∧ ht D q ≤ 12
def TgW (D : qD) (p : Nat) : Prop := (0 ≤ tg D p ∧ tg D p ≤ 2) ∧ 50 ≤ gro D p ∧ gro D p ≤ 250
section
variable {g : qG} {l : Launch} {A : Nat → Nat → Nat} {D : qD} {σ : qS}
theorem plW_tr {q f x : Nat} (h : plW A D q f x) : tr1 A f x := by
  rcases h with h | ⟨h1, h2, b, -, h3⟩
  · exact tk1_tr h
  · exact Or.inr (Or.inr (Or.inr ⟨h1, h2, b, Or.inr h3⟩))
theorem bl_mem {q k : Nat} (h : k < (hs D q).length) : bl D q k ∈ hs D q := by
  unfold bl
  rw [List.getD_eq_getElem?_getD, List.getElem?_eq_getElem h]
  exact List.getElem_mem h
theorem nodup_at {xs : List Nat} (h : xs.Nodup) {i j : Nat} (hi : i < xs.length) (hj : j < xs.length) (e : xs.getD i 0 = xs.getD j 0) : i = j := by
  rw [List.getD_eq_getElem?_getD, List.getD_eq_getElem?_getD, List.getElem?_eq_getElem hi, List.getElem?_eq_getElem hj] at e
  have e' : xs[i] = xs[j] := by simpa using e
  rcases Nat.lt_trichotomy i j with c | c | c
  · exact absurd e' (List.pairwise_iff_getElem.mp h i j hi hj c)
  · exact c
  · exact absurd e'.symm (List.pairwise_iff_getElem.mp h j i hj hi c)
theorem spec_place (hl : l.stackTraces = false) (hA : qInj A) {p q : Nat} {W Ht : Int} (hy : LyR A D σ) (hpg : PgR A D σ p) (hq : PnR A D σ q) (hpq : hp D q = p) (hb : ∀ b, b ∈ hs D q → BlR A D σ b) (hw : PnW D q) (ht : TgW D p)
    (hW : gI σ 42 (A 14 q) = W) (hH : gI σ 43 (A 14 q) = Ht) (W1 : 1 ≤ W ∧ W ≤ 24) (H1 : 0 ≤ Ht ∧ Ht ≤ 16) :
    qMet g l M_X3_placeBalloons [vr (A 4 0), vr (A 6 q)] σ (qTi0 (fun σ' v => qChg (plW A D q) σ σ' ∧ ((v = 1 ∧ Fit D p q W Ht ∧ ∀ k, k < (hs D q).length → BxR σ' (A 17 (bl D q k)) (box D p q W Ht k)) ∨ (v = 0 ∧ ¬ Fit D p q W Ht)))) := by
  have hq0 := hq
  have hy0 := hy
  obtain ⟨q1, q2, q3, q4, q5, q6, q7, q8, q9, q10, q11, q12, q13, q14, q15, q16, q17⟩ := hq
  rw [hpq] at q3
  refine wm_X3_placeBalloons hl ⟨q1, fun x2 hx2 => ⟨by rw [q3]; exact hpg.1, _, by rw [q3]; exact spec_isFromRight hl hpg ht.1, hy.1, _, spec_takeFaces hl hA hy hq0 hw.1 hH H1, fun σ1 h1 => ?_⟩⟩
  rw [q10] at hx2
  subst hx2
  obtain ⟨hc1, ho1⟩ := h1
  -- abbreviations
  generalize hP : pl (tg D p) (gro D p) W Ht (fc D q) (lts D q) = P
  generalize hN : (W * Ht).toNat = N
  have hc1' : qChg (plW A D q) σ σ1 := qChg_mono hc1 (fun f x h => Or.inl h)
  refine ⟨fun n line step i σ2 => ∃ k : Nat, i = k ∧ k ≤ (hs D q).length ∧ n = (hs D q).length - k ∧ qChg (plW A D q) σ σ2 ∧ (∀ y : Nat, (y : Int) < Ht → ∀ x : Nat, x < 24 → (bitB (gA σ2 (A 18 0) y) x = true ↔ covF (fc D q) Ht x y ∨ ∃ j, j < k ∧ inB ((P k).2 j) x y)) ∧
    (∀ j, j < k → (P (j + 1)).1 ≤ N ∧ BxR σ2 (A 17 (bl D q j)) ((P k).2 j)) ∧ (0 ≤ line ∧ line ≤ 16) ∧ (0 ≤ step ∧ step ≤ W) ∧ (((P k).1 : Nat) : Int) = line * W + step, ⟨_, 0, rfl, Nat.zero_le _, rfl, hc1', fun y hy2 x hx => ?_, fun j hj => absurd hj (Nat.not_lt_zero _), by omega, by omega, ?_⟩, ?_⟩
  · rw [ho1 y (by omega) x hx]
    constructor
    · exact fun h => Or.inl h.1
    · rintro (h | ⟨j, hj, -⟩)
      · exact ⟨h, hy2⟩
      · exact absurd hj (Nat.not_lt_zero _)
  · rw [← hP]
    show ((0 : Nat) : Int) = 0 * W + 0
    omega
  rintro n line step i σ2 ⟨k, rfl, hk, rfl, hc2, ho2, hj2, hln, hst, hls⟩
  have hc2' : qChg (tr1 A) σ σ2 := qChg_mono hc2 (fun f x => plW_tr)
  have hy2 := LyR_tr hA hc2' hy0
  have hpg2 := PgR_tr hc2' hpg
  obtain ⟨r1, r2, r3, r4, r5, r6, r7, r8, r9, r10, r11, r12, r13, r14, r15, r16, r17⟩ := PnR_tr hc2' hq0
  rw [hpq] at r3
  have hlen := hw.2.2.1
  refine ⟨r1, by rw [r8]; exact r13, _, by rw [r8]; exact spec_sizeM hl r13 r14, by unfold qR; omega, by unfold qR; omega, fun hd => ⟨1, rfl, hc2, Or.inl ⟨rfl, ?_, ?_⟩⟩, fun hd => ?_⟩
  · have : k = (hs D q).length := by omega
    subst this
    unfold Fit pFit
    rw [hP, hN]
    exact fun j hj => (hj2 j hj).1
  · have : k = (hs D q).length := by omega
    subst this
    unfold box bxs
    rw [hP]
    exact fun j hj => (hj2 j hj).2
  have hkl : k < (hs D q).length := by omega
  have hmem := bl_mem hkl
  have hB := BlR_tr hc2' (hb _ hmem)
  obtain ⟨b1, b2, b3, b4, b5, b6, b7, b8⟩ := hB
  refine ⟨A 7 (bl D q k), by rw [r8]; exact spec_getM hl r13 r14 rfl hkl, Or.inr b1, b1, fun x36 hx36 => ⟨hy2.1, gro D p, by rw [r3]; exact spec_growthOf hl hpg2 hy2 ht.1, mny (gro D p) (lts D q k), ?_, ?_⟩⟩
  · rw [b3]
    exact spec_roundedUp hl (by have := mny_le ht.2 (hw.2.2.2.1 _ hmem).1; omega) (by omega) (by unfold mny lts; congr 1; omega)
  have hW2 : gI σ2 42 (A 14 q) = W := (hc2.2.2.2.2.2.1 42 _ (by unfold plW tk1; simp [hA.1])).trans hW
  have hH2 : gI σ2 43 (A 14 q) = Ht := (hc2.2.2.2.2.2.1 43 _ (by unfold plW tk1; simp [hA.1])).trans hH
  rw [b5] at hx36
  subst hx36
  have hm := mny_le ht.2 (hw.2.2.2.1 _ hmem).1
  have hwd := wde_le W1.1 hm.2.1
  have hhg := hgh_le hwd.1 hwd.2.2.2
  have hPk := hP
  generalize hmm : mny (gro D p) (lts D q k) = m at *
  have hmm' : mny (gro D p) (lt D (bl D q k)) = m := hmm
  rw [hmm'] at hm hwd hhg
  rw [hW2]
  have hwm : min m (min 6 W) = wde W m := rfl
  rw [hwm]
  generalize hww : wde W m = w at *
  refine ⟨r16, by unfold qR; omega, by unfold qR; omega, by unfold qR; omega, b8, fun σ3 h3 => ⟨hgh m w, spec_roundedUp hl (by omega) (by omega) rfl, fun σ4 h4 => ?_⟩⟩
  generalize hhh : hgh m w = h at *
  have hc4 : qChg (plW A D q) σ2 σ4 := by
    refine qChg_tr (Q := plW A D q) (P := plW A D q) (σ1 := σ3) ?_ ?_ (fun _ _ h => h) (fun _ _ h => h)
    · rw [h3]; exact qChg_I (Or.inr ⟨by omega, by omega, _, hmem, rfl⟩)
    · rw [h4]; exact qChg_I (Or.inr ⟨by omega, by omega, _, hmem, rfl⟩)
  have hc04 := qChg_tr hc2 hc4 (R := plW A D q) (fun _ _ h => h) (fun _ _ h => h)
  have hc4' : qChg (tr1 A) σ2 σ4 := qChg_mono hc4 (fun f x => plW_tr)
  have hy4 := LyR_tr hA hc4' hy2
  have g4 : ∀ i, gA σ4 (A 18 0) i = gA σ2 (A 18 0) i := fun i => by rw [h4, h3]; rfl
  have hK4 : gK σ4 = gK σ2 := hc4.1
  have hW4 : gI σ4 42 (A 14 q) = W := by rw [h4, h3]; simp only [gI_sI, hA.1]; simp [hW2]
  have hH4 : gI σ4 43 (A 14 q) = Ht := by rw [h4, h3]; simp only [gI_sI, hA.1]; simp [hH2]
  have hw4 : gI σ4 42 (A 17 (bl D q k)) = w := by rw [h4, h3]; simp [gI_sI]
  have hh4 : gI σ4 43 (A 17 (bl D q k)) = h := by rw [h4, h3]; simp [gI_sI]
  have hS : plN (tg D p) (gro D p) W Ht (fc D q) (lts D q) k = lsp (fun s => (P k).1 ≤ s ∧ okS (tg D p) W Ht (fc D q) k (P k).2 w h s) N := by
    unfold plN plS
    rw [hmm, hww, hhh, hP, hN]
  have hB : plB (tg D p) (gro D p) W Ht (fc D q) (lts D q) k = cnd (tg D p) W w h (plN (tg D p) (gro D p) W Ht (fc D q) (lts D q) k) := by
    unfold plB
    rw [hmm, hww, hhh]
  have hP1 : (P (k + 1)).1 = plN (tg D p) (gro D p) W Ht (fc D q) (lts D q) k + 1 := by rw [← hP]; rfl
  have hP2 : ∀ j, (P (k + 1)).2 j = if j = k then plB (tg D p) (gro D p) W Ht (fc D q) (lts D q) k else (P k).2 j := by rw [← hP]; intro j; rfl
  generalize hs : plN (tg D p) (gro D p) W Ht (fc D q) (lts D q) k = s at *
  generalize hbb : plB (tg D p) (gro D p) W Ht (fc D q) (lts D q) k = b at *
  refine ⟨_, spec_findSpot hl hA hy4 (t := tg D p) (fc := fc D q) (k := k) (bs := (P k).2) (st := (P k).1) (by rw [hK4]; exact b8) (by rw [hK4]; exact r16) hW4 hH4 hw4 hh4 hwd.1 hwd.2.2.1 W1.2 (by omega) H1 hln hst hls ?_ hN.symm hS, fun σ5 v61 h5 => ?_⟩
  · intro y hy3 x hx
    rw [g4]; exact ho2 y hy3 x hx
  rcases h5 with ⟨e1, e2, e3⟩ | ⟨e1, e2, e3⟩
  · refine ⟨by rw [e1]; unfold qR; omega, fun z => absurd e1 z, fun _ => ⟨0, rfl, by rw [e2]; exact hc04, Or.inr ⟨rfl, fun hf => ?_⟩⟩⟩
    have := hf k hkl
    rw [hP, hN, hP1] at this
    omega
  · refine ⟨by rw [e1]; unfold qR; omega, fun _ => ?_, fun z => by omega⟩
    have hok := ((lsp_sp (fun s => (P k).1 ≤ s ∧ okS (tg D p) W Ht (fc D q) k (P k).2 w h s) N).2.2 (by rw [← hS]; exact e2))
    rw [← hS] at hok
    obtain ⟨hok1, hok2, hok3, hok4⟩ := hok
    have hc5 : qChg (plW A D q) σ4 σ5 := by
      rw [e3]
      exact qChg_tr (Q := plW A D q) (P := plW A D q) (qChg_I (Or.inr ⟨by omega, by omega, _, hmem, rfl⟩)) (qChg_I (Or.inr ⟨by omega, by omega, _, hmem, rfl⟩)) (fun _ _ h => h) (fun _ _ h => h)
    have hc05 := qChg_tr hc04 hc5 (R := plW A D q) (fun _ _ h => h) (fun _ _ h => h)
    have hy5 := LyR_tr hA (qChg_mono hc5 (fun f x => plW_tr)) hy4
    have hK5 : gK σ5 = gK σ2 := hc5.1.trans hK4
    rw [← hB] at e3
    have f0 : gI σ5 40 (A 17 (bl D q k)) = b.1 := by rw [e3]; simp [gI_sI]
    have f1 : gI σ5 41 (A 17 (bl D q k)) = b.2.1 := by rw [e3]; simp [gI_sI]
    have f2 : gI σ5 42 (A 17 (bl D q k)) = w := by rw [e3]; simp [gI_sI, hw4]
    have f3 : gI σ5 43 (A 17 (bl D q k)) = h := by rw [e3]; simp [gI_sI, hh4]
    have k1 : b.2.1 = (s : Int) / W := by rw [hB]; rfl
    have k2 : b.2.2.1 = w := by rw [hB]; rfl
    have k3 : b.2.2.2 = h := by rw [hB]; rfl
    have k0 : b.1 = if tg D p = 1 then W - (s : Int) % W - w else (s : Int) % W := by rw [hB]; rfl
    have m0 : 0 ≤ (s : Int) % W := Int.emod_nonneg _ (by omega)
    have m1 : 0 ≤ (s : Int) / W := Int.ediv_nonneg (by omega) (by omega)
    have hlf : 0 ≤ b.1 ∧ b.1 + w ≤ W := by rw [k0]; split <;> omega
    refine ⟨by rw [hK5]; exact b8, by rw [hK5]; exact hy2.1, _, spec_take hl hA hy5 (by rw [f1]; omega) (by rw [f1, f3]; omega), fun σ6 h6 => ?_⟩
    obtain ⟨hc6, ho6⟩ := h6
    have hc6' : qChg (plW A D q) σ5 σ6 := qChg_mono hc6 (fun f x h => Or.inl h)
    have hc06 := qChg_tr hc05 hc6' (R := plW A D q) (fun _ _ h => h) (fun _ _ h => h)
    have hK6 : gK σ6 = gK σ2 := hc6.1.trans hK5
    have hI6 : ∀ f x, f ≠ 999 → gI σ6 f x = gI σ5 f x := fun f x hf => hc6.2.2.2.2.2.1 f x (fun z => hf z.1)
    rw [hI6 41 _ (by decide), hI6 40 _ (by decide), hI6 42 _ (by decide), hI6 42 _ (by decide), f0, f1, f2]
    have hW6 : gI σ5 42 (A 14 q) = W := by rw [e3]; simp only [gI_sI, hA.1]; simp [hW4]
    rw [hW6]
    refine ⟨by rw [hK6]; exact b8, fun x74 h74 => ⟨by rw [hK6]; exact r16, (s : Int) % W, spec_turned hl ?_, fun x79 h79 x81 h81 => ⟨_, ?_, k + 1, ?_, ?_, rfl, hc06, fun y hy7 x hx => ?_, fun j hj => ?_, ?_, ?_, ?_⟩⟩⟩
    · rw [k0]; split <;> omega
    · omega
    · omega
    · omega
    · rw [ho6 y (by omega) x, f0, f1, f2, f3, bits_at (by omega) (by omega) hx]
      have g5 : gA σ5 (A 18 0) y = gA σ2 (A 18 0) y := by rw [e3]; exact g4 y
      rw [g5, ho2 y hy7 x hx]
      constructor
      · rintro ((c | ⟨j, hj, c⟩) | ⟨c1, c2⟩)
        · exact Or.inl c
        · refine Or.inr ⟨j, by omega, ?_⟩
          rw [hP2, if_neg (by omega)]; exact c
        · refine Or.inr ⟨k, by omega, ?_⟩
          rw [hP2, if_pos rfl]
          unfold inB
          rw [k2, k3]
          exact ⟨c2.1, c2.2, c1.1, c1.2⟩
      · rintro (c | ⟨j, hj, c⟩)
        · exact Or.inl (Or.inl c)
        · rw [hP2] at c
          by_cases cj : j = k
          · rw [if_pos cj] at c
            unfold inB at c
            rw [k2, k3] at c
            exact Or.inr ⟨⟨c.2.2.1, c.2.2.2⟩, c.1, c.2.1⟩
          · rw [if_neg cj] at c
            exact Or.inl (Or.inr ⟨j, by omega, c⟩)
    · by_cases cj : j = k
      · subst cj
        rw [hP2, if_pos rfl, hP1]
        refine ⟨by omega, ?_⟩
        unfold BxR
        rw [hI6 40 _ (by decide), hI6 41 _ (by decide), hI6 42 _ (by decide), hI6 43 _ (by decide), f0, f1, f2, f3, k2, k3]
        exact ⟨rfl, rfl, rfl, rfl⟩
      · rw [hP2, if_neg cj]
        obtain ⟨j1, j2⟩ := hj2 j (by omega)
        refine ⟨j1, ?_⟩
        have hne : bl D q j ≠ bl D q k := fun z => cj (nodup_at hw.2.1 (by omega) hkl z)
        have hun : ∀ f, f ≠ 999 → gI σ6 f (A 17 (bl D q j)) = gI σ2 f (A 17 (bl D q j)) := by
          intro f hf
          rw [hI6 f _ hf, e3, h4, h3]
          simp only [gI_sI, hA.1]
          simp [hne]
        unfold BxR
        rw [hun 40 (by decide), hun 41 (by decide), hun 42 (by decide), hun 43 (by decide)]
        exact j2
    · rw [h74, k1]; omega
    · rw [h79]; have := Int.emod_lt_of_pos (s : Int) (show 0 < W by omega); omega
    · rw [hP1, h79, h74, k1]
      have := Int.mul_ediv_add_emod (s : Int) W
      rw [Int.mul_comm] at this
      omega
end
