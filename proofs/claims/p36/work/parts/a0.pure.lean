/-! p36: a page of few small panels can always be laid; the widths of a row fill it -/
theorem lsp_le {ok : Nat → Prop} {n s : Nat} (h : ok s) : lsp ok n ≤ s := by
  rcases Nat.lt_or_ge s (lsp ok n) with c | c
  · exact absurd h ((lsp_sp ok n).2.1 s c)
  · exact c
theorem small_box {g lt W : Int} (hg : 50 ≤ g ∧ g ≤ 250) (hl : 1 ≤ lt ∧ lt ≤ 12) (hW : 6 ≤ W ∧ W ≤ 24) : (1 ≤ wde W (mny g lt) ∧ wde W (mny g lt) ≤ 6) ∧ 1 ≤ hgh (mny g lt) (wde W (mny g lt)) ∧ hgh (mny g lt) (wde W (mny g lt)) ≤ 5 := by
  have h1 : lt * g ≤ 12 * g := Int.mul_le_mul_of_nonneg_right hl.2 (by omega)
  obtain ⟨-, m1, -⟩ := mny_le hg (show 1 ≤ lt ∧ lt ≤ 60 by omega)
  have m2 : mny g lt ≤ 30 := by unfold mny; omega
  generalize mny g lt = m at m1 m2
  obtain ⟨w1, w2, w3, w4⟩ := wde_le (W := W) (m := m) (by omega) m1
  have hw : wde W m = 6 ∨ wde W m = m := by unfold wde; omega
  refine ⟨⟨w1, w2⟩, (hgh_le w1 w4).1, ?_⟩
  unfold hgh
  have : (m + wde W m - 1) / wde W m < 6 := Int.ediv_lt_of_lt_mul (by omega) (by omega)
  omega
theorem cnd_y {t W w h : Int} {s : Nat} {x y : Int} (hi : inB (cnd t W w h s) x y) : (s : Int) / W ≤ y ∧ y < (s : Int) / W + h := ⟨hi.2.2.1, hi.2.2.2⟩
theorem fit12 {t g W : Int} {fc : List (Int × Int × Int)} {lts : Nat → Int} {c : Nat} (hW : 6 ≤ W ∧ W ≤ 24) (hg : 50 ≤ g ∧ g ≤ 250) (hc : c ≤ 2) (hf : ∀ f, f ∈ fc → f.2.2 ≤ 2) (hl : ∀ k, k < c → 1 ≤ lts k ∧ lts k ≤ 12) : pFit t g W 12 fc lts c := by
  have hcov : ∀ x y, y < 10 → ¬ covF fc 12 x y := by
    rintro x y hy ⟨f, hm, -, -, h3⟩
    have := hf f hm
    omega
  have hp0 : 0 < c → plN t g W 12 fc lts 0 = 0 := by
    intro h0
    obtain ⟨⟨w1, w2⟩, h1, h2⟩ := small_box hg (hl 0 h0) hW
    have e0 : ((0 : Nat) : Int) / W = 0 := by simp
    have e1 : ((0 : Nat) : Int) % W = 0 := by simp
    have : plN t g W 12 fc lts 0 ≤ 0 := lsp_le (ok := plS t g W 12 fc lts 0) ⟨Nat.le_refl _, by rw [e1]; omega, by rw [e0]; omega, fun x y hi => by
      have hy := cnd_y hi
      rw [e0] at hy
      exact ⟨hcov x y (by omega), fun j hj => absurd hj (Nat.not_lt_zero _)⟩⟩
    omega
  intro k hk
  rw [pl_1]
  have hN : (72 : Int) ≤ W * 12 := by omega
  by_cases ck : k = 0
  · subst ck
    rw [hp0 hk]
    omega
  · have ek : k = 1 := by omega
    subst ek
    have h0 := hp0 (by omega)
    obtain ⟨⟨w1, w2⟩, h1, h2⟩ := small_box hg (hl 1 hk) hW
    obtain ⟨-, g1, g2⟩ := small_box hg (hl 0 (by omega)) hW
    obtain ⟨d1, d2⟩ := dm_of (W := W) (a := 0) (t := 5) (Int.le_refl _) (by omega)
    have es : ((5 * W).toNat : Int) = 5 * W + 0 := by omega
    have e0 : ((0 : Nat) : Int) / W = 0 := by simp
    have : plN t g W 12 fc lts 1 ≤ (5 * W).toNat := lsp_le (ok := plS t g W 12 fc lts 1) ⟨by rw [pl_1, h0]; omega, by rw [es, d2]; omega, by rw [es, d1]; omega, fun x y hi => by
      have hy := cnd_y hi
      rw [es, d1] at hy
      refine ⟨hcov x y (by omega), fun j hj hi2 => ?_⟩
      have ej : j = 0 := by omega
      subst ej
      have hi3 : inB (plB t g W 12 fc lts 0) x y := hi2
      unfold plB at hi3
      rw [h0] at hi3
      have hy2 := cnd_y hi3
      rw [e0] at hy2
      omega⟩
    omega
section
variable {D : qD} {p : Nat}
/-- what the law keeps of a page's panels -/
def SmR (D : qD) (p : Nat) : Prop := pn D p ≤ 4 ∧ ∀ q, q ∈ row D p → 6 ≤ wd D q ∧ (hs D q).length ≤ 2 ∧ (∀ f, f ∈ fc D q → f.2.2 ≤ 2) ∧ ∀ b, b ∈ hs D q → lt D b ≤ 12
theorem spare_ge (hw : PgW D p) {k : Nat} (hk : rS D p k < pn D p) : 0 ≤ spare (pw D p) (rS D p k) (rS D p (k + 1)) := by
  have hnx := rS_nx hw hk
  have := hnx.2.2.1 (rS D p (k + 1) - 1) (by omega) (by omega)
  rw [show rS D p (k + 1) - 1 + 1 = rS D p (k + 1) by omega] at this
  unfold spare
  omega
theorem rH12 (hw : PgW D p) (hs' : SmR D p) {k : Nat} (hk : rS D p k < pn D p) : rH D p (rS D p k) (rS D p (k + 1)) ≤ 12 := by
  have hnx := rS_nx hw hk
  have hpw : ∀ i, i < pn D p → PnW D (pq D p i) := fun i h2 => hw.2.2.2.1 _ (pq_mem h2)
  refine lsp_le ?_
  intro i h1 h2
  have hm := pq_mem (D := D) (p := p) (i := i) (by omega)
  have hP := hpw i (by omega)
  obtain ⟨s1, s2, s3, s4⟩ := hs'.2 _ hm
  have hwd := wid_le (w := pw D p) (wg := pg D p) ⟨h1, h2⟩ (fun j a b => (hpw j (by omega)).2.2.2.2.2.1.1) (fun j a b => (hpw j (by omega)).2.2.2.2.1.1) (spare_ge hw hk)
  have hpwi : pw D p i = wd D (pq D p i) := rfl
  refine ⟨hP.2.2.2.2.2.2.2, fit12 (W := pW D p (rS D p k) (rS D p (k + 1)) i) ⟨?_, ?_⟩ hw.1.2 s2 s3 (fun j hj => ⟨(hP.2.2.2.1 _ (bl_mem hj)).1.1, s4 _ (bl_mem hj)⟩)⟩
  · show 6 ≤ wid (pw D p) (pg D p) (rS D p k) (rS D p (k + 1)) i
    omega
  · exact hwd.2
theorem rS_ge' (hw : PgW D p) : ∀ k, rS D p k < pn D p → k ≤ rS D p k
  | 0, _ => Nat.zero_le _
  | k + 1, h => by
    rcases Nat.lt_or_ge (rS D p k) (pn D p) with c | c
    · have h1 := rS_ge' hw k c
      have h2 := (rS_nx hw c).1
      omega
    · have := rS_le hw k
      rw [rS_n hw (k := k) (by omega)] at h
      omega
theorem rT12 (hw : PgW D p) (hs' : SmR D p) : ∀ k, rS D p k < pn D p → rT D p (k + 1) ≤ 12 * ((k : Int) + 1)
  | 0, h => by
    have := rH12 hw hs' h
    have h2 : rT D p (0 + 1) = (0 : Int) + ((rH D p (rS D p 0) (rS D p (0 + 1)) : Nat) : Int) := rfl
    rw [h2]
    omega
  | k + 1, h => by
    have hk : rS D p k < pn D p := by
      rcases Nat.lt_or_ge (rS D p k) (pn D p) with c | c
      · exact c
      · have := rS_le hw k
        rw [rS_n hw (k := k) (by omega)] at h
        omega
    have h1 := rT12 hw hs' k hk
    have h2 := rH12 hw hs' h
    show rT D p (k + 1) + ((rH D p (rS D p (k + 1)) (rS D p (k + 1 + 1)) : Nat) : Int) ≤ 12 * (((k + 1 : Nat) : Int) + 1)
    omega
theorem OK_sm (hw : PgW D p) (hs' : SmR D p) : OKp D p := by
  intro k hk
  have h1 := rH12 hw hs' hk
  have h2 := rT12 hw hs' k hk
  have h3 := rS_ge' hw k hk
  have h4 := hs'.1
  exact ⟨by omega, by omega⟩
/-! the widths of a row -/
theorem sm_d {F : Nat → Int} {f d : Nat} : sm F (f + (d + 1)) - sm F f = (sm F (f + d) - sm F f) + F (f + d) := by
  show sm F (f + d) + F (f + d) - sm F f = _
  omega
theorem more_b {w wg : Nat → Int} {f e : Nat} (ht : 0 < sm wg e - sm wg f) : ∀ d : Nat, (sm wg e - sm wg f) * (sm (more w wg f e) (f + d) - sm (more w wg f e) f) ≤ spare w f e * (sm wg (f + d) - sm wg f) ∧ spare w f e * (sm wg (f + d) - sm wg f) ≤ (sm wg e - sm wg f) * (sm (more w wg f e) (f + d) - sm (more w wg f e) f) + (sm wg e - sm wg f) * d
  | 0 => by simp
  | d + 1 => by
    obtain ⟨h1, h2⟩ := more_b (w := w) ht d
    rw [sm_d, sm_d, Int.mul_add, Int.mul_add]
    have e1 : more w wg f e (f + d) = spare w f e * wg (f + d) / (sm wg e - sm wg f) := rfl
    have e2 := Int.mul_ediv_add_emod (spare w f e * wg (f + d)) (sm wg e - sm wg f)
    rw [← e1] at e2
    have e3 := Int.emod_nonneg (spare w f e * wg (f + d)) (show sm wg e - sm wg f ≠ 0 by omega)
    have e4 := Int.emod_lt_of_pos (spare w f e * wg (f + d)) ht
    have e5 : (sm wg e - sm wg f) * ((d + 1 : Nat) : Int) = (sm wg e - sm wg f) * (d : Int) + (sm wg e - sm wg f) := by
      rw [show ((d + 1 : Nat) : Int) = (d : Int) + 1 by omega, Int.mul_add, Int.mul_one]
    rw [e5]
    omega
theorem wid_d {w wg : Nat → Int} {f e : Nat} (hr : 0 ≤ rst w wg f e) : ∀ d : Nat, sm (wid w wg f e) (f + d) - sm (wid w wg f e) f = (sm w (f + d) - sm w f) + (sm (more w wg f e) (f + d) - sm (more w wg f e) f) + min (rst w wg f e) d
  | 0 => by simp; omega
  | d + 1 => by
    have ih := wid_d (w := w) (wg := wg) hr d
    rw [sm_d, sm_d, sm_d, ih]
    have e1 : wid w wg f e (f + d) = w (f + d) + more w wg f e (f + d) + if ((f + d : Nat) : Int) - f < rst w wg f e then 1 else 0 := rfl
    rw [e1]
    split <;> omega
theorem wid_sum {w wg : Nat → Int} {f e : Nat} (hfe : f < e) (hg : ∀ j, f ≤ j → j < e → 1 ≤ wg j) : sm (wid w wg f e) e - sm (wid w wg f e) f = 24 := by
  have ht : 0 < sm wg e - sm wg f := by
    have := sm_ge1 (w := wg) (c := 1) (f := f) (i := f) (Nat.le_refl _) hfe hg
    have := hg f (Nat.le_refl _) hfe
    omega
  obtain ⟨h1, h2⟩ := more_b (w := w) ht (e - f)
  rw [show f + (e - f) = e by omega] at h1 h2
  rw [Int.mul_comm (spare w f e)] at h1 h2
  rw [← Int.mul_add] at h2
  have h3 := Int.le_of_mul_le_mul_left h1 ht
  have h4 := Int.le_of_mul_le_mul_left h2 ht
  have hr : rst w wg f e = spare w f e - (sm (more w wg f e) e - sm (more w wg f e) f) := rfl
  have h5 := wid_d (w := w) (wg := wg) (f := f) (e := e) (by omega) (e - f)
  rw [show f + (e - f) = e by omega] at h5
  have hs' : spare w f e = 24 - (sm w e - sm w f) := rfl
  omega
theorem row_sum (hw : PgW D p) {k : Nat} (hk : rS D p k < pn D p) : pX D p k (rS D p (k + 1)) = 24 := by
  have hnx := rS_nx hw hk
  have hpw : ∀ i, i < pn D p → PnW D (pq D p i) := fun i h2 => hw.2.2.2.1 _ (pq_mem h2)
  exact wid_sum hnx.1 (fun j a b => (hpw j (by omega)).2.2.2.2.1.1)
theorem pX_s {k i : Nat} : pX D p k (i + 1) = pX D p k i + pWd D p k i := by
  unfold pX pWd
  show sm _ i + pW D p (rS D p k) (rS D p (k + 1)) i - _ = _
  omega
theorem pX_0 {k : Nat} : pX D p k (rS D p k) = 0 := by unfold pX; omega
/-- a panel's sides -/
theorem pX_in (hw : PgW D p) (hok : OKp D p) {k i : Nat} (hk : rS D p k < pn D p) (h1 : rS D p k ≤ i) (h2 : i < rS D p (k + 1)) : 0 ≤ pX D p k i ∧ 4 ≤ pWd D p k i ∧ pX D p k i + pWd D p k i ≤ 24 := by
  have hb := pB_b hw hok hk h1 h2
  refine ⟨hb.2.1.1, hb.1.1, ?_⟩
  rw [← pX_s, ← row_sum hw hk]
  unfold pX
  have := sm_mono (f := pW D p (rS D p k) (rS D p (k + 1))) (a := i + 1) (b := rS D p (k + 1)) (fun j a b => by
    have := (pB_b hw hok hk (i := j) (by omega) (by omega)).1.1
    unfold pWd at this
    omega) (by omega)
  omega
end
