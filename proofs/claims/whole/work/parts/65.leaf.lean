/-! the class: leaves, spreads, depth, the balloon at a place -/
def mvd (D : qD) (z : Int) (p : Nat) (lf : Int) : Int := if sp D p = 0 then lf else if 0 ≤ z / 2 - 1 - lf % z then lf + (z / 2 - 1 - lf % z) else lf + (z / 2 - 1 - lf % z) + z
def nxl (D : qD) (z : Int) : Nat → Int
  | 0 => 0
  | p + 1 => mvd D z p (nxl D z p) + 1
def lfo (D : qD) (z : Int) (p : Nat) : Int := mvd D z p (nxl D z p)
section
variable {D : qD}
theorem mvd_b {z lf : Int} {p : Nat} (hz : szOk z) (h : 0 ≤ lf) : lf ≤ mvd D z p lf ∧ mvd D z p lf ≤ lf + 16 := by
  unfold mvd
  unfold szOk at hz
  split
  · omega
  · rcases hz with rfl | rfl | rfl | rfl <;> (split <;> omega)
theorem nxl_b {z : Int} (hz : szOk z) : ∀ p : Nat, 0 ≤ nxl D z p ∧ nxl D z p ≤ 17 * p
  | 0 => by unfold nxl; omega
  | p + 1 => by
    have h := nxl_b hz p
    have := mvd_b (D := D) (p := p) hz h.1
    show 0 ≤ mvd D z p (nxl D z p) + 1 ∧ mvd D z p (nxl D z p) + 1 ≤ _
    omega
theorem lfo_b {z : Int} (hz : szOk z) (p : Nat) : 0 ≤ lfo D z p ∧ lfo D z p ≤ 17 * p + 16 := by
  have h := nxl_b (D := D) hz p
  have := mvd_b (D := D) (p := p) hz h.1
  unfold lfo
  omega
theorem lfo_lt {z : Int} (hz : szOk z) {p p' : Nat} (h : p < p') : lfo D z p < lfo D z p' := by
  have h1 : ∀ d, lfo D z p < nxl D z (p + 1 + d) := by
    intro d
    induction d with
    | zero => show lfo D z p < mvd D z p (nxl D z p) + 1; unfold lfo; omega
    | succ d ih =>
      have := mvd_b (D := D) (p := p + 1 + d) hz (nxl_b (D := D) hz (p + 1 + d)).1
      show lfo D z p < mvd D z (p + 1 + d) (nxl D z (p + 1 + d)) + 1
      omega
  have h2 := h1 (p' - p - 1)
  rw [show p + 1 + (p' - p - 1) = p' by omega] at h2
  have := mvd_b (D := D) (p := p') hz (nxl_b (D := D) hz p').1
  unfold lfo at *
  omega
/-- the page on a leaf -/
def BS (D : qD) (z W v : Int) : Prop := (v = -1 ∧ ∀ i, i < np D → lfo D z i ≠ W) ∨ (0 ≤ v ∧ v.toNat < np D ∧ lfo D z v.toNat = W)
theorem BS_u {z W v v' : Int} (hz : szOk z) (h : BS D z W v) (h' : BS D z W v') : v' = v := by
  rcases h with ⟨a, b⟩ | ⟨a, b, c⟩
  · rcases h' with ⟨a', b'⟩ | ⟨a', b', c'⟩
    · omega
    · exact absurd c' (b _ b')
  · rcases h' with ⟨a', b'⟩ | ⟨a', b', c'⟩
    · exact absurd c (b' _ b)
    · rcases Nat.lt_trichotomy v.toNat v'.toNat with d | d | d
      · have := lfo_lt (D := D) hz d; omega
      · omega
      · have := lfo_lt (D := D) hz d; omega
noncomputable def bsd (D : qD) (z W : Int) : Int := tho (BS D z W)
end
section
variable {g : qG} {l : Launch} {A : Nat → Nat → Nat} {D : qD} {σ : qS}
theorem sp_01 (hw : WF0 D) (p : Nat) : sp D p = 0 ∨ sp D p = 1 := by
  rcases Nat.lt_or_ge p (np D) with c | c
  · exact (hw.2.2.2.2.2.2.2.2 p c).1
  · exact Or.inl (hw.2.2.1 p c).2.1
theorem spec_isSpread (hl : l.stackTraces = false) (h : CR A D σ) (hw : WF0 D) {p : Int} (hq : qR p) : qMet g l M_X7_isSpread [vr (A 0 0), vi p] σ (qPi σ (if p < 0 then 0 else sp D p.toNat)) := by
  have hn := hw.1.1
  refine wm_X7_isSpread hl ⟨hq, fun hc => ⟨rfl, by rw [if_pos hc]⟩, fun hc => ⟨h.1.1, by rw [h.1.2.1]; exact h.1.2.2.2.2.2.2.1, np D, by rw [h.1.2.1]; exact spec_sizePg hl h, by unfold qR; omega, fun hd => ⟨rfl, ?_⟩, fun hd => ?_⟩⟩
  · rw [if_neg hc, (hw.2.2.1 p.toNat (by omega)).2.1]
  · obtain ⟨⟨p1, p2, p3, p4, p5, p6⟩, p7, p8⟩ := h.2.2.2.1 p.toNat (by omega)
    have h01 := sp_01 hw p.toNat
    rw [h.1.2.1]
    refine ⟨A 5 p.toNat, ?_, Or.inr p1, p1, ?_, fun v hv => ⟨rfl, ?_⟩⟩
    · have := spec_getPg (g := g) hl h (k := p.toNat) (by omega)
      rwa [Int.toNat_of_nonneg (by omega)] at this
    · rw [p7]; unfold qR; omega
    · rw [hv, p7, if_neg hc]
      rcases h01 with e | e <;> rw [e] <;> rfl
theorem spec_remainder (hl : l.stackTraces = false) {a b : Int} (ha : 0 ≤ a ∧ a ≤ 1000000) (hb : 1 ≤ b ∧ b ≤ 1000) : qMet g l M_X7_remainder [vi a, vi b] σ (qPi σ (a % b)) :=
  wm_X7_remainder hl ⟨⟨by unfold qR; omega, fun _ => ⟨by omega, by omega⟩⟩, fun v hv => ⟨rfl, by rw [hv, if_neg (by omega)]⟩⟩
theorem sz_b {z : Int} (hz : szOk z) : 4 ≤ z ∧ z ≤ 16 := by unfold szOk at hz; omega
theorem spec_leafOfSpread (hl : l.stackTraces = false) (h : CR A D σ) (hw : WF0 D) {p : Nat} {lf z : Int} (hp' : p < np D) (hz : szOk z) (hlf : 0 ≤ lf ∧ lf ≤ 1000) : qMet g l M_X7_leafOfSpread [vr (A 0 0), vi p, vi lf, vi z] σ (qPi σ (mvd D z p lf)) := by
  have hn := hw.1.1
  have hzb := sz_b hz
  have h01 := sp_01 hw p
  have hsp := spec_isSpread (g := g) hl h hw (p := p) (by unfold qR; omega)
  rw [if_neg (by omega), Int.toNat_natCast] at hsp
  have hm : 0 ≤ lf % z ∧ lf % z < z := ⟨Int.emod_nonneg _ (by omega), Int.emod_lt_of_pos _ (by omega)⟩
  refine wm_X7_leafOfSpread hl ⟨h.1.1, _, hsp, by unfold qR; omega, fun hs => ⟨by omega, _, spec_remainder hl (by omega) (by omega), fun x9 h9 => ⟨by unfold qR; omega, fun v hv => ⟨rfl, ?_⟩⟩⟩, fun hs => ⟨rfl, ?_⟩⟩
  · rw [hv, h9]
    unfold mvd
    rw [if_neg hs]
  · unfold mvd
    rw [if_pos hs]
theorem spec_leafOf (hl : l.stackTraces = false) (h : CR A D σ) (hw : WF0 D) {p : Nat} {z : Int} (hp' : p < np D) (hz : szOk z) : qMet g l M_X7_leafOf [vr (A 0 0), vi p, vi z] σ (qPi σ (lfo D z p)) := by
  have hn := hw.1.1
  refine wm_X7_leafOf hl ⟨fun n x1 x2 => ∃ k : Nat, x2 = k ∧ k ≤ p ∧ x1 = nxl D z k ∧ n = 20 - k, ⟨_, 0, rfl, Nat.zero_le _, rfl, rfl⟩, ?_⟩
  rintro n x1 x2 ⟨k, rfl, hk, rfl, rfl⟩
  have hb1 := nxl_b (D := D) hz k
  refine ⟨by unfold qR; omega, by unfold qR; omega, fun hd => ⟨h.1.1, _, spec_leafOfSpread hl h hw hp' hz (by omega), rfl, ?_⟩, fun hd => ⟨h.1.1, _, spec_leafOfSpread hl h hw (by omega) hz (by omega), fun x18 h18 x20 h20 => ⟨_, ?_, k + 1, by omega, by omega, by rw [h18]; rfl, rfl⟩⟩⟩
  · have : k = p := by omega
    rw [this]; rfl
  · omega
noncomputable def o_leaves (D : qD) (z : Int) : Int ⊕ Nat := cif (szOk z) (.inl ((nxl D z (np D) + z - 1) / z * z)) (.inr 1)
theorem spec_leaves (hl : l.stackTraces = false) (h : CR A D σ) (hw : WF0 D) {z : Int} (hz : qR z) : qMet g l M_X7_leaves [vr (A 0 0), vi z] σ (qQo σ (o_leaves D z)) := by
  have hn := hw.1.1
  refine wm_X7_leaves hl ⟨_, _, spec_needSignature hl hz, fun σ1 h1 => ?_, fun σ1 n h1 => ?_⟩
  · obtain ⟨rfl, hok⟩ := h1
    have hzb := sz_b hok
    unfold o_leaves
    rw [cif_pos hok]
    refine ⟨h.1.1, by rw [h.1.2.1]; exact h.1.2.2.2.2.2.2.1, np D, by rw [h.1.2.1]; exact spec_sizePg hl h, fun x12 h12 => ⟨by unfold qR; omega, fun hc => ?_, fun hc => ⟨rfl, ?_⟩⟩⟩
    · have hb1 := lfo_b (D := D) hok (np D - 1)
      have hle := spec_leafOf (g := g) hl h hw (p := np D - 1) (z := z) (by omega) hok
      rw [show ((np D - 1 : Nat) : Int) = x12 by omega] at hle
      refine ⟨_, hle, _, spec_roundedUp hl (by omega) (by omega) rfl, rfl, ?_⟩
      have e : nxl D z (np D) = lfo D z (np D - 1) + 1 := by
        obtain ⟨m, hm⟩ : ∃ m, np D = m + 1 := ⟨np D - 1, by omega⟩
        rw [hm]; rfl
      rw [e]
    · have : np D = 0 := by omega
      rw [this]
      show Sum.inl (some (vi 0)) = Sum.inl (some (vi ((0 + z - 1) / z * z)))
      unfold szOk at hok
      rcases hok with rfl | rfl | rfl | rfl <;> rfl
  · obtain ⟨rfl, hok, rfl⟩ := h1
    unfold o_leaves
    rw [cif_neg hok]
    exact ⟨rfl, rfl⟩
noncomputable def o_leaf (D : qD) (p z : Int) : Int ⊕ Nat := cif (¬ pgOk D p) (.inr 2) (cif (szOk z) (.inl (lfo D z p.toNat)) (.inr 1))
noncomputable def o_sheet (D : qD) (p z : Int) : Int ⊕ Nat := cif (¬ pgOk D p) (.inr 2) (cif (szOk z) (.inl (min (lfo D z p.toNat % z) (z - 1 - lfo D z p.toNat % z))) (.inr 1))
noncomputable def o_beside (D : qD) (p z : Int) : Int ⊕ Nat := cif (¬ pgOk D p) (.inr 2) (cif (szOk z) (.inl (bsd D z (lfo D z p.toNat / z * z + z - 1 - lfo D z p.toNat % z))) (.inr 1))
theorem spec_leafOf' (hl : l.stackTraces = false) (h : CR A D σ) (hw : WF0 D) {p z : Int} (hp' : pgOk D p) (hz : szOk z) : qMet g l M_X7_leafOf [vr (A 0 0), vi p, vi z] σ (qPi σ (lfo D z p.toNat)) := by
  have := spec_leafOf (g := g) hl h hw (p := p.toNat) (z := z) (by unfold pgOk at hp'; omega) hz
  rwa [Int.toNat_of_nonneg hp'.1] at this
theorem spec_leaf (hl : l.stackTraces = false) (h : CR A D σ) (hw : WF0 D) {p z : Int} (hp' : qR p) (hz : qR z) : qMet g l M_X7_leaf [vr (A 0 0), vi p, vi z] σ (qQo σ (o_leaf D p z)) := by
  refine wm_X7_leaf hl ⟨h.1.1, _, _, spec_needPage hl h hw hp', fun σ1 v h1 => ?_, fun σ1 n h1 => ?_⟩
  · obtain ⟨rfl, hok, rfl⟩ := h1
    unfold o_leaf
    rw [cif_neg (fun z => z hok)]
    refine ⟨_, _, spec_needSignature hl hz, fun σ2 h2 => ?_, fun σ2 n h2 => ?_⟩
    · obtain ⟨rfl, hs⟩ := h2
      rw [cif_pos hs]
      exact ⟨h.1.1, _, spec_leafOf' hl h hw hok hs, rfl, rfl⟩
    · obtain ⟨rfl, hs, rfl⟩ := h2
      rw [cif_neg hs]
      exact ⟨rfl, rfl⟩
  · obtain ⟨rfl, hok, rfl⟩ := h1
    unfold o_leaf
    rw [cif_pos hok]
    exact ⟨rfl, rfl⟩
theorem spec_sheet (hl : l.stackTraces = false) (h : CR A D σ) (hw : WF0 D) {p z : Int} (hp' : qR p) (hz : qR z) : qMet g l M_X7_sheet [vr (A 0 0), vi p, vi z] σ (qQo σ (o_sheet D p z)) := by
  have hn := hw.1.1
  refine wm_X7_sheet hl ⟨h.1.1, _, _, spec_needPage hl h hw hp', fun σ1 v h1 => ?_, fun σ1 n h1 => ?_⟩
  · obtain ⟨rfl, hok, rfl⟩ := h1
    unfold o_sheet
    rw [cif_neg (fun z => z hok)]
    refine ⟨_, _, spec_needSignature hl hz, fun σ2 h2 => ?_, fun σ2 n h2 => ?_⟩
    · obtain ⟨rfl, hs⟩ := h2
      have hzb := sz_b hs
      have hb1 := lfo_b (D := D) hs p.toNat
      have hpn : p.toNat < np D := by unfold pgOk at hok; omega
      have hm : 0 ≤ lfo D z p.toNat % z ∧ lfo D z p.toNat % z < z := ⟨Int.emod_nonneg _ (by omega), Int.emod_lt_of_pos _ (by omega)⟩
      rw [cif_pos hs]
      exact ⟨h.1.1, _, spec_leafOf' hl h hw hok hs, _, spec_remainder hl (by omega) (by omega), by unfold qR; omega, by unfold qR; omega, rfl, rfl⟩
    · obtain ⟨rfl, hs, rfl⟩ := h2
      rw [cif_neg hs]
      exact ⟨rfl, rfl⟩
  · obtain ⟨rfl, hok, rfl⟩ := h1
    unfold o_sheet
    rw [cif_pos hok]
    exact ⟨rfl, rfl⟩
theorem spec_beside (hl : l.stackTraces = false) (h : CR A D σ) (hw : WF0 D) {p z : Int} (hp' : qR p) (hz : qR z) : qMet g l M_X7_beside [vr (A 0 0), vi p, vi z] σ (qQo σ (o_beside D p z)) := by
  have hn := hw.1.1
  refine wm_X7_beside hl ⟨h.1.1, _, _, spec_needPage hl h hw hp', fun σ1 v h1 => ?_, fun σ1 n h1 => ?_⟩
  · obtain ⟨rfl, hok, rfl⟩ := h1
    unfold o_beside
    rw [cif_neg (fun z => z hok)]
    refine ⟨_, _, spec_needSignature hl hz, fun σ2 h2 => ?_, fun σ2 n h2 => ?_⟩
    · obtain ⟨rfl, hs⟩ := h2
      have hzb := sz_b hs
      have hb1 := lfo_b (D := D) hs p.toNat
      have hpn : p.toNat < np D := by unfold pgOk at hok; omega
      have hm : 0 ≤ lfo D z p.toNat % z ∧ lfo D z p.toNat % z < z := ⟨Int.emod_nonneg _ (by omega), Int.emod_lt_of_pos _ (by omega)⟩
      rw [cif_pos hs]
      refine ⟨h.1.1, _, spec_leafOf' hl h hw hok hs, _, spec_remainder hl (by omega) (by omega), fun x22 h22 => ?_⟩
      have hW : x22 = lfo D z p.toNat / z * z + z - 1 - lfo D z p.toNat % z := by
        have := Int.mul_ediv_add_emod (lfo D z p.toNat) z
        rw [Int.mul_comm] at this
        omega
      rw [← hW]
      refine ⟨fun n x => ∃ k : Nat, x = k ∧ k ≤ np D ∧ n = 20 - k ∧ ∀ i, i < k → lfo D z i ≠ x22, ⟨_, 0, rfl, Nat.zero_le _, rfl, fun i hi => absurd hi (Nat.not_lt_zero _)⟩, ?_⟩
      rintro n x ⟨k, rfl, hk, rfl, hno⟩
      rw [h.1.2.1]
      refine ⟨h.1.2.2.2.2.2.2.1, _, spec_sizePg hl h, by unfold qR; omega, by unfold qR; omega, fun hd => ⟨rfl, ?_⟩, fun hd => ?_⟩
      · have : bsd D z x22 = -1 := tho_eq (Or.inl ⟨rfl, fun i hi => hno i (by omega)⟩) (fun v' hv => BS_u hs (Or.inl ⟨rfl, fun i hi => hno i (by omega)⟩) hv)
        rw [this]
      · have hb2 := lfo_b (D := D) hs k
        refine ⟨_, spec_leafOf hl h hw (by omega) hs, by unfold qR; omega, by unfold qR; omega, fun hne x42 h42 => ⟨_, ?_, k + 1, by omega, by omega, rfl, fun i hi => ?_⟩, fun heq => ⟨rfl, ?_⟩⟩
        · omega
        · by_cases c : i = k
          · rw [c]; exact hne
          · exact hno i (by omega)
        · have hB : BS D z x22 (k : Int) := Or.inr ⟨by omega, by rw [Int.toNat_natCast]; omega, by rw [Int.toNat_natCast]; exact heq⟩
          have : bsd D z x22 = k := tho_eq hB (fun v' hv => BS_u hs hB hv)
          rw [this]
    · obtain ⟨rfl, hs, rfl⟩ := h2
      rw [cif_neg hs]
      exact ⟨rfl, rfl⟩
  · obtain ⟨rfl, hok, rfl⟩ := h1
    unfold o_beside
    rw [cif_pos hok]
    exact ⟨rfl, rfl⟩
/-- how deep answers go -/
def dpt (D : qD) : Nat → Int → Int
  | 0, _ => 0
  | f + 1, v => if v = -1 then 0 else 1 + dpt D f (an D v.toNat)
noncomputable def o_depth (D : qD) (b : Int) : Int ⊕ Nat := cif (blOk D b) (.inl (dpt D 80 (an D b.toNat))) (.inr 2)
theorem spec_depth (hl : l.stackTraces = false) (hA : qInj A) (h : CR A D σ) (hw : WF0 D) {b : Int} (hb' : qR b) : qMet g l M_X7_depth [vr (A 0 0), vi b] σ (qQo σ (o_depth D b)) := by
  refine wm_X7_depth hl ⟨h.1.1, _, _, spec_needBalloon hl h hw hb', fun σ1 v h1 => ?_, fun σ1 n h1 => ?_⟩
  · obtain ⟨rfl, hok, rfl⟩ := h1
    obtain ⟨⟨b1, -⟩, b2, b3, -⟩ := h.2.2.2.2.2 b.toNat hok.2.1
    unfold o_depth
    rw [cif_pos hok, b3]
    have hanc : ∀ c, c < nb D → an D c = -1 ∨ (0 ≤ an D c ∧ (an D c).toNat < nb D) := fun c hc => (hw.2.2.2.2.2.1 c hc).2.2.2.2.1
    refine ⟨b1, fun x11 h11 => ⟨fun n x13 x14 => ∃ (k : Nat) (v : Int), x13 = k ∧ k ≤ 80 ∧ x14 = bRef A v ∧ (v = -1 ∨ (0 ≤ v ∧ v.toNat < nb D)) ∧ (k : Int) + dpt D (80 - k) v = dpt D 80 (an D b.toNat) ∧ n = 100 - k, ⟨_, 0, an D b.toNat, rfl, by omega, h11, hanc _ hok.2.1, by simp, rfl⟩, ?_⟩⟩
    rintro n x13 x14 ⟨k, v, rfl, hk, rfl, hv, he, rfl⟩
    by_cases c : v = -1
    · have e0 : bRef A v = 0 := by unfold bRef; rw [if_pos c]
      rw [e0]
      refine ⟨fun _ => ⟨rfl, ?_⟩, fun z => absurd rfl z⟩
      have : dpt D (80 - k) v = 0 := by
        cases 80 - k with
        | zero => rfl
        | succ m => show (if v = -1 then 0 else _) = (0 : Int); rw [if_pos c]
      rw [this] at he
      rw [← he]
      simp
    · have e0 : bRef A v = A 7 v.toNat := by unfold bRef; rw [if_neg c]
      have hvn : v.toNat < nb D := by
        rcases hv with z | z
        · exact absurd z c
        · exact z.2
      rw [e0]
      obtain ⟨⟨c1, -⟩, c2, c3, -⟩ := h.2.2.2.2.2 v.toNat hvn
      refine ⟨fun z => absurd z (hA.2 _ _), fun _ => ⟨by unfold qR; omega, fun h80 => ⟨rfl, ?_⟩, fun h80 x24 h24 => ⟨c1, fun x27 h27 => ⟨_, ?_, k + 1, an D v.toNat, by omega, by omega, by rw [h27, c3], hanc _ hvn, ?_, rfl⟩⟩⟩⟩
      · have : k = 80 := by omega
        subst this
        rw [← he]
        show _ = Sum.inl (some (vi ((80 : Nat) + dpt D 0 v)))
        show _ = Sum.inl (some (vi ((80 : Nat) + 0)))
        simp
      · omega
      · have e1 : dpt D (80 - k) v = 1 + dpt D (80 - (k + 1)) (an D v.toNat) := by
          obtain ⟨m, hm⟩ : ∃ m, 80 - k = m + 1 := ⟨79 - k, by omega⟩
          rw [hm, show 80 - (k + 1) = m by omega]
          show (if v = -1 then 0 else _) = _
          rw [if_neg c]
        omega
  · obtain ⟨rfl, hok, rfl⟩ := h1
    unfold o_depth
    rw [cif_neg hok]
    exact ⟨rfl, rfl⟩
end
