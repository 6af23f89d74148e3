/-! the class: leaves, spreads, depth, the balloon at a place -/
def mvd (D : qD) (z : Int) (p : Nat) (lf : Int) : Int := if sp D p = 0 then lf else if 0 ≤ z / 2 - 1 - lf % z then lf + (z / 2 - 1 - lf % z) else lf + (z / 2 - 1 - lf % z) + z
def nxl (D : qD) (z : Int) : Nat → Int
  | 0 => 0
  | p + 1 => mvd D z p (nxl D z p) + 1
def lfo (D : qD) (z : Int) (p : Nat) : Int := mvd D z p (nxl D z p)
section
variable {D : qD}
theorem mvd_b {z lf : Int} {p : Nat} (hz : szOk z) (h : 0 ≤ lf) : lf ≤ mvd D z p lf ∧ mvd D z p lf ≤ lf + 16 := by
  unfold mvd
  unfold szOk at hz
  split
  · omega
  · rcases hz with rfl | rfl | rfl | rfl <;> (split <;> omega)
theorem nxl_b {z : Int} (hz : szOk z) : ∀ p : Nat, 0 ≤ nxl D z p ∧ nxl D z p ≤ 17 * p
  | 0 => by unfold nxl; omega
  | p + 1 => by
    have h := nxl_b hz p
    have := mvd_b (D := D) (p := p) hz h.1
    show 0 ≤ mvd D z p (nxl D z p) + 1 ∧ mvd D z p (nxl D z p) + 1 ≤ _
    omega
theorem lfo_b {z : Int} (hz : szOk z) (p : Nat) : 0 ≤ lfo D z p ∧ lfo D z p ≤ 17 * p + 16 := by
  have h := nxl_b (D := D) hz p
  have := mvd_b (D := D) (p := p) hz h.1
  unfold lfo
  omega
theorem lfo_lt {z : Int} (hz : szOk z) {p p' : Nat} (h : p < p') : lfo D z p < lfo D z p' := by
  have h1 : ∀ d, lfo D z p < nxl D z (p + 1 + d) := by
    intro d
    induction d with
    | zero => show lfo D z p < mvd D z p (nxl D z p) + 1; unfold lfo; omega
    | succ d ih =>
      have := mvd_b (D := D) (p := p + 1 + d) hz (nxl_b (D := D) hz (p + 1 + d)).1
      show lfo D z p < mvd D z (p + 1 + d) (nxl D z (p + 1 + d)) + 1
      omega
  have h2 := h1 (p' - p - 1)
  rw [show p + 1 + (p' - p - 1) = p' by omega] at h2
  have := mvd_b (D := D) (p := p') hz (nxl_b (D := D) hz p').1
  unfold lfo at *
  omega
/-- the page on a leaf -/
def BS (D : qD) (z W v : Int) : Prop := (v = -1 ∧ ∀ i, i < np D → lfo D z i ≠ W) ∨ (0 ≤ v ∧ v.toNat < np D ∧ lfo D z v.toNat = W)
theorem BS_u {z W v v' : Int} (hz : szOk z) (h : BS D z W v) (h' : BS D z W v') : v' = v := by
  rcases h with ⟨a, b⟩ | ⟨a, b, c⟩
  · rcases h' with ⟨a', b'⟩ | ⟨a', b', c'⟩
    · omega
    · exact absurd c' (b _ b')
  · rcases h' with ⟨a', b'⟩ | ⟨a', b', c'⟩
    · exact absurd c (b' _ b)
    · rcases Nat.lt_trichotomy v.toNat v'.toNat with d | d | d
      · have := lfo_lt (D := D) hz d; omega
      · omega
      · have := lfo_lt (D := D) hz d; omega
noncomputable def bsd (D : qD) (z W : Int) : Int := tho (BS D z W)
end
section
variable {g : qG} {l : Launch} {A : Nat → Nat → Nat} {D : qD} {σ : qS}
theorem sp_01 (hw : WF0 D) (p : Nat) : sp D p = 0 ∨ sp D p = 1 := by
  rcases Nat.lt_or_ge p (np D) with c | c
  · exact (hw.2.2.2.2.2.2.2.2 p c).1
  · exact Or.inl (hw.2.2.1 p c).2.1
theorem sz_b {z : Int} (hz : szOk z) : 4 ≤ z ∧ z ≤ 16 := by unfold szOk at hz; omega
noncomputable def o_leaves (D : qD) (z : Int) : Int ⊕ Nat := cif (szOk z) (.inl ((nxl D z (np D) + z - 1) / z * z)) (.inr 1)
noncomputable def o_leaf (D : qD) (p z : Int) : Int ⊕ Nat := cif (¬ pgOk D p) (.inr 2) (cif (szOk z) (.inl (lfo D z p.toNat)) (.inr 1))
noncomputable def o_sheet (D : qD) (p z : Int) : Int ⊕ Nat := cif (¬ pgOk D p) (.inr 2) (cif (szOk z) (.inl (min (lfo D z p.toNat % z) (z - 1 - lfo D z p.toNat % z))) (.inr 1))
noncomputable def o_beside (D : qD) (p z : Int) : Int ⊕ Nat := cif (¬ pgOk D p) (.inr 2) (cif (szOk z) (.inl (bsd D z (lfo D z p.toNat / z * z + z - 1 - lfo D z p.toNat % z))) (.inr 1))
/-- how deep answers go -/
def dpt (D : qD) : Nat → Int → Int
  | 0, _ => 0
  | f + 1, v => if v = -1 then 0 else 1 + dpt D f (an D v.toNat)
noncomputable def o_depth (D : qD) (b : Int) : Int ⊕ Nat := cif (blOk D b) (.inl (dpt D 80 (an D b.toNat))) (.inr 2)
theorem spec_depth (hl : l.stackTraces = false) (hA : qInj A) (h : CR A D σ) (hw : WF0 D) {b : Int} (hb' : qR b) : qMet g l M_X7_depth [vr (A 0 0), vi b] σ (qQo σ (o_depth D b)) := by
  refine wm_X7_depth hl ⟨h.1.1, _, _, spec_needBalloon hl h hw hb', fun σ1 v h1 => ?_, fun σ1 n h1 => ?_⟩
  · obtain ⟨rfl, hok, rfl⟩ := h1
    obtain ⟨⟨b1, -⟩, b2, b3, -⟩ := h.2.2.2.2.2 b.toNat hok.2.1
    unfold o_depth
    rw [cif_pos hok, b3]
    have hanc : ∀ c, c < nb D → an D c = -1 ∨ (0 ≤ an D c ∧ (an D c).toNat < nb D) := fun c hc => (hw.2.2.2.2.2.1 c hc).2.2.2.2.1
    refine ⟨b1, fun x11 h11 => ⟨fun n x13 x14 => ∃ (k : Nat) (v : Int), x13 = k ∧ k ≤ 80 ∧ x14 = bRef A v ∧ (v = -1 ∨ (0 ≤ v ∧ v.toNat < nb D)) ∧ (k : Int) + dpt D (80 - k) v = dpt D 80 (an D b.toNat) ∧ n = 100 - k, ⟨_, 0, an D b.toNat, rfl, by omega, h11, hanc _ hok.2.1, by simp, rfl⟩, ?_⟩⟩
    rintro n x13 x14 ⟨k, v, rfl, hk, rfl, hv, he, rfl⟩
    by_cases c : v = -1
    · have e0 : bRef A v = 0 := by unfold bRef; rw [if_pos c]
      rw [e0]
      refine ⟨fun _ => ⟨rfl, ?_⟩, fun z => absurd rfl z⟩
      have : dpt D (80 - k) v = 0 := by
        cases 80 - k with
        | zero => rfl
        | succ m => show (if v = -1 then 0 else _) = (0 : Int); rw [if_pos c]
      rw [this] at he
      rw [← he]
      simp
    · have e0 : bRef A v = A 7 v.toNat := by unfold bRef; rw [if_neg c]
      have hvn : v.toNat < nb D := by
        rcases hv with z | z
        · exact absurd z c
        · exact z.2
      rw [e0]
      obtain ⟨⟨c1, -⟩, c2, c3, -⟩ := h.2.2.2.2.2 v.toNat hvn
      refine ⟨fun z => absurd z (hA.2 _ _), fun _ => ⟨by unfold qR; omega, fun h80 => ⟨rfl, ?_⟩, fun h80 x24 h24 => ⟨c1, fun x27 h27 => ⟨_, ?_, k + 1, an D v.toNat, by omega, by omega, by rw [h27, c3], hanc _ hvn, ?_, rfl⟩⟩⟩⟩
      · have : k = 80 := by omega
        subst this
        rw [← he]
        show _ = Sum.inl (some (vi ((80 : Nat) + dpt D 0 v)))
        show _ = Sum.inl (some (vi ((80 : Nat) + 0)))
        simp
      · omega
      · have e1 : dpt D (80 - k) v = 1 + dpt D (80 - (k + 1)) (an D v.toNat) := by
          obtain ⟨m, hm⟩ : ∃ m, 80 - k = m + 1 := ⟨79 - k, by omega⟩
          rw [hm, show 80 - (k + 1) = m by omega]
          show (if v = -1 then 0 else _) = _
          rw [if_neg c]
        omega
  · obtain ⟨rfl, hok, rfl⟩ := h1
    unfold o_depth
    rw [cif_neg hok]
    exact ⟨rfl, rfl⟩
end
