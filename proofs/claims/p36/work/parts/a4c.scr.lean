/-! the law's script -/
def scv (g : qG) (i : Int) : Int := (g.2.2.1 (10 + i.toNat) : Int) - 2147483648
def scG (g : qG) (sc L : Nat) (s : Int → Int) : Prop := sc = g.2.2.1 8 + 1 ∧ L = g.2.2.1 9 ∧ ∀ j, nrm (scv g j) = s j
section
variable {g : qG} {l : Launch} {M : qM} {ac as' pc : Nat} {ls : List (Option qV)} {st : List qV} {σ : qS} {Post : qS → qRs → Prop}
theorem wp_ialoadS {sc : Nat} {i : Int} (hsc : sc = g.2.2.1 8 + 1) (hd : decode M.2.1 pc = .ok (.iaload, 1)) (h0 : 0 ≤ i) (h1 : i < (g.2.2.1 9 : Int)) (kk : qW g l M ac as' (pc + 1) ls (vi (nrm (scv g i)) :: st) σ Post) : qW g l M ac as' pc ls (vi i :: vr sc :: st) σ Post := by
  subst hsc
  have k2 := wp_nrm kk
  intro p e s m args below meth c H locs cells slots Ls C hR hS hc hs hL
  have hSF := C.2.2.2.2.2.2.2.2.2.1
  obtain ⟨hX, hb, h3⟩ := hSF.2.2.2.2.2.2.2.2.1.2
  have h4 : @LE.le Nat instLENat (g.2.2.1 9) 3072 := h3
  have e1 : (Int32.ofInt i).toNatClampNeg = i.toNat := q_cl h0 (by omega)
  refine va_sld C.1 C.2.1 hX (Nat.lt_of_lt_of_le hb C.2.2.2.2.2.2.2.2.2.2) (fun z => absurd hb (Nat.not_lt.mpr z)) hS (i := Int32.ofInt i) ?_ hd ?_
  · show ¬ (Int32.ofInt i < 0 ∨ g.2.2.1 9 ≤ (Int32.ofInt i).toNatClampNeg)
    rw [e1]
    intro h
    rcases h with h | h
    · have := (q_ltI (a := i) (b := 0) (by unfold qR; omega) q_0R).mp h
      omega
    · have h5 : @LE.le Nat instLENat (g.2.2.1 9) i.toNat := h
      omega
  · rw [e1]
    exact k2 p e s m args below meth c H locs cells slots Ls C hR hS hc hs hL
theorem wp_alenS {sc : Nat} (hsc : sc = g.2.2.1 8 + 1) (hd : decode M.2.1 pc = .ok (.arraylength, 1)) (kk : qW g l M ac as' (pc + 1) ls (vi (g.2.2.1 9 : Nat) :: st) σ Post) : qW g l M ac as' pc ls (vr sc :: st) σ Post := by
  subst hsc
  intro p e s m args below meth c H locs cells slots Ls C hR hS hc hs hL
  have hSF := C.2.2.2.2.2.2.2.2.2.1
  obtain ⟨hX, hb, h3⟩ := hSF.2.2.2.2.2.2.2.2.1.2
  have e1 : Int32.ofNat (g.2.2.1 9) = Int32.ofInt ((g.2.2.1 9 : Nat) : Int) := by
    first | rfl | exact (Int32.ofInt_natCast _).symm | exact Int32.ofInt_eq_ofNat.symm | simp
  refine va_slen C.1 C.2.1 hX (Nat.lt_of_lt_of_le hb C.2.2.2.2.2.2.2.2.2.2) (fun z => absurd hb (Nat.not_lt.mpr z)) hS hd ?_
  rw [e1]
  exact kk p e s m args below meth c H locs cells slots Ls C hR hS hc hs hL
end
