/-! an answer as the machine holds it -/
def nrm (z : Int) : Int := (Int32.ofInt z).toInt
theorem nrm_Q (z : Int) : qR (nrm z) := by
  have h1 := Int32.toInt_lt (Int32.ofInt z)
  have h2 := Int32.le_toInt (Int32.ofInt z)
  unfold qR nrm
  omega
section
variable {g : qG} {l : Launch} {M : qM} {ac as' pc : Nat} {ls : List (Option qV)} {st : List qV} {σ : qS} {Post : qS → qRs → Prop}
theorem wp_nrm {z : Int} (k : qW g l M ac as' pc ls (vi (nrm z) :: st) σ Post) : qW g l M ac as' pc ls (vi z :: st) σ Post := by
  have e : q_v (vi z) = q_v (vi (nrm z)) := by
    show Value.int (Int32.ofInt z) = Value.int (Int32.ofInt (Int32.ofInt z).toInt)
    rw [Int32.ofInt_toInt]
  unfold qW at k ⊢
  rw [List.map_cons] at k ⊢
  rw [e]
  exact k
end
