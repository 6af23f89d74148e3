/-! lists of a row: taken out, put in -/
theorem ins_nodup {xs : List Nat} {i x : Nat} (h : xs.Nodup) (hx : x ∉ xs) (hi : i ≤ xs.length) : (xs.insertIdx i x).Nodup :=
  ((List.perm_insertIdx x xs hi).nodup_iff).mpr (List.nodup_cons.mpr ⟨hx, h⟩)
theorem ers_mem {xs : List Nat} {x y : Nat} (h : xs.Nodup) (hx : x ∈ xs) : y ∈ xs.eraseIdx (xs.idxOf x) ↔ y ≠ x ∧ y ∈ xs := by
  rw [List.mem_eraseIdx_iff_getElem?]
  constructor
  · rintro ⟨i, h1, h2⟩
    have hm := List.mem_of_getElem? h2
    refine ⟨fun z => h1 ?_, hm⟩
    obtain ⟨hi, he⟩ := List.getElem?_eq_some_iff.mp h2
    rw [← z, ← he]
    exact (h.idxOf_getElem i hi).symm
  · rintro ⟨h1, h2⟩
    refine ⟨xs.idxOf y, fun z => h1 ?_, ?_⟩
    · have a := ix_get h2
      have b := ix_get hx
      rw [← a, z, b]
    · have := ix_lt h2
      rw [List.getElem?_eq_getElem this, List.getElem_idxOf this]
theorem ers_len {xs : List Nat} {x : Nat} (hx : x ∈ xs) : (xs.eraseIdx (xs.idxOf x)).length = xs.length - 1 := by
  have := ix_lt hx
  rw [List.length_eraseIdx, if_pos this]
theorem ers_back {xs : List Nat} {x : Nat} (hx : x ∈ xs) : (xs.eraseIdx (xs.idxOf x)).insertIdx (xs.idxOf x) x = xs := by
  have h := ix_lt hx
  have e : xs[xs.idxOf x] = x := List.getElem_idxOf h
  have := List.ext_getElem? (l₁ := (xs.eraseIdx (xs.idxOf x)).insertIdx (xs.idxOf x) x) (l₂ := xs) (fun j => ?_)
  · exact this
  · rw [List.getElem?_insertIdx, List.getElem?_eraseIdx, List.getElem?_eraseIdx, ers_len hx]
    by_cases c1 : j < xs.idxOf x
    · rw [if_pos c1, if_pos c1]
    · rw [if_neg c1]
      by_cases c2 : j = xs.idxOf x
      · rw [if_pos c2, if_pos (by omega), c2, List.getElem?_eq_getElem h, e]
      · rw [if_neg c2, if_neg (by omega)]
        congr 1; omega
/-- the row with x moved to the place i -/
def mvd_ (xs : List Nat) (x i : Nat) : List Nat := (xs.eraseIdx (xs.idxOf x)).insertIdx i x
theorem mv_sp {xs : List Nat} {x i : Nat} (h : xs.Nodup) (hx : x ∈ xs) (hi : i ≤ xs.length - 1) : (mvd_ xs x i).Nodup ∧ (mvd_ xs x i).length = xs.length ∧ ∀ y, y ∈ mvd_ xs x i ↔ y ∈ xs := by
  have hl := ers_len hx
  have h0 := ix_lt hx
  have hne : x ∉ xs.eraseIdx (xs.idxOf x) := fun z => ((ers_mem h hx).mp z).1 rfl
  refine ⟨ins_nodup (List.Nodup.eraseIdx _ h) hne (by omega), ?_, fun y => ?_⟩
  · unfold mvd_
    rw [List.length_insertIdx, if_pos (by omega), hl]
    omega
  · unfold mvd_
    rw [List.mem_insertIdx (by omega), ers_mem h hx]
    constructor
    · rintro (z | z)
      · rw [z]; exact hx
      · exact z.2
    · intro z
      by_cases c : y = x
      · exact Or.inl c
      · exact Or.inr ⟨c, z⟩
