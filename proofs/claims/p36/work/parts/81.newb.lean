/-! the book with a new balloon -/
def dNb (D : qD) (q i : Nat) (v : Int) : qD := dL (dI (dI (dI (dN (dN D 0 2 (nb D + 1)) 2 (nb D) q) 8 (nb D) 0) 9 (nb D) v) 10 (nb D) (-1)) 1 q ((hs D q).insertIdx i (nb D))
section
variable {D : qD} {q i : Nat} {v : Int}
theorem nb_Nb : nb (dNb D q i v) = nb D + 1 := by
  show q_u2 (q_u2 D.1 0 2 (nb D + 1)) 2 (nb D) q 0 2 = _
  unfold q_u2
  rw [if_neg (fun z => absurd z.1 (by decide)), if_pos ⟨rfl, rfl⟩]
theorem hb_Nb {b : Nat} : hb (dNb D q i v) b = if b = nb D then q else hb D b := by
  show q_u2 (q_u2 D.1 0 2 (nb D + 1)) 2 (nb D) q 2 b = _
  unfold q_u2
  by_cases c : b = nb D
  · rw [if_pos ⟨rfl, c⟩, if_pos c]
  · rw [if_neg (fun z => c z.2), if_neg c, if_neg (fun z => absurd z.1 (by decide))]; rfl
theorem np_Nb : np (dNb D q i v) = np D := by
  show q_u2 (q_u2 D.1 0 2 (nb D + 1)) 2 (nb D) q 0 0 = _
  unfold q_u2
  rw [if_neg (fun z => absurd z.1 (by decide)), if_neg (fun z => absurd z.2 (by decide))]; rfl
theorem nq_Nb : nq (dNb D q i v) = nq D := by
  show q_u2 (q_u2 D.1 0 2 (nb D + 1)) 2 (nb D) q 0 1 = _
  unfold q_u2
  rw [if_neg (fun z => absurd z.1 (by decide)), if_neg (fun z => absurd z.2 (by decide))]; rfl
theorem hp_Nb {q' : Nat} : hp (dNb D q i v) q' = hp D q' := by
  show q_u2 (q_u2 D.1 0 2 (nb D + 1)) 2 (nb D) q 1 q' = _
  unfold q_u2
  rw [if_neg (fun z => absurd z.1 (by decide)), if_neg (fun z => absurd z.1 (by decide))]; rfl
theorem I_Nb (t b : Nat) : (dNb D q i v).2.1 t b = if t = 10 ∧ b = nb D then -1 else if t = 9 ∧ b = nb D then v else if t = 8 ∧ b = nb D then 0 else D.2.1 t b := rfl
theorem gb_Nb {b : Nat} : gb (dNb D q i v) b = if b = nb D then 0 else gb D b := by
  show (dNb D q i v).2.1 8 b = _
  rw [I_Nb, if_neg (fun z => absurd z.1 (by decide)), if_neg (fun z => absurd z.1 (by decide))]
  by_cases c : b = nb D
  · rw [if_pos ⟨rfl, c⟩, if_pos c]
  · rw [if_neg (fun z => c z.2), if_neg c]; rfl
theorem lt_Nb {b : Nat} : lt (dNb D q i v) b = if b = nb D then v else lt D b := by
  show (dNb D q i v).2.1 9 b = _
  rw [I_Nb, if_neg (fun z => absurd z.1 (by decide))]
  by_cases c : b = nb D
  · rw [if_pos ⟨rfl, c⟩, if_pos c]
  · rw [if_neg (fun z => c z.2), if_neg c, if_neg (fun z => absurd z.1 (by decide))]; rfl
theorem an_Nb {b : Nat} : an (dNb D q i v) b = if b = nb D then -1 else an D b := by
  show (dNb D q i v).2.1 10 b = _
  rw [I_Nb]
  by_cases c : b = nb D
  · rw [if_pos ⟨rfl, c⟩, if_pos c]
  · rw [if_neg (fun z => c z.2), if_neg c, if_neg (fun z => absurd z.1 (by decide)), if_neg (fun z => absurd z.1 (by decide))]; rfl
theorem hs_Nb {q' : Nat} : hs (dNb D q i v) q' = if q' = q then (hs D q).insertIdx i (nb D) else hs D q' := by
  show q_u2 D.2.2.1 1 q ((hs D q).insertIdx i (nb D)) 1 q' = _
  unfold q_u2
  by_cases c : q' = q
  · rw [if_pos ⟨rfl, c⟩, if_pos c]
  · rw [if_neg (fun z => c z.2), if_neg c]; rfl
theorem WF0_Nb (hw : WF0 D) (hq : alP D q) (hl : (hs D q).length < 4) (hn : nb D < 80) (hi : i ≤ (hs D q).length) (hv : 1 ≤ v ∧ v ≤ 60) : WF0 (dNb D q i v) := by
  obtain ⟨⟨n1, n2, n3⟩, w2, w3, w4, w5, w6, w7, w8, w9⟩ := hw
  have hnew : ∀ q', q' < nq D → nb D ∉ hs D q' := fun q' hq' z => by
    have := ((w5 q' hq').2.2.1.2.2.2.1 _ z).2
    omega
  refine ⟨⟨by rw [np_Nb]; exact n1, by rw [nq_Nb]; exact n2, by rw [nb_Nb]; omega⟩, fun p hp' => ?_, fun p hp' => ?_, w4, fun q' hq' => ?_, fun b hb' => ?_, ?_, fun x hx => ?_, fun p hp' => ?_⟩
  · rw [np_Nb] at hp'
    obtain ⟨a, b, c, d⟩ := w2 p hp'
    refine ⟨a, b, c, fun x hx => ?_⟩
    obtain ⟨e, f⟩ := d x hx
    exact ⟨⟨by rw [nq_Nb]; exact e.1, e.2⟩, by rw [hp_Nb]; exact f⟩
  · rw [np_Nb] at hp'
    exact w3 p hp'
  · rw [nq_Nb] at hq'
    obtain ⟨a1, a2, ⟨f1, f2, f3, f4, f5⟩, a4, a5⟩ := w5 q' hq'
    have hmem : ∀ x, x ∈ hs (dNb D q i v) q' → x ∈ hs D q' ∨ (q' = q ∧ x = nb D) := by
      intro x hx
      rw [hs_Nb] at hx
      by_cases c : q' = q
      · rw [if_pos c, List.mem_insertIdx hi] at hx
        rcases hx with z | z
        · exact Or.inr ⟨c, z⟩
        · rw [c]; exact Or.inl z
      · rw [if_neg c] at hx
        exact Or.inl hx
    refine ⟨a1, by rw [np_Nb, hp_Nb]; exact a2, ⟨f1, ?_, ?_, fun x hx => ?_, f5⟩, fun hg => by rw [hp_Nb]; exact a4 hg, fun hg x hx => ?_⟩
    · rw [hs_Nb]
      split
      · rename_i c
        exact ins_nodup (by rw [← c]; exact f2) (hnew q hq.1) hi
      · exact f2
    · rw [hs_Nb]
      split
      · rw [List.length_insertIdx, if_pos hi]; omega
      · exact f3
    · rw [lt_Nb, nb_Nb]
      rcases hmem x hx with z | ⟨-, z⟩
      · have := f4 x z
        rw [if_neg (by omega)]
        exact ⟨this.1, by omega⟩
      · rw [if_pos z]
        exact ⟨hv, by omega⟩
    · rcases hmem x hx with z | ⟨c, z⟩
      · obtain ⟨g1, g2⟩ := a5 hg x z
        have hne : x ≠ nb D := by have := g1.1; omega
        exact ⟨⟨by rw [nb_Nb]; have := g1.1; omega, by rw [gb_Nb, if_neg hne]; exact g1.2⟩, by rw [hb_Nb, if_neg hne]; exact g2⟩
      · rw [z]
        exact ⟨⟨by rw [nb_Nb]; omega, by rw [gb_Nb, if_pos rfl]⟩, by rw [hb_Nb, if_pos rfl]; exact c.symm⟩
  · rw [nb_Nb] at hb'
    unfold BlS
    rw [gb_Nb, hb_Nb, lt_Nb, an_Nb, nb_Nb, nq_Nb]
    by_cases c : b = nb D
    · rw [if_pos c, if_pos c, if_pos c, if_pos c]
      refine ⟨Or.inl rfl, hq.1, hv, fun _ => ⟨hq.2, ?_⟩, Or.inl rfl, fun _ z => absurd rfl z⟩
      rw [hs_Nb, if_pos rfl, List.mem_insertIdx hi]
      exact Or.inl c
    · rw [if_neg c, if_neg c, if_neg c, if_neg c]
      obtain ⟨a1, a2, a3, a4, a5, a6⟩ := w6 b (by omega)
      refine ⟨a1, a2, a3, fun hg => ⟨(a4 hg).1, ?_⟩, ?_, fun hg hv' => ?_⟩
      · rw [hs_Nb]
        have := (a4 hg).2
        by_cases d : hb D b = q
        · rw [if_pos d, List.mem_insertIdx hi, ← d]
          exact Or.inr this
        · rw [if_neg d]; exact this
      · rcases a5 with z | z
        · exact Or.inl z
        · exact Or.inr ⟨z.1, by omega⟩
      · have hlt : (an D b).toNat < nb D := by
          rcases a5 with z | z
          · exact absurd z hv'
          · exact z.2
        rw [gb_Nb, if_neg (by omega)]
        exact a6 hg hv'
  · rcases w7 with z | z
    · exact Or.inl z
    · exact Or.inr ⟨z.1, by rw [nq_Nb]; exact z.2.1, z.2.2⟩
  · have := w8 x hx
    exact ⟨by rw [nq_Nb]; exact this.1, this.2⟩
  · rw [np_Nb] at hp'
    obtain ⟨a, b⟩ := w9 p hp'
    exact ⟨a, fun y => ⟨by rw [np_Nb]; exact (b y).1, (b y).2⟩⟩
end
