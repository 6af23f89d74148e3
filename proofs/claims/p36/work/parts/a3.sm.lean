/-! p36: what the law keeps of the book, call by call -/
def Sm (D : qD) : Prop := np D ≤ 5 ∧ nq D ≤ 40 ∧ nb D ≤ 40 ∧ (∀ p, p < np D → pn D p ≤ 4) ∧ (∀ q, alP D q → 6 ≤ wd D q ∧ (hs D q).length ≤ 2 ∧ ∀ f, f ∈ fc D q → f.2.2 ≤ 2) ∧ ∀ b, alB D b → lt D b ≤ 12
def fup (f : Int → Int) (i z : Int) : Int → Int := fun j => if j = i then z else f j
/-- what the law's four rows hold -/
def Ct (D : qD) (f1 f2 f3 f4 : Int → Int) : Prop := (∀ q : Nat, q < nq D → f1 q = if gq D q = 0 then (hp D q : Int) else -1) ∧ (∀ q : Nat, alP D q → f2 q = ((hs D q).length : Int) ∧ f3 q = ((fc D q).length : Int)) ∧ (∀ q : Nat, nq D ≤ q → f3 q = 0) ∧ ∀ b : Nat, b < nb D → f4 b = if gb D b = 0 then (hb D b : Int) else -1
/-- no balloon answers -/
def NoA (D : qD) : Prop := ∀ b, alB D b → an D b = -1
section
variable {D : qD} {f1 f2 f3 f4 : Int → Int}
theorem Sm_R (hw : WF0 D) (h : Sm D) {p : Nat} (hp' : p < np D) : SmR D p := by
  obtain ⟨h1, h2, h3, h4, h5, h6⟩ := h
  refine ⟨h4 p hp', fun q hq => ?_⟩
  obtain ⟨g1, g2, g3, g4⟩ := hw.2.1 p hp'
  have hal := (g4 q hq).1
  obtain ⟨a, b, c⟩ := h5 q hal
  exact ⟨a, b, c, fun b' hb => h6 b' ((hw.2.2.2.2.1 q hal.1).2.2.2.2 hal.2 b' hb).1⟩
theorem Sm_OK (hw : WF0 D) (h : Sm D) {p : Nat} (hp' : p < np D) : OKp D p := OK_sm (WF0_Pg hw hp') (Sm_R hw h hp')
theorem Ans_No (h : NoA D) : Ans D := fun b hb hv => absurd (h b hb) hv
-- a new page
theorem Sm_Pg (hw : WF0 D) (h : Sm D) (hn : np D < 5) : Sm (dPg D) := by
  obtain ⟨h1, h2, h3, h4, h5, h6⟩ := h
  refine ⟨by rw [np_Pg]; omega, h2, h3, fun p hp2 => ?_, h5, h6⟩
  rw [np_Pg] at hp2
  by_cases c : p < np D
  · exact h4 p c
  · have z := (hw.2.2.1 p (by omega)).2.2
    show (row D p).length ≤ 4
    rw [z]; simp
-- a page translated, a growth set
theorem Sm_tg (h : Sm D) {p : Nat} {t : Int} : Sm (dTg D p t) := h
theorem Sm_gr (h : Sm D) {t : Nat} {v : Int} : Sm (dGr D t v) := h
theorem Sm_an (h : Sm D) {b : Nat} {v : Int} : Sm (dAn D b v) := h
theorem Sm_rd (h : Sm D) {ks : List Nat} {v : Int} : Sm (dRd D ks v) := by
  obtain ⟨h1, h2, h3, h4, h5, h6⟩ := h
  exact ⟨h1, h2, h3, h4, h5, h6⟩
-- a face
theorem Sm_Fc (h : Sm D) {q : Nat} {f : Fc3} (hf : f.2.2 ≤ 2) : Sm (dFc D q f) := by
  obtain ⟨h1, h2, h3, h4, h5, h6⟩ := h
  refine ⟨h1, h2, h3, h4, fun q' hq => ?_, h6⟩
  obtain ⟨a, b, c⟩ := h5 q' hq
  refine ⟨a, b, fun f' hf' => ?_⟩
  have e : fc (dFc D q f) q' = if q' = q then fc D q ++ [f] else fc D q' := fc_F
  rw [e] at hf'
  by_cases d : q' = q
  · rw [if_pos d] at hf'
    rcases List.mem_append.mp hf' with z | z
    · exact c f' (by rw [d]; exact z)
    · rw [List.mem_singleton.mp z]; exact hf
  · rw [if_neg d] at hf'
    exact c f' hf'
theorem Ct_Fc (h : Ct D f1 f2 f3 f4) {q : Nat} {f : Fc3} (hq : alP D q) : Ct (dFc D q f) f1 f2 (fup f3 q (f3 q + 1)) f4 := by
  obtain ⟨c1, c2, c3, c4⟩ := h
  have e : ∀ q', fc (dFc D q f) q' = if q' = q then fc D q ++ [f] else fc D q' := fun q' => fc_F
  refine ⟨c1, fun q' hq' => ⟨(c2 q' hq').1, ?_⟩, fun q' hq' => ?_, c4⟩
  · rw [e]; unfold fup
    by_cases d : q' = q
    · rw [if_pos (by omega), if_pos d, (c2 q hq).2, List.length_append, List.length_singleton]; omega
    · rw [if_neg (by omega), if_neg d]; exact (c2 q' hq').2
  · unfold fup
    have : nq D ≤ q' := hq'
    rw [if_neg (by have := hq.1; omega)]; exact c3 q' hq'
-- a panel moved
theorem Sm_row (h : Sm D) {p : Nat} {xs : List Nat} (hl : xs.length ≤ 4) : Sm (dRow D p xs) := by
  obtain ⟨h1, h2, h3, h4, h5, h6⟩ := h
  refine ⟨h1, h2, h3, fun p' hp2 => ?_, h5, h6⟩
  show (row (dRow D p xs) p').length ≤ 4
  rw [row_at]
  by_cases c : p' = p
  · rw [if_pos c]; exact hl
  · rw [if_neg c]; exact h4 p' hp2
-- a new panel
theorem Sm_Np (h : Sm D) {p i : Nat} {w x y : Int} (hn : pn D p < 4) (hq : nq D < 40) (hi : i ≤ pn D p) (hx : 6 ≤ x) : Sm (dNp D p i w x y) := by
  obtain ⟨h1, h2, h3, h4, h5, h6⟩ := h
  refine ⟨by rw [np_Np]; exact h1, by rw [nq_Np]; omega, by rw [nb_Np]; exact h3, fun p' hp2 => ?_, fun q hq2 => ?_, fun b hb2 => ?_⟩
  · rw [np_Np] at hp2
    show (row (dNp D p i w x y) p').length ≤ 4
    rw [row_Np]
    by_cases c : p' = p
    · rw [if_pos c, List.length_insertIdx]
      have : pn D p = (row D p).length := rfl
      split <;> omega
    · rw [if_neg c]; exact h4 p' hp2
  · obtain ⟨q1, q2⟩ := hq2
    rw [nq_Np] at q1
    rw [gq_Np] at q2
    rw [wd_Np, hs_Np, fc_Np]
    by_cases c : q = nq D
    · rw [if_pos c, if_pos c, if_pos c]
      exact ⟨hx, by simp, fun f hf => absurd hf List.not_mem_nil⟩
    · rw [if_neg c, if_neg c, if_neg c]
      rw [if_neg c] at q2
      exact h5 q ⟨by omega, q2⟩
  · obtain ⟨b1, b2⟩ := hb2
    rw [nb_Np] at b1
    exact h6 b ⟨b1, b2⟩
theorem Ct_Np (h : Ct D f1 f2 f3 f4) {p i : Nat} {w x y : Int} : Ct (dNp D p i w x y) (fup f1 (nq D) p) (fup f2 (nq D) 0) f3 f4 := by
  obtain ⟨c1, c2, c3, c4⟩ := h
  refine ⟨fun q hq => ?_, fun q hq => ?_, fun q hq => ?_, fun b hb' => ?_⟩
  · rw [nq_Np] at hq
    rw [gq_Np, hp_Np]; unfold fup
    by_cases c : q = nq D
    · rw [if_pos (by omega), if_pos c, if_pos rfl, if_pos c]
    · rw [if_neg (by omega), if_neg c, if_neg c]; exact c1 q (by omega)
  · obtain ⟨q1, q2⟩ := hq
    rw [nq_Np] at q1
    rw [gq_Np] at q2
    rw [hs_Np, fc_Np]; unfold fup
    by_cases c : q = nq D
    · rw [if_pos (by omega), if_pos c, if_pos c]
      exact ⟨rfl, c3 q (by omega)⟩
    · rw [if_neg (by omega), if_neg c, if_neg c]
      rw [if_neg c] at q2
      exact c2 q ⟨by omega, q2⟩
  · rw [nq_Np] at hq
    exact c3 q (by omega)
  · rw [nb_Np] at hb'
    rw [hb_Np]
    exact c4 b hb'
theorem NoA_Np (h : NoA D) {p i : Nat} {w x y : Int} : NoA (dNp D p i w x y) := by
  intro b hb'
  obtain ⟨b1, b2⟩ := hb'
  rw [nb_Np] at b1
  exact h b ⟨b1, b2⟩
-- a new balloon
theorem Sm_Nb (h : Sm D) {q i : Nat} {v : Int} (hl : (hs D q).length < 2) (hn : nb D < 40) (hv : v ≤ 12) : Sm (dNb D q i v) := by
  obtain ⟨h1, h2, h3, h4, h5, h6⟩ := h
  refine ⟨by rw [np_Nb]; exact h1, by rw [nq_Nb]; exact h2, by rw [nb_Nb]; omega, fun p' hp2 => ?_, fun q' hq2 => ?_, fun b hb2 => ?_⟩
  · rw [np_Nb] at hp2
    exact h4 p' hp2
  · obtain ⟨q1, q2⟩ := hq2
    rw [nq_Nb] at q1
    have hal : alP D q' := ⟨q1, q2⟩
    obtain ⟨a, b, c⟩ := h5 q' hal
    rw [hs_Nb]
    refine ⟨a, ?_, c⟩
    by_cases d : q' = q
    · rw [if_pos d, List.length_insertIdx]
      split <;> omega
    · rw [if_neg d]; exact b
  · obtain ⟨b1, b2⟩ := hb2
    rw [nb_Nb] at b1
    rw [gb_Nb] at b2
    rw [lt_Nb]
    by_cases c : b = nb D
    · rw [if_pos c]; exact hv
    · rw [if_neg c]
      rw [if_neg c] at b2
      exact h6 b ⟨by omega, b2⟩
theorem Ct_Nb (h : Ct D f1 f2 f3 f4) {q i : Nat} {v : Int} (hq : alP D q) (hi : i ≤ (hs D q).length) : Ct (dNb D q i v) f1 (fup f2 q (f2 q + 1)) f3 (fup f4 (nb D) q) := by
  obtain ⟨c1, c2, c3, c4⟩ := h
  refine ⟨fun q' hq' => ?_, fun q' hq' => ?_, fun q' hq' => ?_, fun b hb' => ?_⟩
  · rw [nq_Nb] at hq'
    rw [hp_Nb]
    exact c1 q' hq'
  · obtain ⟨q1, q2⟩ := hq'
    rw [nq_Nb] at q1
    have hal : alP D q' := ⟨q1, q2⟩
    refine ⟨?_, (c2 q' hal).2⟩
    rw [hs_Nb]; unfold fup
    by_cases c : q' = q
    · rw [if_pos (by omega), if_pos c, List.length_insertIdx, if_pos hi, (c2 q hq).1]; omega
    · rw [if_neg (by omega), if_neg c]; exact (c2 q' hal).1
  · rw [nq_Nb] at hq'
    exact c3 q' hq'
  · rw [nb_Nb] at hb'
    rw [gb_Nb, hb_Nb]; unfold fup
    by_cases c : b = nb D
    · rw [if_pos (by omega), if_pos c, if_pos rfl, if_pos c]
    · rw [if_neg (by omega), if_neg c, if_neg c]; exact c4 b (by omega)
theorem NoA_Nb (h : NoA D) {q i : Nat} {v : Int} : NoA (dNb D q i v) := by
  intro b hb'
  obtain ⟨b1, b2⟩ := hb'
  rw [nb_Nb] at b1
  rw [gb_Nb] at b2
  rw [an_Nb]
  by_cases c : b = nb D
  · rw [if_pos c]
  · rw [if_neg c]
    rw [if_neg c] at b2
    exact h b ⟨by omega, b2⟩
-- a balloon cut
theorem Sm_Cb (hw : WF0 D) (h : Sm D) {b : Nat} (hb' : alB D b) : Sm (dCb D b) := by
  obtain ⟨h1, h2, h3, h4, h5, h6⟩ := h
  refine ⟨h1, h2, h3, h4, fun q' hq2 => ?_, fun b' hb2 => ?_⟩
  · have hal : alP D q' := hq2
    obtain ⟨a, b0, c⟩ := h5 q' hal
    refine ⟨a, ?_, c⟩
    rw [hs_Cb]
    by_cases d : q' = hb D b
    · rw [if_pos d, ers_len (alB_home hw hb').2, ← d]; omega
    · rw [if_neg d]; exact b0
  · obtain ⟨b1, b2⟩ := hb2
    rw [gb_Cb] at b2
    by_cases c : b' = b
    · rw [if_pos c] at b2; omega
    · rw [if_neg c] at b2
      exact h6 b' ⟨b1, b2⟩
theorem Ct_Cb (hw : WF0 D) (h : Ct D f1 f2 f3 f4) {b : Nat} (hb' : alB D b) : Ct (dCb D b) f1 (fup f2 (hb D b) (f2 (hb D b) - 1)) f3 (fup f4 b (-1)) := by
  obtain ⟨c1, c2, c3, c4⟩ := h
  obtain ⟨hal0, hm⟩ := alB_home hw hb'
  refine ⟨c1, fun q' hq' => ?_, c3, fun b' hb2 => ?_⟩
  · have hal : alP D q' := hq'
    refine ⟨?_, (c2 q' hal).2⟩
    rw [hs_Cb]; unfold fup
    by_cases c : q' = hb D b
    · have := ix_lt hm
      rw [if_pos (by omega), if_pos c, ers_len hm, (c2 _ hal0).1]; omega
    · rw [if_neg (by omega), if_neg c]; exact (c2 q' hal).1
  · have hbn : b' < nb D := hb2
    have eh : hb (dCb D b) b' = hb D b' := rfl
    rw [gb_Cb, eh]; unfold fup
    by_cases c : b' = b
    · rw [if_pos (by omega), if_pos c, if_neg (by decide)]
    · rw [if_neg (by omega), if_neg c]; exact c4 b' hbn
theorem NoA_Cb (h : NoA D) {b : Nat} : NoA (dCb D b) := by
  intro b' hb'
  obtain ⟨b1, b2⟩ := hb'
  rw [gb_Cb] at b2
  by_cases c : b' = b
  · rw [if_pos c] at b2; omega
  · rw [if_neg c] at b2
    exact h b' ⟨b1, b2⟩
-- a panel cut
theorem Sm_Cp (h : Sm D) {q : Nat} : Sm (dCp D q) := by
  obtain ⟨h1, h2, h3, h4, h5, h6⟩ := h
  refine ⟨h1, h2, h3, fun p' hp2 => ?_, fun q' hq2 => ?_, fun b' hb2 => ?_⟩
  · show (row (dCp D q) p').length ≤ 4
    rw [row_Cp]
    by_cases c : p' = hp D q
    · rw [if_pos c]
      unfold rowC
      have := h4 (hp D q) (by rw [← c]; exact hp2)
      have h7 : pn D (hp D q) = (row D (hp D q)).length := rfl
      have h8 := List.length_eraseIdx_le (row D (hp D q)) ((row D (hp D q)).idxOf q)
      omega
    · rw [if_neg c]; exact h4 p' hp2
  · obtain ⟨q1, q2⟩ := hq2
    rw [gq_Cp] at q2
    rw [wd_Cp, hs_Cp]
    by_cases c : q' = q
    · rw [if_pos c] at q2; omega
    · rw [if_neg c] at q2
      exact h5 q' ⟨q1, q2⟩
  · obtain ⟨b1, b2⟩ := hb2
    rw [gb_Cp] at b2
    rw [lt_Cp]
    by_cases c : b' ∈ hs D q
    · rw [if_pos c] at b2; omega
    · rw [if_neg c] at b2
      exact h6 b' ⟨b1, b2⟩
theorem Ct_Cp (h : Ct D f1 f2 f3 f4) {q : Nat} (hq : alP D q) (h0 : hs D q = []) : Ct (dCp D q) (fup f1 q (-1)) f2 f3 f4 := by
  obtain ⟨c1, c2, c3, c4⟩ := h
  refine ⟨fun q' hq' => ?_, fun q' hq' => ?_, c3, fun b' hb2 => ?_⟩
  · have hqn : q' < nq D := hq'
    have eh : hp (dCp D q) q' = hp D q' := rfl
    rw [gq_Cp, eh]; unfold fup
    by_cases c : q' = q
    · rw [if_pos (by omega), if_pos c, if_neg (by decide)]
    · rw [if_neg (by omega), if_neg c]; exact c1 q' hqn
  · obtain ⟨q1, q2⟩ := hq'
    rw [gq_Cp] at q2
    rw [hs_Cp]
    by_cases c : q' = q
    · rw [if_pos c] at q2; omega
    · rw [if_neg c] at q2
      exact c2 q' ⟨q1, q2⟩
  · have hbn : b' < nb D := hb2
    have eh : hb (dCp D q) b' = hb D b' := rfl
    rw [gb_Cp, eh, h0, if_neg List.not_mem_nil]
    exact c4 b' hbn
theorem NoA_Cp (h : NoA D) {q : Nat} (h0 : hs D q = []) : NoA (dCp D q) := by
  intro b' hb'
  obtain ⟨b1, b2⟩ := hb'
  rw [gb_Cp, h0, if_neg List.not_mem_nil] at b2
  rw [an_Cp]
  exact h b' ⟨b1, b2⟩
-- a balloon moved
theorem Sm_Mb (hw : WF0 D) (h : Sm D) {b q i : Nat} (hb' : alB D b) (hq : q ≠ hb D b) (hl : (hs D q).length < 2) : Sm (dMb D b q i) := by
  obtain ⟨h1, h2, h3, h4, h5, h6⟩ := h
  refine ⟨h1, h2, h3, h4, fun q' hq2 => ?_, h6⟩
  have hal : alP D q' := hq2
  obtain ⟨a, b0, c⟩ := h5 q' hal
  refine ⟨a, ?_, c⟩
  have et : toB D b q = hs D q := if_neg hq
  rw [hs_Mb, et]
  by_cases d : q' = q
  · rw [if_pos d, List.length_insertIdx]
    split <;> omega
  · rw [if_neg d]
    by_cases d2 : q' = hb D b
    · rw [if_pos d2]
      unfold erB
      rw [ers_len (alB_home hw hb').2, ← d2]; omega
    · rw [if_neg d2]; exact b0
theorem Ct_Mb (hw : WF0 D) (h : Ct D f1 f2 f3 f4) {b q i : Nat} (hb' : alB D b) (hq : alP D q) (hne : q ≠ hb D b) (hi : i ≤ (hs D q).length) : Ct (dMb D b q i) f1 (fup (fup f2 (hb D b) (f2 (hb D b) - 1)) q (f2 q + 1)) f3 (fup f4 b q) := by
  obtain ⟨c1, c2, c3, c4⟩ := h
  obtain ⟨hal0, hm⟩ := alB_home hw hb'
  have et : toB D b q = hs D q := if_neg hne
  refine ⟨c1, fun q' hq' => ?_, c3, fun b' hb2 => ?_⟩
  · have hal : alP D q' := hq'
    refine ⟨?_, (c2 q' hal).2⟩
    rw [hs_Mb, et]; unfold fup
    by_cases c : q' = q
    · rw [if_pos (by omega), if_pos c, List.length_insertIdx, if_pos hi, (c2 q hq).1]; omega
    · rw [if_neg (by omega), if_neg c]
      by_cases d : q' = hb D b
      · have := ix_lt hm
        rw [if_pos (by omega), if_pos d]
        unfold erB
        rw [ers_len hm, (c2 _ hal0).1]; omega
      · rw [if_neg (by omega), if_neg d]; exact (c2 q' hal).1
  · have hbn : b' < nb D := hb2
    have eg : gb (dMb D b q i) b' = gb D b' := rfl
    rw [hb_Mb, eg]; unfold fup
    by_cases c : b' = b
    · rw [if_pos (by omega), if_pos c, c, if_pos hb'.2]
    · rw [if_neg (by omega), if_neg c]; exact c4 b' hbn
theorem NoA_Mb (h : NoA D) {b q i : Nat} : NoA (dMb D b q i) := h
end
