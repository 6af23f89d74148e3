/-! the book with a balloon moved -/
def erB (D : qD) (b : Nat) : List Nat := (hs D (hb D b)).eraseIdx ((hs D (hb D b)).idxOf b)
def dMb (D : qD) (b q i : Nat) : qD := dN (dHs (dHs D (hb D b) (erB D b)) q ((hs (dHs D (hb D b) (erB D b)) q).insertIdx i b)) 2 b q
def toB (D : qD) (b q : Nat) : List Nat := if q = hb D b then erB D b else hs D q
section
variable {D : qD}
theorem hb_at {b b' q : Nat} : hb (dN D 2 b q) b' = if b' = b then q else hb D b' := by
  rw [hb_N]
  by_cases c : b' = b
  · rw [if_pos ⟨rfl, c⟩, if_pos c]
  · rw [if_neg (fun z => c z.2), if_neg c]
theorem hb_Mb {b b' q i : Nat} : hb (dMb D b q i) b' = if b' = b then q else hb D b' := hb_at
theorem hs_Mb {b q i q' : Nat} : hs (dMb D b q i) q' = if q' = q then (toB D b q).insertIdx i b else if q' = hb D b then erB D b else hs D q' := by
  show hs (dHs (dHs D (hb D b) (erB D b)) q ((hs (dHs D (hb D b) (erB D b)) q).insertIdx i b)) q' = _
  rw [hs_at, hs_at, hs_at]
  rfl
theorem dMb_back (hw : WF0 D) {b q i : Nat} (hb' : alB D b) (hq : alP D q) (hi : i ≤ (toB D b q).length) : dMb (dMb D b q i) b (hb D b) ((hs D (hb D b)).idxOf b) = D := by
  obtain ⟨hal, hm⟩ := alB_home hw hb'
  have hnd := (hw.2.2.2.2.1 _ hal.1).2.2.1.2.1
  have hndq := (hw.2.2.2.2.1 _ hq.1).2.2.1.2.1
  have hni : b ∉ toB D b q := by
    unfold toB
    split
    · exact fun z => ((ers_mem hnd hm).mp z).1 rfl
    · rename_i c
      exact fun z => c (((hw.2.2.2.2.1 _ hq.1).2.2.2.2 hq.2 b z).2.symm)
  have hndt : (toB D b q).Nodup := by
    unfold toB
    split
    · exact List.Nodup.eraseIdx _ hnd
    · exact hndq
  have e1 : hb (dMb D b q i) b = q := by rw [hb_Mb, if_pos rfl]
  have e2 : hs (dMb D b q i) q = (toB D b q).insertIdx i b := by rw [hs_Mb, if_pos rfl]
  have hix : ((toB D b q).insertIdx i b).idxOf b = i := by
    have h1 := ins_nodup hndt hni hi
    have h2 := ix_at h1 (i := i) (by rw [List.length_insertIdx, if_pos hi]; omega)
    have h3 : ((toB D b q).insertIdx i b).getD i 0 = b := by
      rw [List.getD_eq_getElem?_getD, List.getElem?_insertIdx_self]
      rw [if_pos hi]; rfl
    rw [h3] at h2
    exact h2
  have e3 : erB (dMb D b q i) b = toB D b q := by
    unfold erB
    rw [e1, e2, hix, List.eraseIdx_insertIdx_self]
  have eN : (dMb (dMb D b q i) b (hb D b) ((hs D (hb D b)).idxOf b)).1 = D.1 := by
    show q_u2 (q_u2 D.1 2 b q) 2 b (hb D b) = D.1
    funext x y
    unfold q_u2
    by_cases c : x = 2 ∧ y = b
    · rw [if_pos c, c.1, c.2]; rfl
    · rw [if_neg c, if_neg c]
  have eH : ∀ q', hs (dMb (dMb D b q i) b (hb D b) ((hs D (hb D b)).idxOf b)) q' = hs D q' := by
    intro q'
    rw [hs_Mb, e1, e3]
    by_cases c : q' = hb D b
    · rw [if_pos c, c]
      have : toB (dMb D b q i) b (hb D b) = erB D b := by
        unfold toB
        rw [e1, e3]
        by_cases d : hb D b = q
        · rw [if_pos d]
          unfold toB
          rw [if_pos d.symm]
        · rw [if_neg d, hs_Mb, if_neg d, if_pos rfl]
      rw [this]
      exact ers_back hm
    · rw [if_neg c]
      by_cases d : q' = q
      · rw [if_pos d]
        unfold toB
        rw [if_neg (fun z => c (d.trans z)), d]
      · rw [if_neg d, hs_Mb, if_neg d, if_neg c]
  have eL : (dMb (dMb D b q i) b (hb D b) ((hs D (hb D b)).idxOf b)).2.2.1 = D.2.2.1 := by
    funext x y
    by_cases c : x = 1
    · rw [c]; exact eH y
    · show q_u2 (q_u2 (q_u2 (q_u2 D.2.2.1 1 _ _) 1 _ _) 1 _ _) 1 _ _ x y = _
      unfold q_u2
      rw [if_neg (fun z => c z.1), if_neg (fun z => c z.1), if_neg (fun z => c z.1), if_neg (fun z => c z.1)]
  exact Prod.ext eN (Prod.ext rfl (Prod.ext eL rfl))
theorem WF0_Mb (hw : WF0 D) {b q i : Nat} (hb' : alB D b) (hq : alP D q) (hi : i ≤ (toB D b q).length) (h4 : (toB D b q).length < 4) : WF0 (dMb D b q i) := by
  obtain ⟨hal, hm⟩ := alB_home hw hb'
  obtain ⟨w1, w2, w3, w4, w5, w6, w7, w8, w9⟩ := hw
  have hnd := (w5 _ hal.1).2.2.1.2.1
  have hndq := (w5 _ hq.1).2.2.1.2.1
  have hni : b ∉ toB D b q := by
    unfold toB
    split
    · exact fun z => ((ers_mem hnd hm).mp z).1 rfl
    · rename_i c
      exact fun z => c (((w5 _ hq.1).2.2.2.2 hq.2 b z).2.symm)
  have hndt : (toB D b q).Nodup := by
    unfold toB
    split
    · exact List.Nodup.eraseIdx _ hnd
    · exact hndq
  have htm : ∀ x, x ∈ toB D b q → x ≠ b ∧ x ∈ hs D q := by
    intro x hx
    refine ⟨fun z => hni (z ▸ hx), ?_⟩
    unfold toB at hx
    by_cases c : q = hb D b
    · rw [if_pos c] at hx
      rw [c]; exact List.mem_of_mem_eraseIdx hx
    · rw [if_neg c] at hx; exact hx
  have htm2 : ∀ x, x ≠ b → x ∈ hs D q → x ∈ toB D b q := by
    intro x hne hx
    unfold toB
    by_cases c : q = hb D b
    · rw [if_pos c]
      unfold erB
      rw [ers_mem hnd hm, ← c]
      exact ⟨hne, hx⟩
    · rw [if_neg c]; exact hx
  have hmem : ∀ q' x, x ∈ hs (dMb D b q i) q' → (x = b ∧ q' = q) ∨ x ∈ hs D q' := by
    intro q' x hx
    rw [hs_Mb] at hx
    by_cases c : q' = q
    · rw [if_pos c, List.mem_insertIdx hi] at hx
      rcases hx with z | z
      · exact Or.inl ⟨z, c⟩
      · rw [c]; exact Or.inr (htm x z).2
    · rw [if_neg c] at hx
      by_cases d : q' = hb D b
      · rw [if_pos d] at hx
        rw [d]; exact Or.inr (List.mem_of_mem_eraseIdx hx)
      · rw [if_neg d] at hx; exact Or.inr hx
  refine ⟨w1, w2, w3, w4, fun q' hq' => ?_, fun x hx => ?_, w7, w8, w9⟩
  · obtain ⟨a1, a2, ⟨f1, f2, f3, f4, f5⟩, a4, a5⟩ := w5 q' hq'
    refine ⟨a1, a2, ⟨f1, ?_, ?_, fun x hx => ?_, f5⟩, a4, fun hg x hx => ?_⟩
    · rw [hs_Mb]
      split
      · exact ins_nodup hndt hni hi
      · split
        · exact List.Nodup.eraseIdx _ hnd
        · exact f2
    · rw [hs_Mb]
      split
      · rw [List.length_insertIdx, if_pos hi]; omega
      · split
        · rename_i c
          unfold erB
          rw [ers_len hm, ← c]; omega
        · exact f3
    · rcases hmem q' x hx with z | z
      · rw [z.1]
        exact (w5 _ hal.1).2.2.1.2.2.2.1 b hm
      · exact f4 x z
    · rw [hb_Mb]
      rcases hmem q' x hx with z | z
      · rw [z.1, if_pos rfl]
        exact ⟨hb', z.2.symm⟩
      · obtain ⟨g1, g2⟩ := a5 hg x z
        by_cases c : x = b
        · rw [if_pos c]
          refine ⟨g1, ?_⟩
          rw [hs_Mb] at hx
          by_cases d : q' = q
          · exact d.symm
          · exfalso
            rw [if_neg d] at hx
            rw [c] at g2 hx
            rw [if_pos g2.symm] at hx
            exact ((ers_mem hnd hm).mp hx).1 rfl
        · rw [if_neg c]
          exact ⟨g1, g2⟩
  · obtain ⟨a1, a2, a3, a4, a5, a6⟩ := w6 x hx
    unfold BlS
    rw [hb_Mb]
    refine ⟨a1, ?_, a3, fun hg => ?_, a5, a6⟩
    · split
      · exact hq.1
      · exact a2
    · by_cases c : x = b
      · rw [if_pos c]
        refine ⟨hq.2, ?_⟩
        rw [hs_Mb, if_pos rfl, List.mem_insertIdx hi]
        exact Or.inl c
      · rw [if_neg c]
        obtain ⟨g1, g2⟩ := a4 hg
        refine ⟨g1, ?_⟩
        rw [hs_Mb]
        by_cases d : hb D x = q
        · rw [if_pos d, List.mem_insertIdx hi]
          exact Or.inr (htm2 x c (by rw [← d]; exact g2))
        · rw [if_neg d]
          by_cases e : hb D x = hb D b
          · rw [if_pos e]
            unfold erB
            rw [ers_mem hnd hm, ← e]
            exact ⟨c, g2⟩
          · rw [if_neg e]; exact g2
theorem LyEq_Mb {b q i p : Nat} (h1 : q ∉ row D p) (h2 : hb D b ∉ row D p) : LyEq D (dMb D b q i) p := by
  refine ⟨rfl, rfl, rfl, fun q' hq' => ⟨rfl, rfl, rfl, rfl, ?_, fun b _ => rfl⟩⟩
  rw [hs_Mb, if_neg (fun z => h1 (by rw [← z]; exact hq')), if_neg (fun z => h2 (by rw [← z]; exact hq'))]
end
section
variable {g : qG} {l : Launch} {A : Nat → Nat → Nat} {D : qD} {σ : qS}
theorem SR_hbm (hA : qInj A) {σ' : qS} {b q : Nat} (hs' : σ' = sP σ 4 (A 7 b) (A 6 q)) (h : SR A D σ) : SR A (dN D 2 b q) σ' := by
  have i2 : ∀ f x, f ≠ 4 → gP σ' f x = gP σ f x := fun f x hf => by rw [hs']; exact if_neg (fun z => hf z.1)
  have iK : gK σ' = gK σ := by rw [hs']; rfl
  have iL : gL σ' = gL σ := by rw [hs']; rfl
  have iN : gN σ' = gN σ := by rw [hs']; rfl
  have iI : gI σ' = gI σ := by rw [hs']; rfl
  have iA : gA σ' = gA σ := by rw [hs']; rfl
  have iR : gR σ' = gR σ := by rw [hs']; rfl
  obtain ⟨h1, h2, h3, h4, h5, h6⟩ := h
  refine ⟨?_, ?_, ?_, fun p' hp' => ?_, fun q' hq => ?_, fun b' hb => ?_⟩
  · unfold BsR at h1 ⊢
    rw [iK, iL, i2 280 _ (by decide), i2 281 _ (by decide), i2 282 _ (by decide), i2 283 _ (by decide), i2 284 _ (by decide)]
    exact h1
  · unfold LyR at h2 ⊢
    rw [iK, iN, iA, i2 120 _ (by decide), i2 121 _ (by decide)]
    exact h2
  · unfold RdR at h3 ⊢
    rw [iK, iN, iI, iR, i2 240 _ (by decide), i2 242 _ (by decide)]
    exact h3
  · have := h4 p' hp'
    unfold PgR at this ⊢
    rw [iK, iL, iI, i2 161 _ (by decide)]
    exact this
  · have := h5 q' hq
    unfold PnR FcR at this ⊢
    simp only [iK, iL, iI, i2 201 _ (by decide), i2 205 _ (by decide), i2 206 _ (by decide), i2 207 _ (by decide), i2 208 _ (by decide)]
    exact this
  · obtain ⟨⟨b1, b2, b3, b4, b5, b6, b7, b8⟩, p2, p3⟩ := h6 b' hb
    unfold BlR
    rw [iK, iI, i2 2 _ (by decide), i2 3 _ (by decide), i2 5 _ (by decide), hb_at]
    refine ⟨⟨b1, b2, b3, b4, b5, ?_, b7, b8⟩, p2, p3⟩
    rw [hs', gP_sP]
    by_cases c : b' = b
    · rw [if_pos c, if_pos ⟨rfl, by rw [c]⟩]
    · rw [if_neg c, if_neg (fun z => c (qInj_i hA z.2))]
      exact b6
theorem frm_P {f x v : Nat} (hx : cls A x) : qFrm A σ (sP σ f x v) := by
  intro y hy hn
  obtain ⟨k, i, hk, e⟩ := hx
  exact ⟨rfl, fun _ => rfl, fun _ => if_neg (fun z => hn k i hk (z.2.trans e)), fun _ => rfl, fun _ => rfl, rfl, rfl⟩
theorem spec_goToB (hl : l.stackTraces = false) (hA : qInj A) (h : SR A D σ) (hw : WF0 D) {b q i : Nat} (hb' : alB D b) (hq : alP D q) (hi : i ≤ (toB D b q).length) (h4 : (toB D b q).length ≤ 4) :
    qMet g l M_X0_goTo [vr (A 7 b), vr (A 6 q), vi (i : Int)] σ (qTv0 (fun σ' => SR A (dMb D b q i) σ' ∧ gI σ' = gI σ ∧ qFrm A σ σ')) := by
  obtain ⟨hal, hm⟩ := alB_home hw hb'
  obtain ⟨⟨b1, b2, b3, b4, b5, b6, b7, b8⟩, -⟩ := h.2.2.2.2.2 b hb'.1
  have hPn := (h.2.2.2.2.1 _ hal.1).1
  have hPW := (hw.2.2.2.2.1 _ hal.1).2.2.1
  refine wm_X0_goTo hl ⟨b1, ?_⟩
  rw [b6]
  refine ⟨hPn.1, _, spec_indexB hl hA hPn hPW.2.1 hPW.2.2.1 hm, _, spec_takeB hl hPn (ix_lt hm) hPW.2.2.1, fun σ10 h10 => ?_⟩
  have hS1 := SR_hs hA h10 h
  have hPq := (hS1.2.2.2.2.1 _ hq.1).1
  have e : hs (dHs D (hb D b) (erB D b)) q = toB D b q := hs_at
  have e' : hs (dHs D (hb D b) ((hs D (hb D b)).eraseIdx ((hs D (hb D b)).idxOf b))) q = toB D b q := e
  have hpt := spec_putB (g := g) hl hPq (i := i) (b := b) (by rw [e']; exact hi) (by rw [e']; exact h4) (hS1.2.2.2.2.2 b hb'.1).1.1
  refine ⟨hPq.1, _, hpt, fun σ18 h18 => ?_⟩
  have hS2 := SR_hs hA h18 hS1
  refine ⟨(hS2.2.2.2.2.2 b hb'.1).1.1, fun σ21 h21 => ⟨rfl, SR_hbm hA h21 hS2, by rw [h21, h18, h10]; rfl, ?_⟩⟩
  refine frm_tr (σ1 := σ10) (by rw [h10]; exact frm_L ⟨12, _, by omega, rfl⟩) (frm_tr (σ1 := σ18) (by rw [h18]; exact frm_L ⟨12, _, by omega, rfl⟩) (by rw [h21]; exact frm_P ⟨7, _, by omega, rfl⟩))
theorem kpW_13 (hA : qInj A) {p q f : Nat} (hq : q ∉ row D p) (h1 : 40 ≤ f) (h2 : f ≤ 43) : ¬ kpW A D p f (A 13 q) := by
  rintro (⟨z, -⟩ | ⟨i, hi, ⟨z, -⟩ | ⟨-, -, z | ⟨b, -, z⟩⟩⟩)
  · omega
  · omega
  · exact hq (by rw [qInj_i hA z]; exact pq_mem hi)
  · rw [hA.1] at z; omega
def resv (o : Int ⊕ Nat) : qRs := match o with | .inl _ => .inl none | .inr n => .inr n
def qClV (A : Nat → Nat → Nat) (σ : qS) (o : Int ⊕ Nat) (D' : qD) : qS → qRs → Prop := fun σ' r => ∃ A', qInj A' ∧ (∀ k i, (20 ≤ k ∨ k = 0) → gK σ (A k i) ≠ 0 → A' k i = A k i) ∧ CR A' D' σ' ∧ qFrm A σ σ' ∧ r = resv o
end
