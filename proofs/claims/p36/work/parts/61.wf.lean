/-! THE BOOK WELL FORMED, AND THE CLASS'S HEAP OF IT -/
noncomputable def cif {α : Type} (P : Prop) (a b : α) : α := @ite α P (Classical.propDecidable P) a b
theorem cif_pos {α : Type} {P : Prop} {a b : α} (h : P) : cif P a b = a := if_pos h
theorem cif_neg {α : Type} {P : Prop} {a b : α} (h : ¬ P) : cif P a b = b := if_neg h
def alP (D : qD) (q : Nat) : Prop := q < nq D ∧ gq D q = 0
def alB (D : qD) (b : Nat) : Prop := b < nb D ∧ gb D b = 0
def ixP (D : qD) (q : Nat) : Nat := (row D (hp D q)).idxOf q
def ixB (D : qD) (b : Nat) : Nat := (hs D (hb D b)).idxOf b
def rk (D : qD) (q : Nat) : Int := 8 * hp D q + ixP D q
def ky (D : qD) (b : Nat) : Int := 4 * rk D (hb D b) + ixB D b
def Ans (D : qD) : Prop := ∀ b, alB D b → an D b ≠ -1 → ky D (an D b).toNat < ky D b
def PgS (D : qD) (p : Nat) : Prop := (0 ≤ tg D p ∧ tg D p ≤ 2) ∧ (row D p).Nodup ∧ pn D p ≤ 8 ∧ ∀ q, q ∈ row D p → alP D q ∧ hp D q = p
def SpS (D : qD) (p : Nat) : Prop := (sp D p = 0 ∨ sp D p = 1) ∧ (sp D p = 1 → p + 1 < np D ∧ sp D (p + 1) = 0)
def PnS (D : qD) (q : Nat) : Prop := (gq D q = 0 ∨ gq D q = 1) ∧ hp D q < np D ∧ PnW D q ∧ (gq D q = 0 → q ∈ row D (hp D q)) ∧ (gq D q = 0 → ∀ b, b ∈ hs D q → alB D b ∧ hb D b = q)
def BlS (D : qD) (b : Nat) : Prop := (gb D b = 0 ∨ gb D b = 1) ∧ hb D b < nq D ∧ (1 ≤ lt D b ∧ lt D b ≤ 60) ∧ (gb D b = 0 → gq D (hb D b) = 0 ∧ b ∈ hs D (hb D b)) ∧ (an D b = -1 ∨ (0 ≤ an D b ∧ (an D b).toNat < nb D)) ∧ (gb D b = 0 → an D b ≠ -1 → gb D (an D b).toNat = 0)
def WF0 (D : qD) : Prop := (np D ≤ 10 ∧ nq D ≤ 50 ∧ nb D ≤ 80) ∧ (∀ p, p < np D → PgS D p) ∧ (∀ p, np D ≤ p → tg D p = 0 ∧ sp D p = 0 ∧ row D p = []) ∧ (∀ t, t < 3 → 50 ≤ gr D t ∧ gr D t ≤ 250) ∧ (∀ q, q < nq D → PnS D q) ∧ (∀ b, b < nb D → BlS D b) ∧
  (he D = -1 ∨ (0 ≤ he D ∧ alP D (he D).toNat)) ∧ (∀ x, x ∈ kp D → alP D x) ∧ ∀ p, p < np D → SpS D p
def WF (D : qD) : Prop := WF0 D ∧ (∀ p, p < np D → OKp D p) ∧ Ans D
theorem WF0_Pg {D : qD} (h : WF0 D) {p : Nat} (hp' : p < np D) : PgW D p := by
  obtain ⟨w1, w2, w3, w4, w5, w6, w7, w8, w9⟩ := h
  obtain ⟨p1, p2, p3, p4⟩ := w2 p hp'
  refine ⟨⟨p1, w4 _ (by omega)⟩, p2, p3, fun q hq => (w5 q (p4 q hq).1.1).2.2.1, fun q q' b hq hq' hb1 hb2 => ?_⟩
  have h1 := ((w5 q (p4 q hq).1.1).2.2.2.2 (p4 q hq).1.2 b hb1).2
  have h2 := ((w5 q' (p4 q' hq').1.1).2.2.2.2 (p4 q' hq').1.2 b hb2).2
  omega
/-! where a thing lies -/
noncomputable def kOf (D : qD) (p i : Nat) : Nat := lsp (fun k => i < rS D p (k + 1)) (pn D p)
noncomputable def kq (D : qD) (q : Nat) : Nat := kOf D (hp D q) (ixP D q)
noncomputable def LB (D : qD) (q : Nat) : Bx := pB D (hp D q) (kq D q) (ixP D q)
noncomputable def FBq (D : qD) (q j : Nat) : Bx := box D (hp D q) q (LB D q).2.2.1 (LB D q).2.2.2 j
noncomputable def FB (D : qD) (b : Nat) : Bx := FBq D (hb D b) (ixB D b)
theorem kOf_eq {D : qD} {p k i : Nat} (hw : PgW D p) (hk : rS D p k < pn D p) (h1 : rS D p k ≤ i) (h2 : i < rS D p (k + 1)) : kOf D p i = k := by
  refine lsp_eq ?_ (fun t ht hh => ?_) (fun _ => h2)
  · rcases rS_ge hw k with c | c <;> omega
  · have := rS_mono hw (j := t + 1) (k := k) (by omega)
    omega
theorem kOf_sp {D : qD} {p i : Nat} (hw : PgW D p) (hi : i < pn D p) : rS D p (kOf D p i) < pn D p ∧ rS D p (kOf D p i) ≤ i ∧ i < rS D p (kOf D p i + 1) := by
  obtain ⟨k, h1, h2, h3⟩ := row_of hw hi
  rw [kOf_eq hw h1 h2 h3]
  exact ⟨h1, h2, h3⟩
theorem ix_at {xs : List Nat} (h : xs.Nodup) {i : Nat} (hi : i < xs.length) : xs.idxOf (xs.getD i 0) = i := by
  have e : xs.getD i 0 = xs[i] := by simp [hi]
  rw [e]
  exact h.idxOf_getElem i hi
theorem ix_lt {xs : List Nat} {x : Nat} (h : x ∈ xs) : xs.idxOf x < xs.length := List.idxOf_lt_length_of_mem h
theorem ix_get {xs : List Nat} {x : Nat} (h : x ∈ xs) : xs.getD (xs.idxOf x) 0 = x := by
  have := ix_lt h
  have e : xs.getD (xs.idxOf x) 0 = xs[xs.idxOf x] := by simp [this]
  rw [e]
  exact List.getElem_idxOf this
/-! the class's heap -/
def bRef (A : Nat → Nat → Nat) (v : Int) : Nat := if v = -1 then 0 else A 7 v.toNat
def pRef (A : Nat → Nat → Nat) (v : Int) : Nat := if v = -1 then 0 else A 6 v.toNat
def BsR (A : Nat → Nat → Nat) (D : qD) (σ : qS) : Prop := gK σ (A 0 0) = 8 ∧ gP σ 280 (A 0 0) = A 1 0 ∧ gP σ 281 (A 0 0) = A 2 0 ∧ gP σ 282 (A 0 0) = A 3 0 ∧ gP σ 283 (A 0 0) = A 4 0 ∧ gP σ 284 (A 0 0) = A 8 0 ∧ gK σ (A 1 0) = 50 ∧ gL σ (A 1 0) = (List.range (np D)).map (A 5) ∧
  gK σ (A 2 0) = 50 ∧ gL σ (A 2 0) = (List.range (nq D)).map (A 6) ∧ gK σ (A 3 0) = 50 ∧ gL σ (A 3 0) = (List.range (nb D)).map (A 7)
def RdR (A : Nat → Nat → Nat) (D : qD) (σ : qS) : Prop := gK σ (A 8 0) = 7 ∧ gP σ 240 (A 8 0) = A 19 0 ∧ gK σ (A 19 0) = 23 ∧ gN σ (A 19 0) = 512 ∧ gI σ 241 (A 8 0) = (kp D).length ∧ (∀ i : Nat, i < (kp D).length → gR σ (A 19 0) i = A 6 ((kp D).getD i 0)) ∧ gP σ 242 (A 8 0) = pRef A (he D)
def PgC (A : Nat → Nat → Nat) (D : qD) (σ : qS) (p : Nat) : Prop := PgR A D σ p ∧ gI σ 165 (A 5 p) = sp D p ∧ gI σ 163 (A 5 p) = rowsOf D p
def PnC (A : Nat → Nat → Nat) (D : qD) (σ : qS) (q : Nat) : Prop := PnR A D σ q ∧ gI σ 211 (A 6 q) = gq D q ∧ (gq D q = 0 → gI σ 209 (A 6 q) = kq D q ∧ BxR σ (A 13 q) (LB D q))
def BlC (A : Nat → Nat → Nat) (D : qD) (σ : qS) (b : Nat) : Prop := BlR A D σ b ∧ gI σ 6 (A 7 b) = gb D b ∧ gP σ 5 (A 7 b) = bRef A (an D b) ∧ (gb D b = 0 → BxR σ (A 16 b) (FB D b))
def CR (A : Nat → Nat → Nat) (D : qD) (σ : qS) : Prop := BsR A D σ ∧ LyR A D σ ∧ RdR A D σ ∧ (∀ p, p < np D → PgC A D σ p) ∧ (∀ q, q < nq D → PnC A D σ q) ∧ ∀ b, b < nb D → BlC A D σ b
theorem CR_LR {A : Nat → Nat → Nat} {D : qD} {σ : qS} (h : CR A D σ) (hw : WF0 D) {p : Nat} (hp' : p < np D) : LR A D σ p := by
  obtain ⟨c1, c2, c3, c4, c5, c6⟩ := h
  obtain ⟨w1, w2, w3, w4, w5, w6, w7, w8, w9⟩ := hw
  obtain ⟨p1, p2, p3, p4⟩ := w2 p hp'
  refine ⟨c2, (c4 p hp').1, fun q hq => ⟨(c5 q (p4 q hq).1.1).1, (p4 q hq).2, fun b hb => (c6 b ((w5 q (p4 q hq).1.1).2.2.2.2 (p4 q hq).1.2 b hb).1.1).1⟩⟩
/-! what the calls need -/
def pgOk (D : qD) (p : Int) : Prop := 0 ≤ p ∧ p < np D
def pnOk (D : qD) (q : Int) : Prop := 0 ≤ q ∧ alP D q.toNat
def blOk (D : qD) (b : Int) : Prop := 0 ≤ b ∧ alB D b.toNat
def qQo (σ : qS) (o : Int ⊕ Nat) : qS → qRs → Prop := fun σ' r => σ' = σ ∧ r = (match o with | .inl v => .inl (some (vi v)) | .inr n => .inr n)
section
variable {g : qG} {l : Launch} {A : Nat → Nat → Nat} {D : qD} {σ : qS}
theorem getD_range {n i : Nat} (h : i < n) : (List.range n).getD i 0 = i := by simp [h]
theorem spec_needPage (hl : l.stackTraces = false) (h : CR A D σ) (hw : WF0 D) {p : Int} (hq : qR p) : qMet g l M_X7_needPage [vr (A 0 0), vi p] σ (qTr (fun σ' v => σ' = σ ∧ pgOk D p ∧ v = A 5 p.toNat) (fun σ' n => σ' = σ ∧ ¬ pgOk D p ∧ n = 2)) := by
  obtain ⟨⟨b1, b2, b3, b4, b5, b6, b7, b8, b9, b10, b11, b12⟩, c2, c3, c4, c5, c6⟩ := h
  have := hw.1
  refine wm_X7_needPage hl ⟨hq, fun hc => Or.inr ⟨2, rfl, rfl, fun z => by unfold pgOk at z; omega, rfl⟩, fun hc => ⟨b1, by rw [b2]; exact b7, np D, ?_, by unfold qR; omega, fun hd => ⟨A 5 p.toNat, ?_, Or.inr (c4 _ (by omega)).1.1, Or.inl ⟨_, rfl, rfl, ⟨by omega, hd⟩, rfl⟩⟩, fun hd => Or.inr ⟨2, rfl, rfl, fun z => hd z.2, rfl⟩⟩⟩
  · rw [b2]
    have := spec_sizeM (g := g) hl b7 b8
    rwa [List.length_range] at this
  · rw [b2]
    have := spec_getM (g := g) (i := p) (k := p.toNat) hl b7 b8 (by omega) (by rw [List.length_range]; omega)
    rwa [getD_range (by omega)] at this
theorem spec_needPanel (hl : l.stackTraces = false) (h : CR A D σ) (hw : WF0 D) {q : Int} (hq : qR q) : qMet g l M_X7_needPanel [vr (A 0 0), vi q] σ (qTr (fun σ' v => σ' = σ ∧ pnOk D q ∧ v = A 6 q.toNat) (fun σ' n => σ' = σ ∧ ¬ pnOk D q ∧ n = 2)) := by
  obtain ⟨⟨b1, b2, b3, b4, b5, b6, b7, b8, b9, b10, b11, b12⟩, c2, c3, c4, c5, c6⟩ := h
  have := hw.1
  have hget : ∀ i : Nat, q = i → i < nq D → qMet g l M_Jx4a65c_get_915e3 [vr (A 2 0), vi q] σ (qPr σ (A 6 q.toNat)) := by
    intro i hi hn
    have := spec_getM (g := g) (i := q) (k := i) hl b9 b10 hi (by rw [List.length_range]; exact hn)
    rw [getD_range hn] at this
    rwa [show q.toNat = i by omega]
  refine wm_X7_needPanel hl ⟨hq, fun hc => Or.inr ⟨2, rfl, rfl, fun z => by have := z.1; omega, rfl⟩, fun hc => ⟨b1, by rw [b3]; exact b9, nq D, ?_, by unfold qR; omega, fun hd => Or.inr ⟨2, rfl, rfl, fun z => by have := z.2.1; omega, rfl⟩, fun hd => ?_⟩⟩
  · rw [b3]
    have := spec_sizeM (g := g) hl b9 b10
    rwa [List.length_range] at this
  · obtain ⟨d1, d2, d3⟩ := c5 q.toNat (by omega)
    have hg := hw.2.2.2.2.1 q.toNat (by omega)
    rw [b3]
    refine ⟨A 6 q.toNat, hget q.toNat (by omega) (by omega), Or.inr d1.1, d1.1, by rw [d2]; have := hg.1; unfold qR; omega, ?_⟩
    rw [d2]
    exact ⟨fun he => ⟨A 6 q.toNat, hget q.toNat (by omega) (by omega), Or.inr d1.1, Or.inl ⟨_, rfl, rfl, ⟨by omega, by omega, he⟩, rfl⟩⟩, fun he => Or.inr ⟨2, rfl, rfl, fun z => he z.2.2, rfl⟩⟩
theorem spec_needBalloon (hl : l.stackTraces = false) (h : CR A D σ) (hw : WF0 D) {q : Int} (hq : qR q) : qMet g l M_X7_needBalloon [vr (A 0 0), vi q] σ (qTr (fun σ' v => σ' = σ ∧ blOk D q ∧ v = A 7 q.toNat) (fun σ' n => σ' = σ ∧ ¬ blOk D q ∧ n = 2)) := by
  obtain ⟨⟨b1, b2, b3, b4, b5, b6, b7, b8, b9, b10, b11, b12⟩, c2, c3, c4, c5, c6⟩ := h
  have := hw.1
  have hget : ∀ i : Nat, q = i → i < nb D → qMet g l M_Jx4a65c_get_915e3 [vr (A 3 0), vi q] σ (qPr σ (A 7 q.toNat)) := by
    intro i hi hn
    have := spec_getM (g := g) (i := q) (k := i) hl b11 b12 hi (by rw [List.length_range]; exact hn)
    rw [getD_range hn] at this
    rwa [show q.toNat = i by omega]
  refine wm_X7_needBalloon hl ⟨hq, fun hc => Or.inr ⟨2, rfl, rfl, fun z => by have := z.1; omega, rfl⟩, fun hc => ⟨b1, by rw [b4]; exact b11, nb D, ?_, by unfold qR; omega, fun hd => Or.inr ⟨2, rfl, rfl, fun z => by have := z.2.1; omega, rfl⟩, fun hd => ?_⟩⟩
  · rw [b4]
    have := spec_sizeM (g := g) hl b11 b12
    rwa [List.length_range] at this
  · obtain ⟨d1, d2, d3⟩ := c6 q.toNat (by omega)
    have hg := hw.2.2.2.2.2.1 q.toNat (by omega)
    rw [b4]
    refine ⟨A 7 q.toNat, hget q.toNat (by omega) (by omega), Or.inr d1.1, d1.1, by rw [d2]; have := hg.1; unfold qR; omega, ?_⟩
    rw [d2]
    exact ⟨fun he => ⟨A 7 q.toNat, hget q.toNat (by omega) (by omega), Or.inr d1.1, Or.inl ⟨_, rfl, rfl, ⟨by omega, by omega, he⟩, rfl⟩⟩, fun he => Or.inr ⟨2, rfl, rfl, fun z => he z.2.2, rfl⟩⟩
theorem spec_needPlace (hl : l.stackTraces = false) {x y : Int} (hx : qR x) (hy : qR y) : qMet g l M_X7_needPlace [vi x, vi y] σ (qTv (fun σ' => σ' = σ ∧ 0 ≤ x ∧ x ≤ y) (fun σ' n => σ' = σ ∧ ¬ (0 ≤ x ∧ x ≤ y) ∧ n = 2)) :=
  wm_X7_needPlace hl ⟨hx, fun hc => Or.inr ⟨2, rfl, rfl, by omega, rfl⟩, fun hc => ⟨hy, fun hd => Or.inl ⟨rfl, rfl, by omega, hd⟩, fun hd => Or.inr ⟨2, rfl, rfl, by omega, rfl⟩⟩⟩
theorem spec_needWithin (hl : l.stackTraces = false) {x a b : Int} (hx : qR x) (ha : qR a) (hb : qR b) : qMet g l M_X7_needWithin [vi x, vi a, vi b] σ (qTv (fun σ' => σ' = σ ∧ a ≤ x ∧ x ≤ b) (fun σ' n => σ' = σ ∧ ¬ (a ≤ x ∧ x ≤ b) ∧ n = 1)) :=
  wm_X7_needWithin hl ⟨hx, ha, fun hc => Or.inr ⟨1, rfl, rfl, by omega, rfl⟩, fun hc => ⟨hb, fun hd => Or.inl ⟨rfl, rfl, by omega, hd⟩, fun hd => Or.inr ⟨1, rfl, rfl, by omega, rfl⟩⟩⟩
def szOk (z : Int) : Prop := z = 4 ∨ z = 8 ∨ z = 12 ∨ z = 16
/-! what lies of alive things -/
theorem CR_pn (h : CR A D σ) {q : Nat} (hq : alP D q) : PnC A D σ q := h.2.2.2.2.1 q hq.1
theorem CR_bl (h : CR A D σ) {b : Nat} (hb : alB D b) : BlC A D σ b := h.2.2.2.2.2 b hb.1
/-! the plain questions -/
noncomputable def o_rows (D : qD) (p : Int) : Int ⊕ Nat := cif (pgOk D p) (.inl (rowsOf D p.toNat)) (.inr 2)
noncomputable def o_panels (D : qD) (p : Int) : Int ⊕ Nat := cif (pgOk D p) (.inl (pn D p.toNat)) (.inr 2)
noncomputable def o_panelAt (D : qD) (p i : Int) : Int ⊕ Nat := cif (pgOk D p ∧ 0 ≤ i ∧ i < pn D p.toNat) (.inl (pq D p.toNat i.toNat)) (.inr 2)
def bxV (r : Int) (b : Bx) (w : Int) : Int := if w = 0 then r else if w = 1 then b.1 else if w = 2 then b.2.1 else if w = 3 then b.2.2.1 else b.2.2.2
noncomputable def o_lies (D : qD) (q w : Int) : Int ⊕ Nat := cif (¬ pnOk D q) (.inr 2) (cif (0 ≤ w ∧ w ≤ 4) (.inl (bxV (kq D q.toNat) (LB D q.toNat) w)) (.inr 1))
noncomputable def o_floats (D : qD) (b w : Int) : Int ⊕ Nat := cif (¬ blOk D b) (.inr 2) (cif (0 ≤ w ∧ w ≤ 4) (.inl (bxV (hb D b.toNat) (FB D b.toNat) w)) (.inr 1))
theorem spec_pages (hl : l.stackTraces = false) (h : CR A D σ) : qMet g l M_X7_pages [vr (A 0 0)] σ (qQo σ (.inl (np D))) := by
  obtain ⟨⟨b1, b2, b3, b4, b5, b6, b7, b8, b9, b10, b11, b12⟩, c2, c3, c4, c5, c6⟩ := h
  refine wm_X7_pages hl ⟨b1, by rw [b2]; exact b7, np D, ?_, rfl, rfl⟩
  rw [b2]
  have := spec_sizeM (g := g) hl b7 b8
  rwa [List.length_range] at this
theorem spec_rows (hl : l.stackTraces = false) (h : CR A D σ) (hw : WF0 D) {p : Int} (hp' : qR p) : qMet g l M_X7_rows [vr (A 0 0), vi p] σ (qQo σ (o_rows D p)) := by
  refine wm_X7_rows hl ⟨h.1.1, _, _, spec_needPage hl h hw hp', fun σ1 v h1 => ?_, fun σ1 n h1 => ?_⟩
  · obtain ⟨rfl, hok, rfl⟩ := h1
    have hc := h.2.2.2.1 p.toNat (by unfold pgOk at hok; omega)
    unfold o_rows
    rw [cif_pos hok, hc.2.2]
    exact ⟨hc.1.1, rfl, rfl⟩
  · obtain ⟨rfl, hok, rfl⟩ := h1
    unfold o_rows
    rw [cif_neg hok]
    exact ⟨rfl, rfl⟩
theorem spec_panels (hl : l.stackTraces = false) (h : CR A D σ) (hw : WF0 D) {p : Int} (hp' : qR p) : qMet g l M_X7_panels [vr (A 0 0), vi p] σ (qQo σ (o_panels D p)) := by
  refine wm_X7_panels hl ⟨h.1.1, _, _, spec_needPage hl h hw hp', fun σ1 v h1 => ?_, fun σ1 n h1 => ?_⟩
  · obtain ⟨rfl, hok, rfl⟩ := h1
    have hc := h.2.2.2.1 p.toNat (by unfold pgOk at hok; omega)
    obtain ⟨p1, p2, p3, p4, p5, p6⟩ := hc.1
    unfold o_panels
    rw [cif_pos hok, p3]
    exact ⟨p1, p5, _, spec_sizeM hl p5 p6, rfl, rfl⟩
  · obtain ⟨rfl, hok, rfl⟩ := h1
    unfold o_panels
    rw [cif_neg hok]
    exact ⟨rfl, rfl⟩
theorem spec_panelAt (hl : l.stackTraces = false) (h : CR A D σ) (hw : WF0 D) {p i : Int} (hp' : qR p) (hi : qR i) : qMet g l M_X7_panelAt [vr (A 0 0), vi p, vi i] σ (qQo σ (o_panelAt D p i)) := by
  refine wm_X7_panelAt hl ⟨h.1.1, _, _, spec_needPage hl h hw hp', fun σ1 v h1 => ?_, fun σ1 n h1 => ?_⟩
  · obtain ⟨rfl, hok, rfl⟩ := h1
    have hpn : p.toNat < np D := by unfold pgOk at hok; omega
    have hc := h.2.2.2.1 p.toNat hpn
    have hS := hw.2.1 p.toNat hpn
    have hn8 := hS.2.2.1
    obtain ⟨p1, p2, p3, p4, p5, p6⟩ := hc.1
    rw [p3]
    have hll : ((row D p.toNat).length : Int) = (pn D p.toNat : Int) := rfl
    refine ⟨p1, p5, _, spec_sizeM hl p5 p6, _, _, spec_needPlace hl hi (by unfold qR; omega), fun σ2 h2 => ?_, fun σ2 n h2 => ?_⟩
    · obtain ⟨rfl, h3, h4⟩ := h2
      have hin : i.toNat < pn D p.toNat := by omega
      have hc5 := h.2.2.2.2.1 _ (hS.2.2.2 _ (pq_mem hin)).1.1
      rw [p3]
      refine ⟨p1, p5, A 6 (pq D p.toNat i.toNat), spec_getM hl p5 p6 (by omega) hin, Or.inr hc5.1.1, hc5.1.1, ?_⟩
      unfold o_panelAt
      rw [cif_pos ⟨hok, by omega, by omega⟩, hc5.1.2.1]
      exact ⟨rfl, rfl⟩
    · obtain ⟨rfl, h3, rfl⟩ := h2
      unfold o_panelAt
      rw [cif_neg (fun z => h3 (by omega))]
      exact ⟨rfl, rfl⟩
  · obtain ⟨rfl, hok, rfl⟩ := h1
    unfold o_panelAt
    rw [cif_neg (fun z => hok z.1)]
    exact ⟨rfl, rfl⟩
theorem spec_measure (hl : l.stackTraces = false) {x : Nat} {b : Bx} {w r : Int} (hx : gK σ x = 2) (hb : BxR σ x b) (hw : 0 ≤ w ∧ w ≤ 4) (h0 : ¬ w = 0) : qMet g l M_X1_measure [vr x, vi w] σ (qPi σ (bxV r b w)) := by
  obtain ⟨b1, b2, b3, b4⟩ := hb
  unfold bxV
  refine wm_X1_measure hl ⟨by unfold qR; omega, fun h => ⟨hx, rfl, ?_⟩, fun h => ⟨hx, rfl, ?_⟩, fun h => ⟨hx, rfl, ?_⟩, fun h => ⟨hx, rfl, ?_⟩⟩
  · rw [b1, h]; rfl
  · rw [b2, h]; rfl
  · rw [b3, h]; rfl
  · rw [b4, if_neg h0, if_neg (by omega), if_neg (by omega), if_neg (by omega)]
theorem spec_lies (hl : l.stackTraces = false) (h : CR A D σ) (hw : WF0 D) {q w : Int} (hq : qR q) (hww : qR w) : qMet g l M_X7_lies [vr (A 0 0), vi q, vi w] σ (qQo σ (o_lies D q w)) := by
  refine wm_X7_lies hl ⟨h.1.1, _, _, spec_needPanel hl h hw hq, fun σ1 v h1 => ?_, fun σ1 n h1 => ?_⟩
  · obtain ⟨rfl, hok, rfl⟩ := h1
    obtain ⟨d1, d2, d3⟩ := CR_pn h hok.2
    obtain ⟨d4, d5⟩ := d3 hok.2.2
    unfold o_lies
    rw [cif_neg (fun z => z hok)]
    refine ⟨_, _, spec_needWithin hl hww (by unfold qR; omega) (by unfold qR; omega), fun σ2 h2 => ?_, fun σ2 n h2 => ?_⟩
    · obtain ⟨rfl, h3, h4⟩ := h2
      rw [cif_pos ⟨h3, h4⟩]
      refine ⟨hww, fun h0 => ⟨d1.1, ?_⟩, fun h0 => ⟨d1.1, rfl, ?_⟩⟩
      · rw [d1.2.2.2.2.2.2.2.2.1]
        exact ⟨d1.2.2.2.2.2.2.2.2.2.2.2.2.2.2.1, _, spec_measure hl d1.2.2.2.2.2.2.2.2.2.2.2.2.2.2.1 d5 ⟨h3, h4⟩ h0, rfl, rfl⟩
      · rw [d4]
        unfold bxV
        rw [if_pos h0]
    · obtain ⟨rfl, h3, rfl⟩ := h2
      rw [cif_neg h3]
      exact ⟨rfl, rfl⟩
  · obtain ⟨rfl, hok, rfl⟩ := h1
    unfold o_lies
    rw [cif_pos hok]
    exact ⟨rfl, rfl⟩
theorem spec_floats (hl : l.stackTraces = false) (h : CR A D σ) (hw : WF0 D) {q w : Int} (hq : qR q) (hww : qR w) : qMet g l M_X7_floats [vr (A 0 0), vi q, vi w] σ (qQo σ (o_floats D q w)) := by
  refine wm_X7_floats hl ⟨h.1.1, _, _, spec_needBalloon hl h hw hq, fun σ1 v h1 => ?_, fun σ1 n h1 => ?_⟩
  · obtain ⟨rfl, hok, rfl⟩ := h1
    obtain ⟨d1, d2, d3, d4⟩ := CR_bl h hok.2
    have d5 := d4 hok.2.2
    obtain ⟨b1, b2, b3, b4, b5, b6, b7, b8⟩ := d1
    have hhb := (hw.2.2.2.2.2.1 _ hok.2.1).2.1
    have hc5 := h.2.2.2.2.1 _ hhb
    unfold o_floats
    rw [cif_neg (fun z => z hok)]
    refine ⟨_, _, spec_needWithin hl hww (by unfold qR; omega) (by unfold qR; omega), fun σ2 h2 => ?_, fun σ2 n h2 => ?_⟩
    · obtain ⟨rfl, h3, h4⟩ := h2
      rw [cif_pos ⟨h3, h4⟩]
      refine ⟨hww, fun h0 => ⟨b1, ?_⟩, fun h0 => ⟨b1, ?_⟩⟩
      · rw [b4]
        exact ⟨b7, _, spec_measure hl b7 d5 ⟨h3, h4⟩ h0, rfl, rfl⟩
      · rw [b6]
        refine ⟨hc5.1.1, rfl, ?_⟩
        rw [hc5.1.2.1]
        unfold bxV
        rw [if_pos h0]
    · obtain ⟨rfl, h3, rfl⟩ := h2
      rw [cif_neg h3]
      exact ⟨rfl, rfl⟩
  · obtain ⟨rfl, hok, rfl⟩ := h1
    unfold o_floats
    rw [cif_pos hok]
    exact ⟨rfl, rfl⟩
end
