/-! THE MODEL: its object at A 30 0, its arrays at A 44 0 .. (the field's number less 280) -/
def mTab : List (Nat × Nat × Int) := [(324, 20, 10), (325, 20, 10), (326, 20, 80), (327, 21, 10), (328, 20, 3), (329, 20, 50), (330, 20, 50), (331, 20, 50), (332, 20, 50), (333, 20, 50), (334, 20, 300), (335, 20, 50), (336, 20, 200), (337, 20, 80), (338, 20, 80), (339, 20, 80), (340, 20, 250), (341, 20, 320), (342, 20, 384), (343, 20, 10), (344, 20, 10), (345, 20, 10), (346, 20, 80), (347, 20, 3), (348, 20, 50), (349, 20, 50), (350, 20, 50), (351, 20, 200), (352, 20, 80), (353, 20, 250), (356, 20, 8192)]
def MS (A : Nat → Nat → Nat) (σ : qS) : Prop := gK σ (A 30 0) = 9 ∧ ∀ t ∈ mTab, gP σ t.1 (A 30 0) = A (t.1 - 280) 0 ∧ gK σ (A (t.1 - 280) 0) = t.2.1 ∧ gN σ (A (t.1 - 280) 0) = t.2.2
section
variable {A : Nat → Nat → Nat} {σ : qS}
theorem m324 (h : MS A σ) : gP σ 324 (A 30 0) = A 44 0 ∧ gK σ (A 44 0) = 20 ∧ gN σ (A 44 0) = 10 := h.2 (324, 20, 10) (by decide)
theorem m325 (h : MS A σ) : gP σ 325 (A 30 0) = A 45 0 ∧ gK σ (A 45 0) = 20 ∧ gN σ (A 45 0) = 10 := h.2 (325, 20, 10) (by decide)
theorem m326 (h : MS A σ) : gP σ 326 (A 30 0) = A 46 0 ∧ gK σ (A 46 0) = 20 ∧ gN σ (A 46 0) = 80 := h.2 (326, 20, 80) (by decide)
theorem m327 (h : MS A σ) : gP σ 327 (A 30 0) = A 47 0 ∧ gK σ (A 47 0) = 21 ∧ gN σ (A 47 0) = 10 := h.2 (327, 21, 10) (by decide)
theorem m328 (h : MS A σ) : gP σ 328 (A 30 0) = A 48 0 ∧ gK σ (A 48 0) = 20 ∧ gN σ (A 48 0) = 3 := h.2 (328, 20, 3) (by decide)
theorem m329 (h : MS A σ) : gP σ 329 (A 30 0) = A 49 0 ∧ gK σ (A 49 0) = 20 ∧ gN σ (A 49 0) = 50 := h.2 (329, 20, 50) (by decide)
theorem m330 (h : MS A σ) : gP σ 330 (A 30 0) = A 50 0 ∧ gK σ (A 50 0) = 20 ∧ gN σ (A 50 0) = 50 := h.2 (330, 20, 50) (by decide)
theorem m331 (h : MS A σ) : gP σ 331 (A 30 0) = A 51 0 ∧ gK σ (A 51 0) = 20 ∧ gN σ (A 51 0) = 50 := h.2 (331, 20, 50) (by decide)
theorem m332 (h : MS A σ) : gP σ 332 (A 30 0) = A 52 0 ∧ gK σ (A 52 0) = 20 ∧ gN σ (A 52 0) = 50 := h.2 (332, 20, 50) (by decide)
theorem m333 (h : MS A σ) : gP σ 333 (A 30 0) = A 53 0 ∧ gK σ (A 53 0) = 20 ∧ gN σ (A 53 0) = 50 := h.2 (333, 20, 50) (by decide)
theorem m334 (h : MS A σ) : gP σ 334 (A 30 0) = A 54 0 ∧ gK σ (A 54 0) = 20 ∧ gN σ (A 54 0) = 300 := h.2 (334, 20, 300) (by decide)
theorem m335 (h : MS A σ) : gP σ 335 (A 30 0) = A 55 0 ∧ gK σ (A 55 0) = 20 ∧ gN σ (A 55 0) = 50 := h.2 (335, 20, 50) (by decide)
theorem m336 (h : MS A σ) : gP σ 336 (A 30 0) = A 56 0 ∧ gK σ (A 56 0) = 20 ∧ gN σ (A 56 0) = 200 := h.2 (336, 20, 200) (by decide)
theorem m337 (h : MS A σ) : gP σ 337 (A 30 0) = A 57 0 ∧ gK σ (A 57 0) = 20 ∧ gN σ (A 57 0) = 80 := h.2 (337, 20, 80) (by decide)
theorem m338 (h : MS A σ) : gP σ 338 (A 30 0) = A 58 0 ∧ gK σ (A 58 0) = 20 ∧ gN σ (A 58 0) = 80 := h.2 (338, 20, 80) (by decide)
theorem m339 (h : MS A σ) : gP σ 339 (A 30 0) = A 59 0 ∧ gK σ (A 59 0) = 20 ∧ gN σ (A 59 0) = 80 := h.2 (339, 20, 80) (by decide)
theorem m340 (h : MS A σ) : gP σ 340 (A 30 0) = A 60 0 ∧ gK σ (A 60 0) = 20 ∧ gN σ (A 60 0) = 250 := h.2 (340, 20, 250) (by decide)
theorem m341 (h : MS A σ) : gP σ 341 (A 30 0) = A 61 0 ∧ gK σ (A 61 0) = 20 ∧ gN σ (A 61 0) = 320 := h.2 (341, 20, 320) (by decide)
theorem m342 (h : MS A σ) : gP σ 342 (A 30 0) = A 62 0 ∧ gK σ (A 62 0) = 20 ∧ gN σ (A 62 0) = 384 := h.2 (342, 20, 384) (by decide)
theorem m343 (h : MS A σ) : gP σ 343 (A 30 0) = A 63 0 ∧ gK σ (A 63 0) = 20 ∧ gN σ (A 63 0) = 10 := h.2 (343, 20, 10) (by decide)
theorem m344 (h : MS A σ) : gP σ 344 (A 30 0) = A 64 0 ∧ gK σ (A 64 0) = 20 ∧ gN σ (A 64 0) = 10 := h.2 (344, 20, 10) (by decide)
theorem m345 (h : MS A σ) : gP σ 345 (A 30 0) = A 65 0 ∧ gK σ (A 65 0) = 20 ∧ gN σ (A 65 0) = 10 := h.2 (345, 20, 10) (by decide)
theorem m346 (h : MS A σ) : gP σ 346 (A 30 0) = A 66 0 ∧ gK σ (A 66 0) = 20 ∧ gN σ (A 66 0) = 80 := h.2 (346, 20, 80) (by decide)
theorem m347 (h : MS A σ) : gP σ 347 (A 30 0) = A 67 0 ∧ gK σ (A 67 0) = 20 ∧ gN σ (A 67 0) = 3 := h.2 (347, 20, 3) (by decide)
theorem m348 (h : MS A σ) : gP σ 348 (A 30 0) = A 68 0 ∧ gK σ (A 68 0) = 20 ∧ gN σ (A 68 0) = 50 := h.2 (348, 20, 50) (by decide)
theorem m349 (h : MS A σ) : gP σ 349 (A 30 0) = A 69 0 ∧ gK σ (A 69 0) = 20 ∧ gN σ (A 69 0) = 50 := h.2 (349, 20, 50) (by decide)
theorem m350 (h : MS A σ) : gP σ 350 (A 30 0) = A 70 0 ∧ gK σ (A 70 0) = 20 ∧ gN σ (A 70 0) = 50 := h.2 (350, 20, 50) (by decide)
theorem m351 (h : MS A σ) : gP σ 351 (A 30 0) = A 71 0 ∧ gK σ (A 71 0) = 20 ∧ gN σ (A 71 0) = 200 := h.2 (351, 20, 200) (by decide)
theorem m352 (h : MS A σ) : gP σ 352 (A 30 0) = A 72 0 ∧ gK σ (A 72 0) = 20 ∧ gN σ (A 72 0) = 80 := h.2 (352, 20, 80) (by decide)
theorem m353 (h : MS A σ) : gP σ 353 (A 30 0) = A 73 0 ∧ gK σ (A 73 0) = 20 ∧ gN σ (A 73 0) = 250 := h.2 (353, 20, 250) (by decide)
theorem m356 (h : MS A σ) : gP σ 356 (A 30 0) = A 76 0 ∧ gK σ (A 76 0) = 20 ∧ gN σ (A 76 0) = 8192 := h.2 (356, 20, 8192) (by decide)
end
/-- what of the model's own changes: the object's fields SI, the arrays' places SA (tag, place) -/
def qMc (A : Nat → Nat → Nat) (SI : Nat → Prop) (SA : Nat → Int → Prop) (σ σ' : qS) : Prop := gK σ' = gK σ ∧ gL σ' = gL σ ∧ gN σ' = gN σ ∧ gP σ' = gP σ ∧ gR σ' = gR σ ∧ (∀ f x, ¬ (x = A 30 0 ∧ SI f) → gI σ' f x = gI σ f x) ∧ ∀ x i, (∀ t, x = A t 0 → ¬ SA t i) → gA σ' x i = gA σ x i
def noI : Nat → Prop := fun _ => False
def noA : Nat → Int → Prop := fun _ _ => False
section
variable {A : Nat → Nat → Nat} {σ σ1 σ2 σ' : qS} {SI SI' : Nat → Prop} {SA SA' : Nat → Int → Prop}
theorem qMc_rf : qMc A SI SA σ σ := ⟨rfl, rfl, rfl, rfl, rfl, fun _ _ _ => rfl, fun _ _ _ => rfl⟩
theorem qMc_mono (h : qMc A SI SA σ σ') (h1 : ∀ f, SI f → SI' f) (h2 : ∀ t i, SA t i → SA' t i) : qMc A SI' SA' σ σ' :=
  ⟨h.1, h.2.1, h.2.2.1, h.2.2.2.1, h.2.2.2.2.1, fun f x hn => h.2.2.2.2.2.1 f x (fun z => hn ⟨z.1, h1 f z.2⟩), fun x i hn => h.2.2.2.2.2.2 x i (fun t e z => hn t e (h2 t i z))⟩
theorem qMc_tr (h : qMc A SI SA σ σ1) (h' : qMc A SI SA σ1 σ2) : qMc A SI SA σ σ2 :=
  ⟨h'.1.trans h.1, h'.2.1.trans h.2.1, h'.2.2.1.trans h.2.2.1, h'.2.2.2.1.trans h.2.2.2.1, h'.2.2.2.2.1.trans h.2.2.2.2.1, fun f x hn => (h'.2.2.2.2.2.1 f x hn).trans (h.2.2.2.2.2.1 f x hn), fun x i hn => (h'.2.2.2.2.2.2 x i hn).trans (h.2.2.2.2.2.2 x i hn)⟩
theorem qMc_trm (h : qMc A SI SA σ σ1) (h' : qMc A SI' SA' σ1 σ2) (h1 : ∀ f, SI' f → SI f) (h2 : ∀ t i, SA' t i → SA t i) : qMc A SI SA σ σ2 := qMc_tr h (qMc_mono h' h1 h2)
theorem qMc_I {f : Nat} {v : Int} (h : SI f) : qMc A SI SA σ (sI σ f (A 30 0) v) := ⟨rfl, rfl, rfl, rfl, rfl, fun f' x hn => gI_ne (fun z => hn ⟨z.2, by rw [z.1]; exact h⟩), fun _ _ _ => rfl⟩
theorem qMc_A {t : Nat} {i v : Int} (h : SA t i) : qMc A SI SA σ (sA σ (A t 0) i v) := ⟨rfl, rfl, rfl, rfl, rfl, fun _ _ _ => rfl, fun x j hn => if_neg (fun z => hn t z.1 (by rw [z.2]; exact h))⟩
theorem qMc_at (hA : qInj A) (h : qMc A SI SA σ σ') {t : Nat} {i : Int} (hn : ¬ SA t i) : gA σ' (A t 0) i = gA σ (A t 0) i :=
  h.2.2.2.2.2.2 _ i (fun t' e => by rw [hA.1] at e; rw [← e.1]; exact hn)
theorem qMc_f (h : qMc A SI SA σ σ') {f : Nat} (hn : ¬ SI f) : gI σ' f (A 30 0) = gI σ f (A 30 0) := h.2.2.2.2.2.1 f _ (fun z => hn z.2)
theorem MS_c (hc : qMc A SI SA σ σ') (h : MS A σ) : MS A σ' := by
  unfold MS
  rw [hc.1, hc.2.2.1, hc.2.2.2.1]
  exact h
theorem gA_at (hA : qInj A) {t t' : Nat} {i j v : Int} : gA (sA σ (A t 0) i v) (A t' 0) j = if t' = t ∧ j = i then v else gA σ (A t' 0) j := by
  rw [gA_sA]
  by_cases c : t' = t ∧ j = i
  · rw [if_pos c, if_pos ⟨by rw [c.1], c.2⟩]
  · rw [if_neg c, if_neg (fun z => c ⟨by have := z.1; rw [hA.1] at this; exact this.1, z.2⟩)]
/-- the class's heap stays where the model works -/
theorem CR_mc (hA : qInj A) {D : qD} (hS : ∀ t i, SA t i → 20 ≤ t) (hc : qMc A SI SA σ σ') (h : CR A D σ) : CR A D σ' := by
  obtain ⟨c1, c2, c3, c4, c5, c6, c7⟩ := hc
  have iI : ∀ f k i, k < 20 → gI σ' f (A k i) = gI σ f (A k i) := fun f k i hk => c6 f _ (fun z => by have := z.1; rw [hA.1] at this; omega)
  have i5 : ∀ f i, gI σ' f (A 5 i) = gI σ f (A 5 i) := fun f i => iI f 5 i (by decide)
  have i6 : ∀ f i, gI σ' f (A 6 i) = gI σ f (A 6 i) := fun f i => iI f 6 i (by decide)
  have i7 : ∀ f i, gI σ' f (A 7 i) = gI σ f (A 7 i) := fun f i => iI f 7 i (by decide)
  have i8 : ∀ f i, gI σ' f (A 8 i) = gI σ f (A 8 i) := fun f i => iI f 8 i (by decide)
  have i13 : ∀ f i, gI σ' f (A 13 i) = gI σ f (A 13 i) := fun f i => iI f 13 i (by decide)
  have i15 : ∀ f i, gI σ' f (A 15 i) = gI σ f (A 15 i) := fun f i => iI f 15 i (by decide)
  have i16 : ∀ f i, gI σ' f (A 16 i) = gI σ f (A 16 i) := fun f i => iI f 16 i (by decide)
  have iA : ∀ i, gA σ' (A 9 0) i = gA σ (A 9 0) i := fun i => c7 _ i (fun t e z => by rw [hA.1] at e; have := hS t i z; omega)
  unfold CR BsR LyR RdR PgC PgR PnC PnR FcR BlC BlR BxR at h ⊢
  simp only [c1, c2, c3, c4, c5, i5, i6, i7, i8, i13, i15, i16, iA]
  exact h
theorem qSame_mA {x : Nat} {i : Int} (h : qSame σ σ' x) : gA σ' x i = gA σ x i := h.2.2.2.1 i
end
/-! the model's data and the book -/
def pgv (D : qD) (q : Nat) : Int := if gq D q = 0 then hp D q else -1
def pnv (D : qD) (b : Nat) : Int := if gb D b = 0 then hb D b else -1
/-- what a refused change puts back; the arrays by their tags: tongues, counts, rows, growths, pages, faces' and balloons' numbers, balloons, panels -/
def MA1 (A : Nat → Nat → Nat) (τ : Nat → Nat) (D : qD) (σ : qS) : Prop :=
  (∀ p : Nat, p < 10 → gA σ (A (τ 44) 0) p = tg D p ∧ gA σ (A (τ 45) 0) p = pn D p ∧ ∀ i : Nat, i < pn D p → gA σ (A (τ 46) 0) (8 * (p : Int) + i) = pq D p i) ∧
  (∀ t : Nat, t < 3 → gA σ (A (τ 48) 0) t = gr D t) ∧
  (∀ q : Nat, q < nq D → gA σ (A (τ 49) 0) q = pgv D q ∧ gA σ (A (τ 53) 0) q = (fc D q).length ∧ gA σ (A (τ 55) 0) q = (hs D q).length ∧ ∀ k : Nat, k < (hs D q).length → gA σ (A (τ 56) 0) (4 * (q : Int) + k) = bl D q k) ∧
  ∀ b : Nat, b < nb D → gA σ (A (τ 57) 0) b = pnv D b
/-- what is only added to -/
def MA2 (A : Nat → Nat → Nat) (D : qD) (σ : qS) : Prop :=
  (∀ p : Nat, p < 10 → gA σ (A 47 0) p = sp D p) ∧
  (∀ q : Nat, q < nq D → gA σ (A 50 0) q = wt D q ∧ gA σ (A 51 0) q = wd D q ∧ gA σ (A 52 0) q = ht D q ∧ ∀ i : Nat, i < (fc D q).length → gA σ (A 54 0) (6 * (q : Int) + 3 * i) = ((fc D q).getD i (0, 0, 0)).1 ∧ gA σ (A 54 0) (6 * (q : Int) + 3 * i + 1) = ((fc D q).getD i (0, 0, 0)).2.1 ∧ gA σ (A 54 0) (6 * (q : Int) + 3 * i + 2) = ((fc D q).getD i (0, 0, 0)).2.2) ∧
  ∀ b : Nat, b < nb D → gA σ (A 58 0) b = lt D b ∧ gA σ (A 59 0) b = an D b
def tid : Nat → Nat := fun t => t
def MB (A : Nat → Nat → Nat) (D : qD) (σ : qS) : Prop := MS A σ ∧ MA1 A tid D σ ∧ MA2 A D σ
def MBox (A : Nat → Nat → Nat) (σ : qS) (t : Nat) (i : Int) (b : Bx) : Prop := gA σ (A t 0) i = b.1 ∧ gA σ (A t 0) (i + 1) = b.2.1 ∧ gA σ (A t 0) (i + 2) = b.2.2.1 ∧ gA σ (A t 0) (i + 3) = b.2.2.2
/-- what lies of a page -/
def ML (A : Nat → Nat → Nat) (D : qD) (σ : qS) (p : Nat) : Prop := gA σ (A 63 0) p = rowsOf D p ∧ ∀ q, q ∈ row D p → gA σ (A 60 0) (5 * (q : Int)) = kq D q ∧ MBox A σ 60 (5 * (q : Int) + 1) (LB D q) ∧ ∀ b, b ∈ hs D q → MBox A σ 61 (4 * (b : Int)) (FB D b)
def MSc (A : Nat → Nat → Nat) (D : qD) (σ : qS) : Prop := gI σ 321 (A 30 0) = np D ∧ gI σ 322 (A 30 0) = nq D ∧ gI σ 323 (A 30 0) = nb D
def MRd (A : Nat → Nat → Nat) (D : qD) (σ : qS) : Prop := gI σ 354 (A 30 0) = he D ∧ gI σ 355 (A 30 0) = (kp D).length ∧ ∀ i : Nat, i < (kp D).length → gA σ (A 76 0) i = (kp D).getD i 0
def MZ (A : Nat → Nat → Nat) (D : qD) (σ : qS) : Prop := ∀ p : Nat, np D ≤ p → p < 10 → gA σ (A 63 0) p = 0
/-- what lies of panels that are gone is still a number -/
def MGo (A : Nat → Nat → Nat) (D : qD) (σ : qS) : Prop := ∀ q : Nat, q < nq D → gq D q ≠ 0 → ∀ i : Int, 5 * (q : Int) ≤ i → i < 5 * (q : Int) + 5 → qR (gA σ (A 60 0) i)
def MR (A : Nat → Nat → Nat) (D : qD) (σ : qS) : Prop := MB A D σ ∧ MSc A D σ ∧ MRd A D σ ∧ MZ A D σ ∧ (∀ p, p < np D → ML A D σ p) ∧ MGo A D σ
section
variable {A : Nat → Nat → Nat} {D : qD} {σ σ' : qS} {SI : Nat → Prop} {SA : Nat → Int → Prop}
theorem MA1_c {τ : Nat → Nat} (hA : qInj A) (hc : qMc A SI SA σ σ') (h1 : ∀ t i, t = 44 ∨ t = 45 ∨ t = 46 ∨ t = 48 ∨ t = 49 ∨ t = 53 ∨ t = 55 ∨ t = 56 ∨ t = 57 → ¬ SA (τ t) i) (h : MA1 A τ D σ) : MA1 A τ D σ' := by
  have e44 : ∀ i, gA σ' (A (τ 44) 0) i = gA σ (A (τ 44) 0) i := fun i => qMc_at hA hc (h1 44 i (by omega))
  have e45 : ∀ i, gA σ' (A (τ 45) 0) i = gA σ (A (τ 45) 0) i := fun i => qMc_at hA hc (h1 45 i (by omega))
  have e46 : ∀ i, gA σ' (A (τ 46) 0) i = gA σ (A (τ 46) 0) i := fun i => qMc_at hA hc (h1 46 i (by omega))
  have e48 : ∀ i, gA σ' (A (τ 48) 0) i = gA σ (A (τ 48) 0) i := fun i => qMc_at hA hc (h1 48 i (by omega))
  have e49 : ∀ i, gA σ' (A (τ 49) 0) i = gA σ (A (τ 49) 0) i := fun i => qMc_at hA hc (h1 49 i (by omega))
  have e53 : ∀ i, gA σ' (A (τ 53) 0) i = gA σ (A (τ 53) 0) i := fun i => qMc_at hA hc (h1 53 i (by omega))
  have e55 : ∀ i, gA σ' (A (τ 55) 0) i = gA σ (A (τ 55) 0) i := fun i => qMc_at hA hc (h1 55 i (by omega))
  have e56 : ∀ i, gA σ' (A (τ 56) 0) i = gA σ (A (τ 56) 0) i := fun i => qMc_at hA hc (h1 56 i (by omega))
  have e57 : ∀ i, gA σ' (A (τ 57) 0) i = gA σ (A (τ 57) 0) i := fun i => qMc_at hA hc (h1 57 i (by omega))
  unfold MA1 at h ⊢
  simp only [e44, e45, e46, e48, e49, e53, e55, e56, e57]
  exact h
theorem MA2_c (hA : qInj A) (hc : qMc A SI SA σ σ') (h1 : ∀ t i, t = 47 ∨ t = 50 ∨ t = 51 ∨ t = 52 ∨ t = 54 ∨ t = 58 ∨ t = 59 → ¬ SA t i) (h : MA2 A D σ) : MA2 A D σ' := by
  have e47 : ∀ i, gA σ' (A 47 0) i = gA σ (A 47 0) i := fun i => qMc_at hA hc (h1 47 i (by omega))
  have e50 : ∀ i, gA σ' (A 50 0) i = gA σ (A 50 0) i := fun i => qMc_at hA hc (h1 50 i (by omega))
  have e51 : ∀ i, gA σ' (A 51 0) i = gA σ (A 51 0) i := fun i => qMc_at hA hc (h1 51 i (by omega))
  have e52 : ∀ i, gA σ' (A 52 0) i = gA σ (A 52 0) i := fun i => qMc_at hA hc (h1 52 i (by omega))
  have e54 : ∀ i, gA σ' (A 54 0) i = gA σ (A 54 0) i := fun i => qMc_at hA hc (h1 54 i (by omega))
  have e58 : ∀ i, gA σ' (A 58 0) i = gA σ (A 58 0) i := fun i => qMc_at hA hc (h1 58 i (by omega))
  have e59 : ∀ i, gA σ' (A 59 0) i = gA σ (A 59 0) i := fun i => qMc_at hA hc (h1 59 i (by omega))
  unfold MA2 at h ⊢
  simp only [e47, e50, e51, e52, e54, e58, e59]
  exact h
theorem MB_c (hA : qInj A) (hc : qMc A SI SA σ σ') (h1 : ∀ t i, 44 ≤ t → t ≤ 59 → ¬ SA t i) (h : MB A D σ) : MB A D σ' :=
  ⟨MS_c hc h.1, MA1_c hA hc (fun t i ht => h1 t i (by omega) (by omega)) h.2.1, MA2_c hA hc (fun t i ht => h1 t i (by omega) (by omega)) h.2.2⟩
theorem MSc_c (hc : qMc A SI SA σ σ') (h1 : ∀ f, 321 ≤ f → f ≤ 323 → ¬ SI f) (h : MSc A D σ) : MSc A D σ' := by
  unfold MSc
  rw [qMc_f hc (h1 321 (by omega) (by omega)), qMc_f hc (h1 322 (by omega) (by omega)), qMc_f hc (h1 323 (by omega) (by omega))]
  exact h
theorem MRd_c (hA : qInj A) (hc : qMc A SI SA σ σ') (h1 : ¬ SI 354 ∧ ¬ SI 355) (h2 : ∀ i, ¬ SA 76 i) (h : MRd A D σ) : MRd A D σ' := by
  have e76 : ∀ i, gA σ' (A 76 0) i = gA σ (A 76 0) i := fun i => qMc_at hA hc (h2 i)
  unfold MRd
  rw [qMc_f hc h1.1, qMc_f hc h1.2]
  simp only [e76]
  exact h
theorem MZ_c (hA : qInj A) (hc : qMc A SI SA σ σ') (h1 : ∀ i : Nat, np D ≤ i → ¬ SA 63 i) (h : MZ A D σ) : MZ A D σ' := fun p h2 h3 => by rw [qMc_at hA hc (h1 p h2)]; exact h p h2 h3
theorem ML_c (hA : qInj A) {p : Nat} (hc : qMc A SI SA σ σ') (h1 : ∀ t i, 60 ≤ t → t ≤ 63 → ¬ SA t i) (h : ML A D σ p) : ML A D σ' p := by
  have e60 : ∀ i, gA σ' (A 60 0) i = gA σ (A 60 0) i := fun i => qMc_at hA hc (h1 60 i (by omega) (by omega))
  have e61 : ∀ i, gA σ' (A 61 0) i = gA σ (A 61 0) i := fun i => qMc_at hA hc (h1 61 i (by omega) (by omega))
  have e63 : ∀ i, gA σ' (A 63 0) i = gA σ (A 63 0) i := fun i => qMc_at hA hc (h1 63 i (by omega) (by omega))
  unfold ML MBox at h ⊢
  simp only [e60, e61, e63]
  exact h
/-- a change of the class leaves the model -/
theorem MR_cls {A' : Nat → Nat → Nat} (hA : qInj A) (hag : ∀ k i, (20 ≤ k ∨ k = 0) → gK σ (A k i) ≠ 0 → A' k i = A k i) (hf : qFrm A σ σ') (h : MR A D σ) : MR A' D σ' := by
  have hS := h.1.1
  have hk : ∀ t ∈ mTab, gK σ (A (t.1 - 280) 0) ≠ 0 := fun t ht => by
    rw [(hS.2 t ht).2.1]
    have : ∀ t ∈ mTab, t.2.1 ≠ 0 := by decide
    exact this t ht
  have h30 : gK σ (A 30 0) ≠ 0 := by rw [hS.1]; decide
  have hsm : ∀ k, 20 ≤ k → gK σ (A k 0) ≠ 0 → A' k 0 = A k 0 ∧ qSame σ σ' (A k 0) := fun k hk hz => ⟨hag k 0 (Or.inl hk) hz, hf _ hz (fun k' i hk' z => by rw [hA.1] at z; omega)⟩
  obtain ⟨a30, s30⟩ := hsm 30 (by decide) h30
  have hT : ∀ t ∈ mTab, A' (t.1 - 280) 0 = A (t.1 - 280) 0 ∧ qSame σ σ' (A (t.1 - 280) 0) := fun t ht => hsm _ (by have : ∀ t ∈ mTab, 20 ≤ t.1 - 280 := by decide
                                                                                                                   exact this t ht) (hk t ht)
  have hg : ∀ t ∈ mTab, ∀ i, gA σ' (A' (t.1 - 280) 0) i = gA σ (A (t.1 - 280) 0) i := fun t ht i => by rw [(hT t ht).1]; exact qSame_mA (hT t ht).2

  have g44 : ∀ i, gA σ' (A' 44 0) i = gA σ (A 44 0) i := hg (324, 20, 10) (by decide)
  have g45 : ∀ i, gA σ' (A' 45 0) i = gA σ (A 45 0) i := hg (325, 20, 10) (by decide)
  have g46 : ∀ i, gA σ' (A' 46 0) i = gA σ (A 46 0) i := hg (326, 20, 80) (by decide)
  have g47 : ∀ i, gA σ' (A' 47 0) i = gA σ (A 47 0) i := hg (327, 21, 10) (by decide)
  have g48 : ∀ i, gA σ' (A' 48 0) i = gA σ (A 48 0) i := hg (328, 20, 3) (by decide)
  have g49 : ∀ i, gA σ' (A' 49 0) i = gA σ (A 49 0) i := hg (329, 20, 50) (by decide)
  have g50 : ∀ i, gA σ' (A' 50 0) i = gA σ (A 50 0) i := hg (330, 20, 50) (by decide)
  have g51 : ∀ i, gA σ' (A' 51 0) i = gA σ (A 51 0) i := hg (331, 20, 50) (by decide)
  have g52 : ∀ i, gA σ' (A' 52 0) i = gA σ (A 52 0) i := hg (332, 20, 50) (by decide)
  have g53 : ∀ i, gA σ' (A' 53 0) i = gA σ (A 53 0) i := hg (333, 20, 50) (by decide)
  have g54 : ∀ i, gA σ' (A' 54 0) i = gA σ (A 54 0) i := hg (334, 20, 300) (by decide)
  have g55 : ∀ i, gA σ' (A' 55 0) i = gA σ (A 55 0) i := hg (335, 20, 50) (by decide)
  have g56 : ∀ i, gA σ' (A' 56 0) i = gA σ (A 56 0) i := hg (336, 20, 200) (by decide)
  have g57 : ∀ i, gA σ' (A' 57 0) i = gA σ (A 57 0) i := hg (337, 20, 80) (by decide)
  have g58 : ∀ i, gA σ' (A' 58 0) i = gA σ (A 58 0) i := hg (338, 20, 80) (by decide)
  have g59 : ∀ i, gA σ' (A' 59 0) i = gA σ (A 59 0) i := hg (339, 20, 80) (by decide)
  have g60 : ∀ i, gA σ' (A' 60 0) i = gA σ (A 60 0) i := hg (340, 20, 250) (by decide)
  have g61 : ∀ i, gA σ' (A' 61 0) i = gA σ (A 61 0) i := hg (341, 20, 320) (by decide)
  have g62 : ∀ i, gA σ' (A' 62 0) i = gA σ (A 62 0) i := hg (342, 20, 384) (by decide)
  have g63 : ∀ i, gA σ' (A' 63 0) i = gA σ (A 63 0) i := hg (343, 20, 10) (by decide)
  have g76 : ∀ i, gA σ' (A' 76 0) i = gA σ (A 76 0) i := hg (356, 20, 8192) (by decide)
  have hI : ∀ f, gI σ' f (A' 30 0) = gI σ f (A 30 0) := fun f => by rw [a30]; exact s30.2.1 f
  have hMS : MS A' σ' := ⟨by rw [a30, s30.1]; exact hS.1, fun t ht => by
    obtain ⟨e1, e2⟩ := hT t ht
    rw [a30, e1, s30.2.2.1, e2.1, e2.2.2.2.2.2.2]
    exact hS.2 t ht⟩
  obtain ⟨⟨-, h1, h2⟩, h3, h4, h5, h6, h7⟩ := h
  refine ⟨⟨hMS, ?_, ?_⟩, ?_, ?_, ?_, ?_, ?_⟩
  · unfold MA1 tid at h1 ⊢
    simp only [g44, g45, g46, g48, g49, g53, g55, g56, g57]
    exact h1
  · unfold MA2 at h2 ⊢
    simp only [g47, g50, g51, g52, g54, g58, g59]
    exact h2
  · unfold MSc at h3 ⊢
    simp only [hI]
    exact h3
  · unfold MRd at h4 ⊢
    simp only [hI, g76]
    exact h4
  · unfold MZ at h5 ⊢
    simp only [g63]
    exact h5
  · unfold ML MBox at h6 ⊢
    simp only [g60, g61, g63]
    exact h6
  · unfold MGo at h7 ⊢
    simp only [g60]
    exact h7
end
