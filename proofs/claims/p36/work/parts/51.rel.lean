/-! THE CLASS'S HEAP AND THE BOOK -/
/-- addresses by tags: all apart, none null -/
def qInj (A : Nat → Nat → Nat) : Prop := (∀ k i k' i', (A k i = A k' i') = (k = k' ∧ i = i')) ∧ ∀ k i, A k i ≠ 0
def qChg (P : Nat → Nat → Prop) (σ σ' : qS) : Prop := gK σ' = gK σ ∧ gL σ' = gL σ ∧ gN σ' = gN σ ∧ gP σ' = gP σ ∧ gR σ' = gR σ ∧ (∀ f x, ¬ P f x → gI σ' f x = gI σ f x) ∧ ∀ x, ¬ P 999 x → ∀ i, gA σ' x i = gA σ x i
theorem qChg_rf {P : Nat → Nat → Prop} {σ : qS} : qChg P σ σ := ⟨rfl, rfl, rfl, rfl, rfl, fun _ _ _ => rfl, fun _ _ _ => rfl⟩
theorem qChg_tr {P Q R : Nat → Nat → Prop} {σ σ1 σ2 : qS} (h1 : qChg P σ σ1) (h2 : qChg Q σ1 σ2) (hP : ∀ f x, P f x → R f x) (hQ : ∀ f x, Q f x → R f x) : qChg R σ σ2 :=
  ⟨h2.1.trans h1.1, h2.2.1.trans h1.2.1, h2.2.2.1.trans h1.2.2.1, h2.2.2.2.1.trans h1.2.2.2.1, h2.2.2.2.2.1.trans h1.2.2.2.2.1, fun f x h => (h2.2.2.2.2.2.1 f x (fun z => h (hQ f x z))).trans (h1.2.2.2.2.2.1 f x (fun z => h (hP f x z))), fun x h i => (h2.2.2.2.2.2.2 x (fun z => h (hQ 999 x z)) i).trans (h1.2.2.2.2.2.2 x (fun z => h (hP 999 x z)) i)⟩
theorem qChg_I {P : Nat → Nat → Prop} {σ : qS} {f a : Nat} {v : Int} (h : P f a) : qChg P σ (sI σ f a v) :=
  ⟨rfl, rfl, rfl, rfl, rfl, fun f' x hn => gI_ne (fun z => hn (by rw [z.1, z.2]; exact h)), fun _ _ _ => rfl⟩
theorem qChg_A {P : Nat → Nat → Prop} {σ : qS} {a : Nat} {i v : Int} (h : P 999 a) : qChg P σ (sA σ a i v) :=
  ⟨rfl, rfl, rfl, rfl, rfl, fun _ _ _ => rfl, fun x hn j => if_neg (fun z => hn (by rw [z.1]; exact h))⟩
theorem qChg_mono {P Q : Nat → Nat → Prop} {σ σ1 : qS} (h1 : qChg P σ σ1) (hP : ∀ f x, P f x → Q f x) : qChg Q σ σ1 := qChg_tr h1 qChg_rf hP hP
theorem gI_eq {σ : qS} {f a : Nat} {v : Int} : gI (sI σ f a v) f a = v := if_pos ⟨rfl, rfl⟩
theorem gA_eq {σ : qS} {a : Nat} {i v : Int} : gA (sA σ a i v) a i = v := if_pos ⟨rfl, rfl⟩
theorem gA_sA {σ : qS} {a b : Nat} {i j v : Int} : gA (sA σ a i v) b j = if b = a ∧ j = i then v else gA σ b j := rfl
theorem gI_sI {σ : qS} {f f' a b : Nat} {v : Int} : gI (sI σ f a v) f' b = if f' = f ∧ b = a then v else gI σ f' b := rfl
def PgR (A : Nat → Nat → Nat) (D : qD) (σ : qS) (p : Nat) : Prop := gK σ (A 5 p) = 5 ∧ gI σ 160 (A 5 p) = p ∧ gP σ 161 (A 5 p) = A 10 p ∧ gI σ 162 (A 5 p) = tg D p ∧ gK σ (A 10 p) = 50 ∧ gL σ (A 10 p) = (row D p).map (A 6)
def FcR (A : Nat → Nat → Nat) (D : qD) (σ : qS) (q i : Nat) : Prop := gK σ (A 15 (2 * q + i)) = 3 ∧ gI σ 80 (A 15 (2 * q + i)) = ((fc D q).getD i (0, 0, 0)).1 ∧ gI σ 81 (A 15 (2 * q + i)) = ((fc D q).getD i (0, 0, 0)).2.1 ∧ gI σ 82 (A 15 (2 * q + i)) = ((fc D q).getD i (0, 0, 0)).2.2
def PnR (A : Nat → Nat → Nat) (D : qD) (σ : qS) (q : Nat) : Prop := gK σ (A 6 q) = 6 ∧ gI σ 200 (A 6 q) = q ∧ gP σ 201 (A 6 q) = A 5 (hp D q) ∧ gI σ 202 (A 6 q) = wt D q ∧ gI σ 203 (A 6 q) = wd D q ∧ gI σ 204 (A 6 q) = ht D q ∧
  gP σ 205 (A 6 q) = A 11 q ∧ gP σ 206 (A 6 q) = A 12 q ∧ gP σ 207 (A 6 q) = A 13 q ∧ gP σ 208 (A 6 q) = A 14 q ∧ gK σ (A 11 q) = 50 ∧ gL σ (A 11 q) = (List.range (fc D q).length).map (fun i => A 15 (2 * q + i)) ∧
  gK σ (A 12 q) = 50 ∧ gL σ (A 12 q) = (hs D q).map (A 7) ∧ gK σ (A 13 q) = 2 ∧ gK σ (A 14 q) = 2 ∧ ∀ i, i < (fc D q).length → FcR A D σ q i
def BlR (A : Nat → Nat → Nat) (D : qD) (σ : qS) (b : Nat) : Prop := gK σ (A 7 b) = 1 ∧ gI σ 0 (A 7 b) = b ∧ gI σ 1 (A 7 b) = lt D b ∧ gP σ 2 (A 7 b) = A 16 b ∧ gP σ 3 (A 7 b) = A 17 b ∧ gP σ 4 (A 7 b) = A 6 (hb D b) ∧ gK σ (A 16 b) = 2 ∧ gK σ (A 17 b) = 2
def LyR (A : Nat → Nat → Nat) (D : qD) (σ : qS) : Prop := gK σ (A 4 0) = 4 ∧ gP σ 120 (A 4 0) = A 9 0 ∧ gP σ 121 (A 4 0) = A 18 0 ∧ gK σ (A 9 0) = 20 ∧ gN σ (A 9 0) = 3 ∧ (∀ t : Nat, t < 3 → gA σ (A 9 0) t = gr D t) ∧ gK σ (A 18 0) = 20 ∧ gN σ (A 18 0) = 16
/-- what the layout of the page p reads -/
def LR (A : Nat → Nat → Nat) (D : qD) (σ : qS) (p : Nat) : Prop := LyR A D σ ∧ PgR A D σ p ∧ ∀ q, q ∈ row D p → PnR A D σ q ∧ hp D q = p ∧ ∀ b, b ∈ hs D q → BlR A D σ b
/-- where trying writes -/
def tr1 (A : Nat → Nat → Nat) (f x : Nat) : Prop := f = 164 ∨ f = 210 ∨ (f = 999 ∧ x = A 18 0) ∨ (40 ≤ f ∧ f ≤ 43 ∧ ∃ i, x = A 14 i ∨ x = A 17 i)
section
variable {A : Nat → Nat → Nat} {D : qD} {σ σ' : qS}
theorem PgR_tr {p : Nat} (h : qChg (tr1 A) σ σ') (hr : PgR A D σ p) : PgR A D σ' p := by
  obtain ⟨c1, c2, c3, c4, c5, c6, c7⟩ := h
  unfold PgR at hr ⊢
  rw [c1, c2, c4, c6 160 _ (by unfold tr1; omega), c6 162 _ (by unfold tr1; omega)]
  exact hr
theorem FcR_tr {q i : Nat} (h : qChg (tr1 A) σ σ') (hr : FcR A D σ q i) : FcR A D σ' q i := by
  obtain ⟨c1, c2, c3, c4, c5, c6, c7⟩ := h
  unfold FcR at hr ⊢
  rw [c1, c6 80 _ (by unfold tr1; omega), c6 81 _ (by unfold tr1; omega), c6 82 _ (by unfold tr1; omega)]
  exact hr
theorem PnR_tr {q : Nat} (h : qChg (tr1 A) σ σ') (hr : PnR A D σ q) : PnR A D σ' q := by
  have h0 := h
  obtain ⟨c1, c2, c3, c4, c5, c6, c7⟩ := h
  unfold PnR at hr ⊢
  rw [c1, c2, c4, c6 200 _ (by unfold tr1; omega), c6 202 _ (by unfold tr1; omega), c6 203 _ (by unfold tr1; omega), c6 204 _ (by unfold tr1; omega)]
  obtain ⟨a1, a2, a3, a4, a5, a6, a7, a8, a9, a10, a11, a12, a13, a14, a15, a16, a17⟩ := hr
  exact ⟨a1, a2, a3, a4, a5, a6, a7, a8, a9, a10, a11, a12, a13, a14, a15, a16, fun i hi => FcR_tr h0 (a17 i hi)⟩
theorem BlR_tr {b : Nat} (h : qChg (tr1 A) σ σ') (hr : BlR A D σ b) : BlR A D σ' b := by
  obtain ⟨c1, c2, c3, c4, c5, c6, c7⟩ := h
  unfold BlR at hr ⊢
  rw [c1, c4, c6 0 _ (by unfold tr1; omega), c6 1 _ (by unfold tr1; omega)]
  exact hr
theorem LyR_tr (hA : qInj A) (h : qChg (tr1 A) σ σ') (hr : LyR A D σ) : LyR A D σ' := by
  obtain ⟨c1, c2, c3, c4, c5, c6, c7⟩ := h
  unfold LyR at hr ⊢
  have : ∀ i, gA σ' (A 9 0) i = gA σ (A 9 0) i := c7 _ (by unfold tr1; rw [hA.1]; omega)
  simp only [c1, c3, c4, this]
  exact hr
theorem LR_tr {p : Nat} (hA : qInj A) (h : qChg (tr1 A) σ σ') (hr : LR A D σ p) : LR A D σ' p :=
  ⟨LyR_tr hA h hr.1, PgR_tr h hr.2.1, fun q hq => ⟨PnR_tr h (hr.2.2 q hq).1, (hr.2.2 q hq).2.1, fun b hb => BlR_tr h ((hr.2.2 q hq).2.2 b hb)⟩⟩
end
section
variable {g : qG} {l : Launch} {σ : qS}
theorem spec_getM (hl : l.stackTraces = false) {r k : Nat} {i : Int} {xs : List Nat} {f : Nat → Nat} (hK : gK σ r = 50) (hL : gL σ r = xs.map f) (hi : i = k) (hk : k < xs.length) : qMet g l M_Jx4a65c_get_915e3 [vr r, vi i] σ (qPr σ (f (xs.getD k 0))) := by
  have := spec_get (g := g) hl (i := i) hK (by rw [hL, List.length_map]; omega)
  rw [hL, hi, Int.toNat_natCast, List.getD_eq_getElem?_getD, List.getElem?_map, List.getElem?_eq_getElem hk] at this
  rw [hi, List.getD_eq_getElem?_getD, List.getElem?_eq_getElem hk]
  exact this
theorem spec_sizeM (hl : l.stackTraces = false) {r : Nat} {xs : List Nat} {f : Nat → Nat} (hK : gK σ r = 50) (hL : gL σ r = xs.map f) : qMet g l M_Jx4a65c_size_8abf5 [vr r] σ (qPi σ xs.length) := by
  have := spec_size (g := g) hl hK
  rw [hL, List.length_map] at this
  exact this
theorem spec_turned (hl : l.stackTraces = false) {a w W t v : Int} (hv : v = (if t = 1 then W - a - w else a)) : qMet g l M_X7_turned [vi a, vi w, vi W, vi (if ¬ t = 1 then 0 else 1)] σ (qPi σ v) := by
  refine wm_X7_turned hl ⟨by split <;> (unfold qR; omega), fun v3 h3 => ⟨rfl, ?_⟩⟩
  rw [h3, hv]
  by_cases c : t = 1
  · simp [c]
  · simp [c]
theorem spec_roundedUp (hl : l.stackTraces = false) {a b v : Int} (ha : 0 ≤ a ∧ a ≤ 1000000) (hb : 1 ≤ b ∧ b ≤ 1000) (hv : v = (a + b - 1) / b) : qMet g l M_X7_roundedUp [vi a, vi b] σ (qPi σ v) := by
  refine wm_X7_roundedUp hl ⟨⟨by unfold qR; omega, fun _ => ⟨by omega, by omega⟩⟩, fun v5 h5 => ⟨rfl, ?_⟩⟩
  rw [h5, if_neg (by omega), hv]
theorem spec_isFromRight (hl : l.stackTraces = false) {A : Nat → Nat → Nat} {D : qD} {p : Nat} (h : PgR A D σ p) (ht : 0 ≤ tg D p ∧ tg D p ≤ 2) : qMet g l M_X4_isFromRight [vr (A 5 p)] σ (qPi σ (if ¬ tg D p = 1 then 0 else 1)) := by
  refine wm_X4_isFromRight hl ⟨h.1, by rw [h.2.2.2.1]; unfold qR; omega, fun v4 h4 => ⟨rfl, by rw [h4, h.2.2.2.1]⟩⟩
theorem spec_growthOf (hl : l.stackTraces = false) {A : Nat → Nat → Nat} {D : qD} {p : Nat} (h : PgR A D σ p) (hy : LyR A D σ) (ht : 0 ≤ tg D p ∧ tg D p ≤ 2) : qMet g l M_X3_growthOf [vr (A 4 0), vr (A 5 p)] σ (qPi σ (gro D p)) := by
  have e := h.2.2.2.1
  obtain ⟨y1, y2, y3, y4, y5, y6, y7, y8⟩ := hy
  refine wm_X3_growthOf hl ⟨h.1, ⟨by rw [e]; unfold qR; omega, fun _ => ⟨y1, by rw [y2]; exact ⟨by decide, Or.inl y4⟩, by rw [y2, y5]; unfold qR; omega, fun _ => by rw [y2, e]; exact ⟨by omega, by rw [y5]; omega⟩⟩⟩, fun v9 h9 => ⟨rfl, ?_⟩⟩
  rw [h9, y2, e, y5, if_neg (by omega), if_neg (by omega)]
  have := y6 (tg D p).toNat (by omega)
  rw [Int.toNat_of_nonneg ht.1] at this
  rw [this]; rfl
end
/-! bits -/
def bits (a w : Int) : Int := (Int32.ofInt (((Int32.ofInt 1 <<< (Int32.ofInt w &&& 31)).toInt) - 1) <<< (Int32.ofInt a &&& 31)).toInt
def bitB (v : Int) (x : Nat) : Bool := (Int32.ofInt v).toBitVec.getLsbD x
theorem bits_at0 : ∀ a : Fin 24, ∀ w : Fin 25, ∀ x : Fin 24, bitB (bits a.1 w.1) x.1 = decide (a.1 ≤ x.1 ∧ x.1 < a.1 + w.1) := by decide +kernel
theorem bits_at {a w : Int} (ha : 0 ≤ a ∧ a < 24) (hw : 0 ≤ w ∧ w < 25) {x : Nat} (hx : x < 24) : bitB (bits a w) x = true ↔ a ≤ x ∧ (x : Int) < a + w := by
  obtain ⟨a', rfl⟩ : ∃ n : Nat, a = (n : Int) := ⟨a.toNat, by omega⟩
  obtain ⟨w', rfl⟩ : ∃ n : Nat, w = (n : Int) := ⟨w.toNat, by omega⟩
  have : bitB (bits (a' : Int) (w' : Int)) x = decide (a' ≤ x ∧ x < a' + w') := bits_at0 ⟨a', by omega⟩ ⟨w', by omega⟩ ⟨x, hx⟩
  rw [this, decide_eq_true_iff]
  omega
theorem bits_hi0 : ∀ a : Fin 24, ∀ w : Fin 25, a.1 + w.1 ≤ 24 → ∀ x : Fin 8, bitB (bits a.1 w.1) (24 + x.1) = false := by decide +kernel
theorem bits_hi {a w : Int} (ha : 0 ≤ a ∧ a < 24) (hw : 0 ≤ w) (haw : a + w ≤ 24) {x : Nat} (h1 : 24 ≤ x) (h2 : x < 32) : bitB (bits a w) x = false := by
  obtain ⟨a', rfl⟩ : ∃ n : Nat, a = (n : Int) := ⟨a.toNat, by omega⟩
  obtain ⟨w', rfl⟩ : ∃ n : Nat, w = (n : Int) := ⟨w.toNat, by omega⟩
  have := bits_hi0 ⟨a', by omega⟩ ⟨w', by omega⟩ (by show a' + w' ≤ 24; omega) ⟨x - 24, by omega⟩
  rw [← this]
  congr 1
  show x = 24 + (x - 24)
  omega
theorem bit_or {u v : Int} {x : Nat} : bitB ((Int32.ofInt u ||| Int32.ofInt v).toInt) x = (bitB u x || bitB v x) := by
  unfold bitB
  rw [Int32.ofInt_toInt, Int32.toBitVec_or, BitVec.getLsbD_or]
theorem bit_0 {x : Nat} : bitB 0 x = false := by
  unfold bitB
  show (0#32).getLsbD x = false
  simp
theorem bit_and {u v : Int} : ((Int32.ofInt u &&& Int32.ofInt v).toInt = 0) ↔ ∀ x, x < 32 → ¬ (bitB u x = true ∧ bitB v x = true) := by
  have e : ((Int32.ofInt u &&& Int32.ofInt v).toInt = 0) ↔ ((Int32.ofInt u).toBitVec &&& (Int32.ofInt v).toBitVec) = 0#32 := by
    rw [← Int32.toBitVec_and]
    constructor
    · intro h
      have : (Int32.ofInt u &&& Int32.ofInt v) = 0 := by
        rw [← Int32.ofInt_toInt (Int32.ofInt u &&& Int32.ofInt v), h]; rfl
      rw [this]; rfl
    · intro h
      show (Int32.ofInt u &&& Int32.ofInt v).toBitVec.toInt = 0
      rw [h]; rfl
  rw [e]
  constructor
  · intro h x hx ⟨h1, h2⟩
    have := congrArg (fun b => b.getLsbD x) h
    simp only [BitVec.getLsbD_and] at this
    unfold bitB at h1 h2
    rw [h1, h2] at this
    simp at this
  · intro h
    apply BitVec.eq_of_getLsbD_eq
    intro x hx
    rw [BitVec.getLsbD_and]
    have := h x hx
    unfold bitB at this
    cases c1 : (Int32.ofInt u).toBitVec.getLsbD x
    · simp
    · cases c2 : (Int32.ofInt v).toBitVec.getLsbD x
      · simp
      · exact absurd ⟨c1, c2⟩ this
