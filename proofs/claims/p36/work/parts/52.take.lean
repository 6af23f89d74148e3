/-! the class's layout: faces and spots -/
def tkb (f : Int → Int) (a : Int) : Nat → Int
  | 0 => 0
  | n + 1 => (Int32.ofInt (tkb f a n) ||| Int32.ofInt (f (a + n))).toInt
theorem tkb_bit (f : Int → Int) (a : Int) (x : Nat) : ∀ n, bitB (tkb f a n) x = true ↔ ∃ y : Int, a ≤ y ∧ y < a + n ∧ bitB (f y) x = true
  | 0 => by
    constructor
    · intro h; rw [tkb, bit_0] at h; exact absurd h (by decide)
    · rintro ⟨y, h1, h2, -⟩; omega
  | n + 1 => by
    rw [tkb, bit_or, Bool.or_eq_true, tkb_bit f a x n]
    constructor
    · rintro (⟨y, h1, h2, h3⟩ | h)
      · exact ⟨y, h1, by omega, h3⟩
      · exact ⟨a + n, by omega, by omega, h⟩
    · rintro ⟨y, h1, h2, h3⟩
      by_cases c : y < a + n
      · exact Or.inl ⟨y, h1, c, h3⟩
      · have : y = a + n := by omega
        exact Or.inr (this ▸ h3)
def tk1 (A : Nat → Nat → Nat) (f x : Nat) : Prop := f = 999 ∧ x = A 18 0
section
variable {g : qG} {l : Launch} {A : Nat → Nat → Nat} {D : qD} {σ : qS}
theorem tk1_tr {f x : Nat} (h : tk1 A f x) : tr1 A f x := Or.inr (Or.inr (Or.inl h))
theorem spec_bits (hl : l.stackTraces = false) {a w : Int} : qMet g l M_X3_bitsOf [vi a, vi w] σ (qPi σ (bits a w)) := wm_X3_bitsOf hl ⟨rfl, rfl⟩
theorem spec_takenBetween (hl : l.stackTraces = false) (hy : LyR A D σ) {top bot : Int} (h0 : 0 ≤ top) (h1 : top ≤ bot) (h2 : bot ≤ 16) :
    qMet g l M_X3_takenBetween [vr (A 4 0), vi top, vi bot] σ (qPi σ (tkb (gA σ (A 18 0)) top (bot - top).toNat)) := by
  obtain ⟨y1, y2, y3, y4, y5, y6, y7, y8⟩ := hy
  refine wm_X3_takenBetween hl ⟨by unfold qR; omega, fun x2 hx2 => ⟨fun n x4 x5 => ∃ k : Nat, x5 = top + k ∧ k ≤ (bot - top).toNat ∧ x4 = tkb (gA σ (A 18 0)) top k ∧ n = (bot - top).toNat - k, ⟨_, 0, by omega, by omega, rfl, rfl⟩, ?_⟩⟩
  rintro n x4 x5 ⟨k, rfl, hk, rfl, rfl⟩
  refine ⟨by unfold qR; omega, by unfold qR; omega, fun hc => ⟨rfl, ?_⟩, fun hc => ⟨y1, by rw [y3]; exact ⟨by decide, Or.inl y7⟩, by rw [y3, y8]; unfold qR; omega, fun hc2 => ?_, fun hc2 => ⟨?_, fun x20 h20 x22 h22 => ⟨_, ?_, k + 1, ?_, ?_, ?_, rfl⟩⟩⟩⟩
  · rw [show k = (bot - top).toNat by omega]
  · rw [y3, y8] at hc2; omega
  · rw [y3]; exact ⟨by omega, by rw [y8]; omega⟩
  · omega
  · omega
  · omega
  · rw [h20, y3]; rfl
/-- what taking leaves -/
def Tkn (A : Nat → Nat → Nat) (σ σ' : qS) (P : Int → Prop) (v : Int) : Prop := qChg (tk1 A) σ σ' ∧ ∀ (y : Nat), y < 16 → ∀ x, bitB (gA σ' (A 18 0) y) x = true ↔ bitB (gA σ (A 18 0) y) x = true ∨ (P y ∧ bitB v x = true)
theorem spec_take (hl : l.stackTraces = false) (hA : qInj A) (hy : LyR A D σ) {a w top bot : Int} (h1 : -1000 ≤ top ∧ top ≤ 1000) (h2 : -1000 ≤ bot ∧ bot ≤ 1000) :
    qMet g l M_X3_take [vr (A 4 0), vi a, vi w, vi top, vi bot] σ (qTv0 (fun σ' => Tkn A σ σ' (fun y => top ≤ y ∧ y < bot) (bits a w))) := by
  refine wm_X3_take hl ⟨by unfold qR; omega, fun x2 hx2 => ⟨fun n x4 σ1 => max top 0 ≤ x4 ∧ x4 ≤ 1000 ∧ n = (1000 - x4).toNat ∧ Tkn A σ σ1 (fun y => (top ≤ y ∧ y < bot) ∧ y < x4) (bits a w), ⟨_, by omega, by omega, rfl, qChg_rf, fun y _ x => ?_⟩, ?_⟩⟩
  · constructor
    · exact Or.inl
    · rintro (h | ⟨h, -⟩)
      · exact h
      · omega
  rintro n x4 σ1 ⟨hx0, hx1, rfl, hc, hb⟩
  obtain ⟨y1, y2, y3, y4, y5, y6, y7, y8⟩ := LyR_tr hA (qChg_mono hc (fun f x => tk1_tr)) hy
  refine ⟨by unfold qR; omega, by unfold qR; omega, fun hc1 => ⟨rfl, hc, fun y hy2 x => ?_⟩, fun hc1 => ⟨y1, by rw [y3]; exact ⟨by decide, Or.inl y7⟩, by rw [y3, y8]; unfold qR; omega, fun hc2 => ⟨rfl, hc, fun y hy2 x => ?_⟩, fun hc2 => ⟨?_, _, spec_bits hl, by rw [y3]; exact y7, fun σ2 hs x25 hx => ⟨_, ?_, by omega, ?_, rfl, ?_, fun y hy2 x => ?_⟩⟩⟩⟩
  · exact (hb y hy2 x).trans (or_congr Iff.rfl (and_congr (Iff.intro (fun h => h.1) (fun h => ⟨h, by omega⟩)) Iff.rfl))
  · rw [y3, y8] at hc2
    exact (hb y hy2 x).trans (or_congr Iff.rfl (and_congr (Iff.intro (fun h => h.1) (fun h => ⟨h, by omega⟩)) Iff.rfl))
  · rw [y3]; exact ⟨by omega, by rw [y8]; rw [y3, y8] at hc2; omega⟩
  · rw [y3, y8] at hc2; omega
  · rw [y3, y8] at hc2; omega
  · refine qChg_tr hc (Q := tk1 A) ?_ (fun _ _ h => h) (fun _ _ h => h)
    rw [hs, y3]; exact qChg_A ⟨rfl, rfl⟩
  · rw [hs, y3, gA_sA]
    by_cases c : (y : Int) = x4
    · rw [if_pos ⟨rfl, c⟩, bit_or, Bool.or_eq_true, ← c, hb y hy2 x]
      constructor
      · rintro ((h | ⟨h, -⟩) | h)
        · exact Or.inl h
        · omega
        · exact Or.inr ⟨by omega, h⟩
      · rintro (h | ⟨h, h3⟩)
        · exact Or.inl (Or.inl h)
        · exact Or.inr h3
    · rw [if_neg (fun z => c z.2), hb y hy2 x]
      constructor
      · rintro (h | ⟨h, h3⟩)
        · exact Or.inl h
        · exact Or.inr ⟨by omega, h3⟩
      · rintro (h | ⟨h, h3⟩)
        · exact Or.inl h
        · exact Or.inr ⟨by omega, h3⟩
/-- faces as they may be -/
def FcW (fc : List (Int × Int × Int)) : Prop := fc.length ≤ 2 ∧ ∀ f ∈ fc, (0 ≤ f.1 ∧ f.1 ≤ 23) ∧ (1 ≤ f.2.1 ∧ f.2.1 ≤ 24) ∧ 1 ≤ f.2.2 ∧ f.2.2 ≤ 8
theorem spec_takeFaces (hl : l.stackTraces = false) (hA : qInj A) (hy : LyR A D σ) {q : Nat} (hq : PnR A D σ q) (hf : FcW (fc D q)) {Ht : Int} (hH : gI σ 43 (A 14 q) = Ht) (h0 : 0 ≤ Ht ∧ Ht ≤ 16) :
    qMet g l M_X3_takeFaces [vr (A 4 0), vr (A 6 q)] σ (qTv0 (fun σ' => qChg (tk1 A) σ σ' ∧ ∀ y : Nat, y < 16 → ∀ x, x < 24 → (bitB (gA σ' (A 18 0) y) x = true ↔ covF (fc D q) Ht x y ∧ (y : Int) < Ht))) := by
  have hq0 := hq
  obtain ⟨q1, q2, q3, q4, q5, q6, q7, q8, q9, q10, q11, q12, q13, q14, q15, q16, q17⟩ := hq
  refine wm_X3_takeFaces hl ⟨q1, by rw [q10]; exact q16, fun x3 hx3 => ⟨fun n x5 σ1 => 0 ≤ x5 ∧ x5 ≤ 16 ∧ n = (16 - x5).toNat ∧ qChg (tk1 A) σ σ1 ∧ ∀ y : Nat, (y : Int) < x5 → gA σ1 (A 18 0) y = 0, ⟨_, by omega, by omega, rfl, qChg_rf, fun y h => by omega⟩, ?_⟩⟩
  rintro n x5 σ1 ⟨hx0, hx1, rfl, hc, hz⟩
  rw [q10, hH] at hx3
  subst hx3
  have hc' := qChg_mono hc (fun f x => tk1_tr (A := A))
  obtain ⟨y1, y2, y3, y4, y5, y6, y7, y8⟩ := LyR_tr hA hc' hy
  refine ⟨y1, by rw [y3]; exact ⟨by decide, Or.inl y7⟩, by unfold qR; omega, by rw [y3, y8]; unfold qR; omega, fun hc1 => ?_, fun hc1 => ?_⟩
  · rw [y3, y8] at hc1
    refine ⟨fun n i σ2 => ∃ k : Nat, i = k ∧ k ≤ (fc D q).length ∧ n = (fc D q).length - k ∧ qChg (tk1 A) σ σ2 ∧ ∀ y : Nat, y < 16 → ∀ x, x < 24 → (bitB (gA σ2 (A 18 0) y) x = true ↔ covF ((fc D q).take k) x3 x y ∧ (y : Int) < x3), ⟨_, 0, rfl, by omega, rfl, hc, fun y hy2 x hx => ?_⟩, ?_⟩
    · rw [hz y (by omega), bit_0]
      constructor
      · intro h; exact absurd h (by decide)
      · rintro ⟨⟨f, h, -⟩, -⟩
        simp at h
    rintro n i σ2 ⟨k, rfl, hk, rfl, hc2, hb⟩
    have hc2' := qChg_mono hc2 (fun f x => tk1_tr (A := A))
    obtain ⟨r1, r2, r3, r4, r5, r6, r7, r8, r9, r10, r11, r12, r13, r14, r15, r16, r17⟩ := PnR_tr hc2' hq0
    have hy2 := LyR_tr hA hc2' hy
    refine ⟨r1, by rw [r7]; exact r11, (fc D q).length, ?_, by unfold qR; have := hf.1; omega, by unfold qR; have := hf.1; omega, fun hd => ⟨rfl, hc2, ?_⟩, fun hd => ⟨A 15 (2 * q + k), ?_, ?_⟩⟩
    · rw [r7]
      have := spec_sizeM (g := g) hl r11 r12
      rw [List.length_range] at this
      exact this
    · have : k = (fc D q).length := by omega
      rw [this, List.take_length] at hb
      exact hb
    · rw [r7]
      have := spec_getM (g := g) hl r11 r12 (i := (k : Int)) rfl (by rw [List.length_range]; omega)
      rw [List.getD_eq_getElem?_getD, List.getElem?_range (by omega)] at this
      exact this
    · have hF := r17 k (by omega)
      obtain ⟨f1, f2, f3, f4⟩ := hF
      have hmem : (fc D q).getD k (0, 0, 0) ∈ fc D q := by
        rw [List.getD_eq_getElem?_getD, List.getElem?_eq_getElem (by omega)]
        exact List.getElem_mem _
      have hw := hf.2 _ hmem
      have htk : (fc D q).take (k + 1) = (fc D q).take k ++ [(fc D q).getD k (0, 0, 0)] := by
        rw [List.take_add_one, List.getD_eq_getElem?_getD, List.getElem?_eq_getElem (by omega)]
        rfl
      refine ⟨Or.inr f1, f1, hy2.1, _, spec_take hl hA hy2 (by rw [f4]; omega) (by omega), fun σ3 h3 x45 hx => ⟨_, ?_, k + 1, by omega, by omega, rfl, qChg_tr hc2 h3.1 (fun _ _ h => h) (fun _ _ h => h), fun y hy3 x hx3 => ?_⟩⟩
      · omega
      · rw [h3.2 y hy3 x, hb y hy3 x hx3, f2, f3, f4, bits_at (by omega) (by omega) hx3, htk]
        generalize hff : (fc D q).getD k (0, 0, 0) = f at *
        constructor
        · rintro (⟨⟨f', a, b⟩, c⟩ | ⟨⟨a, b⟩, c⟩)
          · exact ⟨⟨f', List.mem_append_left _ a, b⟩, c⟩
          · exact ⟨⟨f, by simp, c.1, c.2, a⟩, b⟩
        · rintro ⟨⟨f', a, b⟩, c⟩
          rcases List.mem_append.mp a with d | d
          · exact Or.inl ⟨⟨f', d, b⟩, c⟩
          · rw [List.mem_singleton] at d
            subst d
            exact Or.inr ⟨⟨b.2.2, c⟩, b.1, b.2.1⟩
  · rw [y3, y8] at hc1
    rw [y3]
    refine ⟨y7, ⟨hx0, by rw [y8]; omega⟩, fun σ2 hs x53 hx => ⟨_, ?_, by omega, by omega, rfl, qChg_tr hc (Q := tk1 A) (by rw [hs]; exact qChg_A ⟨rfl, rfl⟩) (fun _ _ h => h) (fun _ _ h => h), fun y hy2 => ?_⟩⟩
    · omega
    · rw [hs, gA_sA]
      by_cases c : (y : Int) = x5
      · rw [if_pos ⟨rfl, c⟩]
      · rw [if_neg (fun z => c z.2)]
        exact hz y (by omega)
end
