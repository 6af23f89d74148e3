/-! the class's layout: the spot of a balloon -/
theorem dm_of {W a t : Int} (ha : 0 ≤ a) (hb : a < W) : (t * W + a) / W = t ∧ (t * W + a) % W = a := by
  have hW : 0 < W := by omega
  refine (Int.ediv_emod_unique hW).mpr ⟨?_, ha, hb⟩
  rw [Int.mul_comm W t]; omega
theorem dm_lt {W s t : Int} (h1 : t * W ≤ s) (h2 : s < (t + 1) * W) : s / W = t ∧ s % W = s - t * W := by
  have e : (t + 1) * W = t * W + W := by rw [Int.add_mul, Int.one_mul]
  have := dm_of (t := t) (W := W) (a := s - t * W) (by omega) (by omega)
  rw [show t * W + (s - t * W) = s by omega] at this
  exact this
theorem dm_ge {W s t : Int} (hW : 0 < W) (h1 : t * W ≤ s) : t ≤ s / W := (Int.le_ediv_iff_mul_le hW).mpr h1
section
variable {g : qG} {l : Launch} {A : Nat → Nat → Nat} {D : qD} {σ : qS}
theorem spot_fre {t W Ht w h a y1 : Int} {fc : List (Int × Int × Int)} {k : Nat} {bs : Nat → Bx} {s : Nat} {f : Int → Int} (w1 : 1 ≤ w) (w3 : W ≤ 24) (h1 : 1 ≤ h) (a0 : 0 ≤ a) (a1 : a + w ≤ W) (y0 : 0 ≤ y1) (y2 : y1 + h ≤ Ht)
    (hO : ∀ y : Nat, (y : Int) < Ht → ∀ x : Nat, x < 24 → (bitB (f y) x = true ↔ covF fc Ht x y ∨ ∃ j, j < k ∧ inB (bs j) x y)) (hs : (s : Int) = y1 * W + a) :
    ((Int32.ofInt (tkb f y1 (y1 + h - y1).toNat) &&& Int32.ofInt (bits (if t = 1 then W - a - w else a) w)).toInt = 0) ↔ okS t W Ht fc k bs w h s := by
  obtain ⟨d1, d2⟩ := dm_of (t := y1) a0 (show a < W by omega)
  have hl0 : 0 ≤ (if t = 1 then W - a - w else a) ∧ (if t = 1 then W - a - w else a) + w ≤ W := by split <;> omega
  unfold okS cnd
  rw [hs, d1, d2, bit_and]
  generalize (if t = 1 then W - a - w else a) = lf at hl0 ⊢
  constructor
  · intro hz
    refine ⟨a1, y2, fun x y hxy => ?_⟩
    obtain ⟨b1, b2, b3, b4⟩ := hxy
    have b1' : lf ≤ x := b1
    have b2' : x < lf + w := b2
    have b3' : y1 ≤ y := b3
    have b4' : y < y1 + h := b4
    obtain ⟨x', rfl⟩ : ∃ n : Nat, x = (n : Int) := ⟨x.toNat, by omega⟩
    obtain ⟨y', rfl⟩ : ∃ n : Nat, y = (n : Int) := ⟨y.toNat, by omega⟩
    have hx := hO y' (by omega) x' (by omega)
    have hn : ¬ (bitB (f y') x' = true) := fun hb => hz x' (by omega) ⟨(tkb_bit f y1 x' _).mpr ⟨y', by omega, by omega, hb⟩, (bits_at (by omega) (by omega) (by omega)).mpr ⟨b1', b2'⟩⟩
    exact ⟨fun c => hn (hx.mpr (Or.inl c)), fun j hj c => hn (hx.mpr (Or.inr ⟨j, hj, c⟩))⟩
  · rintro ⟨-, -, hf⟩ x hx ⟨hb1, hb2⟩
    by_cases c : x < 24
    · have hb2' := (bits_at (by omega) (by omega) c).mp hb2
      obtain ⟨y, e1, e2, e3⟩ := (tkb_bit f y1 x _).mp hb1
      obtain ⟨y', rfl⟩ : ∃ n : Nat, y = (n : Int) := ⟨y.toNat, by omega⟩
      have := hf x y' ⟨hb2'.1, hb2'.2, e1, by show (y' : Int) < y1 + h; omega⟩
      rcases (hO y' (by omega) x c).mp e3 with h | ⟨j, hj, h⟩
      · exact this.1 h
      · exact this.2 j hj h
    · rw [bits_hi (by omega) (by omega) (by omega) (by omega) hx] at hb2
      exact absurd hb2 (by decide)
theorem spec_findSpot (hl : l.stackTraces = false) (hA : qInj A) (hy : LyR A D σ) {q b : Nat} {t W Ht w h line step : Int} {fc : List (Int × Int × Int)} {k : Nat} {bs : Nat → Bx} {st : Nat}
    (hKb : gK σ (A 17 b) = 2) (hKr : gK σ (A 14 q) = 2) (hW : gI σ 42 (A 14 q) = W) (hH : gI σ 43 (A 14 q) = Ht) (hw : gI σ 42 (A 17 b) = w) (hh : gI σ 43 (A 17 b) = h)
    (w1 : 1 ≤ w) (w2 : w ≤ W) (w3 : W ≤ 24) (h1 : 1 ≤ h ∧ h ≤ 1000) (H1 : 0 ≤ Ht ∧ Ht ≤ 16) (hline : 0 ≤ line ∧ line ≤ 16) (hstep : 0 ≤ step ∧ step ≤ W) (hst : (st : Int) = line * W + step)
    (hO : ∀ y : Nat, (y : Int) < Ht → ∀ x : Nat, x < 24 → (bitB (gA σ (A 18 0) y) x = true ↔ covF fc Ht x y ∨ ∃ j, j < k ∧ inB (bs j) x y)) {N s : Nat} (hN : N = (W * Ht).toNat) (hs : s = lsp (fun s => st ≤ s ∧ okS t W Ht fc k bs w h s) N) :
    qMet g l M_X3_findSpot [vr (A 4 0), vr (A 17 b), vi line, vi step, vr (A 14 q), vi (if ¬ t = 1 then 0 else 1)] σ
      (qTi0 (fun σ' v => (v = 0 ∧ σ' = σ ∧ s = N) ∨ (v = 1 ∧ s < N ∧ σ' = sI (sI σ 40 (A 17 b) (cnd t W w h s).1) 41 (A 17 b) (cnd t W w h s).2.1))) := by
  have hW0 : 0 < W := by omega
  have hWH : 0 ≤ W * Ht := Int.mul_nonneg (by omega) H1.1
  refine wm_X3_findSpot hl ⟨fun n x1 => (line ≤ x1 ∧ x1 ≤ 16) ∧ n = (Ht + 20 - x1).toNat ∧ ∀ s : Nat, st ≤ s → (s : Int) < x1 * W → ¬ okS t W Ht fc k bs w h s, ⟨_, ⟨Int.le_refl _, hline.2⟩, rfl, fun s0 i1 i2 => by omega⟩, ?_⟩
  rintro n x1 ⟨i1, rfl, i3⟩
  rw [hH, hh, hW, hw]
  refine ⟨hKb, hKr, ?_, by unfold qR; omega, fun hc => ⟨0, rfl, Or.inl ⟨rfl, rfl, ?_⟩⟩, fun hc => ⟨hy.1, _, spec_takenBetween hl hy (by omega) (by omega) (by omega), ⟨?_, ?_⟩, fun v19 h19 => ⟨fun n a => (0 ≤ a ∧ (x1 = line → step ≤ a)) ∧ a ≤ W ∧ n = (W - a).toNat ∧ ∀ s : Nat, st ≤ s → (s : Int) < x1 * W + a → ¬ okS t W Ht fc k bs w h s, ⟨_, ⟨?_, ?_⟩, ?_, rfl, ?_⟩, ?_⟩⟩⟩
  · unfold qR; omega
  · rw [hs]
    refine lsp_eq (Nat.le_refl _) (fun t' ht' hh' => ?_) (fun z => absurd z (by omega))
    by_cases c : (t' : Int) < x1 * W
    · exact i3 t' hh'.1 c hh'.2
    · have := dm_ge hW0 (show x1 * W ≤ (t' : Int) by omega)
      have := hh'.2.2.1
      omega
  · unfold qR; omega
  · unfold qR; omega
  · rw [h19]; split <;> omega
  · rw [h19]; intro z; rw [if_neg (fun w => w z)]; exact Int.le_refl _
  · rw [h19]; split <;> omega
  · intro s0 j1 j2
    rw [h19] at j2
    by_cases c : x1 = line
    · rw [if_neg (fun z => z c)] at j2
      rw [c] at j2; omega
    · rw [if_pos c] at j2
      exact i3 s0 j1 (by omega)
  · rintro n a ⟨⟨a0, a5⟩, a1, rfl, a2⟩
    have e1 : (x1 + 1) * W = x1 * W + W := by rw [Int.add_mul, Int.one_mul]
    have hx0 : 0 ≤ x1 * W := Int.mul_nonneg (by omega) (by omega)
    refine ⟨by unfold qR; omega, by unfold qR; omega, fun hd x33 h33 => ⟨_, ?_, by omega, rfl, fun s0 j1 j2 hok => ?_⟩, fun hd => ⟨_, spec_turned hl rfl, _, spec_bits hl, ?_⟩⟩
    · omega
    · rw [h33, e1] at j2
      by_cases c : (s0 : Int) < x1 * W + a
      · exact a2 s0 j1 c hok
      · obtain ⟨d1, d2⟩ := dm_lt (s := s0) (t := x1) (W := W) (by omega) (by omega)
        have := hok.1
        omega
    · obtain ⟨s0, hs0⟩ : ∃ s0 : Nat, (s0 : Int) = x1 * W + a := ⟨(x1 * W + a).toNat, by omega⟩
      have hf := spot_fre (t := t) (bs := bs) (f := gA σ (A 18 0)) w1 w3 h1.1 a0 (show a + w ≤ W by omega) (show 0 ≤ x1 by omega) (show x1 + h ≤ Ht by omega) hO hs0
      rw [hf]
      refine ⟨?_, fun hno x42 h42 => ⟨_, ?_, by omega, by omega, rfl, fun s1 j1 j2 hok => ?_⟩, fun hok σ45 h45 σ47 h47 => ⟨1, rfl, Or.inr ⟨rfl, ?_⟩⟩⟩
      · have := Int32.toInt_lt (Int32.ofInt (tkb (gA σ (A 18 0)) x1 (x1 + h - x1).toNat) &&& Int32.ofInt (bits (if t = 1 then W - a - w else a) w))
        have := Int32.le_toInt (Int32.ofInt (tkb (gA σ (A 18 0)) x1 (x1 + h - x1).toNat) &&& Int32.ofInt (bits (if t = 1 then W - a - w else a) w))
        unfold qR; omega
      · omega
      · by_cases c : (s1 : Int) < x1 * W + a
        · exact a2 s1 j1 c hok
        · have : s1 = s0 := by omega
          exact hno (this ▸ hok)
      · have hlt : s0 < N := by
          have : (x1 + 1) * W ≤ Ht * W := Int.mul_le_mul_of_nonneg_right (by omega) (by omega)
          rw [Int.mul_comm Ht W] at this
          omega
        have hsq : s = s0 := by
          rw [hs]
          refine lsp_eq (by omega) (fun t' ht' hh' => a2 t' hh'.1 (by omega) hh'.2) (fun _ => ⟨?_, hok⟩)
          rcases Nat.lt_or_ge s0 st with h | h
          · exfalso
            have : ¬ (x1 ≥ line + 1) := fun z => by
              have : (line + 1) * W ≤ x1 * W := Int.mul_le_mul_of_nonneg_right z (by omega)
              rw [Int.add_mul, Int.one_mul] at this
              omega
            have hx : x1 = line := by omega
            have := a5 hx
            rw [hx] at hs0
            omega
          · exact h
        rw [hsq]
        refine ⟨hlt, ?_⟩
        obtain ⟨d1, d2⟩ := dm_of (t := x1) a0 (show a < W by omega)
        rw [h47, h45]
        unfold cnd
        rw [hs0, d1, d2]
end
