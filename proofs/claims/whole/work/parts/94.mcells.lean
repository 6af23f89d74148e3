/-! the model: cells, faces, room -/
theorem ci_b {W H x y : Int} (hW : 1 ≤ W ∧ W ≤ 24) (hH : 0 ≤ H ∧ H ≤ 16) (hx : 0 ≤ x ∧ x < W) (hy : 0 ≤ y ∧ y < H) : 0 ≤ W * y + x ∧ W * y + x < 384 ∧ W * y + x < W * H := by
  have h0 : 0 ≤ W * y := Int.mul_nonneg (by omega) hy.1
  have h1 : W * y ≤ W * (H - 1) := Int.mul_le_mul_of_nonneg_left (by omega) (by omega)
  have h2 : W * (H - 1) = W * H - W := by rw [Int.mul_sub, Int.mul_one]
  have h3 : W * H ≤ 24 * 16 := Int.mul_le_mul hW.2 hH.2 hH.1 (by decide)
  omega
theorem ci_inj {W x y x' y' : Int} (hx : 0 ≤ x ∧ x < W) (hx' : 0 ≤ x' ∧ x' < W) (h : W * y + x = W * y' + x') : x = x' ∧ y = y' := by
  have key : ∀ a b : Int, a < b → W * a + W ≤ W * b := fun a b hab => by
    have := Int.mul_le_mul_of_nonneg_left (show a + 1 ≤ b by omega) (show 0 ≤ W by omega)
    rw [Int.mul_add, Int.mul_one] at this
    exact this
  rcases Int.lt_trichotomy y y' with c | c | c
  · have := key _ _ c; omega
  · subst c; omega
  · have := key _ _ c; omega
theorem pos_b {w h j : Int} (hw : 1 ≤ w) (h0 : 0 ≤ j) (h1 : j < w * h) : (0 ≤ j / w ∧ j / w < h) ∧ 0 ≤ j % w ∧ j % w < w :=
  ⟨⟨Int.ediv_nonneg h0 (by omega), Int.ediv_lt_of_lt_mul (by omega) (by rw [Int.mul_comm]; exact h1)⟩, Int.emod_nonneg _ (by omega), Int.emod_lt_of_pos _ (by omega)⟩
theorem inB_pos {l t w h x y : Int} (hw : 1 ≤ w) : inB (l, t, w, h) x y ↔ ∃ j, 0 ≤ j ∧ j < w * h ∧ x = l + j % w ∧ y = t + j / w := by
  constructor
  · rintro ⟨a, b, c, d⟩
    show ∃ j, _
    simp only at a b c d
    have e1 : ((x - l) + (y - t) * w) / w = y - t := by
      rw [Int.add_mul_ediv_right _ _ (by omega), Int.ediv_eq_zero_of_lt (by omega) (by omega)]; omega
    have e2 : ((x - l) + (y - t) * w) % w = x - l := by
      rw [Int.add_mul_emod_self_right, Int.emod_eq_of_lt (by omega) (by omega)]
    have h0 : 0 ≤ (y - t) * w := Int.mul_nonneg (by omega) (by omega)
    have h1 : (y - t) * w ≤ (h - 1) * w := Int.mul_le_mul_of_nonneg_right (by omega) (by omega)
    have h2 : (h - 1) * w = w * h - w := by rw [Int.sub_mul, Int.one_mul, Int.mul_comm]
    exact ⟨(x - l) + (y - t) * w, by omega, by omega, by omega, by omega⟩
  · rintro ⟨j, a, b, c, d⟩
    obtain ⟨⟨p1, p2⟩, p3, p4⟩ := pos_b hw a b
    exact ⟨by show l ≤ x; omega, by show x < l + w; omega, by show t ≤ y; omega, by show y < t + h; omega⟩
/-- what stands in the cells: faces and the first k balloons -/
def CelB (A : Nat → Nat → Nat) (σ : qS) (W H : Int) (fc : List (Int × Int × Int)) (k : Nat) (bs : Nat → Bx) (its : Nat → Nat) : Prop :=
  ∀ x y, 0 ≤ x → x < W → 0 ≤ y → y < H → (∀ j, j < k → inB (bs j) x y → gA σ (A 62 0) (W * y + x) = its j) ∧ ((∀ j, j < k → ¬ inB (bs j) x y) → (covF fc H x y → gA σ (A 62 0) (W * y + x) = -2) ∧ (¬ covF fc H x y → gA σ (A 62 0) (W * y + x) = -1))
def t62 : Nat → Int → Prop := fun t _ => t = 62
section
variable {g : qG} {l : Launch} {A : Nat → Nat → Nat} {D : qD} {σ : qS}
theorem covF_take {fc : List (Int × Int × Int)} {H x y : Int} {k : Nat} (hk : k < fc.length) : covF (fc.take (k + 1)) H x y ↔ covF (fc.take k) H x y ∨ ((fc.getD k (0, 0, 0)).1 ≤ x ∧ x < (fc.getD k (0, 0, 0)).1 + (fc.getD k (0, 0, 0)).2.1 ∧ H - (fc.getD k (0, 0, 0)).2.2 ≤ y) := by
  have htk : fc.take (k + 1) = fc.take k ++ [fc.getD k (0, 0, 0)] := by
    rw [List.take_add_one, List.getD_eq_getElem?_getD, List.getElem?_eq_getElem hk]
    rfl
  rw [htk]
  generalize fc.getD k (0, 0, 0) = f
  constructor
  · rintro ⟨f', a, b⟩
    rcases List.mem_append.mp a with d | d
    · exact Or.inl ⟨f', d, b⟩
    · rw [List.mem_singleton] at d
      subst d
      exact Or.inr b
  · rintro (⟨f', a, b⟩ | b)
    · exact ⟨f', List.mem_append_left _ a, b⟩
    · exact ⟨f, by simp, b⟩
/-- cells of -2 where P, else -1 -/
def Cel2 (A : Nat → Nat → Nat) (σ : qS) (W H : Int) (P : Int → Int → Prop) : Prop := ∀ x y, 0 ≤ x → x < W → 0 ≤ y → y < H → (P x y → gA σ (A 62 0) (W * y + x) = -2) ∧ (¬ P x y → gA σ (A 62 0) (W * y + x) = -1)
theorem Cel2_iff {W H : Int} {P Q : Int → Int → Prop} (h : Cel2 A σ W H P) (hpq : ∀ x y, 0 ≤ x → x < W → 0 ≤ y → y < H → (P x y ↔ Q x y)) : Cel2 A σ W H Q := fun x y a b c d => by
  have := h x y a b c d
  rw [hpq x y a b c d] at this
  exact this
theorem spec_stands (hl : l.stackTraces = false) (hA : qInj A) (h : MB A D σ) (hw : WF0 D) {q : Nat} (hq : q < nq D) {W H : Int} (hW : 1 ≤ W ∧ W ≤ 24) (hH : 0 ≤ H ∧ H ≤ 16) :
    qMet g l M_X8_stands [vr (A 30 0), vi (q : Int), vi W, vi H] σ (qTv0 (fun σ' => qMc A noI t62 σ σ' ∧ Cel2 A σ' W H (covF (fc D q) H))) := by
  have hn := hw.1.2.1
  obtain ⟨a1, a2, a3⟩ := m333 h.1
  obtain ⟨b1, b2, b3⟩ := m334 h.1
  obtain ⟨c1, c2, c3⟩ := m342 h.1
  have hfc : gA σ (A 53 0) (q : Int) = (fc D q).length := (h.2.1.2.2.1 q hq).2.1
  have hfa := (h.2.2.2.1 q hq).2.2.2
  have hfw := (hw.2.2.2.2.1 q hq).2.2.1.1
  have hWH : 0 ≤ W * H := Int.mul_nonneg (by omega) hH.1
  have hWH2 : W * H ≤ 24 * 16 := Int.mul_le_mul hW.2 hH.2 hH.1 (by decide)
  refine wm_X8_stands hl ⟨fun n x1 σ1 => (0 ≤ x1 ∧ x1 ≤ W * H) ∧ n = (W * H - x1).toNat ∧ qMc A noI t62 σ σ1 ∧ ∀ i, 0 ≤ i → i < x1 → gA σ1 (A 62 0) i = -1, ⟨_, ⟨by omega, hWH⟩, rfl, qMc_rf, fun i _ _ => by omega⟩, ?_⟩
  rintro n x1 σ1 ⟨hx1, rfl, hc1, hv1⟩
  have hMS : ∀ {s : qS}, qMc A noI t62 σ s → MS A s := fun hc => MS_c hc h.1
  refine ⟨by unfold qR; omega, by unfold qR; omega, fun hd => ?_, fun hd => ?_⟩
  rotate_left
  · obtain ⟨d1, d2, d3⟩ := m342 (hMS hc1)
    rw [d1]
    refine ⟨(hMS hc1).1, d2, ⟨by omega, by rw [d3]; omega⟩, fun σ2 h2 x93 h93 => ⟨_, ?_, by omega, rfl, ?_, fun i i0 i1 => ?_⟩⟩
    · omega
    · exact qMc_tr hc1 (by rw [h2]; exact qMc_A rfl)
    · rw [h2, gA_at hA]
      by_cases c : i = x1
      · rw [if_pos ⟨rfl, c⟩]
      · rw [if_neg (fun z => c z.2)]
        exact hv1 i i0 (by omega)
  have hbase : Cel2 A σ1 W H (covF ((fc D q).take 0) H) := fun x y x0 x1' y0 y1 => by
    have := ci_b hW hH ⟨x0, x1'⟩ ⟨y0, y1⟩
    refine ⟨fun z => ?_, fun _ => hv1 _ this.1 (by omega)⟩
    obtain ⟨f, hf, -⟩ := z
    simp at hf
  refine ⟨fun n x12 σ2 => ∃ k : Nat, x12 = k ∧ k ≤ (fc D q).length ∧ n = (fc D q).length - k ∧ qMc A noI t62 σ σ2 ∧ Cel2 A σ2 W H (covF ((fc D q).take k) H), ⟨_, 0, rfl, Nat.zero_le _, rfl, hc1, hbase⟩, ?_⟩
  rintro n x12 σ2 ⟨k, rfl, hk, rfl, hc2, hv2⟩
  obtain ⟨d1, d2, d3⟩ := m333 (hMS hc2)
  obtain ⟨e1, e2, e3⟩ := m334 (hMS hc2)
  have hl2 := hfw.1
  have g53 : ∀ {s : qS}, qMc A noI t62 σ s → gA s (A 53 0) (q : Int) = (fc D q).length := fun hc => by rw [qMc_at hA hc (by unfold t62; decide)]; exact hfc
  rw [d1, e1, g53 hc2]
  refine ⟨(hMS hc2).1, q_isA0 d2, ⟨by omega, by rw [d3]; omega⟩, by unfold qR; omega, by unfold qR; omega, fun hd2 => ⟨rfl, hc2, ?_⟩, fun hd2 x26 h26 => ?_⟩
  · rw [show k = (fc D q).length by omega, List.take_length] at hv2
    exact hv2
  have hkl : k < (fc D q).length := by omega
  have hmem : (fc D q).getD k (0, 0, 0) ∈ fc D q := by
    rw [List.getD_eq_getElem?_getD, List.getElem?_eq_getElem hkl]
    exact List.getElem_mem _
  have hfr := hfw.2 _ hmem
  obtain ⟨f1, f2, f3⟩ := hfa k hkl
  have hct := fun x y => covF_take (H := H) (x := x) (y := y) hkl
  generalize hff : (fc D q).getD k (0, 0, 0) = f at *
  have e26 : x26 = 6 * (q : Int) + 3 * (k : Int) := by omega
  have g54 : ∀ {s : qS}, qMc A noI t62 σ s → gA s (A 54 0) x26 = f.1 ∧ gA s (A 54 0) (x26 + 1) = f.2.1 ∧ gA s (A 54 0) (x26 + 2) = f.2.2 := fun hc => by
    rw [qMc_at hA hc (by unfold t62; decide), qMc_at hA hc (by unfold t62; decide), qMc_at hA hc (by unfold t62; decide), e26]
    exact ⟨f1, f2, f3⟩
  refine ⟨q_isA0 e2, ⟨by omega, by rw [e3]; omega⟩, fun x30 h30 => ?_⟩
  rw [(g54 hc2).1] at h30
  refine ⟨fun n x32 σ3 => (f.1 ≤ x32 ∧ x32 ≤ f.1 + f.2.1) ∧ n = (f.1 + f.2.1 - x32).toNat ∧ qMc A noI t62 σ σ3 ∧ Cel2 A σ3 W H (fun x y => covF ((fc D q).take k) H x y ∨ (f.1 ≤ x ∧ x < x32 ∧ H - f.2.2 ≤ y)), ⟨_, by omega, rfl, hc2, Cel2_iff hv2 (fun x y _ _ _ _ => ⟨Or.inl, fun z => z.elim id (fun z => by omega)⟩)⟩, ?_⟩
  rintro n x32 σ3 ⟨hx32, rfl, hc3, hv3⟩
  obtain ⟨e1', e2', e3'⟩ := m334 (hMS hc3)
  obtain ⟨p1, p2, p3⟩ := g54 hc3
  rw [e1', p1, p2]
  have hnext : ∀ (x47 : Int), x47 = (k : Int) + 1 → (∀ x y, 0 ≤ x → x < W → 0 ≤ y → y < H → ((covF ((fc D q).take k) H x y ∨ (f.1 ≤ x ∧ x < x32 ∧ H - f.2.2 ≤ y)) ↔ covF ((fc D q).take (k + 1)) H x y)) → ∃ n49 : Nat, n49 < (fc D q).length - k ∧ ∃ k' : Nat, x47 = k' ∧ k' ≤ (fc D q).length ∧ n49 = (fc D q).length - k' ∧ qMc A noI t62 σ σ3 ∧ Cel2 A σ3 W H (covF ((fc D q).take k') H) := by
    intro x47 h47 hiff
    exact ⟨_, by omega, k + 1, by omega, by omega, rfl, hc3, Cel2_iff hv3 hiff⟩
  refine ⟨(hMS hc3).1, q_isA0 e2', ⟨by omega, by rw [e3']; omega⟩, ⟨by omega, by rw [e3']; omega⟩, by unfold qR; omega, by unfold qR; omega, fun hd3 x47 h47 => hnext x47 h47 (fun x y x0 xW y0 yH => ?_), fun hd3 => ⟨by unfold qR; omega, fun hd4 x52 h52 => hnext x52 h52 (fun x y x0 xW y0 yH => ?_), fun hd4 x55 h55 => ?_⟩⟩
  · rw [hct]
    exact or_congr Iff.rfl ⟨fun z => ⟨z.1, by omega, z.2.2⟩, fun z => ⟨z.1, by omega, z.2.2⟩⟩
  · rw [hct]
    exact or_congr Iff.rfl ⟨fun z => ⟨z.1, by omega, z.2.2⟩, fun z => ⟨z.1, by omega, z.2.2⟩⟩
  refine ⟨fun n x57 σ4 => (-1 ≤ x57 ∧ x57 ≤ H - 1) ∧ n = (x57 + 1).toNat ∧ qMc A noI t62 σ σ4 ∧ Cel2 A σ4 W H (fun x y => (covF ((fc D q).take k) H x y ∨ (f.1 ≤ x ∧ x < x32 ∧ H - f.2.2 ≤ y)) ∨ (x = x32 ∧ H - f.2.2 ≤ y ∧ x57 < y)), ⟨_, by omega, rfl, hc3, Cel2_iff hv3 (fun x y _ _ _ _ => ⟨Or.inl, fun z => z.elim id (fun z => by omega)⟩)⟩, ?_⟩
  rintro n x57 σ4 ⟨hx57, rfl, hc4, hv4⟩
  obtain ⟨e1'', e2'', e3''⟩ := m334 (hMS hc4)
  obtain ⟨u1, u2, u3⟩ := m342 (hMS hc4)
  obtain ⟨p1', p2', p3'⟩ := g54 hc4
  rw [e1'', p3', u1]
  have hnx : ∀ x71 : Int, x71 = x32 + 1 → (x57 < H - f.2.2 ∨ x57 < 0) → ∃ n73 : Nat, n73 < (f.1 + f.2.1 - x32).toNat ∧ (f.1 ≤ x71 ∧ x71 ≤ f.1 + f.2.1) ∧ n73 = (f.1 + f.2.1 - x71).toNat ∧ qMc A noI t62 σ σ4 ∧ Cel2 A σ4 W H (fun x y => covF ((fc D q).take k) H x y ∨ (f.1 ≤ x ∧ x < x71 ∧ H - f.2.2 ≤ y)) := by
    intro x71 h71 hor
    refine ⟨_, ?_, by omega, rfl, hc4, Cel2_iff hv4 (fun x y x0 xW y0 yH => ?_)⟩
    · omega
    · constructor
      · rintro ((z | z) | z)
        · exact Or.inl z
        · exact Or.inr ⟨z.1, by omega, z.2.2⟩
        · exact Or.inr ⟨by omega, by omega, z.2.1⟩
      · rintro (z | z)
        · exact Or.inl (Or.inl z)
        · by_cases c : x = x32
          · exact Or.inr ⟨c, z.2.2, by omega⟩
          · exact Or.inl (Or.inr ⟨z.1, by omega, z.2.2⟩)
  refine ⟨(hMS hc4).1, q_isA0 e2'', ⟨by omega, by rw [e3'']; omega⟩, by unfold qR; omega, by unfold qR; omega, fun hd5 x71 h71 => hnx x71 h71 (Or.inl hd5), fun hd5 => ⟨fun hd6 x75 h75 => hnx x75 h75 (Or.inr hd6), fun hd6 => ?_⟩⟩
  have hb := ci_b hW hH (x := x32) (y := x57) ⟨by omega, by omega⟩ ⟨by omega, by omega⟩
  refine ⟨u2, ⟨hb.1, by rw [u3]; omega⟩, fun σ5 h5 x82 h82 => ⟨_, ?_, by omega, rfl, ?_, fun x y x0 xW y0 yH => ?_⟩⟩
  · omega
  · exact qMc_tr hc4 (by rw [h5]; exact qMc_A rfl)
  · rw [h5, gA_at hA]
    by_cases c : W * y + x = W * x57 + x32
    · obtain ⟨ex, ey⟩ := ci_inj ⟨x0, xW⟩ ⟨by omega, by omega⟩ c
      rw [if_pos ⟨rfl, c⟩]
      exact ⟨fun _ => rfl, fun z => absurd (Or.inr ⟨ex, by omega, by omega⟩) z⟩
    · rw [if_neg (fun z => c z.2)]
      have h9 := hv4 x y x0 xW y0 yH
      have hiff : ((covF ((fc D q).take k) H x y ∨ (f.1 ≤ x ∧ x < x32 ∧ H - f.2.2 ≤ y)) ∨ (x = x32 ∧ H - f.2.2 ≤ y ∧ x57 < y)) ↔ ((covF ((fc D q).take k) H x y ∨ (f.1 ≤ x ∧ x < x32 ∧ H - f.2.2 ≤ y)) ∨ (x = x32 ∧ H - f.2.2 ≤ y ∧ x82 < y)) := by
        refine or_congr Iff.rfl ⟨fun z => ⟨z.1, z.2.1, by omega⟩, fun z => ⟨z.1, z.2.1, ?_⟩⟩
        by_cases d : y = x57
        · exact absurd (by rw [d, z.1]) c
        · omega
      exact ⟨fun z => h9.1 (hiff.mpr z), fun z => h9.2 (fun y => z (hiff.mp y))⟩
theorem spec_isFree (hl : l.stackTraces = false) (h : MS A σ) {W H left top w hh : Int} (hW : 1 ≤ W ∧ W ≤ 24) (hH : 0 ≤ H ∧ H ≤ 16) (h1 : 0 ≤ left ∧ left + w ≤ W) (h2 : 0 ≤ top ∧ top + hh ≤ H) (hw : 1 ≤ w) (hh1 : 1 ≤ hh) (hQ : ∀ x y, 0 ≤ x → x < W → 0 ≤ y → y < H → qR (gA σ (A 62 0) (W * y + x))) :
    qMet g l M_X8_isFree [vr (A 30 0), vi W, vi left, vi top, vi w, vi hh] σ (qPi σ (cif (∀ x y, inB (left, top, w, hh) x y → gA σ (A 62 0) (W * y + x) = -1) 1 0)) := by
  obtain ⟨u1, u2, u3⟩ := m342 h
  have hwh : 0 ≤ w * hh := Int.mul_nonneg (by omega) (by omega)
  have hwh2 : w * hh ≤ 24 * 16 := Int.mul_le_mul (by omega) (by omega) (by omega) (by decide)
  refine wm_X8_isFree hl ⟨fun n x1 x2 => (0 ≤ x2 ∧ x2 ≤ w * hh) ∧ n = (w * hh - x2).toNat ∧ x1 = cif (∀ j, 0 ≤ j → j < x2 → gA σ (A 62 0) (W * (top + j / w) + left + j % w) = -1) 1 0, ⟨_, ⟨by omega, hwh⟩, rfl, by rw [cif_pos (fun j _ _ => by omega)]⟩, ?_⟩
  rintro n x1 x2 ⟨hx2, rfl, rfl⟩
  have h01 : ∀ P : Prop, (cif P 1 0 : Int) = 0 ∨ (cif P 1 0 : Int) = 1 := fun P => by unfold cif; split <;> omega
  refine ⟨by unfold qR; omega, by unfold qR; omega, fun hd => ⟨h01 _, rfl, ?_⟩, fun hd => ?_⟩
  · have he : x2 = w * hh := by omega
    subst he
    have : (∀ j, 0 ≤ j → j < w * hh → gA σ (A 62 0) (W * (top + j / w) + left + j % w) = -1) ↔ (∀ x y, inB (left, top, w, hh) x y → gA σ (A 62 0) (W * y + x) = -1) := by
      constructor
      · intro z x y hb
        obtain ⟨j, a, b, c, d⟩ := (inB_pos hw).mp hb
        rw [c, d, ← Int.add_assoc]
        exact z j a b
      · intro z j a b
        rw [Int.add_assoc]
        exact z _ _ ((inB_pos hw).mpr ⟨j, a, b, rfl, rfl⟩)
    rw [propext this]
  · obtain ⟨⟨p1, p2⟩, p3, p4⟩ := pos_b hw hx2.1 (show x2 < w * hh by omega)
    have hb := ci_b hW hH (x := left + x2 % w) (y := top + x2 / w) ⟨by omega, by omega⟩ ⟨by omega, by omega⟩
    have hq := hQ (left + x2 % w) (top + x2 / w) (by omega) (by omega) (by omega) (by omega)
    rw [← Int.add_assoc] at hb hq
    rw [u1]
    refine ⟨⟨by rcases h01 (∀ j, 0 ≤ j → j < x2 → gA σ (A 62 0) (W * (top + j / w) + left + j % w) = -1) with z | z <;> (rw [z]; unfold qR; omega), fun _ => ⟨h.1, by omega, by omega, by omega, by omega, q_isA0 u2, ⟨hb.1, by rw [u3]; omega⟩, hq⟩⟩, fun v24 h24 x30 h30 => ⟨_, ?_, by omega, rfl, ?_⟩⟩
    · omega
    · rw [h24]
      by_cases c : ∀ j, 0 ≤ j → j < x2 → gA σ (A 62 0) (W * (top + j / w) + left + j % w) = -1
      · rw [cif_pos c, if_neg (by decide)]
        by_cases d : gA σ (A 62 0) (W * (top + x2 / w) + left + x2 % w) = -1
        · rw [if_neg (fun z => z d), cif_pos]
          intro j a b
          by_cases e : j = x2
          · rw [e]; exact d
          · exact c j a (by omega)
        · rw [if_pos d, cif_neg (fun z => d (z x2 hx2.1 (by omega)))]
      · rw [cif_neg c, if_pos rfl, cif_neg (fun z => c (fun j a b => z j a (by omega)))]
end
