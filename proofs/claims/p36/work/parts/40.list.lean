/-! ArrayList: contracts of its members -/
theorem q_elok_K {σ σ' : qS} {x : Nat} (h : q_elok σ 4 x) (hK : ∀ x, 1 ≤ gK σ x → gK σ x ≤ 9 → gK σ' x = gK σ x) : q_elok σ' 4 x := by
  rcases h with h | ⟨h, -⟩ | ⟨h, h1, h2⟩
  · exact Or.inl h
  · omega
  · exact Or.inr (Or.inr ⟨h, by rw [hK x h1 h2]; exact ⟨h1, h2⟩⟩)
/-- an opened list: its object r, its array e of n places, its elements -/
def qOL (g : qG) (σ : qS) (r e : Nat) (n : Int) (xs : List Nat) : Prop := gK σ r = 10 ∧ gP σ 361 r = e ∧ gI σ 362 r = xs.length ∧ e ≠ 0 ∧ e ≠ r ∧ (xs.length : Int) ≤ n ∧ n ≤ 1000000 ∧
  ((e = g.2.2.2 + 1 ∧ n = 0 ∧ gK σ e = 34 ∧ gN σ e = 0) ∨ (e ≠ g.2.2.2 + 1 ∧ 1 ≤ n ∧ gK σ e = 24 ∧ gN σ e = n)) ∧ (∀ i : Nat, i < xs.length → xs[i]? = some (gR σ e i)) ∧ ∀ i : Int, 0 ≤ i → i < n → q_elok σ 4 (gR σ e i)
def qSame (σ σ2 : qS) (x : Nat) : Prop := gK σ2 x = gK σ x ∧ (∀ f, gI σ2 f x = gI σ f x) ∧ (∀ f, gP σ2 f x = gP σ f x) ∧ (∀ i, gA σ2 x i = gA σ x i) ∧ (∀ i, gR σ2 x i = gR σ x i) ∧ gL σ2 x = gL σ x ∧ gN σ2 x = gN σ x
/-- nothing has changed but r, and arrays of references that came -/
def qOff (σ σ2 : qS) (r : Nat) : Prop := ∀ x, x ≠ r → (gK σ2 x = 24 ∧ gK σ x = 0) ∨ qSame σ σ2 x
theorem qSame_rf (σ : qS) (x : Nat) : qSame σ σ x := ⟨rfl, fun _ => rfl, fun _ => rfl, fun _ => rfl, fun _ => rfl, rfl, rfl⟩
theorem qOff_rf (σ : qS) (r : Nat) : qOff σ σ r := fun x _ => Or.inr (qSame_rf σ x)
theorem qSame_tr {σ σ1 σ2 : qS} {x : Nat} (h1 : qSame σ σ1 x) (h2 : qSame σ1 σ2 x) : qSame σ σ2 x :=
  ⟨h2.1.trans h1.1, fun f => (h2.2.1 f).trans (h1.2.1 f), fun f => (h2.2.2.1 f).trans (h1.2.2.1 f), fun i => (h2.2.2.2.1 i).trans (h1.2.2.2.1 i), fun i => (h2.2.2.2.2.1 i).trans (h1.2.2.2.2.1 i), h2.2.2.2.2.2.1.trans h1.2.2.2.2.2.1, h2.2.2.2.2.2.2.trans h1.2.2.2.2.2.2⟩
theorem qOff_tr {σ σ1 σ2 : qS} {r : Nat} (h1 : qOff σ σ1 r) (h2 : qOff σ1 σ2 r) : qOff σ σ2 r := by
  intro x hx
  rcases h2 x hx with ⟨a, b⟩ | a
  · rcases h1 x hx with ⟨c, d⟩ | c
    · omega
    · exact Or.inl ⟨a, by rw [← c.1]; exact b⟩
  · rcases h1 x hx with ⟨c, d⟩ | c
    · exact Or.inl ⟨by rw [a.1]; exact c, d⟩
    · exact Or.inr (qSame_tr c a)
theorem qOff_K {σ σ2 : qS} {r : Nat} (h : qOff σ σ2 r) (hr : gK σ r = 10 ∨ gK σ r = 50) : ∀ x, 1 ≤ gK σ x → gK σ x ≤ 9 → gK σ2 x = gK σ x := by
  intro x h1 h2
  rcases h x (fun z => by rw [z] at h1 h2; omega) with ⟨a, b⟩ | a
  · omega
  · exact a.1
theorem q_rowR {σ : qS} {e : Nat} {f : Int → Nat} : gR (sRow σ e f) e = f := if_pos rfl
theorem q_rowRn {σ : qS} {e x : Nat} {f : Int → Nat} (h : x ≠ e) : gR (sRow σ e f) x = gR σ x := if_neg h
/-- writes at r, at an array that came, and a new array -/
theorem qOff_I {σ : qS} {r f : Nat} {v : Int} : qOff σ (sI σ f r v) r := fun x hx => Or.inr ⟨rfl, fun f' => by show (if f' = f ∧ x = r then v else _) = _; rw [if_neg (fun z => hx z.2)]; rfl, fun _ => rfl, fun _ => rfl, fun _ => rfl, rfl, rfl⟩
theorem qOff_P {σ : qS} {r f v : Nat} : qOff σ (sP σ f r v) r := fun x hx => Or.inr ⟨rfl, fun _ => rfl, fun f' => by show (if f' = f ∧ x = r then v else _) = _; rw [if_neg (fun z => hx z.2)]; rfl, fun _ => rfl, fun _ => rfl, rfl, rfl⟩
theorem qOff_R {σ σ1 : qS} {r e x : Nat} {i : Int} (h : qOff σ σ1 r) (he : gK σ e = 0) (he1 : gK σ1 e = 24) : qOff σ (sR σ1 e i x) r := by
  intro y hy
  by_cases hye : y = e
  · rw [hye]; exact Or.inl ⟨he1, he⟩
  · rcases h y hy with a | a
    · exact Or.inl a
    · refine Or.inr (qSame_tr a ⟨rfl, fun _ => rfl, fun _ => rfl, fun _ => rfl, fun i' => ?_, rfl, rfl⟩)
      show (if y = e ∧ i' = i then x else _) = _
      rw [if_neg (fun z => hye z.1)]; rfl
theorem qOff_Row {σ σ1 : qS} {r e : Nat} {f : Int → Nat} (h : qOff σ σ1 r) (he : gK σ e = 0) (he1 : gK σ1 e = 24) : qOff σ (sRow σ1 e f) r := by
  intro y hy
  by_cases hye : y = e
  · rw [hye]; exact Or.inl ⟨he1, he⟩
  · rcases h y hy with a | a
    · exact Or.inl a
    · refine Or.inr (qSame_tr a ⟨rfl, fun _ => rfl, fun _ => rfl, fun _ => rfl, fun i' => ?_, rfl, rfl⟩)
      rw [q_rowRn hye]
theorem qOff_nA {σ : qS} {r r2 : Nat} {n : Int} (h : gK σ r2 = 0) : qOff σ (nA σ r2 24 n) r := by
  intro y hy
  by_cases hye : y = r2
  · rw [hye]; exact Or.inl ⟨if_pos rfl, h⟩
  · exact Or.inr ⟨if_neg hye, fun _ => rfl, fun _ => rfl, fun i => if_neg hye, fun i => if_neg hye, rfl, if_neg hye⟩
/-- the list closed again -/
theorem q_closes {g : qG} {σ σ2 : qS} {r e : Nat} {n : Int} {xs : List Nat} (h : qOL g σ2 r e n xs) (ho : qOff σ σ2 r) (he : e = g.2.2.2 + 1 ∨ gK σ e = 0) (hK : gK σ r = 50) {σ' : qS} (hs : σ' = sL σ r xs) : ∀ H, qRep g σ2 H → qRep g σ' H := by
  intro H hR
  subst hs
  obtain ⟨h1, h2, h3, h4, h5, h6, h7, h8, h9, h10⟩ := h
  refine q_rep_close (r := r) (e := e) (xs := xs) hR h1 h2 h3 ?_ hK (if_pos rfl) fun x hx => ?_
  · rcases h8 with ⟨a, b, c, d⟩ | ⟨a, b, c, d⟩
    · exact Or.inl ⟨a, List.eq_nil_of_length_eq_zero (by omega)⟩
    · exact Or.inr ⟨c, by rw [d]; exact h6, by rw [d]; exact b, h9, by rw [d]; exact h10⟩
  · rcases ho x hx with ⟨a, b⟩ | ⟨a, b1, b2, b3, b4, b5, b6⟩
    · exact Or.inl ⟨b, Or.inl a⟩
    · refine Or.inr ⟨a.symm, fun z => ?_, fun f => (b1 f).symm, fun f => (b2 f).symm, fun i => (b3 i).symm, fun i => (b4 i).symm, (if_neg hx).trans b5.symm, b6.symm⟩
      rcases he with he | he
      · exact he
      · rcases h8 with ⟨p, -⟩ | ⟨-, -, p, -⟩
        · exact p
        · rw [z, p] at a; omega
theorem q_opens {g : qG} {σ σ0 : qS} {r e : Nat} {mo n : Int} {f : Int → Nat} (h : q_opn g σ r e n f) (hs : σ0 = q_open g σ r e mo n f) (hK : gK σ r = 50) (hd1 : gK σ0 (g.2.2.2 + 1) = 34) (hd2 : gN σ0 (g.2.2.2 + 1) = 0) :
    qOL g σ0 r e n (gL σ r) ∧ qOff σ σ0 r ∧ (e = g.2.2.2 + 1 ∨ gK σ e = 0) := by
  have hKs : ∀ x, 1 ≤ gK σ x → gK σ x ≤ 9 → gK σ0 x = gK σ x := by
    intro x h1 h2
    rw [hs, q_oK]
    have hxr : x ≠ r := fun z => by rw [z] at h1 h2; omega
    rw [if_neg hxr]
    rcases h.2.2.2.2.1 with ⟨a, -⟩ | ⟨a, -, b⟩
    · rw [if_neg (fun z => z.1 a)]
    · rw [if_neg (fun z => by rw [z.2] at h1; omega)]
  obtain ⟨h1, h2, h3, h4, h5, h6, h7⟩ := id h
  refine ⟨⟨by rw [hs]; exact q_oKr h, by rw [hs]; exact q_oP, by rw [hs]; exact q_oI2, h1, h2, h3, h4, ?_, fun i hi => ?_, fun i i0 hi => ?_⟩, fun x hx => ?_, ?_⟩
  · rcases h5 with ⟨a, b⟩ | ⟨a, b, c⟩
    · exact Or.inl ⟨a, b, by rw [a]; exact hd1, by rw [a]; exact hd2⟩
    · exact Or.inr ⟨a, b, by rw [hs, q_oK, if_pos ⟨a, rfl⟩], by rw [hs]; exact q_oNe a⟩
  · rcases h5 with ⟨a, b⟩ | ⟨a, b, c⟩
    · omega
    · rw [hs, q_oRe a]; exact h6 i hi
  · rcases h5 with ⟨a, b⟩ | ⟨a, b, c⟩
    · omega
    · rw [hs, q_oRe a, ← hs]; exact q_elok_K (h7 i i0 hi) hKs
  · by_cases hxe : e ≠ g.2.2.2 + 1 ∧ x = e
    · refine Or.inl ⟨by rw [hs, q_oK, if_pos hxe], ?_⟩
      rcases h5 with ⟨a, b⟩ | ⟨a, b, c⟩
      · exact absurd a hxe.1
      · rw [hxe.2]; exact c
    · refine Or.inr ⟨by rw [hs, q_oK, if_neg hxe, if_neg hx], fun k => by rw [hs]; exact q_oI k x hx, fun k => by rw [hs]; exact q_oPx k x hx, fun i => by rw [hs, q_oA], fun i => ?_, by rw [hs, q_oL], ?_⟩
      · by_cases hde : e = g.2.2.2 + 1
        · rw [hs]; unfold q_open; rw [if_pos hde]; rfl
        · rw [hs, q_oR _ (fun z => hxe ⟨hde, z⟩)]
      · by_cases hde : e = g.2.2.2 + 1
        · rw [hs]; unfold q_open; rw [if_pos hde]; rfl
        · rw [hs, q_oN _ (fun z => hxe ⟨hde, z⟩)]
  · rcases h5 with ⟨a, b⟩ | ⟨a, b, c⟩
    · exact Or.inl a
    · exact Or.inr c
section
variable {g : qG} {l : Launch} {σ : qS}
theorem q_isA_OL {r e : Nat} {n : Int} {xs : List Nat} (h : qOL g σ r e n xs) : q_isA σ 4 e ∧ gN σ e = n := by
  rcases h.2.2.2.2.2.2.2.1 with ⟨a, b, c, d⟩ | ⟨a, b, c, d⟩
  · exact ⟨⟨by decide, Or.inr c⟩, d.trans b.symm⟩
  · exact ⟨⟨by decide, Or.inl c⟩, d⟩
theorem spec_size (hl : l.stackTraces = false) {r : Nat} (hK : gK σ r = 50) : qMet g l M_Jx4a65c_size_8abf5 [vr r] σ (qPi σ (gL σ r).length) := by
  refine wm_Jx4a65c_size_8abf5 hl ⟨hK, fun e mo n f ho σ0 hs hd1 hd2 hd3 => ?_⟩
  obtain ⟨h1, h2, h3⟩ := q_opens ho hs hK hd1 hd2
  refine ⟨σ, q_closes h1 h2 h3 hK ?_, rfl, ?_⟩
  · show σ = (σ.1, σ.2.1, σ.2.2.1, σ.2.2.2.1, q_u1 σ.2.2.2.2.1 r (gL σ r), σ.2.2.2.2.2)
    have : q_u1 σ.2.2.2.2.1 r (gL σ r) = σ.2.2.2.2.1 := by
      funext x
      unfold q_u1
      split
      · rename_i hx; rw [hx]; rfl
      · rfl
    rw [this]
  · rw [h1.2.2.1]
theorem q_sL_self {r : Nat} : σ = sL σ r (gL σ r) := by
  show σ = (σ.1, σ.2.1, σ.2.2.1, σ.2.2.2.1, q_u1 σ.2.2.2.2.1 r (gL σ r), σ.2.2.2.2.2)
  have : q_u1 σ.2.2.2.2.1 r (gL σ r) = σ.2.2.2.2.1 := by
    funext x
    unfold q_u1
    split
    · rename_i hx; rw [hx]; rfl
    · rfl
  rw [this]
theorem spec_checkIndex3 (hl : l.stackTraces = false) {i n : Int} {x : Nat} (h : 0 ≤ i ∧ i < n) (hn : qR n) (hi : qR i) : qMet g l M_J3_checkIndex_8e157 [vi i, vi n, vr x] σ (qPi σ i) :=
  wm_J3_checkIndex_8e157 hl ⟨hi, fun h2 => by omega, fun _ => ⟨hn, fun _ => ⟨rfl, rfl⟩, fun h2 => by omega⟩⟩
theorem spec_checkIndex (hl : l.stackTraces = false) {i n : Int} (h : 0 ≤ i ∧ i < n) (hn : qR n) (hi : qR i) : qMet g l M_J15_checkIndex_7cf53 [vi i, vi n] σ (qPi σ i) :=
  wm_J15_checkIndex_7cf53 hl ⟨i, spec_checkIndex3 hl h hn hi, rfl, rfl⟩
theorem spec_elementData (hl : l.stackTraces = false) {r e : Nat} {n i : Int} {xs : List Nat} (h : qOL g σ r e n xs) (hi : 0 ≤ i ∧ i < xs.length) : qMet g l M_Jx4a65c_elementData_915e3 [vr r, vi i] σ (qPr σ (xs.getD i.toNat 0)) := by
  obtain ⟨hA, hN⟩ := q_isA_OL h
  have hr := h.2.1
  refine wm_Jx4a65c_elementData_915e3 hl ⟨h.1, by rw [hr]; exact hA, by rw [hr]; exact ⟨hi.1, by rw [hN]; have := h.2.2.2.2.2.1; omega⟩, rfl, ?_⟩
  have h9 := h.2.2.2.2.2.2.2.2.1 i.toNat (by omega)
  rw [Int.toNat_of_nonneg hi.1] at h9
  rw [hr, List.getD_eq_getElem?_getD, h9]
  rfl
theorem spec_get (hl : l.stackTraces = false) {r : Nat} {i : Int} (hK : gK σ r = 50) (hi : 0 ≤ i ∧ i < (gL σ r).length) : qMet g l M_Jx4a65c_get_915e3 [vr r, vi i] σ (qPr σ ((gL σ r).getD i.toNat 0)) := by
  refine wm_Jx4a65c_get_915e3 hl ⟨hK, fun e mo n f ho σ0 hs hd1 hd2 hd3 => ?_⟩
  obtain ⟨h1, h2, h3⟩ := q_opens ho hs hK hd1 hd2
  have hlen := h1.2.2.2.2.2.1
  have hn := h1.2.2.2.2.2.2.1
  refine ⟨i, ?_, (gL σ r).getD i.toNat 0, spec_elementData hl h1 hi, σ, q_closes h1 h2 h3 hK q_sL_self, rfl, rfl⟩
  rw [h1.2.2.1]
  exact spec_checkIndex hl hi (by unfold qR; omega) (by unfold qR; omega)
end
/-! growing -/
theorem q_shr1 {x : Int} (h0 : 0 ≤ x) (h1 : x ≤ 1000000) : (Int32.ofInt x >>> (Int32.ofInt 1 &&& 31)).toInt = x / 2 := by
  obtain ⟨n, rfl⟩ : ∃ n : Nat, x = (n : Int) := ⟨x.toNat, by omega⟩
  have e1 : Int32.ofInt (n : Int) = nI n := Int32.ofInt_eq_ofNat
  have e2 := pk_shrN (n := n) (by omega) (Int32.ofInt 1 &&& 31) 1 (by decide +kernel)
  rw [e1, e2, nI_toInt (by have := Nat.div_le_self n (2 ^ 1); omega)]
  omega
section
variable {g : qG} {l : Launch} {σ : qS}
theorem spec_newLength (hl : l.stackTraces = false) {a b c : Int} (ha : 0 ≤ a ∧ a ≤ 1000000) (hb : 1 ≤ b ∧ b ≤ 1000000) (hc : 0 ≤ c ∧ c ≤ 1000000) : qMet g l M_J8_newLength_cabcc [vi a, vi b, vi c] σ (qPi σ (a + max b c)) := by
  refine wm_J8_newLength_cabcc hl ⟨by unfold qR; omega, by unfold qR; omega, fun x hx => ⟨by unfold qR; omega, fun h => by omega, fun _ => ⟨fun h => by omega, fun _ => ⟨rfl, by rw [hx]⟩⟩⟩⟩
/-- a new array with the old one's elements -/
def qCp (σ σ' : qS) (r0 v : Nat) (m : Int) : Prop := gK σ v = 0 ∧ v ≠ 0 ∧ gK σ' v = 24 ∧ gN σ' v = m ∧ (∀ i, 0 ≤ i → i < gN σ r0 → gR σ' v i = gR σ r0 i) ∧ (∀ i, gN σ r0 ≤ i → gR σ' v i = 0) ∧ ∀ x, x ≠ v → qSame σ σ' x
theorem spec_copyOf3 (hl : l.stackTraces = false) {r0 : Nat} {m : Int} (hA : q_isA σ 4 r0) (h0 : 0 ≤ gN σ r0) (hm : gN σ r0 ≤ m ∧ m ≤ 200) (hel : ∀ i, 0 ≤ i → i < gN σ r0 → q_elok σ 4 (gR σ r0 i)) :
    qMet g l M_J7_copyOf_6403c [vr r0, vi m, vr (g.2.2.1 7 + 1)] σ (qTr0 (fun σ' v => qCp σ σ' r0 v m)) := by
  refine wm_J7_copyOf_6403c hl ⟨fun h => absurd rfl h, fun _ => ⟨⟨by omega, hm.2⟩, fun r2 hz hr σ1 hs => ?_⟩⟩
  have hne : r0 ≠ r2 := by
    intro z
    rcases hA.2 with h | h
    · rw [z] at h; omega
    · rw [z] at h; omega
  have hK : ∀ x, x ≠ r2 → gK σ1 x = gK σ x := fun x hx => by rw [hs]; exact if_neg hx
  have hK2 : gK σ1 r2 = 24 := by rw [hs]; exact if_pos rfl
  have hN : gN σ1 r0 = gN σ r0 := by rw [hs]; exact if_neg hne
  have hN2 : gN σ1 r2 = m := by rw [hs]; exact if_pos rfl
  have hR : ∀ i, gR σ1 r0 i = gR σ r0 i := fun i => by rw [hs]; exact if_neg hne
  have hR2 : ∀ i, gR σ1 r2 i = 0 := fun i => by rw [hs]; exact if_pos rfl
  have hKs : ∀ x, 1 ≤ gK σ x → gK σ x ≤ 9 → gK σ1 x = gK σ x := fun x h1 _ => hK x (fun z => by rw [z] at h1; omega)
  have hmin : min (gN σ1 r0) m = gN σ r0 := by rw [hN]; omega
  refine ⟨⟨hA.1, by rw [hK r0 hne]; exact hA.2⟩, by rw [hN]; unfold qR; omega, by unfold qR; omega, ?_, fun σ2 hs2 => ⟨r2, rfl, ?_⟩⟩
  · rw [hmin]
    refine ⟨by omega, by omega, h0, by rw [hN]; omega, by rw [hN2]; omega, fun i i0 i1 => ?_⟩
    rw [hR, Int.zero_add]
    exact q_elok_K (hel i i0 i1) hKs
  · rw [hmin] at hs2
    have hRow : ∀ i, gR σ2 r2 i = q_cpy (gR σ1 r0) (gR σ1 r2) 0 0 (gN σ r0) i := fun i => by
      rw [hs2, q_rowR]
    refine ⟨hz, hr, by rw [hs2]; exact hK2, by rw [hs2]; exact hN2, fun i i0 i1 => ?_, fun i i1 => ?_, fun x hx => ?_⟩
    · rw [hRow]
      unfold q_cpy
      rw [if_pos ⟨i0, by omega⟩, Int.zero_add, Int.sub_zero, hR]
    · rw [hRow]
      unfold q_cpy
      rw [if_neg (by omega), hR2]
    · refine ⟨by rw [hs2]; exact hK x hx, fun _ => by rw [hs2, hs]; rfl, fun _ => by rw [hs2, hs]; rfl, fun i => by rw [hs2, hs]; exact if_neg hx, fun i => ?_, by rw [hs2, hs]; rfl, by rw [hs2, hs]; exact if_neg hx⟩
      rw [hs2, q_rowRn hx, hs]
      exact if_neg hx
theorem spec_copyOf (hl : l.stackTraces = false) {r0 : Nat} {m : Int} (hA : q_isA σ 4 r0) (h0 : 0 ≤ gN σ r0) (hm : gN σ r0 ≤ m ∧ m ≤ 200) (hel : ∀ i, 0 ≤ i → i < gN σ r0 → q_elok σ 4 (gR σ r0 i)) :
    qMet g l M_J7_copyOf_1904c [vr r0, vi m] σ (qTr0 (fun σ' v => qCp σ σ' r0 v m)) :=
  wm_J7_copyOf_1904c hl ⟨hA, _, spec_copyOf3 hl hA h0 hm hel, fun σ' v h => ⟨v, rfl, h⟩⟩
/-- what growing gives -/
def qGrown (g : qG) (σ σ' : qS) (r v : Nat) (n : Int) (xs : List Nat) : Prop := (∃ n' : Int, n < n' ∧ qOL g σ' r v n' xs) ∧ qOff σ σ' r ∧ gK σ v = 0 ∧ v ≠ g.2.2.2 + 1
theorem q_grown {r v e : Nat} {n m : Int} {xs : List Nat} {σ1 σ2 : qS} (h : qOL g σ r e n xs) (hd : gK σ (g.2.2.2 + 1) = 34) (hc : qCp σ σ1 e v m) (hNe : gN σ e = n) (hm : n < m ∧ 1 ≤ m ∧ m ≤ 200) (hs : σ2 = sP σ1 361 r v) : qGrown g σ σ2 r v n xs := by
  obtain ⟨h1, h2, h3, h4, h5, h6, h7, h8, h9, h10⟩ := h
  obtain ⟨c1, c2, c3, c4, c5, c6, c7⟩ := hc
  have hvr : v ≠ r := fun z => by rw [z] at c1; omega
  have hvd : v ≠ g.2.2.2 + 1 := fun z => by rw [z] at c1; omega
  have hsr := c7 r (Ne.symm hvr)
  have hPr : gP σ2 361 r = v := by rw [hs]; exact if_pos ⟨rfl, rfl⟩
  have hKs : ∀ x, 1 ≤ gK σ x → gK σ x ≤ 9 → gK σ2 x = gK σ x := fun x hx1 hx2 => by rw [hs]; exact (c7 x (fun z => by rw [z] at hx1; omega)).1
  refine ⟨⟨m, hm.1, by rw [hs]; exact hsr.1.trans h1, hPr, by rw [hs]; exact (hsr.2.1 362).trans h3, c2, hvr, by omega, by omega, Or.inr ⟨hvd, hm.2.1, by rw [hs]; exact c3, by rw [hs]; exact c4⟩, fun i hi => ?_, fun i i0 hi => ?_⟩, ?_, c1, hvd⟩
  · rw [h9 i hi]
    have : gR σ2 v i = gR σ1 v i := by rw [hs]; rfl
    rw [this, c5 i (by omega) (by rw [hNe]; omega)]
  · have e1 : gR σ2 v i = gR σ1 v i := by rw [hs]; rfl
    rw [e1]
    by_cases hin : i < n
    · rw [c5 i i0 (by rw [hNe]; exact hin)]
      exact q_elok_K (h10 i i0 hin) hKs
    · rw [c6 i (by rw [hNe]; omega)]
      exact Or.inl rfl
  · refine qOff_tr (σ1 := σ1) (fun x hx => ?_) (by rw [hs]; exact qOff_P)
    by_cases hxv : x = v
    · rw [hxv]; exact Or.inl ⟨c3, c1⟩
    · exact Or.inr (c7 x hxv)
theorem spec_grow1 (hl : l.stackTraces = false) {r e : Nat} {n : Int} {xs : List Nat} (h : qOL g σ r e n xs) (hn : n = xs.length) (hsm : n ≤ 130) (hd : gK σ (g.2.2.2 + 1) = 34) :
    qMet g l M_Jx4a65c_grow_92f84 [vr r, vi (n + 1)] σ (qTr0 (fun σ' v => qGrown g σ σ' r v n xs)) := by
  obtain ⟨hA, hN⟩ := q_isA_OL h
  have hP := h.2.1
  have h0 : 0 ≤ n := by omega
  refine wm_Jx4a65c_grow_92f84 hl ⟨h.1, by rw [hP]; exact hA, fun x3 hx3 => ?_⟩
  rw [hP, hN] at hx3
  subst hx3
  rw [q_shr1 h0 (by omega), hP]
  refine ⟨by unfold qR; omega, fun hpos => ?_, fun hz => ⟨fun hdef => ?_, fun hnd => ?_⟩⟩
  · refine ⟨_, spec_newLength hl (by omega) (by omega) (by omega), _, spec_copyOf hl hA (by rw [hN]; exact h0) (by rw [hN]; omega) (fun i i0 i1 => h.2.2.2.2.2.2.2.2.2 i i0 (by rw [← hN]; exact i1)), fun σ1 v hc => ⟨?_, fun σ2 hs => ⟨v, rfl, q_grown h hd hc hN (by omega) hs⟩⟩⟩
    have hvr : v ≠ r := fun z => by have := hc.1; rw [z, h.1] at this; omega
    exact ((hc.2.2.2.2.2.2 r (Ne.symm hvr)).1).trans h.1
  · have hmx : max 10 (x3 + 1) = 10 := by omega
    rw [hmx]
    refine ⟨by unfold qR; omega, by omega, fun r2 hz2 hr2 σ1 hs1 => ?_⟩
    have hr2r : r2 ≠ r := fun z => by rw [z, h.1] at hz2; omega
    have hKr : gK σ1 r = 10 := by rw [hs1]; exact (if_neg (Ne.symm hr2r)).trans h.1
    refine ⟨hKr, fun σ2 hs2 => ⟨r2, rfl, q_grown (m := 10) h hd ⟨hz2, hr2, by rw [hs1]; exact if_pos rfl, by rw [hs1]; exact if_pos rfl, fun i i0 i1 => ?_, fun i i1 => by rw [hs1]; exact if_pos rfl, fun x hx => ?_⟩ hN (by omega) hs2⟩⟩
    · rw [hN] at i1; omega
    · rw [hs1]
      exact ⟨if_neg hx, fun _ => rfl, fun _ => rfl, fun i => if_neg hx, fun i => if_neg hx, rfl, if_neg hx⟩
  · rcases h.2.2.2.2.2.2.2.1 with ⟨a, -⟩ | ⟨-, a, -⟩
    · exact absurd a hnd
    · omega
theorem spec_grow (hl : l.stackTraces = false) {r e : Nat} {n : Int} {xs : List Nat} (h : qOL g σ r e n xs) (hn : n = xs.length) (hsm : n ≤ 130) (hd : gK σ (g.2.2.2 + 1) = 34) :
    qMet g l M_Jx4a65c_grow_d5877 [vr r] σ (qTr0 (fun σ' v => qGrown g σ σ' r v n xs)) := by
  refine wm_Jx4a65c_grow_d5877 hl ⟨h.1, _, ?_, fun σ' v hv => ⟨v, rfl, hv⟩⟩
  rw [h.2.2.1, ← hn]
  exact spec_grow1 hl h hn hsm hd
end
