/-! ArrayList: adding and removing -/
/-- an opened list over the heap σb in which it is closed -/
def qOB (g : qG) (σb σ : qS) (r e : Nat) (n : Int) (xs : List Nat) : Prop := qOL g σ r e n xs ∧ qOff σb σ r ∧ (e = g.2.2.2 + 1 ∨ gK σb e = 0) ∧ gK σb r = 50 ∧ gK σb (g.2.2.2 + 1) = 34
section
variable {g : qG} {l : Launch} {σb σ : qS}
theorem qOB_d {r e : Nat} {n : Int} {xs : List Nat} (h : qOB g σb σ r e n xs) : gK σ (g.2.2.2 + 1) = 34 := by
  obtain ⟨-, h2, -, h4, h5⟩ := h
  rcases h2 (g.2.2.2 + 1) (fun z => by rw [z] at h5; omega) with ⟨a, b⟩ | a
  · omega
  · rw [a.1]; exact h5
theorem qOB_opens {r e : Nat} {mo n : Int} {f : Int → Nat} {σ0 : qS} (h : q_opn g σ r e n f) (hs : σ0 = q_open g σ r e mo n f) (hK : gK σ r = 50) (hd1 : gK σ0 (g.2.2.2 + 1) = 34) (hd2 : gN σ0 (g.2.2.2 + 1) = 0) : qOB g σ σ0 r e n (gL σ r) := by
  obtain ⟨h1, h2, h3⟩ := q_opens h hs hK hd1 hd2
  refine ⟨h1, h2, h3, hK, ?_⟩
  have hd : g.2.2.2 + 1 ≠ r := fun z => by rw [z, h1.1] at hd1; omega
  rcases h2 _ hd with ⟨a, b⟩ | a
  · omega
  · rw [← a.1]; exact hd1
theorem qOB_closes {r e : Nat} {n : Int} {xs : List Nat} (h : qOB g σb σ r e n xs) {σ' : qS} (hs : σ' = sL σb r xs) : ∀ H, qRep g σ H → qRep g σ' H := q_closes h.1 h.2.1 h.2.2.1 h.2.2.2.1 hs
theorem qOB_elok {r e x : Nat} {n : Int} {xs : List Nat} (h : qOB g σb σ r e n xs) (hx : 1 ≤ gK σb x ∧ gK σb x ≤ 9) : q_elok σ 4 x := by
  have := qOff_K h.2.1 (Or.inr h.2.2.2.1) x hx.1 hx.2
  exact Or.inr (Or.inr ⟨rfl, by rw [this]; exact hx⟩)
theorem qOB_grown {r e v : Nat} {n : Int} {xs : List Nat} {σ' : qS} (h : qOB g σb σ r e n xs) (hg : qGrown g σ σ' r v n xs) : ∃ n', n < n' ∧ qOB g σb σ' r v n' xs := by
  obtain ⟨h1, h2, h3, h4, h5⟩ := h
  obtain ⟨⟨n', hn, g1⟩, g2, g3, g4⟩ := hg
  refine ⟨n', hn, g1, qOff_tr h2 g2, Or.inr ?_, h4, h5⟩
  rcases h2 v (fun z => by rw [z, h1.1] at g3; omega) with ⟨a, b⟩ | a
  · exact b
  · rw [← a.1]; exact g3
theorem qOB_put {r e : Nat} {n : Int} {xs ys : List Nat} {σ2 : qS} (h : qOB g σb σ r e n xs) (hn : 1 ≤ n) (hK : gK σ2 = gK σ) (hN : gN σ2 = gN σ) (hP : gP σ2 361 r = e) (hI : gI σ2 362 r = ys.length) (hl : (ys.length : Int) ≤ n) (ho : qOff σb σ2 r)
    (h1 : ∀ i : Nat, i < ys.length → ys[i]? = some (gR σ2 e i)) (h2 : ∀ i : Int, 0 ≤ i → i < n → q_elok σ 4 (gR σ2 e i)) : qOB g σb σ2 r e n ys := by
  obtain ⟨⟨a1, a2, a3, a4, a5, a6, a7, a8, a9, a10⟩, b2, b3, b4, b5⟩ := h
  refine ⟨⟨by rw [hK]; exact a1, hP, hI, a4, a5, hl, a7, ?_, h1, fun i i0 i1 => ?_⟩, ho, b3, b4, b5⟩
  · rw [hK, hN]; exact a8
  · have := h2 i i0 i1
    unfold q_elok at this ⊢
    rw [hK]; exact this
theorem qOB_K {r e : Nat} {n : Int} {xs : List Nat} (h : qOB g σb σ r e n xs) (hn : 1 ≤ n) : gK σ e = 24 ∧ gK σb e = 0 ∧ e ≠ r := by
  obtain ⟨⟨a1, a2, a3, a4, a5, a6, a7, a8, a9, a10⟩, b2, b3, b4, b5⟩ := h
  rcases a8 with ⟨p, q, -⟩ | ⟨p, q, s, -⟩
  · omega
  · refine ⟨s, ?_, a5⟩
    rcases b3 with b3 | b3
    · exact absurd b3 p
    · exact b3
theorem gI_ne {f f' a a' : Nat} {v : Int} (h : ¬ (f' = f ∧ a' = a)) : gI (sI σ f a v) f' a' = gI σ f' a' := if_neg h
theorem qOB_I0 {r e : Nat} {n v : Int} {xs : List Nat} {σ2 : qS} (h : qOB g σb σ r e n xs) (hs : σ2 = sI σ 360 r v) : qOB g σb σ2 r e n xs := by
  obtain ⟨⟨a1, a2, a3, a4, a5, a6, a7, a8, a9, a10⟩, b2, b3, b4, b5⟩ := h
  subst hs
  refine ⟨⟨a1, a2, (gI_ne (fun z => by omega)).trans a3, a4, a5, a6, a7, a8, a9, a10⟩, qOff_tr b2 qOff_I, b3, b4, b5⟩
theorem qOB_app {r e x : Nat} {n k m : Int} {xs : List Nat} {σ2 : qS} (h : qOB g σb σ r e n xs) (hn : (xs.length : Int) < n) (hk : k = xs.length) (hm : m = xs.length + 1) (hx : q_elok σ 4 x) (hs : σ2 = sI (sR σ e k x) 362 r m) : qOB g σb σ2 r e n (xs ++ [x]) := by
  obtain ⟨k1, k2, k3⟩ := qOB_K h (by omega)
  subst hk
  have hR : ∀ i, gR σ2 e i = if i = xs.length then x else gR σ e i := by
    intro i
    rw [hs]
    show (if e = e ∧ i = xs.length then x else _) = _
    by_cases hi : i = xs.length
    · rw [if_pos ⟨rfl, hi⟩, if_pos hi]
    · rw [if_neg (fun z => hi z.2), if_neg hi]; rfl
  refine qOB_put h (by omega) (by rw [hs]; rfl) (by rw [hs]; rfl) ?_ ?_ (by rw [List.length_append]; simp; omega) ?_ (fun i hi => ?_) (fun i i0 i1 => ?_)
  · rw [hs]; exact h.1.2.1
  · rw [hs, List.length_append]; exact (if_pos ⟨rfl, rfl⟩).trans (by simp; omega)
  · rw [hs]; exact qOff_tr (qOff_R h.2.1 k2 k1) qOff_I
  · rw [hR]
    simp at hi
    by_cases h2 : i = xs.length
    · rw [if_pos (by omega), h2]; simp
    · rw [if_neg (by omega), List.getElem?_append_left (by omega)]
      exact h.1.2.2.2.2.2.2.2.2.1 i (by omega)
  · rw [hR]
    by_cases h2 : i = xs.length
    · rw [if_pos h2]; exact hx
    · rw [if_neg h2]; exact h.1.2.2.2.2.2.2.2.2.2 i i0 i1
theorem qOB_ins {r e x : Nat} {n i ln k : Int} {xs : List Nat} {σ2 : qS} (h : qOB g σb σ r e n xs) (hn : (xs.length : Int) < n) (hi : 0 ≤ i ∧ i ≤ xs.length) (hln : ln = xs.length - i) (hk : k = xs.length + 1) (hx : q_elok σ 4 x)
    (hs : σ2 = sI (sR (sRow σ e (q_cpy (gR σ e) (gR σ e) i (i + 1) ln)) e i x) 362 r k) : qOB g σb σ2 r e n (xs.insertIdx i.toNat x) := by
  obtain ⟨k1, k2, k3⟩ := qOB_K h (by omega)
  have hR : ∀ j, gR σ2 e j = if j = i then x else if i + 1 ≤ j ∧ j < i + 1 + ln then gR σ e (j - 1) else gR σ e j := by
    intro j
    rw [hs]
    show (if e = e ∧ j = i then x else gR (sRow σ e _) e j) = _
    rw [q_rowR]
    unfold q_cpy
    by_cases hj : j = i
    · rw [if_pos ⟨rfl, hj⟩, if_pos hj]
    · rw [if_neg (fun z => hj z.2), if_neg hj, show i + (j - (i + 1)) = j - 1 by omega]
  have hlen : (xs.insertIdx i.toNat x).length = xs.length + 1 := by rw [List.length_insertIdx, if_pos (by omega)]
  have hat := h.1.2.2.2.2.2.2.2.2.1
  have hel := h.1.2.2.2.2.2.2.2.2.2
  refine qOB_put h (by omega) (by rw [hs]; rfl) (by rw [hs]; rfl) ?_ ?_ (by rw [hlen]; omega) ?_ (fun j hj => ?_) (fun j j0 j1 => ?_)
  · rw [hs]; exact h.1.2.1
  · rw [hs, hlen]; exact (if_pos ⟨rfl, rfl⟩).trans (by omega)
  · rw [hs]; exact qOff_tr (qOff_R (qOff_Row h.2.1 k2 k1) k2 k1) qOff_I
  · rw [hlen] at hj
    rw [hR, List.getElem?_insertIdx]
    by_cases c1 : j < i.toNat
    · rw [if_pos c1, if_neg (by omega), if_neg (by omega)]
      exact hat j (by omega)
    · rw [if_neg c1]
      by_cases c2 : j = i.toNat
      · rw [if_pos c2, if_pos (by omega), if_pos (by omega)]
      · rw [if_neg c2, if_neg (by omega), if_pos (by omega), hat (j - 1) (by omega)]
        congr 2; omega
  · rw [hR]
    split
    · exact hx
    · split
      · exact hel _ (by omega) (by omega)
      · exact hel _ j0 j1
theorem qOB_rm {r e : Nat} {n i k : Int} {xs : List Nat} {σ1 σ2 : qS} (h : qOB g σb σ r e n xs) (hi : 0 ≤ i ∧ i < xs.length) (hk : k = xs.length - 1) (h1 : (i = k ∧ σ1 = σ) ∨ (i < k ∧ σ1 = sRow σ e (q_cpy (gR σ e) (gR σ e) (i + 1) i (k - i))))
    (hs : σ2 = sR (sI σ1 362 r k) e k 0) : qOB g σb σ2 r e n (xs.eraseIdx i.toNat) := by
  have hle := h.1.2.2.2.2.2.1
  obtain ⟨k1, k2, k3⟩ := qOB_K h (by omega)
  have hR : ∀ j, gR σ2 e j = if j = k then 0 else if i ≤ j ∧ j < k then gR σ e (j + 1) else gR σ e j := by
    intro j
    rw [hs]
    show (if e = e ∧ j = k then 0 else gR σ1 e j) = _
    by_cases hj : j = k
    · rw [if_pos ⟨rfl, hj⟩, if_pos hj]
    · rw [if_neg (fun z => hj z.2), if_neg hj]
      rcases h1 with ⟨a, b⟩ | ⟨a, b⟩
      · rw [b, if_neg (by omega)]
      · rw [b, q_rowR]
        unfold q_cpy
        by_cases c : i ≤ j ∧ j < k
        · rw [if_pos (by omega), if_pos c]
          congr 1; omega
        · rw [if_neg (by omega), if_neg c]
  have hK1 : gK σ1 = gK σ := by rcases h1 with ⟨-, b⟩ | ⟨-, b⟩ <;> rw [b] <;> rfl
  have hN1 : gN σ1 = gN σ := by rcases h1 with ⟨-, b⟩ | ⟨-, b⟩ <;> rw [b] <;> rfl
  have hP1 : gP σ1 = gP σ := by rcases h1 with ⟨-, b⟩ | ⟨-, b⟩ <;> rw [b] <;> rfl
  have ho1 : qOff σb σ1 r := by
    rcases h1 with ⟨-, b⟩ | ⟨-, b⟩
    · rw [b]; exact h.2.1
    · rw [b]; exact qOff_Row h.2.1 k2 k1
  have hlen : (xs.eraseIdx i.toNat).length = xs.length - 1 := by rw [List.length_eraseIdx, if_pos (by omega)]
  have hat := h.1.2.2.2.2.2.2.2.2.1
  have hel := h.1.2.2.2.2.2.2.2.2.2
  refine qOB_put h (by omega) (by rw [hs]; exact hK1) (by rw [hs]; exact hN1) ?_ ?_ (by rw [hlen]; omega) ?_ (fun j hj => ?_) (fun j j0 j1 => ?_)
  · rw [hs]
    show gP σ1 361 r = e
    rw [hP1]; exact h.1.2.1
  · rw [hs, hlen]
    show (if 362 = 362 ∧ r = r then k else _) = _
    rw [if_pos ⟨rfl, rfl⟩]; omega
  · rw [hs]
    exact qOff_R (qOff_tr ho1 qOff_I) k2 (by show gK σ1 e = 24; rw [hK1]; exact k1)
  · rw [hlen] at hj
    rw [hR, if_neg (show ¬((j : Int) = k) by omega), List.getElem?_eraseIdx]
    by_cases c1 : j < i.toNat
    · rw [if_pos c1, if_neg (by omega)]
      exact hat j (by omega)
    · rw [if_neg c1, if_pos (by omega), hat (j + 1) (by omega)]
      congr 2
  · rw [hR]
    split
    · exact Or.inl rfl
    · split
      · exact hel _ (by omega) (by omega)
      · exact hel _ j0 j1
theorem spec_addp (hl : l.stackTraces = false) {r e x : Nat} {n k : Int} {xs : List Nat} (h : qOB g σb σ r e n xs) (hk : k = xs.length) (hx : 1 ≤ gK σb x ∧ gK σb x ≤ 9) (hsm : (xs.length : Int) ≤ 130) :
    qMet g l M_Jx4a65c_add_72be8 [vr r, vr x, vr e, vi k] σ (qTv0 (fun σ' => ∃ e' n', qOB g σb σ' r e' n' (xs ++ [x]))) := by
  subst hk
  obtain ⟨hA, hN⟩ := q_isA_OL h.1
  have hle := h.1.2.2.2.2.2.1
  have hle2 := h.1.2.2.2.2.2.2.1
  refine wm_Jx4a65c_add_72be8 hl ⟨hA, by unfold qR; omega, by rw [hN]; unfold qR; omega, ?_⟩
  rw [hN]
  refine ⟨fun hne => ?_, fun heq => ?_⟩
  · have hk1 := qOB_K h (by omega)
    refine ⟨hk1.1, ⟨by omega, by rw [hN]; omega⟩, qOB_elok h hx, fun σ8 h8 => ⟨by rw [h8]; exact h.1.1, fun σ11 h11 => ⟨rfl, e, n, ?_⟩⟩⟩
    exact qOB_app h (by omega) rfl rfl (qOB_elok h hx) (by rw [h11, h8])
  · refine ⟨h.1.1, _, spec_grow hl h.1 heq.symm (by omega) (qOB_d h), fun σ1 v hv => ?_⟩
    obtain ⟨n', hn', hb⟩ := qOB_grown h hv
    have hk1 := qOB_K hb (by omega)
    have hN1 := (q_isA_OL hb.1).2
    refine ⟨hk1.1, ⟨by omega, by rw [hN1]; omega⟩, qOB_elok hb hx, fun σ8 h8 => ⟨by rw [h8]; exact hb.1.1, fun σ11 h11 => ⟨rfl, v, n', ?_⟩⟩⟩
    exact qOB_app hb (by omega) rfl rfl (qOB_elok hb hx) (by rw [h11, h8])
/-- adding at the end -/
theorem spec_add (hl : l.stackTraces = false) {r x : Nat} (hK : gK σ r = 50) (hx : 1 ≤ gK σ x ∧ gK σ x ≤ 9) (hsm : ((gL σ r).length : Int) ≤ 130) :
    qMet g l M_Jx4a65c_add_9ea2d [vr r, vr x] σ (qTi0 (fun σ' v => v = 1 ∧ σ' = sL σ r (gL σ r ++ [x]))) := by
  refine wm_Jx4a65c_add_9ea2d hl ⟨hK, fun e mo n f ho σ0 hs hd1 hd2 hd3 σ1 hs1 => ?_⟩
  have hb := qOB_I0 (qOB_opens ho hs hK hd1 hd2) hs1
  refine ⟨fun σ' => ∃ e' n', qOB g σ σ' r e' n' (gL σ r ++ [x]), ?_, fun σ8 h8 => ⟨sL σ r (gL σ r ++ [x]), ?_, 1, rfl, rfl, rfl⟩⟩
  · rw [hb.1.2.1, hb.1.2.2.1]
    exact spec_addp hl hb rfl hx hsm
  · obtain ⟨e', n', h9⟩ := h8
    exact qOB_closes h9 rfl
theorem spec_rangeA (hl : l.stackTraces = false) {r e : Nat} {n i : Int} {xs : List Nat} (h : qOL g σ r e n xs) (hi : 0 ≤ i ∧ i ≤ xs.length) : qMet g l M_Jx4a65c_rangeCheckForAdd_d00df [vr r, vi i] σ (qTv0 (fun σ' => σ' = σ)) := by
  have hle := h.2.2.2.2.2.1
  have hle2 := h.2.2.2.2.2.2.1
  have h3 := h.2.2.1
  refine wm_Jx4a65c_rangeCheckForAdd_d00df hl ⟨h.1, by unfold qR; omega, by rw [h3]; unfold qR; omega, fun hc => by omega, fun _ => ⟨fun _ => ⟨rfl, rfl⟩, fun hc => by omega⟩⟩
/-- adding at a place -/
theorem spec_insert (hl : l.stackTraces = false) {r x : Nat} {i : Int} (hK : gK σ r = 50) (hx : 1 ≤ gK σ x ∧ gK σ x ≤ 9) (hsm : ((gL σ r).length : Int) ≤ 130) (hi : 0 ≤ i ∧ i ≤ (gL σ r).length) :
    qMet g l M_Jx4a65c_add_7a177 [vr r, vi i, vr x] σ (qTv0 (fun σ' => σ' = sL σ r ((gL σ r).insertIdx i.toNat x))) := by
  refine wm_Jx4a65c_add_7a177 hl ⟨hK, fun e mo n f ho σ0 hs hd1 hd2 hd3 => ?_⟩
  have hb0 := qOB_opens ho hs hK hd1 hd2
  refine ⟨_, spec_rangeA hl hb0.1 hi, fun σ6 h6 => ?_⟩
  subst h6
  refine ⟨hb0.1.1, fun σ9 h9 x11 h11 x13 h13 => ?_⟩
  have hb := qOB_I0 hb0 h9
  have hle := hb.1.2.2.2.2.2.1
  have hle2 := hb.1.2.2.2.2.2.2.1
  rw [hb.1.2.2.1] at h11
  rw [hb.1.2.1] at h13
  subst h13
  rw [hb.1.2.1, hb.1.2.2.1]
  obtain ⟨hA, hN⟩ := q_isA_OL hb.1
  rw [hN]
  refine ⟨hA, by unfold qR; omega, by unfold qR; omega, fun hne => ?_, fun heq => ?_⟩
  · have hk1 := qOB_K hb (by omega)
    refine ⟨hA, hk1.1, ⟨hi.1, by omega, by omega, by rw [hN]; omega, by rw [hN]; omega, fun (j : Int) (j0 : 0 ≤ j) (j1 : j < x11 - i) => hb.1.2.2.2.2.2.2.2.2.2 (i + j) (by omega) (by omega)⟩, fun σ22 h22 => ⟨⟨hi.1, by rw [h22]; show i < gN σ9 _; rw [hN]; omega⟩, ?_, fun σ26 h26 σ28 h28 => ⟨_, qOB_closes (qOB_ins (ln := x11 - i) (k := x11 + 1) hb (by omega) hi (by omega) (by omega) (qOB_elok hb hx) (by rw [h28, h26, h22])) rfl, rfl, rfl⟩⟩⟩
    rw [h22]; exact (show q_elok σ9 4 x from qOB_elok hb hx)
  · refine ⟨_, spec_grow hl hb.1 heq.symm (by omega) (qOB_d hb), fun σ35 v hv => ?_⟩
    obtain ⟨n', hn', hb1⟩ := qOB_grown hb hv
    have hk1 := qOB_K hb1 (by omega)
    obtain ⟨hA1, hN1⟩ := q_isA_OL hb1.1
    refine ⟨hA1, hk1.1, ⟨hi.1, by omega, by omega, by rw [hN1]; omega, by rw [hN1]; omega, fun (j : Int) (j0 : 0 ≤ j) (j1 : j < x11 - i) => hb1.1.2.2.2.2.2.2.2.2.2 (i + j) (by omega) (by omega)⟩, fun σ22 h22 => ⟨⟨hi.1, by rw [h22]; show i < gN σ35 _; rw [hN1]; omega⟩, ?_, fun σ26 h26 => ⟨by rw [h26, h22]; exact hb1.1.1, fun σ28 h28 => ⟨_, qOB_closes (qOB_ins (ln := x11 - i) (k := x11 + 1) hb1 (by omega) hi (by omega) (by omega) (qOB_elok hb1 hx) (by rw [h28, h26, h22])) rfl, rfl, rfl⟩⟩⟩⟩
    rw [h22]; exact (show q_elok σ35 4 x from qOB_elok hb1 hx)
theorem spec_fastRemove (hl : l.stackTraces = false) {r e : Nat} {n i : Int} {xs : List Nat} (h : qOB g σb σ r e n xs) (hi : 0 ≤ i ∧ i < xs.length) :
    qMet g l M_Jx4a65c_fastRemove_b59b0 [vr r, vr e, vi i] σ (qTv0 (fun σ' => qOB g σb σ' r e n (xs.eraseIdx i.toNat))) := by
  refine wm_Jx4a65c_fastRemove_b59b0 hl ⟨h.1.1, fun σ2 h2 x4 h4 => ?_⟩
  have hb := qOB_I0 h h2
  have hle := hb.1.2.2.2.2.2.1
  have hle2 := hb.1.2.2.2.2.2.2.1
  rw [hb.1.2.2.1] at h4 ⊢
  obtain ⟨hA, hN⟩ := q_isA_OL hb.1
  have hk1 := qOB_K hb (by omega)
  refine ⟨by unfold qR; omega, by unfold qR; omega, fun hc σ9 h9 => ⟨by rw [h9]; exact hk1.1, ⟨by omega, by rw [h9]; show x4 < gN σ2 _; rw [hN]; omega⟩, Or.inl rfl, fun σ14 h14 => ⟨rfl, ?_⟩⟩, fun hc => ⟨hA, hk1.1, ⟨by omega, by omega, by omega, by rw [hN]; omega, by rw [hN]; omega, fun j j0 j1 => hb.1.2.2.2.2.2.2.2.2.2 (i + 1 + j) (by omega) (by omega)⟩, fun σ19 h19 σ21 h21 => ⟨⟨by omega, by rw [h21, h19]; show x4 < gN σ2 _; rw [hN]; omega⟩, Or.inl rfl, fun σ25 h25 => ⟨rfl, ?_⟩⟩⟩⟩
  · exact qOB_rm (σ1 := σ2) hb hi h4 (Or.inl ⟨by omega, rfl⟩) (by rw [h14, h9])
  · exact qOB_rm hb hi h4 (Or.inr ⟨by omega, rfl⟩) (by rw [h25, h21, h19])
/-- taking out of a place -/
theorem spec_remove (hl : l.stackTraces = false) {r : Nat} {i : Int} (hK : gK σ r = 50) (hi : 0 ≤ i ∧ i < (gL σ r).length) :
    qMet g l M_Jx4a65c_remove_915e3 [vr r, vi i] σ (qTr0 (fun σ' _ => σ' = sL σ r ((gL σ r).eraseIdx i.toNat))) := by
  refine wm_Jx4a65c_remove_915e3 hl ⟨hK, fun e mo n f ho σ0 hs hd1 hd2 hd3 => ?_⟩
  have hb := qOB_opens ho hs hK hd1 hd2
  have hle := hb.1.2.2.2.2.2.1
  have hle2 := hb.1.2.2.2.2.2.2.1
  obtain ⟨hA, hN⟩ := q_isA_OL hb.1
  rw [hb.1.2.2.1, hb.1.2.1]
  refine ⟨i, spec_checkIndex hl hi (by unfold qR; omega) (by unfold qR; omega), fun x3 h3 => ?_⟩
  subst h3
  refine ⟨hA, ⟨hi.1, by rw [hN]; omega⟩, fun x7 h7 => ⟨_, spec_fastRemove hl hb hi, fun σ14 h14 => ⟨_, qOB_closes h14 rfl, x7, rfl, rfl⟩⟩⟩
/-- a new list -/
theorem spec_init (hl : l.stackTraces = false) {r : Nat} (hK : gK σ r = 10) (hI : gI σ 362 r = 0) (hr : r ≠ 0) :
    qMet g l M_Jx4a65c_init_da8c8 [vr r] σ (qTv0 (fun σ' => σ' = sL (sK σ r 50) r [])) := by
  refine wm_Jx4a65c_init_da8c8 hl ⟨hr, fun σ1 => σ1 = sI σ 360 r 0, wm_Jxc12de_init_da8c8 hl ⟨hr, fun σ1 => σ1 = σ, wm_Jxa1e45_init_da8c8 hl ⟨hr, rfl, rfl⟩, fun σ7 h7 => ?_⟩, fun σ7 h7 => ?_⟩
  · subst h7
    exact ⟨hK, fun σ10 h10 => ⟨rfl, h10⟩⟩
  · subst h7
    refine ⟨hK, fun σ10 h10 => ⟨_, fun H hR => ?_, rfl, rfl⟩⟩
    subst h10
    refine q_rep_close (r := r) (e := g.2.2.2 + 1) (xs := []) hR hK (if_pos ⟨rfl, rfl⟩) ?_ (Or.inl ⟨rfl, rfl⟩) (if_pos rfl) (if_pos rfl) fun x hx => Or.inr ⟨?_, fun _ => rfl, fun f => ?_, fun f => ?_, fun _ => rfl, fun _ => rfl, ?_, rfl⟩
    · show (if 362 = 360 ∧ r = r then (0 : Int) else gI σ 362 r) = _
      rw [if_neg (by omega), hI]; rfl
    · show (if x = r then 50 else gK σ x) = gK σ x
      rw [if_neg hx]
    · show gI σ f x = (if f = 360 ∧ x = r then 0 else gI σ f x)
      rw [if_neg (fun z => hx z.2)]
    · show gP σ f x = (if f = 361 ∧ x = r then g.2.2.2 + 1 else gP σ f x)
      rw [if_neg (fun z => hx z.2)]
    · show (if x = r then [] else gL σ x) = gL σ x
      rw [if_neg hx]
end
