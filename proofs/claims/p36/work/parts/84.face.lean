/-! the class: a face -/
abbrev Fc3 : Type := Int × Int × Int
def fcOk (f : Fc3) : Prop := (0 ≤ f.1 ∧ f.1 ≤ 23) ∧ (1 ≤ f.2.1 ∧ f.2.1 ≤ 24) ∧ 1 ≤ f.2.2 ∧ f.2.2 ≤ 8
def dFc (D : qD) (q : Nat) (f : Fc3) : qD := dF D q (fc D q ++ [f])
section
variable {D : qD}
theorem fc_at {q q' : Nat} {xs : List Fc3} : fc (dF D q xs) q' = if q' = q then xs else fc D q' := rfl
theorem dF_dF {q : Nat} {xs ys : List Fc3} : dF (dF D q xs) q ys = dF D q ys := by
  have : q_u1 (q_u1 D.2.2.2 q xs) q ys = q_u1 D.2.2.2 q ys := by
    funext a
    unfold q_u1
    by_cases c : a = q
    · rw [if_pos c, if_pos c]
    · rw [if_neg c, if_neg c, if_neg c]
  show (D.1, D.2.1, D.2.2.1, q_u1 (q_u1 D.2.2.2 q xs) q ys) = (D.1, D.2.1, D.2.2.1, q_u1 D.2.2.2 q ys)
  rw [this]
theorem dF_self {q : Nat} : dF D q (fc D q) = D := by
  have : q_u1 D.2.2.2 q (fc D q) = D.2.2.2 := by
    funext a
    unfold q_u1
    by_cases c : a = q
    · rw [if_pos c, c]; rfl
    · rw [if_neg c]
  show (D.1, D.2.1, D.2.2.1, q_u1 D.2.2.2 q (fc D q)) = D
  rw [this]
theorem WF0_Fc (hw : WF0 D) {q : Nat} {f : Fc3} (hl : (fc D q).length < 2) (hf : fcOk f) : WF0 (dFc D q f) := by
  obtain ⟨w1, w2, w3, w4, w5, w6, w7, w8, w9⟩ := hw
  refine ⟨w1, w2, w3, w4, fun q' hq' => ?_, w6, w7, w8, w9⟩
  obtain ⟨a1, a2, ⟨f1, f2⟩, a4, a5⟩ := w5 q' hq'
  refine ⟨a1, a2, ⟨?_, f2⟩, a4, a5⟩
  show FcW (fc (dF D q (fc D q ++ [f])) q')
  rw [fc_at]
  by_cases c : q' = q
  · rw [if_pos c]
    subst c
    refine ⟨by rw [List.length_append]; simp; omega, fun x hx => ?_⟩
    rcases List.mem_append.mp hx with z | z
    · exact f1.2 x z
    · rw [List.mem_singleton.mp z]; exact hf
  · rw [if_neg c]; exact f1
theorem LyEq_Fc {q p : Nat} {xs : List Fc3} (h : q ∉ row D p) : LyEq D (dF D q xs) p := by
  refine ⟨rfl, rfl, rfl, fun q' hq' => ⟨rfl, rfl, rfl, ?_, rfl, fun b _ => rfl⟩⟩
  have hne : q' ≠ q := fun z => h (by rw [← z]; exact hq')
  rw [fc_at, if_neg hne]
end
section
variable {g : qG} {l : Launch} {A : Nat → Nat → Nat} {D : qD} {σ : qS}
/-- the list of a panel's faces has changed -/
theorem SR_F (hA : qInj A) {σ' : qS} {q : Nat} {xs : List Fc3} (h : SR A D σ) (hs' : σ' = sL σ (A 11 q) ((List.range xs.length).map (fun i => A 15 (2 * q + i)))) (hF : ∀ i, i < xs.length → gK σ (A 15 (2 * q + i)) = 3 ∧ gI σ 80 (A 15 (2 * q + i)) = (xs.getD i (0, 0, 0)).1 ∧ gI σ 81 (A 15 (2 * q + i)) = (xs.getD i (0, 0, 0)).2.1 ∧ gI σ 82 (A 15 (2 * q + i)) = (xs.getD i (0, 0, 0)).2.2) : SR A (dF D q xs) σ' := by
  have iK : gK σ' = gK σ := by rw [hs']; rfl
  have iI : gI σ' = gI σ := by rw [hs']; rfl
  have iN : gN σ' = gN σ := by rw [hs']; rfl
  have iP : gP σ' = gP σ := by rw [hs']; rfl
  have iA : gA σ' = gA σ := by rw [hs']; rfl
  have iR : gR σ' = gR σ := by rw [hs']; rfl
  have iL : ∀ x, x ≠ A 11 q → gL σ' x = gL σ x := fun x hx => by rw [hs']; exact if_neg hx
  obtain ⟨h1, h2, h3, h4, h5, h6⟩ := h
  refine ⟨?_, ?_, ?_, fun p' hp' => ?_, fun q' hq => ?_, fun b hb => ?_⟩
  · unfold BsR at h1 ⊢
    rw [iK, iP, iL (A 1 0) (by rw [Ne, hA.1]; omega), iL (A 2 0) (by rw [Ne, hA.1]; omega), iL (A 3 0) (by rw [Ne, hA.1]; omega)]
    exact h1
  · unfold LyR at h2 ⊢
    rw [iK, iN, iP, iA]
    exact h2
  · unfold RdR at h3 ⊢
    rw [iK, iN, iP, iR, iI]
    exact h3
  · have := h4 p' hp'
    unfold PgR at this ⊢
    rw [iK, iP, iI, iL (A 10 p') (by rw [Ne, hA.1]; omega)]
    exact this
  · obtain ⟨⟨a1, a2, a3, a4, a5, a6, a7, a8, a9, a10, a11, a12, a13, a14, a15, a16, a17⟩, p2⟩ := h5 q' hq
    unfold PnR FcR
    rw [iK, iP, iI, iL (A 12 q') (by rw [Ne, hA.1]; omega), fc_at]
    by_cases c : q' = q
    · subst c
      rw [if_pos rfl]
      exact ⟨⟨a1, a2, a3, a4, a5, a6, a7, a8, a9, a10, a11, by rw [hs']; exact if_pos rfl, a13, a14, a15, a16, hF⟩, p2⟩
    · rw [if_neg c, iL _ (fun z => c (qInj_i hA z))]
      exact ⟨⟨a1, a2, a3, a4, a5, a6, a7, a8, a9, a10, a11, a12, a13, a14, a15, a16, a17⟩, p2⟩
  · have := h6 b hb
    unfold BlR at this ⊢
    rw [iK, iP, iI]
    exact this
noncomputable def o_face (D : qD) (q x y z : Int) : Int ⊕ Nat := cif (¬ pnOk D q) (.inr 2) (cif (fcOk (x, y, z)) (cif ((fc D q.toNat).length < 2 ∧ OKp (dFc D q.toNat (x, y, z)) (hp D q.toNat)) (.inl (LB (dFc D q.toNat (x, y, z)) q.toNat).2.2.2) (.inr 0)) (.inr 1))
noncomputable def d_face (D : qD) (q x y z : Int) : qD := cif (pnOk D q ∧ fcOk (x, y, z) ∧ (fc D q.toNat).length < 2 ∧ OKp (dFc D q.toNat (x, y, z)) (hp D q.toNat)) (dFc D q.toNat (x, y, z)) D
theorem spec_initF (hl : l.stackTraces = false) {r : Nat} {x y z : Int} (hr : r ≠ 0) (hK : gK σ r = 3) : qMet g l M_X2_init [vr r, vi x, vi y, vi z] σ (qTv0 (fun σ' => σ' = sI (sI (sI σ 80 r x) 81 r y) 82 r z)) :=
  wm_X2_init hl ⟨hr, hK, fun σ3 h3 σ5 h5 σ7 h7 => ⟨rfl, by rw [h7, h5, h3]⟩⟩
theorem spec_dropF (hl : l.stackTraces = false) {q : Nat} (h : PnR A D σ q) (hn : (fc D q).length ≤ 2) (h1 : 0 < (fc D q).length) : qMet g l M_X5_dropLastFace [vr (A 6 q)] σ (qTv0 (fun σ' => σ' = sL σ (A 11 q) ((List.range ((fc D q).length - 1)).map (fun i => A 15 (2 * q + i))))) := by
  obtain ⟨a1, a2, a3, a4, a5, a6, a7, a8, a9, a10, a11, a12, a13, a14, a15, a16, a17⟩ := h
  have hs := spec_sizeM (g := g) hl a11 a12
  rw [List.length_range] at hs
  refine wm_X5_dropLastFace hl ⟨a1, ?_⟩
  rw [a7]
  refine ⟨a11, _, hs, by unfold qR; omega, fun z => by omega, fun _ => ⟨_, hs, _, spec_remove hl a11 (by rw [a12, List.length_map, List.length_range]; omega), fun σ' v h' => ⟨rfl, ?_⟩⟩⟩
  rw [h', a12]
  congr 1
  have e : ((((fc D q).length : Nat) : Int) - 1).toNat = (fc D q).length - 1 := by omega
  rw [e]
  obtain ⟨n, hn'⟩ : ∃ n, (fc D q).length = n + 1 := ⟨(fc D q).length - 1, by omega⟩
  rw [hn', List.range_succ, List.map_append, Nat.add_sub_cancel]
  rw [List.eraseIdx_append_of_length_le (by simp)]
  simp
theorem spec_face (hl : l.stackTraces = false) (hA : qInj A) (h : CR A D σ) (hw : WF D) {q x y z : Int} (hq : qR q) (hx : qR x) (hy : qR y) (hz : qR z) : qMet g l M_X7_face [vr (A 0 0), vi q, vi x, vi y, vi z] σ (qClP A σ (o_face D q x y z) (d_face D q x y z)) := by
  unfold o_face d_face
  have hsame : ∀ o, qClP A σ o D σ (res o) := fun o => ⟨A, hA, fun _ _ _ _ => rfl, h, frm_rf, rfl⟩
  refine wm_X7_face hl ⟨h.1.1, _, _, spec_needPanel hl h hw.1 hq, fun σ1 v1 h1 => ?_, fun σ1 n h1 => ?_⟩
  rotate_left
  · obtain ⟨rfl, hok, rfl⟩ := h1
    rw [cif_pos hok, cif_neg (fun z => hok z.1)]
    exact hsame (.inr 2)
  obtain ⟨rfl, hok, rfl⟩ := h1
  rw [cif_neg (fun z => z hok)]
  refine ⟨_, _, spec_needWithin hl hx (by unfold qR; omega) (by unfold qR; omega), fun σ2 h2 => ?_, fun σ2 n h2 => ?_⟩
  rotate_left
  · obtain ⟨rfl, hne, rfl⟩ := h2
    rw [cif_neg (fun z => hne z.1), cif_neg (fun z => hne z.2.1.1)]
    exact hsame (.inr 1)
  obtain ⟨rfl, hx1⟩ := h2
  refine ⟨_, _, spec_needWithin hl hy (by unfold qR; omega) (by unfold qR; omega), fun σ2 h2 => ?_, fun σ2 n h2 => ?_⟩
  rotate_left
  · obtain ⟨rfl, hne, rfl⟩ := h2
    rw [cif_neg (fun z => hne z.2.1), cif_neg (fun z => hne z.2.1.2.1)]
    exact hsame (.inr 1)
  obtain ⟨rfl, hy1⟩ := h2
  refine ⟨_, _, spec_needWithin hl hz (by unfold qR; omega) (by unfold qR; omega), fun σ2 h2 => ?_, fun σ2 n h2 => ?_⟩
  rotate_left
  · obtain ⟨rfl, hne, rfl⟩ := h2
    rw [cif_neg (fun z => hne z.2.2), cif_neg (fun z => hne z.2.1.2.2)]
    exact hsame (.inr 1)
  obtain ⟨rfl, hz1⟩ := h2
  have hfo : fcOk (x, y, z) := ⟨hx1, hy1, hz1⟩
  rw [cif_pos hfo]
  have hS0 := CR_SR h
  obtain ⟨hpn, hmq⟩ := alP_home hw.1 hok.2
  have hPn := (CR_pn h hok.2).1
  have hPW := (hw.1.2.2.2.2.1 _ hok.2.1).2.2.1
  have hl2 := hPW.1.1
  have c11 : gK σ2 (A 11 q.toNat) = 50 := hPn.2.2.2.2.2.2.2.2.2.2.1
  have c12 : gL σ2 (A 11 q.toNat) = (List.range (fc D q.toNat).length).map (fun i => A 15 (2 * q.toNat + i)) := hPn.2.2.2.2.2.2.2.2.2.2.2.1
  have hszF := spec_sizeM (g := g) hl c11 c12
  rw [List.length_range] at hszF
  rw [hPn.2.2.2.2.2.2.1]
  refine ⟨hPn.1, c11, _, hszF, by unfold qR; omega, fun h2 r37 hz37 hr37 σ40 h40 => ?_, fun h2 => ?_⟩
  rotate_left
  · rw [cif_neg (fun z => by have := z.1; omega), cif_neg (fun z => by have := z.2.2.1; omega)]
    exact hsame (.inr 0)
  have hlt2 : (fc D q.toNat).length < 2 := by omega
  have hK40 : gK σ40 r37 = 3 := by rw [h40]; exact if_pos rfl
  refine ⟨_, spec_initF hl hr37 hK40, fun σ48 h48 => ?_⟩
  have x05 : ∀ x, gK σ2 x ≠ 0 → qSame σ2 σ48 x := by
    intro x' hx'
    have hne : x' ≠ r37 := fun z => hx' (by rw [z]; exact hz37)
    rw [h48, h40]
    refine ⟨if_neg hne, fun f => ?_, fun f => if_neg hne, fun _ => rfl, fun _ => rfl, rfl, rfl⟩
    show (if f = 82 ∧ x' = r37 then _ else if f = 81 ∧ x' = r37 then _ else if f = 80 ∧ x' = r37 then _ else if x' = r37 then 0 else gI σ2 f x') = _
    rw [if_neg (fun z => hne z.2), if_neg (fun z => hne z.2), if_neg (fun z => hne z.2), if_neg hne]
  have k1 : gK σ48 r37 = 3 := by rw [h48]; exact hK40
  have k2 : gI σ48 80 r37 = x ∧ gI σ48 81 r37 = y ∧ gI σ48 82 r37 = z := by
    rw [h48]
    refine ⟨?_, ?_, ?_⟩
    · simp [gI_sI]
    · simp [gI_sI]
    · simp [gI_sI]
  have hA1 := swA_inj (k := 15) (i := 2 * q.toNat + (fc D q.toNat).length) hA hr37
  have hag : ∀ k j, gK σ2 (A k j) ≠ 0 → ¬ (k = 15 ∧ j = 2 * q.toNat + (fc D q.toNat).length) → swA A 15 (2 * q.toNat + (fc D q.toNat).length) r37 k j = A k j := by
    intro k j hk hkj
    exact swA_ne (fun z => hk (by rw [z]; exact hz37)) hkj
  have hnew : swA A 15 (2 * q.toNat + (fc D q.toNat).length) r37 15 (2 * q.toNat + (fc D q.toNat).length) = r37 := swA_at
  have hagL : ∀ k j, gK σ2 (A k j) ≠ 0 → Liv D k j → swA A 15 (2 * q.toNat + (fc D q.toNat).length) r37 k j = A k j := fun k j hk hlv => hag k j hk (fun zz => by
    obtain ⟨q', j', e1, e2, e3⟩ := hlv.2.2.2 zz.1
    have hfl := (hw.1.2.2.2.2.1 q' e1).2.2.1.1.1
    have e4 := zz.2
    have : q' = q.toNat := by omega
    subst this
    omega)
  have hS48 := SR_ext x05 (SR_sw hw.1 hagL hS0)
  have hL48 : ∀ p, p < np D → LaR (swA A 15 (2 * q.toNat + (fc D q.toNat).length) r37) D σ48 p := fun p hp2 => LaR_ext hw.1 (SR_sw hw.1 hagL hS0) x05 hp2 (LaR_sw hw.1 hagL hS0 hp2 (CR_La h hw.1 hp2))
  have e00 : swA A 15 (2 * q.toNat + (fc D q.toNat).length) r37 0 0 = A 0 0 := hagL 0 0 (by have := h.1.1; omega) (liv (by decide) (by omega) (by omega) (by omega))
  have e6q : swA A 15 (2 * q.toNat + (fc D q.toNat).length) r37 6 q.toNat = A 6 q.toNat := hagL 6 _ (by have := hPn.1; omega) (liv (by decide) (by omega) (fun _ => hok.2.1) (by omega))
  have e11q : swA A 15 (2 * q.toNat + (fc D q.toNat).length) r37 11 q.toNat = A 11 q.toNat := hagL 11 _ (by rw [c11]; decide) (liv (by decide) (by omega) (fun _ => hok.2.1) (by omega))
  have hBA : ∀ x, gK σ2 x ≠ 0 → (∀ k i, k < 20 → x ≠ A k i) → ∀ k i, k < 20 → x ≠ swA A 15 (2 * q.toNat + (fc D q.toNat).length) r37 k i := by
    intro x' hx' hn
    exact swA_out (by decide) hn (fun z => hx' (by rw [z]; exact hz37))
  generalize hBB : swA A 15 (2 * q.toNat + (fc D q.toNat).length) r37 = B at *
  have hagB : ∀ k j, (20 ≤ k ∨ k = 0) → gK σ2 (A k j) ≠ 0 → B k j = A k j := fun k j hk hg => hag k j hg (fun z => by omega)
  have hP48 := (hS48.2.2.2.2.1 _ hok.2.1).1
  have d11 : gK σ48 (A 11 q.toNat) = 50 := by rw [← e11q]; exact hP48.2.2.2.2.2.2.2.2.2.2.1
  have d12 : gL σ48 (A 11 q.toNat) = (List.range (fc D q.toNat).length).map (fun i => B 15 (2 * q.toNat + i)) := by rw [← e11q]; exact hP48.2.2.2.2.2.2.2.2.2.2.2.1
  refine ⟨d11, _, spec_add hl d11 (by omega) (by rw [d12, List.length_map, List.length_range]; omega), fun σ56 v58 h56 => ?_⟩
  obtain ⟨-, h56⟩ := h56
  have h56' : σ56 = sL σ48 (B 11 q.toNat) ((List.range (fc D q.toNat ++ [(x, y, z)]).length).map (fun i => B 15 (2 * q.toNat + i))) := by
    rw [h56, d12, e11q, List.length_append, List.length_singleton, List.range_succ, List.map_append, List.map_cons, List.map_nil, hnew]
  have hw1 : WF0 (dFc D q.toNat (x, y, z)) := WF0_Fc hw.1 hlt2 hfo
  have hS56 : SR B (dFc D q.toNat (x, y, z)) σ56 := by
    refine SR_F hA1 hS48 h56' (fun i hi => ?_)
    rw [List.length_append, List.length_singleton] at hi
    by_cases c : i = (fc D q.toNat).length
    · subst c
      rw [hnew]
      have e : (fc D q.toNat ++ [(x, y, z)]).getD (fc D q.toNat).length (0, 0, 0) = (x, y, z) := by simp
      rw [e]
      exact ⟨k1, k2⟩
    · have hi2 : i < (fc D q.toNat).length := by omega
      have e : (fc D q.toNat ++ [(x, y, z)]).getD i (0, 0, 0) = (fc D q.toNat).getD i (0, 0, 0) := by
        rw [List.getD_eq_getElem?_getD, List.getD_eq_getElem?_getD, List.getElem?_append_left hi2]
      rw [e]
      exact hP48.2.2.2.2.2.2.2.2.2.2.2.2.2.2.2.2 i hi2
  have hI56 : gI σ56 = gI σ48 := by rw [h56]; rfl
  have hP56 := (hS56.2.2.2.2.1 _ hok.2.1).1
  have hpn1 : hp D q.toNat < np (dFc D q.toNat (x, y, z)) := hpn
  have f283 := hS56.1.2.2.2.2.1
  rw [e00] at f283
  have f201 : gP σ56 201 (A 6 q.toNat) = B 5 (hp D q.toNat) := by rw [← e6q]; exact hP56.2.2.1
  rw [f283, f201]
  have hfrm : qFrm A σ2 σ56 := by
    intro x' hx' hn
    refine qSame_tr (x05 x' hx') ?_
    rw [h56]
    exact ⟨rfl, fun _ => rfl, fun _ => rfl, fun _ => rfl, fun _ => rfl, if_neg (fun z => hn 11 _ (by omega) z), rfl⟩
  refine ⟨by rw [← e00]; exact hS56.1.1, by rw [← e6q]; exact hP56.1, hS56.2.1.1, _, spec_tryS hl hA1 hS56 hw1 hpn1, fun σ67 v69 h67 => ?_⟩
  obtain ⟨hc, hv⟩ := h67
  have hS67 := SR_chg hA1 (qChg_mono hc (fun fl x z => Or.inl (roW_tr z))) hS56
  have hP67 := (hS67.2.2.2.2.1 _ hok.2.1).1
  have hfr67 : qFrm A σ2 σ67 := by
    intro x' hx' hn
    have a := hfrm x' hx' hn
    exact qSame_tr a (frm_chg hc (fun f x z => roW_cls z) x' (by rw [a.1]; exact hx') (hBA x' hx' hn))
  have k6 : gK σ67 (A 6 q.toNat) = 6 := by rw [← e6q]; exact hP67.1
  rcases hv with ⟨rfl, hok1, hT⟩ | ⟨rfl, hno⟩
  · rw [cif_pos ⟨hlt2, hok1⟩, cif_pos ⟨hok, hfo, hlt2, hok1⟩]
    have g201 : gP σ67 201 (A 6 q.toNat) = B 5 (hp D q.toNat) := by rw [← e6q]; exact hP67.2.2.1
    rw [g201]
    have hBg : ∀ q', q' ∈ row D (hp D q.toNat) → BxR σ56 (B 13 q') (LB D q') := by
      intro q' hq'
      have := ((hL48 _ hpn).2 q' hq').2.1
      unfold BxR at this ⊢
      rw [hI56]; exact this
    refine ⟨by unfold qR; omega, fun _ => ⟨k6, (hS67.2.2.2.1 _ hpn1).1.1, _, spec_keepT hl hA1 hS56 hw1 hpn1 hc hok1 hT (fun q' hq' => La_Q hw hpn hq' (hBg q' hq')), fun σ79 v81 h79 => ?_⟩, fun z => by omega⟩
    obtain ⟨m1, m2, -⟩ := h79
    have hfin := keepT_post hA1 hS56 hw1 hpn1 hc (fun p' hp2 hne => ?_) m1 m2
    · obtain ⟨c1, c2, c3⟩ := hfin.1.2.2.2.2.1 q.toNat hok.2.1
      have c4 := (c3 hok.2.2).2
      have e207 : gP σ79 207 (A 6 q.toNat) = B 13 q.toNat := by rw [← e6q]; exact c1.2.2.2.2.2.2.2.2.1
      rw [e207]
      refine ⟨by rw [← e6q]; exact c1.1, c1.2.2.2.2.2.2.2.2.2.2.2.2.2.2.1, B, hA1, hagB, hfin.1, fun x' hx' hn => ?_, by rw [c4.2.2.2]; rfl⟩
      have a := hfrm x' hx' hn
      exact qSame_tr a (hfin.2 x' (by rw [a.1]; exact hx') (hBA x' hx' hn))
    · have hp2' : p' < np D := hp2
      have hh := hom hw.1 hp2'
      have hnr : q.toNat ∉ row D p' := fun z => hne ((hh _ z).1).symm
      exact LaR_of (WF0_Pg hw.1 hp2') (hL48 p' hp2') (LyEq_Fc hnr) (fun q' hq2 => ⟨(hh q' hq2).1, (hh q' hq2).1, fun b hb => ⟨(hh q' hq2).2 b hb, (hh q' hq2).2 b hb⟩⟩) (by rw [hI56]) (fun q' hq2 => ⟨by rw [hI56], fun f _ _ => by rw [hI56], fun b hb f _ _ => by rw [hI56]⟩)
  · rw [cif_neg (fun z => hno z.2), cif_neg (fun z => hno z.2.2.2)]
    have hfl : fc (dFc D q.toNat (x, y, z)) q.toNat = fc D q.toNat ++ [(x, y, z)] := by unfold dFc; rw [fc_at, if_pos rfl]
    have hdr := spec_dropF (g := g) hl hP67 (by rw [hfl, List.length_append, List.length_singleton]; omega) (by rw [hfl, List.length_append, List.length_singleton]; omega)
    rw [hfl, List.length_append, List.length_singleton, Nat.add_sub_cancel, e6q] at hdr
    refine ⟨by unfold qR; omega, fun z => absurd rfl z, fun _ => ⟨k6, _, hdr, fun σ90 h90 => ?_⟩⟩
    have hS90 : SR B D σ90 := by
      have := SR_F hA1 (xs := fc D q.toNat) hS67 h90 (fun i hi => by
        have := hP67.2.2.2.2.2.2.2.2.2.2.2.2.2.2.2.2 i (by rw [hfl, List.length_append, List.length_singleton]; omega)
        unfold FcR at this
        rw [hfl] at this
        have e : (fc D q.toNat ++ [(x, y, z)]).getD i (0, 0, 0) = (fc D q.toNat).getD i (0, 0, 0) := by
          rw [List.getD_eq_getElem?_getD, List.getD_eq_getElem?_getD, List.getElem?_append_left hi]
        rw [e] at this
        exact this)
      unfold dFc at this
      rw [dF_dF, dF_self] at this
      exact this
    have hI90 : gI σ90 = gI σ67 := by rw [h90]; rfl
    refine ⟨B, hA1, hagB, SR_CR hS90 hw.1 (fun p' hp2 => LaR_I (LaR_tr hA1 hw.1 hp2 (LaR_I (hL48 p' hp2) hI56) (qChg_mono hc (fun fl x z => roW_tr z))) hI90), ?_, rfl⟩
    intro x' hx' hn
    refine qSame_tr (hfr67 x' hx' hn) ?_
    rw [h90]
    exact ⟨rfl, fun _ => rfl, fun _ => rfl, fun _ => rfl, fun _ => rfl, if_neg (hBA x' hx' hn 11 q.toNat (by decide)), rfl⟩
end
