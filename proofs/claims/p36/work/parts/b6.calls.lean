/-! p36: where the law stands, and its calls of the class from there -/
def Lb (A : Nat → Nat → Nat) (D : qD) (σ : qS) (x pg mn fa of : Nat) : Prop := (A 0 0 = x ∧ A 31 0 = pg ∧ A 32 0 = mn ∧ A 33 0 = fa ∧ A 34 0 = of) ∧ qInj A ∧ CR A D σ ∧ WF D ∧ Sm D ∧ ∀ r, r = pg ∨ r = mn ∨ r = fa ∨ r = of → gK σ r = 20 ∧ gN σ r = 40
def sameR (σ σ' : qS) (pg mn fa of : Nat) : Prop := gA σ' pg = gA σ pg ∧ gA σ' mn = gA σ mn ∧ gA σ' fa = gA σ fa ∧ gA σ' of = gA σ of
section
variable {g : qG} {l : Launch} {A : Nat → Nat → Nat} {D : qD} {σ σ' : qS} {x pg mn fa of : Nat}
theorem Lb_x (h : Lb A D σ x pg mn fa of) : gK σ x = 8 := by rw [← h.1.1]; exact h.2.2.1.1.1
theorem Lb_ne (h : Lb A D σ x pg mn fa of) : pg ≠ mn ∧ pg ≠ fa ∧ pg ≠ of ∧ mn ≠ fa ∧ mn ≠ of ∧ fa ≠ of := by
  obtain ⟨⟨rfl, rfl, rfl, rfl, rfl⟩, hA, -⟩ := h
  refine ⟨?_, ?_, ?_, ?_, ?_, ?_⟩ <;> (intro z; rw [hA.1] at z; omega)
theorem gA_w {a : Nat} {i z : Int} : gA (sA σ a i z) a = fup (gA σ a) i z := by
  funext j
  show (if a = a ∧ j = i then z else gA σ a j) = if j = i then z else gA σ a j
  by_cases c : j = i
  · rw [if_pos ⟨rfl, c⟩, if_pos c]
  · rw [if_neg (fun y => c y.2), if_neg c]
theorem gA_w' {a b : Nat} {i z : Int} (h : b ≠ a) : gA (sA σ a i z) b = gA σ b := funext fun j => if_neg (fun y => h y.1)
theorem CR_w (hA : qInj A) {t : Nat} {i z : Int} (ht : 20 ≤ t) (h : CR A D σ) : CR A D (sA σ (A t 0) i z) := by
  obtain ⟨h1, ⟨y1, y2, y3, y4, y5, y6, y7, y8⟩, h3, h4, h5, h6⟩ := h
  refine ⟨h1, ⟨y1, y2, y3, y4, y5, fun t' ht' => ?_, y7, y8⟩, h3, h4, h5, h6⟩
  have e : gA (sA σ (A t 0) i z) (A 9 0) = gA σ (A 9 0) := gA_w' (fun y => by rw [hA.1] at y; omega)
  rw [e]
  exact y6 t' ht'
theorem Lb_w (h : Lb A D σ x pg mn fa of) {r : Nat} {i z : Int} (hr : r = pg ∨ r = mn ∨ r = fa ∨ r = of) : Lb A D (sA σ r i z) x pg mn fa of := by
  obtain ⟨⟨e0, e1, e2, e3, e4⟩, hA, hC, hw, hs', hR⟩ := h
  refine ⟨⟨e0, e1, e2, e3, e4⟩, hA, ?_, hw, hs', hR⟩
  rcases hr with rfl | rfl | rfl | rfl
  · rw [← e1]; exact CR_w hA (by decide) hC
  · rw [← e2]; exact CR_w hA (by decide) hC
  · rw [← e3]; exact CR_w hA (by decide) hC
  · rw [← e4]; exact CR_w hA (by decide) hC
theorem Lb_cg {D' : qD} (h : Lb A D σ x pg mn fa of) (hc : qCg A σ D' σ') (hw' : WF D') (hs' : Sm D') : ∃ A', Lb A' D' σ' x pg mn fa of ∧ sameR σ σ' pg mn fa of := by
  obtain ⟨⟨e0, e1, e2, e3, e4⟩, hA, hC, hw, -, hR⟩ := h
  obtain ⟨A', hA', hag, hC', hf⟩ := hc
  have key : ∀ t, 31 ≤ t → t ≤ 34 → (gK σ (A t 0) = 20 ∧ gN σ (A t 0) = 40) → A' t 0 = A t 0 ∧ gK σ' (A t 0) = 20 ∧ gN σ' (A t 0) = 40 ∧ gA σ' (A t 0) = gA σ (A t 0) := by
    intro t h1 h2 hk
    have z : gK σ (A t 0) ≠ 0 := by rw [hk.1]; decide
    have s := hf _ z (fun k' i hk' z => by rw [hA.1] at z; omega)
    exact ⟨hag t 0 (Or.inl (by omega)) z, by rw [s.1]; exact hk.1, by rw [s.2.2.2.2.2.2]; exact hk.2, funext s.2.2.2.1⟩
  have k1 := key 31 (by decide) (by decide) (by rw [e1]; exact hR _ (Or.inl rfl))
  have k2 := key 32 (by decide) (by decide) (by rw [e2]; exact hR _ (Or.inr (Or.inl rfl)))
  have k3 := key 33 (by decide) (by decide) (by rw [e3]; exact hR _ (Or.inr (Or.inr (Or.inl rfl))))
  have k4 := key 34 (by decide) (by decide) (by rw [e4]; exact hR _ (Or.inr (Or.inr (Or.inr rfl))))
  have z0 := hag 0 0 (Or.inr rfl) (by rw [hC.1.1]; decide)
  rw [e1] at k1
  rw [e2] at k2
  rw [e3] at k3
  rw [e4] at k4
  refine ⟨A', ⟨⟨z0.trans e0, k1.1, k2.1, k3.1, k4.1⟩, hA', hC', hw', hs', fun r hr => ?_⟩, k1.2.2.2, k2.2.2.2, k3.2.2.2, k4.2.2.2⟩
  rcases hr with rfl | rfl | rfl | rfl
  · exact ⟨k1.2.1, k1.2.2.1⟩
  · exact ⟨k2.2.1, k2.2.2.1⟩
  · exact ⟨k3.2.1, k3.2.2.1⟩
  · exact ⟨k4.2.1, k4.2.2.1⟩
/-- what a change leaves to the law -/
def Cg (D : qD) (σ : qS) (x pg mn fa of : Nat) (D' : qD) (σ' : qS) : Prop := ∃ A', Lb A' D' σ' x pg mn fa of ∧ sameR σ σ' pg mn fa of ∧ (kp D').length ≤ (kp D).length + 1
theorem lc_of (h : Lb A D σ x pg mn fa of) {M : qM} {As : List qV} {o : Int ⊕ Nat} {D' DX : qD} {w : Int} (hm : qMet g l M (vr (A 0 0) :: As) σ (qClP A σ o D')) (e1 : o = .inl w) (e2 : D' = DX) (hn : Nx D D') (hs' : Sm DX) : qMet g l M (vr x :: As) σ (qTi (fun σ' v => v = w ∧ Cg D σ x pg mn fa of DX σ') (fun _ _ => False)) := by
  rw [← h.1.1]
  subst e2
  refine qMet_mono (cc hm e1 rfl) (fun σ' r z => ?_)
  rcases z with ⟨v, r1, r2, r3⟩ | ⟨n, -, r2⟩
  · obtain ⟨A', a1, a2⟩ := Lb_cg h r3 hn.1 hs'
    exact Or.inl ⟨v, r1, r2, A', by rw [h.1.1]; exact a1, a2, hn.2⟩
  · exact r2.elim
theorem lc0_of (h : Lb A D σ x pg mn fa of) {M : qM} {As : List qV} {o : Int ⊕ Nat} {D' DX : qD} {w : Int} (hm : qMet g l M (vr (A 0 0) :: As) σ (qClP A σ o D')) (e1 : o = .inl w) (e2 : D' = DX) (hn : Nx D D') (hs' : Sm DX) : qMet g l M (vr x :: As) σ (qTi0 (fun σ' v => v = w ∧ Cg D σ x pg mn fa of DX σ')) := by
  rw [← h.1.1]
  subst e2
  refine qMet_mono (cc0 hm e1 rfl) (fun σ' r z => ?_)
  obtain ⟨v, r1, r2, r3⟩ := z
  obtain ⟨A', a1, a2⟩ := Lb_cg h r3 hn.1 hs'
  exact ⟨v, r1, r2, A', by rw [h.1.1]; exact a1, a2, hn.2⟩
theorem lv_of (h : Lb A D σ x pg mn fa of) {M : qM} {As : List qV} {o : Int ⊕ Nat} {D' DX : qD} {w : Int} (hm : qMet g l M (vr (A 0 0) :: As) σ (qClV A σ o D')) (e1 : o = .inl w) (e2 : D' = DX) (hn : Nx D D') (hs' : Sm DX) : qMet g l M (vr x :: As) σ (qTv (fun σ' => Cg D σ x pg mn fa of DX σ') (fun _ _ => False)) := by
  rw [← h.1.1]
  subst e2
  refine qMet_mono (cv hm e1 rfl) (fun σ' r z => ?_)
  rcases z with ⟨r1, r3⟩ | ⟨n, -, r2⟩
  · obtain ⟨A', a1, a2⟩ := Lb_cg h r3 hn.1 hs'
    exact Or.inl ⟨r1, A', by rw [h.1.1]; exact a1, a2, hn.2⟩
  · exact r2.elim
-- questions
theorem lq_pages (hl : l.stackTraces = false) (h : Lb A D σ x pg mn fa of) : qMet g l M_X7_pages [vr x] σ (qPi σ (np D)) := by
  rw [← h.1.1]; exact cq1 (spec_pages hl h.2.2.1) rfl
theorem lq_balloons (hl : l.stackTraces = false) (h : Lb A D σ x pg mn fa of) : qMet g l M_X7_balloons [vr x] σ (qPi σ (o_balloons D)) := by
  rw [← h.1.1]; exact cq1 (spec_balloons hl h.2.2.1 h.2.2.2.1.1) rfl
theorem lq_here (hl : l.stackTraces = false) (h : Lb A D σ x pg mn fa of) : qMet g l M_X7_here [vr x] σ (qPi σ (he D)) := by
  rw [← h.1.1]; exact cq1 (spec_here hl h.2.1 h.2.2.1 h.2.2.2.1.1) rfl
theorem Qp (h : Lb A D σ x pg mn fa of) {p : Nat} (hp' : p < np D) : qR (p : Int) := by
  have := h.2.2.2.1.1.1
  unfold qR; omega
theorem Qq (h : Lb A D σ x pg mn fa of) {q : Nat} (hq : alP D q) : qR (q : Int) := by
  have := h.2.2.2.1.1.1
  have := hq.1
  unfold qR; omega
theorem Qb (h : Lb A D σ x pg mn fa of) {b : Nat} (hb' : alB D b) : qR (b : Int) := by
  have := h.2.2.2.1.1.1
  have := hb'.1
  unfold qR; omega
theorem lq_panels (hl : l.stackTraces = false) (h : Lb A D σ x pg mn fa of) {p : Nat} (hp' : p < np D) : qMet g l M_X7_panels [vr x, vi (p : Int)] σ (qTi (fun σ' v => σ' = σ ∧ v = (pn D p : Int)) (fun _ _ => False)) := by
  rw [← h.1.1]; exact cq (spec_panels hl h.2.2.1 h.2.2.2.1.1 (Qp h hp')) (by unfold o_panels; rw [cif_pos (pgOk_c hp'), Int.toNat_natCast])
theorem lq_lies (hl : l.stackTraces = false) (h : Lb A D σ x pg mn fa of) {q : Nat} (hq : alP D q) {w : Int} (hw' : 0 ≤ w ∧ w ≤ 4) : qMet g l M_X7_lies [vr x, vi (q : Int), vi w] σ (qTi (fun σ' v => σ' = σ ∧ v = bxV (kq D q) (LB D q) w) (fun _ _ => False)) := by
  rw [← h.1.1]; exact cq (spec_lies hl h.2.2.1 h.2.2.2.1.1 (Qq h hq) (by unfold qR; omega)) (lies_at hq hw')
theorem lq_placeOf (hl : l.stackTraces = false) (h : Lb A D σ x pg mn fa of) {b : Nat} (hb' : alB D b) : qMet g l M_X7_placeOf [vr x, vi (b : Int)] σ (qTi (fun σ' v => σ' = σ ∧ v = cntB D (ky D b)) (fun _ _ => False)) := by
  rw [← h.1.1]; exact cq (spec_placeOf hl h.2.1 h.2.2.1 h.2.2.2.1.1 (Qb h hb')) (place_at hb')
theorem lq_depth (hl : l.stackTraces = false) (h : Lb A D σ x pg mn fa of) {b : Nat} (hb' : alB D b) : qMet g l M_X7_depth [vr x, vi (b : Int)] σ (qTi (fun σ' v => σ' = σ ∧ v = dpt D 80 (an D b)) (fun _ _ => False)) := by
  rw [← h.1.1]; exact cq (spec_depth hl h.2.1 h.2.2.1 h.2.2.2.1.1 (Qb h hb')) (depth_at hb')
theorem lq_isPage (hl : l.stackTraces = false) (h : Lb A D σ x pg mn fa of) {p : Nat} (hp' : p < np D) : qMet g l M_L_isPage [vr x, vi (p : Int)] σ (qTi (fun σ' v => σ' = σ ∧ v = 1) (fun _ _ => False)) := by
  rw [← h.1.1]; exact qMet_mono (spec_isPage hl h.2.1 h.2.2.1 h.2.2.2.1 hp') (fun σ' r z => Or.inl ⟨1, z.2, z.1, rfl⟩)
theorem lq_isBalloon (hl : l.stackTraces = false) (h : Lb A D σ x pg mn fa of) {b : Nat} (hb' : alB D b) : qMet g l M_L_isBalloon [vr x, vi (b : Int), vi (hb D b : Int)] σ (qTi (fun σ' v => σ' = σ ∧ v = 1) (fun _ _ => False)) := by
  rw [← h.1.1]; exact qMet_mono (spec_isBalloon hl h.2.1 h.2.2.1 h.2.2.2.1 hb') (fun σ' r z => Or.inl ⟨1, z.2, z.1, rfl⟩)
-- changes
theorem lc_page (hl : l.stackTraces = false) (h : Lb A D σ x pg mn fa of) (hn : np D < 5) : qMet g l M_X7_page [vr x] σ (qTi (fun σ' v => v = (np D : Int) ∧ Cg D σ x pg mn fa of (dPg D) σ') (fun _ _ => False)) := by
  have hw := h.2.2.2.1
  exact lc_of h (spec_page hl h.2.1 h.2.2.1 hw) (by unfold o_page; rw [cif_pos (by omega)]) (by unfold d_page; rw [cif_pos (by omega)]) (Nx_page hw) (Sm_Pg hw.1 h.2.2.2.2.1 hn)
theorem lc_panel (hl : l.stackTraces = false) (h : Lb A D σ x pg mn fa of) {p i : Nat} {w y z : Int} (hp' : p < np D) (hn : pn D p < 4) (hq : nq D < 40) (hi : i ≤ pn D p) (hv : (1 ≤ w ∧ w ≤ 9) ∧ (6 ≤ y ∧ y ≤ 24) ∧ 3 ≤ z ∧ z ≤ 12) : qMet g l M_X7_panel [vr x, vi (p : Int), vi (i : Int), vi w, vi y, vi z] σ (qTi (fun σ' v => v = (nq D : Int) ∧ Cg D σ x pg mn fa of (dNp D p i w y z) σ') (fun _ _ => False)) := by
  have hw := h.2.2.2.1
  have hS := h.2.2.2.2.1
  have hv' : pnOkV w y z := ⟨hv.1, ⟨by omega, hv.2.1.2⟩, hv.2.2⟩
  have hsm := Sm_Np hS (w := w) (x := y) (y := z) hn hq hi hv.2.1.1
  have hok : OKp (dNp D p i w y z) p := Sm_OK (WF0_Np hw.1 hp' (by omega) (by omega) hi hv') hsm (by rw [np_Np]; exact hp')
  exact lc_of h (spec_panel hl h.2.1 h.2.2.1 hw (Qp h hp') (by unfold qR; omega) (by unfold qR; omega) (by unfold qR; omega) (by unfold qR; omega)) (by
    unfold o_panel
    simp only [Int.toNat_natCast]
    rw [cif_pos ⟨pgOk_c hp', by omega, by omega⟩, cif_pos hv', cif_pos ⟨by omega, by omega, hok⟩]) (by
    unfold d_panel
    simp only [Int.toNat_natCast]
    rw [cif_pos ⟨⟨pgOk_c hp', by omega, by omega⟩, hv', by omega, by omega, hok⟩]) (Nx_panel hw) hsm
theorem lc_balloon (hl : l.stackTraces = false) (h : Lb A D σ x pg mn fa of) {q i : Nat} {v : Int} (hq : alP D q) (hl2 : (hs D q).length < 2) (hn : nb D < 40) (hi : i ≤ (hs D q).length) (hv : 1 ≤ v ∧ v ≤ 12) : qMet g l M_X7_balloon [vr x, vi (q : Int), vi (i : Int), vi v] σ (qTi (fun σ' r => r = (nb D : Int) ∧ Cg D σ x pg mn fa of (dNb D q i v) σ') (fun _ _ => False)) := by
  have hw := h.2.2.2.1
  have hsm := Sm_Nb h.2.2.2.2.1 (i := i) hl2 hn hv.2
  have hpn := (alP_home hw.1 hq).1
  have hok : OKp (dNb D q i v) (hp D q) := Sm_OK (WF0_Nb hw.1 hq (by omega) (by omega) hi (by omega)) hsm (by rw [np_Nb]; exact hpn)
  exact lc_of h (spec_balloon hl h.2.1 h.2.2.1 hw (Qq h hq) (by unfold qR; omega) (by unfold qR; omega)) (by
    unfold o_balloon
    simp only [Int.toNat_natCast]
    rw [cif_pos ⟨pnOk_c hq, by omega, by omega⟩, cif_pos (by omega), cif_pos ⟨by omega, by omega, hok⟩]) (by
    unfold d_balloon
    simp only [Int.toNat_natCast]
    rw [cif_pos ⟨⟨pnOk_c hq, by omega, by omega⟩, by omega, by omega, by omega, hok⟩]) (Nx_balloon hw) hsm
theorem lc_face (hl : l.stackTraces = false) (h : Lb A D σ x pg mn fa of) {q : Nat} {u v w : Int} (hq : alP D q) (hl2 : (fc D q).length < 2) (hu : 0 ≤ u ∧ u ≤ 23) (hv : 1 ≤ v ∧ v ≤ 24) (hw2 : 1 ≤ w ∧ w ≤ 2) : qMet g l M_X7_face [vr x, vi (q : Int), vi u, vi v, vi w] σ (qTi (fun σ' r => r = (LB (dFc D q (u, v, w)) q).2.2.2 ∧ Cg D σ x pg mn fa of (dFc D q (u, v, w)) σ') (fun _ _ => False)) := by
  have hw := h.2.2.2.1
  have hf : fcOk (u, v, w) := ⟨hu, hv, hw2.1, by show w ≤ 8; omega⟩
  have hsm := Sm_Fc h.2.2.2.2.1 (q := q) (f := (u, v, w)) hw2.2
  have hpn := (alP_home hw.1 hq).1
  have hok : OKp (dFc D q (u, v, w)) (hp D q) := Sm_OK (WF0_Fc hw.1 hl2 hf) hsm hpn
  exact lc_of h (spec_face hl h.2.1 h.2.2.1 hw (Qq h hq) (by unfold qR; omega) (by unfold qR; omega) (by unfold qR; omega)) (by
    unfold o_face
    simp only [Int.toNat_natCast]
    rw [cif_neg (fun z => z (pnOk_c hq)), cif_pos hf, cif_pos ⟨hl2, hok⟩]) (by
    unfold d_face
    simp only [Int.toNat_natCast]
    rw [cif_pos ⟨pnOk_c hq, hf, hl2, hok⟩]) (Nx_face hw) hsm
theorem lc_movePanel (hl : l.stackTraces = false) (h : Lb A D σ x pg mn fa of) (hno : NoA D) {q i : Nat} (hq : alP D q) (hi : i < pn D (hp D q)) : qMet g l M_X7_movePanel [vr x, vi (q : Int), vi (i : Int)] σ (qTi (fun σ' r => (r = chg D (dMv D q i) (hp D q)) ∧ Cg D σ x pg mn fa of (dMv D q i) σ') (fun _ _ => False)) := by
  have hw := h.2.2.2.1
  obtain ⟨hpn, hmq⟩ := alP_home hw.1 hq
  obtain ⟨g1, g2, g3, g4⟩ := hw.1.2.1 _ hpn
  have hpl : pn D (hp D q) = (row D (hp D q)).length := rfl
  obtain ⟨m1, m2, m3⟩ := mv_sp (i := i) g2 hmq (by omega)
  have hsm : Sm (dMv D q i) := Sm_row h.2.2.2.2.1 (by rw [m2]; exact h.2.2.2.2.1.2.2.2.1 _ hpn)
  have hok : OKp (dMv D q i) (hp D q) := Sm_OK (WF0_row hw.1 hpn m1 (by rw [m2]; exact g3) m3) hsm hpn
  have han : Ans (dMv D q i) := Ans_No (D := dMv D q i) hno
  exact lc_of h (spec_movePanel hl h.2.1 h.2.2.1 hw (Qq h hq) (by unfold qR; omega)) (by
    unfold o_movePanel
    simp only [Int.toNat_natCast]
    rw [cif_pos ⟨pnOk_c hq, by omega, by omega⟩, cif_pos ⟨hok, han⟩]) (by
    unfold d_movePanel
    simp only [Int.toNat_natCast]
    rw [cif_pos ⟨⟨pnOk_c hq, by omega, by omega⟩, hok, han⟩]) (Nx_movePanel hw) hsm
theorem lc_moveBalloon (hl : l.stackTraces = false) (h : Lb A D σ x pg mn fa of) (hno : NoA D) {b q i : Nat} (hb' : alB D b) (hq : alP D q) (hne : q ≠ hb D b) (hl2 : (hs D q).length < 2) (hi : i ≤ (hs D q).length) : qMet g l M_X7_moveBalloon [vr x, vi (b : Int), vi (q : Int), vi (i : Int)] σ (qTv (fun σ' => Cg D σ x pg mn fa of (dMb D b q i) σ') (fun _ _ => False)) := by
  have hw := h.2.2.2.1
  obtain ⟨hal, hm⟩ := alB_home hw.1 hb'
  have hsm := Sm_Mb hw.1 h.2.2.2.2.1 (i := i) hb' hne hl2
  have et : toB D b q = hs D q := if_neg hne
  have hw1 : WF0 (dMb D b q i) := WF0_Mb hw.1 hb' hq (by rw [et]; exact hi) (by rw [et]; omega)
  have o1 : OKp (dMb D b q i) (hp D (hb D b)) := Sm_OK hw1 hsm (alP_home hw.1 hal).1
  have o2 : OKp (dMb D b q i) (hp D q) := Sm_OK hw1 hsm (alP_home hw.1 hq).1
  have han : Ans (dMb D b q i) := Ans_No (D := dMb D b q i) (NoA_Mb hno)
  have hpl : mbPl D (b : Int) (q : Int) (i : Int) := by
    unfold mbPl
    simp only [Int.toNat_natCast]
    rw [if_neg hne]
    omega
  have hst : mbSt D b q i := ⟨fun z => by omega, o1, o2, han⟩
  exact lv_of h (spec_moveBalloon hl h.2.1 h.2.2.1 hw (Qb h hb') (Qq h hq) (by unfold qR; omega)) (by
    unfold o_moveBalloon
    simp only [Int.toNat_natCast]
    rw [cif_pos ⟨blOk_c hb', pnOk_c hq, hpl⟩, cif_pos hst]) (by
    unfold d_moveBalloon
    simp only [Int.toNat_natCast]
    rw [cif_pos ⟨⟨blOk_c hb', pnOk_c hq, hpl⟩, hst⟩]) (Nx_moveBalloon hw) hsm
theorem lc_answer (hl : l.stackTraces = false) (h : Lb A D σ x pg mn fa of) {b o : Nat} (hb' : alB D b) (ho : alB D o) (hlt : ky D o < ky D b) : qMet g l M_X7_answer [vr x, vi (b : Int), vi (o : Int)] σ (qTi (fun σ' r => r = an D b ∧ Cg D σ x pg mn fa of (dAn D b o) σ') (fun _ _ => False)) := by
  have hw := h.2.2.2.1
  exact lc_of h (spec_answer hl h.2.1 h.2.2.1 hw.1 (Qb h hb') (Qb h ho)) (by
    unfold o_answer
    simp only [Int.toNat_natCast]
    rw [cif_neg (fun z => z.elim (fun y => y (blOk_c hb')) (fun y => y.2 (blOk_c ho))), cif_neg (fun z => z.2 hlt)]) (by
    unfold d_answer
    simp only [Int.toNat_natCast]
    rw [cif_neg (fun z => z.elim (fun y => y.elim (fun y => y (blOk_c hb')) (fun y => y.2 (blOk_c ho))) (fun y => y.2 hlt))]) (Nx_answer hw) (Sm_an h.2.2.2.2.1)
theorem lc_cutBalloon (hl : l.stackTraces = false) (h : Lb A D σ x pg mn fa of) (hno : NoA D) {b : Nat} (hb' : alB D b) : qMet g l M_X7_cutBalloon [vr x, vi (b : Int)] σ (qTi (fun σ' r => r = (hb D b : Int) ∧ Cg D σ x pg mn fa of (dCb D b) σ') (fun _ _ => False)) := by
  have hw := h.2.2.2.1
  obtain ⟨hal, hm⟩ := alB_home hw.1 hb'
  have hna : ¬ isAn D b := by
    rintro ⟨c, hc, e⟩
    rw [hno c hc] at e
    omega
  have hsm := Sm_Cb hw.1 h.2.2.2.2.1 hb'
  have hok : OKp (dCb D b) (hp D (hb D b)) := Sm_OK (WF0_Cb hw.1 hb' hna) hsm (alP_home hw.1 hal).1
  exact lc_of h (spec_cutBalloon hl h.2.1 h.2.2.1 hw (Qb h hb')) (by
    unfold o_cutBalloon
    simp only [Int.toNat_natCast]
    rw [cif_neg (fun z => z (blOk_c hb')), cif_neg hna, cif_pos hok]) (by
    unfold d_cutBalloon
    simp only [Int.toNat_natCast]
    rw [cif_pos ⟨blOk_c hb', hna, hok⟩]) (Nx_cutBalloon hw) hsm
theorem lc_cutPanel (hl : l.stackTraces = false) (h : Lb A D σ x pg mn fa of) (hno : NoA D) (hk : (kp D).length ≤ 512) {q : Nat} (hq : alP D q) (h0 : hs D q = []) : qMet g l M_X7_cutPanel [vr x, vi (q : Int)] σ (qTi (fun σ' r => r = 0 ∧ Cg D σ x pg mn fa of (dCp D q) σ') (fun _ _ => False)) := by
  have hw := h.2.2.2.1
  have hna : ¬ isAnE D q := by
    rintro ⟨c, hc, -, e, -⟩
    exact e (hno c hc)
  have hsm := Sm_Cp h.2.2.2.2.1 (q := q)
  have hok : OKp (dCp D q) (hp D q) := Sm_OK (WF0_Cp hw.1 hq hna) hsm (alP_home hw.1 hq).1
  exact lc_of h (spec_cutPanel hl h.2.1 h.2.2.1 hw hk (Qq h hq)) (by
    unfold o_cutPanel
    simp only [Int.toNat_natCast]
    rw [cif_neg (fun z => z (pnOk_c hq)), cif_neg hna, cif_pos hok, h0]; rfl) (by
    unfold d_cutPanel
    simp only [Int.toNat_natCast]
    rw [cif_pos ⟨pnOk_c hq, hna, hok⟩]) (Nx_cutPanel hw) hsm
theorem lc_translate (hl : l.stackTraces = false) (h : Lb A D σ x pg mn fa of) {p : Nat} {t : Int} (hp' : p < np D) (ht : 0 ≤ t ∧ t ≤ 2) : qMet g l M_X7_translate [vr x, vi (p : Int), vi t] σ (qTi (fun σ' r => r = chg D (dTg D p t) p ∧ Cg D σ x pg mn fa of (dTg D p t) σ') (fun _ _ => False)) := by
  have hw := h.2.2.2.1
  have hsm : Sm (dTg D p t) := Sm_tg h.2.2.2.2.1
  have hok : OKp (dTg D p t) p := Sm_OK (WF0_tg hw.1 hp' ht) hsm hp'
  exact lc_of h (spec_translate hl h.2.1 h.2.2.1 hw (Qp h hp') (by unfold qR; omega)) (by
    unfold o_translate
    simp only [Int.toNat_natCast]
    rw [cif_neg (fun z => z (pgOk_c hp')), cif_pos ht, cif_pos hok]) (by
    unfold d_translate
    simp only [Int.toNat_natCast]
    rw [cif_pos ⟨pgOk_c hp', ht, hok⟩]) (Nx_translate hw) hsm
theorem lc_setGrowth (hl : l.stackTraces = false) (h : Lb A D σ x pg mn fa of) {t v : Int} (ht : 0 ≤ t ∧ t ≤ 2) (hv : 50 ≤ v ∧ v ≤ 250) : qMet g l M_X7_setGrowth [vr x, vi t, vi v] σ (qTi (fun σ' r => r = sm (chg D (dGr D t.toNat v)) (np D) ∧ Cg D σ x pg mn fa of (dGr D t.toNat v) σ') (fun _ _ => False)) := by
  have hw := h.2.2.2.1
  have hsm : Sm (dGr D t.toNat v) := Sm_gr h.2.2.2.2.1
  have hok : ∀ p, p < np D → OKp (dGr D t.toNat v) p := fun p hp' => Sm_OK (WF0_gr hw.1 hv) hsm hp'
  exact lc_of h (spec_setGrowth hl h.2.1 h.2.2.1 hw (by unfold qR; omega) (by unfold qR; omega)) (by
    unfold o_setGrowth
    rw [cif_pos ⟨ht, hv⟩, cif_pos hok]) (by
    unfold d_setGrowth
    rw [cif_pos ⟨⟨ht, hv⟩, hok⟩]) (Nx_setGrowth hw) hsm
theorem lc_open (hl : l.stackTraces = false) (h : Lb A D σ x pg mn fa of) : qMet g l M_X7_open [vr x] σ (qTi0 (fun σ' r => r = nxt D (-1) ∧ Cg D σ x pg mn fa of (d_open D) σ')) :=
  lc0_of h (spec_open hl h.2.1 h.2.2.1 h.2.2.2.1.1) rfl rfl (Nx_open h.2.2.2.1) (Sm_rd h.2.2.2.2.1)
theorem Sm_forth (h : Sm D) : Sm (d_forth D) := by
  unfold d_forth dGo
  split
  · exact h
  · split <;> exact Sm_rd h
theorem Sm_back (h : Sm D) : Sm (d_back D) := by
  unfold d_back
  split
  · exact h
  · exact Sm_rd h
theorem lc_forth (hl : l.stackTraces = false) (h : Lb A D σ x pg mn fa of) (hk : (kp D).length < 512) : qMet g l M_X7_forth [vr x] σ (qTi0 (fun σ' r => r = o_forth D ∧ Cg D σ x pg mn fa of (d_forth D) σ')) :=
  lc0_of h (spec_forth hl h.2.1 h.2.2.1 h.2.2.2.1.1 hk) rfl rfl (Nx_forth h.2.2.2.1) (Sm_forth h.2.2.2.2.1)
theorem lc_back (hl : l.stackTraces = false) (h : Lb A D σ x pg mn fa of) (hk : (kp D).length ≤ 512) : qMet g l M_X7_back [vr x] σ (qTi0 (fun σ' r => r = o_back D ∧ Cg D σ x pg mn fa of (d_back D) σ')) :=
  lc0_of h (spec_back hl h.2.1 h.2.2.1 h.2.2.2.1.1 hk) rfl rfl (Nx_back h.2.2.2.1) (Sm_back h.2.2.2.2.1)
end
