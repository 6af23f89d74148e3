/-! the book stays well formed -/
def Nx (D D1 : qD) : Prop := WF D1 ∧ (kp D1).length ≤ (kp D).length + 1
section
variable {D D1 : qD}
theorem Nx_cif {P : Prop} (hw : WF D) (h : P → Nx D D1) : Nx D (cif P D1 D) := by
  by_cases c : P
  · rw [cif_pos c]; exact h c
  · rw [cif_neg c]; exact ⟨hw, Nat.le_succ _⟩
theorem Nx_rd (hw : WF D) {ks : List Nat} {v : Int} (hk : ∀ x, x ∈ ks → alP D x) (hv : v = -1 ∨ (0 ≤ v ∧ alP D v.toNat)) (hl : ks.length ≤ (kp D).length + 1) : Nx D (dRd D ks v) := by
  obtain ⟨⟨w1, w2, w3, w4, w5, w6, w7, w8, w9⟩, ho, ha⟩ := hw
  have hw0 : WF0 D := ⟨w1, w2, w3, w4, w5, w6, w7, w8, w9⟩
  exact ⟨⟨⟨w1, w2, w3, w4, w5, w6, hv, hk, w9⟩, fun p hp' => (LyEq_OK (WF0_Pg hw0 (p := p) hp') LyEq_rd).mpr (ho p hp'), ha⟩, hl⟩
theorem he_al (hw : WF D) : he D = -1 ∨ (0 ≤ he D ∧ alP D (he D).toNat) := hw.1.2.2.2.2.2.2.1
theorem kp_al (hw : WF D) : ∀ x, x ∈ kp D → alP D x := hw.1.2.2.2.2.2.2.2.1
theorem Nx_go (hw : WF D) {q : Nat} (hq : alP D q) : Nx D (dGo D q) := by
  unfold dGo
  have hv : (q : Int) = -1 ∨ (0 ≤ (q : Int) ∧ alP D (q : Int).toNat) := Or.inr ⟨by omega, by rw [Int.toNat_natCast]; exact hq⟩
  by_cases c : he D = -1
  · rw [if_pos c]
    exact Nx_rd hw (kp_al hw) hv (Nat.le_succ _)
  · rw [if_neg c]
    refine Nx_rd hw (fun x hx => ?_) hv (by rw [List.length_append, List.length_singleton]; exact Nat.le_refl _)
    rcases List.mem_append.mp hx with z | z
    · exact kp_al hw x z
    · rw [List.mem_singleton.mp z]
      exact ((he_al hw).resolve_left c).2
theorem Nx_open (hw : WF D) : Nx D (d_open D) := Nx_rd hw (fun x hx => absurd hx List.not_mem_nil) (nxt_al (-1)) (Nat.zero_le _)
theorem Nx_forth (hw : WF D) : Nx D (d_forth D) := by
  unfold d_forth
  by_cases c : he D = -1 ∨ nxt D (he D) = -1
  · rw [if_pos c]; exact ⟨hw, Nat.le_succ _⟩
  · rw [if_neg c]
    exact Nx_go hw ((nxt_al (he D)).resolve_left (fun z => c (Or.inr z))).2
theorem Nx_jump (hw : WF D) {q : Int} : Nx D (d_jump D q) := Nx_cif hw (fun h => Nx_go hw h.2)
theorem Nx_back (hw : WF D) : Nx D (d_back D) := by
  unfold d_back
  by_cases c : (kp D).length = 0
  · rw [if_pos c]; exact ⟨hw, Nat.le_succ _⟩
  · rw [if_neg c]
    refine Nx_rd hw (fun x hx => kp_al hw x (List.mem_of_mem_take hx)) (Or.inr ⟨by omega, ?_⟩) (by rw [List.length_take]; omega)
    rw [Int.toNat_natCast]
    refine kp_al hw _ ?_
    unfold lastK
    have hl : (kp D).length - 1 < (kp D).length := by omega
    rw [List.getD_eq_getElem?_getD, List.getElem?_eq_getElem hl]
    exact List.getElem_mem _
theorem Nx_of (hw : WF D) (h0 : WF0 D1) (ho : ∀ p, p < np D1 → OKp D1 p) (ha : Ans D1) (hk : kp D1 = kp D) : Nx D D1 := ⟨⟨h0, ho, ha⟩, by rw [hk]; exact Nat.le_succ _⟩
theorem Nx_page (hw : WF D) : Nx D (d_page D) := Nx_cif hw (fun h => by
  refine Nx_of hw (WF0_Pgn hw.1 h) (fun p hp' => ?_) hw.2.2 rfl
  rw [np_Pg] at hp'
  by_cases c : p = np D
  · intro k hk
    have z := (hw.1.2.2.1 p (by omega)).2.2
    have : pn (dPg D) p = 0 := by show (row D p).length = 0; rw [z]; rfl
    omega
  · have h2 : p < np D := by omega
    exact (LyEq_OK (WF0_Pg hw.1 h2) LyEq_Pg).mpr (hw.2.1 p h2))
theorem Nx_translate (hw : WF D) {p t : Int} : Nx D (d_translate D p t) := Nx_cif hw (fun h => by
  obtain ⟨hok, ht, hO⟩ := h
  have hp2 : p.toNat < np D := by have := hok.1; have := hok.2; omega
  exact Nx_of hw (WF0_tg hw.1 hp2 ht) ((OK_one (D1 := dTg D p.toNat t) hw rfl hp2 (fun p' _ hne => LyEq_tg hne)).mpr hO) hw.2.2 rfl)
theorem Nx_setGrowth (hw : WF D) {t v : Int} : Nx D (d_setGrowth D t v) := Nx_cif hw (fun h => Nx_of hw (WF0_gr hw.1 h.1.2) h.2 hw.2.2 rfl)
theorem Nx_movePanel (hw : WF D) {q i : Int} : Nx D (d_movePanel D q i) := Nx_cif hw (fun h => by
  obtain ⟨⟨hok, hi⟩, hO, ha⟩ := h
  obtain ⟨hpn, hmq⟩ := alP_home hw.1 hok.2
  obtain ⟨g1, g2, g3, g4⟩ := hw.1.2.1 _ hpn
  have hpl : pn D (hp D q.toNat) = (row D (hp D q.toNat)).length := rfl
  obtain ⟨m1, m2, m3⟩ := mv_sp (i := i.toNat) g2 hmq (by omega)
  exact Nx_of hw (WF0_row hw.1 hpn m1 (by rw [m2]; exact g3) m3) ((OK_one (D1 := dMv D q.toNat i.toNat) hw rfl hpn (fun p' _ hne => LyEq_row hne)).mpr hO) ha rfl)
theorem Nx_cutBalloon (hw : WF D) {b : Int} : Nx D (d_cutBalloon D b) := Nx_cif hw (fun h => by
  obtain ⟨hok, hna, hO⟩ := h
  obtain ⟨hal, hm⟩ := alB_home hw.1 hok.2
  obtain ⟨hpn, hmq⟩ := alP_home hw.1 hal
  have hw1 := WF0_Cb hw.1 hok.2 hna
  exact Nx_of hw hw1 ((OK_one (D1 := dCb D b.toNat) hw rfl hpn (fun p' hp2 hne => LyEq_hs (fun z => hne (((hom hw.1 hp2) _ z).1).symm))).mpr hO) (Ans_Cb hw hok.2 hw1) rfl)
theorem Nx_balloon (hw : WF D) {q i v : Int} : Nx D (d_balloon D q i v) := Nx_cif hw (fun h => by
  obtain ⟨⟨hok, hi⟩, hv, hl, hn, hO⟩ := h
  obtain ⟨hpn, hmq⟩ := alP_home hw.1 hok.2
  have hw1 := WF0_Nb hw.1 hok.2 hl hn (i := i.toNat) (by omega) hv
  exact Nx_of hw hw1 ((OK_one (D1 := dNb D q.toNat i.toNat v) hw np_Nb hpn (fun p' hp2 hne => LyEq_Nb hw.1 hp2 (fun z => hne (((hom hw.1 hp2) _ z).1).symm))).mpr hO) (Ans_Nb hw hw1) rfl)
theorem Nx_face (hw : WF D) {q x y z : Int} : Nx D (d_face D q x y z) := Nx_cif hw (fun h => by
  obtain ⟨hok, hf, hl, hO⟩ := h
  obtain ⟨hpn, hmq⟩ := alP_home hw.1 hok.2
  exact Nx_of hw (WF0_Fc hw.1 hl hf) ((OK_one (D1 := dFc D q.toNat (x, y, z)) hw rfl hpn (fun p' hp2 hne => LyEq_Fc (fun z => hne (((hom hw.1 hp2) _ z).1).symm))).mpr hO) hw.2.2 rfl)
theorem Nx_panel (hw : WF D) {p i w x y : Int} : Nx D (d_panel D p i w x y) := Nx_cif hw (fun h => by
  obtain ⟨⟨hok, hi⟩, hv, hl, hn, hO⟩ := h
  have hp2 : p.toNat < np D := by have := hok.1; have := hok.2; omega
  have hw1 := WF0_Np hw.1 hp2 hl hn (i := i.toNat) (by omega) hv
  exact Nx_of hw hw1 ((OK_one (D1 := dNp D p.toNat i.toNat w x y) hw np_Np hp2 (fun p' hp3 hne => LyEq_Np hw.1 hp3 hne)).mpr hO) (Ans_Np hw hw1) rfl)
theorem Nx_cutPanel (hw : WF D) {q : Int} : Nx D (d_cutPanel D q) := Nx_cif hw (fun h => by
  obtain ⟨hok, hna, hO⟩ := h
  obtain ⟨hpn, hmq⟩ := alP_home hw.1 hok.2
  have hw1 := WF0_Cp hw.1 hok.2 hna
  refine ⟨⟨hw1, (OK_one (D1 := dCp D q.toNat) hw rfl hpn (fun p' hp2 hne => LyEq_Cp hne)).mpr hO, Ans_Cp hw hw1⟩, ?_⟩
  have : (kpC D q.toNat).length ≤ (kp D).length := List.length_filter_le _ _
  rw [kp_Cp]
  omega)
theorem Nx_moveBalloon (hw : WF D) {b q i : Int} : Nx D (d_moveBalloon D b q i) := Nx_cif hw (fun h => by
  obtain ⟨⟨hokb, hokq, hpl⟩, hst⟩ := h
  obtain ⟨hal, hm⟩ := alB_home hw.1 hokb.2
  have hz0 : (0 ≤ i ∧ i ≤ ((hs D q.toNat).length : Int) - (if q.toNat = hb D b.toNat then 1 else 0)) := hpl
  have hl4' := hs_len4 hw.1 hal.1
  have hl4 := hs_len4 hw.1 hokq.2.1
  have htl : (toB D b.toNat q.toNat).length < 4 ∧ i.toNat ≤ (toB D b.toNat q.toNat).length := by
    have hel := ers_len hm
    have hix := ix_lt hm
    unfold toB erB
    by_cases e : q.toNat = hb D b.toNat
    · rw [if_pos e] at hz0 ⊢
      rw [e] at hz0
      rw [hel]; omega
    · rw [if_neg e] at hz0 ⊢
      have h1 : ¬ (q.toNat ≠ hb D b.toNat ∧ 4 ≤ (hs D q.toNat).length) := hst.1
      have : ¬ 4 ≤ (hs D q.toNat).length := fun y => h1 ⟨e, y⟩
      exact ⟨by omega, by omega⟩
  exact Nx_of hw (WF0_Mb hw.1 hokb.2 hokq.2 htl.2 htl.1) (OK_Mb hw hokb.2 hokq.2 hst.2.1 hst.2.2.1) hst.2.2.2 rfl)
theorem Nx_answer (hw : WF D) {b o : Int} : Nx D (d_answer D b o) := by
  unfold d_answer
  by_cases c : (¬ blOk D b ∨ (o ≠ -1 ∧ ¬ blOk D o)) ∨ (o ≠ -1 ∧ ¬ ky D o.toNat < ky D b.toNat)
  · rw [cif_pos c]; exact ⟨hw, Nat.le_succ _⟩
  rw [cif_neg c]
  have hb' : blOk D b := by
    by_cases y : blOk D b
    · exact y
    · exact absurd (Or.inl (Or.inl y)) c
  have ho : o ≠ -1 → blOk D o ∧ ky D o.toNat < ky D b.toNat := fun hv => by
    by_cases y : blOk D o
    · by_cases z : ky D o.toNat < ky D b.toNat
      · exact ⟨y, z⟩
      · exact absurd (Or.inr ⟨hv, z⟩) c
    · exact absurd (Or.inl (Or.inr ⟨hv, y⟩)) c
  have hw0 := hw.1
  obtain ⟨w1, w2, w3, w4, w5, w6, w7, w8, w9⟩ := hw0
  refine Nx_of hw ⟨w1, w2, w3, w4, w5, fun b' hb2 => ?_, w7, w8, w9⟩ (fun p hp' => (LyEq_OK (WF0_Pg hw.1 (p := p) hp') LyEq_an).mpr (hw.2.1 p hp')) (fun b' hb2 hv => ?_) rfl
  · obtain ⟨a1, a2, a3, a4, a5, a6⟩ := w6 b' hb2
    unfold BlS
    rw [an_at]
    refine ⟨a1, a2, a3, a4, ?_, fun hg hv => ?_⟩
    · by_cases e : b' = b.toNat
      · rw [if_pos e]
        by_cases hv : o = -1
        · exact Or.inl hv
        · exact Or.inr ⟨(ho hv).1.1, (ho hv).1.2.1⟩
      · rw [if_neg e]; exact a5
    · by_cases e : b' = b.toNat
      · rw [if_pos e] at hv ⊢
        exact (ho hv).1.2.2
      · rw [if_neg e] at hv ⊢
        exact a6 hg hv
  · rw [an_at] at hv ⊢
    by_cases e : b' = b.toNat
    · rw [if_pos e] at hv ⊢
      rw [e]
      exact (ho hv).2
    · rw [if_neg e] at hv ⊢
      exact hw.2.2 b' hb2 hv
theorem Nx_spread (hw : WF D) {p : Int} : Nx D (d_spread D p) := Nx_cif hw (fun h => by
  by_cases c : spN D p
  · rw [cif_pos c]; exact ⟨hw, Nat.le_succ _⟩
  rw [cif_neg c]
  have hp2 : p.toNat < np D := by omega
  have hw0 := hw.1
  obtain ⟨w1, w2, w3, w4, w5, w6, w7, w8, w9⟩ := hw0
  have hc1 : 0 < p → sp D (p.toNat - 1) ≠ 1 := fun h1 h2 => c (Or.inl ⟨h1, h2⟩)
  have hc2 : sp D (p.toNat + 1) ≠ 1 := fun h2 => c (Or.inr h2)
  refine Nx_of hw ⟨w1, w2, fun p' h' => ?_, w4, w5, w6, w7, w8, fun p' h' => ?_⟩ (fun p hp' => (LyEq_OK (WF0_Pg hw.1 (p := p) hp') LyEq_sp).mpr (hw.2.1 p hp')) hw.2.2 rfl
  · obtain ⟨z1, z2, z3⟩ := w3 p' h'
    refine ⟨z1, ?_, z3⟩
    have h2 : np D ≤ p' := h'
    rw [sp_at, if_neg (by omega)]
    exact z2
  · have h2 : p' < np D := h'
    obtain ⟨s1, s2⟩ := w9 p' h2
    unfold SpS
    rw [sp_at, sp_at]
    by_cases e : p' = p.toNat
    · have hs1 := w9 p.toNat hp2
      rw [if_pos e, if_neg (by omega), e]
      refine ⟨by rcases hs1.1 with y | y <;> omega, fun hv => ⟨show p.toNat + 1 < np D by omega, ?_⟩⟩
      have := (w9 (p.toNat + 1) (by omega)).1
      omega
    · rw [if_neg e]
      refine ⟨s1, fun hv => ?_⟩
      obtain ⟨y1, y2⟩ := s2 hv
      refine ⟨y1, ?_⟩
      rw [if_neg (fun z => by
        have := hc1 (by omega)
        rw [show p.toNat - 1 = p' by omega] at this
        exact this hv)]
      exact y2)
end
