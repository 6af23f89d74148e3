/-! p36: a turn's work, case by case -/
def Lw (A : Nat → Nat → Nat) (D : qD) (σ : qS) (x pg mn fa of : Nat) (nP nB aN : Int) (K : Nat) : Prop := Lb A D σ x pg mn fa of ∧ Ct D (gA σ pg) (gA σ mn) (gA σ fa) (gA σ of) ∧ nP = (nq D : Int) ∧ nB = (nb D : Int) ∧ (0 ≤ aN ∧ aN ≤ (K : Int)) ∧ (aN = 0 → NoA D) ∧ (kp D).length ≤ K
abbrev lT (sc x pg mn fa of : Nat) (nP nB aN tn w : Int) : List (Option qV) := [some (vr sc), some (vr x), some (vr pg), some (vr mn), some (vr fa), some (vr of), some (vi nP), some (vi nB), some (vi aN), some (vi tn), none, some (vi w), none, none, none, none, none, some (vi 1), none, none]
abbrev l3 (sc x pg mn fa of : Nat) (nP nB aN tn v w wh p b it iu : Int) : List (Option qV) := [some (vr sc), some (vr x), some (vr pg), some (vr mn), some (vr fa), some (vr of), some (vi nP), some (vi nB), some (vi aN), some (vi tn), some (vi v), some (vi w), some (vi wh), some (vi p), some (vi b), some (vi it), some (vi iu), some (vi 1), none, none]
def Kn (g : qG) (l : Launch) (nm : String) (hh : List (Nat × Nat × Nat × Nat)) (ca sa : Nat) (Post : qS → qRs → Prop) (sc x pg mn fa of : Nat) (tn w : Int) (K : Nat) : Prop := ∀ (A' : Nat → Nat → Nat) (D' : qD) (σ' : qS) (nP' nB' aN' : Int), Lw A' D' σ' x pg mn fa of nP' nB' aN' K → qW g l (M_law nm hh) ca sa 1014 (lT sc x pg mn fa of nP' nB' aN' tn w) [] σ' Post
section
variable {g : qG} {l : Launch} {nm : String} {hh : List (Nat × Nat × Nat × Nat)} {ca sa : Nat} {A : Nat → Nat → Nat} {D : qD} {σ : qS} {Post : qS → qRs → Prop} {sc x pg mn fa of : Nat} {nP nB aN tn v w wh p b it iu : Int} {K : Nat}
theorem Lw_le (h : Lw A D σ x pg mn fa of nP nB aN K) : Lw A D σ x pg mn fa of nP nB aN (K + 3) := by
  obtain ⟨h1, h2, h3, h4, h5, h6, h7⟩ := h
  exact ⟨h1, h2, h3, h4, ⟨h5.1, by omega⟩, h6, by omega⟩
theorem Lw_A (h : Lb A D σ x pg mn fa of) {r : Nat} (hr : r = pg ∨ r = mn ∨ r = fa ∨ r = of) : q_isA σ 0 r := ⟨by decide, Or.inl (h.2.2.2.2.2 r hr).1⟩
theorem Lw_in (h : Lb A D σ x pg mn fa of) {r : Nat} {i : Int} (hr : r = pg ∨ r = mn ∨ r = fa ∨ r = of) (hi : 0 ≤ i ∧ i < 40) : q_in σ r i := ⟨hi.1, by rw [(h.2.2.2.2.2 r hr).2]; exact hi.2⟩
theorem Lb_w2 {σ' : qS} (h : Lb A D σ x pg mn fa of) {r : Nat} {i z : Int} (hr : r = pg ∨ r = mn ∨ r = fa ∨ r = of) (hs' : σ' = sA σ r i z) : Lb A D σ' x pg mn fa of := by rw [hs']; exact Lb_w h hr
theorem rpg : pg = pg ∨ pg = mn ∨ pg = fa ∨ pg = of := Or.inl rfl
theorem rmn : mn = pg ∨ mn = mn ∨ mn = fa ∨ mn = of := Or.inr (Or.inl rfl)
theorem rfa : fa = pg ∨ fa = mn ∨ fa = fa ∨ fa = of := Or.inr (Or.inr (Or.inl rfl))
theorem rof : of = pg ∨ of = mn ∨ of = fa ∨ of = of := Or.inr (Or.inr (Or.inr rfl))
theorem op_page (hl : l.stackTraces = false) (h : Lw A D σ x pg mn fa of nP nB aN K) (hn : np D < 5) (kn : Kn g l nm hh ca sa Post sc x pg mn fa of tn w (K + 3)) : qW g l (M_law nm hh) (ca + 200) (sa + 4000) 181 (l3 sc x pg mn fa of nP nB aN tn v w wh p b it iu) [] σ Post := by
  obtain ⟨hb, hct, rfl, rfl, ha, hno, hk⟩ := h
  refine ls_page hl ⟨Lb_x hb, _, _, lc_page hl hb hn, fun σ7 v9 hM => ?_, fun _ _ z => z⟩
  obtain ⟨rfl, A', b1, ⟨s1, s2, s3, s4⟩, k1⟩ := hM
  refine ⟨Lb_x b1, _, lq_pages hl b1, ⟨⟨by unfold qR; omega, by rw [np_Pg]; unfold qR; omega⟩, fun v16 h16 => ?_⟩⟩
  rw [if_neg (fun z => z (by rw [np_Pg]; omega))] at h16
  subst h16
  exact kn A' _ _ _ _ _ ⟨b1, by rw [s1, s2, s3, s4]; exact hct, rfl, rfl, ⟨by omega, by omega⟩, hno, by omega⟩
theorem op_panel (hl : l.stackTraces = false) (h : Lw A D σ x pg mn fa of nP nB aN K) (hn0 : 0 < np D) (kn : Kn g l nm hh ca sa Post sc x pg mn fa of tn w (K + 3)) : qW g l (M_law nm hh) (ca + 200) (sa + 4000) 210 (l3 sc x pg mn fa of nP nB aN tn v w wh p b it iu) [] σ Post := by
  have h0 := h
  obtain ⟨hb, hct, rfl, rfl, ha, hno, hk⟩ := h
  have hS := hb.2.2.2.2.1
  have hw := hb.2.2.2.1
  have hnp := hS.1
  have hnq := hS.2.1
  obtain ⟨z1, m1, a1, c1⟩ := spec_low (g := g) (σ := σ) hl (v := (Int32.ofInt w >>> (Int32.ofInt 6 &&& 31)).toInt) (n := (np D : Int)) ⟨by omega, by omega⟩
  obtain ⟨pp, rfl⟩ := Int.eq_ofNat_of_zero_le a1
  have hpp : pp < np D := by omega
  refine ls_panel hl ⟨Lb_x hb, _, lq_pages hl hb, _, m1, by unfold qR; omega, fun _ => kn A D σ _ _ _ (Lw_le h0), fun hlt => ⟨_, _, lq_panels hl hb hpp, fun σ2 v2 hM => ?_, fun _ _ z => z⟩⟩
  obtain ⟨rfl, rfl⟩ := hM
  have hpn4 := hS.2.2.2.1 pp hpp
  refine ⟨by unfold qR; omega, fun _ => kn A D σ2 _ _ _ (Lw_le h0), fun hlt2 => ⟨Lb_x hb, _, _, lq_panels hl hb hpp, fun σ3 v3 hM => ?_, fun _ _ z => z⟩⟩
  obtain ⟨rfl, rfl⟩ := hM
  obtain ⟨z2, m2, a2, c2⟩ := spec_low (g := g) (σ := σ3) hl (v := (Int32.ofInt w >>> (Int32.ofInt 9 &&& 31)).toInt) (n := (pn D pp : Int) + 1) ⟨by omega, by omega⟩
  obtain ⟨z3, m3, a3, c3⟩ := spec_low (g := g) (σ := σ3) hl (v := (Int32.ofInt w >>> (Int32.ofInt 12 &&& 31)).toInt) (n := 9) ⟨by omega, by omega⟩
  obtain ⟨z4, m4, a4, c4⟩ := spec_low (g := g) (σ := σ3) hl (v := (Int32.ofInt w >>> (Int32.ofInt 15 &&& 31)).toInt) (n := 19) ⟨by omega, by omega⟩
  obtain ⟨z5, m5, a5, c5⟩ := spec_low (g := g) (σ := σ3) hl (v := (Int32.ofInt w >>> (Int32.ofInt 20 &&& 31)).toInt) (n := 10) ⟨by omega, by omega⟩
  obtain ⟨ii, rfl⟩ := Int.eq_ofNat_of_zero_le a2
  refine ⟨_, m2, _, m3, _, m4, _, m5, Lb_x hb, _, _, lc_panel hl hb hpp (by omega) (by omega) (by omega) ⟨⟨by omega, by omega⟩, ⟨by omega, by omega⟩, by omega, by omega⟩, fun σ7 v9 hM => ?_, fun _ _ z => z⟩
  obtain ⟨rfl, A', b1, ⟨s1, s2, s3, s4⟩, k1⟩ := hM
  refine ⟨by unfold qR; omega, fun v16 h16 => ?_⟩
  rw [if_neg (fun z => z rfl)] at h16
  subst h16
  refine ⟨(b1.2.2.2.2.2 _ rpg).1, Lw_in b1 rpg ⟨by omega, by omega⟩, fun σ8 h8 => ?_⟩
  have b2 := Lb_w2 b1 rpg h8
  refine ⟨(b2.2.2.2.2.2 _ rmn).1, Lw_in b2 rmn ⟨by omega, by omega⟩, fun σ9 h9 x60 h60 => ?_⟩
  have b3 := Lb_w2 b2 rmn h9
  obtain ⟨n1, n2, n3, n4, n5, n6⟩ := Lb_ne b1
  have e1 : gA σ9 pg = fup (gA σ3 pg) (nq D : Int) (pp : Int) := by rw [h9, gA_w' n1, h8, gA_w, s1]
  have e2 : gA σ9 mn = fup (gA σ3 mn) (nq D : Int) 0 := by rw [h9, gA_w, h8, gA_w' n1.symm, s2]
  have e3 : gA σ9 fa = gA σ3 fa := by rw [h9, gA_w' n4.symm, h8, gA_w' n2.symm, s3]
  have e4 : gA σ9 of = gA σ3 of := by rw [h9, gA_w' n5.symm, h8, gA_w' n3.symm, s4]
  refine kn A' _ σ9 _ _ _ ⟨b3, by rw [e1, e2, e3, e4]; exact Ct_Np hct, ?_, ?_, ⟨by omega, by omega⟩, fun z => NoA_Np (hno z), by omega⟩
  · rw [h60, nq_Np]; omega
  · rw [nb_Np]
theorem op_balloon (hl : l.stackTraces = false) (h : Lw A D σ x pg mn fa of nP nB aN K) (hit : it = 0 ∨ (it = 1 ∧ ∃ q : Nat, p = (q : Int) ∧ alP D q)) (kn : Kn g l nm hh ca sa Post sc x pg mn fa of tn w (K + 3)) : qW g l (M_law nm hh) (ca + 200) (sa + 4000) 336 (l3 sc x pg mn fa of nP nB aN tn v w wh p b it iu) [] σ Post := by
  have h0 := h
  obtain ⟨hb, hct, rfl, rfl, ha, hno, hk⟩ := h
  have hS := hb.2.2.2.2.1
  have hw := hb.2.2.2.1
  have hnq := hS.2.1
  have hnb := hS.2.2.1
  refine ls_balloon hl ⟨by rcases hit with z | z <;> (unfold qR; omega), fun _ => kn A D σ _ _ _ (Lw_le h0), fun hne => ?_⟩
  obtain ⟨q, rfl, hq⟩ := (hit.resolve_left hne).2
  have hqn := hq.1
  have hm := (hct.2.1 q hq).1
  have hsl := (hS.2.2.2.2.1 q hq).2.1
  refine ⟨by unfold qR; omega, fun _ => kn A D σ _ _ _ (Lw_le h0), fun hlt => ⟨Lw_A hb rmn, Lw_in hb rmn ⟨by omega, by omega⟩, by rw [hm]; unfold qR; omega, fun _ => kn A D σ _ _ _ (Lw_le h0), fun hlt2 => ?_⟩⟩
  rw [hm] at hlt2 ⊢
  obtain ⟨z2, m2, a2, c2⟩ := spec_low (g := g) (σ := σ) hl (v := (Int32.ofInt w >>> (Int32.ofInt 6 &&& 31)).toInt) (n := ((hs D q).length : Int) + 1) ⟨by omega, by omega⟩
  obtain ⟨z3, m3, a3, c3⟩ := spec_low (g := g) (σ := σ) hl (v := (Int32.ofInt w >>> (Int32.ofInt 8 &&& 31)).toInt) (n := 12) ⟨by omega, by omega⟩
  obtain ⟨ii, rfl⟩ := Int.eq_ofNat_of_zero_le a2
  refine ⟨_, m2, _, m3, Lb_x hb, _, _, lc_balloon hl hb hq (by omega) (by omega) (by omega) ⟨by omega, by omega⟩, fun σ7 v9 hM => ?_, fun _ _ z => z⟩
  obtain ⟨rfl, A', b1, ⟨s1, s2, s3, s4⟩, k1⟩ := hM
  refine ⟨by unfold qR; omega, fun v16 h16 => ?_⟩
  rw [if_neg (fun z => z rfl)] at h16
  subst h16
  refine ⟨(b1.2.2.2.2.2 _ rof).1, Lw_in b1 rof ⟨by omega, by omega⟩, fun σ8 h8 => ?_⟩
  have b2 := Lb_w2 b1 rof h8
  refine ⟨Lw_A b2 rmn, Lw_in b2 rmn ⟨by omega, by omega⟩, (b2.2.2.2.2.2 _ rmn).1, fun σ9 h9 x60 h60 => ?_⟩
  have b3 := Lb_w2 b2 rmn h9
  obtain ⟨n1, n2, n3, n4, n5, n6⟩ := Lb_ne b1
  have e0 : gA σ8 mn = gA σ mn := by rw [h8, gA_w' n5, s2]
  have e1 : gA σ9 pg = gA σ pg := by rw [h9, gA_w' n1, h8, gA_w' n3, s1]
  have e2 : gA σ9 mn = fup (gA σ mn) (q : Int) (gA σ mn (q : Int) + 1) := by rw [h9, gA_w, e0]
  have e3 : gA σ9 fa = gA σ fa := by rw [h9, gA_w' n4.symm, h8, gA_w' n6, s3]
  have e4 : gA σ9 of = fup (gA σ of) (nb D : Int) (q : Int) := by rw [h9, gA_w' n5.symm, h8, gA_w, s4]
  refine kn A' _ σ9 _ _ _ ⟨b3, by rw [e1, e2, e3, e4]; exact Ct_Nb hct hq (by omega), ?_, ?_, ⟨by omega, by omega⟩, fun z => NoA_Nb (hno z), by omega⟩
  · rw [nq_Nb]
  · rw [h60, nb_Nb]; omega
theorem op_face (hl : l.stackTraces = false) (h : Lw A D σ x pg mn fa of nP nB aN K) (hit : it = 0 ∨ (it = 1 ∧ ∃ q : Nat, p = (q : Int) ∧ alP D q)) (kn : Kn g l nm hh ca sa Post sc x pg mn fa of tn w (K + 3)) : qW g l (M_law nm hh) (ca + 200) (sa + 4000) 428 (l3 sc x pg mn fa of nP nB aN tn v w wh p b it iu) [] σ Post := by
  have h0 := h
  obtain ⟨hb, hct, rfl, rfl, ha, hno, hk⟩ := h
  have hS := hb.2.2.2.2.1
  have hw := hb.2.2.2.1
  have hnq := hS.2.1
  refine ls_face hl ⟨by rcases hit with z | z <;> (unfold qR; omega), fun _ => kn A D σ _ _ _ (Lw_le h0), fun hne => ?_⟩
  obtain ⟨q, rfl, hq⟩ := (hit.resolve_left hne).2
  have hqn := hq.1
  have hm := (hct.2.1 q hq).2
  have hfl := (hw.1.2.2.2.2.1 q hq.1).2.2.1.1.1
  refine ⟨Lw_A hb rfa, Lw_in hb rfa ⟨by omega, by omega⟩, by rw [hm]; unfold qR; omega, fun _ => kn A D σ _ _ _ (Lw_le h0), fun hlt2 => ⟨(hb.2.2.2.2.2 _ rfa).1, fun σ8 h8 => ?_⟩⟩
  rw [hm] at hlt2
  have b2 := Lb_w2 hb rfa h8
  obtain ⟨z2, m2, a2, c2⟩ := spec_low (g := g) (σ := σ8) hl (v := (Int32.ofInt w >>> (Int32.ofInt 6 &&& 31)).toInt) (n := 24) ⟨by omega, by omega⟩
  obtain ⟨z3, m3, a3, c3⟩ := spec_low (g := g) (σ := σ8) hl (v := (Int32.ofInt w >>> (Int32.ofInt 11 &&& 31)).toInt) (n := 3) ⟨by omega, by omega⟩
  obtain ⟨z4, m4, a4, c4⟩ := spec_low (g := g) (σ := σ8) hl (v := (Int32.ofInt w >>> (Int32.ofInt 13 &&& 31)).toInt) (n := 2) ⟨by omega, by omega⟩
  refine ⟨_, m2, _, m3, _, m4, Lb_x b2, _, _, lc_face hl b2 hq (by omega) ⟨by omega, by omega⟩ ⟨by omega, by omega⟩ ⟨by omega, by omega⟩, fun σ7 v9 hM => ?_, fun _ _ z => z⟩
  obtain ⟨rfl, A', b1, ⟨s1, s2, s3, s4⟩, k1⟩ := hM
  have hq' : alP (dFc D q (z2, 1 + z3, 1 + z4)) q := hq
  have hfit := (LB_fit b1.2.2.2.1 hq').2
  refine ⟨Lb_x b1, _, _, lq_lies hl b1 hq' ⟨by decide, by decide⟩, fun σ9 v10 hM => ?_, fun _ _ z => z⟩
  obtain ⟨rfl, rfl⟩ := hM
  have e4 : bxV (kq (dFc D q (z2, 1 + z3, 1 + z4)) q) (LB (dFc D q (z2, 1 + z3, 1 + z4)) q) 4 = (LB (dFc D q (z2, 1 + z3, 1 + z4)) q).2.2.2 := rfl
  rw [e4]
  refine ⟨⟨by unfold qR; omega, by unfold qR; omega⟩, fun v16 h16 => ?_⟩
  rw [if_neg (fun z => z rfl)] at h16
  subst h16
  obtain ⟨n1, n2, n3, n4, n5, n6⟩ := Lb_ne b1
  have e1 : gA σ9 pg = gA σ pg := by rw [s1, h8, gA_w' n2]
  have e2 : gA σ9 mn = gA σ mn := by rw [s2, h8, gA_w' n4]
  have e3 : gA σ9 fa = fup (gA σ fa) (q : Int) (gA σ fa (q : Int) + 1) := by rw [s3, h8, gA_w]
  have e5 : gA σ9 of = gA σ of := by rw [s4, h8, gA_w' n6.symm]
  exact kn A' _ σ9 _ _ _ ⟨b1, by rw [e1, e2, e3, e5]; exact Ct_Fc hct hq, rfl, rfl, ⟨by omega, by omega⟩, hno, by omega⟩
end
