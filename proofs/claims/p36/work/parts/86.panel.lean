/-! the class: panel -/
section
variable {g : qG} {l : Launch} {A : Nat → Nat → Nat} {D : qD} {σ : qS}
noncomputable def o_panel (D : qD) (p i w x y : Int) : Int ⊕ Nat := cif (pgOk D p ∧ 0 ≤ i ∧ i ≤ (pn D p.toNat : Int)) (cif (pnOkV w x y) (cif (pn D p.toNat < 8 ∧ nq D < 50 ∧ OKp (dNp D p.toNat i.toNat w x y) p.toNat) (.inl (nq D)) (.inr 0)) (.inr 1)) (.inr 2)
noncomputable def d_panel (D : qD) (p i w x y : Int) : qD := cif ((pgOk D p ∧ 0 ≤ i ∧ i ≤ (pn D p.toNat : Int)) ∧ pnOkV w x y ∧ pn D p.toNat < 8 ∧ nq D < 50 ∧ OKp (dNp D p.toNat i.toNat w x y) p.toNat) (dNp D p.toNat i.toNat w x y) D
theorem swA5 {r1 r2 r3 r4 r5 n : Nat} (hA : qInj A) (h1 : gK σ r1 = 0 ∧ r1 ≠ 0) (h2 : gK σ r2 = 0 ∧ r2 ≠ 0) (h3 : gK σ r3 = 0 ∧ r3 ≠ 0) (h4 : gK σ r4 = 0 ∧ r4 ≠ 0) (h5 : gK σ r5 = 0 ∧ r5 ≠ 0)
    (n1 : r1 ≠ r2 ∧ r1 ≠ r3 ∧ r1 ≠ r4 ∧ r1 ≠ r5) (ns : r3 ≠ r2 ∧ r4 ≠ r2 ∧ r4 ≠ r3 ∧ r5 ≠ r2 ∧ r5 ≠ r3 ∧ r5 ≠ r4) :
    ∃ B : Nat → Nat → Nat, qInj B ∧ (∀ k j, gK σ (A k j) ≠ 0 → ¬ ((k = 6 ∨ (11 ≤ k ∧ k ≤ 14)) ∧ j = n) → B k j = A k j) ∧ (B 6 n = r1 ∧ B 11 n = r2 ∧ B 12 n = r3 ∧ B 13 n = r4 ∧ B 14 n = r5) ∧ ∀ x, gK σ x ≠ 0 → (∀ k i, k < 20 → x ≠ A k i) → ∀ k i, k < 20 → x ≠ B k i := by
  have a1 := swA_inj (k := 6) (i := n) hA h1.2
  have a2 := swA_inj (k := 11) (i := n) a1 h2.2
  have a3 := swA_inj (k := 12) (i := n) a2 h3.2
  have a4 := swA_inj (k := 13) (i := n) a3 h4.2
  have a5 := swA_inj (k := 14) (i := n) a4 h5.2
  refine ⟨_, a5, fun k j hk hkj => ?_, ⟨?_, ?_, ?_, ?_, swA_at⟩, fun x hx hn => ?_⟩
  · have m1 : A k j ≠ r1 := fun z => hk (by rw [z]; exact h1.1)
    have m2 : A k j ≠ r2 := fun z => hk (by rw [z]; exact h2.1)
    have m3 : A k j ≠ r3 := fun z => hk (by rw [z]; exact h3.1)
    have m4 : A k j ≠ r4 := fun z => hk (by rw [z]; exact h4.1)
    have m5 : A k j ≠ r5 := fun z => hk (by rw [z]; exact h5.1)
    have e1 : swA A 6 n r1 k j = A k j := swA_ne m1 (fun z => hkj ⟨by omega, z.2⟩)
    have e2 : swA (swA A 6 n r1) 11 n r2 k j = A k j := by rw [swA_ne (by rw [e1]; exact m2) (fun z => hkj ⟨by omega, z.2⟩), e1]
    have e3 : swA (swA (swA A 6 n r1) 11 n r2) 12 n r3 k j = A k j := by rw [swA_ne (by rw [e2]; exact m3) (fun z => hkj ⟨by omega, z.2⟩), e2]
    have e4 : swA (swA (swA (swA A 6 n r1) 11 n r2) 12 n r3) 13 n r4 k j = A k j := by rw [swA_ne (by rw [e3]; exact m4) (fun z => hkj ⟨by omega, z.2⟩), e3]
    rw [swA_ne (by rw [e4]; exact m5) (fun z => hkj ⟨by omega, z.2⟩), e4]
  · have e1 : swA A 6 n r1 6 n = r1 := swA_at
    have e2 : swA (swA A 6 n r1) 11 n r2 6 n = r1 := by rw [swA_ne (by rw [e1]; exact n1.1) (fun z => absurd z.1 (by decide)), e1]
    have e3 : swA (swA (swA A 6 n r1) 11 n r2) 12 n r3 6 n = r1 := by rw [swA_ne (by rw [e2]; exact n1.2.1) (fun z => absurd z.1 (by decide)), e2]
    have e4 : swA (swA (swA (swA A 6 n r1) 11 n r2) 12 n r3) 13 n r4 6 n = r1 := by rw [swA_ne (by rw [e3]; exact n1.2.2.1) (fun z => absurd z.1 (by decide)), e3]
    rw [swA_ne (by rw [e4]; exact n1.2.2.2) (fun z => absurd z.1 (by decide)), e4]
  · have e2 : swA (swA A 6 n r1) 11 n r2 11 n = r2 := swA_at
    have e3 : swA (swA (swA A 6 n r1) 11 n r2) 12 n r3 11 n = r2 := by rw [swA_ne (by rw [e2]; exact fun z => ns.1 z.symm) (fun z => absurd z.1 (by decide)), e2]
    have e4 : swA (swA (swA (swA A 6 n r1) 11 n r2) 12 n r3) 13 n r4 11 n = r2 := by rw [swA_ne (by rw [e3]; exact fun z => ns.2.1 z.symm) (fun z => absurd z.1 (by decide)), e3]
    rw [swA_ne (by rw [e4]; exact fun z => ns.2.2.2.1 z.symm) (fun z => absurd z.1 (by decide)), e4]
  · have e3 : swA (swA (swA A 6 n r1) 11 n r2) 12 n r3 12 n = r3 := swA_at
    have e4 : swA (swA (swA (swA A 6 n r1) 11 n r2) 12 n r3) 13 n r4 12 n = r3 := by rw [swA_ne (by rw [e3]; exact fun z => ns.2.2.1 z.symm) (fun z => absurd z.1 (by decide)), e3]
    rw [swA_ne (by rw [e4]; exact fun z => ns.2.2.2.2.1 z.symm) (fun z => absurd z.1 (by decide)), e4]
  · have e4 : swA (swA (swA (swA A 6 n r1) 11 n r2) 12 n r3) 13 n r4 13 n = r4 := swA_at
    rw [swA_ne (by rw [e4]; exact fun z => ns.2.2.2.2.2 z.symm) (fun z => absurd z.1 (by decide)), e4]
  · have m1 : x ≠ r1 := fun z => hx (by rw [z]; exact h1.1)
    have m2 : x ≠ r2 := fun z => hx (by rw [z]; exact h2.1)
    have m3 : x ≠ r3 := fun z => hx (by rw [z]; exact h3.1)
    have m4 : x ≠ r4 := fun z => hx (by rw [z]; exact h4.1)
    have m5 : x ≠ r5 := fun z => hx (by rw [z]; exact h5.1)
    exact swA_out (by decide) (swA_out (by decide) (swA_out (by decide) (swA_out (by decide) (swA_out (by decide) hn m1) m2) m3) m4) m5
theorem spec_panel (hl : l.stackTraces = false) (hA : qInj A) (h : CR A D σ) (hw : WF D) {p i w x y : Int} (hpq : qR p) (hi : qR i) (hww : qR w) (hx : qR x) (hy : qR y) : qMet g l M_X7_panel [vr (A 0 0), vi p, vi i, vi w, vi x, vi y] σ (qClP A σ (o_panel D p i w x y) (d_panel D p i w x y)) := by
  unfold o_panel d_panel
  have hnq := hw.1.1.2.1
  have hsame : ∀ o, qClP A σ o D σ (res o) := fun o => ⟨A, hA, fun _ _ _ _ => rfl, h, frm_rf, rfl⟩
  refine wm_X7_panel hl ⟨h.1.1, _, _, spec_needPage hl h hw.1 hpq, fun σ1 v1 h1 => ?_, fun σ1 n h1 => ?_⟩
  rotate_left
  · obtain ⟨rfl, hok, rfl⟩ := h1
    rw [cif_neg (fun z => hok z.1), cif_neg (fun z => hok z.1.1)]
    exact hsame (.inr 2)
  obtain ⟨rfl, hok, rfl⟩ := h1
  have hpn : p.toNat < np D := by unfold pgOk at hok; omega
  have hS0 := CR_SR h
  have hP := (h.2.2.2.1 _ hpn).1
  obtain ⟨g1, g2, g3, g4⟩ := hw.1.2.1 _ hpn
  have c10 : gK σ1 (A 10 p.toNat) = 50 := hP.2.2.2.2.1
  have c10L : gL σ1 (A 10 p.toNat) = (row D p.toNat).map (A 6) := hP.2.2.2.2.2
  have hlen : ((row D p.toNat).length : Int) = (pn D p.toNat : Int) := rfl
  rw [hP.2.2.1]
  refine ⟨hP.1, c10, _, spec_sizeM hl c10 c10L, _, _, spec_needPlace hl hi (by unfold qR; omega), fun σ2 h2 => ?_, fun σ2 n h2 => ?_⟩
  rotate_left
  · obtain ⟨rfl, hne, rfl⟩ := h2
    rw [cif_neg (fun z => hne z.2), cif_neg (fun z => hne z.1.2)]
    exact hsame (.inr 2)
  obtain ⟨rfl, hi1⟩ := h2
  have hin : pgOk D p ∧ 0 ≤ i ∧ i ≤ (pn D p.toNat : Int) := ⟨hok, hi1⟩
  rw [cif_pos hin]
  refine ⟨_, _, spec_needWithin hl hww (by unfold qR; omega) (by unfold qR; omega), fun σ2 h2 => ?_, fun σ2 n h2 => ?_⟩
  rotate_left
  · obtain ⟨rfl, hne, rfl⟩ := h2
    rw [cif_neg (fun z => hne z.1), cif_neg (fun z => hne z.2.1.1)]
    exact hsame (.inr 1)
  obtain ⟨rfl, hv1⟩ := h2
  refine ⟨_, _, spec_needWithin hl hx (by unfold qR; omega) (by unfold qR; omega), fun σ2 h2 => ?_, fun σ2 n h2 => ?_⟩
  rotate_left
  · obtain ⟨rfl, hne, rfl⟩ := h2
    rw [cif_neg (fun z => hne z.2.1), cif_neg (fun z => hne z.2.1.2.1)]
    exact hsame (.inr 1)
  obtain ⟨rfl, hv2⟩ := h2
  refine ⟨_, _, spec_needWithin hl hy (by unfold qR; omega) (by unfold qR; omega), fun σ2 h2 => ?_, fun σ2 n h2 => ?_⟩
  rotate_left
  · obtain ⟨rfl, hne, rfl⟩ := h2
    rw [cif_neg (fun z => hne z.2.2), cif_neg (fun z => hne z.2.1.2.2)]
    exact hsame (.inr 1)
  obtain ⟨rfl, hv3⟩ := h2
  have hv : pnOkV w x y := ⟨hv1, hv2, hv3⟩
  rw [cif_pos hv, hP.2.2.1]
  refine ⟨hP.1, c10, _, spec_sizeM hl c10 c10L, by unfold qR; omega, fun h8 => ?_, fun h8 => ?_⟩
  · rw [cif_neg (fun z => by have := z.1; omega), cif_neg (fun z => by have := z.2.2.1; omega)]
    exact hsame (.inr 0)
  have hsz : ∀ σ3, SR A D σ3 → qMet g l M_Jx4a65c_size_8abf5 [vr (A 2 0)] σ3 (qPi σ3 (nq D)) := fun σ3 h3 => by
    have := spec_sizeM (g := g) hl h3.1.2.2.2.2.2.2.2.2.1 h3.1.2.2.2.2.2.2.2.2.2.1
    rwa [List.length_range] at this
  rw [h.1.2.2.1]
  refine ⟨h.1.1, h.1.2.2.2.2.2.2.2.2.1, _, hsz _ hS0, by unfold qR; omega, fun h50 r54 hz54 hr54 σ57 h57 => ?_, fun h50 => ?_⟩
  rotate_left
  · rw [cif_neg (fun z => by have := z.2.1; omega), cif_neg (fun z => by have := z.2.2.2.1; omega)]
    exact hsame (.inr 0)
  have x57 : ∀ z, gK σ2 z ≠ 0 → qSame σ2 σ57 z := by
    intro z hz
    have hne : z ≠ r54 := fun e => hz (by rw [e]; exact hz54)
    rw [h57]
    exact ⟨if_neg hne, fun f => if_neg hne, fun f => if_neg hne, fun _ => rfl, fun _ => rfl, rfl, rfl⟩
  have hS57 := SR_ext x57 hS0
  have hK57 : gK σ57 r54 = 6 := by rw [h57]; exact if_pos rfl
  rw [hS57.1.2.2.1]
  refine ⟨hS57.1.1, hS57.1.2.2.2.2.2.2.2.2.1, _, hsz _ hS57, _, spec_initP hl hr54 hK57 (by rw [h57]; exact if_pos rfl), fun σ69 h69 => ?_⟩
  obtain ⟨r2, r3, r4, r5, hz2, hz3, hz4, hz5, hns, x69, hnew, h211, hl0⟩ := h69
  have hf : ∀ r, gK σ57 r = 0 → gK σ2 r = 0 := fun r hr => by
    by_cases c : gK σ2 r = 0
    · exact c
    · have := (x57 r c).1; omega
  have hnr : ∀ r, gK σ57 r = 0 → r54 ≠ r := fun r hr z => by rw [z] at hK57; omega
  have x09 : ∀ z, gK σ2 z ≠ 0 → qSame σ2 σ69 z := fun z hz => by
    have hne : z ≠ r54 := fun e => hz (by rw [e]; exact hz54)
    have a := x57 z hz
    exact qSame_tr a (x69 z (by rw [a.1]; exact hz) hne)
  obtain ⟨B, hB, hag, ⟨b6, b11, b12, b13, b14⟩, hBA⟩ := swA5 (n := nq D) hA (σ := σ2) ⟨hz54, hr54⟩ ⟨hf _ hz2.1, hz2.2⟩ ⟨hf _ hz3.1, hz3.2⟩ ⟨hf _ hz4.1, hz4.2⟩ ⟨hf _ hz5.1, hz5.2⟩ ⟨hnr _ hz2.1, hnr _ hz3.1, hnr _ hz4.1, hnr _ hz5.1⟩ hns
  have hagL : ∀ k j, gK σ2 (A k j) ≠ 0 → Liv D k j → B k j = A k j := fun k j hk hlv => hag k j hk (fun z => by have := hlv.2.1 z.1; omega)
  have hS69 := SR_ext x09 (SR_sw hw.1 hagL hS0)
  have hL69 : ∀ p, p < np D → LaR B D σ69 p := fun p hp2 => LaR_ext hw.1 (SR_sw hw.1 hagL hS0) x09 hp2 (LaR_sw hw.1 hagL hS0 hp2 (CR_La h hw.1 hp2))
  have e00 : B 0 0 = A 0 0 := hagL 0 0 (by have := h.1.1; omega) (liv (by decide) (by omega) (by omega) (by omega))
  have e20 : B 2 0 = A 2 0 := hagL 2 0 (by have := h.1.2.2.2.2.2.2.2.2.1; omega) (liv (by decide) (by omega) (by omega) (by omega))
  have e5p : B 5 p.toNat = A 5 p.toNat := hagL 5 _ (by have := hP.1; omega) (liv (by decide) (fun _ => hpn) (by omega) (by omega))
  have e10p : B 10 p.toNat = A 10 p.toNat := hagL 10 _ (by rw [c10]; decide) (liv (by decide) (fun _ => hpn) (by omega) (by omega))
  have hagB : ∀ k j, (20 ≤ k ∨ k = 0) → gK σ2 (A k j) ≠ 0 → B k j = A k j := fun k j hk hg => hag k j hg (fun z => by omega)
  have hP69 := (hS69.2.2.2.1 _ hpn).1
  have ei : i = (i.toNat : Int) := by omega
  have hlt8 : pn D p.toNat < 8 := by omega
  have hcnt : nq D < 50 := by omega
  have hin2 : i.toNat ≤ (row D p.toNat).length := by omega
  have hput := spec_putP (g := g) hl hP69 (i := i.toNat) (q := nq D) hin2 (by unfold pn at hlt8; omega) (by rw [b6]; exact hnew.1)
  rw [b6, e5p] at hput
  have hw1 : WF0 (dNp D p.toNat i.toNat w x y) := WF0_Np hw.1 hpn hlt8 hcnt (by unfold pn; exact hin2) hv
  rw [ei]
  rw [show (((i.toNat : Nat) : Int)).toNat = i.toNat from Int.toNat_natCast _]
  refine ⟨by rw [← e5p]; exact hP69.1, _, hput, fun σ77 h77 => ?_⟩
  have h77' : σ77 = sL σ69 (B 10 p.toNat) (((row D p.toNat).insertIdx i.toNat (nq D)).map (B 6)) := by rw [h77]
  have hS77 := SR_row hB h77' hS69
  have hI77 : gI σ77 = gI σ69 := by rw [h77]; rfl
  have hP77e : gP σ77 = gP σ69 := by rw [h77]; rfl
  have hK77 : gK σ77 = gK σ69 := by rw [h77]; rfl
  have hL77 : ∀ z, z ≠ B 10 p.toNat → gL σ77 z = gL σ69 z := fun z hz => by rw [h77']; exact if_neg hz
  have hN77 : NewP B σ77 (nq D) p.toNat w x y := by
    unfold NewP
    rw [hL77 (B 11 (nq D)) (by rw [Ne, hB.1]; omega), hL77 (B 12 (nq D)) (by rw [Ne, hB.1]; omega), b6, b11, b12, b13, b14, hI77, hP77e, hK77, e5p]
    exact ⟨hnew, h211⟩
  have hSg := SR_Np (i := i.toNat) hB hS77 hN77 rfl
  generalize hsg : sL σ77 (B 2 0) ((List.range (nq D + 1)).map (B 6)) = σg at hSg
  have hpn1 : p.toNat < np (dNp D p.toNat i.toNat w x y) := by rw [np_Np]; exact hpn
  have hLR : LR B (dNp D p.toNat i.toNat w x y) σ77 p.toNat := by
    have := SR_LR hSg hw1 hpn1
    rw [← hsg] at this
    exact LR_L hB (Or.inl rfl) this
  have hPg := WF0_Pg hw1 hpn1
  have e283 := hS77.1.2.2.2.2.1
  rw [e00] at e283
  rw [e283]
  have hIg : gI σg = gI σ69 := by rw [← hsg]; exact hI77
  have hfrm : ∀ z, gK σ2 z ≠ 0 → (∀ k i, k < 20 → z ≠ A k i) → qSame σ2 σ77 z := by
    intro z hz hn
    refine qSame_tr (x09 z hz) ?_
    rw [h77]
    exact ⟨rfl, fun _ => rfl, fun _ => rfl, fun _ => rfl, fun _ => rfl, if_neg (hBA z hz hn 10 _ (by decide)), rfl⟩
  refine ⟨by rw [← e00]; exact hS77.1.1, hS77.2.1.1, _, by rw [← e5p]; exact spec_tryPage hl hB hLR hPg, fun σ86 v88 h86 => ?_⟩
  obtain ⟨hc, hv86⟩ := h86
  have hS86 := SR_chg hB (qChg_mono hc (fun fl x z => Or.inl (roW_tr z))) hS77
  have hP86 := (hS86.2.2.2.1 _ hpn).1
  have hfr86 : qFrm A σ2 σ86 := by
    intro z hz hn
    have a := hfrm z hz hn
    exact qSame_tr a (frm_chg hc (fun f x z => roW_cls z) z (by rw [a.1]; exact hz) (hBA z hz hn))
  rcases hv86 with ⟨rfl, hok1, hT⟩ | ⟨rfl, hno⟩
  · rw [cif_pos ⟨hlt8, hcnt, hok1⟩, cif_pos ⟨⟨hok, by omega, by omega⟩, hv, hlt8, hcnt, hok1⟩]
    have e281 := hS86.1.2.2.1
    rw [e00] at e281
    rw [e281]
    have hL86 : gL σ86 (B 2 0) = (List.range (nq D)).map (B 6) := hS86.1.2.2.2.2.2.2.2.2.2.1
    have hK54 : gK σ86 r54 = 6 := by rw [hc.1, hK77]; exact hnew.1
    refine ⟨by unfold qR; omega, fun _ => ⟨by rw [← e00]; exact hS86.1.1, hS86.1.2.2.2.2.2.2.2.2.1, _, spec_add hl hS86.1.2.2.2.2.2.2.2.2.1 (by omega) (by rw [hL86, List.length_map, List.length_range]; omega), fun σ98 v100 h98 => ?_⟩, fun z => by omega⟩
    obtain ⟨rfl, h98⟩ := h98
    have hlist : gL σ86 (B 2 0) ++ [r54] = (List.range (nq D + 1)).map (B 6) := by
      rw [hL86, List.range_succ, List.map_append, List.map_cons, List.map_nil, b6]
    rw [hlist] at h98
    have hc98 : qChg (roW B (dNp D p.toNat i.toNat w x y) p.toNat 0 (pn (dNp D p.toNat i.toNat w x y) p.toNat)) σg σ98 := by
      rw [h98, ← hsg]; exact qChg_sL hc
    have hT98 : TrP B (dNp D p.toNat i.toNat w x y) σ98 p.toNat := by
      have hI98 : gI σ98 = gI σ86 := by rw [h98]; rfl
      unfold TrP TrR BxR at hT ⊢
      rw [hI98]
      exact hT
    have hBg : ∀ q', q' ∈ row D p.toNat → BxR σg (B 13 q') (LB D q') := by
      intro q' hq'
      have := ((hL69 _ hpn).2 q' hq').2.1
      unfold BxR at this ⊢
      rw [hIg]; exact this
    have hQg : ∀ q', q' ∈ row (dNp D p.toNat i.toNat w x y) p.toNat → BxQ σg (B 13 q') := by
      intro q' hq'
      rw [row_Np, if_pos rfl, List.mem_insertIdx hin2] at hq'
      rcases hq' with z | z
      · unfold BxQ
        rw [z, b13, hIg, hl0, hl0, hl0, hl0]
        unfold qR
        omega
      · exact La_Q hw hpn z (hBg q' z)
    have hS98 : SR B (dNp D p.toNat i.toNat w x y) σ98 := SR_chg hB (qChg_mono hc98 (fun fl x z => Or.inl (roW_tr z))) hSg
    refine ⟨by rw [← e5p]; exact (hS98.2.2.2.1 _ hpn1).1.1, _, by rw [← e5p]; exact spec_keepT hl hB hSg hw1 hpn1 hc98 hok1 hT98 hQg, fun σ107 v109 h107 => ?_⟩
    obtain ⟨m1, m2, -⟩ := h107
    have hfin := keepT_post hB hSg hw1 hpn1 hc98 (fun p' hp2 hne => ?_) m1 m2
    · have hB107 := (hfin.1.2.2.2.2.1 (nq D) (by rw [nq_Np]; omega)).1
      unfold PnR at hB107
      rw [b6] at hB107
      refine ⟨hB107.1, B, hB, hagB, hfin.1, fun z hz hn => ?_, by rw [hB107.2.1]; rfl⟩
      have a := hfrm z hz hn
      have hg : qSame σ77 σg z := by
        rw [← hsg]
        exact ⟨rfl, fun _ => rfl, fun _ => rfl, fun _ => rfl, fun _ => rfl, if_neg (hBA z hz hn 2 0 (by decide)), rfl⟩
      have a2 := qSame_tr a hg
      exact qSame_tr a2 (hfin.2 z (by rw [a2.1]; exact hz) (hBA z hz hn))
    · rw [np_Np] at hp2
      have hh := hom hw.1 hp2
      exact LaR_of (WF0_Pg hw.1 hp2) (hL69 p' hp2) (LyEq_Np hw.1 hp2 hne) (fun q' hq2 => ⟨(hh q' hq2).1, by rw [hp_Np, if_neg (by have := row_lt hw.1 hp2 hq2; omega)]; exact (hh q' hq2).1, fun b hb => ⟨(hh q' hq2).2 b hb, by rw [hb_Np]; exact (hh q' hq2).2 b hb⟩⟩) (by rw [hIg]) (fun q' hq2 => ⟨by rw [hIg], fun f _ _ => by rw [hIg], fun b hb f _ _ => by rw [hIg]⟩)
  · rw [cif_neg (fun z => hno z.2.2), cif_neg (fun z => hno z.2.2.2.2)]
    refine ⟨by unfold qR; omega, fun z => absurd rfl z, fun _ => ⟨by rw [← e5p]; exact hP86.1, ?_⟩⟩
    have hra : row (dRow D p.toNat ((row D p.toNat).insertIdx i.toNat (nq D))) p.toNat = (row D p.toNat).insertIdx i.toNat (nq D) := by rw [row_at, if_pos rfl]
    have hlen' : ((row D p.toNat).insertIdx i.toNat (nq D)).length = (row D p.toNat).length + 1 := by rw [List.length_insertIdx, if_pos hin2]
    have htk := spec_takeP (g := g) hl hP86 (i := i.toNat) (by rw [hra, hlen']; omega) (by rw [hra, hlen']; unfold pn at hlt8; omega)
    rw [hra, List.eraseIdx_insertIdx_self, e5p] at htk
    refine ⟨_, htk, fun σ117 h117 => ?_⟩
    have hS117 := SR_row hB h117 hS86
    have hD : dRow D p.toNat (row D p.toNat) = D := by
      have := dRow_back (D := D) (p := p.toNat) (xs := row D p.toNat)
      rw [dRow_dRow] at this
      exact this
    rw [dRow_dRow, hD] at hS117
    have hI117 : gI σ117 = gI σ86 := by rw [h117]; rfl
    refine ⟨B, hB, hagB, SR_CR hS117 hw.1 (fun p' hp2 => LaR_I (LaR_tr hB hw.1 hp2 (LaR_I (hL69 p' hp2) hI77) (qChg_mono hc (fun fl x z => roW_tr z))) hI117), ?_, rfl⟩
    intro z hz hn
    have a := hfr86 z hz hn
    refine qSame_tr a ?_
    rw [h117]
    exact ⟨rfl, fun _ => rfl, fun _ => rfl, fun _ => rfl, fun _ => rfl, if_neg (hBA z hz hn 10 p.toNat (by decide)), rfl⟩
end
