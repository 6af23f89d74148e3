/-! the class: balloon's contract -/
section
variable {g : qG} {l : Launch} {A : Nat → Nat → Nat} {D : qD} {σ : qS}
noncomputable def o_balloon (D : qD) (q i v : Int) : Int ⊕ Nat := cif (pnOk D q ∧ 0 ≤ i ∧ i ≤ ((hs D q.toNat).length : Int)) (cif (1 ≤ v ∧ v ≤ 60) (cif ((hs D q.toNat).length < 4 ∧ nb D < 80 ∧ OKp (dNb D q.toNat i.toNat v) (hp D q.toNat)) (.inl (nb D)) (.inr 0)) (.inr 1)) (.inr 2)
noncomputable def d_balloon (D : qD) (q i v : Int) : qD := cif ((pnOk D q ∧ 0 ≤ i ∧ i ≤ ((hs D q.toNat).length : Int)) ∧ (1 ≤ v ∧ v ≤ 60) ∧ (hs D q.toNat).length < 4 ∧ nb D < 80 ∧ OKp (dNb D q.toNat i.toNat v) (hp D q.toNat)) (dNb D q.toNat i.toNat v) D
theorem swA_out {x k0 i0 r : Nat} (h0 : k0 < 20) (hn : ∀ k i, k < 20 → x ≠ A k i) (hx : x ≠ r) : ∀ k i, k < 20 → x ≠ swA A k0 i0 r k i := by
  intro k i hk
  unfold swA
  split
  · exact hn _ _ h0
  · split
    · exact hx
    · exact hn _ _ hk
theorem qChg_sL {P : Nat → Nat → Prop} {σ1 σ2 : qS} {x : Nat} {xs : List Nat} (h : qChg P σ1 σ2) : qChg P (sL σ1 x xs) (sL σ2 x xs) := by
  obtain ⟨c1, c2, c3, c4, c5, c6, c7⟩ := h
  refine ⟨c1, ?_, c3, c4, c5, c6, c7⟩
  funext y
  show (if y = x then xs else gL σ2 y) = (if y = x then xs else gL σ1 y)
  rw [c2]
theorem spec_balloon (hl : l.stackTraces = false) (hA : qInj A) (h : CR A D σ) (hw : WF D) {q i v : Int} (hq : qR q) (hi : qR i) (hv : qR v) : qMet g l M_X7_balloon [vr (A 0 0), vi q, vi i, vi v] σ (qClP A σ (o_balloon D q i v) (d_balloon D q i v)) := by
  unfold o_balloon d_balloon
  have hnb := hw.1.1.2.2
  refine wm_X7_balloon hl ⟨h.1.1, _, _, spec_needPanel hl h hw.1 hq, fun σ1 v1 h1 => ?_, fun σ1 n h1 => ?_⟩
  rotate_left
  · obtain ⟨rfl, hok, rfl⟩ := h1
    rw [cif_neg (fun z => hok z.1), cif_neg (fun z => hok z.1.1)]
    exact ⟨A, hA, fun _ _ _ _ => rfl, h, frm_rf, rfl⟩
  obtain ⟨rfl, hok, rfl⟩ := h1
  have hS0 := CR_SR h
  obtain ⟨hpn, hmq⟩ := alP_home hw.1 hok.2
  have hPn := (CR_pn h hok.2).1
  have hPW := (hw.1.2.2.2.2.1 _ hok.2.1).2.2.1
  have hl4 := hPW.2.2.1
  have c12 : gK σ1 (A 12 q.toNat) = 50 := hPn.2.2.2.2.2.2.2.2.2.2.2.2.1
  have c14 : gL σ1 (A 12 q.toNat) = (hs D q.toNat).map (A 7) := hPn.2.2.2.2.2.2.2.2.2.2.2.2.2.1
  rw [hPn.2.2.2.2.2.2.2.1]
  refine ⟨hPn.1, c12, _, spec_sizeM hl c12 c14, _, _, spec_needPlace hl hi (by unfold qR; omega), fun σ2 h2 => ?_, fun σ2 n h2 => ?_⟩
  rotate_left
  · obtain ⟨rfl, hne, rfl⟩ := h2
    rw [cif_neg (fun z => hne z.2), cif_neg (fun z => hne z.1.2)]
    exact ⟨A, hA, fun _ _ _ _ => rfl, h, frm_rf, rfl⟩
  obtain ⟨rfl, hi1⟩ := h2
  have hin : pnOk D q ∧ 0 ≤ i ∧ i ≤ ((hs D q.toNat).length : Int) := ⟨hok, hi1⟩
  rw [cif_pos hin]
  refine ⟨_, _, spec_needWithin hl hv (by unfold qR; omega) (by unfold qR; omega), fun σ2 h2 => ?_, fun σ2 n h2 => ?_⟩
  rotate_left
  · obtain ⟨rfl, hne, rfl⟩ := h2
    rw [cif_neg hne, cif_neg (fun z => hne z.2.1)]
    exact ⟨A, hA, fun _ _ _ _ => rfl, h, frm_rf, rfl⟩
  obtain ⟨rfl, hv1⟩ := h2
  rw [cif_pos hv1, hPn.2.2.2.2.2.2.2.1]
  refine ⟨hPn.1, c12, _, spec_sizeM hl c12 c14, by unfold qR; omega, fun h4 => ?_, fun h4 => ?_⟩
  · rw [cif_neg (fun z => by have := z.1; omega), cif_neg (fun z => by have := z.2.2.1; omega)]
    exact ⟨A, hA, fun _ _ _ _ => rfl, h, frm_rf, rfl⟩
  have hsz : ∀ σ3, SR A D σ3 → qMet g l M_Jx4a65c_size_8abf5 [vr (A 3 0)] σ3 (qPi σ3 (nb D)) := fun σ3 h3 => by
    have := spec_sizeM (g := g) hl h3.1.2.2.2.2.2.2.2.2.2.2.1 h3.1.2.2.2.2.2.2.2.2.2.2.2
    rwa [List.length_range] at this
  rw [h.1.2.2.2.1]
  refine ⟨h.1.1, h.1.2.2.2.2.2.2.2.2.2.2.1, _, hsz _ hS0, by unfold qR; omega, fun h80 r40 hz40 hr40 σ43 h43 => ?_, fun h80 => ?_⟩
  rotate_left
  · rw [cif_neg (fun z => by have := z.2.1; omega), cif_neg (fun z => by have := z.2.2.2.1; omega)]
    exact ⟨A, hA, fun _ _ _ _ => rfl, h, frm_rf, rfl⟩
  have x43 : ∀ x, gK σ2 x ≠ 0 → qSame σ2 σ43 x := by
    intro x hx
    have hne : x ≠ r40 := fun z => hx (by rw [z]; exact hz40)
    rw [h43]
    exact ⟨if_neg hne, fun f => if_neg hne, fun f => if_neg hne, fun _ => rfl, fun _ => rfl, rfl, rfl⟩
  have hS43 := SR_ext x43 hS0
  have hK43 : gK σ43 r40 = 1 := by rw [h43]; exact if_pos rfl
  rw [hS43.1.2.2.2.1]
  refine ⟨hS43.1.1, hS43.1.2.2.2.2.2.2.2.2.2.2.1, _, hsz _ hS43, _, spec_initB hl hr40 hK43 (by rw [h43]; exact if_pos rfl) (by rw [h43]; exact if_pos rfl), fun σ55 h55 => ?_⟩
  obtain ⟨r2, r3, hz2, hr2, hz3, hr3, h32, x55, k1, k2, k3, k4, k5, k6, k7, k8, k9, k10⟩ := h55
  have x05 : ∀ x, gK σ2 x ≠ 0 → qSame σ2 σ55 x := fun x hx => by
    have hne : x ≠ r40 := fun z => hx (by rw [z]; exact hz40)
    have a := x43 x hx
    exact qSame_tr a (x55 x (by rw [a.1]; exact hx) hne)
  have hf : ∀ r, gK σ43 r = 0 → gK σ2 r = 0 := fun r hr => by
    by_cases c : gK σ2 r = 0
    · exact c
    · have := (x43 r c).1; omega
  have hz2' := hf r2 hz2
  have hz3' := hf r3 hz3
  have n42 : r40 ≠ r2 := fun z => by rw [z] at hK43; omega
  have n43 : r40 ≠ r3 := fun z => by rw [z] at hK43; omega
  have hA1 := swA_inj (k := 7) (i := nb D) hA hr40
  have hA2 := swA_inj (k := 16) (i := nb D) hA1 hr2
  have hA3 := swA_inj (k := 17) (i := nb D) hA2 hr3
  have hag : ∀ k j, gK σ2 (A k j) ≠ 0 → ¬ ((k = 7 ∨ k = 16 ∨ k = 17) ∧ j = nb D) → swA (swA (swA A 7 (nb D) r40) 16 (nb D) r2) 17 (nb D) r3 k j = A k j := by
    intro k j hk hkj
    have m1 : A k j ≠ r40 := fun z => hk (by rw [z]; exact hz40)
    have m2 : A k j ≠ r2 := fun z => hk (by rw [z]; exact hz2')
    have m3 : A k j ≠ r3 := fun z => hk (by rw [z]; exact hz3')
    have e1 : swA A 7 (nb D) r40 k j = A k j := swA_ne m1 (fun z => hkj ⟨Or.inl z.1, z.2⟩)
    have e2 : swA (swA A 7 (nb D) r40) 16 (nb D) r2 k j = A k j := by rw [swA_ne (by rw [e1]; exact m2) (fun z => hkj ⟨Or.inr (Or.inl z.1), z.2⟩), e1]
    rw [swA_ne (by rw [e2]; exact m3) (fun z => hkj ⟨Or.inr (Or.inr z.1), z.2⟩), e2]
  have h7n : swA (swA (swA A 7 (nb D) r40) 16 (nb D) r2) 17 (nb D) r3 7 (nb D) = r40 := by
    have e1 : swA A 7 (nb D) r40 7 (nb D) = r40 := swA_at
    have e2 : swA (swA A 7 (nb D) r40) 16 (nb D) r2 7 (nb D) = r40 := by rw [swA_ne (by rw [e1]; exact n42) (fun z => absurd z.1 (by decide)), e1]
    rw [swA_ne (by rw [e2]; exact n43) (fun z => absurd z.1 (by decide)), e2]
  have h16n : swA (swA (swA A 7 (nb D) r40) 16 (nb D) r2) 17 (nb D) r3 16 (nb D) = r2 := by
    have e2 : swA (swA A 7 (nb D) r40) 16 (nb D) r2 16 (nb D) = r2 := swA_at
    rw [swA_ne (by rw [e2]; exact fun z => h32 z.symm) (fun z => absurd z.1 (by decide)), e2]
  have h17n : swA (swA (swA A 7 (nb D) r40) 16 (nb D) r2) 17 (nb D) r3 17 (nb D) = r3 := swA_at
  have hagL : ∀ k j, gK σ2 (A k j) ≠ 0 → Liv D k j → swA (swA (swA A 7 (nb D) r40) 16 (nb D) r2) 17 (nb D) r3 k j = A k j := fun k j hk hlv => hag k j hk (fun z => by have := hlv.2.2.1 z.1; omega)
  have hS55 := SR_ext x05 (SR_sw hw.1 hagL hS0)
  have hL55 : ∀ p, p < np D → LaR (swA (swA (swA A 7 (nb D) r40) 16 (nb D) r2) 17 (nb D) r3) D σ55 p := fun p hp2 => LaR_ext hw.1 (SR_sw hw.1 hagL hS0) x05 hp2 (LaR_sw hw.1 hagL hS0 hp2 (CR_La h hw.1 hp2))
  have e00 : swA (swA (swA A 7 (nb D) r40) 16 (nb D) r2) 17 (nb D) r3 0 0 = A 0 0 := hagL 0 0 (by have := h.1.1; omega) (liv (by decide) (by omega) (by omega) (by omega))
  have e30 : swA (swA (swA A 7 (nb D) r40) 16 (nb D) r2) 17 (nb D) r3 3 0 = A 3 0 := hagL 3 0 (by have := h.1.2.2.2.2.2.2.2.2.2.2.1; omega) (liv (by decide) (by omega) (by omega) (by omega))
  have e6q : swA (swA (swA A 7 (nb D) r40) 16 (nb D) r2) 17 (nb D) r3 6 q.toNat = A 6 q.toNat := hagL 6 _ (by have := hPn.1; omega) (liv (by decide) (by omega) (fun _ => hok.2.1) (by omega))
  generalize hBB : swA (swA (swA A 7 (nb D) r40) 16 (nb D) r2) 17 (nb D) r3 = B at *
  have hP55 := (hS55.2.2.2.2.1 _ hok.2.1).1
  have ei : i = (i.toNat : Int) := by omega
  have hlt4 : (hs D q.toNat).length < 4 := by omega
  have hput := spec_putB (g := g) hl hP55 (i := i.toNat) (b := nb D) (by omega) hl4 (by rw [h7n]; exact k1)
  rw [h7n, e6q] at hput
  have hcnt : nb D < 80 := by omega
  have hw1 : WF0 (dNb D q.toNat i.toNat v) := WF0_Nb hw.1 hok.2 hlt4 hcnt (by omega) hv1
  rw [ei]
  rw [show (((i.toNat : Nat) : Int)).toNat = i.toNat from Int.toNat_natCast _]
  refine ⟨by rw [← e6q]; exact hP55.1, _, hput, fun σ63 h63 => ?_⟩
  have hS63 := SR_hs hA3 h63 hS55
  have hN63 : NewB B σ63 q.toNat (nb D) v := by
    unfold NewB
    rw [h7n, h16n, h17n, h63, e6q]
    exact ⟨⟨k1, k2, k3, k4, k5, k6, k7, k8⟩, k9, k10⟩
  have hSg := SR_Nb (i := i.toNat) hA3 hS63 hN63 rfl
  generalize hsg : sL σ63 (B 3 0) ((List.range (nb D + 1)).map (B 7)) = σg at hSg
  have hLR : LR B (dNb D q.toNat i.toNat v) σ63 (hp D q.toNat) := by
    have := SR_LR hSg hw1 (p := hp D q.toNat) (by rw [np_Nb]; exact hpn)
    rw [← hsg] at this
    exact LR_L hA3 (Or.inr rfl) this
  have hpn1 : hp D q.toNat < np (dNb D q.toNat i.toNat v) := by rw [np_Nb]; exact hpn
  have hPg := WF0_Pg hw1 hpn1
  have hP63 := (hS63.2.2.2.2.1 _ hok.2.1).1
  have e283 := hS63.1.2.2.2.2.1
  rw [e00] at e283
  have e201 : gP σ63 201 (A 6 q.toNat) = B 5 (hp D q.toNat) := by rw [← e6q]; exact hP63.2.2.1
  rw [e283, e201]
  have hI63 : gI σ63 = gI σ55 := by rw [h63]; rfl
  have hIg : gI σg = gI σ55 := by rw [← hsg]; exact hI63
  have hfrm : ∀ x, gK σ2 x ≠ 0 → (∀ k i, k < 20 → x ≠ A k i) → qSame σ2 σ63 x := by
    intro x hx hn
    have a := x05 x hx
    have e12 : B 12 q.toNat = A 12 q.toNat := hagL 12 _ (by rw [c12]; decide) (liv (by decide) (by omega) (fun _ => hok.2.1) (by omega))
    refine qSame_tr a ?_
    rw [h63]
    refine ⟨rfl, fun _ => rfl, fun _ => rfl, fun _ => rfl, fun _ => rfl, if_neg (fun z => ?_), rfl⟩
    exact hn 12 q.toNat (by omega) (z.trans e12)
  have hBA : ∀ x, gK σ2 x ≠ 0 → (∀ k i, k < 20 → x ≠ A k i) → ∀ k i, k < 20 → x ≠ B k i := by
    intro x hx hn
    rw [← hBB]
    exact swA_out (by decide) (swA_out (by decide) (swA_out (by decide) hn (fun z => hx (by rw [z]; exact hz40))) (fun z => hx (by rw [z]; exact hz2'))) (fun z => hx (by rw [z]; exact hz3'))
  refine ⟨by rw [← e00]; exact hS63.1.1, by rw [← e6q]; exact hP63.1, hS63.2.1.1, _, spec_tryPage hl hA3 hLR hPg, fun σ73 v75 h73 => ?_⟩
  obtain ⟨hc, hv73⟩ := h73
  have hS73 := SR_chg hA3 (qChg_mono hc (fun fl x z => Or.inl (roW_tr z))) hS63
  have hP73 := (hS73.2.2.2.2.1 _ hok.2.1).1
  have hfr73 : qFrm A σ2 σ73 := by
    intro x hx hn
    have a := hfrm x hx hn
    exact qSame_tr a (frm_chg hc (fun f x z => roW_cls z) x (by rw [a.1]; exact hx) (hBA x hx hn))
  have hagB : ∀ k j, (20 ≤ k ∨ k = 0) → gK σ2 (A k j) ≠ 0 → B k j = A k j := fun k j hk hg => hag k j hg (fun z => by omega)
  rcases hv73 with ⟨rfl, hok1, hT⟩ | ⟨rfl, hno⟩
  · rw [cif_pos ⟨hlt4, hcnt, hok1⟩, cif_pos ⟨⟨hok, by omega, by omega⟩, hv1, hlt4, hcnt, hok1⟩]
    have e282 := hS73.1.2.2.2.1
    rw [e00] at e282
    rw [e282]
    have hL73 : gL σ73 (B 3 0) = (List.range (nb D)).map (B 7) := hS73.1.2.2.2.2.2.2.2.2.2.2.2
    have hK40 : gK σ73 r40 = 1 := by rw [hc.1, h63]; exact k1
    refine ⟨by unfold qR; omega, fun _ => ⟨by rw [← e00]; exact hS73.1.1, hS73.1.2.2.2.2.2.2.2.2.2.2.1, _, spec_add hl hS73.1.2.2.2.2.2.2.2.2.2.2.1 (by omega) (by rw [hL73, List.length_map, List.length_range]; omega), fun σ85 v87 h85 => ?_⟩, fun z => by omega⟩
    obtain ⟨rfl, h85⟩ := h85
    have hlist : gL σ73 (B 3 0) ++ [r40] = (List.range (nb D + 1)).map (B 7) := by
      rw [hL73, List.range_succ, List.map_append, List.map_cons, List.map_nil, h7n]
    rw [hlist] at h85
    have hc85 : qChg (roW B (dNb D q.toNat i.toNat v) (hp D q.toNat) 0 (pn (dNb D q.toNat i.toNat v) (hp D q.toNat))) σg σ85 := by
      rw [h85, ← hsg]; exact qChg_sL hc
    have hT85 : TrP B (dNb D q.toNat i.toNat v) σ85 (hp D q.toNat) := by
      have hI85 : gI σ85 = gI σ73 := by rw [h85]; rfl
      unfold TrP TrR BxR at hT ⊢
      rw [hI85]
      exact hT
    have hBg : ∀ q', q' ∈ row D (hp D q.toNat) → BxR σg (B 13 q') (LB D q') := by
      intro q' hq'
      have := ((hL55 _ hpn).2 q' hq').2.1
      unfold BxR at this ⊢
      rw [hIg]; exact this
    have hS85 : SR B (dNb D q.toNat i.toNat v) σ85 := SR_chg hA3 (qChg_mono hc85 (fun fl x z => Or.inl (roW_tr z))) hSg
    have e85 : gP σ85 201 (A 6 q.toNat) = B 5 (hp D q.toNat) := by
      have := (hS85.2.2.2.2.1 q.toNat (by rw [nq_Nb]; exact hok.2.1)).1.2.2.1
      rw [e6q, hp_Nb] at this
      exact this
    rw [e85]
    have hk6 : gK σ85 (A 6 q.toNat) = 6 := by
      have := (hS85.2.2.2.2.1 q.toNat (by rw [nq_Nb]; exact hok.2.1)).1.1
      rw [e6q] at this
      exact this
    refine ⟨hk6, (hS85.2.2.2.1 _ hpn1).1.1, _, spec_keepT hl hA3 hSg hw1 hpn1 hc85 hok1 hT85 (fun q' hq' => La_Q hw hpn hq' (hBg q' hq')), fun σ95 v97 h95 => ?_⟩
    obtain ⟨m1, m2, -⟩ := h95
    have hfin := keepT_post hA3 hSg hw1 hpn1 hc85 (fun p' hp2 hne => ?_) m1 m2
    · have hB95 := (hfin.1.2.2.2.2.2 (nb D) (by rw [nb_Nb]; omega)).1
      unfold BlR at hB95
      rw [h7n] at hB95
      refine ⟨hB95.1, B, hA3, hagB, hfin.1, fun x hx hn => ?_, by rw [hB95.2.1]; rfl⟩
      have a := hfrm x hx hn
      have hg : qSame σ63 σg x := by
        rw [← hsg]
        exact ⟨rfl, fun _ => rfl, fun _ => rfl, fun _ => rfl, fun _ => rfl, if_neg (hBA x hx hn 3 0 (by decide)), rfl⟩
      have a2 := qSame_tr a hg
      exact qSame_tr a2 (hfin.2 x (by rw [a2.1]; exact hx) (hBA x hx hn))
    · rw [np_Nb] at hp2
      have hh := hom hw.1 hp2
      have hnr : q.toNat ∉ row D p' := fun z => hne ((hh _ z).1).symm
      exact LaR_of (WF0_Pg hw.1 hp2) (hL55 p' hp2) (LyEq_Nb hw.1 hp2 hnr) (fun q' hq2 => ⟨(hh q' hq2).1, by rw [hp_Nb]; exact (hh q' hq2).1, fun b hb => ⟨(hh q' hq2).2 b hb, by
        have h1 := (hw.1.2.1 p' hp2).2.2.2 q' hq2
        have h2 := ((hw.1.2.2.2.2.1 q' h1.1.1).2.2.2.2 h1.1.2 b hb).1.1
        rw [hb_Nb, if_neg (by omega)]; exact (hh q' hq2).2 b hb⟩⟩) (by rw [hIg]) (fun q' hq2 => ⟨by rw [hIg], fun f _ _ => by rw [hIg], fun b hb f _ _ => by rw [hIg]⟩)
  · rw [cif_neg (fun z => hno z.2.2), cif_neg (fun z => hno z.2.2.2.2)]
    refine ⟨by unfold qR; omega, fun z => absurd rfl z, fun _ => ⟨by rw [← e6q]; exact hP73.1, ?_⟩⟩
    have hra : hs (dHs D q.toNat ((hs D q.toNat).insertIdx i.toNat (nb D))) q.toNat = (hs D q.toNat).insertIdx i.toNat (nb D) := by rw [hs_at, if_pos rfl]
    have hlen : ((hs D q.toNat).insertIdx i.toNat (nb D)).length = (hs D q.toNat).length + 1 := by rw [List.length_insertIdx, if_pos (by omega)]
    have htk := spec_takeB (g := g) hl hP73 (i := i.toNat) (by rw [hra, hlen]; omega) (by rw [hra, hlen]; omega)
    rw [hra, List.eraseIdx_insertIdx_self, e6q] at htk
    refine ⟨_, htk, fun σ105 h105 => ?_⟩
    have hS105 := SR_hs hA3 h105 hS73
    have hD : dHs D q.toNat (hs D q.toNat) = D := by
      have := dHs_back (D := D) (q := q.toNat) (xs := hs D q.toNat)
      rw [dHs_dHs] at this
      exact this
    rw [dHs_dHs, hD] at hS105
    have hI105 : gI σ105 = gI σ73 := by rw [h105]; rfl
    refine ⟨B, hA3, hagB, SR_CR hS105 hw.1 (fun p' hp2 => LaR_I (LaR_tr hA3 hw.1 hp2 (LaR_I (hL55 p' hp2) hI63) (qChg_mono hc (fun fl x z => roW_tr z))) hI105), ?_, rfl⟩
    intro x hx hn
    have a := hfr73 x hx hn
    refine qSame_tr a ?_
    rw [h105]
    exact ⟨rfl, fun _ => rfl, fun _ => rfl, fun _ => rfl, fun _ => rfl, if_neg (hBA x hx hn 12 q.toNat (by decide)), rfl⟩
end
