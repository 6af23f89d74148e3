/-! p36: a turn of the law, and its loop -/
abbrev lQ (sc x pg mn fa of : Nat) (nP nB aN tn : Int) : List (Option qV) := [some (vr sc), some (vr x), some (vr pg), some (vr mn), some (vr fa), some (vr of), some (vi nP), some (vi nB), some (vi aN), some (vi tn), none, none, none, none, none, none, none, none, none, none]
section
variable {g : qG} {l : Launch} {nm : String} {hh : List (Nat × Nat × Nat × Nat)} {ca sa : Nat} {A : Nat → Nat → Nat} {D : qD} {σ : qS} {Post : qS → qRs → Prop} {sc x pg mn fa of : Nat} {nP nB aN tn v w wh p b it iu : Int} {K : Nat}
theorem law_tail (hl : l.stackTraces = false) (h : Lw A D σ x pg mn fa of nP nB aN K) (kn : qW g l (M_law nm hh) ca sa 1151 (lQ sc x pg mn fa of nP nB aN tn) [] σ Post) : qW g l (M_law nm hh) (ca + 2100) (sa + 12200) 1014 (lT sc x pg mn fa of nP nB aN tn w) [] σ Post := by
  obtain ⟨hB, hct, rfl, rfl, ha, hno, hk⟩ := h
  have hS := hB.2.2.2.2.1
  have hw := hB.2.2.2.1
  have hnp := hS.1
  have hnb := hS.2.2.1
  have hcb := ct_n (P := fun b => gb D b = 0) (nb D)
  have fin : ∀ bb : Int, (0 ≤ bb ∧ ((nb D : Int) ≠ 0 → bb < nb D)) → (qR (nb D : Int) ∧ (((nb D : Int) ≤ 0 → qW g l (M_law nm hh) ca sa 1151 (lQ sc x pg mn fa of (nq D) (nb D) aN tn) [] σ Post) ∧ (¬ ((nb D : Int) ≤ 0) → q_isA σ 0 of ∧ q_in σ of bb ∧ qR (gA σ of bb) ∧ (((gA σ of bb) < 0 → qW g l (M_law nm hh) ca sa 1151 (lQ sc x pg mn fa of (nq D) (nb D) aN tn) [] σ Post) ∧ (¬ ((gA σ of bb) < 0) → (∃ (Mid18 : qS → Int → Prop) (MidX19 : qS → Nat → Prop), qMet g l M_L_isBalloon [vr x, vi bb, vi (gA σ of bb)] σ (qTi Mid18 MidX19) ∧ (∀ (σ22 : qS) (v24 : Int), Mid18 σ22 v24 → qR v24 ∧ ((¬ v24 = 0 → qW g l (M_law nm hh) ca sa 1151 (lQ sc x pg mn fa of (nq D) (nb D) aN tn) [] σ22 Post) ∧ (v24 = 0 → Post σ22 (.inl (some (vi 0)))))) ∧ (∀ (σ9 : qS) (n9 : Nat), ¬ MidX19 σ9 n9))))))) := by
    intro bb hbb
    refine ⟨by unfold qR; omega, fun _ => kn, fun hpos => ?_⟩
    obtain ⟨c, rfl⟩ := Int.eq_ofNat_of_zero_le hbb.1
    have hcn : c < nb D := by have := hbb.2 (by omega); omega
    have hg4 := hct.2.2.2 c hcn
    have hhb := (hw.1.2.2.2.2.2.1 c hcn).2.1
    have hnq := hS.2.1
    refine ⟨Lw_A hB rof, Lw_in hB rof ⟨by omega, by omega⟩, ?_, fun _ => kn, fun hge => ?_⟩
    · rw [hg4]
      split <;> (unfold qR; omega)
    have hgb : gb D c = 0 := by
      by_cases z : gb D c = 0
      · exact z
      · rw [hg4, if_neg z] at hge; omega
    rw [hg4, if_pos hgb]
    refine ⟨_, _, lq_isBalloon hl hB ⟨hcn, hgb⟩, fun σ2 v2 hM => ?_, fun _ _ z => z⟩
    obtain ⟨rfl, rfl⟩ := hM
    exact ⟨by unfold qR; omega, fun _ => kn, fun z => absurd z (by decide)⟩
  have t3 : ∀ bb : Int, (0 ≤ bb ∧ ((nb D : Int) ≠ 0 → bb < nb D)) → qW g l (M_law nm hh) (ca + 2100) (sa + 12200) 1069 [some (vr sc), some (vr x), some (vr pg), some (vr mn), some (vr fa), some (vr of), some (vi (nq D)), some (vi (nb D)), some (vi aN), some (vi tn), none, some (vi w), none, none, none, none, none, some (vi 1), some (vi (o_balloons D)), none] [vi bb] σ Post := by
    intro bb hbb
    have hob : o_balloons D = ct (fun b => gb D b = 0) (nb D) := rfl
    refine ls_t3 hl ⟨Lb_x hB, _, lq_balloons hl hB, by rw [hob]; unfold qR; omega, by rw [hob]; unfold qR; omega, fun z => absurd rfl z, fun _ => ⟨_, lq_pages hl hB, by unfold qR; omega, fun _ => fin bb hbb, fun hne => ?_⟩⟩
    obtain ⟨z1, m1, a1, c1⟩ := spec_low (g := g) (σ := σ) hl (v := (Int32.ofInt w >>> (Int32.ofInt 4 &&& 31)).toInt) (n := (np D : Int)) ⟨by omega, by omega⟩
    obtain ⟨pp, rfl⟩ := Int.eq_ofNat_of_zero_le a1
    refine ⟨_, lq_pages hl hB, _, m1, _, _, lq_isPage hl hB (by omega), fun σ2 v2 hM => ?_, fun _ _ z => z⟩
    obtain ⟨rfl, rfl⟩ := hM
    refine ⟨by unfold qR; omega, fun v41 h41 => ?_⟩
    rw [if_neg (by decide)] at h41
    subst h41
    exact ⟨fun z => absurd z (by decide), fun _ => fin bb hbb⟩
  have t2 : qW g l (M_law nm hh) (ca + 2100) (sa + 12200) 1051 [some (vr sc), some (vr x), some (vr pg), some (vr mn), some (vr fa), some (vr of), some (vi (nq D)), some (vi (nb D)), some (vi aN), some (vi tn), none, some (vi w), none, none, none, none, none, some (vi 1), some (vi (o_balloons D)), none] [] σ Post := by
    refine ls_t2 hl ⟨by unfold qR; omega, fun hne => ?_, fun hz => t3 0 ⟨by decide, fun z => absurd hz z⟩⟩
    obtain ⟨z1, m1, a1, c1⟩ := spec_low (g := g) (σ := σ) hl (v := (Int32.ofInt w >>> (Int32.ofInt 5 &&& 31)).toInt) (n := (nb D : Int)) ⟨by omega, by omega⟩
    exact ⟨_, m1, t3 z1 ⟨a1, fun _ => c1⟩⟩
  refine ls_up hl ⟨fun n x1 x2 => ∃ k : Nat, x2 = k ∧ k ≤ nb D ∧ x1 = ct (fun b => gb D b = 0) k ∧ n = nb D - k, ⟨nb D, by omega, 0, rfl, Nat.zero_le _, rfl, rfl⟩, ?_⟩
  rintro n x1 x2 ⟨k, rfl, hkn, rfl, rfl⟩
  refine ⟨by unfold qR; omega, by unfold qR; omega, fun hd => ?_, fun hd => ?_⟩
  · have ek : k = nb D := by omega
    subst ek
    exact t2
  · have hkn2 : k < nb D := by omega
    have hg4 := hct.2.2.2 k hkn2
    have hhb := (hw.1.2.2.2.2.2.1 k hkn2).2.1
    have hnq := hS.2.1
    refine ⟨Lw_A hB rof, Lw_in hB rof ⟨by omega, by omega⟩, by rw [hg4]; split <;> (unfold qR; omega), fun v16 h16 x22 h22 x24 h24 => ⟨nb D - (k + 1), by omega, k + 1, by omega, by omega, ?_, rfl⟩⟩
    rw [hg4] at h16
    rw [h22, ct_s]
    by_cases z : gb D k = 0
    · rw [if_pos z, if_neg (by omega)] at h16
      rw [if_pos z, h16]
    · rw [if_neg z, if_pos (by omega)] at h16
      rw [if_neg z, h16]
/-- what comes of the call that a turn picks -/
theorem law_disp (hl : l.stackTraces = false) (h : Lw A D σ x pg mn fa of nP nB aN K) (hK : K ≤ 400) (hwh : 0 ≤ wh ∧ wh < 16) (hit : it = 0 ∨ (it = 1 ∧ ∃ q : Nat, p = (q : Int) ∧ alP D q)) (hiu : iu = 0 ∨ (iu = 1 ∧ ∃ q : Nat, b = (q : Int) ∧ alB D q)) (kn : Kn g l nm hh ca sa Post sc x pg mn fa of tn w (K + 3)) : qW g l (M_law nm hh) (ca + 200) (sa + 4000) 160 (l3 sc x pg mn fa of nP nB aN tn v w wh p b it iu) [] σ Post := by
  have h0 := h
  obtain ⟨hB, hct, e5, e6, ha, hno, hk⟩ := h
  have hS := hB.2.2.2.2.1
  have hnp := hS.1
  have hnq := hS.2.1
  have hnb := hS.2.2.1
  have go : 0 < np D → qW g l (M_law nm hh) (ca + 200) (sa + 4000) 204 (l3 sc x pg mn fa of nP nB aN tn v w wh p b it iu) [] σ Post := by
    intro hpos
    refine ls_e hl ⟨by unfold qR; omega, fun _ => ⟨fun _ => ⟨fun _ => ⟨fun _ => ⟨fun _ => ⟨fun _ => ⟨fun _ => ⟨fun _ => ?_, fun _ => ⟨fun _ => ?_, fun _ => ?_⟩⟩, fun _ => ?_⟩, fun _ => ?_⟩, fun _ => ?_⟩, fun _ => ?_⟩, fun _ => ?_⟩, fun _ => ?_⟩, fun _ => ?_⟩
    · exact op_rd hl h0 hK kn
    · exact op_gr hl h0 kn
    · exact op_tr hl h0 hpos kn
    · exact op_cut hl h0 hK hit hiu kn
    · refine ls_an0 hl ⟨by unfold qR; omega, fun hne => ?_, fun hz => op_an hl h0 hK hiu ⟨by decide, fun z => absurd hz z⟩ kn⟩
      obtain ⟨z1, m1, a1, c1⟩ := spec_low (g := g) (σ := σ) hl (v := (Int32.ofInt w >>> (Int32.ofInt 9 &&& 31)).toInt) (n := nB) ⟨by omega, by omega⟩
      exact ⟨_, m1, op_an hl h0 hK hiu ⟨a1, fun _ => c1⟩ kn⟩
    · refine ls_mb0 hl ⟨by unfold qR; omega, fun hne => ?_, fun hz => op_mb hl h0 hK hiu ⟨by decide, fun z => absurd hz z⟩ kn⟩
      obtain ⟨z1, m1, a1, c1⟩ := spec_low (g := g) (σ := σ) hl (v := (Int32.ofInt w >>> (Int32.ofInt 6 &&& 31)).toInt) (n := nP) ⟨by omega, by omega⟩
      exact ⟨_, m1, op_mb hl h0 hK hiu ⟨a1, fun _ => c1⟩ kn⟩
    · exact op_movep hl h0 hK hit kn
    · exact op_face hl h0 hit kn
    · exact op_balloon hl h0 hit kn
    · exact op_panel hl h0 hpos kn
  refine ls_d hl ⟨Lb_x hB, _, lq_pages hl hB, by unfold qR; omega, fun hlt => op_page hl h0 (by omega) kn, fun hge => ⟨by unfold qR; omega, fun _ => go (by omega), fun _ => ⟨_, lq_pages hl hB, by unfold qR; omega, fun _ => go (by omega), fun hlt => op_page hl h0 (by omega) kn⟩⟩⟩
theorem law_turn (hl : l.stackTraces = false) (hsc : sc = g.2.2.1 8 + 1) (hL : @LE.le Nat instLENat (g.2.2.1 9) 3072) (h : Lw A D σ x pg mn fa of nP nB aN K) (hK : K ≤ 400) (ht : 0 ≤ tn ∧ tn < 60) (kn : ∀ (A' : Nat → Nat → Nat) (D' : qD) (σ' : qS) (nP' nB' aN' : Int), Lw A' D' σ' x pg mn fa of nP' nB' aN' (K + 3) → qW g l (M_law nm hh) ca sa 1151 (lQ sc x pg mn fa of nP' nB' aN' tn) [] σ' Post) : qW g l (M_law nm hh) (ca + 2300) (sa + 16200) 49 (lQ sc x pg mn fa of nP nB aN tn) [] σ Post := by
  have h0 := h
  obtain ⟨hB, hct, e5, e6, ha, hno, hk⟩ := h
  have hS := hB.2.2.2.2.1
  have hw := hB.2.2.2.1
  have hnq := hS.2.1
  have hnb := hS.2.2.1
  obtain ⟨v, mv⟩ := spec_lcell (g := g) (σ := σ) hl hsc hL (k := 2 * tn) ⟨by omega, by omega⟩
  obtain ⟨w, mw⟩ := spec_lcell (g := g) (σ := σ) hl hsc hL (k := 2 * tn + 1) ⟨by omega, by omega⟩
  obtain ⟨wh, mwh, w0, w1⟩ := spec_low (g := g) (σ := σ) hl (v := v) (n := 16) ⟨by decide, by decide⟩
  have cont : Kn g l nm hh (ca + 2100) (sa + 12200) Post sc x pg mn fa of tn w (K + 3) := fun A' D' σ' nP' nB' aN' h' => law_tail hl h' (kn A' D' σ' nP' nB' aN' h')
  have sC : ∀ p b : Int, (0 ≤ p ∧ (nP ≠ 0 → p < nP)) → (0 ≤ b ∧ (nB ≠ 0 → b < nB)) → qW g l (M_law nm hh) (ca + 2300) (sa + 16200) 116 [some (vr sc), some (vr x), some (vr pg), some (vr mn), some (vr fa), some (vr of), some (vi nP), some (vi nB), some (vi aN), some (vi tn), some (vi v), some (vi w), some (vi wh), some (vi p), none, none, none, none, none, none] [vi b] σ Post := by
    intro p b hp' hb'
    have gp : 0 < nP → ∃ q : Nat, p = (q : Int) ∧ q < nq D ∧ gA σ pg p = (if gq D q = 0 then (hp D q : Int) else -1) := by
      intro hpos
      obtain ⟨q, rfl⟩ := Int.eq_ofNat_of_zero_le hp'.1
      have hqn : q < nq D := by have := hp'.2 (by omega); omega
      exact ⟨q, rfl, hqn, hct.1 q hqn⟩
    have gb' : 0 < nB → ∃ q : Nat, b = (q : Int) ∧ q < nb D ∧ gA σ of b = (if gb D q = 0 then (hb D q : Int) else -1) := by
      intro hpos
      obtain ⟨q, rfl⟩ := Int.eq_ofNat_of_zero_le hb'.1
      have hqn : q < nb D := by have := hb'.2 (by omega); omega
      exact ⟨q, rfl, hqn, hct.2.2.2 q hqn⟩
    have hnp := hw.1.1
    refine ls_c hl ⟨⟨by unfold qR; omega, fun hpos => ?_⟩, fun it h7 => ⟨⟨by unfold qR; omega, fun hpos => ?_⟩, fun iu h19 => ?_⟩⟩
    · obtain ⟨q, rfl, hqn, hg⟩ := gp (by omega)
      have := (hw.1.2.2.2.2.1 q hqn).2.1
      refine ⟨Lw_A hB rpg, Lw_in hB rpg ⟨by omega, by omega⟩, ?_⟩
      rw [hg]
      split <;> (unfold qR; omega)
    · obtain ⟨q, rfl, hqn, hg⟩ := gb' (by omega)
      have := (hw.1.2.2.2.2.2.1 q hqn).2.1
      refine ⟨Lw_A hB rof, Lw_in hB rof ⟨by omega, by omega⟩, ?_⟩
      rw [hg]
      split <;> (unfold qR; omega)
    · refine law_disp (ca := ca + 2100) (sa := sa + 12200) hl h0 hK ⟨w0, w1⟩ ?_ ?_ cont
      · by_cases c : nP ≤ 0
        · rw [if_pos c] at h7; exact Or.inl h7
        · rw [if_neg c] at h7
          obtain ⟨q, e, hqn, hg⟩ := gp (by omega)
          by_cases z : gq D q = 0
          · rw [hg, if_pos z, if_neg (by omega)] at h7
            exact Or.inr ⟨h7, q, e, hqn, z⟩
          · rw [hg, if_neg z, if_pos (by decide)] at h7
            exact Or.inl h7
      · by_cases c : nB ≤ 0
        · rw [if_pos c] at h19; exact Or.inl h19
        · rw [if_neg c] at h19
          obtain ⟨q, e, hqn, hg⟩ := gb' (by omega)
          by_cases z : gb D q = 0
          · rw [hg, if_pos z, if_neg (by omega)] at h19
            exact Or.inr ⟨h19, q, e, hqn, z⟩
          · rw [hg, if_neg z, if_pos (by decide)] at h19
            exact Or.inl h19
  have sB : ∀ p : Int, (0 ≤ p ∧ (nP ≠ 0 → p < nP)) → qW g l (M_law nm hh) (ca + 2300) (sa + 16200) 96 [some (vr sc), some (vr x), some (vr pg), some (vr mn), some (vr fa), some (vr of), some (vi nP), some (vi nB), some (vi aN), some (vi tn), some (vi v), some (vi w), some (vi wh), none, none, none, none, none, none, none] [vi p] σ Post := by
    intro p hp'
    refine ls_b hl ⟨by unfold qR; omega, fun hne => ?_, fun hz => sC p 0 hp' ⟨by decide, fun z => absurd hz z⟩⟩
    obtain ⟨z1, m1, a1, c1⟩ := spec_low (g := g) (σ := σ) hl (v := (Int32.ofInt w >>> (Int32.ofInt 3 &&& 31)).toInt) (n := nB) ⟨by omega, by omega⟩
    exact ⟨_, m1, sC p z1 hp' ⟨a1, fun _ => c1⟩⟩
  refine ls_a hl ⟨_, mv, _, mw, _, mwh, by unfold qR; omega, fun hne => ?_, fun hz => sB 0 ⟨by decide, fun z => absurd hz z⟩⟩
  obtain ⟨z1, m1, a1, c1⟩ := spec_low (g := g) (σ := σ) hl (v := w) (n := nP) ⟨by omega, by omega⟩
  exact ⟨_, m1, sB z1 ⟨a1, fun _ => c1⟩⟩
theorem law_loop (hl : l.stackTraces = false) (hsc : sc = g.2.2.1 8 + 1) (hL : @LE.le Nat instLENat (g.2.2.1 9) 3072) (hP : ∀ σ, Post σ (.inl (some (vi 1)))) : ∀ (k i : Nat) (A : Nat → Nat → Nat) (D : qD) (σ : qS) (nP nB aN : Int), i + k = 60 → Lw A D σ x pg mn fa of nP nB aN (3 * i) → qW g l (M_law nm hh) (2300 * k) (16200 * k) 42 (lQ sc x pg mn fa of nP nB aN (i : Int)) [] σ Post := by
  intro k
  induction k with
  | zero =>
    intro i A D σ nP nB aN hik h
    refine wp_iload dL_law_42 rfl ?_
    refine wp_bipush dL_law_44 (by decide) ?_
    refine wp_icmp_ge (tgt := 1157) dL_law_46 (by decide) (by unfold qR; omega) (by unfold qR; omega) (fun _ => ?_) (fun c9 => absurd (by omega) c9)
    refine wp_iconst dL_law_1157 ?_
    exact wp_ret_z dL_law_1158 rfl (Or.inr rfl) (hP σ)
  | succ k ih =>
    intro i A D σ nP nB aN hik h
    refine wp_iload dL_law_42 rfl ?_
    refine wp_bipush dL_law_44 (by decide) ?_
    refine wp_icmp_ge (tgt := 1157) dL_law_46 (by decide) (by unfold qR; omega) (by unfold qR; omega) (fun c9 => absurd c9 (by omega)) (fun _ => ?_)
    show qW g l (M_law nm hh) (2300 * k + 2300) (16200 * k + 16200) 49 (lQ sc x pg mn fa of nP nB aN (i : Int)) [] σ Post
    refine law_turn hl hsc hL h (by omega) ⟨by omega, by omega⟩ (fun A' D' σ' nP' nB' aN' h' => ?_)
    refine wp_iinc' (z' := ((i + 1 : Nat) : Int)) (ls' := lQ sc x pg mn fa of nP' nB' aN' ((i + 1 : Nat) : Int)) dL_law_1151 (Nat.le_of_ble_eq_true rfl) rfl (by omega) rfl ?_
    refine wp_goto (tgt := 42) dL_law_1154 (by decide) ?_
    exact ih (i + 1) A' D' σ' nP' nB' aN' (by omega) h'
end
