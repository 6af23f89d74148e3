/-! printed: the law's loop -/
section
variable {g : qG} {l : Launch} {L : Nat} {s : Int → Int} {Post : qS → qRs → Prop} {nm : String} {hh : List (Nat × Nat × Nat × Nat)} {sc x m out : Nat}
set_option maxRecDepth 100000 in
set_option maxHeartbeats 4000000 in
theorem law_sw (hl : l.stackTraces = false) {A : Nat → Nat → Nat} {D : qD} {σ : qS} {ca sa : Nat} {i : Int} (hg : scG g sc L s) (hs : atA A sc x m out) (J : LK A L s D D σ) (hw : WF D) (hk : (kp D).length < 512) (hi : 0 ≤ i ∧ i + 6 ≤ L) (kn : ∀ A' D' σ', atA A' sc x m out → LK A' L s D' D' σ' → Nx D D' → qW g l (M_law nm hh) ca sa 2029 [some (vr sc), some (vr x), some (vr m), some (vr out), some (vi i), none, none] [] σ' Post) : qW g l (M_law nm hh) (ca + 16) (sa + 868) 33 [some (vr sc), some (vr x), some (vr m), some (vr out), some (vi i), none, none] [] σ Post := by
  obtain ⟨pa, pi, pv, pr⟩ := LX_f hg hi
  have p0 := pi 0 (by decide) (by decide)
  rw [Int.add_zero] at p0
  refine wp_aload_n dL_law_33 rfl ?_
  refine wp_iload dL_law_34 rfl ?_
  refine wp_ialoadS pa dL_law_36 p0.1 p0.2 ?_
  refine wp_bipush dL_law_37 (by decide) ?_
  refine wp_iand dL_law_39 ?_
  have hz : qR (Int32.ofInt (nrm (scv g i)) &&& Int32.ofInt 63).toInt := by
    have h1 := Int32.toInt_lt (Int32.ofInt (nrm (scv g i)) &&& Int32.ofInt 63)
    have h2 := Int32.le_toInt (Int32.ofInt (nrm (scv g i)) &&& Int32.ofInt 63)
    unfold qR; omega
  generalize (Int32.ofInt (nrm (scv g i)) &&& Int32.ofInt 63).toInt = z at hz
  by_cases c0 : z = 0
  · refine wp_tableIn (off := 148) (tgt := 188) dL_law_40 hz (by omega) (by omega) (by rw [c0]; rfl) (by decide) ?_
    refine wp_less (ac2 := ca + 5) (as2 := sa + 415) (by omega) (by omega) ?_
    exact lc_0 hl hg hs J hw hk hi kn
  by_cases c1 : z = 1
  · refine wp_tableIn (off := 192) (tgt := 232) dL_law_40 hz (by omega) (by omega) (by rw [c1]; rfl) (by decide) ?_
    refine wp_less (ac2 := ca + 16) (as2 := sa + 868) (by omega) (by omega) ?_
    exact lc_1 hl hg hs J hw hk hi kn
  by_cases c2 : z = 2
  · refine wp_tableIn (off := 296) (tgt := 336) dL_law_40 hz (by omega) (by omega) (by rw [c2]; rfl) (by decide) ?_
    refine wp_less (ac2 := ca + 7) (as2 := sa + 818) (by omega) (by omega) ?_
    exact lc_2 hl hg hs J hw hk hi kn
  by_cases c3 : z = 3
  · refine wp_tableIn (off := 364) (tgt := 404) dL_law_40 hz (by omega) (by omega) (by rw [c3]; rfl) (by decide) ?_
    refine wp_less (ac2 := ca + 5) (as2 := sa + 418) (by omega) (by omega) ?_
    exact lc_3 hl hg hs J hw hk hi kn
  by_cases c4 : z = 4
  · refine wp_tableIn (off := 420) (tgt := 460) dL_law_40 hz (by omega) (by omega) (by rw [c4]; rfl) (by decide) ?_
    refine wp_less (ac2 := ca + 9) (as2 := sa + 439) (by omega) (by omega) ?_
    exact lc_4 hl hg hs J hw hk hi kn
  by_cases c5 : z = 5
  · refine wp_tableIn (off := 512) (tgt := 552) dL_law_40 hz (by omega) (by omega) (by rw [c5]; rfl) (by decide) ?_
    refine wp_less (ac2 := ca + 12) (as2 := sa + 845) (by omega) (by omega) ?_
    exact lc_5 hl hg hs J hw hk hi kn
  by_cases c6 : z = 6
  · refine wp_tableIn (off := 592) (tgt := 632) dL_law_40 hz (by omega) (by omega) (by rw [c6]; rfl) (by decide) ?_
    refine wp_less (ac2 := ca + 9) (as2 := sa + 830) (by omega) (by omega) ?_
    exact lc_6 hl hg hs J hw hk hi kn
  by_cases c7 : z = 7
  · refine wp_tableIn (off := 652) (tgt := 692) dL_law_40 hz (by omega) (by omega) (by rw [c7]; rfl) (by decide) ?_
    refine wp_less (ac2 := ca + 5) (as2 := sa + 418) (by omega) (by omega) ?_
    exact lc_7 hl hg hs J hw hk hi kn
  by_cases c8 : z = 8
  · refine wp_tableIn (off := 708) (tgt := 748) dL_law_40 hz (by omega) (by omega) (by rw [c8]; rfl) (by decide) ?_
    refine wp_less (ac2 := ca + 3) (as2 := sa + 18) (by omega) (by omega) ?_
    exact lc_8 hl hg hs J hw hk hi kn
  by_cases c9 : z = 9
  · refine wp_tableIn (off := 776) (tgt := 816) dL_law_40 hz (by omega) (by omega) (by rw [c9]; rfl) (by decide) ?_
    refine wp_less (ac2 := ca + 3) (as2 := sa + 18) (by omega) (by omega) ?_
    exact lc_9 hl hg hs J hw hk hi kn
  by_cases c10 : z = 10
  · refine wp_tableIn (off := 844) (tgt := 884) dL_law_40 hz (by omega) (by omega) (by rw [c10]; rfl) (by decide) ?_
    refine wp_less (ac2 := ca + 3) (as2 := sa + 18) (by omega) (by omega) ?_
    exact lc_10 hl hg hs J hw hk hi kn
  by_cases c11 : z = 11
  · refine wp_tableIn (off := 912) (tgt := 952) dL_law_40 hz (by omega) (by omega) (by rw [c11]; rfl) (by decide) ?_
    refine wp_less (ac2 := ca + 0) (as2 := sa + 0) (by omega) (by omega) ?_
    exact lc_11 hl hg hs J hw hk hi kn
  by_cases c12 : z = 12
  · refine wp_tableIn (off := 925) (tgt := 965) dL_law_40 hz (by omega) (by omega) (by rw [c12]; rfl) (by decide) ?_
    refine wp_less (ac2 := ca + 1) (as2 := sa + 6) (by omega) (by omega) ?_
    exact lc_12 hl hg hs J hw hk hi kn
  by_cases c13 : z = 13
  · refine wp_tableIn (off := 981) (tgt := 1021) dL_law_40 hz (by omega) (by omega) (by rw [c13]; rfl) (by decide) ?_
    refine wp_less (ac2 := ca + 1) (as2 := sa + 6) (by omega) (by omega) ?_
    exact lc_13 hl hg hs J hw hk hi kn
  by_cases c14 : z = 14
  · refine wp_tableIn (off := 1037) (tgt := 1077) dL_law_40 hz (by omega) (by omega) (by rw [c14]; rfl) (by decide) ?_
    refine wp_less (ac2 := ca + 2) (as2 := sa + 12) (by omega) (by omega) ?_
    exact lc_14 hl hg hs J hw hk hi kn
  by_cases c15 : z = 15
  · refine wp_tableIn (off := 1105) (tgt := 1145) dL_law_40 hz (by omega) (by omega) (by rw [c15]; rfl) (by decide) ?_
    refine wp_less (ac2 := ca + 2) (as2 := sa + 12) (by omega) (by omega) ?_
    exact lc_15 hl hg hs J hw hk hi kn
  by_cases c16 : z = 16
  · refine wp_tableIn (off := 1173) (tgt := 1213) dL_law_40 hz (by omega) (by omega) (by rw [c16]; rfl) (by decide) ?_
    refine wp_less (ac2 := ca + 2) (as2 := sa + 12) (by omega) (by omega) ?_
    exact lc_16 hl hg hs J hw hk hi kn
  by_cases c17 : z = 17
  · refine wp_tableIn (off := 1241) (tgt := 1281) dL_law_40 hz (by omega) (by omega) (by rw [c17]; rfl) (by decide) ?_
    refine wp_less (ac2 := ca + 3) (as2 := sa + 18) (by omega) (by omega) ?_
    exact lc_17 hl hg hs J hw hk hi kn
  by_cases c18 : z = 18
  · refine wp_tableIn (off := 1321) (tgt := 1361) dL_law_40 hz (by omega) (by omega) (by rw [c18]; rfl) (by decide) ?_
    refine wp_less (ac2 := ca + 0) (as2 := sa + 0) (by omega) (by omega) ?_
    exact lc_18 hl hg hs J hw hk hi kn
  by_cases c19 : z = 19
  · refine wp_tableIn (off := 1334) (tgt := 1374) dL_law_40 hz (by omega) (by omega) (by rw [c19]; rfl) (by decide) ?_
    refine wp_less (ac2 := ca + 1) (as2 := sa + 6) (by omega) (by omega) ?_
    exact lc_19 hl hg hs J hw hk hi kn
  by_cases c20 : z = 20
  · refine wp_tableIn (off := 1390) (tgt := 1430) dL_law_40 hz (by omega) (by omega) (by rw [c20]; rfl) (by decide) ?_
    refine wp_less (ac2 := ca + 1) (as2 := sa + 6) (by omega) (by omega) ?_
    exact lc_20 hl hg hs J hw hk hi kn
  by_cases c21 : z = 21
  · refine wp_tableIn (off := 1446) (tgt := 1486) dL_law_40 hz (by omega) (by omega) (by rw [c21]; rfl) (by decide) ?_
    refine wp_less (ac2 := ca + 1) (as2 := sa + 6) (by omega) (by omega) ?_
    exact lc_21 hl hg hs J hw hk hi kn
  by_cases c22 : z = 22
  · refine wp_tableIn (off := 1502) (tgt := 1542) dL_law_40 hz (by omega) (by omega) (by rw [c22]; rfl) (by decide) ?_
    refine wp_less (ac2 := ca + 1) (as2 := sa + 6) (by omega) (by omega) ?_
    exact lc_22 hl hg hs J hw hk hi kn
  by_cases c23 : z = 23
  · refine wp_tableIn (off := 1558) (tgt := 1598) dL_law_40 hz (by omega) (by omega) (by rw [c23]; rfl) (by decide) ?_
    refine wp_less (ac2 := ca + 3) (as2 := sa + 18) (by omega) (by omega) ?_
    exact lc_23 hl hg hs J hw hk hi kn
  by_cases c24 : z = 24
  · refine wp_tableIn (off := 1621) (tgt := 1661) dL_law_40 hz (by omega) (by omega) (by rw [c24]; rfl) (by decide) ?_
    refine wp_less (ac2 := ca + 1) (as2 := sa + 6) (by omega) (by omega) ?_
    exact lc_24 hl hg hs J hw hk hi kn
  by_cases c25 : z = 25
  · refine wp_tableIn (off := 1677) (tgt := 1717) dL_law_40 hz (by omega) (by omega) (by rw [c25]; rfl) (by decide) ?_
    refine wp_less (ac2 := ca + 2) (as2 := sa + 12) (by omega) (by omega) ?_
    exact lc_25 hl hg hs J hw hk hi kn
  by_cases c26 : z = 26
  · refine wp_tableIn (off := 1745) (tgt := 1785) dL_law_40 hz (by omega) (by omega) (by rw [c26]; rfl) (by decide) ?_
    refine wp_less (ac2 := ca + 2) (as2 := sa + 12) (by omega) (by omega) ?_
    exact lc_26 hl hg hs J hw hk hi kn
  by_cases c27 : z = 27
  · refine wp_tableIn (off := 1813) (tgt := 1853) dL_law_40 hz (by omega) (by omega) (by rw [c27]; rfl) (by decide) ?_
    refine wp_less (ac2 := ca + 2) (as2 := sa + 12) (by omega) (by omega) ?_
    exact lc_27 hl hg hs J hw hk hi kn
  by_cases c28 : z = 28
  · refine wp_tableIn (off := 1881) (tgt := 1921) dL_law_40 hz (by omega) (by omega) (by rw [c28]; rfl) (by decide) ?_
    refine wp_less (ac2 := ca + 0) (as2 := sa + 0) (by omega) (by omega) ?_
    exact lc_28 hl hg hs J hw hk hi kn
  by_cases c29 : z = 29
  · refine wp_tableIn (off := 1894) (tgt := 1934) dL_law_40 hz (by omega) (by omega) (by rw [c29]; rfl) (by decide) ?_
    refine wp_less (ac2 := ca + 0) (as2 := sa + 0) (by omega) (by omega) ?_
    exact lc_29 hl hg hs J hw hk hi kn
  by_cases c30 : z = 30
  · refine wp_tableIn (off := 1907) (tgt := 1947) dL_law_40 hz (by omega) (by omega) (by rw [c30]; rfl) (by decide) ?_
    refine wp_less (ac2 := ca + 1) (as2 := sa + 6) (by omega) (by omega) ?_
    exact lc_30 hl hg hs J hw hk hi kn
  by_cases c31 : z = 31
  · refine wp_tableIn (off := 1963) (tgt := 2003) dL_law_40 hz (by omega) (by omega) (by rw [c31]; rfl) (by decide) ?_
    refine wp_less (ac2 := ca + 0) (as2 := sa + 0) (by omega) (by omega) ?_
    exact lc_31 hl hg hs J hw hk hi kn
  by_cases c32 : z = 32
  · refine wp_tableIn (off := 1976) (tgt := 2016) dL_law_40 hz (by omega) (by omega) (by rw [c32]; rfl) (by decide) ?_
    refine wp_less (ac2 := ca + 0) (as2 := sa + 0) (by omega) (by omega) ?_
    exact lc_32 hl hg hs J hw hk hi kn
  refine wp_tableOut (tgt := 2029) dL_law_40 hz (by omega) (by decide) ?_
  exact wp_less (ac2 := ca) (as2 := sa) (by omega) (by omega) (kn A D σ hs J ⟨hw, Nat.le_succ _⟩)
theorem law_loop (hl : l.stackTraces = false) (hL : L ≤ 3072) (hg : scG g sc L s) (hP : ∀ σ, Post σ (.inl (some (vi 1)))) : ∀ (k : Nat) (i : Int) (A : Nat → Nat → Nat) (D : qD) (σ : qS), (0 ≤ i ∧ i ≤ 4000) → atA A sc x m out → LK A L s D D σ → WF D → ((kp D).length : Int) * 6 ≤ i → (L : Int) - i < 6 * (k : Int) + 6 → qW g l (M_law nm hh) (16 * k) (868 * k) 23 [some (vr sc), some (vr x), some (vr m), some (vr out), some (vi i), none, none] [] σ Post := by
  intro k
  induction k with
  | zero =>
    intro i A D σ h0 hs J hw hkp hm
    have hN : (g.2.2.1 9 : Int) = L := by have := hg.2.1; omega
    refine wp_iload dL_law_23 rfl ?_
    refine wp_aload_n dL_law_25 rfl ?_
    refine wp_alenS hg.1 dL_law_26 ?_
    rw [hN]
    refine wp_bipush dL_law_27 (by decide) ?_
    refine wp_isub dL_law_29 ?_
    refine wp_icmp_gt (tgt := 2035) dL_law_30 (by decide) (by unfold qR; omega) (by unfold qR; omega) (fun _ => ?_) (fun c9 => ?_)
    · refine wp_iconst dL_law_2035 ?_
      exact wp_ret_z dL_law_2036 rfl (Or.inr rfl) (hP σ)
    · omega
  | succ k ih =>
    intro i A D σ h0 hs J hw hkp hm
    have hN : (g.2.2.1 9 : Int) = L := by have := hg.2.1; omega
    refine wp_iload dL_law_23 rfl ?_
    refine wp_aload_n dL_law_25 rfl ?_
    refine wp_alenS hg.1 dL_law_26 ?_
    rw [hN]
    refine wp_bipush dL_law_27 (by decide) ?_
    refine wp_isub dL_law_29 ?_
    refine wp_icmp_gt (tgt := 2035) dL_law_30 (by decide) (by unfold qR; omega) (by unfold qR; omega) (fun _ => ?_) (fun c9 => ?_)
    · refine wp_iconst dL_law_2035 ?_
      exact wp_ret_z dL_law_2036 rfl (Or.inr rfl) (hP σ)
    · show qW g l (M_law nm hh) (16 * k + 16) (868 * k + 868) 33 [some (vr sc), some (vr x), some (vr m), some (vr out), some (vi i), none, none] [] σ Post
      refine law_sw hl hg hs J hw (by omega) ⟨h0.1, by omega⟩ (fun A' D' σ' hs' J' N' => ?_)
      have hN2 := N'.2
      refine wp_iinc' (z' := i + 6) (ls' := [some (vr sc), some (vr x), some (vr m), some (vr out), some (vi (i + 6)), none, none]) dL_law_2029 (Nat.le_of_ble_eq_true rfl) rfl rfl rfl ?_
      refine wp_goto (tgt := 23) dL_law_2032 (by decide) ?_
      exact ih (i + 6) A' D' σ' ⟨by omega, by omega⟩ hs' J' N'.1 (by omega) (by omega)
end
