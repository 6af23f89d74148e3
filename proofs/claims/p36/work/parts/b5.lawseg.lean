/-! printed: the body of the law, in segments -/
def M_law (nm : String) (hh : List (Nat × Nat × Nat × Nat)) : qM := (⟨RL, nm, "([I)Z"⟩, cL_law, 20, some .boolean, room_1, hh)
section
variable {g : qG} {l : Launch} {nm : String} {hh : List (Nat × Nat × Nat × Nat)} {ca sa : Nat} {σ : qS} {Post : qS → qRs → Prop}
set_option maxRecDepth 100000 in
set_option maxHeartbeats 4000000 in
theorem ls_a (hl : l.stackTraces = false) {sc : Nat} {x : Nat} {pg : Nat} {mn : Nat} {fa : Nat} {of : Nat} {nP : Int} {nB : Int} {aN : Int} {tn : Int}
    (h : (∃ v2 : Int, qMet g l M_L_cell [vr sc, vi (2 * tn)] σ (qPi σ v2) ∧ ((∃ v4 : Int, qMet g l M_L_cell [vr sc, vi ((2 * tn) + 1)] σ (qPi σ v4) ∧ ((∃ v6 : Int, qMet g l M_L_low [vi v2, vi 16] σ (qPi σ v6) ∧ (qR nP ∧ ((¬ nP = 0 → (∃ v10 : Int, qMet g l M_L_low [vi v4, vi nP] σ (qPi σ v10) ∧ (qW g l (M_law nm hh) ca sa 96 [some (vr sc), some (vr x), some (vr pg), some (vr mn), some (vr fa), some (vr of), some (vi nP), some (vi nB), some (vi aN), some (vi tn), some (vi v2), some (vi v4), some (vi v6), none, none, none, none, none, none, none] [vi v10] σ Post))) ∧ (nP = 0 → qW g l (M_law nm hh) ca sa 96 [some (vr sc), some (vr x), some (vr pg), some (vr mn), some (vr fa), some (vr of), some (vi nP), some (vi nB), some (vi aN), some (vi tn), some (vi v2), some (vi v4), some (vi v6), none, none, none, none, none, none, none] [vi 0] σ Post))))))))) : qW g l (M_law nm hh) ca sa 49 [some (vr sc), some (vr x), some (vr pg), some (vr mn), some (vr fa), some (vr of), some (vi nP), some (vi nB), some (vi aN), some (vi tn), none, none, none, none, none, none, none, none, none, none] [] σ Post := by
  refine wp_aload_n dL_law_49 rfl ?_
  refine wp_iconst dL_law_50 ?_
  refine wp_iload dL_law_51 rfl ?_
  refine wp_imul dL_law_53 ?_
  obtain ⟨v2, hm1, h⟩ := h
  refine wp_callS (M' := M_L_cell) (As := [vr sc, vi (2 * tn)]) (st := []) dL_law_54 cee_L_cell np_L_cell rfl ⟨Nat.le_of_ble_eq_true rfl, Nat.le_of_ble_eq_true rfl, by show 0 ≤ ca; omega, by show 0 ≤ sa; omega⟩ wd_783 wd_784 (q_small_of (Nat.le_of_ble_eq_true rfl)) hm1 (q_kPi ?_) q_kPi0
  refine wp_less (ac2 := ca) (as2 := sa) (by show ca ≤ ca - 0; omega) (by show sa ≤ sa - 0; omega) ?_
  refine wp_istore' (ls' := [some (vr sc), some (vr x), some (vr pg), some (vr mn), some (vr fa), some (vr of), some (vi nP), some (vi nB), some (vi aN), some (vi tn), some (vi v2), none, none, none, none, none, none, none, none, none]) dL_law_57 (Nat.le_of_ble_eq_true rfl) rfl ?_
  refine wp_aload_n dL_law_59 rfl ?_
  refine wp_iconst dL_law_60 ?_
  refine wp_iload dL_law_61 rfl ?_
  refine wp_imul dL_law_63 ?_
  refine wp_iconst dL_law_64 ?_
  refine wp_iadd dL_law_65 ?_
  obtain ⟨v4, hm3, h⟩ := h
  refine wp_callS (M' := M_L_cell) (As := [vr sc, vi ((2 * tn) + 1)]) (st := []) dL_law_66 cee_L_cell np_L_cell rfl ⟨Nat.le_of_ble_eq_true rfl, Nat.le_of_ble_eq_true rfl, by show 0 ≤ ca; omega, by show 0 ≤ sa; omega⟩ wd_783 wd_784 (q_small_of (Nat.le_of_ble_eq_true rfl)) hm3 (q_kPi ?_) q_kPi0
  refine wp_less (ac2 := ca) (as2 := sa) (by show ca ≤ ca - 0; omega) (by show sa ≤ sa - 0; omega) ?_
  refine wp_istore' (ls' := [some (vr sc), some (vr x), some (vr pg), some (vr mn), some (vr fa), some (vr of), some (vi nP), some (vi nB), some (vi aN), some (vi tn), some (vi v2), some (vi v4), none, none, none, none, none, none, none, none]) dL_law_69 (Nat.le_of_ble_eq_true rfl) rfl ?_
  refine wp_iload dL_law_71 rfl ?_
  refine wp_bipush dL_law_73 (by decide) ?_
  obtain ⟨v6, hm5, h⟩ := h
  refine wp_callS (M' := M_L_low) (As := [vi v2, vi 16]) (st := []) dL_law_75 cee_L_low np_L_low rfl ⟨Nat.le_of_ble_eq_true rfl, Nat.le_of_ble_eq_true rfl, by show 0 ≤ ca; omega, by show 0 ≤ sa; omega⟩ wd_786 wd_787 (q_small_of (Nat.le_of_ble_eq_true rfl)) hm5 (q_kPi ?_) q_kPi0
  refine wp_less (ac2 := ca) (as2 := sa) (by show ca ≤ ca - 0; omega) (by show sa ≤ sa - 0; omega) ?_
  refine wp_istore' (ls' := [some (vr sc), some (vr x), some (vr pg), some (vr mn), some (vr fa), some (vr of), some (vi nP), some (vi nB), some (vi aN), some (vi tn), some (vi v2), some (vi v4), some (vi v6), none, none, none, none, none, none, none]) dL_law_78 (Nat.le_of_ble_eq_true rfl) rfl ?_
  refine wp_iload dL_law_80 rfl ?_
  obtain ⟨hr7, h⟩ := h
  refine wp_if_ne (tgt := 89) dL_law_82 (by decide) hr7 (fun c8 => ?_) (fun c8 => ?_)
  · replace h := h.1 c8
    refine wp_iload dL_law_89 rfl ?_
    refine wp_iload dL_law_91 rfl ?_
    obtain ⟨v10, hm9, h⟩ := h
    refine wp_callS (M' := M_L_low) (As := [vi v4, vi nP]) (st := []) dL_law_93 cee_L_low np_L_low rfl ⟨Nat.le_of_ble_eq_true rfl, Nat.le_of_ble_eq_true rfl, by show 0 ≤ ca; omega, by show 0 ≤ sa; omega⟩ wd_786 wd_787 (q_small_of (Nat.le_of_ble_eq_true rfl)) hm9 (q_kPi ?_) q_kPi0
    refine wp_less (ac2 := ca) (as2 := sa) (by show ca ≤ ca - 0; omega) (by show sa ≤ sa - 0; omega) ?_
    exact wp_less (ac2 := ca) (as2 := sa) (by omega) (by omega) (wp_lsub (ls' := [some (vr sc), some (vr x), some (vr pg), some (vr mn), some (vr fa), some (vr of), some (vi nP), some (vi nB), some (vi aN), some (vi tn), some (vi v2), some (vi v4), some (vi v6), none, none, none, none, none, none, none]) ⟨rfl, ⟨rfl, ⟨rfl, ⟨rfl, ⟨rfl, ⟨rfl, ⟨rfl, ⟨rfl, ⟨rfl, ⟨rfl, ⟨rfl, ⟨rfl, ⟨rfl, trivial⟩⟩⟩⟩⟩⟩⟩⟩⟩⟩⟩⟩⟩ h)
  · replace h := h.2 c8
    refine wp_iconst dL_law_85 ?_
    refine wp_goto (tgt := 96) dL_law_86 (by decide) ?_
    exact wp_less (ac2 := ca) (as2 := sa) (by omega) (by omega) (wp_lsub (ls' := [some (vr sc), some (vr x), some (vr pg), some (vr mn), some (vr fa), some (vr of), some (vi nP), some (vi nB), some (vi aN), some (vi tn), some (vi v2), some (vi v4), some (vi v6), none, none, none, none, none, none, none]) ⟨rfl, ⟨rfl, ⟨rfl, ⟨rfl, ⟨rfl, ⟨rfl, ⟨rfl, ⟨rfl, ⟨rfl, ⟨rfl, ⟨rfl, ⟨rfl, ⟨rfl, trivial⟩⟩⟩⟩⟩⟩⟩⟩⟩⟩⟩⟩⟩ h)

set_option maxRecDepth 100000 in
set_option maxHeartbeats 4000000 in
theorem ls_b (hl : l.stackTraces = false) {sc : Nat} {x : Nat} {pg : Nat} {mn : Nat} {fa : Nat} {of : Nat} {nP : Int} {nB : Int} {aN : Int} {tn : Int} {v : Int} {w : Int} {wh : Int} {p : Int}
    (h : qR nB ∧ ((¬ nB = 0 → (∃ v4 : Int, qMet g l M_L_low [vi ((Int32.ofInt w >>> (Int32.ofInt 3 &&& 31)).toInt), vi nB] σ (qPi σ v4) ∧ (qW g l (M_law nm hh) ca sa 116 [some (vr sc), some (vr x), some (vr pg), some (vr mn), some (vr fa), some (vr of), some (vi nP), some (vi nB), some (vi aN), some (vi tn), some (vi v), some (vi w), some (vi wh), some (vi p), none, none, none, none, none, none] [vi v4] σ Post))) ∧ (nB = 0 → qW g l (M_law nm hh) ca sa 116 [some (vr sc), some (vr x), some (vr pg), some (vr mn), some (vr fa), some (vr of), some (vi nP), some (vi nB), some (vi aN), some (vi tn), some (vi v), some (vi w), some (vi wh), some (vi p), none, none, none, none, none, none] [vi 0] σ Post))) : qW g l (M_law nm hh) ca sa 96 [some (vr sc), some (vr x), some (vr pg), some (vr mn), some (vr fa), some (vr of), some (vi nP), some (vi nB), some (vi aN), some (vi tn), some (vi v), some (vi w), some (vi wh), none, none, none, none, none, none, none] [vi p] σ Post := by
  refine wp_istore' (ls' := [some (vr sc), some (vr x), some (vr pg), some (vr mn), some (vr fa), some (vr of), some (vi nP), some (vi nB), some (vi aN), some (vi tn), some (vi v), some (vi w), some (vi wh), some (vi p), none, none, none, none, none, none]) dL_law_96 (Nat.le_of_ble_eq_true rfl) rfl ?_
  refine wp_iload dL_law_98 rfl ?_
  obtain ⟨hr1, h⟩ := h
  refine wp_if_ne (tgt := 107) dL_law_100 (by decide) hr1 (fun c2 => ?_) (fun c2 => ?_)
  · replace h := h.1 c2
    refine wp_iload dL_law_107 rfl ?_
    refine wp_iconst dL_law_109 ?_
    refine wp_ishr dL_law_110 ?_
    refine wp_iload dL_law_111 rfl ?_
    obtain ⟨v4, hm3, h⟩ := h
    refine wp_callS (M' := M_L_low) (As := [vi ((Int32.ofInt w >>> (Int32.ofInt 3 &&& 31)).toInt), vi nB]) (st := []) dL_law_113 cee_L_low np_L_low rfl ⟨Nat.le_of_ble_eq_true rfl, Nat.le_of_ble_eq_true rfl, by show 0 ≤ ca; omega, by show 0 ≤ sa; omega⟩ wd_786 wd_787 (q_small_of (Nat.le_of_ble_eq_true rfl)) hm3 (q_kPi ?_) q_kPi0
    refine wp_less (ac2 := ca) (as2 := sa) (by show ca ≤ ca - 0; omega) (by show sa ≤ sa - 0; omega) ?_
    exact wp_less (ac2 := ca) (as2 := sa) (by omega) (by omega) (wp_lsub (ls' := [some (vr sc), some (vr x), some (vr pg), some (vr mn), some (vr fa), some (vr of), some (vi nP), some (vi nB), some (vi aN), some (vi tn), some (vi v), some (vi w), some (vi wh), some (vi p), none, none, none, none, none, none]) ⟨rfl, ⟨rfl, ⟨rfl, ⟨rfl, ⟨rfl, ⟨rfl, ⟨rfl, ⟨rfl, ⟨rfl, ⟨rfl, ⟨rfl, ⟨rfl, ⟨rfl, ⟨rfl, trivial⟩⟩⟩⟩⟩⟩⟩⟩⟩⟩⟩⟩⟩⟩ h)
  · replace h := h.2 c2
    refine wp_iconst dL_law_103 ?_
    refine wp_goto (tgt := 116) dL_law_104 (by decide) ?_
    exact wp_less (ac2 := ca) (as2 := sa) (by omega) (by omega) (wp_lsub (ls' := [some (vr sc), some (vr x), some (vr pg), some (vr mn), some (vr fa), some (vr of), some (vi nP), some (vi nB), some (vi aN), some (vi tn), some (vi v), some (vi w), some (vi wh), some (vi p), none, none, none, none, none, none]) ⟨rfl, ⟨rfl, ⟨rfl, ⟨rfl, ⟨rfl, ⟨rfl, ⟨rfl, ⟨rfl, ⟨rfl, ⟨rfl, ⟨rfl, ⟨rfl, ⟨rfl, ⟨rfl, trivial⟩⟩⟩⟩⟩⟩⟩⟩⟩⟩⟩⟩⟩⟩ h)

set_option maxRecDepth 100000 in
set_option maxHeartbeats 4000000 in
theorem ls_c (hl : l.stackTraces = false) {sc : Nat} {x : Nat} {pg : Nat} {mn : Nat} {fa : Nat} {of : Nat} {nP : Int} {nB : Int} {aN : Int} {tn : Int} {v : Int} {w : Int} {wh : Int} {p : Int} {b : Int}
    (h : ((qR nP ∧ (¬ (nP ≤ 0) → q_isA σ 0 pg ∧ q_in σ pg p ∧ qR (gA σ pg p))) ∧ ∀ v7 : Int, v7 = (if nP ≤ 0 then 0 else (if (gA σ pg p) < 0 then 0 else 1)) → ((qR nB ∧ (¬ (nB ≤ 0) → q_isA σ 0 of ∧ q_in σ of b ∧ qR (gA σ of b))) ∧ ∀ v19 : Int, v19 = (if nB ≤ 0 then 0 else (if (gA σ of b) < 0 then 0 else 1)) → qW g l (M_law nm hh) ca sa 160 [some (vr sc), some (vr x), some (vr pg), some (vr mn), some (vr fa), some (vr of), some (vi nP), some (vi nB), some (vi aN), some (vi tn), some (vi v), some (vi w), some (vi wh), some (vi p), some (vi b), some (vi v7), some (vi v19), some (vi 1), none, none] [] σ Post))) : qW g l (M_law nm hh) ca sa 116 [some (vr sc), some (vr x), some (vr pg), some (vr mn), some (vr fa), some (vr of), some (vi nP), some (vi nB), some (vi aN), some (vi tn), some (vi v), some (vi w), some (vi wh), some (vi p), none, none, none, none, none, none] [vi b] σ Post := by
  refine wp_istore' (ls' := [some (vr sc), some (vr x), some (vr pg), some (vr mn), some (vr fa), some (vr of), some (vi nP), some (vi nB), some (vi aN), some (vi tn), some (vi v), some (vi w), some (vi wh), some (vi p), some (vi b), none, none, none, none, none]) dL_law_116 (Nat.le_of_ble_eq_true rfl) rfl ?_
  refine wp_iload dL_law_118 rfl ?_
  obtain ⟨h, hk10⟩ := h
  have key9 : ∀ v7 : Int, v7 = (if nP ≤ 0 then 0 else (if (gA σ pg p) < 0 then 0 else 1)) → qW g l (M_law nm hh) ca sa 135 [some (vr sc), some (vr x), some (vr pg), some (vr mn), some (vr fa), some (vr of), some (vi nP), some (vi nB), some (vi aN), some (vi tn), some (vi v), some (vi w), some (vi wh), some (vi p), some (vi b), none, none, none, none, none] [vi v7] σ Post := by
    intro v7 hv8
    have h := hk10 v7 hv8
    have hr11 : qR v7 := by (rw [hv8]; unfold qR; repeat' split) <;> omega
    have hz12 : v7 = 0 ∨ v7 = 1 := by (rw [hv8]; repeat' split) <;> first | exact Or.inl rfl | exact Or.inr rfl
    refine wp_istore' (ls' := [some (vr sc), some (vr x), some (vr pg), some (vr mn), some (vr fa), some (vr of), some (vi nP), some (vi nB), some (vi aN), some (vi tn), some (vi v), some (vi w), some (vi wh), some (vi p), some (vi b), some (vi v7), none, none, none, none]) dL_law_135 (Nat.le_of_ble_eq_true rfl) rfl ?_
    refine wp_iload dL_law_137 rfl ?_
    obtain ⟨h, hk22⟩ := h
    have key21 : ∀ v19 : Int, v19 = (if nB ≤ 0 then 0 else (if (gA σ of b) < 0 then 0 else 1)) → qW g l (M_law nm hh) ca sa 155 [some (vr sc), some (vr x), some (vr pg), some (vr mn), some (vr fa), some (vr of), some (vi nP), some (vi nB), some (vi aN), some (vi tn), some (vi v), some (vi w), some (vi wh), some (vi p), some (vi b), some (vi v7), none, none, none, none] [vi v19] σ Post := by
      intro v19 hv20
      have h := hk22 v19 hv20
      have hr23 : qR v19 := by (rw [hv20]; unfold qR; repeat' split) <;> omega
      have hz24 : v19 = 0 ∨ v19 = 1 := by (rw [hv20]; repeat' split) <;> first | exact Or.inl rfl | exact Or.inr rfl
      refine wp_istore' (ls' := [some (vr sc), some (vr x), some (vr pg), some (vr mn), some (vr fa), some (vr of), some (vi nP), some (vi nB), some (vi aN), some (vi tn), some (vi v), some (vi w), some (vi wh), some (vi p), some (vi b), some (vi v7), some (vi v19), none, none, none]) dL_law_155 (Nat.le_of_ble_eq_true rfl) rfl ?_
      refine wp_iconst dL_law_157 ?_
      refine wp_istore' (ls' := [some (vr sc), some (vr x), some (vr pg), some (vr mn), some (vr fa), some (vr of), some (vi nP), some (vi nB), some (vi aN), some (vi tn), some (vi v), some (vi w), some (vi wh), some (vi p), some (vi b), some (vi v7), some (vi v19), some (vi 1), none, none]) dL_law_158 (Nat.le_of_ble_eq_true rfl) rfl ?_
      exact wp_less (ac2 := ca) (as2 := sa) (by omega) (by omega) (wp_lsub (ls' := [some (vr sc), some (vr x), some (vr pg), some (vr mn), some (vr fa), some (vr of), some (vi nP), some (vi nB), some (vi aN), some (vi tn), some (vi v), some (vi w), some (vi wh), some (vi p), some (vi b), some (vi v7), some (vi v19), some (vi 1), none, none]) ⟨rfl, ⟨rfl, ⟨rfl, ⟨rfl, ⟨rfl, ⟨rfl, ⟨rfl, ⟨rfl, ⟨rfl, ⟨rfl, ⟨rfl, ⟨rfl, ⟨rfl, ⟨rfl, ⟨rfl, ⟨rfl, ⟨rfl, ⟨rfl, trivial⟩⟩⟩⟩⟩⟩⟩⟩⟩⟩⟩⟩⟩⟩⟩⟩⟩⟩ h)
    obtain ⟨hr25, h⟩ := h
    refine wp_if_le (tgt := 154) dL_law_139 (by decide) hr25 (fun c26 => ?_) (fun c26 => ?_)
    · refine wp_iconst dL_law_154 ?_
      exact key21 _ (by rw [if_pos c26])
    · replace h := h c26
      refine wp_aload dL_law_142 rfl ?_
      refine wp_iload dL_law_144 rfl ?_
      obtain ⟨ha27, hi28, h⟩ := h
      refine wp_iaload dL_law_146 ha27 hi28 ?_
      have hr29 := h
      refine wp_if_lt (tgt := 154) dL_law_147 (by decide) hr29 (fun c30 => ?_) (fun c30 => ?_)
      · refine wp_iconst dL_law_154 ?_
        exact key21 _ (by rw [if_neg c26, if_pos c30])
      · refine wp_iconst dL_law_150 ?_
        refine wp_goto (tgt := 155) dL_law_151 (by decide) ?_
        exact key21 _ (by rw [if_neg c26, if_neg c30])
  obtain ⟨hr31, h⟩ := h
  refine wp_if_le (tgt := 134) dL_law_120 (by decide) hr31 (fun c32 => ?_) (fun c32 => ?_)
  · refine wp_iconst dL_law_134 ?_
    exact key9 _ (by rw [if_pos c32])
  · replace h := h c32
    refine wp_aload_n dL_law_123 rfl ?_
    refine wp_iload dL_law_124 rfl ?_
    obtain ⟨ha33, hi34, h⟩ := h
    refine wp_iaload dL_law_126 ha33 hi34 ?_
    have hr35 := h
    refine wp_if_lt (tgt := 134) dL_law_127 (by decide) hr35 (fun c36 => ?_) (fun c36 => ?_)
    · refine wp_iconst dL_law_134 ?_
      exact key9 _ (by rw [if_neg c32, if_pos c36])
    · refine wp_iconst dL_law_130 ?_
      refine wp_goto (tgt := 135) dL_law_131 (by decide) ?_
      exact key9 _ (by rw [if_neg c32, if_neg c36])

set_option maxRecDepth 100000 in
set_option maxHeartbeats 4000000 in
theorem ls_d (hl : l.stackTraces = false) {sc : Nat} {x : Nat} {pg : Nat} {mn : Nat} {fa : Nat} {of : Nat} {nP : Int} {nB : Int} {aN : Int} {tn : Int} {v : Int} {w : Int} {wh : Int} {p : Int} {b : Int} {it : Int} {iu : Int}
    (h : gK σ x = 8 ∧ (∃ v3 : Int, qMet g l M_X7_pages [vr x] σ (qPi σ v3) ∧ (qR v3 ∧ ((v3 < 2 → qW g l (M_law nm hh) ca sa 181 [some (vr sc), some (vr x), some (vr pg), some (vr mn), some (vr fa), some (vr of), some (vi nP), some (vi nB), some (vi aN), some (vi tn), some (vi v), some (vi w), some (vi wh), some (vi p), some (vi b), some (vi it), some (vi iu), some (vi 1), none, none] [] σ Post) ∧ (¬ (v3 < 2) → qR wh ∧ ((¬ wh = 0 → qW g l (M_law nm hh) ca sa 204 [some (vr sc), some (vr x), some (vr pg), some (vr mn), some (vr fa), some (vr of), some (vi nP), some (vi nB), some (vi aN), some (vi tn), some (vi v), some (vi w), some (vi wh), some (vi p), some (vi b), some (vi it), some (vi iu), some (vi 1), none, none] [] σ Post) ∧ (wh = 0 → (∃ v9 : Int, qMet g l M_X7_pages [vr x] σ (qPi σ v9) ∧ (qR v9 ∧ ((5 ≤ v9 → qW g l (M_law nm hh) ca sa 204 [some (vr sc), some (vr x), some (vr pg), some (vr mn), some (vr fa), some (vr of), some (vi nP), some (vi nB), some (vi aN), some (vi tn), some (vi v), some (vi w), some (vi wh), some (vi p), some (vi b), some (vi it), some (vi iu), some (vi 1), none, none] [] σ Post) ∧ (¬ (5 ≤ v9) → qW g l (M_law nm hh) ca sa 181 [some (vr sc), some (vr x), some (vr pg), some (vr mn), some (vr fa), some (vr of), some (vi nP), some (vi nB), some (vi aN), some (vi tn), some (vi v), some (vi w), some (vi wh), some (vi p), some (vi b), some (vi it), some (vi iu), some (vi 1), none, none] [] σ Post))))))))))) : qW g l (M_law nm hh) ca sa 160 [some (vr sc), some (vr x), some (vr pg), some (vr mn), some (vr fa), some (vr of), some (vi nP), some (vi nB), some (vi aN), some (vi tn), some (vi v), some (vi w), some (vi wh), some (vi p), some (vi b), some (vi it), some (vi iu), some (vi 1), none, none] [] σ Post := by
  refine wp_aload_n dL_law_160 rfl ?_
  obtain ⟨hk2, h⟩ := h
  obtain ⟨v3, hm1, h⟩ := h
  refine wp_callV (M' := M_X7_pages) (As := []) (st := []) (ci := 7) dL_law_161 cee_X7_pages np_X7_pages rfl ⟨Nat.le_of_ble_eq_true rfl, Nat.le_of_ble_eq_true rfl, by show 0 ≤ ca; omega, by show 0 ≤ sa; omega⟩ wd_720 wd_721 wd_722 rfl (Or.inl hk2) (q_small_of (Nat.le_of_ble_eq_true rfl)) hm1 (q_kPi ?_) q_kPi0
  refine wp_less (ac2 := ca) (as2 := sa) (by show ca ≤ ca - 0; omega) (by show sa ≤ sa - 0; omega) ?_
  refine wp_iconst dL_law_164 ?_
  obtain ⟨hr4, h⟩ := h
  refine wp_icmp_lt (tgt := 181) dL_law_165 (by decide) hr4 (by unfold qR; omega) (fun c5 => ?_) (fun c5 => ?_)
  · replace h := h.1 c5
    exact wp_less (ac2 := ca) (as2 := sa) (by omega) (by omega) (wp_lsub (ls' := [some (vr sc), some (vr x), some (vr pg), some (vr mn), some (vr fa), some (vr of), some (vi nP), some (vi nB), some (vi aN), some (vi tn), some (vi v), some (vi w), some (vi wh), some (vi p), some (vi b), some (vi it), some (vi iu), some (vi 1), none, none]) ⟨rfl, ⟨rfl, ⟨rfl, ⟨rfl, ⟨rfl, ⟨rfl, ⟨rfl, ⟨rfl, ⟨rfl, ⟨rfl, ⟨rfl, ⟨rfl, ⟨rfl, ⟨rfl, ⟨rfl, ⟨rfl, ⟨rfl, ⟨rfl, trivial⟩⟩⟩⟩⟩⟩⟩⟩⟩⟩⟩⟩⟩⟩⟩⟩⟩⟩ h)
  · replace h := h.2 c5
    refine wp_iload dL_law_168 rfl ?_
    obtain ⟨hr6, h⟩ := h
    refine wp_if_ne (tgt := 204) dL_law_170 (by decide) hr6 (fun c7 => ?_) (fun c7 => ?_)
    · replace h := h.1 c7
      exact wp_less (ac2 := ca) (as2 := sa) (by omega) (by omega) (wp_lsub (ls' := [some (vr sc), some (vr x), some (vr pg), some (vr mn), some (vr fa), some (vr of), some (vi nP), some (vi nB), some (vi aN), some (vi tn), some (vi v), some (vi w), some (vi wh), some (vi p), some (vi b), some (vi it), some (vi iu), some (vi 1), none, none]) ⟨rfl, ⟨rfl, ⟨rfl, ⟨rfl, ⟨rfl, ⟨rfl, ⟨rfl, ⟨rfl, ⟨rfl, ⟨rfl, ⟨rfl, ⟨rfl, ⟨rfl, ⟨rfl, ⟨rfl, ⟨rfl, ⟨rfl, ⟨rfl, trivial⟩⟩⟩⟩⟩⟩⟩⟩⟩⟩⟩⟩⟩⟩⟩⟩⟩⟩ h)
    · replace h := h.2 c7
      refine wp_aload_n dL_law_173 rfl ?_
      obtain ⟨v9, hm8, h⟩ := h
      refine wp_callV (M' := M_X7_pages) (As := []) (st := []) (ci := 7) dL_law_174 cee_X7_pages np_X7_pages rfl ⟨Nat.le_of_ble_eq_true rfl, Nat.le_of_ble_eq_true rfl, by show 0 ≤ ca; omega, by show 0 ≤ sa; omega⟩ wd_720 wd_721 wd_722 rfl (Or.inl hk2) (q_small_of (Nat.le_of_ble_eq_true rfl)) hm8 (q_kPi ?_) q_kPi0
      refine wp_less (ac2 := ca) (as2 := sa) (by show ca ≤ ca - 0; omega) (by show sa ≤ sa - 0; omega) ?_
      refine wp_iconst dL_law_177 ?_
      obtain ⟨hr10, h⟩ := h
      refine wp_icmp_ge (tgt := 204) dL_law_178 (by decide) hr10 (by unfold qR; omega) (fun c11 => ?_) (fun c11 => ?_)
      · replace h := h.1 c11
        exact wp_less (ac2 := ca) (as2 := sa) (by omega) (by omega) (wp_lsub (ls' := [some (vr sc), some (vr x), some (vr pg), some (vr mn), some (vr fa), some (vr of), some (vi nP), some (vi nB), some (vi aN), some (vi tn), some (vi v), some (vi w), some (vi wh), some (vi p), some (vi b), some (vi it), some (vi iu), some (vi 1), none, none]) ⟨rfl, ⟨rfl, ⟨rfl, ⟨rfl, ⟨rfl, ⟨rfl, ⟨rfl, ⟨rfl, ⟨rfl, ⟨rfl, ⟨rfl, ⟨rfl, ⟨rfl, ⟨rfl, ⟨rfl, ⟨rfl, ⟨rfl, ⟨rfl, trivial⟩⟩⟩⟩⟩⟩⟩⟩⟩⟩⟩⟩⟩⟩⟩⟩⟩⟩ h)
      · replace h := h.2 c11
        exact wp_less (ac2 := ca) (as2 := sa) (by omega) (by omega) (wp_lsub (ls' := [some (vr sc), some (vr x), some (vr pg), some (vr mn), some (vr fa), some (vr of), some (vi nP), some (vi nB), some (vi aN), some (vi tn), some (vi v), some (vi w), some (vi wh), some (vi p), some (vi b), some (vi it), some (vi iu), some (vi 1), none, none]) ⟨rfl, ⟨rfl, ⟨rfl, ⟨rfl, ⟨rfl, ⟨rfl, ⟨rfl, ⟨rfl, ⟨rfl, ⟨rfl, ⟨rfl, ⟨rfl, ⟨rfl, ⟨rfl, ⟨rfl, ⟨rfl, ⟨rfl, ⟨rfl, trivial⟩⟩⟩⟩⟩⟩⟩⟩⟩⟩⟩⟩⟩⟩⟩⟩⟩⟩ h)

set_option maxRecDepth 100000 in
set_option maxHeartbeats 4000000 in
theorem ls_page (hl : l.stackTraces = false) {sc : Nat} {x : Nat} {pg : Nat} {mn : Nat} {fa : Nat} {of : Nat} {nP : Int} {nB : Int} {aN : Int} {tn : Int} {v : Int} {w : Int} {wh : Int} {p : Int} {b : Int} {it : Int} {iu : Int}
    (h : gK σ x = 8 ∧ (∃ (Mid3 : qS → Int → Prop) (MidX4 : qS → Nat → Prop), qMet g l M_X7_page [vr x] σ (qTi Mid3 MidX4) ∧ (∀ (σ7 : qS) (v9 : Int), Mid3 σ7 v9 → gK σ7 x = 8 ∧ (∃ v12 : Int, qMet g l M_X7_pages [vr x] σ7 (qPi σ7 v12) ∧ (((qR v9 ∧ qR (v12 - 1)) ∧ ∀ v16 : Int, v16 = (if ¬ v9 = (v12 - 1) then 0 else 1) → qW g l (M_law nm hh) ca sa 1014 [some (vr sc), some (vr x), some (vr pg), some (vr mn), some (vr fa), some (vr of), some (vi nP), some (vi nB), some (vi aN), some (vi tn), none, some (vi w), none, none, none, none, none, some (vi v16), none, none] [] σ7 Post)))) ∧ (∀ (σ9 : qS) (n9 : Nat), ¬ MidX4 σ9 n9))) : qW g l (M_law nm hh) (ca + 200) (sa + 4000) 181 [some (vr sc), some (vr x), some (vr pg), some (vr mn), some (vr fa), some (vr of), some (vi nP), some (vi nB), some (vi aN), some (vi tn), some (vi v), some (vi w), some (vi wh), some (vi p), some (vi b), some (vi it), some (vi iu), some (vi 1), none, none] [] σ Post := by
  refine wp_aload_n dL_law_181 rfl ?_
  obtain ⟨hk2, h⟩ := h
  obtain ⟨Mid3, MidX4, hm1, hk5, hx6⟩ := h
  refine wp_callV (M' := M_X7_page) (As := []) (st := []) (ci := 7) dL_law_182 cee_X7_page np_X7_page rfl ⟨Nat.le_of_ble_eq_true rfl, Nat.le_of_ble_eq_true rfl, by show 5 ≤ (ca + 200); omega, by show 415 ≤ (sa + 4000); omega⟩ wd_108 wd_109 wd_110 rfl (Or.inl hk2) (q_small_of (Nat.le_of_ble_eq_true rfl)) hm1 (q_kTi (fun σ7 v9 hM8 => ?_)) (fun σ9 n9 hq => absurd (q_xi hq) (hx6 σ9 n9))
  refine wp_less (ac2 := (ca + 195)) (as2 := (sa + 3585)) (by show (ca + 195) ≤ (ca + 200) - 5; omega) (by show (sa + 3585) ≤ (sa + 4000) - 415; omega) ?_
  have h := hk5 σ7 v9 hM8
  refine wp_aload_n dL_law_185 rfl ?_
  obtain ⟨hk11, h⟩ := h
  obtain ⟨v12, hm10, h⟩ := h
  refine wp_callV (M' := M_X7_pages) (As := []) (st := [vi v9]) (ci := 7) dL_law_186 cee_X7_pages np_X7_pages rfl ⟨Nat.le_of_ble_eq_true rfl, Nat.le_of_ble_eq_true rfl, by show 0 ≤ (ca + 195); omega, by show 0 ≤ (sa + 3585); omega⟩ wd_720 wd_721 wd_722 rfl (Or.inl hk11) (q_small_of (Nat.le_of_ble_eq_true rfl)) hm10 (q_kPi ?_) q_kPi0
  refine wp_less (ac2 := (ca + 195)) (as2 := (sa + 3585)) (by show (ca + 195) ≤ (ca + 195) - 0; omega) (by show (sa + 3585) ≤ (sa + 3585) - 0; omega) ?_
  refine wp_iconst dL_law_189 ?_
  refine wp_isub dL_law_190 ?_
  obtain ⟨h, hk19⟩ := h
  have key18 : ∀ v16 : Int, v16 = (if ¬ v9 = (v12 - 1) then 0 else 1) → qW g l (M_law nm hh) (ca + 195) (sa + 3585) 199 [some (vr sc), some (vr x), some (vr pg), some (vr mn), some (vr fa), some (vr of), some (vi nP), some (vi nB), some (vi aN), some (vi tn), some (vi v), some (vi w), some (vi wh), some (vi p), some (vi b), some (vi it), some (vi iu), some (vi 1), none, none] [vi v16] σ7 Post := by
    intro v16 hv17
    have h := hk19 v16 hv17
    have hr20 : qR v16 := by (rw [hv17]; unfold qR; repeat' split) <;> omega
    have hz21 : v16 = 0 ∨ v16 = 1 := by (rw [hv17]; repeat' split) <;> first | exact Or.inl rfl | exact Or.inr rfl
    refine wp_istore' (ls' := [some (vr sc), some (vr x), some (vr pg), some (vr mn), some (vr fa), some (vr of), some (vi nP), some (vi nB), some (vi aN), some (vi tn), some (vi v), some (vi w), some (vi wh), some (vi p), some (vi b), some (vi it), some (vi iu), some (vi v16), none, none]) dL_law_199 (Nat.le_of_ble_eq_true rfl) rfl ?_
    refine wp_goto (tgt := 1014) dL_law_201 (by decide) ?_
    exact wp_less (ac2 := ca) (as2 := sa) (by omega) (by omega) (wp_lsub (ls' := [some (vr sc), some (vr x), some (vr pg), some (vr mn), some (vr fa), some (vr of), some (vi nP), some (vi nB), some (vi aN), some (vi tn), none, some (vi w), none, none, none, none, none, some (vi v16), none, none]) ⟨rfl, ⟨rfl, ⟨rfl, ⟨rfl, ⟨rfl, ⟨rfl, ⟨rfl, ⟨rfl, ⟨rfl, ⟨rfl, ⟨rfl, ⟨rfl, trivial⟩⟩⟩⟩⟩⟩⟩⟩⟩⟩⟩⟩ h)
  obtain ⟨hr22, hr23⟩ := h
  refine wp_icmp_ne (tgt := 198) dL_law_191 (by decide) hr22 hr23 (fun c24 => ?_) (fun c24 => ?_)
  · refine wp_iconst dL_law_198 ?_
    exact key18 _ (by rw [if_pos c24])
  · refine wp_iconst dL_law_194 ?_
    refine wp_goto (tgt := 199) dL_law_195 (by decide) ?_
    exact key18 _ (by rw [if_neg (fun z => z c24)])

set_option maxRecDepth 100000 in
set_option maxHeartbeats 4000000 in
theorem ls_e (hl : l.stackTraces = false) {sc : Nat} {x : Nat} {pg : Nat} {mn : Nat} {fa : Nat} {of : Nat} {nP : Int} {nB : Int} {aN : Int} {tn : Int} {v : Int} {w : Int} {wh : Int} {p : Int} {b : Int} {it : Int} {iu : Int}
    (h : qR wh ∧ ((4 ≤ wh → ((8 ≤ wh → ((¬ wh = 8 → ((¬ wh = 9 → ((¬ wh = 10 → ((¬ wh = 11 → ((¬ wh = 12 → ((15 ≤ wh → qW g l (M_law nm hh) ca sa 972 [some (vr sc), some (vr x), some (vr pg), some (vr mn), some (vr fa), some (vr of), some (vi nP), some (vi nB), some (vi aN), some (vi tn), some (vi v), some (vi w), some (vi wh), some (vi p), some (vi b), some (vi it), some (vi iu), some (vi 1), none, none] [] σ Post) ∧ (¬ (15 ≤ wh) → ((¬ wh = 13 → qW g l (M_law nm hh) ca sa 936 [some (vr sc), some (vr x), some (vr pg), some (vr mn), some (vr fa), some (vr of), some (vi nP), some (vi nB), some (vi aN), some (vi tn), some (vi v), some (vi w), some (vi wh), some (vi p), some (vi b), some (vi it), some (vi iu), some (vi 1), none, none] [] σ Post) ∧ (wh = 13 → qW g l (M_law nm hh) ca sa 904 [some (vr sc), some (vr x), some (vr pg), some (vr mn), some (vr fa), some (vr of), some (vi nP), some (vi nB), some (vi aN), some (vi tn), some (vi v), some (vi w), some (vi wh), some (vi p), some (vi b), some (vi it), some (vi iu), some (vi 1), none, none] [] σ Post))))) ∧ (wh = 12 → qW g l (M_law nm hh) ca sa 798 [some (vr sc), some (vr x), some (vr pg), some (vr mn), some (vr fa), some (vr of), some (vi nP), some (vi nB), some (vi aN), some (vi tn), some (vi v), some (vi w), some (vi wh), some (vi p), some (vi b), some (vi it), some (vi iu), some (vi 1), none, none] [] σ Post))) ∧ (wh = 11 → qW g l (M_law nm hh) ca sa 690 [some (vr sc), some (vr x), some (vr pg), some (vr mn), some (vr fa), some (vr of), some (vi nP), some (vi nB), some (vi aN), some (vi tn), some (vi v), some (vi w), some (vi wh), some (vi p), some (vi b), some (vi it), some (vi iu), some (vi 1), none, none] [] σ Post))) ∧ (wh = 10 → qW g l (M_law nm hh) ca sa 576 [some (vr sc), some (vr x), some (vr pg), some (vr mn), some (vr fa), some (vr of), some (vi nP), some (vi nB), some (vi aN), some (vi tn), some (vi v), some (vi w), some (vi wh), some (vi p), some (vi b), some (vi it), some (vi iu), some (vi 1), none, none] [] σ Post))) ∧ (wh = 9 → qW g l (M_law nm hh) ca sa 516 [some (vr sc), some (vr x), some (vr pg), some (vr mn), some (vr fa), some (vr of), some (vi nP), some (vi nB), some (vi aN), some (vi tn), some (vi v), some (vi w), some (vi wh), some (vi p), some (vi b), some (vi it), some (vi iu), some (vi 1), none, none] [] σ Post))) ∧ (wh = 8 → qW g l (M_law nm hh) ca sa 428 [some (vr sc), some (vr x), some (vr pg), some (vr mn), some (vr fa), some (vr of), some (vi nP), some (vi nB), some (vi aN), some (vi tn), some (vi v), some (vi w), some (vi wh), some (vi p), some (vi b), some (vi it), some (vi iu), some (vi 1), none, none] [] σ Post))) ∧ (¬ (8 ≤ wh) → qW g l (M_law nm hh) ca sa 336 [some (vr sc), some (vr x), some (vr pg), some (vr mn), some (vr fa), some (vr of), some (vi nP), some (vi nB), some (vi aN), some (vi tn), some (vi v), some (vi w), some (vi wh), some (vi p), some (vi b), some (vi it), some (vi iu), some (vi 1), none, none] [] σ Post))) ∧ (¬ (4 ≤ wh) → qW g l (M_law nm hh) ca sa 210 [some (vr sc), some (vr x), some (vr pg), some (vr mn), some (vr fa), some (vr of), some (vi nP), some (vi nB), some (vi aN), some (vi tn), some (vi v), some (vi w), some (vi wh), some (vi p), some (vi b), some (vi it), some (vi iu), some (vi 1), none, none] [] σ Post))) : qW g l (M_law nm hh) ca sa 204 [some (vr sc), some (vr x), some (vr pg), some (vr mn), some (vr fa), some (vr of), some (vi nP), some (vi nB), some (vi aN), some (vi tn), some (vi v), some (vi w), some (vi wh), some (vi p), some (vi b), some (vi it), some (vi iu), some (vi 1), none, none] [] σ Post := by
  refine wp_iload dL_law_204 rfl ?_
  refine wp_iconst dL_law_206 ?_
  obtain ⟨hr1, h⟩ := h
  refine wp_icmp_ge (tgt := 329) dL_law_207 (by decide) hr1 (by unfold qR; omega) (fun c2 => ?_) (fun c2 => ?_)
  · replace h := h.1 c2
    refine wp_iload dL_law_329 rfl ?_
    refine wp_bipush dL_law_331 (by decide) ?_
    refine wp_icmp_ge (tgt := 421) dL_law_333 (by decide) hr1 (by unfold qR; omega) (fun c3 => ?_) (fun c3 => ?_)
    · replace h := h.1 c3
      refine wp_iload dL_law_421 rfl ?_
      refine wp_bipush dL_law_423 (by decide) ?_
      refine wp_icmp_ne (tgt := 509) dL_law_425 (by decide) hr1 (by unfold qR; omega) (fun c4 => ?_) (fun c4 => ?_)
      · replace h := h.1 c4
        refine wp_iload dL_law_509 rfl ?_
        refine wp_bipush dL_law_511 (by decide) ?_
        refine wp_icmp_ne (tgt := 569) dL_law_513 (by decide) hr1 (by unfold qR; omega) (fun c5 => ?_) (fun c5 => ?_)
        · replace h := h.1 c5
          refine wp_iload dL_law_569 rfl ?_
          refine wp_bipush dL_law_571 (by decide) ?_
          refine wp_icmp_ne (tgt := 683) dL_law_573 (by decide) hr1 (by unfold qR; omega) (fun c6 => ?_) (fun c6 => ?_)
          · replace h := h.1 c6
            refine wp_iload dL_law_683 rfl ?_
            refine wp_bipush dL_law_685 (by decide) ?_
            refine wp_icmp_ne (tgt := 791) dL_law_687 (by decide) hr1 (by unfold qR; omega) (fun c7 => ?_) (fun c7 => ?_)
            · replace h := h.1 c7
              refine wp_iload dL_law_791 rfl ?_
              refine wp_bipush dL_law_793 (by decide) ?_
              refine wp_icmp_ne (tgt := 890) dL_law_795 (by decide) hr1 (by unfold qR; omega) (fun c8 => ?_) (fun c8 => ?_)
              · replace h := h.1 c8
                refine wp_iload dL_law_890 rfl ?_
                refine wp_bipush dL_law_892 (by decide) ?_
                refine wp_icmp_ge (tgt := 972) dL_law_894 (by decide) hr1 (by unfold qR; omega) (fun c9 => ?_) (fun c9 => ?_)
                · replace h := h.1 c9
                  exact wp_less (ac2 := ca) (as2 := sa) (by omega) (by omega) (wp_lsub (ls' := [some (vr sc), some (vr x), some (vr pg), some (vr mn), some (vr fa), some (vr of), some (vi nP), some (vi nB), some (vi aN), some (vi tn), some (vi v), some (vi w), some (vi wh), some (vi p), some (vi b), some (vi it), some (vi iu), some (vi 1), none, none]) ⟨rfl, ⟨rfl, ⟨rfl, ⟨rfl, ⟨rfl, ⟨rfl, ⟨rfl, ⟨rfl, ⟨rfl, ⟨rfl, ⟨rfl, ⟨rfl, ⟨rfl, ⟨rfl, ⟨rfl, ⟨rfl, ⟨rfl, ⟨rfl, trivial⟩⟩⟩⟩⟩⟩⟩⟩⟩⟩⟩⟩⟩⟩⟩⟩⟩⟩ h)
                · replace h := h.2 c9
                  refine wp_iload dL_law_897 rfl ?_
                  refine wp_bipush dL_law_899 (by decide) ?_
                  refine wp_icmp_ne (tgt := 936) dL_law_901 (by decide) hr1 (by unfold qR; omega) (fun c10 => ?_) (fun c10 => ?_)
                  · replace h := h.1 c10
                    exact wp_less (ac2 := ca) (as2 := sa) (by omega) (by omega) (wp_lsub (ls' := [some (vr sc), some (vr x), some (vr pg), some (vr mn), some (vr fa), some (vr of), some (vi nP), some (vi nB), some (vi aN), some (vi tn), some (vi v), some (vi w), some (vi wh), some (vi p), some (vi b), some (vi it), some (vi iu), some (vi 1), none, none]) ⟨rfl, ⟨rfl, ⟨rfl, ⟨rfl, ⟨rfl, ⟨rfl, ⟨rfl, ⟨rfl, ⟨rfl, ⟨rfl, ⟨rfl, ⟨rfl, ⟨rfl, ⟨rfl, ⟨rfl, ⟨rfl, ⟨rfl, ⟨rfl, trivial⟩⟩⟩⟩⟩⟩⟩⟩⟩⟩⟩⟩⟩⟩⟩⟩⟩⟩ h)
                  · replace h := h.2 c10
                    exact wp_less (ac2 := ca) (as2 := sa) (by omega) (by omega) (wp_lsub (ls' := [some (vr sc), some (vr x), some (vr pg), some (vr mn), some (vr fa), some (vr of), some (vi nP), some (vi nB), some (vi aN), some (vi tn), some (vi v), some (vi w), some (vi wh), some (vi p), some (vi b), some (vi it), some (vi iu), some (vi 1), none, none]) ⟨rfl, ⟨rfl, ⟨rfl, ⟨rfl, ⟨rfl, ⟨rfl, ⟨rfl, ⟨rfl, ⟨rfl, ⟨rfl, ⟨rfl, ⟨rfl, ⟨rfl, ⟨rfl, ⟨rfl, ⟨rfl, ⟨rfl, ⟨rfl, trivial⟩⟩⟩⟩⟩⟩⟩⟩⟩⟩⟩⟩⟩⟩⟩⟩⟩⟩ h)
              · replace h := h.2 c8
                exact wp_less (ac2 := ca) (as2 := sa) (by omega) (by omega) (wp_lsub (ls' := [some (vr sc), some (vr x), some (vr pg), some (vr mn), some (vr fa), some (vr of), some (vi nP), some (vi nB), some (vi aN), some (vi tn), some (vi v), some (vi w), some (vi wh), some (vi p), some (vi b), some (vi it), some (vi iu), some (vi 1), none, none]) ⟨rfl, ⟨rfl, ⟨rfl, ⟨rfl, ⟨rfl, ⟨rfl, ⟨rfl, ⟨rfl, ⟨rfl, ⟨rfl, ⟨rfl, ⟨rfl, ⟨rfl, ⟨rfl, ⟨rfl, ⟨rfl, ⟨rfl, ⟨rfl, trivial⟩⟩⟩⟩⟩⟩⟩⟩⟩⟩⟩⟩⟩⟩⟩⟩⟩⟩ h)
            · replace h := h.2 c7
              exact wp_less (ac2 := ca) (as2 := sa) (by omega) (by omega) (wp_lsub (ls' := [some (vr sc), some (vr x), some (vr pg), some (vr mn), some (vr fa), some (vr of), some (vi nP), some (vi nB), some (vi aN), some (vi tn), some (vi v), some (vi w), some (vi wh), some (vi p), some (vi b), some (vi it), some (vi iu), some (vi 1), none, none]) ⟨rfl, ⟨rfl, ⟨rfl, ⟨rfl, ⟨rfl, ⟨rfl, ⟨rfl, ⟨rfl, ⟨rfl, ⟨rfl, ⟨rfl, ⟨rfl, ⟨rfl, ⟨rfl, ⟨rfl, ⟨rfl, ⟨rfl, ⟨rfl, trivial⟩⟩⟩⟩⟩⟩⟩⟩⟩⟩⟩⟩⟩⟩⟩⟩⟩⟩ h)
          · replace h := h.2 c6
            exact wp_less (ac2 := ca) (as2 := sa) (by omega) (by omega) (wp_lsub (ls' := [some (vr sc), some (vr x), some (vr pg), some (vr mn), some (vr fa), some (vr of), some (vi nP), some (vi nB), some (vi aN), some (vi tn), some (vi v), some (vi w), some (vi wh), some (vi p), some (vi b), some (vi it), some (vi iu), some (vi 1), none, none]) ⟨rfl, ⟨rfl, ⟨rfl, ⟨rfl, ⟨rfl, ⟨rfl, ⟨rfl, ⟨rfl, ⟨rfl, ⟨rfl, ⟨rfl, ⟨rfl, ⟨rfl, ⟨rfl, ⟨rfl, ⟨rfl, ⟨rfl, ⟨rfl, trivial⟩⟩⟩⟩⟩⟩⟩⟩⟩⟩⟩⟩⟩⟩⟩⟩⟩⟩ h)
        · replace h := h.2 c5
          exact wp_less (ac2 := ca) (as2 := sa) (by omega) (by omega) (wp_lsub (ls' := [some (vr sc), some (vr x), some (vr pg), some (vr mn), some (vr fa), some (vr of), some (vi nP), some (vi nB), some (vi aN), some (vi tn), some (vi v), some (vi w), some (vi wh), some (vi p), some (vi b), some (vi it), some (vi iu), some (vi 1), none, none]) ⟨rfl, ⟨rfl, ⟨rfl, ⟨rfl, ⟨rfl, ⟨rfl, ⟨rfl, ⟨rfl, ⟨rfl, ⟨rfl, ⟨rfl, ⟨rfl, ⟨rfl, ⟨rfl, ⟨rfl, ⟨rfl, ⟨rfl, ⟨rfl, trivial⟩⟩⟩⟩⟩⟩⟩⟩⟩⟩⟩⟩⟩⟩⟩⟩⟩⟩ h)
      · replace h := h.2 c4
        exact wp_less (ac2 := ca) (as2 := sa) (by omega) (by omega) (wp_lsub (ls' := [some (vr sc), some (vr x), some (vr pg), some (vr mn), some (vr fa), some (vr of), some (vi nP), some (vi nB), some (vi aN), some (vi tn), some (vi v), some (vi w), some (vi wh), some (vi p), some (vi b), some (vi it), some (vi iu), some (vi 1), none, none]) ⟨rfl, ⟨rfl, ⟨rfl, ⟨rfl, ⟨rfl, ⟨rfl, ⟨rfl, ⟨rfl, ⟨rfl, ⟨rfl, ⟨rfl, ⟨rfl, ⟨rfl, ⟨rfl, ⟨rfl, ⟨rfl, ⟨rfl, ⟨rfl, trivial⟩⟩⟩⟩⟩⟩⟩⟩⟩⟩⟩⟩⟩⟩⟩⟩⟩⟩ h)
    · replace h := h.2 c3
      exact wp_less (ac2 := ca) (as2 := sa) (by omega) (by omega) (wp_lsub (ls' := [some (vr sc), some (vr x), some (vr pg), some (vr mn), some (vr fa), some (vr of), some (vi nP), some (vi nB), some (vi aN), some (vi tn), some (vi v), some (vi w), some (vi wh), some (vi p), some (vi b), some (vi it), some (vi iu), some (vi 1), none, none]) ⟨rfl, ⟨rfl, ⟨rfl, ⟨rfl, ⟨rfl, ⟨rfl, ⟨rfl, ⟨rfl, ⟨rfl, ⟨rfl, ⟨rfl, ⟨rfl, ⟨rfl, ⟨rfl, ⟨rfl, ⟨rfl, ⟨rfl, ⟨rfl, trivial⟩⟩⟩⟩⟩⟩⟩⟩⟩⟩⟩⟩⟩⟩⟩⟩⟩⟩ h)
  · replace h := h.2 c2
    exact wp_less (ac2 := ca) (as2 := sa) (by omega) (by omega) (wp_lsub (ls' := [some (vr sc), some (vr x), some (vr pg), some (vr mn), some (vr fa), some (vr of), some (vi nP), some (vi nB), some (vi aN), some (vi tn), some (vi v), some (vi w), some (vi wh), some (vi p), some (vi b), some (vi it), some (vi iu), some (vi 1), none, none]) ⟨rfl, ⟨rfl, ⟨rfl, ⟨rfl, ⟨rfl, ⟨rfl, ⟨rfl, ⟨rfl, ⟨rfl, ⟨rfl, ⟨rfl, ⟨rfl, ⟨rfl, ⟨rfl, ⟨rfl, ⟨rfl, ⟨rfl, ⟨rfl, trivial⟩⟩⟩⟩⟩⟩⟩⟩⟩⟩⟩⟩⟩⟩⟩⟩⟩⟩ h)

set_option maxRecDepth 100000 in
set_option maxHeartbeats 4000000 in
theorem ls_panel (hl : l.stackTraces = false) {sc : Nat} {x : Nat} {pg : Nat} {mn : Nat} {fa : Nat} {of : Nat} {nP : Int} {nB : Int} {aN : Int} {tn : Int} {v : Int} {w : Int} {wh : Int} {p : Int} {b : Int} {it : Int} {iu : Int}
    (h : gK σ x = 8 ∧ (∃ v3 : Int, qMet g l M_X7_pages [vr x] σ (qPi σ v3) ∧ ((∃ v5 : Int, qMet g l M_L_low [vi ((Int32.ofInt w >>> (Int32.ofInt 6 &&& 31)).toInt), vi v3] σ (qPi σ v5) ∧ (qR nP ∧ ((40 ≤ nP → qW g l (M_law nm hh) ca sa 1014 [some (vr sc), some (vr x), some (vr pg), some (vr mn), some (vr fa), some (vr of), some (vi nP), some (vi nB), some (vi aN), some (vi tn), none, some (vi w), none, none, none, none, none, some (vi 1), none, none] [] σ Post) ∧ (¬ (40 ≤ nP) → (∃ (Mid9 : qS → Int → Prop) (MidX10 : qS → Nat → Prop), qMet g l M_X7_panels [vr x, vi v5] σ (qTi Mid9 MidX10) ∧ (∀ (σ13 : qS) (v15 : Int), Mid9 σ13 v15 → qR v15 ∧ ((4 ≤ v15 → qW g l (M_law nm hh) ca sa 1014 [some (vr sc), some (vr x), some (vr pg), some (vr mn), some (vr fa), some (vr of), some (vi nP), some (vi nB), some (vi aN), some (vi tn), none, some (vi w), none, none, none, none, none, some (vi 1), none, none] [] σ13 Post) ∧ (¬ (4 ≤ v15) → gK σ13 x = 8 ∧ (∃ (Mid20 : qS → Int → Prop) (MidX21 : qS → Nat → Prop), qMet g l M_X7_panels [vr x, vi v5] σ13 (qTi Mid20 MidX21) ∧ (∀ (σ24 : qS) (v26 : Int), Mid20 σ24 v26 → (∃ v28 : Int, qMet g l M_L_low [vi ((Int32.ofInt w >>> (Int32.ofInt 9 &&& 31)).toInt), vi (v26 + 1)] σ24 (qPi σ24 v28) ∧ ((∃ v30 : Int, qMet g l M_L_low [vi ((Int32.ofInt w >>> (Int32.ofInt 12 &&& 31)).toInt), vi 9] σ24 (qPi σ24 v30) ∧ ((∃ v32 : Int, qMet g l M_L_low [vi ((Int32.ofInt w >>> (Int32.ofInt 15 &&& 31)).toInt), vi 19] σ24 (qPi σ24 v32) ∧ ((∃ v34 : Int, qMet g l M_L_low [vi ((Int32.ofInt w >>> (Int32.ofInt 20 &&& 31)).toInt), vi 10] σ24 (qPi σ24 v34) ∧ (gK σ24 x = 8 ∧ (∃ (Mid37 : qS → Int → Prop) (MidX38 : qS → Nat → Prop), qMet g l M_X7_panel [vr x, vi v5, vi v28, vi (1 + v30), vi (6 + v32), vi (3 + v34)] σ24 (qTi Mid37 MidX38) ∧ (∀ (σ41 : qS) (v43 : Int), Mid37 σ41 v43 → ((qR v43) ∧ ∀ v46 : Int, v46 = (if ¬ v43 = nP then 0 else 1) → gK σ41 pg = 20 ∧ q_in σ41 pg nP ∧ (∀ σ54 : qS, σ54 = sA σ41 pg nP v5 → gK σ54 mn = 20 ∧ q_in σ54 mn nP ∧ (∀ σ58 : qS, σ58 = sA σ54 mn nP 0 → ∀ x60 : Int, x60 = nP + 1 → qW g l (M_law nm hh) ca sa 1014 [some (vr sc), some (vr x), some (vr pg), some (vr mn), some (vr fa), some (vr of), some (vi x60), some (vi nB), some (vi aN), some (vi tn), none, some (vi w), none, none, none, none, none, some (vi v46), none, none] [] σ58 Post)))) ∧ (∀ (σ9 : qS) (n9 : Nat), ¬ MidX38 σ9 n9))))))))))) ∧ (∀ (σ9 : qS) (n9 : Nat), ¬ MidX21 σ9 n9))))) ∧ (∀ (σ9 : qS) (n9 : Nat), ¬ MidX10 σ9 n9))))))))) : qW g l (M_law nm hh) (ca + 200) (sa + 4000) 210 [some (vr sc), some (vr x), some (vr pg), some (vr mn), some (vr fa), some (vr of), some (vi nP), some (vi nB), some (vi aN), some (vi tn), some (vi v), some (vi w), some (vi wh), some (vi p), some (vi b), some (vi it), some (vi iu), some (vi 1), none, none] [] σ Post := by
  refine wp_iload dL_law_210 rfl ?_
  refine wp_bipush dL_law_212 (by decide) ?_
  refine wp_ishr dL_law_214 ?_
  refine wp_aload_n dL_law_215 rfl ?_
  obtain ⟨hk2, h⟩ := h
  obtain ⟨v3, hm1, h⟩ := h
  refine wp_callV (M' := M_X7_pages) (As := []) (st := [vi ((Int32.ofInt w >>> (Int32.ofInt 6 &&& 31)).toInt)]) (ci := 7) dL_law_216 cee_X7_pages np_X7_pages rfl ⟨Nat.le_of_ble_eq_true rfl, Nat.le_of_ble_eq_true rfl, by show 0 ≤ (ca + 200); omega, by show 0 ≤ (sa + 4000); omega⟩ wd_720 wd_721 wd_722 rfl (Or.inl hk2) (q_small_of (Nat.le_of_ble_eq_true rfl)) hm1 (q_kPi ?_) q_kPi0
  refine wp_less (ac2 := (ca + 200)) (as2 := (sa + 4000)) (by show (ca + 200) ≤ (ca + 200) - 0; omega) (by show (sa + 4000) ≤ (sa + 4000) - 0; omega) ?_
  obtain ⟨v5, hm4, h⟩ := h
  refine wp_callS (M' := M_L_low) (As := [vi ((Int32.ofInt w >>> (Int32.ofInt 6 &&& 31)).toInt), vi v3]) (st := []) dL_law_219 cee_L_low np_L_low rfl ⟨Nat.le_of_ble_eq_true rfl, Nat.le_of_ble_eq_true rfl, by show 0 ≤ (ca + 200); omega, by show 0 ≤ (sa + 4000); omega⟩ wd_786 wd_787 (q_small_of (Nat.le_of_ble_eq_true rfl)) hm4 (q_kPi ?_) q_kPi0
  refine wp_less (ac2 := (ca + 200)) (as2 := (sa + 4000)) (by show (ca + 200) ≤ (ca + 200) - 0; omega) (by show (sa + 4000) ≤ (sa + 4000) - 0; omega) ?_
  refine wp_istore' (ls' := [some (vr sc), some (vr x), some (vr pg), some (vr mn), some (vr fa), some (vr of), some (vi nP), some (vi nB), some (vi aN), some (vi tn), some (vi v), some (vi w), some (vi wh), some (vi p), some (vi b), some (vi it), some (vi iu), some (vi 1), some (vi v5), none]) dL_law_222 (Nat.le_of_ble_eq_true rfl) rfl ?_
  refine wp_iload dL_law_224 rfl ?_
  refine wp_bipush dL_law_226 (by decide) ?_
  obtain ⟨hr6, h⟩ := h
  refine wp_icmp_ge (tgt := 326) dL_law_228 (by decide) hr6 (by unfold qR; omega) (fun c7 => ?_) (fun c7 => ?_)
  · replace h := h.1 c7
    refine wp_goto (tgt := 1014) dL_law_326 (by decide) ?_
    exact wp_less (ac2 := ca) (as2 := sa) (by omega) (by omega) (wp_lsub (ls' := [some (vr sc), some (vr x), some (vr pg), some (vr mn), some (vr fa), some (vr of), some (vi nP), some (vi nB), some (vi aN), some (vi tn), none, some (vi w), none, none, none, none, none, some (vi 1), none, none]) ⟨rfl, ⟨rfl, ⟨rfl, ⟨rfl, ⟨rfl, ⟨rfl, ⟨rfl, ⟨rfl, ⟨rfl, ⟨rfl, ⟨rfl, ⟨rfl, trivial⟩⟩⟩⟩⟩⟩⟩⟩⟩⟩⟩⟩ h)
  · replace h := h.2 c7
    refine wp_aload_n dL_law_231 rfl ?_
    refine wp_iload dL_law_232 rfl ?_
    obtain ⟨Mid9, MidX10, hm8, hk11, hx12⟩ := h
    refine wp_callV (M' := M_X7_panels) (As := [vi v5]) (st := []) (ci := 7) dL_law_234 cee_X7_panels np_X7_panels rfl ⟨Nat.le_of_ble_eq_true rfl, Nat.le_of_ble_eq_true rfl, by show 1 ≤ (ca + 200); omega, by show 6 ≤ (sa + 4000); omega⟩ wd_724 wd_725 wd_726 rfl (Or.inl hk2) (q_small_of (Nat.le_of_ble_eq_true rfl)) hm8 (q_kTi (fun σ13 v15 hM14 => ?_)) (fun σ9 n9 hq => absurd (q_xi hq) (hx12 σ9 n9))
    refine wp_less (ac2 := (ca + 199)) (as2 := (sa + 3994)) (by show (ca + 199) ≤ (ca + 200) - 1; omega) (by show (sa + 3994) ≤ (sa + 4000) - 6; omega) ?_
    have h := hk11 σ13 v15 hM14
    refine wp_iconst dL_law_237 ?_
    obtain ⟨hr16, h⟩ := h
    refine wp_icmp_ge (tgt := 326) dL_law_238 (by decide) hr16 (by unfold qR; omega) (fun c17 => ?_) (fun c17 => ?_)
    · replace h := h.1 c17
      refine wp_goto (tgt := 1014) dL_law_326 (by decide) ?_
      exact wp_less (ac2 := ca) (as2 := sa) (by omega) (by omega) (wp_lsub (ls' := [some (vr sc), some (vr x), some (vr pg), some (vr mn), some (vr fa), some (vr of), some (vi nP), some (vi nB), some (vi aN), some (vi tn), none, some (vi w), none, none, none, none, none, some (vi 1), none, none]) ⟨rfl, ⟨rfl, ⟨rfl, ⟨rfl, ⟨rfl, ⟨rfl, ⟨rfl, ⟨rfl, ⟨rfl, ⟨rfl, ⟨rfl, ⟨rfl, trivial⟩⟩⟩⟩⟩⟩⟩⟩⟩⟩⟩⟩ h)
    · replace h := h.2 c17
      refine wp_aload_n dL_law_241 rfl ?_
      refine wp_iload dL_law_242 rfl ?_
      refine wp_iload dL_law_244 rfl ?_
      refine wp_bipush dL_law_246 (by decide) ?_
      refine wp_ishr dL_law_248 ?_
      refine wp_aload_n dL_law_249 rfl ?_
      refine wp_iload dL_law_250 rfl ?_
      obtain ⟨hk19, h⟩ := h
      obtain ⟨Mid20, MidX21, hm18, hk22, hx23⟩ := h
      refine wp_callV (M' := M_X7_panels) (As := [vi v5]) (st := [vi ((Int32.ofInt w >>> (Int32.ofInt 9 &&& 31)).toInt), vi v5, vr x]) (ci := 7) dL_law_252 cee_X7_panels np_X7_panels rfl ⟨Nat.le_of_ble_eq_true rfl, Nat.le_of_ble_eq_true rfl, by show 1 ≤ (ca + 199); omega, by show 6 ≤ (sa + 3994); omega⟩ wd_724 wd_725 wd_726 rfl (Or.inl hk19) (q_small_of (Nat.le_of_ble_eq_true rfl)) hm18 (q_kTi (fun σ24 v26 hM25 => ?_)) (fun σ9 n9 hq => absurd (q_xi hq) (hx23 σ9 n9))
      refine wp_less (ac2 := (ca + 198)) (as2 := (sa + 3988)) (by show (ca + 198) ≤ (ca + 199) - 1; omega) (by show (sa + 3988) ≤ (sa + 3994) - 6; omega) ?_
      have h := hk22 σ24 v26 hM25
      refine wp_iconst dL_law_255 ?_
      refine wp_iadd dL_law_256 ?_
      obtain ⟨v28, hm27, h⟩ := h
      refine wp_callS (M' := M_L_low) (As := [vi ((Int32.ofInt w >>> (Int32.ofInt 9 &&& 31)).toInt), vi (v26 + 1)]) (st := [vi v5, vr x]) dL_law_257 cee_L_low np_L_low rfl ⟨Nat.le_of_ble_eq_true rfl, Nat.le_of_ble_eq_true rfl, by show 0 ≤ (ca + 198); omega, by show 0 ≤ (sa + 3988); omega⟩ wd_786 wd_787 (q_small_of (Nat.le_of_ble_eq_true rfl)) hm27 (q_kPi ?_) q_kPi0
      refine wp_less (ac2 := (ca + 198)) (as2 := (sa + 3988)) (by show (ca + 198) ≤ (ca + 198) - 0; omega) (by show (sa + 3988) ≤ (sa + 3988) - 0; omega) ?_
      refine wp_iconst dL_law_260 ?_
      refine wp_iload dL_law_261 rfl ?_
      refine wp_bipush dL_law_263 (by decide) ?_
      refine wp_ishr dL_law_265 ?_
      refine wp_bipush dL_law_266 (by decide) ?_
      obtain ⟨v30, hm29, h⟩ := h
      refine wp_callS (M' := M_L_low) (As := [vi ((Int32.ofInt w >>> (Int32.ofInt 12 &&& 31)).toInt), vi 9]) (st := [vi 1, vi v28, vi v5, vr x]) dL_law_268 cee_L_low np_L_low rfl ⟨Nat.le_of_ble_eq_true rfl, Nat.le_of_ble_eq_true rfl, by show 0 ≤ (ca + 198); omega, by show 0 ≤ (sa + 3988); omega⟩ wd_786 wd_787 (q_small_of (Nat.le_of_ble_eq_true rfl)) hm29 (q_kPi ?_) q_kPi0
      refine wp_less (ac2 := (ca + 198)) (as2 := (sa + 3988)) (by show (ca + 198) ≤ (ca + 198) - 0; omega) (by show (sa + 3988) ≤ (sa + 3988) - 0; omega) ?_
      refine wp_iadd dL_law_271 ?_
      refine wp_bipush dL_law_272 (by decide) ?_
      refine wp_iload dL_law_274 rfl ?_
      refine wp_bipush dL_law_276 (by decide) ?_
      refine wp_ishr dL_law_278 ?_
      refine wp_bipush dL_law_279 (by decide) ?_
      obtain ⟨v32, hm31, h⟩ := h
      refine wp_callS (M' := M_L_low) (As := [vi ((Int32.ofInt w >>> (Int32.ofInt 15 &&& 31)).toInt), vi 19]) (st := [vi 6, vi (1 + v30), vi v28, vi v5, vr x]) dL_law_281 cee_L_low np_L_low rfl ⟨Nat.le_of_ble_eq_true rfl, Nat.le_of_ble_eq_true rfl, by show 0 ≤ (ca + 198); omega, by show 0 ≤ (sa + 3988); omega⟩ wd_786 wd_787 (q_small5 trivial trivial trivial trivial trivial) hm31 (q_kPi ?_) q_kPi0
      refine wp_less (ac2 := (ca + 198)) (as2 := (sa + 3988)) (by show (ca + 198) ≤ (ca + 198) - 0; omega) (by show (sa + 3988) ≤ (sa + 3988) - 0; omega) ?_
      refine wp_iadd dL_law_284 ?_
      refine wp_iconst dL_law_285 ?_
      refine wp_iload dL_law_286 rfl ?_
      refine wp_bipush dL_law_288 (by decide) ?_
      refine wp_ishr dL_law_290 ?_
      refine wp_bipush dL_law_291 (by decide) ?_
      obtain ⟨v34, hm33, h⟩ := h
      refine wp_callS (M' := M_L_low) (As := [vi ((Int32.ofInt w >>> (Int32.ofInt 20 &&& 31)).toInt), vi 10]) (st := [vi 3, vi (6 + v32), vi (1 + v30), vi v28, vi v5, vr x]) dL_law_293 cee_L_low np_L_low rfl ⟨Nat.le_of_ble_eq_true rfl, Nat.le_of_ble_eq_true rfl, by show 0 ≤ (ca + 198); omega, by show 0 ≤ (sa + 3988); omega⟩ wd_786 wd_787 (q_small6 trivial trivial trivial trivial trivial trivial) hm33 (q_kPi ?_) q_kPi0
      refine wp_less (ac2 := (ca + 198)) (as2 := (sa + 3988)) (by show (ca + 198) ≤ (ca + 198) - 0; omega) (by show (sa + 3988) ≤ (sa + 3988) - 0; omega) ?_
      refine wp_iadd dL_law_296 ?_
      obtain ⟨hk36, h⟩ := h
      obtain ⟨Mid37, MidX38, hm35, hk39, hx40⟩ := h
      refine wp_callV (M' := M_X7_panel) (As := [vi v5, vi v28, vi (1 + v30), vi (6 + v32), vi (3 + v34)]) (st := []) (ci := 7) dL_law_297 cee_X7_panel np_X7_panel rfl ⟨Nat.le_of_ble_eq_true rfl, Nat.le_of_ble_eq_true rfl, by show 16 ≤ (ca + 198); omega, by show 868 ≤ (sa + 3988); omega⟩ wd_277 wd_278 wd_279 rfl (Or.inl hk36) (q_small_of (Nat.le_of_ble_eq_true rfl)) hm35 (q_kTi (fun σ41 v43 hM42 => ?_)) (fun σ9 n9 hq => absurd (q_xi hq) (hx40 σ9 n9))
      refine wp_less (ac2 := (ca + 182)) (as2 := (sa + 3120)) (by show (ca + 182) ≤ (ca + 198) - 16; omega) (by show (sa + 3120) ≤ (sa + 3988) - 868; omega) ?_
      have h := hk39 σ41 v43 hM42
      refine wp_iload dL_law_300 rfl ?_
      obtain ⟨h, hk49⟩ := h
      have key48 : ∀ v46 : Int, v46 = (if ¬ v43 = nP then 0 else 1) → qW g l (M_law nm hh) (ca + 182) (sa + 3120) 310 [some (vr sc), some (vr x), some (vr pg), some (vr mn), some (vr fa), some (vr of), some (vi nP), some (vi nB), some (vi aN), some (vi tn), some (vi v), some (vi w), some (vi wh), some (vi p), some (vi b), some (vi it), some (vi iu), some (vi 1), some (vi v5), none] [vi v46] σ41 Post := by
        intro v46 hv47
        have h := hk49 v46 hv47
        have hr50 : qR v46 := by (rw [hv47]; unfold qR; repeat' split) <;> omega
        have hz51 : v46 = 0 ∨ v46 = 1 := by (rw [hv47]; repeat' split) <;> first | exact Or.inl rfl | exact Or.inr rfl
        refine wp_istore' (ls' := [some (vr sc), some (vr x), some (vr pg), some (vr mn), some (vr fa), some (vr of), some (vi nP), some (vi nB), some (vi aN), some (vi tn), some (vi v), some (vi w), some (vi wh), some (vi p), some (vi b), some (vi it), some (vi iu), some (vi v46), some (vi v5), none]) dL_law_310 (Nat.le_of_ble_eq_true rfl) rfl ?_
        refine wp_aload_n dL_law_312 rfl ?_
        refine wp_iload dL_law_313 rfl ?_
        refine wp_iload dL_law_315 rfl ?_
        obtain ⟨hk52, hi53, h⟩ := h
        refine wp_iastore dL_law_317 hk52 hi53 ?_
        refine wp_nmS (fun σ54 hs55 => ?_)
        replace h := h σ54 hs55
        refine wp_aload_n dL_law_318 rfl ?_
        refine wp_iload dL_law_319 rfl ?_
        refine wp_iconst dL_law_321 ?_
        obtain ⟨hk56, hi57, h⟩ := h
        refine wp_iastore dL_law_322 hk56 hi57 ?_
        refine wp_nmS (fun σ58 hs59 => ?_)
        replace h := h σ58 hs59
        refine wp_nmT (nP + 1) (fun x60 hx61 => ?_)
        replace h := h x60 hx61
        refine wp_iinc' (z' := x60) (ls' := [some (vr sc), some (vr x), some (vr pg), some (vr mn), some (vr fa), some (vr of), some (vi x60), some (vi nB), some (vi aN), some (vi tn), some (vi v), some (vi w), some (vi wh), some (vi p), some (vi b), some (vi it), some (vi iu), some (vi v46), some (vi v5), none]) dL_law_323 (Nat.le_of_ble_eq_true rfl) rfl hx61 rfl ?_
        refine wp_goto (tgt := 1014) dL_law_326 (by decide) ?_
        exact wp_less (ac2 := ca) (as2 := sa) (by omega) (by omega) (wp_lsub (ls' := [some (vr sc), some (vr x), some (vr pg), some (vr mn), some (vr fa), some (vr of), some (vi x60), some (vi nB), some (vi aN), some (vi tn), none, some (vi w), none, none, none, none, none, some (vi v46), none, none]) ⟨rfl, ⟨rfl, ⟨rfl, ⟨rfl, ⟨rfl, ⟨rfl, ⟨rfl, ⟨rfl, ⟨rfl, ⟨rfl, ⟨rfl, ⟨rfl, trivial⟩⟩⟩⟩⟩⟩⟩⟩⟩⟩⟩⟩ h)
      have hr62 := h
      refine wp_icmp_ne (tgt := 309) dL_law_302 (by decide) hr62 hr6 (fun c63 => ?_) (fun c63 => ?_)
      · refine wp_iconst dL_law_309 ?_
        exact key48 _ (by rw [if_pos c63])
      · refine wp_iconst dL_law_305 ?_
        refine wp_goto (tgt := 310) dL_law_306 (by decide) ?_
        exact key48 _ (by rw [if_neg (fun z => z c63)])

set_option maxRecDepth 100000 in
set_option maxHeartbeats 4000000 in
theorem ls_balloon (hl : l.stackTraces = false) {sc : Nat} {x : Nat} {pg : Nat} {mn : Nat} {fa : Nat} {of : Nat} {nP : Int} {nB : Int} {aN : Int} {tn : Int} {v : Int} {w : Int} {wh : Int} {p : Int} {b : Int} {it : Int} {iu : Int}
    (h : qR it ∧ ((it = 0 → qW g l (M_law nm hh) ca sa 1014 [some (vr sc), some (vr x), some (vr pg), some (vr mn), some (vr fa), some (vr of), some (vi nP), some (vi nB), some (vi aN), some (vi tn), none, some (vi w), none, none, none, none, none, some (vi 1), none, none] [] σ Post) ∧ (¬ (it = 0) → qR nB ∧ ((40 ≤ nB → qW g l (M_law nm hh) ca sa 1014 [some (vr sc), some (vr x), some (vr pg), some (vr mn), some (vr fa), some (vr of), some (vi nP), some (vi nB), some (vi aN), some (vi tn), none, some (vi w), none, none, none, none, none, some (vi 1), none, none] [] σ Post) ∧ (¬ (40 ≤ nB) → q_isA σ 0 mn ∧ q_in σ mn p ∧ qR (gA σ mn p) ∧ ((2 ≤ (gA σ mn p) → qW g l (M_law nm hh) ca sa 1014 [some (vr sc), some (vr x), some (vr pg), some (vr mn), some (vr fa), some (vr of), some (vi nP), some (vi nB), some (vi aN), some (vi tn), none, some (vi w), none, none, none, none, none, some (vi 1), none, none] [] σ Post) ∧ (¬ (2 ≤ (gA σ mn p)) → (∃ v10 : Int, qMet g l M_L_low [vi ((Int32.ofInt w >>> (Int32.ofInt 6 &&& 31)).toInt), vi ((gA σ mn p) + 1)] σ (qPi σ v10) ∧ ((∃ v12 : Int, qMet g l M_L_low [vi ((Int32.ofInt w >>> (Int32.ofInt 8 &&& 31)).toInt), vi 12] σ (qPi σ v12) ∧ (gK σ x = 8 ∧ (∃ (Mid15 : qS → Int → Prop) (MidX16 : qS → Nat → Prop), qMet g l M_X7_balloon [vr x, vi p, vi v10, vi (1 + v12)] σ (qTi Mid15 MidX16) ∧ (∀ (σ19 : qS) (v21 : Int), Mid15 σ19 v21 → ((qR v21) ∧ ∀ v24 : Int, v24 = (if ¬ v21 = nB then 0 else 1) → gK σ19 of = 20 ∧ q_in σ19 of nB ∧ (∀ σ32 : qS, σ32 = sA σ19 of nB p → q_isA σ32 0 mn ∧ q_in σ32 mn p ∧ gK σ32 mn = 20 ∧ (∀ σ37 : qS, σ37 = sA σ32 mn p ((gA σ32 mn p) + 1) → ∀ x39 : Int, x39 = nB + 1 → qW g l (M_law nm hh) ca sa 1014 [some (vr sc), some (vr x), some (vr pg), some (vr mn), some (vr fa), some (vr of), some (vi nP), some (vi x39), some (vi aN), some (vi tn), none, some (vi w), none, none, none, none, none, some (vi v24), none, none] [] σ37 Post)))) ∧ (∀ (σ9 : qS) (n9 : Nat), ¬ MidX16 σ9 n9))))))))))))) : qW g l (M_law nm hh) (ca + 200) (sa + 4000) 336 [some (vr sc), some (vr x), some (vr pg), some (vr mn), some (vr fa), some (vr of), some (vi nP), some (vi nB), some (vi aN), some (vi tn), some (vi v), some (vi w), some (vi wh), some (vi p), some (vi b), some (vi it), some (vi iu), some (vi 1), none, none] [] σ Post := by
  refine wp_iload dL_law_336 rfl ?_
  obtain ⟨hr1, h⟩ := h
  refine wp_if_eq (tgt := 1014) dL_law_338 (by decide) hr1 (fun c2 => ?_) (fun c2 => ?_)
  · replace h := h.1 c2
    exact wp_less (ac2 := ca) (as2 := sa) (by omega) (by omega) (wp_lsub (ls' := [some (vr sc), some (vr x), some (vr pg), some (vr mn), some (vr fa), some (vr of), some (vi nP), some (vi nB), some (vi aN), some (vi tn), none, some (vi w), none, none, none, none, none, some (vi 1), none, none]) ⟨rfl, ⟨rfl, ⟨rfl, ⟨rfl, ⟨rfl, ⟨rfl, ⟨rfl, ⟨rfl, ⟨rfl, ⟨rfl, ⟨rfl, ⟨rfl, trivial⟩⟩⟩⟩⟩⟩⟩⟩⟩⟩⟩⟩ h)
  · replace h := h.2 c2
    refine wp_iload dL_law_341 rfl ?_
    refine wp_bipush dL_law_343 (by decide) ?_
    obtain ⟨hr3, h⟩ := h
    refine wp_icmp_ge (tgt := 1014) dL_law_345 (by decide) hr3 (by unfold qR; omega) (fun c4 => ?_) (fun c4 => ?_)
    · replace h := h.1 c4
      exact wp_less (ac2 := ca) (as2 := sa) (by omega) (by omega) (wp_lsub (ls' := [some (vr sc), some (vr x), some (vr pg), some (vr mn), some (vr fa), some (vr of), some (vi nP), some (vi nB), some (vi aN), some (vi tn), none, some (vi w), none, none, none, none, none, some (vi 1), none, none]) ⟨rfl, ⟨rfl, ⟨rfl, ⟨rfl, ⟨rfl, ⟨rfl, ⟨rfl, ⟨rfl, ⟨rfl, ⟨rfl, ⟨rfl, ⟨rfl, trivial⟩⟩⟩⟩⟩⟩⟩⟩⟩⟩⟩⟩ h)
    · replace h := h.2 c4
      refine wp_aload_n dL_law_348 rfl ?_
      refine wp_iload dL_law_349 rfl ?_
      obtain ⟨ha5, hi6, h⟩ := h
      refine wp_iaload dL_law_351 ha5 hi6 ?_
      refine wp_iconst dL_law_352 ?_
      obtain ⟨hr7, h⟩ := h
      refine wp_icmp_ge (tgt := 1014) dL_law_353 (by decide) hr7 (by unfold qR; omega) (fun c8 => ?_) (fun c8 => ?_)
      · replace h := h.1 c8
        exact wp_less (ac2 := ca) (as2 := sa) (by omega) (by omega) (wp_lsub (ls' := [some (vr sc), some (vr x), some (vr pg), some (vr mn), some (vr fa), some (vr of), some (vi nP), some (vi nB), some (vi aN), some (vi tn), none, some (vi w), none, none, none, none, none, some (vi 1), none, none]) ⟨rfl, ⟨rfl, ⟨rfl, ⟨rfl, ⟨rfl, ⟨rfl, ⟨rfl, ⟨rfl, ⟨rfl, ⟨rfl, ⟨rfl, ⟨rfl, trivial⟩⟩⟩⟩⟩⟩⟩⟩⟩⟩⟩⟩ h)
      · replace h := h.2 c8
        refine wp_aload_n dL_law_356 rfl ?_
        refine wp_iload dL_law_357 rfl ?_
        refine wp_iload dL_law_359 rfl ?_
        refine wp_bipush dL_law_361 (by decide) ?_
        refine wp_ishr dL_law_363 ?_
        refine wp_aload_n dL_law_364 rfl ?_
        refine wp_iload dL_law_365 rfl ?_
        refine wp_iaload dL_law_367 ha5 hi6 ?_
        refine wp_iconst dL_law_368 ?_
        refine wp_iadd dL_law_369 ?_
        obtain ⟨v10, hm9, h⟩ := h
        refine wp_callS (M' := M_L_low) (As := [vi ((Int32.ofInt w >>> (Int32.ofInt 6 &&& 31)).toInt), vi ((gA σ mn p) + 1)]) (st := [vi p, vr x]) dL_law_370 cee_L_low np_L_low rfl ⟨Nat.le_of_ble_eq_true rfl, Nat.le_of_ble_eq_true rfl, by show 0 ≤ (ca + 200); omega, by show 0 ≤ (sa + 4000); omega⟩ wd_786 wd_787 (q_small_of (Nat.le_of_ble_eq_true rfl)) hm9 (q_kPi ?_) q_kPi0
        refine wp_less (ac2 := (ca + 200)) (as2 := (sa + 4000)) (by show (ca + 200) ≤ (ca + 200) - 0; omega) (by show (sa + 4000) ≤ (sa + 4000) - 0; omega) ?_
        refine wp_iconst dL_law_373 ?_
        refine wp_iload dL_law_374 rfl ?_
        refine wp_bipush dL_law_376 (by decide) ?_
        refine wp_ishr dL_law_378 ?_
        refine wp_bipush dL_law_379 (by decide) ?_
        obtain ⟨v12, hm11, h⟩ := h
        refine wp_callS (M' := M_L_low) (As := [vi ((Int32.ofInt w >>> (Int32.ofInt 8 &&& 31)).toInt), vi 12]) (st := [vi 1, vi v10, vi p, vr x]) dL_law_381 cee_L_low np_L_low rfl ⟨Nat.le_of_ble_eq_true rfl, Nat.le_of_ble_eq_true rfl, by show 0 ≤ (ca + 200); omega, by show 0 ≤ (sa + 4000); omega⟩ wd_786 wd_787 (q_small_of (Nat.le_of_ble_eq_true rfl)) hm11 (q_kPi ?_) q_kPi0
        refine wp_less (ac2 := (ca + 200)) (as2 := (sa + 4000)) (by show (ca + 200) ≤ (ca + 200) - 0; omega) (by show (sa + 4000) ≤ (sa + 4000) - 0; omega) ?_
        refine wp_iadd dL_law_384 ?_
        obtain ⟨hk14, h⟩ := h
        obtain ⟨Mid15, MidX16, hm13, hk17, hx18⟩ := h
        refine wp_callV (M' := M_X7_balloon) (As := [vi p, vi v10, vi (1 + v12)]) (st := []) (ci := 7) dL_law_385 cee_X7_balloon np_X7_balloon rfl ⟨Nat.le_of_ble_eq_true rfl, Nat.le_of_ble_eq_true rfl, by show 12 ≤ (ca + 200); omega, by show 845 ≤ (sa + 4000); omega⟩ wd_628 wd_629 wd_630 rfl (Or.inl hk14) (q_small_of (Nat.le_of_ble_eq_true rfl)) hm13 (q_kTi (fun σ19 v21 hM20 => ?_)) (fun σ9 n9 hq => absurd (q_xi hq) (hx18 σ9 n9))
        refine wp_less (ac2 := (ca + 188)) (as2 := (sa + 3155)) (by show (ca + 188) ≤ (ca + 200) - 12; omega) (by show (sa + 3155) ≤ (sa + 4000) - 845; omega) ?_
        have h := hk17 σ19 v21 hM20
        refine wp_iload dL_law_388 rfl ?_
        obtain ⟨h, hk27⟩ := h
        have key26 : ∀ v24 : Int, v24 = (if ¬ v21 = nB then 0 else 1) → qW g l (M_law nm hh) (ca + 188) (sa + 3155) 398 [some (vr sc), some (vr x), some (vr pg), some (vr mn), some (vr fa), some (vr of), some (vi nP), some (vi nB), some (vi aN), some (vi tn), some (vi v), some (vi w), some (vi wh), some (vi p), some (vi b), some (vi it), some (vi iu), some (vi 1), none, none] [vi v24] σ19 Post := by
          intro v24 hv25
          have h := hk27 v24 hv25
          have hr28 : qR v24 := by (rw [hv25]; unfold qR; repeat' split) <;> omega
          have hz29 : v24 = 0 ∨ v24 = 1 := by (rw [hv25]; repeat' split) <;> first | exact Or.inl rfl | exact Or.inr rfl
          refine wp_istore' (ls' := [some (vr sc), some (vr x), some (vr pg), some (vr mn), some (vr fa), some (vr of), some (vi nP), some (vi nB), some (vi aN), some (vi tn), some (vi v), some (vi w), some (vi wh), some (vi p), some (vi b), some (vi it), some (vi iu), some (vi v24), none, none]) dL_law_398 (Nat.le_of_ble_eq_true rfl) rfl ?_
          refine wp_aload dL_law_400 rfl ?_
          refine wp_iload dL_law_402 rfl ?_
          refine wp_iload dL_law_404 rfl ?_
          obtain ⟨hk30, hi31, h⟩ := h
          refine wp_iastore dL_law_406 hk30 hi31 ?_
          refine wp_nmS (fun σ32 hs33 => ?_)
          replace h := h σ32 hs33
          refine wp_aload_n dL_law_407 rfl ?_
          refine wp_iload dL_law_408 rfl ?_
          refine wp_dup2 dL_law_410 trivial trivial ?_
          obtain ⟨ha34, hi35, h⟩ := h
          refine wp_iaload dL_law_411 ha34 hi35 ?_
          refine wp_iconst dL_law_412 ?_
          refine wp_iadd dL_law_413 ?_
          obtain ⟨hk36, h⟩ := h
          refine wp_iastore dL_law_414 hk36 hi35 ?_
          refine wp_nmS (fun σ37 hs38 => ?_)
          replace h := h σ37 hs38
          refine wp_nmT (nB + 1) (fun x39 hx40 => ?_)
          replace h := h x39 hx40
          refine wp_iinc' (z' := x39) (ls' := [some (vr sc), some (vr x), some (vr pg), some (vr mn), some (vr fa), some (vr of), some (vi nP), some (vi x39), some (vi aN), some (vi tn), some (vi v), some (vi w), some (vi wh), some (vi p), some (vi b), some (vi it), some (vi iu), some (vi v24), none, none]) dL_law_415 (Nat.le_of_ble_eq_true rfl) rfl hx40 rfl ?_
          refine wp_goto (tgt := 1014) dL_law_418 (by decide) ?_
          exact wp_less (ac2 := ca) (as2 := sa) (by omega) (by omega) (wp_lsub (ls' := [some (vr sc), some (vr x), some (vr pg), some (vr mn), some (vr fa), some (vr of), some (vi nP), some (vi x39), some (vi aN), some (vi tn), none, some (vi w), none, none, none, none, none, some (vi v24), none, none]) ⟨rfl, ⟨rfl, ⟨rfl, ⟨rfl, ⟨rfl, ⟨rfl, ⟨rfl, ⟨rfl, ⟨rfl, ⟨rfl, ⟨rfl, ⟨rfl, trivial⟩⟩⟩⟩⟩⟩⟩⟩⟩⟩⟩⟩ h)
        have hr41 := h
        refine wp_icmp_ne (tgt := 397) dL_law_390 (by decide) hr41 hr3 (fun c42 => ?_) (fun c42 => ?_)
        · refine wp_iconst dL_law_397 ?_
          exact key26 _ (by rw [if_pos c42])
        · refine wp_iconst dL_law_393 ?_
          refine wp_goto (tgt := 398) dL_law_394 (by decide) ?_
          exact key26 _ (by rw [if_neg (fun z => z c42)])

set_option maxRecDepth 100000 in
set_option maxHeartbeats 4000000 in
theorem ls_face (hl : l.stackTraces = false) {sc : Nat} {x : Nat} {pg : Nat} {mn : Nat} {fa : Nat} {of : Nat} {nP : Int} {nB : Int} {aN : Int} {tn : Int} {v : Int} {w : Int} {wh : Int} {p : Int} {b : Int} {it : Int} {iu : Int}
    (h : qR it ∧ ((it = 0 → qW g l (M_law nm hh) ca sa 1014 [some (vr sc), some (vr x), some (vr pg), some (vr mn), some (vr fa), some (vr of), some (vi nP), some (vi nB), some (vi aN), some (vi tn), none, some (vi w), none, none, none, none, none, some (vi 1), none, none] [] σ Post) ∧ (¬ (it = 0) → q_isA σ 0 fa ∧ q_in σ fa p ∧ qR (gA σ fa p) ∧ ((2 ≤ (gA σ fa p) → qW g l (M_law nm hh) ca sa 1014 [some (vr sc), some (vr x), some (vr pg), some (vr mn), some (vr fa), some (vr of), some (vi nP), some (vi nB), some (vi aN), some (vi tn), none, some (vi w), none, none, none, none, none, some (vi 1), none, none] [] σ Post) ∧ (¬ (2 ≤ (gA σ fa p)) → gK σ fa = 20 ∧ (∀ σ8 : qS, σ8 = sA σ fa p ((gA σ fa p) + 1) → (∃ v11 : Int, qMet g l M_L_low [vi ((Int32.ofInt w >>> (Int32.ofInt 6 &&& 31)).toInt), vi 24] σ8 (qPi σ8 v11) ∧ ((∃ v13 : Int, qMet g l M_L_low [vi ((Int32.ofInt w >>> (Int32.ofInt 11 &&& 31)).toInt), vi 3] σ8 (qPi σ8 v13) ∧ ((∃ v15 : Int, qMet g l M_L_low [vi ((Int32.ofInt w >>> (Int32.ofInt 13 &&& 31)).toInt), vi 2] σ8 (qPi σ8 v15) ∧ (gK σ8 x = 8 ∧ (∃ (Mid18 : qS → Int → Prop) (MidX19 : qS → Nat → Prop), qMet g l M_X7_face [vr x, vi p, vi v11, vi (1 + v13), vi (1 + v15)] σ8 (qTi Mid18 MidX19) ∧ (∀ (σ22 : qS) (v24 : Int), Mid18 σ22 v24 → gK σ22 x = 8 ∧ (∃ (Mid27 : qS → Int → Prop) (MidX28 : qS → Nat → Prop), qMet g l M_X7_lies [vr x, vi p, vi 4] σ22 (qTi Mid27 MidX28) ∧ (∀ (σ31 : qS) (v33 : Int), Mid27 σ31 v33 → ((qR v24 ∧ qR v33) ∧ ∀ v37 : Int, v37 = (if ¬ v24 = v33 then 0 else 1) → qW g l (M_law nm hh) ca sa 1014 [some (vr sc), some (vr x), some (vr pg), some (vr mn), some (vr fa), some (vr of), some (vi nP), some (vi nB), some (vi aN), some (vi tn), none, some (vi w), none, none, none, none, none, some (vi v37), none, none] [] σ31 Post)) ∧ (∀ (σ9 : qS) (n9 : Nat), ¬ MidX28 σ9 n9))) ∧ (∀ (σ9 : qS) (n9 : Nat), ¬ MidX19 σ9 n9)))))))))))))) : qW g l (M_law nm hh) (ca + 200) (sa + 4000) 428 [some (vr sc), some (vr x), some (vr pg), some (vr mn), some (vr fa), some (vr of), some (vi nP), some (vi nB), some (vi aN), some (vi tn), some (vi v), some (vi w), some (vi wh), some (vi p), some (vi b), some (vi it), some (vi iu), some (vi 1), none, none] [] σ Post := by
  refine wp_iload dL_law_428 rfl ?_
  obtain ⟨hr1, h⟩ := h
  refine wp_if_eq (tgt := 1014) dL_law_430 (by decide) hr1 (fun c2 => ?_) (fun c2 => ?_)
  · replace h := h.1 c2
    exact wp_less (ac2 := ca) (as2 := sa) (by omega) (by omega) (wp_lsub (ls' := [some (vr sc), some (vr x), some (vr pg), some (vr mn), some (vr fa), some (vr of), some (vi nP), some (vi nB), some (vi aN), some (vi tn), none, some (vi w), none, none, none, none, none, some (vi 1), none, none]) ⟨rfl, ⟨rfl, ⟨rfl, ⟨rfl, ⟨rfl, ⟨rfl, ⟨rfl, ⟨rfl, ⟨rfl, ⟨rfl, ⟨rfl, ⟨rfl, trivial⟩⟩⟩⟩⟩⟩⟩⟩⟩⟩⟩⟩ h)
  · replace h := h.2 c2
    refine wp_aload dL_law_433 rfl ?_
    refine wp_iload dL_law_435 rfl ?_
    obtain ⟨ha3, hi4, h⟩ := h
    refine wp_iaload dL_law_437 ha3 hi4 ?_
    refine wp_iconst dL_law_438 ?_
    obtain ⟨hr5, h⟩ := h
    refine wp_icmp_ge (tgt := 1014) dL_law_439 (by decide) hr5 (by unfold qR; omega) (fun c6 => ?_) (fun c6 => ?_)
    · replace h := h.1 c6
      exact wp_less (ac2 := ca) (as2 := sa) (by omega) (by omega) (wp_lsub (ls' := [some (vr sc), some (vr x), some (vr pg), some (vr mn), some (vr fa), some (vr of), some (vi nP), some (vi nB), some (vi aN), some (vi tn), none, some (vi w), none, none, none, none, none, some (vi 1), none, none]) ⟨rfl, ⟨rfl, ⟨rfl, ⟨rfl, ⟨rfl, ⟨rfl, ⟨rfl, ⟨rfl, ⟨rfl, ⟨rfl, ⟨rfl, ⟨rfl, trivial⟩⟩⟩⟩⟩⟩⟩⟩⟩⟩⟩⟩ h)
    · replace h := h.2 c6
      refine wp_aload dL_law_442 rfl ?_
      refine wp_iload dL_law_444 rfl ?_
      refine wp_dup2 dL_law_446 trivial trivial ?_
      refine wp_iaload dL_law_447 ha3 hi4 ?_
      refine wp_iconst dL_law_448 ?_
      refine wp_iadd dL_law_449 ?_
      obtain ⟨hk7, h⟩ := h
      refine wp_iastore dL_law_450 hk7 hi4 ?_
      refine wp_nmS (fun σ8 hs9 => ?_)
      replace h := h σ8 hs9
      refine wp_aload_n dL_law_451 rfl ?_
      refine wp_iload dL_law_452 rfl ?_
      refine wp_iload dL_law_454 rfl ?_
      refine wp_bipush dL_law_456 (by decide) ?_
      refine wp_ishr dL_law_458 ?_
      refine wp_bipush dL_law_459 (by decide) ?_
      obtain ⟨v11, hm10, h⟩ := h
      refine wp_callS (M' := M_L_low) (As := [vi ((Int32.ofInt w >>> (Int32.ofInt 6 &&& 31)).toInt), vi 24]) (st := [vi p, vr x]) dL_law_461 cee_L_low np_L_low rfl ⟨Nat.le_of_ble_eq_true rfl, Nat.le_of_ble_eq_true rfl, by show 0 ≤ (ca + 200); omega, by show 0 ≤ (sa + 4000); omega⟩ wd_786 wd_787 (q_small_of (Nat.le_of_ble_eq_true rfl)) hm10 (q_kPi ?_) q_kPi0
      refine wp_less (ac2 := (ca + 200)) (as2 := (sa + 4000)) (by show (ca + 200) ≤ (ca + 200) - 0; omega) (by show (sa + 4000) ≤ (sa + 4000) - 0; omega) ?_
      refine wp_iconst dL_law_464 ?_
      refine wp_iload dL_law_465 rfl ?_
      refine wp_bipush dL_law_467 (by decide) ?_
      refine wp_ishr dL_law_469 ?_
      refine wp_iconst dL_law_470 ?_
      obtain ⟨v13, hm12, h⟩ := h
      refine wp_callS (M' := M_L_low) (As := [vi ((Int32.ofInt w >>> (Int32.ofInt 11 &&& 31)).toInt), vi 3]) (st := [vi 1, vi v11, vi p, vr x]) dL_law_471 cee_L_low np_L_low rfl ⟨Nat.le_of_ble_eq_true rfl, Nat.le_of_ble_eq_true rfl, by show 0 ≤ (ca + 200); omega, by show 0 ≤ (sa + 4000); omega⟩ wd_786 wd_787 (q_small_of (Nat.le_of_ble_eq_true rfl)) hm12 (q_kPi ?_) q_kPi0
      refine wp_less (ac2 := (ca + 200)) (as2 := (sa + 4000)) (by show (ca + 200) ≤ (ca + 200) - 0; omega) (by show (sa + 4000) ≤ (sa + 4000) - 0; omega) ?_
      refine wp_iadd dL_law_474 ?_
      refine wp_iconst dL_law_475 ?_
      refine wp_iload dL_law_476 rfl ?_
      refine wp_bipush dL_law_478 (by decide) ?_
      refine wp_ishr dL_law_480 ?_
      refine wp_iconst dL_law_481 ?_
      obtain ⟨v15, hm14, h⟩ := h
      refine wp_callS (M' := M_L_low) (As := [vi ((Int32.ofInt w >>> (Int32.ofInt 13 &&& 31)).toInt), vi 2]) (st := [vi 1, vi (1 + v13), vi v11, vi p, vr x]) dL_law_482 cee_L_low np_L_low rfl ⟨Nat.le_of_ble_eq_true rfl, Nat.le_of_ble_eq_true rfl, by show 0 ≤ (ca + 200); omega, by show 0 ≤ (sa + 4000); omega⟩ wd_786 wd_787 (q_small5 trivial trivial trivial trivial trivial) hm14 (q_kPi ?_) q_kPi0
      refine wp_less (ac2 := (ca + 200)) (as2 := (sa + 4000)) (by show (ca + 200) ≤ (ca + 200) - 0; omega) (by show (sa + 4000) ≤ (sa + 4000) - 0; omega) ?_
      refine wp_iadd dL_law_485 ?_
      obtain ⟨hk17, h⟩ := h
      obtain ⟨Mid18, MidX19, hm16, hk20, hx21⟩ := h
      refine wp_callV (M' := M_X7_face) (As := [vi p, vi v11, vi (1 + v13), vi (1 + v15)]) (st := []) (ci := 7) dL_law_486 cee_X7_face np_X7_face rfl ⟨Nat.le_of_ble_eq_true rfl, Nat.le_of_ble_eq_true rfl, by show 9 ≤ (ca + 200); omega, by show 439 ≤ (sa + 4000); omega⟩ wd_596 wd_597 wd_598 rfl (Or.inl hk17) (q_small_of (Nat.le_of_ble_eq_true rfl)) hm16 (q_kTi (fun σ22 v24 hM23 => ?_)) (fun σ9 n9 hq => absurd (q_xi hq) (hx21 σ9 n9))
      refine wp_less (ac2 := (ca + 191)) (as2 := (sa + 3561)) (by show (ca + 191) ≤ (ca + 200) - 9; omega) (by show (sa + 3561) ≤ (sa + 4000) - 439; omega) ?_
      have h := hk20 σ22 v24 hM23
      refine wp_aload_n dL_law_489 rfl ?_
      refine wp_iload dL_law_490 rfl ?_
      refine wp_iconst dL_law_492 ?_
      obtain ⟨hk26, h⟩ := h
      obtain ⟨Mid27, MidX28, hm25, hk29, hx30⟩ := h
      refine wp_callV (M' := M_X7_lies) (As := [vi p, vi 4]) (st := [vi v24]) (ci := 7) dL_law_493 cee_X7_lies np_X7_lies rfl ⟨Nat.le_of_ble_eq_true rfl, Nat.le_of_ble_eq_true rfl, by show 2 ≤ (ca + 191); omega, by show 12 ≤ (sa + 3561); omega⟩ wd_728 wd_729 wd_730 rfl (Or.inl hk26) (q_small_of (Nat.le_of_ble_eq_true rfl)) hm25 (q_kTi (fun σ31 v33 hM32 => ?_)) (fun σ9 n9 hq => absurd (q_xi hq) (hx30 σ9 n9))
      refine wp_less (ac2 := (ca + 189)) (as2 := (sa + 3549)) (by show (ca + 189) ≤ (ca + 191) - 2; omega) (by show (sa + 3549) ≤ (sa + 3561) - 12; omega) ?_
      have h := hk29 σ31 v33 hM32
      obtain ⟨h, hk40⟩ := h
      have key39 : ∀ v37 : Int, v37 = (if ¬ v24 = v33 then 0 else 1) → qW g l (M_law nm hh) (ca + 189) (sa + 3549) 504 [some (vr sc), some (vr x), some (vr pg), some (vr mn), some (vr fa), some (vr of), some (vi nP), some (vi nB), some (vi aN), some (vi tn), some (vi v), some (vi w), some (vi wh), some (vi p), some (vi b), some (vi it), some (vi iu), some (vi 1), none, none] [vi v37] σ31 Post := by
        intro v37 hv38
        have h := hk40 v37 hv38
        have hr41 : qR v37 := by (rw [hv38]; unfold qR; repeat' split) <;> omega
        have hz42 : v37 = 0 ∨ v37 = 1 := by (rw [hv38]; repeat' split) <;> first | exact Or.inl rfl | exact Or.inr rfl
        refine wp_istore' (ls' := [some (vr sc), some (vr x), some (vr pg), some (vr mn), some (vr fa), some (vr of), some (vi nP), some (vi nB), some (vi aN), some (vi tn), some (vi v), some (vi w), some (vi wh), some (vi p), some (vi b), some (vi it), some (vi iu), some (vi v37), none, none]) dL_law_504 (Nat.le_of_ble_eq_true rfl) rfl ?_
        refine wp_goto (tgt := 1014) dL_law_506 (by decide) ?_
        exact wp_less (ac2 := ca) (as2 := sa) (by omega) (by omega) (wp_lsub (ls' := [some (vr sc), some (vr x), some (vr pg), some (vr mn), some (vr fa), some (vr of), some (vi nP), some (vi nB), some (vi aN), some (vi tn), none, some (vi w), none, none, none, none, none, some (vi v37), none, none]) ⟨rfl, ⟨rfl, ⟨rfl, ⟨rfl, ⟨rfl, ⟨rfl, ⟨rfl, ⟨rfl, ⟨rfl, ⟨rfl, ⟨rfl, ⟨rfl, trivial⟩⟩⟩⟩⟩⟩⟩⟩⟩⟩⟩⟩ h)
      obtain ⟨hr43, hr44⟩ := h
      refine wp_icmp_ne (tgt := 503) dL_law_496 (by decide) hr43 hr44 (fun c45 => ?_) (fun c45 => ?_)
      · refine wp_iconst dL_law_503 ?_
        exact key39 _ (by rw [if_pos c45])
      · refine wp_iconst dL_law_499 ?_
        refine wp_goto (tgt := 504) dL_law_500 (by decide) ?_
        exact key39 _ (by rw [if_neg (fun z => z c45)])

set_option maxRecDepth 100000 in
set_option maxHeartbeats 4000000 in
theorem ls_movep (hl : l.stackTraces = false) {sc : Nat} {x : Nat} {pg : Nat} {mn : Nat} {fa : Nat} {of : Nat} {nP : Int} {nB : Int} {aN : Int} {tn : Int} {v : Int} {w : Int} {wh : Int} {p : Int} {b : Int} {it : Int} {iu : Int}
    (h : qR it ∧ ((it = 0 → qW g l (M_law nm hh) ca sa 1014 [some (vr sc), some (vr x), some (vr pg), some (vr mn), some (vr fa), some (vr of), some (vi nP), some (vi nB), some (vi aN), some (vi tn), none, some (vi w), none, none, none, none, none, some (vi 1), none, none] [] σ Post) ∧ (¬ (it = 0) → qR aN ∧ ((¬ aN = 0 → qW g l (M_law nm hh) ca sa 1014 [some (vr sc), some (vr x), some (vr pg), some (vr mn), some (vr fa), some (vr of), some (vi nP), some (vi nB), some (vi aN), some (vi tn), none, some (vi w), none, none, none, none, none, some (vi 1), none, none] [] σ Post) ∧ (aN = 0 → q_isA σ 0 pg ∧ q_in σ pg p ∧ gK σ x = 8 ∧ (∃ (Mid9 : qS → Int → Prop) (MidX10 : qS → Nat → Prop), qMet g l M_X7_panels [vr x, vi (gA σ pg p)] σ (qTi Mid9 MidX10) ∧ (∀ (σ13 : qS) (v15 : Int), Mid9 σ13 v15 → (∃ v17 : Int, qMet g l M_L_low [vi ((Int32.ofInt w >>> (Int32.ofInt 6 &&& 31)).toInt), vi v15] σ13 (qPi σ13 v17) ∧ (gK σ13 x = 8 ∧ (∃ (Mid20 : qS → Int → Prop) (MidX21 : qS → Nat → Prop), qMet g l M_X7_movePanel [vr x, vi p, vi v17] σ13 (qTi Mid20 MidX21) ∧ (∀ (σ24 : qS) (v26 : Int), Mid20 σ24 v26 → q_isA σ24 0 pg ∧ q_in σ24 pg p ∧ gK σ24 x = 8 ∧ (∃ (Mid31 : qS → Int → Prop) (MidX32 : qS → Nat → Prop), qMet g l M_X7_panels [vr x, vi (gA σ24 pg p)] σ24 (qTi Mid31 MidX32) ∧ (∀ (σ35 : qS) (v37 : Int), Mid31 σ35 v37 → ((qR v26 ∧ qR v37) ∧ ∀ v41 : Int, v41 = (if v37 < v26 then 0 else 1) → qW g l (M_law nm hh) ca sa 1014 [some (vr sc), some (vr x), some (vr pg), some (vr mn), some (vr fa), some (vr of), some (vi nP), some (vi nB), some (vi aN), some (vi tn), none, some (vi w), none, none, none, none, none, some (vi v41), none, none] [] σ35 Post)) ∧ (∀ (σ9 : qS) (n9 : Nat), ¬ MidX32 σ9 n9))) ∧ (∀ (σ9 : qS) (n9 : Nat), ¬ MidX21 σ9 n9))))) ∧ (∀ (σ9 : qS) (n9 : Nat), ¬ MidX10 σ9 n9))))))) : qW g l (M_law nm hh) (ca + 200) (sa + 4000) 516 [some (vr sc), some (vr x), some (vr pg), some (vr mn), some (vr fa), some (vr of), some (vi nP), some (vi nB), some (vi aN), some (vi tn), some (vi v), some (vi w), some (vi wh), some (vi p), some (vi b), some (vi it), some (vi iu), some (vi 1), none, none] [] σ Post := by
  refine wp_iload dL_law_516 rfl ?_
  obtain ⟨hr1, h⟩ := h
  refine wp_if_eq (tgt := 1014) dL_law_518 (by decide) hr1 (fun c2 => ?_) (fun c2 => ?_)
  · replace h := h.1 c2
    exact wp_less (ac2 := ca) (as2 := sa) (by omega) (by omega) (wp_lsub (ls' := [some (vr sc), some (vr x), some (vr pg), some (vr mn), some (vr fa), some (vr of), some (vi nP), some (vi nB), some (vi aN), some (vi tn), none, some (vi w), none, none, none, none, none, some (vi 1), none, none]) ⟨rfl, ⟨rfl, ⟨rfl, ⟨rfl, ⟨rfl, ⟨rfl, ⟨rfl, ⟨rfl, ⟨rfl, ⟨rfl, ⟨rfl, ⟨rfl, trivial⟩⟩⟩⟩⟩⟩⟩⟩⟩⟩⟩⟩ h)
  · replace h := h.2 c2
    refine wp_iload dL_law_521 rfl ?_
    obtain ⟨hr3, h⟩ := h
    refine wp_if_ne (tgt := 1014) dL_law_523 (by decide) hr3 (fun c4 => ?_) (fun c4 => ?_)
    · replace h := h.1 c4
      exact wp_less (ac2 := ca) (as2 := sa) (by omega) (by omega) (wp_lsub (ls' := [some (vr sc), some (vr x), some (vr pg), some (vr mn), some (vr fa), some (vr of), some (vi nP), some (vi nB), some (vi aN), some (vi tn), none, some (vi w), none, none, none, none, none, some (vi 1), none, none]) ⟨rfl, ⟨rfl, ⟨rfl, ⟨rfl, ⟨rfl, ⟨rfl, ⟨rfl, ⟨rfl, ⟨rfl, ⟨rfl, ⟨rfl, ⟨rfl, trivial⟩⟩⟩⟩⟩⟩⟩⟩⟩⟩⟩⟩ h)
    · replace h := h.2 c4
      refine wp_aload_n dL_law_526 rfl ?_
      refine wp_iload dL_law_527 rfl ?_
      refine wp_iload dL_law_529 rfl ?_
      refine wp_bipush dL_law_531 (by decide) ?_
      refine wp_ishr dL_law_533 ?_
      refine wp_aload_n dL_law_534 rfl ?_
      refine wp_aload_n dL_law_535 rfl ?_
      refine wp_iload dL_law_536 rfl ?_
      obtain ⟨ha5, hi6, h⟩ := h
      refine wp_iaload dL_law_538 ha5 hi6 ?_
      obtain ⟨hk8, h⟩ := h
      obtain ⟨Mid9, MidX10, hm7, hk11, hx12⟩ := h
      refine wp_callV (M' := M_X7_panels) (As := [vi (gA σ pg p)]) (st := [vi ((Int32.ofInt w >>> (Int32.ofInt 6 &&& 31)).toInt), vi p, vr x]) (ci := 7) dL_law_539 cee_X7_panels np_X7_panels rfl ⟨Nat.le_of_ble_eq_true rfl, Nat.le_of_ble_eq_true rfl, by show 1 ≤ (ca + 200); omega, by show 6 ≤ (sa + 4000); omega⟩ wd_724 wd_725 wd_726 rfl (Or.inl hk8) (q_small_of (Nat.le_of_ble_eq_true rfl)) hm7 (q_kTi (fun σ13 v15 hM14 => ?_)) (fun σ9 n9 hq => absurd (q_xi hq) (hx12 σ9 n9))
      refine wp_less (ac2 := (ca + 199)) (as2 := (sa + 3994)) (by show (ca + 199) ≤ (ca + 200) - 1; omega) (by show (sa + 3994) ≤ (sa + 4000) - 6; omega) ?_
      have h := hk11 σ13 v15 hM14
      obtain ⟨v17, hm16, h⟩ := h
      refine wp_callS (M' := M_L_low) (As := [vi ((Int32.ofInt w >>> (Int32.ofInt 6 &&& 31)).toInt), vi v15]) (st := [vi p, vr x]) dL_law_542 cee_L_low np_L_low rfl ⟨Nat.le_of_ble_eq_true rfl, Nat.le_of_ble_eq_true rfl, by show 0 ≤ (ca + 199); omega, by show 0 ≤ (sa + 3994); omega⟩ wd_786 wd_787 (q_small_of (Nat.le_of_ble_eq_true rfl)) hm16 (q_kPi ?_) q_kPi0
      refine wp_less (ac2 := (ca + 199)) (as2 := (sa + 3994)) (by show (ca + 199) ≤ (ca + 199) - 0; omega) (by show (sa + 3994) ≤ (sa + 3994) - 0; omega) ?_
      obtain ⟨hk19, h⟩ := h
      obtain ⟨Mid20, MidX21, hm18, hk22, hx23⟩ := h
      refine wp_callV (M' := M_X7_movePanel) (As := [vi p, vi v17]) (st := []) (ci := 7) dL_law_545 cee_X7_movePanel np_X7_movePanel rfl ⟨Nat.le_of_ble_eq_true rfl, Nat.le_of_ble_eq_true rfl, by show 7 ≤ (ca + 199); omega, by show 818 ≤ (sa + 3994); omega⟩ wd_543 wd_544 wd_545 rfl (Or.inl hk19) (q_small_of (Nat.le_of_ble_eq_true rfl)) hm18 (q_kTi (fun σ24 v26 hM25 => ?_)) (fun σ9 n9 hq => absurd (q_xi hq) (hx23 σ9 n9))
      refine wp_less (ac2 := (ca + 192)) (as2 := (sa + 3176)) (by show (ca + 192) ≤ (ca + 199) - 7; omega) (by show (sa + 3176) ≤ (sa + 3994) - 818; omega) ?_
      have h := hk22 σ24 v26 hM25
      refine wp_aload_n dL_law_548 rfl ?_
      refine wp_aload_n dL_law_549 rfl ?_
      refine wp_iload dL_law_550 rfl ?_
      obtain ⟨ha27, hi28, h⟩ := h
      refine wp_iaload dL_law_552 ha27 hi28 ?_
      obtain ⟨hk30, h⟩ := h
      obtain ⟨Mid31, MidX32, hm29, hk33, hx34⟩ := h
      refine wp_callV (M' := M_X7_panels) (As := [vi (gA σ24 pg p)]) (st := [vi v26]) (ci := 7) dL_law_553 cee_X7_panels np_X7_panels rfl ⟨Nat.le_of_ble_eq_true rfl, Nat.le_of_ble_eq_true rfl, by show 1 ≤ (ca + 192); omega, by show 6 ≤ (sa + 3176); omega⟩ wd_724 wd_725 wd_726 rfl (Or.inl hk30) (q_small_of (Nat.le_of_ble_eq_true rfl)) hm29 (q_kTi (fun σ35 v37 hM36 => ?_)) (fun σ9 n9 hq => absurd (q_xi hq) (hx34 σ9 n9))
      refine wp_less (ac2 := (ca + 191)) (as2 := (sa + 3170)) (by show (ca + 191) ≤ (ca + 192) - 1; omega) (by show (sa + 3170) ≤ (sa + 3176) - 6; omega) ?_
      have h := hk33 σ35 v37 hM36
      obtain ⟨h, hk44⟩ := h
      have key43 : ∀ v41 : Int, v41 = (if v37 < v26 then 0 else 1) → qW g l (M_law nm hh) (ca + 191) (sa + 3170) 564 [some (vr sc), some (vr x), some (vr pg), some (vr mn), some (vr fa), some (vr of), some (vi nP), some (vi nB), some (vi aN), some (vi tn), some (vi v), some (vi w), some (vi wh), some (vi p), some (vi b), some (vi it), some (vi iu), some (vi 1), none, none] [vi v41] σ35 Post := by
        intro v41 hv42
        have h := hk44 v41 hv42
        have hr45 : qR v41 := by (rw [hv42]; unfold qR; repeat' split) <;> omega
        have hz46 : v41 = 0 ∨ v41 = 1 := by (rw [hv42]; repeat' split) <;> first | exact Or.inl rfl | exact Or.inr rfl
        refine wp_istore' (ls' := [some (vr sc), some (vr x), some (vr pg), some (vr mn), some (vr fa), some (vr of), some (vi nP), some (vi nB), some (vi aN), some (vi tn), some (vi v), some (vi w), some (vi wh), some (vi p), some (vi b), some (vi it), some (vi iu), some (vi v41), none, none]) dL_law_564 (Nat.le_of_ble_eq_true rfl) rfl ?_
        refine wp_goto (tgt := 1014) dL_law_566 (by decide) ?_
        exact wp_less (ac2 := ca) (as2 := sa) (by omega) (by omega) (wp_lsub (ls' := [some (vr sc), some (vr x), some (vr pg), some (vr mn), some (vr fa), some (vr of), some (vi nP), some (vi nB), some (vi aN), some (vi tn), none, some (vi w), none, none, none, none, none, some (vi v41), none, none]) ⟨rfl, ⟨rfl, ⟨rfl, ⟨rfl, ⟨rfl, ⟨rfl, ⟨rfl, ⟨rfl, ⟨rfl, ⟨rfl, ⟨rfl, ⟨rfl, trivial⟩⟩⟩⟩⟩⟩⟩⟩⟩⟩⟩⟩ h)
      obtain ⟨hr47, hr48⟩ := h
      refine wp_icmp_gt (tgt := 563) dL_law_556 (by decide) hr47 hr48 (fun c49 => ?_) (fun c49 => ?_)
      · refine wp_iconst dL_law_563 ?_
        exact key43 _ (by rw [if_pos c49])
      · refine wp_iconst dL_law_559 ?_
        refine wp_goto (tgt := 564) dL_law_560 (by decide) ?_
        exact key43 _ (by rw [if_neg c49])

set_option maxRecDepth 100000 in
set_option maxHeartbeats 4000000 in
theorem ls_mb0 (hl : l.stackTraces = false) {sc : Nat} {x : Nat} {pg : Nat} {mn : Nat} {fa : Nat} {of : Nat} {nP : Int} {nB : Int} {aN : Int} {tn : Int} {v : Int} {w : Int} {wh : Int} {p : Int} {b : Int} {it : Int} {iu : Int}
    (h : qR nP ∧ ((¬ nP = 0 → (∃ v4 : Int, qMet g l M_L_low [vi ((Int32.ofInt w >>> (Int32.ofInt 6 &&& 31)).toInt), vi nP] σ (qPi σ v4) ∧ (qW g l (M_law nm hh) ca sa 595 [some (vr sc), some (vr x), some (vr pg), some (vr mn), some (vr fa), some (vr of), some (vi nP), some (vi nB), some (vi aN), some (vi tn), some (vi v), some (vi w), some (vi wh), some (vi p), some (vi b), some (vi it), some (vi iu), some (vi 1), none, none] [vi v4] σ Post))) ∧ (nP = 0 → qW g l (M_law nm hh) ca sa 595 [some (vr sc), some (vr x), some (vr pg), some (vr mn), some (vr fa), some (vr of), some (vi nP), some (vi nB), some (vi aN), some (vi tn), some (vi v), some (vi w), some (vi wh), some (vi p), some (vi b), some (vi it), some (vi iu), some (vi 1), none, none] [vi 0] σ Post))) : qW g l (M_law nm hh) ca sa 576 [some (vr sc), some (vr x), some (vr pg), some (vr mn), some (vr fa), some (vr of), some (vi nP), some (vi nB), some (vi aN), some (vi tn), some (vi v), some (vi w), some (vi wh), some (vi p), some (vi b), some (vi it), some (vi iu), some (vi 1), none, none] [] σ Post := by
  refine wp_iload dL_law_576 rfl ?_
  obtain ⟨hr1, h⟩ := h
  refine wp_if_ne (tgt := 585) dL_law_578 (by decide) hr1 (fun c2 => ?_) (fun c2 => ?_)
  · replace h := h.1 c2
    refine wp_iload dL_law_585 rfl ?_
    refine wp_bipush dL_law_587 (by decide) ?_
    refine wp_ishr dL_law_589 ?_
    refine wp_iload dL_law_590 rfl ?_
    obtain ⟨v4, hm3, h⟩ := h
    refine wp_callS (M' := M_L_low) (As := [vi ((Int32.ofInt w >>> (Int32.ofInt 6 &&& 31)).toInt), vi nP]) (st := []) dL_law_592 cee_L_low np_L_low rfl ⟨Nat.le_of_ble_eq_true rfl, Nat.le_of_ble_eq_true rfl, by show 0 ≤ ca; omega, by show 0 ≤ sa; omega⟩ wd_786 wd_787 (q_small_of (Nat.le_of_ble_eq_true rfl)) hm3 (q_kPi ?_) q_kPi0
    refine wp_less (ac2 := ca) (as2 := sa) (by show ca ≤ ca - 0; omega) (by show sa ≤ sa - 0; omega) ?_
    exact wp_less (ac2 := ca) (as2 := sa) (by omega) (by omega) (wp_lsub (ls' := [some (vr sc), some (vr x), some (vr pg), some (vr mn), some (vr fa), some (vr of), some (vi nP), some (vi nB), some (vi aN), some (vi tn), some (vi v), some (vi w), some (vi wh), some (vi p), some (vi b), some (vi it), some (vi iu), some (vi 1), none, none]) ⟨rfl, ⟨rfl, ⟨rfl, ⟨rfl, ⟨rfl, ⟨rfl, ⟨rfl, ⟨rfl, ⟨rfl, ⟨rfl, ⟨rfl, ⟨rfl, ⟨rfl, ⟨rfl, ⟨rfl, ⟨rfl, ⟨rfl, ⟨rfl, trivial⟩⟩⟩⟩⟩⟩⟩⟩⟩⟩⟩⟩⟩⟩⟩⟩⟩⟩ h)
  · replace h := h.2 c2
    refine wp_iconst dL_law_581 ?_
    refine wp_goto (tgt := 595) dL_law_582 (by decide) ?_
    exact wp_less (ac2 := ca) (as2 := sa) (by omega) (by omega) (wp_lsub (ls' := [some (vr sc), some (vr x), some (vr pg), some (vr mn), some (vr fa), some (vr of), some (vi nP), some (vi nB), some (vi aN), some (vi tn), some (vi v), some (vi w), some (vi wh), some (vi p), some (vi b), some (vi it), some (vi iu), some (vi 1), none, none]) ⟨rfl, ⟨rfl, ⟨rfl, ⟨rfl, ⟨rfl, ⟨rfl, ⟨rfl, ⟨rfl, ⟨rfl, ⟨rfl, ⟨rfl, ⟨rfl, ⟨rfl, ⟨rfl, ⟨rfl, ⟨rfl, ⟨rfl, ⟨rfl, trivial⟩⟩⟩⟩⟩⟩⟩⟩⟩⟩⟩⟩⟩⟩⟩⟩⟩⟩ h)

set_option maxRecDepth 100000 in
set_option maxHeartbeats 4000000 in
theorem ls_mb (hl : l.stackTraces = false) {sc : Nat} {x : Nat} {pg : Nat} {mn : Nat} {fa : Nat} {of : Nat} {nP : Int} {nB : Int} {aN : Int} {tn : Int} {v : Int} {w : Int} {wh : Int} {p : Int} {b : Int} {it : Int} {iu : Int} {to : Int}
    (h : qR iu ∧ ((iu = 0 → qW g l (M_law nm hh) ca sa 1014 [some (vr sc), some (vr x), some (vr pg), some (vr mn), some (vr fa), some (vr of), some (vi nP), some (vi nB), some (vi aN), some (vi tn), none, some (vi w), none, none, none, none, none, some (vi 1), none, none] [] σ Post) ∧ (¬ (iu = 0) → qR aN ∧ ((¬ aN = 0 → qW g l (M_law nm hh) ca sa 1014 [some (vr sc), some (vr x), some (vr pg), some (vr mn), some (vr fa), some (vr of), some (vi nP), some (vi nB), some (vi aN), some (vi tn), none, some (vi w), none, none, none, none, none, some (vi 1), none, none] [] σ Post) ∧ (aN = 0 → q_isA σ 0 pg ∧ q_in σ pg to ∧ qR (gA σ pg to) ∧ (((gA σ pg to) < 0 → qW g l (M_law nm hh) ca sa 1014 [some (vr sc), some (vr x), some (vr pg), some (vr mn), some (vr fa), some (vr of), some (vi nP), some (vi nB), some (vi aN), some (vi tn), none, some (vi w), none, none, none, none, none, some (vi 1), none, none] [] σ Post) ∧ (¬ ((gA σ pg to) < 0) → q_isA σ 0 of ∧ q_in σ of b ∧ qR to ∧ qR (gA σ of b) ∧ ((to = (gA σ of b) → qW g l (M_law nm hh) ca sa 1014 [some (vr sc), some (vr x), some (vr pg), some (vr mn), some (vr fa), some (vr of), some (vi nP), some (vi nB), some (vi aN), some (vi tn), none, some (vi w), none, none, none, none, none, some (vi 1), none, none] [] σ Post) ∧ (¬ (to = (gA σ of b)) → q_isA σ 0 mn ∧ q_in σ mn to ∧ qR (gA σ mn to) ∧ ((2 ≤ (gA σ mn to) → qW g l (M_law nm hh) ca sa 1014 [some (vr sc), some (vr x), some (vr pg), some (vr mn), some (vr fa), some (vr of), some (vi nP), some (vi nB), some (vi aN), some (vi tn), none, some (vi w), none, none, none, none, none, some (vi 1), none, none] [] σ Post) ∧ (¬ (2 ≤ (gA σ mn to)) → q_in σ mn (gA σ of b) ∧ gK σ mn = 20 ∧ (∀ σ20 : qS, σ20 = sA σ mn (gA σ of b) ((gA σ mn (gA σ of b)) - 1) → (∃ v23 : Int, qMet g l M_L_low [vi ((Int32.ofInt w >>> (Int32.ofInt 11 &&& 31)).toInt), vi ((gA σ20 mn to) + 1)] σ20 (qPi σ20 v23) ∧ (gK σ20 x = 8 ∧ (∃ (Mid26 : qS → Prop) (MidX27 : qS → Nat → Prop), qMet g l M_X7_moveBalloon [vr x, vi b, vi to, vi v23] σ20 (qTv Mid26 MidX27) ∧ (∀ (σ30 : qS), Mid26 σ30 → gK σ30 of = 20 ∧ q_in σ30 of b ∧ (∀ σ34 : qS, σ34 = sA σ30 of b to → q_isA σ34 0 mn ∧ q_in σ34 mn to ∧ gK σ34 mn = 20 ∧ (∀ σ39 : qS, σ39 = sA σ34 mn to ((gA σ34 mn to) + 1) → qW g l (M_law nm hh) ca sa 1014 [some (vr sc), some (vr x), some (vr pg), some (vr mn), some (vr fa), some (vr of), some (vi nP), some (vi nB), some (vi aN), some (vi tn), none, some (vi w), none, none, none, none, none, some (vi 1), none, none] [] σ39 Post))) ∧ (∀ (σ9 : qS) (n9 : Nat), ¬ MidX27 σ9 n9)))))))))))))))) : qW g l (M_law nm hh) (ca + 200) (sa + 4000) 595 [some (vr sc), some (vr x), some (vr pg), some (vr mn), some (vr fa), some (vr of), some (vi nP), some (vi nB), some (vi aN), some (vi tn), some (vi v), some (vi w), some (vi wh), some (vi p), some (vi b), some (vi it), some (vi iu), some (vi 1), none, none] [vi to] σ Post := by
  refine wp_istore' (ls' := [some (vr sc), some (vr x), some (vr pg), some (vr mn), some (vr fa), some (vr of), some (vi nP), some (vi nB), some (vi aN), some (vi tn), some (vi v), some (vi w), some (vi wh), some (vi p), some (vi b), some (vi it), some (vi iu), some (vi 1), some (vi to), none]) dL_law_595 (Nat.le_of_ble_eq_true rfl) rfl ?_
  refine wp_iload dL_law_597 rfl ?_
  obtain ⟨hr1, h⟩ := h
  refine wp_if_eq (tgt := 680) dL_law_599 (by decide) hr1 (fun c2 => ?_) (fun c2 => ?_)
  · replace h := h.1 c2
    refine wp_goto (tgt := 1014) dL_law_680 (by decide) ?_
    exact wp_less (ac2 := ca) (as2 := sa) (by omega) (by omega) (wp_lsub (ls' := [some (vr sc), some (vr x), some (vr pg), some (vr mn), some (vr fa), some (vr of), some (vi nP), some (vi nB), some (vi aN), some (vi tn), none, some (vi w), none, none, none, none, none, some (vi 1), none, none]) ⟨rfl, ⟨rfl, ⟨rfl, ⟨rfl, ⟨rfl, ⟨rfl, ⟨rfl, ⟨rfl, ⟨rfl, ⟨rfl, ⟨rfl, ⟨rfl, trivial⟩⟩⟩⟩⟩⟩⟩⟩⟩⟩⟩⟩ h)
  · replace h := h.2 c2
    refine wp_iload dL_law_602 rfl ?_
    obtain ⟨hr3, h⟩ := h
    refine wp_if_ne (tgt := 680) dL_law_604 (by decide) hr3 (fun c4 => ?_) (fun c4 => ?_)
    · replace h := h.1 c4
      refine wp_goto (tgt := 1014) dL_law_680 (by decide) ?_
      exact wp_less (ac2 := ca) (as2 := sa) (by omega) (by omega) (wp_lsub (ls' := [some (vr sc), some (vr x), some (vr pg), some (vr mn), some (vr fa), some (vr of), some (vi nP), some (vi nB), some (vi aN), some (vi tn), none, some (vi w), none, none, none, none, none, some (vi 1), none, none]) ⟨rfl, ⟨rfl, ⟨rfl, ⟨rfl, ⟨rfl, ⟨rfl, ⟨rfl, ⟨rfl, ⟨rfl, ⟨rfl, ⟨rfl, ⟨rfl, trivial⟩⟩⟩⟩⟩⟩⟩⟩⟩⟩⟩⟩ h)
    · replace h := h.2 c4
      refine wp_aload_n dL_law_607 rfl ?_
      refine wp_iload dL_law_608 rfl ?_
      obtain ⟨ha5, hi6, h⟩ := h
      refine wp_iaload dL_law_610 ha5 hi6 ?_
      obtain ⟨hr7, h⟩ := h
      refine wp_if_lt (tgt := 680) dL_law_611 (by decide) hr7 (fun c8 => ?_) (fun c8 => ?_)
      · replace h := h.1 c8
        refine wp_goto (tgt := 1014) dL_law_680 (by decide) ?_
        exact wp_less (ac2 := ca) (as2 := sa) (by omega) (by omega) (wp_lsub (ls' := [some (vr sc), some (vr x), some (vr pg), some (vr mn), some (vr fa), some (vr of), some (vi nP), some (vi nB), some (vi aN), some (vi tn), none, some (vi w), none, none, none, none, none, some (vi 1), none, none]) ⟨rfl, ⟨rfl, ⟨rfl, ⟨rfl, ⟨rfl, ⟨rfl, ⟨rfl, ⟨rfl, ⟨rfl, ⟨rfl, ⟨rfl, ⟨rfl, trivial⟩⟩⟩⟩⟩⟩⟩⟩⟩⟩⟩⟩ h)
      · replace h := h.2 c8
        refine wp_iload dL_law_614 rfl ?_
        refine wp_aload dL_law_616 rfl ?_
        refine wp_iload dL_law_618 rfl ?_
        obtain ⟨ha9, hi10, h⟩ := h
        refine wp_iaload dL_law_620 ha9 hi10 ?_
        obtain ⟨hr11, hr12, h⟩ := h
        refine wp_icmp_eq (tgt := 680) dL_law_621 (by decide) hr11 hr12 (fun c13 => ?_) (fun c13 => ?_)
        · replace h := h.1 c13
          refine wp_goto (tgt := 1014) dL_law_680 (by decide) ?_
          exact wp_less (ac2 := ca) (as2 := sa) (by omega) (by omega) (wp_lsub (ls' := [some (vr sc), some (vr x), some (vr pg), some (vr mn), some (vr fa), some (vr of), some (vi nP), some (vi nB), some (vi aN), some (vi tn), none, some (vi w), none, none, none, none, none, some (vi 1), none, none]) ⟨rfl, ⟨rfl, ⟨rfl, ⟨rfl, ⟨rfl, ⟨rfl, ⟨rfl, ⟨rfl, ⟨rfl, ⟨rfl, ⟨rfl, ⟨rfl, trivial⟩⟩⟩⟩⟩⟩⟩⟩⟩⟩⟩⟩ h)
        · replace h := h.2 c13
          refine wp_aload_n dL_law_624 rfl ?_
          refine wp_iload dL_law_625 rfl ?_
          obtain ⟨ha14, hi15, h⟩ := h
          refine wp_iaload dL_law_627 ha14 hi15 ?_
          refine wp_iconst dL_law_628 ?_
          obtain ⟨hr16, h⟩ := h
          refine wp_icmp_ge (tgt := 680) dL_law_629 (by decide) hr16 (by unfold qR; omega) (fun c17 => ?_) (fun c17 => ?_)
          · replace h := h.1 c17
            refine wp_goto (tgt := 1014) dL_law_680 (by decide) ?_
            exact wp_less (ac2 := ca) (as2 := sa) (by omega) (by omega) (wp_lsub (ls' := [some (vr sc), some (vr x), some (vr pg), some (vr mn), some (vr fa), some (vr of), some (vi nP), some (vi nB), some (vi aN), some (vi tn), none, some (vi w), none, none, none, none, none, some (vi 1), none, none]) ⟨rfl, ⟨rfl, ⟨rfl, ⟨rfl, ⟨rfl, ⟨rfl, ⟨rfl, ⟨rfl, ⟨rfl, ⟨rfl, ⟨rfl, ⟨rfl, trivial⟩⟩⟩⟩⟩⟩⟩⟩⟩⟩⟩⟩ h)
          · replace h := h.2 c17
            refine wp_aload_n dL_law_632 rfl ?_
            refine wp_aload dL_law_633 rfl ?_
            refine wp_iload dL_law_635 rfl ?_
            refine wp_iaload dL_law_637 ha9 hi10 ?_
            refine wp_dup2 dL_law_638 trivial trivial ?_
            obtain ⟨hi18, h⟩ := h
            refine wp_iaload dL_law_639 ha14 hi18 ?_
            refine wp_iconst dL_law_640 ?_
            refine wp_isub dL_law_641 ?_
            obtain ⟨hk19, h⟩ := h
            refine wp_iastore dL_law_642 hk19 hi18 ?_
            refine wp_nmS (fun σ20 hs21 => ?_)
            replace h := h σ20 hs21
            refine wp_aload_n dL_law_643 rfl ?_
            refine wp_iload dL_law_644 rfl ?_
            refine wp_iload dL_law_646 rfl ?_
            refine wp_iload dL_law_648 rfl ?_
            refine wp_bipush dL_law_650 (by decide) ?_
            refine wp_ishr dL_law_652 ?_
            refine wp_aload_n dL_law_653 rfl ?_
            refine wp_iload dL_law_654 rfl ?_
            refine wp_iaload dL_law_656 (by rw [hs21]; exact ha14) (by rw [hs21]; exact hi15) ?_
            refine wp_iconst dL_law_657 ?_
            refine wp_iadd dL_law_658 ?_
            obtain ⟨v23, hm22, h⟩ := h
            refine wp_callS (M' := M_L_low) (As := [vi ((Int32.ofInt w >>> (Int32.ofInt 11 &&& 31)).toInt), vi ((gA σ20 mn to) + 1)]) (st := [vi to, vi b, vr x]) dL_law_659 cee_L_low np_L_low rfl ⟨Nat.le_of_ble_eq_true rfl, Nat.le_of_ble_eq_true rfl, by show 0 ≤ (ca + 200); omega, by show 0 ≤ (sa + 4000); omega⟩ wd_786 wd_787 (q_small_of (Nat.le_of_ble_eq_true rfl)) hm22 (q_kPi ?_) q_kPi0
            refine wp_less (ac2 := (ca + 200)) (as2 := (sa + 4000)) (by show (ca + 200) ≤ (ca + 200) - 0; omega) (by show (sa + 4000) ≤ (sa + 4000) - 0; omega) ?_
            obtain ⟨hk25, h⟩ := h
            obtain ⟨Mid26, MidX27, hm24, hk28, hx29⟩ := h
            refine wp_callV (M' := M_X7_moveBalloon) (As := [vi b, vi to, vi v23]) (st := []) (ci := 7) dL_law_662 cee_X7_moveBalloon np_X7_moveBalloon rfl ⟨Nat.le_of_ble_eq_true rfl, Nat.le_of_ble_eq_true rfl, by show 9 ≤ (ca + 200); omega, by show 830 ≤ (sa + 4000); omega⟩ wd_679 wd_680 wd_681 rfl (Or.inl hk25) (q_small_of (Nat.le_of_ble_eq_true rfl)) hm24 (q_kTv (fun σ30 hM31 => ?_)) (fun σ9 n9 hq => absurd (q_xv hq) (hx29 σ9 n9))
            refine wp_less (ac2 := (ca + 191)) (as2 := (sa + 3170)) (by show (ca + 191) ≤ (ca + 200) - 9; omega) (by show (sa + 3170) ≤ (sa + 4000) - 830; omega) ?_
            have h := hk28 σ30 hM31
            refine wp_aload dL_law_665 rfl ?_
            refine wp_iload dL_law_667 rfl ?_
            refine wp_iload dL_law_669 rfl ?_
            obtain ⟨hk32, hi33, h⟩ := h
            refine wp_iastore dL_law_671 hk32 hi33 ?_
            refine wp_nmS (fun σ34 hs35 => ?_)
            replace h := h σ34 hs35
            refine wp_aload_n dL_law_672 rfl ?_
            refine wp_iload dL_law_673 rfl ?_
            refine wp_dup2 dL_law_675 trivial trivial ?_
            obtain ⟨ha36, hi37, h⟩ := h
            refine wp_iaload dL_law_676 ha36 hi37 ?_
            refine wp_iconst dL_law_677 ?_
            refine wp_iadd dL_law_678 ?_
            obtain ⟨hk38, h⟩ := h
            refine wp_iastore dL_law_679 hk38 hi37 ?_
            refine wp_nmS (fun σ39 hs40 => ?_)
            replace h := h σ39 hs40
            refine wp_goto (tgt := 1014) dL_law_680 (by decide) ?_
            exact wp_less (ac2 := ca) (as2 := sa) (by omega) (by omega) (wp_lsub (ls' := [some (vr sc), some (vr x), some (vr pg), some (vr mn), some (vr fa), some (vr of), some (vi nP), some (vi nB), some (vi aN), some (vi tn), none, some (vi w), none, none, none, none, none, some (vi 1), none, none]) ⟨rfl, ⟨rfl, ⟨rfl, ⟨rfl, ⟨rfl, ⟨rfl, ⟨rfl, ⟨rfl, ⟨rfl, ⟨rfl, ⟨rfl, ⟨rfl, trivial⟩⟩⟩⟩⟩⟩⟩⟩⟩⟩⟩⟩ h)

set_option maxRecDepth 100000 in
set_option maxHeartbeats 4000000 in
theorem ls_an0 (hl : l.stackTraces = false) {sc : Nat} {x : Nat} {pg : Nat} {mn : Nat} {fa : Nat} {of : Nat} {nP : Int} {nB : Int} {aN : Int} {tn : Int} {v : Int} {w : Int} {wh : Int} {p : Int} {b : Int} {it : Int} {iu : Int}
    (h : qR nB ∧ ((¬ nB = 0 → (∃ v4 : Int, qMet g l M_L_low [vi ((Int32.ofInt w >>> (Int32.ofInt 9 &&& 31)).toInt), vi nB] σ (qPi σ v4) ∧ (qW g l (M_law nm hh) ca sa 709 [some (vr sc), some (vr x), some (vr pg), some (vr mn), some (vr fa), some (vr of), some (vi nP), some (vi nB), some (vi aN), some (vi tn), some (vi v), some (vi w), some (vi wh), some (vi p), some (vi b), some (vi it), some (vi iu), some (vi 1), none, none] [vi v4] σ Post))) ∧ (nB = 0 → qW g l (M_law nm hh) ca sa 709 [some (vr sc), some (vr x), some (vr pg), some (vr mn), some (vr fa), some (vr of), some (vi nP), some (vi nB), some (vi aN), some (vi tn), some (vi v), some (vi w), some (vi wh), some (vi p), some (vi b), some (vi it), some (vi iu), some (vi 1), none, none] [vi 0] σ Post))) : qW g l (M_law nm hh) ca sa 690 [some (vr sc), some (vr x), some (vr pg), some (vr mn), some (vr fa), some (vr of), some (vi nP), some (vi nB), some (vi aN), some (vi tn), some (vi v), some (vi w), some (vi wh), some (vi p), some (vi b), some (vi it), some (vi iu), some (vi 1), none, none] [] σ Post := by
  refine wp_iload dL_law_690 rfl ?_
  obtain ⟨hr1, h⟩ := h
  refine wp_if_ne (tgt := 699) dL_law_692 (by decide) hr1 (fun c2 => ?_) (fun c2 => ?_)
  · replace h := h.1 c2
    refine wp_iload dL_law_699 rfl ?_
    refine wp_bipush dL_law_701 (by decide) ?_
    refine wp_ishr dL_law_703 ?_
    refine wp_iload dL_law_704 rfl ?_
    obtain ⟨v4, hm3, h⟩ := h
    refine wp_callS (M' := M_L_low) (As := [vi ((Int32.ofInt w >>> (Int32.ofInt 9 &&& 31)).toInt), vi nB]) (st := []) dL_law_706 cee_L_low np_L_low rfl ⟨Nat.le_of_ble_eq_true rfl, Nat.le_of_ble_eq_true rfl, by show 0 ≤ ca; omega, by show 0 ≤ sa; omega⟩ wd_786 wd_787 (q_small_of (Nat.le_of_ble_eq_true rfl)) hm3 (q_kPi ?_) q_kPi0
    refine wp_less (ac2 := ca) (as2 := sa) (by show ca ≤ ca - 0; omega) (by show sa ≤ sa - 0; omega) ?_
    exact wp_less (ac2 := ca) (as2 := sa) (by omega) (by omega) (wp_lsub (ls' := [some (vr sc), some (vr x), some (vr pg), some (vr mn), some (vr fa), some (vr of), some (vi nP), some (vi nB), some (vi aN), some (vi tn), some (vi v), some (vi w), some (vi wh), some (vi p), some (vi b), some (vi it), some (vi iu), some (vi 1), none, none]) ⟨rfl, ⟨rfl, ⟨rfl, ⟨rfl, ⟨rfl, ⟨rfl, ⟨rfl, ⟨rfl, ⟨rfl, ⟨rfl, ⟨rfl, ⟨rfl, ⟨rfl, ⟨rfl, ⟨rfl, ⟨rfl, ⟨rfl, ⟨rfl, trivial⟩⟩⟩⟩⟩⟩⟩⟩⟩⟩⟩⟩⟩⟩⟩⟩⟩⟩ h)
  · replace h := h.2 c2
    refine wp_iconst dL_law_695 ?_
    refine wp_goto (tgt := 709) dL_law_696 (by decide) ?_
    exact wp_less (ac2 := ca) (as2 := sa) (by omega) (by omega) (wp_lsub (ls' := [some (vr sc), some (vr x), some (vr pg), some (vr mn), some (vr fa), some (vr of), some (vi nP), some (vi nB), some (vi aN), some (vi tn), some (vi v), some (vi w), some (vi wh), some (vi p), some (vi b), some (vi it), some (vi iu), some (vi 1), none, none]) ⟨rfl, ⟨rfl, ⟨rfl, ⟨rfl, ⟨rfl, ⟨rfl, ⟨rfl, ⟨rfl, ⟨rfl, ⟨rfl, ⟨rfl, ⟨rfl, ⟨rfl, ⟨rfl, ⟨rfl, ⟨rfl, ⟨rfl, ⟨rfl, trivial⟩⟩⟩⟩⟩⟩⟩⟩⟩⟩⟩⟩⟩⟩⟩⟩⟩⟩ h)

set_option maxRecDepth 100000 in
set_option maxHeartbeats 4000000 in
theorem ls_an (hl : l.stackTraces = false) {sc : Nat} {x : Nat} {pg : Nat} {mn : Nat} {fa : Nat} {of : Nat} {nP : Int} {nB : Int} {aN : Int} {tn : Int} {v : Int} {w : Int} {wh : Int} {p : Int} {b : Int} {it : Int} {iu : Int} {ot : Int}
    (h : qR iu ∧ ((iu = 0 → qW g l (M_law nm hh) ca sa 1014 [some (vr sc), some (vr x), some (vr pg), some (vr mn), some (vr fa), some (vr of), some (vi nP), some (vi nB), some (vi aN), some (vi tn), none, some (vi w), none, none, none, none, none, some (vi 1), none, none] [] σ Post) ∧ (¬ (iu = 0) → q_isA σ 0 of ∧ q_in σ of ot ∧ qR (gA σ of ot) ∧ (((gA σ of ot) < 0 → qW g l (M_law nm hh) ca sa 1014 [some (vr sc), some (vr x), some (vr pg), some (vr mn), some (vr fa), some (vr of), some (vi nP), some (vi nB), some (vi aN), some (vi tn), none, some (vi w), none, none, none, none, none, some (vi 1), none, none] [] σ Post) ∧ (¬ ((gA σ of ot) < 0) → gK σ x = 8 ∧ (∃ (Mid9 : qS → Int → Prop) (MidX10 : qS → Nat → Prop), qMet g l M_X7_placeOf [vr x, vi ot] σ (qTi Mid9 MidX10) ∧ (∀ (σ13 : qS) (v15 : Int), Mid9 σ13 v15 → gK σ13 x = 8 ∧ (∃ (Mid18 : qS → Int → Prop) (MidX19 : qS → Nat → Prop), qMet g l M_X7_placeOf [vr x, vi b] σ13 (qTi Mid18 MidX19) ∧ (∀ (σ22 : qS) (v24 : Int), Mid18 σ22 v24 → qR v15 ∧ qR v24 ∧ ((v24 ≤ v15 → qW g l (M_law nm hh) ca sa 1014 [some (vr sc), some (vr x), some (vr pg), some (vr mn), some (vr fa), some (vr of), some (vi nP), some (vi nB), some (vi aN), some (vi tn), none, some (vi w), none, none, none, none, none, some (vi 1), none, none] [] σ22 Post) ∧ (¬ (v24 ≤ v15) → gK σ22 x = 8 ∧ (∃ (Mid30 : qS → Int → Prop) (MidX31 : qS → Nat → Prop), qMet g l M_X7_answer [vr x, vi b, vi ot] σ22 (qTi Mid30 MidX31) ∧ (∀ (σ34 : qS) (v36 : Int), Mid30 σ34 v36 → ((qR v36) ∧ ∀ v39 : Int, v39 = (if 0 ≤ v36 then 0 else 1) → ∀ x45 : Int, x45 = aN + v39 → gK σ34 x = 8 ∧ (∃ (Mid49 : qS → Int → Prop) (MidX50 : qS → Nat → Prop), qMet g l M_X7_depth [vr x, vi b] σ34 (qTi Mid49 MidX50) ∧ (∀ (σ53 : qS) (v55 : Int), Mid49 σ53 v55 → gK σ53 x = 8 ∧ (∃ (Mid58 : qS → Int → Prop) (MidX59 : qS → Nat → Prop), qMet g l M_X7_depth [vr x, vi ot] σ53 (qTi Mid58 MidX59) ∧ (∀ (σ62 : qS) (v64 : Int), Mid58 σ62 v64 → ((qR v55 ∧ qR (v64 + 1)) ∧ ∀ v68 : Int, v68 = (if ¬ v55 = (v64 + 1) then 0 else 1) → qW g l (M_law nm hh) ca sa 1014 [some (vr sc), some (vr x), some (vr pg), some (vr mn), some (vr fa), some (vr of), some (vi nP), some (vi nB), some (vi x45), some (vi tn), none, some (vi w), none, none, none, none, none, some (vi v68), none, none] [] σ62 Post)) ∧ (∀ (σ9 : qS) (n9 : Nat), ¬ MidX59 σ9 n9))) ∧ (∀ (σ9 : qS) (n9 : Nat), ¬ MidX50 σ9 n9)))) ∧ (∀ (σ9 : qS) (n9 : Nat), ¬ MidX31 σ9 n9))))) ∧ (∀ (σ9 : qS) (n9 : Nat), ¬ MidX19 σ9 n9))) ∧ (∀ (σ9 : qS) (n9 : Nat), ¬ MidX10 σ9 n9))))))) : qW g l (M_law nm hh) (ca + 200) (sa + 4000) 709 [some (vr sc), some (vr x), some (vr pg), some (vr mn), some (vr fa), some (vr of), some (vi nP), some (vi nB), some (vi aN), some (vi tn), some (vi v), some (vi w), some (vi wh), some (vi p), some (vi b), some (vi it), some (vi iu), some (vi 1), none, none] [vi ot] σ Post := by
  refine wp_istore' (ls' := [some (vr sc), some (vr x), some (vr pg), some (vr mn), some (vr fa), some (vr of), some (vi nP), some (vi nB), some (vi aN), some (vi tn), some (vi v), some (vi w), some (vi wh), some (vi p), some (vi b), some (vi it), some (vi iu), some (vi 1), some (vi ot), none]) dL_law_709 (Nat.le_of_ble_eq_true rfl) rfl ?_
  refine wp_iload dL_law_711 rfl ?_
  obtain ⟨hr1, h⟩ := h
  refine wp_if_eq (tgt := 788) dL_law_713 (by decide) hr1 (fun c2 => ?_) (fun c2 => ?_)
  · replace h := h.1 c2
    refine wp_goto (tgt := 1014) dL_law_788 (by decide) ?_
    exact wp_less (ac2 := ca) (as2 := sa) (by omega) (by omega) (wp_lsub (ls' := [some (vr sc), some (vr x), some (vr pg), some (vr mn), some (vr fa), some (vr of), some (vi nP), some (vi nB), some (vi aN), some (vi tn), none, some (vi w), none, none, none, none, none, some (vi 1), none, none]) ⟨rfl, ⟨rfl, ⟨rfl, ⟨rfl, ⟨rfl, ⟨rfl, ⟨rfl, ⟨rfl, ⟨rfl, ⟨rfl, ⟨rfl, ⟨rfl, trivial⟩⟩⟩⟩⟩⟩⟩⟩⟩⟩⟩⟩ h)
  · replace h := h.2 c2
    refine wp_aload dL_law_716 rfl ?_
    refine wp_iload dL_law_718 rfl ?_
    obtain ⟨ha3, hi4, h⟩ := h
    refine wp_iaload dL_law_720 ha3 hi4 ?_
    obtain ⟨hr5, h⟩ := h
    refine wp_if_lt (tgt := 788) dL_law_721 (by decide) hr5 (fun c6 => ?_) (fun c6 => ?_)
    · replace h := h.1 c6
      refine wp_goto (tgt := 1014) dL_law_788 (by decide) ?_
      exact wp_less (ac2 := ca) (as2 := sa) (by omega) (by omega) (wp_lsub (ls' := [some (vr sc), some (vr x), some (vr pg), some (vr mn), some (vr fa), some (vr of), some (vi nP), some (vi nB), some (vi aN), some (vi tn), none, some (vi w), none, none, none, none, none, some (vi 1), none, none]) ⟨rfl, ⟨rfl, ⟨rfl, ⟨rfl, ⟨rfl, ⟨rfl, ⟨rfl, ⟨rfl, ⟨rfl, ⟨rfl, ⟨rfl, ⟨rfl, trivial⟩⟩⟩⟩⟩⟩⟩⟩⟩⟩⟩⟩ h)
    · replace h := h.2 c6
      refine wp_aload_n dL_law_724 rfl ?_
      refine wp_iload dL_law_725 rfl ?_
      obtain ⟨hk8, h⟩ := h
      obtain ⟨Mid9, MidX10, hm7, hk11, hx12⟩ := h
      refine wp_callV (M' := M_X7_placeOf) (As := [vi ot]) (st := []) (ci := 7) dL_law_727 cee_X7_placeOf np_X7_placeOf rfl ⟨Nat.le_of_ble_eq_true rfl, Nat.le_of_ble_eq_true rfl, by show 1 ≤ (ca + 200); omega, by show 6 ≤ (sa + 4000); omega⟩ wd_740 wd_741 wd_742 rfl (Or.inl hk8) (q_small_of (Nat.le_of_ble_eq_true rfl)) hm7 (q_kTi (fun σ13 v15 hM14 => ?_)) (fun σ9 n9 hq => absurd (q_xi hq) (hx12 σ9 n9))
      refine wp_less (ac2 := (ca + 199)) (as2 := (sa + 3994)) (by show (ca + 199) ≤ (ca + 200) - 1; omega) (by show (sa + 3994) ≤ (sa + 4000) - 6; omega) ?_
      have h := hk11 σ13 v15 hM14
      refine wp_aload_n dL_law_730 rfl ?_
      refine wp_iload dL_law_731 rfl ?_
      obtain ⟨hk17, h⟩ := h
      obtain ⟨Mid18, MidX19, hm16, hk20, hx21⟩ := h
      refine wp_callV (M' := M_X7_placeOf) (As := [vi b]) (st := [vi v15]) (ci := 7) dL_law_733 cee_X7_placeOf np_X7_placeOf rfl ⟨Nat.le_of_ble_eq_true rfl, Nat.le_of_ble_eq_true rfl, by show 1 ≤ (ca + 199); omega, by show 6 ≤ (sa + 3994); omega⟩ wd_740 wd_741 wd_742 rfl (Or.inl hk17) (q_small_of (Nat.le_of_ble_eq_true rfl)) hm16 (q_kTi (fun σ22 v24 hM23 => ?_)) (fun σ9 n9 hq => absurd (q_xi hq) (hx21 σ9 n9))
      refine wp_less (ac2 := (ca + 198)) (as2 := (sa + 3988)) (by show (ca + 198) ≤ (ca + 199) - 1; omega) (by show (sa + 3988) ≤ (sa + 3994) - 6; omega) ?_
      have h := hk20 σ22 v24 hM23
      obtain ⟨hr25, hr26, h⟩ := h
      refine wp_icmp_ge (tgt := 788) dL_law_736 (by decide) hr25 hr26 (fun c27 => ?_) (fun c27 => ?_)
      · replace h := h.1 c27
        refine wp_goto (tgt := 1014) dL_law_788 (by decide) ?_
        exact wp_less (ac2 := ca) (as2 := sa) (by omega) (by omega) (wp_lsub (ls' := [some (vr sc), some (vr x), some (vr pg), some (vr mn), some (vr fa), some (vr of), some (vi nP), some (vi nB), some (vi aN), some (vi tn), none, some (vi w), none, none, none, none, none, some (vi 1), none, none]) ⟨rfl, ⟨rfl, ⟨rfl, ⟨rfl, ⟨rfl, ⟨rfl, ⟨rfl, ⟨rfl, ⟨rfl, ⟨rfl, ⟨rfl, ⟨rfl, trivial⟩⟩⟩⟩⟩⟩⟩⟩⟩⟩⟩⟩ h)
      · replace h := h.2 c27
        refine wp_aload_n dL_law_739 rfl ?_
        refine wp_iload dL_law_740 rfl ?_
        refine wp_iload dL_law_742 rfl ?_
        obtain ⟨hk29, h⟩ := h
        obtain ⟨Mid30, MidX31, hm28, hk32, hx33⟩ := h
        refine wp_callV (M' := M_X7_answer) (As := [vi b, vi ot]) (st := []) (ci := 7) dL_law_744 cee_X7_answer np_X7_answer rfl ⟨Nat.le_of_ble_eq_true rfl, Nat.le_of_ble_eq_true rfl, by show 3 ≤ (ca + 198); omega, by show 18 ≤ (sa + 3988); omega⟩ wd_706 wd_707 wd_708 rfl (Or.inl hk29) (q_small_of (Nat.le_of_ble_eq_true rfl)) hm28 (q_kTi (fun σ34 v36 hM35 => ?_)) (fun σ9 n9 hq => absurd (q_xi hq) (hx33 σ9 n9))
        refine wp_less (ac2 := (ca + 195)) (as2 := (sa + 3970)) (by show (ca + 195) ≤ (ca + 198) - 3; omega) (by show (sa + 3970) ≤ (sa + 3988) - 18; omega) ?_
        have h := hk32 σ34 v36 hM35
        refine wp_istore' (ls' := [some (vr sc), some (vr x), some (vr pg), some (vr mn), some (vr fa), some (vr of), some (vi nP), some (vi nB), some (vi aN), some (vi tn), some (vi v), some (vi w), some (vi wh), some (vi p), some (vi b), some (vi it), some (vi iu), some (vi 1), some (vi ot), some (vi v36)]) dL_law_747 (Nat.le_of_ble_eq_true rfl) rfl ?_
        refine wp_iload dL_law_749 rfl ?_
        refine wp_iload dL_law_751 rfl ?_
        obtain ⟨h, hk42⟩ := h
        have key41 : ∀ v39 : Int, v39 = (if 0 ≤ v36 then 0 else 1) → qW g l (M_law nm hh) (ca + 195) (sa + 3970) 761 [some (vr sc), some (vr x), some (vr pg), some (vr mn), some (vr fa), some (vr of), some (vi nP), some (vi nB), some (vi aN), some (vi tn), some (vi v), some (vi w), some (vi wh), some (vi p), some (vi b), some (vi it), some (vi iu), some (vi 1), some (vi ot), some (vi v36)] [vi v39, vi aN] σ34 Post := by
          intro v39 hv40
          have h := hk42 v39 hv40
          have hr43 : qR v39 := by (rw [hv40]; unfold qR; repeat' split) <;> omega
          have hz44 : v39 = 0 ∨ v39 = 1 := by (rw [hv40]; repeat' split) <;> first | exact Or.inl rfl | exact Or.inr rfl
          refine wp_iadd dL_law_761 ?_
          refine wp_nmI (fun x45 hx46 => ?_)
          replace h := h x45 hx46
          refine wp_istore' (ls' := [some (vr sc), some (vr x), some (vr pg), some (vr mn), some (vr fa), some (vr of), some (vi nP), some (vi nB), some (vi x45), some (vi tn), some (vi v), some (vi w), some (vi wh), some (vi p), some (vi b), some (vi it), some (vi iu), some (vi 1), some (vi ot), some (vi v36)]) dL_law_762 (Nat.le_of_ble_eq_true rfl) rfl ?_
          refine wp_aload_n dL_law_764 rfl ?_
          refine wp_iload dL_law_765 rfl ?_
          obtain ⟨hk48, h⟩ := h
          obtain ⟨Mid49, MidX50, hm47, hk51, hx52⟩ := h
          refine wp_callV (M' := M_X7_depth) (As := [vi b]) (st := []) (ci := 7) dL_law_767 cee_X7_depth np_X7_depth rfl ⟨Nat.le_of_ble_eq_true rfl, Nat.le_of_ble_eq_true rfl, by show 1 ≤ (ca + 195); omega, by show 6 ≤ (sa + 3970); omega⟩ wd_748 wd_749 wd_750 rfl (Or.inl hk48) (q_small_of (Nat.le_of_ble_eq_true rfl)) hm47 (q_kTi (fun σ53 v55 hM54 => ?_)) (fun σ9 n9 hq => absurd (q_xi hq) (hx52 σ9 n9))
          refine wp_less (ac2 := (ca + 194)) (as2 := (sa + 3964)) (by show (ca + 194) ≤ (ca + 195) - 1; omega) (by show (sa + 3964) ≤ (sa + 3970) - 6; omega) ?_
          have h := hk51 σ53 v55 hM54
          refine wp_aload_n dL_law_770 rfl ?_
          refine wp_iload dL_law_771 rfl ?_
          obtain ⟨hk57, h⟩ := h
          obtain ⟨Mid58, MidX59, hm56, hk60, hx61⟩ := h
          refine wp_callV (M' := M_X7_depth) (As := [vi ot]) (st := [vi v55]) (ci := 7) dL_law_773 cee_X7_depth np_X7_depth rfl ⟨Nat.le_of_ble_eq_true rfl, Nat.le_of_ble_eq_true rfl, by show 1 ≤ (ca + 194); omega, by show 6 ≤ (sa + 3964); omega⟩ wd_748 wd_749 wd_750 rfl (Or.inl hk57) (q_small_of (Nat.le_of_ble_eq_true rfl)) hm56 (q_kTi (fun σ62 v64 hM63 => ?_)) (fun σ9 n9 hq => absurd (q_xi hq) (hx61 σ9 n9))
          refine wp_less (ac2 := (ca + 193)) (as2 := (sa + 3958)) (by show (ca + 193) ≤ (ca + 194) - 1; omega) (by show (sa + 3958) ≤ (sa + 3964) - 6; omega) ?_
          have h := hk60 σ62 v64 hM63
          refine wp_iconst dL_law_776 ?_
          refine wp_iadd dL_law_777 ?_
          obtain ⟨h, hk71⟩ := h
          have key70 : ∀ v68 : Int, v68 = (if ¬ v55 = (v64 + 1) then 0 else 1) → qW g l (M_law nm hh) (ca + 193) (sa + 3958) 786 [some (vr sc), some (vr x), some (vr pg), some (vr mn), some (vr fa), some (vr of), some (vi nP), some (vi nB), some (vi x45), some (vi tn), some (vi v), some (vi w), some (vi wh), some (vi p), some (vi b), some (vi it), some (vi iu), some (vi 1), some (vi ot), some (vi v36)] [vi v68] σ62 Post := by
            intro v68 hv69
            have h := hk71 v68 hv69
            have hr72 : qR v68 := by (rw [hv69]; unfold qR; repeat' split) <;> omega
            have hz73 : v68 = 0 ∨ v68 = 1 := by (rw [hv69]; repeat' split) <;> first | exact Or.inl rfl | exact Or.inr rfl
            refine wp_istore' (ls' := [some (vr sc), some (vr x), some (vr pg), some (vr mn), some (vr fa), some (vr of), some (vi nP), some (vi nB), some (vi x45), some (vi tn), some (vi v), some (vi w), some (vi wh), some (vi p), some (vi b), some (vi it), some (vi iu), some (vi v68), some (vi ot), some (vi v36)]) dL_law_786 (Nat.le_of_ble_eq_true rfl) rfl ?_
            refine wp_goto (tgt := 1014) dL_law_788 (by decide) ?_
            exact wp_less (ac2 := ca) (as2 := sa) (by omega) (by omega) (wp_lsub (ls' := [some (vr sc), some (vr x), some (vr pg), some (vr mn), some (vr fa), some (vr of), some (vi nP), some (vi nB), some (vi x45), some (vi tn), none, some (vi w), none, none, none, none, none, some (vi v68), none, none]) ⟨rfl, ⟨rfl, ⟨rfl, ⟨rfl, ⟨rfl, ⟨rfl, ⟨rfl, ⟨rfl, ⟨rfl, ⟨rfl, ⟨rfl, ⟨rfl, trivial⟩⟩⟩⟩⟩⟩⟩⟩⟩⟩⟩⟩ h)
          obtain ⟨hr74, hr75⟩ := h
          refine wp_icmp_ne (tgt := 785) dL_law_778 (by decide) hr74 hr75 (fun c76 => ?_) (fun c76 => ?_)
          · refine wp_iconst dL_law_785 ?_
            exact key70 _ (by rw [if_pos c76])
          · refine wp_iconst dL_law_781 ?_
            refine wp_goto (tgt := 786) dL_law_782 (by decide) ?_
            exact key70 _ (by rw [if_neg (fun z => z c76)])
        have hr77 := h
        refine wp_if_ge (tgt := 760) dL_law_753 (by decide) hr77 (fun c78 => ?_) (fun c78 => ?_)
        · refine wp_iconst dL_law_760 ?_
          exact key41 _ (by rw [if_pos c78])
        · refine wp_iconst dL_law_756 ?_
          refine wp_goto (tgt := 761) dL_law_757 (by decide) ?_
          exact key41 _ (by rw [if_neg c78])

set_option maxRecDepth 100000 in
set_option maxHeartbeats 4000000 in
theorem ls_cut (hl : l.stackTraces = false) {sc : Nat} {x : Nat} {pg : Nat} {mn : Nat} {fa : Nat} {of : Nat} {nP : Int} {nB : Int} {aN : Int} {tn : Int} {v : Int} {w : Int} {wh : Int} {p : Int} {b : Int} {it : Int} {iu : Int}
    (h : qR iu ∧ ((iu = 0 → qR it ∧ ((it = 0 → qW g l (M_law nm hh) ca sa 1014 [some (vr sc), some (vr x), some (vr pg), some (vr mn), some (vr fa), some (vr of), some (vi nP), some (vi nB), some (vi aN), some (vi tn), none, some (vi w), none, none, none, none, none, some (vi 1), none, none] [] σ Post) ∧ (¬ (it = 0) → qR aN ∧ ((¬ aN = 0 → qW g l (M_law nm hh) ca sa 1014 [some (vr sc), some (vr x), some (vr pg), some (vr mn), some (vr fa), some (vr of), some (vi nP), some (vi nB), some (vi aN), some (vi tn), none, some (vi w), none, none, none, none, none, some (vi 1), none, none] [] σ Post) ∧ (aN = 0 → q_isA σ 0 mn ∧ q_in σ mn p ∧ qR (gA σ mn p) ∧ ((¬ (gA σ mn p) = 0 → qW g l (M_law nm hh) ca sa 1014 [some (vr sc), some (vr x), some (vr pg), some (vr mn), some (vr fa), some (vr of), some (vi nP), some (vi nB), some (vi aN), some (vi tn), none, some (vi w), none, none, none, none, none, some (vi 1), none, none] [] σ Post) ∧ ((gA σ mn p) = 0 → gK σ x = 8 ∧ (∃ (Mid13 : qS → Int → Prop) (MidX14 : qS → Nat → Prop), qMet g l M_X7_cutPanel [vr x, vi p] σ (qTi Mid13 MidX14) ∧ (∀ (σ17 : qS) (v19 : Int), Mid13 σ17 v19 → ((qR v19) ∧ ∀ v22 : Int, v22 = (if ¬ v19 = 0 then 0 else 1) → gK σ17 pg = 20 ∧ q_in σ17 pg p ∧ (∀ σ30 : qS, σ30 = sA σ17 pg p ((-1)) → qW g l (M_law nm hh) ca sa 1014 [some (vr sc), some (vr x), some (vr pg), some (vr mn), some (vr fa), some (vr of), some (vi nP), some (vi nB), some (vi aN), some (vi tn), none, some (vi w), none, none, none, none, none, some (vi v22), none, none] [] σ30 Post))) ∧ (∀ (σ9 : qS) (n9 : Nat), ¬ MidX14 σ9 n9))))))))) ∧ (¬ (iu = 0) → qR aN ∧ ((¬ aN = 0 → qR it ∧ ((it = 0 → qW g l (M_law nm hh) ca sa 1014 [some (vr sc), some (vr x), some (vr pg), some (vr mn), some (vr fa), some (vr of), some (vi nP), some (vi nB), some (vi aN), some (vi tn), none, some (vi w), none, none, none, none, none, some (vi 1), none, none] [] σ Post) ∧ (¬ (it = 0) → ((¬ aN = 0 → qW g l (M_law nm hh) ca sa 1014 [some (vr sc), some (vr x), some (vr pg), some (vr mn), some (vr fa), some (vr of), some (vi nP), some (vi nB), some (vi aN), some (vi tn), none, some (vi w), none, none, none, none, none, some (vi 1), none, none] [] σ Post) ∧ (aN = 0 → q_isA σ 0 mn ∧ q_in σ mn p ∧ qR (gA σ mn p) ∧ ((¬ (gA σ mn p) = 0 → qW g l (M_law nm hh) ca sa 1014 [some (vr sc), some (vr x), some (vr pg), some (vr mn), some (vr fa), some (vr of), some (vi nP), some (vi nB), some (vi aN), some (vi tn), none, some (vi w), none, none, none, none, none, some (vi 1), none, none] [] σ Post) ∧ ((gA σ mn p) = 0 → gK σ x = 8 ∧ (∃ (Mid45 : qS → Int → Prop) (MidX46 : qS → Nat → Prop), qMet g l M_X7_cutPanel [vr x, vi p] σ (qTi Mid45 MidX46) ∧ (∀ (σ49 : qS) (v51 : Int), Mid45 σ49 v51 → ((qR v51) ∧ ∀ v54 : Int, v54 = (if ¬ v51 = 0 then 0 else 1) → gK σ49 pg = 20 ∧ q_in σ49 pg p ∧ (∀ σ62 : qS, σ62 = sA σ49 pg p ((-1)) → qW g l (M_law nm hh) ca sa 1014 [some (vr sc), some (vr x), some (vr pg), some (vr mn), some (vr fa), some (vr of), some (vi nP), some (vi nB), some (vi aN), some (vi tn), none, some (vi w), none, none, none, none, none, some (vi v54), none, none] [] σ62 Post))) ∧ (∀ (σ9 : qS) (n9 : Nat), ¬ MidX46 σ9 n9))))))))) ∧ (aN = 0 → gK σ x = 8 ∧ (∃ (Mid68 : qS → Int → Prop) (MidX69 : qS → Nat → Prop), qMet g l M_X7_cutBalloon [vr x, vi b] σ (qTi Mid68 MidX69) ∧ (∀ (σ72 : qS) (v74 : Int), Mid68 σ72 v74 → q_isA σ72 0 of ∧ q_in σ72 of b ∧ ((qR v74 ∧ qR (gA σ72 of b)) ∧ ∀ v80 : Int, v80 = (if ¬ v74 = (gA σ72 of b) then 0 else 1) → q_isA σ72 0 mn ∧ q_in σ72 mn (gA σ72 of b) ∧ gK σ72 mn = 20 ∧ (∀ σ89 : qS, σ89 = sA σ72 mn (gA σ72 of b) ((gA σ72 mn (gA σ72 of b)) - 1) → gK σ89 of = 20 ∧ (∀ σ92 : qS, σ92 = sA σ89 of b ((-1)) → qW g l (M_law nm hh) ca sa 1014 [some (vr sc), some (vr x), some (vr pg), some (vr mn), some (vr fa), some (vr of), some (vi nP), some (vi nB), some (vi aN), some (vi tn), none, some (vi w), none, none, none, none, none, some (vi v80), none, none] [] σ92 Post)))) ∧ (∀ (σ9 : qS) (n9 : Nat), ¬ MidX69 σ9 n9))))))) : qW g l (M_law nm hh) (ca + 200) (sa + 4000) 798 [some (vr sc), some (vr x), some (vr pg), some (vr mn), some (vr fa), some (vr of), some (vi nP), some (vi nB), some (vi aN), some (vi tn), some (vi v), some (vi w), some (vi wh), some (vi p), some (vi b), some (vi it), some (vi iu), some (vi 1), none, none] [] σ Post := by
  refine wp_iload dL_law_798 rfl ?_
  obtain ⟨hr1, h⟩ := h
  refine wp_if_eq (tgt := 849) dL_law_800 (by decide) hr1 (fun c2 => ?_) (fun c2 => ?_)
  · replace h := h.1 c2
    refine wp_iload dL_law_849 rfl ?_
    obtain ⟨hr3, h⟩ := h
    refine wp_if_eq (tgt := 1014) dL_law_851 (by decide) hr3 (fun c4 => ?_) (fun c4 => ?_)
    · replace h := h.1 c4
      exact wp_less (ac2 := ca) (as2 := sa) (by omega) (by omega) (wp_lsub (ls' := [some (vr sc), some (vr x), some (vr pg), some (vr mn), some (vr fa), some (vr of), some (vi nP), some (vi nB), some (vi aN), some (vi tn), none, some (vi w), none, none, none, none, none, some (vi 1), none, none]) ⟨rfl, ⟨rfl, ⟨rfl, ⟨rfl, ⟨rfl, ⟨rfl, ⟨rfl, ⟨rfl, ⟨rfl, ⟨rfl, ⟨rfl, ⟨rfl, trivial⟩⟩⟩⟩⟩⟩⟩⟩⟩⟩⟩⟩ h)
    · replace h := h.2 c4
      refine wp_iload dL_law_854 rfl ?_
      obtain ⟨hr5, h⟩ := h
      refine wp_if_ne (tgt := 1014) dL_law_856 (by decide) hr5 (fun c6 => ?_) (fun c6 => ?_)
      · replace h := h.1 c6
        exact wp_less (ac2 := ca) (as2 := sa) (by omega) (by omega) (wp_lsub (ls' := [some (vr sc), some (vr x), some (vr pg), some (vr mn), some (vr fa), some (vr of), some (vi nP), some (vi nB), some (vi aN), some (vi tn), none, some (vi w), none, none, none, none, none, some (vi 1), none, none]) ⟨rfl, ⟨rfl, ⟨rfl, ⟨rfl, ⟨rfl, ⟨rfl, ⟨rfl, ⟨rfl, ⟨rfl, ⟨rfl, ⟨rfl, ⟨rfl, trivial⟩⟩⟩⟩⟩⟩⟩⟩⟩⟩⟩⟩ h)
      · replace h := h.2 c6
        refine wp_aload_n dL_law_859 rfl ?_
        refine wp_iload dL_law_860 rfl ?_
        obtain ⟨ha7, hi8, h⟩ := h
        refine wp_iaload dL_law_862 ha7 hi8 ?_
        obtain ⟨hr9, h⟩ := h
        refine wp_if_ne (tgt := 1014) dL_law_863 (by decide) hr9 (fun c10 => ?_) (fun c10 => ?_)
        · replace h := h.1 c10
          exact wp_less (ac2 := ca) (as2 := sa) (by omega) (by omega) (wp_lsub (ls' := [some (vr sc), some (vr x), some (vr pg), some (vr mn), some (vr fa), some (vr of), some (vi nP), some (vi nB), some (vi aN), some (vi tn), none, some (vi w), none, none, none, none, none, some (vi 1), none, none]) ⟨rfl, ⟨rfl, ⟨rfl, ⟨rfl, ⟨rfl, ⟨rfl, ⟨rfl, ⟨rfl, ⟨rfl, ⟨rfl, ⟨rfl, ⟨rfl, trivial⟩⟩⟩⟩⟩⟩⟩⟩⟩⟩⟩⟩ h)
        · replace h := h.2 c10
          refine wp_aload_n dL_law_866 rfl ?_
          refine wp_iload dL_law_867 rfl ?_
          obtain ⟨hk12, h⟩ := h
          obtain ⟨Mid13, MidX14, hm11, hk15, hx16⟩ := h
          refine wp_callV (M' := M_X7_cutPanel) (As := [vi p]) (st := []) (ci := 7) dL_law_869 cee_X7_cutPanel np_X7_cutPanel rfl ⟨Nat.le_of_ble_eq_true rfl, Nat.le_of_ble_eq_true rfl, by show 5 ≤ (ca + 200); omega, by show 418 ≤ (sa + 4000); omega⟩ wd_571 wd_572 wd_573 rfl (Or.inl hk12) (q_small_of (Nat.le_of_ble_eq_true rfl)) hm11 (q_kTi (fun σ17 v19 hM18 => ?_)) (fun σ9 n9 hq => absurd (q_xi hq) (hx16 σ9 n9))
          refine wp_less (ac2 := (ca + 195)) (as2 := (sa + 3582)) (by show (ca + 195) ≤ (ca + 200) - 5; omega) (by show (sa + 3582) ≤ (sa + 4000) - 418; omega) ?_
          have h := hk15 σ17 v19 hM18
          obtain ⟨h, hk25⟩ := h
          have key24 : ∀ v22 : Int, v22 = (if ¬ v19 = 0 then 0 else 1) → qW g l (M_law nm hh) (ca + 195) (sa + 3582) 880 [some (vr sc), some (vr x), some (vr pg), some (vr mn), some (vr fa), some (vr of), some (vi nP), some (vi nB), some (vi aN), some (vi tn), some (vi v), some (vi w), some (vi wh), some (vi p), some (vi b), some (vi it), some (vi iu), some (vi 1), none, none] [vi v22] σ17 Post := by
            intro v22 hv23
            have h := hk25 v22 hv23
            have hr26 : qR v22 := by (rw [hv23]; unfold qR; repeat' split) <;> omega
            have hz27 : v22 = 0 ∨ v22 = 1 := by (rw [hv23]; repeat' split) <;> first | exact Or.inl rfl | exact Or.inr rfl
            refine wp_istore' (ls' := [some (vr sc), some (vr x), some (vr pg), some (vr mn), some (vr fa), some (vr of), some (vi nP), some (vi nB), some (vi aN), some (vi tn), some (vi v), some (vi w), some (vi wh), some (vi p), some (vi b), some (vi it), some (vi iu), some (vi v22), none, none]) dL_law_880 (Nat.le_of_ble_eq_true rfl) rfl ?_
            refine wp_aload_n dL_law_882 rfl ?_
            refine wp_iload dL_law_883 rfl ?_
            refine wp_iconst dL_law_885 ?_
            obtain ⟨hk28, hi29, h⟩ := h
            refine wp_iastore dL_law_886 hk28 hi29 ?_
            refine wp_nmS (fun σ30 hs31 => ?_)
            replace h := h σ30 hs31
            refine wp_goto (tgt := 1014) dL_law_887 (by decide) ?_
            exact wp_less (ac2 := ca) (as2 := sa) (by omega) (by omega) (wp_lsub (ls' := [some (vr sc), some (vr x), some (vr pg), some (vr mn), some (vr fa), some (vr of), some (vi nP), some (vi nB), some (vi aN), some (vi tn), none, some (vi w), none, none, none, none, none, some (vi v22), none, none]) ⟨rfl, ⟨rfl, ⟨rfl, ⟨rfl, ⟨rfl, ⟨rfl, ⟨rfl, ⟨rfl, ⟨rfl, ⟨rfl, ⟨rfl, ⟨rfl, trivial⟩⟩⟩⟩⟩⟩⟩⟩⟩⟩⟩⟩ h)
          have hr32 := h
          refine wp_if_ne (tgt := 879) dL_law_872 (by decide) hr32 (fun c33 => ?_) (fun c33 => ?_)
          · refine wp_iconst dL_law_879 ?_
            exact key24 _ (by rw [if_pos c33])
          · refine wp_iconst dL_law_875 ?_
            refine wp_goto (tgt := 880) dL_law_876 (by decide) ?_
            exact key24 _ (by rw [if_neg (fun z => z c33)])
  · replace h := h.2 c2
    refine wp_iload dL_law_803 rfl ?_
    obtain ⟨hr34, h⟩ := h
    refine wp_if_ne (tgt := 849) dL_law_805 (by decide) hr34 (fun c35 => ?_) (fun c35 => ?_)
    · replace h := h.1 c35
      refine wp_iload dL_law_849 rfl ?_
      obtain ⟨hr36, h⟩ := h
      refine wp_if_eq (tgt := 1014) dL_law_851 (by decide) hr36 (fun c37 => ?_) (fun c37 => ?_)
      · replace h := h.1 c37
        exact wp_less (ac2 := ca) (as2 := sa) (by omega) (by omega) (wp_lsub (ls' := [some (vr sc), some (vr x), some (vr pg), some (vr mn), some (vr fa), some (vr of), some (vi nP), some (vi nB), some (vi aN), some (vi tn), none, some (vi w), none, none, none, none, none, some (vi 1), none, none]) ⟨rfl, ⟨rfl, ⟨rfl, ⟨rfl, ⟨rfl, ⟨rfl, ⟨rfl, ⟨rfl, ⟨rfl, ⟨rfl, ⟨rfl, ⟨rfl, trivial⟩⟩⟩⟩⟩⟩⟩⟩⟩⟩⟩⟩ h)
      · replace h := h.2 c37
        refine wp_iload dL_law_854 rfl ?_
        refine wp_if_ne (tgt := 1014) dL_law_856 (by decide) hr34 (fun c38 => ?_) (fun c38 => ?_)
        · replace h := h.1 c38
          exact wp_less (ac2 := ca) (as2 := sa) (by omega) (by omega) (wp_lsub (ls' := [some (vr sc), some (vr x), some (vr pg), some (vr mn), some (vr fa), some (vr of), some (vi nP), some (vi nB), some (vi aN), some (vi tn), none, some (vi w), none, none, none, none, none, some (vi 1), none, none]) ⟨rfl, ⟨rfl, ⟨rfl, ⟨rfl, ⟨rfl, ⟨rfl, ⟨rfl, ⟨rfl, ⟨rfl, ⟨rfl, ⟨rfl, ⟨rfl, trivial⟩⟩⟩⟩⟩⟩⟩⟩⟩⟩⟩⟩ h)
        · replace h := h.2 c38
          refine wp_aload_n dL_law_859 rfl ?_
          refine wp_iload dL_law_860 rfl ?_
          obtain ⟨ha39, hi40, h⟩ := h
          refine wp_iaload dL_law_862 ha39 hi40 ?_
          obtain ⟨hr41, h⟩ := h
          refine wp_if_ne (tgt := 1014) dL_law_863 (by decide) hr41 (fun c42 => ?_) (fun c42 => ?_)
          · replace h := h.1 c42
            exact wp_less (ac2 := ca) (as2 := sa) (by omega) (by omega) (wp_lsub (ls' := [some (vr sc), some (vr x), some (vr pg), some (vr mn), some (vr fa), some (vr of), some (vi nP), some (vi nB), some (vi aN), some (vi tn), none, some (vi w), none, none, none, none, none, some (vi 1), none, none]) ⟨rfl, ⟨rfl, ⟨rfl, ⟨rfl, ⟨rfl, ⟨rfl, ⟨rfl, ⟨rfl, ⟨rfl, ⟨rfl, ⟨rfl, ⟨rfl, trivial⟩⟩⟩⟩⟩⟩⟩⟩⟩⟩⟩⟩ h)
          · replace h := h.2 c42
            refine wp_aload_n dL_law_866 rfl ?_
            refine wp_iload dL_law_867 rfl ?_
            obtain ⟨hk44, h⟩ := h
            obtain ⟨Mid45, MidX46, hm43, hk47, hx48⟩ := h
            refine wp_callV (M' := M_X7_cutPanel) (As := [vi p]) (st := []) (ci := 7) dL_law_869 cee_X7_cutPanel np_X7_cutPanel rfl ⟨Nat.le_of_ble_eq_true rfl, Nat.le_of_ble_eq_true rfl, by show 5 ≤ (ca + 200); omega, by show 418 ≤ (sa + 4000); omega⟩ wd_571 wd_572 wd_573 rfl (Or.inl hk44) (q_small_of (Nat.le_of_ble_eq_true rfl)) hm43 (q_kTi (fun σ49 v51 hM50 => ?_)) (fun σ9 n9 hq => absurd (q_xi hq) (hx48 σ9 n9))
            refine wp_less (ac2 := (ca + 195)) (as2 := (sa + 3582)) (by show (ca + 195) ≤ (ca + 200) - 5; omega) (by show (sa + 3582) ≤ (sa + 4000) - 418; omega) ?_
            have h := hk47 σ49 v51 hM50
            obtain ⟨h, hk57⟩ := h
            have key56 : ∀ v54 : Int, v54 = (if ¬ v51 = 0 then 0 else 1) → qW g l (M_law nm hh) (ca + 195) (sa + 3582) 880 [some (vr sc), some (vr x), some (vr pg), some (vr mn), some (vr fa), some (vr of), some (vi nP), some (vi nB), some (vi aN), some (vi tn), some (vi v), some (vi w), some (vi wh), some (vi p), some (vi b), some (vi it), some (vi iu), some (vi 1), none, none] [vi v54] σ49 Post := by
              intro v54 hv55
              have h := hk57 v54 hv55
              have hr58 : qR v54 := by (rw [hv55]; unfold qR; repeat' split) <;> omega
              have hz59 : v54 = 0 ∨ v54 = 1 := by (rw [hv55]; repeat' split) <;> first | exact Or.inl rfl | exact Or.inr rfl
              refine wp_istore' (ls' := [some (vr sc), some (vr x), some (vr pg), some (vr mn), some (vr fa), some (vr of), some (vi nP), some (vi nB), some (vi aN), some (vi tn), some (vi v), some (vi w), some (vi wh), some (vi p), some (vi b), some (vi it), some (vi iu), some (vi v54), none, none]) dL_law_880 (Nat.le_of_ble_eq_true rfl) rfl ?_
              refine wp_aload_n dL_law_882 rfl ?_
              refine wp_iload dL_law_883 rfl ?_
              refine wp_iconst dL_law_885 ?_
              obtain ⟨hk60, hi61, h⟩ := h
              refine wp_iastore dL_law_886 hk60 hi61 ?_
              refine wp_nmS (fun σ62 hs63 => ?_)
              replace h := h σ62 hs63
              refine wp_goto (tgt := 1014) dL_law_887 (by decide) ?_
              exact wp_less (ac2 := ca) (as2 := sa) (by omega) (by omega) (wp_lsub (ls' := [some (vr sc), some (vr x), some (vr pg), some (vr mn), some (vr fa), some (vr of), some (vi nP), some (vi nB), some (vi aN), some (vi tn), none, some (vi w), none, none, none, none, none, some (vi v54), none, none]) ⟨rfl, ⟨rfl, ⟨rfl, ⟨rfl, ⟨rfl, ⟨rfl, ⟨rfl, ⟨rfl, ⟨rfl, ⟨rfl, ⟨rfl, ⟨rfl, trivial⟩⟩⟩⟩⟩⟩⟩⟩⟩⟩⟩⟩ h)
            have hr64 := h
            refine wp_if_ne (tgt := 879) dL_law_872 (by decide) hr64 (fun c65 => ?_) (fun c65 => ?_)
            · refine wp_iconst dL_law_879 ?_
              exact key56 _ (by rw [if_pos c65])
            · refine wp_iconst dL_law_875 ?_
              refine wp_goto (tgt := 880) dL_law_876 (by decide) ?_
              exact key56 _ (by rw [if_neg (fun z => z c65)])
    · replace h := h.2 c35
      refine wp_aload_n dL_law_808 rfl ?_
      refine wp_iload dL_law_809 rfl ?_
      obtain ⟨hk67, h⟩ := h
      obtain ⟨Mid68, MidX69, hm66, hk70, hx71⟩ := h
      refine wp_callV (M' := M_X7_cutBalloon) (As := [vi b]) (st := []) (ci := 7) dL_law_811 cee_X7_cutBalloon np_X7_cutBalloon rfl ⟨Nat.le_of_ble_eq_true rfl, Nat.le_of_ble_eq_true rfl, by show 5 ≤ (ca + 200); omega, by show 418 ≤ (sa + 4000); omega⟩ wd_697 wd_698 wd_699 rfl (Or.inl hk67) (q_small_of (Nat.le_of_ble_eq_true rfl)) hm66 (q_kTi (fun σ72 v74 hM73 => ?_)) (fun σ9 n9 hq => absurd (q_xi hq) (hx71 σ9 n9))
      refine wp_less (ac2 := (ca + 195)) (as2 := (sa + 3582)) (by show (ca + 195) ≤ (ca + 200) - 5; omega) (by show (sa + 3582) ≤ (sa + 4000) - 418; omega) ?_
      have h := hk70 σ72 v74 hM73
      refine wp_aload dL_law_814 rfl ?_
      refine wp_iload dL_law_816 rfl ?_
      obtain ⟨ha75, hi76, h⟩ := h
      refine wp_iaload dL_law_818 ha75 hi76 ?_
      obtain ⟨h, hk83⟩ := h
      have key82 : ∀ v80 : Int, v80 = (if ¬ v74 = (gA σ72 of b) then 0 else 1) → qW g l (M_law nm hh) (ca + 195) (sa + 3582) 827 [some (vr sc), some (vr x), some (vr pg), some (vr mn), some (vr fa), some (vr of), some (vi nP), some (vi nB), some (vi aN), some (vi tn), some (vi v), some (vi w), some (vi wh), some (vi p), some (vi b), some (vi it), some (vi iu), some (vi 1), none, none] [vi v80] σ72 Post := by
        intro v80 hv81
        have h := hk83 v80 hv81
        have hr84 : qR v80 := by (rw [hv81]; unfold qR; repeat' split) <;> omega
        have hz85 : v80 = 0 ∨ v80 = 1 := by (rw [hv81]; repeat' split) <;> first | exact Or.inl rfl | exact Or.inr rfl
        refine wp_istore' (ls' := [some (vr sc), some (vr x), some (vr pg), some (vr mn), some (vr fa), some (vr of), some (vi nP), some (vi nB), some (vi aN), some (vi tn), some (vi v), some (vi w), some (vi wh), some (vi p), some (vi b), some (vi it), some (vi iu), some (vi v80), none, none]) dL_law_827 (Nat.le_of_ble_eq_true rfl) rfl ?_
        refine wp_aload_n dL_law_829 rfl ?_
        refine wp_aload dL_law_830 rfl ?_
        refine wp_iload dL_law_832 rfl ?_
        refine wp_iaload dL_law_834 ha75 hi76 ?_
        refine wp_dup2 dL_law_835 trivial trivial ?_
        obtain ⟨ha86, hi87, h⟩ := h
        refine wp_iaload dL_law_836 ha86 hi87 ?_
        refine wp_iconst dL_law_837 ?_
        refine wp_isub dL_law_838 ?_
        obtain ⟨hk88, h⟩ := h
        refine wp_iastore dL_law_839 hk88 hi87 ?_
        refine wp_nmS (fun σ89 hs90 => ?_)
        replace h := h σ89 hs90
        refine wp_aload dL_law_840 rfl ?_
        refine wp_iload dL_law_842 rfl ?_
        refine wp_iconst dL_law_844 ?_
        obtain ⟨hk91, h⟩ := h
        refine wp_iastore dL_law_845 hk91 (by rw [hs90]; exact hi76) ?_
        refine wp_nmS (fun σ92 hs93 => ?_)
        replace h := h σ92 hs93
        refine wp_goto (tgt := 1014) dL_law_846 (by decide) ?_
        exact wp_less (ac2 := ca) (as2 := sa) (by omega) (by omega) (wp_lsub (ls' := [some (vr sc), some (vr x), some (vr pg), some (vr mn), some (vr fa), some (vr of), some (vi nP), some (vi nB), some (vi aN), some (vi tn), none, some (vi w), none, none, none, none, none, some (vi v80), none, none]) ⟨rfl, ⟨rfl, ⟨rfl, ⟨rfl, ⟨rfl, ⟨rfl, ⟨rfl, ⟨rfl, ⟨rfl, ⟨rfl, ⟨rfl, ⟨rfl, trivial⟩⟩⟩⟩⟩⟩⟩⟩⟩⟩⟩⟩ h)
      obtain ⟨hr94, hr95⟩ := h
      refine wp_icmp_ne (tgt := 826) dL_law_819 (by decide) hr94 hr95 (fun c96 => ?_) (fun c96 => ?_)
      · refine wp_iconst dL_law_826 ?_
        exact key82 _ (by rw [if_pos c96])
      · refine wp_iconst dL_law_822 ?_
        refine wp_goto (tgt := 827) dL_law_823 (by decide) ?_
        exact key82 _ (by rw [if_neg (fun z => z c96)])

set_option maxRecDepth 100000 in
set_option maxHeartbeats 4000000 in
theorem ls_tr (hl : l.stackTraces = false) {sc : Nat} {x : Nat} {pg : Nat} {mn : Nat} {fa : Nat} {of : Nat} {nP : Int} {nB : Int} {aN : Int} {tn : Int} {v : Int} {w : Int} {wh : Int} {p : Int} {b : Int} {it : Int} {iu : Int}
    (h : gK σ x = 8 ∧ (∃ v3 : Int, qMet g l M_X7_pages [vr x] σ (qPi σ v3) ∧ ((∃ v5 : Int, qMet g l M_L_low [vi w, vi v3] σ (qPi σ v5) ∧ ((∃ v7 : Int, qMet g l M_L_low [vi ((Int32.ofInt w >>> (Int32.ofInt 4 &&& 31)).toInt), vi 3] σ (qPi σ v7) ∧ ((∃ (Mid9 : qS → Int → Prop) (MidX10 : qS → Nat → Prop), qMet g l M_X7_translate [vr x, vi v5, vi v7] σ (qTi Mid9 MidX10) ∧ (∀ (σ13 : qS) (v15 : Int), Mid9 σ13 v15 → ((qR v15) ∧ ∀ v18 : Int, v18 = (if v15 < 0 then 0 else 1) → qW g l (M_law nm hh) ca sa 1014 [some (vr sc), some (vr x), some (vr pg), some (vr mn), some (vr fa), some (vr of), some (vi nP), some (vi nB), some (vi aN), some (vi tn), none, some (vi w), none, none, none, none, none, some (vi v18), none, none] [] σ13 Post)) ∧ (∀ (σ9 : qS) (n9 : Nat), ¬ MidX10 σ9 n9))))))))) : qW g l (M_law nm hh) (ca + 200) (sa + 4000) 904 [some (vr sc), some (vr x), some (vr pg), some (vr mn), some (vr fa), some (vr of), some (vi nP), some (vi nB), some (vi aN), some (vi tn), some (vi v), some (vi w), some (vi wh), some (vi p), some (vi b), some (vi it), some (vi iu), some (vi 1), none, none] [] σ Post := by
  refine wp_aload_n dL_law_904 rfl ?_
  refine wp_iload dL_law_905 rfl ?_
  refine wp_aload_n dL_law_907 rfl ?_
  obtain ⟨hk2, h⟩ := h
  obtain ⟨v3, hm1, h⟩ := h
  refine wp_callV (M' := M_X7_pages) (As := []) (st := [vi w, vr x]) (ci := 7) dL_law_908 cee_X7_pages np_X7_pages rfl ⟨Nat.le_of_ble_eq_true rfl, Nat.le_of_ble_eq_true rfl, by show 0 ≤ (ca + 200); omega, by show 0 ≤ (sa + 4000); omega⟩ wd_720 wd_721 wd_722 rfl (Or.inl hk2) (q_small_of (Nat.le_of_ble_eq_true rfl)) hm1 (q_kPi ?_) q_kPi0
  refine wp_less (ac2 := (ca + 200)) (as2 := (sa + 4000)) (by show (ca + 200) ≤ (ca + 200) - 0; omega) (by show (sa + 4000) ≤ (sa + 4000) - 0; omega) ?_
  obtain ⟨v5, hm4, h⟩ := h
  refine wp_callS (M' := M_L_low) (As := [vi w, vi v3]) (st := [vr x]) dL_law_911 cee_L_low np_L_low rfl ⟨Nat.le_of_ble_eq_true rfl, Nat.le_of_ble_eq_true rfl, by show 0 ≤ (ca + 200); omega, by show 0 ≤ (sa + 4000); omega⟩ wd_786 wd_787 (q_small_of (Nat.le_of_ble_eq_true rfl)) hm4 (q_kPi ?_) q_kPi0
  refine wp_less (ac2 := (ca + 200)) (as2 := (sa + 4000)) (by show (ca + 200) ≤ (ca + 200) - 0; omega) (by show (sa + 4000) ≤ (sa + 4000) - 0; omega) ?_
  refine wp_iload dL_law_914 rfl ?_
  refine wp_iconst dL_law_916 ?_
  refine wp_ishr dL_law_917 ?_
  refine wp_iconst dL_law_918 ?_
  obtain ⟨v7, hm6, h⟩ := h
  refine wp_callS (M' := M_L_low) (As := [vi ((Int32.ofInt w >>> (Int32.ofInt 4 &&& 31)).toInt), vi 3]) (st := [vi v5, vr x]) dL_law_919 cee_L_low np_L_low rfl ⟨Nat.le_of_ble_eq_true rfl, Nat.le_of_ble_eq_true rfl, by show 0 ≤ (ca + 200); omega, by show 0 ≤ (sa + 4000); omega⟩ wd_786 wd_787 (q_small_of (Nat.le_of_ble_eq_true rfl)) hm6 (q_kPi ?_) q_kPi0
  refine wp_less (ac2 := (ca + 200)) (as2 := (sa + 4000)) (by show (ca + 200) ≤ (ca + 200) - 0; omega) (by show (sa + 4000) ≤ (sa + 4000) - 0; omega) ?_
  obtain ⟨Mid9, MidX10, hm8, hk11, hx12⟩ := h
  refine wp_callV (M' := M_X7_translate) (As := [vi v5, vi v7]) (st := []) (ci := 7) dL_law_922 cee_X7_translate np_X7_translate rfl ⟨Nat.le_of_ble_eq_true rfl, Nat.le_of_ble_eq_true rfl, by show 3 ≤ (ca + 200); omega, by show 18 ≤ (sa + 4000); omega⟩ wd_711 wd_712 wd_713 rfl (Or.inl hk2) (q_small_of (Nat.le_of_ble_eq_true rfl)) hm8 (q_kTi (fun σ13 v15 hM14 => ?_)) (fun σ9 n9 hq => absurd (q_xi hq) (hx12 σ9 n9))
  refine wp_less (ac2 := (ca + 197)) (as2 := (sa + 3982)) (by show (ca + 197) ≤ (ca + 200) - 3; omega) (by show (sa + 3982) ≤ (sa + 4000) - 18; omega) ?_
  have h := hk11 σ13 v15 hM14
  obtain ⟨h, hk21⟩ := h
  have key20 : ∀ v18 : Int, v18 = (if v15 < 0 then 0 else 1) → qW g l (M_law nm hh) (ca + 197) (sa + 3982) 967 [some (vr sc), some (vr x), some (vr pg), some (vr mn), some (vr fa), some (vr of), some (vi nP), some (vi nB), some (vi aN), some (vi tn), some (vi v), some (vi w), some (vi wh), some (vi p), some (vi b), some (vi it), some (vi iu), some (vi 1), none, none] [vi v18] σ13 Post := by
    intro v18 hv19
    have h := hk21 v18 hv19
    have hr22 : qR v18 := by (rw [hv19]; unfold qR; repeat' split) <;> omega
    have hz23 : v18 = 0 ∨ v18 = 1 := by (rw [hv19]; repeat' split) <;> first | exact Or.inl rfl | exact Or.inr rfl
    refine wp_istore' (ls' := [some (vr sc), some (vr x), some (vr pg), some (vr mn), some (vr fa), some (vr of), some (vi nP), some (vi nB), some (vi aN), some (vi tn), some (vi v), some (vi w), some (vi wh), some (vi p), some (vi b), some (vi it), some (vi iu), some (vi v18), none, none]) dL_law_967 (Nat.le_of_ble_eq_true rfl) rfl ?_
    refine wp_goto (tgt := 1014) dL_law_969 (by decide) ?_
    exact wp_less (ac2 := ca) (as2 := sa) (by omega) (by omega) (wp_lsub (ls' := [some (vr sc), some (vr x), some (vr pg), some (vr mn), some (vr fa), some (vr of), some (vi nP), some (vi nB), some (vi aN), some (vi tn), none, some (vi w), none, none, none, none, none, some (vi v18), none, none]) ⟨rfl, ⟨rfl, ⟨rfl, ⟨rfl, ⟨rfl, ⟨rfl, ⟨rfl, ⟨rfl, ⟨rfl, ⟨rfl, ⟨rfl, ⟨rfl, trivial⟩⟩⟩⟩⟩⟩⟩⟩⟩⟩⟩⟩ h)
  have hr24 := h
  refine wp_if_lt (tgt := 932) dL_law_925 (by decide) hr24 (fun c25 => ?_) (fun c25 => ?_)
  · refine wp_iconst dL_law_932 ?_
    refine wp_goto (tgt := 967) dL_law_933 (by decide) ?_
    exact key20 _ (by rw [if_pos c25])
  · refine wp_iconst dL_law_928 ?_
    refine wp_goto (tgt := 967) dL_law_929 (by decide) ?_
    exact key20 _ (by rw [if_neg c25])

set_option maxRecDepth 100000 in
set_option maxHeartbeats 4000000 in
theorem ls_gr (hl : l.stackTraces = false) {sc : Nat} {x : Nat} {pg : Nat} {mn : Nat} {fa : Nat} {of : Nat} {nP : Int} {nB : Int} {aN : Int} {tn : Int} {v : Int} {w : Int} {wh : Int} {p : Int} {b : Int} {it : Int} {iu : Int}
    (h : (∃ v2 : Int, qMet g l M_L_low [vi w, vi 3] σ (qPi σ v2) ∧ ((∃ v4 : Int, qMet g l M_L_low [vi ((Int32.ofInt w >>> (Int32.ofInt 4 &&& 31)).toInt), vi 201] σ (qPi σ v4) ∧ (gK σ x = 8 ∧ (∃ (Mid7 : qS → Int → Prop) (MidX8 : qS → Nat → Prop), qMet g l M_X7_setGrowth [vr x, vi v2, vi (50 + v4)] σ (qTi Mid7 MidX8) ∧ (∀ (σ11 : qS) (v13 : Int), Mid7 σ11 v13 → ((qR v13) ∧ ∀ v16 : Int, v16 = (if v13 < 0 then 0 else 1) → qW g l (M_law nm hh) ca sa 1014 [some (vr sc), some (vr x), some (vr pg), some (vr mn), some (vr fa), some (vr of), some (vi nP), some (vi nB), some (vi aN), some (vi tn), none, some (vi w), none, none, none, none, none, some (vi v16), none, none] [] σ11 Post)) ∧ (∀ (σ9 : qS) (n9 : Nat), ¬ MidX8 σ9 n9))))))) : qW g l (M_law nm hh) (ca + 200) (sa + 4000) 936 [some (vr sc), some (vr x), some (vr pg), some (vr mn), some (vr fa), some (vr of), some (vi nP), some (vi nB), some (vi aN), some (vi tn), some (vi v), some (vi w), some (vi wh), some (vi p), some (vi b), some (vi it), some (vi iu), some (vi 1), none, none] [] σ Post := by
  refine wp_aload_n dL_law_936 rfl ?_
  refine wp_iload dL_law_937 rfl ?_
  refine wp_iconst dL_law_939 ?_
  obtain ⟨v2, hm1, h⟩ := h
  refine wp_callS (M' := M_L_low) (As := [vi w, vi 3]) (st := [vr x]) dL_law_940 cee_L_low np_L_low rfl ⟨Nat.le_of_ble_eq_true rfl, Nat.le_of_ble_eq_true rfl, by show 0 ≤ (ca + 200); omega, by show 0 ≤ (sa + 4000); omega⟩ wd_786 wd_787 (q_small_of (Nat.le_of_ble_eq_true rfl)) hm1 (q_kPi ?_) q_kPi0
  refine wp_less (ac2 := (ca + 200)) (as2 := (sa + 4000)) (by show (ca + 200) ≤ (ca + 200) - 0; omega) (by show (sa + 4000) ≤ (sa + 4000) - 0; omega) ?_
  refine wp_bipush dL_law_943 (by decide) ?_
  refine wp_iload dL_law_945 rfl ?_
  refine wp_iconst dL_law_947 ?_
  refine wp_ishr dL_law_948 ?_
  refine wp_sipush dL_law_949 (by decide) ?_
  obtain ⟨v4, hm3, h⟩ := h
  refine wp_callS (M' := M_L_low) (As := [vi ((Int32.ofInt w >>> (Int32.ofInt 4 &&& 31)).toInt), vi 201]) (st := [vi 50, vi v2, vr x]) dL_law_952 cee_L_low np_L_low rfl ⟨Nat.le_of_ble_eq_true rfl, Nat.le_of_ble_eq_true rfl, by show 0 ≤ (ca + 200); omega, by show 0 ≤ (sa + 4000); omega⟩ wd_786 wd_787 (q_small_of (Nat.le_of_ble_eq_true rfl)) hm3 (q_kPi ?_) q_kPi0
  refine wp_less (ac2 := (ca + 200)) (as2 := (sa + 4000)) (by show (ca + 200) ≤ (ca + 200) - 0; omega) (by show (sa + 4000) ≤ (sa + 4000) - 0; omega) ?_
  refine wp_iadd dL_law_955 ?_
  obtain ⟨hk6, h⟩ := h
  obtain ⟨Mid7, MidX8, hm5, hk9, hx10⟩ := h
  refine wp_callV (M' := M_X7_setGrowth) (As := [vi v2, vi (50 + v4)]) (st := []) (ci := 7) dL_law_956 cee_X7_setGrowth np_X7_setGrowth rfl ⟨Nat.le_of_ble_eq_true rfl, Nat.le_of_ble_eq_true rfl, by show 3 ≤ (ca + 200); omega, by show 18 ≤ (sa + 4000); omega⟩ wd_715 wd_716 wd_717 rfl (Or.inl hk6) (q_small_of (Nat.le_of_ble_eq_true rfl)) hm5 (q_kTi (fun σ11 v13 hM12 => ?_)) (fun σ9 n9 hq => absurd (q_xi hq) (hx10 σ9 n9))
  refine wp_less (ac2 := (ca + 197)) (as2 := (sa + 3982)) (by show (ca + 197) ≤ (ca + 200) - 3; omega) (by show (sa + 3982) ≤ (sa + 4000) - 18; omega) ?_
  have h := hk9 σ11 v13 hM12
  obtain ⟨h, hk19⟩ := h
  have key18 : ∀ v16 : Int, v16 = (if v13 < 0 then 0 else 1) → qW g l (M_law nm hh) (ca + 197) (sa + 3982) 967 [some (vr sc), some (vr x), some (vr pg), some (vr mn), some (vr fa), some (vr of), some (vi nP), some (vi nB), some (vi aN), some (vi tn), some (vi v), some (vi w), some (vi wh), some (vi p), some (vi b), some (vi it), some (vi iu), some (vi 1), none, none] [vi v16] σ11 Post := by
    intro v16 hv17
    have h := hk19 v16 hv17
    have hr20 : qR v16 := by (rw [hv17]; unfold qR; repeat' split) <;> omega
    have hz21 : v16 = 0 ∨ v16 = 1 := by (rw [hv17]; repeat' split) <;> first | exact Or.inl rfl | exact Or.inr rfl
    refine wp_istore' (ls' := [some (vr sc), some (vr x), some (vr pg), some (vr mn), some (vr fa), some (vr of), some (vi nP), some (vi nB), some (vi aN), some (vi tn), some (vi v), some (vi w), some (vi wh), some (vi p), some (vi b), some (vi it), some (vi iu), some (vi v16), none, none]) dL_law_967 (Nat.le_of_ble_eq_true rfl) rfl ?_
    refine wp_goto (tgt := 1014) dL_law_969 (by decide) ?_
    exact wp_less (ac2 := ca) (as2 := sa) (by omega) (by omega) (wp_lsub (ls' := [some (vr sc), some (vr x), some (vr pg), some (vr mn), some (vr fa), some (vr of), some (vi nP), some (vi nB), some (vi aN), some (vi tn), none, some (vi w), none, none, none, none, none, some (vi v16), none, none]) ⟨rfl, ⟨rfl, ⟨rfl, ⟨rfl, ⟨rfl, ⟨rfl, ⟨rfl, ⟨rfl, ⟨rfl, ⟨rfl, ⟨rfl, ⟨rfl, trivial⟩⟩⟩⟩⟩⟩⟩⟩⟩⟩⟩⟩ h)
  have hr22 := h
  refine wp_if_lt (tgt := 966) dL_law_959 (by decide) hr22 (fun c23 => ?_) (fun c23 => ?_)
  · refine wp_iconst dL_law_966 ?_
    exact key18 _ (by rw [if_pos c23])
  · refine wp_iconst dL_law_962 ?_
    refine wp_goto (tgt := 967) dL_law_963 (by decide) ?_
    exact key18 _ (by rw [if_neg c23])

set_option maxRecDepth 100000 in
set_option maxHeartbeats 4000000 in
theorem ls_rd (hl : l.stackTraces = false) {sc : Nat} {x : Nat} {pg : Nat} {mn : Nat} {fa : Nat} {of : Nat} {nP : Int} {nB : Int} {aN : Int} {tn : Int} {v : Int} {w : Int} {wh : Int} {p : Int} {b : Int} {it : Int} {iu : Int}
    (h : gK σ x = 8 ∧ (∃ Mid3 : qS → Int → Prop, qMet g l M_X7_open [vr x] σ (qTi0 Mid3) ∧ ∀ (σ7 : qS) (v9 : Int), Mid3 σ7 v9 → gK σ7 x = 8 ∧ (∃ Mid12 : qS → Int → Prop, qMet g l M_X7_forth [vr x] σ7 (qTi0 Mid12) ∧ ∀ (σ16 : qS) (v18 : Int), Mid12 σ16 v18 → qR v18 ∧ ((((-1)) ≤ v18 → gK σ16 x = 8 ∧ (∃ Mid23 : qS → Int → Prop, qMet g l M_X7_back [vr x] σ16 (qTi0 Mid23) ∧ ∀ (σ27 : qS) (v29 : Int), Mid23 σ27 v29 → qR v29 ∧ ((((-1)) ≤ v29 → gK σ27 x = 8 ∧ (∃ v34 : Int, qMet g l M_X7_here [vr x] σ27 (qPi σ27 v34) ∧ (((qR v9 ∧ qR v34) ∧ ∀ v38 : Int, v38 = (if ¬ v9 = v34 then 0 else 1) → qW g l (M_law nm hh) ca sa 1014 [some (vr sc), some (vr x), some (vr pg), some (vr mn), some (vr fa), some (vr of), some (vi nP), some (vi nB), some (vi aN), some (vi tn), none, some (vi w), none, none, none, none, none, some (vi v38), none, none] [] σ27 Post)))) ∧ (¬ (((-1)) ≤ v29) → ((qR v9) ∧ ∀ v49 : Int, v49 = (if ¬ v9 = 0 then 0 else 1) → qW g l (M_law nm hh) ca sa 1014 [some (vr sc), some (vr x), some (vr pg), some (vr mn), some (vr fa), some (vr of), some (vi nP), some (vi nB), some (vi aN), some (vi tn), none, some (vi w), none, none, none, none, none, some (vi v49), none, none] [] σ27 Post))))) ∧ (¬ (((-1)) ≤ v18) → ((qR v9) ∧ ∀ v59 : Int, v59 = (if ¬ v9 = 0 then 0 else 1) → qW g l (M_law nm hh) ca sa 1014 [some (vr sc), some (vr x), some (vr pg), some (vr mn), some (vr fa), some (vr of), some (vi nP), some (vi nB), some (vi aN), some (vi tn), none, some (vi w), none, none, none, none, none, some (vi v59), none, none] [] σ16 Post)))))) : qW g l (M_law nm hh) (ca + 200) (sa + 4000) 972 [some (vr sc), some (vr x), some (vr pg), some (vr mn), some (vr fa), some (vr of), some (vi nP), some (vi nB), some (vi aN), some (vi tn), some (vi v), some (vi w), some (vi wh), some (vi p), some (vi b), some (vi it), some (vi iu), some (vi 1), none, none] [] σ Post := by
  refine wp_aload_n dL_law_972 rfl ?_
  obtain ⟨hk2, h⟩ := h
  obtain ⟨Mid3, hm1, hk5⟩ := h
  refine wp_callV (M' := M_X7_open) (As := []) (st := []) (ci := 7) dL_law_973 cee_X7_open np_X7_open rfl ⟨Nat.le_of_ble_eq_true rfl, Nat.le_of_ble_eq_true rfl, by show 0 ≤ (ca + 200); omega, by show 0 ≤ (sa + 4000); omega⟩ wd_752 wd_753 wd_754 rfl (Or.inl hk2) (q_small_of (Nat.le_of_ble_eq_true rfl)) hm1 (q_kTi0 (fun σ7 v9 hM8 => ?_)) q_kTi00
  refine wp_less (ac2 := (ca + 200)) (as2 := (sa + 4000)) (by show (ca + 200) ≤ (ca + 200) - 0; omega) (by show (sa + 4000) ≤ (sa + 4000) - 0; omega) ?_
  have h := hk5 σ7 v9 hM8
  refine wp_aload_n dL_law_976 rfl ?_
  obtain ⟨hk11, h⟩ := h
  obtain ⟨Mid12, hm10, hk14⟩ := h
  refine wp_callV (M' := M_X7_forth) (As := []) (st := [vi v9]) (ci := 7) dL_law_977 cee_X7_forth np_X7_forth rfl ⟨Nat.le_of_ble_eq_true rfl, Nat.le_of_ble_eq_true rfl, by show 0 ≤ (ca + 200); omega, by show 0 ≤ (sa + 4000); omega⟩ wd_763 wd_764 wd_765 rfl (Or.inl hk11) (q_small_of (Nat.le_of_ble_eq_true rfl)) hm10 (q_kTi0 (fun σ16 v18 hM17 => ?_)) q_kTi00
  refine wp_less (ac2 := (ca + 200)) (as2 := (sa + 4000)) (by show (ca + 200) ≤ (ca + 200) - 0; omega) (by show (sa + 4000) ≤ (sa + 4000) - 0; omega) ?_
  have h := hk14 σ16 v18 hM17
  refine wp_iconst dL_law_980 ?_
  obtain ⟨hr19, h⟩ := h
  refine wp_icmp_ge (tgt := 988) dL_law_981 (by decide) hr19 (by unfold qR; omega) (fun c20 => ?_) (fun c20 => ?_)
  · replace h := h.1 c20
    refine wp_aload_n dL_law_988 rfl ?_
    obtain ⟨hk22, h⟩ := h
    obtain ⟨Mid23, hm21, hk25⟩ := h
    refine wp_callV (M' := M_X7_back) (As := []) (st := [vi v9]) (ci := 7) dL_law_989 cee_X7_back np_X7_back rfl ⟨Nat.le_of_ble_eq_true rfl, Nat.le_of_ble_eq_true rfl, by show 0 ≤ (ca + 200); omega, by show 0 ≤ (sa + 4000); omega⟩ wd_771 wd_772 wd_773 rfl (Or.inl hk22) (q_small_of (Nat.le_of_ble_eq_true rfl)) hm21 (q_kTi0 (fun σ27 v29 hM28 => ?_)) q_kTi00
    refine wp_less (ac2 := (ca + 200)) (as2 := (sa + 4000)) (by show (ca + 200) ≤ (ca + 200) - 0; omega) (by show (sa + 4000) ≤ (sa + 4000) - 0; omega) ?_
    have h := hk25 σ27 v29 hM28
    refine wp_iconst dL_law_992 ?_
    obtain ⟨hr30, h⟩ := h
    refine wp_icmp_ge (tgt := 1000) dL_law_993 (by decide) hr30 (by unfold qR; omega) (fun c31 => ?_) (fun c31 => ?_)
    · replace h := h.1 c31
      refine wp_aload_n dL_law_1000 rfl ?_
      obtain ⟨hk33, h⟩ := h
      obtain ⟨v34, hm32, h⟩ := h
      refine wp_callV (M' := M_X7_here) (As := []) (st := [vi v9]) (ci := 7) dL_law_1001 cee_X7_here np_X7_here rfl ⟨Nat.le_of_ble_eq_true rfl, Nat.le_of_ble_eq_true rfl, by show 0 ≤ (ca + 200); omega, by show 0 ≤ (sa + 4000); omega⟩ wd_779 wd_780 wd_781 rfl (Or.inl hk33) (q_small_of (Nat.le_of_ble_eq_true rfl)) hm32 (q_kPi ?_) q_kPi0
      refine wp_less (ac2 := (ca + 200)) (as2 := (sa + 4000)) (by show (ca + 200) ≤ (ca + 200) - 0; omega) (by show (sa + 4000) ≤ (sa + 4000) - 0; omega) ?_
      obtain ⟨h, hk41⟩ := h
      have key40 : ∀ v38 : Int, v38 = (if ¬ v9 = v34 then 0 else 1) → qW g l (M_law nm hh) (ca + 200) (sa + 4000) 1012 [some (vr sc), some (vr x), some (vr pg), some (vr mn), some (vr fa), some (vr of), some (vi nP), some (vi nB), some (vi aN), some (vi tn), some (vi v), some (vi w), some (vi wh), some (vi p), some (vi b), some (vi it), some (vi iu), some (vi 1), none, none] [vi v38] σ27 Post := by
        intro v38 hv39
        have h := hk41 v38 hv39
        have hr42 : qR v38 := by (rw [hv39]; unfold qR; repeat' split) <;> omega
        have hz43 : v38 = 0 ∨ v38 = 1 := by (rw [hv39]; repeat' split) <;> first | exact Or.inl rfl | exact Or.inr rfl
        refine wp_istore' (ls' := [some (vr sc), some (vr x), some (vr pg), some (vr mn), some (vr fa), some (vr of), some (vi nP), some (vi nB), some (vi aN), some (vi tn), some (vi v), some (vi w), some (vi wh), some (vi p), some (vi b), some (vi it), some (vi iu), some (vi v38), none, none]) dL_law_1012 (Nat.le_of_ble_eq_true rfl) rfl ?_
        exact wp_less (ac2 := ca) (as2 := sa) (by omega) (by omega) (wp_lsub (ls' := [some (vr sc), some (vr x), some (vr pg), some (vr mn), some (vr fa), some (vr of), some (vi nP), some (vi nB), some (vi aN), some (vi tn), none, some (vi w), none, none, none, none, none, some (vi v38), none, none]) ⟨rfl, ⟨rfl, ⟨rfl, ⟨rfl, ⟨rfl, ⟨rfl, ⟨rfl, ⟨rfl, ⟨rfl, ⟨rfl, ⟨rfl, ⟨rfl, trivial⟩⟩⟩⟩⟩⟩⟩⟩⟩⟩⟩⟩ h)
      obtain ⟨hr44, hr45⟩ := h
      refine wp_icmp_ne (tgt := 1011) dL_law_1004 (by decide) hr44 hr45 (fun c46 => ?_) (fun c46 => ?_)
      · refine wp_iconst dL_law_1011 ?_
        exact key40 _ (by rw [if_pos c46])
      · refine wp_iconst dL_law_1007 ?_
        refine wp_goto (tgt := 1012) dL_law_1008 (by decide) ?_
        exact key40 _ (by rw [if_neg (fun z => z c46)])
    · replace h := h.2 c31
      refine wp_iconst dL_law_996 ?_
      refine wp_goto (tgt := 1004) dL_law_997 (by decide) ?_
      obtain ⟨h, hk52⟩ := h
      have key51 : ∀ v49 : Int, v49 = (if ¬ v9 = 0 then 0 else 1) → qW g l (M_law nm hh) (ca + 200) (sa + 4000) 1012 [some (vr sc), some (vr x), some (vr pg), some (vr mn), some (vr fa), some (vr of), some (vi nP), some (vi nB), some (vi aN), some (vi tn), some (vi v), some (vi w), some (vi wh), some (vi p), some (vi b), some (vi it), some (vi iu), some (vi 1), none, none] [vi v49] σ27 Post := by
        intro v49 hv50
        have h := hk52 v49 hv50
        have hr53 : qR v49 := by (rw [hv50]; unfold qR; repeat' split) <;> omega
        have hz54 : v49 = 0 ∨ v49 = 1 := by (rw [hv50]; repeat' split) <;> first | exact Or.inl rfl | exact Or.inr rfl
        refine wp_istore' (ls' := [some (vr sc), some (vr x), some (vr pg), some (vr mn), some (vr fa), some (vr of), some (vi nP), some (vi nB), some (vi aN), some (vi tn), some (vi v), some (vi w), some (vi wh), some (vi p), some (vi b), some (vi it), some (vi iu), some (vi v49), none, none]) dL_law_1012 (Nat.le_of_ble_eq_true rfl) rfl ?_
        exact wp_less (ac2 := ca) (as2 := sa) (by omega) (by omega) (wp_lsub (ls' := [some (vr sc), some (vr x), some (vr pg), some (vr mn), some (vr fa), some (vr of), some (vi nP), some (vi nB), some (vi aN), some (vi tn), none, some (vi w), none, none, none, none, none, some (vi v49), none, none]) ⟨rfl, ⟨rfl, ⟨rfl, ⟨rfl, ⟨rfl, ⟨rfl, ⟨rfl, ⟨rfl, ⟨rfl, ⟨rfl, ⟨rfl, ⟨rfl, trivial⟩⟩⟩⟩⟩⟩⟩⟩⟩⟩⟩⟩ h)
      have hr55 := h
      refine wp_icmp_ne (tgt := 1011) dL_law_1004 (by decide) hr55 (by unfold qR; omega) (fun c56 => ?_) (fun c56 => ?_)
      · refine wp_iconst dL_law_1011 ?_
        exact key51 _ (by rw [if_pos c56])
      · refine wp_iconst dL_law_1007 ?_
        refine wp_goto (tgt := 1012) dL_law_1008 (by decide) ?_
        exact key51 _ (by rw [if_neg (fun z => z c56)])
  · replace h := h.2 c20
    refine wp_iconst dL_law_984 ?_
    refine wp_goto (tgt := 1004) dL_law_985 (by decide) ?_
    obtain ⟨h, hk62⟩ := h
    have key61 : ∀ v59 : Int, v59 = (if ¬ v9 = 0 then 0 else 1) → qW g l (M_law nm hh) (ca + 200) (sa + 4000) 1012 [some (vr sc), some (vr x), some (vr pg), some (vr mn), some (vr fa), some (vr of), some (vi nP), some (vi nB), some (vi aN), some (vi tn), some (vi v), some (vi w), some (vi wh), some (vi p), some (vi b), some (vi it), some (vi iu), some (vi 1), none, none] [vi v59] σ16 Post := by
      intro v59 hv60
      have h := hk62 v59 hv60
      have hr63 : qR v59 := by (rw [hv60]; unfold qR; repeat' split) <;> omega
      have hz64 : v59 = 0 ∨ v59 = 1 := by (rw [hv60]; repeat' split) <;> first | exact Or.inl rfl | exact Or.inr rfl
      refine wp_istore' (ls' := [some (vr sc), some (vr x), some (vr pg), some (vr mn), some (vr fa), some (vr of), some (vi nP), some (vi nB), some (vi aN), some (vi tn), some (vi v), some (vi w), some (vi wh), some (vi p), some (vi b), some (vi it), some (vi iu), some (vi v59), none, none]) dL_law_1012 (Nat.le_of_ble_eq_true rfl) rfl ?_
      exact wp_less (ac2 := ca) (as2 := sa) (by omega) (by omega) (wp_lsub (ls' := [some (vr sc), some (vr x), some (vr pg), some (vr mn), some (vr fa), some (vr of), some (vi nP), some (vi nB), some (vi aN), some (vi tn), none, some (vi w), none, none, none, none, none, some (vi v59), none, none]) ⟨rfl, ⟨rfl, ⟨rfl, ⟨rfl, ⟨rfl, ⟨rfl, ⟨rfl, ⟨rfl, ⟨rfl, ⟨rfl, ⟨rfl, ⟨rfl, trivial⟩⟩⟩⟩⟩⟩⟩⟩⟩⟩⟩⟩ h)
    have hr65 := h
    refine wp_icmp_ne (tgt := 1011) dL_law_1004 (by decide) hr65 (by unfold qR; omega) (fun c66 => ?_) (fun c66 => ?_)
    · refine wp_iconst dL_law_1011 ?_
      exact key61 _ (by rw [if_pos c66])
    · refine wp_iconst dL_law_1007 ?_
      refine wp_goto (tgt := 1012) dL_law_1008 (by decide) ?_
      exact key61 _ (by rw [if_neg (fun z => z c66)])

set_option maxRecDepth 100000 in
set_option maxHeartbeats 4000000 in
theorem ls_up (hl : l.stackTraces = false) {sc : Nat} {x : Nat} {pg : Nat} {mn : Nat} {fa : Nat} {of : Nat} {nP : Int} {nB : Int} {aN : Int} {tn : Int} {w : Int}
    (h : ∃ Inv3 : Nat → Int → Int → Prop, (∃ n : Nat, n ≤ 100 ∧ Inv3 n 0 0) ∧ ∀ (n4 : Nat) (x1 : Int) (x2 : Int), Inv3 n4 x1 x2 → (qR x2 ∧ qR nB ∧ ((nB ≤ x2 → qW g l (M_law nm hh) ca sa 1051 [some (vr sc), some (vr x), some (vr pg), some (vr mn), some (vr fa), some (vr of), some (vi nP), some (vi nB), some (vi aN), some (vi tn), none, some (vi w), none, none, none, none, none, some (vi 1), some (vi x1), none] [] σ Post) ∧ (¬ (nB ≤ x2) → q_isA σ 0 of ∧ q_in σ of x2 ∧ ((qR (gA σ of x2)) ∧ ∀ v16 : Int, v16 = (if (gA σ of x2) < 0 then 0 else 1) → ∀ x22 : Int, x22 = x1 + v16 → ∀ x24 : Int, x24 = x2 + 1 → ∃ n26 : Nat, n26 < n4 ∧ Inv3 n26 x22 x24))))) : qW g l (M_law nm hh) ca sa 1014 [some (vr sc), some (vr x), some (vr pg), some (vr mn), some (vr fa), some (vr of), some (vi nP), some (vi nB), some (vi aN), some (vi tn), none, some (vi w), none, none, none, none, none, some (vi 1), none, none] [] σ Post := by
  refine wp_iconst dL_law_1014 ?_
  refine wp_istore' (ls' := [some (vr sc), some (vr x), some (vr pg), some (vr mn), some (vr fa), some (vr of), some (vi nP), some (vi nB), some (vi aN), some (vi tn), none, some (vi w), none, none, none, none, none, some (vi 1), some (vi 0), none]) dL_law_1015 (Nat.le_of_ble_eq_true rfl) rfl ?_
  refine wp_iconst dL_law_1017 ?_
  refine wp_istore' (ls' := [some (vr sc), some (vr x), some (vr pg), some (vr mn), some (vr fa), some (vr of), some (vi nP), some (vi nB), some (vi aN), some (vi tn), none, some (vi w), none, none, none, none, none, some (vi 1), some (vi 0), some (vi 0)]) dL_law_1018 (Nat.le_of_ble_eq_true rfl) rfl ?_
  obtain ⟨Inv3, ⟨n4_0, h08n, h08⟩, hb7⟩ := h
  have loop29 : ∀ (n4 : Nat) (x1 : Int) (x2 : Int), Inv3 n4 x1 x2 → qW g l (M_law nm hh) ca sa 1020 [some (vr sc), some (vr x), some (vr pg), some (vr mn), some (vr fa), some (vr of), some (vi nP), some (vi nB), some (vi aN), some (vi tn), none, some (vi w), none, none, none, none, none, some (vi 1), some (vi x1), some (vi x2)] [] σ Post := by
    intro n4
    induction n4 using Nat.strongRecOn with
    | ind n4 ih5 =>
      intro x1 x2 hI6
      have h := hb7 n4 x1 x2 hI6
      refine wp_iload dL_law_1020 rfl ?_
      refine wp_iload dL_law_1022 rfl ?_
      obtain ⟨hr9, hr10, h⟩ := h
      refine wp_icmp_ge (tgt := 1051) dL_law_1024 (by decide) hr9 hr10 (fun c11 => ?_) (fun c11 => ?_)
      · replace h := h.1 c11
        exact wp_less (ac2 := ca) (as2 := sa) (by omega) (by omega) (wp_lsub (ls' := [some (vr sc), some (vr x), some (vr pg), some (vr mn), some (vr fa), some (vr of), some (vi nP), some (vi nB), some (vi aN), some (vi tn), none, some (vi w), none, none, none, none, none, some (vi 1), some (vi x1), none]) ⟨rfl, ⟨rfl, ⟨rfl, ⟨rfl, ⟨rfl, ⟨rfl, ⟨rfl, ⟨rfl, ⟨rfl, ⟨rfl, ⟨rfl, ⟨rfl, ⟨rfl, trivial⟩⟩⟩⟩⟩⟩⟩⟩⟩⟩⟩⟩⟩ h)
      · replace h := h.2 c11
        refine wp_iload dL_law_1027 rfl ?_
        refine wp_aload dL_law_1029 rfl ?_
        refine wp_iload dL_law_1031 rfl ?_
        obtain ⟨ha12, hi13, h⟩ := h
        refine wp_iaload dL_law_1033 ha12 hi13 ?_
        obtain ⟨h, hk19⟩ := h
        have key18 : ∀ v16 : Int, v16 = (if (gA σ of x2) < 0 then 0 else 1) → qW g l (M_law nm hh) ca sa 1042 [some (vr sc), some (vr x), some (vr pg), some (vr mn), some (vr fa), some (vr of), some (vi nP), some (vi nB), some (vi aN), some (vi tn), none, some (vi w), none, none, none, none, none, some (vi 1), some (vi x1), some (vi x2)] [vi v16, vi x1] σ Post := by
          intro v16 hv17
          have h := hk19 v16 hv17
          have hr20 : qR v16 := by (rw [hv17]; unfold qR; repeat' split) <;> omega
          have hz21 : v16 = 0 ∨ v16 = 1 := by (rw [hv17]; repeat' split) <;> first | exact Or.inl rfl | exact Or.inr rfl
          refine wp_iadd dL_law_1042 ?_
          refine wp_nmI (fun x22 hx23 => ?_)
          replace h := h x22 hx23
          refine wp_istore' (ls' := [some (vr sc), some (vr x), some (vr pg), some (vr mn), some (vr fa), some (vr of), some (vi nP), some (vi nB), some (vi aN), some (vi tn), none, some (vi w), none, none, none, none, none, some (vi 1), some (vi x22), some (vi x2)]) dL_law_1043 (Nat.le_of_ble_eq_true rfl) rfl ?_
          refine wp_nmT (x2 + 1) (fun x24 hx25 => ?_)
          replace h := h x24 hx25
          refine wp_iinc' (z' := x24) (ls' := [some (vr sc), some (vr x), some (vr pg), some (vr mn), some (vr fa), some (vr of), some (vi nP), some (vi nB), some (vi aN), some (vi tn), none, some (vi w), none, none, none, none, none, some (vi 1), some (vi x22), some (vi x24)]) dL_law_1045 (Nat.le_of_ble_eq_true rfl) rfl hx25 rfl ?_
          refine wp_goto (tgt := 1020) dL_law_1048 (by decide) ?_
          obtain ⟨n26, hlt, h⟩ := h
          exact wp_less (ac2 := ca) (as2 := sa) (by omega) (by omega) (wp_lsub (ls' := [some (vr sc), some (vr x), some (vr pg), some (vr mn), some (vr fa), some (vr of), some (vi nP), some (vi nB), some (vi aN), some (vi tn), none, some (vi w), none, none, none, none, none, some (vi 1), some (vi x22), some (vi x24)]) ⟨rfl, ⟨rfl, ⟨rfl, ⟨rfl, ⟨rfl, ⟨rfl, ⟨rfl, ⟨rfl, ⟨rfl, ⟨rfl, ⟨rfl, ⟨rfl, ⟨rfl, ⟨rfl, trivial⟩⟩⟩⟩⟩⟩⟩⟩⟩⟩⟩⟩⟩⟩ (ih5 n26 hlt _ _ h))
        have hr27 := h
        refine wp_if_lt (tgt := 1041) dL_law_1034 (by decide) hr27 (fun c28 => ?_) (fun c28 => ?_)
        · refine wp_iconst dL_law_1041 ?_
          exact key18 _ (by rw [if_pos c28])
        · refine wp_iconst dL_law_1037 ?_
          refine wp_goto (tgt := 1042) dL_law_1038 (by decide) ?_
          exact key18 _ (by rw [if_neg c28])
  exact wp_less (ac2 := ca) (as2 := sa) (by omega) (by omega) (wp_lsub (ls' := [some (vr sc), some (vr x), some (vr pg), some (vr mn), some (vr fa), some (vr of), some (vi nP), some (vi nB), some (vi aN), some (vi tn), none, some (vi w), none, none, none, none, none, some (vi 1), some (vi 0), some (vi 0)]) ⟨rfl, ⟨rfl, ⟨rfl, ⟨rfl, ⟨rfl, ⟨rfl, ⟨rfl, ⟨rfl, ⟨rfl, ⟨rfl, ⟨rfl, ⟨rfl, ⟨rfl, ⟨rfl, trivial⟩⟩⟩⟩⟩⟩⟩⟩⟩⟩⟩⟩⟩⟩ (loop29 _ _ _ h08))

set_option maxRecDepth 100000 in
set_option maxHeartbeats 4000000 in
theorem ls_t2 (hl : l.stackTraces = false) {sc : Nat} {x : Nat} {pg : Nat} {mn : Nat} {fa : Nat} {of : Nat} {nP : Int} {nB : Int} {aN : Int} {tn : Int} {w : Int} {up : Int}
    (h : qR nB ∧ ((¬ nB = 0 → (∃ v4 : Int, qMet g l M_L_low [vi ((Int32.ofInt w >>> (Int32.ofInt 5 &&& 31)).toInt), vi nB] σ (qPi σ v4) ∧ (qW g l (M_law nm hh) ca sa 1069 [some (vr sc), some (vr x), some (vr pg), some (vr mn), some (vr fa), some (vr of), some (vi nP), some (vi nB), some (vi aN), some (vi tn), none, some (vi w), none, none, none, none, none, some (vi 1), some (vi up), none] [vi v4] σ Post))) ∧ (nB = 0 → qW g l (M_law nm hh) ca sa 1069 [some (vr sc), some (vr x), some (vr pg), some (vr mn), some (vr fa), some (vr of), some (vi nP), some (vi nB), some (vi aN), some (vi tn), none, some (vi w), none, none, none, none, none, some (vi 1), some (vi up), none] [vi 0] σ Post))) : qW g l (M_law nm hh) ca sa 1051 [some (vr sc), some (vr x), some (vr pg), some (vr mn), some (vr fa), some (vr of), some (vi nP), some (vi nB), some (vi aN), some (vi tn), none, some (vi w), none, none, none, none, none, some (vi 1), some (vi up), none] [] σ Post := by
  refine wp_iload dL_law_1051 rfl ?_
  obtain ⟨hr1, h⟩ := h
  refine wp_if_ne (tgt := 1060) dL_law_1053 (by decide) hr1 (fun c2 => ?_) (fun c2 => ?_)
  · replace h := h.1 c2
    refine wp_iload dL_law_1060 rfl ?_
    refine wp_iconst dL_law_1062 ?_
    refine wp_ishr dL_law_1063 ?_
    refine wp_iload dL_law_1064 rfl ?_
    obtain ⟨v4, hm3, h⟩ := h
    refine wp_callS (M' := M_L_low) (As := [vi ((Int32.ofInt w >>> (Int32.ofInt 5 &&& 31)).toInt), vi nB]) (st := []) dL_law_1066 cee_L_low np_L_low rfl ⟨Nat.le_of_ble_eq_true rfl, Nat.le_of_ble_eq_true rfl, by show 0 ≤ ca; omega, by show 0 ≤ sa; omega⟩ wd_786 wd_787 (q_small_of (Nat.le_of_ble_eq_true rfl)) hm3 (q_kPi ?_) q_kPi0
    refine wp_less (ac2 := ca) (as2 := sa) (by show ca ≤ ca - 0; omega) (by show sa ≤ sa - 0; omega) ?_
    exact wp_less (ac2 := ca) (as2 := sa) (by omega) (by omega) (wp_lsub (ls' := [some (vr sc), some (vr x), some (vr pg), some (vr mn), some (vr fa), some (vr of), some (vi nP), some (vi nB), some (vi aN), some (vi tn), none, some (vi w), none, none, none, none, none, some (vi 1), some (vi up), none]) ⟨rfl, ⟨rfl, ⟨rfl, ⟨rfl, ⟨rfl, ⟨rfl, ⟨rfl, ⟨rfl, ⟨rfl, ⟨rfl, ⟨rfl, ⟨rfl, ⟨rfl, trivial⟩⟩⟩⟩⟩⟩⟩⟩⟩⟩⟩⟩⟩ h)
  · replace h := h.2 c2
    refine wp_iconst dL_law_1056 ?_
    refine wp_goto (tgt := 1069) dL_law_1057 (by decide) ?_
    exact wp_less (ac2 := ca) (as2 := sa) (by omega) (by omega) (wp_lsub (ls' := [some (vr sc), some (vr x), some (vr pg), some (vr mn), some (vr fa), some (vr of), some (vi nP), some (vi nB), some (vi aN), some (vi tn), none, some (vi w), none, none, none, none, none, some (vi 1), some (vi up), none]) ⟨rfl, ⟨rfl, ⟨rfl, ⟨rfl, ⟨rfl, ⟨rfl, ⟨rfl, ⟨rfl, ⟨rfl, ⟨rfl, ⟨rfl, ⟨rfl, ⟨rfl, trivial⟩⟩⟩⟩⟩⟩⟩⟩⟩⟩⟩⟩⟩ h)

set_option maxRecDepth 100000 in
set_option maxHeartbeats 4000000 in
theorem ls_t3 (hl : l.stackTraces = false) {sc : Nat} {x : Nat} {pg : Nat} {mn : Nat} {fa : Nat} {of : Nat} {nP : Int} {nB : Int} {aN : Int} {tn : Int} {w : Int} {up : Int} {b : Int}
    (h : gK σ x = 8 ∧ (∃ v3 : Int, qMet g l M_X7_balloons [vr x] σ (qPi σ v3) ∧ (qR v3 ∧ qR up ∧ ((¬ v3 = up → Post σ (.inl (some (vi 0)))) ∧ (v3 = up → (∃ v8 : Int, qMet g l M_X7_pages [vr x] σ (qPi σ v8) ∧ (qR v8 ∧ ((v8 = 0 → qR nB ∧ ((nB ≤ 0 → qW g l (M_law nm hh) ca sa 1151 [some (vr sc), some (vr x), some (vr pg), some (vr mn), some (vr fa), some (vr of), some (vi nP), some (vi nB), some (vi aN), some (vi tn), none, none, none, none, none, none, none, none, none, none] [] σ Post) ∧ (¬ (nB ≤ 0) → q_isA σ 0 of ∧ q_in σ of b ∧ qR (gA σ of b) ∧ (((gA σ of b) < 0 → qW g l (M_law nm hh) ca sa 1151 [some (vr sc), some (vr x), some (vr pg), some (vr mn), some (vr fa), some (vr of), some (vi nP), some (vi nB), some (vi aN), some (vi tn), none, none, none, none, none, none, none, none, none, none] [] σ Post) ∧ (¬ ((gA σ of b) < 0) → (∃ (Mid18 : qS → Int → Prop) (MidX19 : qS → Nat → Prop), qMet g l M_L_isBalloon [vr x, vi b, vi (gA σ of b)] σ (qTi Mid18 MidX19) ∧ (∀ (σ22 : qS) (v24 : Int), Mid18 σ22 v24 → qR v24 ∧ ((¬ v24 = 0 → qW g l (M_law nm hh) ca sa 1151 [some (vr sc), some (vr x), some (vr pg), some (vr mn), some (vr fa), some (vr of), some (vi nP), some (vi nB), some (vi aN), some (vi tn), none, none, none, none, none, none, none, none, none, none] [] σ22 Post) ∧ (v24 = 0 → Post σ22 (.inl (some (vi 0)))))) ∧ (∀ (σ9 : qS) (n9 : Nat), ¬ MidX19 σ9 n9))))))) ∧ (¬ (v8 = 0) → (∃ v28 : Int, qMet g l M_X7_pages [vr x] σ (qPi σ v28) ∧ ((∃ v30 : Int, qMet g l M_L_low [vi ((Int32.ofInt w >>> (Int32.ofInt 4 &&& 31)).toInt), vi v28] σ (qPi σ v30) ∧ ((∃ (Mid32 : qS → Int → Prop) (MidX33 : qS → Nat → Prop), qMet g l M_L_isPage [vr x, vi v30] σ (qTi Mid32 MidX33) ∧ (∀ (σ36 : qS) (v38 : Int), Mid32 σ36 v38 → ((qR v38) ∧ ∀ v41 : Int, v41 = (if v38 = 0 then 0 else 1) → ((v41 = 0 → Post σ36 (.inl (some (vi 0)))) ∧ (¬ (v41 = 0) → qR nB ∧ ((nB ≤ 0 → qW g l (M_law nm hh) ca sa 1151 [some (vr sc), some (vr x), some (vr pg), some (vr mn), some (vr fa), some (vr of), some (vi nP), some (vi nB), some (vi aN), some (vi tn), none, none, none, none, none, none, none, none, none, none] [] σ36 Post) ∧ (¬ (nB ≤ 0) → q_isA σ36 0 of ∧ q_in σ36 of b ∧ qR (gA σ36 of b) ∧ (((gA σ36 of b) < 0 → qW g l (M_law nm hh) ca sa 1151 [some (vr sc), some (vr x), some (vr pg), some (vr mn), some (vr fa), some (vr of), some (vi nP), some (vi nB), some (vi aN), some (vi tn), none, none, none, none, none, none, none, none, none, none] [] σ36 Post) ∧ (¬ ((gA σ36 of b) < 0) → (∃ (Mid55 : qS → Int → Prop) (MidX56 : qS → Nat → Prop), qMet g l M_L_isBalloon [vr x, vi b, vi (gA σ36 of b)] σ36 (qTi Mid55 MidX56) ∧ (∀ (σ59 : qS) (v61 : Int), Mid55 σ59 v61 → qR v61 ∧ ((¬ v61 = 0 → qW g l (M_law nm hh) ca sa 1151 [some (vr sc), some (vr x), some (vr pg), some (vr mn), some (vr fa), some (vr of), some (vi nP), some (vi nB), some (vi aN), some (vi tn), none, none, none, none, none, none, none, none, none, none] [] σ59 Post) ∧ (v61 = 0 → Post σ59 (.inl (some (vi 0)))))) ∧ (∀ (σ9 : qS) (n9 : Nat), ¬ MidX56 σ9 n9)))))))))) ∧ (∀ (σ9 : qS) (n9 : Nat), ¬ MidX33 σ9 n9))))))))))))))) : qW g l (M_law nm hh) (ca + 2100) (sa + 12200) 1069 [some (vr sc), some (vr x), some (vr pg), some (vr mn), some (vr fa), some (vr of), some (vi nP), some (vi nB), some (vi aN), some (vi tn), none, some (vi w), none, none, none, none, none, some (vi 1), some (vi up), none] [vi b] σ Post := by
  refine wp_istore' (ls' := [some (vr sc), some (vr x), some (vr pg), some (vr mn), some (vr fa), some (vr of), some (vi nP), some (vi nB), some (vi aN), some (vi tn), none, some (vi w), none, none, some (vi b), none, none, some (vi 1), some (vi up), none]) dL_law_1069 (Nat.le_of_ble_eq_true rfl) rfl ?_
  refine wp_iload dL_law_1071 rfl ?_
  refine wp_if_eq (tgt := 1114) dL_law_1073 (by decide) (by unfold qR; omega) (fun c9 => absurd c9 (by decide)) (fun _ => ?_)
  refine wp_aload_n dL_law_1076 rfl ?_
  obtain ⟨hk2, h⟩ := h
  obtain ⟨v3, hm1, h⟩ := h
  refine wp_callV (M' := M_X7_balloons) (As := []) (st := []) (ci := 7) dL_law_1077 cee_X7_balloons np_X7_balloons rfl ⟨Nat.le_of_ble_eq_true rfl, Nat.le_of_ble_eq_true rfl, by show 0 ≤ (ca + 2100); omega, by show 0 ≤ (sa + 12200); omega⟩ wd_736 wd_737 wd_738 rfl (Or.inl hk2) (q_small_of (Nat.le_of_ble_eq_true rfl)) hm1 (q_kPi ?_) q_kPi0
  refine wp_less (ac2 := (ca + 2100)) (as2 := (sa + 12200)) (by show (ca + 2100) ≤ (ca + 2100) - 0; omega) (by show (sa + 12200) ≤ (sa + 12200) - 0; omega) ?_
  refine wp_iload dL_law_1080 rfl ?_
  obtain ⟨hr4, hr5, h⟩ := h
  refine wp_icmp_ne (tgt := 1114) dL_law_1082 (by decide) hr4 hr5 (fun c6 => ?_) (fun c6 => ?_)
  · replace h := h.1 c6
    refine wp_iconst dL_law_1114 ?_
    refine wp_istore' (ls' := [some (vr sc), some (vr x), some (vr pg), some (vr mn), some (vr fa), some (vr of), some (vi nP), some (vi nB), some (vi aN), some (vi tn), none, some (vi w), none, none, some (vi b), none, none, some (vi 0), some (vi up), none]) dL_law_1115 (Nat.le_of_ble_eq_true rfl) rfl ?_
    refine wp_iload dL_law_1117 rfl ?_
    refine wp_if_eq (tgt := 1149) dL_law_1119 (by decide) (by unfold qR; omega) (fun _ => ?_) (fun c9 => absurd (by decide) c9)
    refine wp_iconst dL_law_1149 ?_
    exact wp_ret_z dL_law_1150 rfl (Or.inl rfl) h
  · replace h := h.2 c6
    refine wp_aload_n dL_law_1085 rfl ?_
    obtain ⟨v8, hm7, h⟩ := h
    refine wp_callV (M' := M_X7_pages) (As := []) (st := []) (ci := 7) dL_law_1086 cee_X7_pages np_X7_pages rfl ⟨Nat.le_of_ble_eq_true rfl, Nat.le_of_ble_eq_true rfl, by show 0 ≤ (ca + 2100); omega, by show 0 ≤ (sa + 12200); omega⟩ wd_720 wd_721 wd_722 rfl (Or.inl hk2) (q_small_of (Nat.le_of_ble_eq_true rfl)) hm7 (q_kPi ?_) q_kPi0
    refine wp_less (ac2 := (ca + 2100)) (as2 := (sa + 12200)) (by show (ca + 2100) ≤ (ca + 2100) - 0; omega) (by show (sa + 12200) ≤ (sa + 12200) - 0; omega) ?_
    obtain ⟨hr9, h⟩ := h
    refine wp_if_eq (tgt := 1110) dL_law_1089 (by decide) hr9 (fun c10 => ?_) (fun c10 => ?_)
    · replace h := h.1 c10
      refine wp_iconst dL_law_1110 ?_
      refine wp_goto (tgt := 1115) dL_law_1111 (by decide) ?_
      refine wp_istore' (ls' := [some (vr sc), some (vr x), some (vr pg), some (vr mn), some (vr fa), some (vr of), some (vi nP), some (vi nB), some (vi aN), some (vi tn), none, some (vi w), none, none, some (vi b), none, none, some (vi 1), some (vi up), none]) dL_law_1115 (Nat.le_of_ble_eq_true rfl) rfl ?_
      refine wp_iload dL_law_1117 rfl ?_
      refine wp_if_eq (tgt := 1149) dL_law_1119 (by decide) (by unfold qR; omega) (fun c9 => absurd c9 (by decide)) (fun _ => ?_)
      refine wp_iload dL_law_1122 rfl ?_
      obtain ⟨hr11, h⟩ := h
      refine wp_if_le (tgt := 1151) dL_law_1124 (by decide) hr11 (fun c12 => ?_) (fun c12 => ?_)
      · replace h := h.1 c12
        exact wp_less (ac2 := ca) (as2 := sa) (by omega) (by omega) (wp_lsub (ls' := [some (vr sc), some (vr x), some (vr pg), some (vr mn), some (vr fa), some (vr of), some (vi nP), some (vi nB), some (vi aN), some (vi tn), none, none, none, none, none, none, none, none, none, none]) ⟨rfl, ⟨rfl, ⟨rfl, ⟨rfl, ⟨rfl, ⟨rfl, ⟨rfl, ⟨rfl, ⟨rfl, ⟨rfl, trivial⟩⟩⟩⟩⟩⟩⟩⟩⟩⟩ h)
      · replace h := h.2 c12
        refine wp_aload dL_law_1127 rfl ?_
        refine wp_iload dL_law_1129 rfl ?_
        obtain ⟨ha13, hi14, h⟩ := h
        refine wp_iaload dL_law_1131 ha13 hi14 ?_
        obtain ⟨hr15, h⟩ := h
        refine wp_if_lt (tgt := 1151) dL_law_1132 (by decide) hr15 (fun c16 => ?_) (fun c16 => ?_)
        · replace h := h.1 c16
          exact wp_less (ac2 := ca) (as2 := sa) (by omega) (by omega) (wp_lsub (ls' := [some (vr sc), some (vr x), some (vr pg), some (vr mn), some (vr fa), some (vr of), some (vi nP), some (vi nB), some (vi aN), some (vi tn), none, none, none, none, none, none, none, none, none, none]) ⟨rfl, ⟨rfl, ⟨rfl, ⟨rfl, ⟨rfl, ⟨rfl, ⟨rfl, ⟨rfl, ⟨rfl, ⟨rfl, trivial⟩⟩⟩⟩⟩⟩⟩⟩⟩⟩ h)
        · replace h := h.2 c16
          refine wp_aload_n dL_law_1135 rfl ?_
          refine wp_iload dL_law_1136 rfl ?_
          refine wp_aload dL_law_1138 rfl ?_
          refine wp_iload dL_law_1140 rfl ?_
          refine wp_iaload dL_law_1142 ha13 hi14 ?_
          obtain ⟨Mid18, MidX19, hm17, hk20, hx21⟩ := h
          refine wp_callS (M' := M_L_isBalloon) (As := [vr x, vi b, vi (gA σ of b)]) (st := []) dL_law_1143 cee_L_isBalloon np_L_isBalloon rfl ⟨Nat.le_of_ble_eq_true rfl, Nat.le_of_ble_eq_true rfl, by show 27 ≤ (ca + 2100); omega, by show 162 ≤ (sa + 12200); omega⟩ wd_801 wd_802 (q_small_of (Nat.le_of_ble_eq_true rfl)) hm17 (q_kTi (fun σ22 v24 hM23 => ?_)) (fun σ9 n9 hq => absurd (q_xi hq) (hx21 σ9 n9))
          refine wp_less (ac2 := (ca + 2073)) (as2 := (sa + 12038)) (by show (ca + 2073) ≤ (ca + 2100) - 27; omega) (by show (sa + 12038) ≤ (sa + 12200) - 162; omega) ?_
          have h := hk20 σ22 v24 hM23
          obtain ⟨hr25, h⟩ := h
          refine wp_if_ne (tgt := 1151) dL_law_1146 (by decide) hr25 (fun c26 => ?_) (fun c26 => ?_)
          · replace h := h.1 c26
            exact wp_less (ac2 := ca) (as2 := sa) (by omega) (by omega) (wp_lsub (ls' := [some (vr sc), some (vr x), some (vr pg), some (vr mn), some (vr fa), some (vr of), some (vi nP), some (vi nB), some (vi aN), some (vi tn), none, none, none, none, none, none, none, none, none, none]) ⟨rfl, ⟨rfl, ⟨rfl, ⟨rfl, ⟨rfl, ⟨rfl, ⟨rfl, ⟨rfl, ⟨rfl, ⟨rfl, trivial⟩⟩⟩⟩⟩⟩⟩⟩⟩⟩ h)
          · replace h := h.2 c26
            refine wp_iconst dL_law_1149 ?_
            exact wp_ret_z dL_law_1150 rfl (Or.inl rfl) h
    · replace h := h.2 c10
      refine wp_aload_n dL_law_1092 rfl ?_
      refine wp_iload dL_law_1093 rfl ?_
      refine wp_iconst dL_law_1095 ?_
      refine wp_ishr dL_law_1096 ?_
      refine wp_aload_n dL_law_1097 rfl ?_
      obtain ⟨v28, hm27, h⟩ := h
      refine wp_callV (M' := M_X7_pages) (As := []) (st := [vi ((Int32.ofInt w >>> (Int32.ofInt 4 &&& 31)).toInt), vr x]) (ci := 7) dL_law_1098 cee_X7_pages np_X7_pages rfl ⟨Nat.le_of_ble_eq_true rfl, Nat.le_of_ble_eq_true rfl, by show 0 ≤ (ca + 2100); omega, by show 0 ≤ (sa + 12200); omega⟩ wd_720 wd_721 wd_722 rfl (Or.inl hk2) (q_small_of (Nat.le_of_ble_eq_true rfl)) hm27 (q_kPi ?_) q_kPi0
      refine wp_less (ac2 := (ca + 2100)) (as2 := (sa + 12200)) (by show (ca + 2100) ≤ (ca + 2100) - 0; omega) (by show (sa + 12200) ≤ (sa + 12200) - 0; omega) ?_
      obtain ⟨v30, hm29, h⟩ := h
      refine wp_callS (M' := M_L_low) (As := [vi ((Int32.ofInt w >>> (Int32.ofInt 4 &&& 31)).toInt), vi v28]) (st := [vr x]) dL_law_1101 cee_L_low np_L_low rfl ⟨Nat.le_of_ble_eq_true rfl, Nat.le_of_ble_eq_true rfl, by show 0 ≤ (ca + 2100); omega, by show 0 ≤ (sa + 12200); omega⟩ wd_786 wd_787 (q_small_of (Nat.le_of_ble_eq_true rfl)) hm29 (q_kPi ?_) q_kPi0
      refine wp_less (ac2 := (ca + 2100)) (as2 := (sa + 12200)) (by show (ca + 2100) ≤ (ca + 2100) - 0; omega) (by show (sa + 12200) ≤ (sa + 12200) - 0; omega) ?_
      obtain ⟨Mid32, MidX33, hm31, hk34, hx35⟩ := h
      refine wp_callS (M' := M_L_isPage) (As := [vr x, vi v30]) (st := []) dL_law_1104 cee_L_isPage np_L_isPage rfl ⟨Nat.le_of_ble_eq_true rfl, Nat.le_of_ble_eq_true rfl, by show 2000 ≤ (ca + 2100); omega, by show 11900 ≤ (sa + 12200); omega⟩ wd_790 wd_791 (q_small_of (Nat.le_of_ble_eq_true rfl)) hm31 (q_kTi (fun σ36 v38 hM37 => ?_)) (fun σ9 n9 hq => absurd (q_xi hq) (hx35 σ9 n9))
      refine wp_less (ac2 := (ca + 100)) (as2 := (sa + 300)) (by show (ca + 100) ≤ (ca + 2100) - 2000; omega) (by show (sa + 300) ≤ (sa + 12200) - 11900; omega) ?_
      have h := hk34 σ36 v38 hM37
      obtain ⟨h, hk44⟩ := h
      have key43 : ∀ v41 : Int, v41 = (if v38 = 0 then 0 else 1) → qW g l (M_law nm hh) (ca + 100) (sa + 300) 1115 [some (vr sc), some (vr x), some (vr pg), some (vr mn), some (vr fa), some (vr of), some (vi nP), some (vi nB), some (vi aN), some (vi tn), none, some (vi w), none, none, some (vi b), none, none, some (vi 1), some (vi up), none] [vi v41] σ36 Post := by
        intro v41 hv42
        have h := hk44 v41 hv42
        have hr45 : qR v41 := by (rw [hv42]; unfold qR; repeat' split) <;> omega
        have hz46 : v41 = 0 ∨ v41 = 1 := by (rw [hv42]; repeat' split) <;> first | exact Or.inl rfl | exact Or.inr rfl
        refine wp_istore' (ls' := [some (vr sc), some (vr x), some (vr pg), some (vr mn), some (vr fa), some (vr of), some (vi nP), some (vi nB), some (vi aN), some (vi tn), none, some (vi w), none, none, some (vi b), none, none, some (vi v41), some (vi up), none]) dL_law_1115 (Nat.le_of_ble_eq_true rfl) rfl ?_
        refine wp_iload dL_law_1117 rfl ?_
        refine wp_if_eq (tgt := 1149) dL_law_1119 (by decide) hr45 (fun c47 => ?_) (fun c47 => ?_)
        · replace h := h.1 c47
          refine wp_iconst dL_law_1149 ?_
          exact wp_ret_z dL_law_1150 rfl (Or.inl rfl) h
        · replace h := h.2 c47
          refine wp_iload dL_law_1122 rfl ?_
          obtain ⟨hr48, h⟩ := h
          refine wp_if_le (tgt := 1151) dL_law_1124 (by decide) hr48 (fun c49 => ?_) (fun c49 => ?_)
          · replace h := h.1 c49
            exact wp_less (ac2 := ca) (as2 := sa) (by omega) (by omega) (wp_lsub (ls' := [some (vr sc), some (vr x), some (vr pg), some (vr mn), some (vr fa), some (vr of), some (vi nP), some (vi nB), some (vi aN), some (vi tn), none, none, none, none, none, none, none, none, none, none]) ⟨rfl, ⟨rfl, ⟨rfl, ⟨rfl, ⟨rfl, ⟨rfl, ⟨rfl, ⟨rfl, ⟨rfl, ⟨rfl, trivial⟩⟩⟩⟩⟩⟩⟩⟩⟩⟩ h)
          · replace h := h.2 c49
            refine wp_aload dL_law_1127 rfl ?_
            refine wp_iload dL_law_1129 rfl ?_
            obtain ⟨ha50, hi51, h⟩ := h
            refine wp_iaload dL_law_1131 ha50 hi51 ?_
            obtain ⟨hr52, h⟩ := h
            refine wp_if_lt (tgt := 1151) dL_law_1132 (by decide) hr52 (fun c53 => ?_) (fun c53 => ?_)
            · replace h := h.1 c53
              exact wp_less (ac2 := ca) (as2 := sa) (by omega) (by omega) (wp_lsub (ls' := [some (vr sc), some (vr x), some (vr pg), some (vr mn), some (vr fa), some (vr of), some (vi nP), some (vi nB), some (vi aN), some (vi tn), none, none, none, none, none, none, none, none, none, none]) ⟨rfl, ⟨rfl, ⟨rfl, ⟨rfl, ⟨rfl, ⟨rfl, ⟨rfl, ⟨rfl, ⟨rfl, ⟨rfl, trivial⟩⟩⟩⟩⟩⟩⟩⟩⟩⟩ h)
            · replace h := h.2 c53
              refine wp_aload_n dL_law_1135 rfl ?_
              refine wp_iload dL_law_1136 rfl ?_
              refine wp_aload dL_law_1138 rfl ?_
              refine wp_iload dL_law_1140 rfl ?_
              refine wp_iaload dL_law_1142 ha50 hi51 ?_
              obtain ⟨Mid55, MidX56, hm54, hk57, hx58⟩ := h
              refine wp_callS (M' := M_L_isBalloon) (As := [vr x, vi b, vi (gA σ36 of b)]) (st := []) dL_law_1143 cee_L_isBalloon np_L_isBalloon rfl ⟨Nat.le_of_ble_eq_true rfl, Nat.le_of_ble_eq_true rfl, by show 27 ≤ (ca + 100); omega, by show 162 ≤ (sa + 300); omega⟩ wd_801 wd_802 (q_small_of (Nat.le_of_ble_eq_true rfl)) hm54 (q_kTi (fun σ59 v61 hM60 => ?_)) (fun σ9 n9 hq => absurd (q_xi hq) (hx58 σ9 n9))
              refine wp_less (ac2 := (ca + 73)) (as2 := (sa + 138)) (by show (ca + 73) ≤ (ca + 100) - 27; omega) (by show (sa + 138) ≤ (sa + 300) - 162; omega) ?_
              have h := hk57 σ59 v61 hM60
              obtain ⟨hr62, h⟩ := h
              refine wp_if_ne (tgt := 1151) dL_law_1146 (by decide) hr62 (fun c63 => ?_) (fun c63 => ?_)
              · replace h := h.1 c63
                exact wp_less (ac2 := ca) (as2 := sa) (by omega) (by omega) (wp_lsub (ls' := [some (vr sc), some (vr x), some (vr pg), some (vr mn), some (vr fa), some (vr of), some (vi nP), some (vi nB), some (vi aN), some (vi tn), none, none, none, none, none, none, none, none, none, none]) ⟨rfl, ⟨rfl, ⟨rfl, ⟨rfl, ⟨rfl, ⟨rfl, ⟨rfl, ⟨rfl, ⟨rfl, ⟨rfl, trivial⟩⟩⟩⟩⟩⟩⟩⟩⟩⟩ h)
              · replace h := h.2 c63
                refine wp_iconst dL_law_1149 ?_
                exact wp_ret_z dL_law_1150 rfl (Or.inl rfl) h
      have hr64 := h
      refine wp_if_eq (tgt := 1114) dL_law_1107 (by decide) hr64 (fun c65 => ?_) (fun c65 => ?_)
      · refine wp_iconst dL_law_1114 ?_
        exact key43 _ (by rw [if_pos c65])
      · refine wp_iconst dL_law_1110 ?_
        refine wp_goto (tgt := 1115) dL_law_1111 (by decide) ?_
        exact key43 _ (by rw [if_neg c65])
end
