/-! the model: the order of reading -/
section
variable {g : qG} {l : Launch} {A : Nat → Nat → Nat} {D : qD} {σ : qS}
theorem spec_mrank (hl : l.stackTraces = false) (h : MB A D σ) (hw : WF0 D) {q : Nat} (hq : alP D q) : qMet g l M_X8_rank [vr (A 30 0), vi (q : Int)] σ (qPi σ (rk D q)) := by
  have hn := hw.1
  have hq50 := hq.1
  obtain ⟨hpn, hmq⟩ := alP_home hw hq
  obtain ⟨a1, a2, a3⟩ := m329 h.1
  obtain ⟨b1, b2, b3⟩ := m326 h.1
  have hpg : gA σ (A 49 0) (q : Int) = hp D q := by rw [← pgv_al hq]; exact (h.2.1.2.2.1 q hq.1).1
  have h8 := (hw.2.1 _ hpn).2.2.1
  unfold pn at h8
  refine wm_X8_rank hl ⟨h.1.1, by rw [a1]; exact q_isA0 a2, by rw [a1]; exact ⟨by omega, by rw [a3]; omega⟩, fun x4 h4 => ?_⟩
  rw [a1, hpg] at h4
  subst h4
  rw [b1]
  refine ⟨_, spec_find hl (xs := row D (hp D q)) b2 b3 (by omega) (by omega) (by decide) (fun i hi => (h.2.1.1 _ (by omega)).2.2 i hi) hmq (fun y hy => by have := row_lt hw hpn hy; omega), rfl, ?_⟩
  rfl
theorem spec_misBefore (hl : l.stackTraces = false) (h : MB A D σ) (hw : WF0 D) {b c : Nat} (hb' : alB D b) (hc : alB D c) : qMet g l M_X8_isBefore [vr (A 30 0), vi (b : Int), vi (c : Int)] σ (qPi σ (cif (ky D b < ky D c) 1 0)) := by
  have hn := hw.1
  have hb80 := hb'.1
  have hc80 := hc.1
  obtain ⟨a1, a2, a3⟩ := m337 h.1
  obtain ⟨b1, b2, b3⟩ := m336 h.1
  have hpb : gA σ (A 57 0) (b : Int) = hb D b := by rw [← pnv_al hb']; exact h.2.1.2.2.2 b hb'.1
  have hpc : gA σ (A 57 0) (c : Int) = hb D c := by rw [← pnv_al hc]; exact h.2.1.2.2.2 c hc.1
  obtain ⟨hal1, hm1⟩ := alB_home hw hb'
  obtain ⟨hal2, hm2⟩ := alB_home hw hc
  have hr1 := rk_b hw hal1
  have hr2 := rk_b hw hal2
  have hi1 := ixB_lt hw hb'
  have hi2 := ixB_lt hw hc
  have hl1 := (hw.2.2.2.2.1 _ hal1.1).2.2.1.2.2
  have hl2 := (hw.2.2.2.2.1 _ hal2.1).2.2.1.2.2
  have hq1 := hal1.1
  have hq2 := hal2.1
  refine wm_X8_isBefore hl ⟨h.1.1, by rw [a1]; exact q_isA0 a2, by rw [a1]; exact ⟨by omega, by rw [a3]; omega⟩, fun x4 h4 => ?_⟩
  rw [a1, hpb] at h4
  subst h4
  rw [a1]
  refine ⟨⟨by omega, by rw [a3]; omega⟩, fun x7 h7 => ?_⟩
  rw [hpc] at h7
  subst h7
  refine ⟨by unfold qR; omega, by unfold qR; omega, fun hne => ⟨_, spec_mrank hl h hw hal1, _, spec_mrank hl h hw hal2, ⟨by unfold qR; omega, by unfold qR; omega⟩, fun v19 h19 => ⟨rfl, ?_⟩⟩, fun heq => ?_⟩
  · have hkne : rk D (hb D b) ≠ rk D (hb D c) := fun z => hne (by rw [rk_inj hw hal1 hal2 z])
    rw [h19]
    by_cases d : rk D (hb D c) ≤ rk D (hb D b)
    · rw [if_pos d, cif_neg (fun z => by unfold ky at z; omega)]
    · rw [if_neg d, cif_pos (by unfold ky; omega)]
  · have heq' : hb D b = hb D c := by omega
    rw [b1]
    refine ⟨_, spec_find hl (xs := hs D (hb D b)) b2 b3 (by omega) (by omega) (by decide) (fun i hi => (h.2.1.2.2.1 _ hal1.1).2.2.2 i hi) hm1 (fun y hy => by have := (hl1.2.1 y hy).2; omega), _, spec_find hl (xs := hs D (hb D c)) b2 b3 (by omega) (by omega) (by decide) (fun i hi => (h.2.1.2.2.1 _ hal2.1).2.2.2 i hi) hm2 (fun y hy => by have := (hl2.2.1 y hy).2; omega), ?_⟩
    have e1 : (hs D (hb D b)).idxOf b = ixB D b := rfl
    have e2 : (hs D (hb D c)).idxOf c = ixB D c := rfl
    rw [e1, e2]
    refine ⟨⟨by unfold qR; omega, by unfold qR; omega⟩, fun v35 h35 => ⟨rfl, ?_⟩⟩
    rw [h35]
    have hke : rk D (hb D b) = rk D (hb D c) := by rw [heq']
    by_cases d : ((ixB D c : Nat) : Int) ≤ (ixB D b : Nat)
    · rw [if_pos d, cif_neg (fun z => by unfold ky at z; omega)]
    · rw [if_neg d, cif_pos (by unfold ky; omega)]
theorem an_Q (hw : WF0 D) {b : Nat} (hb' : b < nb D) : qR (an D b) ∧ (an D b ≠ -1 → 0 ≤ an D b ∧ (an D b).toNat < nb D) := by
  have hn := hw.1
  rcases (hw.2.2.2.2.2.1 b hb').2.2.2.2.1 with z | z
  · exact ⟨by rw [z]; unfold qR; omega, fun y => absurd z y⟩
  · exact ⟨by unfold qR; omega, fun _ => z⟩
theorem spec_areAnswered (hl : l.stackTraces = false) (h : MB A D σ) (hw : WF0 D) (hnb : gI σ 323 (A 30 0) = nb D) : qMet g l M_X8_areAnswered [vr (A 30 0)] σ (qPi σ (cif (Ans D) 1 0)) := by
  have hn := hw.1
  obtain ⟨a1, a2, a3⟩ := m337 h.1
  obtain ⟨b1, b2, b3⟩ := m339 h.1
  have h01 : ∀ P : Prop, (cif P 1 0 : Int) = 0 ∨ (cif P 1 0 : Int) = 1 := fun P => by unfold cif; split <;> omega
  refine wm_X8_areAnswered hl ⟨fun n x1 x2 => ∃ k : Nat, x2 = k ∧ k ≤ nb D ∧ n = nb D - k ∧ x1 = cif (∀ b, b < k → gb D b = 0 → an D b ≠ -1 → ky D (an D b).toNat < ky D b) 1 0, ⟨_, 0, rfl, Nat.zero_le _, rfl, by rw [cif_pos (fun b z => absurd z (Nat.not_lt_zero _))]⟩, ?_⟩
  rintro n x1 x2 ⟨k, rfl, hk, rfl, rfl⟩
  have hr := h01 (∀ b, b < k → gb D b = 0 → an D b ≠ -1 → ky D (an D b).toNat < ky D b)
  rw [hnb, a1, b1]
  refine ⟨h.1.1, by unfold qR; omega, by unfold qR; omega, fun hd => ⟨hr, rfl, ?_⟩, fun hd => ?_⟩
  · have hk2 : k = nb D := by omega
    subst hk2
    have : (∀ b, b < nb D → gb D b = 0 → an D b ≠ -1 → ky D (an D b).toNat < ky D b) ↔ Ans D := ⟨fun z b hb' => z b hb'.1 hb'.2, fun z b h1 h2 => z b ⟨h1, h2⟩⟩
    rw [propext this]
  have hkn : k < nb D := by omega
  have hpk : gA σ (A 57 0) (k : Int) = pnv D k := h.2.1.2.2.2 k hkn
  have hak : gA σ (A 59 0) (k : Int) = an D k := (h.2.2.2.2 k hkn).2
  have hstep : ∀ P : Prop, (P ↔ (gb D k = 0 → an D k ≠ -1 → ky D (an D k).toNat < ky D k)) → ∀ v : Int, v = cif ((∀ b, b < k → gb D b = 0 → an D b ≠ -1 → ky D (an D b).toNat < ky D b) ∧ P) 1 0 → ∀ x16 : Int, x16 = (k : Int) + 1 → ∃ n18 : Nat, n18 < nb D - k ∧ ∃ k' : Nat, x16 = k' ∧ k' ≤ nb D ∧ n18 = nb D - k' ∧ v = cif (∀ b, b < k' → gb D b = 0 → an D b ≠ -1 → ky D (an D b).toNat < ky D b) 1 0 := by
    intro P hP v hv x16 h16
    refine ⟨_, ?_, k + 1, by omega, by omega, rfl, ?_⟩
    · omega
    · rw [hv]
      congr 1
      refine propext ⟨fun z b hb1 => ?_, fun z => ⟨fun b hb1 => z b (by omega), hP.mpr (z k (by omega))⟩⟩
      by_cases c : b = k
      · rw [c]; exact hP.mp z.2
      · exact z.1 b (by omega)
  refine ⟨by rcases hr with z | z <;> (rw [z]; unfold qR; omega), fun h0 => ?_, fun h1 => ?_⟩
  · refine hstep (gb D k = 0 → an D k ≠ -1 → ky D (an D k).toNat < ky D k) Iff.rfl 0 ?_
    rw [cif_neg]
    rintro ⟨z, -⟩
    rw [cif_pos z] at h0
    exact absurd h0 (by decide)
  have hall : ∀ b, b < k → gb D b = 0 → an D b ≠ -1 → ky D (an D b).toNat < ky D b := by
    by_cases c : ∀ b, b < k → gb D b = 0 → an D b ≠ -1 → ky D (an D b).toNat < ky D b
    · exact c
    · rw [cif_neg c] at h1; exact absurd rfl h1
  rw [hpk, hak]
  refine ⟨q_isA0 a2, ⟨by omega, by rw [a3]; omega⟩, pnv_Q hw hkn, fun hg => ?_, fun hg => ⟨q_isA0 b2, ⟨by omega, by rw [b3]; omega⟩, (an_Q hw hkn).1, fun hv => ?_, fun hv => ?_⟩⟩
  · exact hstep _ Iff.rfl 1 (by rw [cif_pos ⟨hall, fun z => absurd z (pnv_ne.mp hg)⟩])
  · exact hstep _ Iff.rfl 1 (by rw [cif_pos ⟨hall, fun _ z => absurd hv z⟩])
  · have hg0 : gb D k = 0 := by
      by_cases c : gb D k = 0
      · exact c
      · exact absurd (pnv_ne.mpr c) hg
    have ha2 := (an_Q hw hkn).2 hv
    have hal : alB D (an D k).toNat := ⟨ha2.2, (hw.2.2.2.2.2.1 k hkn).2.2.2.2.2 hg0 hv⟩
    have hb := spec_misBefore (g := g) hl h hw hal (show alB D k from ⟨hkn, hg0⟩)
    rw [Int.toNat_of_nonneg ha2.1] at hb
    refine ⟨_, hb, by rcases h01 (ky D (an D k).toNat < ky D k) with z | z <;> (rw [z]; unfold qR; omega), fun v37 h37 x43 h43 => hstep (ky D (an D k).toNat < ky D k) ⟨fun z _ _ => z, fun z => z hg0 hv⟩ v37 ?_ x43 h43⟩
    rw [h37]
    by_cases c : ky D (an D k).toNat < ky D k
    · rw [cif_pos c, if_neg (by decide), cif_pos ⟨hall, c⟩]
    · rw [cif_neg c, if_pos rfl, cif_neg (fun z => c z.2)]
theorem spec_mbefore (hl : l.stackTraces = false) (h : MB A D σ) (hw : WF0 D) (hnb : gI σ 323 (A 30 0) = nb D) {b : Nat} (hb' : alB D b) : qMet g l M_X8_before [vr (A 30 0), vi (b : Int)] σ (qPi σ (cntB D (ky D b))) := by
  have hn := hw.1
  have hb80 := hb'.1
  obtain ⟨a1, a2, a3⟩ := m337 h.1
  refine wm_X8_before hl ⟨fun n x1 x2 => ∃ k : Nat, x2 = k ∧ k ≤ nb D ∧ n = nb D - k ∧ x1 = ct (fun c => gb D c = 0 ∧ ky D c < ky D b) k, ⟨_, 0, rfl, Nat.zero_le _, rfl, rfl⟩, ?_⟩
  rintro n x1 x2 ⟨k, rfl, hk, rfl, rfl⟩
  rw [hnb, a1]
  refine ⟨h.1.1, by unfold qR; omega, by unfold qR; omega, fun hd => ⟨rfl, ?_⟩, fun hd => ?_⟩
  · unfold cntB
    rw [show k = nb D by omega]
  have hkn : k < nb D := by omega
  have hpk : gA σ (A 57 0) (k : Int) = pnv D k := h.2.1.2.2.2 k hkn
  rw [hpk]
  refine ⟨q_isA0 a2, ⟨by omega, by rw [a3]; omega⟩, pnv_Q hw hkn, fun hg x17 h17 x19 h19 => ⟨_, ?_, k + 1, by omega, by omega, rfl, ?_⟩, fun hg => ⟨by unfold qR; omega, fun he x24 h24 x26 h26 => ⟨_, ?_, k + 1, by omega, by omega, rfl, ?_⟩, fun he => ?_⟩⟩
  · omega
  · rw [ct_s, if_neg (fun z => pnv_ne.mp hg z.1), h17]
  · omega
  · have hkb : k = b := by omega
    subst hkb
    rw [ct_s, if_neg (fun z => Int.lt_irrefl _ z.2), h24]
  · have hg0 : gb D k = 0 := by
      by_cases c : gb D k = 0
      · exact c
      · exact absurd (pnv_ne.mpr c) hg
    refine ⟨_, spec_misBefore hl h hw ⟨hkn, hg0⟩ hb', by unfold cif; split <;> (unfold qR; omega), fun v33 h33 x39 h39 x41 h41 => ⟨_, ?_, k + 1, by omega, by omega, rfl, ?_⟩⟩
    · omega
    · rw [ct_s, h39, h33]
      by_cases c : ky D k < ky D b
      · rw [cif_pos c, if_neg (by decide), if_pos ⟨hg0, c⟩]
      · rw [cif_neg c, if_pos rfl, if_neg (fun z => c z.2)]
theorem spec_nbr1 (hl : l.stackTraces = false) (h : MB A D σ) (hw : WF0 D) (hnq : gI σ 322 (A 30 0) = nq D) {q : Nat} (hq : alP D q) : qMet g l M_X8_neighbour [vr (A 30 0), vi (q : Int), vi 1] σ (qPi σ (nxt D (q : Int))) := by
  have hn := hw.1
  have hk : rkv D (q : Int) = rk D q := by unfold rkv; rw [if_neg (by omega), Int.toNat_natCast]
  have hx : ∀ v, NX D (rk D q) v → nxt D (q : Int) = v := fun v hv => tho_eq (by rw [hk]; exact hv) (fun v' hv' => NX_u hw hv (by rw [hk] at hv'; exact hv'))
  obtain ⟨a1, a2, a3⟩ := m329 h.1
  have hrq := rk_b hw hq
  refine wm_X8_neighbour hl ⟨fun n x1 x2 => ∃ k : Nat, x2 = k ∧ k ≤ nq D ∧ n = nq D - k ∧ ((x1 = -1 ∧ ∀ w, w < k → gq D w = 0 → rk D w ≤ rk D q) ∨ (0 ≤ x1 ∧ alP D x1.toNat ∧ rk D q < rk D x1.toNat ∧ ∀ w, w < k → gq D w = 0 → rk D q < rk D w → rk D x1.toNat ≤ rk D w)), ⟨_, 0, rfl, Nat.zero_le _, rfl, Or.inl ⟨rfl, fun w z => absurd z (Nat.not_lt_zero _)⟩⟩, ?_⟩
  rintro n x1 x2 ⟨k, rfl, hkk, rfl, hor⟩
  have hx1 : qR x1 := by
    rcases hor with ⟨z, -⟩ | ⟨z, z2, -⟩
    · rw [z]; unfold qR; omega
    · have := z2.1; unfold qR; omega
  rw [hnq, a1]
  refine ⟨h.1.1, by unfold qR; omega, by unfold qR; omega, fun hd => ⟨rfl, ?_⟩, fun hd => ?_⟩
  · have hke : k = nq D := by omega
    subst hke
    rw [hx x1]
    rcases hor with ⟨z, z2⟩ | ⟨z, z2, z3, z4⟩
    · exact Or.inl ⟨z, fun w hw' => z2 w hw'.1 hw'.2⟩
    · exact Or.inr ⟨z, z2, z3, fun w hw' => z4 w hw'.1 hw'.2⟩
  have hkn : k < nq D := by omega
  have hpk : gA σ (A 49 0) (k : Int) = pgv D k := (h.2.1.2.2.1 k hkn).1
  rw [hpk]
  have hskip : (gq D k = 0 → rk D k ≤ rk D q ∨ (x1 ≠ -1 ∧ rk D x1.toNat ≤ rk D k)) → ∀ x17 : Int, x17 = (k : Int) + 1 → ∃ n19 : Nat, n19 < nq D - k ∧ ∃ k' : Nat, x17 = k' ∧ k' ≤ nq D ∧ n19 = nq D - k' ∧ ((x1 = -1 ∧ ∀ w, w < k' → gq D w = 0 → rk D w ≤ rk D q) ∨ (0 ≤ x1 ∧ alP D x1.toNat ∧ rk D q < rk D x1.toNat ∧ ∀ w, w < k' → gq D w = 0 → rk D q < rk D w → rk D x1.toNat ≤ rk D w)) := by
    intro hs x17 h17
    refine ⟨_, ?_, k + 1, by omega, by omega, rfl, ?_⟩
    · omega
    · rcases hor with ⟨z, z2⟩ | ⟨z, z2, z3, z4⟩
      · refine Or.inl ⟨z, fun w hw' hg => ?_⟩
        by_cases c : w = k
        · subst c
          rcases hs hg with y | y
          · exact y
          · exact absurd z y.1
        · exact z2 w (by omega) hg
      · refine Or.inr ⟨z, z2, z3, fun w hw' hg hlt => ?_⟩
        by_cases c : w = k
        · subst c
          rcases hs hg with y | y
          · omega
          · exact y.2
        · exact z4 w (by omega) hg hlt
  have htake : gq D k = 0 → rk D q < rk D k → (x1 = -1 ∨ rk D k < rk D x1.toNat) → ∀ x17 : Int, x17 = (k : Int) + 1 → ∃ n19 : Nat, n19 < nq D - k ∧ ∃ k' : Nat, x17 = k' ∧ k' ≤ nq D ∧ n19 = nq D - k' ∧ (((k : Int) = -1 ∧ ∀ w, w < k' → gq D w = 0 → rk D w ≤ rk D q) ∨ (0 ≤ (k : Int) ∧ alP D (k : Int).toNat ∧ rk D q < rk D (k : Int).toNat ∧ ∀ w, w < k' → gq D w = 0 → rk D q < rk D w → rk D (k : Int).toNat ≤ rk D w)) := by
    intro hg hlt hs x17 h17
    refine ⟨_, ?_, k + 1, by omega, by omega, rfl, Or.inr ⟨by omega, ?_⟩⟩
    · omega
    · rw [Int.toNat_natCast]
      refine ⟨⟨hkn, hg⟩, hlt, fun w hw' hgw hltw => ?_⟩
      by_cases c : w = k
      · rw [c]; exact Int.le_refl _
      · rcases hor with ⟨z, z2⟩ | ⟨z, z2, z3, z4⟩
        · have := z2 w (by omega) hgw; omega
        · have := z4 w (by omega) hgw hltw
          rcases hs with y | y <;> omega
  refine ⟨q_isA0 a2, ⟨by omega, by rw [a3]; omega⟩, pgv_Q hw hkn, fun hg => hskip (fun z => absurd z (pgv_ne.mp hg)), fun hg => ⟨by unfold qR; omega, fun z => absurd z (by decide), fun _ => ?_⟩⟩
  have hg0 : gq D k = 0 := by
    by_cases c : gq D k = 0
    · exact c
    · exact absurd (pgv_ne.mpr c) hg
  have hak : alP D k := ⟨hkn, hg0⟩
  have hrk := rk_b hw hak
  refine ⟨_, spec_mrank hl h hw hak, _, spec_mrank hl h hw hq, ⟨by unfold qR; omega, by unfold qR; omega⟩, fun v105 h105 => ⟨fun hz => hskip (fun _ => Or.inl ?_), fun hz => ⟨hx1, fun hm1 => htake hg0 ?_ (Or.inl hm1), fun hm1 => ⟨fun z => absurd z (by decide), fun _ => ?_⟩⟩⟩⟩
  · rw [h105] at hz
    by_cases c : rk D k ≤ rk D q
    · exact c
    · rw [if_neg c] at hz; exact absurd hz (by decide)
  · rw [h105] at hz
    by_cases c : rk D k ≤ rk D q
    · rw [if_pos c] at hz; exact absurd rfl hz
    · omega
  · have hlt : rk D q < rk D k := by
      rw [h105] at hz
      by_cases c : rk D k ≤ rk D q
      · rw [if_pos c] at hz; exact absurd rfl hz
      · omega
    rcases hor with ⟨z, -⟩ | ⟨z, z2, z3, z4⟩
    · exact absurd z hm1
    · have hr1 := spec_mrank (g := g) hl h hw z2
      rw [Int.toNat_of_nonneg z] at hr1
      have hrb := rk_b hw z2
      refine ⟨_, spec_mrank hl h hw hak, _, hr1, ⟨by unfold qR; omega, by unfold qR; omega⟩, fun v153 h153 v160 h160 => ?_⟩
      rw [h153] at h160
      by_cases c : rk D x1.toNat ≤ rk D k
      · rw [if_pos c, if_pos rfl] at h160
        rw [h160]
        exact hskip (fun _ => Or.inr ⟨hm1, c⟩)
      · rw [if_neg c, if_neg (by decide)] at h160
        rw [h160]
        exact htake hg0 hlt (Or.inr (by omega))
theorem spec_nbr2 (hl : l.stackTraces = false) (h : MB A D σ) (hw : WF0 D) (hnq : gI σ 322 (A 30 0) = nq D) {q : Nat} (hq : alP D q) : qMet g l M_X8_neighbour [vr (A 30 0), vi (q : Int), vi (-1)] σ (qPi σ (prv D (q : Int))) := by
  have hn := hw.1
  have hk : rkv D (q : Int) = rk D q := by unfold rkv; rw [if_neg (by omega), Int.toNat_natCast]
  have hx : ∀ v, PV D (rk D q) v → prv D (q : Int) = v := fun v hv => tho_eq (by rw [hk]; exact hv) (fun v' hv' => PV_u hw hv (by rw [hk] at hv'; exact hv'))
  obtain ⟨a1, a2, a3⟩ := m329 h.1
  have hrq := rk_b hw hq
  refine wm_X8_neighbour hl ⟨fun n x1 x2 => ∃ k : Nat, x2 = k ∧ k ≤ nq D ∧ n = nq D - k ∧ ((x1 = -1 ∧ ∀ w, w < k → gq D w = 0 → rk D q ≤ rk D w) ∨ (0 ≤ x1 ∧ alP D x1.toNat ∧ rk D x1.toNat < rk D q ∧ ∀ w, w < k → gq D w = 0 → rk D w < rk D q → rk D w ≤ rk D x1.toNat)), ⟨_, 0, rfl, Nat.zero_le _, rfl, Or.inl ⟨rfl, fun w z => absurd z (Nat.not_lt_zero _)⟩⟩, ?_⟩
  rintro n x1 x2 ⟨k, rfl, hkk, rfl, hor⟩
  have hx1 : qR x1 := by
    rcases hor with ⟨z, -⟩ | ⟨z, z2, -⟩
    · rw [z]; unfold qR; omega
    · have := z2.1; unfold qR; omega
  rw [hnq, a1]
  refine ⟨h.1.1, by unfold qR; omega, by unfold qR; omega, fun hd => ⟨rfl, ?_⟩, fun hd => ?_⟩
  · have hke : k = nq D := by omega
    subst hke
    rw [hx x1]
    rcases hor with ⟨z, z2⟩ | ⟨z, z2, z3, z4⟩
    · exact Or.inl ⟨z, fun w hw' => z2 w hw'.1 hw'.2⟩
    · exact Or.inr ⟨z, z2, z3, fun w hw' => z4 w hw'.1 hw'.2⟩
  have hkn : k < nq D := by omega
  have hpk : gA σ (A 49 0) (k : Int) = pgv D k := (h.2.1.2.2.1 k hkn).1
  rw [hpk]
  have hskip : (gq D k = 0 → rk D q ≤ rk D k ∨ (x1 ≠ -1 ∧ rk D k ≤ rk D x1.toNat)) → ∀ x17 : Int, x17 = (k : Int) + 1 → ∃ n19 : Nat, n19 < nq D - k ∧ ∃ k' : Nat, x17 = k' ∧ k' ≤ nq D ∧ n19 = nq D - k' ∧ ((x1 = -1 ∧ ∀ w, w < k' → gq D w = 0 → rk D q ≤ rk D w) ∨ (0 ≤ x1 ∧ alP D x1.toNat ∧ rk D x1.toNat < rk D q ∧ ∀ w, w < k' → gq D w = 0 → rk D w < rk D q → rk D w ≤ rk D x1.toNat)) := by
    intro hs x17 h17
    refine ⟨_, ?_, k + 1, by omega, by omega, rfl, ?_⟩
    · omega
    · rcases hor with ⟨z, z2⟩ | ⟨z, z2, z3, z4⟩
      · refine Or.inl ⟨z, fun w hw' hg => ?_⟩
        by_cases c : w = k
        · subst c
          rcases hs hg with y | y
          · exact y
          · exact absurd z y.1
        · exact z2 w (by omega) hg
      · refine Or.inr ⟨z, z2, z3, fun w hw' hg hlt => ?_⟩
        by_cases c : w = k
        · subst c
          rcases hs hg with y | y
          · omega
          · exact y.2
        · exact z4 w (by omega) hg hlt
  have htake : gq D k = 0 → rk D k < rk D q → (x1 = -1 ∨ rk D x1.toNat < rk D k) → ∀ x17 : Int, x17 = (k : Int) + 1 → ∃ n19 : Nat, n19 < nq D - k ∧ ∃ k' : Nat, x17 = k' ∧ k' ≤ nq D ∧ n19 = nq D - k' ∧ (((k : Int) = -1 ∧ ∀ w, w < k' → gq D w = 0 → rk D q ≤ rk D w) ∨ (0 ≤ (k : Int) ∧ alP D (k : Int).toNat ∧ rk D (k : Int).toNat < rk D q ∧ ∀ w, w < k' → gq D w = 0 → rk D w < rk D q → rk D w ≤ rk D (k : Int).toNat)) := by
    intro hg hlt hs x17 h17
    refine ⟨_, ?_, k + 1, by omega, by omega, rfl, Or.inr ⟨by omega, ?_⟩⟩
    · omega
    · rw [Int.toNat_natCast]
      refine ⟨⟨hkn, hg⟩, hlt, fun w hw' hgw hltw => ?_⟩
      by_cases c : w = k
      · rw [c]; exact Int.le_refl _
      · rcases hor with ⟨z, z2⟩ | ⟨z, z2, z3, z4⟩
        · have := z2 w (by omega) hgw; omega
        · have := z4 w (by omega) hgw hltw
          rcases hs with y | y <;> omega
  refine ⟨q_isA0 a2, ⟨by omega, by rw [a3]; omega⟩, pgv_Q hw hkn, fun hg => hskip (fun z => absurd z (pgv_ne.mp hg)), fun hg => ⟨by unfold qR; omega, fun _ => ?_, fun z => absurd (by decide) z⟩⟩
  have hg0 : gq D k = 0 := by
    by_cases c : gq D k = 0
    · exact c
    · exact absurd (pgv_ne.mpr c) hg
  have hak : alP D k := ⟨hkn, hg0⟩
  have hrk := rk_b hw hak
  refine ⟨_, spec_mrank hl h hw hak, _, spec_mrank hl h hw hq, ⟨by unfold qR; omega, by unfold qR; omega⟩, fun v29 h29 => ⟨fun hz => hskip (fun _ => Or.inl ?_), fun hz => ⟨hx1, fun hm1 => htake hg0 ?_ (Or.inl hm1), fun hm1 => ⟨fun _ => ?_, fun z => absurd (by decide) z⟩⟩⟩⟩
  · rw [h29] at hz
    by_cases c : rk D q ≤ rk D k
    · exact c
    · rw [if_neg c] at hz; exact absurd hz (by decide)
  · rw [h29] at hz
    by_cases c : rk D q ≤ rk D k
    · rw [if_pos c] at hz; exact absurd rfl hz
    · omega
  · have hlt : rk D k < rk D q := by
      rw [h29] at hz
      by_cases c : rk D q ≤ rk D k
      · rw [if_pos c] at hz; exact absurd rfl hz
      · omega
    rcases hor with ⟨z, -⟩ | ⟨z, z2, z3, z4⟩
    · exact absurd z hm1
    · have hr1 := spec_mrank (g := g) hl h hw z2
      rw [Int.toNat_of_nonneg z] at hr1
      have hrb := rk_b hw z2
      refine ⟨_, spec_mrank hl h hw hak, _, hr1, ⟨by unfold qR; omega, by unfold qR; omega⟩, fun v52 h52 v59 h59 => ?_⟩
      rw [h52] at h59
      by_cases c : rk D k ≤ rk D x1.toNat
      · rw [if_pos c, if_pos rfl] at h59
        rw [h59]
        exact hskip (fun _ => Or.inr ⟨hm1, c⟩)
      · rw [if_neg c, if_neg (by decide)] at h59
        rw [h59]
        exact htake hg0 hlt (Or.inr (by omega))
end
