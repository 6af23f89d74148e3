/-! the book without a panel -/
noncomputable def heir (D : qD) (q : Nat) : Int := if nxt D (q : Int) = -1 then prv D (q : Int) else nxt D (q : Int)
noncomputable def hereC (D : qD) (q : Nat) : Int := if he D = (q : Int) then heir D q else he D
def kpC (D : qD) (q : Nat) : List Nat := (kp D).filter (fun x => decide (x ≠ q))
def rowC (D : qD) (q : Nat) : List Nat := (row D (hp D q)).eraseIdx ((row D (hp D q)).idxOf q)
def dGone (D : qD) (q : Nat) : qD := (D.1, fun t i => if t = 4 ∧ i = q then 1 else if t = 8 ∧ i ∈ hs D q then 1 else D.2.1 t i, D.2.2)
noncomputable def dCp (D : qD) (q : Nat) : qD := dRd (dGone (dRow D (hp D q) (rowC D q)) q) (kpC D q) (hereC D q)
section
variable {D : qD}
theorem gq_G {q q' : Nat} : gq (dGone D q) q' = if q' = q then 1 else gq D q' := by
  show (if 4 = 4 ∧ q' = q then (1 : Int) else if 4 = 8 ∧ q' ∈ hs D q then 1 else D.2.1 4 q') = _
  by_cases c : q' = q
  · rw [if_pos ⟨rfl, c⟩, if_pos c]
  · rw [if_neg (fun z => c z.2), if_neg (fun z => absurd z.1 (by decide)), if_neg c]; rfl
theorem gb_G {q b : Nat} : gb (dGone D q) b = if b ∈ hs D q then 1 else gb D b := by
  show (if 8 = 4 ∧ b = q then (1 : Int) else if 8 = 8 ∧ b ∈ hs D q then 1 else D.2.1 8 b) = _
  rw [if_neg (fun z => absurd z.1 (by decide))]
  by_cases c : b ∈ hs D q
  · rw [if_pos ⟨rfl, c⟩, if_pos c]
  · rw [if_neg (fun z => c z.2), if_neg c]; rfl
theorem I_G {q t i : Nat} (h4 : t ≠ 4) (h8 : t ≠ 8) : (dGone D q).2.1 t i = D.2.1 t i := by
  show (if t = 4 ∧ i = q then (1 : Int) else if t = 8 ∧ i ∈ hs D q then 1 else D.2.1 t i) = _
  rw [if_neg (fun z => h4 z.1), if_neg (fun z => h8 z.1)]
theorem I_rd {ks : List Nat} {v : Int} {t i : Nat} (h : t ≠ 11) : (dRd D ks v).2.1 t i = D.2.1 t i := by
  show (if t = 11 ∧ i = 0 then v else D.2.1 t i) = _
  rw [if_neg (fun z => h z.1)]
theorem gq_Cp {q q' : Nat} : gq (dCp D q) q' = if q' = q then 1 else gq D q' := by
  show (dRd (dGone (dRow D (hp D q) (rowC D q)) q) (kpC D q) (hereC D q)).2.1 4 q' = _
  rw [I_rd (by decide)]
  exact gq_G
theorem gb_Cp {q b : Nat} : gb (dCp D q) b = if b ∈ hs D q then 1 else gb D b := by
  show (dRd (dGone (dRow D (hp D q) (rowC D q)) q) (kpC D q) (hereC D q)).2.1 8 b = _
  rw [I_rd (by decide)]
  exact gb_G
theorem I_Cp {q t i : Nat} (h4 : t ≠ 4) (h8 : t ≠ 8) (h11 : t ≠ 11) : (dCp D q).2.1 t i = D.2.1 t i := by
  unfold dCp
  rw [I_rd h11, I_G h4 h8]; rfl
theorem row_Cp {q p : Nat} : row (dCp D q) p = if p = hp D q then rowC D q else row D p := by
  show q_u2 (q_u2 D.2.2.1 0 (hp D q) (rowC D q)) 2 0 (kpC D q) 0 p = _
  unfold q_u2
  rw [if_neg (fun z => absurd z.1 (by decide))]
  by_cases c : p = hp D q
  · rw [if_pos ⟨rfl, c⟩, if_pos c]
  · rw [if_neg (fun z => c z.2), if_neg c]; rfl
theorem hs_Cp {q q' : Nat} : hs (dCp D q) q' = hs D q' := by
  show q_u2 (q_u2 D.2.2.1 0 (hp D q) (rowC D q)) 2 0 (kpC D q) 1 q' = _
  unfold q_u2
  rw [if_neg (fun z => absurd z.1 (by decide)), if_neg (fun z => absurd z.1 (by decide))]; rfl
theorem kp_Cp {q : Nat} : kp (dCp D q) = kpC D q := rfl
theorem he_Cp {q : Nat} : he (dCp D q) = hereC D q := rfl
theorem tg_Cp {q p : Nat} : tg (dCp D q) p = tg D p := I_Cp (by decide) (by decide) (by decide)
theorem sp_Cp {q p : Nat} : sp (dCp D q) p = sp D p := I_Cp (by decide) (by decide) (by decide)
theorem gr_Cp {q p : Nat} : gr (dCp D q) p = gr D p := I_Cp (by decide) (by decide) (by decide)
theorem wt_Cp {q p : Nat} : wt (dCp D q) p = wt D p := I_Cp (by decide) (by decide) (by decide)
theorem wd_Cp {q p : Nat} : wd (dCp D q) p = wd D p := I_Cp (by decide) (by decide) (by decide)
theorem ht_Cp {q p : Nat} : ht (dCp D q) p = ht D p := I_Cp (by decide) (by decide) (by decide)
theorem lt_Cp {q p : Nat} : lt (dCp D q) p = lt D p := I_Cp (by decide) (by decide) (by decide)
theorem an_Cp {q p : Nat} : an (dCp D q) p = an D p := I_Cp (by decide) (by decide) (by decide)
theorem heir_al (hw : WF0 D) {q : Nat} : heir D q = -1 ∨ (0 ≤ heir D q ∧ alP D (heir D q).toNat ∧ (heir D q).toNat ≠ q) := by
  have hk : rkv D (q : Int) = rk D q := by unfold rkv; rw [if_neg (by omega), Int.toNat_natCast]
  unfold heir
  split
  · have := prv_sp (D := D) (q : Int)
    rw [hk] at this
    rcases this with z | ⟨a, b, c, -⟩
    · exact Or.inl z.1
    · exact Or.inr ⟨a, b, fun e => by rw [e] at c; omega⟩
  · have := nxt_sp (D := D) (q : Int)
    rw [hk] at this
    rcases this with z | ⟨a, b, c, -⟩
    · exact Or.inl z.1
    · exact Or.inr ⟨a, b, fun e => by rw [e] at c; omega⟩
theorem WF0_Cp (hw : WF0 D) {q : Nat} (hq : alP D q) (hna : ¬ isAnE D q) : WF0 (dCp D q) := by
  obtain ⟨hpn, hmq⟩ := alP_home hw hq
  have hheir := heir_al (q := q) hw
  have hw0 := hw
  obtain ⟨w1, w2, w3, w4, w5, w6, w7, w8, w9⟩ := hw
  have hnd := (w2 _ hpn).2.1
  have hal : ∀ x, alP D x → x ≠ q → alP (dCp D q) x := fun x hx hne => ⟨hx.1, by rw [gq_Cp, if_neg hne]; exact hx.2⟩
  have hbq : ∀ b, b < nb D → gb D b = 0 → hb D b ≠ q → b ∉ hs D q := fun b hb1 hb2 hne z => hne ((w5 q hq.1).2.2.2.2 hq.2 b z).2
  refine ⟨w1, fun p h => ?_, fun p h => ?_, fun t ht => by rw [gr_Cp]; exact w4 t ht, fun q' hq' => ?_, fun b hb' => ?_, ?_, fun x hx => ?_, fun p h => ?_⟩
  · obtain ⟨a, b, c, d⟩ := w2 p h
    unfold PgS pn
    rw [tg_Cp, row_Cp]
    refine ⟨a, ?_, ?_, fun q' hq' => ?_⟩
    · split
      · exact List.Nodup.eraseIdx _ hnd
      · exact b
    · split
      · rename_i e
        unfold rowC
        rw [ers_len hmq, ← e]
        unfold pn at c; omega
      · exact c
    · have hne : q' ≠ q ∧ q' ∈ row D p := by
        by_cases e : p = hp D q
        · rw [if_pos e] at hq'
          unfold rowC at hq'
          rw [ers_mem hnd hmq] at hq'
          rw [e]; exact hq'
        · rw [if_neg e] at hq'
          exact ⟨fun z => e (by rw [← z]; exact (d q' hq').2.symm), hq'⟩
      obtain ⟨g1, g2⟩ := d q' hne.2
      exact ⟨hal q' g1 hne.1, g2⟩
  · have hle : np D ≤ p := h
    rw [tg_Cp, sp_Cp, row_Cp, if_neg (by omega)]
    exact w3 p h
  · obtain ⟨a1, a2, ⟨f1, f2, f3, f4, f5⟩, a4, a5⟩ := w5 q' hq'
    unfold PnS PnW
    rw [gq_Cp, hs_Cp, wt_Cp, wd_Cp, ht_Cp, row_Cp]
    refine ⟨?_, a2, ⟨f1, f2, f3, fun b hb1 => by rw [lt_Cp]; exact f4 b hb1, f5⟩, fun hg => ?_, fun hg b hb1 => ?_⟩
    · split
      · exact Or.inr rfl
      · exact a1
    · have hne : q' ≠ q := fun z => by rw [if_pos z] at hg; omega
      rw [if_neg hne] at hg
      have := a4 hg
      show q' ∈ (if hp D q' = hp D q then rowC D q else row D (hp D q'))
      by_cases e : hp D q' = hp D q
      · rw [if_pos e]
        unfold rowC
        rw [ers_mem hnd hmq, ← e]
        exact ⟨hne, this⟩
      · rw [if_neg e]; exact this
    · have hne : q' ≠ q := fun z => by rw [if_pos z] at hg; omega
      rw [if_neg hne] at hg
      obtain ⟨g1, g2⟩ := a5 hg b hb1
      exact ⟨⟨g1.1, by rw [gb_Cp, if_neg (hbq b g1.1 g1.2 (by rw [g2]; exact hne))]; exact g1.2⟩, g2⟩
  · obtain ⟨a1, a2, a3, a4, a5, a6⟩ := w6 b hb'
    unfold BlS
    rw [gb_Cp, lt_Cp, an_Cp]
    refine ⟨?_, a2, a3, fun hg => ?_, a5, fun hg hv => ?_⟩
    · split
      · exact Or.inr rfl
      · exact a1
    · have hni : b ∉ hs D q := fun z => by rw [if_pos z] at hg; omega
      rw [if_neg hni] at hg
      obtain ⟨g1, g2⟩ := a4 hg
      have hne : hb D b ≠ q := fun z => hni (by rw [← z]; exact g2)
      show gq (dCp D q) (hb D b) = 0 ∧ b ∈ hs (dCp D q) (hb D b)
      rw [gq_Cp, if_neg hne, hs_Cp]
      exact ⟨g1, g2⟩
    · have hni : b ∉ hs D q := fun z => by rw [if_pos z] at hg; omega
      rw [if_neg hni] at hg
      have hne : hb D b ≠ q := fun z => hni (by rw [← z]; exact (a4 hg).2)
      have g6 := a6 hg hv
      have hlt : (an D b).toNat < nb D := by
        rcases a5 with z | z
        · exact absurd z hv
        · exact z.2
      rw [gb_Cp, if_neg]
      · exact g6
      · exact hbq _ hlt g6 (fun z => hna ⟨b, ⟨hb', hg⟩, hne, hv, z⟩)
  · show hereC D q = -1 ∨ (0 ≤ hereC D q ∧ alP (dCp D q) (hereC D q).toNat)
    unfold hereC
    split
    · rcases hheir with z | ⟨a, b, c⟩
      · exact Or.inl z
      · exact Or.inr ⟨a, hal _ b c⟩
    · rename_i hne
      rcases w7 with z | z
      · exact Or.inl z
      · exact Or.inr ⟨z.1, hal _ z.2 (by have := z.1; omega)⟩
  · have hx2 : x ∈ (kp D).filter (fun x => decide (x ≠ q)) := hx
    rw [List.mem_filter] at hx2
    exact hal x (w8 x hx2.1) (by simpa using hx2.2)
  · unfold SpS
    rw [sp_Cp, sp_Cp]
    exact w9 p h
theorem LyEq_Cp {q p : Nat} (h : p ≠ hp D q) : LyEq D (dCp D q) p := by
  refine ⟨by rw [row_Cp, if_neg h], tg_Cp, ?_, fun q' _ => ⟨wt_Cp, wd_Cp, ht_Cp, rfl, hs_Cp, fun b _ => lt_Cp⟩⟩
  unfold gro
  rw [tg_Cp, gr_Cp]
end
section
variable {g : qG} {l : Launch} {A : Nat → Nat → Nat} {D : qD} {σ : qS}
/-- what a panel's leaving writes -/
def lvW (A : Nat → Nat → Nat) (D : qD) (q f x : Nat) : Prop := (f = 211 ∧ x = A 6 q) ∨ (f = 6 ∧ ∃ b, b ∈ hs D q ∧ x = A 7 b)
theorem spec_leave (hl : l.stackTraces = false) (hA : qInj A) {q : Nat} (h : PnR A D σ q) (hb : ∀ b, b ∈ hs D q → gK σ (A 7 b) = 1) (h4 : (hs D q).length ≤ 4) : qMet g l M_X5_leave [vr (A 6 q)] σ (qTv0 (fun σ' => qChg (lvW A D q) σ σ' ∧ gI σ' 211 (A 6 q) = 1 ∧ ∀ b, b ∈ hs D q → gI σ' 6 (A 7 b) = 1)) := by
  obtain ⟨a1, a2, a3, a4, a5, a6, a7, a8, a9, a10, a11, a12, a13, a14, a15, a16, a17⟩ := h
  refine wm_X5_leave hl ⟨a1, fun σ2 h2 => ⟨fun n x σ3 => ∃ k : Nat, x = k ∧ k ≤ (hs D q).length ∧ n = (hs D q).length - k ∧ qChg (lvW A D q) σ σ3 ∧ gI σ3 211 (A 6 q) = 1 ∧ ∀ j, j < k → gI σ3 6 (A 7 (bl D q j)) = 1, ⟨_, 0, rfl, Nat.zero_le _, rfl, by rw [h2]; exact qChg_I (Or.inl ⟨rfl, rfl⟩), by rw [h2]; exact gI_eq, fun j z => absurd z (Nat.not_lt_zero _)⟩, ?_⟩⟩
  rintro n x σ3 ⟨k, rfl, hk, rfl, hc, h211, hj⟩
  obtain ⟨c1, c2, c3, c4, c5, c6, c7⟩ := id hc
  have k50 : gK σ3 (A 12 q) = 50 := by rw [c1]; exact a13
  have l50 : gL σ3 (A 12 q) = (hs D q).map (A 7) := by rw [c2]; exact a14
  rw [show gP σ3 206 (A 6 q) = A 12 q by rw [c4]; exact a8]
  refine ⟨by rw [c1]; exact a1, k50, _, spec_sizeM hl k50 l50, by unfold qR; omega, by unfold qR; omega, fun hd => ⟨rfl, hc, h211, fun b hbm => ?_⟩, fun hd => ?_⟩
  · have := hj ((hs D q).idxOf b) (by have := ix_lt hbm; omega)
    unfold bl at this
    rwa [ix_get hbm] at this
  · have hkl : k < (hs D q).length := by omega
    have hm := bl_mem hkl
    have k1 : gK σ3 (A 7 (bl D q k)) = 1 := by rw [c1]; exact hb _ hm
    refine ⟨A 7 (bl D q k), spec_getM hl k50 l50 rfl hkl, Or.inr k1, k1, fun σ4 h4' x25 h25 => ⟨_, ?_, k + 1, by omega, by omega, rfl, ?_, ?_, fun j hjk => ?_⟩⟩
    · omega
    · exact qChg_tr hc (Q := lvW A D q) (by rw [h4']; exact qChg_I (Or.inr ⟨rfl, _, hm, rfl⟩)) (fun _ _ z => z) (fun _ _ z => z)
    · rw [h4', gI_ne (fun z => by omega)]; exact h211
    · rw [h4', gI_sI]
      by_cases c : A 7 (bl D q j) = A 7 (bl D q k)
      · rw [if_pos ⟨rfl, c⟩]
      · rw [if_neg (fun z => c z.2)]
        refine hj j ?_
        by_cases e : j = k
        · rw [e] at c; exact absurd rfl c
        · omega
theorem SR_gone (hA : qInj A) {σ' : qS} {q : Nat} (h : SR A D σ) (hc : qChg (lvW A D q) σ σ') (h1 : gI σ' 211 (A 6 q) = 1) (h2 : ∀ b, b ∈ hs D q → gI σ' 6 (A 7 b) = 1) : SR A (dGone D q) σ' := by
  obtain ⟨c1, c2, c3, c4, c5, c6, c7⟩ := hc
  have i1 : ∀ f x, f ≠ 211 → f ≠ 6 → gI σ' f x = gI σ f x := fun f x hf hg => c6 f x (by rintro (z | z) <;> omega)
  have iA : ∀ x i, gA σ' x i = gA σ x i := fun x i => c7 x (by rintro (z | z) <;> omega) i
  obtain ⟨k1, k2, k3, k4, k5, k6⟩ := h
  refine ⟨?_, ?_, ?_, fun p hp' => ?_, fun q' hq => ?_, fun b hb => ?_⟩
  · unfold BsR at k1 ⊢
    rw [c1, c2, c4]
    exact k1
  · obtain ⟨y1, y2, y3, y4, y5, y6, y7, y8⟩ := k2
    unfold LyR
    rw [c1, c3, c4]
    exact ⟨y1, y2, y3, y4, y5, fun t ht => by rw [iA, y6 t ht]; exact (I_G (by decide) (by decide)).symm, y7, y8⟩
  · unfold RdR at k3 ⊢
    rw [c1, c3, c4, c5, i1 241 _ (by decide) (by decide)]
    exact k3
  · have := k4 p hp'
    unfold PgR at this ⊢
    rw [c1, c2, c4, i1 160 _ (by decide) (by decide), i1 162 _ (by decide) (by decide), i1 165 _ (by decide) (by decide)]
    exact this
  · obtain ⟨⟨a1, a2, a3, a4, a5, a6, a7, a8, a9, a10, a11, a12, a13, a14, a15, a16, a17⟩, p2⟩ := k5 q' hq
    unfold PnR FcR
    rw [c1, c2, c4, i1 200 _ (by decide) (by decide), i1 202 _ (by decide) (by decide), i1 203 _ (by decide) (by decide), i1 204 _ (by decide) (by decide), gq_G]
    refine ⟨⟨a1, a2, a3, a4, a5, a6, a7, a8, a9, a10, a11, a12, a13, a14, a15, a16, fun i hi => ?_⟩, ?_⟩
    · rw [i1 80 _ (by decide) (by decide), i1 81 _ (by decide) (by decide), i1 82 _ (by decide) (by decide)]
      exact a17 i hi
    · by_cases c : q' = q
      · rw [if_pos c, c]; exact h1
      · rw [if_neg c, c6 211 _ (by rintro (z | z); exact c (qInj_i hA z.2); omega)]
        exact p2
  · obtain ⟨p1, p2, p3⟩ := k6 b hb
    unfold BlR
    rw [c1, c4, i1 0 _ (by decide) (by decide), i1 1 _ (by decide) (by decide), gb_G]
    refine ⟨p1, ?_, p3⟩
    by_cases c : b ∈ hs D q
    · rw [if_pos c]; exact h2 b c
    · rw [if_neg c, c6 6 _ (by
        rintro (z | ⟨-, b', hb', z⟩)
        · omega
        · exact c (by rw [qInj_i hA z]; exact hb'))]
      exact p2
theorem SR_rd (hA : qInj A) {σ' : qS} {ks : List Nat} {v : Int} (h : SR A D σ) (hc : qRdC A σ σ') (hr : gI σ' 241 (A 8 0) = ks.length ∧ (∀ i : Nat, i < ks.length → gR σ' (A 19 0) i = A 6 (ks.getD i 0)) ∧ gP σ' 242 (A 8 0) = pRef A v) : SR A (dRd D ks v) σ' := by
  obtain ⟨c1, c2, c3, c4, c5, c6, c7⟩ := hc
  have i1 : ∀ f x, f ≠ 241 → gI σ' f x = gI σ f x := fun f x hf => c5 f x (fun z => hf z.1)
  have i2 : ∀ f x, f ≠ 242 → gP σ' f x = gP σ f x := fun f x hf => c6 f x (fun z => hf z.1)
  obtain ⟨h1, h2, h3, h4, h5, h6⟩ := h
  refine ⟨?_, ?_, ?_, fun p hp' => ?_, fun q hq => ?_, fun b hb => ?_⟩
  · unfold BsR at h1 ⊢
    rw [c1, c2, i2 280 _ (by decide), i2 281 _ (by decide), i2 282 _ (by decide), i2 283 _ (by decide), i2 284 _ (by decide)]
    exact h1
  · unfold LyR at h2 ⊢
    rw [c1, c3, c4, i2 120 _ (by decide), i2 121 _ (by decide)]
    exact h2
  · obtain ⟨r1, r2, r3, r4, r5, r6, r7⟩ := h3
    unfold RdR
    rw [c1, c3, i2 240 _ (by decide)]
    exact ⟨r1, r2, r3, r4, hr⟩
  · have := h4 p hp'
    unfold PgR at this ⊢
    rw [c1, c2, i1 160 _ (by decide), i1 162 _ (by decide), i1 165 _ (by decide), i2 161 _ (by decide)]
    exact this
  · have := h5 q hq
    unfold PnR FcR at this ⊢
    simp only [c1, c2, i1 200 _ (by decide), i1 202 _ (by decide), i1 203 _ (by decide), i1 204 _ (by decide), i1 211 _ (by decide), i1 80 _ (by decide), i1 81 _ (by decide), i1 82 _ (by decide), i2 201 _ (by decide), i2 205 _ (by decide), i2 206 _ (by decide), i2 207 _ (by decide), i2 208 _ (by decide)]
    exact this
  · have := h6 b hb
    unfold BlR at this ⊢
    simp only [c1, i1 0 _ (by decide), i1 1 _ (by decide), i1 6 _ (by decide), i2 2 _ (by decide), i2 3 _ (by decide), i2 4 _ (by decide), i2 5 _ (by decide)]
    exact this
theorem getD_app_r {xs : List Nat} {a d : Nat} : (xs ++ [a]).getD xs.length d = a := by simp
theorem getD_app_l {xs ys : List Nat} {i d : Nat} (h : i < xs.length) : (xs ++ ys).getD i d = xs.getD i d := by
  rw [List.getD_eq_getElem?_getD, List.getD_eq_getElem?_getD, List.getElem?_append_left h]
theorem filter_take {xs : List Nat} {q k : Nat} (hk : k < xs.length) : (xs.take (k + 1)).filter (fun x => decide (x ≠ q)) = (xs.take k).filter (fun x => decide (x ≠ q)) ++ (if xs.getD k 0 = q then [] else [xs.getD k 0]) := by
  have e : xs.take (k + 1) = xs.take k ++ [xs.getD k 0] := by
    rw [List.take_add_one, List.getD_eq_getElem?_getD, List.getElem?_eq_getElem hk]; rfl
  rw [e, List.filter_append]
  congr 1
  by_cases c : xs.getD k 0 = q
  · have : ∀ a : Nat, a = q → List.filter (fun x => decide (x ≠ q)) [a] = [] := fun a h => by simp [h]
    rw [if_pos c, this _ c]
  · have : ∀ a : Nat, a ≠ q → List.filter (fun x => decide (x ≠ q)) [a] = [a] := fun a h => by simp [h]
    rw [if_neg c, this _ c]
theorem spec_forget (hl : l.stackTraces = false) (hA : qInj A) (h : RdR A D σ) (hk : (kp D).length ≤ 512) (hal : ∀ x, x ∈ kp D → gK σ (A 6 x) = 6) (hhe : he D = -1 ∨ 0 ≤ he D) {q hr : Nat} {hv : Int} (hh : hr = pRef A hv) : qMet g l M_X6_forget [vr (A 8 0), vr (A 6 q), vr hr] σ (qTv0 (fun σ' => qRdC A σ σ' ∧ gI σ' 241 (A 8 0) = (kpC D q).length ∧ (∀ i : Nat, i < (kpC D q).length → gR σ' (A 19 0) i = A 6 ((kpC D q).getD i 0)) ∧ gP σ' 242 (A 8 0) = pRef A (if he D = (q : Int) then hv else he D))) := by
  obtain ⟨r1, r2, r3, r4, r5, r6, r7⟩ := h
  have hlen : ∀ k : Nat, (((kp D).take k).filter (fun x => decide (x ≠ q))).length ≤ ((kp D).take k).length := fun k => List.length_filter_le _ _
  have hpq : pRef A (he D) = A 6 q ↔ he D = (q : Int) := by
    unfold pRef
    rcases hhe with z | z
    · rw [if_pos z]
      exact ⟨fun y => absurd y.symm (hA.2 _ _), fun y => by omega⟩
    · rw [if_neg (by omega)]
      exact ⟨fun y => by have := qInj_i hA y; omega, fun y => by rw [y]; rfl⟩
  -- the end
  have hend : ∀ σ9 : qS, qRdC A σ σ9 → (∀ i : Nat, i < (kpC D q).length → gR σ9 (A 19 0) i = A 6 ((kpC D q).getD i 0)) → gP σ9 242 (A 8 0) = pRef A (he D) → ∀ x1 : Int, x1 = (kpC D q).length → ∀ σ14 : qS, σ14 = sI σ9 241 (A 8 0) x1 →
      (¬ gP σ14 242 (A 8 0) = A 6 q → qTv0 (fun σ' => qRdC A σ σ' ∧ gI σ' 241 (A 8 0) = (kpC D q).length ∧ (∀ i : Nat, i < (kpC D q).length → gR σ' (A 19 0) i = A 6 ((kpC D q).getD i 0)) ∧ gP σ' 242 (A 8 0) = pRef A (if he D = (q : Int) then hv else he D)) σ14 (.inl none)) ∧
      (gP σ14 242 (A 8 0) = A 6 q → ∀ σ17 : qS, σ17 = sP σ14 242 (A 8 0) hr → qTv0 (fun σ' => qRdC A σ σ' ∧ gI σ' 241 (A 8 0) = (kpC D q).length ∧ (∀ i : Nat, i < (kpC D q).length → gR σ' (A 19 0) i = A 6 ((kpC D q).getD i 0)) ∧ gP σ' 242 (A 8 0) = pRef A (if he D = (q : Int) then hv else he D)) σ17 (.inl none)) := by
    intro σ9 hc hr9 hp9 x1 hx1 σ14 h14
    have hp14 : gP σ14 242 (A 8 0) = pRef A (he D) := by rw [h14]; exact hp9
    obtain ⟨c1, c2, c3, c4, c5, c6, c7⟩ := hc
    have hc14 : qRdC A σ σ14 := by
      rw [h14]
      exact ⟨c1, c2, c3, c4, fun f x hn => (if_neg hn).trans (c5 f x hn), c6, c7⟩
    rw [hp14, hpq]
    refine ⟨fun hne => ⟨rfl, hc14, ?_, ?_, ?_⟩, fun heq σ17 h17 => ⟨rfl, ?_, ?_, ?_, ?_⟩⟩
    · rw [h14, gI_eq, hx1]
    · rw [h14]; exact hr9
    · rw [hp14, if_neg hne]
    · rw [h17]
      obtain ⟨d1, d2, d3, d4, d5, d6, d7⟩ := hc14
      exact ⟨d1, d2, d3, d4, d5, fun f x hn => (if_neg hn).trans (d6 f x hn), d7⟩
    · rw [h17, h14]
      show gI (sI σ9 241 (A 8 0) x1) 241 (A 8 0) = _
      rw [gI_eq, hx1]
    · rw [h17, h14]; exact hr9
    · rw [h17, if_pos heq, ← hh]; exact if_pos ⟨rfl, rfl⟩
  refine wm_X6_forget hl ⟨fun n x1 x2 σ3 => ∃ k : Nat, x2 = k ∧ k ≤ (kp D).length ∧ n = (kp D).length - k ∧ x1 = ((((kp D).take k).filter (fun x => decide (x ≠ q))).length : Nat) ∧ qRdC A σ σ3 ∧ gI σ3 241 (A 8 0) = (kp D).length ∧ gP σ3 242 (A 8 0) = pRef A (he D) ∧
    (∀ i : Nat, i < (((kp D).take k).filter (fun x => decide (x ≠ q))).length → gR σ3 (A 19 0) i = A 6 ((((kp D).take k).filter (fun x => decide (x ≠ q))).getD i 0)) ∧ ∀ i : Nat, k ≤ i → i < (kp D).length → gR σ3 (A 19 0) i = A 6 ((kp D).getD i 0), ⟨_, 0, rfl, Nat.zero_le _, rfl, rfl, ⟨rfl, rfl, rfl, rfl, fun _ _ _ => rfl, fun _ _ _ => rfl, fun _ _ _ => rfl⟩, r5, r7, fun i hi => absurd hi (Nat.not_lt_zero _), fun i _ hi => r6 i hi⟩, ?_⟩
  rintro n x1 x2 σ3 ⟨k, rfl, hkk, rfl, hx1, hc, h241, h242, hdone, hrest⟩
  obtain ⟨c1, c2, c3, c4, c5, c6, c7⟩ := id hc
  have hl2 := hlen k
  rw [List.length_take] at hl2
  have p240 : gP σ3 240 (A 8 0) = A 19 0 := by rw [c6 240 _ (by omega)]; exact r2
  have k23 : gK σ3 (A 19 0) = 23 := by rw [c1]; exact r3
  have n512 : gN σ3 (A 19 0) = 512 := by rw [c3]; exact r4
  rw [h241, p240, n512]
  have hfin : k = (kp D).length → (∀ i : Nat, i < (kpC D q).length → gR σ3 (A 19 0) i = A 6 ((kpC D q).getD i 0)) ∧ x1 = (kpC D q).length := by
    intro hke
    have e : (kp D).take k = kp D := by rw [hke]; exact List.take_length
    rw [e] at hdone hx1
    exact ⟨hdone, hx1⟩
  refine ⟨by rw [c1]; exact r1, by unfold qR; omega, by unfold qR; omega, fun hd => ?_, fun hd => ⟨⟨by decide, Or.inl k23⟩, by unfold qR; omega, fun hd2 => ?_, fun hd2 => ⟨⟨by omega, by rw [n512]; omega⟩, fun heq x29 h29 => ?_, fun hne => ⟨k23, ⟨by omega, by rw [n512]; omega⟩, ?_, fun σ35 h35 x37 h37 x39 h39 => ?_⟩⟩⟩⟩
  · obtain ⟨f1, f2⟩ := hfin (by omega)
    exact hend σ3 hc f1 h242 x1 f2
  · obtain ⟨f1, f2⟩ := hfin (by omega)
    exact hend σ3 hc f1 h242 x1 f2
  · have hkl : k < (kp D).length := by omega
    rw [hrest k (Nat.le_refl _) hkl] at heq
    have e := qInj_i hA heq
    have ef := filter_take (q := q) hkl
    rw [if_pos e, List.append_nil] at ef
    refine ⟨_, ?_, k + 1, by omega, by omega, rfl, by rw [ef]; exact hx1, hc, h241, h242, by rw [ef]; exact hdone, fun i hi => hrest i (by omega)⟩
    omega
  · have hkl : k < (kp D).length := by omega
    rw [hrest k (Nat.le_refl _) hkl]
    have hm : (kp D).getD k 0 ∈ kp D := by
      rw [List.getD_eq_getElem?_getD, List.getElem?_eq_getElem hkl]
      exact List.getElem_mem _
    exact Or.inr (Or.inl ⟨rfl, by rw [c1]; exact hal _ hm⟩)
  · have hkl : k < (kp D).length := by omega
    have hgk := hrest k (Nat.le_refl _) hkl
    rw [hgk] at hne h35
    have e : ¬ (kp D).getD k 0 = q := fun z => hne (by rw [z])
    have ef := filter_take (q := q) hkl
    rw [if_neg e] at ef
    have hc35 : qRdC A σ σ35 := by
      rw [h35]
      exact ⟨c1, c2, c3, c4, c5, c6, fun x hx i => (if_neg (fun z => hx z.1)).trans (c7 x hx i)⟩
    refine ⟨_, ?_, k + 1, by omega, by omega, rfl, by rw [ef, List.length_append, List.length_singleton]; omega, hc35, by rw [h35]; exact h241, by rw [h35]; exact h242, fun i hi => ?_, fun i hi hi2 => ?_⟩
    · omega
    · rw [ef, List.length_append, List.length_singleton] at hi
      rw [ef, h35, gR_sR]
      by_cases c : i = (((kp D).take k).filter (fun x => decide (x ≠ q))).length
      · rw [if_pos ⟨rfl, by omega⟩, c, getD_app_r]
      · rw [if_neg (fun z => c (by omega)), hdone i (by omega), getD_app_l (by omega)]
    · rw [h35, gR_sR, if_neg (fun z => by omega)]
      exact hrest i (by omega) hi2
end
