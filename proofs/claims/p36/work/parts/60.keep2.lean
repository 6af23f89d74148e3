/-! keeping a page -/
section
variable {D : qD} {p : Nat}
theorem rS_ge (hw : PgW D p) : ∀ k, rS D p k = pn D p ∨ k ≤ rS D p k
  | 0 => Or.inr (Nat.zero_le _)
  | k + 1 => by
    rcases Nat.lt_or_ge (rS D p k) (pn D p) with c | c
    · have := (rS_nx hw c).1
      rcases rS_ge hw k with d | d
      · omega
      · exact Or.inr (by omega)
    · exact Or.inl (rS_n hw (by have := rS_le hw k; omega))
theorem row_of0 {i : Nat} : ∀ m, i < rS D p m → ∃ k, k < m ∧ rS D p k ≤ i ∧ i < rS D p (k + 1)
  | 0, h => absurd h (Nat.not_lt_zero _)
  | m + 1, h => by
    rcases Nat.lt_or_ge i (rS D p m) with c | c
    · obtain ⟨k, h1, h2⟩ := row_of0 m c
      exact ⟨k, by omega, h2⟩
    · exact ⟨m, by omega, c, h⟩
theorem row_of (hw : PgW D p) {i : Nat} (hi : i < pn D p) : ∃ k, rS D p k < pn D p ∧ rS D p k ≤ i ∧ i < rS D p (k + 1) := by
  obtain ⟨k, h1, h2, h3⟩ := row_of0 (D := D) (p := p) (i := i) (i + 1) (by rcases rS_ge hw (i + 1) with c | c <;> omega)
  exact ⟨k, by omega, h2, h3⟩
theorem rT_nn : ∀ k, 0 ≤ rT D p k
  | 0 => Int.le_refl _
  | k + 1 => by
    have := rT_nn k
    show 0 ≤ rT D p k + _
    omega
theorem pB_b (hw : PgW D p) (hok : OKp D p) {k i : Nat} (hk : rS D p k < pn D p) (hi : rS D p k ≤ i) (hi2 : i < rS D p (k + 1)) : (4 ≤ pWd D p k i ∧ pWd D p k i ≤ 24) ∧ (0 ≤ pX D p k i ∧ pX D p k i ≤ 192) ∧ (0 ≤ rT D p k ∧ rT D p k ≤ 50) ∧ 0 ≤ pH D p k ∧ pH D p k ≤ 16 := by
  have hn8 := hw.2.2.1
  have hnx := rS_nx hw hk
  have hpw : ∀ i, i < pn D p → PnW D (pq D p i) := fun i h2 => hw.2.2.2.1 _ (pq_mem h2)
  have hsp : 0 ≤ spare (pw D p) (rS D p k) (rS D p (k + 1)) := by
    have := hnx.2.2.1 (rS D p (k + 1) - 1) (by omega) (by omega)
    rw [show rS D p (k + 1) - 1 + 1 = rS D p (k + 1) by omega] at this
    unfold spare
    omega
  have hwd : ∀ j, rS D p k ≤ j → j < rS D p (k + 1) → 4 ≤ pWd D p k j ∧ pWd D p k j ≤ 24 := by
    intro j a b
    have h1 := wid_le (w := pw D p) (wg := pg D p) ⟨a, b⟩ (fun j a b => (hpw j (by omega)).2.2.2.2.2.1.1) (fun j a b => (hpw j (by omega)).2.2.2.2.1.1) hsp
    have h2 := (hpw j (by omega)).2.2.2.2.2.1.1
    have h3 : pw D p j = wd D (pq D p j) := rfl
    have h4 : pWd D p k j = wid (pw D p) (pg D p) (rS D p k) (rS D p (k + 1)) j := rfl
    omega
  have h5 := sm_ge0 (w := fun j => pWd D p k j) (c := 0) hi (fun j a b => by have := hwd j a (by omega); omega)
  have h6 := sm_ge0 (w := fun j => - pWd D p k j) (c := -24) hi (fun j a b => by have := hwd j a (by omega); omega)
  have hneg : ∀ n, sm (fun j => - pWd D p k j) n = - sm (fun j => pWd D p k j) n := by
    intro n
    induction n with
    | zero => rfl
    | succ n ih => show sm _ n + - pWd D p k n = - (sm (fun j => pWd D p k j) n + pWd D p k n); rw [ih]; omega
  rw [hneg, hneg] at h6
  have h7 : pX D p k i = sm (fun j => pWd D p k j) i - sm (fun j => pWd D p k j) (rS D p k) := rfl
  have h8 := (hok k hk).1
  have h9 : pH D p k = (rH D p (rS D p k) (rS D p (k + 1)) : Nat) := rfl
  have h10 := rT_nn (D := D) (p := p) k
  have h11 := (hok k hk).2
  have h12 : rT D p (k + 1) = rT D p k + pH D p k := rfl
  refine ⟨hwd i hi hi2, by omega, ?_, by omega, by omega⟩
  omega
end
section
variable {g : qG} {l : Launch} {A : Nat → Nat → Nat} {D : qD} {σ : qS}
theorem BxR_Q {x : Nat} {p k i : Nat} (hw : PgW D p) (hok : OKp D p) (hk : rS D p k < pn D p) (hi : rS D p k ≤ i) (hi2 : i < rS D p (k + 1)) (h : BxR σ x (pB D p k i)) : BxQ σ x := by
  obtain ⟨⟨a1, a2⟩, ⟨b1, b2⟩, ⟨c1, c2⟩, d1, d2⟩ := pB_b hw hok hk hi hi2
  obtain ⟨e1, e2, e3, e4⟩ := h
  unfold BxQ
  rw [e1, e2, e3, e4]
  unfold pB
  refine ⟨?_, ?_, ?_, ?_⟩
  · show qR (if tg D p = 1 then 24 - pX D p k i - pWd D p k i else pX D p k i)
    split <;> (unfold qR; omega)
  · show qR (rT D p k)
    unfold qR; omega
  · show qR (pWd D p k i)
    unfold qR; omega
  · show qR (pH D p k)
    unfold qR; omega
theorem ct_s (P : Nat → Prop) (n : Nat) : ct P (n + 1) = ct P n + @ite Int (P n) (Classical.propDecidable _) 1 0 := rfl
theorem spec_keep (hl : l.stackTraces = false) (hA : qInj A) {p : Nat} (hR : LR A D σ p) (hw : PgW D p) (hok : OKp D p) (hT : TrP A D σ p) (hQ : ∀ i, i < pn D p → BxQ σ (A 13 (pq D p i))) :
    qMet g l M_X4_keepTrial [vr (A 5 p)] σ (qTi0 (fun σ' v => qChg (kpW A D p) σ σ' ∧ LdP A D σ' p ∧ v = ct (fun i => ¬ BxS σ (A 13 (pq D p i)) (A 14 (pq D p i))) (pn D p))) := by
  have hn8 := hw.2.2.1
  have hpw : ∀ i, i < pn D p → PnW D (pq D p i) := fun i h2 => hw.2.2.2.1 _ (pq_mem h2)
  have hll : ((row D p).length : Int) = (pn D p : Int) := rfl
  refine wm_X4_keepTrial hl ⟨fun n x1 x2 σ1 => ∃ m : Nat, x2 = m ∧ m ≤ pn D p ∧ n = pn D p - m ∧ x1 = ct (fun i => ¬ BxS σ (A 13 (pq D p i)) (A 14 (pq D p i))) m ∧ qChg (fun fl x => ∃ i, i < m ∧ kpn A D (pq D p i) fl x) σ σ1 ∧
    ∀ i, i < m → ∀ k, rS D p k < pn D p → rS D p k ≤ i → i < rS D p (k + 1) → gI σ1 209 (A 6 (pq D p i)) = k ∧ BxR σ1 (A 13 (pq D p i)) (pB D p k i) ∧ ∀ j, j < (hs D (pq D p i)).length → BxR σ1 (A 16 (bl D (pq D p i) j)) (box D p (pq D p i) (pWd D p k i) (pH D p k) j), ⟨_, 0, rfl, Nat.zero_le _, rfl, rfl, qChg_rf, fun i h => absurd h (Nat.not_lt_zero _)⟩, ?_⟩
  rintro n x1 x2 σ1 ⟨m, rfl, hm, rfl, rfl, hc1, hd1⟩
  have hc1k : qChg (kpW A D p) σ σ1 := qChg_mono hc1 (fun fl x ⟨i, hi, h⟩ => Or.inr ⟨i, by omega, h⟩)
  have hR1 := LR_kp (qChg_mono hc1k (fun _ _ => kpW_kp)) hR
  obtain ⟨p1, p2, p3, p4, p5, p6⟩ := hR1.2.1
  rw [p3]
  refine ⟨p1, p5, _, spec_sizeM hl p5 p6, by unfold qR; omega, by unfold qR; omega, fun hd σ2 h2 => ⟨_, rfl, ?_, ⟨fun k hk i a b => ?_, ?_⟩, ?_⟩, fun hd => ?_⟩
  · exact qChg_tr hc1k (Q := kpW A D p) (by rw [h2]; exact qChg_I (Or.inl ⟨rfl, rfl⟩)) (fun _ _ h => h) (fun _ _ h => h)
  · have hnx := rS_nx hw hk
    obtain ⟨d1, d2, d3⟩ := hd1 i (by omega) k hk a b
    refine ⟨?_, ?_, fun j hj => ?_⟩
    · rw [h2, gI_ne (fun z => absurd z.1 (by decide))]; exact d1
    · unfold BxR at d2 ⊢
      rw [h2]
      simp only [gI_sI, show ¬ (40 = 163) by decide, show ¬ (41 = 163) by decide, show ¬ (42 = 163) by decide, show ¬ (43 = 163) by decide, false_and, if_false]
      exact d2
    · have := d3 j hj
      unfold BxR at this ⊢
      rw [h2]
      simp only [gI_sI, show ¬ (40 = 163) by decide, show ¬ (41 = 163) by decide, show ¬ (42 = 163) by decide, show ¬ (43 = 163) by decide, false_and, if_false]
      exact this
  · rw [h2, gI_eq, hc1.2.2.2.2.2.1 164 _ (by unfold kpn; simp)]
    exact hT.2
  · rw [show m = pn D p by omega]
  have hmn : m < pn D p := by omega
  obtain ⟨s1, s2, s3, s4, s5⟩ := spec_at (g := g) hl hR1 (rfl : (m : Int) = m) hmn
  have s50 := s5
  obtain ⟨r1, r2, r3, r4, r5, r6, r7, r8, r9, r10, r11, r12, r13, r14, r15, r16, r17⟩ := s5
  obtain ⟨k, hk, hkm, hkm2⟩ := row_of hw hmn
  obtain ⟨t1, t2, t3⟩ := hT.1 k hk m hkm hkm2
  have hmem := pq_mem hmn
  have hne : ∀ i, i < m → pq D p i ≠ pq D p m := fun i hi z => by
    have := nodup_at hw.2.1 (show i < pn D p by omega) hmn z
    omega
  have hun : ∀ fl x, (x = A 13 (pq D p m) ∨ x = A 14 (pq D p m) ∨ (fl = 210 ∧ x = A 6 (pq D p m)) ∨ (∃ b, x = A 17 b)) → gI σ1 fl x = gI σ fl x := by
    intro fl x hx
    refine hc1.2.2.2.2.2.1 fl x ?_
    rintro ⟨i, hi, ⟨z1, z2⟩ | ⟨z1, z2, z3⟩⟩
    · rcases hx with rfl | rfl | ⟨h1, h2⟩ | ⟨b, rfl⟩
      · rw [hA.1] at z2; omega
      · rw [hA.1] at z2; omega
      · omega
      · rw [hA.1] at z2; omega
    · rcases hx with rfl | rfl | ⟨h1, h2⟩ | ⟨b, rfl⟩
      · rcases z3 with z3 | ⟨b, -, z3⟩
        · exact hne i hi (qInj_i hA z3).symm
        · rw [hA.1] at z3; omega
      · rcases z3 with z3 | ⟨b, -, z3⟩ <;> (rw [hA.1] at z3; omega)
      · omega
      · rcases z3 with z3 | ⟨b', -, z3⟩ <;> (rw [hA.1] at z3; omega)
  have hT1 : BxR σ1 (A 14 (pq D p m)) (pB D p k m) := by
    unfold BxR at t2 ⊢
    rw [hun _ _ (Or.inr (Or.inl rfl)), hun _ _ (Or.inr (Or.inl rfl)), hun _ _ (Or.inr (Or.inl rfl)), hun _ _ (Or.inr (Or.inl rfl))]
    exact t2
  have hQ1 : BxQ σ1 (A 13 (pq D p m)) := by
    have := hQ m hmn
    unfold BxQ at this ⊢
    rw [hun _ _ (Or.inl rfl), hun _ _ (Or.inl rfl), hun _ _ (Or.inl rfl), hun _ _ (Or.inl rfl)]
    exact this
  have hS1 : BxS σ1 (A 13 (pq D p m)) (A 14 (pq D p m)) = BxS σ (A 13 (pq D p m)) (A 14 (pq D p m)) := by
    unfold BxS
    rw [hun _ _ (Or.inl rfl), hun _ _ (Or.inl rfl), hun _ _ (Or.inl rfl), hun _ _ (Or.inl rfl), hun _ _ (Or.inr (Or.inl rfl)), hun _ _ (Or.inr (Or.inl rfl)), hun _ _ (Or.inr (Or.inl rfl)), hun _ _ (Or.inr (Or.inl rfl))]
  have hkeep := spec_keepPn (g := g) hl hA (D := D) (σ := σ1) (q := pq D p m) (rn := k) (b := pB D p k m) (bs := box D p (pq D p m) (pWd D p k m) (pH D p k)) s50 (hR1.2.2 _ hmem).2.2 (hpw m hmn).2.1 (hpw m hmn).2.2.1 (by rw [hun _ _ (Or.inr (Or.inr (Or.inl ⟨rfl, rfl⟩)))]; exact t1) hT1 (fun j hj => by
    have := t3 j hj
    unfold BxR at this ⊢
    rw [hun _ _ (Or.inr (Or.inr (Or.inr ⟨_, rfl⟩))), hun _ _ (Or.inr (Or.inr (Or.inr ⟨_, rfl⟩))), hun _ _ (Or.inr (Or.inr (Or.inr ⟨_, rfl⟩))), hun _ _ (Or.inr (Or.inr (Or.inr ⟨_, rfl⟩)))]
    exact this)
  have hstep : ∀ σ2, (qChg (kpn A D (pq D p m)) σ1 σ2 ∧ gI σ2 209 (A 6 (pq D p m)) = k ∧ BxR σ2 (A 13 (pq D p m)) (pB D p k m) ∧ ∀ j, j < (hs D (pq D p m)).length → BxR σ2 (A 16 (bl D (pq D p m) j)) (box D p (pq D p m) (pWd D p k m) (pH D p k) j)) →
      qChg (fun fl x => ∃ i, i < m + 1 ∧ kpn A D (pq D p i) fl x) σ σ2 ∧
    ∀ i, i < m + 1 → ∀ k, rS D p k < pn D p → rS D p k ≤ i → i < rS D p (k + 1) → gI σ2 209 (A 6 (pq D p i)) = k ∧ BxR σ2 (A 13 (pq D p i)) (pB D p k i) ∧ ∀ j, j < (hs D (pq D p i)).length → BxR σ2 (A 16 (bl D (pq D p i) j)) (box D p (pq D p i) (pWd D p k i) (pH D p k) j) := by
    rintro σ2 ⟨u1, u2, u3, u4⟩
    refine ⟨qChg_tr hc1 u1 (fun fl x ⟨i, hi, h⟩ => ⟨i, by omega, h⟩) (fun fl x h => ⟨m, by omega, h⟩), fun i hi k' hk' a b => ?_⟩
    by_cases c : i = m
    · subst c
      have hkk : k' = k := by
        rcases Nat.lt_trichotomy k k' with d | d | d
        · have := rS_mono hw (j := k + 1) (k := k') (by omega)
          omega
        · exact d.symm
        · have := rS_mono hw (j := k' + 1) (k := k) (by omega)
          omega
      subst hkk
      exact ⟨u2, u3, u4⟩
    · obtain ⟨d1, d2, d3⟩ := hd1 i (by omega) k' hk' a b
      have hnei := hne i (by omega)
      have hun2 : ∀ fl x, (x = A 6 (pq D p i) ∨ x = A 13 (pq D p i) ∨ ∃ j, j < (hs D (pq D p i)).length ∧ x = A 16 (bl D (pq D p i) j)) → gI σ2 fl x = gI σ1 fl x := by
        intro fl x hx
        refine u1.2.2.2.2.2.1 fl x ?_
        rintro (⟨z1, z2⟩ | ⟨z1, z2, z3⟩)
        · rcases hx with rfl | rfl | ⟨j, hj, rfl⟩
          · exact hnei (qInj_i hA z2)
          · rw [hA.1] at z2; omega
          · rw [hA.1] at z2; omega
        · rcases hx with rfl | rfl | ⟨j, hj, rfl⟩
          · rcases z3 with z3 | ⟨b', -, z3⟩ <;> (rw [hA.1] at z3; omega)
          · rcases z3 with z3 | ⟨b', -, z3⟩
            · exact hnei (qInj_i hA z3)
            · rw [hA.1] at z3; omega
          · rcases z3 with z3 | ⟨b', hb', z3⟩
            · rw [hA.1] at z3; omega
            · have e := qInj_i hA z3
              exact hnei (hw.2.2.2.2 _ _ b' (pq_mem (show i < pn D p by omega)) hmem (e ▸ bl_mem hj) hb')
      refine ⟨(hun2 _ _ (Or.inl rfl)).trans d1, ?_, fun j hj => ?_⟩
      · unfold BxR at d2 ⊢
        rw [hun2 _ _ (Or.inr (Or.inl rfl)), hun2 _ _ (Or.inr (Or.inl rfl)), hun2 _ _ (Or.inr (Or.inl rfl)), hun2 _ _ (Or.inr (Or.inl rfl))]
        exact d2
      · have := d3 j hj
        unfold BxR at this ⊢
        rw [hun2 _ _ (Or.inr (Or.inr ⟨j, hj, rfl⟩)), hun2 _ _ (Or.inr (Or.inr ⟨j, hj, rfl⟩)), hun2 _ _ (Or.inr (Or.inr ⟨j, hj, rfl⟩)), hun2 _ _ (Or.inr (Or.inr ⟨j, hj, rfl⟩))]
        exact this
  refine ⟨A 6 (pq D p m), s4, Or.inr r1, r1, by rw [r9]; exact r15, ?_⟩
  rw [r9, r10]
  refine ⟨_, spec_isLike hl r15 r16 hQ1 (BxR_Q hw hok hk hkm hkm2 hT1), by split <;> (unfold qR; omega), fun hv => ⟨_, hkeep, fun σ2 h2 x35 h35 => ⟨_, ?_, m + 1, by omega, by omega, rfl, ?_, hstep σ2 h2⟩⟩, fun hv x38 h38 => ⟨_, hkeep, fun σ2 h2 x35 h35 => ⟨_, ?_, m + 1, by omega, by omega, rfl, ?_, hstep σ2 h2⟩⟩⟩
  · omega
  · have hS : BxS σ1 (A 13 (pq D p m)) (A 14 (pq D p m)) := by
      by_cases c : BxS σ1 (A 13 (pq D p m)) (A 14 (pq D p m))
      · exact c
      · rw [if_neg c] at hv; exact absurd rfl hv
    rw [ct_s, if_neg (fun z => z (hS1 ▸ hS))]; omega
  · omega
  · have hS : ¬ BxS σ1 (A 13 (pq D p m)) (A 14 (pq D p m)) := by
      intro c
      rw [if_pos c] at hv; exact absurd hv (by decide)
    rw [ct_s, if_pos (hS1 ▸ hS), h38]
end
