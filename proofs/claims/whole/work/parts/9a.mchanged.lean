/-! the model: how many panels lie otherwise -/
theorem ct_take {n : Nat} {xs : List Nat} {P : Nat → Prop} (hnd : xs.Nodup) (hlt : ∀ x, x ∈ xs → x < n) : ∀ m, m ≤ xs.length → ct (fun q => q ∈ xs.take m ∧ P q) n = ct (fun i => P (xs.getD i 0)) m
  | 0, _ => by
    have : ct (fun q => q ∈ xs.take 0 ∧ P q) n = ct (fun _ => False) n := ct_congr (fun i _ => by simp)
    rw [this]
    have hz : ∀ k, ct (fun _ => False) k = 0 := by
      intro k
      induction k with
      | zero => rfl
      | succ k ih => rw [ct_s, ih, if_neg (fun z => z)]; rfl
    rw [hz]; rfl
  | m + 1, hm => by
    have ih := ct_take (P := P) hnd hlt m (by omega)
    have e : xs.take (m + 1) = xs.take m ++ [xs.getD m 0] := by
      rw [List.take_add_one, List.getD_eq_getElem?_getD, List.getElem?_eq_getElem (show m < xs.length by omega)]; rfl
    have hx : xs.getD m 0 ∈ xs := by
      rw [List.getD_eq_getElem?_getD, List.getElem?_eq_getElem (show m < xs.length by omega)]
      exact List.getElem_mem _
    have hni : xs.getD m 0 ∉ xs.take m := by
      intro z
      have h2 := hnd
      rw [← List.take_append_drop m xs, List.nodup_append] at h2
      refine h2.2.2 _ z _ ?_ rfl
      rw [List.getD_eq_getElem?_getD, List.getElem?_eq_getElem (show m < xs.length by omega)]
      exact List.mem_drop_iff_getElem.mpr ⟨0, by omega, by simp⟩
    rw [ct_s, ← ih]
    by_cases c : P (xs.getD m 0)
    · rw [if_pos c]
      refine ct_one (b := xs.getD m 0) (fun z => hni z.1) (hlt _ hx) (fun i hi => ?_)
      rw [e, List.mem_append, List.mem_singleton]
      constructor
      · rintro ⟨z | z, h⟩
        · exact Or.inl ⟨z, h⟩
        · exact Or.inr z
      · rintro (z | z)
        · exact ⟨Or.inl z.1, z.2⟩
        · exact ⟨Or.inr z, by rw [z]; exact c⟩
    · rw [if_neg c, Int.add_zero]
      refine ct_congr (fun i hi => ?_)
      rw [e, List.mem_append, List.mem_singleton]
      constructor
      · rintro ⟨z | z, h⟩
        · exact ⟨z, h⟩
        · rw [z] at h; exact absurd h c
      · rintro z
        exact ⟨Or.inl z.1, z.2⟩
theorem ct_add {n : Nat} {P Q : Nat → Prop} (h : ∀ i, i < n → ¬ (P i ∧ Q i)) : ct (fun i => P i ∨ Q i) n = ct P n + ct Q n := by
  induction n with
  | zero => rfl
  | succ n ih =>
    rw [ct_s, ct_s, ct_s, ih (fun i hi => h i (by omega))]
    have := h n (by omega)
    by_cases a : P n
    · rw [if_pos (Or.inl a), if_pos a, if_neg (fun z => this ⟨a, z⟩)]; omega
    · by_cases b : Q n
      · rw [if_pos (Or.inr b), if_neg a, if_pos b]; omega
      · rw [if_neg (fun z => z.elim a b), if_neg a, if_neg b]; omega
section
variable {g : qG} {l : Launch} {A : Nat → Nat → Nat} {D D1 : qD} {σ : qS}
/-- the panels of a page, counted -/
theorem ct_page (hw : WF0 D1) {p : Nat} (hp' : p < np D1) {P : Nat → Prop} : ct (fun q => gq D1 q = 0 ∧ hp D1 q = p ∧ P q) (nq D1) = ct (fun i => P (pq D1 p i)) (pn D1 p) := by
  have hS := hw.2.1 p hp'
  have h1 := ct_take (n := nq D1) (xs := row D1 p) (P := P) hS.2.1 (fun x hx => row_lt hw hp' hx) (row D1 p).length (Nat.le_refl _)
  rw [List.take_length] at h1
  have h2 : ct (fun q => gq D1 q = 0 ∧ hp D1 q = p ∧ P q) (nq D1) = ct (fun q => q ∈ row D1 p ∧ P q) (nq D1) := by
    refine ct_congr (fun q hq => ⟨fun z => ⟨?_, z.2.2⟩, fun z => ?_⟩)
    · have := (alP_home hw ⟨hq, z.1⟩).2
      rw [z.2.1] at this
      exact this
    · obtain ⟨a, b⟩ := hS.2.2.2 q z.1
      exact ⟨a.2, b, z.2⟩
  rw [h2, h1]
  rfl
theorem chg_ct (hw : WF0 D1) {p : Nat} (hp' : p < np D1) : ct (fun q => gq D1 q = 0 ∧ hp D1 q = p ∧ LB D q ≠ LB D1 q) (nq D1) = chg D D1 p := ct_page hw hp'
theorem chgs_ct (hw : WF0 D1) : ∀ m, m ≤ np D1 → ct (fun q => gq D1 q = 0 ∧ hp D1 q < m ∧ LB D q ≠ LB D1 q) (nq D1) = sm (chg D D1) m
  | 0, _ => by
    have : ct (fun q => gq D1 q = 0 ∧ hp D1 q < 0 ∧ LB D q ≠ LB D1 q) (nq D1) = ct (fun _ => False) (nq D1) := ct_congr (fun i _ => ⟨fun z => absurd z.2.1 (Nat.not_lt_zero _), fun z => z.elim⟩)
    rw [this]
    have hz : ∀ k, ct (fun _ => False) k = 0 := by
      intro k
      induction k with
      | zero => rfl
      | succ k ih => rw [ct_s, ih, if_neg (fun z => z)]; rfl
    rw [hz]; rfl
  | m + 1, hm => by
    have ih := chgs_ct hw m (by omega)
    show _ = sm (chg D D1) m + chg D D1 m
    rw [← ih, ← chg_ct hw (show m < np D1 by omega), ← ct_add (fun i hi z => by have := z.1.2.1; have := z.2.2.1; omega)]
    refine ct_congr (fun q hq => ⟨fun z => ?_, fun z => ?_⟩)
    · by_cases c : hp D1 q = m
      · exact Or.inr ⟨z.1, c, z.2.2⟩
      · exact Or.inl ⟨z.1, by have := z.2.1; omega, z.2.2⟩
    · rcases z with z | z
      · exact ⟨z.1, by have := z.2.1; omega, z.2.2⟩
      · exact ⟨z.1, by have := z.2.1; omega, z.2.2⟩
theorem chgs_all (hw : WF0 D1) : ct (fun q => gq D1 q = 0 ∧ LB D q ≠ LB D1 q) (nq D1) = sm (chg D D1) (np D1) := by
  rw [← chgs_ct hw (np D1) (Nat.le_refl _)]
  exact ct_congr (fun q hq => ⟨fun z => ⟨z.1, (hw.2.2.2.2.1 q hq).2.1, z.2⟩, fun z => ⟨z.1, z.2.2⟩⟩)
def bxQ (b : Bx) : Prop := qR b.1 ∧ qR b.2.1 ∧ qR b.2.2.1 ∧ qR b.2.2.2
theorem LB_Q (hw : WF D) {q : Nat} (hq : alP D q) : bxQ (LB D q) := by
  obtain ⟨hpn, hm⟩ := alP_home hw.1 hq
  have := La_Q (σ := ((fun f _ => if f = 40 then (LB D q).1 else if f = 41 then (LB D q).2.1 else if f = 42 then (LB D q).2.2.1 else (LB D q).2.2.2), fun _ _ => 0, fun _ _ => 0, fun _ _ => 0, fun _ => [], fun _ => 0, fun _ => 0)) (A := fun _ _ => 0) hw hpn hm ⟨rfl, rfl, rfl, rfl⟩
  exact this
theorem spec_changed (hl : l.stackTraces = false) (h : MB A D1 σ) (hw : WF0 D1) (hnq : gI σ 322 (A 30 0) = nq D1) {L0 L1 : Nat → Bx} (h60 : ∀ q : Nat, q < nq D1 → MBox A σ 60 (5 * (q : Int) + 1) (L1 q) ∧ bxQ (L1 q)) (h73 : ∀ q : Nat, q < nq D1 → MBox A σ 73 (5 * (q : Int) + 1) (L0 q) ∧ bxQ (L0 q)) {a : Int} (ha : qR a) :
    qMet g l M_X8_changed [vr (A 30 0), vi a] σ (qPi σ (ct (fun q => gq D1 q = 0 ∧ (a = -1 ∨ a = hp D1 q) ∧ L0 q ≠ L1 q) (nq D1))) := by
  have hn := hw.1
  obtain ⟨a1, a2, a3⟩ := m329 h.1
  obtain ⟨b1, b2, b3⟩ := m340 h.1
  obtain ⟨c1, c2, c3⟩ := m353 h.1
  refine wm_X8_changed hl ⟨fun n x1 x2 => ∃ k : Nat, x2 = k ∧ k ≤ nq D1 ∧ n = nq D1 - k ∧ x1 = ct (fun q => gq D1 q = 0 ∧ (a = -1 ∨ a = hp D1 q) ∧ L0 q ≠ L1 q) k, ⟨_, 0, rfl, Nat.zero_le _, rfl, rfl⟩, ?_⟩
  rintro n x1 x2 ⟨k, rfl, hk, rfl, rfl⟩
  rw [hnq, a1, b1, c1]
  refine ⟨h.1.1, by unfold qR; omega, by unfold qR; omega, fun hd => ⟨rfl, ?_⟩, fun hd => ?_⟩
  · rw [show k = nq D1 by omega]
  have hkn : k < nq D1 := by omega
  have hpk : gA σ (A 49 0) (k : Int) = pgv D1 k := (h.2.1.2.2.1 k hkn).1
  rw [hpk]
  obtain ⟨m1, q1⟩ := h60 k hkn
  obtain ⟨m0, q0⟩ := h73 k hkn
  refine ⟨q_isA0 a2, ⟨by omega, by rw [a3]; omega⟩, ⟨pgv_Q hw hkn, fun _ => ha⟩, fun v20 h20 => ?_⟩
  have hv20 : v20 = if gq D1 k = 0 ∧ (a = -1 ∨ a = hp D1 k) then 1 else 0 := by
    rw [h20]
    by_cases c : gq D1 k = 0
    · rw [if_neg (fun z => pgv_ne.mp z c)]
      have e : pgv D1 k = hp D1 k := by unfold pgv; rw [if_pos c]
      rw [e]
      by_cases d : a = -1
      · rw [if_pos d, if_pos ⟨c, Or.inl d⟩]
      · rw [if_neg d]
        by_cases f : (hp D1 k : Int) = a
        · rw [if_neg (fun z => z f), if_pos ⟨c, Or.inr f.symm⟩]
        · rw [if_pos f, if_neg (fun z => z.2.elim d (fun y => f y.symm))]
    · rw [if_pos (pgv_ne.mpr c), if_neg (fun z => c z.1)]
  clear h20
  -- the four numbers
  have hnum : ∀ i : Nat, 1 ≤ i → i < 5 → ∃ y0 y1 : Int, gA σ (A 60 0) (5 * (k : Int) + i) = y1 ∧ gA σ (A 73 0) (5 * (k : Int) + i) = y0 ∧ qR y0 ∧ qR y1 := by
    intro i i1 i5
    refine ⟨_, _, rfl, rfl, ?_, ?_⟩
    · rcases (show i = 1 ∨ i = 2 ∨ i = 3 ∨ i = 4 by omega) with e | e | e | e
      · subst e; have := m0.1; rw [show (5 * (k : Int) + ((1 : Nat) : Int)) = 5 * (k : Int) + 1 by omega, this]; exact q0.1
      · subst e; have := m0.2.1; rw [show (5 * (k : Int) + ((2 : Nat) : Int)) = 5 * (k : Int) + 1 + 1 by omega, this]; exact q0.2.1
      · subst e; have := m0.2.2.1; rw [show (5 * (k : Int) + ((3 : Nat) : Int)) = 5 * (k : Int) + 1 + 2 by omega, this]; exact q0.2.2.1
      · subst e; have := m0.2.2.2; rw [show (5 * (k : Int) + ((4 : Nat) : Int)) = 5 * (k : Int) + 1 + 3 by omega, this]; exact q0.2.2.2
    · rcases (show i = 1 ∨ i = 2 ∨ i = 3 ∨ i = 4 by omega) with e | e | e | e
      · subst e; have := m1.1; rw [show (5 * (k : Int) + ((1 : Nat) : Int)) = 5 * (k : Int) + 1 by omega, this]; exact q1.1
      · subst e; have := m1.2.1; rw [show (5 * (k : Int) + ((2 : Nat) : Int)) = 5 * (k : Int) + 1 + 1 by omega, this]; exact q1.2.1
      · subst e; have := m1.2.2.1; rw [show (5 * (k : Int) + ((3 : Nat) : Int)) = 5 * (k : Int) + 1 + 2 by omega, this]; exact q1.2.2.1
      · subst e; have := m1.2.2.2; rw [show (5 * (k : Int) + ((4 : Nat) : Int)) = 5 * (k : Int) + 1 + 3 by omega, this]; exact q1.2.2.2
  have hsame : (∀ i : Nat, 1 ≤ i → i < 5 → gA σ (A 60 0) (5 * (k : Int) + i) = gA σ (A 73 0) (5 * (k : Int) + i)) ↔ L0 k = L1 k := by
    have e1 := m1.1; have e2 := m1.2.1; have e3 := m1.2.2.1; have e4 := m1.2.2.2
    have f1 := m0.1; have f2 := m0.2.1; have f3 := m0.2.2.1; have f4 := m0.2.2.2
    constructor
    · intro z
      have z1 := z 1 (by decide) (by decide)
      have z2 := z 2 (by decide) (by decide)
      have z3 := z 3 (by decide) (by decide)
      have z4 := z 4 (by decide) (by decide)
      rw [show (5 * (k : Int) + ((1 : Nat) : Int)) = 5 * (k : Int) + 1 by omega, e1, f1] at z1
      rw [show (5 * (k : Int) + ((2 : Nat) : Int)) = 5 * (k : Int) + 1 + 1 by omega, e2, f2] at z2
      rw [show (5 * (k : Int) + ((3 : Nat) : Int)) = 5 * (k : Int) + 1 + 2 by omega, e3, f3] at z3
      rw [show (5 * (k : Int) + ((4 : Nat) : Int)) = 5 * (k : Int) + 1 + 3 by omega, e4, f4] at z4
      exact Prod.ext z1.symm (Prod.ext z2.symm (Prod.ext z3.symm z4.symm))
    · intro z i i1 i5
      rcases (show i = 1 ∨ i = 2 ∨ i = 3 ∨ i = 4 by omega) with e | e | e | e
      · subst e; rw [show (5 * (k : Int) + ((1 : Nat) : Int)) = 5 * (k : Int) + 1 by omega, e1, f1, z]
      · subst e; rw [show (5 * (k : Int) + ((2 : Nat) : Int)) = 5 * (k : Int) + 1 + 1 by omega, e2, f2, z]
      · subst e; rw [show (5 * (k : Int) + ((3 : Nat) : Int)) = 5 * (k : Int) + 1 + 2 by omega, e3, f3, z]
      · subst e; rw [show (5 * (k : Int) + ((4 : Nat) : Int)) = 5 * (k : Int) + 1 + 3 by omega, e4, f4, z]
  refine ⟨fun n x26 x27 => ∃ i : Nat, x27 = i ∧ 1 ≤ i ∧ i ≤ 5 ∧ n = 5 - i ∧ (x26 = 0 ∨ x26 = 1) ∧ (x26 = 1 ↔ ∀ j : Nat, 1 ≤ j → j < i → gA σ (A 60 0) (5 * (k : Int) + j) = gA σ (A 73 0) (5 * (k : Int) + j)), ⟨_, 1, rfl, by decide, by decide, rfl, Or.inr rfl, ⟨fun _ j j1 j2 => by omega, fun _ => rfl⟩⟩, ?_⟩
  rintro n x26 x27 ⟨i, rfl, hi1, hi5, rfl, h01, hiff⟩
  have hq26 : qR x26 := by rcases h01 with z | z <;> (rw [z]; unfold qR; omega)
  refine ⟨by unfold qR; omega, fun hd5 => ⟨fun _ => hq26, fun v39 h39 x45 h45 x47 h47 => ⟨_, ?_, k + 1, by omega, by omega, rfl, ?_⟩⟩, fun hd5 => ?_⟩
  · omega
  · have hi : i = 5 := by omega
    subst hi
    rw [hsame] at hiff
    rw [ct_s, h45, h39, hv20]
    by_cases c : gq D1 k = 0 ∧ (a = -1 ∨ a = hp D1 k)
    · rw [if_pos c, if_neg (show ¬ ((1 : Int) = 0) by decide)]
      by_cases d : L0 k = L1 k
      · rw [if_pos (by have := hiff.mpr d; omega), if_neg (fun z => z.2.2 d)]
      · rw [if_neg (show ¬ ¬ x26 = 0 from fun z => by
          rcases h01 with y | y
          · exact z y
          · exact d (hiff.mp y)), if_pos ⟨c.1, c.2, d⟩]
    · rw [if_neg c, if_pos rfl, if_neg (fun z => c ⟨z.1, z.2.1⟩)]
  · obtain ⟨y0, y1, e1, e0, r0, r1⟩ := hnum i hi1 (by omega)
    rw [e1, e0]
    refine ⟨⟨hq26, fun _ => ⟨q_isA0 b2, ⟨by omega, by rw [b3]; omega⟩, q_isA0 c2, ⟨by omega, by rw [c3]; omega⟩, r1, r0⟩⟩, fun v62 h62 x68 h68 => ⟨_, ?_, i + 1, by omega, by omega, by omega, rfl, ?_, ?_⟩⟩
    · omega
    · rw [h62]
      by_cases c : x26 = 0
      · rw [if_pos c]; exact Or.inl rfl
      · rw [if_neg c]
        by_cases d : y1 = y0
        · rw [if_neg (fun z => z d)]; exact Or.inr rfl
        · rw [if_pos d]; exact Or.inl rfl
    · rw [h62]
      by_cases c : x26 = 0
      · rw [if_pos c]
        refine ⟨fun z => absurd z (by decide), fun z => ?_⟩
        have := hiff.mpr (fun j j1 j2 => z j j1 (by omega))
        omega
      · rw [if_neg c]
        have hx1 : x26 = 1 := by omega
        have hp1 := hiff.mp hx1
        by_cases d : y1 = y0
        · rw [if_neg (fun z => z d)]
          refine ⟨fun _ j j1 j2 => ?_, fun _ => rfl⟩
          by_cases f : j = i
          · rw [f, e1, e0]; exact d
          · exact hp1 j j1 (by omega)
        · rw [if_pos d]
          refine ⟨fun z => absurd z (by decide), fun z => ?_⟩
          have := z i hi1 (by omega)
          rw [e1, e0] at this
          exact absurd this d
end
