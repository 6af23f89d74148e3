/-! the class: cells, pairs, spreads -/
theorem plN_lt {t gg W Ht : Int} {fc : List (Int × Int × Int)} {f : Nat → Int} {c j : Nat} (hf : pFit t gg W Ht fc f c) : ∀ {j' : Nat}, j < j' → j' < c → plN t gg W Ht fc f j < plN t gg W Ht fc f j'
  | 0, h, _ => absurd h (Nat.not_lt_zero _)
  | j' + 1, h, hc => by
    have h1 := (box_ok hf hc).2.2.1
    rw [pl_1] at h1
    by_cases d : j = j'
    · rw [d]; omega
    · have := plN_lt hf (j := j) (j' := j') (by omega) (by omega)
      omega
section
variable {D : qD}
/-- a balloon's box in its panel, by its spot -/
theorem FB_at (hw : WF D) {q j : Nat} (hq : alP D q) (hj : j < (hs D q).length) : ∃ w h : Int, FBq D q j = cnd (tg D (hp D q)) (LB D q).2.2.1 w h (plN (tg D (hp D q)) (gro D (hp D q)) (LB D q).2.2.1 (LB D q).2.2.2 (fc D q) (lts D q) j) ∧ (1 ≤ w ∧ w ≤ 6) ∧ 1 ≤ h ∧
    ((plN (tg D (hp D q)) (gro D (hp D q)) (LB D q).2.2.1 (LB D q).2.2.2 (fc D q) (lts D q) j : Nat) : Int) % (LB D q).2.2.1 + w ≤ (LB D q).2.2.1 ∧ ((plN (tg D (hp D q)) (gro D (hp D q)) (LB D q).2.2.1 (LB D q).2.2.2 (fc D q) (lts D q) j : Nat) : Int) / (LB D q).2.2.1 + h ≤ (LB D q).2.2.2 := by
  obtain ⟨hfit, hW, hH⟩ := LB_fit hw hq
  obtain ⟨e1, e2, -⟩ := box_ok hfit hj
  have hP := (hw.1.2.2.2.2.1 q hq.1).2.2.1
  have hpg := (alP_home hw.1 hq).1
  have hT := (WF0_Pg hw.1 hpg).1
  have hm := mny_le hT.2 (hP.2.2.2.1 _ (bl_mem hj)).1
  have hwd := wde_le (W := (LB D q).2.2.1) (by omega) hm.2.1
  have hhg := hgh_le hwd.1 hwd.2.2.2
  exact ⟨_, _, e1, ⟨hwd.1, hwd.2.1⟩, hhg.1, e2.1, e2.2.1⟩
theorem FB_b (hw : WF D) {q j : Nat} (hq : alP D q) (hj : j < (hs D q).length) : (0 ≤ (FBq D q j).1 ∧ (FBq D q j).1 ≤ 24) ∧ (0 ≤ (FBq D q j).2.1 ∧ (FBq D q j).2.1 ≤ 16) ∧ (1 ≤ (FBq D q j).2.2.1 ∧ (FBq D q j).2.2.1 ≤ 6) ∧ 1 ≤ (FBq D q j).2.2.2 ∧ (FBq D q j).2.2.2 ≤ 16 := by
  obtain ⟨hfit, hW, hH⟩ := LB_fit hw hq
  obtain ⟨w, h, e, hw1, hh1, k1, k2⟩ := FB_at hw hq hj
  rw [e]
  have m0 : 0 ≤ ((plN (tg D (hp D q)) (gro D (hp D q)) (LB D q).2.2.1 (LB D q).2.2.2 (fc D q) (lts D q) j : Nat) : Int) % (LB D q).2.2.1 := Int.emod_nonneg _ (by omega)
  have m1 : 0 ≤ ((plN (tg D (hp D q)) (gro D (hp D q)) (LB D q).2.2.1 (LB D q).2.2.2 (fc D q) (lts D q) j : Nat) : Int) / (LB D q).2.2.1 := Int.ediv_nonneg (by omega) (by omega)
  unfold cnd
  refine ⟨?_, ⟨m1, by show _ / _ ≤ (16 : Int); omega⟩, hw1, hh1, by show h ≤ 16; omega⟩
  show 0 ≤ (if tg D (hp D q) = 1 then (LB D q).2.2.1 - _ % (LB D q).2.2.1 - w else _ % (LB D q).2.2.1) ∧ (if tg D (hp D q) = 1 then (LB D q).2.2.1 - _ % (LB D q).2.2.1 - w else _ % (LB D q).2.2.1) ≤ 24
  split <;> omega
theorem kOf_mono (hw : WF0 D) {p i i' : Nat} (hp' : p < np D) (h : i ≤ i') (hi : i' < pn D p) : kOf D p i ≤ kOf D p i' := by
  have hP := WF0_Pg hw hp'
  obtain ⟨a1, a2, a3⟩ := kOf_sp hP (show i < pn D p by omega)
  obtain ⟨b1, b2, b3⟩ := kOf_sp hP hi
  rcases Nat.lt_or_ge (kOf D p i') (kOf D p i) with c | c
  · have := rS_mono hP (j := kOf D p i' + 1) (k := kOf D p i) (by omega)
    omega
  · exact c
theorem pX_lt (hw : WF D) {p k i i' : Nat} (hp' : p < np D) (hk : rS D p k < pn D p) (h1 : rS D p k ≤ i) (h : i < i') (h2 : i' < rS D p (k + 1)) : pX D p k i < pX D p k i' := by
  have hP := WF0_Pg hw.1 hp'
  have hok := hw.2.1 p hp'
  have hle : pX D p k (i + 1) ≤ pX D p k i' := by
    unfold pX
    have := sm_mono (f := pW D p (rS D p k) (rS D p (k + 1))) (a := i + 1) (b := i') (fun j a b => by
      have := (pB_b hP hok hk (i := j) (by omega) (by omega)).1.1
      unfold pWd at this
      omega) (by omega)
    omega
  have hs : pX D p k (i + 1) = pX D p k i + pWd D p k i := by
    unfold pX pWd
    show sm _ i + pW D p (rS D p k) (rS D p (k + 1)) i - _ = _
    omega
  have := (pB_b hP hok hk h1 (by omega)).1.1
  omega
end
section
variable {g : qG} {l : Launch} {A : Nat → Nat → Nat} {D : qD} {σ : qS}
theorem spec_cell (hl : l.stackTraces = false) (hA : qInj A) (h : CR A D σ) (hw : WF D) {q x y : Int} (hq : qR q) (hx : qR x) (hy : qR y) : qMet g l M_X7_cell [vr (A 0 0), vi q, vi x, vi y] σ (qQo σ (o_cell D q x y)) := by
  unfold o_cell
  refine wm_X7_cell hl ⟨h.1.1, _, _, spec_needPanel hl h hw.1 hq, fun σ1 v h1 => ?_, fun σ1 n h1 => ?_⟩
  · obtain ⟨rfl, hok, rfl⟩ := h1
    have hP := CR_pn h hok.2
    have hP0 := hP
    obtain ⟨⟨r1, r2, r3, r4, r5, r6, r7, r8, r9, r10, r11, r12, r13, r14, r15, r16, r17⟩, d2, d3⟩ := hP
    obtain ⟨d4, d5⟩ := d3 hok.2.2
    obtain ⟨hfit, hW, hH⟩ := LB_fit hw hok.2
    have hS := (hw.1.2.2.2.2.1 _ hok.2.1).2.2.1
    rw [r9, d5.2.2.1]
    refine ⟨r1, r15, _, _, spec_needPlace hl hx (by unfold qR; omega), fun σ2 h2 => ?_, fun σ2 n h2 => ?_⟩
    · obtain ⟨rfl, hx1⟩ := h2
      rw [r9, d5.2.2.2]
      refine ⟨r1, r15, _, _, spec_needPlace hl hy (by unfold qR; omega), fun σ3 h3 => ?_, fun σ3 n h3 => ?_⟩
      · obtain ⟨rfl, hy1⟩ := h3
        rw [cif_pos ⟨hok, hx1, hy1⟩]
        have hcl : ∀ v, CL D q.toNat x y v → celV D q.toNat x y = v := fun v hv => tho_eq hv (fun v' => CL_u hw hok.2 hv)
        refine ⟨fun n i => ∃ k : Nat, i = k ∧ k ≤ (hs D q.toNat).length ∧ n = 10 - k ∧ ∀ j, j < k → ¬ inB (FBq D q.toNat j) x y, ⟨_, 0, rfl, Nat.zero_le _, rfl, fun j hj => absurd hj (Nat.not_lt_zero _)⟩, ?_⟩
        rintro n i ⟨k, rfl, hk, rfl, hno⟩
        have h4 := hS.2.2.1
        rw [r8]
        refine ⟨r1, r13, _, spec_sizeM hl r13 r14, by unfold qR; omega, by unfold qR; omega, fun hd => ⟨_, spec_hasFace hl hA hP0 hok.2.2 hS.1 rfl (by omega) hx hy, ?_, fun v hv => ⟨rfl, ?_⟩⟩, fun hd => ?_⟩
        · unfold cif
          split <;> (unfold qR; omega)
        · have hk2 : k = (hs D q.toNat).length := by omega
          subst hk2
          rw [hcl _ (Or.inr ⟨hno, rfl⟩), hv]
          by_cases c : covF (fc D q.toNat) (LB D q.toNat).2.2.2 x y
          · rw [cif_pos c, cif_pos c]; rfl
          · rw [cif_neg c, cif_neg c]; rfl
        · have hkl : k < (hs D q.toNat).length := by omega
          obtain ⟨z1, z2, z3, z4⟩ := ky_at hw.1 hok.2 hkl
          obtain ⟨⟨b1, b2, b3, b4, b5, b6, b7, b8⟩, b9, b10, b11⟩ := CR_bl h z1
          have hbx := b11 z1.2
          rw [FB_eq hw.1 hok.2 hkl] at hbx
          obtain ⟨g1, g2, g3, g4⟩ := FB_b hw hok.2 hkl
          have hget := spec_getM (g := g) hl r13 r14 (i := (k : Int)) rfl hkl
          refine ⟨A 7 (bl D q.toNat k), hget, Or.inr b1, b1, by rw [b4]; exact b7, ?_⟩
          rw [b4]
          obtain ⟨x1, x2, x3, x4⟩ := hbx
          refine ⟨cif (inB (FBq D q.toNat k) x y) 1 0, wm_X1_holds hl ⟨b7, ?_, fun v hv => ⟨rfl, ?_⟩⟩, by unfold cif; split <;> (unfold qR; omega), fun hz x62 h62 => ⟨_, ?_, k + 1, by omega, by omega, rfl, fun j hj => ?_⟩, fun hz => ⟨A 7 (bl D q.toNat k), hget, Or.inr b1, b1, rfl, ?_⟩⟩
          · rw [x1, x2, x3, x4]
            exact ⟨hx, by unfold qR; omega, fun _ => ⟨by unfold qR; omega, fun _ => ⟨hy, by unfold qR; omega, fun _ => by unfold qR; omega⟩⟩⟩
          · rw [hv, x1, x2, x3, x4]
            by_cases c : inB (FBq D q.toNat k) x y
            · rw [cif_pos c]
              obtain ⟨c1, c2, c3, c4⟩ := c
              rw [if_neg (by omega), if_neg (by omega), if_neg (by omega), if_neg (by omega)]
            · rw [cif_neg c]
              unfold inB at c
              by_cases t1 : x < (FBq D q.toNat k).1
              · rw [if_pos t1]
              · rw [if_neg t1]
                by_cases t2 : (FBq D q.toNat k).1 + (FBq D q.toNat k).2.2.1 ≤ x
                · rw [if_pos t2]
                · rw [if_neg t2]
                  by_cases t3 : y < (FBq D q.toNat k).2.1
                  · rw [if_pos t3]
                  · rw [if_neg t3, if_pos (by omega)]
          · omega
          · by_cases c : j = k
            · rw [c]
              intro hin
              rw [cif_pos hin] at hz
              exact absurd hz (by decide)
            · exact hno j (by omega)
          · have hin : inB (FBq D q.toNat k) x y := by
              by_cases c : inB (FBq D q.toNat k) x y
              · exact c
              · rw [cif_neg c] at hz
                exact absurd rfl hz
            rw [hcl _ (Or.inl ⟨k, hkl, hin, rfl⟩), b2]
      · obtain ⟨rfl, hy1, rfl⟩ := h3
        rw [cif_neg (fun z => hy1 z.2.2)]
        exact ⟨rfl, rfl⟩
    · obtain ⟨rfl, hx1, rfl⟩ := h2
      rw [cif_neg (fun z => hx1 z.2.1)]
      exact ⟨rfl, rfl⟩
  · obtain ⟨rfl, hok, rfl⟩ := h1
    rw [cif_neg (fun z => hok z.1)]
    exact ⟨rfl, rfl⟩
theorem spec_isNearer (hl : l.stackTraces = false) {x y : Nat} {W t u v : Int} (hx : gK σ x = 2) (hy : gK σ y = 2) (hu : u = if t = 1 then W - gI σ 40 x - gI σ 42 x else gI σ 40 x) (hv : v = if t = 1 then W - gI σ 40 y - gI σ 42 y else gI σ 40 y) (qu : qR u) (qv : qR v) :
    qMet g l M_X0_isNearer [vr x, vr y, vi W, vi (if ¬ t = 1 then 0 else 1)] σ (qPi σ (cif (u < v) 1 0)) := by
  refine wm_X0_isNearer hl ⟨hx, u, spec_turned hl hu, hy, v, spec_turned hl hv, ⟨qu, qv⟩, fun w hww => ⟨rfl, ?_⟩⟩
  rw [hww]
  by_cases c : u < v
  · rw [cif_pos c, if_neg (by omega)]
  · rw [cif_neg c, if_pos (by omega)]
theorem cif_01 {P : Prop} : cif P (1 : Int) 0 = 0 ∨ cif P (1 : Int) 0 = 1 := by
  by_cases c : P
  · rw [cif_pos c]; exact Or.inr rfl
  · rw [cif_neg c]; exact Or.inl rfl
theorem cif_if {P : Prop} {a b : Int} (h : P ↔ a < b) : (if b ≤ a then (0 : Int) else 1) = cif P 1 0 := by
  by_cases c : P
  · rw [cif_pos c, if_neg (by have := h.mp c; omega)]
  · rw [cif_neg c, if_pos (by rcases Int.lt_or_le a b with z | z; exact absurd (h.mpr z) c; exact z)]
theorem cif_iff {P Q : Prop} {a b : Int} (h : P ↔ Q) : cif P a b = cif Q a b := by
  by_cases c : P
  · rw [cif_pos c, cif_pos (h.mp c)]
  · rw [cif_neg c, cif_neg (fun z => c (h.mpr z))]
theorem spec_liesBefore (hl : l.stackTraces = false) (hA : qInj A) (h : CR A D σ) (hw : WF D) {b c : Nat} (hb' : alB D b) (hc' : alB D c) : qMet g l M_X0_liesBefore [vr (A 7 b), vr (A 7 c)] σ (qPi σ (cif (ky D b < ky D c) 1 0)) := by
  obtain ⟨hqb, hbm⟩ := alB_home hw.1 hb'
  obtain ⟨hqc, hcm⟩ := alB_home hw.1 hc'
  obtain ⟨⟨b1, b2, b3, b4, b5, b6, b7, b8⟩, -, -, b11⟩ := CR_bl h hb'
  obtain ⟨⟨c1, c2, c3, c4, c5, c6, c7, c8⟩, -, -, c11⟩ := CR_bl h hc'
  have fb := b11 hb'.2
  have fcc := c11 hc'.2
  obtain ⟨pb, -, pb3⟩ := CR_pn h hqb
  obtain ⟨pc, -, pc3⟩ := CR_pn h hqc
  obtain ⟨kb, lb⟩ := pb3 hqb.2
  obtain ⟨kc, lc⟩ := pc3 hqc.2
  have hnb := alP_home hw.1 hqb
  have hnc := alP_home hw.1 hqc
  have gb' := h.2.2.2.1 _ hnb.1
  have gc' := h.2.2.2.1 _ hnc.1
  have ib := ixP_lt hw.1 hqb
  have ic := ixP_lt hw.1 hqc
  have jb := ixB_lt hw.1 hb'
  have jc := ixB_lt hw.1 hc'
  have hn := hw.1.1.1
  have ekb : ky D b = 4 * (8 * hp D (hb D b) + ixP D (hb D b)) + ixB D b := rfl
  have ekc : ky D c = 4 * (8 * hp D (hb D c) + ixP D (hb D c)) + ixB D c := rfl
  have hPb := WF0_Pg hw.1 hnb.1
  have hok := hw.2.1 _ hnb.1
  refine wm_X0_liesBefore hl ⟨c1, fun x2 hx2 => ⟨b1, ?_⟩⟩
  rw [c6] at hx2
  subst hx2
  rw [b6, pb.2.2.1, pc.2.2.1, b4, c4, pb.2.2.2.2.2.2.2.2.1, pc.2.2.2.2.2.2.2.2.1, kb, kc, fb.2.1, fcc.2.1, lb.2.2.1, gc'.1.2.1]
  refine ⟨pb.1, fun x6 hx6 => ?_⟩
  subst hx6
  rw [gb'.1.2.1]
  obtain ⟨kb1, kb2, kb3⟩ := kOf_sp hPb ib.1
  have hkb : kq D (hb D b) = kOf D (hp D (hb D b)) (ixP D (hb D b)) := rfl
  have hkc : kq D (hb D c) = kOf D (hp D (hb D c)) (ixP D (hb D c)) := rfl
  have hkn : ∀ q, alP D q → kq D q ≤ 8 := by
    intro q hq
    have hn2 := alP_home hw.1 hq
    have := (lsp_sp (fun k => ixP D q < rS D (hp D q) (k + 1)) (pn D (hp D q))).1
    have h2 := (hw.1.2.1 _ hn2.1).2.2.1
    have h3 : kq D q = lsp (fun k => ixP D q < rS D (hp D q) (k + 1)) (pn D (hp D q)) := rfl
    omega
  have hkb8 := hkn _ hqb
  have hkc8 := hkn _ hqc
  refine ⟨gb'.1.1, _, spec_isFromRight hl gb'.1 hPb.1.1, pc.1, fun hpe => ⟨by unfold qR; omega, by unfold qR; omega, fun hke => ⟨fun hqe => ?_, fun hqe => ?_⟩, fun hke => ?_⟩, fun hpe => ?_⟩
  · -- the same panel
    have hqq := qInj_i hA hqe
    have hpp := qInj_i hA hpe
    obtain ⟨w1, h1, e1, hw1, hh1, m1, m2⟩ := FB_at hw hqb jb.1
    have jc' : ixB D c < (hs D (hb D b)).length := by rw [hqq]; exact jc.1
    obtain ⟨w2, h2, e2, hw2, hh2, m3, m4⟩ := FB_at hw hqb jc'
    obtain ⟨hfit, hW, hH⟩ := LB_fit hw hqb
    have eb : FB D b = FBq D (hb D b) (ixB D b) := rfl
    have ec : FB D c = FBq D (hb D b) (ixB D c) := by rw [hqq]; rfl
    have hbb := FB_b hw hqb jb.1
    have hbc := FB_b hw hqb jc'
    rw [← eb] at hbb
    rw [← ec] at hbc
    rw [eb, e1] at fb
    rw [ec, e2] at fcc
    have hlt : ky D b < ky D c ↔ plN (tg D (hp D (hb D b))) (gro D (hp D (hb D b))) (LB D (hb D b)).2.2.1 (LB D (hb D b)).2.2.2 (fc D (hb D b)) (lts D (hb D b)) (ixB D b) < plN (tg D (hp D (hb D b))) (gro D (hp D (hb D b))) (LB D (hb D b)).2.2.1 (LB D (hb D b)).2.2.2 (fc D (hb D b)) (lts D (hb D b)) (ixB D c) := by
      rw [ekb, ekc, ← hqq]
      rcases Nat.lt_trichotomy (ixB D b) (ixB D c) with d | d | d
      · have := plN_lt hfit d jc'
        constructor <;> intro _ <;> omega
      · rw [d]; omega
      · have := plN_lt hfit d jb.1
        constructor <;> intro _ <;> omega
    rw [eb, ec, e1, e2]
    generalize plN (tg D (hp D (hb D b))) (gro D (hp D (hb D b))) (LB D (hb D b)).2.2.1 (LB D (hb D b)).2.2.2 (fc D (hb D b)) (lts D (hb D b)) (ixB D b) = s1 at *
    generalize plN (tg D (hp D (hb D b))) (gro D (hp D (hb D b))) (LB D (hb D b)).2.2.1 (LB D (hb D b)).2.2.2 (fc D (hb D b)) (lts D (hb D b)) (ixB D c) = s2 at *
    generalize hWW : (LB D (hb D b)).2.2.1 = W at *
    have n1 : 0 ≤ (s1 : Int) % W ∧ 0 ≤ (s2 : Int) % W ∧ 0 ≤ (s1 : Int) / W ∧ 0 ≤ (s2 : Int) / W := ⟨Int.emod_nonneg _ (by omega), Int.emod_nonneg _ (by omega), Int.ediv_nonneg (by omega) (by omega), Int.ediv_nonneg (by omega) (by omega)⟩
    have d1 := Int.mul_ediv_add_emod (s1 : Int) W
    have d2 := Int.mul_ediv_add_emod (s2 : Int) W
    have t1 : (cnd (tg D (hp D (hb D b))) W w1 h1 s1).2.1 = (s1 : Int) / W := rfl
    have t2 : (cnd (tg D (hp D (hb D b))) W w2 h2 s2).2.1 = (s2 : Int) / W := rfl
    rw [t1, t2]
    refine ⟨b7, c7, by unfold qR; omega, by unfold qR; omega, fun hte => ⟨pb.2.2.2.2.2.2.2.2.2.2.2.2.2.2.1, _, spec_isNearer hl (t := tg D (hp D (hb D b))) (W := W) (u := (s1 : Int) % W) (v := (s2 : Int) % W) b7 c7 ?_ ?_ (by unfold qR; omega) (by unfold qR; omega), cif_01, rfl, ?_⟩, fun hte v hv => ⟨rfl, ?_⟩⟩
    · rw [fb.1, fb.2.2.1]
      unfold cnd
      show _ = if _ then W - (if tg D (hp D (hb D b)) = 1 then W - (s1 : Int) % W - w1 else (s1 : Int) % W) - w1 else (if tg D (hp D (hb D b)) = 1 then W - (s1 : Int) % W - w1 else (s1 : Int) % W)
      by_cases cc : tg D (hp D (hb D b)) = 1
      · rw [if_pos cc, if_pos cc]; omega
      · rw [if_neg cc, if_neg cc]
    · rw [fcc.1, fcc.2.2.1]
      unfold cnd
      show _ = if _ then W - (if tg D (hp D (hb D b)) = 1 then W - (s2 : Int) % W - w2 else (s2 : Int) % W) - w2 else (if tg D (hp D (hb D b)) = 1 then W - (s2 : Int) % W - w2 else (s2 : Int) % W)
      by_cases cc : tg D (hp D (hb D b)) = 1
      · rw [if_pos cc, if_pos cc]; omega
      · rw [if_neg cc, if_neg cc]
    · congr 3
      refine cif_iff ?_
      rw [hlt]
      rw [hte] at d1
      omega
    · rw [hv]
      congr 3
      refine cif_if ?_
      rw [hlt]
      have p1 : 0 < W := by omega
      constructor
      · intro hs
        rcases Int.lt_or_le ((s1 : Int) / W) ((s2 : Int) / W) with z | z
        · exact z
        · exfalso
          have : (s2 : Int) / W < (s1 : Int) / W := by omega
          have h5 : W * ((s2 : Int) / W + 1) ≤ W * ((s1 : Int) / W) := Int.mul_le_mul_of_nonneg_left (by omega) (by omega)
          rw [Int.mul_add, Int.mul_one] at h5
          have := Int.emod_lt_of_pos (s2 : Int) p1
          omega
      · intro hs
        have h5 : W * ((s1 : Int) / W + 1) ≤ W * ((s2 : Int) / W) := Int.mul_le_mul_of_nonneg_left (by omega) (by omega)
        rw [Int.mul_add, Int.mul_one] at h5
        have := Int.emod_lt_of_pos (s1 : Int) p1
        omega
  · -- the same row
    have hpp := qInj_i hA hpe
    have hqn : hb D b ≠ hb D c := fun z => hqe (by rw [z])
    have hix : ixP D (hb D b) ≠ ixP D (hb D c) := fun z => hqn (rk_inj hw.1 hqb hqc (by unfold rk; rw [z, hpp]))
    obtain ⟨kc1, kc2, kc3⟩ := kOf_sp (WF0_Pg hw.1 hnc.1) ic.1
    have hkk : kq D (hb D b) = kq D (hb D c) := by omega
    rw [← hkc, ← hkk, ← hpp] at kc1 kc2 kc3
    rw [← hkb] at kb1 kb2 kb3
    have hpb := pB_b hPb hok kb1 kb2 kb3
    have hpc := pB_b hPb hok kb1 kc2 kc3
    have elb : LB D (hb D b) = pB D (hp D (hb D b)) (kq D (hb D b)) (ixP D (hb D b)) := rfl
    have elc : LB D (hb D c) = pB D (hp D (hb D b)) (kq D (hb D b)) (ixP D (hb D c)) := by rw [hkk, hpp]; rfl
    refine ⟨_, spec_isNearer hl (t := tg D (hp D (hb D b))) (W := 24) (u := pX D (hp D (hb D b)) (kq D (hb D b)) (ixP D (hb D b))) (v := pX D (hp D (hb D b)) (kq D (hb D b)) (ixP D (hb D c))) pb.2.2.2.2.2.2.2.2.2.2.2.2.2.2.1 pc.2.2.2.2.2.2.2.2.2.2.2.2.2.2.1 ?_ ?_ (by unfold qR; omega) (by unfold qR; omega), cif_01, rfl, ?_⟩
    · rw [lb.1, lb.2.2.1, elb]
      unfold pB
      show _ = if _ then 24 - (if _ then 24 - _ - _ else _) - pWd D (hp D (hb D b)) (kq D (hb D b)) (ixP D (hb D b)) else (if _ then _ else pX D (hp D (hb D b)) (kq D (hb D b)) (ixP D (hb D b)))
      by_cases cc : tg D (hp D (hb D b)) = 1
      · rw [if_pos cc, if_pos cc]; omega
      · rw [if_neg cc, if_neg cc]
    · rw [lc.1, lc.2.2.1, elc]
      unfold pB
      show _ = if _ then 24 - (if _ then 24 - _ - _ else _) - pWd D (hp D (hb D b)) (kq D (hb D b)) (ixP D (hb D c)) else (if _ then _ else pX D (hp D (hb D b)) (kq D (hb D b)) (ixP D (hb D c)))
      by_cases cc : tg D (hp D (hb D b)) = 1
      · rw [if_pos cc, if_pos cc]; omega
      · rw [if_neg cc, if_neg cc]
    · congr 3
      refine cif_iff ?_
      rw [ekb, ekc, ← hpp]
      rcases Nat.lt_trichotomy (ixP D (hb D b)) (ixP D (hb D c)) with d | d | d
      · have := pX_lt hw hnb.1 kb1 kb2 d kc3
        constructor <;> intro _ <;> omega
      · exact absurd d hix
      · have := pX_lt hw hnb.1 kb1 kc2 d kb3
        constructor <;> intro _ <;> omega
  · -- another row
    have hpp := qInj_i hA hpe
    intro v hv
    refine ⟨rfl, ?_⟩
    rw [hv]
    congr 3
    refine cif_if ?_
    rw [ekb, ekc, ← hpp]
    have m1 : ixP D (hb D b) ≤ ixP D (hb D c) → kq D (hb D b) ≤ kq D (hb D c) := fun z => by
      rw [hkb, hkc, ← hpp]
      exact kOf_mono hw.1 hnb.1 z (by rw [hpp]; exact ic.1)
    have m2 : ixP D (hb D c) ≤ ixP D (hb D b) → kq D (hb D c) ≤ kq D (hb D b) := fun z => by
      rw [hkb, hkc, ← hpp]
      exact kOf_mono hw.1 hnb.1 z ib.1
    rcases Nat.lt_trichotomy (ixP D (hb D b)) (ixP D (hb D c)) with d | d | d
    · have := m1 (by omega)
      constructor <;> intro _ <;> omega
    · have := m1 (by omega)
      have := m2 (by omega)
      omega
    · have := m2 (by omega)
      constructor <;> intro _ <;> omega
  · -- another page
    refine ⟨gc'.1.1, ⟨by unfold qR; omega, by unfold qR; omega⟩, fun v hv => ⟨rfl, ?_⟩⟩
    rw [hv]
    congr 3
    refine cif_if ?_
    rw [ekb, ekc]
    have hne : hp D (hb D b) ≠ hp D (hb D c) := fun z => hpe (by rw [z])
    omega
end
