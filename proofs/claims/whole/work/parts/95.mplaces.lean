/-! the model: the balloons of a panel are placed -/
def plSA (D : qD) (q : Nat) : Nat → Int → Prop := fun t i => t = 62 ∨ (t = 61 ∧ ∃ b, b ∈ hs D q ∧ 4 * (b : Int) ≤ i ∧ i < 4 * (b : Int) + 4)
section
variable {g : qG} {l : Launch} {A : Nat → Nat → Nat} {D : qD} {σ : qS}
theorem MBox_c (hA : qInj A) {SI : Nat → Prop} {SA : Nat → Int → Prop} {σ' : qS} {t : Nat} {i : Int} {b : Bx} (hc : qMc A SI SA σ σ') (h1 : ∀ j, i ≤ j → j < i + 4 → ¬ SA t j) (h : MBox A σ t i b) : MBox A σ' t i b := by
  unfold MBox at h ⊢
  rw [qMc_at hA hc (h1 i (by omega) (by omega)), qMc_at hA hc (h1 (i + 1) (by omega) (by omega)), qMc_at hA hc (h1 (i + 2) (by omega) (by omega)), qMc_at hA hc (h1 (i + 3) (by omega) (by omega))]
  exact h
/-- marking the cells of a box -/
theorem mark_step (hA : qInj A) {W left top w x63 v : Int} {σ1 σ2 : qS} {old : Int → Int → Int} {hh : Int} (hW : 0 < W) (hw : 1 ≤ w) (h1 : 0 ≤ left ∧ left + w ≤ W) (h0 : 0 ≤ x63 ∧ x63 < w * hh)
    (h : ∀ x y, 0 ≤ x → x < W → ((∃ j, 0 ≤ j ∧ j < x63 ∧ x = left + j % w ∧ y = top + j / w) → gA σ1 (A 62 0) (W * y + x) = v) ∧ ((¬ ∃ j, 0 ≤ j ∧ j < x63 ∧ x = left + j % w ∧ y = top + j / w) → gA σ1 (A 62 0) (W * y + x) = old x y))
    (hs : σ2 = sA σ1 (A 62 0) (W * (top + x63 / w) + left + x63 % w) v) :
    ∀ x y, 0 ≤ x → x < W → ((∃ j, 0 ≤ j ∧ j < x63 + 1 ∧ x = left + j % w ∧ y = top + j / w) → gA σ2 (A 62 0) (W * y + x) = v) ∧ ((¬ ∃ j, 0 ≤ j ∧ j < x63 + 1 ∧ x = left + j % w ∧ y = top + j / w) → gA σ2 (A 62 0) (W * y + x) = old x y) := by
  intro x y x0 xW
  obtain ⟨-, p3, p4⟩ := pos_b hw h0.1 h0.2
  rw [hs, gA_at hA, Int.add_assoc]
  by_cases c : W * y + x = W * (top + x63 / w) + (left + x63 % w)
  · rw [if_pos ⟨rfl, c⟩]
    obtain ⟨ex, ey⟩ := ci_inj ⟨x0, xW⟩ ⟨by omega, by omega⟩ c
    exact ⟨fun _ => rfl, fun z => absurd ⟨x63, h0.1, by omega, ex, ey⟩ z⟩
  · rw [if_neg (fun z => c z.2)]
    obtain ⟨a, b⟩ := h x y x0 xW
    refine ⟨fun ⟨j, j0, j1, j2, j3⟩ => a ⟨j, j0, ?_, j2, j3⟩, fun z => b (fun ⟨j, j0, j1, j2, j3⟩ => z ⟨j, j0, by omega, j2, j3⟩)⟩
    by_cases d : j = x63
    · exact absurd (by rw [j2, j3, d]) c
    · omega
theorem spec_mplaces (hl : l.stackTraces = false) (hA : qInj A) (h : MB A D σ) (hw : WF0 D) {q : Nat} (hq : alP D q) {W H : Int} (hW : 1 ≤ W ∧ W ≤ 24) (hH : 0 ≤ H ∧ H ≤ 16) :
    qMet g l M_X8_places [vr (A 30 0), vi (q : Int), vi W, vi H] σ (qTi0 (fun σ' v => qMc A noI (plSA D q) σ σ' ∧ ((v = 1 ∧ Fit D (hp D q) q W H ∧ (∀ k, k < (hs D q).length → MBox A σ' 61 (4 * (bl D q k : Int)) (box D (hp D q) q W H k)) ∧ CelB A σ' W H (fc D q) (hs D q).length (box D (hp D q) q W H) (bl D q)) ∨ (v = 0 ∧ ¬ Fit D (hp D q) q W H)))) := by
  have hn := hw.1
  have hq50 := hq.1
  obtain ⟨hpn, hmq⟩ := alP_home hw hq
  obtain ⟨a1, a2, a3⟩ := m329 h.1
  have hPW := (hw.2.2.2.2.1 q hq.1).2.2.1
  have hbl : ∀ k, k < (hs D q).length → bl D q k < nb D := fun k hk => (hPW.2.2.2.1 _ (bl_mem hk)).2
  have hpg : gA σ (A 49 0) (q : Int) = hp D q := by rw [← pgv_al hq]; exact (h.2.1.2.2.1 q hq.1).1
  have ht := (hw.2.1 _ hpn).1
  have hgr := hw.2.2.2.1 (tg D (hp D q)).toNat (by omega)
  have hWH : 0 ≤ W * H := Int.mul_nonneg (by omega) hH.1
  have hWH2 : W * H ≤ 24 * 16 := Int.mul_le_mul hW.2 hH.2 hH.1 (by decide)
  refine wm_X8_places hl ⟨h.1.1, by rw [a1]; exact q_isA0 a2, by rw [a1]; exact ⟨by omega, by rw [a3]; omega⟩, fun x4 h4 => ⟨_, spec_stands hl hA h hw hq.1 hW hH, fun σ1 h1 => ?_⟩⟩
  rw [a1, hpg] at h4
  obtain ⟨hc1, hce1⟩ := h1
  have hP0 : (pl (tg D (hp D q)) (gro D (hp D q)) W H (fc D q) (lts D q) 0).1 = 0 := rfl
  generalize hP : pl (tg D (hp D q)) (gro D (hp D q)) W H (fc D q) (lts D q) = P at hP0
  generalize hN : (W * H).toNat = N
  have hc1' : qMc A noI (plSA D q) σ σ1 := qMc_mono hc1 (fun _ z => z) (fun t i z => Or.inl z)
  have hMB : ∀ {s : qS}, qMc A noI (plSA D q) σ s → MB A D s := fun hc => MB_c hA hc (fun t i t1 t2 z => by rcases z with z | z <;> omega) h
  refine ⟨fun n x13 x14 σ2 => ∃ k : Nat, x14 = k ∧ k ≤ (hs D q).length ∧ n = (hs D q).length - k ∧ x13 = ((P k).1 : Int) - 1 ∧ (P k).1 ≤ N ∧ qMc A noI (plSA D q) σ σ2 ∧ CelB A σ2 W H (fc D q) k (P k).2 (bl D q) ∧ ∀ j, j < k → (P (j + 1)).1 ≤ N ∧ MBox A σ2 61 (4 * (bl D q j : Int)) ((P k).2 j), ⟨_, 0, rfl, Nat.zero_le _, rfl, by rw [hP0]; omega, by omega, hc1', fun x y x0 xW y0 yH => ⟨fun j z => absurd z (Nat.not_lt_zero _), fun _ => hce1 x y x0 xW y0 yH⟩, fun j z => absurd z (Nat.not_lt_zero _)⟩, ?_⟩
  rintro n x13 x14 σ2 ⟨k, rfl, hk, rfl, rfl, hPk, hc2, hce2, hj2⟩
  have hB2 := hMB hc2
  obtain ⟨b1, b2, b3⟩ := m335 hB2.1
  obtain ⟨c1, c2, c3⟩ := m336 hB2.1
  have hhd : gA σ2 (A 55 0) (q : Int) = (hs D q).length := (hB2.2.1.2.2.1 q hq.1).2.2.1
  have hho := (hB2.2.1.2.2.1 q hq.1).2.2.2
  have hl4 := hPW.2.2.1
  rw [b1, hhd]
  refine ⟨hB2.1.1, q_isA0 b2, ⟨by omega, by rw [b3]; omega⟩, by unfold qR; omega, by unfold qR; omega, fun hd => ⟨1, rfl, hc2, Or.inl ⟨rfl, ?_, ?_, ?_⟩⟩, fun hd => ?_⟩
  · have : k = (hs D q).length := by omega
    subst this
    unfold Fit pFit
    rw [hP, hN]
    exact fun j hj => (hj2 j hj).1
  · have : k = (hs D q).length := by omega
    subst this
    unfold box bxs
    rw [hP]
    exact fun j hj => (hj2 j hj).2
  · have : k = (hs D q).length := by omega
    subst this
    have e : box D (hp D q) q W H = (P (hs D q).length).2 := by
      funext j
      unfold box bxs
      rw [hP]
    rw [e]
    exact hce2
  have hkl : k < (hs D q).length := by omega
  have hmem := bl_mem hkl
  have hbn := hbl k hkl
  have hlw := (hPW.2.2.2.1 _ hmem).1
  have hh4 : gA σ2 (A 56 0) (4 * (q : Int) + k) = bl D q k := hho k hkl
  rw [c1]
  refine ⟨q_isA0 c2, ⟨by omega, by rw [c3]; omega⟩, fun x30 h30 => ?_⟩
  rw [hh4] at h30
  subst h30
  subst h4
  refine ⟨_, spec_grown hl hB2 hw hpn hbn, ?_⟩
  have hm := mny_le (g := gro D (hp D q)) (lt := lt D (bl D q k)) hgr hlw
  have hS : plN (tg D (hp D q)) (gro D (hp D q)) W H (fc D q) (lts D q) k = lsp (fun s => (P k).1 ≤ s ∧ okS (tg D (hp D q)) W H (fc D q) k (P k).2 (wde W (mny (gro D (hp D q)) (lt D (bl D q k)))) (hgh (mny (gro D (hp D q)) (lt D (bl D q k))) (wde W (mny (gro D (hp D q)) (lt D (bl D q k))))) s) N := by
    unfold plN plS lts
    rw [show pl (tg D (hp D q)) (gro D (hp D q)) W H (fc D q) (fun k => lt D (bl D q k)) = P from hP, hN]
  have hBx : plB (tg D (hp D q)) (gro D (hp D q)) W H (fc D q) (lts D q) k = cnd (tg D (hp D q)) W (wde W (mny (gro D (hp D q)) (lt D (bl D q k)))) (hgh (mny (gro D (hp D q)) (lt D (bl D q k))) (wde W (mny (gro D (hp D q)) (lt D (bl D q k))))) (plN (tg D (hp D q)) (gro D (hp D q)) W H (fc D q) (lts D q) k) := rfl
  have hP1 : (P (k + 1)).1 = plN (tg D (hp D q)) (gro D (hp D q)) W H (fc D q) (lts D q) k + 1 := by rw [← hP]; rfl
  have hP2 : ∀ j, (P (k + 1)).2 j = if j = k then plB (tg D (hp D q)) (gro D (hp D q)) W H (fc D q) (lts D q) k else (P k).2 j := by rw [← hP]; intro j; rfl
  generalize mny (gro D (hp D q)) (lt D (bl D q k)) = m at *
  have hwd := wde_le hW.1 hm.2.1
  have hhg := hgh_le hwd.1 hwd.2.2.2
  refine ⟨by unfold qR; omega, fun v36 h36 => ⟨⟨by rw [h36]; split <;> (unfold qR; omega), by unfold qR; omega⟩, fun v43 h43 => ?_⟩⟩
  have hw43 : v43 = wde W m := by
    rw [h43, h36]
    unfold wde
    by_cases e1 : 6 ≤ m
    · rw [if_pos e1]
      by_cases e2 : W ≤ 6
      · rw [if_pos e2]; omega
      · rw [if_neg e2]; omega
    · rw [if_neg e1]
      by_cases e2 : W ≤ m
      · rw [if_pos e2]; omega
      · rw [if_neg e2]; omega
  subst hw43
  clear h43 h36 v36
  refine ⟨by omega, by omega, fun x49 h49 => ?_⟩
  have hh49 : x49 = hgh m (wde W m) := h49
  subst hh49
  clear h49
  generalize hwW : wde W m = w at *
  generalize hhH : hgh m w = hh at *
  generalize hsN : plN (tg D (hp D q)) (gro D (hp D q)) W H (fc D q) (lts D q) k = s at *
  generalize hbb : plB (tg D (hp D q)) (gro D (hp D q)) W H (fc D q) (lts D q) k = bx at *
  have hQ : ∀ x y, 0 ≤ x → x < W → 0 ≤ y → y < H → qR (gA σ2 (A 62 0) (W * y + x)) := by
    intro x y x0 xW y0 yH
    obtain ⟨e1, e2⟩ := hce2 x y x0 xW y0 yH
    by_cases c : ∃ j, j < k ∧ inB ((P k).2 j) x y
    · obtain ⟨j, hj, hin⟩ := c
      rw [e1 j hj hin]
      have := hbl j (by omega)
      unfold qR; omega
    · have e3 := e2 (fun j hj hin => c ⟨j, hj, hin⟩)
      by_cases d : covF (fc D q) H x y
      · rw [e3.1 d]; unfold qR; omega
      · rw [e3.2 d]; unfold qR; omega
  -- free or not
  have hfre : ∀ b : Bx, (∀ x y, inB b x y → (0 ≤ x ∧ x < W) ∧ 0 ≤ y ∧ y < H) → ((∀ x y, inB b x y → gA σ2 (A 62 0) (W * y + x) = -1) ↔ fre (fc D q) H k (P k).2 b) := by
    intro b hb
    constructor
    · intro z x y hin
      obtain ⟨⟨x0, xW⟩, y0, yH⟩ := hb x y hin
      obtain ⟨e1, e2⟩ := hce2 x y x0 xW y0 yH
      have hz := z x y hin
      have hno : ∀ j, j < k → ¬ inB ((P k).2 j) x y := fun j hj hi => by
        rw [e1 j hj hi] at hz
        omega
      refine ⟨fun hcv => ?_, hno⟩
      rw [(e2 hno).1 hcv] at hz
      omega
    · intro z x y hin
      obtain ⟨⟨x0, xW⟩, y0, yH⟩ := hb x y hin
      obtain ⟨e1, e2⟩ := hce2 x y x0 xW y0 yH
      obtain ⟨z1, z2⟩ := z x y hin
      exact (e2 z2).2 z1
  -- the end of the marking
  have hmark : ∀ (sN : Nat) (x52 x53 : Int), sN < N → okS (tg D (hp D q)) W H (fc D q) k (P k).2 w hh sN → s = sN → x52 = (cnd (tg D (hp D q)) W w hh sN).1 → x53 = (cnd (tg D (hp D q)) W w hh sN).2.1 →
      ∃ Inv64 : Nat → Int → qS → Prop, (∃ n : Nat, Inv64 n 0 σ2) ∧ ∀ (n65 : Nat) (x63 : Int) (σ70 : qS), Inv64 n65 x63 σ70 → (qR x63 ∧ qR (w * hh) ∧ (((w * hh) ≤ x63 → gK σ70 (A 30 0) = 9 ∧ gK σ70 (gP σ70 341 (A 30 0)) = 20 ∧ q_in σ70 (gP σ70 341 (A 30 0)) (4 * (bl D q k : Int)) ∧ (∀ σ77 : qS, σ77 = sA σ70 (gP σ70 341 (A 30 0)) (4 * (bl D q k : Int)) x52 → gK σ77 (gP σ77 341 (A 30 0)) = 20 ∧ q_in σ77 (gP σ77 341 (A 30 0)) ((4 * (bl D q k : Int)) + 1) ∧ (∀ σ81 : qS, σ81 = sA σ77 (gP σ77 341 (A 30 0)) ((4 * (bl D q k : Int)) + 1) x53 → gK σ81 (gP σ81 341 (A 30 0)) = 20 ∧ q_in σ81 (gP σ81 341 (A 30 0)) ((4 * (bl D q k : Int)) + 2) ∧ (∀ σ85 : qS, σ85 = sA σ81 (gP σ81 341 (A 30 0)) ((4 * (bl D q k : Int)) + 2) w → gK σ85 (gP σ85 341 (A 30 0)) = 20 ∧ q_in σ85 (gP σ85 341 (A 30 0)) ((4 * (bl D q k : Int)) + 3) ∧ (∀ σ89 : qS, σ89 = sA σ85 (gP σ85 341 (A 30 0)) ((4 * (bl D q k : Int)) + 3) hh → ∀ x91 : Int, x91 = (k : Int) + 1 → ∃ n93 : Nat, n93 < (hs D q).length - k ∧ ∃ k' : Nat, x91 = k' ∧ k' ≤ (hs D q).length ∧ n93 = (hs D q).length - k' ∧ (sN : Int) = ((P k').1 : Int) - 1 ∧ (P k').1 ≤ N ∧ qMc A noI (plSA D q) σ σ89 ∧ CelB A σ89 W H (fc D q) k' (P k').2 (bl D q) ∧ ∀ j, j < k' → (P (j + 1)).1 ≤ N ∧ MBox A σ89 61 (4 * (bl D q j : Int)) ((P k').2 j)))))) ∧ (¬ ((w * hh) ≤ x63) → gK σ70 (A 30 0) = 9 ∧ (0 ≤ x63 ∧ x63 < 2147483648) ∧ (0 < w ∧ w < 2147483648) ∧ (0 ≤ x63 ∧ x63 < 2147483648) ∧ (0 < w ∧ w < 2147483648) ∧ gK σ70 (gP σ70 342 (A 30 0)) = 20 ∧ q_in σ70 (gP σ70 342 (A 30 0)) (((W * (x53 + (x63 / w))) + x52) + (x63 % w)) ∧ (∀ σ101 : qS, σ101 = sA σ70 (gP σ70 342 (A 30 0)) (((W * (x53 + (x63 / w))) + x52) + (x63 % w)) (bl D q k : Int) → ∀ x103 : Int, x103 = x63 + 1 → ∃ n105 : Nat, n105 < n65 ∧ Inv64 n105 x103 σ101)))) := by
    intro sN x52 x53 hsN' hok hss hx52 hx53
    obtain ⟨ok1, ok2, ok3⟩ := hok
    have m0 : 0 ≤ (sN : Int) % W := Int.emod_nonneg _ (by omega)
    have m1 : 0 ≤ (sN : Int) / W := Int.ediv_nonneg (by omega) (by omega)
    have hx53' : x53 = (sN : Int) / W := hx53
    have hx52b : 0 ≤ x52 ∧ x52 + w ≤ W := by
      rw [hx52]
      show 0 ≤ (if tg D (hp D q) = 1 then W - (sN : Int) % W - w else (sN : Int) % W) ∧ (if tg D (hp D q) = 1 then W - (sN : Int) % W - w else (sN : Int) % W) + w ≤ W
      split <;> omega
    have hbxe : bx = (x52, x53, w, hh) := by rw [hBx, hss, hx52, hx53]; rfl
    have hwh : 0 ≤ w * hh := Int.mul_nonneg (by omega) (by omega)
    have hwh2 : w * hh ≤ 24 * 16 := Int.mul_le_mul (by omega) (by omega) (by omega) (by decide)
    refine ⟨fun n x63 σ3 => (0 ≤ x63 ∧ x63 ≤ w * hh) ∧ n = (w * hh - x63).toNat ∧ qMc A noI t62 σ2 σ3 ∧ ∀ x y, 0 ≤ x → x < W → ((∃ j, 0 ≤ j ∧ j < x63 ∧ x = x52 + j % w ∧ y = x53 + j / w) → gA σ3 (A 62 0) (W * y + x) = (bl D q k : Int)) ∧ ((¬ ∃ j, 0 ≤ j ∧ j < x63 ∧ x = x52 + j % w ∧ y = x53 + j / w) → gA σ3 (A 62 0) (W * y + x) = gA σ2 (A 62 0) (W * y + x)), ⟨_, ⟨by omega, hwh⟩, rfl, qMc_rf, fun x y _ _ => ⟨fun ⟨j, j0, j1, _⟩ => by omega, fun _ => rfl⟩⟩, ?_⟩
    rintro n x63 σ3 ⟨hx63, rfl, hc3, hm3⟩
    have hc03 : qMc A noI (plSA D q) σ σ3 := qMc_trm hc2 hc3 (fun _ z => z) (fun t i z => Or.inl z)
    have hB3 := hMB hc03
    obtain ⟨u1, u2, u3⟩ := m342 hB3.1
    obtain ⟨w1, w2, w3⟩ := m341 hB3.1
    refine ⟨by unfold qR; omega, by unfold qR; omega, fun hd => ?_, fun hd => ?_⟩
    · have hxe : x63 = w * hh := by omega
      subst hxe
      rw [w1]
      refine ⟨hB3.1.1, w2, ⟨by omega, by rw [w3]; omega⟩, fun σ77 h77 => ?_⟩
      have p77 : gP σ77 341 (A 30 0) = A 61 0 := by rw [h77]; exact w1
      have k77 : gK σ77 (A 61 0) = 20 := by rw [h77]; exact w2
      have n77 : gN σ77 (A 61 0) = 320 := by rw [h77]; exact w3
      rw [p77]
      refine ⟨k77, ⟨by omega, by rw [n77]; omega⟩, fun σ81 h81 => ?_⟩
      have p81 : gP σ81 341 (A 30 0) = A 61 0 := by rw [h81]; exact p77
      have k81 : gK σ81 (A 61 0) = 20 := by rw [h81]; exact k77
      have n81 : gN σ81 (A 61 0) = 320 := by rw [h81]; exact n77
      rw [p81]
      refine ⟨k81, ⟨by omega, by rw [n81]; omega⟩, fun σ85 h85 => ?_⟩
      have p85 : gP σ85 341 (A 30 0) = A 61 0 := by rw [h85]; exact p81
      have k85 : gK σ85 (A 61 0) = 20 := by rw [h85]; exact k81
      have n85 : gN σ85 (A 61 0) = 320 := by rw [h85]; exact n81
      rw [p85]
      refine ⟨k85, ⟨by omega, by rw [n85]; omega⟩, fun σ89 h89 x91 h91 => ⟨_, ?_, k + 1, by omega, by omega, rfl, ?_, ?_, ?_, ?_, ?_⟩⟩
      · omega
      · rw [hP1, hss]; omega
      · rw [hP1, hss]; omega
      · have hin : ∀ i : Int, 4 * (bl D q k : Int) ≤ i → i < 4 * (bl D q k : Int) + 4 → plSA D q 61 i := fun i i0 i1 => Or.inr ⟨rfl, _, hmem, i0, i1⟩
        refine qMc_tr hc03 (qMc_tr (σ1 := σ77) (by rw [h77]; exact qMc_A (hin _ (by omega) (by omega))) (qMc_tr (σ1 := σ81) (by rw [h81]; exact qMc_A (hin _ (by omega) (by omega))) (qMc_tr (σ1 := σ85) (by rw [h85]; exact qMc_A (hin _ (by omega) (by omega))) (by rw [h89]; exact qMc_A (hin _ (by omega) (by omega))))))
      · have g62 : ∀ i, gA σ89 (A 62 0) i = gA σ3 (A 62 0) i := fun i => by
          rw [h89, gA_at hA, if_neg (fun z => absurd z.1 (by decide)), h85, gA_at hA, if_neg (fun z => absurd z.1 (by decide)), h81, gA_at hA, if_neg (fun z => absurd z.1 (by decide)), h77, gA_at hA, if_neg (fun z => absurd z.1 (by decide))]
        intro x y x0 xW y0 yH
        rw [g62]
        obtain ⟨m1', m2'⟩ := hm3 x y x0 xW
        obtain ⟨e1, e2⟩ := hce2 x y x0 xW y0 yH
        have hbxi : inB bx x y ↔ ∃ j, 0 ≤ j ∧ j < w * hh ∧ x = x52 + j % w ∧ y = x53 + j / w := by rw [hbxe]; exact inB_pos hwd.1
        have hfr : inB bx x y → ¬ covF (fc D q) H x y ∧ ∀ j, j < k → ¬ inB ((P k).2 j) x y := by
          have : bx = cnd (tg D (hp D q)) W w hh sN := by rw [hBx, hss]
          rw [this]; exact ok3 x y
        refine ⟨fun j hj hin => ?_, fun hno => ?_⟩
        · rw [hP2] at hin
          by_cases c : j = k
          · rw [if_pos c] at hin
            rw [c]; exact m1' (hbxi.mp hin)
          · rw [if_neg c] at hin
            rw [m2' (fun z => (hfr (hbxi.mpr z)).2 j (by omega) hin)]
            exact e1 j (by omega) hin
        · have hnb : ¬ inB bx x y := by have := hno k (by omega); rw [hP2, if_pos rfl] at this; exact this
          rw [m2' (fun z => hnb (hbxi.mpr z))]
          exact e2 (fun j hj => by have := hno j (by omega); rw [hP2, if_neg (by omega)] at this; exact this)
      · intro j hj
        by_cases c : j = k
        · subst c
          refine ⟨by rw [hP1, hss]; omega, ?_⟩
          rw [hP2, if_pos rfl, hbxe]
          unfold MBox
          rw [h89, h85, h81, h77]
          simp only [gA_at hA]
          refine ⟨?_, ?_, ?_, ?_⟩
          · rw [if_neg (fun z => by omega), if_neg (fun z => by omega), if_neg (fun z => by omega), if_pos (by simp)]
          · rw [if_neg (fun z => by omega), if_neg (fun z => by omega), if_pos (by simp)]
          · rw [if_neg (fun z => by omega), if_pos (by simp)]
          · rw [if_pos (by simp)]
        · obtain ⟨j1, j2⟩ := hj2 j (by omega)
          refine ⟨j1, ?_⟩
          rw [hP2, if_neg c]
          have hne : bl D q j ≠ bl D q k := fun z => c (nodup_at hPW.2.1 (by omega) hkl z)
          have h3 := MBox_c hA hc3 (fun i _ _ z => absurd z (by unfold t62; decide)) j2
          unfold MBox at h3 ⊢
          rw [h89, h85, h81, h77]
          simp only [gA_at hA]
          refine ⟨?_, ?_, ?_, ?_⟩
          · rw [if_neg (fun z => by omega), if_neg (fun z => by omega), if_neg (fun z => by omega), if_neg (fun z => by omega)]; exact h3.1
          · rw [if_neg (fun z => by omega), if_neg (fun z => by omega), if_neg (fun z => by omega), if_neg (fun z => by omega)]; exact h3.2.1
          · rw [if_neg (fun z => by omega), if_neg (fun z => by omega), if_neg (fun z => by omega), if_neg (fun z => by omega)]; exact h3.2.2.1
          · rw [if_neg (fun z => by omega), if_neg (fun z => by omega), if_neg (fun z => by omega), if_neg (fun z => by omega)]; exact h3.2.2.2
    · rw [u1]
      obtain ⟨⟨p1, p2⟩, p3, p4⟩ := pos_b hwd.1 hx63.1 (show x63 < w * hh by omega)
      have hb := ci_b hW hH (x := x52 + x63 % w) (y := x53 + x63 / w) ⟨by omega, by omega⟩ ⟨by omega, by omega⟩
      rw [← Int.add_assoc] at hb
      refine ⟨hB3.1.1, by omega, by omega, by omega, by omega, u2, ⟨hb.1, by rw [u3]; omega⟩, fun σ101 h101 x103 h103 => ⟨_, ?_, by omega, rfl, ?_, ?_⟩⟩
      · omega
      · exact qMc_tr hc3 (by rw [h101]; exact qMc_A rfl)
      · rw [h103]
        exact mark_step hA (hh := hh) (by omega) hwd.1 hx52b ⟨hx63.1, by omega⟩ hm3 h101
  have hnone : (∀ s' : Nat, (P k).1 ≤ s' → s' < N → ¬ okS (tg D (hp D q)) W H (fc D q) k (P k).2 w hh s') → ¬ Fit D (hp D q) q W H := by
    intro hall hf
    have hsN2 : s = N := by
      rw [hS]
      exact lsp_eq (Nat.le_refl _) (fun t' ht' z => hall t' z.1 ht' z.2) (fun z => absurd z (Nat.lt_irrefl _))
    have := hf k hkl
    rw [hP, hN, hP1, hsN2] at this
    omega
  refine ⟨fun n x51 x52 x53 => (((P k).1 : Int) - 1 ≤ x51 ∧ x51 < W * H + 1) ∧ n = (W * H + 5 - x51).toNat ∧ ((x52 = -1 ∧ x51 ≤ W * H ∧ ∀ s' : Nat, (P k).1 ≤ s' → (s' : Int) ≤ x51 → ¬ okS (tg D (hp D q)) W H (fc D q) k (P k).2 w hh s') ∨ (0 ≤ x52 ∧ ∃ sN : Nat, x51 = sN ∧ sN < N ∧ okS (tg D (hp D q)) W H (fc D q) k (P k).2 w hh sN ∧ s = sN ∧ x52 = (cnd (tg D (hp D q)) W w hh sN).1 ∧ x53 = (cnd (tg D (hp D q)) W w hh sN).2.1)), ⟨_, ⟨by omega, by omega⟩, rfl, Or.inl ⟨rfl, by omega, fun s' i1 i2 => by omega⟩⟩, ?_⟩
  rintro n x51 x52 x53 ⟨hx51, rfl, hor⟩
  have hrange : qR x52 := by
    rcases hor with ⟨z, -⟩ | ⟨z, sN, -, -, hok, -, z2, -⟩
    · unfold qR; omega
    · have : x52 ≤ W := by
        rw [z2]
        obtain ⟨ok1, ok2, ok3⟩ := hok
        have m0 : 0 ≤ (sN : Int) % W := Int.emod_nonneg _ (by omega)
        show (if tg D (hp D q) = 1 then W - (sN : Int) % W - w else (sN : Int) % W) ≤ W
        split <;> omega
      unfold qR; omega
  refine ⟨hrange, fun hne => ⟨fun _ => ?_, fun z => absurd z hne⟩, fun he => ?_⟩
  · rcases hor with ⟨z, -⟩ | ⟨z, sN, z1, z2, z3, z4, z5, z6⟩
    · exact absurd z hne
    · subst z1
      exact hmark sN x52 x53 z2 z3 z4 z5 z6
  · rcases hor with ⟨-, hle, hall⟩ | ⟨z, -⟩
    rotate_left
    · omega
    refine ⟨by unfold qR; omega, by unfold qR; omega, fun hd2 => ⟨fun z => absurd he z, fun _ => ⟨0, rfl, hc2, Or.inr ⟨rfl, hnone (fun s' i1 i2 => hall s' i1 (by omega))⟩⟩⟩, fun hd2 x155 h155 => ?_⟩
    obtain ⟨sN, hsx⟩ : ∃ sN : Nat, (sN : Int) = x155 := ⟨x155.toNat, by omega⟩
    have hsN3 : sN < N := by omega
    have m0 : 0 ≤ (sN : Int) % W := Int.emod_nonneg _ (by omega)
    have mW : (sN : Int) % W < W := Int.emod_lt_of_pos _ (by omega)
    have m1 : 0 ≤ (sN : Int) / W := Int.ediv_nonneg (by omega) (by omega)
    have m2 : (sN : Int) / W < H := Int.ediv_lt_of_lt_mul (by omega) (by rw [Int.mul_comm]; omega)
    subst hsx
    refine ⟨_, spec_mFromRight hl hB2 hw hpn, ⟨by split <;> (unfold qR; omega), fun _ => ⟨by omega, by omega⟩, fun _ => ⟨by omega, by omega⟩⟩, fun v165 h165 => ⟨by omega, by omega, fun x171 h171 => ?_⟩⟩
    have hv165 : v165 = (cnd (tg D (hp D q)) W w hh sN).1 := by
      rw [h165]
      show _ = (if tg D (hp D q) = 1 then W - (sN : Int) % W - w else (sN : Int) % W)
      by_cases c : tg D (hp D q) = 1
      · have e : ¬ ((if ¬ tg D (hp D q) = 1 then (0 : Int) else 1) = 0) := by simp [c]
        rw [if_neg e, if_pos c]; omega
      · have e : (if ¬ tg D (hp D q) = 1 then (0 : Int) else 1) = 0 := if_pos c
        rw [if_pos e, if_neg c]
    have hcan : (0 ≤ v165 ∧ v165 + w ≤ W ∧ x171 + hh ≤ H) ↔ ((sN : Int) % W + w ≤ W ∧ (sN : Int) / W + hh ≤ H) := by
      rw [hv165, h171]
      show (0 ≤ (if tg D (hp D q) = 1 then W - (sN : Int) % W - w else (sN : Int) % W) ∧ (if tg D (hp D q) = 1 then W - (sN : Int) % W - w else (sN : Int) % W) + w ≤ W ∧ (sN : Int) / W + hh ≤ H) ↔ _
      split <;> omega
    have hstep : ¬ okS (tg D (hp D q)) W H (fc D q) k (P k).2 w hh sN → ∀ s' : Nat, (P k).1 ≤ s' → (s' : Int) ≤ (sN : Int) → ¬ okS (tg D (hp D q)) W H (fc D q) k (P k).2 w hh s' := by
      intro hno s' i1 i2
      by_cases c : s' = sN
      · rw [c]; exact hno
      · exact hall s' i1 (by omega)
    refine ⟨⟨by rw [h165]; split <;> (unfold qR; omega), fun _ => ⟨by rw [h165]; split <;> (unfold qR; omega), by unfold qR; omega, fun _ => ⟨by unfold qR; omega, by unfold qR; omega⟩⟩⟩, fun v181 h181 => ?_⟩
    have hv181 : ¬ v181 = 0 ↔ (0 ≤ v165 ∧ v165 + w ≤ W ∧ x171 + hh ≤ H) := by
      rw [h181]
      by_cases c1 : v165 < 0
      · rw [if_pos c1]; omega
      · rw [if_neg c1]
        by_cases c2 : W < v165 + w
        · rw [if_pos c2]; omega
        · rw [if_neg c2]
          by_cases c3 : H < x171 + hh
          · rw [if_pos c3]; omega
          · rw [if_neg c3]; omega
    refine ⟨fun hz => ⟨_, ?_, ⟨by omega, by omega⟩, rfl, Or.inl ⟨rfl, by omega, hstep (fun hok => ?_)⟩⟩, fun hnz => ?_⟩
    · omega
    · exact absurd hz (hv181.mpr (hcan.mpr ⟨hok.1, hok.2.1⟩))
    · have hcn := hv181.mp hnz
      have hcn2 := hcan.mp hcn
      refine ⟨_, spec_isFree hl hB2.1 hW hH (left := v165) (top := x171) (w := w) (hh := hh) ⟨hcn.1, hcn.2.1⟩ ⟨by omega, hcn.2.2⟩ hwd.1 hhg.1 hQ, ⟨by unfold cif; split <;> (unfold qR; omega), fun v193 h193 => ?_⟩⟩
      have hbb2 : (v165, x171, w, hh) = cnd (tg D (hp D q)) W w hh sN := by rw [hv165, h171]; rfl
      have hfr := hfre (v165, x171, w, hh) (fun x y hin => by
        obtain ⟨i1, i2, i3, i4⟩ := hin
        exact ⟨⟨by have : v165 ≤ x := i1; omega, by have : x < v165 + w := i2; omega⟩, by have : x171 ≤ y := i3; omega, by have : y < x171 + hh := i4; omega⟩)
      rw [propext hfr] at h193
      by_cases c : fre (fc D q) H k (P k).2 (v165, x171, w, hh)
      · rw [cif_pos c, if_neg (by decide)] at h193
        have hok : okS (tg D (hp D q)) W H (fc D q) k (P k).2 w hh sN := ⟨hcn2.1, hcn2.2, by rw [← hbb2]; exact c⟩
        refine ⟨_, ?_, ⟨by omega, by omega⟩, rfl, Or.inr ⟨by omega, sN, rfl, hsN3, hok, ?_, by rw [h193]; exact hv165, h171⟩⟩
        · omega
        · rw [hS]
          exact lsp_eq (by omega) (fun t' ht' z => hall t' z.1 (by omega) z.2) (fun _ => ⟨by omega, hok⟩)
      · rw [cif_neg c, if_pos rfl] at h193
        refine ⟨_, ?_, ⟨by omega, by omega⟩, rfl, Or.inl ⟨h193, by omega, hstep (fun hok => c (by rw [hbb2]; exact hok.2.2))⟩⟩
        omega
end
