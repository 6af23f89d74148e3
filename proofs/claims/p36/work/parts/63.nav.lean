/-! the class: next, last, the balloon at a place -/
noncomputable def tho (P : Int → Prop) : Int := @dite Int (∃ v, P v) (Classical.propDecidable _) (fun h => Classical.choose h) (fun _ => -1)
theorem tho_eq {P : Int → Prop} {v : Int} (h : P v) (hu : ∀ v', P v' → v' = v) : tho P = v := by
  unfold tho
  rw [dif_pos ⟨v, h⟩]
  exact hu _ (Classical.choose_spec (⟨v, h⟩ : ∃ v, P v))
/-- the least alive panel above K; the greatest below T -/
def NX (D : qD) (K v : Int) : Prop := (v = -1 ∧ ∀ w, alP D w → rk D w ≤ K) ∨ (0 ≤ v ∧ alP D v.toNat ∧ K < rk D v.toNat ∧ ∀ w, alP D w → K < rk D w → rk D v.toNat ≤ rk D w)
def PV (D : qD) (T v : Int) : Prop := (v = -1 ∧ ∀ w, alP D w → T ≤ rk D w) ∨ (0 ≤ v ∧ alP D v.toNat ∧ rk D v.toNat < T ∧ ∀ w, alP D w → rk D w < T → rk D w ≤ rk D v.toNat)
def RB (D : qD) (pl v : Int) : Prop := (v = -1 ∧ ∀ b, alB D b → cntB D (ky D b) ≠ pl) ∨ (0 ≤ v ∧ alB D v.toNat ∧ cntB D (ky D v.toNat) = pl)
def rkv (D : qD) (v : Int) : Int := if v = -1 then -1 else rk D v.toNat
noncomputable def nxt (D : qD) (v : Int) : Int := tho (NX D (rkv D v))
noncomputable def prv (D : qD) (v : Int) : Int := tho (PV D (rkv D v))
noncomputable def rda (D : qD) (pl : Int) : Int := tho (RB D pl)
section
variable {D : qD}
theorem NX_u (hw : WF0 D) {K v v' : Int} (h : NX D K v) (h' : NX D K v') : v' = v := by
  rcases h with ⟨a, b⟩ | ⟨a, b, c, d⟩
  · rcases h' with ⟨a', b'⟩ | ⟨a', b', c', d'⟩
    · omega
    · have := b _ b'; omega
  · rcases h' with ⟨a', b'⟩ | ⟨a', b', c', d'⟩
    · have := b' _ b; omega
    · have h1 := d _ b' c'
      have h2 := d' _ b c
      have := rk_inj hw b b' (by omega)
      omega
theorem PV_u (hw : WF0 D) {K v v' : Int} (h : PV D K v) (h' : PV D K v') : v' = v := by
  rcases h with ⟨a, b⟩ | ⟨a, b, c, d⟩
  · rcases h' with ⟨a', b'⟩ | ⟨a', b', c', d'⟩
    · omega
    · have := b _ b'; omega
  · rcases h' with ⟨a', b'⟩ | ⟨a', b', c', d'⟩
    · have := b' _ b; omega
    · have h1 := d _ b' c'
      have h2 := d' _ b c
      have := rk_inj hw b b' (by omega)
      omega
theorem ct_le {P Q : Nat → Prop} : ∀ {n : Nat}, (∀ i, i < n → P i → Q i) → ct P n ≤ ct Q n
  | 0, _ => Int.le_refl _
  | n + 1, h => by
    have ih := ct_le (n := n) (fun i hi => h i (by omega))
    rw [ct_s, ct_s]
    by_cases c : P n
    · rw [if_pos c, if_pos (h n (by omega) c)]; omega
    · rw [if_neg c]
      split <;> omega
theorem ct_congr {P Q : Nat → Prop} {n : Nat} (h : ∀ i, i < n → (P i ↔ Q i)) : ct P n = ct Q n := by
  have h1 := ct_le (P := P) (Q := Q) (n := n) (fun i hi => (h i hi).mp)
  have h2 := ct_le (P := Q) (Q := P) (n := n) (fun i hi => (h i hi).mpr)
  omega
theorem ct_one {P Q : Nat → Prop} {b : Nat} (hb' : ¬ P b) : ∀ {n : Nat}, b < n → (∀ i, i < n → (Q i ↔ P i ∨ i = b)) → ct Q n = ct P n + 1
  | 0, h, _ => absurd h (Nat.not_lt_zero _)
  | n + 1, h, hq => by
    rw [ct_s, ct_s]
    by_cases c : b = n
    · subst c
      rw [if_pos ((hq b (by omega)).mpr (Or.inr rfl)), if_neg hb', ct_congr (P := Q) (Q := P) (fun i hi => by rw [hq i (by omega)]; exact ⟨fun z => z.elim id (fun e => by omega), Or.inl⟩)]
      omega
    · have ih := ct_one hb' (n := n) (by omega) (fun i hi => hq i (by omega))
      rw [ih]
      by_cases d : P n
      · rw [if_pos d, if_pos ((hq n (by omega)).mpr (Or.inl d))]
      · rw [if_neg d, if_neg (fun z => ((hq n (by omega)).mp z).elim d (fun e => c e.symm))]; omega
theorem cnt_gap {K K' : Int} (hK : K ≤ K') (h : ∀ b, alB D b → ¬ (K ≤ ky D b ∧ ky D b < K')) : cntB D K' = cntB D K := by
  refine ct_congr (fun b hb' => ⟨fun z => ⟨z.1, ?_⟩, fun z => ⟨z.1, by omega⟩⟩)
  have := h b ⟨hb', z.1⟩
  omega
theorem cnt_step (hw : WF0 D) {b : Nat} (hb' : alB D b) : cntB D (ky D b + 1) = cntB D (ky D b) + 1 := by
  refine ct_one (b := b) (fun z => absurd z.2 (Int.lt_irrefl _)) hb'.1 (fun c hc => ⟨fun z => ?_, fun z => ?_⟩)
  · by_cases d : ky D c = ky D b
    · exact Or.inr (ky_inj hw ⟨hc, z.1⟩ hb' d)
    · exact Or.inl ⟨z.1, by omega⟩
  · rcases z with z | z
    · exact ⟨z.1, by omega⟩
    · rw [z]; exact ⟨hb'.2, by omega⟩
theorem cnt_mono {K K' : Int} (h : K ≤ K') : cntB D K ≤ cntB D K' := ct_le (fun b _ z => ⟨z.1, by omega⟩)
theorem RB_u (hw : WF0 D) {pl v v' : Int} (h : RB D pl v) (h' : RB D pl v') : v' = v := by
  rcases h with ⟨a, b⟩ | ⟨a, b, c⟩
  · rcases h' with ⟨a', b'⟩ | ⟨a', b', c'⟩
    · omega
    · exact absurd c' (b _ b')
  · rcases h' with ⟨a', b'⟩ | ⟨a', b', c'⟩
    · exact absurd c (b' _ b)
    · have h1 := cnt_step hw b
      have h2 := cnt_step hw b'
      rcases Int.lt_trichotomy (ky D v.toNat) (ky D v'.toNat) with d | d | d
      · have := cnt_mono (D := D) (show ky D v.toNat + 1 ≤ ky D v'.toNat by omega); omega
      · have := ky_inj hw b b' d; omega
      · have := cnt_mono (D := D) (show ky D v'.toNat + 1 ≤ ky D v.toNat by omega); omega
theorem PV_0 (hw : WF0 D) : PV D 0 (-1) := Or.inl ⟨rfl, fun w hw' => (rk_b hw hw').1⟩
theorem pq_rk (hw : WF0 D) {i j : Nat} (hi : i < np D) (hj : j < pn D i) : alP D (pq D i j) ∧ rk D (pq D i j) = 8 * i + j ∧ ixP D (pq D i j) = j ∧ hp D (pq D i j) = i := by
  have hS := hw.2.1 i hi
  obtain ⟨h1, h2⟩ := hS.2.2.2 _ (pq_mem hj)
  have h3 : ixP D (pq D i j) = j := by
    unfold ixP
    rw [h2]
    exact ix_at hS.2.1 hj
  refine ⟨h1, ?_, h3, h2⟩
  unfold rk
  rw [h3, h2]
theorem PV_step (hw : WF0 D) {i j : Nat} {z : Int} (hi : i < np D) (hj : j < pn D i) (h : PV D (8 * i + j) z) : PV D (8 * i + j + 1) (pq D i j : Nat) := by
  obtain ⟨h1, h2, -⟩ := pq_rk hw hi hj
  refine Or.inr ⟨by omega, by rw [Int.toNat_natCast]; exact h1, by rw [Int.toNat_natCast, h2]; omega, fun w hw' hlt => by rw [Int.toNat_natCast, h2]; omega⟩
theorem rk_page (hw : WF0 D) {i : Nat} {w : Nat} (hw' : alP D w) (h : rk D w < 8 * (i : Int) + 8) (h2 : 8 * (i : Int) + pn D i ≤ rk D w) : False := by
  have h3 := ixP_lt hw hw'
  unfold rk at h h2
  have : hp D w = i := by omega
  rw [this] at h3
  omega
theorem PV_page (hw : WF0 D) {i : Nat} {z : Int} (hi : i < np D) (h : PV D (8 * i + pn D i) z) : PV D (8 * (i + 1 : Nat)) z := by
  have hn := (hw.2.1 i hi).2.2.1
  rcases h with ⟨a, b⟩ | ⟨a, b, c, d⟩
  · refine Or.inl ⟨a, fun w hw' => ?_⟩
    have := b w hw'
    rcases Int.lt_or_le (rk D w) (8 * (i : Int) + 8) with e | e
    · exact absurd (rk_page hw hw' e this) id
    · omega
  · refine Or.inr ⟨a, b, by omega, fun w hw' hlt => ?_⟩
    rcases Int.lt_or_le (rk D w) (8 * (i : Int) + pn D i) with e | e
    · exact d w hw' e
    · exact absurd (rk_page hw hw' (by omega) e) id
end
section
variable {g : qG} {l : Launch} {A : Nat → Nat → Nat} {D : qD} {σ : qS}
theorem pRef_inj (hA : qInj A) {v w : Int} (hv : v = -1 ∨ 0 ≤ v) (hw : w = -1 ∨ 0 ≤ w) (h : pRef A v = pRef A w) : v = w := by
  unfold pRef at h
  by_cases c : v = -1
  · rw [if_pos c] at h
    by_cases d : w = -1
    · omega
    · rw [if_neg d] at h; exact absurd h.symm (hA.2 _ _)
  · rw [if_neg c] at h
    by_cases d : w = -1
    · rw [if_pos d] at h; exact absurd h (hA.2 _ _)
    · rw [if_neg d] at h
      have := qInj_i hA h
      omega
theorem pRef_n {i : Nat} : pRef A (i : Int) = A 6 i := by
  unfold pRef
  rw [if_neg (by omega), Int.toNat_natCast]
theorem PV_c {T z : Int} (h : PV D T z) : z = -1 ∨ 0 ≤ z := by
  rcases h with h | h
  · exact Or.inl h.1
  · exact Or.inr h.1
theorem spec_getPg (hl : l.stackTraces = false) (h : CR A D σ) {k : Nat} (hk : k < np D) : qMet g l M_Jx4a65c_get_915e3 [vr (A 1 0), vi (k : Int)] σ (qPr σ (A 5 k)) := by
  have := spec_getM (g := g) (i := (k : Int)) (k := k) hl h.1.2.2.2.2.2.2.1 h.1.2.2.2.2.2.2.2.1 rfl (by rw [List.length_range]; exact hk)
  rwa [getD_range hk] at this
theorem spec_sizePg (hl : l.stackTraces = false) (h : CR A D σ) : qMet g l M_Jx4a65c_size_8abf5 [vr (A 1 0)] σ (qPi σ (np D)) := by
  have := spec_sizeM (g := g) hl h.1.2.2.2.2.2.2.1 h.1.2.2.2.2.2.2.2.1
  rwa [List.length_range] at this
theorem spec_readBehind (hl : l.stackTraces = false) (hA : qInj A) (h : CR A D σ) (hw : WF0 D) {kv : Int} (hkv : kv = -1 ∨ pnOk D kv) : qMet g l M_X7_readBehind [vr (A 0 0), vr (pRef A kv)] σ (qPr σ (pRef A (nxt D kv))) := by
  have hn := hw.1.1
  have hkc : kv = -1 ∨ 0 ≤ kv := hkv.elim Or.inl (fun z => Or.inr z.1)
  have hx : ∀ v, NX D (rkv D kv) v → nxt D kv = v := fun v hv => tho_eq hv (fun v' => NX_u hw hv)
  have hkb : -1 ≤ rkv D kv ∧ (kv = -1 → rkv D kv = -1) ∧ (kv ≠ -1 → rkv D kv = rk D kv.toNat ∧ alP D kv.toNat ∧ 0 ≤ rkv D kv ∧ rk D kv.toNat < 8 * (np D : Int)) := by
    unfold rkv
    rcases hkv with z | z
    · rw [if_pos z]; exact ⟨by omega, fun _ => rfl, fun y => absurd z y⟩
    · have := (rk_b hw z.2).1
      have h2 := (alP_home hw z.2).1
      have h3 := (ixP_lt hw z.2).2
      rw [if_neg (by have := z.1; omega)]
      exact ⟨by omega, fun y => by have := z.1; omega, fun _ => ⟨rfl, z.2, this, by unfold rk; omega⟩⟩
  refine wm_X7_readBehind hl ⟨fun n x1 x2 => ∃ (i : Nat) (z : Int), x2 = i ∧ i ≤ np D ∧ x1 = pRef A z ∧ PV D (8 * (i : Int)) z ∧ (rkv D kv < 8 * (i : Int) → z = kv) ∧ n = 20 - i, ⟨_, 0, -1, rfl, Nat.zero_le _, rfl, PV_0 hw, ?_, rfl⟩, ?_⟩
  · intro hlt
    by_cases c : kv = -1
    · exact c.symm
    · have := (hkb.2.2 c).2.2.1; omega
  rintro n x1 x2 ⟨i, z, rfl, hi, rfl, hpv, hz, rfl⟩
  rw [h.1.2.1]
  refine ⟨h.1.1, h.1.2.2.2.2.2.2.1, _, spec_sizePg hl h, by unfold qR; omega, by unfold qR; omega, fun hd => ⟨rfl, ?_⟩, fun hd => ?_⟩
  · have hi2 : i = np D := by omega
    subst hi2
    rw [hx (-1) (Or.inl ⟨rfl, fun w hw' => ?_⟩)]
    · unfold pRef; rw [if_pos rfl]
    · have hrw : rk D w < 8 * (np D : Int) := by
        have h2 := (alP_home hw hw').1
        have h3 := (ixP_lt hw hw').2
        unfold rk; omega
      by_cases c : kv = -1
      · have hz' := hz (by rw [hkb.2.1 c]; omega)
        rcases hpv with ⟨a, b⟩ | ⟨a, b⟩
        · have := b w hw'; omega
        · omega
      · obtain ⟨e1, e2, e3, e4⟩ := hkb.2.2 c
        have hz' := hz (by omega)
        rcases hpv with ⟨a, b⟩ | ⟨a, b, b2, b3⟩
        · omega
        · rw [e1, ← hz']; exact b3 w hw' hrw
  have hin : i < np D := by omega
  have hpn8 := (hw.2.1 i hin).2.2.1
  obtain ⟨p1, p2, p3, p4, p5, p6⟩ := (h.2.2.2.1 i hin).1
  refine ⟨A 5 i, spec_getPg hl h hin, Or.inr p1, fun n x19 x20 => ∃ (j : Nat) (z : Int), x20 = j ∧ j ≤ pn D i ∧ x19 = pRef A z ∧ PV D (8 * (i : Int) + j) z ∧ (rkv D kv < 8 * (i : Int) + j → z = kv) ∧ n = 20 - j, ⟨_, 0, z, rfl, Nat.zero_le _, rfl, by simpa using hpv, by simpa using hz, rfl⟩, ?_⟩
  rintro n x19 x20 ⟨j, z', rfl, hj, rfl, hpv', hz', rfl⟩
  rw [p3]
  have hll : ((row D i).length : Int) = (pn D i : Int) := rfl
  refine ⟨p1, p5, _, spec_sizeM hl p5 p6, by unfold qR; omega, by unfold qR; omega, fun he x34 h34 => ⟨_, ?_, i + 1, z', by omega, by omega, rfl, ?_, ?_, rfl⟩, fun he => ?_⟩
  · omega
  · have : j = pn D i := by omega
    subst this
    exact PV_page hw hin hpv'
  · intro hlt
    by_cases c : kv = -1
    · exact hz' (by rw [hkb.2.1 c]; omega)
    · obtain ⟨e1, e2, e3, e4⟩ := hkb.2.2 c
      refine hz' ?_
      rcases Int.lt_or_le (rkv D kv) (8 * (i : Int) + j) with e | e
      · exact e
      · exact absurd (rk_page (i := i) hw e2 (by omega) (by omega)) id
  have hjn : j < pn D i := by omega
  obtain ⟨y1, y2, y3, y4⟩ := pq_rk hw hin hjn
  have hyK := (CR_pn h y1).1.1
  refine ⟨fun hne => ⟨A 6 (pq D i j), spec_getM hl p5 p6 rfl hjn, Or.inr hyK, fun x41 h41 => ⟨_, ?_, j + 1, (pq D i j : Nat), by omega, by omega, pRef_n.symm, ?_, ?_, rfl⟩⟩, fun heq => ⟨A 6 (pq D i j), spec_getM hl p5 p6 rfl hjn, Or.inr hyK, rfl, ?_⟩⟩
  · omega
  · exact PV_step hw hin hjn hpv'
  · intro hlt
    have hnlt : ¬ rkv D kv < 8 * (i : Int) + j := fun z => hne (by rw [hz' z])
    by_cases c : kv = -1
    · have := hkb.2.1 c; omega
    · obtain ⟨e1, e2, e3, e4⟩ := hkb.2.2 c
      have := rk_inj hw e2 y1 (by omega)
      omega
  · have hzz := pRef_inj hA (PV_c hpv') hkc heq
    subst hzz
    rw [hx (pq D i j : Nat) (Or.inr ⟨by omega, by rw [Int.toNat_natCast]; exact y1, ?_, fun w hw' hlt => ?_⟩), pRef_n]
    · rw [Int.toNat_natCast, y2]
      by_cases c : z' = -1
      · have := hkb.2.1 c; omega
      · obtain ⟨e1, e2, e3, e4⟩ := hkb.2.2 c
        rcases hpv' with ⟨a, b⟩ | ⟨a, b, b2, b3⟩ <;> omega
    · rw [Int.toNat_natCast, y2]
      rcases Int.lt_or_le (rk D w) (8 * (i : Int) + j) with e | e
      · exfalso
        rcases hpv' with ⟨a, b⟩ | ⟨a, b, b2, b3⟩
        · have := b w hw'; omega
        · have h5 := b3 w hw' e
          obtain ⟨e1, -⟩ := hkb.2.2 (by omega)
          omega
      · exact e
theorem spec_readAhead (hl : l.stackTraces = false) (hA : qInj A) (h : CR A D σ) (hw : WF0 D) {q : Nat} (hq : alP D q) : qMet g l M_X7_readAheadOf [vr (A 0 0), vr (A 6 q)] σ (qPr σ (pRef A (prv D q))) := by
  have hn := hw.1.1
  have hk : rkv D (q : Int) = rk D q := by unfold rkv; rw [if_neg (by omega), Int.toNat_natCast]
  have hx : ∀ v, PV D (rk D q) v → prv D q = v := fun v hv => tho_eq (by rw [hk]; exact hv) (fun v' hv' => PV_u hw hv (by rw [hk] at hv'; exact hv'))
  have hrq := (rk_b hw hq).1
  have hrq2 : rk D q < 8 * (np D : Int) := by
    have h2 := (alP_home hw hq).1
    have h3 := (ixP_lt hw hq).2
    unfold rk; omega
  refine wm_X7_readAheadOf hl ⟨fun n x1 x2 => ∃ (i : Nat) (z : Int), x2 = i ∧ i ≤ np D ∧ x1 = pRef A z ∧ PV D (8 * (i : Int)) z ∧ 8 * (i : Int) ≤ rk D q ∧ n = 20 - i, ⟨_, 0, -1, rfl, Nat.zero_le _, rfl, PV_0 hw, by omega, rfl⟩, ?_⟩
  rintro n x1 x2 ⟨i, z, rfl, hi, rfl, hpv, hz, rfl⟩
  rw [h.1.2.1]
  refine ⟨h.1.1, h.1.2.2.2.2.2.2.1, _, spec_sizePg hl h, by unfold qR; omega, by unfold qR; omega, fun hd => by omega, fun hd => ?_⟩
  have hin : i < np D := by omega
  have hpn8 := (hw.2.1 i hin).2.2.1
  obtain ⟨p1, p2, p3, p4, p5, p6⟩ := (h.2.2.2.1 i hin).1
  refine ⟨A 5 i, spec_getPg hl h hin, Or.inr p1, fun n x19 x20 => ∃ (j : Nat) (z : Int), x20 = j ∧ j ≤ pn D i ∧ x19 = pRef A z ∧ PV D (8 * (i : Int) + j) z ∧ 8 * (i : Int) + j ≤ rk D q ∧ n = 20 - j, ⟨_, 0, z, rfl, Nat.zero_le _, rfl, by simpa using hpv, by simpa using hz, rfl⟩, ?_⟩
  rintro n x19 x20 ⟨j, z', rfl, hj, rfl, hpv', hz', rfl⟩
  rw [p3]
  have hll : ((row D i).length : Int) = (pn D i : Int) := rfl
  refine ⟨p1, p5, _, spec_sizeM hl p5 p6, by unfold qR; omega, by unfold qR; omega, fun he x34 h34 => ⟨_, ?_, i + 1, z', by omega, by omega, rfl, ?_, ?_, rfl⟩, fun he => ?_⟩
  · omega
  · have : j = pn D i := by omega
    subst this
    exact PV_page hw hin hpv'
  · rcases Int.lt_or_le (rk D q) (8 * (i : Int) + 8) with e | e
    · exact absurd (rk_page hw hq e (by omega)) id
    · omega
  have hjn : j < pn D i := by omega
  obtain ⟨y1, y2, y3, y4⟩ := pq_rk hw hin hjn
  have hyK := (CR_pn h y1).1.1
  refine ⟨A 6 (pq D i j), spec_getM hl p5 p6 rfl hjn, fun hne => ⟨A 6 (pq D i j), spec_getM hl p5 p6 rfl hjn, Or.inr hyK, fun x41 h41 => ⟨_, ?_, j + 1, (pq D i j : Nat), by omega, by omega, pRef_n.symm, ?_, ?_, rfl⟩⟩, fun heq => ⟨rfl, ?_⟩⟩
  · omega
  · exact PV_step hw hin hjn hpv'
  · rcases Int.lt_or_le (8 * (i : Int) + j) (rk D q) with e | e
    · omega
    · have := rk_inj hw y1 hq (by omega)
      exact absurd (by rw [this]) hne
  · have := qInj_i hA heq
    rw [this] at y2
    rw [hx z' (by rw [y2]; exact hpv')]
end
