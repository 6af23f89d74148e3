/-! books that are alike on a page -/
def LyEq (D D' : qD) (p : Nat) : Prop := row D' p = row D p ∧ tg D' p = tg D p ∧ gro D' p = gro D p ∧ ∀ q, q ∈ row D p → wt D' q = wt D q ∧ wd D' q = wd D q ∧ ht D' q = ht D q ∧ fc D' q = fc D q ∧ hs D' q = hs D q ∧ ∀ b, b ∈ hs D q → lt D' b = lt D b
theorem lsp_congr {ok ok' : Nat → Prop} : ∀ {n : Nat}, (∀ t, t < n → (ok t ↔ ok' t)) → lsp ok n = lsp ok' n
  | 0, _ => rfl
  | n + 1, h => by
    have ih := lsp_congr (n := n) (fun t ht => h t (by omega))
    unfold lsp
    rw [ih]
    by_cases c : lsp ok' n < n ∨ ok' n
    · rw [if_pos c, if_pos (c.imp id (h n (by omega)).mpr)]
    · rw [if_neg c, if_neg (fun z => c (z.imp id (h n (by omega)).mp))]
theorem pl_congr {t g W Ht : Int} {fc : List (Int × Int × Int)} {f f' : Nat → Int} : ∀ {k : Nat}, (∀ j, j < k → f j = f' j) → pl t g W Ht fc f k = pl t g W Ht fc f' k
  | 0, _ => rfl
  | k + 1, h => by
    have ih := pl_congr (k := k) (t := t) (g := g) (W := W) (Ht := Ht) (fc := fc) (fun j hj => h j (by omega))
    unfold pl
    rw [ih, h k (by omega)]
section
variable {D D' : qD} {p : Nat}
theorem LyEq_n (h : LyEq D D' p) : pn D' p = pn D p := by unfold pn; rw [h.1]
theorem LyEq_q (h : LyEq D D' p) (i : Nat) : pq D' p i = pq D p i := by unfold pq; rw [h.1]
theorem LyEq_w (h : LyEq D D' p) {i : Nat} (hi : i < pn D p) : pw D' p i = pw D p i ∧ pg D' p i = pg D p i ∧ ht D' (pq D p i) = ht D (pq D p i) := by
  have := h.2.2.2 _ (pq_mem hi)
  unfold pw pg
  rw [LyEq_q h]
  exact ⟨this.2.1, this.1, this.2.2.1⟩
theorem LyEq_lts (h : LyEq D D' p) {q : Nat} (hq : q ∈ row D p) {j : Nat} (hj : j < (hs D q).length) : lts D' q j = lts D q j := by
  have := h.2.2.2 _ hq
  unfold lts bl
  rw [this.2.2.2.2.1]
  exact this.2.2.2.2.2 _ (bl_mem hj)
theorem LyEq_fit (h : LyEq D D' p) {q : Nat} (hq : q ∈ row D p) {W Ht : Int} : (Fit D' p q W Ht ↔ Fit D p q W Ht) ∧ ∀ k, box D' p q W Ht k = box D p q W Ht k := by
  have h1 := h.2.2.2 _ hq
  have e : ∀ k, k ≤ (hs D q).length → pl (tg D' p) (gro D' p) W Ht (fc D' q) (lts D' q) k = pl (tg D p) (gro D p) W Ht (fc D q) (lts D q) k := by
    intro k hk
    rw [h.2.1, h.2.2.1, h1.2.2.2.1]
    exact pl_congr (fun j hj => LyEq_lts h hq (by omega))
  unfold Fit pFit box bxs
  rw [h1.2.2.2.2.1]
  refine ⟨⟨fun z k hk => ?_, fun z k hk => ?_⟩, fun k => ?_⟩
  · rw [← e (k + 1) (by omega)]; exact z k hk
  · rw [e (k + 1) (by omega)]; exact z k hk
  · rw [e _ (Nat.le_refl _)]
theorem LyEq_S (h : LyEq D D' p) : ∀ k, rS D' p k = rS D p k
  | 0 => rfl
  | k + 1 => by
    have ih := LyEq_S h k
    have e1 : rS D' p (k + 1) = lsp (fun e => rS D' p k < e ∧ 24 < sm (pw D' p) (e + 1) - sm (pw D' p) (rS D' p k)) (pn D' p) := rfl
    have e2 : rS D p (k + 1) = lsp (fun e => rS D p k < e ∧ 24 < sm (pw D p) (e + 1) - sm (pw D p) (rS D p k)) (pn D p) := rfl
    rw [e1, e2, ih, LyEq_n h]
    refine lsp_congr (fun t ht => ?_)
    have hsm : ∀ m, m ≤ pn D p → sm (pw D' p) m = sm (pw D p) m := fun m hm => sm_congr (fun i hi => (LyEq_w h (by omega)).1)
    constructor
    · rintro ⟨a, b⟩
      rw [hsm _ (by omega), hsm _ (by omega)] at b
      exact ⟨a, b⟩
    · rintro ⟨a, b⟩
      rw [hsm _ (by omega), hsm _ (by omega)]
      exact ⟨a, b⟩
theorem LyEq_W (h : LyEq D D' p) {f e i : Nat} (hf : f ≤ e) (he : e ≤ pn D p) (hi : i < e) : pW D' p f e i = pW D p f e i := by
  have hsm : ∀ m, m ≤ pn D p → sm (pw D' p) m = sm (pw D p) m := fun m hm => sm_congr (fun i hi => (LyEq_w h (by omega)).1)
  have hsg : ∀ m, m ≤ pn D p → sm (pg D' p) m = sm (pg D p) m := fun m hm => sm_congr (fun i hi => (LyEq_w h (by omega)).2.1)
  have hsp : spare (pw D' p) f e = spare (pw D p) f e := by unfold spare; rw [hsm _ (by omega), hsm _ (by omega)]
  have hmo : ∀ j, j < e → more (pw D' p) (pg D' p) f e j = more (pw D p) (pg D p) f e j := by
    intro j hj
    unfold more
    rw [hsp, (LyEq_w h (show j < pn D p by omega)).2.1, hsg _ (by omega), hsg _ (by omega)]
  have hsmo : ∀ m, m ≤ e → sm (more (pw D' p) (pg D' p) f e) m = sm (more (pw D p) (pg D p) f e) m := fun m hm => sm_congr (fun i hi => hmo i (by omega))
  unfold pW wid rst
  rw [hmo i hi, (LyEq_w h (show i < pn D p by omega)).1, hsp, hsmo _ (Nat.le_refl _), hsmo _ hf]
theorem LyEq_H (h : LyEq D D' p) {f e : Nat} (hf : f ≤ e) (he : e ≤ pn D p) : rH D' p f e = rH D p f e := by
  refine lsp_congr (fun t ht => ?_)
  constructor
  · intro z i a b
    have := z i a b
    rw [LyEq_q h, LyEq_W h hf he b, (LyEq_w h (show i < pn D p by omega)).2.2, (LyEq_fit h (pq_mem (show i < pn D p by omega))).1] at this
    exact this
  · intro z i a b
    rw [LyEq_q h, LyEq_W h hf he b, (LyEq_w h (show i < pn D p by omega)).2.2, (LyEq_fit h (pq_mem (show i < pn D p by omega))).1]
    exact z i a b
theorem LyEq_HS (hw : PgW D p) (h : LyEq D D' p) (k : Nat) : rH D' p (rS D' p k) (rS D' p (k + 1)) = rH D p (rS D p k) (rS D p (k + 1)) := by
  rw [LyEq_S h, LyEq_S h]
  exact LyEq_H h (rS_mono hw (by omega)) (rS_le hw _)
theorem LyEq_T (hw : PgW D p) (h : LyEq D D' p) : ∀ k, rT D' p k = rT D p k
  | 0 => rfl
  | k + 1 => by
    show rT D' p k + (rH D' p (rS D' p k) (rS D' p (k + 1)) : Nat) = rT D p k + (rH D p (rS D p k) (rS D p (k + 1)) : Nat)
    rw [LyEq_T hw h k, LyEq_HS hw h]
theorem LyEq_OK (hw : PgW D p) (h : LyEq D D' p) : OKp D' p ↔ OKp D p := by
  unfold OKp
  constructor
  · intro z k hk
    have := z k (by rw [LyEq_S h, LyEq_n h]; exact hk)
    rw [LyEq_HS hw h, LyEq_T hw h] at this
    exact this
  · intro z k hk
    rw [LyEq_S h, LyEq_n h] at hk
    rw [LyEq_HS hw h, LyEq_T hw h]
    exact z k hk
theorem LyEq_rows (h : LyEq D D' p) : rowsOf D' p = rowsOf D p := by
  unfold rowsOf
  rw [LyEq_n h]
  refine lsp_congr (fun t _ => ?_)
  rw [LyEq_S h]
theorem LyEq_B (hw : PgW D p) (h : LyEq D D' p) {k i : Nat} (hi : i < rS D p (k + 1)) : pB D' p k i = pB D p k i := by
  have e1 : rS D p (k + 1) ≤ pn D p := rS_le hw _
  have e2 : rS D p k ≤ rS D p (k + 1) := rS_mono hw (by omega)
  have hsx : ∀ m, m ≤ rS D p (k + 1) → sm (pW D' p (rS D p k) (rS D p (k + 1))) m = sm (pW D p (rS D p k) (rS D p (k + 1))) m := fun m hm => sm_congr (fun j hj => LyEq_W h e2 e1 (by omega))
  have hX : pX D' p k i = pX D p k i := by
    unfold pX
    rw [LyEq_S h, LyEq_S h, hsx _ (by omega), hsx _ e2]
  have hW : pWd D' p k i = pWd D p k i := by
    unfold pWd
    rw [LyEq_S h, LyEq_S h, LyEq_W h e2 e1 hi]
  have hH : pH D' p k = pH D p k := by
    unfold pH
    rw [LyEq_HS hw h]
  unfold pB
  rw [hX, hW, hH, h.2.1, LyEq_T hw h]
theorem LyEq_k (h : LyEq D D' p) (i : Nat) : kOf D' p i = kOf D p i := by
  unfold kOf
  rw [LyEq_n h]
  exact lsp_congr (fun t _ => by rw [LyEq_S h])
theorem LyEq_LB (hw : PgW D p) (h : LyEq D D' p) {q : Nat} (hq : q ∈ row D p) (hpq : hp D q = p) (hpq' : hp D' q = p) : kq D' q = kq D q ∧ LB D' q = LB D q := by
  have e1 : ixP D' q = ixP D q := by unfold ixP; rw [hpq, hpq', h.1]
  have e2 : kq D' q = kq D q := by unfold kq; rw [hpq, hpq', e1, LyEq_k h]
  have e3 : ixP D q < pn D p := by unfold ixP; rw [hpq]; exact ix_lt hq
  refine ⟨e2, ?_⟩
  unfold LB
  rw [e1, e2, hpq, hpq']
  refine LyEq_B hw h ?_
  unfold kq
  rw [hpq]
  exact (kOf_sp hw e3).2.2
theorem LyEq_FB (hw : PgW D p) (h : LyEq D D' p) {q : Nat} (hq : q ∈ row D p) (hpq : hp D q = p) (hpq' : hp D' q = p) {b : Nat} (hbq : hb D b = q) (hbq' : hb D' b = q) : FB D' b = FB D b := by
  have e1 := (LyEq_LB hw h hq hpq hpq').2
  have e2 : ixB D' b = ixB D b := by unfold ixB; rw [hbq, hbq', (h.2.2.2 _ hq).2.2.2.2.1]
  unfold FB FBq
  rw [hbq, hbq', hpq, hpq', e1, e2]
  exact (LyEq_fit h hq).2 _
end
