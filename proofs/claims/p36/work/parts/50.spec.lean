/-! THE BOOK: what both sides hold -/
/-- sums, least places -/
def sm (f : Nat → Int) : Nat → Int
  | 0 => 0
  | n + 1 => sm f n + f n
noncomputable def lsp (ok : Nat → Prop) : Nat → Nat
  | 0 => 0
  | n + 1 => @ite Nat (lsp ok n < n ∨ ok n) (Classical.propDecidable _) (lsp ok n) (n + 1)
theorem lsp_sp (ok : Nat → Prop) : ∀ n, lsp ok n ≤ n ∧ (∀ t, t < lsp ok n → ¬ ok t) ∧ (lsp ok n < n → ok (lsp ok n))
  | 0 => ⟨Nat.le_refl _, fun t h => absurd h (Nat.not_lt_zero t), fun h => absurd h (Nat.not_lt_zero _)⟩
  | n + 1 => by
    obtain ⟨h1, h2, h3⟩ := lsp_sp ok n
    unfold lsp
    by_cases c : lsp ok n < n ∨ ok n
    · rw [if_pos c]
      refine ⟨by omega, h2, fun _ => ?_⟩
      by_cases c1 : lsp ok n < n
      · exact h3 c1
      · have : lsp ok n = n := by omega
        rw [this]
        rcases c with c | c
        · exact absurd c c1
        · exact c
    · rw [if_neg c]
      refine ⟨Nat.le_refl _, fun t ht ho => c ?_, fun h => absurd h (by omega)⟩
      by_cases c1 : t = n
      · exact Or.inr (c1 ▸ ho)
      · by_cases c2 : lsp ok n < n
        · exact Or.inl c2
        · exact absurd ho (h2 t (by omega))
theorem lsp_eq {ok : Nat → Prop} {n s : Nat} (h1 : s ≤ n) (h2 : ∀ t, t < s → ¬ ok t) (h3 : s < n → ok s) : lsp ok n = s := by
  obtain ⟨a, b, c⟩ := lsp_sp ok n
  rcases Nat.lt_trichotomy (lsp ok n) s with h | h | h
  · exact absurd (c (by omega)) (h2 _ h)
  · exact h
  · exact absurd (h3 (by omega)) (b _ h)
theorem sm_mono {f : Nat → Int} {a b : Nat} (h : ∀ i, a ≤ i → i < b → 0 ≤ f i) (hab : a ≤ b) : sm f a ≤ sm f b := by
  obtain ⟨d, rfl⟩ : ∃ d, b = a + d := ⟨b - a, by omega⟩
  clear hab
  revert h
  induction d with
  | zero => intro h; exact Int.le_refl _
  | succ d ih =>
    intro h
    have h1 := ih (fun i hi hj => h i hi (by omega))
    have h2 := h (a + d) (by omega) (by omega)
    show sm f a ≤ sm f (a + d) + f (a + d)
    omega
theorem sm_congr {f f' : Nat → Int} : ∀ {n : Nat}, (∀ i, i < n → f i = f' i) → sm f n = sm f' n
  | 0, _ => rfl
  | n + 1, h => by
    show sm f n + f n = sm f' n + f' n
    rw [sm_congr (fun i hi => h i (by omega)), h n (by omega)]
/-! a page's rows: widths, weights, heights by place -/
noncomputable def rEnd (w : Nat → Int) (n f : Nat) : Nat := lsp (fun e => f < e ∧ 24 < sm w (e + 1) - sm w f) n
noncomputable def rs (w : Nat → Int) (n : Nat) : Nat → Nat
  | 0 => 0
  | k + 1 => rEnd w n (rs w n k)
def spare (w : Nat → Int) (f e : Nat) : Int := 24 - (sm w e - sm w f)
def more (w wg : Nat → Int) (f e i : Nat) : Int := spare w f e * wg i / (sm wg e - sm wg f)
def rst (w wg : Nat → Int) (f e : Nat) : Int := spare w f e - (sm (more w wg f e) e - sm (more w wg f e) f)
def wid (w wg : Nat → Int) (f e i : Nat) : Int := w i + more w wg f e i + if (i : Int) - f < rst w wg f e then 1 else 0
/-! a panel's balloons -/
abbrev Bx : Type := Int × Int × Int × Int
def covF (fc : List (Int × Int × Int)) (Ht x y : Int) : Prop := ∃ f ∈ fc, f.1 ≤ x ∧ x < f.1 + f.2.1 ∧ Ht - f.2.2 ≤ y
def inB (b : Bx) (x y : Int) : Prop := b.1 ≤ x ∧ x < b.1 + b.2.2.1 ∧ b.2.1 ≤ y ∧ y < b.2.1 + b.2.2.2
def mny (g lt : Int) : Int := (lt * g + 99) / 100
def wde (W m : Int) : Int := min m (min 6 W)
def hgh (m w : Int) : Int := (m + w - 1) / w
def cnd (t W w h : Int) (s : Nat) : Bx := (if t = 1 then W - s % W - w else s % W, s / W, w, h)
def fre (fc : List (Int × Int × Int)) (Ht : Int) (k : Nat) (bs : Nat → Bx) (b : Bx) : Prop := ∀ x y, inB b x y → ¬ covF fc Ht x y ∧ ∀ j, j < k → ¬ inB (bs j) x y
def okS (t W Ht : Int) (fc : List (Int × Int × Int)) (k : Nat) (bs : Nat → Bx) (w h : Int) (s : Nat) : Prop := (s : Int) % W + w ≤ W ∧ (s : Int) / W + h ≤ Ht ∧ fre fc Ht k bs (cnd t W w h s)
noncomputable def pl (t g W Ht : Int) (fc : List (Int × Int × Int)) (lts : Nat → Int) : Nat → Nat × (Nat → Bx)
  | 0 => (0, fun _ => (0, 0, 0, 0))
  | k + 1 =>
    let st := (pl t g W Ht fc lts k).1
    let bs := (pl t g W Ht fc lts k).2
    let m := mny g (lts k)
    let w := wde W m
    let h := hgh m w
    let s := lsp (fun s => st ≤ s ∧ okS t W Ht fc k bs w h s) (W * Ht).toNat
    (s + 1, fun j => if j = k then cnd t W w h s else bs j)
def pFit (t g W Ht : Int) (fc : List (Int × Int × Int)) (lts : Nat → Int) (c : Nat) : Prop := ∀ k, k < c → (pl t g W Ht fc lts (k + 1)).1 ≤ (W * Ht).toNat
noncomputable def bxs (t g W Ht : Int) (fc : List (Int × Int × Int)) (lts : Nat → Int) (c k : Nat) : Bx := (pl t g W Ht fc lts c).2 k
/-! the book's data: numbers, ints, lists, faces -/
abbrev qD : Type := (Nat → Nat → Nat) × (Nat → Nat → Int) × (Nat → Nat → List Nat) × (Nat → List (Int × Int × Int))
def dN (D : qD) (t i v : Nat) : qD := (q_u2 D.1 t i v, D.2)
def dI (D : qD) (t i : Nat) (v : Int) : qD := (D.1, q_u2 D.2.1 t i v, D.2.2)
def dL (D : qD) (t i : Nat) (v : List Nat) : qD := (D.1, D.2.1, q_u2 D.2.2.1 t i v, D.2.2.2)
def dF (D : qD) (i : Nat) (v : List (Int × Int × Int)) : qD := (D.1, D.2.1, D.2.2.1, q_u1 D.2.2.2 i v)
def np (D : qD) : Nat := D.1 0 0
theorem np_N {D : qD} {t j : Nat} {v : Nat} : np (dN D t j v) = if 0 = t ∧ 0 = j then v else np D := rfl
theorem np_I {D : qD} {t j : Nat} {v : Int} : np (dI D t j v) = np D := rfl
theorem np_L {D : qD} {t j : Nat} {v : List Nat} : np (dL D t j v) = np D := rfl
theorem np_F {D : qD} {j : Nat} {v : List (Int × Int × Int)} : np (dF D j v) = np D := rfl
def nq (D : qD) : Nat := D.1 0 1
theorem nq_N {D : qD} {t j : Nat} {v : Nat} : nq (dN D t j v) = if 0 = t ∧ 1 = j then v else nq D := rfl
theorem nq_I {D : qD} {t j : Nat} {v : Int} : nq (dI D t j v) = nq D := rfl
theorem nq_L {D : qD} {t j : Nat} {v : List Nat} : nq (dL D t j v) = nq D := rfl
theorem nq_F {D : qD} {j : Nat} {v : List (Int × Int × Int)} : nq (dF D j v) = nq D := rfl
def nb (D : qD) : Nat := D.1 0 2
theorem nb_N {D : qD} {t j : Nat} {v : Nat} : nb (dN D t j v) = if 0 = t ∧ 2 = j then v else nb D := rfl
theorem nb_I {D : qD} {t j : Nat} {v : Int} : nb (dI D t j v) = nb D := rfl
theorem nb_L {D : qD} {t j : Nat} {v : List Nat} : nb (dL D t j v) = nb D := rfl
theorem nb_F {D : qD} {j : Nat} {v : List (Int × Int × Int)} : nb (dF D j v) = nb D := rfl
def hp (D : qD) (i : Nat) : Nat := D.1 1 i
theorem hp_N {D : qD} {i : Nat} {t j : Nat} {v : Nat} : hp (dN D t j v) i = if 1 = t ∧ i = j then v else hp D i := rfl
theorem hp_I {D : qD} {i : Nat} {t j : Nat} {v : Int} : hp (dI D t j v) i = hp D i := rfl
theorem hp_L {D : qD} {i : Nat} {t j : Nat} {v : List Nat} : hp (dL D t j v) i = hp D i := rfl
theorem hp_F {D : qD} {i : Nat} {j : Nat} {v : List (Int × Int × Int)} : hp (dF D j v) i = hp D i := rfl
def hb (D : qD) (i : Nat) : Nat := D.1 2 i
theorem hb_N {D : qD} {i : Nat} {t j : Nat} {v : Nat} : hb (dN D t j v) i = if 2 = t ∧ i = j then v else hb D i := rfl
theorem hb_I {D : qD} {i : Nat} {t j : Nat} {v : Int} : hb (dI D t j v) i = hb D i := rfl
theorem hb_L {D : qD} {i : Nat} {t j : Nat} {v : List Nat} : hb (dL D t j v) i = hb D i := rfl
theorem hb_F {D : qD} {i : Nat} {j : Nat} {v : List (Int × Int × Int)} : hb (dF D j v) i = hb D i := rfl
def tg (D : qD) (i : Nat) : Int := D.2.1 1 i
theorem tg_N {D : qD} {i : Nat} {t j : Nat} {v : Nat} : tg (dN D t j v) i = tg D i := rfl
theorem tg_I {D : qD} {i : Nat} {t j : Nat} {v : Int} : tg (dI D t j v) i = if 1 = t ∧ i = j then v else tg D i := rfl
theorem tg_L {D : qD} {i : Nat} {t j : Nat} {v : List Nat} : tg (dL D t j v) i = tg D i := rfl
theorem tg_F {D : qD} {i : Nat} {j : Nat} {v : List (Int × Int × Int)} : tg (dF D j v) i = tg D i := rfl
def sp (D : qD) (i : Nat) : Int := D.2.1 2 i
theorem sp_N {D : qD} {i : Nat} {t j : Nat} {v : Nat} : sp (dN D t j v) i = sp D i := rfl
theorem sp_I {D : qD} {i : Nat} {t j : Nat} {v : Int} : sp (dI D t j v) i = if 2 = t ∧ i = j then v else sp D i := rfl
theorem sp_L {D : qD} {i : Nat} {t j : Nat} {v : List Nat} : sp (dL D t j v) i = sp D i := rfl
theorem sp_F {D : qD} {i : Nat} {j : Nat} {v : List (Int × Int × Int)} : sp (dF D j v) i = sp D i := rfl
def gr (D : qD) (i : Nat) : Int := D.2.1 3 i
theorem gr_N {D : qD} {i : Nat} {t j : Nat} {v : Nat} : gr (dN D t j v) i = gr D i := rfl
theorem gr_I {D : qD} {i : Nat} {t j : Nat} {v : Int} : gr (dI D t j v) i = if 3 = t ∧ i = j then v else gr D i := rfl
theorem gr_L {D : qD} {i : Nat} {t j : Nat} {v : List Nat} : gr (dL D t j v) i = gr D i := rfl
theorem gr_F {D : qD} {i : Nat} {j : Nat} {v : List (Int × Int × Int)} : gr (dF D j v) i = gr D i := rfl
def gq (D : qD) (i : Nat) : Int := D.2.1 4 i
theorem gq_N {D : qD} {i : Nat} {t j : Nat} {v : Nat} : gq (dN D t j v) i = gq D i := rfl
theorem gq_I {D : qD} {i : Nat} {t j : Nat} {v : Int} : gq (dI D t j v) i = if 4 = t ∧ i = j then v else gq D i := rfl
theorem gq_L {D : qD} {i : Nat} {t j : Nat} {v : List Nat} : gq (dL D t j v) i = gq D i := rfl
theorem gq_F {D : qD} {i : Nat} {j : Nat} {v : List (Int × Int × Int)} : gq (dF D j v) i = gq D i := rfl
def wt (D : qD) (i : Nat) : Int := D.2.1 5 i
theorem wt_N {D : qD} {i : Nat} {t j : Nat} {v : Nat} : wt (dN D t j v) i = wt D i := rfl
theorem wt_I {D : qD} {i : Nat} {t j : Nat} {v : Int} : wt (dI D t j v) i = if 5 = t ∧ i = j then v else wt D i := rfl
theorem wt_L {D : qD} {i : Nat} {t j : Nat} {v : List Nat} : wt (dL D t j v) i = wt D i := rfl
theorem wt_F {D : qD} {i : Nat} {j : Nat} {v : List (Int × Int × Int)} : wt (dF D j v) i = wt D i := rfl
def wd (D : qD) (i : Nat) : Int := D.2.1 6 i
theorem wd_N {D : qD} {i : Nat} {t j : Nat} {v : Nat} : wd (dN D t j v) i = wd D i := rfl
theorem wd_I {D : qD} {i : Nat} {t j : Nat} {v : Int} : wd (dI D t j v) i = if 6 = t ∧ i = j then v else wd D i := rfl
theorem wd_L {D : qD} {i : Nat} {t j : Nat} {v : List Nat} : wd (dL D t j v) i = wd D i := rfl
theorem wd_F {D : qD} {i : Nat} {j : Nat} {v : List (Int × Int × Int)} : wd (dF D j v) i = wd D i := rfl
def ht (D : qD) (i : Nat) : Int := D.2.1 7 i
theorem ht_N {D : qD} {i : Nat} {t j : Nat} {v : Nat} : ht (dN D t j v) i = ht D i := rfl
theorem ht_I {D : qD} {i : Nat} {t j : Nat} {v : Int} : ht (dI D t j v) i = if 7 = t ∧ i = j then v else ht D i := rfl
theorem ht_L {D : qD} {i : Nat} {t j : Nat} {v : List Nat} : ht (dL D t j v) i = ht D i := rfl
theorem ht_F {D : qD} {i : Nat} {j : Nat} {v : List (Int × Int × Int)} : ht (dF D j v) i = ht D i := rfl
def gb (D : qD) (i : Nat) : Int := D.2.1 8 i
theorem gb_N {D : qD} {i : Nat} {t j : Nat} {v : Nat} : gb (dN D t j v) i = gb D i := rfl
theorem gb_I {D : qD} {i : Nat} {t j : Nat} {v : Int} : gb (dI D t j v) i = if 8 = t ∧ i = j then v else gb D i := rfl
theorem gb_L {D : qD} {i : Nat} {t j : Nat} {v : List Nat} : gb (dL D t j v) i = gb D i := rfl
theorem gb_F {D : qD} {i : Nat} {j : Nat} {v : List (Int × Int × Int)} : gb (dF D j v) i = gb D i := rfl
def lt (D : qD) (i : Nat) : Int := D.2.1 9 i
theorem lt_N {D : qD} {i : Nat} {t j : Nat} {v : Nat} : lt (dN D t j v) i = lt D i := rfl
theorem lt_I {D : qD} {i : Nat} {t j : Nat} {v : Int} : lt (dI D t j v) i = if 9 = t ∧ i = j then v else lt D i := rfl
theorem lt_L {D : qD} {i : Nat} {t j : Nat} {v : List Nat} : lt (dL D t j v) i = lt D i := rfl
theorem lt_F {D : qD} {i : Nat} {j : Nat} {v : List (Int × Int × Int)} : lt (dF D j v) i = lt D i := rfl
def an (D : qD) (i : Nat) : Int := D.2.1 10 i
theorem an_N {D : qD} {i : Nat} {t j : Nat} {v : Nat} : an (dN D t j v) i = an D i := rfl
theorem an_I {D : qD} {i : Nat} {t j : Nat} {v : Int} : an (dI D t j v) i = if 10 = t ∧ i = j then v else an D i := rfl
theorem an_L {D : qD} {i : Nat} {t j : Nat} {v : List Nat} : an (dL D t j v) i = an D i := rfl
theorem an_F {D : qD} {i : Nat} {j : Nat} {v : List (Int × Int × Int)} : an (dF D j v) i = an D i := rfl
def he (D : qD) : Int := D.2.1 11 0
theorem he_N {D : qD} {t j : Nat} {v : Nat} : he (dN D t j v) = he D := rfl
theorem he_I {D : qD} {t j : Nat} {v : Int} : he (dI D t j v) = if 11 = t ∧ 0 = j then v else he D := rfl
theorem he_L {D : qD} {t j : Nat} {v : List Nat} : he (dL D t j v) = he D := rfl
theorem he_F {D : qD} {j : Nat} {v : List (Int × Int × Int)} : he (dF D j v) = he D := rfl
def row (D : qD) (i : Nat) : List Nat := D.2.2.1 0 i
theorem row_N {D : qD} {i : Nat} {t j : Nat} {v : Nat} : row (dN D t j v) i = row D i := rfl
theorem row_I {D : qD} {i : Nat} {t j : Nat} {v : Int} : row (dI D t j v) i = row D i := rfl
theorem row_L {D : qD} {i : Nat} {t j : Nat} {v : List Nat} : row (dL D t j v) i = if 0 = t ∧ i = j then v else row D i := rfl
theorem row_F {D : qD} {i : Nat} {j : Nat} {v : List (Int × Int × Int)} : row (dF D j v) i = row D i := rfl
def hs (D : qD) (i : Nat) : List Nat := D.2.2.1 1 i
theorem hs_N {D : qD} {i : Nat} {t j : Nat} {v : Nat} : hs (dN D t j v) i = hs D i := rfl
theorem hs_I {D : qD} {i : Nat} {t j : Nat} {v : Int} : hs (dI D t j v) i = hs D i := rfl
theorem hs_L {D : qD} {i : Nat} {t j : Nat} {v : List Nat} : hs (dL D t j v) i = if 1 = t ∧ i = j then v else hs D i := rfl
theorem hs_F {D : qD} {i : Nat} {j : Nat} {v : List (Int × Int × Int)} : hs (dF D j v) i = hs D i := rfl
def kp (D : qD) : List Nat := D.2.2.1 2 0
theorem kp_N {D : qD} {t j : Nat} {v : Nat} : kp (dN D t j v) = kp D := rfl
theorem kp_I {D : qD} {t j : Nat} {v : Int} : kp (dI D t j v) = kp D := rfl
theorem kp_L {D : qD} {t j : Nat} {v : List Nat} : kp (dL D t j v) = if 2 = t ∧ 0 = j then v else kp D := rfl
theorem kp_F {D : qD} {j : Nat} {v : List (Int × Int × Int)} : kp (dF D j v) = kp D := rfl
def fc (D : qD) (i : Nat) : List (Int × Int × Int) := D.2.2.2 i
theorem fc_N {D : qD} {i : Nat} {t j : Nat} {v : Nat} : fc (dN D t j v) i = fc D i := rfl
theorem fc_I {D : qD} {i : Nat} {t j : Nat} {v : Int} : fc (dI D t j v) i = fc D i := rfl
theorem fc_L {D : qD} {i : Nat} {t j : Nat} {v : List Nat} : fc (dL D t j v) i = fc D i := rfl
theorem fc_F {D : qD} {i j : Nat} {v : List (Int × Int × Int)} : fc (dF D j v) i = if i = j then v else fc D i := rfl
/-! the layout of a page of the book -/
def pq (D : qD) (p i : Nat) : Nat := (row D p).getD i 0
def pw (D : qD) (p i : Nat) : Int := wd D (pq D p i)
def pg (D : qD) (p i : Nat) : Int := wt D (pq D p i)
def pn (D : qD) (p : Nat) : Nat := (row D p).length
def bl (D : qD) (q k : Nat) : Nat := (hs D q).getD k 0
def lts (D : qD) (q k : Nat) : Int := lt D (bl D q k)
def gro (D : qD) (p : Nat) : Int := gr D (tg D p).toNat
/-- whether the panel q, on the page p, holds its balloons at a width and height -/
def Fit (D : qD) (p q : Nat) (W Ht : Int) : Prop := pFit (tg D p) (gro D p) W Ht (fc D q) (lts D q) (hs D q).length
noncomputable def box (D : qD) (p q : Nat) (W Ht : Int) (k : Nat) : Bx := bxs (tg D p) (gro D p) W Ht (fc D q) (lts D q) (hs D q).length k
/-- width of the panel at i in the row from f to e; height of that row -/
def pW (D : qD) (p f e i : Nat) : Int := wid (pw D p) (pg D p) f e i
noncomputable def rH (D : qD) (p f e : Nat) : Nat := lsp (fun h => ∀ i, f ≤ i → i < e → ht D (pq D p i) ≤ h ∧ Fit D p (pq D p i) (pW D p f e i) h) 17
noncomputable def rS (D : qD) (p k : Nat) : Nat := rs (pw D p) (pn D p) k
noncomputable def rT (D : qD) (p : Nat) : Nat → Int
  | 0 => 0
  | k + 1 => rT D p k + rH D p (rS D p k) (rS D p (k + 1))
/-- the page can be laid -/
def OKp (D : qD) (p : Nat) : Prop := ∀ k, rS D p k < pn D p → rH D p (rS D p k) (rS D p (k + 1)) ≤ 16 ∧ rT D p (k + 1) ≤ 50
noncomputable def rowsOf (D : qD) (p : Nat) : Nat := lsp (fun k => rS D p k = pn D p) (pn D p)
