/-! rules: class objects; a list opened (its object and its array seen) and closed -/
section
variable {g : qG} {l : Launch} {M M' : qM} {ac as' pc : Nat} {ls : List (Option qV)} {st : List qV} {σ : qS} {Post Mid : qS → qRs → Prop}
theorem wp_ldcM {idx : Nat} (hd : decode M.2.1 pc = .ok (.ldc idx, 2)) (hw : Cond.classLink M.1.cls idx "[Ljava/lang/Object;" ∈ lw_tbl) (kk : qW g l M ac as' (pc + 2) ls (vr (g.2.2.1 7 + 1) :: st) σ Post) : qW g l M ac as' pc ls st σ Post := by
  intro p e s m args below meth c H locs cells slots Ls C hR hS hcc hss hL
  have hSF := C.2.2.2.2.2.2.2.2.2.1
  exact va_ldcM C.1 C.2.1 C.2.2.2.2.1 (q_word hSF hw rfl _) hSF.2.2.2.2.2.2.2.2.1.1 hd (kk p e s m args below meth c H locs cells slots Ls C hR hS hcc hss hL)
theorem wp_getC {idx r : Nat} (hd : decode M.2.1 pc = .ok (.invokevirtual idx, 3)) (hw : Cond.methodLink M.1.cls idx ⟨"java/lang/Object", "getClass", "()Ljava/lang/Class;"⟩ ∈ lw_tbl) (hA : q_isA σ 4 r) (hst : q_small st) (hR1 : 1 ≤ M.2.2.2.2.1.frames ∧ 200 ≤ M.2.2.2.2.1.locals) (kk : qW g l M ac as' (pc + 3) ls (vr (g.2.2.1 7 + 1) :: st) σ Post) : qW g l M ac as' pc ls (vr r :: st) σ Post := by
  intro p e s m args below meth c H locs cells slots Ls C hR hS hcc hss hL
  have hSF := C.2.2.2.2.2.2.2.2.2.1
  obtain ⟨h1, h2, h3, cell, h4, hcl, hvs, hvu, hsl⟩ := q_arr hR hA
  obtain ⟨a, rfl⟩ : ∃ a, r = a + 1 := ⟨r - 1, by omega⟩
  unfold q_small at hst
  exact va_getC C.1 C.2.1 (by rw [C.2.2.1]; exact hL.1.symm) C.2.2.2.2.1 (q_word hSF hw rfl _) (q_word hSF (by decide +kernel) rfl _) (q_word hSF (w := .selects "[Ljava/lang/Object;" ⟨"java/lang/Object", "getClass", "()Ljava/lang/Class;"⟩ ⟨"java/lang/Object", "getClass", "()Ljava/lang/Class;"⟩) (by decide +kernel) rfl _) (q_word hSF (by decide +kernel) rfl _) (q_word hSF (by decide +kernel) rfl _) hSF.2.2.2.2.2.2.2.2.1.1
    ⟨_, h4, by cases hv : cell.vm <;> first | rfl | exact absurd hv (hvs _), by rw [hcl]; exact va_nmO (q_arrTy hSF (j := 4) (by omega)).2 rfl⟩ hR1.1 (by omega) hd (kk p e s m args below meth c H locs cells slots Ls C hR hS hcc hss hL)
/-- an opened list: its object's fields, and its array -/
def q_open (g : qG) (σ : qS) (r e : Nat) (mo : Int) (n : Int) (f : Int → Nat) : qS :=
  if e = g.2.2.2 + 1 then sI (sI (sP (sK σ r 10) 361 r e) 360 r mo) 362 r (gL σ r).length
  else sRow (sN (sK (sI (sI (sP (sK σ r 10) 361 r e) 360 r mo) 362 r (gL σ r).length) e 24) e n) e f
/-- what an opened list's array is -/
def q_opn (g : qG) (σ : qS) (r e : Nat) (n : Int) (f : Int → Nat) : Prop := e ≠ 0 ∧ e ≠ r ∧ ((gL σ r).length : Int) ≤ n ∧ n ≤ 1000000 ∧ ((e = g.2.2.2 + 1 ∧ n = 0) ∨ (e ≠ g.2.2.2 + 1 ∧ 1 ≤ n ∧ gK σ e = 0)) ∧ (∀ i : Nat, i < (gL σ r).length → (gL σ r)[i]? = some (f i)) ∧ ∀ i : Int, 0 ≤ i → i < n → q_elok σ 4 (f i)
end
theorem q_oP {g : qG} {σ : qS} {r e : Nat} {mo n : Int} {f : Int → Nat} : gP (q_open g σ r e mo n f) 361 r = e := by
  unfold q_open
  split
  · show (if 361 = 361 ∧ r = r then e else _) = e
    rw [if_pos ⟨rfl, rfl⟩]
  · show (if 361 = 361 ∧ r = r then e else _) = e
    rw [if_pos ⟨rfl, rfl⟩]
theorem q_oI0 {g : qG} {σ : qS} {r e : Nat} {mo n : Int} {f : Int → Nat} : gI (q_open g σ r e mo n f) 360 r = mo := by
  unfold q_open
  split
  · show (if 360 = 362 ∧ r = r then ((gL σ r).length : Int) else if 360 = 360 ∧ r = r then mo else gI σ 360 r) = mo
    rw [if_neg (by omega), if_pos ⟨rfl, rfl⟩]
  · show (if 360 = 362 ∧ r = r then ((gL σ r).length : Int) else if 360 = 360 ∧ r = r then mo else gI σ 360 r) = mo
    rw [if_neg (by omega), if_pos ⟨rfl, rfl⟩]
theorem q_oI2 {g : qG} {σ : qS} {r e : Nat} {mo n : Int} {f : Int → Nat} : gI (q_open g σ r e mo n f) 362 r = (gL σ r).length := by
  unfold q_open
  split
  · show (if 362 = 362 ∧ r = r then _ else _) = _
    rw [if_pos ⟨rfl, rfl⟩]
  · show (if 362 = 362 ∧ r = r then _ else _) = _
    rw [if_pos ⟨rfl, rfl⟩]
theorem q_oK {g : qG} {σ : qS} {r e : Nat} {mo n : Int} {f : Int → Nat} (x : Nat) : gK (q_open g σ r e mo n f) x = if e ≠ g.2.2.2 + 1 ∧ x = e then 24 else if x = r then 10 else gK σ x := by
  unfold q_open
  split
  · rename_i h
    rw [if_neg (fun z => z.1 h)]
    rfl
  · rename_i h
    show (if x = e then 24 else if x = r then 10 else gK σ x) = _
    by_cases hx : x = e
    · rw [if_pos hx, if_pos ⟨h, hx⟩]
    · have h9 : ¬ (e ≠ g.2.2.2 + 1 ∧ x = e) := fun z => hx z.2
      rw [if_neg hx, if_neg h9]
theorem q_oI {g : qG} {σ : qS} {r e : Nat} {mo n : Int} {f : Int → Nat} (k x : Nat) (hx : x ≠ r) : gI (q_open g σ r e mo n f) k x = gI σ k x := by
  unfold q_open
  split
  · show (if k = 362 ∧ x = r then _ else if k = 360 ∧ x = r then mo else gI σ k x) = _
    rw [if_neg (by omega), if_neg (by omega)]
  · show (if k = 362 ∧ x = r then _ else if k = 360 ∧ x = r then mo else gI σ k x) = _
    rw [if_neg (by omega), if_neg (by omega)]
theorem q_oPx {g : qG} {σ : qS} {r e : Nat} {mo n : Int} {f : Int → Nat} (k x : Nat) (hx : x ≠ r) : gP (q_open g σ r e mo n f) k x = gP σ k x := by
  unfold q_open
  split
  · show (if k = 361 ∧ x = r then e else gP σ k x) = _
    rw [if_neg (by omega)]
  · show (if k = 361 ∧ x = r then e else gP σ k x) = _
    rw [if_neg (by omega)]
theorem q_oA {g : qG} {σ : qS} {r e : Nat} {mo n : Int} {f : Int → Nat} : gA (q_open g σ r e mo n f) = gA σ := by
  unfold q_open
  split <;> rfl
theorem q_oL {g : qG} {σ : qS} {r e : Nat} {mo n : Int} {f : Int → Nat} : gL (q_open g σ r e mo n f) = gL σ := by
  unfold q_open
  split <;> rfl
theorem q_oR {g : qG} {σ : qS} {r e : Nat} {mo n : Int} {f : Int → Nat} (x : Nat) (hx : x ≠ e) : gR (q_open g σ r e mo n f) x = gR σ x := by
  unfold q_open
  split
  · rfl
  · show (if x = e then f else gR σ x) = _
    rw [if_neg hx]
theorem q_oN {g : qG} {σ : qS} {r e : Nat} {mo n : Int} {f : Int → Nat} (x : Nat) (hx : x ≠ e) : gN (q_open g σ r e mo n f) x = gN σ x := by
  unfold q_open
  split
  · rfl
  · show (if x = e then n else gN σ x) = _
    rw [if_neg hx]
theorem q_oRe {g : qG} {σ : qS} {r e : Nat} {mo n : Int} {f : Int → Nat} (h : e ≠ g.2.2.2 + 1) : gR (q_open g σ r e mo n f) e = f := by
  unfold q_open
  rw [if_neg h]
  show (if e = e then f else _) = _
  rw [if_pos rfl]
theorem q_oNe {g : qG} {σ : qS} {r e : Nat} {mo n : Int} {f : Int → Nat} (h : e ≠ g.2.2.2 + 1) : gN (q_open g σ r e mo n f) e = n := by
  unfold q_open
  rw [if_neg h]
  show (if e = e then n else _) = _
  rw [if_pos rfl]
theorem q_TJ : ∀ k, k < 3 → q_isR TJx4a65c k = decide (k = 1) := by decide +kernel
/-- a class that is kept: at places where nothing has changed but kinds of arrays that go -/
theorem q_at_kept2 {g : qG} {ed ed' : Nat → Nat} {σ σ' : qS} {r : Nat} {H : Heap} (h : q_at g ed σ r H) (hE : ed' r = ed r) (hK : gK σ' r = gK σ r)
    (hI : ∀ f, gI σ' f r = gI σ f r) (hP : ∀ f, gP σ' f r = gP σ f r) (hA : ∀ i, gA σ' r i = gA σ r i) (hR : ∀ i, gR σ' r i = gR σ r i) (hL : gL σ' r = gL σ r) (hN : gN σ' r = gN σ r)
    (hKs : ∀ x, 1 ≤ gK σ x → gK σ x ≤ 9 → gK σ' x = gK σ x) : q_at g ed' σ' r H := by
  obtain ⟨h1, h2, h3, h4⟩ := h
  refine ⟨fun ci q hq hk => ?_, fun j hj hk => ?_, fun j hj hk => ?_, fun hk => ?_⟩
  · rw [hK] at hk
    obtain ⟨a, b⟩ := h1 ci q hq hk
    refine ⟨a, b.to fun k _ => ?_⟩
    unfold q_fv
    rw [hI, hP]
  · rw [hK] at hk
    obtain ⟨a, b, c, d⟩ := h2 j hj hk
    rw [hN]
    refine ⟨a, b, c, ?_⟩
    rw [d]
    congr 2
    funext i
    unfold q_el
    rw [hA, hR]
  · rw [hK] at hk
    obtain ⟨a, a2, b, c, d⟩ := h3 j hj hk
    have ef : (fun i : Nat => q_el σ' j r i) = fun i : Nat => q_el σ j r i := by
      funext i
      unfold q_el
      rw [hA, hR]
    rw [hN, ef]
    exact ⟨a, a2, b, c, d⟩
  · rw [hK] at hk
    obtain ⟨a, mo, n, f, b1, b2, b3, b4, b5, b6⟩ := h4 hk
    rw [hE]
    refine ⟨a, mo, n, f, ?_, ?_, b3, b4, ?_, fun i hi => ?_⟩
    · rw [hL]; exact b1
    · rw [hL]; exact b2
    · rw [hL]; exact b5
    · rcases b6 i hi with c | c
      · exact Or.inl c
      · exact Or.inr (by rw [hKs _ c.1 c.2]; exact c)
theorem q_rep_open {g : qG} {σ : qS} {r : Nat} {H : Heap} (h : qRep g σ H) (hK : gK σ r = 50) : ∃ (e : Nat) (mo n : Int) (f : Int → Nat), q_opn g σ r e n f ∧ qRep g (q_open g σ r e mo n f) H := by
  obtain ⟨h1, h2, h3, h4, h5, ed, h6, h7, h8⟩ := h
  obtain ⟨hz, mo, n, f, b1, b2, b3, b4, b5, b6⟩ := (h6 r).2.2.2 hK
  have hown := h7 r hK
  have her : ed r + 1 ≠ r := by
    intro z
    rcases hown with a | ⟨a, b, c⟩
    · omega
    · rw [z] at b; omega
  have hopn : q_opn g σ r (ed r + 1) n (fun i => f i.toNat) := by
    refine ⟨by omega, her, by omega, by omega, ?_, fun i hi => ?_, fun i h0 hi => ?_⟩
    · rcases b4 with ⟨a, b⟩ | ⟨a, b, c⟩
      · exact Or.inl ⟨by omega, by omega⟩
      · rcases hown with d | ⟨d1, d2, d3⟩
        · omega
        · exact Or.inr ⟨by omega, by omega, d2⟩
    · show (gL σ r)[i]? = some (f i)
      exact b5 i hi
    · rcases b6 i.toNat (by omega) with c | c
      · exact Or.inl c
      · exact Or.inr (Or.inr ⟨rfl, c⟩)
  refine ⟨ed r + 1, mo.toInt, n, fun i => f i.toNat, hopn, ?_⟩
  obtain ⟨e0, e1, e2, e3, e4, e5, e6⟩ := hopn
  have hKo : ∀ x, x ≠ r → (ed r + 1 = g.2.2.2 + 1 ∨ x ≠ ed r + 1) → gK (q_open g σ r (ed r + 1) mo.toInt n (fun i => f i.toNat)) x = gK σ x := by
    intro x hx hx2
    rw [q_oK, if_neg (by omega), if_neg hx]
  have hd1 : g.2.2.2 + 1 ≠ r := fun z => by rw [z] at h3; omega
  have hKd : gK (q_open g σ r (ed r + 1) mo.toInt n (fun i => f i.toNat)) (g.2.2.2 + 1) = 34 := by
    rw [hKo _ hd1 (by omega)]; exact h3
  have hKs : ∀ x, 1 ≤ gK σ x → gK σ x ≤ 9 → gK (q_open g σ r (ed r + 1) mo.toInt n (fun i => f i.toNat)) x = gK σ x := by
    intro x hx1 hx2
    refine hKo x (fun z => by rw [z] at hx1 hx2; omega) ?_
    rcases e4 with ⟨a, -⟩ | ⟨a, -, b⟩
    · exact Or.inl a
    · exact Or.inr (fun z => by rw [z] at hx1; omega)
  refine ⟨h1, ?_, hKd, ?_, fun x hx => ?_, ed, fun x => ?_, fun x hx => ?_, fun x hx => ?_⟩
  · rw [hKo 0 (by omega) (Or.inr (by omega))]; exact h2
  · by_cases hde : ed r + 1 = g.2.2.2 + 1
    · unfold q_open
      rw [if_pos hde]
      exact h4
    · rw [q_oN _ (by omega)]; exact h4
  · rw [q_oK] at hx
    by_cases hc : ed r + 1 ≠ g.2.2.2 + 1 ∧ x = ed r + 1
    · have := h8 r hK; omega
    · rw [if_neg hc] at hx
      by_cases hxr : x = r
      · rw [hxr]; exact h5 r (by omega)
      · rw [if_neg hxr] at hx; exact h5 x hx
  · by_cases hxr : x = r
    · subst hxr
      have hkr : gK (q_open g σ x (ed x + 1) mo.toInt n (fun i => f i.toNat)) x = 10 := by
        rw [q_oK, if_neg (by omega), if_pos rfl]
      refine ⟨fun ci q hq hk => ?_, fun j _ hk => by omega, fun j _ hk => by omega, fun hk => by omega⟩
      rw [hkr] at hk
      have eci : ci = 9 := by omega
      subst eci
      cases hq
      refine ⟨hz, b1.to fun k hk3 => ?_⟩
      have hTk := q_TJ k hk3
      unfold q_fv
      show _ = if q_isR TJx4a65c k = true then _ else _
      rw [hTk]
      rcases (show k = 0 ∨ k = 1 ∨ k = 2 by omega) with rfl | rfl | rfl
      · rw [if_neg (by decide), show 40 * 9 + 0 = 360 from rfl, q_oI0]
        show Value.int mo = Value.int (Int32.ofInt mo.toInt)
        rw [Int32.ofInt_toInt]
      · rw [if_pos (by decide), show 40 * 9 + 1 = 361 from rfl, q_oP]; rfl
      · rw [if_neg (by decide), show 40 * 9 + 2 = 362 from rfl, q_oI2]; rfl
    · by_cases hxe : ed r + 1 ≠ g.2.2.2 + 1 ∧ x = ed r + 1
      · obtain ⟨hde, rfl⟩ := hxe
        have hke : gK (q_open g σ r (ed r + 1) mo.toInt n (fun i => f i.toNat)) (ed r + 1) = 24 := by
          rw [q_oK, if_pos ⟨hde, rfl⟩]
        refine ⟨fun ci q hq hk => ?_, fun j _ hk => ?_, fun j _ hk => by omega, fun hk => by omega⟩
        · have hci : ci < 10 := (List.getElem?_eq_some_iff.mp hq).1
          omega
        · have ej : j = 4 := by omega
          subst ej
          rcases b4 with ⟨a, b⟩ | ⟨a, b, c⟩
          · omega
          · rw [q_oNe hde]
            refine ⟨by omega, by omega, by omega, ?_⟩
            show H[ed r]? = _
            rw [c]
            show some (arrV _ n _) = some (arrV _ n _)
            congr 2
            funext i
            rw [q_el_rf (by omega), q_oRe hde]
            rfl
      · by_cases hx0 : gK σ x = 0
        · exact q_at_0 (by rw [hKo x hxr (by omega)]; exact hx0)
        · have hxe2 : x ≠ ed r + 1 ∨ ed r + 1 = g.2.2.2 + 1 := by omega
          have hRx : ∀ i, gR (q_open g σ r (ed r + 1) mo.toInt n (fun i => f i.toNat)) x i = gR σ x i := by
            intro i
            by_cases hde : ed r + 1 = g.2.2.2 + 1
            · unfold q_open; rw [if_pos hde]; rfl
            · rw [q_oR _ (by omega)]
          have hNx : gN (q_open g σ r (ed r + 1) mo.toInt n (fun i => f i.toNat)) x = gN σ x := by
            by_cases hde : ed r + 1 = g.2.2.2 + 1
            · unfold q_open; rw [if_pos hde]; rfl
            · rw [q_oN _ (by omega)]
          exact q_at_kept2 (h6 x) rfl (hKo x hxr (by omega)) (fun k => q_oI k x hxr) (fun k => q_oPx k x hxr) (fun i => by rw [q_oA]) hRx (by rw [q_oL]) hNx hKs
  · have hxr : x ≠ r := fun z => by rw [q_oK, if_neg (by omega), if_pos z] at hx; omega
    have hxe : ¬ (ed r + 1 ≠ g.2.2.2 + 1 ∧ x = ed r + 1) := fun z => by rw [q_oK, if_pos z] at hx; omega
    rw [hKo x hxr (by omega)] at hx
    rcases h7 x hx with a | ⟨a, b, c⟩
    · exact Or.inl a
    · refine Or.inr ⟨a, ?_, fun y hy => ?_⟩
      · rw [hKo _ (fun z => by rw [z] at b; omega) ?_]
        · exact b
        · rcases hown with d | ⟨d1, d2, d3⟩
          · exact Or.inl (by omega)
          · exact Or.inr (fun z => hxr (d3 x hx (by omega)))
      · have hyr : y ≠ r := fun z => by rw [q_oK, if_neg (by omega), if_pos z] at hy; omega
        have hye : ¬ (ed r + 1 ≠ g.2.2.2 + 1 ∧ y = ed r + 1) := fun z => by rw [q_oK, if_pos z] at hy; omega
        rw [hKo y hyr (by omega)] at hy
        exact c y hy
  · have hxr : x ≠ r := fun z => by rw [q_oK, if_neg (by omega), if_pos z] at hx; omega
    have hxe : ¬ (ed r + 1 ≠ g.2.2.2 + 1 ∧ x = ed r + 1) := fun z => by rw [q_oK, if_pos z] at hx; omega
    rw [hKo x hxr (by omega)] at hx
    exact h8 x hx

/-- what is known of x in σ' is known in σ, or nothing is known of it any more -/
def q_les (g : qG) (σ σ' : qS) (e x : Nat) : Prop := (gK σ' x = 0 ∧ (gK σ x = 24 ∨ gK σ x = 0)) ∨ (gK σ' x = gK σ x ∧ (x = e → e = g.2.2.2 + 1) ∧ (∀ f, gI σ' f x = gI σ f x) ∧ (∀ f, gP σ' f x = gP σ f x) ∧ (∀ i, gA σ' x i = gA σ x i) ∧ (∀ i, gR σ' x i = gR σ x i) ∧ gL σ' x = gL σ x ∧ gN σ' x = gN σ x)
theorem q_rep_close {g : qG} {σ σ' : qS} {r e : Nat} {xs : List Nat} {H : Heap} (h : qRep g σ H) (hK : gK σ r = 10) (hP : gP σ 361 r = e) (hI : gI σ 362 r = xs.length)
    (he : (e = g.2.2.2 + 1 ∧ xs = []) ∨ (gK σ e = 24 ∧ (xs.length : Int) ≤ gN σ e ∧ 1 ≤ gN σ e ∧ (∀ i : Nat, i < xs.length → xs[i]? = some (gR σ e i)) ∧ ∀ i : Int, 0 ≤ i → i < gN σ e → q_elok σ 4 (gR σ e i)))
    (hK' : gK σ' r = 50) (hL' : gL σ' r = xs) (hx : ∀ x, x ≠ r → q_les g σ σ' e x) : qRep g σ' H := by
  obtain ⟨h1, h2, h3, h4, h5, ed, h6, h7, h8⟩ := h
  have hd1 : g.2.2.2 + 1 ≠ r := fun z => by rw [z] at h3; omega
  have hKs : ∀ x, 1 ≤ gK σ x → gK σ x ≤ 9 → gK σ' x = gK σ x := by
    intro x hx1 hx2
    rcases hx x (fun z => by rw [z] at hx2; omega) with ⟨a, b⟩ | ⟨a, -⟩
    · omega
    · exact a
  have h50 : ∀ x, x ≠ r → gK σ' x = 50 → gK σ x = 50 := by
    intro x hxr hx5
    rcases hx x hxr with ⟨a, b⟩ | ⟨a, -⟩
    · omega
    · omega
  have hz0 : ∀ y, gK σ y = 0 → gK σ' y = 0 := by
    intro y hy
    rcases hx y (fun z => by rw [z] at hy; omega) with ⟨a, b⟩ | ⟨a, -⟩
    · exact a
    · omega
  refine ⟨h1, hz0 0 h2, ?_, ?_, fun x hx0 => ?_, fun x => if x = r then e - 1 else ed x, fun x => ?_, fun x hx5 => ?_, fun x hx5 => ?_⟩
  · rcases hx _ hd1 with ⟨a, b⟩ | ⟨a, -⟩
    · omega
    · rw [a]; exact h3
  · rcases hx _ hd1 with ⟨a, b⟩ | ⟨a, -, -, -, -, -, -, b⟩
    · omega
    · rw [b]; exact h4
  · by_cases hxr : x = r
    · rw [hxr]; exact h5 r (by omega)
    · refine h5 x (fun z => hx0 (hz0 x z))
  · by_cases hxr : x = r
    · subst hxr
      obtain ⟨hz, ho⟩ := (h6 x).1 9 _ rfl hK
      refine ⟨fun ci q hq hk => ?_, fun j _ hk => by omega, fun j _ hk => by omega, fun _ => ⟨hz, ?_⟩⟩
      · have hci : ci < 10 := (List.getElem?_eq_some_iff.mp hq).1
        omega
      show q_lst g σ' (if x = x then e - 1 else ed x) x H
      rw [if_pos rfl]
      refine ⟨Int32.ofInt (gI σ 360 x), (if e = g.2.2.2 + 1 then 0 else (gN σ e).toNat), fun i => gR σ e i, ?_, ?_, ?_, ?_, fun i hi => ?_, fun i hi => ?_⟩
      · refine ho.to fun k hk3 => ?_
        have hTk := q_TJ k hk3
        unfold q_fv
        show (if q_isR TJx4a65c k = true then _ else _) = _
        rw [hTk, hL']
        have hk3' : k < 3 := hk3
        rcases (show k = 0 ∨ k = 1 ∨ k = 2 by omega) with rfl | rfl | rfl
        · rw [if_neg (by decide)]; rfl
        · rw [if_pos (by decide), show 40 * 9 + 1 = 361 from rfl, hP]
          obtain ⟨e', rfl⟩ : ∃ e', e = e' + 1 := by
            refine ⟨e - 1, ?_⟩
            rcases he with ⟨a, -⟩ | ⟨a, -⟩
            · omega
            · have : e ≠ 0 := fun z => by rw [z, h2] at a; omega
              omega
          rfl
        · rw [if_neg (by decide), show 40 * 9 + 2 = 362 from rfl, hI]; rfl
      · rw [hL']
        rcases he with ⟨a, b⟩ | ⟨a, b, -⟩
        · rw [b]; exact Nat.zero_le _
        · rw [if_neg (fun z => by rw [z] at a; omega)]; omega
      · rcases he with ⟨a, b⟩ | ⟨a, b, c, d⟩
        · rw [if_pos a]; omega
        · obtain ⟨-, -, e9, -⟩ := (h6 e).2.1 4 (by omega) a
          rw [if_neg (fun z => by rw [z] at a; omega)]; omega
      · rcases he with ⟨a, b⟩ | ⟨a, b, c, d⟩
        · exact Or.inl ⟨by omega, by rw [if_pos a]⟩
        · obtain ⟨f1, f2, f3, f4⟩ := (h6 e).2.1 4 (by omega) a
          rw [if_neg (fun z => by rw [z] at a; omega)]
          refine Or.inr ⟨by omega, by omega, ?_⟩
          rw [f4]
          congr 2
      · rw [hL'] at hi ⊢
        rcases he with ⟨a, b⟩ | ⟨a, b, c, d, -⟩
        · rw [b] at hi; exact absurd hi (Nat.not_lt_zero _)
        · exact d i hi
      · rcases he with ⟨a, b⟩ | ⟨a, b, c, d, f⟩
        · rw [if_pos a] at hi; omega
        · rw [if_neg (fun z => by rw [z] at a; omega)] at hi
          rcases f i (by omega) (by omega) with k | ⟨k, -⟩ | ⟨-, k1, k2⟩
          · exact Or.inl k
          · omega
          · exact Or.inr (by rw [hKs _ k1 k2]; exact ⟨k1, k2⟩)
    · rcases hx x hxr with ⟨a, b⟩ | ⟨a, b, c1, c2, c3, c4, c5, c6⟩
      · exact q_at_0 a
      · exact q_at_kept2 (h6 x) (if_neg hxr) a c1 c2 c3 c4 c5 c6 hKs
  · by_cases hxr : x = r
    · subst hxr
      show (if x = x then e - 1 else ed x) = _ ∨ (_ ≤ (if x = x then e - 1 else ed x) ∧ gK σ' ((if x = x then e - 1 else ed x) + 1) = 0 ∧ ∀ r', gK σ' r' = 50 → (if r' = x then e - 1 else ed r') = (if x = x then e - 1 else ed x) → r' = x)
      rw [if_pos rfl]
      rcases he with ⟨a, -⟩ | ⟨a, -⟩
      · exact Or.inl (by omega)
      · obtain ⟨f1, -⟩ := (h6 e).2.1 4 (by omega) a
        have e1 : e - 1 + 1 = e := by omega
        refine Or.inr ⟨by omega, ?_, fun y hy hy2 => ?_⟩
        · rw [e1]
          rcases hx e (fun z => by rw [z] at a; omega) with ⟨p, -⟩ | ⟨-, p, -⟩
          · exact p
          · have := p rfl
            rw [this] at a; omega
        · by_cases hyr : y = x
          · exact hyr
          · rw [if_neg hyr] at hy2
            rcases h7 y (h50 y hyr hy) with p | ⟨p1, p2, -⟩
            · omega
            · rw [hy2, e1] at p2; omega
    · have hx5' := h50 x hxr hx5
      show (if x = r then e - 1 else ed x) = _ ∨ (_ ≤ (if x = r then e - 1 else ed x) ∧ gK σ' ((if x = r then e - 1 else ed x) + 1) = 0 ∧ ∀ r', gK σ' r' = 50 → (if r' = r then e - 1 else ed r') = (if x = r then e - 1 else ed x) → r' = x)
      rw [if_neg hxr]
      rcases h7 x hx5' with a | ⟨a, b, c⟩
      · exact Or.inl a
      · refine Or.inr ⟨a, hz0 _ b, fun y hy hy2 => ?_⟩
        by_cases hyr : y = r
        · rw [if_pos hyr] at hy2
          rcases he with ⟨p, -⟩ | ⟨p, -⟩
          · omega
          · have e2 : e ≠ 0 := fun z => by rw [z, h2] at p; omega
            rw [← hy2, show e - 1 + 1 = e by omega] at b
            omega
        · rw [if_neg hyr] at hy2
          exact c y (h50 y hyr hy) hy2
  · by_cases hxr : x = r
    · show (if x = r then e - 1 else ed x) < _
      rw [if_pos hxr]
      rcases he with ⟨a, -⟩ | ⟨a, -⟩
      · have := h5 (g.2.2.2 + 1) (by omega); omega
      · have := h5 e (by omega)
        have e2 : e ≠ 0 := fun z => by rw [z, h2] at a; omega
        omega
    · show (if x = r then e - 1 else ed x) < _
      rw [if_neg hxr]
      exact h8 x (h50 x hxr hx5)
section
variable {g : qG} {l : Launch} {M M' : qM} {ac as' pc : Nat} {ls : List (Option qV)} {st : List qV} {σ : qS} {Post Mid : qS → qRs → Prop}
theorem wp_open {r : Nat} (hK : gK σ r = 50) (kk : ∀ (e : Nat) (mo n : Int) (f : Int → Nat), q_opn g σ r e n f → qW g l M ac as' pc ls st (q_open g σ r e mo n f) Post) : qW g l M ac as' pc ls st σ Post := by
  intro p e s m args below meth c H locs cells slots Ls C hR hS hcc hss hL
  obtain ⟨e', mo, n, f, h1, h2⟩ := q_rep_open hR hK
  exact kk e' mo n f h1 p e s m args below meth c H locs cells slots Ls C h2 hS hcc hss hL
theorem wp_close {σ' : qS} {r e : Nat} {xs : List Nat} (hK : gK σ r = 10) (hP : gP σ 361 r = e) (hI : gI σ 362 r = xs.length)
    (he : (e = g.2.2.2 + 1 ∧ xs = []) ∨ (gK σ e = 24 ∧ (xs.length : Int) ≤ gN σ e ∧ 1 ≤ gN σ e ∧ (∀ i : Nat, i < xs.length → xs[i]? = some (gR σ e i)) ∧ ∀ i : Int, 0 ≤ i → i < gN σ e → q_elok σ 4 (gR σ e i)))
    (hK' : gK σ' r = 50) (hL' : gL σ' r = xs) (hx : ∀ x, x ≠ r → q_les g σ σ' e x) (kk : qW g l M ac as' pc ls st σ' Post) : qW g l M ac as' pc ls st σ Post :=
  wp_rep (fun _ h => q_rep_close h hK hP hI he hK' hL' hx) kk
/-- what every heap that is like this one says: the empty list's array -/
theorem wp_def (kk : gK σ (g.2.2.2 + 1) = 34 → gN σ (g.2.2.2 + 1) = 0 → gK σ 0 = 0 → qW g l M ac as' pc ls st σ Post) : qW g l M ac as' pc ls st σ Post := by
  intro p e s m args below meth c H locs cells slots Ls C hR hS hcc hss hL
  exact kk hR.2.2.1 hR.2.2.2.1 hR.2.1 p e s m args below meth c H locs cells slots Ls C hR hS hcc hss hL
end
