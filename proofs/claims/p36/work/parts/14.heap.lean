/-! rules: fields -/
theorem q_lay_good (C : String) (T : u_T) (k : Nat) : goodWord (u_lay C T k) = true := by
  unfold u_lay
  split <;> rfl
theorem q_u_good {C : String} {T : u_T} {N : Nat} {w : Cond} (h : w ∈ u_ws C T N) : q_okW w = true := by
  obtain ⟨k, -, rfl⟩ := List.mem_map.mp h
  unfold q_okW
  rw [q_lay_good]; rfl
/-- what is said of each class -/
def q_clsOk (q : vw_C) : Prop := (∀ w ∈ u_ws q.1 q.2.1 q.2.2, w ∈ lw_tbl) ∧ (∃ ty : Nat → FieldType, (∀ k, k < q.2.2 → parseFieldDescriptor (q.2.1 k).2.2.1 = some (ty k)) ∧ ∀ k, k < q.2.2 → defaultValue (ty k) = if q_isR (q.2.1) k then Value.null else Value.int 0) ∧ ∀ a, a < q.2.2 → ∀ b, b < q.2.2 → a ≠ b → (q.2.1 a).2.1 ≠ (q.2.1 b).2.1
theorem q_cls : ∀ q ∈ qCl, q_clsOk q := by
  refine List.forall_mem_cons.mpr ⟨⟨q_inX0, ⟨tyX0, tyX0_ok, by decide +kernel⟩, nmX0⟩, List.forall_mem_cons.mpr ⟨⟨q_inX1, ⟨tyX1, tyX1_ok, by decide +kernel⟩, nmX1⟩, List.forall_mem_cons.mpr ⟨⟨q_inX2, ⟨tyX2, tyX2_ok, by decide +kernel⟩, nmX2⟩, List.forall_mem_cons.mpr ⟨⟨q_inX3, ⟨tyX3, tyX3_ok, by decide +kernel⟩, nmX3⟩, List.forall_mem_cons.mpr ⟨⟨q_inX4, ⟨tyX4, tyX4_ok, by decide +kernel⟩, nmX4⟩, List.forall_mem_cons.mpr ⟨⟨q_inX5, ⟨tyX5, tyX5_ok, by decide +kernel⟩, nmX5⟩, List.forall_mem_cons.mpr ⟨⟨q_inX6, ⟨tyX6, tyX6_ok, by decide +kernel⟩, nmX6⟩, List.forall_mem_cons.mpr ⟨⟨q_inX7, ⟨tyX7, tyX7_ok, by decide +kernel⟩, nmX7⟩, List.forall_mem_cons.mpr ⟨⟨q_inX7, ⟨tyX7, tyX7_ok, by decide +kernel⟩, nmX7⟩, List.forall_mem_cons.mpr ⟨⟨q_inJL, ⟨tyJx4a65c, tyJx4a65c_ok, by decide +kernel⟩, nmJx4a65c⟩, fun _ h => nomatch h⟩⟩⟩⟩⟩⟩⟩⟩⟩⟩
/-- a field as the code of a class names it: by its number in the pool; its class, its place, whether it is a reference -/
def q_fl (own : String) (idx ci k : Nat) (isr : Bool) : Prop := ∃ (q : vw_C) (ref : String), qCl[ci]? = some q ∧ k < q.2.2 ∧ q_isR q.2.1 k = isr ∧ Cond.fieldLink own idx ref (q.2.1 k).2.1 (q.2.1 k).2.2.1 ∈ lw_tbl ∧ (ref = (q.2.1 k).1 ∨ Cond.sameField ref (q.2.1 k).1 (q.2.1 k).2.1 (q.2.1 k).2.2.1 ∈ lw_tbl)
section
variable {g : qG} {l : Launch} {M : qM} {ac as' pc : Nat} {ls : List (Option qV)} {st : List qV} {σ : qS} {Post : qS → qRs → Prop}
theorem q_word {U : State} {w : Cond} (h : q_SF g U) (hw : w ∈ lw_tbl) (hg : q_okW w = true) (A : Array Value) : w.before A U = true := h.1 w hw hg A
theorem q_same {U : State} {own ref n d : String} (h : q_SF g U) (hs : ref = own ∨ Cond.sameField ref own n d ∈ lw_tbl) (x : ClassId × Class × Nat × Field) (hx : U.fieldFound? own n d = some x) : U.fieldFound? ref n d = some x := by
  rcases hs with rfl | hs
  · exact hx
  · exact u_same (q_word h hs rfl #[]) x hx
theorem wp_get {idx ci k : Nat} {isr : Bool} {r : Nat} {v : qV} (hd : decode M.2.1 pc = .ok (.getfield idx, 3)) (hf : q_fl M.1.cls idx ci k isr) (hK : gK σ r = ci + 1) (hv : v = if isr then vr (gP σ (40 * ci + k) r) else vi (gI σ (40 * ci + k) r))
    (kk : qW g l M ac as' (pc + 3) ls (v :: st) σ Post) : qW g l M ac as' pc ls (vr r :: st) σ Post := by
  intro p e s m args below meth c H locs cells slots Ls C hR hS hc hs hL
  obtain ⟨q, ref, hq, hk, hi, hlink, hsame⟩ := hf
  obtain ⟨-, -, -, -, -, ed, hat, -⟩ := id hR
  obtain ⟨hz, cell, q1, q2, q3, q4⟩ := (hat r).1 ci q hq hK
  obtain ⟨a, rfl⟩ : ∃ a, r = a + 1 := ⟨r - 1, by omega⟩
  have hSF := C.2.2.2.2.2.2.2.2.2.1
  obtain ⟨hSl, hfc, kC, hkC, hkind⟩ := hSF.2.1.1 ci _ hq
  obtain ⟨cf, kf, fi, f, hif, hsl⟩ := hSl k hk
  have hc1 := q_cls q (List.mem_of_getElem? hq)
  refine W.getf (v := q_v v) C.1 C.2.1 C.2.2.2.2.1 (q_word hSF hlink rfl _) (q_same hSF hsame _ hif) (u_facts hfc hkC (u_lays (ws := u_ws q.1 q.2.1 q.2.2) (args := args) (fun w hw => q_word hSF (hc1.1 w hw) (q_u_good hw) _) (fun w hw => hw) hk) hif).1 q1 (by rw [q3]; exact fun h => by cases h) ?_ rfl rfl hd (kk p e s m args below meth c H locs cells slots Ls C hR hS hc hs hL)
  rw [hsl, q4 k hk, hv]
  show some (q_fv σ q.2.1 ci k (a + 1)) = _
  unfold q_fv
  rw [hi]
  cases isr <;> rfl
end
/-- where nothing of r has changed -/
theorem q_at_kept {g : qG} {ed : Nat → Nat} {σ σ' : qS} {r : Nat} {H H' : Heap} (hdz : g.2.2.2 < g.2.1) (h : q_at g ed σ r H) (hH : gK σ r ≠ 0 → H'[r - 1]? = H[r - 1]?) (hE : gK σ r = 50 → ed r ≠ g.2.2.2 → H'[ed r]? = H[ed r]?) (hK : gK σ' r = gK σ r)
    (hI : ∀ f, gI σ' f r = gI σ f r) (hP : ∀ f, gP σ' f r = gP σ f r) (hA : ∀ i, gA σ' r i = gA σ r i) (hR : ∀ i, gR σ' r i = gR σ r i) (hL : gL σ' r = gL σ r) (hN : gN σ' r = gN σ r)
    (hKs : ∀ x, 1 ≤ gK σ x → gK σ x ≤ 9 → gK σ' x = gK σ x) : q_at g ed σ' r H' := by
  obtain ⟨h1, h2, h3, h4⟩ := h
  refine ⟨fun ci q hq hk => ?_, fun j hj hk => ?_, fun j hj hk => ?_, fun hk => ?_⟩
  · rw [hK] at hk
    obtain ⟨a, b⟩ := h1 ci q hq hk
    refine ⟨a, (b.kept (hH (by omega))).to fun k _ => ?_⟩
    unfold q_fv
    rw [hI, hP]
  · rw [hK] at hk
    obtain ⟨a, b, c, d⟩ := h2 j hj hk
    rw [hN]
    refine ⟨a, b, c, ?_⟩
    rw [hH (by omega), d]
    congr 2
    funext i
    unfold q_el
    rw [hA, hR]
  · rw [hK] at hk
    obtain ⟨a, a2, b, c, d⟩ := h3 j hj hk
    have ef : (fun i : Nat => q_el σ' j r i) = fun i : Nat => q_el σ j r i := by
      funext i
      unfold q_el
      rw [hA, hR]
    rw [hN, ef]
    exact ⟨a, a2, b, c, by rw [hH (by omega)]; exact d⟩
  · rw [hK] at hk
    obtain ⟨a, mo, n, f, b1, b2, b3, b4, b5, b6⟩ := h4 hk
    refine ⟨a, mo, n, f, ?_, ?_, b3, ?_, ?_, fun i hi => ?_⟩
    · rw [hL]; exact b1.kept (hH (by omega))
    · rw [hL]; exact b2
    · rcases b4 with b4 | ⟨c1, c2, c3⟩
      · exact Or.inl b4
      · by_cases hdef : ed r = g.2.2.2
        · exact absurd c2 (by omega)
        · exact Or.inr ⟨c1, c2, by rw [hE hk hdef]; exact c3⟩
    · rw [hL]; exact b5
    · rcases b6 i hi with c | c
      · exact Or.inl c
      · exact Or.inr (by rw [hKs _ c.1 c.2]; exact c)

theorem q_at_0 {g : qG} {ed : Nat → Nat} {σ : qS} {r : Nat} {H : Heap} (h : gK σ r = 0) : q_at g ed σ r H :=
  ⟨fun ci q _ hk => by omega, fun j _ hk => by omega, fun j _ hk => by omega, fun hk => by omega⟩
/-- one cell, that of r, has changed: all else stands -/
theorem q_rep_put {g : qG} {σ σ' : qS} {r : Nat} {H H' : Heap} (h : qRep g σ H) (hr0 : gK σ r ≠ 0) (hw : g.2.1 < r) (hsz : H'.size = H.size) (oq : ∀ q : Nat, q ≠ r - 1 → H'[q]? = H[q]?)
    (hK : ∀ x, gK σ' x = gK σ x) (hL : ∀ x, gL σ' x = gL σ x) (hN : ∀ x, gN σ' x = gN σ x) (hI : ∀ f x, x ≠ r → gI σ' f x = gI σ f x) (hP : ∀ f x, x ≠ r → gP σ' f x = gP σ f x) (hA : ∀ x i, x ≠ r → gA σ' x i = gA σ x i) (hR : ∀ x i, x ≠ r → gR σ' x i = gR σ x i)
    (hat : ∀ ed, q_at g ed σ r H → q_at g ed σ' r H') : qRep g σ' H' := by
  obtain ⟨h1, h2, h3, h4, h5, ed, h6, h7, h8⟩ := h
  refine ⟨h1, by rw [hK]; exact h2, by rw [hK]; exact h3, by rw [hN]; exact h4, fun x hx => by rw [hsz]; exact h5 x (by rw [← hK]; exact hx), ed, fun x => ?_, fun x hx => ?_, fun x hx => by rw [hsz]; exact h8 x (by rw [← hK]; exact hx)⟩
  · by_cases hx : x = r
    · subst hx
      exact hat ed (h6 x)
    · by_cases hx0 : gK σ x = 0
      · exact q_at_0 (by rw [hK]; exact hx0)
      · have hxp : x ≠ 0 := fun z => by rw [z] at hx0; exact hx0 h2
        refine q_at_kept h1 (h6 x) (fun _ => oq _ (by omega)) (fun hk hne => oq _ (fun z => ?_)) (hK x) (fun f => hI f x hx) (fun f => hP f x hx) (fun i => hA x i hx) (fun i => hR x i hx) (hL x) (hN x) (fun y _ _ => hK y)
        rcases h7 x hk with a | ⟨a, b, c⟩
        · exact hne a
        · rw [z, show r - 1 + 1 = r by omega] at b
          exact hr0 b
  · rw [hK] at hx
    rcases h7 x hx with a | ⟨a, b, c⟩
    · exact Or.inl a
    · exact Or.inr ⟨a, by rw [hK]; exact b, fun y hy => c y (by rw [← hK]; exact hy)⟩
/-- a field that is written: kind 0 an int, 1 a boolean, 2 a reference; fin: final -/
def q_fs (own : String) (idx ci k kd : Nat) (fin : Bool) : Prop := ∃ (q : vw_C) (ref : String) (ty : FieldType), qCl[ci]? = some q ∧ k < q.2.2 ∧ q_isR q.2.1 k = decide (kd = 2) ∧ Cond.fieldLink own idx ref (q.2.1 k).2.1 (q.2.1 k).2.2.1 ∈ lw_tbl ∧ (ref = (q.2.1 k).1 ∨ Cond.sameField ref (q.2.1 k).1 (q.2.1 k).2.1 (q.2.1 k).2.2.1 ∈ lw_tbl) ∧
  (q.2.1 k).2.2.2 = fin ∧ (fin = true → (q.2.1 k).1 = own) ∧ parseFieldDescriptor (q.2.1 k).2.2.1 = some ty ∧ ((kd = 0 ∧ ty = .int) ∨ (kd = 1 ∧ ty = .boolean) ∨ (kd = 2 ∧ ((∃ n, ty = .object n) ∨ ∃ t, ty = .array t)))
def q_okv (kd : Nat) (v : qV) : Prop := match v with
  | .inl z => kd = 0 ∨ (kd = 1 ∧ (z = 0 ∨ z = 1))
  | .inr (.inl _) => kd = 2
  | .inr (.inr _) => False
theorem q_okv_ty {kd : Nat} {v : qV} {ty : FieldType} (h : q_okv kd v) (ht : (kd = 0 ∧ ty = .int) ∨ (kd = 1 ∧ ty = .boolean) ∨ (kd = 2 ∧ ((∃ n, ty = .object n) ∨ ∃ t, ty = .array t))) : narrow ty (q_v v) = q_v v ∧ fits ty (q_v v) = true := by
  cases v with
  | inl z =>
    rcases h with rfl | ⟨rfl, hz⟩
    · rcases ht with ⟨-, rfl⟩ | ⟨h, -⟩ | ⟨h, -⟩
      · exact ⟨rfl, rfl⟩
      · omega
      · omega
    · rcases ht with ⟨h, -⟩ | ⟨-, rfl⟩ | ⟨h, -⟩
      · omega
      · rcases hz with rfl | rfl
        · exact ⟨by decide +kernel, by decide +kernel⟩
        · exact ⟨by decide +kernel, by decide +kernel⟩
      · omega
  | inr w =>
    cases w with
    | inl r =>
      have h2 : kd = 2 := h
      rcases ht with ⟨h, -⟩ | ⟨h, -⟩ | ⟨-, ⟨n, rfl⟩ | ⟨t, rfl⟩⟩
      · omega
      · omega
      · cases r <;> exact ⟨rfl, rfl⟩
      · cases r <;> exact ⟨rfl, rfl⟩
    | inr z => exact absurd h (fun x => x)
/-- the heap behind a write of a field -/
def q_put (σ : qS) (f r : Nat) (v : qV) : qS := match v with
  | .inl z => sI σ f r z
  | .inr (.inl x) => sP σ f r x
  | .inr (.inr _) => σ
