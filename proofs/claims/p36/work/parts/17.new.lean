/-! rules: what is made; references put into arrays; casts -/
theorem q_rep_new {g : qG} {σ σ' : qS} {H H' : Heap} {k : Nat} (h : qRep g σ H) (hk0 : k ≠ 0) (hk : k ≠ 50) (hsz : H'.size = H.size + 1) (oq : ∀ q : Nat, q < H.size → H'[q]? = H[q]?)
    (hK : ∀ x, gK σ' x = if x = H.size + 1 then k else gK σ x) (hL : ∀ x, gL σ' x = gL σ x) (hN : ∀ x, x ≠ H.size + 1 → gN σ' x = gN σ x) (hI : ∀ f x, x ≠ H.size + 1 → gI σ' f x = gI σ f x) (hP : ∀ f x, x ≠ H.size + 1 → gP σ' f x = gP σ f x) (hA : ∀ x i, x ≠ H.size + 1 → gA σ' x i = gA σ x i) (hR : ∀ x i, x ≠ H.size + 1 → gR σ' x i = gR σ x i)
    (hat : ∀ ed, q_at g ed σ' (H.size + 1) H') : qRep g σ' H' := by
  obtain ⟨h1, h2, h3, h4, h5, ed, h6, h7, h8⟩ := h
  have hz : ∀ x, gK σ x ≠ 0 → x ≠ H.size + 1 := fun x hx => by have := h5 x hx; omega
  have hK' : ∀ x, x ≠ H.size + 1 → gK σ' x = gK σ x := fun x hx => by rw [hK, if_neg hx]
  have hd : g.2.2.2 + 1 ≠ H.size + 1 := hz _ (by rw [h3]; omega)
  refine ⟨h1, by rw [hK' 0 (by omega)]; exact h2, by rw [hK' _ hd]; exact h3, by rw [hN _ hd]; exact h4, fun x hx => ?_, ed, fun x => ?_, fun x hx => ?_, fun x hx => ?_⟩
  · by_cases hx1 : x = H.size + 1
    · omega
    · rw [hK' x hx1] at hx
      have := h5 x hx; omega
  · by_cases hx : x = H.size + 1
    · subst hx
      exact hat ed
    · by_cases hx0 : gK σ x = 0
      · exact q_at_0 (by rw [hK' x hx]; exact hx0)
      · have hxp : x ≠ 0 := fun z => by rw [z] at hx0; exact hx0 h2
        have hx5 := h5 x hx0
        refine q_at_kept h1 (h6 x) (fun _ => oq _ (by omega)) (fun hk hne => oq _ (h8 x hk)) (hK' x hx) (fun f => hI f x hx) (fun f => hP f x hx) (fun i => hA x i hx) (fun i => hR x i hx) (hL x) (hN x hx) (fun y hy1 hy2 => hK' y (hz y (by omega)))
  · have hx1 : x ≠ H.size + 1 := fun z => by rw [hK, if_pos z] at hx; exact hk hx
    rw [hK' x hx1] at hx
    rcases h7 x hx with a | ⟨a, b, c⟩
    · exact Or.inl a
    · have h9 := h8 x hx
      refine Or.inr ⟨a, by rw [hK' _ (by omega)]; exact b, fun y hy => ?_⟩
      have hy1 : y ≠ H.size + 1 := fun z => by rw [hK, if_pos z] at hy; exact hk hy
      rw [hK' y hy1] at hy
      exact c y hy
  · have hx1 : x ≠ H.size + 1 := fun z => by rw [hK, if_pos z] at hx; exact hk hx
    rw [hK' x hx1] at hx
    have := h8 x hx; omega
section
variable {g : qG} {l : Launch} {M : qM} {ac as' pc : Nat} {ls : List (Option qV)} {st : List qV} {σ : qS} {Post : qS → qRs → Prop}
theorem q_S_new {s : State} {H H' : Heap} {locs : List Loc} (hS : va_S (q_An g) s.heap H locs) (hsz : H'.size = H.size + 1) (oq : ∀ q : Nat, q < H.size → H'[q]? = H[q]?) : va_S (q_An g) s.heap H' locs :=
  ⟨Nat.le_trans hS.1 (by omega), fun x h1 h2 => (oq x (Nat.lt_of_lt_of_le h1 hS.1)).trans (hS.2.1 x h1 h2), hS.2.2⟩
/-- the words of a class that is made -/
def q_nw (own : String) (idx ci : Nat) : Prop := ∃ q : vw_C, qCl[ci]? = some q ∧ Cond.classLink own idx q.1 ∈ lw_tbl ∧ Cond.instantiable q.1 q.2.2 ∈ lw_tbl ∧ Cond.initialized q.1 ∈ lw_tbl
theorem wp_new {idx ci n : Nat} (hd : decode M.2.1 pc = .ok (.new idx, 3)) (hw : q_nw M.1.cls idx ci) (hn : (qCl[ci]?.map (fun q => q.2.2)) = some n) (hac : 1 ≤ ac) (has : n ≤ as')
    (kk : ∀ r : Nat, gK σ r = 0 → r ≠ 0 → qW g l M (ac - 1) (as' - n) (pc + 3) ls (vr r :: st) (nO σ r (ci + 1)) Post) : qW g l M ac as' pc ls st σ Post := by
  intro p e s m args below meth c H locs cells slots Ls C hR hS hc hs hL
  obtain ⟨q, hq, hw1, hw2, hw3⟩ := hw
  rw [hq] at hn
  have hn' : q.2.2 = n := Option.some.inj hn
  have hSF := C.2.2.2.2.2.2.2.2.2.1
  have hKn := hSF.2.1.1 ci _ hq
  have hci : ci < 10 := (List.getElem?_eq_some_iff.mp hq).1
  have hc1 := q_cls q (List.mem_of_getElem? hq)
  obtain ⟨ty, hty, hdf⟩ := hc1.2.1
  have hz0 : gK σ (H.size + 1) = 0 := by
    by_cases h : gK σ (H.size + 1) = 0
    · exact h
    · have := hR.2.2.2.2.1 _ h; omega
  have hSz := hS.1
  have hgz := C.2.2.2.2.2.2.2.2.2.2
  refine W.newcK C.1 C.2.1 C.2.2.2.2.1 (q_word hSF hw1 rfl _) (q_word hSF hw2 rfl _) (q_word hSF hw3 rfl _) rfl hd (by omega) (by omega) hKn.2.1 rfl fun H1 kC hkC e1 z1 o1 => ?_
  have hts : ∀ w ∈ u_ws q.1 q.2.1 q.2.2, w.before args s = true := fun w hw => q_word hSF (hc1.1 w hw) (q_u_good hw) _
  have hob := u_born ty hts (fun w hw => hw) hKn hkC e1 hty
  refine kk (H.size + 1) hz0 (by omega) p e s m args below meth c H1 locs (cells + 1) (slots + q.2.2) Ls C ?_ (q_S_new hS z1 o1) (by omega) (by omega) hL
  refine q_rep_new hR (k := ci + 1) (by omega) (by omega) z1 o1 (fun x => rfl) (fun x => rfl) (fun x _ => rfl) (fun f x hx => if_neg hx) (fun f x hx => if_neg hx) (fun x i hx => rfl) (fun x i hx => rfl) fun ed => ?_
  have hK' : gK (nO σ (H.size + 1) (ci + 1)) (H.size + 1) = ci + 1 := if_pos rfl
  refine ⟨fun ci' q' hq' hk => ?_, fun j _ hk => by omega, fun j _ hk => by omega, fun hk => by omega⟩
  have e1 : ci' = ci := by omega
  subst e1
  cases hq'.symm.trans hq
  refine ⟨by omega, hob.to fun k hk => ?_⟩
  rw [hdf k hk]
  unfold q_fv
  have h1 : gI (nO σ (H.size + 1) (ci' + 1)) (40 * ci' + k) (H.size + 1) = 0 := if_pos rfl
  have h2 : gP (nO σ (H.size + 1) (ci' + 1)) (40 * ci' + k) (H.size + 1) = 0 := if_pos rfl
  rw [h1, h2]
  rfl
/-- an array of whole numbers is made; kind 0, 1, 2 -/
theorem wp_newarray {at' : ArrayType} {j : Nat} {n : Int} (hd : decode M.2.1 pc = .ok (.newarray at', 2)) (hat : (at' = .int ∧ j = 0) ∨ (at' = .int ∧ j = 1)) (hn : 0 ≤ n ∧ n ≤ 1000000) (hac : 1 ≤ ac) (has : n.toNat ≤ as')
    (kk : ∀ r : Nat, gK σ r = 0 → r ≠ 0 → qW g l M (ac - 1) (as' - n.toNat) (pc + 2) ls (vr r :: st) (nA σ r (20 + j) n) Post) : qW g l M ac as' pc ls (vi n :: st) σ Post := by
  intro p e s m args below meth c H locs cells slots Ls C hR hS hc hs hL
  have hSF := C.2.2.2.2.2.2.2.2.2.1
  have hj : j < 5 := by omega
  have hty : newarray.typeOf at' = q_aty j := by
    rcases hat with ⟨rfl, rfl⟩ | ⟨rfl, rfl⟩ <;> rfl
  have hw : Cond.arrayClass (q_aty j) ∈ lw_tbl := by
    rcases hat with ⟨-, rfl⟩ | ⟨-, rfl⟩ <;> decide +kernel
  have hz0 : gK σ (H.size + 1) = 0 := by
    by_cases h : gK σ (H.size + 1) = 0
    · exact h
    · have := hR.2.2.2.2.1 _ h; omega
  have hSz := hS.1
  have hgz := C.2.2.2.2.2.2.2.2.2.2
  have hbytes : n.toNat * componentBytes (newarray.typeOf at') ≤ 536870912 := by
    have : componentBytes (newarray.typeOf at') ≤ 8 := by cases at' <;> decide
    calc n.toNat * componentBytes (newarray.typeOf at') ≤ n.toNat * 8 := Nat.mul_le_mul_left _ this
      _ ≤ 536870912 := by omega
  refine va_newaK C.1 C.2.1 (by rw [hty]; exact q_word hSF hw rfl _) rfl hd rfl (fun h => by have := (q_ltI (a := n) (b := 0) (by unfold qR; omega) q_0R).mp h; omega) (q_cl hn.1 (by omega)) hbytes (by omega) (by omega) rfl fun H1 cA e1 z1 o1 hAr hNm => ?_
  refine kk (H.size + 1) hz0 (by omega) p e s m args below meth c H1 locs (cells + 1) (slots + n.toNat) Ls C ?_ (q_S_new hS z1 o1) (by omega) (by omega) hL
  have hcA : cA = g.2.2.1 j := by
    have h9 := (q_arrTy hSF hj).2
    rw [hty] at hNm
    rcases hat with ⟨-, rfl⟩ | ⟨-, rfl⟩
    · exact Option.some.inj (hNm.symm.trans h9)
    · exact Option.some.inj (hNm.symm.trans h9)
  refine q_rep_new hR (k := 20 + j) (by omega) (by omega) z1 o1 (fun x => rfl) (fun x => rfl) (fun x hx => if_neg hx) (fun f x hx => rfl) (fun f x hx => rfl) (fun x i hx => if_neg hx) (fun x i hx => if_neg hx) fun ed => ?_
  have hK' : gK (nA σ (H.size + 1) (20 + j) n) (H.size + 1) = 20 + j := if_pos rfl
  have hN' : gN (nA σ (H.size + 1) (20 + j) n) (H.size + 1) = n := if_pos rfl
  refine ⟨fun ci' q' hq' hk => ?_, fun j' _ hk => ?_, fun j' _ hk => by omega, fun hk => by omega⟩
  · have hci : ci' < 10 := (List.getElem?_eq_some_iff.mp hq').1
    omega
  · have ej : j' = j := by omega
    subst ej
    rw [hN']
    refine ⟨by omega, hn.1, hn.2, ?_⟩
    show H1[H.size]? = _
    rw [e1, hcA]
    congr 2
    funext i
    have h1 : ∀ i, gA (nA σ (H.size + 1) (20 + j') n) (H.size + 1) i = 0 := fun i => if_pos rfl
    unfold q_el
    rw [h1]
    rcases hat with ⟨rfl, rfl⟩ | ⟨rfl, rfl⟩ <;> rfl
/-- an array of references; kind 3 of panels, 4 of anything -/
theorem wp_anewarray {idx j : Nat} {n : Int} {Cn : String} (hd : decode M.2.1 pc = .ok (.anewarray idx, 3)) (hj : (j = 3 ∧ Cn = RX5) ∨ (j = 4 ∧ Cn = "java/lang/Object")) (hw : Cond.classLink M.1.cls idx Cn ∈ lw_tbl) (hn : 0 ≤ n ∧ n ≤ 1000000) (hac : 1 ≤ ac) (has : n.toNat ≤ as')
    (kk : ∀ r : Nat, gK σ r = 0 → r ≠ 0 → qW g l M (ac - 1) (as' - n.toNat) (pc + 3) ls (vr r :: st) (nA σ r (20 + j) n) Post) : qW g l M ac as' pc ls (vi n :: st) σ Post := by
  intro p e s m args below meth c H locs cells slots Ls C hR hS hc hs hL
  have hSF := C.2.2.2.2.2.2.2.2.2.1
  have hz0 : gK σ (H.size + 1) = 0 := by
    by_cases h : gK σ (H.size + 1) = 0
    · exact h
    · have := hR.2.2.2.2.1 _ h; omega
  have hSz := hS.1
  have hgz := C.2.2.2.2.2.2.2.2.2.2
  have hover : va_AO Cn s := by
    rcases hj with ⟨-, rfl⟩ | ⟨-, rfl⟩
    · exact hSF.2.2.2.2.2.2.1
    · exact hSF.2.2.2.2.2.2.2.1
  have hcl : (Int32.ofInt n).toNatClampNeg = n.toNat := q_cl hn.1 (by omega)
  refine W.anew C.1 C.2.1 C.2.2.2.2.1 (q_word hSF hw rfl _) (va_AO.use hover) rfl hd rfl (fun h => by have := (q_ltI (a := n) (b := 0) (by unfold qR; omega) q_0R).mp h; omega) (by rw [hcl]; omega) (by omega) (by rw [hcl]; omega) fun cA kA comp f1 f2 f3 f4 => ?_
  rw [hcl]
  generalize hH1 : H.push ({ cls := cA, slots := Array.replicate n.toNat .null, vm := .none } : Cell) = H1
  have e1 : H1[H.size]? = some (arrV cA n.toNat (fun _ => .null)) := by rw [← hH1, ← arrV_new]; simp
  have z1 : H1.size = H.size + 1 := by rw [← hH1]; simp
  have o1 : ∀ q : Nat, q < H.size → H1[q]? = H[q]? := fun q hq => by rw [← hH1, Array.getElem?_push, if_neg (Nat.ne_of_lt hq)]
  refine kk (H.size + 1) hz0 (by omega) p e s m args below meth c H1 locs (cells + 1) (slots + n.toNat) Ls C ?_ (q_S_new hS z1 o1) (by omega) (by omega) hL
  have hj5 : j < 5 := by omega
  have hcA : cA = g.2.2.1 j := by
    have h9 := (q_arrTy hSF hj5).2
    rcases hj with ⟨rfl, rfl⟩ | ⟨rfl, rfl⟩
    · obtain ⟨kA', comp', -, -, -, h10⟩ := h9
      exact Option.some.inj (f1.symm.trans h10)
    · obtain ⟨kA', comp', -, -, -, h10⟩ := h9
      exact Option.some.inj (f1.symm.trans h10)
  refine q_rep_new hR (k := 20 + j) (by omega) (by omega) z1 o1 (fun x => rfl) (fun x => rfl) (fun x hx => if_neg hx) (fun f x hx => rfl) (fun f x hx => rfl) (fun x i hx => if_neg hx) (fun x i hx => if_neg hx) fun ed => ?_
  have hK' : gK (nA σ (H.size + 1) (20 + j) n) (H.size + 1) = 20 + j := if_pos rfl
  have hN' : gN (nA σ (H.size + 1) (20 + j) n) (H.size + 1) = n := if_pos rfl
  refine ⟨fun ci' q' hq' hk => ?_, fun j' _ hk => ?_, fun j' _ hk => by omega, fun hk => by omega⟩
  · have hci : ci' < 10 := (List.getElem?_eq_some_iff.mp hq').1
    omega
  · have ej : j' = j := by omega
    subst ej
    rw [hN']
    refine ⟨by omega, hn.1, hn.2, ?_⟩
    show H1[H.size]? = _
    rw [e1, hcA]
    congr 2
    funext i
    have h1 : ∀ i, gR (nA σ (H.size + 1) (20 + j') n) (H.size + 1) i = 0 := fun i => if_pos rfl
    unfold q_el
    rw [h1, if_neg (by omega), if_neg (by omega)]
    rfl
end
