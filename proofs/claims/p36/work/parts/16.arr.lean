/-! rules: arrays -/
def q_aty : Nat → FieldType
  | 0 => .int
  | 1 => .int
  | 2 => .int
  | 3 => .object RX5
  | _ => .object "java/lang/Object"
/-- an array of kind j, written or only read -/
def q_isA (σ : qS) (j r : Nat) : Prop := j < 5 ∧ (gK σ r = 20 + j ∨ gK σ r = 30 + j)
def q_in (σ : qS) (r : Nat) (i : Int) : Prop := 0 ≤ i ∧ i < gN σ r
section
variable {g : qG} {l : Launch} {M : qM} {ac as' pc : Nat} {ls : List (Option qV)} {st : List qV} {σ : qS} {Post : qS → qRs → Prop}
theorem q_arrTy {U : State} (h : q_SF g U) {j : Nat} (hj : j < 5) : ArrOfT U (g.2.2.1 j) (q_aty j) ∧ va_RA U (g.2.2.1 j) (q_aty j) := by
  have h2 := h.2.1.2
  rcases j with _ | _ | _ | _ | _ | j
  · exact h2 0 _ rfl
  · exact h2 1 _ rfl
  · exact h2 2 _ rfl
  · exact h2 3 _ rfl
  · exact h2 4 _ rfl
  · omega
theorem q_arr {H : Heap} (hR : qRep g σ H) {j r : Nat} (hA : q_isA σ j r) : 0 < r ∧ 0 ≤ gN σ r ∧ gN σ r ≤ 1000000 ∧ q_roC g j (gN σ r).toNat (fun i => q_el σ j r i) H[r - 1]? := by
  obtain ⟨-, -, -, -, -, ed, hat, -⟩ := hR
  obtain ⟨hj, h | h⟩ := hA
  · obtain ⟨a, b, c, d⟩ := (hat r).2.1 j hj h
    exact ⟨by omega, b, c, _, d, rfl, fun _ h => (by cases h), fun h => (by cases h), rfl⟩
  · obtain ⟨a, a2, b, c, d⟩ := (hat r).2.2.1 j hj h
    exact ⟨a, b, c, d⟩
theorem q_arrOf {U : State} {cA : ClassId} {ty : FieldType} {cell : Cell} (hcl : cell.cls = cA) (hvs : ∀ k, cell.vm ≠ .statics k) (h : ArrOfT U cA ty) : U.isArrayOf cell ty := by
  refine ⟨hvs, ?_⟩
  rw [hcl]
  exact (h 0 (fun _ => .null)).2
theorem q_cl {i : Int} (h0 : 0 ≤ i) (h1 : i < 2147483648) : (Int32.ofInt i).toNatClampNeg = i.toNat := by
  rw [Int32.toNatClampNeg, q_toInt (by unfold qR; omega)]
theorem q_vin {i : Int} {n : Nat} {cA : ClassId} {f : Nat → Value} (h0 : 0 ≤ i) (h1 : i < n) (hn : n ≤ 1000000) : ¬ (Int32.ofInt i < 0 ∨ (arrV cA n f).slots.size ≤ (Int32.ofInt i).toNatClampNeg) := by
  rw [arrV_size, q_cl h0 (by omega)]
  intro h
  rcases h with h | h
  · have := (q_ltI (a := i) (b := 0) (by unfold qR; omega) q_0R).mp h
    omega
  · omega
theorem wp_iaload {r : Nat} {i : Int} (hd : decode M.2.1 pc = .ok (.iaload, 1)) (hA : q_isA σ 0 r) (hi : q_in σ r i) (kk : qW g l M ac as' (pc + 1) ls (vi (gA σ r i) :: st) σ Post) : qW g l M ac as' pc ls (vi i :: vr r :: st) σ Post := by
  intro p e s m args below meth c H locs cells slots Ls C hR hS hc hs hL
  obtain ⟨h1, h2, h3, cell, h4, hcl, hvs, hvu, hsl⟩ := q_arr hR hA
  obtain ⟨a, rfl⟩ : ∃ a, r = a + 1 := ⟨r - 1, by omega⟩
  have hlt : i < ((gN σ (a + 1)).toNat : Int) := by have := hi.2; omega
  refine W.iald (v := .int (Int32.ofInt (gA σ (a + 1) i))) C.1 C.2.1 h4 (q_arrOf hcl hvs (q_arrTy C.2.2.2.2.2.2.2.2.2.1 (j := 0) (by omega)).1) hvu (by rw [hsl]; exact q_vin hi.1 hlt (by omega)) ?_ rfl rfl hd (kk p e s m args below meth c H locs cells slots Ls C hR hS hc hs hL)
  rw [hsl, q_cl hi.1 (by omega), arrV_read _ _ (by have := hi.1; omega)]
  show some (Value.int (Int32.ofInt (gA σ (a + 1) (i.toNat : Int)))) = _
  rw [Int.toNat_of_nonneg hi.1]
theorem wp_aaload {j r : Nat} {i : Int} (hd : decode M.2.1 pc = .ok (.aaload, 1)) (hj : 3 ≤ j) (hA : q_isA σ j r) (hi : q_in σ r i) (kk : qW g l M ac as' (pc + 1) ls (vr (gR σ r i) :: st) σ Post) : qW g l M ac as' pc ls (vi i :: vr r :: st) σ Post := by
  intro p e s m args below meth c H locs cells slots Ls C hR hS hc hs hL
  obtain ⟨h1, h2, h3, cell, h4, hcl, hvs, hvu, hsl⟩ := q_arr hR hA
  obtain ⟨a, rfl⟩ : ∃ a, r = a + 1 := ⟨r - 1, by omega⟩
  have hlt : i < ((gN σ (a + 1)).toNat : Int) := by have := hi.2; omega
  have hjj := hA.1
  have hty : (q_aty j).isReference = true := by
    rcases (show j = 3 ∨ j = 4 by omega) with rfl | rfl <;> rfl
  refine W.aald (v := q_rf (gR σ (a + 1) i)) C.1 C.2.1 h4 (q_arrOf hcl hvs (q_arrTy C.2.2.2.2.2.2.2.2.2.1 hjj).1) hty hvu (by rw [hsl]; exact q_vin hi.1 hlt (by omega)) ?_ rfl rfl hd (kk p e s m args below meth c H locs cells slots Ls C hR hS hc hs hL)
  rw [hsl, q_cl hi.1 (by omega), arrV_read _ _ (by have := hi.1; omega)]
  unfold q_el
  rw [if_neg (by omega), if_neg (by omega), Int.toNat_of_nonneg hi.1]
theorem wp_alen {j r : Nat} (hd : decode M.2.1 pc = .ok (.arraylength, 1)) (hA : q_isA σ j r) (kk : qW g l M ac as' (pc + 1) ls (vi (gN σ r) :: st) σ Post) : qW g l M ac as' pc ls (vr r :: st) σ Post := by
  intro p e s m args below meth c H locs cells slots Ls C hR hS hc hs hL
  obtain ⟨h1, h2, h3, cell, h4, hcl, hvs, hvu, hsl⟩ := q_arr hR hA
  obtain ⟨a, rfl⟩ : ∃ a, r = a + 1 := ⟨r - 1, by omega⟩
  refine W.alen (n := Int32.ofInt (gN σ (a + 1))) C.1 C.2.1 h4 (q_arrOf hcl hvs (q_arrTy C.2.2.2.2.2.2.2.2.2.1 hA.1).1) ?_ rfl rfl hd (kk p e s m args below meth c H locs cells slots Ls C hR hS hc hs hL)
  rw [hsl, arrV_size]
  show Int32.ofNat _ = _
  rw [← Int32.ofInt_eq_ofNat, Int.toNat_of_nonneg h2]
/-- what an array holds behind a write -/
def q_ast (σ : qS) (j r : Nat) (i : Int) (v : qV) : qS := match v with
  | .inl z => sA σ r i z
  | .inr (.inl x) => sR σ r i x
  | .inr (.inr z) => sA σ r i z
theorem q_ast_A {σ : qS} {j r x : Nat} {i i' : Int} {v : qV} (h : ¬ (x = r ∧ i' = i)) : gA (q_ast σ j r i v) x i' = gA σ x i' := by
  rcases v with z | r' | z
  · show (if x = r ∧ i' = i then z else _) = _
    rw [if_neg h]; rfl
  · rfl
  · show (if x = r ∧ i' = i then z else _) = _
    rw [if_neg h]; rfl
theorem q_ast_R {σ : qS} {j r x : Nat} {i i' : Int} {v : qV} (h : ¬ (x = r ∧ i' = i)) : gR (q_ast σ j r i v) x i' = gR σ x i' := by
  rcases v with z | r' | z
  · rfl
  · show (if x = r ∧ i' = i then r' else _) = _
    rw [if_neg h]; rfl
  · rfl
theorem q_ast_K {σ : qS} {j r : Nat} {i : Int} {v : qV} : gK (q_ast σ j r i v) = gK σ := by
  rcases v with z | r' | z <;> rfl
theorem q_ast_L {σ : qS} {j r : Nat} {i : Int} {v : qV} : gL (q_ast σ j r i v) = gL σ := by
  rcases v with z | r' | z <;> rfl
theorem q_ast_N {σ : qS} {j r : Nat} {i : Int} {v : qV} : gN (q_ast σ j r i v) = gN σ := by
  rcases v with z | r' | z <;> rfl
theorem q_ast_I {σ : qS} {j r : Nat} {i : Int} {v : qV} : gI (q_ast σ j r i v) = gI σ := by
  rcases v with z | r' | z <;> rfl
theorem q_ast_P {σ : qS} {j r : Nat} {i : Int} {v : qV} : gP (q_ast σ j r i v) = gP σ := by
  rcases v with z | r' | z <;> rfl
/-- which values an array of kind j takes -/
def q_aok (j : Nat) (v : qV) : Prop := match v with
  | .inl z => j = 0 ∨ (j = 1 ∧ (z = 0 ∨ z = 1))
  | .inr (.inl _) => j = 3 ∨ j = 4
  | .inr (.inr _) => j = 2
theorem q_ast_el {σ : qS} {j r : Nat} {i : Int} {v : qV} (h : q_aok j v) (h0 : 0 ≤ i) : q_el (q_ast σ j r i v) j r i.toNat = q_v v := by
  unfold q_el
  rw [Int.toNat_of_nonneg h0]
  rcases v with z | r' | z
  · have hj : j ≤ 1 := by rcases h with h | ⟨h, -⟩ <;> omega
    rw [if_pos hj]
    show Value.int (Int32.ofInt (if _ then z else _)) = _
    rw [if_pos ⟨rfl, rfl⟩]; rfl
  · have hj : j = 3 ∨ j = 4 := h
    rw [if_neg (by omega), if_neg (by omega)]
    show q_rf (if _ then r' else _) = _
    rw [if_pos ⟨rfl, rfl⟩]; rfl
  · have hj : j = 2 := h
    rw [if_neg (by omega), if_pos hj]
    show Value.long (Int64.ofInt (if _ then z else _)) = _
    rw [if_pos ⟨rfl, rfl⟩]; rfl
theorem q_rep_ast {H H' : Heap} {j r : Nat} {i : Int} {v : qV} (hR : qRep g σ H) (hj : j < 5) (hK : gK σ r = 20 + j) (hi : q_in σ r i) (hv : q_aok j v) (e1 : H'[r - 1]? = some ((arrV (g.2.2.1 j) (gN σ r).toNat (fun i => q_el σ j r i)).setSlot i.toNat (q_v v))) (e2 : H'.size = H.size) (e3 : ∀ q, q ≠ r - 1 → H'[q]? = H[q]?) : qRep g (q_ast σ j r i v) H' := by
  obtain ⟨-, -, -, -, -, ed0, hat0, -⟩ := id hR
  obtain ⟨a1, a2, a3, a4⟩ := (hat0 r).2.1 j hj hK
  refine q_rep_put hR (r := r) (by omega) a1 e2 e3 (fun x => by rw [q_ast_K]) (fun x => by rw [q_ast_L]) (fun x => by rw [q_ast_N]) (fun f x _ => by rw [q_ast_I]) (fun f x _ => by rw [q_ast_P]) (fun x i' hx => q_ast_A (by omega)) (fun x i' hx => q_ast_R (by omega)) fun ed hed => ?_
  refine ⟨fun ci q hq hk => ?_, fun j' _ hk => ?_, fun j' _ hk => ?_, fun hk => ?_⟩
  · have hci : ci < 10 := (List.getElem?_eq_some_iff.mp hq).1
    rw [q_ast_K] at hk; omega
  · rw [q_ast_K] at hk
    have ej : j' = j := by omega
    subst ej
    rw [q_ast_N]
    refine ⟨a1, a2, a3, ?_⟩
    rw [e1, arrV_store]
    congr 2
    funext n
    unfold updV
    by_cases hn : n = i.toNat
    · rw [if_pos hn, hn, q_ast_el hv hi.1]
    · rw [if_neg hn]
      unfold q_el
      have h9 : ¬ ((n : Int) = i) := fun h => hn (by rw [← h]; rfl)
      rw [q_ast_A (by omega), q_ast_R (by omega)]
  · rw [q_ast_K] at hk; omega
  · rw [q_ast_K] at hk; omega
theorem wp_iastore {r : Nat} {i z : Int} (hd : decode M.2.1 pc = .ok (.iastore, 1)) (hK : gK σ r = 20) (hi : q_in σ r i) (kk : qW g l M ac as' (pc + 1) ls st (sA σ r i z) Post) : qW g l M ac as' pc ls (vi z :: vi i :: vr r :: st) σ Post := by
  intro p e s m args below meth c H locs cells slots Ls C hR hS hc hs hL
  obtain ⟨-, -, -, -, -, ed0, hat0, -⟩ := id hR
  obtain ⟨h1, h2, h3, h4⟩ := (hat0 r).2.1 0 (by omega) hK
  obtain ⟨a, rfl⟩ : ∃ a, r = a + 1 := ⟨r - 1, by omega⟩
  have hlt : i < ((gN σ (a + 1)).toNat : Int) := by have := hi.2; omega
  refine W.iast C.1 C.2.1 h4 ((q_arrTy C.2.2.2.2.2.2.2.2.2.1 (j := 0) (by omega)).1 _ _) (fun h => by cases h) (q_vin hi.1 hlt (by omega)) rfl rfl hd fun H' e1 e2 e3 => ?_
  rw [q_cl hi.1 (by omega)] at e1
  exact kk p e s m args below meth c H' _ cells slots Ls C (q_rep_ast (j := 0) (v := vi z) hR (by omega) hK hi (Or.inl rfl) e1 e2 e3) (hS.put e2 e3 (by show g.2.1 ≤ a; omega)) hc hs hL
end
