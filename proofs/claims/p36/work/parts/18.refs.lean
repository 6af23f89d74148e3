/-! rules: references in arrays, casts, the empty list's array, a copy of references -/
section
variable {g : qG} {l : Launch} {M : qM} {ac as' pc : Nat} {ls : List (Option qV)} {st : List qV} {σ : qS} {Post : qS → qRs → Prop}
theorem q_clName : ∀ q ∈ qCl.take 9, Cond.castable q.1 "java/lang/Object" ∈ lw_tbl := by decide +kernel
/-- an object of ours as an element of an array over E -/
theorem q_any {s : State} {H : Heap} {x : Nat} (hSF : q_SF g s) (hR : qRep g σ H) (h1 : 1 ≤ gK σ x) (h2 : gK σ x ≤ 9) : ∃ a, x = a + 1 ∧ va_Any "java/lang/Object" s H a := by
  obtain ⟨-, -, -, -, -, ed, hat, -⟩ := hR
  obtain ⟨ci, hci⟩ : ∃ ci, gK σ x = ci + 1 := ⟨gK σ x - 1, by omega⟩
  have hlt : ci < qCl.length := by show ci < 10; omega
  obtain ⟨hz, cell, q1, q2, q3, -⟩ := (hat x).1 ci _ (List.getElem?_eq_getElem hlt) hci
  obtain ⟨a, rfl⟩ : ∃ a, x = a + 1 := ⟨x - 1, by omega⟩
  have hKn := hSF.2.1.1 ci _ (List.getElem?_eq_getElem hlt)
  obtain ⟨-, hfc, kC, hkC, -⟩ := hKn
  refine ⟨a, rfl, cell, q1, by rw [q3]; rfl, ⟨kC, by rw [q2]; exact hkC⟩, fun comp hcomp => ?_⟩
  have hm : qCl[ci] ∈ qCl.take 9 := by
    refine List.mem_of_getElem? (i := ci) ?_
    rw [List.getElem?_take, if_pos (by omega)]
    exact List.getElem?_eq_getElem hlt
  exact vb_asgC (s := s) (C := (qCl[ci]).1) (E := "java/lang/Object") (q_word hSF (q_clName _ hm) rfl #[]) comp cell.cls hcomp (by rw [q2]; exact hfc)
/-- what may go into an array of kind j -/
def q_elok (σ : qS) (j x : Nat) : Prop := x = 0 ∨ (j = 3 ∧ gK σ x = 6) ∨ (j = 4 ∧ 1 ≤ gK σ x ∧ gK σ x ≤ 9)
theorem wp_aastore {j r x : Nat} {i : Int} (hd : decode M.2.1 pc = .ok (.aastore, 1)) (hK : gK σ r = 20 + j) (hj : j = 3 ∨ j = 4) (hi : q_in σ r i) (hx : q_elok σ j x) (kk : qW g l M ac as' (pc + 1) ls st (sR σ r i x) Post) : qW g l M ac as' pc ls (vr x :: vi i :: vr r :: st) σ Post := by
  intro p e s m args below meth c H locs cells slots Ls C hR hS hc hs hL
  obtain ⟨-, -, -, -, -, ed0, hat0, -⟩ := id hR
  have hj5 : j < 5 := by omega
  obtain ⟨h1, h2, h3, h4⟩ := (hat0 r).2.1 j hj5 hK
  obtain ⟨a, rfl⟩ : ∃ a, r = a + 1 := ⟨r - 1, by omega⟩
  have hlt : i < ((gN σ (a + 1)).toNat : Int) := by have := hi.2; omega
  have hSF := C.2.2.2.2.2.2.2.2.2.1
  have hcl := q_cl hi.1 (show i < 2147483648 by omega)
  have fin : ∀ H' : Heap, H'[a]? = some ((arrV (g.2.2.1 j) (gN σ (a + 1)).toNat (fun i => q_el σ j (a + 1) i)).setSlot (Int32.ofInt i).toNatClampNeg (q_rf x)) → H'.size = H.size → (∀ q, q ≠ a → H'[q]? = H[q]?) → W p l e M.2.2.2.2.1 s m args below meth c H' (locs ++ [⟨a, (Int32.ofInt i).toNatClampNeg⟩]) cells slots (vx_MQ below (qQ g Post) (qX g Post) args s M.2.2.2.2.1.cells M.2.2.2.2.1.slots (q_An g)) (F0 m (pc + 1) Ls (st.map q_v)) := by
    intro H' e1 e2 e3
    rw [hcl] at e1
    exact kk p e s m args below meth c H' _ cells slots Ls C (q_rep_ast (j := j) (v := vr x) hR hj5 hK hi (by rcases hj with rfl | rfl; exact Or.inl rfl; exact Or.inr rfl) e1 e2 e3) (hS.put e2 e3 (by show g.2.1 ≤ a; omega)) hc hs hL
  have hty : ∃ Cn, q_aty j = .object Cn := by
    rcases hj with rfl | rfl
    · exact ⟨_, rfl⟩
    · exact ⟨_, rfl⟩
  obtain ⟨Cn, hCn⟩ := hty
  have hArr := q_arrTy hSF hj5
  rw [hCn] at hArr
  cases x with
  | zero => exact va_WaastN (C := Cn) C.1 C.2.1 h4 (hArr.1 _ _) (fun h => by cases h) (q_vin hi.1 hlt (by omega)) rfl rfl hd fin
  | succ v =>
    obtain ⟨kA, comp, k1, k2, k3, -⟩ := hArr.2
    obtain ⟨kE, hkE, -⟩ := Vm.findClass_spec k3
    have hin : ¬ Int32.ofInt i < 0 ∧ (Int32.ofInt i).toNatClampNeg < (arrV (g.2.2.1 j) (gN σ (a + 1)).toNat (fun i => q_el σ j (a + 1) i)).slots.size := by
      have h9 := q_vin (cA := g.2.2.1 j) (f := fun i => q_el σ j (a + 1) i) hi.1 hlt (by omega)
      exact ⟨fun h => h9 (Or.inl h), Nat.not_le.mp fun h => h9 (Or.inr h)⟩
    rcases hx with hx | ⟨rfl, hx⟩ | ⟨rfl, hx1, hx2⟩
    · omega
    · obtain ⟨hz, cellV, q1, q2, q3, -⟩ := (hat0 (v + 1)).1 5 _ rfl hx
      have hKn := hSF.2.1.1 5 _ (show qCl[5]? = some (RX5, TX5, 12) from rfl)
      obtain ⟨-, hCA⟩ := hKn
      obtain ⟨kC, hkC, -⟩ := hCA.2
      have hCn5 : Cn = RX5 := by injection hCn with h; exact h.symm
      subst hCn5
      have hcomp : comp = g.1.1 5 := Option.some.inj (k3.symm.trans hCA.1)
      subst hcomp
      exact W.aast C.1 C.2.1 h4 (fun q h => by cases h) (fun h => by cases h) k1 k2 rfl hkE hin q1 (fun q h => by rw [q3] at h; cases h) (by rw [q2]; exact hkC) (by rw [q2]; exact va_assign hCA) rfl rfl hd fin
    · obtain ⟨a', ha', cellV, g1, g3, ⟨kC, hkC⟩, hasg⟩ := q_any hSF hR hx1 hx2
      have ha2 : a' = v := by omega
      subst ha2
      have hCnO : Cn = "java/lang/Object" := by injection hCn with h; exact h.symm
      subst hCnO
      exact W.aast C.1 C.2.1 h4 (fun q h => by cases h) (fun h => by cases h) k1 k2 rfl hkE hin g1 (fun q h => by rw [h] at g3; cases g3) hkC (hasg _ k3) rfl rfl hd fin
/-- a cast to the object's own class, or of null -/
theorem wp_cast {idx ci r : Nat} (hd : decode M.2.1 pc = .ok (.checkcast idx, 3)) (hw : ∃ q : vw_C, qCl[ci]? = some q ∧ Cond.classLink M.1.cls idx q.1 ∈ lw_tbl) (hr : r = 0 ∨ gK σ r = ci + 1) (kk : qW g l M ac as' (pc + 3) ls (vr r :: st) σ Post) : qW g l M ac as' pc ls (vr r :: st) σ Post := by
  intro p e s m args below meth c H locs cells slots Ls C hR hS hc hs hL
  have hk := kk p e s m args below meth c H locs cells slots Ls C hR hS hc hs hL
  have hSF := C.2.2.2.2.2.2.2.2.2.1
  obtain ⟨q, hq, hwl⟩ := hw
  cases r with
  | zero => exact lv_castN C.1 C.2.1 hd hk
  | succ a =>
    have hK : gK σ (a + 1) = ci + 1 := by
      rcases hr with h | h
      · omega
      · exact h
    obtain ⟨-, -, -, -, -, ed0, hat0, -⟩ := id hR
    obtain ⟨hz, cell, q1, q2, q3, -⟩ := (hat0 (a + 1)).1 ci q hq hK
    have hKn := hSF.2.1.1 ci _ hq
    exact va_castS C.1 C.2.1 C.2.2.2.2.1 (q_word hSF hwl rfl _) hKn.2 ⟨cell, q1, by rw [q3]; rfl, by rw [q2]; exact hKn.2.1⟩ hd hk
theorem wp_getDef {idx : Nat} (hd : decode M.2.1 pc = .ok (.getstatic idx, 3)) (hw : Cond.fieldLink M.1.cls idx RJx4a65c "DEFAULTCAPACITY_EMPTY_ELEMENTDATA" "[Ljava/lang/Object;" ∈ lw_tbl) (kk : qW g l M ac as' (pc + 3) ls (vr (g.2.2.2 + 1) :: st) σ Post) : qW g l M ac as' pc ls st σ Post := by
  intro p e s m args below meth c H locs cells slots Ls C hR hS hc hs hL
  have hSF := C.2.2.2.2.2.2.2.2.2.1
  exact va_gets C.1 C.2.1 hSF.2.2.2.2.1 hS C.2.2.2.2.1 (q_word hSF hw rfl _) (fun x h => h) hd (kk p e s m args below meth c H locs cells slots Ls C hR hS hc hs hL)
end
/-- a whole row of references -/
def sRow (σ : qS) (a : Nat) (f : Int → Nat) : qS := (σ.1, σ.2.1, σ.2.2.1, q_u1 σ.2.2.2.1 a f, σ.2.2.2.2)
