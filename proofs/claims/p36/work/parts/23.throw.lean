/-! rules: throw new E("text"); a list is opened and closed -/
def q_exn : List String := ["java/lang/RuntimeException", "java/lang/Exception"]
/-- the pools' numbers of a throw in the class GutterPages: the class, the constructor, by the exception's number -/
def q_exk : Nat → Nat
  | 0 => 40
  | 1 => 308
  | _ => 245
def q_exc : Nat → Nat
  | 0 => 44
  | 1 => 312
  | _ => 249
theorem q_thW : ∀ n, n < 3 → (Cond.classLink RX7 (q_exk n) (q_ex n) :: Cond.initialized (q_ex n) :: vx_atS RX7 (q_exc n) (q_ex n) q_exn).all (fun w => q_okW w && decide (w ∈ lw_tbl) && vx_ot w) = true := by decide +kernel
theorem q_rep_ext {g : qG} {σ : qS} {H H' : Heap} (h : qRep g σ H) (hsz : H.size ≤ H'.size) (oq : ∀ q : Nat, q < H.size → H'[q]? = H[q]?) : qRep g σ H' := by
  obtain ⟨h1, h2, h3, h4, h5, ed, h6, h7, h8⟩ := h
  refine ⟨h1, h2, h3, h4, fun x hx => Nat.le_trans (h5 x hx) hsz, ed, fun x => ?_, h7, fun x hx => Nat.lt_of_lt_of_le (h8 x hx) hsz⟩
  by_cases hx0 : gK σ x = 0
  · exact q_at_0 hx0
  · have hxp : x ≠ 0 := fun z => by rw [z] at hx0; exact hx0 h2
    have := h5 x hx0
    exact q_at_kept h1 (h6 x) (fun _ => oq _ (by omega)) (fun hk _ => oq _ (h8 x hk)) rfl (fun _ => rfl) (fun _ => rfl) (fun _ => rfl) (fun _ => rfl) rfl rfl (fun _ _ _ => rfl)
section
variable {g : qG} {l : Launch} {M M' : qM} {ac as' pc : Nat} {ls : List (Option qV)} {st : List qV} {σ : qS} {Post Mid : qS → qRs → Prop}
theorem wp_throw {n is : Nat} {text : String} (hn : n < 3) (hcls : M.1.cls = RX7) (hh : M.2.2.2.2.2 = []) (hs' : (is, text) ∈ q_strs)
    (d0 : decode M.2.1 pc = .ok (.new (q_exk n), 3)) (d3 : decode M.2.1 (pc + 3) = .ok (.dup, 1)) (d4 : decode M.2.1 (pc + 4) = .ok (.ldc is, 2)) (d6 : decode M.2.1 (pc + 6) = .ok (.invokespecial (q_exc n), 3)) (d9 : decode M.2.1 (pc + 9) = .ok (.athrow, 1))
    (hst : q_small st) (hR1 : 6 ≤ M.2.2.2.2.1.frames ∧ 200 ≤ M.2.2.2.2.1.locals) (hac : 1 ≤ ac) (has : 6 ≤ as') (h : Post σ (.inr n)) : qW g l M ac as' pc ls st σ Post := by
  intro p e s m args below meth c H locs cells slots Ls C hR hS hcc hss hL
  have hSF := C.2.2.2.2.2.2.2.2.2.1
  obtain ⟨sa, hsa⟩ := hSF.2.2.2.2.2.1 _ hs'
  have hw := List.all_eq_true.mp (q_thW n hn)
  have hw1 : ∀ w ∈ Cond.classLink RX7 (q_exk n) (q_ex n) :: Cond.initialized (q_ex n) :: vx_atS RX7 (q_exc n) (q_ex n) q_exn, w.before args s = true := fun w h => by
    have h9 := hw w h
    simp only [Bool.and_eq_true, decide_eq_true_eq] at h9
    exact q_word hSF h9.1.2 h9.1.1 args
  have hw2 : ∀ w ∈ Cond.classLink RX7 (q_exk n) (q_ex n) :: Cond.initialized (q_ex n) :: vx_atS RX7 (q_exc n) (q_ex n) q_exn, vx_ot w = true := fun w h => by
    have h9 := hw w h
    simp only [Bool.and_eq_true] at h9
    exact h9.2
  have htab := C.2.2.2.2.2.2.1
  rw [hh] at htab
  unfold q_small at hst
  refine vx_throwS (own := RX7) (cls := q_ex n) (names := q_exn) (ik := q_exk n) (ic := q_exc n) (A := q_An g) C.1 C.2.1 C.2.2.2.2.2.2.2.2.1 (by rw [← hcls]; exact C.2.2.2.2.1) ?_ (by decide +kernel) (hw1 _ List.mem_cons_self) (hw1 _ (List.mem_cons_of_mem _ List.mem_cons_self)) hsa (fun w h => hw1 w (List.mem_cons_of_mem _ (List.mem_cons_of_mem _ h))) hw2
    hSF.2.2.1 hSF.2.2.2.1 hS (by rw [C.2.2.1]; exact hL.1) d0 d3 d4 d6 d9 (fun x hx => by rw [htab] at hx; cases hx) (by show 2 + 3 < _; omega) (by show _ + (13 * 3 + 43) ≤ _; omega) (by omega) (by omega) C.2.2.2.2.2.1
    (fun t hal hsz hq => ⟨σ, n, rfl, h, q_rep_ext hR hsz hq, ⟨Nat.le_trans hS.1 hsz, fun q h1 h2 => (hq q (Nat.lt_of_lt_of_le h1 hS.1)).trans (hS.2.1 q h1 h2)⟩⟩) hS.2.2 (by omega) (by omega)
  rcases (show n = 0 ∨ n = 1 ∨ n = 2 by omega) with rfl | rfl | rfl <;> decide +kernel
theorem wp_throwW {n is : Nat} {text : String} (hn : n < 3) (hcls : M.1.cls = RX7) (hh : M.2.2.2.2.2 = []) (hs' : (is, text) ∈ q_strs)
    (d0 : decode M.2.1 pc = .ok (.new (q_exk n), 3)) (d3 : decode M.2.1 (pc + 3) = .ok (.dup, 1)) (d4 : decode M.2.1 (pc + 4) = .ok (.ldc_w is, 3)) (d7 : decode M.2.1 (pc + 7) = .ok (.invokespecial (q_exc n), 3)) (d10 : decode M.2.1 (pc + 10) = .ok (.athrow, 1))
    (hst : q_small st) (hR1 : 6 ≤ M.2.2.2.2.1.frames ∧ 200 ≤ M.2.2.2.2.1.locals) (hac : 1 ≤ ac) (has : 6 ≤ as') (h : Post σ (.inr n)) : qW g l M ac as' pc ls st σ Post := by
  intro p e s m args below meth c H locs cells slots Ls C hR hS hcc hss hL
  have hSF := C.2.2.2.2.2.2.2.2.2.1
  obtain ⟨sa, hsa⟩ := hSF.2.2.2.2.2.1 _ hs'
  have hw := List.all_eq_true.mp (q_thW n hn)
  have hw1 : ∀ w ∈ Cond.classLink RX7 (q_exk n) (q_ex n) :: Cond.initialized (q_ex n) :: vx_atS RX7 (q_exc n) (q_ex n) q_exn, w.before args s = true := fun w h => by
    have h9 := hw w h
    simp only [Bool.and_eq_true, decide_eq_true_eq] at h9
    exact q_word hSF h9.1.2 h9.1.1 args
  have hw2 : ∀ w ∈ Cond.classLink RX7 (q_exk n) (q_ex n) :: Cond.initialized (q_ex n) :: vx_atS RX7 (q_exc n) (q_ex n) q_exn, vx_ot w = true := fun w h => by
    have h9 := hw w h
    simp only [Bool.and_eq_true] at h9
    exact h9.2
  have htab := C.2.2.2.2.2.2.1
  rw [hh] at htab
  unfold q_small at hst
  refine vx_throwSW (own := RX7) (cls := q_ex n) (names := q_exn) (ik := q_exk n) (ic := q_exc n) (A := q_An g) C.1 C.2.1 C.2.2.2.2.2.2.2.2.1 (by rw [← hcls]; exact C.2.2.2.2.1) ?_ (by decide +kernel) (hw1 _ List.mem_cons_self) (hw1 _ (List.mem_cons_of_mem _ List.mem_cons_self)) hsa (fun w h => hw1 w (List.mem_cons_of_mem _ (List.mem_cons_of_mem _ h))) hw2
    hSF.2.2.1 hSF.2.2.2.1 hS (by rw [C.2.2.1]; exact hL.1) d0 d3 d4 d7 d10 (fun x hx => by rw [htab] at hx; cases hx) (by show 2 + 3 < _; omega) (by show _ + (13 * 3 + 43) ≤ _; omega) (by omega) (by omega) C.2.2.2.2.2.1
    (fun t hal hsz hq => ⟨σ, n, rfl, h, q_rep_ext hR hsz hq, ⟨Nat.le_trans hS.1 hsz, fun q h1 h2 => (hq q (Nat.lt_of_lt_of_le h1 hS.1)).trans (hS.2.1 q h1 h2)⟩⟩) hS.2.2 (by omega) (by omega)
  rcases (show n = 0 ∨ n = 1 ∨ n = 2 by omega) with rfl | rfl | rfl <;> decide +kernel
end
