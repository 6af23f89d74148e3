/-! rules: instructions that touch no heap -/
theorem q_has {Ls : Array Slot} {nL : Nat} {ls : List (Option qV)} (h : q_ls Ls nL ls) (L : List (Nat × Value)) (hL : ∀ q ∈ L, ∃ v, ls[q.1]? = some (some v) ∧ q.2 = q_v v) : lv_has Ls nL L := by
  refine ⟨h.1, h.2.1, fun q hq => ?_⟩
  obtain ⟨v, h1, h2⟩ := hL q hq
  rw [h2]
  exact (h.2.2.2 _ _ h1).2
def q_pr (ls : List (Option qV)) : List (Nat × Value) := (List.range ls.length).filterMap (fun i => match ls[i]? with | some (some v) => some (i, q_v v) | _ => none)
theorem q_pr_mem {ls : List (Option qV)} {i : Nat} {v : qV} (h : ls[i]? = some (some v)) : (i, q_v v) ∈ q_pr ls := by
  have hl : i < ls.length := (List.getElem?_eq_some_iff.mp h).1
  exact List.mem_filterMap.mpr ⟨i, List.mem_range.mpr hl, by rw [h]⟩
theorem q_pr_of {ls : List (Option qV)} {q : Nat × Value} (h : q ∈ q_pr ls) : ∃ v, ls[q.1]? = some (some v) ∧ q.2 = q_v v := by
  obtain ⟨i, -, h2⟩ := List.mem_filterMap.mp h
  cases hv : ls[i]? with
  | none => rw [hv] at h2; cases h2
  | some o =>
    cases o with
    | none => rw [hv] at h2; cases h2
    | some v => rw [hv] at h2; cases h2; exact ⟨v, hv, rfl⟩
theorem q_cat {v : qV} (h : q_cat1 v) : (q_v v).category = 1 := by
  cases v with
  | inl z => rfl
  | inr w =>
    cases w with
    | inl r => cases r <;> rfl
    | inr z => exact absurd h (fun x => x)
/-- the locals behind a store -/
theorem q_ls_set {Ls Ls' : Array Slot} {nL i : Nat} {ls : List (Option qV)} {v : qV} (h : q_ls Ls nL ls) (hv : q_cat1 v) (hi : i < nL)
    (h' : lv_has Ls' nL ((i, q_v v) :: (q_pr ls).filter (fun q => !(q.1 == i) && !(q.1 + 1 == i && q.2.category == 2)))) : q_ls Ls' nL (ls.set i (some v)) := by
  refine ⟨h'.1, h'.2.1, by rw [List.length_set]; exact h.2.2.1, fun j w hj => ?_⟩
  by_cases hji : j = i
  · subst hji
    rw [List.getElem?_set_self (by rw [h.2.2.1]; exact hi)] at hj
    cases hj
    exact ⟨hv, h'.2.2 (j, q_v v) List.mem_cons_self⟩
  · rw [List.getElem?_set_ne (Ne.symm hji)] at hj
    have hc := (h.2.2.2 _ _ hj).1
    refine ⟨hc, h'.2.2 (j, q_v w) (List.mem_cons_of_mem _ (List.mem_filter.mpr ⟨q_pr_mem hj, ?_⟩))⟩
    simp [hji, q_cat hc]
section
variable {g : qG} {l : Launch} {M : qM} {ac as' pc : Nat} {ls : List (Option qV)} {st : List qV} {σ : qS} {Post : qS → qRs → Prop}
theorem wp_iload_n {k : Fin 4} {z : Int} (hd : decode M.2.1 pc = .ok (.iload_n k, 1)) (h : ls[k.val]? = some (some (vi z))) (kk : qW g l M ac as' (pc + 1) ls (vi z :: st) σ Post) : qW g l M ac as' pc ls st σ Post := by
  intro p e s m args below meth c H locs cells slots Ls C hR hS hc hs hL
  exact lv_iload_n C.1 C.2.1 hd rfl (hL.2.2.2 _ _ h).2 (kk p e s m args below meth c H locs cells slots Ls C hR hS hc hs hL)
theorem wp_iload {k : Nat} {z : Int} (hd : decode M.2.1 pc = .ok (.iload k, 2)) (h : ls[k]? = some (some (vi z))) (kk : qW g l M ac as' (pc + 2) ls (vi z :: st) σ Post) : qW g l M ac as' pc ls st σ Post := by
  intro p e s m args below meth c H locs cells slots Ls C hR hS hc hs hL
  exact lv_iload C.1 C.2.1 hd (hL.2.2.2 _ _ h).2 (kk p e s m args below meth c H locs cells slots Ls C hR hS hc hs hL)
theorem wp_aload_n {k : Fin 4} {r : Nat} (hd : decode M.2.1 pc = .ok (.aload_n k, 1)) (h : ls[k.val]? = some (some (vr r))) (kk : qW g l M ac as' (pc + 1) ls (vr r :: st) σ Post) : qW g l M ac as' pc ls st σ Post := by
  intro p e s m args below meth c H locs cells slots Ls C hR hS hc hs hL
  have h1 := (hL.2.2.2 _ _ h).2
  have h2 := kk p e s m args below meth c H locs cells slots Ls C hR hS hc hs hL
  cases r with
  | zero => exact lv_aload_nN C.1 C.2.1 hd rfl h1 h2
  | succ a => exact lv_aload_n C.1 C.2.1 hd rfl h1 h2
theorem wp_aload {k : Nat} {r : Nat} (hd : decode M.2.1 pc = .ok (.aload k, 2)) (h : ls[k]? = some (some (vr r))) (kk : qW g l M ac as' (pc + 2) ls (vr r :: st) σ Post) : qW g l M ac as' pc ls st σ Post := by
  intro p e s m args below meth c H locs cells slots Ls C hR hS hc hs hL
  have h1 := (hL.2.2.2 _ _ h).2
  have h2 := kk p e s m args below meth c H locs cells slots Ls C hR hS hc hs hL
  cases r with
  | zero => exact lv_aloadN C.1 C.2.1 hd h1 h2
  | succ a => exact lv_aload C.1 C.2.1 hd h1 h2
theorem wp_istore_n {k : Fin 4} {z : Int} (hd : decode M.2.1 pc = .ok (.istore_n k, 1)) (hi : k.val < M.2.2.1) (kk : qW g l M ac as' (pc + 1) (ls.set k.val (some (vi z))) st σ Post) : qW g l M ac as' pc ls (vi z :: st) σ Post := by
  intro p e s m args below meth c H locs cells slots Ls C hR hS hc hs hL
  exact lv_istore_n C.1 C.2.1 hd rfl (q_has hL (q_pr ls) fun q h => q_pr_of h) hi rfl fun Ls' h' => kk p e s m args below meth c H locs cells slots Ls' C hR hS hc hs (q_ls_set (v := vi z) hL trivial hi h')
theorem wp_istore {k : Nat} {z : Int} (hd : decode M.2.1 pc = .ok (.istore k, 2)) (hi : k < M.2.2.1) (kk : qW g l M ac as' (pc + 2) (ls.set k (some (vi z))) st σ Post) : qW g l M ac as' pc ls (vi z :: st) σ Post := by
  intro p e s m args below meth c H locs cells slots Ls C hR hS hc hs hL
  exact lv_istore C.1 C.2.1 hd (q_has hL (q_pr ls) fun q h => q_pr_of h) hi rfl fun Ls' h' => kk p e s m args below meth c H locs cells slots Ls' C hR hS hc hs (q_ls_set (v := vi z) hL trivial hi h')
theorem wp_astore_n {k : Fin 4} {r : Nat} (hd : decode M.2.1 pc = .ok (.astore_n k, 1)) (hi : k.val < M.2.2.1) (kk : qW g l M ac as' (pc + 1) (ls.set k.val (some (vr r))) st σ Post) : qW g l M ac as' pc ls (vr r :: st) σ Post := by
  intro p e s m args below meth c H locs cells slots Ls C hR hS hc hs hL
  cases r with
  | zero => exact lv_astore_nN C.1 C.2.1 hd rfl (q_has hL (q_pr ls) fun q h => q_pr_of h) hi rfl fun Ls' h' => kk p e s m args below meth c H locs cells slots Ls' C hR hS hc hs (q_ls_set (v := vr 0) hL trivial hi h')
  | succ a => exact lv_astore_n C.1 C.2.1 hd rfl (q_has hL (q_pr ls) fun q h => q_pr_of h) hi rfl fun Ls' h' => kk p e s m args below meth c H locs cells slots Ls' C hR hS hc hs (q_ls_set (v := vr (a + 1)) hL trivial hi h')
theorem wp_astore {k : Nat} {r : Nat} (hd : decode M.2.1 pc = .ok (.astore k, 2)) (hi : k < M.2.2.1) (kk : qW g l M ac as' (pc + 2) (ls.set k (some (vr r))) st σ Post) : qW g l M ac as' pc ls (vr r :: st) σ Post := by
  intro p e s m args below meth c H locs cells slots Ls C hR hS hc hs hL
  cases r with
  | zero => exact lv_astoreN C.1 C.2.1 hd (q_has hL (q_pr ls) fun q h => q_pr_of h) hi rfl fun Ls' h' => kk p e s m args below meth c H locs cells slots Ls' C hR hS hc hs (q_ls_set (v := vr 0) hL trivial hi h')
  | succ a => exact lv_astore C.1 C.2.1 hd (q_has hL (q_pr ls) fun q h => q_pr_of h) hi rfl fun Ls' h' => kk p e s m args below meth c H locs cells slots Ls' C hR hS hc hs (q_ls_set (v := vr (a + 1)) hL trivial hi h')
theorem wp_iinc {k : Nat} {n z : Int} (hd : decode M.2.1 pc = .ok (.iinc k n, 3)) (hi : k < M.2.2.1) (h : ls[k]? = some (some (vi z))) (kk : qW g l M ac as' (pc + 3) (ls.set k (some (vi (z + n)))) st σ Post) : qW g l M ac as' pc ls st σ Post := by
  intro p e s m args below meth c H locs cells slots Ls C hR hS hc hs hL
  obtain ⟨j, hj⟩ := List.getElem?_of_mem (q_pr_mem h)
  exact lv_iinc (v := Int32.ofInt (z + n)) C.1 C.2.1 hd (q_has hL (q_pr ls) fun q h => q_pr_of h) hj (by rw [Int32.ofInt_add]) hi rfl fun Ls' h' => kk p e s m args below meth c H locs cells slots Ls' C hR hS hc hs (q_ls_set (v := vi (z + n)) hL trivial hi h')
theorem wp_iadd {a b : Int} (hd : decode M.2.1 pc = .ok (.iadd, 1)) (kk : qW g l M ac as' (pc + 1) ls (vi (a + b) :: st) σ Post) : qW g l M ac as' pc ls (vi b :: vi a :: st) σ Post := by
  intro p e s m args below meth c H locs cells slots Ls C hR hS hc hs hL
  refine lv_iadd C.1 C.2.1 hd ?_
  rw [← Int32.ofInt_add]
  exact kk p e s m args below meth c H locs cells slots Ls C hR hS hc hs hL
theorem wp_isub {a b : Int} (hd : decode M.2.1 pc = .ok (.isub, 1)) (kk : qW g l M ac as' (pc + 1) ls (vi (a - b) :: st) σ Post) : qW g l M ac as' pc ls (vi b :: vi a :: st) σ Post := by
  intro p e s m args below meth c H locs cells slots Ls C hR hS hc hs hL
  refine lv_isub C.1 C.2.1 hd ?_
  rw [← Int32.ofInt_sub]
  exact kk p e s m args below meth c H locs cells slots Ls C hR hS hc hs hL
theorem wp_imul {a b : Int} (hd : decode M.2.1 pc = .ok (.imul, 1)) (kk : qW g l M ac as' (pc + 1) ls (vi (a * b) :: st) σ Post) : qW g l M ac as' pc ls (vi b :: vi a :: st) σ Post := by
  intro p e s m args below meth c H locs cells slots Ls C hR hS hc hs hL
  refine lv_imul C.1 C.2.1 hd ?_
  rw [← Int32.ofInt_mul]
  exact kk p e s m args below meth c H locs cells slots Ls C hR hS hc hs hL
end
