/-! rules: Math.max, Math.min -/
section
variable {g : qG} {l : Launch} {M : qM} {ac as' pc : Nat} {ls : List (Option qV)} {st : List qV} {σ : qS} {Post : qS → qRs → Prop}
theorem wp_mmax {idx : Nat} {a b : Int} (hd : decode M.2.1 pc = .ok (.invokestatic idx, 3)) (hw : Cond.methodLink M.1.cls idx Lib.Math.max.name ∈ lw_tbl) (ha : qR a) (hb : qR b) (hst : q_small st) (hR1 : 1 ≤ M.2.2.2.2.1.frames ∧ 200 ≤ M.2.2.2.2.1.locals)
    (kk : qW g l M ac as' (pc + 3) ls (vi (max a b) :: st) σ Post) : qW g l M ac as' pc ls (vi b :: vi a :: st) σ Post := by
  intro p e s m args below meth c H locs cells slots Ls C hR hS hcc hss hL
  have hSF := C.2.2.2.2.2.2.2.2.2.1
  unfold q_small at hst
  refine va_mmax C.1 C.2.1 (by rw [C.2.2.1]; exact hL.1.symm) C.2.2.2.2.1 (q_word hSF hw rfl _) (q_word hSF (by decide +kernel) rfl _) (q_word hSF (by decide +kernel) rfl _) (q_word hSF (by decide +kernel) rfl _) hR1.1 (by omega) (by omega) (by omega) hd ?_
  have e1 : (if Int32.ofInt a < Int32.ofInt b then Int32.ofInt b else Int32.ofInt a) = Int32.ofInt (max a b) := by
    by_cases h : a < b
    · rw [if_pos ((q_ltI ha hb).mpr h), Int.max_eq_right (Int.le_of_lt h)]
    · rw [if_neg (fun z => h ((q_ltI ha hb).mp z)), Int.max_eq_left (by omega)]
  rw [e1]
  exact kk p e s m args below meth c H locs cells slots Ls C hR hS hcc hss hL
theorem wp_mmin {idx : Nat} {a b : Int} (hd : decode M.2.1 pc = .ok (.invokestatic idx, 3)) (hw : Cond.methodLink M.1.cls idx Lib.Math.min.name ∈ lw_tbl) (ha : qR a) (hb : qR b) (hst : q_small st) (hR1 : 1 ≤ M.2.2.2.2.1.frames ∧ 200 ≤ M.2.2.2.2.1.locals)
    (kk : qW g l M ac as' (pc + 3) ls (vi (min a b) :: st) σ Post) : qW g l M ac as' pc ls (vi b :: vi a :: st) σ Post := by
  intro p e s m args below meth c H locs cells slots Ls C hR hS hcc hss hL
  have hSF := C.2.2.2.2.2.2.2.2.2.1
  unfold q_small at hst
  refine va_mmin C.1 C.2.1 (by rw [C.2.2.1]; exact hL.1.symm) C.2.2.2.2.1 (q_word hSF hw rfl _) (q_word hSF (by decide +kernel) rfl _) (q_word hSF (by decide +kernel) rfl _) (q_word hSF (by decide +kernel) rfl _) hR1.1 (by omega) (by omega) (by omega) hd ?_
  have e1 : (if Int32.ofInt b < Int32.ofInt a then Int32.ofInt b else Int32.ofInt a) = Int32.ofInt (min a b) := by
    by_cases h : b < a
    · rw [if_pos ((q_ltI hb ha).mpr h), Int.min_eq_right (Int.le_of_lt h)]
    · rw [if_neg (fun z => h ((q_ltI hb ha).mp z)), Int.min_eq_left (by omega)]
  rw [e1]
  exact kk p e s m args below meth c H locs cells slots Ls C hR hS hcc hss hL
theorem wp_istore_n' {k : Fin 4} {z : Int} {ls' : List (Option qV)} (hd : decode M.2.1 pc = .ok (.istore_n k, 1)) (hi : k.val < M.2.2.1) (hl : ls.set k.val (some (vi z)) = ls') (kk : qW g l M ac as' (pc + 1) ls' st σ Post) : qW g l M ac as' pc ls (vi z :: st) σ Post := by
  subst hl
  exact wp_istore_n hd hi kk
theorem wp_istore' {k : Nat} {z : Int} {ls' : List (Option qV)} (hd : decode M.2.1 pc = .ok (.istore k, 2)) (hi : k < M.2.2.1) (hl : ls.set k (some (vi z)) = ls') (kk : qW g l M ac as' (pc + 2) ls' st σ Post) : qW g l M ac as' pc ls (vi z :: st) σ Post := by
  subst hl
  exact wp_istore hd hi kk
theorem wp_astore_n' {k : Fin 4} {z : Nat} {ls' : List (Option qV)} (hd : decode M.2.1 pc = .ok (.astore_n k, 1)) (hi : k.val < M.2.2.1) (hl : ls.set k.val (some (vr z)) = ls') (kk : qW g l M ac as' (pc + 1) ls' st σ Post) : qW g l M ac as' pc ls (vr z :: st) σ Post := by
  subst hl
  exact wp_astore_n hd hi kk
theorem wp_astore' {k : Nat} {z : Nat} {ls' : List (Option qV)} (hd : decode M.2.1 pc = .ok (.astore k, 2)) (hi : k < M.2.2.1) (hl : ls.set k (some (vr z)) = ls') (kk : qW g l M ac as' (pc + 2) ls' st σ Post) : qW g l M ac as' pc ls (vr z :: st) σ Post := by
  subst hl
  exact wp_astore hd hi kk
end
section
variable {g : qG} {l : Launch} {M : qM} {ac as' pc : Nat} {ls : List (Option qV)} {st : List qV} {σ : qS} {Post : qS → qRs → Prop}
theorem wp_ldcI {idx : Nat} {v : Int32} {z : Int} (hd : decode M.2.1 pc = .ok (.ldc idx, 2)) (hw : Cond.constant M.1.cls idx v ∈ lw_tbl) (hz : v = Int32.ofInt z) (kk : qW g l M ac as' (pc + 2) ls (vi z :: st) σ Post) : qW g l M ac as' pc ls st σ Post := by
  intro p e s m args below meth c H locs cells slots Ls C hR hS hcc hss hL
  have hSF := C.2.2.2.2.2.2.2.2.2.1
  subst hz
  exact lv_ldc C.1 C.2.1 C.2.2.2.2.1 (q_word hSF hw rfl _) hd (kk p e s m args below meth c H locs cells slots Ls C hR hS hcc hss hL)
theorem q_oKr {r e : Nat} {mo n : Int} {f : Int → Nat} (h : q_opn g σ r e n f) : gK (q_open g σ r e mo n f) r = 10 := by
  rw [q_oK, if_neg (fun z => h.2.1 z.2.symm), if_pos rfl]
end
