/-! rules: calls of nest mates' private methods, of methods with a table; Object's constructor -/
def q_ceeX (M : qM) : Prop := M.2.2.2.2.2 ≠ [] ∧ Cond.codeWith M.1 M.2.1 M.2.2.1 M.2.2.2.1 M.2.2.2.2.2 ∈ lw_tbl ∧ Cond.initialized M.1.cls ∈ lw_tbl ∧ M.1.cls ≠ "java/lang/invoke/MethodHandle" ∧ M.1.cls ≠ "java/lang/invoke/VarHandle"
section
variable {g : qG} {l : Launch} {M M' : qM} {ac as' pc : Nat} {ls : List (Option qV)} {st : List qV} {σ : qS} {Post Mid : qS → qRs → Prop}
theorem wp_callSX {idx n : Nat} {As : List qV} (hd : decode M.2.1 pc = .ok (.invokestatic idx, 3)) (hc : q_ceeX M') (hn : q_np M' n) (hlen : As.length = n) (hf : q_fit M' M ac as') (hl : Cond.methodLink M.1.cls idx M'.1 ∈ lw_tbl) (hi : Cond.static M'.1 ∈ lw_tbl)
    (hst : q_small st) (hM : qMet g l M' As σ Mid)
    (kk : ∀ σ' v, Mid σ' (.inl v) → qW g l M (ac - M'.2.2.2.2.1.cells) (as' - M'.2.2.2.2.1.slots) (pc + 3) ls (v.toList ++ st) σ' Post)
    (kx : ∀ σ' n, Mid σ' (.inr n) → (M.2.2.2.2.2 = [] ∧ Post σ' (.inr n)) ∨ q_catch M pc n (fun h => ∀ r : Nat, qW g l M (ac - M'.2.2.2.2.1.cells) (as' - M'.2.2.2.2.1.slots) h ls [vr (r + 1)] σ' Post)) : qW g l M ac as' pc ls (As.reverse ++ st) σ Post := by
  intro p e s m args below meth c H locs cells slots Ls C hR hS hcc hss hL
  have hSF := C.2.2.2.2.2.2.2.2.2.1
  obtain ⟨h1, h2, h3, h4, h5⟩ := hc
  have hrun := vx_runSX (g := F0 m pc Ls ((As.reverse ++ st).map q_v)) (As := As.map q_v) (rest := st.map q_v) (cells := cells) (slots := slots) (locs := locs) (e := e) (below := below) (meth := meth) (H := H) (Ts := []) (hh := M'.2.2.2.2.2) ⟨C.1, C.2.1, rfl, C.2.2.2.2.1, fun _ h => nomatch h⟩ hM
    ⟨⟨rfl, rfl, hf.1, hf.2.1, fun w hw a' U hW => by
        rw [if_neg h1, List.mem_singleton] at hw
        subst hw
        exact q_SW_moved hW hSF.1 _ h2 rfl _, by rw [if_neg h1]; exact List.mem_singleton_self _⟩, q_word hSF h2 rfl args, q_word hSF h3 rfl args, ⟨h4, h5⟩, fun sig h => by
        unfold q_np at hn
        rw [h] at hn
        exact (Option.some.inj hn).symm, q_word hSF hl rfl args, q_word hSF hi rfl args⟩
    ⟨q_blind, fun U hU hW => q_pc C hR hS U hU hW⟩ rfl (by rw [List.length_map]; exact hlen) (by rw [C.2.2.1]; exact hL.1) (by simp [List.map_append, List.map_reverse]) (lv_room hst) hd ⟨by have := hf.2.2.1; omega, by have := hf.2.2.2; omega⟩
  exact q_behind C hS hcc hss hL hf.2.2.1 hf.2.2.2 hrun kk kx
theorem q_callN {p : Program} {s : State} {m : MethodId} {meth : Method} {c : Code} {args : Array Value} {idx n : Nat} {host : String} (C : qC g l M p s m meth c) (hc : q_cee M') (hn : q_np M' n) (hf : q_fit M' M ac as') (hl : Cond.methodLinkNest M.1.cls idx M'.1 host ∈ lw_tbl) :
    va_CN M.2.2.2.2.1 s args M.1.cls idx M'.1 host M'.2.1 M'.2.2.1 M'.2.2.2.1 [if M'.2.2.2.2.2 = [] then .code M'.1 M'.2.1 M'.2.2.1 M'.2.2.2.1 else .codeWith M'.1 M'.2.1 M'.2.2.1 M'.2.2.2.1 M'.2.2.2.2.2] M'.2.2.2.2.1 M'.2.2.2.2.1.cells M'.2.2.2.2.1.slots n := by
  have hSF := C.2.2.2.2.2.2.2.2.2.1
  obtain ⟨h1, h2, h3, h4, h5⟩ := hc
  refine ⟨⟨rfl, rfl, hf.1, hf.2.1, fun w hw a' U hW => ?_, ?_⟩, q_word hSF h2 rfl _, q_word hSF h3 rfl _, ⟨h4, h5⟩, fun sig h => ?_, q_word hSF hl rfl _⟩
  · rw [if_pos h1, List.mem_singleton] at hw
    subst hw
    exact q_SW_moved hW hSF.1 _ h2 rfl _
  · rw [if_pos h1]; exact List.mem_singleton_self _
  · unfold q_np at hn
    rw [h] at hn
    exact (Option.some.inj hn).symm
theorem wp_callSN {idx n : Nat} {host : String} {As : List qV} (hd : decode M.2.1 pc = .ok (.invokestatic idx, 3)) (hc : q_cee M') (hn : q_np M' n) (hlen : As.length = n) (hf : q_fit M' M ac as') (hl : Cond.methodLinkNest M.1.cls idx M'.1 host ∈ lw_tbl) (hi : Cond.static M'.1 ∈ lw_tbl)
    (hst : q_small st) (hM : qMet g l M' As σ Mid)
    (kk : ∀ σ' v, Mid σ' (.inl v) → qW g l M (ac - M'.2.2.2.2.1.cells) (as' - M'.2.2.2.2.1.slots) (pc + 3) ls (v.toList ++ st) σ' Post)
    (kx : ∀ σ' n, Mid σ' (.inr n) → (M.2.2.2.2.2 = [] ∧ Post σ' (.inr n)) ∨ q_catch M pc n (fun h => ∀ r : Nat, qW g l M (ac - M'.2.2.2.2.1.cells) (as' - M'.2.2.2.2.1.slots) h ls [vr (r + 1)] σ' Post)) : qW g l M ac as' pc ls (As.reverse ++ st) σ Post := by
  intro p e s m args below meth c H locs cells slots Ls C hR hS hcc hss hL
  have hSF := C.2.2.2.2.2.2.2.2.2.1
  have hrun := vx_runSN (g := F0 m pc Ls ((As.reverse ++ st).map q_v)) (As := As.map q_v) (rest := st.map q_v) (cells := cells) (slots := slots) (locs := locs) (e := e) (below := below) (meth := meth) (H := H) (Ts := []) ⟨C.1, C.2.1, rfl, C.2.2.2.2.1, fun _ h => nomatch h⟩ hM ⟨q_callN (args := args) C hc hn hf hl, q_word hSF hi rfl _, trivial⟩
    ⟨q_blind, fun U hU hW => q_pc C hR hS U hU hW⟩ rfl (by rw [List.length_map]; exact hlen) (by rw [C.2.2.1]; exact hL.1) (by simp [List.map_append, List.map_reverse]) (lv_room hst) hd ⟨by have := hf.2.2.1; omega, by have := hf.2.2.2; omega⟩
  exact q_behind C hS hcc hss hL hf.2.2.1 hf.2.2.2 hrun kk kx
theorem wp_callIN {idx n r : Nat} {host : String} {As : List qV} (hd : decode M.2.1 pc = .ok (.invokespecial idx, 3)) (hc : q_cee M') (hn : q_np M' n) (hlen : As.length = n) (hf : q_fit M' M ac as') (hl : Cond.methodLinkNest M.1.cls idx M'.1 host ∈ lw_tbl) (hi : Cond.instanceMethod M'.1 ∈ lw_tbl) (hnm : M'.1.name = "<init>") (hret : M'.2.2.2.1 = none) (hr : r ≠ 0)
    (hst : q_small st) (hM : qMet g l M' (vr r :: As) σ Mid)
    (kk : ∀ σ' v, Mid σ' (.inl v) → qW g l M (ac - M'.2.2.2.2.1.cells) (as' - M'.2.2.2.2.1.slots) (pc + 3) ls (v.toList ++ st) σ' Post)
    (kx : ∀ σ' n, Mid σ' (.inr n) → (M.2.2.2.2.2 = [] ∧ Post σ' (.inr n)) ∨ q_catch M pc n (fun h => ∀ r : Nat, qW g l M (ac - M'.2.2.2.2.1.cells) (as' - M'.2.2.2.2.1.slots) h ls [vr (r + 1)] σ' Post)) : qW g l M ac as' pc ls (As.reverse ++ vr r :: st) σ Post := by
  intro p e s m args below meth c H locs cells slots Ls C hR hS hcc hss hL
  have hSF := C.2.2.2.2.2.2.2.2.2.1
  obtain ⟨a, rfl⟩ : ∃ a, r = a + 1 := ⟨r - 1, by omega⟩
  obtain ⟨nm, cc', nL', ret', rm', hh'⟩ := M'
  have hret' : ret' = none := hret
  subst hret'
  have hB := q_callN (args := args) C hc hn hf hl
  have hrun := vx_runIN (g := F0 m pc Ls ((As.reverse ++ vr (a + 1) :: st).map q_v)) (b := a) (As := As.map q_v) (rest := st.map q_v) (cells := cells) (slots := slots) (locs := locs) (e := e) (below := below) (meth := meth) (H := H) (Ts := []) ⟨C.1, C.2.1, rfl, C.2.2.2.2.1, fun _ h => nomatch h⟩ hM ⟨hB, hnm, q_word hSF hi rfl _⟩
    ⟨q_blind, fun U hU hW => q_pc (As := vr (a + 1) :: As) C hR hS U hU hW⟩ rfl (by rw [List.length_map]; exact hlen) (by rw [C.2.2.1]; exact hL.1) (by simp [List.map_append, List.map_reverse]; rfl) (lv_room hst) hd ⟨by have := hf.2.2.1; omega, by have := hf.2.2.2; omega⟩
  exact q_behind C hS hcc hss hL hf.2.2.1 hf.2.2.2 hrun kk kx
theorem wp_objInit {idx r : Nat} (hd : decode M.2.1 pc = .ok (.invokespecial idx, 3)) (hl : Cond.methodLink M.1.cls idx Lib.objectInit ∈ lw_tbl) (hr : r ≠ 0) (hst : q_small st) (hR1 : 1 ≤ M.2.2.2.2.1.frames ∧ 200 ≤ M.2.2.2.2.1.locals)
    (kk : qW g l M ac as' (pc + 3) ls st σ Post) : qW g l M ac as' pc ls (vr r :: st) σ Post := by
  intro p e s m args below meth c H locs cells slots Ls C hR hS hcc hss hL
  have hSF := C.2.2.2.2.2.2.2.2.2.1
  obtain ⟨a, rfl⟩ : ∃ a, r = a + 1 := ⟨r - 1, by omega⟩
  unfold q_small at hst
  exact W.objInit (a := a) (rest := st.map q_v) C.1 C.2.1 C.2.2.2.2.1 (q_word hSF hl rfl _) (q_word hSF (by decide +kernel) rfl _) (q_word hSF (by decide +kernel) rfl _) rfl (by rw [C.2.2.1]; exact hL.1) rfl hd hR1.1 (by show 2 * 0 + _ + 12 ≤ _; omega) (kk p e s m args below meth c H locs cells slots Ls C hR hS hcc hss hL)
end
