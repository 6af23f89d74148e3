/-! rules: calls -/
/-- what is said of a callee by itself -/
def q_cee (M : qM) : Prop := M.2.2.2.2.2 = [] ∧ Cond.code M.1 M.2.1 M.2.2.1 M.2.2.2.1 ∈ lw_tbl ∧ Cond.initialized M.1.cls ∈ lw_tbl ∧ M.1.cls ≠ "java/lang/invoke/MethodHandle" ∧ M.1.cls ≠ "java/lang/invoke/VarHandle"
def q_np (M : qM) (n : Nat) : Prop := (parseMethodDescriptor M.1.desc).map (fun d => d.parameters.length) = some n
/-- the callee's room fits -/
def q_fit (M' M : qM) (ac as' : Nat) : Prop := M'.2.2.2.2.1.frames + 1 ≤ M.2.2.2.2.1.frames ∧ 8 + (M'.2.2.1 + 11) + M'.2.2.2.2.1.locals ≤ M.2.2.2.2.1.locals ∧ M'.2.2.2.2.1.cells ≤ ac ∧ M'.2.2.2.2.1.slots ≤ as'
/-- no handler takes an exception: here no method has a table that is ever looked at -/
def q_catch (_ : qM) (_ _ : Nat) (_ : Nat → Prop) : Prop := False
def q_small (st : List qV) : Prop := (st.map q_v |>.map fun v => v.category).sum ≤ 8
theorem q_vcat (v : qV) : (q_v v).category ≤ 2 := by
  rcases v with z | r | z
  · exact Nat.le_of_ble_eq_true rfl
  · cases r <;> exact Nat.le_of_ble_eq_true rfl
  · exact Nat.le_of_ble_eq_true rfl
theorem q_small_of {st : List qV} (h : st.length ≤ 4) : q_small st := by
  unfold q_small
  have key : ∀ st : List qV, (st.map q_v |>.map fun v => v.category).sum ≤ 2 * st.length := by
    intro st
    induction st with
    | nil => simp
    | cons a st ih =>
      have := q_vcat a
      simp only [List.map_cons, List.sum_cons, List.length_cons]
      omega
  have := key st
  omega
section
variable {g : qG} {l : Launch} {M M' : qM} {ac as' pc : Nat} {ls : List (Option qV)} {st : List qV} {σ : qS} {Post Mid : qS → qRs → Prop}
theorem q_castE : ∀ n, n < 3 → Cond.castable (q_ex n) (q_ex n) ∈ lw_tbl := by decide +kernel
theorem q_behind {p : Program} {e : Env} {s : State} {m : MethodId} {args : Array Value} {below : List Frame} {meth : Method} {c : Code} {H : Heap} {locs : List Loc} {cells slots : Nat} {Ls : Array Slot} {st0 : List Value} {a : Array Value} {mc ms : Nat}
    (C : qC g l M p s m meth c) (hS : va_S (q_An g) s.heap H locs) (hc : cells + ac ≤ M.2.2.2.2.1.cells) (hs : slots + as' ≤ M.2.2.2.2.1.slots) (hL : q_ls Ls M.2.2.1 ls) (hmc : mc ≤ ac) (hms : ms ≤ as')
    (hr : vx_Run p l e M.2.2.2.2.1 s m args below meth c H locs cells slots mc ms (F0 m pc Ls st0) (st.map q_v) (qQ g Mid a) (qX g Mid) (q_An g))
    (kk : ∀ σ' v, Mid σ' (.inl v) → qW g l M (ac - mc) (as' - ms) (pc + 3) ls (v.toList ++ st) σ' Post)
    (kx : ∀ σ' n, Mid σ' (.inr n) → (M.2.2.2.2.2 = [] ∧ Post σ' (.inr n)) ∨ q_catch M pc n (fun h => ∀ r : Nat, qW g l M (ac - mc) (as' - ms) h ls [vr (r + 1)] σ' Post)) :
    W p l e M.2.2.2.2.1 s m args below meth c H locs cells slots (vx_MQ below (qQ g Post) (qX g Post) args s M.2.2.2.2.1.cells M.2.2.2.2.1.slots (q_An g)) (F0 m pc Ls st0) := by
  intro T hT X
  rcases hr T hT X with ⟨v, st₀, t, T', L, h0, X', hL', e1, e2, ⟨σ', v', hv, hp, hR, hF⟩, stp⟩ | ⟨q, st₀, t, T', L, E, ce, h0, X', hL', e1, e2, ⟨σ', n, hn, hp, hR, hF⟩, hce, hcv, hcl, stp⟩
  · cases hv
    obtain ⟨-, -, k3⟩ := vx_keep h0 e1 hS (fun q _ h => h) (fun q h => h) hL' hF
    have h9 := kk σ' v' hp p e s m args below meth c T'.heap (locs ++ L) (cells + mc) (slots + ms) Ls C (by rw [e1]; exact hR) k3 (by omega) (by omega) hL
    have e3 : (v'.toList ++ st).map q_v = (v'.map q_v).toList ++ st.map q_v := by cases v' <;> rfl
    rw [e3] at h9
    obtain ⟨t2, a1, b1⟩ := h9 T' rfl X'
    exact ⟨t2, stp t2 a1, b1⟩
  · obtain ⟨-, -, k3⟩ := vx_keep h0 e1 hS (fun q _ h => h) (fun q h => h) hL' hF
    subst hn
    have hout : vx_W p l e M.2.2.2.2.1 s m args below meth c T'.heap (locs ++ L) (cells + mc) (slots + ms) (vx_MQ below (qQ g Post) (qX g Post) args s M.2.2.2.2.1.cells M.2.2.2.2.1.slots (q_An g)) (F0 m pc Ls (st.map q_v)) q := by
      rcases kx σ' n hp with ⟨hh, hpost⟩ | hF0
      · have htab := C.2.2.2.2.2.2.1
        rw [hh] at htab
        refine vx_out (fun x hx => ?_) C.2.2.2.2.2.1 (by rw [e1]; exact hce) hcv hcl (fun t9 ht9 hal => ⟨σ', n, rfl, hpost, by rw [ht9, e1]; exact hR, k3.F ht9⟩) k3.2.2 (by omega) (by omega)
        rw [htab] at hx
        cases hx
      · exact hF0.elim
    obtain ⟨t2, a1, b1⟩ := hout T' rfl X'
    exact ⟨t2, stp.trans a1, b1⟩
theorem q_pc {p : Program} {s : State} {m : MethodId} {meth : Method} {c : Code} {H : Heap} {locs : List Loc} {As : List qV} (C : qC g l M p s m meth c) (hR : qRep g σ H) (hS : va_S (q_An g) s.heap H locs) (U : State) (hU : U.heap = H) (hW : s.WarmedH U.vm) :
    va_Pc (As.map q_v) (fun U => qRep g σ U.heap ∧ q_SF g U ∧ g.2.1 ≤ U.heap.size) (As.map q_v).toArray U :=
  ⟨rfl, by rw [hU]; exact hR, q_SF_moved C.2.2.2.2.2.2.2.2.2.1 hW hU hS, by rw [hU]; exact Nat.le_trans C.2.2.2.2.2.2.2.2.2.2 hS.1⟩
theorem q_blind {As : List Value} : FrameBlind (va_Pc As (fun U => qRep g σ U.heap ∧ q_SF g U ∧ g.2.1 ≤ U.heap.size)) :=
  fun _ _ _ _ h => ⟨h.1, h.2.1, q_SF_blind h.2.2.1, h.2.2.2⟩
theorem q_callB {p : Program} {s : State} {m : MethodId} {meth : Method} {c : Code} {args : Array Value} {idx n : Nat} (C : qC g l M p s m meth c) (hc : q_cee M') (hn : q_np M' n) (hf : q_fit M' M ac as') (hl : Cond.methodLink M.1.cls idx M'.1 ∈ lw_tbl) :
    CallB M.2.2.2.2.1 s args M.1.cls idx M'.1 M'.2.1 M'.2.2.1 M'.2.2.2.1 [if M'.2.2.2.2.2 = [] then .code M'.1 M'.2.1 M'.2.2.1 M'.2.2.2.1 else .codeWith M'.1 M'.2.1 M'.2.2.1 M'.2.2.2.1 M'.2.2.2.2.2] M'.2.2.2.2.1 M'.2.2.2.2.1.cells M'.2.2.2.2.1.slots n := by
  have hSF := C.2.2.2.2.2.2.2.2.2.1
  obtain ⟨h1, h2, h3, h4, h5⟩ := hc
  refine ⟨rfl, rfl, hf.1, hf.2.1, fun w hw a' U hW => ?_, ?_, q_word hSF h2 rfl _, q_word hSF h3 rfl _, ⟨h4, h5⟩, fun sig h => ?_, q_word hSF hl rfl _⟩
  · rw [if_pos h1, List.mem_singleton] at hw
    subst hw
    exact q_SW_moved hW hSF.1 _ h2 rfl _
  · rw [if_pos h1]; exact List.mem_singleton_self _
  · unfold q_np at hn
    rw [h] at hn
    exact (Option.some.inj hn).symm
/-- a call by the receiver -/
theorem wp_callV {idx n ci r : Nat} {As : List qV} (hd : decode M.2.1 pc = .ok (.invokevirtual idx, 3)) (hc : q_cee M') (hn : q_np M' n) (hlen : As.length = n) (hf : q_fit M' M ac as') (hl : Cond.methodLink M.1.cls idx M'.1 ∈ lw_tbl) (hi : Cond.instanceMethod M'.1 ∈ lw_tbl) (hsel : Cond.selects M'.1.cls M'.1 M'.1 ∈ lw_tbl)
    (hcl : (qCl[ci]?.map (fun q => q.1)) = some M'.1.cls) (hK : gK σ r = ci + 1 ∨ (gK σ r = 50 ∧ ci = 9)) (hst : q_small st) (hM : qMet g l M' (vr r :: As) σ Mid)
    (kk : ∀ σ' v, Mid σ' (.inl v) → qW g l M (ac - M'.2.2.2.2.1.cells) (as' - M'.2.2.2.2.1.slots) (pc + 3) ls (v.toList ++ st) σ' Post)
    (kx : ∀ σ' n, Mid σ' (.inr n) → (M.2.2.2.2.2 = [] ∧ Post σ' (.inr n)) ∨ q_catch M pc n (fun h => ∀ r : Nat, qW g l M (ac - M'.2.2.2.2.1.cells) (as' - M'.2.2.2.2.1.slots) h ls [vr (r + 1)] σ' Post)) : qW g l M ac as' pc ls (As.reverse ++ vr r :: st) σ Post := by
  intro p e s m args below meth c H locs cells slots Ls C hR hS hcc hss hL
  have hSF := C.2.2.2.2.2.2.2.2.2.1
  obtain ⟨q, hq, hqc⟩ : ∃ q, qCl[ci]? = some q ∧ q.1 = M'.1.cls := by
    cases hq : qCl[ci]? with
    | none => rw [hq] at hcl; cases hcl
    | some q => rw [hq] at hcl; exact ⟨q, rfl, Option.some.inj hcl⟩
  have hKn := hSF.2.1.1 ci _ hq
  obtain ⟨a, hra, cellB, g1, g2, g3⟩ : ∃ a, r = a + 1 ∧ ∃ cellB : Cell, H[a]? = some cellB ∧ cellB.vm.isStatics = false ∧ s.vm.findClass M'.1.cls = some cellB.cls := by
    obtain ⟨-, -, -, -, -, ed0, hat0, -⟩ := id hR
    rcases hK with hK | ⟨hK, rfl⟩
    · obtain ⟨hz, cell, q1, q2, q3, -⟩ := (hat0 r).1 ci q hq hK
      obtain ⟨a, rfl⟩ : ∃ a, r = a + 1 := ⟨r - 1, by omega⟩
      exact ⟨a, rfl, cell, q1, by rw [q3]; rfl, by rw [q2, ← hqc]; exact hKn.2.1⟩
    · obtain ⟨hz, mo, nn, f, ⟨cell, q1, q2, q3, -⟩, -⟩ := (hat0 r).2.2.2 hK
      obtain ⟨a, rfl⟩ : ∃ a, r = a + 1 := ⟨r - 1, by omega⟩
      exact ⟨a, rfl, cell, q1, by rw [q3]; rfl, by rw [q2, ← hqc]; exact hKn.2.1⟩
  subst hra
  have hrun := vx_runV (g := F0 m pc Ls ((As.reverse ++ vr (a + 1) :: st).map q_v)) (b := a) (As := As.map q_v) (rest := st.map q_v) (cells := cells) (slots := slots) (locs := locs) (e := e) (below := below) (meth := meth) (H := H) (Ts := []) ⟨C.1, C.2.1, rfl, C.2.2.2.2.1, fun _ h => nomatch h⟩ hM ⟨q_callB (args := args) C hc hn hf hl, q_word hSF hi rfl _, q_word hSF hsel rfl _⟩
    ⟨q_blind, ⟨cellB, g1, g2, g3⟩, fun U hU hW => q_pc (As := vr (a + 1) :: As) C hR hS U hU hW⟩ rfl (by rw [List.length_map]; exact hlen) (by rw [C.2.2.1]; exact hL.1) (by simp [List.map_append, List.map_reverse]; rfl) (lv_room hst) hd ⟨by have := hf.2.2.1; omega, by have := hf.2.2.2; omega⟩
  exact q_behind C hS hcc hss hL hf.2.2.1 hf.2.2.2 hrun kk kx
/-- a call of a static method -/
theorem wp_callS {idx n : Nat} {As : List qV} (hd : decode M.2.1 pc = .ok (.invokestatic idx, 3)) (hc : q_cee M') (hn : q_np M' n) (hlen : As.length = n) (hf : q_fit M' M ac as') (hl : Cond.methodLink M.1.cls idx M'.1 ∈ lw_tbl) (hi : Cond.static M'.1 ∈ lw_tbl)
    (hst : q_small st) (hM : qMet g l M' As σ Mid)
    (kk : ∀ σ' v, Mid σ' (.inl v) → qW g l M (ac - M'.2.2.2.2.1.cells) (as' - M'.2.2.2.2.1.slots) (pc + 3) ls (v.toList ++ st) σ' Post)
    (kx : ∀ σ' n, Mid σ' (.inr n) → (M.2.2.2.2.2 = [] ∧ Post σ' (.inr n)) ∨ q_catch M pc n (fun h => ∀ r : Nat, qW g l M (ac - M'.2.2.2.2.1.cells) (as' - M'.2.2.2.2.1.slots) h ls [vr (r + 1)] σ' Post)) : qW g l M ac as' pc ls (As.reverse ++ st) σ Post := by
  intro p e s m args below meth c H locs cells slots Ls C hR hS hcc hss hL
  have hSF := C.2.2.2.2.2.2.2.2.2.1
  have hrun := vx_runS (g := F0 m pc Ls ((As.reverse ++ st).map q_v)) (As := As.map q_v) (rest := st.map q_v) (cells := cells) (slots := slots) (locs := locs) (e := e) (below := below) (meth := meth) (H := H) (Ts := []) ⟨C.1, C.2.1, rfl, C.2.2.2.2.1, fun _ h => nomatch h⟩ hM ⟨q_callB (args := args) C hc hn hf hl, q_word hSF hi rfl _⟩
    ⟨q_blind, fun U hU hW => q_pc C hR hS U hU hW⟩ rfl (by rw [List.length_map]; exact hlen) (by rw [C.2.2.1]; exact hL.1) (by simp [List.map_append, List.map_reverse]) (lv_room hst) hd ⟨by have := hf.2.2.1; omega, by have := hf.2.2.2; omega⟩
  exact q_behind C hS hcc hss hL hf.2.2.1 hf.2.2.2 hrun kk kx
/-- a constructor -/
theorem wp_callI {idx n r : Nat} {As : List qV} (hd : decode M.2.1 pc = .ok (.invokespecial idx, 3)) (hc : q_cee M') (hn : q_np M' n) (hlen : As.length = n) (hf : q_fit M' M ac as') (hl : Cond.methodLink M.1.cls idx M'.1 ∈ lw_tbl) (hi : Cond.instanceMethod M'.1 ∈ lw_tbl) (hnm : M'.1.name = "<init>") (hret : M'.2.2.2.1 = none) (hr : r ≠ 0)
    (hst : q_small st) (hM : qMet g l M' (vr r :: As) σ Mid)
    (kk : ∀ σ' v, Mid σ' (.inl v) → qW g l M (ac - M'.2.2.2.2.1.cells) (as' - M'.2.2.2.2.1.slots) (pc + 3) ls (v.toList ++ st) σ' Post)
    (kx : ∀ σ' n, Mid σ' (.inr n) → (M.2.2.2.2.2 = [] ∧ Post σ' (.inr n)) ∨ q_catch M pc n (fun h => ∀ r : Nat, qW g l M (ac - M'.2.2.2.2.1.cells) (as' - M'.2.2.2.2.1.slots) h ls [vr (r + 1)] σ' Post)) : qW g l M ac as' pc ls (As.reverse ++ vr r :: st) σ Post := by
  intro p e s m args below meth c H locs cells slots Ls C hR hS hcc hss hL
  have hSF := C.2.2.2.2.2.2.2.2.2.1
  obtain ⟨a, rfl⟩ : ∃ a, r = a + 1 := ⟨r - 1, by omega⟩
  obtain ⟨nm, cc', nL', ret', rm', hh'⟩ := M'
  have hret' : ret' = none := hret
  subst hret'
  have hB := q_callB (args := args) C hc hn hf hl
  have hrun := vx_runI (g := F0 m pc Ls ((As.reverse ++ vr (a + 1) :: st).map q_v)) (b := a) (As := As.map q_v) (rest := st.map q_v) (cells := cells) (slots := slots) (locs := locs) (e := e) (below := below) (meth := meth) (H := H) (Ts := []) ⟨C.1, C.2.1, rfl, C.2.2.2.2.1, fun _ h => nomatch h⟩ hM ⟨hB, hnm, q_word hSF hi rfl _⟩
    ⟨q_blind, fun U hU hW => q_pc (As := vr (a + 1) :: As) C hR hS U hU hW⟩ rfl (by rw [List.length_map]; exact hlen) (by rw [C.2.2.1]; exact hL.1) (by simp [List.map_append, List.map_reverse]; rfl) (lv_room hst) hd ⟨by have := hf.2.2.1; omega, by have := hf.2.2.2; omega⟩
  exact q_behind C hS hcc hss hL hf.2.2.1 hf.2.2.2 hrun kk kx
end
