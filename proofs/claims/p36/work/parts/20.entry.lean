/-! what stands of the tables goes on standing; a method's contract out of the walk of its body -/
theorem q_SW_moved {s U : State} (hW : s.WarmedH U.vm) (h : q_SW s) : q_SW U := by
  intro w hw hg A
  have h0 := h w hw hg
  unfold q_okW at hg
  by_cases h1 : goodWord w = true
  · exact word_at hW (good_of_word h1) (h0 A)
  · rw [Bool.not_eq_true] at h1
    rw [h1, Bool.false_or] at hg
    split at hg
    · exact va_Nw.use rfl (va_Nw.warmC hW (h0 #[]))
    · exact va_Nw.use rfl (va_Nw.warmM hW (h0 #[]))
    · exact va_Nw.use rfl (va_Nw.warmD hW (h0 #[]))
    · cases hg
theorem q_Scr_moved {g : qG} {s U : State} (hvm : s.vm.Alike U.vm) (hk : ∀ a : Nat, a < s.heap.size → ¬ q_An g a → U.heap[a]? = s.heap[a]?) (h : q_Scr g s) : q_Scr g U := by
  obtain ⟨h1, h2, h3⟩ := h
  have hb : g.2.2.1 8 < s.heap.size := by
    obtain ⟨scr, hc, -⟩ := h1
    exact (Array.getElem?_eq_some_iff.mp hc).1
  exact ⟨va_X.moved hvm (va_X.kept h1 (hk _ hb (fun z => absurd h2 (Nat.not_lt.mpr z)))), h2, h3⟩
theorem q_SF_moved {g : qG} {s U : State} {H : Heap} {locs : List Loc} (h : q_SF g s) (hW : s.WarmedH U.vm) (hU : U.heap = H) (hS : va_S (q_An g) s.heap H locs) : q_SF g U := by
  obtain ⟨h1, h2, h3, h4, h5, h6, h7, h8, h10, h9⟩ := h
  have hk : ∀ a : Nat, a < s.heap.size → ¬ q_An g a → H[a]? = s.heap[a]? := hS.2.1
  subst hU
  exact ⟨q_SW_moved hW h1, va_K.moved hW.alike h2, vx_Zq.moved hW.alike (vx_Zq.kept h3 hk), vx_Zq.moved hW.alike (vx_Zq.kept h4 hk), va_Z.moved hW.alike (va_Z.kept h5 hk), fun q hq => by obtain ⟨sa, hsa⟩ := h6 q hq; exact ⟨sa, vk_R.warm hW hsa⟩, va_AO.moved hW.alike h7, va_AO.moved hW.alike h8, ⟨va_Mi.moved hW.alike h10.1, q_Scr_moved hW.alike hk h10.2⟩, trivial⟩
theorem q_SF_blind {g : qG} {U : State} {gg : JFrame} {mk : MethodId} {a : Array Value} (h : q_SF g U) : q_SF g (U.calling gg mk a) :=
  q_SF_moved (locs := []) h (State.WarmedH.refl U) rfl va_S.rf
theorem q_args_mem : ∀ (As : List qV) (k i : Nat) (v : qV), (∀ v ∈ As, q_cat1 v) → As[i]? = some v → (k + i, q_v v) ∈ lv_args k (As.map q_v)
  | [], _, i, v, _, h => by simp at h
  | a :: As, k, i, v, hc, h => by
    have hca : (q_v a).category = 1 := q_cat (hc a List.mem_cons_self)
    show _ ∈ (k, q_v a) :: lv_args (if (q_v a).category = 2 then k + 2 else k + 1) (As.map q_v)
    rw [if_neg (by omega)]
    cases i with
    | zero =>
      rw [List.getElem?_cons_zero] at h
      cases h
      exact List.mem_cons_self
    | succ i =>
      rw [List.getElem?_cons_succ] at h
      have := q_args_mem As (k + 1) i v (fun v hv => hc v (List.mem_cons_of_mem _ hv)) h
      rw [show k + 1 + i = k + (i + 1) by omega] at this
      exact List.mem_cons_of_mem _ this
theorem q_sl_len : ∀ (As : List qV), (∀ v ∈ As, q_cat1 v) → (lg_sl (As.map q_v)).length = As.length
  | [], _ => rfl
  | a :: As, hc => by
    have hca : (q_v a).category = 1 := q_cat (hc a List.mem_cons_self)
    have := q_sl_len As (fun v hv => hc v (List.mem_cons_of_mem _ hv))
    unfold lg_sl at this ⊢
    rw [List.map_cons, List.flatMap_cons, List.length_append, if_neg (by omega), this]
    simp [Nat.add_comm]
theorem q_ls_entry {As : List qV} {nL : Nat} (hlen : As.length ≤ nL) (hc : ∀ v ∈ As, q_cat1 v) : q_ls ((lg_sl (As.map q_v) ++ List.replicate (nL - (lg_sl (As.map q_v)).length) Slot.unset).toArray) nL (As.map some ++ List.replicate (nL - As.length) none) := by
  have h := lv_entry (As.map q_v) (n := nL) (by rw [q_sl_len As hc]; exact hlen)
  refine ⟨h.1, h.2.1, by simp; omega, fun i v hi => ?_⟩
  have hA : As[i]? = some v := by
    by_cases hi2 : i < As.length
    · rw [List.getElem?_append_left (by simpa using hi2), List.getElem?_map] at hi
      cases hv : As[i]? with
      | none => rw [hv] at hi; cases hi
      | some w => rw [hv] at hi; simpa using hi
    · rw [List.getElem?_append_right (by simpa using hi2)] at hi
      have := List.mem_of_getElem? hi
      rw [List.mem_replicate] at this
      cases this.2
  refine ⟨hc v (List.mem_of_getElem? hA), ?_⟩
  have := q_args_mem As 0 i v hc hA
  rw [Nat.zero_add] at this
  exact h.2.2 _ this
theorem qMet_of {g : qG} {l : Launch} {M : qM} {As : List qV} {σ : qS} {Post : qS → qRs → Prop} (hl : l.stackTraces = false) (hp : plainName M.1.cls = true) (hlen : As.length ≤ M.2.2.1) (hcat : ∀ v ∈ As, q_cat1 v)
    (k : qW g l M M.2.2.2.2.1.cells M.2.2.2.2.1.slots 0 (As.map some ++ List.replicate (M.2.2.1 - As.length) none) [] σ Post) : qMet g l M As σ Post := by
  have fin : ∀ (S : Spec) (p : Program) (e : Env) (s : State) (m : MethodId) (args : Array Value) (below : List Frame) (meth : Method) (c : Code) (s₁ : State), S.room = M.2.2.2.2.1 → BodyLoose p l M.1 S M.2.1 M.2.2.1 M.2.2.2.1 e s m args below meth c s₁ → c.maxLocals = M.2.2.1 → c.exceptionTable.toList = tableOf M.2.2.2.2.2 →
      va_Pc (As.map q_v) (fun U => qRep g σ U.heap ∧ q_SF g U ∧ g.2.1 ≤ U.heap.size) args s →
      W p l e M.2.2.2.2.1 s m args below meth c s.heap [] 0 0 (vx_MQ below (qQ g Post) (qX g Post) args s M.2.2.2.2.1.cells M.2.2.2.2.1.slots (q_An g)) (entryFrame m args M.2.2.1) := by
    intro S p e s m args below meth c s₁ hS B hml htab hv
    obtain ⟨rfl, hR, hSF, hz⟩ := hv
    rw [lg_entry_eq]
    exact k p e s m _ below meth c s.heap [] 0 0 _ ⟨B.exec, B.bytes, hml, B.returns, findClass_of_methodNamed B.named, B.notSynchronized, htab, (name_of_methodNamed B.named B.method).1, hl, hSF, hz⟩ hR va_S.rf (by omega) (by omega) (q_ls_entry hlen hcat)
  unfold qMet
  by_cases hh : M.2.2.2.2.2 = []
  · rw [if_pos hh]
    refine vx_ofW (cc := M.2.1) (maxL := M.2.2.1) (ret := M.2.2.2.1) (ws' := []) hp rfl fun p e s m args below meth c s₁ B hml ht hv => ?_
    refine fin (headSpec [.code M.1 M.2.1 M.2.2.1 M.2.2.2.1] M.2.2.2.2.1) p e s m args below meth c s₁ rfl B hml ?_ hv
    rw [hh]
    cases hT : c.exceptionTable.toList with
    | nil => rfl
    | cons a r => exact (ht a (by rw [hT]; exact List.mem_cons_self)).elim
  · rw [if_neg hh]
    refine vx_ofWH (cc := M.2.1) (maxL := M.2.2.1) (ret := M.2.2.2.1) (hh := M.2.2.2.2.2) (ws' := []) hp rfl fun p e s m args below meth c s₁ B hml hv => ?_
    exact fin (headSpec [.codeWith M.1 M.2.1 M.2.2.1 M.2.2.2.1 M.2.2.2.2.2] M.2.2.2.2.1) p e s m args below meth c s₁ rfl B hml (vx_table (x := M.1) B (atoms_spec B.pre _ List.mem_cons_self)) hv
