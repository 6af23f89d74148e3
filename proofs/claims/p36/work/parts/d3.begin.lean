/-! the law: what stands at its entry -/
theorem q_SW_of {s : State} {A : Array Value} (hts : ∀ w ∈ lw_tbl, w.before A s = true) : q_SW s := by
  intro w hw hg A'
  have h0 := hts w hw
  unfold q_okW at hg
  by_cases h1 : goodWord w = true
  · exact word_at (State.WarmedH.refl s) (good_of_word h1) h0
  · rw [Bool.not_eq_true] at h1
    rw [h1, Bool.false_or] at hg
    split at hg
    · exact va_Nw.use rfl (va_Nw.of rfl h0)
    · exact va_Nw.use rfl (va_Nw.of rfl h0)
    · exact va_Nw.use rfl (va_Nw.of rfl h0)
    · cases hg
theorem q_ar1 {s : State} {A : Array Value} {ty : FieldType} (h : (Cond.arrayClass ty).before A s = true) : ∃ cA, ArrOfT s cA ty ∧ s.vm.findClass ("[" ++ ty.toString) = some cA := by
  obtain ⟨c, k, comp, h1, h2, h3⟩ := Cond.arrayClass_spec h
  exact ⟨c, fun n z => ⟨(fun _ h => by cases h), k, h2, comp, h3⟩, h1⟩
theorem q_ar2 {s : State} {A : Array Value} {C : String} (h : (Cond.arrayOver (.object C)).before A s = true) : ∃ cA, ArrOfT s cA (.object C) ∧ va_RA s cA (.object C) := by
  obtain ⟨comp, c, k, h1, -, h3, h4, h5⟩ := Cond.arrayOver_spec h
  exact ⟨c, fun n z => ⟨(fun _ h => by cases h), k, h3, comp, h4⟩, k, comp, h3, h4, h1, h5⟩
theorem q_inst : ∀ q ∈ qCl, Cond.instantiable q.1 q.2.2 ∈ lw_tbl := by decide +kernel
theorem q_kns {s : State} {A : Array Value} (hts : ∀ w ∈ lw_tbl, w.before A s = true) : ∃ (dC : Nat → ClassId) (dI : Nat → Nat → Nat), ∀ (k : Nat) (q : vw_C), qCl[k]? = some q → u_Kn s q.1 q.2.1 q.2.2 (dC k) (dI k) := by
  have hex : ∀ ci : Nat, ∃ (cC : ClassId) (iS : Nat → Nat), ∀ q, qCl[ci]? = some q → u_Kn s q.1 q.2.1 q.2.2 cC iS := by
    intro ci
    cases hq : qCl[ci]? with
    | none => exact ⟨0, fun _ => 0, fun q h => by cases h⟩
    | some q =>
      have hm := List.mem_of_getElem? hq
      obtain ⟨a, b, h⟩ := u_known (C := q.1) (T := q.2.1) (N := q.2.2) (n := q.2.2) hts (q_cls q hm).1 (hts _ (q_inst q hm))
      exact ⟨a, b, fun q' h' => by cases h'; exact h⟩
  exact ⟨fun k => (hex k).choose, fun k => (hex k).choose_spec.choose, fun k q hq => (hex k).choose_spec.choose_spec q hq⟩
theorem q_strW : ∀ q ∈ q_strs, Cond.stringRef RX7 q.1 q.2 ∈ lw_tbl := by decide +kernel
theorem q_strE : ∀ q ∈ q_strs, Cond.exactly (.string RX7 q.1) "java/lang/String" ∈ flatC (Jvm.Cond.and given_1 narrow_1) := by decide +kernel
/-- the numbers of the launch's own -/
def q_ids (cI cZ cJ cP cO mi b L : Nat) (xs : Nat → Int32) : Nat → Nat := fun k => if k = 0 then cI else if k = 1 then cZ else if k = 2 then cJ else if k = 3 then cP else if k = 4 then cO else if k = 7 then mi else if k = 8 then b else if k = 9 then L else ((xs (k - 10)).toInt + 2147483648).toNat
theorem q_ids_x {cI cZ cJ cP cO mi b L : Nat} {xs : Nat → Int32} (j : Nat) : Int32.ofInt ((q_ids cI cZ cJ cP cO mi b L xs (10 + j) : Nat) - 2147483648 : Int) = xs j := by
  have h1 := Int32.le_toInt (xs j)
  have h2 : q_ids cI cZ cJ cP cO mi b L xs (10 + j) = ((xs j).toInt + 2147483648).toNat := by
    unfold q_ids
    rw [if_neg (by omega), if_neg (by omega), if_neg (by omega), if_neg (by omega), if_neg (by omega), if_neg (by omega), if_neg (by omega), if_neg (by omega), Nat.add_sub_cancel_left]
  rw [h2]
  have h3 : ((((xs j).toInt + 2147483648).toNat : Nat) : Int) - 2147483648 = (xs j).toInt := by omega
  rw [h3, Int32.ofInt_toInt]
def sig0 (b ed : Nat) : qS := (fun _ _ => 0, fun _ _ => 0, fun _ _ => 0, fun _ _ => 0, fun _ => [], fun r => if r = ed + 1 then 34 else if r = b + 1 then 40 else 0, fun _ => 0)
theorem qRep0 {g : qG} {b : Nat} {H : Heap} (h1 : g.2.2.2 < g.2.1) (h2 : g.2.1 = H.size) (hb : b < H.size) (hro : q_roC g 4 0 (fun i => q_el (sig0 b g.2.2.2) 4 (g.2.2.2 + 1) i) H[g.2.2.2]?) : qRep g (sig0 b g.2.2.2) H := by
  have hk : ∀ r, gK (sig0 b g.2.2.2) r = if r = g.2.2.2 + 1 then 34 else if r = b + 1 then 40 else 0 := fun r => rfl
  refine ⟨h1, rfl, if_pos rfl, rfl, fun r hr => ?_, fun _ => 0, fun r => ⟨fun ci q hq h => ?_, fun j hj h => ?_, fun j hj h => ?_, fun h => ?_⟩, fun r h => ?_, fun r h => ?_⟩
  · rw [hk] at hr
    by_cases c1 : r = g.2.2.2 + 1
    · omega
    · by_cases c2 : r = b + 1
      · omega
      · rw [if_neg c1, if_neg c2] at hr; exact absurd rfl hr
  · have hci : ci < 10 := (List.getElem?_eq_some_iff.mp hq).1
    rw [hk] at h
    split at h
    · omega
    · split at h <;> omega
  · rw [hk] at h
    split at h
    · omega
    · split at h <;> omega
  · rw [hk] at h
    by_cases c1 : r = g.2.2.2 + 1
    · rw [if_pos c1] at h
      have hj4 : j = 4 := by omega
      subst hj4
      subst c1
      exact ⟨by omega, by omega, Int.le_refl _, (by decide : (0 : Int) ≤ 1000000), hro⟩
    · rw [if_neg c1] at h
      split at h <;> omega
  · rw [hk] at h
    split at h
    · omega
    · split at h <;> omega
  · rw [hk] at h
    split at h
    · omega
    · split at h <;> omega
  · rw [hk] at h
    split at h
    · omega
    · split at h <;> omega
theorem q_tab (c : Code) : c.exceptionTable.toList = tableOf (c.exceptionTable.toList.map (fun z => (z.startPc, z.endPc, z.handlerPc, z.catchType))) := by
  unfold tableOf
  rw [List.map_map]
  exact (List.map_id _).symm
theorem q_same0 {s t : State} {L : List Loc} {k n : Nat} (h : s.sameButNew t L k n) (hL : ∀ z ∈ L, s.heap.size ≤ z.base) : s.sameButNew t [] k n := by
  obtain ⟨h1, h2, h3, h4, h5, h6⟩ := h
  refine ⟨h1, h2, h3, h4, h5, fun a c ha => ?_⟩
  obtain ⟨c', e1, e2, e3, e4⟩ := h6 a c ha
  refine ⟨c', e1, e2, e3, fun i _ => e4 i (fun hm => ?_)⟩
  have := hL _ hm
  have hlt := (Array.getElem?_eq_some_iff.mp ha).1
  have : s.heap.size ≤ a := this
  omega
theorem q_len {t : Term} {A : Array Value} {s : State} {a : Addr} {cell : Cell} (e1 : t.eval A s none [] s = some (.ref a)) (hat : s.arrayAt? a = some cell) (h3 : (Cond.eq (.length t) (.int 0)).before A s = true) : cell.slots.size = 0 := by
  by_cases hsz : cell.slots.size < 2 ^ 31
  · have hev : (Term.length t).eval A s none [] s = some (.int cell.slots.size.toInt32) := by simp [Term.eval, e1, hat, hsz]
    have hv := Cond.eq_ints hev (show (Term.int 0).eval A s none [] s = some (.int 0) from rfl)
    have h0 : cell.slots.size.toInt32 = 0 := by simpa [Cond.before, Cond.holds, hv] using h3
    have h9 := congrArg Int32.toInt h0
    rw [show cell.slots.size.toInt32 = Int32.ofNat cell.slots.size from rfl, Int32.toInt_ofNat_of_lt hsz] at h9
    have h8 : (0 : Int32).toInt = 0 := by decide
    rw [h8] at h9
    omega
  · have hev : (Term.length t).eval A s none [] s = none := by
      simp only [Term.eval, e1, hat, Option.bind_eq_bind, Option.bind_some]
      simp [hsz]
    simp [Cond.before, Cond.holds, Cond.value, hev] at h3
theorem q_ed {s : State} {A : Array Value} (hs : ∀ c ∈ flatC (Jvm.Cond.and given_1 narrow_1), c.before A s = true) : ∃ (ed : Addr) (cell : Cell), (Term.static "java/util/ArrayList" "DEFAULTCAPACITY_EMPTY_ELEMENTDATA" "[Ljava/lang/Object;").eval A s none [] s = some (.ref ed) ∧ s.heap[ed]? = some cell ∧ s.vm.findClass "[Ljava/lang/Object;" = some cell.cls ∧ s.isArrayOf cell (.object "java/lang/Object") ∧ cell.vm ≠ .unknown ∧ cell.slots = #[] := by
  have h1 := hs (Cond.exactly (.static "java/util/ArrayList" "DEFAULTCAPACITY_EMPTY_ELEMENTDATA" "[Ljava/lang/Object;") "[Ljava/lang/Object;") (by decide +kernel)
  have h2 := hs (Cond.arrayOf (.static "java/util/ArrayList" "DEFAULTCAPACITY_EMPTY_ELEMENTDATA" "[Ljava/lang/Object;") (.object "java/lang/Object")) (by decide +kernel)
  have h3 := hs (Cond.eq (.length (.static "java/util/ArrayList" "DEFAULTCAPACITY_EMPTY_ELEMENTDATA" "[Ljava/lang/Object;")) (.int 0)) (by decide +kernel)
  obtain ⟨a, c, cell, k, e1, e2, e3, e4, e5, e6, -⟩ := Cond.exactly_spec h1
  obtain ⟨f1, f2⟩ := Cond.arrayOf_spec h2 e1 e3
  refine ⟨a, cell, e1, e3, by rw [e6]; exact e2, f1, f2, ?_⟩
  obtain ⟨-, k', hk', comp, hkind⟩ := f1
  have hat : s.arrayAt? a = some cell := by simp [State.arrayAt?, e3, hk', hkind, f2, e5]
  exact Array.eq_empty_of_size_eq_zero (q_len e1 hat h3)
theorem q_pair1 {n n' k k' : Nat} (h1 : k ≤ n) (h2 : n < n') (h : n * n + k + 1 = n' * n' + k' + 1) : False := by
  have h3 := Nat.mul_le_mul (Nat.succ_le_of_lt h2) (Nat.succ_le_of_lt h2)
  have h4 : n.succ * n.succ = n * n + 2 * n + 1 := by rw [Nat.succ_mul, Nat.mul_succ]; omega
  omega
theorem q_pair : qInj (fun k i => (k + i) * (k + i) + k + 1) := by
  refine ⟨fun k i k' i' => propext ⟨fun h => ?_, fun h => by rw [h.1, h.2]⟩, fun k i => Nat.succ_ne_zero _⟩
  have h : (k + i) * (k + i) + k + 1 = (k' + i') * (k' + i') + k' + 1 := h
  rcases Nat.lt_trichotomy (k + i) (k' + i') with c | c | c
  · exact (q_pair1 (by omega) c h).elim
  · rw [c] at h; omega
  · exact (q_pair1 (by omega) c h.symm).elim
/-- the law's walk, from its entry -/
theorem q_begin {p : Program} {e : Env} {s : State} {m : MethodId} {below : List Frame} {meth : Method} {c : Code} (l : Launch) (hl : l.stackTraces = false) {b L : Nat} {xs : Nat → Int32} (hL : L ≤ 3072) (hx : p.tables.exec = Jvm.exec) (hb : c.code = cL_law) (hr : meth.sig.returnType = some .boolean) (hml : c.maxLocals = 20) (hown : s.vm.findClass RL = some m.cls) (hts : ∀ w ∈ lw_tbl, w.before #[Value.ref b] s = true) (hX : va_X b L xs s s.heap) (hbl : b < s.heap.size) (hlocks : meth.locks = false) (hgv : (Jvm.Cond.and given_1 narrow_1).before #[Value.ref b] s = true) :
    W p l e room_1 s m #[Value.ref b] below meth c s.heap [] 0 0 (fun t => ∃ o, t.status = .running ∧ Ended t below o ∧ o = .returned (some (.int 1)) ∧ Framed s o t [] 686622 7041831) (entryFrame m ([Value.ref b] : List Value).toArray 20) := by
  have hs := flat_of_before _ hgv
  obtain ⟨ed, cell, d1, d2, d3, d4, d5, d6⟩ := q_ed hs
  obtain ⟨dC, dI, hK⟩ := q_kns hts
  obtain ⟨cI, i1, i2⟩ := q_ar1 (hts (.arrayClass .int) (by decide +kernel))
  obtain ⟨cP, p1, p2⟩ := q_ar2 (hts (.arrayOver (.object RX5)) (by decide +kernel))
  obtain ⟨cO, o1, o2⟩ := q_ar2 (hts (.arrayOver (.object "java/lang/Object")) (by decide +kernel))
  obtain ⟨mi, hmi⟩ := va_Mi.of (hs (Cond.isRef (.mirror "[Ljava/lang/Object;")) (by decide +kernel))
  have hcls : cell.cls = cO := by
    have h := va_nmO o2 rfl
    rw [show ("[" ++ (FieldType.object "java/lang/Object").toString) = "[Ljava/lang/Object;" from rfl] at h
    rw [d3] at h
    exact Option.some.inj h
  have hedl : ed < s.heap.size := (Array.getElem?_eq_some_iff.mp d2).1
  have hne : b ≠ ed := by
    intro h
    obtain ⟨scr, x1, x2, -⟩ := hX
    rw [h, d2] at x1
    cases x1
    obtain ⟨-, k1, a1, c1, a2⟩ := x2
    obtain ⟨-, k2, b1, c2, b2⟩ := d4
    rw [a1] at b1
    cases b1
    rw [a2] at b2
    cases b2
  let g : qG := ((dC, dI), s.heap.size, q_ids cI cI cI cP cO mi b L xs, ed)
  have hA : ∀ a : Nat, a < s.heap.size → ¬ q_An g a := fun a h z => absurd h (Nat.not_lt.mpr z)
  have hSF : q_SF g s := by
    refine ⟨q_SW_of hts, ⟨hK, fun k q hq => ?_⟩, ?_, ?_, ?_, fun q hq => ?_, va_AO.of (hts (.arrayOver (.object RX5)) (by decide +kernel)), va_AO.of (hts (.arrayOver (.object "java/lang/Object")) (by decide +kernel)), ⟨hmi, ?_⟩, trivial⟩
    · match k, hq with
      | 0, hq => cases hq; exact ⟨i1, i2⟩
      | 1, hq => cases hq; exact ⟨i1, i2⟩
      | 2, hq => cases hq; exact ⟨i1, i2⟩
      | 3, hq => cases hq; exact ⟨p1, p2⟩
      | 4, hq => cases hq; exact ⟨o1, o2⟩
      | k + 5, hq => simp at hq
    · exact vx_Zqof (hts (.laysStatic "java/lang/Throwable" "UNASSIGNED_STACK" "[Ljava/lang/StackTraceElement;") (by decide +kernel)) (hts (.initialized "java/lang/Throwable") (by decide +kernel)) (hs _ (by decide +kernel)) hA
    · exact vx_Zqof (hts (.laysStatic "java/lang/Throwable" "SUPPRESSED_SENTINEL" "Ljava/util/List;") (by decide +kernel)) (hts (.initialized "java/lang/Throwable") (by decide +kernel)) (hs _ (by decide +kernel)) hA
    · exact va_Zof (hts (.laysStatic "java/util/ArrayList" "DEFAULTCAPACITY_EMPTY_ELEMENTDATA" "[Ljava/lang/Object;") (by decide +kernel)) (hts (.initialized "java/util/ArrayList") (by decide +kernel)) d1 hA
    · obtain ⟨a, -, -, -, e1, -⟩ := Cond.exactly_spec (hs _ (q_strE q hq))
      exact ⟨a, vk_R.of (hts _ (q_strW q hq)) e1⟩
    · refine ⟨?_, hbl, hL⟩
      have e : (fun j => Int32.ofInt ((g.2.2.1 (10 + j) : Int) - 2147483648)) = xs := funext (fun j => q_ids_x j)
      rw [e]
      exact hX
  have hro : q_roC g 4 0 (fun i => q_el (sig0 b g.2.2.2) 4 (g.2.2.2 + 1) i) s.heap[g.2.2.2]? := by
    refine ⟨cell, d2, hcls, d4.1, d5, ?_⟩
    rw [d6]; rfl
  have hR : qRep g (sig0 b g.2.2.2) s.heap := qRep0 hedl rfl hbl hro
  obtain ⟨A0, hA0⟩ : ∃ A : Nat → Nat → Nat, qInj A := ⟨_, q_pair⟩
  have hw := law_start (g := g) (l := l) (sc := b + 1) (nm := meth.name) (hh := c.exceptionTable.toList.map (fun z => (z.startPc, z.endPc, z.handlerPc, z.catchType))) (Post := fun _ r => r = .inl (some (vi 1))) hl rfl hL (fun _ => rfl) hA0 (σ := sig0 b g.2.2.2)
  rw [lg_entry_eq]
  have h9 := hw p e s m #[Value.ref b] below meth c s.heap [] 0 0 _ ⟨hx, hb, hml, hr, hown, hlocks, q_tab c, rfl, hl, hSF, Nat.le_refl _⟩ hR va_S.rf (Nat.le_refl _) (Nat.le_refl _) (q_ls_entry (As := [vr (b + 1)]) (nL := 20) (Nat.le_of_ble_eq_true rfl) (fun v hv => by rw [List.mem_singleton.mp hv]; trivial))
  intro T hT X
  obtain ⟨t, a1, o, b1, b2, b3⟩ := h9 T hT X
  refine ⟨t, a1, o, b1, b2, ?_⟩
  rcases b3 with ⟨⟨σ, v, e1, e2, -, -⟩, L', ⟨f1, f2, f3⟩, hf⟩ | ⟨q, -, E, ce, L', ⟨σ, n, -, e2, -⟩, -⟩
  · have hv : v = some (vi 1) := Sum.inl.inj e2
    rw [hv] at e1
    exact ⟨e1, f1, f2, q_same0 f3 hf⟩
  · cases e2
