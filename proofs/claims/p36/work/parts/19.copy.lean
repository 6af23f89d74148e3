/-! rules: System.arraycopy between arrays of references (the proof follows the kit's va_copyM) -/
section
variable {p : Program} {l : Launch} {e : Env} {R : Room} {s : State} {m : MethodId} {args : Array Value} {below : List Frame} {meth : Method} {c : Code} {H : Heap} {locs : List Loc} {cells slots : Nat} {Q : State → Prop}
theorem q_copyW {cc : ByteArray} {pc : Nat} {ls : Array Slot} {rest : List Value} {a : Nat} (hexec : p.tables.exec = Jvm.exec) (hb : c.code = cc) (hml : c.maxLocals = ls.size) {own : String} {index : Nat} (hown : s.vm.findClass own = some m.cls) (hlink : (Cond.methodLink own index arraycopyName).before args s = true) (hnat : (Cond.native arraycopyName).before args s = true) (hstat : (Cond.static arraycopyName).before args s = true) (hini : (Cond.initialized "java/lang/System").before args s = true)
    {a0 : Nat} {c0 c1 : ClassId} {n0 n1 : Nat} {f g : Nat → Option Nat} {E0 E1 : String} {cs : Cell} (hc0 : H[a0]? = some cs) (hcl : cs.cls = c0) (hvs : ∀ k, cs.vm ≠ .statics k) (hvu : cs.vm ≠ .unknown) (hsl : cs.slots = (arrV c0 n0 (fun j => va_rf (f j))).slots) (hc1 : H[a]? = some (arrV c1 n1 (fun j => va_rf (g j)))) (hK0 : ArrOfT s c0 (.object E0)) (hK1 : ArrOfT s c1 (.object E1) ∧ va_RA s c1 (.object E1))
    {sp dp n : Int32} (h1 : ¬ sp < 0) (h2 : ¬ dp < 0) (h3 : ¬ n < 0) (h4 : sp.toNatClampNeg + n.toNatClampNeg ≤ n0) (h5 : dp.toNatClampNeg + n.toNatClampNeg ≤ n1) (hel : ∀ i : Nat, i < n.toNatClampNeg → ∀ y : Nat, f (sp.toNatClampNeg + i) = some y → va_Any E1 s H y)
    (hframes : 1 ≤ R.frames) (hlocals : (rest.map fun v => v.category).sum + (nativeFrameWords "java/lang/System" "arraycopy" 5 + 11) ≤ R.locals) (hdg : decode cc pc = .ok (.invokestatic index, 3))
    (kk : ∀ (H1 : Heap) (L : List Loc), H1[a]? = some (arrV c1 n1 (fun j => va_rf (va_cpy f g sp.toNatClampNeg dp.toNatClampNeg n.toNatClampNeg j))) → H1.size = H.size → (∀ q, q ≠ a → H1[q]? = H[q]?) → (∀ q ∈ L, q.base = a) → W p l e R s m args below meth c H1 (locs ++ L) cells slots Q (F0 m (pc + 3) ls rest)) : W p l e R s m args below meth c H locs cells slots Q (F0 m pc ls (.int n :: .int dp :: .ref a :: .int sp :: .ref a0 :: rest)) := by
  have nn : ∀ z : Int32, ¬ z < 0 → z.toInt = (z.toNatClampNeg : Int) := by
    intro z hz
    have hz0 : (0 : Int) ≤ z.toInt := by
      have := Int32.not_lt.mp hz
      simpa using Int32.le_iff_toInt_le.mp this
    show z.toInt = ((z.toInt.toNat : Nat) : Int)
    omega
  intro T hT X
  obtain ⟨-, k0, hk0, cm0, hkk0⟩ := hK0 n0 (fun j => va_rf (f j))
  obtain ⟨-, k1, hk1, cm1, hkk1⟩ := hK1.1 n1 (fun j => va_rf (g j))
  obtain ⟨vm', X', step⟩ := X.arraycopy hexec hown hlink hnat hstat hini (src := a0) (dst := a) (cs := cs) (cd := arrV c1 n1 (fun j => va_rf (g j))) (srcPos := sp) (destPos := dp) (n := n) (by rw [hT]; exact hc0) (by rw [hT]; exact hc1)
    hvs (fun _ h => by cases h) hvu (fun h => by cases h) (by rw [hcl]; exact hk0) hk1 hkk0 hkk1 rfl h1 h2 h3
    (by rw [nn sp h1, nn n h3]; show ¬ _ > (cs.slots.size : Int); rw [hsl, arrV_size]; omega)
    (by rw [nn dp h2, nn n h3]; show ¬ _ > ((arrV c1 n1 (fun j => va_rf (g j))).slots.size : Int); rw [arrV_size]; omega)
    (fun vm₁ hal i hi => by
      have e : cs.slots.getD (sp.toNatClampNeg + i) .null = va_rf (f (sp.toNatClampNeg + i)) := by
        rw [hsl]
        show (arrV c0 n0 (fun j => va_rf (f j))).slots.getD _ _ = _
        rw [Array.getD_eq_getD_getElem?, arrV_read _ _ (by omega)]
        rfl
      rw [e]
      cases hy : f (sp.toNatClampNeg + i) with
      | none => exact ⟨rfl, trivial⟩
      | some y =>
        obtain ⟨cellV, g1, g2, ⟨kC, hkC⟩, hasg⟩ := hel i hi y hy
        obtain ⟨kA, comp, r1, r2, r3, -⟩ := hK1.2
        cases hk1.symm.trans r1
        cases hkk1.symm.trans r2
        obtain ⟨kE, hkE, -⟩ := Vm.findClass_spec r3
        obtain ⟨kC', hkC', -⟩ := hal.2.2 _ _ hkC
        obtain ⟨kE', hkE', -⟩ := hal.2.2 _ _ hkE
        refine ⟨rfl, cellV, (show T.heap[y]? = some cellV by rw [hT]; exact g1), (fun q h => by rw [h] at g2; cases g2), ⟨kC', hkC'⟩, ?_, ?_⟩
        · exact ⟨kE', hkE'⟩
        · show vm₁.assignable _ _ = true
          rw [hal.assignable]
          exact hasg _ r3)
    (g := F0 m pc ls (.int n :: .int dp :: .ref a :: .int sp :: .ref a0 :: rest)) rfl (by rw [hml]) (rest := rest) rfl (by rw [hb]; exact hdg) hframes (by show 2 * 0 + _ + _ ≤ _; omega)
  have e0 : copied cs (arrV c1 n1 (fun j => va_rf (g j))) sp dp n = copied (arrV c0 n0 (fun j => va_rf (f j))) (arrV c1 n1 (fun j => va_rf (g j))) sp dp n := by
    unfold copied Cell.stretch
    rw [hsl]
  have e1 : copied (arrV c0 n0 (fun j => va_rf (f j))) (arrV c1 n1 (fun j => va_rf (g j))) sp dp n = arrV c1 n1 (fun j => va_rf (va_cpy f g sp.toNatClampNeg dp.toNatClampNeg n.toNatClampNeg j)) := va_copied (fun z => va_rf z) c0 c1 f g h4
  rw [e0, e1] at X' step
  have hl : a < H.size := (Array.getElem?_eq_some_iff.mp hc1).1
  have hheap : ((T.setVm vm').setCell a (arrV c1 n1 (fun j => va_rf (va_cpy f g sp.toNatClampNeg dp.toNatClampNeg n.toNatClampNeg j)))).heap = H.setIfInBounds a (arrV c1 n1 (fun j => va_rf (va_cpy f g sp.toNatClampNeg dp.toNatClampNeg n.toNatClampNeg j))) := by rw [← hT]; rfl
  obtain ⟨t, a1, b1⟩ := kk _ _ (show (H.setIfInBounds a _)[a]? = some _ by simp [Array.getElem?_setIfInBounds, hl]) (by simp) (fun q hq => by simp [Array.getElem?_setIfInBounds, Ne.symm hq]) (fun q hq => by
      obtain ⟨z, -, hz⟩ := List.mem_map.mp hq
      rw [← hz]) _ hheap X'
  exact ⟨t, step t a1, b1⟩
end
section
variable {g : qG} {l : Launch} {M : qM} {ac as' pc : Nat} {ls : List (Option qV)} {st : List qV} {σ : qS} {Post : qS → qRs → Prop}
theorem q_el_rf {j r i : Nat} (hj : 3 ≤ j) : q_el σ j r i = va_rf (q_rc (gR σ r i)) := by
  unfold q_el
  rw [if_neg (by omega), if_neg (by omega)]; rfl
/-- the row behind a copy -/
def q_cpy (f h : Int → Nat) (sp dp n : Int) : Int → Nat := fun i => if dp ≤ i ∧ i < dp + n then f (sp + (i - dp)) else h i
theorem wp_acopy {idx r0 r1 : Nat} {sp dp n : Int} (hd : decode M.2.1 pc = .ok (.invokestatic idx, 3)) (hw : Cond.methodLink M.1.cls idx arraycopyName ∈ lw_tbl) (hA0 : q_isA σ 4 r0) (hK1 : gK σ r1 = 24) (h1 : 0 ≤ sp) (h2 : 0 ≤ dp) (h3 : 0 ≤ n) (h4 : sp + n ≤ gN σ r0) (h5 : dp + n ≤ gN σ r1)
    (hel : ∀ i : Int, 0 ≤ i → i < n → q_elok σ 4 (gR σ r0 (sp + i))) (hst : (st.map q_v |>.map fun v => v.category).sum ≤ 8) (hR1 : 1 ≤ M.2.2.2.2.1.frames ∧ 200 ≤ M.2.2.2.2.1.locals)
    (kk : qW g l M ac as' (pc + 3) ls st (sRow σ r1 (q_cpy (gR σ r0) (gR σ r1) sp dp n)) Post) : qW g l M ac as' pc ls (vi n :: vi dp :: vr r1 :: vi sp :: vr r0 :: st) σ Post := by
  intro p e s m args below meth c H locs cells slots Ls C hR hS hc hs hL
  have hSF := C.2.2.2.2.2.2.2.2.2.1
  obtain ⟨-, -, -, -, -, ed0, hat0, -⟩ := id hR
  obtain ⟨b1, b2, b3, csel, b4, bcl, bvs, bvu, bsl⟩ := q_arr hR hA0
  obtain ⟨c1, c2, c3, c4⟩ := (hat0 r1).2.1 4 (by omega) hK1
  obtain ⟨a, rfl⟩ : ∃ a, r1 = a + 1 := ⟨r1 - 1, by omega⟩
  obtain ⟨a0, rfl⟩ : ∃ a, r0 = a + 1 := ⟨r0 - 1, by omega⟩
  have f0 : (fun i => q_el σ 4 (a0 + 1) i) = fun i : Nat => va_rf (q_rc (gR σ (a0 + 1) i)) := funext fun i => q_el_rf (by omega)
  have f1 : (fun i => q_el σ 4 (a + 1) i) = fun i : Nat => va_rf (q_rc (gR σ (a + 1) i)) := funext fun i => q_el_rf (by omega)
  rw [f0] at bsl
  rw [f1] at c4
  have nn : ∀ z : Int, 0 ≤ z → z < 2147483648 → ¬ Int32.ofInt z < 0 := fun z h h9 h8 => by
    have := (q_ltI (a := z) (b := 0) (by unfold qR; omega) q_0R).mp h8
    omega
  have es := q_cl h1 (by omega)
  have ed := q_cl h2 (by omega)
  have en := q_cl h3 (by omega)
  refine q_copyW (f := fun i => q_rc (gR σ (a0 + 1) i)) (g := fun i => q_rc (gR σ (a + 1) i)) C.1 C.2.1 (by rw [C.2.2.1, hL.1]) C.2.2.2.2.1 (q_word hSF hw rfl _) (q_word hSF (by decide +kernel) rfl _) (q_word hSF (by decide +kernel) rfl _) (q_word hSF (by decide +kernel) rfl _) b4 bcl bvs bvu bsl c4 (q_arrTy hSF (j := 4) (by omega)).1 (q_arrTy hSF (j := 4) (by omega)) (nn sp h1 (by omega)) (nn dp h2 (by omega)) (nn n h3 (by omega)) (by rw [es, en]; omega) (by rw [ed, en]; omega) (fun i hi y hy => ?_) hR1.1 ?_ hd (fun H1 L e1 e2 e3 e4 => ?_)
  · rw [en] at hi
    rw [es] at hy
    have h9 := hel i (by omega) (by omega)
    have e9 : (sp + (i : Int)) = ((sp.toNat + i : Nat) : Int) := by omega
    rw [e9] at h9
    rcases h9 with h9 | ⟨h9, -⟩ | ⟨-, h8, h9⟩
    · rw [h9] at hy; cases hy
    · omega
    · obtain ⟨a', ha', hany⟩ := q_any hSF hR h8 h9
      rw [ha'] at hy
      cases hy
      exact hany
  · have : nativeFrameWords "java/lang/System" "arraycopy" 5 + 11 ≤ 192 := by decide +kernel
    omega
  · have hS' : va_S (q_An g) s.heap H1 (locs ++ L) := by
      refine ⟨by rw [e2]; exact hS.1, fun q g1 g2 => ?_, fun q hq => ?_⟩
      · rw [e3 q (fun z => g2 (by rw [z]; show g.2.1 ≤ a; omega))]
        exact hS.2.1 q g1 g2
      · rcases List.mem_append.mp hq with h | h
        · exact hS.2.2 q h
        · rw [e4 q h]; show g.2.1 ≤ a; omega
    refine kk p e s m args below meth c H1 _ cells slots Ls C ?_ hS' hc hs hL
    refine q_rep_put hR (r := a + 1) (by omega) c1 e2 e3 (fun x => rfl) (fun x => rfl) (fun x => rfl) (fun f x _ => rfl) (fun f x _ => rfl) (fun x i _ => rfl) (fun x i hx => ?_) (fun ed9 hed => ?_)
    · show (if x = a + 1 then _ else gR σ x) i = _
      rw [if_neg hx]
    · refine ⟨fun ci q hq hk => ?_, fun j' _ hk => ?_, fun j' _ hk => ?_, fun hk => ?_⟩
      · have hci : ci < 10 := (List.getElem?_eq_some_iff.mp hq).1
        have hk2 : gK σ (a + 1) = ci + 1 := hk
        omega
      · have hk2 : gK σ (a + 1) = 20 + j' := hk
        have ej : j' = 4 := by omega
        subst ej
        refine ⟨c1, c2, c3, ?_⟩
        show H1[a + 1 - 1]? = _
        rw [e1]
        congr 2
        funext i
        rw [q_el_rf (by omega), es, ed, en]
        have h9 : gR (sRow σ (a + 1) (q_cpy (gR σ (a0 + 1)) (gR σ (a + 1)) sp dp n)) (a + 1) = q_cpy (gR σ (a0 + 1)) (gR σ (a + 1)) sp dp n := if_pos rfl
        rw [h9]
        unfold q_cpy va_cpy
        by_cases hc9 : dp.toNat ≤ i ∧ i < dp.toNat + n.toNat
        · rw [if_pos hc9, if_pos (by omega)]
          have e9 : sp + ((i : Int) - dp) = ((sp.toNat + (i - dp.toNat) : Nat) : Int) := by omega
          rw [e9]
        · rw [if_neg hc9, if_neg (by omega)]
      · have hk2 : gK σ (a + 1) = 30 + j' := hk
        omega
      · have hk2 : gK σ (a + 1) = 50 := hk
        omega
end
