/-! rules: a field is written -/
theorem q_put_K (σ : qS) (f r : Nat) (v : qV) : gK (q_put σ f r v) = gK σ := by
  rcases v with z | r' | z <;> rfl
theorem q_put_L (σ : qS) (f r : Nat) (v : qV) : gL (q_put σ f r v) = gL σ := by
  rcases v with z | r' | z <;> rfl
theorem q_put_N (σ : qS) (f r : Nat) (v : qV) : gN (q_put σ f r v) = gN σ := by
  rcases v with z | r' | z <;> rfl
theorem q_put_A (σ : qS) (f r : Nat) (v : qV) : gA (q_put σ f r v) = gA σ := by
  rcases v with z | r' | z <;> rfl
theorem q_put_R (σ : qS) (f r : Nat) (v : qV) : gR (q_put σ f r v) = gR σ := by
  rcases v with z | r' | z <;> rfl
theorem q_put_I {σ : qS} {f r : Nat} {v : qV} {f' x : Nat} (h : ¬ (f' = f ∧ x = r)) : gI (q_put σ f r v) f' x = gI σ f' x := by
  rcases v with z | r' | z
  · show (if f' = f ∧ x = r then z else _) = _
    rw [if_neg h]; rfl
  · rfl
  · rfl
theorem q_put_P {σ : qS} {f r : Nat} {v : qV} {f' x : Nat} (h : ¬ (f' = f ∧ x = r)) : gP (q_put σ f r v) f' x = gP σ f' x := by
  rcases v with z | r' | z
  · rfl
  · show (if f' = f ∧ x = r then r' else _) = _
    rw [if_neg h]; rfl
  · rfl
theorem q_put_fv {σ : qS} {T : u_T} {ci k r kd : Nat} {v : qV} (hi : q_isR T k = decide (kd = 2)) (hv : q_okv kd v) : q_fv (q_put σ (40 * ci + k) r v) T ci k r = q_v v := by
  unfold q_fv
  rw [hi]
  rcases v with z | r' | z
  · have h2 : ¬ kd = 2 := by rcases hv with h | ⟨h, -⟩ <;> omega
    rw [if_neg (by simpa using h2)]
    show Value.int (Int32.ofInt (if _ then z else _)) = _
    rw [if_pos ⟨rfl, rfl⟩]; rfl
  · have h2 : kd = 2 := hv
    rw [if_pos (by simpa using h2)]
    show q_rf (if _ then r' else _) = _
    rw [if_pos ⟨rfl, rfl⟩]; rfl
  · exact absurd hv (fun x => x)
theorem q_at_put {g : qG} {ed : Nat → Nat} {σ : qS} {r : Nat} {H H' : Heap} {ci k kd : Nat} {q : vw_C} {v : qV} (h : q_at g ed σ r H) (hq : qCl[ci]? = some q) (hK : gK σ r = ci + 1) (hk : k < q.2.2) (hi : q_isR q.2.1 k = decide (kd = 2)) (hv : q_okv kd v)
    (hap : ∀ a b, a < q.2.2 → b < q.2.2 → a ≠ b → g.1.2 ci a ≠ g.1.2 ci b) {cell : Cell} (hc : H[r - 1]? = some cell) (hc' : H'[r - 1]? = some (cell.setSlot (g.1.2 ci k) (q_v v))) : q_at g ed (q_put σ (40 * ci + k) r v) r H' := by
  have hci : ci < 10 := (List.getElem?_eq_some_iff.mp hq).1
  obtain ⟨h1, -, -, -⟩ := h
  refine ⟨fun ci' q' hq' hk' => ?_, fun j _ hk' => ?_, fun j _ hk' => ?_, fun hk' => ?_⟩
  · rw [q_put_K] at hk'
    have e1 : ci' = ci := by omega
    subst e1
    have e2 : q' = q := Option.some.inj (hq'.symm.trans hq)
    subst e2
    obtain ⟨a, cell0, b1, b2, b3, b4⟩ := h1 ci' q' hq hK
    cases hc.symm.trans b1
    refine ⟨a, t_OB.to (V := updV (fun k => q_fv σ q'.2.1 ci' k r) k (q_v v)) ⟨_, hc', b2, b3, t_set b4 hap hk (q_v v)⟩ fun j _ => ?_⟩
    unfold updV
    by_cases hj : j = k
    · subst hj
      rw [if_pos rfl, q_put_fv hi hv]
    · rw [if_neg hj]
      unfold q_fv
      rw [q_put_I (by omega), q_put_P (by omega)]
  · rw [q_put_K] at hk'; omega
  · rw [q_put_K] at hk'; omega
  · rw [q_put_K] at hk'; omega
section
variable {g : qG} {l : Launch} {M : qM} {ac as' pc : Nat} {ls : List (Option qV)} {st : List qV} {σ : qS} {Post : qS → qRs → Prop}
theorem q_apart {U : State} {ci : Nat} {q : vw_C} (hSF : q_SF g U) (hq : qCl[ci]? = some q) : ∀ a b, a < q.2.2 → b < q.2.2 → a ≠ b → g.1.2 ci a ≠ g.1.2 ci b := by
  have hc1 := q_cls q (List.mem_of_getElem? hq)
  obtain ⟨ty, hty, -⟩ := hc1.2.1
  obtain ⟨hSl, -⟩ := hSF.2.1.1 ci _ hq
  intro x y hx hy hne
  obtain ⟨_, _, _, fa, hia, ea⟩ := hSl x hx
  obtain ⟨_, _, _, fb, hib, eb⟩ := hSl y hy
  rw [← ea, ← eb]
  have hts : ∀ w ∈ u_ws q.1 q.2.1 q.2.2, w.before #[] U = true := fun w hw => q_word hSF (hc1.1 w hw) (q_u_good hw) _
  refine u_apart (args := #[]) (u_lays hts (fun w hw => hw) hx) (u_lays hts (fun w hw => hw) hy) hia hib ?_
  rw [(State.fieldFound?_type hia (hty x hx)).1, (State.fieldFound?_type hib (hty y hy)).1]
  exact hc1.2.2 x hx y hy hne
theorem wp_put {idx ci k kd : Nat} {fin : Bool} {r : Nat} {v : qV} (hd : decode M.2.1 pc = .ok (.putfield idx, 3)) (hf : q_fs M.1.cls idx ci k kd fin) (hin : fin = true → M.1.name = "<init>") (hK : gK σ r = ci + 1) (hv : q_okv kd v)
    (kk : qW g l M ac as' (pc + 3) ls st (q_put σ (40 * ci + k) r v) Post) : qW g l M ac as' pc ls (v :: vr r :: st) σ Post := by
  intro p e s m args below meth c H locs cells slots Ls C hR hS hc hs hL
  obtain ⟨q, ref, ty, hq, hk, hi, hlink, hsame, hfin, hown, hty, hkd⟩ := hf
  obtain ⟨-, -, -, -, -, ed0, hat0, -⟩ := id hR
  obtain ⟨hz, cell, q1, q2, q3, q4⟩ := (hat0 r).1 ci q hq hK
  obtain ⟨a, rfl⟩ : ∃ a, r = a + 1 := ⟨r - 1, by omega⟩
  have hSF := C.2.2.2.2.2.2.2.2.2.1
  obtain ⟨hSl, hfc, kC, hkC, hkind⟩ := hSF.2.1.1 ci _ hq
  obtain ⟨cf, kf, fi, f, hif, hsl⟩ := hSl k hk
  have hc1 := q_cls q (List.mem_of_getElem? hq)
  have hts : ∀ w ∈ u_ws q.1 q.2.1 q.2.2, w.before args s = true := fun w hw => q_word hSF (hc1.1 w hw) (q_u_good hw) _
  have hst := (u_facts hfc hkC (u_lays hts (fun w hw => hw) hk) hif).1
  obtain ⟨hn, hfit⟩ := q_okv_ty hv hkd
  have hlay := hts _ (u_in_lay hk)
  have goal : ∀ H' : Heap, H'[a]? = some (cell.setSlot f.slot (q_v v)) → H'.size = H.size → (∀ q, q ≠ a → H'[q]? = H[q]?) → W p l e M.2.2.2.2.1 s m args below meth c H' (locs ++ [⟨a, f.slot⟩]) cells slots (vx_MQ below (qQ g Post) (qX g Post) args s M.2.2.2.2.1.cells M.2.2.2.2.1.slots (q_An g)) (F0 m (pc + 3) Ls (st.map q_v)) := by
    intro H' e1 e2 e3
    rw [hsl] at e1
    have hA : q_An g a := by show g.2.1 ≤ a; omega
    refine kk p e s m args below meth c H' _ cells slots Ls C ?_ (hS.put e2 e3 hA) hc hs hL
    exact q_rep_put hR (r := a + 1) (by omega) hz e2 e3 (fun x => by rw [q_put_K]) (fun x => by rw [q_put_L]) (fun x => by rw [q_put_N]) (fun f x hx => q_put_I (by omega)) (fun f x hx => q_put_P (by omega)) (fun x i _ => by rw [q_put_A]) (fun x i _ => by rw [q_put_R]) (fun ed hed => q_at_put hed hq hK hk hi hv (q_apart hSF hq) q1 e1)
  unfold u_lay at hlay
  cases fin with
  | false =>
    rw [if_neg (by rw [hfin]; decide)] at hlay
    exact W.putK C.1 C.2.1 (f := f) ⟨C.2.2.2.2.1, q_word hSF hlink rfl _, ⟨_, _, _, q_same hSF hsame _ hif⟩, hst⟩ (by rw [q2]; exact u_store hfc hkC hkind hlay hif hty hn hfit) q1 q3 (by rw [hsl]; exact k2_hasslot (q4 k hk)) rfl rfl hd goal
  | true =>
    rw [if_pos hfin] at hlay
    have hcf : m.cls = cf := by
      obtain ⟨_, _, c', _, _, _, -, -, hf', -, -, -, hown2, -⟩ := Cond.laysFinal_spec hlay
      have e1 : c' = cf := by have := hif.symm.trans hf'; simp at this; exact this.1.symm
      rw [hown rfl] at hown2
      rw [← e1]; exact Option.some.inj (C.2.2.2.2.1.symm.trans hown2)
    have hfit2 := u_fits (args := args) hfc hkC hkind (u_lays hts (fun w hw => hw) hk) hif hty hn hfit
    exact W.putFinK C.1 C.2.1 C.2.2.2.2.1 (q_word hSF hlink rfl _) (q_same hSF hsame _ hif) hst hcf (C.2.2.2.2.2.2.2.1.trans (hin rfl)) (by rw [q2]; exact hfit2) q1 q3 (by rw [hsl]; exact k2_hasslot (q4 k hk)) rfl rfl hd goal
end
