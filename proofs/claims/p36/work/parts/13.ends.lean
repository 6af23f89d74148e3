/-! rules: ends of a method, the comparison of longs, another heap that says as much -/
section
variable {g : qG} {l : Launch} {M : qM} {ac as' pc : Nat} {ls : List (Option qV)} {st : List qV} {σ : qS} {Post : qS → qRs → Prop}
theorem wp_ret_i {z : Int} {ty : FieldType} (hd : decode M.2.1 pc = .ok (.ireturn, 1)) (hr : M.2.2.2.1 = some ty) (hn : narrow ty (.int (Int32.ofInt z)) = .int (Int32.ofInt z)) (h : Post σ (.inl (some (vi z)))) : qW g l M ac as' pc ls [vi z] σ Post := by
  intro p e s m args below meth c H locs cells slots Ls C hR hS hc hs hL
  refine vx_ret (W.widen (by omega) (by omega) (W.zret (v := Int32.ofInt z) (ty := ty) C.1 C.2.1 (C.2.2.2.1.trans hr) hn (fun t ht hW => ⟨σ, some (vi z), rfl, h, by rw [ht]; exact hR, hS.F ht⟩) hS.2.2 hd C.2.2.2.2.2.1))
theorem wp_ret_v (hd : decode M.2.1 pc = .ok (.return_, 1)) (hr : M.2.2.2.1 = none) (h : Post σ (.inl none)) : qW g l M ac as' pc ls [] σ Post := by
  intro p e s m args below meth c H locs cells slots Ls C hR hS hc hs hL
  refine vx_ret (W.widen (by omega) (by omega) (W.vret C.1 C.2.1 (C.2.2.2.1.trans hr) (fun t ht hW => ⟨σ, none, rfl, h, by rw [ht]; exact hR, hS.F ht⟩) hS.2.2 hd C.2.2.2.2.2.1))
theorem wp_ret_a {r : Nat} {rt : FieldType} (hd : decode M.2.1 pc = .ok (.areturn, 1)) (hr : M.2.2.2.1 = some rt) (hrt : (∃ n, rt = .object n) ∨ ∃ t, rt = .array t) (h : Post σ (.inl (some (vr r)))) : qW g l M ac as' pc ls [vr r] σ Post := by
  intro p e s m args below meth c H locs cells slots Ls C hR hS hc hs hL
  refine vx_ret (W.widen (by omega) (by omega) (W.aret (v := q_rf r) (rt := rt) C.1 C.2.1 (C.2.2.2.1.trans hr) hrt ?_ (fun t ht hW => ⟨σ, some (vr r), rfl, h, by rw [ht]; exact hR, hS.F ht⟩) hS.2.2 hd C.2.2.2.2.2.1))
  cases r with
  | zero => exact Or.inl rfl
  | succ a => exact Or.inr ⟨a, rfl⟩
theorem wp_mono {Post' : qS → qRs → Prop} (hP : ∀ σ' r, Post σ' r → Post' σ' r) (k : qW g l M ac as' pc ls st σ Post) : qW g l M ac as' pc ls st σ Post' := by
  intro p e s m args below meth c H locs cells slots Ls C hR hS hc hs hL T hT X
  obtain ⟨t, a1, o, b1, b2, b3⟩ := k p e s m args below meth c H locs cells slots Ls C hR hS hc hs hL T hT X
  refine ⟨t, a1, o, b1, b2, ?_⟩
  rcases b3 with ⟨⟨σ', v, q1, q2, q3⟩, q4⟩ | ⟨q, q1, E, ce, L, ⟨σ', n, q2, q3, q4⟩, q5⟩
  · exact Or.inl ⟨⟨σ', v, q1, hP _ _ q2, q3⟩, q4⟩
  · exact Or.inr ⟨q, q1, E, ce, L, ⟨σ', n, q2, hP _ _ q3, q4⟩, q5⟩
theorem wp_rep {σ' : qS} (h : ∀ H, qRep g σ H → qRep g σ' H) (k : qW g l M ac as' pc ls st σ' Post) : qW g l M ac as' pc ls st σ Post := by
  intro p e s m args below meth c H locs cells slots Ls C hR hS hc hs hL
  exact k p e s m args below meth c H locs cells slots Ls C (h H hR) hS hc hs hL
theorem wp_less {ac2 as2 : Nat} (h1 : ac2 ≤ ac) (h2 : as2 ≤ as') (k : qW g l M ac2 as2 pc ls st σ Post) : qW g l M ac as' pc ls st σ Post := by
  intro p e s m args below meth c H locs cells slots Ls C hR hS hc hs hL
  exact k p e s m args below meth c H locs cells slots Ls C hR hS (by omega) (by omega) hL
theorem wp_lcmp {a b : Int} (hd : decode M.2.1 pc = .ok (.lcmp, 1)) (ha : qR a) (hb : qR b) (kk : qW g l M ac as' (pc + 1) ls (vi (if b < a then 1 else if a = b then 0 else -1) :: st) σ Post) : qW g l M ac as' pc ls (vl b :: vl a :: st) σ Post := by
  intro p e s m args below meth c H locs cells slots Ls C hR hS hc hs hL
  refine W.lcmp C.1 C.2.1 hd ?_
  have k2 := kk p e s m args below meth c H locs cells slots Ls C hR hS hc hs hL
  have ea : (Int64.ofInt a).toInt = a := Int64.toInt_ofInt_of_le (by have := ha.1; omega) (by have := ha.2; omega)
  have eb : (Int64.ofInt b).toInt = b := Int64.toInt_ofInt_of_le (by have := hb.1; omega) (by have := hb.2; omega)
  have e1 : lg_cmp (Int64.ofInt a) (Int64.ofInt b) = Int32.ofInt (if b < a then 1 else if a = b then 0 else -1) := by
    have h1 : (Int64.ofInt b < Int64.ofInt a) ↔ b < a := by rw [Int64.lt_iff_toInt_lt, ea, eb]
    have h2 : (Int64.ofInt a = Int64.ofInt b) ↔ a = b := by
      constructor
      · intro h
        have := congrArg Int64.toInt h
        rwa [ea, eb] at this
      · intro h; rw [h]
    unfold lg_cmp
    show (if Int64.ofInt b < Int64.ofInt a then (1 : Int32) else if Int64.ofInt a = Int64.ofInt b then 0 else -1) = _
    by_cases c1 : b < a
    · rw [if_pos (h1.mpr c1), if_pos c1]; rfl
    · rw [if_neg (fun h => c1 (h1.mp h)), if_neg c1]
      by_cases c2 : a = b
      · rw [if_pos (h2.mpr c2), if_pos c2]; rfl
      · rw [if_neg (fun h => c2 (h2.mp h)), if_neg c2]; rfl
  rw [e1]
  exact k2
end
