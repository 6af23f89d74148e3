/-! shapes of contracts, and small rules that the printed walks use -/
/-- nothing changes, the answer is v -/
def qPi (σ : qS) (v : Int) : qS → qRs → Prop := fun σ' r => σ' = σ ∧ r = .inl (some (vi v))
def qPr (σ : qS) (v : Nat) : qS → qRs → Prop := fun σ' r => σ' = σ ∧ r = .inl (some (vr v))
/-- an answer with Mid, or an exception with X -/
def qTi (Mid : qS → Int → Prop) (X : qS → Nat → Prop) : qS → qRs → Prop := fun σ' r => (∃ v, r = .inl (some (vi v)) ∧ Mid σ' v) ∨ ∃ n, r = .inr n ∧ X σ' n
def qTr (Mid : qS → Nat → Prop) (X : qS → Nat → Prop) : qS → qRs → Prop := fun σ' r => (∃ v, r = .inl (some (vr v)) ∧ Mid σ' v) ∨ ∃ n, r = .inr n ∧ X σ' n
def qTv (Mid : qS → Prop) (X : qS → Nat → Prop) : qS → qRs → Prop := fun σ' r => (r = .inl none ∧ Mid σ') ∨ ∃ n, r = .inr n ∧ X σ' n
def qTi0 (Mid : qS → Int → Prop) : qS → qRs → Prop := fun σ' r => ∃ v, r = .inl (some (vi v)) ∧ Mid σ' v
def qTr0 (Mid : qS → Nat → Prop) : qS → qRs → Prop := fun σ' r => ∃ v, r = .inl (some (vr v)) ∧ Mid σ' v
def qTv0 (Mid : qS → Prop) : qS → qRs → Prop := fun σ' r => r = .inl none ∧ Mid σ'
section
variable {g : qG} {l : Launch} {M : qM} {ac as' pc : Nat} {ls : List (Option qV)} {st : List qV} {σ : qS} {Post : qS → qRs → Prop}
theorem q_kPi {v : Int} (k : qW g l M ac as' pc ls (vi v :: st) σ Post) : ∀ σ' v', qPi σ v σ' (.inl v') → qW g l M ac as' pc ls (v'.toList ++ st) σ' Post := by
  intro σ' v' h
  obtain ⟨h1, h2⟩ := h
  cases h2
  rw [h1]
  exact k
theorem q_kPr {v : Nat} (k : qW g l M ac as' pc ls (vr v :: st) σ Post) : ∀ σ' v', qPr σ v σ' (.inl v') → qW g l M ac as' pc ls (v'.toList ++ st) σ' Post := by
  intro σ' v' h
  obtain ⟨h1, h2⟩ := h
  cases h2
  rw [h1]
  exact k
theorem q_kPi0 {v : Int} {Q : qS → Nat → Prop} : ∀ σ' n, qPi σ v σ' (.inr n) → Q σ' n := fun _ _ h => nomatch h.2
theorem q_kPr0 {v : Nat} {Q : qS → Nat → Prop} : ∀ σ' n, qPr σ v σ' (.inr n) → Q σ' n := fun _ _ h => nomatch h.2
theorem q_kTi {Mid : qS → Int → Prop} {X : qS → Nat → Prop} (k : ∀ σ' v, Mid σ' v → qW g l M ac as' pc ls (vi v :: st) σ' Post) : ∀ σ' v', qTi Mid X σ' (.inl v') → qW g l M ac as' pc ls (v'.toList ++ st) σ' Post := by
  intro σ' v' h
  rcases h with ⟨v, h1, h2⟩ | ⟨n, h1, -⟩
  · cases h1; exact k σ' v h2
  · cases h1
theorem q_kTr {Mid : qS → Nat → Prop} {X : qS → Nat → Prop} (k : ∀ σ' v, Mid σ' v → qW g l M ac as' pc ls (vr v :: st) σ' Post) : ∀ σ' v', qTr Mid X σ' (.inl v') → qW g l M ac as' pc ls (v'.toList ++ st) σ' Post := by
  intro σ' v' h
  rcases h with ⟨v, h1, h2⟩ | ⟨n, h1, -⟩
  · cases h1; exact k σ' v h2
  · cases h1
theorem q_kTv {Mid : qS → Prop} {X : qS → Nat → Prop} (k : ∀ σ', Mid σ' → qW g l M ac as' pc ls st σ' Post) : ∀ σ' v', qTv Mid X σ' (.inl v') → qW g l M ac as' pc ls (v'.toList ++ st) σ' Post := by
  intro σ' v' h
  rcases h with ⟨h1, h2⟩ | ⟨n, h1, -⟩
  · cases h1; exact k σ' h2
  · cases h1
theorem q_kTi0 {Mid : qS → Int → Prop} (k : ∀ σ' v, Mid σ' v → qW g l M ac as' pc ls (vi v :: st) σ' Post) : ∀ σ' v', qTi0 Mid σ' (.inl v') → qW g l M ac as' pc ls (v'.toList ++ st) σ' Post := by
  intro σ' v' h
  obtain ⟨v, h1, h2⟩ := h
  cases h1; exact k σ' v h2
theorem q_kTr0 {Mid : qS → Nat → Prop} (k : ∀ σ' v, Mid σ' v → qW g l M ac as' pc ls (vr v :: st) σ' Post) : ∀ σ' v', qTr0 Mid σ' (.inl v') → qW g l M ac as' pc ls (v'.toList ++ st) σ' Post := by
  intro σ' v' h
  obtain ⟨v, h1, h2⟩ := h
  cases h1; exact k σ' v h2
theorem q_kTv0 {Mid : qS → Prop} (k : ∀ σ', Mid σ' → qW g l M ac as' pc ls st σ' Post) : ∀ σ' v', qTv0 Mid σ' (.inl v') → qW g l M ac as' pc ls (v'.toList ++ st) σ' Post := by
  intro σ' v' h
  obtain ⟨h1, h2⟩ := h
  cases h1; exact k σ' h2
theorem q_kTi00 {Mid : qS → Int → Prop} {Q : qS → Nat → Prop} : ∀ σ' n, qTi0 Mid σ' (.inr n) → Q σ' n := fun _ _ h => nomatch h
theorem q_kTr00 {Mid : qS → Nat → Prop} {Q : qS → Nat → Prop} : ∀ σ' n, qTr0 Mid σ' (.inr n) → Q σ' n := fun _ _ h => nomatch h
theorem q_kTv00 {Mid : qS → Prop} {Q : qS → Nat → Prop} : ∀ σ' n, qTv0 Mid σ' (.inr n) → Q σ' n := fun _ _ h => nomatch h
theorem q_xi {Mid : qS → Int → Prop} {X : qS → Nat → Prop} {σ' : qS} {n : Nat} (h : qTi Mid X σ' (.inr n)) : X σ' n := by
  rcases h with ⟨v, h1, -⟩ | ⟨k, h1, h2⟩
  · cases h1
  · cases h1; exact h2
theorem q_xr {Mid : qS → Nat → Prop} {X : qS → Nat → Prop} {σ' : qS} {n : Nat} (h : qTr Mid X σ' (.inr n)) : X σ' n := by
  rcases h with ⟨v, h1, -⟩ | ⟨k, h1, h2⟩
  · cases h1
  · cases h1; exact h2
theorem q_xv {Mid : qS → Prop} {X : qS → Nat → Prop} {σ' : qS} {n : Nat} (h : qTv Mid X σ' (.inr n)) : X σ' n := by
  rcases h with ⟨h1, -⟩ | ⟨k, h1, h2⟩
  · cases h1
  · cases h1; exact h2
theorem q_kXi {K : Nat → Nat → Prop} {Mid : qS → Int → Prop} {X : qS → Nat → Prop} {R : qS → Nat → Prop} (hh : M.2.2.2.2.2 = []) (k : ∀ σ' n, X σ' n → Post σ' (.inr n)) : ∀ σ' n, qTi Mid X σ' (.inr n) → (M.2.2.2.2.2 = [] ∧ Post σ' (.inr n)) ∨ R σ' n := fun σ' n h => Or.inl ⟨hh, k σ' n (q_xi h)⟩
theorem q_kXr {Mid : qS → Nat → Prop} {X : qS → Nat → Prop} {R : qS → Nat → Prop} (hh : M.2.2.2.2.2 = []) (k : ∀ σ' n, X σ' n → Post σ' (.inr n)) : ∀ σ' n, qTr Mid X σ' (.inr n) → (M.2.2.2.2.2 = [] ∧ Post σ' (.inr n)) ∨ R σ' n := fun σ' n h => Or.inl ⟨hh, k σ' n (q_xr h)⟩
theorem q_kXv {Mid : qS → Prop} {X : qS → Nat → Prop} {R : qS → Nat → Prop} (hh : M.2.2.2.2.2 = []) (k : ∀ σ' n, X σ' n → Post σ' (.inr n)) : ∀ σ' n, qTv Mid X σ' (.inr n) → (M.2.2.2.2.2 = [] ∧ Post σ' (.inr n)) ∨ R σ' n := fun σ' n h => Or.inl ⟨hh, k σ' n (q_xv h)⟩
theorem wp_st {ls2 ls' : List (Option qV)} {Q1 Q2 : Prop} (h : ls2 = ls') (f : qW g l M ac as' pc ls2 st σ Post → Q2) (k : qW g l M ac as' pc ls' st σ Post) : Q2 := f (by rw [h]; exact k)
theorem wp_nmI {z : Int} (k : ∀ x : Int, x = z → qW g l M ac as' pc ls (vi x :: st) σ Post) : qW g l M ac as' pc ls (vi z :: st) σ Post := k z rfl
theorem wp_nmR {z : Nat} (k : ∀ x : Nat, x = z → qW g l M ac as' pc ls (vr x :: st) σ Post) : qW g l M ac as' pc ls (vr z :: st) σ Post := k z rfl
theorem wp_nmT {G : Prop} (z : Int) (k : ∀ x : Int, x = z → G) : G := k z rfl
theorem wp_nmS (k : ∀ σ' : qS, σ' = σ → qW g l M ac as' pc ls st σ' Post) : qW g l M ac as' pc ls st σ Post := k σ rfl
theorem wp_iinc' {k : Nat} {n z z' : Int} {ls' : List (Option qV)} (hd : decode M.2.1 pc = .ok (.iinc k n, 3)) (hi : k < M.2.2.1) (h : ls[k]? = some (some (vi z))) (hz : z' = z + n) (hl : ls.set k (some (vi z')) = ls') (kk : qW g l M ac as' (pc + 3) ls' st σ Post) : qW g l M ac as' pc ls st σ Post := by
  subst hz; subst hl
  exact wp_iinc hd hi h kk
/-- fewer locals known -/
def q_lsub : List (Option qV) → List (Option qV) → Prop
  | [], [] => True
  | none :: a, _ :: b => q_lsub a b
  | some v :: a, some w :: b => v = w ∧ q_lsub a b
  | _, _ => False
theorem q_lsub_at : ∀ {a b : List (Option qV)}, q_lsub a b → a.length = b.length ∧ ∀ (i : Nat) (v : qV), a[i]? = some (some v) → b[i]? = some (some v)
  | [], [], _ => ⟨rfl, fun i v h => by simp at h⟩
  | none :: a, w :: b, h => by
    obtain ⟨h1, h2⟩ := q_lsub_at (a := a) (b := b) h
    refine ⟨by simp [h1], fun i v hv => ?_⟩
    cases i with
    | zero => simp at hv
    | succ i => simpa using h2 i v (by simpa using hv)
  | some v :: a, some w :: b, h => by
    obtain ⟨h1, h2⟩ := q_lsub_at (a := a) (b := b) h.2
    refine ⟨by simp [h1], fun i u hu => ?_⟩
    cases i with
    | zero => simp at hu; simp [← hu, h.1]
    | succ i => simpa using h2 i u (by simpa using hu)
  | [], _ :: _, h => by exact absurd h (fun x => by cases ‹Option qV› <;> exact x)
  | none :: _, [], h => absurd h (fun x => x)
  | some _ :: _, [], h => absurd h (fun x => x)
  | some _ :: _, none :: _, h => absurd h (fun x => x)
theorem wp_lsub {ls' : List (Option qV)} (h : q_lsub ls' ls) (k : qW g l M ac as' pc ls' st σ Post) : qW g l M ac as' pc ls st σ Post := by
  intro p e s m args below meth c H locs cells slots Ls C hR hS hcc hss hL
  obtain ⟨h1, h2⟩ := q_lsub_at h
  exact k p e s m args below meth c H locs cells slots Ls C hR hS hcc hss ⟨hL.1, hL.2.1, h1.trans hL.2.2.1, fun i v hv => hL.2.2.2 i v (h2 i v hv)⟩
theorem wp_ret_z {z : Int} (hd : decode M.2.1 pc = .ok (.ireturn, 1)) (hr : M.2.2.2.1 = some .boolean) (hz : z = 0 ∨ z = 1) (h : Post σ (.inl (some (vi z)))) : qW g l M ac as' pc ls [vi z] σ Post :=
  wp_ret_i hd hr (by rcases hz with rfl | rfl <;> decide +kernel) h
theorem q_memI {f a : Nat} {v : Int} : vi v = if false = true then vr (gP (sI σ f a v) f a) else vi (gI (sI σ f a v) f a) := by
  show vi v = vi (if f = f ∧ a = a then v else _)
  rw [if_pos ⟨rfl, rfl⟩]
theorem q_memP {f a v : Nat} : vr v = if true = true then vr (gP (sP σ f a v) f a) else vi (gI (sP σ f a v) f a) := by
  show vr v = vr (if f = f ∧ a = a then v else _)
  rw [if_pos ⟨rfl, rfl⟩]
end
/-- what a copy of references asks -/
def q_cpok (σ : qS) (r0 : Nat) (sp : Int) (r1 : Nat) (dp n : Int) : Prop := 0 ≤ sp ∧ 0 ≤ dp ∧ 0 ≤ n ∧ sp + n ≤ gN σ r0 ∧ dp + n ≤ gN σ r1 ∧ ∀ i : Int, 0 ≤ i → i < n → q_elok σ 4 (gR σ r0 (sp + i))
