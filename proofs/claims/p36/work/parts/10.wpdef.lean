/-! THE ABSTRACT MACHINE'S WORLD: ints as integers, references as numbers (0 null, a+1 the cell a), a heap of fields, arrays and lists. -/
abbrev qV : Type := Int ⊕ (Nat ⊕ Int)
abbrev vi (z : Int) : qV := .inl z
abbrev vr (r : Nat) : qV := .inr (.inl r)
abbrev vl (z : Int) : qV := .inr (.inr z)
def q_rc : Nat → Option Nat
  | 0 => none
  | a + 1 => some a
def q_rf (r : Nat) : Value := va_rf (q_rc r)
def q_v : qV → Value
  | .inl z => .int (Int32.ofInt z)
  | .inr (.inl r) => q_rf r
  | .inr (.inr z) => .long (Int64.ofInt z)
def q_cat1 : qV → Prop
  | .inr (.inr _) => False
  | _ => True
/-- the heap: int fields, reference fields, int arrays, reference arrays, lists, kinds, lengths -/
abbrev qS : Type := (Nat → Nat → Int) × (Nat → Nat → Nat) × (Nat → Int → Int) × (Nat → Int → Nat) × (Nat → List Nat) × (Nat → Nat) × (Nat → Int)
def gI (σ : qS) : Nat → Nat → Int := σ.1
def gP (σ : qS) : Nat → Nat → Nat := σ.2.1
def gA (σ : qS) : Nat → Int → Int := σ.2.2.1
def gR (σ : qS) : Nat → Int → Nat := σ.2.2.2.1
def gL (σ : qS) : Nat → List Nat := σ.2.2.2.2.1
def gK (σ : qS) : Nat → Nat := σ.2.2.2.2.2.1
def gN (σ : qS) : Nat → Int := σ.2.2.2.2.2.2
def q_u2 {α β γ : Type} [DecidableEq α] [DecidableEq β] (f : α → β → γ) (a : α) (b : β) (v : γ) : α → β → γ := fun a' b' => if a' = a ∧ b' = b then v else f a' b'
def q_u1 {α γ : Type} [DecidableEq α] (f : α → γ) (a : α) (v : γ) : α → γ := fun a' => if a' = a then v else f a'
def sI (σ : qS) (f a : Nat) (v : Int) : qS := (q_u2 σ.1 f a v, σ.2)
def sP (σ : qS) (f a : Nat) (v : Nat) : qS := (σ.1, q_u2 σ.2.1 f a v, σ.2.2)
def sA (σ : qS) (a : Nat) (i : Int) (v : Int) : qS := (σ.1, σ.2.1, q_u2 σ.2.2.1 a i v, σ.2.2.2)
def sR (σ : qS) (a : Nat) (i : Int) (v : Nat) : qS := (σ.1, σ.2.1, σ.2.2.1, q_u2 σ.2.2.2.1 a i v, σ.2.2.2.2)
def sL (σ : qS) (a : Nat) (v : List Nat) : qS := (σ.1, σ.2.1, σ.2.2.1, σ.2.2.2.1, q_u1 σ.2.2.2.2.1 a v, σ.2.2.2.2.2)
def sK (σ : qS) (a : Nat) (v : Nat) : qS := (σ.1, σ.2.1, σ.2.2.1, σ.2.2.2.1, σ.2.2.2.2.1, q_u1 σ.2.2.2.2.2.1 a v, σ.2.2.2.2.2.2)
def sN (σ : qS) (a : Nat) (v : Int) : qS := (σ.1, σ.2.1, σ.2.2.1, σ.2.2.2.1, σ.2.2.2.2.1, σ.2.2.2.2.2.1, q_u1 σ.2.2.2.2.2.2 a v)
/-- a new object of class number c: all its fields 0 or null -/
def nO (σ : qS) (a c : Nat) : qS := (fun f b => if b = a then 0 else σ.1 f b, fun f b => if b = a then 0 else σ.2.1 f b, σ.2.2.1, σ.2.2.2.1, σ.2.2.2.2.1, q_u1 σ.2.2.2.2.2.1 a c, σ.2.2.2.2.2.2)
/-- a new array of kind c and length n -/
def nA (σ : qS) (a c : Nat) (n : Int) : qS := (σ.1, σ.2.1, fun b i => if b = a then 0 else σ.2.2.1 b i, fun b i => if b = a then 0 else σ.2.2.2.1 b i, σ.2.2.2.2.1, q_u1 σ.2.2.2.2.2.1 a c, q_u1 σ.2.2.2.2.2.2 a n)
/-- a result: a value or none; or an exception's number -/
abbrev qRs : Type := Option qV ⊕ Nat
def q_ex : Nat → String
  | 0 => "java/lang/IllegalStateException"
  | 1 => "java/lang/IllegalArgumentException"
  | _ => "java/lang/IndexOutOfBoundsException"
-- the classes by their numbers, and which fields are references
def qCl : List vw_C := [(RX0, TX0, 7), (RX1, TX1, 4), (RX2, TX2, 3), (RX3, TX3, 2), (RX4, TX4, 6), (RX5, TX5, 12), (RX6, TX6, 3), (RX7, TX7, 5), (RX7, TX7, 5), (RJx4a65c, TJx4a65c, 3)]
def q_isR (T : u_T) (k : Nat) : Bool := (T k).2.2.1.startsWith "L" || (T k).2.2.1.startsWith "["
/-- a method: name, code, locals, what it returns, room, handlers -/
abbrev qM : Type := MethodName × ByteArray × Nat × Option FieldType × Room × List (Nat × Nat × Nat × Nat)
/-- the launch's own: class numbers and slots; from which cell on all is ours; the array classes; the empty list's array -/
abbrev qG : Type := va_G × Nat × (Nat → ClassId) × Nat
/-- what the field k of class ci holds, at the object r -/
def q_fv (σ : qS) (T : u_T) (ci k r : Nat) : Value := if q_isR T k then q_rf (gP σ (40 * ci + k) r) else .int (Int32.ofInt (gI σ (40 * ci + k) r))
/-- what an array of kind j holds -/
def q_el (σ : qS) (j r i : Nat) : Value := if j ≤ 1 then .int (Int32.ofInt (gA σ r i)) else if j = 2 then .long (Int64.ofInt (gA σ r i)) else q_rf (gR σ r i)
/-- a list's cell and its array's -/
def q_lst (g : qG) (σ : qS) (ed r : Nat) (H : Heap) : Prop := ∃ (mo : Int32) (n : Nat) (f : Nat → Nat), t_OB (r - 1) (g.1.1 9) 3 (g.1.2 9) H (vp_V [.int mo, .ref ed, .int (Int32.ofInt (gL σ r).length)]) ∧
  (gL σ r).length ≤ n ∧ n ≤ 1000000 ∧ ((ed = g.2.2.2 ∧ n = 0) ∨ (1 ≤ n ∧ g.2.1 ≤ ed ∧ H[ed]? = some (arrV (g.2.2.1 4) n (fun i => q_rf (f i))))) ∧
  (∀ i, i < (gL σ r).length → (gL σ r)[i]? = some (f i)) ∧ ∀ i, i < n → f i = 0 ∨ (1 ≤ gK σ (f i) ∧ gK σ (f i) ≤ 9)
/-- an array that is only read: its cell may be of the machine's own making -/
def q_roC (g : qG) (j n : Nat) (f : Nat → Value) (oc : Option Cell) : Prop := ∃ cell : Cell, oc = some cell ∧ cell.cls = g.2.2.1 j ∧ (∀ k, cell.vm ≠ .statics k) ∧ cell.vm ≠ .unknown ∧ cell.slots = (arrV (g.2.2.1 j) n f).slots
def q_at (g : qG) (ed : Nat → Nat) (σ : qS) (r : Nat) (H : Heap) : Prop :=
  (∀ ci q, qCl[ci]? = some q → gK σ r = ci + 1 → g.2.1 < r ∧ t_OB (r - 1) (g.1.1 ci) q.2.2 (g.1.2 ci) H (fun k => q_fv σ q.2.1 ci k r)) ∧
  (∀ j, j < 5 → gK σ r = 20 + j → g.2.1 < r ∧ 0 ≤ gN σ r ∧ gN σ r ≤ 1000000 ∧ H[r - 1]? = some (arrV (g.2.2.1 j) (gN σ r).toNat (fun i => q_el σ j r i))) ∧
  (∀ j, j < 5 → gK σ r = 30 + j → 0 < r ∧ r ≤ g.2.1 ∧ 0 ≤ gN σ r ∧ gN σ r ≤ 1000000 ∧ q_roC g j (gN σ r).toNat (fun i => q_el σ j r i) H[r - 1]?) ∧
  (gK σ r = 50 → g.2.1 < r ∧ q_lst g σ (ed r) r H)
def q_own (g : qG) (ed : Nat → Nat) (σ : qS) : Prop := ∀ r, gK σ r = 50 → ed r = g.2.2.2 ∨ (g.2.1 ≤ ed r ∧ gK σ (ed r + 1) = 0 ∧ ∀ r', gK σ r' = 50 → ed r' = ed r → r' = r)
def qRep (g : qG) (σ : qS) (H : Heap) : Prop := g.2.2.2 < g.2.1 ∧ gK σ 0 = 0 ∧ gK σ (g.2.2.2 + 1) = 34 ∧ gN σ (g.2.2.2 + 1) = 0 ∧ (∀ r, gK σ r ≠ 0 → r ≤ H.size) ∧ ∃ ed : Nat → Nat, (∀ r, q_at g ed σ r H) ∧ q_own g ed σ ∧ ∀ r, gK σ r = 50 → ed r < H.size
/-- words that live on, of the tables -/
def q_okW (w : Cond) : Bool := goodWord w || (match w with | .castable _ _ => true | .methodLinkNest _ _ _ _ => true | .declares _ => true | _ => false)
def q_SW (U : State) : Prop := ∀ w ∈ lw_tbl, q_okW w = true → ∀ A : Array Value, w.before A U = true
def q_An (g : qG) : Nat → Prop := fun q => g.2.1 ≤ q
def q_strs : List (Nat × String) := [(42, "there are all pages"), (75, "there is no room for a panel"), (93, "the page cannot be laid"), (115, "the page cannot be laid or read"), (121, "a balloon of it is answered"), (141, "the panel has all faces"), (159, "there is no room for a balloon"), (178, "the panel has all balloons"), (187, "a page cannot be laid or read"), (193, "the balloon is answered"), (202, "the other one is not read before"), (219, "a page cannot be laid"), (247, "no such place"), (301, "no such page"), (304, "no such panel"), (306, "no such balloon"), (310, "out of range")]
/-- the law's script: its cell, its length, its numbers, as the launch's own names have them -/
def q_Scr (g : qG) (U : State) : Prop := va_X (g.2.2.1 8) (g.2.2.1 9) (fun j => Int32.ofInt ((g.2.2.1 (10 + j) : Int) - 2147483648)) U U.heap ∧ g.2.2.1 8 < g.2.1 ∧ g.2.2.1 9 ≤ 3072
/-- what stands of the tables and the statics -/
def q_SF (g : qG) (U : State) : Prop := q_SW U ∧ va_K g.1 qCl [(g.2.2.1 0, .int), (g.2.2.1 1, .int), (g.2.2.1 2, .int), (g.2.2.1 3, .object RX5), (g.2.2.1 4, .object "java/lang/Object")] U ∧
  vx_Zq Bundle.tN "UNASSIGNED_STACK" Bundle.steD (q_An g) U U.heap ∧ vx_Zq Bundle.tN "SUPPRESSED_SENTINEL" Bundle.listD (q_An g) U U.heap ∧
  va_Z RJx4a65c "DEFAULTCAPACITY_EMPTY_ELEMENTDATA" "[Ljava/lang/Object;" (.ref g.2.2.2) (q_An g) U U.heap ∧ (∀ q ∈ q_strs, ∃ sa, vk_R RX7 q.1 q.2 sa U) ∧ va_AO RX5 U ∧ va_AO "java/lang/Object" U ∧ (va_Mi "[Ljava/lang/Object;" (g.2.2.1 7) U ∧ q_Scr g U) ∧ True

/-- the locals -/
def q_ls (Ls : Array Slot) (nL : Nat) (ls : List (Option qV)) : Prop := Ls.size = nL ∧ lv_wf Ls ∧ ls.length = nL ∧ ∀ (i : Nat) (v : qV), ls[i]? = some (some v) → q_cat1 v ∧ Ls[i]? = some (.val (q_v v))
/-- where a method stands: the machine, its code, the tables' words -/
def qC (g : qG) (l : Launch) (M : qM) (p : Program) (s : State) (m : MethodId) (meth : Method) (c : Code) : Prop :=
  p.tables.exec = Jvm.exec ∧ c.code = M.2.1 ∧ c.maxLocals = M.2.2.1 ∧ meth.sig.returnType = M.2.2.2.1 ∧ s.vm.findClass M.1.cls = some m.cls ∧ meth.locks = false ∧ c.exceptionTable.toList = tableOf M.2.2.2.2.2 ∧ meth.name = M.1.name ∧ l.stackTraces = false ∧ q_SF g s ∧ g.2.1 ≤ s.heap.size
def qQ (g : qG) (Post : qS → qRs → Prop) : Array Value → State → Outcome → State → Prop := fun _ st o t => ∃ (σ : qS) (v : Option qV), o = .returned (v.map q_v) ∧ Post σ (.inl v) ∧ qRep g σ t.heap ∧ va_F (q_An g) st t
def qX (g : qG) (Post : qS → qRs → Prop) : String → State → State → Prop := fun E st t => ∃ (σ : qS) (n : Nat), q_ex n = E ∧ Post σ (.inr n) ∧ qRep g σ t.heap ∧ va_F (q_An g) st t
/-- from here the method comes to an end with Post: ac cells of as slots may still be made -/
def qW (g : qG) (l : Launch) (M : qM) (ac as' : Nat) (pc : Nat) (ls : List (Option qV)) (st : List qV) (σ : qS) (Post : qS → qRs → Prop) : Prop :=
  ∀ (p : Program) (e : Env) (s : State) (m : MethodId) (args : Array Value) (below : List Frame) (meth : Method) (c : Code) (H : Heap) (locs : List Loc) (cells slots : Nat) (Ls : Array Slot),
    qC g l M p s m meth c → qRep g σ H → va_S (q_An g) s.heap H locs → cells + ac ≤ M.2.2.2.2.1.cells → slots + as' ≤ M.2.2.2.2.1.slots → q_ls Ls M.2.2.1 ls →
    W p l e M.2.2.2.2.1 s m args below meth c H locs cells slots (vx_MQ below (qQ g Post) (qX g Post) args s M.2.2.2.2.1.cells M.2.2.2.2.1.slots (q_An g)) (F0 m pc Ls (st.map q_v))
/-- a method's contract: from these arguments and this heap -/
def qMet (g : qG) (l : Launch) (M : qM) (As : List qV) (σ : qS) (Post : qS → qRs → Prop) : Prop :=
  vx_Met l M.1 [if M.2.2.2.2.2 = [] then .code M.1 M.2.1 M.2.2.1 M.2.2.2.1 else .codeWith M.1 M.2.1 M.2.2.1 M.2.2.2.1 M.2.2.2.2.2] M.2.2.2.2.1 (va_Pc (As.map q_v) (fun U => qRep g σ U.heap ∧ q_SF g U ∧ g.2.1 ≤ U.heap.size)) (qQ g Post) (qX g Post) M.2.2.2.2.1.cells M.2.2.2.2.1.slots (q_An g)
