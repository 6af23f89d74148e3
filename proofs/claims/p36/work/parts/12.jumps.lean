/-! rules: constants, jumps, comparisons, ends -/
def qR (z : Int) : Prop := -2147483648 ≤ z ∧ z < 2147483648
theorem q_toInt {z : Int} (h : qR z) : (Int32.ofInt z).toInt = z := Int32.toInt_ofInt_of_le (by have := h.1; omega) (by have := h.2; omega)
theorem q_eqI {a b : Int} (ha : qR a) (hb : qR b) : Int32.ofInt a = Int32.ofInt b ↔ a = b := by
  constructor
  · intro h
    have h1 := congrArg Int32.toInt h
    rwa [q_toInt ha, q_toInt hb] at h1
  · intro h; rw [h]
theorem q_ltI {a b : Int} (ha : qR a) (hb : qR b) : Int32.ofInt a < Int32.ofInt b ↔ a < b := by
  rw [Int32.lt_iff_toInt_lt, q_toInt ha, q_toInt hb]
theorem q_leI {a b : Int} (ha : qR a) (hb : qR b) : Int32.ofInt a ≤ Int32.ofInt b ↔ a ≤ b := by
  rw [Int32.le_iff_toInt_le, q_toInt ha, q_toInt hb]
theorem q_0R : qR 0 := by unfold qR; omega
theorem q_i8 : ∀ n : Int, -128 ≤ n → n < 128 → (Int8.ofInt n).toInt32 = Int32.ofInt n := by
  intro n h1 h2
  apply Int32.toInt_inj.mp
  rw [Int8.toInt_toInt32, Int8.toInt_ofInt_of_le (by omega) (by omega), q_toInt (by unfold qR; omega)]
theorem q_i16 : ∀ n : Int, -32768 ≤ n → n < 32768 → (Int16.ofInt n).toInt32 = Int32.ofInt n := by
  intro n h1 h2
  apply Int32.toInt_inj.mp
  rw [Int16.toInt_toInt32, Int16.toInt_ofInt_of_le (by omega) (by omega), q_toInt (by unfold qR; omega)]
section
variable {g : qG} {l : Launch} {M : qM} {ac as' pc : Nat} {ls : List (Option qV)} {st : List qV} {σ : qS} {Post : qS → qRs → Prop}
theorem wp_iconst {n : Int} (hd : decode M.2.1 pc = .ok (.iconst n, 1)) (kk : qW g l M ac as' (pc + 1) ls (vi n :: st) σ Post) : qW g l M ac as' pc ls st σ Post := by
  intro p e s m args below meth c H locs cells slots Ls C hR hS hc hs hL
  exact lv_iconst C.1 C.2.1 hd rfl (kk p e s m args below meth c H locs cells slots Ls C hR hS hc hs hL)
theorem wp_bipush {n : Int} (hd : decode M.2.1 pc = .ok (.bipush n, 2)) (h1 : -128 ≤ n ∧ n < 128) (kk : qW g l M ac as' (pc + 2) ls (vi n :: st) σ Post) : qW g l M ac as' pc ls st σ Post := by
  intro p e s m args below meth c H locs cells slots Ls C hR hS hc hs hL
  exact lv_bipush C.1 C.2.1 hd (q_i8 n h1.1 h1.2) (kk p e s m args below meth c H locs cells slots Ls C hR hS hc hs hL)
theorem wp_sipush {n : Int} (hd : decode M.2.1 pc = .ok (.sipush n, 3)) (h1 : -32768 ≤ n ∧ n < 32768) (kk : qW g l M ac as' (pc + 3) ls (vi n :: st) σ Post) : qW g l M ac as' pc ls st σ Post := by
  intro p e s m args below meth c H locs cells slots Ls C hR hS hc hs hL
  exact lv_sipush C.1 C.2.1 hd (q_i16 n h1.1 h1.2) (kk p e s m args below meth c H locs cells slots Ls C hR hS hc hs hL)
theorem wp_lconst {n : Fin 2} (hd : decode M.2.1 pc = .ok (.lconst n, 1)) (kk : qW g l M ac as' (pc + 1) ls (vl (n.val : Int) :: st) σ Post) : qW g l M ac as' pc ls st σ Post := by
  intro p e s m args below meth c H locs cells slots Ls C hR hS hc hs hL
  exact lv_lconst C.1 C.2.1 hd rfl (kk p e s m args below meth c H locs cells slots Ls C hR hS hc hs hL)
theorem wp_null (hd : decode M.2.1 pc = .ok (.aconst_null, 1)) (kk : qW g l M ac as' (pc + 1) ls (vr 0 :: st) σ Post) : qW g l M ac as' pc ls st σ Post := by
  intro p e s m args below meth c H locs cells slots Ls C hR hS hc hs hL
  exact lv_null C.1 C.2.1 hd (kk p e s m args below meth c H locs cells slots Ls C hR hS hc hs hL)
theorem q_iconv {x : Int32} {z : Int} (h : x = Int32.ofInt z) : Value.int x = q_v (vi z) := by rw [h]; rfl
theorem wp_idiv {a b : Int} (hd : decode M.2.1 pc = .ok (.idiv, 1)) (ha : 0 ≤ a ∧ a < 2147483648) (hb : 0 < b ∧ b < 2147483648) (kk : qW g l M ac as' (pc + 1) ls (vi (a / b) :: st) σ Post) : qW g l M ac as' pc ls (vi b :: vi a :: st) σ Post := by
  intro p e s m args below meth c H locs cells slots Ls C hR hS hc hs hL
  have hra : qR a := by unfold qR; omega
  have hrb : qR b := by unfold qR; omega
  refine lv_idiv C.1 C.2.1 hd (fun h => by have h1 := (q_eqI hrb q_0R).mp h; omega) ?_
  have e1 : Int32.ofInt a / Int32.ofInt b = Int32.ofInt (a / b) := by
    apply Int32.toInt_inj.mp
    have hq0 : 0 ≤ a / b := Int.ediv_nonneg ha.1 (by omega)
    have hq1 : a / b ≤ a := Int.ediv_le_self b ha.1
    rw [Int32.toInt_div, q_toInt hra, q_toInt hrb, q_toInt (by unfold qR; omega), Int.tdiv_eq_ediv_of_nonneg ha.1, Int.bmod_eq_of_le (by omega) (by omega)]
  rw [e1]
  exact kk p e s m args below meth c H locs cells slots Ls C hR hS hc hs hL
theorem wp_irem {a b : Int} (hd : decode M.2.1 pc = .ok (.irem, 1)) (ha : 0 ≤ a ∧ a < 2147483648) (hb : 0 < b ∧ b < 2147483648) (kk : qW g l M ac as' (pc + 1) ls (vi (a % b) :: st) σ Post) : qW g l M ac as' pc ls (vi b :: vi a :: st) σ Post := by
  intro p e s m args below meth c H locs cells slots Ls C hR hS hc hs hL
  have hra : qR a := by unfold qR; omega
  have hrb : qR b := by unfold qR; omega
  refine lv_irem C.1 C.2.1 hd (fun h => by have h1 := (q_eqI hrb q_0R).mp h; omega) ?_
  have e1 : Int32.ofInt a - Int32.ofInt a / Int32.ofInt b * Int32.ofInt b = Int32.ofInt (a % b) := by
    apply Int32.toInt_inj.mp
    have hq0 : 0 ≤ a % b := Int.emod_nonneg a (by omega)
    have hq1 : a % b < b := Int.emod_lt_of_pos a hb.1
    rw [rem_toInt, q_toInt hra, q_toInt hrb, q_toInt (by unfold qR; omega), Int.tmod_eq_emod_of_nonneg ha.1]
  rw [e1]
  exact kk p e s m args below meth c H locs cells slots Ls C hR hS hc hs hL
theorem wp_ishl {a b : Int} (hd : decode M.2.1 pc = .ok (.ishl, 1)) (kk : qW g l M ac as' (pc + 1) ls (vi (Int32.ofInt a <<< (Int32.ofInt b &&& 31)).toInt :: st) σ Post) : qW g l M ac as' pc ls (vi b :: vi a :: st) σ Post := by
  intro p e s m args below meth c H locs cells slots Ls C hR hS hc hs hL
  refine lv_ishl C.1 C.2.1 hd ?_
  rw [← Int32.ofInt_toInt (Int32.ofInt a <<< (Int32.ofInt b &&& 31))]
  exact kk p e s m args below meth c H locs cells slots Ls C hR hS hc hs hL
theorem wp_ishr {a b : Int} (hd : decode M.2.1 pc = .ok (.ishr, 1)) (kk : qW g l M ac as' (pc + 1) ls (vi (Int32.ofInt a >>> (Int32.ofInt b &&& 31)).toInt :: st) σ Post) : qW g l M ac as' pc ls (vi b :: vi a :: st) σ Post := by
  intro p e s m args below meth c H locs cells slots Ls C hR hS hc hs hL
  refine lv_ishr C.1 C.2.1 hd ?_
  rw [← Int32.ofInt_toInt (Int32.ofInt a >>> (Int32.ofInt b &&& 31))]
  exact kk p e s m args below meth c H locs cells slots Ls C hR hS hc hs hL
theorem wp_iand {a b : Int} (hd : decode M.2.1 pc = .ok (.iand, 1)) (kk : qW g l M ac as' (pc + 1) ls (vi (Int32.ofInt a &&& Int32.ofInt b).toInt :: st) σ Post) : qW g l M ac as' pc ls (vi b :: vi a :: st) σ Post := by
  intro p e s m args below meth c H locs cells slots Ls C hR hS hc hs hL
  refine lv_iand C.1 C.2.1 hd ?_
  rw [← Int32.ofInt_toInt (Int32.ofInt a &&& Int32.ofInt b)]
  exact kk p e s m args below meth c H locs cells slots Ls C hR hS hc hs hL
theorem wp_ior {a b : Int} (hd : decode M.2.1 pc = .ok (.ior, 1)) (kk : qW g l M ac as' (pc + 1) ls (vi (Int32.ofInt a ||| Int32.ofInt b).toInt :: st) σ Post) : qW g l M ac as' pc ls (vi b :: vi a :: st) σ Post := by
  intro p e s m args below meth c H locs cells slots Ls C hR hS hc hs hL
  refine lv_ior C.1 C.2.1 hd ?_
  rw [← Int32.ofInt_toInt (Int32.ofInt a ||| Int32.ofInt b)]
  exact kk p e s m args below meth c H locs cells slots Ls C hR hS hc hs hL
theorem wp_i2l {a : Int} (hd : decode M.2.1 pc = .ok (.i2l, 1)) (ha : qR a) (kk : qW g l M ac as' (pc + 1) ls (vl a :: st) σ Post) : qW g l M ac as' pc ls (vi a :: st) σ Post := by
  intro p e s m args below meth c H locs cells slots Ls C hR hS hc hs hL
  refine lv_i2l (v := Int64.ofInt a) C.1 C.2.1 hd ?_ (kk p e s m args below meth c H locs cells slots Ls C hR hS hc hs hL)
  apply Int64.toInt_inj.mp
  rw [Int32.toInt_toInt64, q_toInt ha, Int64.toInt_ofInt_of_le (by have := ha.1; omega) (by have := ha.2; omega)]
theorem wp_dup {v : qV} (hd : decode M.2.1 pc = .ok (.dup, 1)) (hv : q_cat1 v) (kk : qW g l M ac as' (pc + 1) ls (v :: v :: st) σ Post) : qW g l M ac as' pc ls (v :: st) σ Post := by
  intro p e s m args below meth c H locs cells slots Ls C hR hS hc hs hL
  exact lv_dup C.1 C.2.1 hd (q_cat hv) (kk p e s m args below meth c H locs cells slots Ls C hR hS hc hs hL)
theorem wp_dup2 {v w : qV} (hd : decode M.2.1 pc = .ok (.dup2, 1)) (hv : q_cat1 v) (hw : q_cat1 w) (kk : qW g l M ac as' (pc + 1) ls (v :: w :: v :: w :: st) σ Post) : qW g l M ac as' pc ls (v :: w :: st) σ Post := by
  intro p e s m args below meth c H locs cells slots Ls C hR hS hc hs hL
  exact lv_dup2_11 C.1 C.2.1 hd (q_cat hv) (q_cat hw) (kk p e s m args below meth c H locs cells slots Ls C hR hS hc hs hL)
theorem wp_dup_x1 {v w : qV} (hd : decode M.2.1 pc = .ok (.dup_x1, 1)) (hv : q_cat1 v) (hw : q_cat1 w) (kk : qW g l M ac as' (pc + 1) ls (v :: w :: v :: st) σ Post) : qW g l M ac as' pc ls (v :: w :: st) σ Post := by
  intro p e s m args below meth c H locs cells slots Ls C hR hS hc hs hL
  exact lv_dup_x1 C.1 C.2.1 hd (q_cat hv) (q_cat hw) (kk p e s m args below meth c H locs cells slots Ls C hR hS hc hs hL)
theorem wp_pop {v : qV} (hd : decode M.2.1 pc = .ok (.pop, 1)) (hv : q_cat1 v) (kk : qW g l M ac as' (pc + 1) ls st σ Post) : qW g l M ac as' pc ls (v :: st) σ Post := by
  intro p e s m args below meth c H locs cells slots Ls C hR hS hc hs hL
  exact lv_pop C.1 C.2.1 hd (q_cat hv) (kk p e s m args below meth c H locs cells slots Ls C hR hS hc hs hL)
theorem wp_goto {off : Int} {tgt : Nat} (hd : decode M.2.1 pc = .ok (.goto off, 3)) (ht : (pc : Int) + off = (tgt : Int)) (kk : qW g l M ac as' tgt ls st σ Post) : qW g l M ac as' pc ls st σ Post := by
  intro p e s m args below meth c H locs cells slots Ls C hR hS hc hs hL
  exact lv_goto C.1 C.2.1 hd ht (kk p e s m args below meth c H locs cells slots Ls C hR hS hc hs hL)
theorem wp_icmp_eq {a b : Int} {off : Int} {tgt : Nat} (hd : decode M.2.1 pc = .ok (.if_icmp .eq off, 3)) (ht : (pc : Int) + off = (tgt : Int)) (ha : qR a) (hb : qR b) (kt : a = b → qW g l M ac as' tgt ls st σ Post) (kf : ¬ (a = b) → qW g l M ac as' (pc + 3) ls st σ Post) : qW g l M ac as' pc ls (vi b :: vi a :: st) σ Post := by
  intro p e s m args below meth c H locs cells slots Ls C hR hS hc hs hL
  exact lv_icmp_eq C.1 C.2.1 hd ht (fun h => kt ((q_eqI ha hb).mp h) p e s m args below meth c H locs cells slots Ls C hR hS hc hs hL) (fun h => kf (fun h2 => h ((q_eqI ha hb).mpr h2)) p e s m args below meth c H locs cells slots Ls C hR hS hc hs hL)
theorem wp_if_eq {a : Int} {off : Int} {tgt : Nat} (hd : decode M.2.1 pc = .ok (.ifCond .eq off, 3)) (ht : (pc : Int) + off = (tgt : Int)) (ha : qR a) (kt : a = 0 → qW g l M ac as' tgt ls st σ Post) (kf : ¬ (a = 0) → qW g l M ac as' (pc + 3) ls st σ Post) : qW g l M ac as' pc ls (vi a :: st) σ Post := by
  intro p e s m args below meth c H locs cells slots Ls C hR hS hc hs hL
  exact lv_if_eq C.1 C.2.1 hd ht (fun h => kt ((q_eqI ha q_0R).mp h) p e s m args below meth c H locs cells slots Ls C hR hS hc hs hL) (fun h => kf (fun h2 => h ((q_eqI ha q_0R).mpr h2)) p e s m args below meth c H locs cells slots Ls C hR hS hc hs hL)
theorem wp_icmp_ne {a b : Int} {off : Int} {tgt : Nat} (hd : decode M.2.1 pc = .ok (.if_icmp .ne off, 3)) (ht : (pc : Int) + off = (tgt : Int)) (ha : qR a) (hb : qR b) (kt : ¬ a = b → qW g l M ac as' tgt ls st σ Post) (kf : a = b → qW g l M ac as' (pc + 3) ls st σ Post) : qW g l M ac as' pc ls (vi b :: vi a :: st) σ Post := by
  intro p e s m args below meth c H locs cells slots Ls C hR hS hc hs hL
  exact lv_icmp_ne C.1 C.2.1 hd ht (fun h => kt ((not_congr (q_eqI ha hb)).mp h) p e s m args below meth c H locs cells slots Ls C hR hS hc hs hL) (fun h => kf ((q_eqI ha hb).mp h) p e s m args below meth c H locs cells slots Ls C hR hS hc hs hL)
theorem wp_if_ne {a : Int} {off : Int} {tgt : Nat} (hd : decode M.2.1 pc = .ok (.ifCond .ne off, 3)) (ht : (pc : Int) + off = (tgt : Int)) (ha : qR a) (kt : ¬ a = 0 → qW g l M ac as' tgt ls st σ Post) (kf : a = 0 → qW g l M ac as' (pc + 3) ls st σ Post) : qW g l M ac as' pc ls (vi a :: st) σ Post := by
  intro p e s m args below meth c H locs cells slots Ls C hR hS hc hs hL
  exact lv_if_ne C.1 C.2.1 hd ht (fun h => kt ((not_congr (q_eqI ha q_0R)).mp h) p e s m args below meth c H locs cells slots Ls C hR hS hc hs hL) (fun h => kf ((q_eqI ha q_0R).mp h) p e s m args below meth c H locs cells slots Ls C hR hS hc hs hL)
theorem wp_icmp_lt {a b : Int} {off : Int} {tgt : Nat} (hd : decode M.2.1 pc = .ok (.if_icmp .lt off, 3)) (ht : (pc : Int) + off = (tgt : Int)) (ha : qR a) (hb : qR b) (kt : a < b → qW g l M ac as' tgt ls st σ Post) (kf : ¬ (a < b) → qW g l M ac as' (pc + 3) ls st σ Post) : qW g l M ac as' pc ls (vi b :: vi a :: st) σ Post := by
  intro p e s m args below meth c H locs cells slots Ls C hR hS hc hs hL
  exact lv_icmp_lt C.1 C.2.1 hd ht (fun h => kt ((q_ltI ha hb).mp h) p e s m args below meth c H locs cells slots Ls C hR hS hc hs hL) (fun h => kf (fun h2 => h ((q_ltI ha hb).mpr h2)) p e s m args below meth c H locs cells slots Ls C hR hS hc hs hL)
theorem wp_if_lt {a : Int} {off : Int} {tgt : Nat} (hd : decode M.2.1 pc = .ok (.ifCond .lt off, 3)) (ht : (pc : Int) + off = (tgt : Int)) (ha : qR a) (kt : a < 0 → qW g l M ac as' tgt ls st σ Post) (kf : ¬ (a < 0) → qW g l M ac as' (pc + 3) ls st σ Post) : qW g l M ac as' pc ls (vi a :: st) σ Post := by
  intro p e s m args below meth c H locs cells slots Ls C hR hS hc hs hL
  exact lv_if_lt C.1 C.2.1 hd ht (fun h => kt ((q_ltI ha q_0R).mp h) p e s m args below meth c H locs cells slots Ls C hR hS hc hs hL) (fun h => kf (fun h2 => h ((q_ltI ha q_0R).mpr h2)) p e s m args below meth c H locs cells slots Ls C hR hS hc hs hL)
theorem wp_icmp_ge {a b : Int} {off : Int} {tgt : Nat} (hd : decode M.2.1 pc = .ok (.if_icmp .ge off, 3)) (ht : (pc : Int) + off = (tgt : Int)) (ha : qR a) (hb : qR b) (kt : b ≤ a → qW g l M ac as' tgt ls st σ Post) (kf : ¬ (b ≤ a) → qW g l M ac as' (pc + 3) ls st σ Post) : qW g l M ac as' pc ls (vi b :: vi a :: st) σ Post := by
  intro p e s m args below meth c H locs cells slots Ls C hR hS hc hs hL
  exact lv_icmp_ge C.1 C.2.1 hd ht (fun h => kt ((q_leI hb ha).mp h) p e s m args below meth c H locs cells slots Ls C hR hS hc hs hL) (fun h => kf (fun h2 => h ((q_leI hb ha).mpr h2)) p e s m args below meth c H locs cells slots Ls C hR hS hc hs hL)
theorem wp_if_ge {a : Int} {off : Int} {tgt : Nat} (hd : decode M.2.1 pc = .ok (.ifCond .ge off, 3)) (ht : (pc : Int) + off = (tgt : Int)) (ha : qR a) (kt : 0 ≤ a → qW g l M ac as' tgt ls st σ Post) (kf : ¬ (0 ≤ a) → qW g l M ac as' (pc + 3) ls st σ Post) : qW g l M ac as' pc ls (vi a :: st) σ Post := by
  intro p e s m args below meth c H locs cells slots Ls C hR hS hc hs hL
  exact lv_if_ge C.1 C.2.1 hd ht (fun h => kt ((q_leI q_0R ha).mp h) p e s m args below meth c H locs cells slots Ls C hR hS hc hs hL) (fun h => kf (fun h2 => h ((q_leI q_0R ha).mpr h2)) p e s m args below meth c H locs cells slots Ls C hR hS hc hs hL)
theorem wp_icmp_gt {a b : Int} {off : Int} {tgt : Nat} (hd : decode M.2.1 pc = .ok (.if_icmp .gt off, 3)) (ht : (pc : Int) + off = (tgt : Int)) (ha : qR a) (hb : qR b) (kt : b < a → qW g l M ac as' tgt ls st σ Post) (kf : ¬ (b < a) → qW g l M ac as' (pc + 3) ls st σ Post) : qW g l M ac as' pc ls (vi b :: vi a :: st) σ Post := by
  intro p e s m args below meth c H locs cells slots Ls C hR hS hc hs hL
  exact lv_icmp_gt C.1 C.2.1 hd ht (fun h => kt ((q_ltI hb ha).mp h) p e s m args below meth c H locs cells slots Ls C hR hS hc hs hL) (fun h => kf (fun h2 => h ((q_ltI hb ha).mpr h2)) p e s m args below meth c H locs cells slots Ls C hR hS hc hs hL)
theorem wp_if_gt {a : Int} {off : Int} {tgt : Nat} (hd : decode M.2.1 pc = .ok (.ifCond .gt off, 3)) (ht : (pc : Int) + off = (tgt : Int)) (ha : qR a) (kt : 0 < a → qW g l M ac as' tgt ls st σ Post) (kf : ¬ (0 < a) → qW g l M ac as' (pc + 3) ls st σ Post) : qW g l M ac as' pc ls (vi a :: st) σ Post := by
  intro p e s m args below meth c H locs cells slots Ls C hR hS hc hs hL
  exact lv_if_gt C.1 C.2.1 hd ht (fun h => kt ((q_ltI q_0R ha).mp h) p e s m args below meth c H locs cells slots Ls C hR hS hc hs hL) (fun h => kf (fun h2 => h ((q_ltI q_0R ha).mpr h2)) p e s m args below meth c H locs cells slots Ls C hR hS hc hs hL)
theorem wp_icmp_le {a b : Int} {off : Int} {tgt : Nat} (hd : decode M.2.1 pc = .ok (.if_icmp .le off, 3)) (ht : (pc : Int) + off = (tgt : Int)) (ha : qR a) (hb : qR b) (kt : a ≤ b → qW g l M ac as' tgt ls st σ Post) (kf : ¬ (a ≤ b) → qW g l M ac as' (pc + 3) ls st σ Post) : qW g l M ac as' pc ls (vi b :: vi a :: st) σ Post := by
  intro p e s m args below meth c H locs cells slots Ls C hR hS hc hs hL
  exact lv_icmp_le C.1 C.2.1 hd ht (fun h => kt ((q_leI ha hb).mp h) p e s m args below meth c H locs cells slots Ls C hR hS hc hs hL) (fun h => kf (fun h2 => h ((q_leI ha hb).mpr h2)) p e s m args below meth c H locs cells slots Ls C hR hS hc hs hL)
theorem wp_if_le {a : Int} {off : Int} {tgt : Nat} (hd : decode M.2.1 pc = .ok (.ifCond .le off, 3)) (ht : (pc : Int) + off = (tgt : Int)) (ha : qR a) (kt : a ≤ 0 → qW g l M ac as' tgt ls st σ Post) (kf : ¬ (a ≤ 0) → qW g l M ac as' (pc + 3) ls st σ Post) : qW g l M ac as' pc ls (vi a :: st) σ Post := by
  intro p e s m args below meth c H locs cells slots Ls C hR hS hc hs hL
  exact lv_if_le C.1 C.2.1 hd ht (fun h => kt ((q_leI ha q_0R).mp h) p e s m args below meth c H locs cells slots Ls C hR hS hc hs hL) (fun h => kf (fun h2 => h ((q_leI ha q_0R).mpr h2)) p e s m args below meth c H locs cells slots Ls C hR hS hc hs hL)
theorem q_rc_inj {a b : Nat} : q_rc a = q_rc b ↔ a = b := by
  cases a <;> cases b <;> simp [q_rc]
theorem wp_acmp_eq {a b : Nat} {off : Int} {tgt : Nat} (hd : decode M.2.1 pc = .ok (.if_acmp .eq off, 3)) (ht : (pc : Int) + off = (tgt : Int)) (kt : a = b → qW g l M ac as' tgt ls st σ Post) (kf : ¬ (a = b) → qW g l M ac as' (pc + 3) ls st σ Post) : qW g l M ac as' pc ls (vr b :: vr a :: st) σ Post := by
  intro p e s m args below meth c H locs cells slots Ls C hR hS hc hs hL
  exact lv_acmp_eq C.1 C.2.1 hd ht (fun h => kt (q_rc_inj.mp h) p e s m args below meth c H locs cells slots Ls C hR hS hc hs hL) (fun h => kf (fun h2 => h (q_rc_inj.mpr h2)) p e s m args below meth c H locs cells slots Ls C hR hS hc hs hL)
theorem wp_acmp_ne {a b : Nat} {off : Int} {tgt : Nat} (hd : decode M.2.1 pc = .ok (.if_acmp .ne off, 3)) (ht : (pc : Int) + off = (tgt : Int)) (kt : ¬ a = b → qW g l M ac as' tgt ls st σ Post) (kf : a = b → qW g l M ac as' (pc + 3) ls st σ Post) : qW g l M ac as' pc ls (vr b :: vr a :: st) σ Post := by
  intro p e s m args below meth c H locs cells slots Ls C hR hS hc hs hL
  exact lv_acmp_ne C.1 C.2.1 hd ht (fun h => kt ((not_congr q_rc_inj).mp h) p e s m args below meth c H locs cells slots Ls C hR hS hc hs hL) (fun h => kf (q_rc_inj.mp h) p e s m args below meth c H locs cells slots Ls C hR hS hc hs hL)
theorem wp_ifnull {r : Nat} {off : Int} {tgt : Nat} (hd : decode M.2.1 pc = .ok (.ifnull off, 3)) (ht : (pc : Int) + off = (tgt : Int)) (kt : r = 0 → qW g l M ac as' tgt ls st σ Post) (kf : ¬ r = 0 → qW g l M ac as' (pc + 3) ls st σ Post) : qW g l M ac as' pc ls (vr r :: st) σ Post := by
  intro p e s m args below meth c H locs cells slots Ls C hR hS hc hs hL
  cases r with
  | zero => exact lv_ifnullN C.1 C.2.1 hd ht (kt rfl p e s m args below meth c H locs cells slots Ls C hR hS hc hs hL)
  | succ a => exact lv_ifnull C.1 C.2.1 hd (kf (by omega) p e s m args below meth c H locs cells slots Ls C hR hS hc hs hL)
theorem wp_ifnonnull {r : Nat} {off : Int} {tgt : Nat} (hd : decode M.2.1 pc = .ok (.ifnonnull off, 3)) (ht : (pc : Int) + off = (tgt : Int)) (kt : ¬ r = 0 → qW g l M ac as' tgt ls st σ Post) (kf : r = 0 → qW g l M ac as' (pc + 3) ls st σ Post) : qW g l M ac as' pc ls (vr r :: st) σ Post := by
  intro p e s m args below meth c H locs cells slots Ls C hR hS hc hs hL
  cases r with
  | zero => exact lv_ifnonnullN C.1 C.2.1 hd (kf rfl p e s m args below meth c H locs cells slots Ls C hR hS hc hs hL)
  | succ a => exact lv_ifnonnull C.1 C.2.1 hd ht (kt (by omega) p e s m args below meth c H locs cells slots Ls C hR hS hc hs hL)
theorem wp_tableIn {z : Int} {dflt lo hi : Int} {offs : Array Int} {len : Nat} {off : Int} {tgt : Nat} (hd : decode M.2.1 pc = .ok (.tableswitch dflt lo hi offs, len)) (hz : qR z) (h1 : lo ≤ z) (h2 : z ≤ hi) (ho : offs[(z - lo).toNat]? = some off) (ht : (pc : Int) + off = (tgt : Int)) (kk : qW g l M ac as' tgt ls st σ Post) : qW g l M ac as' pc ls (vi z :: st) σ Post := by
  intro p e s m args below meth c H locs cells slots Ls C hR hS hc hs hL
  exact lv_tableIn C.1 C.2.1 hd (by rw [q_toInt hz]; omega) (by rw [q_toInt hz]; omega) (by rw [q_toInt hz]; exact ho) ht (kk p e s m args below meth c H locs cells slots Ls C hR hS hc hs hL)
theorem wp_tableOut {z : Int} {dflt lo hi : Int} {offs : Array Int} {len : Nat} {tgt : Nat} (hd : decode M.2.1 pc = .ok (.tableswitch dflt lo hi offs, len)) (hz : qR z) (h1 : z < lo ∨ hi < z) (ht : (pc : Int) + dflt = (tgt : Int)) (kk : qW g l M ac as' tgt ls st σ Post) : qW g l M ac as' pc ls (vi z :: st) σ Post := by
  intro p e s m args below meth c H locs cells slots Ls C hR hS hc hs hL
  exact lv_tableOut C.1 C.2.1 hd (by rw [q_toInt hz]; exact h1) ht (kk p e s m args below meth c H locs cells slots Ls C hR hS hc hs hL)
end
