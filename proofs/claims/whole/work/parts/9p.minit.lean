/-! the model: a new object -/
def MIq (σ0 : qS) (a : Nat) (J : Nat → Nat → Int) (L : List (Nat × Nat × Nat × Int)) (σ : qS) : Prop := gK σ a = 9 ∧ (∀ f x, gI σ f x = J f x) ∧ (∀ t ∈ L, t.2.1 ≠ 0 ∧ gK σ0 t.2.1 = 0 ∧ gK σ t.2.1 = t.2.2.1 ∧ gN σ t.2.1 = t.2.2.2 ∧ gP σ t.1 a = t.2.1 ∧ (∀ i, gA σ t.2.1 i = 0) ∧ t.2.2.1 ≠ 0) ∧ (L.map (fun t => t.2.1)).Nodup ∧ ∀ z, gK σ0 z ≠ 0 → z ≠ a → qSame σ0 σ z
section
variable {σ0 σ σ5 σ9 : qS} {a r kd f : Nat} {n : Int} {J : Nat → Nat → Int} {L : List (Nat × Nat × Nat × Int)}
theorem MI_k (h : MIq σ0 a J L σ) (hz : gK σ r = 0) (h5 : σ5 = nA σ r kd n) : gK σ5 a = 9 := by
  rw [h5]
  exact (if_neg (fun z => by rw [← z, h.1] at hz; exact absurd hz (by decide))).trans h.1
theorem MI_s (ha : gK σ0 a = 9) (h : MIq σ0 a J L σ) (hz : gK σ r = 0) (hr : r ≠ 0) (h5 : σ5 = nA σ r kd n) (h9 : σ9 = sP σ5 f a r) (hk : kd ≠ 0) (hf : ∀ t ∈ L, t.1 ≠ f) : MIq σ0 a J ((f, r, kd, n) :: L) σ9 := by
  have h' := h
  obtain ⟨h1, h2, h3, h4, h6⟩ := h
  have har : a ≠ r := fun z => by rw [← z, h1] at hz; exact absurd hz (by decide)
  have hL : ∀ t ∈ L, t.2.1 ≠ r := fun t ht z => by
    obtain ⟨t1, t2, t3, t4, t5, t6, t7⟩ := h3 t ht
    rw [z, hz] at t3
    exact t7 t3.symm
  have h0 : gK σ0 r = 0 := by
    by_cases c : gK σ0 r = 0
    · exact c
    · have := (h6 r c (fun z => har z.symm)).1
      rw [hz] at this
      exact this.symm
  have eK : ∀ z, gK σ9 z = if z = r then kd else gK σ z := fun z => by rw [h9, h5]; rfl
  have eN : ∀ z, gN σ9 z = if z = r then n else gN σ z := fun z => by rw [h9, h5]; rfl
  have eP : ∀ g z, gP σ9 g z = if g = f ∧ z = a then r else gP σ g z := fun g z => by rw [h9, h5]; rfl
  have eA : ∀ z i, gA σ9 z i = if z = r then 0 else gA σ z i := fun z i => by rw [h9, h5]; rfl
  have eR : ∀ z i, gR σ9 z i = if z = r then 0 else gR σ z i := fun z i => by rw [h9, h5]; rfl
  have eI : gI σ9 = gI σ := by rw [h9, h5]; rfl
  have eL : gL σ9 = gL σ := by rw [h9, h5]; rfl
  refine ⟨by rw [eK, if_neg har]; exact h1, by rw [eI]; exact h2, fun t ht => ?_, ?_, fun z hz' hza => ?_⟩
  · rcases List.mem_cons.mp ht with e | e
    · rw [e]
      exact ⟨hr, h0, by rw [eK, if_pos rfl], by rw [eN, if_pos rfl], by rw [eP, if_pos ⟨rfl, rfl⟩], fun i => by rw [eA, if_pos rfl], hk⟩
    · obtain ⟨t1, t2, t3, t4, t5, t6, t7⟩ := h3 t e
      have hne := hL t e
      exact ⟨t1, t2, by rw [eK, if_neg hne]; exact t3, by rw [eN, if_neg hne]; exact t4, by rw [eP, if_neg (fun y => hf t e y.1)]; exact t5, fun i => by rw [eA, if_neg hne]; exact t6 i, t7⟩
  · rw [List.map_cons, List.nodup_cons]
    refine ⟨fun y => ?_, h4⟩
    obtain ⟨t, ht, e⟩ := List.mem_map.mp y
    exact hL t ht e
  · have hzr : z ≠ r := fun y => hz' (by rw [y]; exact h0)
    obtain ⟨q1, q2, q3, q4, q5, q6, q7⟩ := h6 z hz' hza
    exact ⟨by rw [eK, if_neg hzr]; exact q1, by rw [eI]; exact q2, fun g => by rw [eP, if_neg (fun y => hza y.2)]; exact q3 g, fun i => by rw [eA, if_neg hzr]; exact q4 i, fun i => by rw [eR, if_neg hzr]; exact q5 i, by rw [eL]; exact q6, by rw [eN, if_neg hzr]; exact q7⟩
theorem MI_I (h : MIq σ0 a J L σ) {v : Int} (h5 : σ5 = sI σ f a v) : MIq σ0 a (fun g x => if g = f ∧ x = a then v else J g x) L σ5 := by
  obtain ⟨h1, h2, h3, h4, h6⟩ := h
  rw [h5]
  refine ⟨h1, fun g x => ?_, h3, h4, fun z hz' hza => ?_⟩
  · rw [gI_sI, h2]
  · obtain ⟨q1, q2, q3, q4, q5, q6, q7⟩ := h6 z hz' hza
    exact ⟨q1, fun g => by rw [gI_ne (fun y => hza y.2)]; exact q2 g, q3, q4, q5, q6, q7⟩
end
section
variable {g : qG} {l : Launch} {σ : qS}
/-- the model's new heap, by its table -/
def mTabR : List (Nat × Nat × Int) := mTab.reverse
theorem mTab_nd : ((30, 0) :: List.map (fun f : Nat => (f - 280, 0)) (List.map (fun u => u.1) mTabR)).Nodup := by decide +kernel
theorem MI_MR {A : Nat → Nat → Nat} (hA : qInj A) {σ0 : qS} {a : Nat} {L : List (Nat × Nat × Nat × Int)} {J : Nat → Nat → Int} (ha : a ≠ 0) (haK : gK σ0 a = 9) (h : MIq σ0 a J L σ) (hL : L.map (fun t => (t.1, t.2.2)) = mTabR) :
    ∃ B, qInj B ∧ B 30 0 = a ∧ MS B σ ∧ (∀ t ∈ mTab, gK σ0 (B (t.1 - 280) 0) = 0 ∧ ∀ i, gA σ (B (t.1 - 280) 0) i = 0) ∧ ∀ k j, k < 20 → gK σ0 (A k j) ≠ 0 → A k j ≠ a → B k j = A k j := by
  obtain ⟨h1, h2, h3, h4, h6⟩ := h
  have hk : (L.map (fun t => t.1)) = mTabR.map (fun u => u.1) := by rw [← hL, List.map_map]; rfl
  have hra : ∀ t ∈ L, t.2.1 ≠ a := fun t ht z => by
    have := (h3 t ht).2.1
    rw [z, haK] at this
    exact absurd this (by decide)
  obtain ⟨s1, s2, s3⟩ := swL_sp hA ((30, 0, a) :: L.map (fun t => (t.1 - 280, 0, t.2.1))) (fun t ht => by
    rcases List.mem_cons.mp ht with e | e
    · rw [e]; exact ha
    · obtain ⟨u, hu, e2⟩ := List.mem_map.mp e
      rw [← e2]; exact (h3 u hu).1) (by
    rw [List.map_cons, List.map_map, List.nodup_cons]
    refine ⟨fun y => ?_, h4⟩
    obtain ⟨t, ht, e⟩ := List.mem_map.mp y
    exact hra t ht e) (by
    rw [List.map_cons, List.map_map]
    have e : L.map ((fun t : Nat × Nat × Nat => (t.1, t.2.1)) ∘ (fun t : Nat × Nat × Nat × Int => (t.1 - 280, 0, t.2.1))) = (L.map (fun t => t.1)).map (fun f => (f - 280, 0)) := by rw [List.map_map]; rfl
    rw [e, hk]
    exact mTab_nd)
  have b30 := s2 (30, 0, a) List.mem_cons_self
  have hm : ∀ t ∈ mTab, ∃ u ∈ L, u.1 = t.1 ∧ u.2.2 = t.2 := fun t ht => by
    have : t ∈ L.map (fun t => (t.1, t.2.2)) := by rw [hL]; exact List.mem_reverse.mpr ht
    obtain ⟨u, hu, e⟩ := List.mem_map.mp this
    exact ⟨u, hu, by rw [← e], by rw [← e]⟩
  have hB : ∀ u ∈ L, swL A ((30, 0, a) :: L.map (fun t => (t.1 - 280, 0, t.2.1))) (u.1 - 280) 0 = u.2.1 := fun u hu => s2 (u.1 - 280, 0, u.2.1) (List.mem_cons_of_mem _ (List.mem_map.mpr ⟨u, hu, rfl⟩))
  refine ⟨_, s1, b30, ⟨by rw [b30]; exact h1, fun t ht => ?_⟩, fun t ht => ?_, fun k j hk2 hkz hka => s3 k j (fun t ht => ?_) (fun t ht => ?_)⟩
  · obtain ⟨u, hu, e1, e2⟩ := hm t ht
    have hb := hB u hu
    rw [e1] at hb
    obtain ⟨t1, t2, t3, t4, t5, t6, t7⟩ := h3 u hu
    rw [b30, hb, ← e1, ← e2]
    exact ⟨t5, t3, t4⟩
  · obtain ⟨u, hu, e1, e2⟩ := hm t ht
    have hb := hB u hu
    rw [e1] at hb
    rw [hb]
    exact ⟨(h3 u hu).2.1, (h3 u hu).2.2.2.2.2.1⟩
  · rcases List.mem_cons.mp ht with e | e
    · rw [e]; exact hka
    · obtain ⟨u, hu, e2⟩ := List.mem_map.mp e
      rw [← e2]
      exact fun z => hkz (by rw [z]; exact (h3 u hu).2.1)
  · rcases List.mem_cons.mp ht with e | e
    · rw [e]; exact fun z => by have : k = 30 := z.1; omega
    · obtain ⟨u, hu, e2⟩ := List.mem_map.mp e
      have : u.1 ∈ L.map (fun t => t.1) := List.mem_map.mpr ⟨u, hu, rfl⟩
      rw [hk] at this
      have hd : ∀ f ∈ mTabR.map (fun u => u.1), 324 ≤ f := by decide
      have := hd _ this
      rw [← e2]
      exact fun z => by have : k = u.1 - 280 := z.1; omega
theorem spec_minit0 (hl : l.stackTraces = false) {A : Nat → Nat → Nat} (hA : qInj A) {a : Nat} (ha : a ≠ 0) (hK : gK σ a = 9) (hI : ∀ f, gI σ f a = 0) :
    qMet g l M_X8_init [vr a] σ (qTv0 (fun σ' => ∃ B, qInj B ∧ MR B D0 σ' ∧ B 30 0 = a ∧ (∀ k j, k < 20 → gK σ (A k j) ≠ 0 → A k j ≠ a → B k j = A k j) ∧ ∀ z, gK σ z ≠ 0 → z ≠ a → qSame σ σ' z)) := by
  have m0 : MIq σ a (gI σ) [] σ := ⟨hK, fun _ _ => rfl, fun t h => absurd h List.not_mem_nil, List.nodup_nil, fun z _ _ => qSame_rf σ z⟩
  refine wm_X8_init hl ⟨ha, ?_⟩
  intro r2 zr2 nr2 σ5 h5
  refine ⟨MI_k m0 zr2 h5, ?_⟩
  intro σ9 h9
  have j324 := MI_s hK m0 zr2 nr2 h5 h9 (by decide) (by simp)
  intro r11 zr11 nr11 σ14 h14
  refine ⟨MI_k j324 zr11 h14, ?_⟩
  intro σ18 h18
  have j325 := MI_s hK j324 zr11 nr11 h14 h18 (by decide) (by simp)
  intro r20 zr20 nr20 σ23 h23
  refine ⟨MI_k j325 zr20 h23, ?_⟩
  intro σ27 h27
  have j326 := MI_s hK j325 zr20 nr20 h23 h27 (by decide) (by simp)
  intro r29 zr29 nr29 σ32 h32
  refine ⟨MI_k j326 zr29 h32, ?_⟩
  intro σ36 h36
  have j327 := MI_s hK j326 zr29 nr29 h32 h36 (by decide) (by simp)
  intro r38 zr38 nr38 σ41 h41
  refine ⟨MI_k j327 zr38 h41, ?_⟩
  intro σ45 h45
  have j328 := MI_s hK j327 zr38 nr38 h41 h45 (by decide) (by simp)
  intro r47 zr47 nr47 σ50 h50
  refine ⟨MI_k j328 zr47 h50, ?_⟩
  intro σ54 h54
  have j329 := MI_s hK j328 zr47 nr47 h50 h54 (by decide) (by simp)
  intro r56 zr56 nr56 σ59 h59
  refine ⟨MI_k j329 zr56 h59, ?_⟩
  intro σ63 h63
  have j330 := MI_s hK j329 zr56 nr56 h59 h63 (by decide) (by simp)
  intro r65 zr65 nr65 σ68 h68
  refine ⟨MI_k j330 zr65 h68, ?_⟩
  intro σ72 h72
  have j331 := MI_s hK j330 zr65 nr65 h68 h72 (by decide) (by simp)
  intro r74 zr74 nr74 σ77 h77
  refine ⟨MI_k j331 zr74 h77, ?_⟩
  intro σ81 h81
  have j332 := MI_s hK j331 zr74 nr74 h77 h81 (by decide) (by simp)
  intro r83 zr83 nr83 σ86 h86
  refine ⟨MI_k j332 zr83 h86, ?_⟩
  intro σ90 h90
  have j333 := MI_s hK j332 zr83 nr83 h86 h90 (by decide) (by simp)
  intro r92 zr92 nr92 σ95 h95
  refine ⟨MI_k j333 zr92 h95, ?_⟩
  intro σ99 h99
  have j334 := MI_s hK j333 zr92 nr92 h95 h99 (by decide) (by simp)
  intro r101 zr101 nr101 σ104 h104
  refine ⟨MI_k j334 zr101 h104, ?_⟩
  intro σ108 h108
  have j335 := MI_s hK j334 zr101 nr101 h104 h108 (by decide) (by simp)
  intro r110 zr110 nr110 σ113 h113
  refine ⟨MI_k j335 zr110 h113, ?_⟩
  intro σ117 h117
  have j336 := MI_s hK j335 zr110 nr110 h113 h117 (by decide) (by simp)
  intro r119 zr119 nr119 σ122 h122
  refine ⟨MI_k j336 zr119 h122, ?_⟩
  intro σ126 h126
  have j337 := MI_s hK j336 zr119 nr119 h122 h126 (by decide) (by simp)
  intro r128 zr128 nr128 σ131 h131
  refine ⟨MI_k j337 zr128 h131, ?_⟩
  intro σ135 h135
  have j338 := MI_s hK j337 zr128 nr128 h131 h135 (by decide) (by simp)
  intro r137 zr137 nr137 σ140 h140
  refine ⟨MI_k j338 zr137 h140, ?_⟩
  intro σ144 h144
  have j339 := MI_s hK j338 zr137 nr137 h140 h144 (by decide) (by simp)
  intro r146 zr146 nr146 σ149 h149
  refine ⟨MI_k j339 zr146 h149, ?_⟩
  intro σ153 h153
  have j340 := MI_s hK j339 zr146 nr146 h149 h153 (by decide) (by simp)
  intro r155 zr155 nr155 σ158 h158
  refine ⟨MI_k j340 zr155 h158, ?_⟩
  intro σ162 h162
  have j341 := MI_s hK j340 zr155 nr155 h158 h162 (by decide) (by simp)
  intro r164 zr164 nr164 σ167 h167
  refine ⟨MI_k j341 zr164 h167, ?_⟩
  intro σ171 h171
  have j342 := MI_s hK j341 zr164 nr164 h167 h171 (by decide) (by simp)
  intro r173 zr173 nr173 σ176 h176
  refine ⟨MI_k j342 zr173 h176, ?_⟩
  intro σ180 h180
  have j343 := MI_s hK j342 zr173 nr173 h176 h180 (by decide) (by simp)
  intro r182 zr182 nr182 σ185 h185
  refine ⟨MI_k j343 zr182 h185, ?_⟩
  intro σ189 h189
  have j344 := MI_s hK j343 zr182 nr182 h185 h189 (by decide) (by simp)
  intro r191 zr191 nr191 σ194 h194
  refine ⟨MI_k j344 zr191 h194, ?_⟩
  intro σ198 h198
  have j345 := MI_s hK j344 zr191 nr191 h194 h198 (by decide) (by simp)
  intro r200 zr200 nr200 σ203 h203
  refine ⟨MI_k j345 zr200 h203, ?_⟩
  intro σ207 h207
  have j346 := MI_s hK j345 zr200 nr200 h203 h207 (by decide) (by simp)
  intro r209 zr209 nr209 σ212 h212
  refine ⟨MI_k j346 zr209 h212, ?_⟩
  intro σ216 h216
  have j347 := MI_s hK j346 zr209 nr209 h212 h216 (by decide) (by simp)
  intro r218 zr218 nr218 σ221 h221
  refine ⟨MI_k j347 zr218 h221, ?_⟩
  intro σ225 h225
  have j348 := MI_s hK j347 zr218 nr218 h221 h225 (by decide) (by simp)
  intro r227 zr227 nr227 σ230 h230
  refine ⟨MI_k j348 zr227 h230, ?_⟩
  intro σ234 h234
  have j349 := MI_s hK j348 zr227 nr227 h230 h234 (by decide) (by simp)
  intro r236 zr236 nr236 σ239 h239
  refine ⟨MI_k j349 zr236 h239, ?_⟩
  intro σ243 h243
  have j350 := MI_s hK j349 zr236 nr236 h239 h243 (by decide) (by simp)
  intro r245 zr245 nr245 σ248 h248
  refine ⟨MI_k j350 zr245 h248, ?_⟩
  intro σ252 h252
  have j351 := MI_s hK j350 zr245 nr245 h248 h252 (by decide) (by simp)
  intro r254 zr254 nr254 σ257 h257
  refine ⟨MI_k j351 zr254 h257, ?_⟩
  intro σ261 h261
  have j352 := MI_s hK j351 zr254 nr254 h257 h261 (by decide) (by simp)
  intro r263 zr263 nr263 σ266 h266
  refine ⟨MI_k j352 zr263 h266, ?_⟩
  intro σ270 h270
  have j353 := MI_s hK j352 zr263 nr263 h266 h270 (by decide) (by simp)
  intro σ272 h272
  have j354 := MI_I j353 h272
  intro r274 zr274 nr274 σ277 h277
  refine ⟨MI_k j354 zr274 h277, ?_⟩
  intro σ281 h281
  have j356 := MI_s hK j354 zr274 nr274 h277 h281 (by decide) (by simp)
  obtain ⟨B, hB, b30, hS, hz, hag⟩ := MI_MR hA ha hK j356 rfl
  obtain ⟨i1, i2, -, -, i6⟩ := j356
  obtain ⟨a1, a2, a3⟩ := m328 hS
  refine ⟨fun n x σ3 => ∃ k : Nat, x = k ∧ k ≤ 3 ∧ n = 3 - k ∧ qMc B noI (fun t _ => t = 48) σ281 σ3 ∧ ∀ t : Nat, t < k → gA σ3 (B 48 0) (t : Int) = 100, ⟨_, 0, rfl, Nat.zero_le _, rfl, qMc_rf, fun t z => absurd z (Nat.not_lt_zero _)⟩, ?_⟩
  rintro n x σ3 ⟨k, rfl, hk, rfl, hc, hv⟩
  have S3 := MS_c hc hS
  obtain ⟨a1, a2, a3⟩ := m328 S3
  have I3 : gI σ3 = gI σ281 := funext (fun f => funext (fun x => hc.2.2.2.2.2.1 f x (fun z => z.2)))
  subst b30
  rw [a1]
  refine ⟨by unfold qR; omega, fun hd => ⟨rfl, B, hB, ?_, rfl, hag, fun z hz' hza => ?_⟩, fun hd => ⟨S3.1, a2, ⟨by omega, by rw [a3]; omega⟩, fun σ296 h296 x298 h298 => ⟨3 - (k + 1), by omega, k + 1, by omega, by omega, rfl, qMc_tr hc (by rw [h296]; exact qMc_A rfl), fun t ht => ?_⟩⟩⟩
  · have hz3 : ∀ t ∈ mTab, t.1 ≠ 328 → ∀ i, gA σ3 (B (t.1 - 280) 0) i = 0 := fun t ht hne i => by
      have : ∀ t ∈ mTab, t.1 ≠ 328 → t.1 - 280 ≠ 48 := by decide
      rw [qMc_at hB hc (this t ht hne)]
      exact (hz t ht).2 i
    have gI3 : ∀ f, gI σ3 f (B 30 0) = if f = 354 then -1 else 0 := fun f => by
      rw [I3, i2]
      show (if f = 354 ∧ B 30 0 = B 30 0 then (-1 : Int) else gI σ f (B 30 0)) = _
      by_cases c : f = 354
      · rw [if_pos ⟨c, rfl⟩, if_pos c]
      · rw [if_neg (fun y => c y.1), if_neg c]; exact hI f
    refine ⟨⟨S3, ⟨fun p hp' => ⟨hz3 (324, 20, 10) (by decide) (by decide) _, hz3 (325, 20, 10) (by decide) (by decide) _, fun i hi => absurd hi (Nat.not_lt_zero _)⟩, fun t ht => hv t (by omega), fun q hq => absurd hq (Nat.not_lt_zero _), fun b hb => absurd hb (Nat.not_lt_zero _)⟩, fun p hp' => hz3 (327, 21, 10) (by decide) (by decide) _, fun q hq => absurd hq (Nat.not_lt_zero _), fun b hb => absurd hb (Nat.not_lt_zero _)⟩, ⟨by rw [gI3]; rfl, by rw [gI3]; rfl, by rw [gI3]; rfl⟩, ⟨by rw [gI3]; rfl, by rw [gI3]; rfl, fun i hi => absurd hi (Nat.not_lt_zero _)⟩, fun p _ hp' => hz3 (343, 20, 10) (by decide) (by decide) _, fun p hp' => absurd hp' (Nat.not_lt_zero _), fun q hq => absurd hq (Nat.not_lt_zero _)⟩
  · have q := i6 z hz' hza
    have hne : ∀ t, z = B t 0 → ¬ t = 48 := fun t e y => by
      rw [e, y] at hz'
      exact hz' (hz (328, 20, 3) (by decide)).1
    obtain ⟨c1, c2, c3, c4, c5, c6, c7⟩ := hc
    exact ⟨by rw [c1]; exact q.1, fun f => by rw [I3]; exact q.2.1 f, fun f => by rw [c4]; exact q.2.2.1 f, fun i => by rw [c7 z i hne]; exact q.2.2.2.1 i, fun i => by rw [c5]; exact q.2.2.2.2.1 i, by rw [c2]; exact q.2.2.2.2.2.1, by rw [c3]; exact q.2.2.2.2.2.2⟩
  · rw [h296, gA_at hB]
    by_cases c : t = k
    · rw [if_pos ⟨rfl, by omega⟩]
    · rw [if_neg (fun z => c (by omega))]
      exact hv t (by omega)
end
