/-! printed: the law's wrappers by the book -/
section
variable {g : qG} {l : Launch} {A : Nat → Nat → Nat} {L : Nat} {s : Int → Int} {D : qD} {σ : qS}
theorem lw_L_answer (hl : l.stackTraces = false) {b o : Int} (J : LK A L s D D σ) (hw : WF D) (hk : (kp D).length < 512) (hq_b : qR b) (hq_o : qR o) : qMet g l M_L_answer [vr (A 0 0), vi b, vi o, vr (A 31 0)] σ (qTi0 (qLw A L s D c2 (o_answer D b o) (d_answer D b o))) := by
  refine wm_L_answer hl J.2.1.1.1 (spec_answer hl J.1 J.2.1 hw.1 hq_b hq_o) (lw_v J) (fun σ' n hq => ?_)
  obtain ⟨ho, h⟩ := lw_x (c := c2) J σ' n hq
  revert h
  unfold o_answer cif at ho
  (repeat' split at ho) <;> cases ho <;> intro h <;> first | exact ⟨rfl, h⟩ | exact Or.inl ⟨rfl, h⟩ | exact Or.inr ⟨rfl, h⟩ | exact Or.inr (Or.inl ⟨rfl, h⟩) | exact Or.inr (Or.inr ⟨rfl, h⟩)
theorem lw_L_balloon (hl : l.stackTraces = false) {q i v : Int} (J : LK A L s D D σ) (hw : WF D) (hk : (kp D).length < 512) (hq_q : qR q) (hq_i : qR i) (hq_v : qR v) : qMet g l M_L_balloon [vr (A 0 0), vi q, vi i, vi v, vr (A 31 0)] σ (qTi0 (qLw A L s D c3 (o_balloon D q i v) (d_balloon D q i v))) := by
  refine wm_L_balloon hl J.2.1.1.1 (spec_balloon hl J.1 J.2.1 hw hq_q hq_i hq_v) (lw_v J) (fun σ' n hq => ?_)
  obtain ⟨ho, h⟩ := lw_x (c := c3) J σ' n hq
  revert h
  unfold o_balloon cif at ho
  (repeat' split at ho) <;> cases ho <;> intro h <;> first | exact ⟨rfl, h⟩ | exact Or.inl ⟨rfl, h⟩ | exact Or.inr ⟨rfl, h⟩ | exact Or.inr (Or.inl ⟨rfl, h⟩) | exact Or.inr (Or.inr ⟨rfl, h⟩)
theorem lw_L_beside (hl : l.stackTraces = false) {p z : Int} (J : LK A L s D D σ) (hw : WF D) (hk : (kp D).length < 512) (hq_p : qR p) (hq_z : qR z) : qMet g l M_L_beside [vr (A 0 0), vi p, vi z, vr (A 31 0)] σ (qTi0 (qLw A L s D c2 (o_beside D p z) D)) := by
  refine wm_L_beside hl J.2.1.1.1 (spec_beside hl J.2.1 hw.1 hq_p hq_z) (fun σ' v hq => lw_v J σ' v (qQo_P J hq)) (fun σ' n hq => ?_)
  obtain ⟨ho, h⟩ := lw_x (c := c2) J σ' n (qQo_P J hq)
  revert h
  unfold o_beside cif at ho
  (repeat' split at ho) <;> cases ho <;> intro h <;> first | exact ⟨rfl, h⟩ | exact Or.inl ⟨rfl, h⟩ | exact Or.inr ⟨rfl, h⟩ | exact Or.inr (Or.inl ⟨rfl, h⟩) | exact Or.inr (Or.inr ⟨rfl, h⟩)
theorem lw_L_cell (hl : l.stackTraces = false) {q x y : Int} (J : LK A L s D D σ) (hw : WF D) (hk : (kp D).length < 512) (hq_q : qR q) (hq_x : qR x) (hq_y : qR y) : qMet g l M_L_cell [vr (A 0 0), vi q, vi x, vi y, vr (A 31 0)] σ (qTi0 (qLw A L s D c2 (o_cell D q x y) D)) := by
  refine wm_L_cell hl J.2.1.1.1 (spec_cell hl J.1 J.2.1 hw hq_q hq_x hq_y) (fun σ' v hq => lw_v J σ' v (qQo_P J hq)) (fun σ' n hq => ?_)
  obtain ⟨ho, h⟩ := lw_x (c := c2) J σ' n (qQo_P J hq)
  revert h
  unfold o_cell cif at ho
  (repeat' split at ho) <;> cases ho <;> intro h <;> first | exact ⟨rfl, h⟩ | exact Or.inl ⟨rfl, h⟩ | exact Or.inr ⟨rfl, h⟩ | exact Or.inr (Or.inl ⟨rfl, h⟩) | exact Or.inr (Or.inr ⟨rfl, h⟩)
theorem lw_L_cutBalloon (hl : l.stackTraces = false) {b : Int} (J : LK A L s D D σ) (hw : WF D) (hk : (kp D).length < 512) (hq_b : qR b) : qMet g l M_L_cutBalloon [vr (A 0 0), vi b, vr (A 31 0)] σ (qTi0 (qLw A L s D c2 (o_cutBalloon D b) (d_cutBalloon D b))) := by
  refine wm_L_cutBalloon hl J.2.1.1.1 (spec_cutBalloon hl J.1 J.2.1 hw hq_b) (lw_v J) (fun σ' n hq => ?_)
  obtain ⟨ho, h⟩ := lw_x (c := c2) J σ' n hq
  revert h
  unfold o_cutBalloon cif at ho
  (repeat' split at ho) <;> cases ho <;> intro h <;> first | exact ⟨rfl, h⟩ | exact Or.inl ⟨rfl, h⟩ | exact Or.inr ⟨rfl, h⟩ | exact Or.inr (Or.inl ⟨rfl, h⟩) | exact Or.inr (Or.inr ⟨rfl, h⟩)
theorem lw_L_cutPanel (hl : l.stackTraces = false) {q : Int} (J : LK A L s D D σ) (hw : WF D) (hk : (kp D).length < 512) (hq_q : qR q) : qMet g l M_L_cutPanel [vr (A 0 0), vi q, vr (A 31 0)] σ (qTi0 (qLw A L s D c2 (o_cutPanel D q) (d_cutPanel D q))) := by
  refine wm_L_cutPanel hl J.2.1.1.1 (spec_cutPanel hl J.1 J.2.1 hw (Nat.le_of_lt hk) hq_q) (lw_v J) (fun σ' n hq => ?_)
  obtain ⟨ho, h⟩ := lw_x (c := c2) J σ' n hq
  revert h
  unfold o_cutPanel cif at ho
  (repeat' split at ho) <;> cases ho <;> intro h <;> first | exact ⟨rfl, h⟩ | exact Or.inl ⟨rfl, h⟩ | exact Or.inr ⟨rfl, h⟩ | exact Or.inr (Or.inl ⟨rfl, h⟩) | exact Or.inr (Or.inr ⟨rfl, h⟩)
theorem lw_L_depth (hl : l.stackTraces = false) {b : Int} (J : LK A L s D D σ) (hw : WF D) (hk : (kp D).length < 512) (hq_b : qR b) : qMet g l M_L_depth [vr (A 0 0), vi b, vr (A 31 0)] σ (qTi0 (qLw A L s D c2 (o_depth D b) D)) := by
  refine wm_L_depth hl J.2.1.1.1 (spec_depth hl J.1 J.2.1 hw.1 hq_b) (fun σ' v hq => lw_v J σ' v (qQo_P J hq)) (fun σ' n hq => ?_)
  obtain ⟨ho, h⟩ := lw_x (c := c2) J σ' n (qQo_P J hq)
  revert h
  unfold o_depth cif at ho
  (repeat' split at ho) <;> cases ho <;> intro h <;> first | exact ⟨rfl, h⟩ | exact Or.inl ⟨rfl, h⟩ | exact Or.inr ⟨rfl, h⟩ | exact Or.inr (Or.inl ⟨rfl, h⟩) | exact Or.inr (Or.inr ⟨rfl, h⟩)
theorem lw_L_face (hl : l.stackTraces = false) {q x y z : Int} (J : LK A L s D D σ) (hw : WF D) (hk : (kp D).length < 512) (hq_q : qR q) (hq_x : qR x) (hq_y : qR y) (hq_z : qR z) : qMet g l M_L_face [vr (A 0 0), vi q, vi x, vi y, vi z, vr (A 31 0)] σ (qTi0 (qLw A L s D c3 (o_face D q x y z) (d_face D q x y z))) := by
  refine wm_L_face hl J.2.1.1.1 (spec_face hl J.1 J.2.1 hw hq_q hq_x hq_y hq_z) (lw_v J) (fun σ' n hq => ?_)
  obtain ⟨ho, h⟩ := lw_x (c := c3) J σ' n hq
  revert h
  unfold o_face cif at ho
  (repeat' split at ho) <;> cases ho <;> intro h <;> first | exact ⟨rfl, h⟩ | exact Or.inl ⟨rfl, h⟩ | exact Or.inr ⟨rfl, h⟩ | exact Or.inr (Or.inl ⟨rfl, h⟩) | exact Or.inr (Or.inr ⟨rfl, h⟩)
theorem lw_L_floats (hl : l.stackTraces = false) {q w : Int} (J : LK A L s D D σ) (hw : WF D) (hk : (kp D).length < 512) (hq_q : qR q) (hq_w : qR w) : qMet g l M_L_floats [vr (A 0 0), vi q, vi w, vr (A 31 0)] σ (qTi0 (qLw A L s D c2 (o_floats D q w) D)) := by
  refine wm_L_floats hl J.2.1.1.1 (spec_floats hl J.2.1 hw.1 hq_q hq_w) (fun σ' v hq => lw_v J σ' v (qQo_P J hq)) (fun σ' n hq => ?_)
  obtain ⟨ho, h⟩ := lw_x (c := c2) J σ' n (qQo_P J hq)
  revert h
  unfold o_floats cif at ho
  (repeat' split at ho) <;> cases ho <;> intro h <;> first | exact ⟨rfl, h⟩ | exact Or.inl ⟨rfl, h⟩ | exact Or.inr ⟨rfl, h⟩ | exact Or.inr (Or.inl ⟨rfl, h⟩) | exact Or.inr (Or.inr ⟨rfl, h⟩)
theorem lw_L_jump (hl : l.stackTraces = false) {q : Int} (J : LK A L s D D σ) (hw : WF D) (hk : (kp D).length < 512) (hq_q : qR q) : qMet g l M_L_jump [vr (A 0 0), vi q, vr (A 31 0)] σ (qTi0 (qLw A L s D c2 (o_jump D q) (d_jump D q))) := by
  refine wm_L_jump hl J.2.1.1.1 (spec_jump hl J.1 J.2.1 hw.1 hk hq_q) (lw_v J) (fun σ' n hq => ?_)
  obtain ⟨ho, h⟩ := lw_x (c := c2) J σ' n hq
  revert h
  unfold o_jump cif at ho
  (repeat' split at ho) <;> cases ho <;> intro h <;> first | exact ⟨rfl, h⟩ | exact Or.inl ⟨rfl, h⟩ | exact Or.inr ⟨rfl, h⟩ | exact Or.inr (Or.inl ⟨rfl, h⟩) | exact Or.inr (Or.inr ⟨rfl, h⟩)
theorem lw_L_leaf (hl : l.stackTraces = false) {p z : Int} (J : LK A L s D D σ) (hw : WF D) (hk : (kp D).length < 512) (hq_p : qR p) (hq_z : qR z) : qMet g l M_L_leaf [vr (A 0 0), vi p, vi z, vr (A 31 0)] σ (qTi0 (qLw A L s D c2 (o_leaf D p z) D)) := by
  refine wm_L_leaf hl J.2.1.1.1 (spec_leaf hl J.2.1 hw.1 hq_p hq_z) (fun σ' v hq => lw_v J σ' v (qQo_P J hq)) (fun σ' n hq => ?_)
  obtain ⟨ho, h⟩ := lw_x (c := c2) J σ' n (qQo_P J hq)
  revert h
  unfold o_leaf cif at ho
  (repeat' split at ho) <;> cases ho <;> intro h <;> first | exact ⟨rfl, h⟩ | exact Or.inl ⟨rfl, h⟩ | exact Or.inr ⟨rfl, h⟩ | exact Or.inr (Or.inl ⟨rfl, h⟩) | exact Or.inr (Or.inr ⟨rfl, h⟩)
theorem lw_L_leaves (hl : l.stackTraces = false) {z : Int} (J : LK A L s D D σ) (hw : WF D) (hk : (kp D).length < 512) (hq_z : qR z) : qMet g l M_L_leaves [vr (A 0 0), vi z, vr (A 31 0)] σ (qTi0 (qLw A L s D c1 (o_leaves D z) D)) := by
  refine wm_L_leaves hl J.2.1.1.1 (spec_leaves hl J.2.1 hw.1 hq_z) (fun σ' v hq => lw_v J σ' v (qQo_P J hq)) (fun σ' n hq => ?_)
  obtain ⟨ho, h⟩ := lw_x (c := c1) J σ' n (qQo_P J hq)
  revert h
  unfold o_leaves cif at ho
  (repeat' split at ho) <;> cases ho <;> intro h <;> first | exact ⟨rfl, h⟩ | exact Or.inl ⟨rfl, h⟩ | exact Or.inr ⟨rfl, h⟩ | exact Or.inr (Or.inl ⟨rfl, h⟩) | exact Or.inr (Or.inr ⟨rfl, h⟩)
theorem lw_L_lies (hl : l.stackTraces = false) {q w : Int} (J : LK A L s D D σ) (hw : WF D) (hk : (kp D).length < 512) (hq_q : qR q) (hq_w : qR w) : qMet g l M_L_lies [vr (A 0 0), vi q, vi w, vr (A 31 0)] σ (qTi0 (qLw A L s D c2 (o_lies D q w) D)) := by
  refine wm_L_lies hl J.2.1.1.1 (spec_lies hl J.2.1 hw.1 hq_q hq_w) (fun σ' v hq => lw_v J σ' v (qQo_P J hq)) (fun σ' n hq => ?_)
  obtain ⟨ho, h⟩ := lw_x (c := c2) J σ' n (qQo_P J hq)
  revert h
  unfold o_lies cif at ho
  (repeat' split at ho) <;> cases ho <;> intro h <;> first | exact ⟨rfl, h⟩ | exact Or.inl ⟨rfl, h⟩ | exact Or.inr ⟨rfl, h⟩ | exact Or.inr (Or.inl ⟨rfl, h⟩) | exact Or.inr (Or.inr ⟨rfl, h⟩)
theorem lw_L_moveBalloon (hl : l.stackTraces = false) {b q i : Int} (J : LK A L s D D σ) (hw : WF D) (hk : (kp D).length < 512) (hq_b : qR b) (hq_q : qR q) (hq_i : qR i) : qMet g l M_L_moveBalloon [vr (A 0 0), vi b, vi q, vi i] σ (qTi0 (qLwV A L s D c2 (o_moveBalloon D b q i) (d_moveBalloon D b q i))) := by
  refine wm_L_moveBalloon hl J.2.1.1.1 (spec_moveBalloon hl J.1 J.2.1 hw hq_b hq_q hq_i) (lw_vV J) (fun σ' n hq => ?_)
  obtain ⟨ho, h⟩ := lw_xV (c := c2) J σ' n hq
  revert h
  unfold o_moveBalloon cif at ho
  (repeat' split at ho) <;> cases ho <;> intro h <;> first | exact ⟨rfl, h⟩ | exact Or.inl ⟨rfl, h⟩ | exact Or.inr ⟨rfl, h⟩ | exact Or.inr (Or.inl ⟨rfl, h⟩) | exact Or.inr (Or.inr ⟨rfl, h⟩)
theorem lw_L_movePanel (hl : l.stackTraces = false) {q i : Int} (J : LK A L s D D σ) (hw : WF D) (hk : (kp D).length < 512) (hq_q : qR q) (hq_i : qR i) : qMet g l M_L_movePanel [vr (A 0 0), vi q, vi i, vr (A 31 0)] σ (qTi0 (qLw A L s D c2 (o_movePanel D q i) (d_movePanel D q i))) := by
  refine wm_L_movePanel hl J.2.1.1.1 (spec_movePanel hl J.1 J.2.1 hw hq_q hq_i) (lw_v J) (fun σ' n hq => ?_)
  obtain ⟨ho, h⟩ := lw_x (c := c2) J σ' n hq
  revert h
  unfold o_movePanel cif at ho
  (repeat' split at ho) <;> cases ho <;> intro h <;> first | exact ⟨rfl, h⟩ | exact Or.inl ⟨rfl, h⟩ | exact Or.inr ⟨rfl, h⟩ | exact Or.inr (Or.inl ⟨rfl, h⟩) | exact Or.inr (Or.inr ⟨rfl, h⟩)
theorem lw_L_page (hl : l.stackTraces = false)  (J : LK A L s D D σ) (hw : WF D) (hk : (kp D).length < 512) : qMet g l M_L_page [vr (A 0 0), vr (A 31 0)] σ (qTi0 (qLw A L s D c0 (o_page D) (d_page D))) := by
  refine wm_L_page hl J.2.1.1.1 (spec_page hl J.1 J.2.1 hw) (lw_v J) (fun σ' n hq => ?_)
  obtain ⟨ho, h⟩ := lw_x (c := c0) J σ' n hq
  revert h
  unfold o_page cif at ho
  (repeat' split at ho) <;> cases ho <;> intro h <;> first | exact ⟨rfl, h⟩ | exact Or.inl ⟨rfl, h⟩ | exact Or.inr ⟨rfl, h⟩ | exact Or.inr (Or.inl ⟨rfl, h⟩) | exact Or.inr (Or.inr ⟨rfl, h⟩)
theorem lw_L_panel (hl : l.stackTraces = false) {p i w x y : Int} (J : LK A L s D D σ) (hw : WF D) (hk : (kp D).length < 512) (hq_p : qR p) (hq_i : qR i) (hq_w : qR w) (hq_x : qR x) (hq_y : qR y) : qMet g l M_L_panel [vr (A 0 0), vi p, vi i, vi w, vi x, vi y, vr (A 31 0)] σ (qTi0 (qLw A L s D c3 (o_panel D p i w x y) (d_panel D p i w x y))) := by
  refine wm_L_panel hl J.2.1.1.1 (spec_panel hl J.1 J.2.1 hw hq_p hq_i hq_w hq_x hq_y) (lw_v J) (fun σ' n hq => ?_)
  obtain ⟨ho, h⟩ := lw_x (c := c3) J σ' n hq
  revert h
  unfold o_panel cif at ho
  (repeat' split at ho) <;> cases ho <;> intro h <;> first | exact ⟨rfl, h⟩ | exact Or.inl ⟨rfl, h⟩ | exact Or.inr ⟨rfl, h⟩ | exact Or.inr (Or.inl ⟨rfl, h⟩) | exact Or.inr (Or.inr ⟨rfl, h⟩)
theorem lw_L_panelAt (hl : l.stackTraces = false) {p i : Int} (J : LK A L s D D σ) (hw : WF D) (hk : (kp D).length < 512) (hq_p : qR p) (hq_i : qR i) : qMet g l M_L_panelAt [vr (A 0 0), vi p, vi i, vr (A 31 0)] σ (qTi0 (qLw A L s D c2 (o_panelAt D p i) D)) := by
  refine wm_L_panelAt hl J.2.1.1.1 (spec_panelAt hl J.2.1 hw.1 hq_p hq_i) (fun σ' v hq => lw_v J σ' v (qQo_P J hq)) (fun σ' n hq => ?_)
  obtain ⟨ho, h⟩ := lw_x (c := c2) J σ' n (qQo_P J hq)
  revert h
  unfold o_panelAt cif at ho
  (repeat' split at ho) <;> cases ho <;> intro h <;> first | exact ⟨rfl, h⟩ | exact Or.inl ⟨rfl, h⟩ | exact Or.inr ⟨rfl, h⟩ | exact Or.inr (Or.inl ⟨rfl, h⟩) | exact Or.inr (Or.inr ⟨rfl, h⟩)
theorem lw_L_panels (hl : l.stackTraces = false) {p : Int} (J : LK A L s D D σ) (hw : WF D) (hk : (kp D).length < 512) (hq_p : qR p) : qMet g l M_L_panels [vr (A 0 0), vi p, vr (A 31 0)] σ (qTi0 (qLw A L s D c2 (o_panels D p) D)) := by
  refine wm_L_panels hl J.2.1.1.1 (spec_panels hl J.2.1 hw.1 hq_p) (fun σ' v hq => lw_v J σ' v (qQo_P J hq)) (fun σ' n hq => ?_)
  obtain ⟨ho, h⟩ := lw_x (c := c2) J σ' n (qQo_P J hq)
  revert h
  unfold o_panels cif at ho
  (repeat' split at ho) <;> cases ho <;> intro h <;> first | exact ⟨rfl, h⟩ | exact Or.inl ⟨rfl, h⟩ | exact Or.inr ⟨rfl, h⟩ | exact Or.inr (Or.inl ⟨rfl, h⟩) | exact Or.inr (Or.inr ⟨rfl, h⟩)
theorem lw_L_placeByPairs (hl : l.stackTraces = false) {b : Int} (J : LK A L s D D σ) (hw : WF D) (hk : (kp D).length < 512) (hq_b : qR b) : qMet g l M_L_placeByPairs [vr (A 0 0), vi b, vr (A 31 0)] σ (qTi0 (qLw A L s D c2 (o_placeOf D b) D)) := by
  refine wm_L_placeByPairs hl J.2.1.1.1 (spec_placeByPairs hl J.1 J.2.1 hw hq_b) (fun σ' v hq => lw_v J σ' v (qQo_P J hq)) (fun σ' n hq => ?_)
  obtain ⟨ho, h⟩ := lw_x (c := c2) J σ' n (qQo_P J hq)
  revert h
  unfold o_placeOf cif at ho
  (repeat' split at ho) <;> cases ho <;> intro h <;> first | exact ⟨rfl, h⟩ | exact Or.inl ⟨rfl, h⟩ | exact Or.inr ⟨rfl, h⟩ | exact Or.inr (Or.inl ⟨rfl, h⟩) | exact Or.inr (Or.inr ⟨rfl, h⟩)
theorem lw_L_placeOf (hl : l.stackTraces = false) {b : Int} (J : LK A L s D D σ) (hw : WF D) (hk : (kp D).length < 512) (hq_b : qR b) : qMet g l M_L_placeOf [vr (A 0 0), vi b, vr (A 31 0)] σ (qTi0 (qLw A L s D c2 (o_placeOf D b) D)) := by
  refine wm_L_placeOf hl J.2.1.1.1 (spec_placeOf hl J.1 J.2.1 hw.1 hq_b) (fun σ' v hq => lw_v J σ' v (qQo_P J hq)) (fun σ' n hq => ?_)
  obtain ⟨ho, h⟩ := lw_x (c := c2) J σ' n (qQo_P J hq)
  revert h
  unfold o_placeOf cif at ho
  (repeat' split at ho) <;> cases ho <;> intro h <;> first | exact ⟨rfl, h⟩ | exact Or.inl ⟨rfl, h⟩ | exact Or.inr ⟨rfl, h⟩ | exact Or.inr (Or.inl ⟨rfl, h⟩) | exact Or.inr (Or.inr ⟨rfl, h⟩)
theorem lw_L_read (hl : l.stackTraces = false) {pl : Int} (J : LK A L s D D σ) (hw : WF D) (hk : (kp D).length < 512) (hq_pl : qR pl) : qMet g l M_L_read [vr (A 0 0), vi pl, vr (A 31 0)] σ (qTi0 (qLw A L s D c2 (o_read D pl) D)) := by
  refine wm_L_read hl J.2.1.1.1 (spec_read hl J.1 J.2.1 hw.1 hq_pl) (fun σ' v hq => lw_v J σ' v (qQo_P J hq)) (fun σ' n hq => ?_)
  obtain ⟨ho, h⟩ := lw_x (c := c2) J σ' n (qQo_P J hq)
  revert h
  unfold o_read cif at ho
  (repeat' split at ho) <;> cases ho <;> intro h <;> first | exact ⟨rfl, h⟩ | exact Or.inl ⟨rfl, h⟩ | exact Or.inr ⟨rfl, h⟩ | exact Or.inr (Or.inl ⟨rfl, h⟩) | exact Or.inr (Or.inr ⟨rfl, h⟩)
theorem lw_L_rows (hl : l.stackTraces = false) {p : Int} (J : LK A L s D D σ) (hw : WF D) (hk : (kp D).length < 512) (hq_p : qR p) : qMet g l M_L_rows [vr (A 0 0), vi p, vr (A 31 0)] σ (qTi0 (qLw A L s D c2 (o_rows D p) D)) := by
  refine wm_L_rows hl J.2.1.1.1 (spec_rows hl J.2.1 hw.1 hq_p) (fun σ' v hq => lw_v J σ' v (qQo_P J hq)) (fun σ' n hq => ?_)
  obtain ⟨ho, h⟩ := lw_x (c := c2) J σ' n (qQo_P J hq)
  revert h
  unfold o_rows cif at ho
  (repeat' split at ho) <;> cases ho <;> intro h <;> first | exact ⟨rfl, h⟩ | exact Or.inl ⟨rfl, h⟩ | exact Or.inr ⟨rfl, h⟩ | exact Or.inr (Or.inl ⟨rfl, h⟩) | exact Or.inr (Or.inr ⟨rfl, h⟩)
theorem lw_L_setGrowth (hl : l.stackTraces = false) {t v : Int} (J : LK A L s D D σ) (hw : WF D) (hk : (kp D).length < 512) (hq_t : qR t) (hq_v : qR v) : qMet g l M_L_setGrowth [vr (A 0 0), vi t, vi v, vr (A 31 0)] σ (qTi0 (qLw A L s D c1 (o_setGrowth D t v) (d_setGrowth D t v))) := by
  refine wm_L_setGrowth hl J.2.1.1.1 (spec_setGrowth hl J.1 J.2.1 hw hq_t hq_v) (lw_v J) (fun σ' n hq => ?_)
  obtain ⟨ho, h⟩ := lw_x (c := c1) J σ' n hq
  revert h
  unfold o_setGrowth cif at ho
  (repeat' split at ho) <;> cases ho <;> intro h <;> first | exact ⟨rfl, h⟩ | exact Or.inl ⟨rfl, h⟩ | exact Or.inr ⟨rfl, h⟩ | exact Or.inr (Or.inl ⟨rfl, h⟩) | exact Or.inr (Or.inr ⟨rfl, h⟩)
theorem lw_L_sheet (hl : l.stackTraces = false) {p z : Int} (J : LK A L s D D σ) (hw : WF D) (hk : (kp D).length < 512) (hq_p : qR p) (hq_z : qR z) : qMet g l M_L_sheet [vr (A 0 0), vi p, vi z, vr (A 31 0)] σ (qTi0 (qLw A L s D c2 (o_sheet D p z) D)) := by
  refine wm_L_sheet hl J.2.1.1.1 (spec_sheet hl J.2.1 hw.1 hq_p hq_z) (fun σ' v hq => lw_v J σ' v (qQo_P J hq)) (fun σ' n hq => ?_)
  obtain ⟨ho, h⟩ := lw_x (c := c2) J σ' n (qQo_P J hq)
  revert h
  unfold o_sheet cif at ho
  (repeat' split at ho) <;> cases ho <;> intro h <;> first | exact ⟨rfl, h⟩ | exact Or.inl ⟨rfl, h⟩ | exact Or.inr ⟨rfl, h⟩ | exact Or.inr (Or.inl ⟨rfl, h⟩) | exact Or.inr (Or.inr ⟨rfl, h⟩)
theorem lw_L_spread (hl : l.stackTraces = false) {p : Int} (J : LK A L s D D σ) (hw : WF D) (hk : (kp D).length < 512) (hq_p : qR p) : qMet g l M_L_spread [vr (A 0 0), vi p, vr (A 31 0)] σ (qTi0 (qLwB A L s D c2 (o_spread D p) (d_spread D p))) := by
  refine wm_L_spread hl J.2.1.1.1 (spec_spread hl J.1 J.2.1 hw.1 hq_p) (lw_vB J) (fun σ' n hq => ?_)
  obtain ⟨ho, h⟩ := lw_xB (c := c2) J σ' n hq
  revert h
  unfold o_spread cif at ho
  (repeat' split at ho) <;> cases ho <;> intro h <;> first | exact ⟨rfl, h⟩ | exact Or.inl ⟨rfl, h⟩ | exact Or.inr ⟨rfl, h⟩ | exact Or.inr (Or.inl ⟨rfl, h⟩) | exact Or.inr (Or.inr ⟨rfl, h⟩)
theorem lw_L_translate (hl : l.stackTraces = false) {p t : Int} (J : LK A L s D D σ) (hw : WF D) (hk : (kp D).length < 512) (hq_p : qR p) (hq_t : qR t) : qMet g l M_L_translate [vr (A 0 0), vi p, vi t, vr (A 31 0)] σ (qTi0 (qLw A L s D c3 (o_translate D p t) (d_translate D p t))) := by
  refine wm_L_translate hl J.2.1.1.1 (spec_translate hl J.1 J.2.1 hw hq_p hq_t) (lw_v J) (fun σ' n hq => ?_)
  obtain ⟨ho, h⟩ := lw_x (c := c3) J σ' n hq
  revert h
  unfold o_translate cif at ho
  (repeat' split at ho) <;> cases ho <;> intro h <;> first | exact ⟨rfl, h⟩ | exact Or.inl ⟨rfl, h⟩ | exact Or.inr ⟨rfl, h⟩ | exact Or.inr (Or.inl ⟨rfl, h⟩) | exact Or.inr (Or.inr ⟨rfl, h⟩)
end
