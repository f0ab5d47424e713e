theorem t4_fits {c : Cv} {lw : Int → Option (List Int)} {fl : List Fm} {l w : Int} : T4 (S_fits c lw fl l w) := by
  unfold S_fits
  split
  · exact T4.n
  · exact T4.ite (T4.s (Nat.le_of_ble_eq_true rfl)) T4.n
theorem t4_who {c : Cv} {lw : Int → Option (List Int)} {ws : Int → Wv} {sp : List Int} : T4 (S_who c lw ws sp) := by
  unfold S_who
  generalize zwho c lw ws sp 16 = z
  exact T4.ite T4.n (T4.s (Nat.le_of_ble_eq_true rfl))
theorem R0.mpi {D : DD} {W : Nat → Nat} {N : Int} (h : R0 D W N) : MPi W := fun i hi z => by
  have := h.1.2.1.1 i 4 (by omega) (by decide) z
  omega
theorem R0.stp {D : DD} {W : Nat → Nat} {N a : Int} (h : R0 D W N) (ha : 0 ≤ a ∧ a ≤ 3) : ∀ i, -1 ≤ zstepAt (wkm D a) i ∧ zstepAt (wkm D a) i ≤ 999 := (h.2.2.2.2.1 a ha.1 ha.2).2.at
/-! ===== each asking call (by program: the same eight lines) ===== -/
section JSK
variable {n1 : Nat} {D : DD} {W : Nat → Nat} {N : Int} {a v k x : Int}
theorem J_would (h : R0 D W N) (t : RT D) : Both n1 D W N mX9_would mX10_would [vi a, vi v] := by
  refine Both.ask h t (T4.ite (T4.s (Nat.le_of_ble_eq_true rfl)) T4.n) (Cl.wk (C_would (d := 213) h.1.1) (fun r m => whg h.1.1)) (fun D1 W1 h1 lw m mr => ?_)
  obtain ⟨e1, e2⟩ := h.hl m
  obtain ⟨-, wk, -, sp, fl, mt⟩ := m_sees m
  have q := C_mwould (d := 89) (D := D1) (W := W1) (n1 := n1) (a := a) (v := v) mr
  rw [e1, e2, wk, we_would h.we] at q
  exact q
theorem J_full (h : R0 D W N) (t : RT D) : Both n1 D W N mX9_full mX10_full [vi a] := by
  refine Both.ask h t (by unfold S_full; intro l e; cases e) (Cl.wk (C_full (d := 213) h.1.1) (fun r m => whg h.1.1)) (fun D1 W1 h1 lw m mr => ?_)
  obtain ⟨e1, e2⟩ := h.hl m
  obtain ⟨-, wk, -, sp, fl, mt⟩ := m_sees m
  have q := C_mfull (d := 89) (D := D1) (W := W1) (n1 := n1) (a := a) mr
  rw [e1, e2, wk, we_full h.we] at q
  exact q
theorem J_layers (h : R0 D W N) (t : RT D) : Both n1 D W N mX9_layers mX10_layers [vi a] := by
  refine Both.ask h t (by unfold S_layers; intro l e; cases e) (Cl.wk (C_layers (d := 213) h.1.1) (fun r m => whg h.1.1)) (fun D1 W1 h1 lw m mr => ?_)
  obtain ⟨e1, e2⟩ := h.hl m
  obtain ⟨-, wk, -, sp, fl, mt⟩ := m_sees m
  have q := C_mlayers (d := 88) (D := D1) (W := W1) (n1 := n1) (a := a) mr
  rw [e1, e2, wk, we_layers h.we] at q
  exact q
theorem J_lid (h : R0 D W N) (t : RT D) : Both n1 D W N mX9_lid mX10_lid [vi a, vi v] := by
  refine Both.ask h t (by unfold S_lid; intro l e; cases e) (Cl.wk (C_lid (d := 213) h.1.1) (fun r m => whg h.1.1)) (fun D1 W1 h1 lw m mr => ?_)
  obtain ⟨e1, e2⟩ := h.hl m
  obtain ⟨-, wk, -, sp, fl, mt⟩ := m_sees m
  have q := C_mlid (d := 88) (D := D1) (W := W1) (n1 := n1) (a := a) (much := v) mr
  rw [e1, e2, wk, we_lid h.we] at q
  exact q
theorem J_best (h : R0 D W N) (t : RT D) : Both n1 D W N mX9_best mX10_best [vi a, vi v] := by
  refine Both.ask h t (T4.ite (T4.s (Nat.le_of_ble_eq_true rfl)) T4.n) (Cl.wk (C_best (d := 213) h.1.1) (fun r m => whg h.1.1)) (fun D1 W1 h1 lw m mr => ?_)
  obtain ⟨e1, e2⟩ := h.hl m
  obtain ⟨-, wk, -, sp, fl, mt⟩ := m_sees m
  have q := C_mbest (d := 89) (D := D1) (W := W1) (n1 := n1) (a := a) (gap := v) mr
  rw [e1, e2, wk, we_best h.we] at q
  exact q
theorem J_turn (h : R0 D W N) (t : RT D) : Both n1 D W N mX9_turn mX10_turn [vi a, vi v] := by
  refine Both.ask h t (T4.ite (T4.s (Nat.le_of_ble_eq_true rfl)) T4.n) (Cl.wk (C_turn (d := 213) h.1.1) (fun r m => whg h.1.1)) (fun D1 W1 h1 lw m mr => ?_)
  obtain ⟨e1, e2⟩ := h.hl m
  obtain ⟨-, wk, -, sp, fl, mt⟩ := m_sees m
  have q := C_mturn (d := 89) (D := D1) (W := W1) (n1 := n1) (a := a) (t := v) mr
  rw [e1, e2, wk, we_turn h.we] at q
  exact q
theorem J_door (h : R0 D W N) (t : RT D) : Both n1 D W N mX9_door mX10_door [vi a] := by
  refine Both.ask h t (T4.ite (T4.s (Nat.le_of_ble_eq_true rfl)) T4.n) (Cl.wk (C_door (d := 213) h.1.1) (fun r m => whg h.1.1)) (fun D1 W1 h1 lw m mr => ?_)
  obtain ⟨e1, e2⟩ := h.hl m
  obtain ⟨-, wk, -, sp, fl, mt⟩ := m_sees m
  have q := C_mdoor (d := 89) (D := D1) (W := W1) (n1 := n1) (a := a) mr
  rw [e1, e2, wk, we_door h.we] at q
  exact q
theorem J_two (h : R0 D W N) (t : RT D) : Both n1 D W N mX9_two mX10_two [vi a] := by
  refine Both.ask h t (T4.ite (T4.s (Nat.le_of_ble_eq_true rfl)) T4.n) (Cl.wk (C_two (d := 213) h.1.1) (fun r m => whg h.1.1)) (fun D1 W1 h1 lw m mr => ?_)
  obtain ⟨e1, e2⟩ := h.hl m
  obtain ⟨-, wk, -, sp, fl, mt⟩ := m_sees m
  have q := C_mtwo (d := 89) (D := D1) (W := W1) (n1 := n1) (a := a) mr
  rw [e1, e2, wk, we_two h.we] at q
  exact q
theorem J_pause (h : R0 D W N) (t : RT D) : Both n1 D W N mX9_pause mX10_pause [vi a, vi v] := by
  refine Both.ask h t (T4.ite (T4.s (Nat.le_of_ble_eq_true rfl)) T4.n) (Cl.wk (C_pause (d := 213) h.1.1) (fun r m => whg h.1.1)) (fun D1 W1 h1 lw m mr => ?_)
  obtain ⟨e1, e2⟩ := h.hl m
  obtain ⟨-, wk, -, sp, fl, mt⟩ := m_sees m
  have q := C_mpause (d := 89) (D := D1) (W := W1) (n1 := n1) (a := a) (t := v) mr
  rw [e1, e2, wk, we_pause h.we] at q
  exact q
theorem J_far (h : R0 D W N) (t : RT D) : Both n1 D W N mX9_far mX10_far [vi a, vi v] := by
  refine Both.ask h t (by unfold S_far; intro l e; cases e) (Cl.wk (C_far (d := 213) h.1.1 (by have := h.2.2.2.2.2.2.1.2.1; omega)) (fun r m => whg h.1.1)) (fun D1 W1 h1 lw m mr => ?_)
  obtain ⟨e1, e2⟩ := h.hl m
  obtain ⟨-, wk, -, sp, fl, mt⟩ := m_sees m
  have q := C_mfar (d := 88) (D := D1) (W := W1) (n1 := n1) (a := a) (h := v) mr (by rw [m 152 (by decide)]; exact h.2.2.2.2.2.2.1.2.1.2.1) (by rw [m 152 (by decide)]; exact h.2.2.2.2.2.2.1.2.1.2.2.1)
  rw [e1, wk, sp, ← h.2.2.2.2.2.2.1.2.1.2.2.2.1, we_far h.we] at q
  exact q
theorem J_who (h : R0 D W N) (t : RT D) : Both n1 D W N mX9_who mX10_who [] := by
  refine Both.ask h t t4_who (Cl.wk (C_who (d := 213) h.1.1 (by have := h.2.2.2.2.2.2.1.2.1; omega)) (fun r m => whg h.1.1)) (fun D1 W1 h1 lw m mr => ?_)
  obtain ⟨e1, e2⟩ := h.hl m
  obtain ⟨-, wk, -, sp, fl, mt⟩ := m_sees m
  have q := C_mwho (d := 88) (D := D1) (W := W1) (n1 := n1) mr (by rw [m 152 (by decide)]; exact h.2.2.2.2.2.2.1.2.1.2.1) (by rw [m 152 (by decide)]; exact h.2.2.2.2.2.2.1.2.1.2.2.1) (by rw [sp]; exact h.2.2.2.2.2.2.1.2.1.2.2.2.2)
  rw [e1, wk, sp, ← h.2.2.2.2.2.2.1.2.1.2.2.2.1, we_who h.we] at q
  exact q
theorem J_helps (h : R0 D W N) (t : RT D) : Both n1 D W N mX9_helps mX10_helps [vi a, vi v] := by
  refine Both.ask h t (T4.ite (T4.s (Nat.le_of_ble_eq_true rfl)) T4.n) (Cl.wk (C_helps (d := 213) h.1.1) (fun r m => whg h.1.1)) (fun D1 W1 h1 lw m mr => ?_)
  obtain ⟨e1, e2⟩ := h.hl m
  obtain ⟨-, wk, -, sp, fl, mt⟩ := m_sees m
  have q := C_mhelps (d := 89) (D := D1) (W := W1) (n1 := n1) (a := a) (l := v) mr
  rw [e1, wk, we_helps h.we] at q
  exact q
theorem J_off (h : R0 D W N) (t : RT D) : Both n1 D W N mX9_off mX10_off [vi a, vi v, vi k] := by
  refine Both.ask h t (T4.ite (T4.s (Nat.le_of_ble_eq_true rfl)) T4.n) (Cl.wk (C_off (d := 213) h.1.1) (fun r m => whg h.1.1)) (fun D1 W1 h1 lw m mr => ?_)
  obtain ⟨e1, e2⟩ := h.hl m
  obtain ⟨-, wk, -, sp, fl, mt⟩ := m_sees m
  have q := C_moff (d := 175) (D := D1) (W := W1) (n1 := n1) (tilt := a) (n := v) (k := k) mr
  rw [e1] at q
  exact q
theorem J_swing (h : R0 D W N) (t : RT D) : Both n1 D W N mX9_swing mX10_swing [vi a] := by
  refine Both.ask h t (T4.ite (T4.ite T4.n (T4.s (Nat.le_of_ble_eq_true rfl))) T4.n) (Cl.wk (C_swing (d := 213) h.1.1) (fun r m => whg h.1.1)) (fun D1 W1 h1 lw m mr => ?_)
  obtain ⟨e1, e2⟩ := h.hl m
  obtain ⟨-, wk, -, sp, fl, mt⟩ := m_sees m
  have q := C_mswing (d := 215) (D := D1) (W := W1) (n1 := n1) (tilt := a) mr
  rw [e1] at q
  exact q
theorem J_dies (h : R0 D W N) (t : RT D) : Both n1 D W N mX9_dies mX10_dies [vi a, vi v] := by
  refine Both.ask h t (by unfold S_dies; intro l e; cases e) (Cl.wk (C_dies (d := 213) h.1.1) (fun r m => whg h.1.1)) (fun D1 W1 h1 lw m mr => ?_)
  obtain ⟨e1, e2⟩ := h.hl m
  obtain ⟨-, wk, -, sp, fl, mt⟩ := m_sees m
  have q := C_mdies (d := 215) (D := D1) (W := W1) (n1 := n1) (tilt := a) (part := v) mr
  rw [e1] at q
  exact q
theorem J_odds (h : R0 D W N) (t : RT D) : Both n1 D W N mX9_odds mX10_odds [vi a, vi v] := by
  refine Both.ask h t (T4.ite (T4.s (Nat.le_of_ble_eq_true rfl)) T4.n) (Cl.wk (C_odds (d := 213) h.1.1) (fun r m => whg h.1.1)) (fun D1 W1 h1 lw m mr => ?_)
  obtain ⟨e1, e2⟩ := h.hl m
  obtain ⟨-, wk, -, sp, fl, mt⟩ := m_sees m
  have q := C_modds (d := 89) (D := D1) (W := W1) (n1 := n1) (a := a) (n := v) mr (by rw [wk]; exact fun z => h.stp z)
  rw [e1, e2, wk, we_odds h.we] at q
  exact q
theorem J_few (h : R0 D W N) (t : RT D) : Both n1 D W N mX9_few mX10_few [vi a, vi v] := by
  refine Both.ask h t (T4.ite (T4.ite (T4.s (Nat.le_of_ble_eq_true rfl)) (T4.ite (T4.s (Nat.le_of_ble_eq_true rfl)) (T4.ite (T4.s (Nat.le_of_ble_eq_true rfl)) T4.n))) T4.n) (Cl.wk (C_few (d := 213) h.1.1) (fun r m => whg h.1.1)) (fun D1 W1 h1 lw m mr => ?_)
  obtain ⟨e1, e2⟩ := h.hl m
  obtain ⟨-, wk, -, sp, fl, mt⟩ := m_sees m
  have q := C_mfew (d := 89) (D := D1) (W := W1) (n1 := n1) (a := a) (x := v) mr
  rw [e1, e2, wk, we_few h.we] at q
  exact q
theorem J_form (h : R0 D W N) (t : RT D) : Both n1 D W N mX9_form mX10_form [vi v] := by
  refine Both.ask h t (by unfold S_form; intro l e; cases e) (Cl.wk (C_form (d := 213) h.1.1) (fun r m => whg h.1.1)) (fun D1 W1 h1 lw m mr => ?_)
  obtain ⟨e1, e2⟩ := h.hl m
  obtain ⟨-, wk, -, sp, fl, mt⟩ := m_sees m
  have q := C_mform (d := 89) (D := D1) (W := W1) (n1 := n1) (bits := v) mr
  rw [e1, e2, wk, we_form h.we] at q
  exact q
theorem J_worst (h : R0 D W N) (t : RT D) : Both n1 D W N mX9_worst mX10_worst [vi v] := by
  refine Both.ask h t (T4.ite (T4.s (Nat.le_of_ble_eq_true rfl)) T4.n) (Cl.wk (C_worst (d := 213) h.1.1 h.mpi) (fun r m => whg2)) (fun D1 W1 h1 lw m mr => ?_)
  obtain ⟨e1, e2⟩ := h.hl m
  obtain ⟨-, wk, -, sp, fl, mt⟩ := m_sees m
  have q := C_mworst (d := 90) (D := D1) (W := W1) (n1 := n1) (push := v) mr
  rw [e1, e2] at q
  exact q
theorem J_stop (h : R0 D W N) (t : RT D) : Both n1 D W N mX9_stop mX10_stop [vi v] := by
  refine Both.ask h t (T4.ite (zstop_T4 200 1) T4.n) (Cl.wk (C_stop (d := 213) h.1.1 h.mpi) (fun r m => whg2)) (fun D1 W1 h1 lw m mr => ?_)
  obtain ⟨e1, e2⟩ := h.hl m
  obtain ⟨-, wk, -, sp, fl, mt⟩ := m_sees m
  have q := C_mstop (d := 215) (D := D1) (W := W1) (n1 := n1) (speed := v) mr
  rw [e1] at q
  exact q
theorem J_plan (h : R0 D W N) (t : RT D) : Both n1 D W N mX9_plan mX10_plan [vi v] := by
  refine Both.ask h t t4_plan (Cl.wk (C_plan (d := 209) h.1.1 (fun j j0 j1 => by obtain ⟨q1, q2, q3⟩ := h.2.2.2.2.2.2.1.1 j j0 j1; omega)) (fun r m => id)) (fun D1 W1 h1 lw m mr => ?_)
  obtain ⟨e1, e2⟩ := h.hl m
  obtain ⟨-, wk, -, sp, fl, mt⟩ := m_sees m
  have q := C_mplan (d := 85) (D := D1) (W := W1) (n1 := n1) (goal := v) mr (fun j j0 j1 => by rw [mt]; exact (h.2.2.2.2.2.2.1.1 j j0 j1).2)
  rw [e1, e2, wk, mt, we_plan h.we (fun j j0 j1 => (h.2.2.2.2.2.2.1.1 j j0 j1).1.symm)] at q
  exact q
theorem J_fits (h : R0 D W N) (t : RT D) : Both n1 D W N mX9_fits mX10_fits [vi a, vi v] := by
  refine Both.ask h t t4_fits (Cl.wk (C_fits (d := 213) h.1.1 (by have := h.2.2.2.2.2.2.1.2.2; omega) (by have := h.2.2.2.2.2.2.1.2.2; omega)) (fun r m => whg h.1.1)) (fun D1 W1 h1 lw m mr => ?_)
  obtain ⟨e1, e2⟩ := h.hl m
  obtain ⟨-, wk, -, sp, fl, mt⟩ := m_sees m
  have q := C_mfits (d := 92) (D := D1) (W := W1) (n1 := n1) (l := a) (within := v) mr (by rw [m 152 (by decide)]; exact h.2.2.2.2.2.2.1.2.2.2.1) (by rw [m 152 (by decide)]; exact h.2.2.2.2.2.2.1.2.2.2.2.1) (by rw [fl]; exact h.2.2.2.2.2.2.1.2.2.2.2.2.2)
  rw [e1, fl, ← h.2.2.2.2.2.2.1.2.2.2.2.2.1] at q
  exact q
theorem J_reads (h : R0 D W N) (t : RT D) : Both n1 D W N mX9_reads mX10_reads [] := by
  refine Both.ask h t (T4.ite T4.n (T4.s (Nat.le_of_ble_eq_true rfl))) (Cl.wk (C_reads (d := 213) h.1.1 (by have := h.2.2.2.2.2.2.1.2.2; omega) (by have := h.2.2.2.2.2.2.1.2.2; omega)) (fun r m => whg h.1.1)) (fun D1 W1 h1 lw m mr => ?_)
  obtain ⟨e1, e2⟩ := h.hl m
  obtain ⟨-, wk, -, sp, fl, mt⟩ := m_sees m
  have q := C_mreads (d := 217) (D := D1) (W := W1) (n1 := n1) (by rw [m 152 (by decide)]; exact h.2.2.2.2.2.2.1.2.2.2.1) (by rw [m 152 (by decide)]; exact h.2.2.2.2.2.2.1.2.2.2.2.1) (by rw [fl]; exact h.2.2.2.2.2.2.1.2.2.2.2.2.2)
  rw [fl, ← h.2.2.2.2.2.2.1.2.2.2.2.2.1] at q
  exact q
theorem J_steps (h : R0 D W N) (t : RT D) : Both n1 D W N mX9_steps mX10_steps [vi a] := by
  refine Both.ask h t (T4.ite (T4.s (Nat.le_of_ble_eq_true rfl)) T4.n) (Cl.wk (C_steps (d := 213) h.1.1) (fun r m => whg h.1.1)) (fun D1 W1 h1 lw m mr => ?_)
  obtain ⟨e1, e2⟩ := h.hl m
  obtain ⟨-, wk, -, sp, fl, mt⟩ := m_sees m
  have q := C_msteps (d := 218) (D := D1) (W := W1) (n1 := n1) (a := a) (fun i i0 i1 => mr.2.2.2.2 i i0 i1)
  rw [wk, we_steps h.we] at q
  exact Cl.wk q (fun r m => was_m)
end JSK
