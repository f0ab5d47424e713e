/-! ===== the class's constructor (by program, wip/whole/gen_ini.py) ===== -/
section INX
variable {n1 : Nat}
theorem I_5 {d : Nat} {R : Nat → Int → Nat} {D B : DD} (hR : RI 6 [(5, 3), (5, 4), (4, 0), (4, 1), (4, 2), (4, 4), (4, 5), (4, 6), (4, 7), (4, 8), (4, 9), (4, 10), (4, 11), (4, 12), (4, 14), (4, 15)] R) (hD : DI (dS B) 6 [(5, 0), (5, 1), (5, 2)] D) : Cl (d + 1) 2 27 mX0_init [vr 5] (BM n1 6 R D) (KV (fun m => ∃ (R' : Nat → Int → Nat) (D' : DD), m = BM n1 8 R' D' ∧ RI 8 [(4, 0), (4, 1), (4, 2), (4, 4), (4, 5), (4, 6), (4, 7), (4, 8), (4, 9), (4, 10), (4, 11), (4, 12), (4, 14), (4, 15)] R' ∧ DI (dS B) 8 [] D')) := by
  refine Cl_of mb_X0_init (Nat.le_of_ble_eq_true rfl) (sg_X0_init_0 (d := d) ?_)
  repeat (refine ⟨by first | rfl | exact of_decide_eq_true rfl | exact ⟨of_decide_eq_true rfl, of_decide_eq_true rfl⟩, ?_⟩)
  intro m e
  obtain ⟨R1, D1, rfl, hR, hD⟩ := step_nm 5 0 (7) hR hD e rfl rfl (T' := [(5, 1), (5, 2)]) rfl
  repeat (refine ⟨by first | rfl | exact of_decide_eq_true rfl | exact ⟨of_decide_eq_true rfl, of_decide_eq_true rfl⟩, ?_⟩)
  intro m e
  obtain ⟨R2, D2, rfl, hR, hD⟩ := step_nm 5 1 (100) hR hD e rfl rfl (T' := [(5, 2)]) rfl
  repeat (refine ⟨by first | rfl | exact of_decide_eq_true rfl | exact ⟨of_decide_eq_true rfl, of_decide_eq_true rfl⟩, ?_⟩)
  intro m e
  obtain ⟨R3, D3, rfl, hR, hD⟩ := step_nm 5 2 (80) hR hD e rfl rfl (T' := []) rfl
  repeat (refine ⟨by first | rfl | exact of_decide_eq_true rfl | exact ⟨of_decide_eq_true rfl, of_decide_eq_true rfl⟩, ?_⟩)
  intro m e
  obtain ⟨R4, D4, rfl, hR, hD⟩ := step_nw 20 7 hR hD e rfl rfl (fun _ => rfl) (S' := [(5, 3), (5, 4), (4, 0), (4, 1), (4, 2), (4, 4), (4, 5), (4, 6), (4, 7), (4, 8), (4, 9), (4, 10), (4, 11), (4, 12), (4, 14), (4, 15)]) (T' := [(6, 0), (6, 1), (6, 3), (6, 6)]) rfl rfl
  repeat (refine ⟨by first | rfl | exact of_decide_eq_true rfl | exact ⟨of_decide_eq_true rfl, of_decide_eq_true rfl⟩, ?_⟩)
  intro m e
  obtain ⟨R5, D5, rfl, hR, hD⟩ := step_nm 6 0 (8) hR hD e rfl rfl (T' := [(6, 1), (6, 3), (6, 6)]) rfl
  repeat (refine ⟨by first | rfl | exact of_decide_eq_true rfl | exact ⟨of_decide_eq_true rfl, of_decide_eq_true rfl⟩, ?_⟩)
  intro m e
  obtain ⟨R6, D6, rfl, hR, hD⟩ := step_nm 6 1 (2) hR hD e rfl rfl (T' := [(6, 3), (6, 6)]) rfl
  repeat (refine ⟨by first | rfl | exact of_decide_eq_true rfl | exact ⟨of_decide_eq_true rfl, of_decide_eq_true rfl⟩, ?_⟩)
  intro m e
  obtain ⟨R7, D7, rfl, hR, hD⟩ := step_nm 6 2 (0) hR hD e rfl rfl (T' := [(6, 3), (6, 6)]) rfl
  repeat (refine ⟨by first | rfl | exact of_decide_eq_true rfl | exact ⟨of_decide_eq_true rfl, of_decide_eq_true rfl⟩, ?_⟩)
  intro m e
  obtain ⟨R8, D8, rfl, hR, hD⟩ := step_nm 6 3 (6) hR hD e rfl rfl (T' := [(6, 6)]) rfl
  repeat (refine ⟨by first | rfl | exact of_decide_eq_true rfl | exact ⟨of_decide_eq_true rfl, of_decide_eq_true rfl⟩, ?_⟩)
  intro m e
  obtain ⟨R9, D9, rfl, hR, hD⟩ := step_nm 6 4 (0) hR hD e rfl rfl (T' := [(6, 6)]) rfl
  repeat (refine ⟨by first | rfl | exact of_decide_eq_true rfl | exact ⟨of_decide_eq_true rfl, of_decide_eq_true rfl⟩, ?_⟩)
  intro m e
  obtain ⟨R10, D10, rfl, hR, hD⟩ := step_nm 6 5 (0) hR hD e rfl rfl (T' := [(6, 6)]) rfl
  repeat (refine ⟨by first | rfl | exact of_decide_eq_true rfl | exact ⟨of_decide_eq_true rfl, of_decide_eq_true rfl⟩, ?_⟩)
  intro m e
  obtain ⟨R11, D11, rfl, hR, hD⟩ := step_nm 6 6 (3) hR hD e rfl rfl (T' := []) rfl
  repeat (refine ⟨by first | rfl | exact of_decide_eq_true rfl | exact ⟨of_decide_eq_true rfl, of_decide_eq_true rfl⟩, ?_⟩)
  intro m e
  obtain ⟨R12, D12, rfl, hR, hD⟩ := step_rf 5 3 6 hR hD e rfl rfl (of_decide_eq_true rfl) (S' := [(5, 4), (4, 0), (4, 1), (4, 2), (4, 4), (4, 5), (4, 6), (4, 7), (4, 8), (4, 9), (4, 10), (4, 11), (4, 12), (4, 14), (4, 15)]) rfl
  repeat (refine ⟨by first | rfl | exact of_decide_eq_true rfl | exact ⟨of_decide_eq_true rfl, of_decide_eq_true rfl⟩, ?_⟩)
  intro m e
  obtain ⟨R13, D13, rfl, hR, hD⟩ := step_nw 20 20 hR hD e rfl rfl (fun _ => rfl) (S' := [(5, 4), (4, 0), (4, 1), (4, 2), (4, 4), (4, 5), (4, 6), (4, 7), (4, 8), (4, 9), (4, 10), (4, 11), (4, 12), (4, 14), (4, 15)]) (T' := [(7, 0), (7, 1), (7, 2), (7, 3), (7, 4), (7, 5), (7, 6), (7, 7), (7, 8), (7, 9), (7, 10), (7, 11), (7, 12), (7, 13), (7, 14), (7, 15), (7, 16), (7, 17), (7, 18), (7, 19)]) rfl rfl
  repeat (refine ⟨by first | rfl | exact of_decide_eq_true rfl | exact ⟨of_decide_eq_true rfl, of_decide_eq_true rfl⟩, ?_⟩)
  intro m e
  obtain ⟨R14, D14, rfl, hR, hD⟩ := step_rf 5 4 7 hR hD e rfl rfl (of_decide_eq_true rfl) (S' := [(4, 0), (4, 1), (4, 2), (4, 4), (4, 5), (4, 6), (4, 7), (4, 8), (4, 9), (4, 10), (4, 11), (4, 12), (4, 14), (4, 15)]) rfl
  repeat (refine ⟨by first | rfl | exact of_decide_eq_true rfl | exact ⟨of_decide_eq_true rfl, of_decide_eq_true rfl⟩, ?_⟩)
  rw [show mR (BM n1 8 R14 D14) 5 4 = 7 from hR.at 5 4 (of_decide_eq_true rfl) (by decide)]
  repeat (refine ⟨by first | rfl | exact of_decide_eq_true rfl | exact ⟨of_decide_eq_true rfl, of_decide_eq_true rfl⟩, ?_⟩)
  refine ⟨0, 0, _, C_fill (a := 7) (x := 100) rfl, ?_⟩
  repeat (refine ⟨by first | rfl | exact of_decide_eq_true rfl | exact ⟨of_decide_eq_true rfl, of_decide_eq_true rfl⟩, ?_⟩)
  intro m e
  obtain ⟨R15, D15, rfl, hR, hD⟩ := step_fi 7 20 (100) hR hD e rfl (T' := []) (fun t ht => (show ∀ t : Nat, t < 20 → dv 7 (t : Int) = 100 by decide) t ht) (by decide)
  first | exact ⟨rfl, _, _, rfl, hR, hD⟩ | exact ⟨rfl, ⟨_, _, rfl, hR, hD⟩⟩
theorem I_9 {d : Nat} {R : Nat → Int → Nat} {D B : DD} (hR : RI 10 [(9, 0), (9, 1), (8, 2), (8, 3), (8, 4), (4, 1), (4, 2), (4, 4), (4, 5), (4, 6), (4, 7), (4, 8), (4, 9), (4, 10), (4, 11), (4, 12), (4, 14), (4, 15)] R) (hD : DI (dS B) 10 [] D) : Cl (d) 2 40 mX4_init [vr 9] (BM n1 10 R D) (KV (fun m => ∃ (R' : Nat → Int → Nat) (D' : DD), m = BM n1 12 R' D' ∧ RI 12 [(8, 2), (8, 3), (8, 4), (4, 1), (4, 2), (4, 4), (4, 5), (4, 6), (4, 7), (4, 8), (4, 9), (4, 10), (4, 11), (4, 12), (4, 14), (4, 15)] R' ∧ DI (dS B) 12 [] D')) := by
  refine Cl_of mb_X4_init (Nat.le_of_ble_eq_true rfl) (sg_X4_init_0 ?_)
  repeat (refine ⟨by first | rfl | exact of_decide_eq_true rfl | exact ⟨of_decide_eq_true rfl, of_decide_eq_true rfl⟩, ?_⟩)
  intro m e
  obtain ⟨R1, D1, rfl, hR, hD⟩ := step_nw 20 20 hR hD e rfl rfl (fun _ => rfl) (S' := [(9, 0), (9, 1), (8, 2), (8, 3), (8, 4), (4, 1), (4, 2), (4, 4), (4, 5), (4, 6), (4, 7), (4, 8), (4, 9), (4, 10), (4, 11), (4, 12), (4, 14), (4, 15)]) (T' := []) rfl rfl
  repeat (refine ⟨by first | rfl | exact of_decide_eq_true rfl | exact ⟨of_decide_eq_true rfl, of_decide_eq_true rfl⟩, ?_⟩)
  intro m e
  obtain ⟨R2, D2, rfl, hR, hD⟩ := step_rf 9 0 10 hR hD e rfl rfl (of_decide_eq_true rfl) (S' := [(9, 1), (8, 2), (8, 3), (8, 4), (4, 1), (4, 2), (4, 4), (4, 5), (4, 6), (4, 7), (4, 8), (4, 9), (4, 10), (4, 11), (4, 12), (4, 14), (4, 15)]) rfl
  repeat (refine ⟨by first | rfl | exact of_decide_eq_true rfl | exact ⟨of_decide_eq_true rfl, of_decide_eq_true rfl⟩, ?_⟩)
  intro m e
  obtain ⟨R3, D3, rfl, hR, hD⟩ := step_nw 20 20 hR hD e rfl rfl (fun _ => rfl) (S' := [(9, 1), (8, 2), (8, 3), (8, 4), (4, 1), (4, 2), (4, 4), (4, 5), (4, 6), (4, 7), (4, 8), (4, 9), (4, 10), (4, 11), (4, 12), (4, 14), (4, 15)]) (T' := []) rfl rfl
  repeat (refine ⟨by first | rfl | exact of_decide_eq_true rfl | exact ⟨of_decide_eq_true rfl, of_decide_eq_true rfl⟩, ?_⟩)
  intro m e
  obtain ⟨R4, D4, rfl, hR, hD⟩ := step_rf 9 1 11 hR hD e rfl rfl (of_decide_eq_true rfl) (S' := [(8, 2), (8, 3), (8, 4), (4, 1), (4, 2), (4, 4), (4, 5), (4, 6), (4, 7), (4, 8), (4, 9), (4, 10), (4, 11), (4, 12), (4, 14), (4, 15)]) rfl
  repeat (refine ⟨by first | rfl | exact of_decide_eq_true rfl | exact ⟨of_decide_eq_true rfl, of_decide_eq_true rfl⟩, ?_⟩)
  intro m e
  obtain ⟨R5, D5, rfl, hR, hD⟩ := step_nm 9 2 (0) hR hD e rfl rfl (T' := []) rfl
  first | exact ⟨rfl, _, _, rfl, hR, hD⟩ | exact ⟨rfl, ⟨_, _, rfl, hR, hD⟩⟩
theorem I_12 {d : Nat} {R : Nat → Int → Nat} {D B : DD} (hR : RI 13 [(12, 0), (12, 1), (8, 3), (8, 4), (4, 1), (4, 2), (4, 4), (4, 5), (4, 6), (4, 7), (4, 8), (4, 9), (4, 10), (4, 11), (4, 12), (4, 14), (4, 15)] R) (hD : DI (dS B) 13 [] D) : Cl (d) 2 40 mX4_init [vr 12] (BM n1 13 R D) (KV (fun m => ∃ (R' : Nat → Int → Nat) (D' : DD), m = BM n1 15 R' D' ∧ RI 15 [(8, 3), (8, 4), (4, 1), (4, 2), (4, 4), (4, 5), (4, 6), (4, 7), (4, 8), (4, 9), (4, 10), (4, 11), (4, 12), (4, 14), (4, 15)] R' ∧ DI (dS B) 15 [] D')) := by
  refine Cl_of mb_X4_init (Nat.le_of_ble_eq_true rfl) (sg_X4_init_0 ?_)
  repeat (refine ⟨by first | rfl | exact of_decide_eq_true rfl | exact ⟨of_decide_eq_true rfl, of_decide_eq_true rfl⟩, ?_⟩)
  intro m e
  obtain ⟨R1, D1, rfl, hR, hD⟩ := step_nw 20 20 hR hD e rfl rfl (fun _ => rfl) (S' := [(12, 0), (12, 1), (8, 3), (8, 4), (4, 1), (4, 2), (4, 4), (4, 5), (4, 6), (4, 7), (4, 8), (4, 9), (4, 10), (4, 11), (4, 12), (4, 14), (4, 15)]) (T' := []) rfl rfl
  repeat (refine ⟨by first | rfl | exact of_decide_eq_true rfl | exact ⟨of_decide_eq_true rfl, of_decide_eq_true rfl⟩, ?_⟩)
  intro m e
  obtain ⟨R2, D2, rfl, hR, hD⟩ := step_rf 12 0 13 hR hD e rfl rfl (of_decide_eq_true rfl) (S' := [(12, 1), (8, 3), (8, 4), (4, 1), (4, 2), (4, 4), (4, 5), (4, 6), (4, 7), (4, 8), (4, 9), (4, 10), (4, 11), (4, 12), (4, 14), (4, 15)]) rfl
  repeat (refine ⟨by first | rfl | exact of_decide_eq_true rfl | exact ⟨of_decide_eq_true rfl, of_decide_eq_true rfl⟩, ?_⟩)
  intro m e
  obtain ⟨R3, D3, rfl, hR, hD⟩ := step_nw 20 20 hR hD e rfl rfl (fun _ => rfl) (S' := [(12, 1), (8, 3), (8, 4), (4, 1), (4, 2), (4, 4), (4, 5), (4, 6), (4, 7), (4, 8), (4, 9), (4, 10), (4, 11), (4, 12), (4, 14), (4, 15)]) (T' := []) rfl rfl
  repeat (refine ⟨by first | rfl | exact of_decide_eq_true rfl | exact ⟨of_decide_eq_true rfl, of_decide_eq_true rfl⟩, ?_⟩)
  intro m e
  obtain ⟨R4, D4, rfl, hR, hD⟩ := step_rf 12 1 14 hR hD e rfl rfl (of_decide_eq_true rfl) (S' := [(8, 3), (8, 4), (4, 1), (4, 2), (4, 4), (4, 5), (4, 6), (4, 7), (4, 8), (4, 9), (4, 10), (4, 11), (4, 12), (4, 14), (4, 15)]) rfl
  repeat (refine ⟨by first | rfl | exact of_decide_eq_true rfl | exact ⟨of_decide_eq_true rfl, of_decide_eq_true rfl⟩, ?_⟩)
  intro m e
  obtain ⟨R5, D5, rfl, hR, hD⟩ := step_nm 12 2 (0) hR hD e rfl rfl (T' := []) rfl
  first | exact ⟨rfl, _, _, rfl, hR, hD⟩ | exact ⟨rfl, ⟨_, _, rfl, hR, hD⟩⟩
theorem I_8 {d : Nat} {R : Nat → Int → Nat} {D B : DD} (hR : RI 9 [(8, 2), (8, 3), (8, 4), (4, 1), (4, 2), (4, 4), (4, 5), (4, 6), (4, 7), (4, 8), (4, 9), (4, 10), (4, 11), (4, 12), (4, 14), (4, 15)] R) (hD : DI (dS B) 9 [(8, 1)] D) : Cl (d + 1) 7 107 mX5_init [vr 8] (BM n1 9 R D) (KV (fun m => ∃ (R' : Nat → Int → Nat) (D' : DD), m = BM n1 16 R' D' ∧ RI 16 [(4, 1), (4, 2), (4, 4), (4, 5), (4, 6), (4, 7), (4, 8), (4, 9), (4, 10), (4, 11), (4, 12), (4, 14), (4, 15)] R' ∧ DI (dS B) 16 [] D')) := by
  refine Cl_of mb_X5_init (Nat.le_of_ble_eq_true rfl) (sg_X5_init_0 (d := d) ?_)
  repeat (refine ⟨by first | rfl | exact of_decide_eq_true rfl | exact ⟨of_decide_eq_true rfl, of_decide_eq_true rfl⟩, ?_⟩)
  intro m e
  obtain ⟨R1, D1, rfl, hR, hD⟩ := step_nm 8 0 (0) hR hD e rfl rfl (T' := [(8, 1)]) rfl
  repeat (refine ⟨by first | rfl | exact of_decide_eq_true rfl | exact ⟨of_decide_eq_true rfl, of_decide_eq_true rfl⟩, ?_⟩)
  intro m e
  obtain ⟨R2, D2, rfl, hR, hD⟩ := step_nm 8 1 (1) hR hD e rfl rfl (T' := []) rfl
  repeat (refine ⟨by first | rfl | exact of_decide_eq_true rfl | exact ⟨of_decide_eq_true rfl, of_decide_eq_true rfl⟩, ?_⟩)
  intro m e
  obtain ⟨R3, D3, rfl, hR, hD⟩ := step_nw 5 0 hR hD e rfl rfl (fun _ => rfl) (S' := [(9, 0), (9, 1), (8, 2), (8, 3), (8, 4), (4, 1), (4, 2), (4, 4), (4, 5), (4, 6), (4, 7), (4, 8), (4, 9), (4, 10), (4, 11), (4, 12), (4, 14), (4, 15)]) (T' := []) rfl rfl
  repeat (refine ⟨by first | rfl | exact of_decide_eq_true rfl | exact ⟨of_decide_eq_true rfl, of_decide_eq_true rfl⟩, ?_⟩)
  refine ⟨2, 40, _, I_9 (d := d) hR hD, ?_⟩
  repeat (refine ⟨by first | rfl | exact of_decide_eq_true rfl | exact ⟨of_decide_eq_true rfl, of_decide_eq_true rfl⟩, ?_⟩)
  intro m e
  obtain ⟨R4, D4, rfl, hR, hD⟩ := e
  repeat (refine ⟨by first | rfl | exact of_decide_eq_true rfl | exact ⟨of_decide_eq_true rfl, of_decide_eq_true rfl⟩, ?_⟩)
  intro m e
  obtain ⟨R5, D5, rfl, hR, hD⟩ := step_rf 8 2 9 hR hD e rfl rfl (of_decide_eq_true rfl) (S' := [(8, 3), (8, 4), (4, 1), (4, 2), (4, 4), (4, 5), (4, 6), (4, 7), (4, 8), (4, 9), (4, 10), (4, 11), (4, 12), (4, 14), (4, 15)]) rfl
  repeat (refine ⟨by first | rfl | exact of_decide_eq_true rfl | exact ⟨of_decide_eq_true rfl, of_decide_eq_true rfl⟩, ?_⟩)
  intro m e
  obtain ⟨R6, D6, rfl, hR, hD⟩ := step_nw 5 0 hR hD e rfl rfl (fun _ => rfl) (S' := [(12, 0), (12, 1), (8, 3), (8, 4), (4, 1), (4, 2), (4, 4), (4, 5), (4, 6), (4, 7), (4, 8), (4, 9), (4, 10), (4, 11), (4, 12), (4, 14), (4, 15)]) (T' := []) rfl rfl
  repeat (refine ⟨by first | rfl | exact of_decide_eq_true rfl | exact ⟨of_decide_eq_true rfl, of_decide_eq_true rfl⟩, ?_⟩)
  refine ⟨2, 40, _, I_12 (d := d) hR hD, ?_⟩
  repeat (refine ⟨by first | rfl | exact of_decide_eq_true rfl | exact ⟨of_decide_eq_true rfl, of_decide_eq_true rfl⟩, ?_⟩)
  intro m e
  obtain ⟨R7, D7, rfl, hR, hD⟩ := e
  repeat (refine ⟨by first | rfl | exact of_decide_eq_true rfl | exact ⟨of_decide_eq_true rfl, of_decide_eq_true rfl⟩, ?_⟩)
  intro m e
  obtain ⟨R8, D8, rfl, hR, hD⟩ := step_rf 8 3 12 hR hD e rfl rfl (of_decide_eq_true rfl) (S' := [(8, 4), (4, 1), (4, 2), (4, 4), (4, 5), (4, 6), (4, 7), (4, 8), (4, 9), (4, 10), (4, 11), (4, 12), (4, 14), (4, 15)]) rfl
  repeat (refine ⟨by first | rfl | exact of_decide_eq_true rfl | exact ⟨of_decide_eq_true rfl, of_decide_eq_true rfl⟩, ?_⟩)
  intro m e
  obtain ⟨R9, D9, rfl, hR, hD⟩ := step_nw 20 21 hR hD e rfl rfl (fun _ => rfl) (S' := [(8, 4), (4, 1), (4, 2), (4, 4), (4, 5), (4, 6), (4, 7), (4, 8), (4, 9), (4, 10), (4, 11), (4, 12), (4, 14), (4, 15)]) (T' := []) rfl rfl
  repeat (refine ⟨by first | rfl | exact of_decide_eq_true rfl | exact ⟨of_decide_eq_true rfl, of_decide_eq_true rfl⟩, ?_⟩)
  intro m e
  obtain ⟨R10, D10, rfl, hR, hD⟩ := step_rf 8 4 15 hR hD e rfl rfl (of_decide_eq_true rfl) (S' := [(4, 1), (4, 2), (4, 4), (4, 5), (4, 6), (4, 7), (4, 8), (4, 9), (4, 10), (4, 11), (4, 12), (4, 14), (4, 15)]) rfl
  first | exact ⟨rfl, _, _, rfl, hR, hD⟩ | exact ⟨rfl, ⟨_, _, rfl, hR, hD⟩⟩
theorem I_17 {d : Nat} {R : Nat → Int → Nat} {D B : DD} (hR : RI 18 [(17, 0), (16, 0), (16, 1), (16, 2), (4, 4), (4, 5), (4, 6), (4, 7), (4, 8), (4, 9), (4, 10), (4, 11), (4, 12), (4, 14), (4, 15)] R) (hD : DI (dS B) 18 [(17, 4)] D) : Cl (d) 1 80 mX6_init [vr 17] (BM n1 18 R D) (KV (fun m => ∃ (R' : Nat → Int → Nat) (D' : DD), m = BM n1 19 R' D' ∧ RI 19 [(16, 0), (16, 1), (16, 2), (4, 4), (4, 5), (4, 6), (4, 7), (4, 8), (4, 9), (4, 10), (4, 11), (4, 12), (4, 14), (4, 15)] R' ∧ DI (dS B) 19 [] D')) := by
  refine Cl_of mb_X6_init (Nat.le_of_ble_eq_true rfl) (sg_X6_init_0 ?_)
  repeat (refine ⟨by first | rfl | exact of_decide_eq_true rfl | exact ⟨of_decide_eq_true rfl, of_decide_eq_true rfl⟩, ?_⟩)
  intro m e
  obtain ⟨R1, D1, rfl, hR, hD⟩ := step_nw 23 80 hR hD e rfl rfl (fun _ => rfl) (S' := [(17, 0), (16, 0), (16, 1), (16, 2), (4, 4), (4, 5), (4, 6), (4, 7), (4, 8), (4, 9), (4, 10), (4, 11), (4, 12), (4, 14), (4, 15)]) (T' := [(17, 4)]) rfl rfl
  repeat (refine ⟨by first | rfl | exact of_decide_eq_true rfl | exact ⟨of_decide_eq_true rfl, of_decide_eq_true rfl⟩, ?_⟩)
  intro m e
  obtain ⟨R2, D2, rfl, hR, hD⟩ := step_rf 17 0 18 hR hD e rfl rfl (of_decide_eq_true rfl) (S' := [(16, 0), (16, 1), (16, 2), (4, 4), (4, 5), (4, 6), (4, 7), (4, 8), (4, 9), (4, 10), (4, 11), (4, 12), (4, 14), (4, 15)]) rfl
  repeat (refine ⟨by first | rfl | exact of_decide_eq_true rfl | exact ⟨of_decide_eq_true rfl, of_decide_eq_true rfl⟩, ?_⟩)
  intro m e
  obtain ⟨R3, D3, rfl, hR, hD⟩ := step_nm 17 1 (0) hR hD e rfl rfl (T' := [(17, 4)]) rfl
  repeat (refine ⟨by first | rfl | exact of_decide_eq_true rfl | exact ⟨of_decide_eq_true rfl, of_decide_eq_true rfl⟩, ?_⟩)
  intro m e
  obtain ⟨R4, D4, rfl, hR, hD⟩ := step_nm 17 2 (0) hR hD e rfl rfl (T' := [(17, 4)]) rfl
  repeat (refine ⟨by first | rfl | exact of_decide_eq_true rfl | exact ⟨of_decide_eq_true rfl, of_decide_eq_true rfl⟩, ?_⟩)
  intro m e
  obtain ⟨R5, D5, rfl, hR, hD⟩ := step_nm 17 3 (0) hR hD e rfl rfl (T' := [(17, 4)]) rfl
  repeat (refine ⟨by first | rfl | exact of_decide_eq_true rfl | exact ⟨of_decide_eq_true rfl, of_decide_eq_true rfl⟩, ?_⟩)
  intro m e
  obtain ⟨R6, D6, rfl, hR, hD⟩ := step_nm 17 4 (-1) hR hD e rfl rfl (T' := []) rfl
  first | exact ⟨rfl, _, _, rfl, hR, hD⟩ | exact ⟨rfl, ⟨_, _, rfl, hR, hD⟩⟩
theorem I_21 {d : Nat} {R : Nat → Int → Nat} {D B : DD} (hR : RI 22 [(21, 0), (21, 1), (21, 2), (21, 3), (19, 0), (19, 1), (19, 2), (19, 3), (16, 0), (16, 1), (16, 2), (4, 7), (4, 8), (4, 9), (4, 10), (4, 11), (4, 12), (4, 14), (4, 15)] R) (hD : DI (dS B) 22 [] D) : Cl (d) 4 4000 mX8_init [vr 21] (BM n1 22 R D) (KV (fun m => ∃ (R' : Nat → Int → Nat) (D' : DD), m = BM n1 26 R' D' ∧ RI 26 [(19, 0), (19, 1), (19, 2), (19, 3), (16, 0), (16, 1), (16, 2), (4, 7), (4, 8), (4, 9), (4, 10), (4, 11), (4, 12), (4, 14), (4, 15)] R' ∧ DI (dS B) 26 [] D')) := by
  refine Cl_of mb_X8_init (Nat.le_of_ble_eq_true rfl) (sg_X8_init_0 ?_)
  repeat (refine ⟨by first | rfl | exact of_decide_eq_true rfl | exact ⟨of_decide_eq_true rfl, of_decide_eq_true rfl⟩, ?_⟩)
  intro m e
  obtain ⟨R1, D1, rfl, hR, hD⟩ := step_nw 20 1000 hR hD e rfl rfl (fun _ => rfl) (S' := [(21, 0), (21, 1), (21, 2), (21, 3), (19, 0), (19, 1), (19, 2), (19, 3), (16, 0), (16, 1), (16, 2), (4, 7), (4, 8), (4, 9), (4, 10), (4, 11), (4, 12), (4, 14), (4, 15)]) (T' := []) rfl rfl
  repeat (refine ⟨by first | rfl | exact of_decide_eq_true rfl | exact ⟨of_decide_eq_true rfl, of_decide_eq_true rfl⟩, ?_⟩)
  intro m e
  obtain ⟨R2, D2, rfl, hR, hD⟩ := step_rf 21 0 22 hR hD e rfl rfl (of_decide_eq_true rfl) (S' := [(21, 1), (21, 2), (21, 3), (19, 0), (19, 1), (19, 2), (19, 3), (16, 0), (16, 1), (16, 2), (4, 7), (4, 8), (4, 9), (4, 10), (4, 11), (4, 12), (4, 14), (4, 15)]) rfl
  repeat (refine ⟨by first | rfl | exact of_decide_eq_true rfl | exact ⟨of_decide_eq_true rfl, of_decide_eq_true rfl⟩, ?_⟩)
  intro m e
  obtain ⟨R3, D3, rfl, hR, hD⟩ := step_nw 20 1000 hR hD e rfl rfl (fun _ => rfl) (S' := [(21, 1), (21, 2), (21, 3), (19, 0), (19, 1), (19, 2), (19, 3), (16, 0), (16, 1), (16, 2), (4, 7), (4, 8), (4, 9), (4, 10), (4, 11), (4, 12), (4, 14), (4, 15)]) (T' := []) rfl rfl
  repeat (refine ⟨by first | rfl | exact of_decide_eq_true rfl | exact ⟨of_decide_eq_true rfl, of_decide_eq_true rfl⟩, ?_⟩)
  intro m e
  obtain ⟨R4, D4, rfl, hR, hD⟩ := step_rf 21 1 23 hR hD e rfl rfl (of_decide_eq_true rfl) (S' := [(21, 2), (21, 3), (19, 0), (19, 1), (19, 2), (19, 3), (16, 0), (16, 1), (16, 2), (4, 7), (4, 8), (4, 9), (4, 10), (4, 11), (4, 12), (4, 14), (4, 15)]) rfl
  repeat (refine ⟨by first | rfl | exact of_decide_eq_true rfl | exact ⟨of_decide_eq_true rfl, of_decide_eq_true rfl⟩, ?_⟩)
  intro m e
  obtain ⟨R5, D5, rfl, hR, hD⟩ := step_nw 20 1000 hR hD e rfl rfl (fun _ => rfl) (S' := [(21, 2), (21, 3), (19, 0), (19, 1), (19, 2), (19, 3), (16, 0), (16, 1), (16, 2), (4, 7), (4, 8), (4, 9), (4, 10), (4, 11), (4, 12), (4, 14), (4, 15)]) (T' := []) rfl rfl
  repeat (refine ⟨by first | rfl | exact of_decide_eq_true rfl | exact ⟨of_decide_eq_true rfl, of_decide_eq_true rfl⟩, ?_⟩)
  intro m e
  obtain ⟨R6, D6, rfl, hR, hD⟩ := step_rf 21 2 24 hR hD e rfl rfl (of_decide_eq_true rfl) (S' := [(21, 3), (19, 0), (19, 1), (19, 2), (19, 3), (16, 0), (16, 1), (16, 2), (4, 7), (4, 8), (4, 9), (4, 10), (4, 11), (4, 12), (4, 14), (4, 15)]) rfl
  repeat (refine ⟨by first | rfl | exact of_decide_eq_true rfl | exact ⟨of_decide_eq_true rfl, of_decide_eq_true rfl⟩, ?_⟩)
  intro m e
  obtain ⟨R7, D7, rfl, hR, hD⟩ := step_nw 20 1000 hR hD e rfl rfl (fun _ => rfl) (S' := [(21, 3), (19, 0), (19, 1), (19, 2), (19, 3), (16, 0), (16, 1), (16, 2), (4, 7), (4, 8), (4, 9), (4, 10), (4, 11), (4, 12), (4, 14), (4, 15)]) (T' := []) rfl rfl
  repeat (refine ⟨by first | rfl | exact of_decide_eq_true rfl | exact ⟨of_decide_eq_true rfl, of_decide_eq_true rfl⟩, ?_⟩)
  intro m e
  obtain ⟨R8, D8, rfl, hR, hD⟩ := step_rf 21 3 25 hR hD e rfl rfl (of_decide_eq_true rfl) (S' := [(19, 0), (19, 1), (19, 2), (19, 3), (16, 0), (16, 1), (16, 2), (4, 7), (4, 8), (4, 9), (4, 10), (4, 11), (4, 12), (4, 14), (4, 15)]) rfl
  repeat (refine ⟨by first | rfl | exact of_decide_eq_true rfl | exact ⟨of_decide_eq_true rfl, of_decide_eq_true rfl⟩, ?_⟩)
  intro m e
  obtain ⟨R9, D9, rfl, hR, hD⟩ := step_nm 21 4 (0) hR hD e rfl rfl (T' := []) rfl
  repeat (refine ⟨by first | rfl | exact of_decide_eq_true rfl | exact ⟨of_decide_eq_true rfl, of_decide_eq_true rfl⟩, ?_⟩)
  intro m e
  obtain ⟨R10, D10, rfl, hR, hD⟩ := step_nm 21 5 (0) hR hD e rfl rfl (T' := []) rfl
  repeat (refine ⟨by first | rfl | exact of_decide_eq_true rfl | exact ⟨of_decide_eq_true rfl, of_decide_eq_true rfl⟩, ?_⟩)
  intro m e
  obtain ⟨R11, D11, rfl, hR, hD⟩ := step_nm 21 6 (0) hR hD e rfl rfl (T' := []) rfl
  first | exact ⟨rfl, _, _, rfl, hR, hD⟩ | exact ⟨rfl, ⟨_, _, rfl, hR, hD⟩⟩
theorem I_27 {d : Nat} {R : Nat → Int → Nat} {D B : DD} (hR : RI 28 [(27, 0), (27, 1), (26, 0), (26, 1), (26, 2), (19, 0), (19, 1), (19, 2), (19, 3), (16, 0), (16, 1), (16, 2), (4, 9), (4, 10), (4, 11), (4, 12), (4, 14), (4, 15)] R) (hD : DI (dS B) 28 [] D) : Cl (d) 2 80 mX2_init [vr 27] (BM n1 28 R D) (KV (fun m => ∃ (R' : Nat → Int → Nat) (D' : DD), m = BM n1 30 R' D' ∧ RI 30 [(26, 0), (26, 1), (26, 2), (19, 0), (19, 1), (19, 2), (19, 3), (16, 0), (16, 1), (16, 2), (4, 9), (4, 10), (4, 11), (4, 12), (4, 14), (4, 15)] R' ∧ DI (dS B) 30 [] D')) := by
  refine Cl_of mb_X2_init (Nat.le_of_ble_eq_true rfl) (sg_X2_init_0 ?_)
  repeat (refine ⟨by first | rfl | exact of_decide_eq_true rfl | exact ⟨of_decide_eq_true rfl, of_decide_eq_true rfl⟩, ?_⟩)
  intro m e
  obtain ⟨R1, D1, rfl, hR, hD⟩ := step_nw 20 40 hR hD e rfl rfl (fun _ => rfl) (S' := [(27, 0), (27, 1), (26, 0), (26, 1), (26, 2), (19, 0), (19, 1), (19, 2), (19, 3), (16, 0), (16, 1), (16, 2), (4, 9), (4, 10), (4, 11), (4, 12), (4, 14), (4, 15)]) (T' := []) rfl rfl
  repeat (refine ⟨by first | rfl | exact of_decide_eq_true rfl | exact ⟨of_decide_eq_true rfl, of_decide_eq_true rfl⟩, ?_⟩)
  intro m e
  obtain ⟨R2, D2, rfl, hR, hD⟩ := step_rf 27 0 28 hR hD e rfl rfl (of_decide_eq_true rfl) (S' := [(27, 1), (26, 0), (26, 1), (26, 2), (19, 0), (19, 1), (19, 2), (19, 3), (16, 0), (16, 1), (16, 2), (4, 9), (4, 10), (4, 11), (4, 12), (4, 14), (4, 15)]) rfl
  repeat (refine ⟨by first | rfl | exact of_decide_eq_true rfl | exact ⟨of_decide_eq_true rfl, of_decide_eq_true rfl⟩, ?_⟩)
  intro m e
  obtain ⟨R3, D3, rfl, hR, hD⟩ := step_nw 20 40 hR hD e rfl rfl (fun _ => rfl) (S' := [(27, 1), (26, 0), (26, 1), (26, 2), (19, 0), (19, 1), (19, 2), (19, 3), (16, 0), (16, 1), (16, 2), (4, 9), (4, 10), (4, 11), (4, 12), (4, 14), (4, 15)]) (T' := []) rfl rfl
  repeat (refine ⟨by first | rfl | exact of_decide_eq_true rfl | exact ⟨of_decide_eq_true rfl, of_decide_eq_true rfl⟩, ?_⟩)
  intro m e
  obtain ⟨R4, D4, rfl, hR, hD⟩ := step_rf 27 1 29 hR hD e rfl rfl (of_decide_eq_true rfl) (S' := [(26, 0), (26, 1), (26, 2), (19, 0), (19, 1), (19, 2), (19, 3), (16, 0), (16, 1), (16, 2), (4, 9), (4, 10), (4, 11), (4, 12), (4, 14), (4, 15)]) rfl
  repeat (refine ⟨by first | rfl | exact of_decide_eq_true rfl | exact ⟨of_decide_eq_true rfl, of_decide_eq_true rfl⟩, ?_⟩)
  intro m e
  obtain ⟨R5, D5, rfl, hR, hD⟩ := step_nm 27 2 (0) hR hD e rfl rfl (T' := []) rfl
  first | exact ⟨rfl, _, _, rfl, hR, hD⟩ | exact ⟨rfl, ⟨_, _, rfl, hR, hD⟩⟩
theorem I_31 {d : Nat} {R : Nat → Int → Nat} {D B : DD} (hR : RI 32 [(31, 3), (31, 4), (30, 0), (30, 2), (30, 8), (30, 10), (30, 11), (26, 0), (26, 1), (26, 2), (19, 0), (19, 1), (19, 2), (19, 3), (16, 0), (16, 1), (16, 2), (4, 10), (4, 11), (4, 12), (4, 14), (4, 15)] R) (hD : DI (dS B) 32 [(31, 0), (31, 1), (31, 2), (30, 5)] D) : Cl (d + 1) 2 27 mX0_init [vr 31] (BM n1 32 R D) (KV (fun m => ∃ (R' : Nat → Int → Nat) (D' : DD), m = BM n1 34 R' D' ∧ RI 34 [(30, 0), (30, 2), (30, 8), (30, 10), (30, 11), (26, 0), (26, 1), (26, 2), (19, 0), (19, 1), (19, 2), (19, 3), (16, 0), (16, 1), (16, 2), (4, 10), (4, 11), (4, 12), (4, 14), (4, 15)] R' ∧ DI (dS B) 34 [(30, 5)] D')) := by
  refine Cl_of mb_X0_init (Nat.le_of_ble_eq_true rfl) (sg_X0_init_0 (d := d) ?_)
  repeat (refine ⟨by first | rfl | exact of_decide_eq_true rfl | exact ⟨of_decide_eq_true rfl, of_decide_eq_true rfl⟩, ?_⟩)
  intro m e
  obtain ⟨R1, D1, rfl, hR, hD⟩ := step_nm 31 0 (7) hR hD e rfl rfl (T' := [(31, 1), (31, 2), (30, 5)]) rfl
  repeat (refine ⟨by first | rfl | exact of_decide_eq_true rfl | exact ⟨of_decide_eq_true rfl, of_decide_eq_true rfl⟩, ?_⟩)
  intro m e
  obtain ⟨R2, D2, rfl, hR, hD⟩ := step_nm 31 1 (100) hR hD e rfl rfl (T' := [(31, 2), (30, 5)]) rfl
  repeat (refine ⟨by first | rfl | exact of_decide_eq_true rfl | exact ⟨of_decide_eq_true rfl, of_decide_eq_true rfl⟩, ?_⟩)
  intro m e
  obtain ⟨R3, D3, rfl, hR, hD⟩ := step_nm 31 2 (80) hR hD e rfl rfl (T' := [(30, 5)]) rfl
  repeat (refine ⟨by first | rfl | exact of_decide_eq_true rfl | exact ⟨of_decide_eq_true rfl, of_decide_eq_true rfl⟩, ?_⟩)
  intro m e
  obtain ⟨R4, D4, rfl, hR, hD⟩ := step_nw 20 7 hR hD e rfl rfl (fun _ => rfl) (S' := [(31, 3), (31, 4), (30, 0), (30, 2), (30, 8), (30, 10), (30, 11), (26, 0), (26, 1), (26, 2), (19, 0), (19, 1), (19, 2), (19, 3), (16, 0), (16, 1), (16, 2), (4, 10), (4, 11), (4, 12), (4, 14), (4, 15)]) (T' := [(32, 0), (32, 1), (32, 3), (32, 6), (30, 5)]) rfl rfl
  repeat (refine ⟨by first | rfl | exact of_decide_eq_true rfl | exact ⟨of_decide_eq_true rfl, of_decide_eq_true rfl⟩, ?_⟩)
  intro m e
  obtain ⟨R5, D5, rfl, hR, hD⟩ := step_nm 32 0 (8) hR hD e rfl rfl (T' := [(32, 1), (32, 3), (32, 6), (30, 5)]) rfl
  repeat (refine ⟨by first | rfl | exact of_decide_eq_true rfl | exact ⟨of_decide_eq_true rfl, of_decide_eq_true rfl⟩, ?_⟩)
  intro m e
  obtain ⟨R6, D6, rfl, hR, hD⟩ := step_nm 32 1 (2) hR hD e rfl rfl (T' := [(32, 3), (32, 6), (30, 5)]) rfl
  repeat (refine ⟨by first | rfl | exact of_decide_eq_true rfl | exact ⟨of_decide_eq_true rfl, of_decide_eq_true rfl⟩, ?_⟩)
  intro m e
  obtain ⟨R7, D7, rfl, hR, hD⟩ := step_nm 32 2 (0) hR hD e rfl rfl (T' := [(32, 3), (32, 6), (30, 5)]) rfl
  repeat (refine ⟨by first | rfl | exact of_decide_eq_true rfl | exact ⟨of_decide_eq_true rfl, of_decide_eq_true rfl⟩, ?_⟩)
  intro m e
  obtain ⟨R8, D8, rfl, hR, hD⟩ := step_nm 32 3 (6) hR hD e rfl rfl (T' := [(32, 6), (30, 5)]) rfl
  repeat (refine ⟨by first | rfl | exact of_decide_eq_true rfl | exact ⟨of_decide_eq_true rfl, of_decide_eq_true rfl⟩, ?_⟩)
  intro m e
  obtain ⟨R9, D9, rfl, hR, hD⟩ := step_nm 32 4 (0) hR hD e rfl rfl (T' := [(32, 6), (30, 5)]) rfl
  repeat (refine ⟨by first | rfl | exact of_decide_eq_true rfl | exact ⟨of_decide_eq_true rfl, of_decide_eq_true rfl⟩, ?_⟩)
  intro m e
  obtain ⟨R10, D10, rfl, hR, hD⟩ := step_nm 32 5 (0) hR hD e rfl rfl (T' := [(32, 6), (30, 5)]) rfl
  repeat (refine ⟨by first | rfl | exact of_decide_eq_true rfl | exact ⟨of_decide_eq_true rfl, of_decide_eq_true rfl⟩, ?_⟩)
  intro m e
  obtain ⟨R11, D11, rfl, hR, hD⟩ := step_nm 32 6 (3) hR hD e rfl rfl (T' := [(30, 5)]) rfl
  repeat (refine ⟨by first | rfl | exact of_decide_eq_true rfl | exact ⟨of_decide_eq_true rfl, of_decide_eq_true rfl⟩, ?_⟩)
  intro m e
  obtain ⟨R12, D12, rfl, hR, hD⟩ := step_rf 31 3 32 hR hD e rfl rfl (of_decide_eq_true rfl) (S' := [(31, 4), (30, 0), (30, 2), (30, 8), (30, 10), (30, 11), (26, 0), (26, 1), (26, 2), (19, 0), (19, 1), (19, 2), (19, 3), (16, 0), (16, 1), (16, 2), (4, 10), (4, 11), (4, 12), (4, 14), (4, 15)]) rfl
  repeat (refine ⟨by first | rfl | exact of_decide_eq_true rfl | exact ⟨of_decide_eq_true rfl, of_decide_eq_true rfl⟩, ?_⟩)
  intro m e
  obtain ⟨R13, D13, rfl, hR, hD⟩ := step_nw 20 20 hR hD e rfl rfl (fun _ => rfl) (S' := [(31, 4), (30, 0), (30, 2), (30, 8), (30, 10), (30, 11), (26, 0), (26, 1), (26, 2), (19, 0), (19, 1), (19, 2), (19, 3), (16, 0), (16, 1), (16, 2), (4, 10), (4, 11), (4, 12), (4, 14), (4, 15)]) (T' := [(33, 0), (33, 1), (33, 2), (33, 3), (33, 4), (33, 5), (33, 6), (33, 7), (33, 8), (33, 9), (33, 10), (33, 11), (33, 12), (33, 13), (33, 14), (33, 15), (33, 16), (33, 17), (33, 18), (33, 19), (30, 5)]) rfl rfl
  repeat (refine ⟨by first | rfl | exact of_decide_eq_true rfl | exact ⟨of_decide_eq_true rfl, of_decide_eq_true rfl⟩, ?_⟩)
  intro m e
  obtain ⟨R14, D14, rfl, hR, hD⟩ := step_rf 31 4 33 hR hD e rfl rfl (of_decide_eq_true rfl) (S' := [(30, 0), (30, 2), (30, 8), (30, 10), (30, 11), (26, 0), (26, 1), (26, 2), (19, 0), (19, 1), (19, 2), (19, 3), (16, 0), (16, 1), (16, 2), (4, 10), (4, 11), (4, 12), (4, 14), (4, 15)]) rfl
  repeat (refine ⟨by first | rfl | exact of_decide_eq_true rfl | exact ⟨of_decide_eq_true rfl, of_decide_eq_true rfl⟩, ?_⟩)
  rw [show mR (BM n1 34 R14 D14) 31 4 = 33 from hR.at 31 4 (of_decide_eq_true rfl) (by decide)]
  repeat (refine ⟨by first | rfl | exact of_decide_eq_true rfl | exact ⟨of_decide_eq_true rfl, of_decide_eq_true rfl⟩, ?_⟩)
  refine ⟨0, 0, _, C_fill (a := 33) (x := 100) rfl, ?_⟩
  repeat (refine ⟨by first | rfl | exact of_decide_eq_true rfl | exact ⟨of_decide_eq_true rfl, of_decide_eq_true rfl⟩, ?_⟩)
  intro m e
  obtain ⟨R15, D15, rfl, hR, hD⟩ := step_fi 33 20 (100) hR hD e rfl (T' := [(30, 5)]) (fun t ht => (show ∀ t : Nat, t < 20 → dv 33 (t : Int) = 100 by decide) t ht) (by decide)
  first | exact ⟨rfl, _, _, rfl, hR, hD⟩ | exact ⟨rfl, ⟨_, _, rfl, hR, hD⟩⟩
theorem I_35 {d : Nat} {R : Nat → Int → Nat} {D B : DD} (hR : RI 36 [(35, 0), (35, 1), (34, 2), (34, 3), (34, 4), (30, 2), (30, 8), (30, 10), (30, 11), (26, 0), (26, 1), (26, 2), (19, 0), (19, 1), (19, 2), (19, 3), (16, 0), (16, 1), (16, 2), (4, 10), (4, 11), (4, 12), (4, 14), (4, 15)] R) (hD : DI (dS B) 36 [(30, 5)] D) : Cl (d) 2 40 mX4_init [vr 35] (BM n1 36 R D) (KV (fun m => ∃ (R' : Nat → Int → Nat) (D' : DD), m = BM n1 38 R' D' ∧ RI 38 [(34, 2), (34, 3), (34, 4), (30, 2), (30, 8), (30, 10), (30, 11), (26, 0), (26, 1), (26, 2), (19, 0), (19, 1), (19, 2), (19, 3), (16, 0), (16, 1), (16, 2), (4, 10), (4, 11), (4, 12), (4, 14), (4, 15)] R' ∧ DI (dS B) 38 [(30, 5)] D')) := by
  refine Cl_of mb_X4_init (Nat.le_of_ble_eq_true rfl) (sg_X4_init_0 ?_)
  repeat (refine ⟨by first | rfl | exact of_decide_eq_true rfl | exact ⟨of_decide_eq_true rfl, of_decide_eq_true rfl⟩, ?_⟩)
  intro m e
  obtain ⟨R1, D1, rfl, hR, hD⟩ := step_nw 20 20 hR hD e rfl rfl (fun _ => rfl) (S' := [(35, 0), (35, 1), (34, 2), (34, 3), (34, 4), (30, 2), (30, 8), (30, 10), (30, 11), (26, 0), (26, 1), (26, 2), (19, 0), (19, 1), (19, 2), (19, 3), (16, 0), (16, 1), (16, 2), (4, 10), (4, 11), (4, 12), (4, 14), (4, 15)]) (T' := [(30, 5)]) rfl rfl
  repeat (refine ⟨by first | rfl | exact of_decide_eq_true rfl | exact ⟨of_decide_eq_true rfl, of_decide_eq_true rfl⟩, ?_⟩)
  intro m e
  obtain ⟨R2, D2, rfl, hR, hD⟩ := step_rf 35 0 36 hR hD e rfl rfl (of_decide_eq_true rfl) (S' := [(35, 1), (34, 2), (34, 3), (34, 4), (30, 2), (30, 8), (30, 10), (30, 11), (26, 0), (26, 1), (26, 2), (19, 0), (19, 1), (19, 2), (19, 3), (16, 0), (16, 1), (16, 2), (4, 10), (4, 11), (4, 12), (4, 14), (4, 15)]) rfl
  repeat (refine ⟨by first | rfl | exact of_decide_eq_true rfl | exact ⟨of_decide_eq_true rfl, of_decide_eq_true rfl⟩, ?_⟩)
  intro m e
  obtain ⟨R3, D3, rfl, hR, hD⟩ := step_nw 20 20 hR hD e rfl rfl (fun _ => rfl) (S' := [(35, 1), (34, 2), (34, 3), (34, 4), (30, 2), (30, 8), (30, 10), (30, 11), (26, 0), (26, 1), (26, 2), (19, 0), (19, 1), (19, 2), (19, 3), (16, 0), (16, 1), (16, 2), (4, 10), (4, 11), (4, 12), (4, 14), (4, 15)]) (T' := [(30, 5)]) rfl rfl
  repeat (refine ⟨by first | rfl | exact of_decide_eq_true rfl | exact ⟨of_decide_eq_true rfl, of_decide_eq_true rfl⟩, ?_⟩)
  intro m e
  obtain ⟨R4, D4, rfl, hR, hD⟩ := step_rf 35 1 37 hR hD e rfl rfl (of_decide_eq_true rfl) (S' := [(34, 2), (34, 3), (34, 4), (30, 2), (30, 8), (30, 10), (30, 11), (26, 0), (26, 1), (26, 2), (19, 0), (19, 1), (19, 2), (19, 3), (16, 0), (16, 1), (16, 2), (4, 10), (4, 11), (4, 12), (4, 14), (4, 15)]) rfl
  repeat (refine ⟨by first | rfl | exact of_decide_eq_true rfl | exact ⟨of_decide_eq_true rfl, of_decide_eq_true rfl⟩, ?_⟩)
  intro m e
  obtain ⟨R5, D5, rfl, hR, hD⟩ := step_nm 35 2 (0) hR hD e rfl rfl (T' := [(30, 5)]) rfl
  first | exact ⟨rfl, _, _, rfl, hR, hD⟩ | exact ⟨rfl, ⟨_, _, rfl, hR, hD⟩⟩
theorem I_38 {d : Nat} {R : Nat → Int → Nat} {D B : DD} (hR : RI 39 [(38, 0), (38, 1), (34, 3), (34, 4), (30, 2), (30, 8), (30, 10), (30, 11), (26, 0), (26, 1), (26, 2), (19, 0), (19, 1), (19, 2), (19, 3), (16, 0), (16, 1), (16, 2), (4, 10), (4, 11), (4, 12), (4, 14), (4, 15)] R) (hD : DI (dS B) 39 [(30, 5)] D) : Cl (d) 2 40 mX4_init [vr 38] (BM n1 39 R D) (KV (fun m => ∃ (R' : Nat → Int → Nat) (D' : DD), m = BM n1 41 R' D' ∧ RI 41 [(34, 3), (34, 4), (30, 2), (30, 8), (30, 10), (30, 11), (26, 0), (26, 1), (26, 2), (19, 0), (19, 1), (19, 2), (19, 3), (16, 0), (16, 1), (16, 2), (4, 10), (4, 11), (4, 12), (4, 14), (4, 15)] R' ∧ DI (dS B) 41 [(30, 5)] D')) := by
  refine Cl_of mb_X4_init (Nat.le_of_ble_eq_true rfl) (sg_X4_init_0 ?_)
  repeat (refine ⟨by first | rfl | exact of_decide_eq_true rfl | exact ⟨of_decide_eq_true rfl, of_decide_eq_true rfl⟩, ?_⟩)
  intro m e
  obtain ⟨R1, D1, rfl, hR, hD⟩ := step_nw 20 20 hR hD e rfl rfl (fun _ => rfl) (S' := [(38, 0), (38, 1), (34, 3), (34, 4), (30, 2), (30, 8), (30, 10), (30, 11), (26, 0), (26, 1), (26, 2), (19, 0), (19, 1), (19, 2), (19, 3), (16, 0), (16, 1), (16, 2), (4, 10), (4, 11), (4, 12), (4, 14), (4, 15)]) (T' := [(30, 5)]) rfl rfl
  repeat (refine ⟨by first | rfl | exact of_decide_eq_true rfl | exact ⟨of_decide_eq_true rfl, of_decide_eq_true rfl⟩, ?_⟩)
  intro m e
  obtain ⟨R2, D2, rfl, hR, hD⟩ := step_rf 38 0 39 hR hD e rfl rfl (of_decide_eq_true rfl) (S' := [(38, 1), (34, 3), (34, 4), (30, 2), (30, 8), (30, 10), (30, 11), (26, 0), (26, 1), (26, 2), (19, 0), (19, 1), (19, 2), (19, 3), (16, 0), (16, 1), (16, 2), (4, 10), (4, 11), (4, 12), (4, 14), (4, 15)]) rfl
  repeat (refine ⟨by first | rfl | exact of_decide_eq_true rfl | exact ⟨of_decide_eq_true rfl, of_decide_eq_true rfl⟩, ?_⟩)
  intro m e
  obtain ⟨R3, D3, rfl, hR, hD⟩ := step_nw 20 20 hR hD e rfl rfl (fun _ => rfl) (S' := [(38, 1), (34, 3), (34, 4), (30, 2), (30, 8), (30, 10), (30, 11), (26, 0), (26, 1), (26, 2), (19, 0), (19, 1), (19, 2), (19, 3), (16, 0), (16, 1), (16, 2), (4, 10), (4, 11), (4, 12), (4, 14), (4, 15)]) (T' := [(30, 5)]) rfl rfl
  repeat (refine ⟨by first | rfl | exact of_decide_eq_true rfl | exact ⟨of_decide_eq_true rfl, of_decide_eq_true rfl⟩, ?_⟩)
  intro m e
  obtain ⟨R4, D4, rfl, hR, hD⟩ := step_rf 38 1 40 hR hD e rfl rfl (of_decide_eq_true rfl) (S' := [(34, 3), (34, 4), (30, 2), (30, 8), (30, 10), (30, 11), (26, 0), (26, 1), (26, 2), (19, 0), (19, 1), (19, 2), (19, 3), (16, 0), (16, 1), (16, 2), (4, 10), (4, 11), (4, 12), (4, 14), (4, 15)]) rfl
  repeat (refine ⟨by first | rfl | exact of_decide_eq_true rfl | exact ⟨of_decide_eq_true rfl, of_decide_eq_true rfl⟩, ?_⟩)
  intro m e
  obtain ⟨R5, D5, rfl, hR, hD⟩ := step_nm 38 2 (0) hR hD e rfl rfl (T' := [(30, 5)]) rfl
  first | exact ⟨rfl, _, _, rfl, hR, hD⟩ | exact ⟨rfl, ⟨_, _, rfl, hR, hD⟩⟩
theorem I_34 {d : Nat} {R : Nat → Int → Nat} {D B : DD} (hR : RI 35 [(34, 2), (34, 3), (34, 4), (30, 2), (30, 8), (30, 10), (30, 11), (26, 0), (26, 1), (26, 2), (19, 0), (19, 1), (19, 2), (19, 3), (16, 0), (16, 1), (16, 2), (4, 10), (4, 11), (4, 12), (4, 14), (4, 15)] R) (hD : DI (dS B) 35 [(34, 1), (30, 5)] D) : Cl (d + 1) 7 107 mX5_init [vr 34] (BM n1 35 R D) (KV (fun m => ∃ (R' : Nat → Int → Nat) (D' : DD), m = BM n1 42 R' D' ∧ RI 42 [(30, 2), (30, 8), (30, 10), (30, 11), (26, 0), (26, 1), (26, 2), (19, 0), (19, 1), (19, 2), (19, 3), (16, 0), (16, 1), (16, 2), (4, 10), (4, 11), (4, 12), (4, 14), (4, 15)] R' ∧ DI (dS B) 42 [(30, 5)] D')) := by
  refine Cl_of mb_X5_init (Nat.le_of_ble_eq_true rfl) (sg_X5_init_0 (d := d) ?_)
  repeat (refine ⟨by first | rfl | exact of_decide_eq_true rfl | exact ⟨of_decide_eq_true rfl, of_decide_eq_true rfl⟩, ?_⟩)
  intro m e
  obtain ⟨R1, D1, rfl, hR, hD⟩ := step_nm 34 0 (0) hR hD e rfl rfl (T' := [(34, 1), (30, 5)]) rfl
  repeat (refine ⟨by first | rfl | exact of_decide_eq_true rfl | exact ⟨of_decide_eq_true rfl, of_decide_eq_true rfl⟩, ?_⟩)
  intro m e
  obtain ⟨R2, D2, rfl, hR, hD⟩ := step_nm 34 1 (1) hR hD e rfl rfl (T' := [(30, 5)]) rfl
  repeat (refine ⟨by first | rfl | exact of_decide_eq_true rfl | exact ⟨of_decide_eq_true rfl, of_decide_eq_true rfl⟩, ?_⟩)
  intro m e
  obtain ⟨R3, D3, rfl, hR, hD⟩ := step_nw 5 0 hR hD e rfl rfl (fun _ => rfl) (S' := [(35, 0), (35, 1), (34, 2), (34, 3), (34, 4), (30, 2), (30, 8), (30, 10), (30, 11), (26, 0), (26, 1), (26, 2), (19, 0), (19, 1), (19, 2), (19, 3), (16, 0), (16, 1), (16, 2), (4, 10), (4, 11), (4, 12), (4, 14), (4, 15)]) (T' := [(30, 5)]) rfl rfl
  repeat (refine ⟨by first | rfl | exact of_decide_eq_true rfl | exact ⟨of_decide_eq_true rfl, of_decide_eq_true rfl⟩, ?_⟩)
  refine ⟨2, 40, _, I_35 (d := d) hR hD, ?_⟩
  repeat (refine ⟨by first | rfl | exact of_decide_eq_true rfl | exact ⟨of_decide_eq_true rfl, of_decide_eq_true rfl⟩, ?_⟩)
  intro m e
  obtain ⟨R4, D4, rfl, hR, hD⟩ := e
  repeat (refine ⟨by first | rfl | exact of_decide_eq_true rfl | exact ⟨of_decide_eq_true rfl, of_decide_eq_true rfl⟩, ?_⟩)
  intro m e
  obtain ⟨R5, D5, rfl, hR, hD⟩ := step_rf 34 2 35 hR hD e rfl rfl (of_decide_eq_true rfl) (S' := [(34, 3), (34, 4), (30, 2), (30, 8), (30, 10), (30, 11), (26, 0), (26, 1), (26, 2), (19, 0), (19, 1), (19, 2), (19, 3), (16, 0), (16, 1), (16, 2), (4, 10), (4, 11), (4, 12), (4, 14), (4, 15)]) rfl
  repeat (refine ⟨by first | rfl | exact of_decide_eq_true rfl | exact ⟨of_decide_eq_true rfl, of_decide_eq_true rfl⟩, ?_⟩)
  intro m e
  obtain ⟨R6, D6, rfl, hR, hD⟩ := step_nw 5 0 hR hD e rfl rfl (fun _ => rfl) (S' := [(38, 0), (38, 1), (34, 3), (34, 4), (30, 2), (30, 8), (30, 10), (30, 11), (26, 0), (26, 1), (26, 2), (19, 0), (19, 1), (19, 2), (19, 3), (16, 0), (16, 1), (16, 2), (4, 10), (4, 11), (4, 12), (4, 14), (4, 15)]) (T' := [(30, 5)]) rfl rfl
  repeat (refine ⟨by first | rfl | exact of_decide_eq_true rfl | exact ⟨of_decide_eq_true rfl, of_decide_eq_true rfl⟩, ?_⟩)
  refine ⟨2, 40, _, I_38 (d := d) hR hD, ?_⟩
  repeat (refine ⟨by first | rfl | exact of_decide_eq_true rfl | exact ⟨of_decide_eq_true rfl, of_decide_eq_true rfl⟩, ?_⟩)
  intro m e
  obtain ⟨R7, D7, rfl, hR, hD⟩ := e
  repeat (refine ⟨by first | rfl | exact of_decide_eq_true rfl | exact ⟨of_decide_eq_true rfl, of_decide_eq_true rfl⟩, ?_⟩)
  intro m e
  obtain ⟨R8, D8, rfl, hR, hD⟩ := step_rf 34 3 38 hR hD e rfl rfl (of_decide_eq_true rfl) (S' := [(34, 4), (30, 2), (30, 8), (30, 10), (30, 11), (26, 0), (26, 1), (26, 2), (19, 0), (19, 1), (19, 2), (19, 3), (16, 0), (16, 1), (16, 2), (4, 10), (4, 11), (4, 12), (4, 14), (4, 15)]) rfl
  repeat (refine ⟨by first | rfl | exact of_decide_eq_true rfl | exact ⟨of_decide_eq_true rfl, of_decide_eq_true rfl⟩, ?_⟩)
  intro m e
  obtain ⟨R9, D9, rfl, hR, hD⟩ := step_nw 20 21 hR hD e rfl rfl (fun _ => rfl) (S' := [(34, 4), (30, 2), (30, 8), (30, 10), (30, 11), (26, 0), (26, 1), (26, 2), (19, 0), (19, 1), (19, 2), (19, 3), (16, 0), (16, 1), (16, 2), (4, 10), (4, 11), (4, 12), (4, 14), (4, 15)]) (T' := [(30, 5)]) rfl rfl
  repeat (refine ⟨by first | rfl | exact of_decide_eq_true rfl | exact ⟨of_decide_eq_true rfl, of_decide_eq_true rfl⟩, ?_⟩)
  intro m e
  obtain ⟨R10, D10, rfl, hR, hD⟩ := step_rf 34 4 41 hR hD e rfl rfl (of_decide_eq_true rfl) (S' := [(30, 2), (30, 8), (30, 10), (30, 11), (26, 0), (26, 1), (26, 2), (19, 0), (19, 1), (19, 2), (19, 3), (16, 0), (16, 1), (16, 2), (4, 10), (4, 11), (4, 12), (4, 14), (4, 15)]) rfl
  first | exact ⟨rfl, _, _, rfl, hR, hD⟩ | exact ⟨rfl, ⟨_, _, rfl, hR, hD⟩⟩
theorem I_30 {d : Nat} {R : Nat → Int → Nat} {D B : DD} (hR : RI 31 [(30, 0), (30, 2), (30, 8), (30, 10), (30, 11), (26, 0), (26, 1), (26, 2), (19, 0), (19, 1), (19, 2), (19, 3), (16, 0), (16, 1), (16, 2), (4, 10), (4, 11), (4, 12), (4, 14), (4, 15)] R) (hD : DI (dS B) 31 [(30, 5)] D) : Cl (d + 2) 14 2585 mX7_init [vr 30] (BM n1 31 R D) (KV (fun m => ∃ (R' : Nat → Int → Nat) (D' : DD), m = BM n1 45 R' D' ∧ RI 45 [(26, 0), (26, 1), (26, 2), (19, 0), (19, 1), (19, 2), (19, 3), (16, 0), (16, 1), (16, 2), (4, 10), (4, 11), (4, 12), (4, 14), (4, 15)] R' ∧ DI (dS B) 45 [] D')) := by
  refine Cl_of mb_X7_init (Nat.le_of_ble_eq_true rfl) (sg_X7_init_0 (d := d + 1) ?_)
  repeat (refine ⟨by first | rfl | exact of_decide_eq_true rfl | exact ⟨of_decide_eq_true rfl, of_decide_eq_true rfl⟩, ?_⟩)
  intro m e
  obtain ⟨R1, D1, rfl, hR, hD⟩ := step_nw 1 0 hR hD e rfl rfl (fun _ => rfl) (S' := [(31, 3), (31, 4), (30, 0), (30, 2), (30, 8), (30, 10), (30, 11), (26, 0), (26, 1), (26, 2), (19, 0), (19, 1), (19, 2), (19, 3), (16, 0), (16, 1), (16, 2), (4, 10), (4, 11), (4, 12), (4, 14), (4, 15)]) (T' := [(31, 0), (31, 1), (31, 2), (30, 5)]) rfl rfl
  repeat (refine ⟨by first | rfl | exact of_decide_eq_true rfl | exact ⟨of_decide_eq_true rfl, of_decide_eq_true rfl⟩, ?_⟩)
  refine ⟨2, 27, _, I_31 (d := d) hR hD, ?_⟩
  repeat (refine ⟨by first | rfl | exact of_decide_eq_true rfl | exact ⟨of_decide_eq_true rfl, of_decide_eq_true rfl⟩, ?_⟩)
  intro m e
  obtain ⟨R2, D2, rfl, hR, hD⟩ := e
  repeat (refine ⟨by first | rfl | exact of_decide_eq_true rfl | exact ⟨of_decide_eq_true rfl, of_decide_eq_true rfl⟩, ?_⟩)
  intro m e
  obtain ⟨R3, D3, rfl, hR, hD⟩ := step_rf 30 0 31 hR hD e rfl rfl (of_decide_eq_true rfl) (S' := [(30, 2), (30, 8), (30, 10), (30, 11), (26, 0), (26, 1), (26, 2), (19, 0), (19, 1), (19, 2), (19, 3), (16, 0), (16, 1), (16, 2), (4, 10), (4, 11), (4, 12), (4, 14), (4, 15)]) rfl
  repeat (refine ⟨by first | rfl | exact of_decide_eq_true rfl | exact ⟨of_decide_eq_true rfl, of_decide_eq_true rfl⟩, ?_⟩)
  intro m e
  obtain ⟨R4, D4, rfl, hR, hD⟩ := step_rf 30 1 0 hR hD e rfl rfl (of_decide_eq_true rfl) (S' := [(30, 2), (30, 8), (30, 10), (30, 11), (26, 0), (26, 1), (26, 2), (19, 0), (19, 1), (19, 2), (19, 3), (16, 0), (16, 1), (16, 2), (4, 10), (4, 11), (4, 12), (4, 14), (4, 15)]) rfl
  repeat (refine ⟨by first | rfl | exact of_decide_eq_true rfl | exact ⟨of_decide_eq_true rfl, of_decide_eq_true rfl⟩, ?_⟩)
  intro m e
  obtain ⟨R5, D5, rfl, hR, hD⟩ := step_nw 6 0 hR hD e rfl rfl (fun _ => rfl) (S' := [(34, 2), (34, 3), (34, 4), (30, 2), (30, 8), (30, 10), (30, 11), (26, 0), (26, 1), (26, 2), (19, 0), (19, 1), (19, 2), (19, 3), (16, 0), (16, 1), (16, 2), (4, 10), (4, 11), (4, 12), (4, 14), (4, 15)]) (T' := [(34, 1), (30, 5)]) rfl rfl
  repeat (refine ⟨by first | rfl | exact of_decide_eq_true rfl | exact ⟨of_decide_eq_true rfl, of_decide_eq_true rfl⟩, ?_⟩)
  refine ⟨7, 107, _, I_34 (d := d) hR hD, ?_⟩
  repeat (refine ⟨by first | rfl | exact of_decide_eq_true rfl | exact ⟨of_decide_eq_true rfl, of_decide_eq_true rfl⟩, ?_⟩)
  intro m e
  obtain ⟨R6, D6, rfl, hR, hD⟩ := e
  repeat (refine ⟨by first | rfl | exact of_decide_eq_true rfl | exact ⟨of_decide_eq_true rfl, of_decide_eq_true rfl⟩, ?_⟩)
  intro m e
  obtain ⟨R7, D7, rfl, hR, hD⟩ := step_rf 30 2 34 hR hD e rfl rfl (of_decide_eq_true rfl) (S' := [(30, 8), (30, 10), (30, 11), (26, 0), (26, 1), (26, 2), (19, 0), (19, 1), (19, 2), (19, 3), (16, 0), (16, 1), (16, 2), (4, 10), (4, 11), (4, 12), (4, 14), (4, 15)]) rfl
  repeat (refine ⟨by first | rfl | exact of_decide_eq_true rfl | exact ⟨of_decide_eq_true rfl, of_decide_eq_true rfl⟩, ?_⟩)
  intro m e
  obtain ⟨R8, D8, rfl, hR, hD⟩ := step_nm 30 3 (0) hR hD e rfl rfl (T' := [(30, 5)]) rfl
  repeat (refine ⟨by first | rfl | exact of_decide_eq_true rfl | exact ⟨of_decide_eq_true rfl, of_decide_eq_true rfl⟩, ?_⟩)
  intro m e
  obtain ⟨R9, D9, rfl, hR, hD⟩ := step_nm 30 4 (0) hR hD e rfl rfl (T' := [(30, 5)]) rfl
  repeat (refine ⟨by first | rfl | exact of_decide_eq_true rfl | exact ⟨of_decide_eq_true rfl, of_decide_eq_true rfl⟩, ?_⟩)
  intro m e
  obtain ⟨R10, D10, rfl, hR, hD⟩ := step_nm 30 5 (-1) hR hD e rfl rfl (T' := []) rfl
  repeat (refine ⟨by first | rfl | exact of_decide_eq_true rfl | exact ⟨of_decide_eq_true rfl, of_decide_eq_true rfl⟩, ?_⟩)
  intro m e
  obtain ⟨R11, D11, rfl, hR, hD⟩ := step_nm 30 6 (0) hR hD e rfl rfl (T' := []) rfl
  repeat (refine ⟨by first | rfl | exact of_decide_eq_true rfl | exact ⟨of_decide_eq_true rfl, of_decide_eq_true rfl⟩, ?_⟩)
  intro m e
  obtain ⟨R12, D12, rfl, hR, hD⟩ := step_nm 30 7 (0) hR hD e rfl rfl (T' := []) rfl
  repeat (refine ⟨by first | rfl | exact of_decide_eq_true rfl | exact ⟨of_decide_eq_true rfl, of_decide_eq_true rfl⟩, ?_⟩)
  intro m e
  obtain ⟨R13, D13, rfl, hR, hD⟩ := step_nw 20 1040 hR hD e rfl rfl (fun _ => rfl) (S' := [(30, 8), (30, 10), (30, 11), (26, 0), (26, 1), (26, 2), (19, 0), (19, 1), (19, 2), (19, 3), (16, 0), (16, 1), (16, 2), (4, 10), (4, 11), (4, 12), (4, 14), (4, 15)]) (T' := []) rfl rfl
  repeat (refine ⟨by first | rfl | exact of_decide_eq_true rfl | exact ⟨of_decide_eq_true rfl, of_decide_eq_true rfl⟩, ?_⟩)
  intro m e
  obtain ⟨R14, D14, rfl, hR, hD⟩ := step_rf 30 8 42 hR hD e rfl rfl (of_decide_eq_true rfl) (S' := [(30, 10), (30, 11), (26, 0), (26, 1), (26, 2), (19, 0), (19, 1), (19, 2), (19, 3), (16, 0), (16, 1), (16, 2), (4, 10), (4, 11), (4, 12), (4, 14), (4, 15)]) rfl
  repeat (refine ⟨by first | rfl | exact of_decide_eq_true rfl | exact ⟨of_decide_eq_true rfl, of_decide_eq_true rfl⟩, ?_⟩)
  intro m e
  obtain ⟨R15, D15, rfl, hR, hD⟩ := step_nm 30 9 (0) hR hD e rfl rfl (T' := []) rfl
  repeat (refine ⟨by first | rfl | exact of_decide_eq_true rfl | exact ⟨of_decide_eq_true rfl, of_decide_eq_true rfl⟩, ?_⟩)
  intro m e
  obtain ⟨R16, D16, rfl, hR, hD⟩ := step_nw 20 1000 hR hD e rfl rfl (fun _ => rfl) (S' := [(30, 10), (30, 11), (26, 0), (26, 1), (26, 2), (19, 0), (19, 1), (19, 2), (19, 3), (16, 0), (16, 1), (16, 2), (4, 10), (4, 11), (4, 12), (4, 14), (4, 15)]) (T' := []) rfl rfl
  repeat (refine ⟨by first | rfl | exact of_decide_eq_true rfl | exact ⟨of_decide_eq_true rfl, of_decide_eq_true rfl⟩, ?_⟩)
  intro m e
  obtain ⟨R17, D17, rfl, hR, hD⟩ := step_rf 30 10 43 hR hD e rfl rfl (of_decide_eq_true rfl) (S' := [(30, 11), (26, 0), (26, 1), (26, 2), (19, 0), (19, 1), (19, 2), (19, 3), (16, 0), (16, 1), (16, 2), (4, 10), (4, 11), (4, 12), (4, 14), (4, 15)]) rfl
  repeat (refine ⟨by first | rfl | exact of_decide_eq_true rfl | exact ⟨of_decide_eq_true rfl, of_decide_eq_true rfl⟩, ?_⟩)
  intro m e
  obtain ⟨R18, D18, rfl, hR, hD⟩ := step_nw 20 401 hR hD e rfl rfl (fun _ => rfl) (S' := [(30, 11), (26, 0), (26, 1), (26, 2), (19, 0), (19, 1), (19, 2), (19, 3), (16, 0), (16, 1), (16, 2), (4, 10), (4, 11), (4, 12), (4, 14), (4, 15)]) (T' := []) rfl rfl
  repeat (refine ⟨by first | rfl | exact of_decide_eq_true rfl | exact ⟨of_decide_eq_true rfl, of_decide_eq_true rfl⟩, ?_⟩)
  intro m e
  obtain ⟨R19, D19, rfl, hR, hD⟩ := step_rf 30 11 44 hR hD e rfl rfl (of_decide_eq_true rfl) (S' := [(26, 0), (26, 1), (26, 2), (19, 0), (19, 1), (19, 2), (19, 3), (16, 0), (16, 1), (16, 2), (4, 10), (4, 11), (4, 12), (4, 14), (4, 15)]) rfl
  first | exact ⟨rfl, _, _, rfl, hR, hD⟩ | exact ⟨rfl, ⟨_, _, rfl, hR, hD⟩⟩
theorem I_46 {d : Nat} {R : Nat → Int → Nat} {D B : DD} (hR : RI 47 [(46, 3), (46, 4), (45, 0), (45, 2), (45, 3), (45, 5), (26, 0), (26, 1), (26, 2), (19, 0), (19, 1), (19, 2), (19, 3), (16, 0), (16, 1), (16, 2), (4, 11), (4, 12), (4, 14), (4, 15)] R) (hD : DI (dS B) 47 [(46, 0), (46, 1), (46, 2)] D) : Cl (d + 1) 2 27 mX0_init [vr 46] (BM n1 47 R D) (KV (fun m => ∃ (R' : Nat → Int → Nat) (D' : DD), m = BM n1 49 R' D' ∧ RI 49 [(45, 0), (45, 2), (45, 3), (45, 5), (26, 0), (26, 1), (26, 2), (19, 0), (19, 1), (19, 2), (19, 3), (16, 0), (16, 1), (16, 2), (4, 11), (4, 12), (4, 14), (4, 15)] R' ∧ DI (dS B) 49 [] D')) := by
  refine Cl_of mb_X0_init (Nat.le_of_ble_eq_true rfl) (sg_X0_init_0 (d := d) ?_)
  repeat (refine ⟨by first | rfl | exact of_decide_eq_true rfl | exact ⟨of_decide_eq_true rfl, of_decide_eq_true rfl⟩, ?_⟩)
  intro m e
  obtain ⟨R1, D1, rfl, hR, hD⟩ := step_nm 46 0 (7) hR hD e rfl rfl (T' := [(46, 1), (46, 2)]) rfl
  repeat (refine ⟨by first | rfl | exact of_decide_eq_true rfl | exact ⟨of_decide_eq_true rfl, of_decide_eq_true rfl⟩, ?_⟩)
  intro m e
  obtain ⟨R2, D2, rfl, hR, hD⟩ := step_nm 46 1 (100) hR hD e rfl rfl (T' := [(46, 2)]) rfl
  repeat (refine ⟨by first | rfl | exact of_decide_eq_true rfl | exact ⟨of_decide_eq_true rfl, of_decide_eq_true rfl⟩, ?_⟩)
  intro m e
  obtain ⟨R3, D3, rfl, hR, hD⟩ := step_nm 46 2 (80) hR hD e rfl rfl (T' := []) rfl
  repeat (refine ⟨by first | rfl | exact of_decide_eq_true rfl | exact ⟨of_decide_eq_true rfl, of_decide_eq_true rfl⟩, ?_⟩)
  intro m e
  obtain ⟨R4, D4, rfl, hR, hD⟩ := step_nw 20 7 hR hD e rfl rfl (fun _ => rfl) (S' := [(46, 3), (46, 4), (45, 0), (45, 2), (45, 3), (45, 5), (26, 0), (26, 1), (26, 2), (19, 0), (19, 1), (19, 2), (19, 3), (16, 0), (16, 1), (16, 2), (4, 11), (4, 12), (4, 14), (4, 15)]) (T' := [(47, 0), (47, 1), (47, 3), (47, 6)]) rfl rfl
  repeat (refine ⟨by first | rfl | exact of_decide_eq_true rfl | exact ⟨of_decide_eq_true rfl, of_decide_eq_true rfl⟩, ?_⟩)
  intro m e
  obtain ⟨R5, D5, rfl, hR, hD⟩ := step_nm 47 0 (8) hR hD e rfl rfl (T' := [(47, 1), (47, 3), (47, 6)]) rfl
  repeat (refine ⟨by first | rfl | exact of_decide_eq_true rfl | exact ⟨of_decide_eq_true rfl, of_decide_eq_true rfl⟩, ?_⟩)
  intro m e
  obtain ⟨R6, D6, rfl, hR, hD⟩ := step_nm 47 1 (2) hR hD e rfl rfl (T' := [(47, 3), (47, 6)]) rfl
  repeat (refine ⟨by first | rfl | exact of_decide_eq_true rfl | exact ⟨of_decide_eq_true rfl, of_decide_eq_true rfl⟩, ?_⟩)
  intro m e
  obtain ⟨R7, D7, rfl, hR, hD⟩ := step_nm 47 2 (0) hR hD e rfl rfl (T' := [(47, 3), (47, 6)]) rfl
  repeat (refine ⟨by first | rfl | exact of_decide_eq_true rfl | exact ⟨of_decide_eq_true rfl, of_decide_eq_true rfl⟩, ?_⟩)
  intro m e
  obtain ⟨R8, D8, rfl, hR, hD⟩ := step_nm 47 3 (6) hR hD e rfl rfl (T' := [(47, 6)]) rfl
  repeat (refine ⟨by first | rfl | exact of_decide_eq_true rfl | exact ⟨of_decide_eq_true rfl, of_decide_eq_true rfl⟩, ?_⟩)
  intro m e
  obtain ⟨R9, D9, rfl, hR, hD⟩ := step_nm 47 4 (0) hR hD e rfl rfl (T' := [(47, 6)]) rfl
  repeat (refine ⟨by first | rfl | exact of_decide_eq_true rfl | exact ⟨of_decide_eq_true rfl, of_decide_eq_true rfl⟩, ?_⟩)
  intro m e
  obtain ⟨R10, D10, rfl, hR, hD⟩ := step_nm 47 5 (0) hR hD e rfl rfl (T' := [(47, 6)]) rfl
  repeat (refine ⟨by first | rfl | exact of_decide_eq_true rfl | exact ⟨of_decide_eq_true rfl, of_decide_eq_true rfl⟩, ?_⟩)
  intro m e
  obtain ⟨R11, D11, rfl, hR, hD⟩ := step_nm 47 6 (3) hR hD e rfl rfl (T' := []) rfl
  repeat (refine ⟨by first | rfl | exact of_decide_eq_true rfl | exact ⟨of_decide_eq_true rfl, of_decide_eq_true rfl⟩, ?_⟩)
  intro m e
  obtain ⟨R12, D12, rfl, hR, hD⟩ := step_rf 46 3 47 hR hD e rfl rfl (of_decide_eq_true rfl) (S' := [(46, 4), (45, 0), (45, 2), (45, 3), (45, 5), (26, 0), (26, 1), (26, 2), (19, 0), (19, 1), (19, 2), (19, 3), (16, 0), (16, 1), (16, 2), (4, 11), (4, 12), (4, 14), (4, 15)]) rfl
  repeat (refine ⟨by first | rfl | exact of_decide_eq_true rfl | exact ⟨of_decide_eq_true rfl, of_decide_eq_true rfl⟩, ?_⟩)
  intro m e
  obtain ⟨R13, D13, rfl, hR, hD⟩ := step_nw 20 20 hR hD e rfl rfl (fun _ => rfl) (S' := [(46, 4), (45, 0), (45, 2), (45, 3), (45, 5), (26, 0), (26, 1), (26, 2), (19, 0), (19, 1), (19, 2), (19, 3), (16, 0), (16, 1), (16, 2), (4, 11), (4, 12), (4, 14), (4, 15)]) (T' := [(48, 0), (48, 1), (48, 2), (48, 3), (48, 4), (48, 5), (48, 6), (48, 7), (48, 8), (48, 9), (48, 10), (48, 11), (48, 12), (48, 13), (48, 14), (48, 15), (48, 16), (48, 17), (48, 18), (48, 19)]) rfl rfl
  repeat (refine ⟨by first | rfl | exact of_decide_eq_true rfl | exact ⟨of_decide_eq_true rfl, of_decide_eq_true rfl⟩, ?_⟩)
  intro m e
  obtain ⟨R14, D14, rfl, hR, hD⟩ := step_rf 46 4 48 hR hD e rfl rfl (of_decide_eq_true rfl) (S' := [(45, 0), (45, 2), (45, 3), (45, 5), (26, 0), (26, 1), (26, 2), (19, 0), (19, 1), (19, 2), (19, 3), (16, 0), (16, 1), (16, 2), (4, 11), (4, 12), (4, 14), (4, 15)]) rfl
  repeat (refine ⟨by first | rfl | exact of_decide_eq_true rfl | exact ⟨of_decide_eq_true rfl, of_decide_eq_true rfl⟩, ?_⟩)
  rw [show mR (BM n1 49 R14 D14) 46 4 = 48 from hR.at 46 4 (of_decide_eq_true rfl) (by decide)]
  repeat (refine ⟨by first | rfl | exact of_decide_eq_true rfl | exact ⟨of_decide_eq_true rfl, of_decide_eq_true rfl⟩, ?_⟩)
  refine ⟨0, 0, _, C_fill (a := 48) (x := 100) rfl, ?_⟩
  repeat (refine ⟨by first | rfl | exact of_decide_eq_true rfl | exact ⟨of_decide_eq_true rfl, of_decide_eq_true rfl⟩, ?_⟩)
  intro m e
  obtain ⟨R15, D15, rfl, hR, hD⟩ := step_fi 48 20 (100) hR hD e rfl (T' := []) (fun t ht => (show ∀ t : Nat, t < 20 → dv 48 (t : Int) = 100 by decide) t ht) (by decide)
  first | exact ⟨rfl, _, _, rfl, hR, hD⟩ | exact ⟨rfl, ⟨_, _, rfl, hR, hD⟩⟩
theorem I_53 {d : Nat} {R : Nat → Int → Nat} {D B : DD} (hR : RI 54 [(53, 0), (53, 1), (52, 2), (52, 3), (52, 4), (49, 0), (49, 1), (49, 2), (49, 3), (49, 4), (26, 0), (26, 1), (26, 2), (19, 0), (19, 1), (19, 2), (19, 3), (16, 0), (16, 1), (16, 2), (4, 11), (4, 12), (4, 14), (4, 15)] R) (hD : DI (dS B) 54 [] D) : Cl (d) 2 40 mX4_init [vr 53] (BM n1 54 R D) (KV (fun m => ∃ (R' : Nat → Int → Nat) (D' : DD), m = BM n1 56 R' D' ∧ RI 56 [(52, 2), (52, 3), (52, 4), (49, 0), (49, 1), (49, 2), (49, 3), (49, 4), (26, 0), (26, 1), (26, 2), (19, 0), (19, 1), (19, 2), (19, 3), (16, 0), (16, 1), (16, 2), (4, 11), (4, 12), (4, 14), (4, 15)] R' ∧ DI (dS B) 56 [] D')) := by
  refine Cl_of mb_X4_init (Nat.le_of_ble_eq_true rfl) (sg_X4_init_0 ?_)
  repeat (refine ⟨by first | rfl | exact of_decide_eq_true rfl | exact ⟨of_decide_eq_true rfl, of_decide_eq_true rfl⟩, ?_⟩)
  intro m e
  obtain ⟨R1, D1, rfl, hR, hD⟩ := step_nw 20 20 hR hD e rfl rfl (fun _ => rfl) (S' := [(53, 0), (53, 1), (52, 2), (52, 3), (52, 4), (49, 0), (49, 1), (49, 2), (49, 3), (49, 4), (26, 0), (26, 1), (26, 2), (19, 0), (19, 1), (19, 2), (19, 3), (16, 0), (16, 1), (16, 2), (4, 11), (4, 12), (4, 14), (4, 15)]) (T' := []) rfl rfl
  repeat (refine ⟨by first | rfl | exact of_decide_eq_true rfl | exact ⟨of_decide_eq_true rfl, of_decide_eq_true rfl⟩, ?_⟩)
  intro m e
  obtain ⟨R2, D2, rfl, hR, hD⟩ := step_rf 53 0 54 hR hD e rfl rfl (of_decide_eq_true rfl) (S' := [(53, 1), (52, 2), (52, 3), (52, 4), (49, 0), (49, 1), (49, 2), (49, 3), (49, 4), (26, 0), (26, 1), (26, 2), (19, 0), (19, 1), (19, 2), (19, 3), (16, 0), (16, 1), (16, 2), (4, 11), (4, 12), (4, 14), (4, 15)]) rfl
  repeat (refine ⟨by first | rfl | exact of_decide_eq_true rfl | exact ⟨of_decide_eq_true rfl, of_decide_eq_true rfl⟩, ?_⟩)
  intro m e
  obtain ⟨R3, D3, rfl, hR, hD⟩ := step_nw 20 20 hR hD e rfl rfl (fun _ => rfl) (S' := [(53, 1), (52, 2), (52, 3), (52, 4), (49, 0), (49, 1), (49, 2), (49, 3), (49, 4), (26, 0), (26, 1), (26, 2), (19, 0), (19, 1), (19, 2), (19, 3), (16, 0), (16, 1), (16, 2), (4, 11), (4, 12), (4, 14), (4, 15)]) (T' := []) rfl rfl
  repeat (refine ⟨by first | rfl | exact of_decide_eq_true rfl | exact ⟨of_decide_eq_true rfl, of_decide_eq_true rfl⟩, ?_⟩)
  intro m e
  obtain ⟨R4, D4, rfl, hR, hD⟩ := step_rf 53 1 55 hR hD e rfl rfl (of_decide_eq_true rfl) (S' := [(52, 2), (52, 3), (52, 4), (49, 0), (49, 1), (49, 2), (49, 3), (49, 4), (26, 0), (26, 1), (26, 2), (19, 0), (19, 1), (19, 2), (19, 3), (16, 0), (16, 1), (16, 2), (4, 11), (4, 12), (4, 14), (4, 15)]) rfl
  repeat (refine ⟨by first | rfl | exact of_decide_eq_true rfl | exact ⟨of_decide_eq_true rfl, of_decide_eq_true rfl⟩, ?_⟩)
  intro m e
  obtain ⟨R5, D5, rfl, hR, hD⟩ := step_nm 53 2 (0) hR hD e rfl rfl (T' := []) rfl
  first | exact ⟨rfl, _, _, rfl, hR, hD⟩ | exact ⟨rfl, ⟨_, _, rfl, hR, hD⟩⟩
theorem I_56 {d : Nat} {R : Nat → Int → Nat} {D B : DD} (hR : RI 57 [(56, 0), (56, 1), (52, 3), (52, 4), (49, 0), (49, 1), (49, 2), (49, 3), (49, 4), (26, 0), (26, 1), (26, 2), (19, 0), (19, 1), (19, 2), (19, 3), (16, 0), (16, 1), (16, 2), (4, 11), (4, 12), (4, 14), (4, 15)] R) (hD : DI (dS B) 57 [] D) : Cl (d) 2 40 mX4_init [vr 56] (BM n1 57 R D) (KV (fun m => ∃ (R' : Nat → Int → Nat) (D' : DD), m = BM n1 59 R' D' ∧ RI 59 [(52, 3), (52, 4), (49, 0), (49, 1), (49, 2), (49, 3), (49, 4), (26, 0), (26, 1), (26, 2), (19, 0), (19, 1), (19, 2), (19, 3), (16, 0), (16, 1), (16, 2), (4, 11), (4, 12), (4, 14), (4, 15)] R' ∧ DI (dS B) 59 [] D')) := by
  refine Cl_of mb_X4_init (Nat.le_of_ble_eq_true rfl) (sg_X4_init_0 ?_)
  repeat (refine ⟨by first | rfl | exact of_decide_eq_true rfl | exact ⟨of_decide_eq_true rfl, of_decide_eq_true rfl⟩, ?_⟩)
  intro m e
  obtain ⟨R1, D1, rfl, hR, hD⟩ := step_nw 20 20 hR hD e rfl rfl (fun _ => rfl) (S' := [(56, 0), (56, 1), (52, 3), (52, 4), (49, 0), (49, 1), (49, 2), (49, 3), (49, 4), (26, 0), (26, 1), (26, 2), (19, 0), (19, 1), (19, 2), (19, 3), (16, 0), (16, 1), (16, 2), (4, 11), (4, 12), (4, 14), (4, 15)]) (T' := []) rfl rfl
  repeat (refine ⟨by first | rfl | exact of_decide_eq_true rfl | exact ⟨of_decide_eq_true rfl, of_decide_eq_true rfl⟩, ?_⟩)
  intro m e
  obtain ⟨R2, D2, rfl, hR, hD⟩ := step_rf 56 0 57 hR hD e rfl rfl (of_decide_eq_true rfl) (S' := [(56, 1), (52, 3), (52, 4), (49, 0), (49, 1), (49, 2), (49, 3), (49, 4), (26, 0), (26, 1), (26, 2), (19, 0), (19, 1), (19, 2), (19, 3), (16, 0), (16, 1), (16, 2), (4, 11), (4, 12), (4, 14), (4, 15)]) rfl
  repeat (refine ⟨by first | rfl | exact of_decide_eq_true rfl | exact ⟨of_decide_eq_true rfl, of_decide_eq_true rfl⟩, ?_⟩)
  intro m e
  obtain ⟨R3, D3, rfl, hR, hD⟩ := step_nw 20 20 hR hD e rfl rfl (fun _ => rfl) (S' := [(56, 1), (52, 3), (52, 4), (49, 0), (49, 1), (49, 2), (49, 3), (49, 4), (26, 0), (26, 1), (26, 2), (19, 0), (19, 1), (19, 2), (19, 3), (16, 0), (16, 1), (16, 2), (4, 11), (4, 12), (4, 14), (4, 15)]) (T' := []) rfl rfl
  repeat (refine ⟨by first | rfl | exact of_decide_eq_true rfl | exact ⟨of_decide_eq_true rfl, of_decide_eq_true rfl⟩, ?_⟩)
  intro m e
  obtain ⟨R4, D4, rfl, hR, hD⟩ := step_rf 56 1 58 hR hD e rfl rfl (of_decide_eq_true rfl) (S' := [(52, 3), (52, 4), (49, 0), (49, 1), (49, 2), (49, 3), (49, 4), (26, 0), (26, 1), (26, 2), (19, 0), (19, 1), (19, 2), (19, 3), (16, 0), (16, 1), (16, 2), (4, 11), (4, 12), (4, 14), (4, 15)]) rfl
  repeat (refine ⟨by first | rfl | exact of_decide_eq_true rfl | exact ⟨of_decide_eq_true rfl, of_decide_eq_true rfl⟩, ?_⟩)
  intro m e
  obtain ⟨R5, D5, rfl, hR, hD⟩ := step_nm 56 2 (0) hR hD e rfl rfl (T' := []) rfl
  first | exact ⟨rfl, _, _, rfl, hR, hD⟩ | exact ⟨rfl, ⟨_, _, rfl, hR, hD⟩⟩
theorem I_52 {d : Nat} {R : Nat → Int → Nat} {D B : DD} (hR : RI 53 [(52, 2), (52, 3), (52, 4), (49, 0), (49, 1), (49, 2), (49, 3), (49, 4), (26, 0), (26, 1), (26, 2), (19, 0), (19, 1), (19, 2), (19, 3), (16, 0), (16, 1), (16, 2), (4, 11), (4, 12), (4, 14), (4, 15)] R) (hD : DI (dS B) 53 [(52, 1)] D) : Cl (d + 1) 7 107 mX5_init [vr 52] (BM n1 53 R D) (KV (fun m => ∃ (R' : Nat → Int → Nat) (D' : DD), m = BM n1 60 R' D' ∧ RI 60 [(49, 0), (49, 1), (49, 2), (49, 3), (49, 4), (26, 0), (26, 1), (26, 2), (19, 0), (19, 1), (19, 2), (19, 3), (16, 0), (16, 1), (16, 2), (4, 11), (4, 12), (4, 14), (4, 15)] R' ∧ DI (dS B) 60 [] D')) := by
  refine Cl_of mb_X5_init (Nat.le_of_ble_eq_true rfl) (sg_X5_init_0 (d := d) ?_)
  repeat (refine ⟨by first | rfl | exact of_decide_eq_true rfl | exact ⟨of_decide_eq_true rfl, of_decide_eq_true rfl⟩, ?_⟩)
  intro m e
  obtain ⟨R1, D1, rfl, hR, hD⟩ := step_nm 52 0 (0) hR hD e rfl rfl (T' := [(52, 1)]) rfl
  repeat (refine ⟨by first | rfl | exact of_decide_eq_true rfl | exact ⟨of_decide_eq_true rfl, of_decide_eq_true rfl⟩, ?_⟩)
  intro m e
  obtain ⟨R2, D2, rfl, hR, hD⟩ := step_nm 52 1 (1) hR hD e rfl rfl (T' := []) rfl
  repeat (refine ⟨by first | rfl | exact of_decide_eq_true rfl | exact ⟨of_decide_eq_true rfl, of_decide_eq_true rfl⟩, ?_⟩)
  intro m e
  obtain ⟨R3, D3, rfl, hR, hD⟩ := step_nw 5 0 hR hD e rfl rfl (fun _ => rfl) (S' := [(53, 0), (53, 1), (52, 2), (52, 3), (52, 4), (49, 0), (49, 1), (49, 2), (49, 3), (49, 4), (26, 0), (26, 1), (26, 2), (19, 0), (19, 1), (19, 2), (19, 3), (16, 0), (16, 1), (16, 2), (4, 11), (4, 12), (4, 14), (4, 15)]) (T' := []) rfl rfl
  repeat (refine ⟨by first | rfl | exact of_decide_eq_true rfl | exact ⟨of_decide_eq_true rfl, of_decide_eq_true rfl⟩, ?_⟩)
  refine ⟨2, 40, _, I_53 (d := d) hR hD, ?_⟩
  repeat (refine ⟨by first | rfl | exact of_decide_eq_true rfl | exact ⟨of_decide_eq_true rfl, of_decide_eq_true rfl⟩, ?_⟩)
  intro m e
  obtain ⟨R4, D4, rfl, hR, hD⟩ := e
  repeat (refine ⟨by first | rfl | exact of_decide_eq_true rfl | exact ⟨of_decide_eq_true rfl, of_decide_eq_true rfl⟩, ?_⟩)
  intro m e
  obtain ⟨R5, D5, rfl, hR, hD⟩ := step_rf 52 2 53 hR hD e rfl rfl (of_decide_eq_true rfl) (S' := [(52, 3), (52, 4), (49, 0), (49, 1), (49, 2), (49, 3), (49, 4), (26, 0), (26, 1), (26, 2), (19, 0), (19, 1), (19, 2), (19, 3), (16, 0), (16, 1), (16, 2), (4, 11), (4, 12), (4, 14), (4, 15)]) rfl
  repeat (refine ⟨by first | rfl | exact of_decide_eq_true rfl | exact ⟨of_decide_eq_true rfl, of_decide_eq_true rfl⟩, ?_⟩)
  intro m e
  obtain ⟨R6, D6, rfl, hR, hD⟩ := step_nw 5 0 hR hD e rfl rfl (fun _ => rfl) (S' := [(56, 0), (56, 1), (52, 3), (52, 4), (49, 0), (49, 1), (49, 2), (49, 3), (49, 4), (26, 0), (26, 1), (26, 2), (19, 0), (19, 1), (19, 2), (19, 3), (16, 0), (16, 1), (16, 2), (4, 11), (4, 12), (4, 14), (4, 15)]) (T' := []) rfl rfl
  repeat (refine ⟨by first | rfl | exact of_decide_eq_true rfl | exact ⟨of_decide_eq_true rfl, of_decide_eq_true rfl⟩, ?_⟩)
  refine ⟨2, 40, _, I_56 (d := d) hR hD, ?_⟩
  repeat (refine ⟨by first | rfl | exact of_decide_eq_true rfl | exact ⟨of_decide_eq_true rfl, of_decide_eq_true rfl⟩, ?_⟩)
  intro m e
  obtain ⟨R7, D7, rfl, hR, hD⟩ := e
  repeat (refine ⟨by first | rfl | exact of_decide_eq_true rfl | exact ⟨of_decide_eq_true rfl, of_decide_eq_true rfl⟩, ?_⟩)
  intro m e
  obtain ⟨R8, D8, rfl, hR, hD⟩ := step_rf 52 3 56 hR hD e rfl rfl (of_decide_eq_true rfl) (S' := [(52, 4), (49, 0), (49, 1), (49, 2), (49, 3), (49, 4), (26, 0), (26, 1), (26, 2), (19, 0), (19, 1), (19, 2), (19, 3), (16, 0), (16, 1), (16, 2), (4, 11), (4, 12), (4, 14), (4, 15)]) rfl
  repeat (refine ⟨by first | rfl | exact of_decide_eq_true rfl | exact ⟨of_decide_eq_true rfl, of_decide_eq_true rfl⟩, ?_⟩)
  intro m e
  obtain ⟨R9, D9, rfl, hR, hD⟩ := step_nw 20 21 hR hD e rfl rfl (fun _ => rfl) (S' := [(52, 4), (49, 0), (49, 1), (49, 2), (49, 3), (49, 4), (26, 0), (26, 1), (26, 2), (19, 0), (19, 1), (19, 2), (19, 3), (16, 0), (16, 1), (16, 2), (4, 11), (4, 12), (4, 14), (4, 15)]) (T' := []) rfl rfl
  repeat (refine ⟨by first | rfl | exact of_decide_eq_true rfl | exact ⟨of_decide_eq_true rfl, of_decide_eq_true rfl⟩, ?_⟩)
  intro m e
  obtain ⟨R10, D10, rfl, hR, hD⟩ := step_rf 52 4 59 hR hD e rfl rfl (of_decide_eq_true rfl) (S' := [(49, 0), (49, 1), (49, 2), (49, 3), (49, 4), (26, 0), (26, 1), (26, 2), (19, 0), (19, 1), (19, 2), (19, 3), (16, 0), (16, 1), (16, 2), (4, 11), (4, 12), (4, 14), (4, 15)]) rfl
  first | exact ⟨rfl, _, _, rfl, hR, hD⟩ | exact ⟨rfl, ⟨_, _, rfl, hR, hD⟩⟩
theorem I_61 {d : Nat} {R : Nat → Int → Nat} {D B : DD} (hR : RI 62 [(61, 0), (61, 1), (60, 2), (60, 3), (60, 4), (49, 1), (49, 2), (49, 3), (49, 4), (26, 0), (26, 1), (26, 2), (19, 0), (19, 1), (19, 2), (19, 3), (16, 0), (16, 1), (16, 2), (4, 11), (4, 12), (4, 14), (4, 15)] R) (hD : DI (dS B) 62 [] D) : Cl (d) 2 40 mX4_init [vr 61] (BM n1 62 R D) (KV (fun m => ∃ (R' : Nat → Int → Nat) (D' : DD), m = BM n1 64 R' D' ∧ RI 64 [(60, 2), (60, 3), (60, 4), (49, 1), (49, 2), (49, 3), (49, 4), (26, 0), (26, 1), (26, 2), (19, 0), (19, 1), (19, 2), (19, 3), (16, 0), (16, 1), (16, 2), (4, 11), (4, 12), (4, 14), (4, 15)] R' ∧ DI (dS B) 64 [] D')) := by
  refine Cl_of mb_X4_init (Nat.le_of_ble_eq_true rfl) (sg_X4_init_0 ?_)
  repeat (refine ⟨by first | rfl | exact of_decide_eq_true rfl | exact ⟨of_decide_eq_true rfl, of_decide_eq_true rfl⟩, ?_⟩)
  intro m e
  obtain ⟨R1, D1, rfl, hR, hD⟩ := step_nw 20 20 hR hD e rfl rfl (fun _ => rfl) (S' := [(61, 0), (61, 1), (60, 2), (60, 3), (60, 4), (49, 1), (49, 2), (49, 3), (49, 4), (26, 0), (26, 1), (26, 2), (19, 0), (19, 1), (19, 2), (19, 3), (16, 0), (16, 1), (16, 2), (4, 11), (4, 12), (4, 14), (4, 15)]) (T' := []) rfl rfl
  repeat (refine ⟨by first | rfl | exact of_decide_eq_true rfl | exact ⟨of_decide_eq_true rfl, of_decide_eq_true rfl⟩, ?_⟩)
  intro m e
  obtain ⟨R2, D2, rfl, hR, hD⟩ := step_rf 61 0 62 hR hD e rfl rfl (of_decide_eq_true rfl) (S' := [(61, 1), (60, 2), (60, 3), (60, 4), (49, 1), (49, 2), (49, 3), (49, 4), (26, 0), (26, 1), (26, 2), (19, 0), (19, 1), (19, 2), (19, 3), (16, 0), (16, 1), (16, 2), (4, 11), (4, 12), (4, 14), (4, 15)]) rfl
  repeat (refine ⟨by first | rfl | exact of_decide_eq_true rfl | exact ⟨of_decide_eq_true rfl, of_decide_eq_true rfl⟩, ?_⟩)
  intro m e
  obtain ⟨R3, D3, rfl, hR, hD⟩ := step_nw 20 20 hR hD e rfl rfl (fun _ => rfl) (S' := [(61, 1), (60, 2), (60, 3), (60, 4), (49, 1), (49, 2), (49, 3), (49, 4), (26, 0), (26, 1), (26, 2), (19, 0), (19, 1), (19, 2), (19, 3), (16, 0), (16, 1), (16, 2), (4, 11), (4, 12), (4, 14), (4, 15)]) (T' := []) rfl rfl
  repeat (refine ⟨by first | rfl | exact of_decide_eq_true rfl | exact ⟨of_decide_eq_true rfl, of_decide_eq_true rfl⟩, ?_⟩)
  intro m e
  obtain ⟨R4, D4, rfl, hR, hD⟩ := step_rf 61 1 63 hR hD e rfl rfl (of_decide_eq_true rfl) (S' := [(60, 2), (60, 3), (60, 4), (49, 1), (49, 2), (49, 3), (49, 4), (26, 0), (26, 1), (26, 2), (19, 0), (19, 1), (19, 2), (19, 3), (16, 0), (16, 1), (16, 2), (4, 11), (4, 12), (4, 14), (4, 15)]) rfl
  repeat (refine ⟨by first | rfl | exact of_decide_eq_true rfl | exact ⟨of_decide_eq_true rfl, of_decide_eq_true rfl⟩, ?_⟩)
  intro m e
  obtain ⟨R5, D5, rfl, hR, hD⟩ := step_nm 61 2 (0) hR hD e rfl rfl (T' := []) rfl
  first | exact ⟨rfl, _, _, rfl, hR, hD⟩ | exact ⟨rfl, ⟨_, _, rfl, hR, hD⟩⟩
theorem I_64 {d : Nat} {R : Nat → Int → Nat} {D B : DD} (hR : RI 65 [(64, 0), (64, 1), (60, 3), (60, 4), (49, 1), (49, 2), (49, 3), (49, 4), (26, 0), (26, 1), (26, 2), (19, 0), (19, 1), (19, 2), (19, 3), (16, 0), (16, 1), (16, 2), (4, 11), (4, 12), (4, 14), (4, 15)] R) (hD : DI (dS B) 65 [] D) : Cl (d) 2 40 mX4_init [vr 64] (BM n1 65 R D) (KV (fun m => ∃ (R' : Nat → Int → Nat) (D' : DD), m = BM n1 67 R' D' ∧ RI 67 [(60, 3), (60, 4), (49, 1), (49, 2), (49, 3), (49, 4), (26, 0), (26, 1), (26, 2), (19, 0), (19, 1), (19, 2), (19, 3), (16, 0), (16, 1), (16, 2), (4, 11), (4, 12), (4, 14), (4, 15)] R' ∧ DI (dS B) 67 [] D')) := by
  refine Cl_of mb_X4_init (Nat.le_of_ble_eq_true rfl) (sg_X4_init_0 ?_)
  repeat (refine ⟨by first | rfl | exact of_decide_eq_true rfl | exact ⟨of_decide_eq_true rfl, of_decide_eq_true rfl⟩, ?_⟩)
  intro m e
  obtain ⟨R1, D1, rfl, hR, hD⟩ := step_nw 20 20 hR hD e rfl rfl (fun _ => rfl) (S' := [(64, 0), (64, 1), (60, 3), (60, 4), (49, 1), (49, 2), (49, 3), (49, 4), (26, 0), (26, 1), (26, 2), (19, 0), (19, 1), (19, 2), (19, 3), (16, 0), (16, 1), (16, 2), (4, 11), (4, 12), (4, 14), (4, 15)]) (T' := []) rfl rfl
  repeat (refine ⟨by first | rfl | exact of_decide_eq_true rfl | exact ⟨of_decide_eq_true rfl, of_decide_eq_true rfl⟩, ?_⟩)
  intro m e
  obtain ⟨R2, D2, rfl, hR, hD⟩ := step_rf 64 0 65 hR hD e rfl rfl (of_decide_eq_true rfl) (S' := [(64, 1), (60, 3), (60, 4), (49, 1), (49, 2), (49, 3), (49, 4), (26, 0), (26, 1), (26, 2), (19, 0), (19, 1), (19, 2), (19, 3), (16, 0), (16, 1), (16, 2), (4, 11), (4, 12), (4, 14), (4, 15)]) rfl
  repeat (refine ⟨by first | rfl | exact of_decide_eq_true rfl | exact ⟨of_decide_eq_true rfl, of_decide_eq_true rfl⟩, ?_⟩)
  intro m e
  obtain ⟨R3, D3, rfl, hR, hD⟩ := step_nw 20 20 hR hD e rfl rfl (fun _ => rfl) (S' := [(64, 1), (60, 3), (60, 4), (49, 1), (49, 2), (49, 3), (49, 4), (26, 0), (26, 1), (26, 2), (19, 0), (19, 1), (19, 2), (19, 3), (16, 0), (16, 1), (16, 2), (4, 11), (4, 12), (4, 14), (4, 15)]) (T' := []) rfl rfl
  repeat (refine ⟨by first | rfl | exact of_decide_eq_true rfl | exact ⟨of_decide_eq_true rfl, of_decide_eq_true rfl⟩, ?_⟩)
  intro m e
  obtain ⟨R4, D4, rfl, hR, hD⟩ := step_rf 64 1 66 hR hD e rfl rfl (of_decide_eq_true rfl) (S' := [(60, 3), (60, 4), (49, 1), (49, 2), (49, 3), (49, 4), (26, 0), (26, 1), (26, 2), (19, 0), (19, 1), (19, 2), (19, 3), (16, 0), (16, 1), (16, 2), (4, 11), (4, 12), (4, 14), (4, 15)]) rfl
  repeat (refine ⟨by first | rfl | exact of_decide_eq_true rfl | exact ⟨of_decide_eq_true rfl, of_decide_eq_true rfl⟩, ?_⟩)
  intro m e
  obtain ⟨R5, D5, rfl, hR, hD⟩ := step_nm 64 2 (0) hR hD e rfl rfl (T' := []) rfl
  first | exact ⟨rfl, _, _, rfl, hR, hD⟩ | exact ⟨rfl, ⟨_, _, rfl, hR, hD⟩⟩
theorem I_60 {d : Nat} {R : Nat → Int → Nat} {D B : DD} (hR : RI 61 [(60, 2), (60, 3), (60, 4), (49, 1), (49, 2), (49, 3), (49, 4), (26, 0), (26, 1), (26, 2), (19, 0), (19, 1), (19, 2), (19, 3), (16, 0), (16, 1), (16, 2), (4, 11), (4, 12), (4, 14), (4, 15)] R) (hD : DI (dS B) 61 [(60, 1)] D) : Cl (d + 1) 7 107 mX5_init [vr 60] (BM n1 61 R D) (KV (fun m => ∃ (R' : Nat → Int → Nat) (D' : DD), m = BM n1 68 R' D' ∧ RI 68 [(49, 1), (49, 2), (49, 3), (49, 4), (26, 0), (26, 1), (26, 2), (19, 0), (19, 1), (19, 2), (19, 3), (16, 0), (16, 1), (16, 2), (4, 11), (4, 12), (4, 14), (4, 15)] R' ∧ DI (dS B) 68 [] D')) := by
  refine Cl_of mb_X5_init (Nat.le_of_ble_eq_true rfl) (sg_X5_init_0 (d := d) ?_)
  repeat (refine ⟨by first | rfl | exact of_decide_eq_true rfl | exact ⟨of_decide_eq_true rfl, of_decide_eq_true rfl⟩, ?_⟩)
  intro m e
  obtain ⟨R1, D1, rfl, hR, hD⟩ := step_nm 60 0 (0) hR hD e rfl rfl (T' := [(60, 1)]) rfl
  repeat (refine ⟨by first | rfl | exact of_decide_eq_true rfl | exact ⟨of_decide_eq_true rfl, of_decide_eq_true rfl⟩, ?_⟩)
  intro m e
  obtain ⟨R2, D2, rfl, hR, hD⟩ := step_nm 60 1 (1) hR hD e rfl rfl (T' := []) rfl
  repeat (refine ⟨by first | rfl | exact of_decide_eq_true rfl | exact ⟨of_decide_eq_true rfl, of_decide_eq_true rfl⟩, ?_⟩)
  intro m e
  obtain ⟨R3, D3, rfl, hR, hD⟩ := step_nw 5 0 hR hD e rfl rfl (fun _ => rfl) (S' := [(61, 0), (61, 1), (60, 2), (60, 3), (60, 4), (49, 1), (49, 2), (49, 3), (49, 4), (26, 0), (26, 1), (26, 2), (19, 0), (19, 1), (19, 2), (19, 3), (16, 0), (16, 1), (16, 2), (4, 11), (4, 12), (4, 14), (4, 15)]) (T' := []) rfl rfl
  repeat (refine ⟨by first | rfl | exact of_decide_eq_true rfl | exact ⟨of_decide_eq_true rfl, of_decide_eq_true rfl⟩, ?_⟩)
  refine ⟨2, 40, _, I_61 (d := d) hR hD, ?_⟩
  repeat (refine ⟨by first | rfl | exact of_decide_eq_true rfl | exact ⟨of_decide_eq_true rfl, of_decide_eq_true rfl⟩, ?_⟩)
  intro m e
  obtain ⟨R4, D4, rfl, hR, hD⟩ := e
  repeat (refine ⟨by first | rfl | exact of_decide_eq_true rfl | exact ⟨of_decide_eq_true rfl, of_decide_eq_true rfl⟩, ?_⟩)
  intro m e
  obtain ⟨R5, D5, rfl, hR, hD⟩ := step_rf 60 2 61 hR hD e rfl rfl (of_decide_eq_true rfl) (S' := [(60, 3), (60, 4), (49, 1), (49, 2), (49, 3), (49, 4), (26, 0), (26, 1), (26, 2), (19, 0), (19, 1), (19, 2), (19, 3), (16, 0), (16, 1), (16, 2), (4, 11), (4, 12), (4, 14), (4, 15)]) rfl
  repeat (refine ⟨by first | rfl | exact of_decide_eq_true rfl | exact ⟨of_decide_eq_true rfl, of_decide_eq_true rfl⟩, ?_⟩)
  intro m e
  obtain ⟨R6, D6, rfl, hR, hD⟩ := step_nw 5 0 hR hD e rfl rfl (fun _ => rfl) (S' := [(64, 0), (64, 1), (60, 3), (60, 4), (49, 1), (49, 2), (49, 3), (49, 4), (26, 0), (26, 1), (26, 2), (19, 0), (19, 1), (19, 2), (19, 3), (16, 0), (16, 1), (16, 2), (4, 11), (4, 12), (4, 14), (4, 15)]) (T' := []) rfl rfl
  repeat (refine ⟨by first | rfl | exact of_decide_eq_true rfl | exact ⟨of_decide_eq_true rfl, of_decide_eq_true rfl⟩, ?_⟩)
  refine ⟨2, 40, _, I_64 (d := d) hR hD, ?_⟩
  repeat (refine ⟨by first | rfl | exact of_decide_eq_true rfl | exact ⟨of_decide_eq_true rfl, of_decide_eq_true rfl⟩, ?_⟩)
  intro m e
  obtain ⟨R7, D7, rfl, hR, hD⟩ := e
  repeat (refine ⟨by first | rfl | exact of_decide_eq_true rfl | exact ⟨of_decide_eq_true rfl, of_decide_eq_true rfl⟩, ?_⟩)
  intro m e
  obtain ⟨R8, D8, rfl, hR, hD⟩ := step_rf 60 3 64 hR hD e rfl rfl (of_decide_eq_true rfl) (S' := [(60, 4), (49, 1), (49, 2), (49, 3), (49, 4), (26, 0), (26, 1), (26, 2), (19, 0), (19, 1), (19, 2), (19, 3), (16, 0), (16, 1), (16, 2), (4, 11), (4, 12), (4, 14), (4, 15)]) rfl
  repeat (refine ⟨by first | rfl | exact of_decide_eq_true rfl | exact ⟨of_decide_eq_true rfl, of_decide_eq_true rfl⟩, ?_⟩)
  intro m e
  obtain ⟨R9, D9, rfl, hR, hD⟩ := step_nw 20 21 hR hD e rfl rfl (fun _ => rfl) (S' := [(60, 4), (49, 1), (49, 2), (49, 3), (49, 4), (26, 0), (26, 1), (26, 2), (19, 0), (19, 1), (19, 2), (19, 3), (16, 0), (16, 1), (16, 2), (4, 11), (4, 12), (4, 14), (4, 15)]) (T' := []) rfl rfl
  repeat (refine ⟨by first | rfl | exact of_decide_eq_true rfl | exact ⟨of_decide_eq_true rfl, of_decide_eq_true rfl⟩, ?_⟩)
  intro m e
  obtain ⟨R10, D10, rfl, hR, hD⟩ := step_rf 60 4 67 hR hD e rfl rfl (of_decide_eq_true rfl) (S' := [(49, 1), (49, 2), (49, 3), (49, 4), (26, 0), (26, 1), (26, 2), (19, 0), (19, 1), (19, 2), (19, 3), (16, 0), (16, 1), (16, 2), (4, 11), (4, 12), (4, 14), (4, 15)]) rfl
  first | exact ⟨rfl, _, _, rfl, hR, hD⟩ | exact ⟨rfl, ⟨_, _, rfl, hR, hD⟩⟩
theorem I_69 {d : Nat} {R : Nat → Int → Nat} {D B : DD} (hR : RI 70 [(69, 0), (69, 1), (68, 2), (68, 3), (68, 4), (49, 2), (49, 3), (49, 4), (26, 0), (26, 1), (26, 2), (19, 0), (19, 1), (19, 2), (19, 3), (16, 0), (16, 1), (16, 2), (4, 11), (4, 12), (4, 14), (4, 15)] R) (hD : DI (dS B) 70 [] D) : Cl (d) 2 40 mX4_init [vr 69] (BM n1 70 R D) (KV (fun m => ∃ (R' : Nat → Int → Nat) (D' : DD), m = BM n1 72 R' D' ∧ RI 72 [(68, 2), (68, 3), (68, 4), (49, 2), (49, 3), (49, 4), (26, 0), (26, 1), (26, 2), (19, 0), (19, 1), (19, 2), (19, 3), (16, 0), (16, 1), (16, 2), (4, 11), (4, 12), (4, 14), (4, 15)] R' ∧ DI (dS B) 72 [] D')) := by
  refine Cl_of mb_X4_init (Nat.le_of_ble_eq_true rfl) (sg_X4_init_0 ?_)
  repeat (refine ⟨by first | rfl | exact of_decide_eq_true rfl | exact ⟨of_decide_eq_true rfl, of_decide_eq_true rfl⟩, ?_⟩)
  intro m e
  obtain ⟨R1, D1, rfl, hR, hD⟩ := step_nw 20 20 hR hD e rfl rfl (fun _ => rfl) (S' := [(69, 0), (69, 1), (68, 2), (68, 3), (68, 4), (49, 2), (49, 3), (49, 4), (26, 0), (26, 1), (26, 2), (19, 0), (19, 1), (19, 2), (19, 3), (16, 0), (16, 1), (16, 2), (4, 11), (4, 12), (4, 14), (4, 15)]) (T' := []) rfl rfl
  repeat (refine ⟨by first | rfl | exact of_decide_eq_true rfl | exact ⟨of_decide_eq_true rfl, of_decide_eq_true rfl⟩, ?_⟩)
  intro m e
  obtain ⟨R2, D2, rfl, hR, hD⟩ := step_rf 69 0 70 hR hD e rfl rfl (of_decide_eq_true rfl) (S' := [(69, 1), (68, 2), (68, 3), (68, 4), (49, 2), (49, 3), (49, 4), (26, 0), (26, 1), (26, 2), (19, 0), (19, 1), (19, 2), (19, 3), (16, 0), (16, 1), (16, 2), (4, 11), (4, 12), (4, 14), (4, 15)]) rfl
  repeat (refine ⟨by first | rfl | exact of_decide_eq_true rfl | exact ⟨of_decide_eq_true rfl, of_decide_eq_true rfl⟩, ?_⟩)
  intro m e
  obtain ⟨R3, D3, rfl, hR, hD⟩ := step_nw 20 20 hR hD e rfl rfl (fun _ => rfl) (S' := [(69, 1), (68, 2), (68, 3), (68, 4), (49, 2), (49, 3), (49, 4), (26, 0), (26, 1), (26, 2), (19, 0), (19, 1), (19, 2), (19, 3), (16, 0), (16, 1), (16, 2), (4, 11), (4, 12), (4, 14), (4, 15)]) (T' := []) rfl rfl
  repeat (refine ⟨by first | rfl | exact of_decide_eq_true rfl | exact ⟨of_decide_eq_true rfl, of_decide_eq_true rfl⟩, ?_⟩)
  intro m e
  obtain ⟨R4, D4, rfl, hR, hD⟩ := step_rf 69 1 71 hR hD e rfl rfl (of_decide_eq_true rfl) (S' := [(68, 2), (68, 3), (68, 4), (49, 2), (49, 3), (49, 4), (26, 0), (26, 1), (26, 2), (19, 0), (19, 1), (19, 2), (19, 3), (16, 0), (16, 1), (16, 2), (4, 11), (4, 12), (4, 14), (4, 15)]) rfl
  repeat (refine ⟨by first | rfl | exact of_decide_eq_true rfl | exact ⟨of_decide_eq_true rfl, of_decide_eq_true rfl⟩, ?_⟩)
  intro m e
  obtain ⟨R5, D5, rfl, hR, hD⟩ := step_nm 69 2 (0) hR hD e rfl rfl (T' := []) rfl
  first | exact ⟨rfl, _, _, rfl, hR, hD⟩ | exact ⟨rfl, ⟨_, _, rfl, hR, hD⟩⟩
theorem I_72 {d : Nat} {R : Nat → Int → Nat} {D B : DD} (hR : RI 73 [(72, 0), (72, 1), (68, 3), (68, 4), (49, 2), (49, 3), (49, 4), (26, 0), (26, 1), (26, 2), (19, 0), (19, 1), (19, 2), (19, 3), (16, 0), (16, 1), (16, 2), (4, 11), (4, 12), (4, 14), (4, 15)] R) (hD : DI (dS B) 73 [] D) : Cl (d) 2 40 mX4_init [vr 72] (BM n1 73 R D) (KV (fun m => ∃ (R' : Nat → Int → Nat) (D' : DD), m = BM n1 75 R' D' ∧ RI 75 [(68, 3), (68, 4), (49, 2), (49, 3), (49, 4), (26, 0), (26, 1), (26, 2), (19, 0), (19, 1), (19, 2), (19, 3), (16, 0), (16, 1), (16, 2), (4, 11), (4, 12), (4, 14), (4, 15)] R' ∧ DI (dS B) 75 [] D')) := by
  refine Cl_of mb_X4_init (Nat.le_of_ble_eq_true rfl) (sg_X4_init_0 ?_)
  repeat (refine ⟨by first | rfl | exact of_decide_eq_true rfl | exact ⟨of_decide_eq_true rfl, of_decide_eq_true rfl⟩, ?_⟩)
  intro m e
  obtain ⟨R1, D1, rfl, hR, hD⟩ := step_nw 20 20 hR hD e rfl rfl (fun _ => rfl) (S' := [(72, 0), (72, 1), (68, 3), (68, 4), (49, 2), (49, 3), (49, 4), (26, 0), (26, 1), (26, 2), (19, 0), (19, 1), (19, 2), (19, 3), (16, 0), (16, 1), (16, 2), (4, 11), (4, 12), (4, 14), (4, 15)]) (T' := []) rfl rfl
  repeat (refine ⟨by first | rfl | exact of_decide_eq_true rfl | exact ⟨of_decide_eq_true rfl, of_decide_eq_true rfl⟩, ?_⟩)
  intro m e
  obtain ⟨R2, D2, rfl, hR, hD⟩ := step_rf 72 0 73 hR hD e rfl rfl (of_decide_eq_true rfl) (S' := [(72, 1), (68, 3), (68, 4), (49, 2), (49, 3), (49, 4), (26, 0), (26, 1), (26, 2), (19, 0), (19, 1), (19, 2), (19, 3), (16, 0), (16, 1), (16, 2), (4, 11), (4, 12), (4, 14), (4, 15)]) rfl
  repeat (refine ⟨by first | rfl | exact of_decide_eq_true rfl | exact ⟨of_decide_eq_true rfl, of_decide_eq_true rfl⟩, ?_⟩)
  intro m e
  obtain ⟨R3, D3, rfl, hR, hD⟩ := step_nw 20 20 hR hD e rfl rfl (fun _ => rfl) (S' := [(72, 1), (68, 3), (68, 4), (49, 2), (49, 3), (49, 4), (26, 0), (26, 1), (26, 2), (19, 0), (19, 1), (19, 2), (19, 3), (16, 0), (16, 1), (16, 2), (4, 11), (4, 12), (4, 14), (4, 15)]) (T' := []) rfl rfl
  repeat (refine ⟨by first | rfl | exact of_decide_eq_true rfl | exact ⟨of_decide_eq_true rfl, of_decide_eq_true rfl⟩, ?_⟩)
  intro m e
  obtain ⟨R4, D4, rfl, hR, hD⟩ := step_rf 72 1 74 hR hD e rfl rfl (of_decide_eq_true rfl) (S' := [(68, 3), (68, 4), (49, 2), (49, 3), (49, 4), (26, 0), (26, 1), (26, 2), (19, 0), (19, 1), (19, 2), (19, 3), (16, 0), (16, 1), (16, 2), (4, 11), (4, 12), (4, 14), (4, 15)]) rfl
  repeat (refine ⟨by first | rfl | exact of_decide_eq_true rfl | exact ⟨of_decide_eq_true rfl, of_decide_eq_true rfl⟩, ?_⟩)
  intro m e
  obtain ⟨R5, D5, rfl, hR, hD⟩ := step_nm 72 2 (0) hR hD e rfl rfl (T' := []) rfl
  first | exact ⟨rfl, _, _, rfl, hR, hD⟩ | exact ⟨rfl, ⟨_, _, rfl, hR, hD⟩⟩
theorem I_68 {d : Nat} {R : Nat → Int → Nat} {D B : DD} (hR : RI 69 [(68, 2), (68, 3), (68, 4), (49, 2), (49, 3), (49, 4), (26, 0), (26, 1), (26, 2), (19, 0), (19, 1), (19, 2), (19, 3), (16, 0), (16, 1), (16, 2), (4, 11), (4, 12), (4, 14), (4, 15)] R) (hD : DI (dS B) 69 [(68, 1)] D) : Cl (d + 1) 7 107 mX5_init [vr 68] (BM n1 69 R D) (KV (fun m => ∃ (R' : Nat → Int → Nat) (D' : DD), m = BM n1 76 R' D' ∧ RI 76 [(49, 2), (49, 3), (49, 4), (26, 0), (26, 1), (26, 2), (19, 0), (19, 1), (19, 2), (19, 3), (16, 0), (16, 1), (16, 2), (4, 11), (4, 12), (4, 14), (4, 15)] R' ∧ DI (dS B) 76 [] D')) := by
  refine Cl_of mb_X5_init (Nat.le_of_ble_eq_true rfl) (sg_X5_init_0 (d := d) ?_)
  repeat (refine ⟨by first | rfl | exact of_decide_eq_true rfl | exact ⟨of_decide_eq_true rfl, of_decide_eq_true rfl⟩, ?_⟩)
  intro m e
  obtain ⟨R1, D1, rfl, hR, hD⟩ := step_nm 68 0 (0) hR hD e rfl rfl (T' := [(68, 1)]) rfl
  repeat (refine ⟨by first | rfl | exact of_decide_eq_true rfl | exact ⟨of_decide_eq_true rfl, of_decide_eq_true rfl⟩, ?_⟩)
  intro m e
  obtain ⟨R2, D2, rfl, hR, hD⟩ := step_nm 68 1 (1) hR hD e rfl rfl (T' := []) rfl
  repeat (refine ⟨by first | rfl | exact of_decide_eq_true rfl | exact ⟨of_decide_eq_true rfl, of_decide_eq_true rfl⟩, ?_⟩)
  intro m e
  obtain ⟨R3, D3, rfl, hR, hD⟩ := step_nw 5 0 hR hD e rfl rfl (fun _ => rfl) (S' := [(69, 0), (69, 1), (68, 2), (68, 3), (68, 4), (49, 2), (49, 3), (49, 4), (26, 0), (26, 1), (26, 2), (19, 0), (19, 1), (19, 2), (19, 3), (16, 0), (16, 1), (16, 2), (4, 11), (4, 12), (4, 14), (4, 15)]) (T' := []) rfl rfl
  repeat (refine ⟨by first | rfl | exact of_decide_eq_true rfl | exact ⟨of_decide_eq_true rfl, of_decide_eq_true rfl⟩, ?_⟩)
  refine ⟨2, 40, _, I_69 (d := d) hR hD, ?_⟩
  repeat (refine ⟨by first | rfl | exact of_decide_eq_true rfl | exact ⟨of_decide_eq_true rfl, of_decide_eq_true rfl⟩, ?_⟩)
  intro m e
  obtain ⟨R4, D4, rfl, hR, hD⟩ := e
  repeat (refine ⟨by first | rfl | exact of_decide_eq_true rfl | exact ⟨of_decide_eq_true rfl, of_decide_eq_true rfl⟩, ?_⟩)
  intro m e
  obtain ⟨R5, D5, rfl, hR, hD⟩ := step_rf 68 2 69 hR hD e rfl rfl (of_decide_eq_true rfl) (S' := [(68, 3), (68, 4), (49, 2), (49, 3), (49, 4), (26, 0), (26, 1), (26, 2), (19, 0), (19, 1), (19, 2), (19, 3), (16, 0), (16, 1), (16, 2), (4, 11), (4, 12), (4, 14), (4, 15)]) rfl
  repeat (refine ⟨by first | rfl | exact of_decide_eq_true rfl | exact ⟨of_decide_eq_true rfl, of_decide_eq_true rfl⟩, ?_⟩)
  intro m e
  obtain ⟨R6, D6, rfl, hR, hD⟩ := step_nw 5 0 hR hD e rfl rfl (fun _ => rfl) (S' := [(72, 0), (72, 1), (68, 3), (68, 4), (49, 2), (49, 3), (49, 4), (26, 0), (26, 1), (26, 2), (19, 0), (19, 1), (19, 2), (19, 3), (16, 0), (16, 1), (16, 2), (4, 11), (4, 12), (4, 14), (4, 15)]) (T' := []) rfl rfl
  repeat (refine ⟨by first | rfl | exact of_decide_eq_true rfl | exact ⟨of_decide_eq_true rfl, of_decide_eq_true rfl⟩, ?_⟩)
  refine ⟨2, 40, _, I_72 (d := d) hR hD, ?_⟩
  repeat (refine ⟨by first | rfl | exact of_decide_eq_true rfl | exact ⟨of_decide_eq_true rfl, of_decide_eq_true rfl⟩, ?_⟩)
  intro m e
  obtain ⟨R7, D7, rfl, hR, hD⟩ := e
  repeat (refine ⟨by first | rfl | exact of_decide_eq_true rfl | exact ⟨of_decide_eq_true rfl, of_decide_eq_true rfl⟩, ?_⟩)
  intro m e
  obtain ⟨R8, D8, rfl, hR, hD⟩ := step_rf 68 3 72 hR hD e rfl rfl (of_decide_eq_true rfl) (S' := [(68, 4), (49, 2), (49, 3), (49, 4), (26, 0), (26, 1), (26, 2), (19, 0), (19, 1), (19, 2), (19, 3), (16, 0), (16, 1), (16, 2), (4, 11), (4, 12), (4, 14), (4, 15)]) rfl
  repeat (refine ⟨by first | rfl | exact of_decide_eq_true rfl | exact ⟨of_decide_eq_true rfl, of_decide_eq_true rfl⟩, ?_⟩)
  intro m e
  obtain ⟨R9, D9, rfl, hR, hD⟩ := step_nw 20 21 hR hD e rfl rfl (fun _ => rfl) (S' := [(68, 4), (49, 2), (49, 3), (49, 4), (26, 0), (26, 1), (26, 2), (19, 0), (19, 1), (19, 2), (19, 3), (16, 0), (16, 1), (16, 2), (4, 11), (4, 12), (4, 14), (4, 15)]) (T' := []) rfl rfl
  repeat (refine ⟨by first | rfl | exact of_decide_eq_true rfl | exact ⟨of_decide_eq_true rfl, of_decide_eq_true rfl⟩, ?_⟩)
  intro m e
  obtain ⟨R10, D10, rfl, hR, hD⟩ := step_rf 68 4 75 hR hD e rfl rfl (of_decide_eq_true rfl) (S' := [(49, 2), (49, 3), (49, 4), (26, 0), (26, 1), (26, 2), (19, 0), (19, 1), (19, 2), (19, 3), (16, 0), (16, 1), (16, 2), (4, 11), (4, 12), (4, 14), (4, 15)]) rfl
  first | exact ⟨rfl, _, _, rfl, hR, hD⟩ | exact ⟨rfl, ⟨_, _, rfl, hR, hD⟩⟩
theorem I_77 {d : Nat} {R : Nat → Int → Nat} {D B : DD} (hR : RI 78 [(77, 0), (77, 1), (76, 2), (76, 3), (76, 4), (49, 3), (49, 4), (26, 0), (26, 1), (26, 2), (19, 0), (19, 1), (19, 2), (19, 3), (16, 0), (16, 1), (16, 2), (4, 11), (4, 12), (4, 14), (4, 15)] R) (hD : DI (dS B) 78 [] D) : Cl (d) 2 40 mX4_init [vr 77] (BM n1 78 R D) (KV (fun m => ∃ (R' : Nat → Int → Nat) (D' : DD), m = BM n1 80 R' D' ∧ RI 80 [(76, 2), (76, 3), (76, 4), (49, 3), (49, 4), (26, 0), (26, 1), (26, 2), (19, 0), (19, 1), (19, 2), (19, 3), (16, 0), (16, 1), (16, 2), (4, 11), (4, 12), (4, 14), (4, 15)] R' ∧ DI (dS B) 80 [] D')) := by
  refine Cl_of mb_X4_init (Nat.le_of_ble_eq_true rfl) (sg_X4_init_0 ?_)
  repeat (refine ⟨by first | rfl | exact of_decide_eq_true rfl | exact ⟨of_decide_eq_true rfl, of_decide_eq_true rfl⟩, ?_⟩)
  intro m e
  obtain ⟨R1, D1, rfl, hR, hD⟩ := step_nw 20 20 hR hD e rfl rfl (fun _ => rfl) (S' := [(77, 0), (77, 1), (76, 2), (76, 3), (76, 4), (49, 3), (49, 4), (26, 0), (26, 1), (26, 2), (19, 0), (19, 1), (19, 2), (19, 3), (16, 0), (16, 1), (16, 2), (4, 11), (4, 12), (4, 14), (4, 15)]) (T' := []) rfl rfl
  repeat (refine ⟨by first | rfl | exact of_decide_eq_true rfl | exact ⟨of_decide_eq_true rfl, of_decide_eq_true rfl⟩, ?_⟩)
  intro m e
  obtain ⟨R2, D2, rfl, hR, hD⟩ := step_rf 77 0 78 hR hD e rfl rfl (of_decide_eq_true rfl) (S' := [(77, 1), (76, 2), (76, 3), (76, 4), (49, 3), (49, 4), (26, 0), (26, 1), (26, 2), (19, 0), (19, 1), (19, 2), (19, 3), (16, 0), (16, 1), (16, 2), (4, 11), (4, 12), (4, 14), (4, 15)]) rfl
  repeat (refine ⟨by first | rfl | exact of_decide_eq_true rfl | exact ⟨of_decide_eq_true rfl, of_decide_eq_true rfl⟩, ?_⟩)
  intro m e
  obtain ⟨R3, D3, rfl, hR, hD⟩ := step_nw 20 20 hR hD e rfl rfl (fun _ => rfl) (S' := [(77, 1), (76, 2), (76, 3), (76, 4), (49, 3), (49, 4), (26, 0), (26, 1), (26, 2), (19, 0), (19, 1), (19, 2), (19, 3), (16, 0), (16, 1), (16, 2), (4, 11), (4, 12), (4, 14), (4, 15)]) (T' := []) rfl rfl
  repeat (refine ⟨by first | rfl | exact of_decide_eq_true rfl | exact ⟨of_decide_eq_true rfl, of_decide_eq_true rfl⟩, ?_⟩)
  intro m e
  obtain ⟨R4, D4, rfl, hR, hD⟩ := step_rf 77 1 79 hR hD e rfl rfl (of_decide_eq_true rfl) (S' := [(76, 2), (76, 3), (76, 4), (49, 3), (49, 4), (26, 0), (26, 1), (26, 2), (19, 0), (19, 1), (19, 2), (19, 3), (16, 0), (16, 1), (16, 2), (4, 11), (4, 12), (4, 14), (4, 15)]) rfl
  repeat (refine ⟨by first | rfl | exact of_decide_eq_true rfl | exact ⟨of_decide_eq_true rfl, of_decide_eq_true rfl⟩, ?_⟩)
  intro m e
  obtain ⟨R5, D5, rfl, hR, hD⟩ := step_nm 77 2 (0) hR hD e rfl rfl (T' := []) rfl
  first | exact ⟨rfl, _, _, rfl, hR, hD⟩ | exact ⟨rfl, ⟨_, _, rfl, hR, hD⟩⟩
theorem I_80 {d : Nat} {R : Nat → Int → Nat} {D B : DD} (hR : RI 81 [(80, 0), (80, 1), (76, 3), (76, 4), (49, 3), (49, 4), (26, 0), (26, 1), (26, 2), (19, 0), (19, 1), (19, 2), (19, 3), (16, 0), (16, 1), (16, 2), (4, 11), (4, 12), (4, 14), (4, 15)] R) (hD : DI (dS B) 81 [] D) : Cl (d) 2 40 mX4_init [vr 80] (BM n1 81 R D) (KV (fun m => ∃ (R' : Nat → Int → Nat) (D' : DD), m = BM n1 83 R' D' ∧ RI 83 [(76, 3), (76, 4), (49, 3), (49, 4), (26, 0), (26, 1), (26, 2), (19, 0), (19, 1), (19, 2), (19, 3), (16, 0), (16, 1), (16, 2), (4, 11), (4, 12), (4, 14), (4, 15)] R' ∧ DI (dS B) 83 [] D')) := by
  refine Cl_of mb_X4_init (Nat.le_of_ble_eq_true rfl) (sg_X4_init_0 ?_)
  repeat (refine ⟨by first | rfl | exact of_decide_eq_true rfl | exact ⟨of_decide_eq_true rfl, of_decide_eq_true rfl⟩, ?_⟩)
  intro m e
  obtain ⟨R1, D1, rfl, hR, hD⟩ := step_nw 20 20 hR hD e rfl rfl (fun _ => rfl) (S' := [(80, 0), (80, 1), (76, 3), (76, 4), (49, 3), (49, 4), (26, 0), (26, 1), (26, 2), (19, 0), (19, 1), (19, 2), (19, 3), (16, 0), (16, 1), (16, 2), (4, 11), (4, 12), (4, 14), (4, 15)]) (T' := []) rfl rfl
  repeat (refine ⟨by first | rfl | exact of_decide_eq_true rfl | exact ⟨of_decide_eq_true rfl, of_decide_eq_true rfl⟩, ?_⟩)
  intro m e
  obtain ⟨R2, D2, rfl, hR, hD⟩ := step_rf 80 0 81 hR hD e rfl rfl (of_decide_eq_true rfl) (S' := [(80, 1), (76, 3), (76, 4), (49, 3), (49, 4), (26, 0), (26, 1), (26, 2), (19, 0), (19, 1), (19, 2), (19, 3), (16, 0), (16, 1), (16, 2), (4, 11), (4, 12), (4, 14), (4, 15)]) rfl
  repeat (refine ⟨by first | rfl | exact of_decide_eq_true rfl | exact ⟨of_decide_eq_true rfl, of_decide_eq_true rfl⟩, ?_⟩)
  intro m e
  obtain ⟨R3, D3, rfl, hR, hD⟩ := step_nw 20 20 hR hD e rfl rfl (fun _ => rfl) (S' := [(80, 1), (76, 3), (76, 4), (49, 3), (49, 4), (26, 0), (26, 1), (26, 2), (19, 0), (19, 1), (19, 2), (19, 3), (16, 0), (16, 1), (16, 2), (4, 11), (4, 12), (4, 14), (4, 15)]) (T' := []) rfl rfl
  repeat (refine ⟨by first | rfl | exact of_decide_eq_true rfl | exact ⟨of_decide_eq_true rfl, of_decide_eq_true rfl⟩, ?_⟩)
  intro m e
  obtain ⟨R4, D4, rfl, hR, hD⟩ := step_rf 80 1 82 hR hD e rfl rfl (of_decide_eq_true rfl) (S' := [(76, 3), (76, 4), (49, 3), (49, 4), (26, 0), (26, 1), (26, 2), (19, 0), (19, 1), (19, 2), (19, 3), (16, 0), (16, 1), (16, 2), (4, 11), (4, 12), (4, 14), (4, 15)]) rfl
  repeat (refine ⟨by first | rfl | exact of_decide_eq_true rfl | exact ⟨of_decide_eq_true rfl, of_decide_eq_true rfl⟩, ?_⟩)
  intro m e
  obtain ⟨R5, D5, rfl, hR, hD⟩ := step_nm 80 2 (0) hR hD e rfl rfl (T' := []) rfl
  first | exact ⟨rfl, _, _, rfl, hR, hD⟩ | exact ⟨rfl, ⟨_, _, rfl, hR, hD⟩⟩
theorem I_76 {d : Nat} {R : Nat → Int → Nat} {D B : DD} (hR : RI 77 [(76, 2), (76, 3), (76, 4), (49, 3), (49, 4), (26, 0), (26, 1), (26, 2), (19, 0), (19, 1), (19, 2), (19, 3), (16, 0), (16, 1), (16, 2), (4, 11), (4, 12), (4, 14), (4, 15)] R) (hD : DI (dS B) 77 [(76, 1)] D) : Cl (d + 1) 7 107 mX5_init [vr 76] (BM n1 77 R D) (KV (fun m => ∃ (R' : Nat → Int → Nat) (D' : DD), m = BM n1 84 R' D' ∧ RI 84 [(49, 3), (49, 4), (26, 0), (26, 1), (26, 2), (19, 0), (19, 1), (19, 2), (19, 3), (16, 0), (16, 1), (16, 2), (4, 11), (4, 12), (4, 14), (4, 15)] R' ∧ DI (dS B) 84 [] D')) := by
  refine Cl_of mb_X5_init (Nat.le_of_ble_eq_true rfl) (sg_X5_init_0 (d := d) ?_)
  repeat (refine ⟨by first | rfl | exact of_decide_eq_true rfl | exact ⟨of_decide_eq_true rfl, of_decide_eq_true rfl⟩, ?_⟩)
  intro m e
  obtain ⟨R1, D1, rfl, hR, hD⟩ := step_nm 76 0 (0) hR hD e rfl rfl (T' := [(76, 1)]) rfl
  repeat (refine ⟨by first | rfl | exact of_decide_eq_true rfl | exact ⟨of_decide_eq_true rfl, of_decide_eq_true rfl⟩, ?_⟩)
  intro m e
  obtain ⟨R2, D2, rfl, hR, hD⟩ := step_nm 76 1 (1) hR hD e rfl rfl (T' := []) rfl
  repeat (refine ⟨by first | rfl | exact of_decide_eq_true rfl | exact ⟨of_decide_eq_true rfl, of_decide_eq_true rfl⟩, ?_⟩)
  intro m e
  obtain ⟨R3, D3, rfl, hR, hD⟩ := step_nw 5 0 hR hD e rfl rfl (fun _ => rfl) (S' := [(77, 0), (77, 1), (76, 2), (76, 3), (76, 4), (49, 3), (49, 4), (26, 0), (26, 1), (26, 2), (19, 0), (19, 1), (19, 2), (19, 3), (16, 0), (16, 1), (16, 2), (4, 11), (4, 12), (4, 14), (4, 15)]) (T' := []) rfl rfl
  repeat (refine ⟨by first | rfl | exact of_decide_eq_true rfl | exact ⟨of_decide_eq_true rfl, of_decide_eq_true rfl⟩, ?_⟩)
  refine ⟨2, 40, _, I_77 (d := d) hR hD, ?_⟩
  repeat (refine ⟨by first | rfl | exact of_decide_eq_true rfl | exact ⟨of_decide_eq_true rfl, of_decide_eq_true rfl⟩, ?_⟩)
  intro m e
  obtain ⟨R4, D4, rfl, hR, hD⟩ := e
  repeat (refine ⟨by first | rfl | exact of_decide_eq_true rfl | exact ⟨of_decide_eq_true rfl, of_decide_eq_true rfl⟩, ?_⟩)
  intro m e
  obtain ⟨R5, D5, rfl, hR, hD⟩ := step_rf 76 2 77 hR hD e rfl rfl (of_decide_eq_true rfl) (S' := [(76, 3), (76, 4), (49, 3), (49, 4), (26, 0), (26, 1), (26, 2), (19, 0), (19, 1), (19, 2), (19, 3), (16, 0), (16, 1), (16, 2), (4, 11), (4, 12), (4, 14), (4, 15)]) rfl
  repeat (refine ⟨by first | rfl | exact of_decide_eq_true rfl | exact ⟨of_decide_eq_true rfl, of_decide_eq_true rfl⟩, ?_⟩)
  intro m e
  obtain ⟨R6, D6, rfl, hR, hD⟩ := step_nw 5 0 hR hD e rfl rfl (fun _ => rfl) (S' := [(80, 0), (80, 1), (76, 3), (76, 4), (49, 3), (49, 4), (26, 0), (26, 1), (26, 2), (19, 0), (19, 1), (19, 2), (19, 3), (16, 0), (16, 1), (16, 2), (4, 11), (4, 12), (4, 14), (4, 15)]) (T' := []) rfl rfl
  repeat (refine ⟨by first | rfl | exact of_decide_eq_true rfl | exact ⟨of_decide_eq_true rfl, of_decide_eq_true rfl⟩, ?_⟩)
  refine ⟨2, 40, _, I_80 (d := d) hR hD, ?_⟩
  repeat (refine ⟨by first | rfl | exact of_decide_eq_true rfl | exact ⟨of_decide_eq_true rfl, of_decide_eq_true rfl⟩, ?_⟩)
  intro m e
  obtain ⟨R7, D7, rfl, hR, hD⟩ := e
  repeat (refine ⟨by first | rfl | exact of_decide_eq_true rfl | exact ⟨of_decide_eq_true rfl, of_decide_eq_true rfl⟩, ?_⟩)
  intro m e
  obtain ⟨R8, D8, rfl, hR, hD⟩ := step_rf 76 3 80 hR hD e rfl rfl (of_decide_eq_true rfl) (S' := [(76, 4), (49, 3), (49, 4), (26, 0), (26, 1), (26, 2), (19, 0), (19, 1), (19, 2), (19, 3), (16, 0), (16, 1), (16, 2), (4, 11), (4, 12), (4, 14), (4, 15)]) rfl
  repeat (refine ⟨by first | rfl | exact of_decide_eq_true rfl | exact ⟨of_decide_eq_true rfl, of_decide_eq_true rfl⟩, ?_⟩)
  intro m e
  obtain ⟨R9, D9, rfl, hR, hD⟩ := step_nw 20 21 hR hD e rfl rfl (fun _ => rfl) (S' := [(76, 4), (49, 3), (49, 4), (26, 0), (26, 1), (26, 2), (19, 0), (19, 1), (19, 2), (19, 3), (16, 0), (16, 1), (16, 2), (4, 11), (4, 12), (4, 14), (4, 15)]) (T' := []) rfl rfl
  repeat (refine ⟨by first | rfl | exact of_decide_eq_true rfl | exact ⟨of_decide_eq_true rfl, of_decide_eq_true rfl⟩, ?_⟩)
  intro m e
  obtain ⟨R10, D10, rfl, hR, hD⟩ := step_rf 76 4 83 hR hD e rfl rfl (of_decide_eq_true rfl) (S' := [(49, 3), (49, 4), (26, 0), (26, 1), (26, 2), (19, 0), (19, 1), (19, 2), (19, 3), (16, 0), (16, 1), (16, 2), (4, 11), (4, 12), (4, 14), (4, 15)]) rfl
  first | exact ⟨rfl, _, _, rfl, hR, hD⟩ | exact ⟨rfl, ⟨_, _, rfl, hR, hD⟩⟩
theorem I_85 {d : Nat} {R : Nat → Int → Nat} {D B : DD} (hR : RI 86 [(85, 0), (85, 1), (84, 2), (84, 3), (84, 4), (49, 4), (26, 0), (26, 1), (26, 2), (19, 0), (19, 1), (19, 2), (19, 3), (16, 0), (16, 1), (16, 2), (4, 11), (4, 12), (4, 14), (4, 15)] R) (hD : DI (dS B) 86 [] D) : Cl (d) 2 40 mX4_init [vr 85] (BM n1 86 R D) (KV (fun m => ∃ (R' : Nat → Int → Nat) (D' : DD), m = BM n1 88 R' D' ∧ RI 88 [(84, 2), (84, 3), (84, 4), (49, 4), (26, 0), (26, 1), (26, 2), (19, 0), (19, 1), (19, 2), (19, 3), (16, 0), (16, 1), (16, 2), (4, 11), (4, 12), (4, 14), (4, 15)] R' ∧ DI (dS B) 88 [] D')) := by
  refine Cl_of mb_X4_init (Nat.le_of_ble_eq_true rfl) (sg_X4_init_0 ?_)
  repeat (refine ⟨by first | rfl | exact of_decide_eq_true rfl | exact ⟨of_decide_eq_true rfl, of_decide_eq_true rfl⟩, ?_⟩)
  intro m e
  obtain ⟨R1, D1, rfl, hR, hD⟩ := step_nw 20 20 hR hD e rfl rfl (fun _ => rfl) (S' := [(85, 0), (85, 1), (84, 2), (84, 3), (84, 4), (49, 4), (26, 0), (26, 1), (26, 2), (19, 0), (19, 1), (19, 2), (19, 3), (16, 0), (16, 1), (16, 2), (4, 11), (4, 12), (4, 14), (4, 15)]) (T' := []) rfl rfl
  repeat (refine ⟨by first | rfl | exact of_decide_eq_true rfl | exact ⟨of_decide_eq_true rfl, of_decide_eq_true rfl⟩, ?_⟩)
  intro m e
  obtain ⟨R2, D2, rfl, hR, hD⟩ := step_rf 85 0 86 hR hD e rfl rfl (of_decide_eq_true rfl) (S' := [(85, 1), (84, 2), (84, 3), (84, 4), (49, 4), (26, 0), (26, 1), (26, 2), (19, 0), (19, 1), (19, 2), (19, 3), (16, 0), (16, 1), (16, 2), (4, 11), (4, 12), (4, 14), (4, 15)]) rfl
  repeat (refine ⟨by first | rfl | exact of_decide_eq_true rfl | exact ⟨of_decide_eq_true rfl, of_decide_eq_true rfl⟩, ?_⟩)
  intro m e
  obtain ⟨R3, D3, rfl, hR, hD⟩ := step_nw 20 20 hR hD e rfl rfl (fun _ => rfl) (S' := [(85, 1), (84, 2), (84, 3), (84, 4), (49, 4), (26, 0), (26, 1), (26, 2), (19, 0), (19, 1), (19, 2), (19, 3), (16, 0), (16, 1), (16, 2), (4, 11), (4, 12), (4, 14), (4, 15)]) (T' := []) rfl rfl
  repeat (refine ⟨by first | rfl | exact of_decide_eq_true rfl | exact ⟨of_decide_eq_true rfl, of_decide_eq_true rfl⟩, ?_⟩)
  intro m e
  obtain ⟨R4, D4, rfl, hR, hD⟩ := step_rf 85 1 87 hR hD e rfl rfl (of_decide_eq_true rfl) (S' := [(84, 2), (84, 3), (84, 4), (49, 4), (26, 0), (26, 1), (26, 2), (19, 0), (19, 1), (19, 2), (19, 3), (16, 0), (16, 1), (16, 2), (4, 11), (4, 12), (4, 14), (4, 15)]) rfl
  repeat (refine ⟨by first | rfl | exact of_decide_eq_true rfl | exact ⟨of_decide_eq_true rfl, of_decide_eq_true rfl⟩, ?_⟩)
  intro m e
  obtain ⟨R5, D5, rfl, hR, hD⟩ := step_nm 85 2 (0) hR hD e rfl rfl (T' := []) rfl
  first | exact ⟨rfl, _, _, rfl, hR, hD⟩ | exact ⟨rfl, ⟨_, _, rfl, hR, hD⟩⟩
theorem I_88 {d : Nat} {R : Nat → Int → Nat} {D B : DD} (hR : RI 89 [(88, 0), (88, 1), (84, 3), (84, 4), (49, 4), (26, 0), (26, 1), (26, 2), (19, 0), (19, 1), (19, 2), (19, 3), (16, 0), (16, 1), (16, 2), (4, 11), (4, 12), (4, 14), (4, 15)] R) (hD : DI (dS B) 89 [] D) : Cl (d) 2 40 mX4_init [vr 88] (BM n1 89 R D) (KV (fun m => ∃ (R' : Nat → Int → Nat) (D' : DD), m = BM n1 91 R' D' ∧ RI 91 [(84, 3), (84, 4), (49, 4), (26, 0), (26, 1), (26, 2), (19, 0), (19, 1), (19, 2), (19, 3), (16, 0), (16, 1), (16, 2), (4, 11), (4, 12), (4, 14), (4, 15)] R' ∧ DI (dS B) 91 [] D')) := by
  refine Cl_of mb_X4_init (Nat.le_of_ble_eq_true rfl) (sg_X4_init_0 ?_)
  repeat (refine ⟨by first | rfl | exact of_decide_eq_true rfl | exact ⟨of_decide_eq_true rfl, of_decide_eq_true rfl⟩, ?_⟩)
  intro m e
  obtain ⟨R1, D1, rfl, hR, hD⟩ := step_nw 20 20 hR hD e rfl rfl (fun _ => rfl) (S' := [(88, 0), (88, 1), (84, 3), (84, 4), (49, 4), (26, 0), (26, 1), (26, 2), (19, 0), (19, 1), (19, 2), (19, 3), (16, 0), (16, 1), (16, 2), (4, 11), (4, 12), (4, 14), (4, 15)]) (T' := []) rfl rfl
  repeat (refine ⟨by first | rfl | exact of_decide_eq_true rfl | exact ⟨of_decide_eq_true rfl, of_decide_eq_true rfl⟩, ?_⟩)
  intro m e
  obtain ⟨R2, D2, rfl, hR, hD⟩ := step_rf 88 0 89 hR hD e rfl rfl (of_decide_eq_true rfl) (S' := [(88, 1), (84, 3), (84, 4), (49, 4), (26, 0), (26, 1), (26, 2), (19, 0), (19, 1), (19, 2), (19, 3), (16, 0), (16, 1), (16, 2), (4, 11), (4, 12), (4, 14), (4, 15)]) rfl
  repeat (refine ⟨by first | rfl | exact of_decide_eq_true rfl | exact ⟨of_decide_eq_true rfl, of_decide_eq_true rfl⟩, ?_⟩)
  intro m e
  obtain ⟨R3, D3, rfl, hR, hD⟩ := step_nw 20 20 hR hD e rfl rfl (fun _ => rfl) (S' := [(88, 1), (84, 3), (84, 4), (49, 4), (26, 0), (26, 1), (26, 2), (19, 0), (19, 1), (19, 2), (19, 3), (16, 0), (16, 1), (16, 2), (4, 11), (4, 12), (4, 14), (4, 15)]) (T' := []) rfl rfl
  repeat (refine ⟨by first | rfl | exact of_decide_eq_true rfl | exact ⟨of_decide_eq_true rfl, of_decide_eq_true rfl⟩, ?_⟩)
  intro m e
  obtain ⟨R4, D4, rfl, hR, hD⟩ := step_rf 88 1 90 hR hD e rfl rfl (of_decide_eq_true rfl) (S' := [(84, 3), (84, 4), (49, 4), (26, 0), (26, 1), (26, 2), (19, 0), (19, 1), (19, 2), (19, 3), (16, 0), (16, 1), (16, 2), (4, 11), (4, 12), (4, 14), (4, 15)]) rfl
  repeat (refine ⟨by first | rfl | exact of_decide_eq_true rfl | exact ⟨of_decide_eq_true rfl, of_decide_eq_true rfl⟩, ?_⟩)
  intro m e
  obtain ⟨R5, D5, rfl, hR, hD⟩ := step_nm 88 2 (0) hR hD e rfl rfl (T' := []) rfl
  first | exact ⟨rfl, _, _, rfl, hR, hD⟩ | exact ⟨rfl, ⟨_, _, rfl, hR, hD⟩⟩
theorem I_84 {d : Nat} {R : Nat → Int → Nat} {D B : DD} (hR : RI 85 [(84, 2), (84, 3), (84, 4), (49, 4), (26, 0), (26, 1), (26, 2), (19, 0), (19, 1), (19, 2), (19, 3), (16, 0), (16, 1), (16, 2), (4, 11), (4, 12), (4, 14), (4, 15)] R) (hD : DI (dS B) 85 [(84, 1)] D) : Cl (d + 1) 7 107 mX5_init [vr 84] (BM n1 85 R D) (KV (fun m => ∃ (R' : Nat → Int → Nat) (D' : DD), m = BM n1 92 R' D' ∧ RI 92 [(49, 4), (26, 0), (26, 1), (26, 2), (19, 0), (19, 1), (19, 2), (19, 3), (16, 0), (16, 1), (16, 2), (4, 11), (4, 12), (4, 14), (4, 15)] R' ∧ DI (dS B) 92 [] D')) := by
  refine Cl_of mb_X5_init (Nat.le_of_ble_eq_true rfl) (sg_X5_init_0 (d := d) ?_)
  repeat (refine ⟨by first | rfl | exact of_decide_eq_true rfl | exact ⟨of_decide_eq_true rfl, of_decide_eq_true rfl⟩, ?_⟩)
  intro m e
  obtain ⟨R1, D1, rfl, hR, hD⟩ := step_nm 84 0 (0) hR hD e rfl rfl (T' := [(84, 1)]) rfl
  repeat (refine ⟨by first | rfl | exact of_decide_eq_true rfl | exact ⟨of_decide_eq_true rfl, of_decide_eq_true rfl⟩, ?_⟩)
  intro m e
  obtain ⟨R2, D2, rfl, hR, hD⟩ := step_nm 84 1 (1) hR hD e rfl rfl (T' := []) rfl
  repeat (refine ⟨by first | rfl | exact of_decide_eq_true rfl | exact ⟨of_decide_eq_true rfl, of_decide_eq_true rfl⟩, ?_⟩)
  intro m e
  obtain ⟨R3, D3, rfl, hR, hD⟩ := step_nw 5 0 hR hD e rfl rfl (fun _ => rfl) (S' := [(85, 0), (85, 1), (84, 2), (84, 3), (84, 4), (49, 4), (26, 0), (26, 1), (26, 2), (19, 0), (19, 1), (19, 2), (19, 3), (16, 0), (16, 1), (16, 2), (4, 11), (4, 12), (4, 14), (4, 15)]) (T' := []) rfl rfl
  repeat (refine ⟨by first | rfl | exact of_decide_eq_true rfl | exact ⟨of_decide_eq_true rfl, of_decide_eq_true rfl⟩, ?_⟩)
  refine ⟨2, 40, _, I_85 (d := d) hR hD, ?_⟩
  repeat (refine ⟨by first | rfl | exact of_decide_eq_true rfl | exact ⟨of_decide_eq_true rfl, of_decide_eq_true rfl⟩, ?_⟩)
  intro m e
  obtain ⟨R4, D4, rfl, hR, hD⟩ := e
  repeat (refine ⟨by first | rfl | exact of_decide_eq_true rfl | exact ⟨of_decide_eq_true rfl, of_decide_eq_true rfl⟩, ?_⟩)
  intro m e
  obtain ⟨R5, D5, rfl, hR, hD⟩ := step_rf 84 2 85 hR hD e rfl rfl (of_decide_eq_true rfl) (S' := [(84, 3), (84, 4), (49, 4), (26, 0), (26, 1), (26, 2), (19, 0), (19, 1), (19, 2), (19, 3), (16, 0), (16, 1), (16, 2), (4, 11), (4, 12), (4, 14), (4, 15)]) rfl
  repeat (refine ⟨by first | rfl | exact of_decide_eq_true rfl | exact ⟨of_decide_eq_true rfl, of_decide_eq_true rfl⟩, ?_⟩)
  intro m e
  obtain ⟨R6, D6, rfl, hR, hD⟩ := step_nw 5 0 hR hD e rfl rfl (fun _ => rfl) (S' := [(88, 0), (88, 1), (84, 3), (84, 4), (49, 4), (26, 0), (26, 1), (26, 2), (19, 0), (19, 1), (19, 2), (19, 3), (16, 0), (16, 1), (16, 2), (4, 11), (4, 12), (4, 14), (4, 15)]) (T' := []) rfl rfl
  repeat (refine ⟨by first | rfl | exact of_decide_eq_true rfl | exact ⟨of_decide_eq_true rfl, of_decide_eq_true rfl⟩, ?_⟩)
  refine ⟨2, 40, _, I_88 (d := d) hR hD, ?_⟩
  repeat (refine ⟨by first | rfl | exact of_decide_eq_true rfl | exact ⟨of_decide_eq_true rfl, of_decide_eq_true rfl⟩, ?_⟩)
  intro m e
  obtain ⟨R7, D7, rfl, hR, hD⟩ := e
  repeat (refine ⟨by first | rfl | exact of_decide_eq_true rfl | exact ⟨of_decide_eq_true rfl, of_decide_eq_true rfl⟩, ?_⟩)
  intro m e
  obtain ⟨R8, D8, rfl, hR, hD⟩ := step_rf 84 3 88 hR hD e rfl rfl (of_decide_eq_true rfl) (S' := [(84, 4), (49, 4), (26, 0), (26, 1), (26, 2), (19, 0), (19, 1), (19, 2), (19, 3), (16, 0), (16, 1), (16, 2), (4, 11), (4, 12), (4, 14), (4, 15)]) rfl
  repeat (refine ⟨by first | rfl | exact of_decide_eq_true rfl | exact ⟨of_decide_eq_true rfl, of_decide_eq_true rfl⟩, ?_⟩)
  intro m e
  obtain ⟨R9, D9, rfl, hR, hD⟩ := step_nw 20 21 hR hD e rfl rfl (fun _ => rfl) (S' := [(84, 4), (49, 4), (26, 0), (26, 1), (26, 2), (19, 0), (19, 1), (19, 2), (19, 3), (16, 0), (16, 1), (16, 2), (4, 11), (4, 12), (4, 14), (4, 15)]) (T' := []) rfl rfl
  repeat (refine ⟨by first | rfl | exact of_decide_eq_true rfl | exact ⟨of_decide_eq_true rfl, of_decide_eq_true rfl⟩, ?_⟩)
  intro m e
  obtain ⟨R10, D10, rfl, hR, hD⟩ := step_rf 84 4 91 hR hD e rfl rfl (of_decide_eq_true rfl) (S' := [(49, 4), (26, 0), (26, 1), (26, 2), (19, 0), (19, 1), (19, 2), (19, 3), (16, 0), (16, 1), (16, 2), (4, 11), (4, 12), (4, 14), (4, 15)]) rfl
  first | exact ⟨rfl, _, _, rfl, hR, hD⟩ | exact ⟨rfl, ⟨_, _, rfl, hR, hD⟩⟩
theorem I_45 {d : Nat} {R : Nat → Int → Nat} {D B : DD} (hR : RI 46 [(45, 0), (45, 2), (45, 3), (45, 5), (26, 0), (26, 1), (26, 2), (19, 0), (19, 1), (19, 2), (19, 3), (16, 0), (16, 1), (16, 2), (4, 11), (4, 12), (4, 14), (4, 15)] R) (hD : DI (dS B) 46 [] D) : Cl (d + 2) 46 605 mX3_init [vr 45] (BM n1 46 R D) (KV (fun m => ∃ (R' : Nat → Int → Nat) (D' : DD), m = BM n1 92 R' D' ∧ RI 92 [(26, 0), (26, 1), (26, 2), (19, 0), (19, 1), (19, 2), (19, 3), (16, 0), (16, 1), (16, 2), (4, 11), (4, 12), (4, 14), (4, 15)] R' ∧ DI (dS B) 92 [] D')) := by
  refine Cl_of mb_X3_init (Nat.le_of_ble_eq_true rfl) (sg_X3_init_0 (d := d + 1) ?_)
  repeat (refine ⟨by first | rfl | exact of_decide_eq_true rfl | exact ⟨of_decide_eq_true rfl, of_decide_eq_true rfl⟩, ?_⟩)
  intro m e
  obtain ⟨R1, D1, rfl, hR, hD⟩ := step_nw 1 0 hR hD e rfl rfl (fun _ => rfl) (S' := [(46, 3), (46, 4), (45, 0), (45, 2), (45, 3), (45, 5), (26, 0), (26, 1), (26, 2), (19, 0), (19, 1), (19, 2), (19, 3), (16, 0), (16, 1), (16, 2), (4, 11), (4, 12), (4, 14), (4, 15)]) (T' := [(46, 0), (46, 1), (46, 2)]) rfl rfl
  repeat (refine ⟨by first | rfl | exact of_decide_eq_true rfl | exact ⟨of_decide_eq_true rfl, of_decide_eq_true rfl⟩, ?_⟩)
  refine ⟨2, 27, _, I_46 (d := d) hR hD, ?_⟩
  repeat (refine ⟨by first | rfl | exact of_decide_eq_true rfl | exact ⟨of_decide_eq_true rfl, of_decide_eq_true rfl⟩, ?_⟩)
  intro m e
  obtain ⟨R2, D2, rfl, hR, hD⟩ := e
  repeat (refine ⟨by first | rfl | exact of_decide_eq_true rfl | exact ⟨of_decide_eq_true rfl, of_decide_eq_true rfl⟩, ?_⟩)
  intro m e
  obtain ⟨R3, D3, rfl, hR, hD⟩ := step_rf 45 0 46 hR hD e rfl rfl (of_decide_eq_true rfl) (S' := [(45, 2), (45, 3), (45, 5), (26, 0), (26, 1), (26, 2), (19, 0), (19, 1), (19, 2), (19, 3), (16, 0), (16, 1), (16, 2), (4, 11), (4, 12), (4, 14), (4, 15)]) rfl
  repeat (refine ⟨by first | rfl | exact of_decide_eq_true rfl | exact ⟨of_decide_eq_true rfl, of_decide_eq_true rfl⟩, ?_⟩)
  intro m e
  obtain ⟨R4, D4, rfl, hR, hD⟩ := step_rf 45 1 0 hR hD e rfl rfl (of_decide_eq_true rfl) (S' := [(45, 2), (45, 3), (45, 5), (26, 0), (26, 1), (26, 2), (19, 0), (19, 1), (19, 2), (19, 3), (16, 0), (16, 1), (16, 2), (4, 11), (4, 12), (4, 14), (4, 15)]) rfl
  repeat (refine ⟨by first | rfl | exact of_decide_eq_true rfl | exact ⟨of_decide_eq_true rfl, of_decide_eq_true rfl⟩, ?_⟩)
  intro m e
  obtain ⟨R5, D5, rfl, hR, hD⟩ := step_nw 25 5 hR hD e rfl rfl (fun _ => rfl) (S' := [(49, 0), (49, 1), (49, 2), (49, 3), (49, 4), (45, 2), (45, 3), (45, 5), (26, 0), (26, 1), (26, 2), (19, 0), (19, 1), (19, 2), (19, 3), (16, 0), (16, 1), (16, 2), (4, 11), (4, 12), (4, 14), (4, 15)]) (T' := []) rfl rfl
  repeat (refine ⟨by first | rfl | exact of_decide_eq_true rfl | exact ⟨of_decide_eq_true rfl, of_decide_eq_true rfl⟩, ?_⟩)
  intro m e
  obtain ⟨R6, D6, rfl, hR, hD⟩ := step_rf 45 2 49 hR hD e rfl rfl (of_decide_eq_true rfl) (S' := [(49, 0), (49, 1), (49, 2), (49, 3), (49, 4), (45, 3), (45, 5), (26, 0), (26, 1), (26, 2), (19, 0), (19, 1), (19, 2), (19, 3), (16, 0), (16, 1), (16, 2), (4, 11), (4, 12), (4, 14), (4, 15)]) rfl
  repeat (refine ⟨by first | rfl | exact of_decide_eq_true rfl | exact ⟨of_decide_eq_true rfl, of_decide_eq_true rfl⟩, ?_⟩)
  intro m e
  obtain ⟨R7, D7, rfl, hR, hD⟩ := step_nw 20 4 hR hD e rfl rfl (fun _ => rfl) (S' := [(49, 0), (49, 1), (49, 2), (49, 3), (49, 4), (45, 3), (45, 5), (26, 0), (26, 1), (26, 2), (19, 0), (19, 1), (19, 2), (19, 3), (16, 0), (16, 1), (16, 2), (4, 11), (4, 12), (4, 14), (4, 15)]) (T' := []) rfl rfl
  repeat (refine ⟨by first | rfl | exact of_decide_eq_true rfl | exact ⟨of_decide_eq_true rfl, of_decide_eq_true rfl⟩, ?_⟩)
  intro m e
  obtain ⟨R8, D8, rfl, hR, hD⟩ := step_rf 45 3 50 hR hD e rfl rfl (of_decide_eq_true rfl) (S' := [(49, 0), (49, 1), (49, 2), (49, 3), (49, 4), (45, 5), (26, 0), (26, 1), (26, 2), (19, 0), (19, 1), (19, 2), (19, 3), (16, 0), (16, 1), (16, 2), (4, 11), (4, 12), (4, 14), (4, 15)]) rfl
  repeat (refine ⟨by first | rfl | exact of_decide_eq_true rfl | exact ⟨of_decide_eq_true rfl, of_decide_eq_true rfl⟩, ?_⟩)
  intro m e
  obtain ⟨R9, D9, rfl, hR, hD⟩ := step_nm 45 4 (0) hR hD e rfl rfl (T' := []) rfl
  repeat (refine ⟨by first | rfl | exact of_decide_eq_true rfl | exact ⟨of_decide_eq_true rfl, of_decide_eq_true rfl⟩, ?_⟩)
  intro m e
  obtain ⟨R10, D10, rfl, hR, hD⟩ := step_nw 20 4 hR hD e rfl rfl (fun _ => rfl) (S' := [(49, 0), (49, 1), (49, 2), (49, 3), (49, 4), (45, 5), (26, 0), (26, 1), (26, 2), (19, 0), (19, 1), (19, 2), (19, 3), (16, 0), (16, 1), (16, 2), (4, 11), (4, 12), (4, 14), (4, 15)]) (T' := []) rfl rfl
  repeat (refine ⟨by first | rfl | exact of_decide_eq_true rfl | exact ⟨of_decide_eq_true rfl, of_decide_eq_true rfl⟩, ?_⟩)
  intro m e
  obtain ⟨R11, D11, rfl, hR, hD⟩ := step_rf 45 5 51 hR hD e rfl rfl (of_decide_eq_true rfl) (S' := [(49, 0), (49, 1), (49, 2), (49, 3), (49, 4), (26, 0), (26, 1), (26, 2), (19, 0), (19, 1), (19, 2), (19, 3), (16, 0), (16, 1), (16, 2), (4, 11), (4, 12), (4, 14), (4, 15)]) rfl
  repeat (refine ⟨by first | rfl | exact of_decide_eq_true rfl | exact ⟨of_decide_eq_true rfl, of_decide_eq_true rfl⟩, ?_⟩)
  intro m e
  obtain ⟨R12, D12, rfl, hR, hD⟩ := step_nm 45 6 (0) hR hD e rfl rfl (T' := []) rfl
  repeat (refine ⟨by first | rfl | exact of_decide_eq_true rfl | exact ⟨of_decide_eq_true rfl, of_decide_eq_true rfl⟩, ?_⟩)
  intro m e
  obtain ⟨R13, D13, rfl, hR, hD⟩ := step_nm 45 7 (0) hR hD e rfl rfl (T' := []) rfl
  refine sg_X3_init_59 (d := d + 1) ?_
  rw [show mR (BM n1 52 R13 D13) 45 2 = 49 from hR.at 45 2 (of_decide_eq_true rfl) (by decide)]
  repeat (refine ⟨by first | rfl | exact of_decide_eq_true rfl | exact ⟨of_decide_eq_true rfl, of_decide_eq_true rfl⟩, ?_⟩)
  refine ⟨fun c => absurd c (of_decide_eq_true rfl), fun _ => ?_⟩
  repeat (refine ⟨by first | rfl | exact of_decide_eq_true rfl | exact ⟨of_decide_eq_true rfl, of_decide_eq_true rfl⟩, ?_⟩)
  intro m e
  obtain ⟨R14, D14, rfl, hR, hD⟩ := step_nw 6 0 hR hD e rfl rfl (fun _ => rfl) (S' := [(52, 2), (52, 3), (52, 4), (49, 0), (49, 1), (49, 2), (49, 3), (49, 4), (26, 0), (26, 1), (26, 2), (19, 0), (19, 1), (19, 2), (19, 3), (16, 0), (16, 1), (16, 2), (4, 11), (4, 12), (4, 14), (4, 15)]) (T' := [(52, 1)]) rfl rfl
  repeat (refine ⟨by first | rfl | exact of_decide_eq_true rfl | exact ⟨of_decide_eq_true rfl, of_decide_eq_true rfl⟩, ?_⟩)
  refine ⟨7, 107, _, I_52 (d := d) hR hD, ?_⟩
  repeat (refine ⟨by first | rfl | exact of_decide_eq_true rfl | exact ⟨of_decide_eq_true rfl, of_decide_eq_true rfl⟩, ?_⟩)
  intro m e
  obtain ⟨R15, D15, rfl, hR, hD⟩ := e
  repeat (refine ⟨by first | rfl | exact of_decide_eq_true rfl | exact ⟨of_decide_eq_true rfl, of_decide_eq_true rfl⟩, ?_⟩)
  intro m e
  obtain ⟨R16, D16, rfl, hR, hD⟩ := step_rf 49 0 52 hR hD e rfl rfl (of_decide_eq_true rfl) (S' := [(49, 1), (49, 2), (49, 3), (49, 4), (26, 0), (26, 1), (26, 2), (19, 0), (19, 1), (19, 2), (19, 3), (16, 0), (16, 1), (16, 2), (4, 11), (4, 12), (4, 14), (4, 15)]) rfl
  intro v ev
  obtain rfl : v = 1 := ev
  refine sg_X3_init_59 (d := d + 1) ?_
  rw [show mR (BM n1 60 R16 D16) 45 2 = 49 from hR.at 45 2 (of_decide_eq_true rfl) (by decide)]
  repeat (refine ⟨by first | rfl | exact of_decide_eq_true rfl | exact ⟨of_decide_eq_true rfl, of_decide_eq_true rfl⟩, ?_⟩)
  refine ⟨fun c => absurd c (of_decide_eq_true rfl), fun _ => ?_⟩
  repeat (refine ⟨by first | rfl | exact of_decide_eq_true rfl | exact ⟨of_decide_eq_true rfl, of_decide_eq_true rfl⟩, ?_⟩)
  intro m e
  obtain ⟨R17, D17, rfl, hR, hD⟩ := step_nw 6 0 hR hD e rfl rfl (fun _ => rfl) (S' := [(60, 2), (60, 3), (60, 4), (49, 1), (49, 2), (49, 3), (49, 4), (26, 0), (26, 1), (26, 2), (19, 0), (19, 1), (19, 2), (19, 3), (16, 0), (16, 1), (16, 2), (4, 11), (4, 12), (4, 14), (4, 15)]) (T' := [(60, 1)]) rfl rfl
  repeat (refine ⟨by first | rfl | exact of_decide_eq_true rfl | exact ⟨of_decide_eq_true rfl, of_decide_eq_true rfl⟩, ?_⟩)
  refine ⟨7, 107, _, I_60 (d := d) hR hD, ?_⟩
  repeat (refine ⟨by first | rfl | exact of_decide_eq_true rfl | exact ⟨of_decide_eq_true rfl, of_decide_eq_true rfl⟩, ?_⟩)
  intro m e
  obtain ⟨R18, D18, rfl, hR, hD⟩ := e
  repeat (refine ⟨by first | rfl | exact of_decide_eq_true rfl | exact ⟨of_decide_eq_true rfl, of_decide_eq_true rfl⟩, ?_⟩)
  intro m e
  obtain ⟨R19, D19, rfl, hR, hD⟩ := step_rf 49 1 60 hR hD e rfl rfl (of_decide_eq_true rfl) (S' := [(49, 2), (49, 3), (49, 4), (26, 0), (26, 1), (26, 2), (19, 0), (19, 1), (19, 2), (19, 3), (16, 0), (16, 1), (16, 2), (4, 11), (4, 12), (4, 14), (4, 15)]) rfl
  intro v ev
  obtain rfl : v = 2 := ev
  refine sg_X3_init_59 (d := d + 1) ?_
  rw [show mR (BM n1 68 R19 D19) 45 2 = 49 from hR.at 45 2 (of_decide_eq_true rfl) (by decide)]
  repeat (refine ⟨by first | rfl | exact of_decide_eq_true rfl | exact ⟨of_decide_eq_true rfl, of_decide_eq_true rfl⟩, ?_⟩)
  refine ⟨fun c => absurd c (of_decide_eq_true rfl), fun _ => ?_⟩
  repeat (refine ⟨by first | rfl | exact of_decide_eq_true rfl | exact ⟨of_decide_eq_true rfl, of_decide_eq_true rfl⟩, ?_⟩)
  intro m e
  obtain ⟨R20, D20, rfl, hR, hD⟩ := step_nw 6 0 hR hD e rfl rfl (fun _ => rfl) (S' := [(68, 2), (68, 3), (68, 4), (49, 2), (49, 3), (49, 4), (26, 0), (26, 1), (26, 2), (19, 0), (19, 1), (19, 2), (19, 3), (16, 0), (16, 1), (16, 2), (4, 11), (4, 12), (4, 14), (4, 15)]) (T' := [(68, 1)]) rfl rfl
  repeat (refine ⟨by first | rfl | exact of_decide_eq_true rfl | exact ⟨of_decide_eq_true rfl, of_decide_eq_true rfl⟩, ?_⟩)
  refine ⟨7, 107, _, I_68 (d := d) hR hD, ?_⟩
  repeat (refine ⟨by first | rfl | exact of_decide_eq_true rfl | exact ⟨of_decide_eq_true rfl, of_decide_eq_true rfl⟩, ?_⟩)
  intro m e
  obtain ⟨R21, D21, rfl, hR, hD⟩ := e
  repeat (refine ⟨by first | rfl | exact of_decide_eq_true rfl | exact ⟨of_decide_eq_true rfl, of_decide_eq_true rfl⟩, ?_⟩)
  intro m e
  obtain ⟨R22, D22, rfl, hR, hD⟩ := step_rf 49 2 68 hR hD e rfl rfl (of_decide_eq_true rfl) (S' := [(49, 3), (49, 4), (26, 0), (26, 1), (26, 2), (19, 0), (19, 1), (19, 2), (19, 3), (16, 0), (16, 1), (16, 2), (4, 11), (4, 12), (4, 14), (4, 15)]) rfl
  intro v ev
  obtain rfl : v = 3 := ev
  refine sg_X3_init_59 (d := d + 1) ?_
  rw [show mR (BM n1 76 R22 D22) 45 2 = 49 from hR.at 45 2 (of_decide_eq_true rfl) (by decide)]
  repeat (refine ⟨by first | rfl | exact of_decide_eq_true rfl | exact ⟨of_decide_eq_true rfl, of_decide_eq_true rfl⟩, ?_⟩)
  refine ⟨fun c => absurd c (of_decide_eq_true rfl), fun _ => ?_⟩
  repeat (refine ⟨by first | rfl | exact of_decide_eq_true rfl | exact ⟨of_decide_eq_true rfl, of_decide_eq_true rfl⟩, ?_⟩)
  intro m e
  obtain ⟨R23, D23, rfl, hR, hD⟩ := step_nw 6 0 hR hD e rfl rfl (fun _ => rfl) (S' := [(76, 2), (76, 3), (76, 4), (49, 3), (49, 4), (26, 0), (26, 1), (26, 2), (19, 0), (19, 1), (19, 2), (19, 3), (16, 0), (16, 1), (16, 2), (4, 11), (4, 12), (4, 14), (4, 15)]) (T' := [(76, 1)]) rfl rfl
  repeat (refine ⟨by first | rfl | exact of_decide_eq_true rfl | exact ⟨of_decide_eq_true rfl, of_decide_eq_true rfl⟩, ?_⟩)
  refine ⟨7, 107, _, I_76 (d := d) hR hD, ?_⟩
  repeat (refine ⟨by first | rfl | exact of_decide_eq_true rfl | exact ⟨of_decide_eq_true rfl, of_decide_eq_true rfl⟩, ?_⟩)
  intro m e
  obtain ⟨R24, D24, rfl, hR, hD⟩ := e
  repeat (refine ⟨by first | rfl | exact of_decide_eq_true rfl | exact ⟨of_decide_eq_true rfl, of_decide_eq_true rfl⟩, ?_⟩)
  intro m e
  obtain ⟨R25, D25, rfl, hR, hD⟩ := step_rf 49 3 76 hR hD e rfl rfl (of_decide_eq_true rfl) (S' := [(49, 4), (26, 0), (26, 1), (26, 2), (19, 0), (19, 1), (19, 2), (19, 3), (16, 0), (16, 1), (16, 2), (4, 11), (4, 12), (4, 14), (4, 15)]) rfl
  intro v ev
  obtain rfl : v = 4 := ev
  refine sg_X3_init_59 (d := d + 1) ?_
  rw [show mR (BM n1 84 R25 D25) 45 2 = 49 from hR.at 45 2 (of_decide_eq_true rfl) (by decide)]
  repeat (refine ⟨by first | rfl | exact of_decide_eq_true rfl | exact ⟨of_decide_eq_true rfl, of_decide_eq_true rfl⟩, ?_⟩)
  refine ⟨fun c => absurd c (of_decide_eq_true rfl), fun _ => ?_⟩
  repeat (refine ⟨by first | rfl | exact of_decide_eq_true rfl | exact ⟨of_decide_eq_true rfl, of_decide_eq_true rfl⟩, ?_⟩)
  intro m e
  obtain ⟨R26, D26, rfl, hR, hD⟩ := step_nw 6 0 hR hD e rfl rfl (fun _ => rfl) (S' := [(84, 2), (84, 3), (84, 4), (49, 4), (26, 0), (26, 1), (26, 2), (19, 0), (19, 1), (19, 2), (19, 3), (16, 0), (16, 1), (16, 2), (4, 11), (4, 12), (4, 14), (4, 15)]) (T' := [(84, 1)]) rfl rfl
  repeat (refine ⟨by first | rfl | exact of_decide_eq_true rfl | exact ⟨of_decide_eq_true rfl, of_decide_eq_true rfl⟩, ?_⟩)
  refine ⟨7, 107, _, I_84 (d := d) hR hD, ?_⟩
  repeat (refine ⟨by first | rfl | exact of_decide_eq_true rfl | exact ⟨of_decide_eq_true rfl, of_decide_eq_true rfl⟩, ?_⟩)
  intro m e
  obtain ⟨R27, D27, rfl, hR, hD⟩ := e
  repeat (refine ⟨by first | rfl | exact of_decide_eq_true rfl | exact ⟨of_decide_eq_true rfl, of_decide_eq_true rfl⟩, ?_⟩)
  intro m e
  obtain ⟨R28, D28, rfl, hR, hD⟩ := step_rf 49 4 84 hR hD e rfl rfl (of_decide_eq_true rfl) (S' := [(26, 0), (26, 1), (26, 2), (19, 0), (19, 1), (19, 2), (19, 3), (16, 0), (16, 1), (16, 2), (4, 11), (4, 12), (4, 14), (4, 15)]) rfl
  intro v ev
  obtain rfl : v = 5 := ev
  refine sg_X3_init_59 (d := d + 1) ?_
  rw [show mR (BM n1 92 R28 D28) 45 2 = 49 from hR.at 45 2 (of_decide_eq_true rfl) (by decide)]
  repeat (refine ⟨by first | rfl | exact of_decide_eq_true rfl | exact ⟨of_decide_eq_true rfl, of_decide_eq_true rfl⟩, ?_⟩)
  refine ⟨fun _ => ?_, fun c => absurd (of_decide_eq_true rfl) c⟩
  first | exact ⟨rfl, _, _, rfl, hR, hD⟩ | exact ⟨rfl, ⟨_, _, rfl, hR, hD⟩⟩
theorem I_93 {d : Nat} {R : Nat → Int → Nat} {D B : DD} (hR : RI 94 [(93, 0), (93, 1), (93, 2), (93, 3), (26, 0), (26, 1), (26, 2), (19, 0), (19, 1), (19, 2), (19, 3), (16, 0), (16, 1), (16, 2), (4, 14), (4, 15)] R) (hD : DI (dS B) 94 [] D) : Cl (d) 4 80 mX1_init [vr 93] (BM n1 94 R D) (KV (fun m => ∃ (R' : Nat → Int → Nat) (D' : DD), m = BM n1 98 R' D' ∧ RI 98 [(26, 0), (26, 1), (26, 2), (19, 0), (19, 1), (19, 2), (19, 3), (16, 0), (16, 1), (16, 2), (4, 14), (4, 15)] R' ∧ DI (dS B) 98 [] D')) := by
  refine Cl_of mb_X1_init (Nat.le_of_ble_eq_true rfl) (sg_X1_init_0 ?_)
  repeat (refine ⟨by first | rfl | exact of_decide_eq_true rfl | exact ⟨of_decide_eq_true rfl, of_decide_eq_true rfl⟩, ?_⟩)
  intro m e
  obtain ⟨R1, D1, rfl, hR, hD⟩ := step_nw 20 20 hR hD e rfl rfl (fun _ => rfl) (S' := [(93, 0), (93, 1), (93, 2), (93, 3), (26, 0), (26, 1), (26, 2), (19, 0), (19, 1), (19, 2), (19, 3), (16, 0), (16, 1), (16, 2), (4, 14), (4, 15)]) (T' := []) rfl rfl
  repeat (refine ⟨by first | rfl | exact of_decide_eq_true rfl | exact ⟨of_decide_eq_true rfl, of_decide_eq_true rfl⟩, ?_⟩)
  intro m e
  obtain ⟨R2, D2, rfl, hR, hD⟩ := step_rf 93 0 94 hR hD e rfl rfl (of_decide_eq_true rfl) (S' := [(93, 1), (93, 2), (93, 3), (26, 0), (26, 1), (26, 2), (19, 0), (19, 1), (19, 2), (19, 3), (16, 0), (16, 1), (16, 2), (4, 14), (4, 15)]) rfl
  repeat (refine ⟨by first | rfl | exact of_decide_eq_true rfl | exact ⟨of_decide_eq_true rfl, of_decide_eq_true rfl⟩, ?_⟩)
  intro m e
  obtain ⟨R3, D3, rfl, hR, hD⟩ := step_nw 20 20 hR hD e rfl rfl (fun _ => rfl) (S' := [(93, 1), (93, 2), (93, 3), (26, 0), (26, 1), (26, 2), (19, 0), (19, 1), (19, 2), (19, 3), (16, 0), (16, 1), (16, 2), (4, 14), (4, 15)]) (T' := []) rfl rfl
  repeat (refine ⟨by first | rfl | exact of_decide_eq_true rfl | exact ⟨of_decide_eq_true rfl, of_decide_eq_true rfl⟩, ?_⟩)
  intro m e
  obtain ⟨R4, D4, rfl, hR, hD⟩ := step_rf 93 1 95 hR hD e rfl rfl (of_decide_eq_true rfl) (S' := [(93, 2), (93, 3), (26, 0), (26, 1), (26, 2), (19, 0), (19, 1), (19, 2), (19, 3), (16, 0), (16, 1), (16, 2), (4, 14), (4, 15)]) rfl
  repeat (refine ⟨by first | rfl | exact of_decide_eq_true rfl | exact ⟨of_decide_eq_true rfl, of_decide_eq_true rfl⟩, ?_⟩)
  intro m e
  obtain ⟨R5, D5, rfl, hR, hD⟩ := step_nw 20 20 hR hD e rfl rfl (fun _ => rfl) (S' := [(93, 2), (93, 3), (26, 0), (26, 1), (26, 2), (19, 0), (19, 1), (19, 2), (19, 3), (16, 0), (16, 1), (16, 2), (4, 14), (4, 15)]) (T' := []) rfl rfl
  repeat (refine ⟨by first | rfl | exact of_decide_eq_true rfl | exact ⟨of_decide_eq_true rfl, of_decide_eq_true rfl⟩, ?_⟩)
  intro m e
  obtain ⟨R6, D6, rfl, hR, hD⟩ := step_rf 93 2 96 hR hD e rfl rfl (of_decide_eq_true rfl) (S' := [(93, 3), (26, 0), (26, 1), (26, 2), (19, 0), (19, 1), (19, 2), (19, 3), (16, 0), (16, 1), (16, 2), (4, 14), (4, 15)]) rfl
  repeat (refine ⟨by first | rfl | exact of_decide_eq_true rfl | exact ⟨of_decide_eq_true rfl, of_decide_eq_true rfl⟩, ?_⟩)
  intro m e
  obtain ⟨R7, D7, rfl, hR, hD⟩ := step_nw 20 20 hR hD e rfl rfl (fun _ => rfl) (S' := [(93, 3), (26, 0), (26, 1), (26, 2), (19, 0), (19, 1), (19, 2), (19, 3), (16, 0), (16, 1), (16, 2), (4, 14), (4, 15)]) (T' := []) rfl rfl
  repeat (refine ⟨by first | rfl | exact of_decide_eq_true rfl | exact ⟨of_decide_eq_true rfl, of_decide_eq_true rfl⟩, ?_⟩)
  intro m e
  obtain ⟨R8, D8, rfl, hR, hD⟩ := step_rf 93 3 97 hR hD e rfl rfl (of_decide_eq_true rfl) (S' := [(26, 0), (26, 1), (26, 2), (19, 0), (19, 1), (19, 2), (19, 3), (16, 0), (16, 1), (16, 2), (4, 14), (4, 15)]) rfl
  repeat (refine ⟨by first | rfl | exact of_decide_eq_true rfl | exact ⟨of_decide_eq_true rfl, of_decide_eq_true rfl⟩, ?_⟩)
  intro m e
  obtain ⟨R9, D9, rfl, hR, hD⟩ := step_nm 93 4 (0) hR hD e rfl rfl (T' := []) rfl
  first | exact ⟨rfl, _, _, rfl, hR, hD⟩ | exact ⟨rfl, ⟨_, _, rfl, hR, hD⟩⟩
theorem I_100 {d : Nat} {R : Nat → Int → Nat} {D B : DD} (hR : RI 101 [(100, 0), (100, 1), (99, 2), (99, 3), (99, 4), (26, 0), (26, 1), (26, 2), (19, 0), (19, 1), (19, 2), (19, 3), (16, 0), (16, 1), (16, 2)] R) (hD : DI (dS B) 101 [] D) : Cl (d) 2 40 mX4_init [vr 100] (BM n1 101 R D) (KV (fun m => ∃ (R' : Nat → Int → Nat) (D' : DD), m = BM n1 103 R' D' ∧ RI 103 [(99, 2), (99, 3), (99, 4), (26, 0), (26, 1), (26, 2), (19, 0), (19, 1), (19, 2), (19, 3), (16, 0), (16, 1), (16, 2)] R' ∧ DI (dS B) 103 [] D')) := by
  refine Cl_of mb_X4_init (Nat.le_of_ble_eq_true rfl) (sg_X4_init_0 ?_)
  repeat (refine ⟨by first | rfl | exact of_decide_eq_true rfl | exact ⟨of_decide_eq_true rfl, of_decide_eq_true rfl⟩, ?_⟩)
  intro m e
  obtain ⟨R1, D1, rfl, hR, hD⟩ := step_nw 20 20 hR hD e rfl rfl (fun _ => rfl) (S' := [(100, 0), (100, 1), (99, 2), (99, 3), (99, 4), (26, 0), (26, 1), (26, 2), (19, 0), (19, 1), (19, 2), (19, 3), (16, 0), (16, 1), (16, 2)]) (T' := []) rfl rfl
  repeat (refine ⟨by first | rfl | exact of_decide_eq_true rfl | exact ⟨of_decide_eq_true rfl, of_decide_eq_true rfl⟩, ?_⟩)
  intro m e
  obtain ⟨R2, D2, rfl, hR, hD⟩ := step_rf 100 0 101 hR hD e rfl rfl (of_decide_eq_true rfl) (S' := [(100, 1), (99, 2), (99, 3), (99, 4), (26, 0), (26, 1), (26, 2), (19, 0), (19, 1), (19, 2), (19, 3), (16, 0), (16, 1), (16, 2)]) rfl
  repeat (refine ⟨by first | rfl | exact of_decide_eq_true rfl | exact ⟨of_decide_eq_true rfl, of_decide_eq_true rfl⟩, ?_⟩)
  intro m e
  obtain ⟨R3, D3, rfl, hR, hD⟩ := step_nw 20 20 hR hD e rfl rfl (fun _ => rfl) (S' := [(100, 1), (99, 2), (99, 3), (99, 4), (26, 0), (26, 1), (26, 2), (19, 0), (19, 1), (19, 2), (19, 3), (16, 0), (16, 1), (16, 2)]) (T' := []) rfl rfl
  repeat (refine ⟨by first | rfl | exact of_decide_eq_true rfl | exact ⟨of_decide_eq_true rfl, of_decide_eq_true rfl⟩, ?_⟩)
  intro m e
  obtain ⟨R4, D4, rfl, hR, hD⟩ := step_rf 100 1 102 hR hD e rfl rfl (of_decide_eq_true rfl) (S' := [(99, 2), (99, 3), (99, 4), (26, 0), (26, 1), (26, 2), (19, 0), (19, 1), (19, 2), (19, 3), (16, 0), (16, 1), (16, 2)]) rfl
  repeat (refine ⟨by first | rfl | exact of_decide_eq_true rfl | exact ⟨of_decide_eq_true rfl, of_decide_eq_true rfl⟩, ?_⟩)
  intro m e
  obtain ⟨R5, D5, rfl, hR, hD⟩ := step_nm 100 2 (0) hR hD e rfl rfl (T' := []) rfl
  first | exact ⟨rfl, _, _, rfl, hR, hD⟩ | exact ⟨rfl, ⟨_, _, rfl, hR, hD⟩⟩
theorem I_103 {d : Nat} {R : Nat → Int → Nat} {D B : DD} (hR : RI 104 [(103, 0), (103, 1), (99, 3), (99, 4), (26, 0), (26, 1), (26, 2), (19, 0), (19, 1), (19, 2), (19, 3), (16, 0), (16, 1), (16, 2)] R) (hD : DI (dS B) 104 [] D) : Cl (d) 2 40 mX4_init [vr 103] (BM n1 104 R D) (KV (fun m => ∃ (R' : Nat → Int → Nat) (D' : DD), m = BM n1 106 R' D' ∧ RI 106 [(99, 3), (99, 4), (26, 0), (26, 1), (26, 2), (19, 0), (19, 1), (19, 2), (19, 3), (16, 0), (16, 1), (16, 2)] R' ∧ DI (dS B) 106 [] D')) := by
  refine Cl_of mb_X4_init (Nat.le_of_ble_eq_true rfl) (sg_X4_init_0 ?_)
  repeat (refine ⟨by first | rfl | exact of_decide_eq_true rfl | exact ⟨of_decide_eq_true rfl, of_decide_eq_true rfl⟩, ?_⟩)
  intro m e
  obtain ⟨R1, D1, rfl, hR, hD⟩ := step_nw 20 20 hR hD e rfl rfl (fun _ => rfl) (S' := [(103, 0), (103, 1), (99, 3), (99, 4), (26, 0), (26, 1), (26, 2), (19, 0), (19, 1), (19, 2), (19, 3), (16, 0), (16, 1), (16, 2)]) (T' := []) rfl rfl
  repeat (refine ⟨by first | rfl | exact of_decide_eq_true rfl | exact ⟨of_decide_eq_true rfl, of_decide_eq_true rfl⟩, ?_⟩)
  intro m e
  obtain ⟨R2, D2, rfl, hR, hD⟩ := step_rf 103 0 104 hR hD e rfl rfl (of_decide_eq_true rfl) (S' := [(103, 1), (99, 3), (99, 4), (26, 0), (26, 1), (26, 2), (19, 0), (19, 1), (19, 2), (19, 3), (16, 0), (16, 1), (16, 2)]) rfl
  repeat (refine ⟨by first | rfl | exact of_decide_eq_true rfl | exact ⟨of_decide_eq_true rfl, of_decide_eq_true rfl⟩, ?_⟩)
  intro m e
  obtain ⟨R3, D3, rfl, hR, hD⟩ := step_nw 20 20 hR hD e rfl rfl (fun _ => rfl) (S' := [(103, 1), (99, 3), (99, 4), (26, 0), (26, 1), (26, 2), (19, 0), (19, 1), (19, 2), (19, 3), (16, 0), (16, 1), (16, 2)]) (T' := []) rfl rfl
  repeat (refine ⟨by first | rfl | exact of_decide_eq_true rfl | exact ⟨of_decide_eq_true rfl, of_decide_eq_true rfl⟩, ?_⟩)
  intro m e
  obtain ⟨R4, D4, rfl, hR, hD⟩ := step_rf 103 1 105 hR hD e rfl rfl (of_decide_eq_true rfl) (S' := [(99, 3), (99, 4), (26, 0), (26, 1), (26, 2), (19, 0), (19, 1), (19, 2), (19, 3), (16, 0), (16, 1), (16, 2)]) rfl
  repeat (refine ⟨by first | rfl | exact of_decide_eq_true rfl | exact ⟨of_decide_eq_true rfl, of_decide_eq_true rfl⟩, ?_⟩)
  intro m e
  obtain ⟨R5, D5, rfl, hR, hD⟩ := step_nm 103 2 (0) hR hD e rfl rfl (T' := []) rfl
  first | exact ⟨rfl, _, _, rfl, hR, hD⟩ | exact ⟨rfl, ⟨_, _, rfl, hR, hD⟩⟩
theorem I_99 {d : Nat} {R : Nat → Int → Nat} {D B : DD} (hR : RI 100 [(99, 2), (99, 3), (99, 4), (26, 0), (26, 1), (26, 2), (19, 0), (19, 1), (19, 2), (19, 3), (16, 0), (16, 1), (16, 2)] R) (hD : DI (dS B) 100 [(99, 1)] D) : Cl (d + 1) 7 107 mX5_init [vr 99] (BM n1 100 R D) (KV (fun m => ∃ (R' : Nat → Int → Nat) (D' : DD), m = BM n1 107 R' D' ∧ RI 107 [(26, 0), (26, 1), (26, 2), (19, 0), (19, 1), (19, 2), (19, 3), (16, 0), (16, 1), (16, 2)] R' ∧ DI (dS B) 107 [] D')) := by
  refine Cl_of mb_X5_init (Nat.le_of_ble_eq_true rfl) (sg_X5_init_0 (d := d) ?_)
  repeat (refine ⟨by first | rfl | exact of_decide_eq_true rfl | exact ⟨of_decide_eq_true rfl, of_decide_eq_true rfl⟩, ?_⟩)
  intro m e
  obtain ⟨R1, D1, rfl, hR, hD⟩ := step_nm 99 0 (0) hR hD e rfl rfl (T' := [(99, 1)]) rfl
  repeat (refine ⟨by first | rfl | exact of_decide_eq_true rfl | exact ⟨of_decide_eq_true rfl, of_decide_eq_true rfl⟩, ?_⟩)
  intro m e
  obtain ⟨R2, D2, rfl, hR, hD⟩ := step_nm 99 1 (1) hR hD e rfl rfl (T' := []) rfl
  repeat (refine ⟨by first | rfl | exact of_decide_eq_true rfl | exact ⟨of_decide_eq_true rfl, of_decide_eq_true rfl⟩, ?_⟩)
  intro m e
  obtain ⟨R3, D3, rfl, hR, hD⟩ := step_nw 5 0 hR hD e rfl rfl (fun _ => rfl) (S' := [(100, 0), (100, 1), (99, 2), (99, 3), (99, 4), (26, 0), (26, 1), (26, 2), (19, 0), (19, 1), (19, 2), (19, 3), (16, 0), (16, 1), (16, 2)]) (T' := []) rfl rfl
  repeat (refine ⟨by first | rfl | exact of_decide_eq_true rfl | exact ⟨of_decide_eq_true rfl, of_decide_eq_true rfl⟩, ?_⟩)
  refine ⟨2, 40, _, I_100 (d := d) hR hD, ?_⟩
  repeat (refine ⟨by first | rfl | exact of_decide_eq_true rfl | exact ⟨of_decide_eq_true rfl, of_decide_eq_true rfl⟩, ?_⟩)
  intro m e
  obtain ⟨R4, D4, rfl, hR, hD⟩ := e
  repeat (refine ⟨by first | rfl | exact of_decide_eq_true rfl | exact ⟨of_decide_eq_true rfl, of_decide_eq_true rfl⟩, ?_⟩)
  intro m e
  obtain ⟨R5, D5, rfl, hR, hD⟩ := step_rf 99 2 100 hR hD e rfl rfl (of_decide_eq_true rfl) (S' := [(99, 3), (99, 4), (26, 0), (26, 1), (26, 2), (19, 0), (19, 1), (19, 2), (19, 3), (16, 0), (16, 1), (16, 2)]) rfl
  repeat (refine ⟨by first | rfl | exact of_decide_eq_true rfl | exact ⟨of_decide_eq_true rfl, of_decide_eq_true rfl⟩, ?_⟩)
  intro m e
  obtain ⟨R6, D6, rfl, hR, hD⟩ := step_nw 5 0 hR hD e rfl rfl (fun _ => rfl) (S' := [(103, 0), (103, 1), (99, 3), (99, 4), (26, 0), (26, 1), (26, 2), (19, 0), (19, 1), (19, 2), (19, 3), (16, 0), (16, 1), (16, 2)]) (T' := []) rfl rfl
  repeat (refine ⟨by first | rfl | exact of_decide_eq_true rfl | exact ⟨of_decide_eq_true rfl, of_decide_eq_true rfl⟩, ?_⟩)
  refine ⟨2, 40, _, I_103 (d := d) hR hD, ?_⟩
  repeat (refine ⟨by first | rfl | exact of_decide_eq_true rfl | exact ⟨of_decide_eq_true rfl, of_decide_eq_true rfl⟩, ?_⟩)
  intro m e
  obtain ⟨R7, D7, rfl, hR, hD⟩ := e
  repeat (refine ⟨by first | rfl | exact of_decide_eq_true rfl | exact ⟨of_decide_eq_true rfl, of_decide_eq_true rfl⟩, ?_⟩)
  intro m e
  obtain ⟨R8, D8, rfl, hR, hD⟩ := step_rf 99 3 103 hR hD e rfl rfl (of_decide_eq_true rfl) (S' := [(99, 4), (26, 0), (26, 1), (26, 2), (19, 0), (19, 1), (19, 2), (19, 3), (16, 0), (16, 1), (16, 2)]) rfl
  repeat (refine ⟨by first | rfl | exact of_decide_eq_true rfl | exact ⟨of_decide_eq_true rfl, of_decide_eq_true rfl⟩, ?_⟩)
  intro m e
  obtain ⟨R9, D9, rfl, hR, hD⟩ := step_nw 20 21 hR hD e rfl rfl (fun _ => rfl) (S' := [(99, 4), (26, 0), (26, 1), (26, 2), (19, 0), (19, 1), (19, 2), (19, 3), (16, 0), (16, 1), (16, 2)]) (T' := []) rfl rfl
  repeat (refine ⟨by first | rfl | exact of_decide_eq_true rfl | exact ⟨of_decide_eq_true rfl, of_decide_eq_true rfl⟩, ?_⟩)
  intro m e
  obtain ⟨R10, D10, rfl, hR, hD⟩ := step_rf 99 4 106 hR hD e rfl rfl (of_decide_eq_true rfl) (S' := [(26, 0), (26, 1), (26, 2), (19, 0), (19, 1), (19, 2), (19, 3), (16, 0), (16, 1), (16, 2)]) rfl
  first | exact ⟨rfl, _, _, rfl, hR, hD⟩ | exact ⟨rfl, ⟨_, _, rfl, hR, hD⟩⟩
theorem I_108 {d : Nat} {R : Nat → Int → Nat} {D B : DD} (hR : RI 109 [(108, 0), (108, 1), (107, 2), (107, 3), (107, 4), (26, 0), (26, 1), (26, 2), (19, 0), (19, 1), (19, 2), (19, 3), (16, 1), (16, 2)] R) (hD : DI (dS B) 109 [] D) : Cl (d) 2 40 mX4_init [vr 108] (BM n1 109 R D) (KV (fun m => ∃ (R' : Nat → Int → Nat) (D' : DD), m = BM n1 111 R' D' ∧ RI 111 [(107, 2), (107, 3), (107, 4), (26, 0), (26, 1), (26, 2), (19, 0), (19, 1), (19, 2), (19, 3), (16, 1), (16, 2)] R' ∧ DI (dS B) 111 [] D')) := by
  refine Cl_of mb_X4_init (Nat.le_of_ble_eq_true rfl) (sg_X4_init_0 ?_)
  repeat (refine ⟨by first | rfl | exact of_decide_eq_true rfl | exact ⟨of_decide_eq_true rfl, of_decide_eq_true rfl⟩, ?_⟩)
  intro m e
  obtain ⟨R1, D1, rfl, hR, hD⟩ := step_nw 20 20 hR hD e rfl rfl (fun _ => rfl) (S' := [(108, 0), (108, 1), (107, 2), (107, 3), (107, 4), (26, 0), (26, 1), (26, 2), (19, 0), (19, 1), (19, 2), (19, 3), (16, 1), (16, 2)]) (T' := []) rfl rfl
  repeat (refine ⟨by first | rfl | exact of_decide_eq_true rfl | exact ⟨of_decide_eq_true rfl, of_decide_eq_true rfl⟩, ?_⟩)
  intro m e
  obtain ⟨R2, D2, rfl, hR, hD⟩ := step_rf 108 0 109 hR hD e rfl rfl (of_decide_eq_true rfl) (S' := [(108, 1), (107, 2), (107, 3), (107, 4), (26, 0), (26, 1), (26, 2), (19, 0), (19, 1), (19, 2), (19, 3), (16, 1), (16, 2)]) rfl
  repeat (refine ⟨by first | rfl | exact of_decide_eq_true rfl | exact ⟨of_decide_eq_true rfl, of_decide_eq_true rfl⟩, ?_⟩)
  intro m e
  obtain ⟨R3, D3, rfl, hR, hD⟩ := step_nw 20 20 hR hD e rfl rfl (fun _ => rfl) (S' := [(108, 1), (107, 2), (107, 3), (107, 4), (26, 0), (26, 1), (26, 2), (19, 0), (19, 1), (19, 2), (19, 3), (16, 1), (16, 2)]) (T' := []) rfl rfl
  repeat (refine ⟨by first | rfl | exact of_decide_eq_true rfl | exact ⟨of_decide_eq_true rfl, of_decide_eq_true rfl⟩, ?_⟩)
  intro m e
  obtain ⟨R4, D4, rfl, hR, hD⟩ := step_rf 108 1 110 hR hD e rfl rfl (of_decide_eq_true rfl) (S' := [(107, 2), (107, 3), (107, 4), (26, 0), (26, 1), (26, 2), (19, 0), (19, 1), (19, 2), (19, 3), (16, 1), (16, 2)]) rfl
  repeat (refine ⟨by first | rfl | exact of_decide_eq_true rfl | exact ⟨of_decide_eq_true rfl, of_decide_eq_true rfl⟩, ?_⟩)
  intro m e
  obtain ⟨R5, D5, rfl, hR, hD⟩ := step_nm 108 2 (0) hR hD e rfl rfl (T' := []) rfl
  first | exact ⟨rfl, _, _, rfl, hR, hD⟩ | exact ⟨rfl, ⟨_, _, rfl, hR, hD⟩⟩
theorem I_111 {d : Nat} {R : Nat → Int → Nat} {D B : DD} (hR : RI 112 [(111, 0), (111, 1), (107, 3), (107, 4), (26, 0), (26, 1), (26, 2), (19, 0), (19, 1), (19, 2), (19, 3), (16, 1), (16, 2)] R) (hD : DI (dS B) 112 [] D) : Cl (d) 2 40 mX4_init [vr 111] (BM n1 112 R D) (KV (fun m => ∃ (R' : Nat → Int → Nat) (D' : DD), m = BM n1 114 R' D' ∧ RI 114 [(107, 3), (107, 4), (26, 0), (26, 1), (26, 2), (19, 0), (19, 1), (19, 2), (19, 3), (16, 1), (16, 2)] R' ∧ DI (dS B) 114 [] D')) := by
  refine Cl_of mb_X4_init (Nat.le_of_ble_eq_true rfl) (sg_X4_init_0 ?_)
  repeat (refine ⟨by first | rfl | exact of_decide_eq_true rfl | exact ⟨of_decide_eq_true rfl, of_decide_eq_true rfl⟩, ?_⟩)
  intro m e
  obtain ⟨R1, D1, rfl, hR, hD⟩ := step_nw 20 20 hR hD e rfl rfl (fun _ => rfl) (S' := [(111, 0), (111, 1), (107, 3), (107, 4), (26, 0), (26, 1), (26, 2), (19, 0), (19, 1), (19, 2), (19, 3), (16, 1), (16, 2)]) (T' := []) rfl rfl
  repeat (refine ⟨by first | rfl | exact of_decide_eq_true rfl | exact ⟨of_decide_eq_true rfl, of_decide_eq_true rfl⟩, ?_⟩)
  intro m e
  obtain ⟨R2, D2, rfl, hR, hD⟩ := step_rf 111 0 112 hR hD e rfl rfl (of_decide_eq_true rfl) (S' := [(111, 1), (107, 3), (107, 4), (26, 0), (26, 1), (26, 2), (19, 0), (19, 1), (19, 2), (19, 3), (16, 1), (16, 2)]) rfl
  repeat (refine ⟨by first | rfl | exact of_decide_eq_true rfl | exact ⟨of_decide_eq_true rfl, of_decide_eq_true rfl⟩, ?_⟩)
  intro m e
  obtain ⟨R3, D3, rfl, hR, hD⟩ := step_nw 20 20 hR hD e rfl rfl (fun _ => rfl) (S' := [(111, 1), (107, 3), (107, 4), (26, 0), (26, 1), (26, 2), (19, 0), (19, 1), (19, 2), (19, 3), (16, 1), (16, 2)]) (T' := []) rfl rfl
  repeat (refine ⟨by first | rfl | exact of_decide_eq_true rfl | exact ⟨of_decide_eq_true rfl, of_decide_eq_true rfl⟩, ?_⟩)
  intro m e
  obtain ⟨R4, D4, rfl, hR, hD⟩ := step_rf 111 1 113 hR hD e rfl rfl (of_decide_eq_true rfl) (S' := [(107, 3), (107, 4), (26, 0), (26, 1), (26, 2), (19, 0), (19, 1), (19, 2), (19, 3), (16, 1), (16, 2)]) rfl
  repeat (refine ⟨by first | rfl | exact of_decide_eq_true rfl | exact ⟨of_decide_eq_true rfl, of_decide_eq_true rfl⟩, ?_⟩)
  intro m e
  obtain ⟨R5, D5, rfl, hR, hD⟩ := step_nm 111 2 (0) hR hD e rfl rfl (T' := []) rfl
  first | exact ⟨rfl, _, _, rfl, hR, hD⟩ | exact ⟨rfl, ⟨_, _, rfl, hR, hD⟩⟩
theorem I_107 {d : Nat} {R : Nat → Int → Nat} {D B : DD} (hR : RI 108 [(107, 2), (107, 3), (107, 4), (26, 0), (26, 1), (26, 2), (19, 0), (19, 1), (19, 2), (19, 3), (16, 1), (16, 2)] R) (hD : DI (dS B) 108 [(107, 1)] D) : Cl (d + 1) 7 107 mX5_init [vr 107] (BM n1 108 R D) (KV (fun m => ∃ (R' : Nat → Int → Nat) (D' : DD), m = BM n1 115 R' D' ∧ RI 115 [(26, 0), (26, 1), (26, 2), (19, 0), (19, 1), (19, 2), (19, 3), (16, 1), (16, 2)] R' ∧ DI (dS B) 115 [] D')) := by
  refine Cl_of mb_X5_init (Nat.le_of_ble_eq_true rfl) (sg_X5_init_0 (d := d) ?_)
  repeat (refine ⟨by first | rfl | exact of_decide_eq_true rfl | exact ⟨of_decide_eq_true rfl, of_decide_eq_true rfl⟩, ?_⟩)
  intro m e
  obtain ⟨R1, D1, rfl, hR, hD⟩ := step_nm 107 0 (0) hR hD e rfl rfl (T' := [(107, 1)]) rfl
  repeat (refine ⟨by first | rfl | exact of_decide_eq_true rfl | exact ⟨of_decide_eq_true rfl, of_decide_eq_true rfl⟩, ?_⟩)
  intro m e
  obtain ⟨R2, D2, rfl, hR, hD⟩ := step_nm 107 1 (1) hR hD e rfl rfl (T' := []) rfl
  repeat (refine ⟨by first | rfl | exact of_decide_eq_true rfl | exact ⟨of_decide_eq_true rfl, of_decide_eq_true rfl⟩, ?_⟩)
  intro m e
  obtain ⟨R3, D3, rfl, hR, hD⟩ := step_nw 5 0 hR hD e rfl rfl (fun _ => rfl) (S' := [(108, 0), (108, 1), (107, 2), (107, 3), (107, 4), (26, 0), (26, 1), (26, 2), (19, 0), (19, 1), (19, 2), (19, 3), (16, 1), (16, 2)]) (T' := []) rfl rfl
  repeat (refine ⟨by first | rfl | exact of_decide_eq_true rfl | exact ⟨of_decide_eq_true rfl, of_decide_eq_true rfl⟩, ?_⟩)
  refine ⟨2, 40, _, I_108 (d := d) hR hD, ?_⟩
  repeat (refine ⟨by first | rfl | exact of_decide_eq_true rfl | exact ⟨of_decide_eq_true rfl, of_decide_eq_true rfl⟩, ?_⟩)
  intro m e
  obtain ⟨R4, D4, rfl, hR, hD⟩ := e
  repeat (refine ⟨by first | rfl | exact of_decide_eq_true rfl | exact ⟨of_decide_eq_true rfl, of_decide_eq_true rfl⟩, ?_⟩)
  intro m e
  obtain ⟨R5, D5, rfl, hR, hD⟩ := step_rf 107 2 108 hR hD e rfl rfl (of_decide_eq_true rfl) (S' := [(107, 3), (107, 4), (26, 0), (26, 1), (26, 2), (19, 0), (19, 1), (19, 2), (19, 3), (16, 1), (16, 2)]) rfl
  repeat (refine ⟨by first | rfl | exact of_decide_eq_true rfl | exact ⟨of_decide_eq_true rfl, of_decide_eq_true rfl⟩, ?_⟩)
  intro m e
  obtain ⟨R6, D6, rfl, hR, hD⟩ := step_nw 5 0 hR hD e rfl rfl (fun _ => rfl) (S' := [(111, 0), (111, 1), (107, 3), (107, 4), (26, 0), (26, 1), (26, 2), (19, 0), (19, 1), (19, 2), (19, 3), (16, 1), (16, 2)]) (T' := []) rfl rfl
  repeat (refine ⟨by first | rfl | exact of_decide_eq_true rfl | exact ⟨of_decide_eq_true rfl, of_decide_eq_true rfl⟩, ?_⟩)
  refine ⟨2, 40, _, I_111 (d := d) hR hD, ?_⟩
  repeat (refine ⟨by first | rfl | exact of_decide_eq_true rfl | exact ⟨of_decide_eq_true rfl, of_decide_eq_true rfl⟩, ?_⟩)
  intro m e
  obtain ⟨R7, D7, rfl, hR, hD⟩ := e
  repeat (refine ⟨by first | rfl | exact of_decide_eq_true rfl | exact ⟨of_decide_eq_true rfl, of_decide_eq_true rfl⟩, ?_⟩)
  intro m e
  obtain ⟨R8, D8, rfl, hR, hD⟩ := step_rf 107 3 111 hR hD e rfl rfl (of_decide_eq_true rfl) (S' := [(107, 4), (26, 0), (26, 1), (26, 2), (19, 0), (19, 1), (19, 2), (19, 3), (16, 1), (16, 2)]) rfl
  repeat (refine ⟨by first | rfl | exact of_decide_eq_true rfl | exact ⟨of_decide_eq_true rfl, of_decide_eq_true rfl⟩, ?_⟩)
  intro m e
  obtain ⟨R9, D9, rfl, hR, hD⟩ := step_nw 20 21 hR hD e rfl rfl (fun _ => rfl) (S' := [(107, 4), (26, 0), (26, 1), (26, 2), (19, 0), (19, 1), (19, 2), (19, 3), (16, 1), (16, 2)]) (T' := []) rfl rfl
  repeat (refine ⟨by first | rfl | exact of_decide_eq_true rfl | exact ⟨of_decide_eq_true rfl, of_decide_eq_true rfl⟩, ?_⟩)
  intro m e
  obtain ⟨R10, D10, rfl, hR, hD⟩ := step_rf 107 4 114 hR hD e rfl rfl (of_decide_eq_true rfl) (S' := [(26, 0), (26, 1), (26, 2), (19, 0), (19, 1), (19, 2), (19, 3), (16, 1), (16, 2)]) rfl
  first | exact ⟨rfl, _, _, rfl, hR, hD⟩ | exact ⟨rfl, ⟨_, _, rfl, hR, hD⟩⟩
theorem I_116 {d : Nat} {R : Nat → Int → Nat} {D B : DD} (hR : RI 117 [(116, 0), (116, 1), (115, 2), (115, 3), (115, 4), (26, 0), (26, 1), (26, 2), (19, 0), (19, 1), (19, 2), (19, 3), (16, 2)] R) (hD : DI (dS B) 117 [] D) : Cl (d) 2 40 mX4_init [vr 116] (BM n1 117 R D) (KV (fun m => ∃ (R' : Nat → Int → Nat) (D' : DD), m = BM n1 119 R' D' ∧ RI 119 [(115, 2), (115, 3), (115, 4), (26, 0), (26, 1), (26, 2), (19, 0), (19, 1), (19, 2), (19, 3), (16, 2)] R' ∧ DI (dS B) 119 [] D')) := by
  refine Cl_of mb_X4_init (Nat.le_of_ble_eq_true rfl) (sg_X4_init_0 ?_)
  repeat (refine ⟨by first | rfl | exact of_decide_eq_true rfl | exact ⟨of_decide_eq_true rfl, of_decide_eq_true rfl⟩, ?_⟩)
  intro m e
  obtain ⟨R1, D1, rfl, hR, hD⟩ := step_nw 20 20 hR hD e rfl rfl (fun _ => rfl) (S' := [(116, 0), (116, 1), (115, 2), (115, 3), (115, 4), (26, 0), (26, 1), (26, 2), (19, 0), (19, 1), (19, 2), (19, 3), (16, 2)]) (T' := []) rfl rfl
  repeat (refine ⟨by first | rfl | exact of_decide_eq_true rfl | exact ⟨of_decide_eq_true rfl, of_decide_eq_true rfl⟩, ?_⟩)
  intro m e
  obtain ⟨R2, D2, rfl, hR, hD⟩ := step_rf 116 0 117 hR hD e rfl rfl (of_decide_eq_true rfl) (S' := [(116, 1), (115, 2), (115, 3), (115, 4), (26, 0), (26, 1), (26, 2), (19, 0), (19, 1), (19, 2), (19, 3), (16, 2)]) rfl
  repeat (refine ⟨by first | rfl | exact of_decide_eq_true rfl | exact ⟨of_decide_eq_true rfl, of_decide_eq_true rfl⟩, ?_⟩)
  intro m e
  obtain ⟨R3, D3, rfl, hR, hD⟩ := step_nw 20 20 hR hD e rfl rfl (fun _ => rfl) (S' := [(116, 1), (115, 2), (115, 3), (115, 4), (26, 0), (26, 1), (26, 2), (19, 0), (19, 1), (19, 2), (19, 3), (16, 2)]) (T' := []) rfl rfl
  repeat (refine ⟨by first | rfl | exact of_decide_eq_true rfl | exact ⟨of_decide_eq_true rfl, of_decide_eq_true rfl⟩, ?_⟩)
  intro m e
  obtain ⟨R4, D4, rfl, hR, hD⟩ := step_rf 116 1 118 hR hD e rfl rfl (of_decide_eq_true rfl) (S' := [(115, 2), (115, 3), (115, 4), (26, 0), (26, 1), (26, 2), (19, 0), (19, 1), (19, 2), (19, 3), (16, 2)]) rfl
  repeat (refine ⟨by first | rfl | exact of_decide_eq_true rfl | exact ⟨of_decide_eq_true rfl, of_decide_eq_true rfl⟩, ?_⟩)
  intro m e
  obtain ⟨R5, D5, rfl, hR, hD⟩ := step_nm 116 2 (0) hR hD e rfl rfl (T' := []) rfl
  first | exact ⟨rfl, _, _, rfl, hR, hD⟩ | exact ⟨rfl, ⟨_, _, rfl, hR, hD⟩⟩
theorem I_119 {d : Nat} {R : Nat → Int → Nat} {D B : DD} (hR : RI 120 [(119, 0), (119, 1), (115, 3), (115, 4), (26, 0), (26, 1), (26, 2), (19, 0), (19, 1), (19, 2), (19, 3), (16, 2)] R) (hD : DI (dS B) 120 [] D) : Cl (d) 2 40 mX4_init [vr 119] (BM n1 120 R D) (KV (fun m => ∃ (R' : Nat → Int → Nat) (D' : DD), m = BM n1 122 R' D' ∧ RI 122 [(115, 3), (115, 4), (26, 0), (26, 1), (26, 2), (19, 0), (19, 1), (19, 2), (19, 3), (16, 2)] R' ∧ DI (dS B) 122 [] D')) := by
  refine Cl_of mb_X4_init (Nat.le_of_ble_eq_true rfl) (sg_X4_init_0 ?_)
  repeat (refine ⟨by first | rfl | exact of_decide_eq_true rfl | exact ⟨of_decide_eq_true rfl, of_decide_eq_true rfl⟩, ?_⟩)
  intro m e
  obtain ⟨R1, D1, rfl, hR, hD⟩ := step_nw 20 20 hR hD e rfl rfl (fun _ => rfl) (S' := [(119, 0), (119, 1), (115, 3), (115, 4), (26, 0), (26, 1), (26, 2), (19, 0), (19, 1), (19, 2), (19, 3), (16, 2)]) (T' := []) rfl rfl
  repeat (refine ⟨by first | rfl | exact of_decide_eq_true rfl | exact ⟨of_decide_eq_true rfl, of_decide_eq_true rfl⟩, ?_⟩)
  intro m e
  obtain ⟨R2, D2, rfl, hR, hD⟩ := step_rf 119 0 120 hR hD e rfl rfl (of_decide_eq_true rfl) (S' := [(119, 1), (115, 3), (115, 4), (26, 0), (26, 1), (26, 2), (19, 0), (19, 1), (19, 2), (19, 3), (16, 2)]) rfl
  repeat (refine ⟨by first | rfl | exact of_decide_eq_true rfl | exact ⟨of_decide_eq_true rfl, of_decide_eq_true rfl⟩, ?_⟩)
  intro m e
  obtain ⟨R3, D3, rfl, hR, hD⟩ := step_nw 20 20 hR hD e rfl rfl (fun _ => rfl) (S' := [(119, 1), (115, 3), (115, 4), (26, 0), (26, 1), (26, 2), (19, 0), (19, 1), (19, 2), (19, 3), (16, 2)]) (T' := []) rfl rfl
  repeat (refine ⟨by first | rfl | exact of_decide_eq_true rfl | exact ⟨of_decide_eq_true rfl, of_decide_eq_true rfl⟩, ?_⟩)
  intro m e
  obtain ⟨R4, D4, rfl, hR, hD⟩ := step_rf 119 1 121 hR hD e rfl rfl (of_decide_eq_true rfl) (S' := [(115, 3), (115, 4), (26, 0), (26, 1), (26, 2), (19, 0), (19, 1), (19, 2), (19, 3), (16, 2)]) rfl
  repeat (refine ⟨by first | rfl | exact of_decide_eq_true rfl | exact ⟨of_decide_eq_true rfl, of_decide_eq_true rfl⟩, ?_⟩)
  intro m e
  obtain ⟨R5, D5, rfl, hR, hD⟩ := step_nm 119 2 (0) hR hD e rfl rfl (T' := []) rfl
  first | exact ⟨rfl, _, _, rfl, hR, hD⟩ | exact ⟨rfl, ⟨_, _, rfl, hR, hD⟩⟩
theorem I_115 {d : Nat} {R : Nat → Int → Nat} {D B : DD} (hR : RI 116 [(115, 2), (115, 3), (115, 4), (26, 0), (26, 1), (26, 2), (19, 0), (19, 1), (19, 2), (19, 3), (16, 2)] R) (hD : DI (dS B) 116 [(115, 1)] D) : Cl (d + 1) 7 107 mX5_init [vr 115] (BM n1 116 R D) (KV (fun m => ∃ (R' : Nat → Int → Nat) (D' : DD), m = BM n1 123 R' D' ∧ RI 123 [(26, 0), (26, 1), (26, 2), (19, 0), (19, 1), (19, 2), (19, 3), (16, 2)] R' ∧ DI (dS B) 123 [] D')) := by
  refine Cl_of mb_X5_init (Nat.le_of_ble_eq_true rfl) (sg_X5_init_0 (d := d) ?_)
  repeat (refine ⟨by first | rfl | exact of_decide_eq_true rfl | exact ⟨of_decide_eq_true rfl, of_decide_eq_true rfl⟩, ?_⟩)
  intro m e
  obtain ⟨R1, D1, rfl, hR, hD⟩ := step_nm 115 0 (0) hR hD e rfl rfl (T' := [(115, 1)]) rfl
  repeat (refine ⟨by first | rfl | exact of_decide_eq_true rfl | exact ⟨of_decide_eq_true rfl, of_decide_eq_true rfl⟩, ?_⟩)
  intro m e
  obtain ⟨R2, D2, rfl, hR, hD⟩ := step_nm 115 1 (1) hR hD e rfl rfl (T' := []) rfl
  repeat (refine ⟨by first | rfl | exact of_decide_eq_true rfl | exact ⟨of_decide_eq_true rfl, of_decide_eq_true rfl⟩, ?_⟩)
  intro m e
  obtain ⟨R3, D3, rfl, hR, hD⟩ := step_nw 5 0 hR hD e rfl rfl (fun _ => rfl) (S' := [(116, 0), (116, 1), (115, 2), (115, 3), (115, 4), (26, 0), (26, 1), (26, 2), (19, 0), (19, 1), (19, 2), (19, 3), (16, 2)]) (T' := []) rfl rfl
  repeat (refine ⟨by first | rfl | exact of_decide_eq_true rfl | exact ⟨of_decide_eq_true rfl, of_decide_eq_true rfl⟩, ?_⟩)
  refine ⟨2, 40, _, I_116 (d := d) hR hD, ?_⟩
  repeat (refine ⟨by first | rfl | exact of_decide_eq_true rfl | exact ⟨of_decide_eq_true rfl, of_decide_eq_true rfl⟩, ?_⟩)
  intro m e
  obtain ⟨R4, D4, rfl, hR, hD⟩ := e
  repeat (refine ⟨by first | rfl | exact of_decide_eq_true rfl | exact ⟨of_decide_eq_true rfl, of_decide_eq_true rfl⟩, ?_⟩)
  intro m e
  obtain ⟨R5, D5, rfl, hR, hD⟩ := step_rf 115 2 116 hR hD e rfl rfl (of_decide_eq_true rfl) (S' := [(115, 3), (115, 4), (26, 0), (26, 1), (26, 2), (19, 0), (19, 1), (19, 2), (19, 3), (16, 2)]) rfl
  repeat (refine ⟨by first | rfl | exact of_decide_eq_true rfl | exact ⟨of_decide_eq_true rfl, of_decide_eq_true rfl⟩, ?_⟩)
  intro m e
  obtain ⟨R6, D6, rfl, hR, hD⟩ := step_nw 5 0 hR hD e rfl rfl (fun _ => rfl) (S' := [(119, 0), (119, 1), (115, 3), (115, 4), (26, 0), (26, 1), (26, 2), (19, 0), (19, 1), (19, 2), (19, 3), (16, 2)]) (T' := []) rfl rfl
  repeat (refine ⟨by first | rfl | exact of_decide_eq_true rfl | exact ⟨of_decide_eq_true rfl, of_decide_eq_true rfl⟩, ?_⟩)
  refine ⟨2, 40, _, I_119 (d := d) hR hD, ?_⟩
  repeat (refine ⟨by first | rfl | exact of_decide_eq_true rfl | exact ⟨of_decide_eq_true rfl, of_decide_eq_true rfl⟩, ?_⟩)
  intro m e
  obtain ⟨R7, D7, rfl, hR, hD⟩ := e
  repeat (refine ⟨by first | rfl | exact of_decide_eq_true rfl | exact ⟨of_decide_eq_true rfl, of_decide_eq_true rfl⟩, ?_⟩)
  intro m e
  obtain ⟨R8, D8, rfl, hR, hD⟩ := step_rf 115 3 119 hR hD e rfl rfl (of_decide_eq_true rfl) (S' := [(115, 4), (26, 0), (26, 1), (26, 2), (19, 0), (19, 1), (19, 2), (19, 3), (16, 2)]) rfl
  repeat (refine ⟨by first | rfl | exact of_decide_eq_true rfl | exact ⟨of_decide_eq_true rfl, of_decide_eq_true rfl⟩, ?_⟩)
  intro m e
  obtain ⟨R9, D9, rfl, hR, hD⟩ := step_nw 20 21 hR hD e rfl rfl (fun _ => rfl) (S' := [(115, 4), (26, 0), (26, 1), (26, 2), (19, 0), (19, 1), (19, 2), (19, 3), (16, 2)]) (T' := []) rfl rfl
  repeat (refine ⟨by first | rfl | exact of_decide_eq_true rfl | exact ⟨of_decide_eq_true rfl, of_decide_eq_true rfl⟩, ?_⟩)
  intro m e
  obtain ⟨R10, D10, rfl, hR, hD⟩ := step_rf 115 4 122 hR hD e rfl rfl (of_decide_eq_true rfl) (S' := [(26, 0), (26, 1), (26, 2), (19, 0), (19, 1), (19, 2), (19, 3), (16, 2)]) rfl
  first | exact ⟨rfl, _, _, rfl, hR, hD⟩ | exact ⟨rfl, ⟨_, _, rfl, hR, hD⟩⟩
theorem I_123 {d : Nat} {R : Nat → Int → Nat} {D B : DD} (hR : RI 124 [(123, 0), (123, 1), (123, 2), (123, 3), (26, 0), (26, 1), (26, 2), (19, 0), (19, 1), (19, 2), (19, 3)] R) (hD : DI (dS B) 124 [] D) : Cl (d) 4 4000 mX8_init [vr 123] (BM n1 124 R D) (KV (fun m => ∃ (R' : Nat → Int → Nat) (D' : DD), m = BM n1 128 R' D' ∧ RI 128 [(26, 0), (26, 1), (26, 2), (19, 0), (19, 1), (19, 2), (19, 3)] R' ∧ DI (dS B) 128 [] D')) := by
  refine Cl_of mb_X8_init (Nat.le_of_ble_eq_true rfl) (sg_X8_init_0 ?_)
  repeat (refine ⟨by first | rfl | exact of_decide_eq_true rfl | exact ⟨of_decide_eq_true rfl, of_decide_eq_true rfl⟩, ?_⟩)
  intro m e
  obtain ⟨R1, D1, rfl, hR, hD⟩ := step_nw 20 1000 hR hD e rfl rfl (fun _ => rfl) (S' := [(123, 0), (123, 1), (123, 2), (123, 3), (26, 0), (26, 1), (26, 2), (19, 0), (19, 1), (19, 2), (19, 3)]) (T' := []) rfl rfl
  repeat (refine ⟨by first | rfl | exact of_decide_eq_true rfl | exact ⟨of_decide_eq_true rfl, of_decide_eq_true rfl⟩, ?_⟩)
  intro m e
  obtain ⟨R2, D2, rfl, hR, hD⟩ := step_rf 123 0 124 hR hD e rfl rfl (of_decide_eq_true rfl) (S' := [(123, 1), (123, 2), (123, 3), (26, 0), (26, 1), (26, 2), (19, 0), (19, 1), (19, 2), (19, 3)]) rfl
  repeat (refine ⟨by first | rfl | exact of_decide_eq_true rfl | exact ⟨of_decide_eq_true rfl, of_decide_eq_true rfl⟩, ?_⟩)
  intro m e
  obtain ⟨R3, D3, rfl, hR, hD⟩ := step_nw 20 1000 hR hD e rfl rfl (fun _ => rfl) (S' := [(123, 1), (123, 2), (123, 3), (26, 0), (26, 1), (26, 2), (19, 0), (19, 1), (19, 2), (19, 3)]) (T' := []) rfl rfl
  repeat (refine ⟨by first | rfl | exact of_decide_eq_true rfl | exact ⟨of_decide_eq_true rfl, of_decide_eq_true rfl⟩, ?_⟩)
  intro m e
  obtain ⟨R4, D4, rfl, hR, hD⟩ := step_rf 123 1 125 hR hD e rfl rfl (of_decide_eq_true rfl) (S' := [(123, 2), (123, 3), (26, 0), (26, 1), (26, 2), (19, 0), (19, 1), (19, 2), (19, 3)]) rfl
  repeat (refine ⟨by first | rfl | exact of_decide_eq_true rfl | exact ⟨of_decide_eq_true rfl, of_decide_eq_true rfl⟩, ?_⟩)
  intro m e
  obtain ⟨R5, D5, rfl, hR, hD⟩ := step_nw 20 1000 hR hD e rfl rfl (fun _ => rfl) (S' := [(123, 2), (123, 3), (26, 0), (26, 1), (26, 2), (19, 0), (19, 1), (19, 2), (19, 3)]) (T' := []) rfl rfl
  repeat (refine ⟨by first | rfl | exact of_decide_eq_true rfl | exact ⟨of_decide_eq_true rfl, of_decide_eq_true rfl⟩, ?_⟩)
  intro m e
  obtain ⟨R6, D6, rfl, hR, hD⟩ := step_rf 123 2 126 hR hD e rfl rfl (of_decide_eq_true rfl) (S' := [(123, 3), (26, 0), (26, 1), (26, 2), (19, 0), (19, 1), (19, 2), (19, 3)]) rfl
  repeat (refine ⟨by first | rfl | exact of_decide_eq_true rfl | exact ⟨of_decide_eq_true rfl, of_decide_eq_true rfl⟩, ?_⟩)
  intro m e
  obtain ⟨R7, D7, rfl, hR, hD⟩ := step_nw 20 1000 hR hD e rfl rfl (fun _ => rfl) (S' := [(123, 3), (26, 0), (26, 1), (26, 2), (19, 0), (19, 1), (19, 2), (19, 3)]) (T' := []) rfl rfl
  repeat (refine ⟨by first | rfl | exact of_decide_eq_true rfl | exact ⟨of_decide_eq_true rfl, of_decide_eq_true rfl⟩, ?_⟩)
  intro m e
  obtain ⟨R8, D8, rfl, hR, hD⟩ := step_rf 123 3 127 hR hD e rfl rfl (of_decide_eq_true rfl) (S' := [(26, 0), (26, 1), (26, 2), (19, 0), (19, 1), (19, 2), (19, 3)]) rfl
  repeat (refine ⟨by first | rfl | exact of_decide_eq_true rfl | exact ⟨of_decide_eq_true rfl, of_decide_eq_true rfl⟩, ?_⟩)
  intro m e
  obtain ⟨R9, D9, rfl, hR, hD⟩ := step_nm 123 4 (0) hR hD e rfl rfl (T' := []) rfl
  repeat (refine ⟨by first | rfl | exact of_decide_eq_true rfl | exact ⟨of_decide_eq_true rfl, of_decide_eq_true rfl⟩, ?_⟩)
  intro m e
  obtain ⟨R10, D10, rfl, hR, hD⟩ := step_nm 123 5 (0) hR hD e rfl rfl (T' := []) rfl
  repeat (refine ⟨by first | rfl | exact of_decide_eq_true rfl | exact ⟨of_decide_eq_true rfl, of_decide_eq_true rfl⟩, ?_⟩)
  intro m e
  obtain ⟨R11, D11, rfl, hR, hD⟩ := step_nm 123 6 (0) hR hD e rfl rfl (T' := []) rfl
  first | exact ⟨rfl, _, _, rfl, hR, hD⟩ | exact ⟨rfl, ⟨_, _, rfl, hR, hD⟩⟩
theorem I_128 {d : Nat} {R : Nat → Int → Nat} {D B : DD} (hR : RI 129 [(128, 0), (128, 1), (128, 2), (128, 3), (26, 0), (26, 1), (26, 2), (19, 1), (19, 2), (19, 3)] R) (hD : DI (dS B) 129 [] D) : Cl (d) 4 4000 mX8_init [vr 128] (BM n1 129 R D) (KV (fun m => ∃ (R' : Nat → Int → Nat) (D' : DD), m = BM n1 133 R' D' ∧ RI 133 [(26, 0), (26, 1), (26, 2), (19, 1), (19, 2), (19, 3)] R' ∧ DI (dS B) 133 [] D')) := by
  refine Cl_of mb_X8_init (Nat.le_of_ble_eq_true rfl) (sg_X8_init_0 ?_)
  repeat (refine ⟨by first | rfl | exact of_decide_eq_true rfl | exact ⟨of_decide_eq_true rfl, of_decide_eq_true rfl⟩, ?_⟩)
  intro m e
  obtain ⟨R1, D1, rfl, hR, hD⟩ := step_nw 20 1000 hR hD e rfl rfl (fun _ => rfl) (S' := [(128, 0), (128, 1), (128, 2), (128, 3), (26, 0), (26, 1), (26, 2), (19, 1), (19, 2), (19, 3)]) (T' := []) rfl rfl
  repeat (refine ⟨by first | rfl | exact of_decide_eq_true rfl | exact ⟨of_decide_eq_true rfl, of_decide_eq_true rfl⟩, ?_⟩)
  intro m e
  obtain ⟨R2, D2, rfl, hR, hD⟩ := step_rf 128 0 129 hR hD e rfl rfl (of_decide_eq_true rfl) (S' := [(128, 1), (128, 2), (128, 3), (26, 0), (26, 1), (26, 2), (19, 1), (19, 2), (19, 3)]) rfl
  repeat (refine ⟨by first | rfl | exact of_decide_eq_true rfl | exact ⟨of_decide_eq_true rfl, of_decide_eq_true rfl⟩, ?_⟩)
  intro m e
  obtain ⟨R3, D3, rfl, hR, hD⟩ := step_nw 20 1000 hR hD e rfl rfl (fun _ => rfl) (S' := [(128, 1), (128, 2), (128, 3), (26, 0), (26, 1), (26, 2), (19, 1), (19, 2), (19, 3)]) (T' := []) rfl rfl
  repeat (refine ⟨by first | rfl | exact of_decide_eq_true rfl | exact ⟨of_decide_eq_true rfl, of_decide_eq_true rfl⟩, ?_⟩)
  intro m e
  obtain ⟨R4, D4, rfl, hR, hD⟩ := step_rf 128 1 130 hR hD e rfl rfl (of_decide_eq_true rfl) (S' := [(128, 2), (128, 3), (26, 0), (26, 1), (26, 2), (19, 1), (19, 2), (19, 3)]) rfl
  repeat (refine ⟨by first | rfl | exact of_decide_eq_true rfl | exact ⟨of_decide_eq_true rfl, of_decide_eq_true rfl⟩, ?_⟩)
  intro m e
  obtain ⟨R5, D5, rfl, hR, hD⟩ := step_nw 20 1000 hR hD e rfl rfl (fun _ => rfl) (S' := [(128, 2), (128, 3), (26, 0), (26, 1), (26, 2), (19, 1), (19, 2), (19, 3)]) (T' := []) rfl rfl
  repeat (refine ⟨by first | rfl | exact of_decide_eq_true rfl | exact ⟨of_decide_eq_true rfl, of_decide_eq_true rfl⟩, ?_⟩)
  intro m e
  obtain ⟨R6, D6, rfl, hR, hD⟩ := step_rf 128 2 131 hR hD e rfl rfl (of_decide_eq_true rfl) (S' := [(128, 3), (26, 0), (26, 1), (26, 2), (19, 1), (19, 2), (19, 3)]) rfl
  repeat (refine ⟨by first | rfl | exact of_decide_eq_true rfl | exact ⟨of_decide_eq_true rfl, of_decide_eq_true rfl⟩, ?_⟩)
  intro m e
  obtain ⟨R7, D7, rfl, hR, hD⟩ := step_nw 20 1000 hR hD e rfl rfl (fun _ => rfl) (S' := [(128, 3), (26, 0), (26, 1), (26, 2), (19, 1), (19, 2), (19, 3)]) (T' := []) rfl rfl
  repeat (refine ⟨by first | rfl | exact of_decide_eq_true rfl | exact ⟨of_decide_eq_true rfl, of_decide_eq_true rfl⟩, ?_⟩)
  intro m e
  obtain ⟨R8, D8, rfl, hR, hD⟩ := step_rf 128 3 132 hR hD e rfl rfl (of_decide_eq_true rfl) (S' := [(26, 0), (26, 1), (26, 2), (19, 1), (19, 2), (19, 3)]) rfl
  repeat (refine ⟨by first | rfl | exact of_decide_eq_true rfl | exact ⟨of_decide_eq_true rfl, of_decide_eq_true rfl⟩, ?_⟩)
  intro m e
  obtain ⟨R9, D9, rfl, hR, hD⟩ := step_nm 128 4 (0) hR hD e rfl rfl (T' := []) rfl
  repeat (refine ⟨by first | rfl | exact of_decide_eq_true rfl | exact ⟨of_decide_eq_true rfl, of_decide_eq_true rfl⟩, ?_⟩)
  intro m e
  obtain ⟨R10, D10, rfl, hR, hD⟩ := step_nm 128 5 (0) hR hD e rfl rfl (T' := []) rfl
  repeat (refine ⟨by first | rfl | exact of_decide_eq_true rfl | exact ⟨of_decide_eq_true rfl, of_decide_eq_true rfl⟩, ?_⟩)
  intro m e
  obtain ⟨R11, D11, rfl, hR, hD⟩ := step_nm 128 6 (0) hR hD e rfl rfl (T' := []) rfl
  first | exact ⟨rfl, _, _, rfl, hR, hD⟩ | exact ⟨rfl, ⟨_, _, rfl, hR, hD⟩⟩
theorem I_133 {d : Nat} {R : Nat → Int → Nat} {D B : DD} (hR : RI 134 [(133, 0), (133, 1), (133, 2), (133, 3), (26, 0), (26, 1), (26, 2), (19, 2), (19, 3)] R) (hD : DI (dS B) 134 [] D) : Cl (d) 4 4000 mX8_init [vr 133] (BM n1 134 R D) (KV (fun m => ∃ (R' : Nat → Int → Nat) (D' : DD), m = BM n1 138 R' D' ∧ RI 138 [(26, 0), (26, 1), (26, 2), (19, 2), (19, 3)] R' ∧ DI (dS B) 138 [] D')) := by
  refine Cl_of mb_X8_init (Nat.le_of_ble_eq_true rfl) (sg_X8_init_0 ?_)
  repeat (refine ⟨by first | rfl | exact of_decide_eq_true rfl | exact ⟨of_decide_eq_true rfl, of_decide_eq_true rfl⟩, ?_⟩)
  intro m e
  obtain ⟨R1, D1, rfl, hR, hD⟩ := step_nw 20 1000 hR hD e rfl rfl (fun _ => rfl) (S' := [(133, 0), (133, 1), (133, 2), (133, 3), (26, 0), (26, 1), (26, 2), (19, 2), (19, 3)]) (T' := []) rfl rfl
  repeat (refine ⟨by first | rfl | exact of_decide_eq_true rfl | exact ⟨of_decide_eq_true rfl, of_decide_eq_true rfl⟩, ?_⟩)
  intro m e
  obtain ⟨R2, D2, rfl, hR, hD⟩ := step_rf 133 0 134 hR hD e rfl rfl (of_decide_eq_true rfl) (S' := [(133, 1), (133, 2), (133, 3), (26, 0), (26, 1), (26, 2), (19, 2), (19, 3)]) rfl
  repeat (refine ⟨by first | rfl | exact of_decide_eq_true rfl | exact ⟨of_decide_eq_true rfl, of_decide_eq_true rfl⟩, ?_⟩)
  intro m e
  obtain ⟨R3, D3, rfl, hR, hD⟩ := step_nw 20 1000 hR hD e rfl rfl (fun _ => rfl) (S' := [(133, 1), (133, 2), (133, 3), (26, 0), (26, 1), (26, 2), (19, 2), (19, 3)]) (T' := []) rfl rfl
  repeat (refine ⟨by first | rfl | exact of_decide_eq_true rfl | exact ⟨of_decide_eq_true rfl, of_decide_eq_true rfl⟩, ?_⟩)
  intro m e
  obtain ⟨R4, D4, rfl, hR, hD⟩ := step_rf 133 1 135 hR hD e rfl rfl (of_decide_eq_true rfl) (S' := [(133, 2), (133, 3), (26, 0), (26, 1), (26, 2), (19, 2), (19, 3)]) rfl
  repeat (refine ⟨by first | rfl | exact of_decide_eq_true rfl | exact ⟨of_decide_eq_true rfl, of_decide_eq_true rfl⟩, ?_⟩)
  intro m e
  obtain ⟨R5, D5, rfl, hR, hD⟩ := step_nw 20 1000 hR hD e rfl rfl (fun _ => rfl) (S' := [(133, 2), (133, 3), (26, 0), (26, 1), (26, 2), (19, 2), (19, 3)]) (T' := []) rfl rfl
  repeat (refine ⟨by first | rfl | exact of_decide_eq_true rfl | exact ⟨of_decide_eq_true rfl, of_decide_eq_true rfl⟩, ?_⟩)
  intro m e
  obtain ⟨R6, D6, rfl, hR, hD⟩ := step_rf 133 2 136 hR hD e rfl rfl (of_decide_eq_true rfl) (S' := [(133, 3), (26, 0), (26, 1), (26, 2), (19, 2), (19, 3)]) rfl
  repeat (refine ⟨by first | rfl | exact of_decide_eq_true rfl | exact ⟨of_decide_eq_true rfl, of_decide_eq_true rfl⟩, ?_⟩)
  intro m e
  obtain ⟨R7, D7, rfl, hR, hD⟩ := step_nw 20 1000 hR hD e rfl rfl (fun _ => rfl) (S' := [(133, 3), (26, 0), (26, 1), (26, 2), (19, 2), (19, 3)]) (T' := []) rfl rfl
  repeat (refine ⟨by first | rfl | exact of_decide_eq_true rfl | exact ⟨of_decide_eq_true rfl, of_decide_eq_true rfl⟩, ?_⟩)
  intro m e
  obtain ⟨R8, D8, rfl, hR, hD⟩ := step_rf 133 3 137 hR hD e rfl rfl (of_decide_eq_true rfl) (S' := [(26, 0), (26, 1), (26, 2), (19, 2), (19, 3)]) rfl
  repeat (refine ⟨by first | rfl | exact of_decide_eq_true rfl | exact ⟨of_decide_eq_true rfl, of_decide_eq_true rfl⟩, ?_⟩)
  intro m e
  obtain ⟨R9, D9, rfl, hR, hD⟩ := step_nm 133 4 (0) hR hD e rfl rfl (T' := []) rfl
  repeat (refine ⟨by first | rfl | exact of_decide_eq_true rfl | exact ⟨of_decide_eq_true rfl, of_decide_eq_true rfl⟩, ?_⟩)
  intro m e
  obtain ⟨R10, D10, rfl, hR, hD⟩ := step_nm 133 5 (0) hR hD e rfl rfl (T' := []) rfl
  repeat (refine ⟨by first | rfl | exact of_decide_eq_true rfl | exact ⟨of_decide_eq_true rfl, of_decide_eq_true rfl⟩, ?_⟩)
  intro m e
  obtain ⟨R11, D11, rfl, hR, hD⟩ := step_nm 133 6 (0) hR hD e rfl rfl (T' := []) rfl
  first | exact ⟨rfl, _, _, rfl, hR, hD⟩ | exact ⟨rfl, ⟨_, _, rfl, hR, hD⟩⟩
theorem I_138 {d : Nat} {R : Nat → Int → Nat} {D B : DD} (hR : RI 139 [(138, 0), (138, 1), (138, 2), (138, 3), (26, 0), (26, 1), (26, 2), (19, 3)] R) (hD : DI (dS B) 139 [] D) : Cl (d) 4 4000 mX8_init [vr 138] (BM n1 139 R D) (KV (fun m => ∃ (R' : Nat → Int → Nat) (D' : DD), m = BM n1 143 R' D' ∧ RI 143 [(26, 0), (26, 1), (26, 2), (19, 3)] R' ∧ DI (dS B) 143 [] D')) := by
  refine Cl_of mb_X8_init (Nat.le_of_ble_eq_true rfl) (sg_X8_init_0 ?_)
  repeat (refine ⟨by first | rfl | exact of_decide_eq_true rfl | exact ⟨of_decide_eq_true rfl, of_decide_eq_true rfl⟩, ?_⟩)
  intro m e
  obtain ⟨R1, D1, rfl, hR, hD⟩ := step_nw 20 1000 hR hD e rfl rfl (fun _ => rfl) (S' := [(138, 0), (138, 1), (138, 2), (138, 3), (26, 0), (26, 1), (26, 2), (19, 3)]) (T' := []) rfl rfl
  repeat (refine ⟨by first | rfl | exact of_decide_eq_true rfl | exact ⟨of_decide_eq_true rfl, of_decide_eq_true rfl⟩, ?_⟩)
  intro m e
  obtain ⟨R2, D2, rfl, hR, hD⟩ := step_rf 138 0 139 hR hD e rfl rfl (of_decide_eq_true rfl) (S' := [(138, 1), (138, 2), (138, 3), (26, 0), (26, 1), (26, 2), (19, 3)]) rfl
  repeat (refine ⟨by first | rfl | exact of_decide_eq_true rfl | exact ⟨of_decide_eq_true rfl, of_decide_eq_true rfl⟩, ?_⟩)
  intro m e
  obtain ⟨R3, D3, rfl, hR, hD⟩ := step_nw 20 1000 hR hD e rfl rfl (fun _ => rfl) (S' := [(138, 1), (138, 2), (138, 3), (26, 0), (26, 1), (26, 2), (19, 3)]) (T' := []) rfl rfl
  repeat (refine ⟨by first | rfl | exact of_decide_eq_true rfl | exact ⟨of_decide_eq_true rfl, of_decide_eq_true rfl⟩, ?_⟩)
  intro m e
  obtain ⟨R4, D4, rfl, hR, hD⟩ := step_rf 138 1 140 hR hD e rfl rfl (of_decide_eq_true rfl) (S' := [(138, 2), (138, 3), (26, 0), (26, 1), (26, 2), (19, 3)]) rfl
  repeat (refine ⟨by first | rfl | exact of_decide_eq_true rfl | exact ⟨of_decide_eq_true rfl, of_decide_eq_true rfl⟩, ?_⟩)
  intro m e
  obtain ⟨R5, D5, rfl, hR, hD⟩ := step_nw 20 1000 hR hD e rfl rfl (fun _ => rfl) (S' := [(138, 2), (138, 3), (26, 0), (26, 1), (26, 2), (19, 3)]) (T' := []) rfl rfl
  repeat (refine ⟨by first | rfl | exact of_decide_eq_true rfl | exact ⟨of_decide_eq_true rfl, of_decide_eq_true rfl⟩, ?_⟩)
  intro m e
  obtain ⟨R6, D6, rfl, hR, hD⟩ := step_rf 138 2 141 hR hD e rfl rfl (of_decide_eq_true rfl) (S' := [(138, 3), (26, 0), (26, 1), (26, 2), (19, 3)]) rfl
  repeat (refine ⟨by first | rfl | exact of_decide_eq_true rfl | exact ⟨of_decide_eq_true rfl, of_decide_eq_true rfl⟩, ?_⟩)
  intro m e
  obtain ⟨R7, D7, rfl, hR, hD⟩ := step_nw 20 1000 hR hD e rfl rfl (fun _ => rfl) (S' := [(138, 3), (26, 0), (26, 1), (26, 2), (19, 3)]) (T' := []) rfl rfl
  repeat (refine ⟨by first | rfl | exact of_decide_eq_true rfl | exact ⟨of_decide_eq_true rfl, of_decide_eq_true rfl⟩, ?_⟩)
  intro m e
  obtain ⟨R8, D8, rfl, hR, hD⟩ := step_rf 138 3 142 hR hD e rfl rfl (of_decide_eq_true rfl) (S' := [(26, 0), (26, 1), (26, 2), (19, 3)]) rfl
  repeat (refine ⟨by first | rfl | exact of_decide_eq_true rfl | exact ⟨of_decide_eq_true rfl, of_decide_eq_true rfl⟩, ?_⟩)
  intro m e
  obtain ⟨R9, D9, rfl, hR, hD⟩ := step_nm 138 4 (0) hR hD e rfl rfl (T' := []) rfl
  repeat (refine ⟨by first | rfl | exact of_decide_eq_true rfl | exact ⟨of_decide_eq_true rfl, of_decide_eq_true rfl⟩, ?_⟩)
  intro m e
  obtain ⟨R10, D10, rfl, hR, hD⟩ := step_nm 138 5 (0) hR hD e rfl rfl (T' := []) rfl
  repeat (refine ⟨by first | rfl | exact of_decide_eq_true rfl | exact ⟨of_decide_eq_true rfl, of_decide_eq_true rfl⟩, ?_⟩)
  intro m e
  obtain ⟨R11, D11, rfl, hR, hD⟩ := step_nm 138 6 (0) hR hD e rfl rfl (T' := []) rfl
  first | exact ⟨rfl, _, _, rfl, hR, hD⟩ | exact ⟨rfl, ⟨_, _, rfl, hR, hD⟩⟩
theorem I_143 {d : Nat} {R : Nat → Int → Nat} {D B : DD} (hR : RI 144 [(143, 0), (143, 1), (26, 0), (26, 1), (26, 2)] R) (hD : DI (dS B) 144 [] D) : Cl (d) 2 80 mX2_init [vr 143] (BM n1 144 R D) (KV (fun m => ∃ (R' : Nat → Int → Nat) (D' : DD), m = BM n1 146 R' D' ∧ RI 146 [(26, 0), (26, 1), (26, 2)] R' ∧ DI (dS B) 146 [] D')) := by
  refine Cl_of mb_X2_init (Nat.le_of_ble_eq_true rfl) (sg_X2_init_0 ?_)
  repeat (refine ⟨by first | rfl | exact of_decide_eq_true rfl | exact ⟨of_decide_eq_true rfl, of_decide_eq_true rfl⟩, ?_⟩)
  intro m e
  obtain ⟨R1, D1, rfl, hR, hD⟩ := step_nw 20 40 hR hD e rfl rfl (fun _ => rfl) (S' := [(143, 0), (143, 1), (26, 0), (26, 1), (26, 2)]) (T' := []) rfl rfl
  repeat (refine ⟨by first | rfl | exact of_decide_eq_true rfl | exact ⟨of_decide_eq_true rfl, of_decide_eq_true rfl⟩, ?_⟩)
  intro m e
  obtain ⟨R2, D2, rfl, hR, hD⟩ := step_rf 143 0 144 hR hD e rfl rfl (of_decide_eq_true rfl) (S' := [(143, 1), (26, 0), (26, 1), (26, 2)]) rfl
  repeat (refine ⟨by first | rfl | exact of_decide_eq_true rfl | exact ⟨of_decide_eq_true rfl, of_decide_eq_true rfl⟩, ?_⟩)
  intro m e
  obtain ⟨R3, D3, rfl, hR, hD⟩ := step_nw 20 40 hR hD e rfl rfl (fun _ => rfl) (S' := [(143, 1), (26, 0), (26, 1), (26, 2)]) (T' := []) rfl rfl
  repeat (refine ⟨by first | rfl | exact of_decide_eq_true rfl | exact ⟨of_decide_eq_true rfl, of_decide_eq_true rfl⟩, ?_⟩)
  intro m e
  obtain ⟨R4, D4, rfl, hR, hD⟩ := step_rf 143 1 145 hR hD e rfl rfl (of_decide_eq_true rfl) (S' := [(26, 0), (26, 1), (26, 2)]) rfl
  repeat (refine ⟨by first | rfl | exact of_decide_eq_true rfl | exact ⟨of_decide_eq_true rfl, of_decide_eq_true rfl⟩, ?_⟩)
  intro m e
  obtain ⟨R5, D5, rfl, hR, hD⟩ := step_nm 143 2 (0) hR hD e rfl rfl (T' := []) rfl
  first | exact ⟨rfl, _, _, rfl, hR, hD⟩ | exact ⟨rfl, ⟨_, _, rfl, hR, hD⟩⟩
theorem I_146 {d : Nat} {R : Nat → Int → Nat} {D B : DD} (hR : RI 147 [(146, 0), (146, 1), (26, 1), (26, 2)] R) (hD : DI (dS B) 147 [] D) : Cl (d) 2 80 mX2_init [vr 146] (BM n1 147 R D) (KV (fun m => ∃ (R' : Nat → Int → Nat) (D' : DD), m = BM n1 149 R' D' ∧ RI 149 [(26, 1), (26, 2)] R' ∧ DI (dS B) 149 [] D')) := by
  refine Cl_of mb_X2_init (Nat.le_of_ble_eq_true rfl) (sg_X2_init_0 ?_)
  repeat (refine ⟨by first | rfl | exact of_decide_eq_true rfl | exact ⟨of_decide_eq_true rfl, of_decide_eq_true rfl⟩, ?_⟩)
  intro m e
  obtain ⟨R1, D1, rfl, hR, hD⟩ := step_nw 20 40 hR hD e rfl rfl (fun _ => rfl) (S' := [(146, 0), (146, 1), (26, 1), (26, 2)]) (T' := []) rfl rfl
  repeat (refine ⟨by first | rfl | exact of_decide_eq_true rfl | exact ⟨of_decide_eq_true rfl, of_decide_eq_true rfl⟩, ?_⟩)
  intro m e
  obtain ⟨R2, D2, rfl, hR, hD⟩ := step_rf 146 0 147 hR hD e rfl rfl (of_decide_eq_true rfl) (S' := [(146, 1), (26, 1), (26, 2)]) rfl
  repeat (refine ⟨by first | rfl | exact of_decide_eq_true rfl | exact ⟨of_decide_eq_true rfl, of_decide_eq_true rfl⟩, ?_⟩)
  intro m e
  obtain ⟨R3, D3, rfl, hR, hD⟩ := step_nw 20 40 hR hD e rfl rfl (fun _ => rfl) (S' := [(146, 1), (26, 1), (26, 2)]) (T' := []) rfl rfl
  repeat (refine ⟨by first | rfl | exact of_decide_eq_true rfl | exact ⟨of_decide_eq_true rfl, of_decide_eq_true rfl⟩, ?_⟩)
  intro m e
  obtain ⟨R4, D4, rfl, hR, hD⟩ := step_rf 146 1 148 hR hD e rfl rfl (of_decide_eq_true rfl) (S' := [(26, 1), (26, 2)]) rfl
  repeat (refine ⟨by first | rfl | exact of_decide_eq_true rfl | exact ⟨of_decide_eq_true rfl, of_decide_eq_true rfl⟩, ?_⟩)
  intro m e
  obtain ⟨R5, D5, rfl, hR, hD⟩ := step_nm 146 2 (0) hR hD e rfl rfl (T' := []) rfl
  first | exact ⟨rfl, _, _, rfl, hR, hD⟩ | exact ⟨rfl, ⟨_, _, rfl, hR, hD⟩⟩
theorem I_149 {d : Nat} {R : Nat → Int → Nat} {D B : DD} (hR : RI 150 [(149, 0), (149, 1), (26, 2)] R) (hD : DI (dS B) 150 [] D) : Cl (d) 2 80 mX2_init [vr 149] (BM n1 150 R D) (KV (fun m => ∃ (R' : Nat → Int → Nat) (D' : DD), m = BM n1 152 R' D' ∧ RI 152 [(26, 2)] R' ∧ DI (dS B) 152 [] D')) := by
  refine Cl_of mb_X2_init (Nat.le_of_ble_eq_true rfl) (sg_X2_init_0 ?_)
  repeat (refine ⟨by first | rfl | exact of_decide_eq_true rfl | exact ⟨of_decide_eq_true rfl, of_decide_eq_true rfl⟩, ?_⟩)
  intro m e
  obtain ⟨R1, D1, rfl, hR, hD⟩ := step_nw 20 40 hR hD e rfl rfl (fun _ => rfl) (S' := [(149, 0), (149, 1), (26, 2)]) (T' := []) rfl rfl
  repeat (refine ⟨by first | rfl | exact of_decide_eq_true rfl | exact ⟨of_decide_eq_true rfl, of_decide_eq_true rfl⟩, ?_⟩)
  intro m e
  obtain ⟨R2, D2, rfl, hR, hD⟩ := step_rf 149 0 150 hR hD e rfl rfl (of_decide_eq_true rfl) (S' := [(149, 1), (26, 2)]) rfl
  repeat (refine ⟨by first | rfl | exact of_decide_eq_true rfl | exact ⟨of_decide_eq_true rfl, of_decide_eq_true rfl⟩, ?_⟩)
  intro m e
  obtain ⟨R3, D3, rfl, hR, hD⟩ := step_nw 20 40 hR hD e rfl rfl (fun _ => rfl) (S' := [(149, 1), (26, 2)]) (T' := []) rfl rfl
  repeat (refine ⟨by first | rfl | exact of_decide_eq_true rfl | exact ⟨of_decide_eq_true rfl, of_decide_eq_true rfl⟩, ?_⟩)
  intro m e
  obtain ⟨R4, D4, rfl, hR, hD⟩ := step_rf 149 1 151 hR hD e rfl rfl (of_decide_eq_true rfl) (S' := [(26, 2)]) rfl
  repeat (refine ⟨by first | rfl | exact of_decide_eq_true rfl | exact ⟨of_decide_eq_true rfl, of_decide_eq_true rfl⟩, ?_⟩)
  intro m e
  obtain ⟨R5, D5, rfl, hR, hD⟩ := step_nm 149 2 (0) hR hD e rfl rfl (T' := []) rfl
  first | exact ⟨rfl, _, _, rfl, hR, hD⟩ | exact ⟨rfl, ⟨_, _, rfl, hR, hD⟩⟩
theorem I_4 {d : Nat} {R : Nat → Int → Nat} {D B : DD} (hR : RI 5 [(4, 0), (4, 1), (4, 2), (4, 4), (4, 5), (4, 6), (4, 7), (4, 8), (4, 9), (4, 10), (4, 11), (4, 12), (4, 14), (4, 15)] R) (hD : DI (dS B) 5 [] D) : Cl (d + 3) 147 24259 mX9_init [vr 4] (BM n1 5 R D) (KV (fun m => ∃ (R' : Nat → Int → Nat) (D0 D' : DD), m = BM n1 152 R' D' ∧ RI 152 [] R' ∧ DI (dS B) 152 [] D0 ∧ Fr (fun q _ => 8 ≤ q ∧ q ≤ 15) D0 D' ∧ stv D' 8 = zfresh (cupv D0 5) (stv D0 8))) := by
  refine Cl_of mb_X9_init (Nat.le_of_ble_eq_true rfl) (sg_X9_init_0 (d := d + 2) ?_)
  repeat (refine ⟨by first | rfl | exact of_decide_eq_true rfl | exact ⟨of_decide_eq_true rfl, of_decide_eq_true rfl⟩, ?_⟩)
  intro m e
  obtain ⟨R1, D1, rfl, hR, hD⟩ := step_nw 1 0 hR hD e rfl rfl (fun _ => rfl) (S' := [(5, 3), (5, 4), (4, 0), (4, 1), (4, 2), (4, 4), (4, 5), (4, 6), (4, 7), (4, 8), (4, 9), (4, 10), (4, 11), (4, 12), (4, 14), (4, 15)]) (T' := [(5, 0), (5, 1), (5, 2)]) rfl rfl
  repeat (refine ⟨by first | rfl | exact of_decide_eq_true rfl | exact ⟨of_decide_eq_true rfl, of_decide_eq_true rfl⟩, ?_⟩)
  refine ⟨2, 27, _, I_5 (d := d + 1) hR hD, ?_⟩
  repeat (refine ⟨by first | rfl | exact of_decide_eq_true rfl | exact ⟨of_decide_eq_true rfl, of_decide_eq_true rfl⟩, ?_⟩)
  intro m e
  obtain ⟨R2, D2, rfl, hR, hD⟩ := e
  repeat (refine ⟨by first | rfl | exact of_decide_eq_true rfl | exact ⟨of_decide_eq_true rfl, of_decide_eq_true rfl⟩, ?_⟩)
  intro m e
  obtain ⟨R3, D3, rfl, hR, hD⟩ := step_rf 4 0 5 hR hD e rfl rfl (of_decide_eq_true rfl) (S' := [(4, 1), (4, 2), (4, 4), (4, 5), (4, 6), (4, 7), (4, 8), (4, 9), (4, 10), (4, 11), (4, 12), (4, 14), (4, 15)]) rfl
  repeat (refine ⟨by first | rfl | exact of_decide_eq_true rfl | exact ⟨of_decide_eq_true rfl, of_decide_eq_true rfl⟩, ?_⟩)
  intro m e
  obtain ⟨R4, D4, rfl, hR, hD⟩ := step_nw 6 0 hR hD e rfl rfl (fun _ => rfl) (S' := [(8, 2), (8, 3), (8, 4), (4, 1), (4, 2), (4, 4), (4, 5), (4, 6), (4, 7), (4, 8), (4, 9), (4, 10), (4, 11), (4, 12), (4, 14), (4, 15)]) (T' := [(8, 1)]) rfl rfl
  repeat (refine ⟨by first | rfl | exact of_decide_eq_true rfl | exact ⟨of_decide_eq_true rfl, of_decide_eq_true rfl⟩, ?_⟩)
  refine ⟨7, 107, _, I_8 (d := d + 1) hR hD, ?_⟩
  repeat (refine ⟨by first | rfl | exact of_decide_eq_true rfl | exact ⟨of_decide_eq_true rfl, of_decide_eq_true rfl⟩, ?_⟩)
  intro m e
  obtain ⟨R5, D5, rfl, hR, hD⟩ := e
  repeat (refine ⟨by first | rfl | exact of_decide_eq_true rfl | exact ⟨of_decide_eq_true rfl, of_decide_eq_true rfl⟩, ?_⟩)
  intro m e
  obtain ⟨R6, D6, rfl, hR, hD⟩ := step_rf 4 1 8 hR hD e rfl rfl (of_decide_eq_true rfl) (S' := [(4, 2), (4, 4), (4, 5), (4, 6), (4, 7), (4, 8), (4, 9), (4, 10), (4, 11), (4, 12), (4, 14), (4, 15)]) rfl
  repeat (refine ⟨by first | rfl | exact of_decide_eq_true rfl | exact ⟨of_decide_eq_true rfl, of_decide_eq_true rfl⟩, ?_⟩)
  intro m e
  obtain ⟨R7, D7, rfl, hR, hD⟩ := step_nw 25 3 hR hD e rfl rfl (fun _ => rfl) (S' := [(16, 0), (16, 1), (16, 2), (4, 2), (4, 4), (4, 5), (4, 6), (4, 7), (4, 8), (4, 9), (4, 10), (4, 11), (4, 12), (4, 14), (4, 15)]) (T' := []) rfl rfl
  repeat (refine ⟨by first | rfl | exact of_decide_eq_true rfl | exact ⟨of_decide_eq_true rfl, of_decide_eq_true rfl⟩, ?_⟩)
  intro m e
  obtain ⟨R8, D8, rfl, hR, hD⟩ := step_rf 4 2 16 hR hD e rfl rfl (of_decide_eq_true rfl) (S' := [(16, 0), (16, 1), (16, 2), (4, 4), (4, 5), (4, 6), (4, 7), (4, 8), (4, 9), (4, 10), (4, 11), (4, 12), (4, 14), (4, 15)]) rfl
  repeat (refine ⟨by first | rfl | exact of_decide_eq_true rfl | exact ⟨of_decide_eq_true rfl, of_decide_eq_true rfl⟩, ?_⟩)
  intro m e
  obtain ⟨R9, D9, rfl, hR, hD⟩ := step_nm 4 3 (0) hR hD e rfl rfl (T' := []) rfl
  repeat (refine ⟨by first | rfl | exact of_decide_eq_true rfl | exact ⟨of_decide_eq_true rfl, of_decide_eq_true rfl⟩, ?_⟩)
  intro m e
  obtain ⟨R10, D10, rfl, hR, hD⟩ := step_nw 7 0 hR hD e rfl rfl (fun _ => rfl) (S' := [(17, 0), (16, 0), (16, 1), (16, 2), (4, 4), (4, 5), (4, 6), (4, 7), (4, 8), (4, 9), (4, 10), (4, 11), (4, 12), (4, 14), (4, 15)]) (T' := [(17, 4)]) rfl rfl
  repeat (refine ⟨by first | rfl | exact of_decide_eq_true rfl | exact ⟨of_decide_eq_true rfl, of_decide_eq_true rfl⟩, ?_⟩)
  refine ⟨1, 80, _, I_17 (d := d + 2) hR hD, ?_⟩
  repeat (refine ⟨by first | rfl | exact of_decide_eq_true rfl | exact ⟨of_decide_eq_true rfl, of_decide_eq_true rfl⟩, ?_⟩)
  intro m e
  obtain ⟨R11, D11, rfl, hR, hD⟩ := e
  repeat (refine ⟨by first | rfl | exact of_decide_eq_true rfl | exact ⟨of_decide_eq_true rfl, of_decide_eq_true rfl⟩, ?_⟩)
  intro m e
  obtain ⟨R12, D12, rfl, hR, hD⟩ := step_rf 4 4 17 hR hD e rfl rfl (of_decide_eq_true rfl) (S' := [(16, 0), (16, 1), (16, 2), (4, 5), (4, 6), (4, 7), (4, 8), (4, 9), (4, 10), (4, 11), (4, 12), (4, 14), (4, 15)]) rfl
  repeat (refine ⟨by first | rfl | exact of_decide_eq_true rfl | exact ⟨of_decide_eq_true rfl, of_decide_eq_true rfl⟩, ?_⟩)
  intro m e
  obtain ⟨R13, D13, rfl, hR, hD⟩ := step_nw 26 4 hR hD e rfl rfl (fun _ => rfl) (S' := [(19, 0), (19, 1), (19, 2), (19, 3), (16, 0), (16, 1), (16, 2), (4, 5), (4, 6), (4, 7), (4, 8), (4, 9), (4, 10), (4, 11), (4, 12), (4, 14), (4, 15)]) (T' := []) rfl rfl
  repeat (refine ⟨by first | rfl | exact of_decide_eq_true rfl | exact ⟨of_decide_eq_true rfl, of_decide_eq_true rfl⟩, ?_⟩)
  intro m e
  obtain ⟨R14, D14, rfl, hR, hD⟩ := step_rf 4 5 19 hR hD e rfl rfl (of_decide_eq_true rfl) (S' := [(19, 0), (19, 1), (19, 2), (19, 3), (16, 0), (16, 1), (16, 2), (4, 6), (4, 7), (4, 8), (4, 9), (4, 10), (4, 11), (4, 12), (4, 14), (4, 15)]) rfl
  repeat (refine ⟨by first | rfl | exact of_decide_eq_true rfl | exact ⟨of_decide_eq_true rfl, of_decide_eq_true rfl⟩, ?_⟩)
  intro m e
  obtain ⟨R15, D15, rfl, hR, hD⟩ := step_nw 20 4 hR hD e rfl rfl (fun _ => rfl) (S' := [(19, 0), (19, 1), (19, 2), (19, 3), (16, 0), (16, 1), (16, 2), (4, 6), (4, 7), (4, 8), (4, 9), (4, 10), (4, 11), (4, 12), (4, 14), (4, 15)]) (T' := []) rfl rfl
  repeat (refine ⟨by first | rfl | exact of_decide_eq_true rfl | exact ⟨of_decide_eq_true rfl, of_decide_eq_true rfl⟩, ?_⟩)
  intro m e
  obtain ⟨R16, D16, rfl, hR, hD⟩ := step_rf 4 6 20 hR hD e rfl rfl (of_decide_eq_true rfl) (S' := [(19, 0), (19, 1), (19, 2), (19, 3), (16, 0), (16, 1), (16, 2), (4, 7), (4, 8), (4, 9), (4, 10), (4, 11), (4, 12), (4, 14), (4, 15)]) rfl
  repeat (refine ⟨by first | rfl | exact of_decide_eq_true rfl | exact ⟨of_decide_eq_true rfl, of_decide_eq_true rfl⟩, ?_⟩)
  intro m e
  obtain ⟨R17, D17, rfl, hR, hD⟩ := step_nw 9 0 hR hD e rfl rfl (fun _ => rfl) (S' := [(21, 0), (21, 1), (21, 2), (21, 3), (19, 0), (19, 1), (19, 2), (19, 3), (16, 0), (16, 1), (16, 2), (4, 7), (4, 8), (4, 9), (4, 10), (4, 11), (4, 12), (4, 14), (4, 15)]) (T' := []) rfl rfl
  repeat (refine ⟨by first | rfl | exact of_decide_eq_true rfl | exact ⟨of_decide_eq_true rfl, of_decide_eq_true rfl⟩, ?_⟩)
  refine ⟨4, 4000, _, I_21 (d := d + 2) hR hD, ?_⟩
  repeat (refine ⟨by first | rfl | exact of_decide_eq_true rfl | exact ⟨of_decide_eq_true rfl, of_decide_eq_true rfl⟩, ?_⟩)
  intro m e
  obtain ⟨R18, D18, rfl, hR, hD⟩ := e
  repeat (refine ⟨by first | rfl | exact of_decide_eq_true rfl | exact ⟨of_decide_eq_true rfl, of_decide_eq_true rfl⟩, ?_⟩)
  intro m e
  obtain ⟨R19, D19, rfl, hR, hD⟩ := step_rf 4 7 21 hR hD e rfl rfl (of_decide_eq_true rfl) (S' := [(19, 0), (19, 1), (19, 2), (19, 3), (16, 0), (16, 1), (16, 2), (4, 8), (4, 9), (4, 10), (4, 11), (4, 12), (4, 14), (4, 15)]) rfl
  repeat (refine ⟨by first | rfl | exact of_decide_eq_true rfl | exact ⟨of_decide_eq_true rfl, of_decide_eq_true rfl⟩, ?_⟩)
  intro m e
  obtain ⟨R20, D20, rfl, hR, hD⟩ := step_nw 27 3 hR hD e rfl rfl (fun _ => rfl) (S' := [(26, 0), (26, 1), (26, 2), (19, 0), (19, 1), (19, 2), (19, 3), (16, 0), (16, 1), (16, 2), (4, 8), (4, 9), (4, 10), (4, 11), (4, 12), (4, 14), (4, 15)]) (T' := []) rfl rfl
  repeat (refine ⟨by first | rfl | exact of_decide_eq_true rfl | exact ⟨of_decide_eq_true rfl, of_decide_eq_true rfl⟩, ?_⟩)
  intro m e
  obtain ⟨R21, D21, rfl, hR, hD⟩ := step_rf 4 8 26 hR hD e rfl rfl (of_decide_eq_true rfl) (S' := [(26, 0), (26, 1), (26, 2), (19, 0), (19, 1), (19, 2), (19, 3), (16, 0), (16, 1), (16, 2), (4, 9), (4, 10), (4, 11), (4, 12), (4, 14), (4, 15)]) rfl
  repeat (refine ⟨by first | rfl | exact of_decide_eq_true rfl | exact ⟨of_decide_eq_true rfl, of_decide_eq_true rfl⟩, ?_⟩)
  intro m e
  obtain ⟨R22, D22, rfl, hR, hD⟩ := step_nw 3 0 hR hD e rfl rfl (fun _ => rfl) (S' := [(27, 0), (27, 1), (26, 0), (26, 1), (26, 2), (19, 0), (19, 1), (19, 2), (19, 3), (16, 0), (16, 1), (16, 2), (4, 9), (4, 10), (4, 11), (4, 12), (4, 14), (4, 15)]) (T' := []) rfl rfl
  repeat (refine ⟨by first | rfl | exact of_decide_eq_true rfl | exact ⟨of_decide_eq_true rfl, of_decide_eq_true rfl⟩, ?_⟩)
  refine ⟨2, 80, _, I_27 (d := d + 2) hR hD, ?_⟩
  repeat (refine ⟨by first | rfl | exact of_decide_eq_true rfl | exact ⟨of_decide_eq_true rfl, of_decide_eq_true rfl⟩, ?_⟩)
  intro m e
  obtain ⟨R23, D23, rfl, hR, hD⟩ := e
  repeat (refine ⟨by first | rfl | exact of_decide_eq_true rfl | exact ⟨of_decide_eq_true rfl, of_decide_eq_true rfl⟩, ?_⟩)
  intro m e
  obtain ⟨R24, D24, rfl, hR, hD⟩ := step_rf 4 9 27 hR hD e rfl rfl (of_decide_eq_true rfl) (S' := [(26, 0), (26, 1), (26, 2), (19, 0), (19, 1), (19, 2), (19, 3), (16, 0), (16, 1), (16, 2), (4, 10), (4, 11), (4, 12), (4, 14), (4, 15)]) rfl
  repeat (refine ⟨by first | rfl | exact of_decide_eq_true rfl | exact ⟨of_decide_eq_true rfl, of_decide_eq_true rfl⟩, ?_⟩)
  intro m e
  obtain ⟨R25, D25, rfl, hR, hD⟩ := step_nw 8 0 hR hD e rfl rfl (fun _ => rfl) (S' := [(30, 0), (30, 2), (30, 8), (30, 10), (30, 11), (26, 0), (26, 1), (26, 2), (19, 0), (19, 1), (19, 2), (19, 3), (16, 0), (16, 1), (16, 2), (4, 10), (4, 11), (4, 12), (4, 14), (4, 15)]) (T' := [(30, 5)]) rfl rfl
  repeat (refine ⟨by first | rfl | exact of_decide_eq_true rfl | exact ⟨of_decide_eq_true rfl, of_decide_eq_true rfl⟩, ?_⟩)
  refine ⟨14, 2585, _, I_30 (d := d) hR hD, ?_⟩
  repeat (refine ⟨by first | rfl | exact of_decide_eq_true rfl | exact ⟨of_decide_eq_true rfl, of_decide_eq_true rfl⟩, ?_⟩)
  intro m e
  obtain ⟨R26, D26, rfl, hR, hD⟩ := e
  repeat (refine ⟨by first | rfl | exact of_decide_eq_true rfl | exact ⟨of_decide_eq_true rfl, of_decide_eq_true rfl⟩, ?_⟩)
  intro m e
  obtain ⟨R27, D27, rfl, hR, hD⟩ := step_rf 4 10 30 hR hD e rfl rfl (of_decide_eq_true rfl) (S' := [(26, 0), (26, 1), (26, 2), (19, 0), (19, 1), (19, 2), (19, 3), (16, 0), (16, 1), (16, 2), (4, 11), (4, 12), (4, 14), (4, 15)]) rfl
  repeat (refine ⟨by first | rfl | exact of_decide_eq_true rfl | exact ⟨of_decide_eq_true rfl, of_decide_eq_true rfl⟩, ?_⟩)
  intro m e
  obtain ⟨R28, D28, rfl, hR, hD⟩ := step_nw 4 0 hR hD e rfl rfl (fun _ => rfl) (S' := [(45, 0), (45, 2), (45, 3), (45, 5), (26, 0), (26, 1), (26, 2), (19, 0), (19, 1), (19, 2), (19, 3), (16, 0), (16, 1), (16, 2), (4, 11), (4, 12), (4, 14), (4, 15)]) (T' := []) rfl rfl
  repeat (refine ⟨by first | rfl | exact of_decide_eq_true rfl | exact ⟨of_decide_eq_true rfl, of_decide_eq_true rfl⟩, ?_⟩)
  refine ⟨46, 605, _, I_45 (d := d) hR hD, ?_⟩
  repeat (refine ⟨by first | rfl | exact of_decide_eq_true rfl | exact ⟨of_decide_eq_true rfl, of_decide_eq_true rfl⟩, ?_⟩)
  intro m e
  obtain ⟨R29, D29, rfl, hR, hD⟩ := e
  repeat (refine ⟨by first | rfl | exact of_decide_eq_true rfl | exact ⟨of_decide_eq_true rfl, of_decide_eq_true rfl⟩, ?_⟩)
  intro m e
  obtain ⟨R30, D30, rfl, hR, hD⟩ := step_rf 4 11 45 hR hD e rfl rfl (of_decide_eq_true rfl) (S' := [(26, 0), (26, 1), (26, 2), (19, 0), (19, 1), (19, 2), (19, 3), (16, 0), (16, 1), (16, 2), (4, 12), (4, 14), (4, 15)]) rfl
  repeat (refine ⟨by first | rfl | exact of_decide_eq_true rfl | exact ⟨of_decide_eq_true rfl, of_decide_eq_true rfl⟩, ?_⟩)
  intro m e
  obtain ⟨R31, D31, rfl, hR, hD⟩ := step_nw 20 12 hR hD e rfl rfl (fun _ => rfl) (S' := [(26, 0), (26, 1), (26, 2), (19, 0), (19, 1), (19, 2), (19, 3), (16, 0), (16, 1), (16, 2), (4, 12), (4, 14), (4, 15)]) (T' := []) rfl rfl
  repeat (refine ⟨by first | rfl | exact of_decide_eq_true rfl | exact ⟨of_decide_eq_true rfl, of_decide_eq_true rfl⟩, ?_⟩)
  intro m e
  obtain ⟨R32, D32, rfl, hR, hD⟩ := step_rf 4 12 92 hR hD e rfl rfl (of_decide_eq_true rfl) (S' := [(26, 0), (26, 1), (26, 2), (19, 0), (19, 1), (19, 2), (19, 3), (16, 0), (16, 1), (16, 2), (4, 14), (4, 15)]) rfl
  repeat (refine ⟨by first | rfl | exact of_decide_eq_true rfl | exact ⟨of_decide_eq_true rfl, of_decide_eq_true rfl⟩, ?_⟩)
  intro m e
  obtain ⟨R33, D33, rfl, hR, hD⟩ := step_nm 4 13 (0) hR hD e rfl rfl (T' := []) rfl
  repeat (refine ⟨by first | rfl | exact of_decide_eq_true rfl | exact ⟨of_decide_eq_true rfl, of_decide_eq_true rfl⟩, ?_⟩)
  intro m e
  obtain ⟨R34, D34, rfl, hR, hD⟩ := step_nw 2 0 hR hD e rfl rfl (fun _ => rfl) (S' := [(93, 0), (93, 1), (93, 2), (93, 3), (26, 0), (26, 1), (26, 2), (19, 0), (19, 1), (19, 2), (19, 3), (16, 0), (16, 1), (16, 2), (4, 14), (4, 15)]) (T' := []) rfl rfl
  repeat (refine ⟨by first | rfl | exact of_decide_eq_true rfl | exact ⟨of_decide_eq_true rfl, of_decide_eq_true rfl⟩, ?_⟩)
  refine ⟨4, 80, _, I_93 (d := d + 2) hR hD, ?_⟩
  repeat (refine ⟨by first | rfl | exact of_decide_eq_true rfl | exact ⟨of_decide_eq_true rfl, of_decide_eq_true rfl⟩, ?_⟩)
  intro m e
  obtain ⟨R35, D35, rfl, hR, hD⟩ := e
  repeat (refine ⟨by first | rfl | exact of_decide_eq_true rfl | exact ⟨of_decide_eq_true rfl, of_decide_eq_true rfl⟩, ?_⟩)
  intro m e
  obtain ⟨R36, D36, rfl, hR, hD⟩ := step_rf 4 14 93 hR hD e rfl rfl (of_decide_eq_true rfl) (S' := [(26, 0), (26, 1), (26, 2), (19, 0), (19, 1), (19, 2), (19, 3), (16, 0), (16, 1), (16, 2), (4, 15)]) rfl
  repeat (refine ⟨by first | rfl | exact of_decide_eq_true rfl | exact ⟨of_decide_eq_true rfl, of_decide_eq_true rfl⟩, ?_⟩)
  intro m e
  obtain ⟨R37, D37, rfl, hR, hD⟩ := step_nw 21 4 hR hD e rfl rfl (fun _ => rfl) (S' := [(26, 0), (26, 1), (26, 2), (19, 0), (19, 1), (19, 2), (19, 3), (16, 0), (16, 1), (16, 2), (4, 15)]) (T' := []) rfl rfl
  repeat (refine ⟨by first | rfl | exact of_decide_eq_true rfl | exact ⟨of_decide_eq_true rfl, of_decide_eq_true rfl⟩, ?_⟩)
  intro m e
  obtain ⟨R38, D38, rfl, hR, hD⟩ := step_rf 4 15 98 hR hD e rfl rfl (of_decide_eq_true rfl) (S' := [(26, 0), (26, 1), (26, 2), (19, 0), (19, 1), (19, 2), (19, 3), (16, 0), (16, 1), (16, 2)]) rfl
  repeat (refine ⟨by first | rfl | exact of_decide_eq_true rfl | exact ⟨of_decide_eq_true rfl, of_decide_eq_true rfl⟩, ?_⟩)
  intro m e
  obtain ⟨R39, D39, rfl, hR, hD⟩ := step_nm 4 16 (0) hR hD e rfl rfl (T' := []) rfl
  refine sg_X9_init_155 (d := d + 2) ?_
  rw [show mR (BM n1 99 R39 D39) 4 2 = 16 from hR.at 4 2 (of_decide_eq_true rfl) (by decide)]
  refine ⟨fun c => absurd c (of_decide_eq_true rfl), fun _ => ?_⟩
  repeat (refine ⟨by first | rfl | exact of_decide_eq_true rfl | exact ⟨of_decide_eq_true rfl, of_decide_eq_true rfl⟩, ?_⟩)
  intro m e
  obtain ⟨R40, D40, rfl, hR, hD⟩ := step_nw 6 0 hR hD e rfl rfl (fun _ => rfl) (S' := [(99, 2), (99, 3), (99, 4), (26, 0), (26, 1), (26, 2), (19, 0), (19, 1), (19, 2), (19, 3), (16, 0), (16, 1), (16, 2)]) (T' := [(99, 1)]) rfl rfl
  repeat (refine ⟨by first | rfl | exact of_decide_eq_true rfl | exact ⟨of_decide_eq_true rfl, of_decide_eq_true rfl⟩, ?_⟩)
  refine ⟨7, 107, _, I_99 (d := d + 1) hR hD, ?_⟩
  repeat (refine ⟨by first | rfl | exact of_decide_eq_true rfl | exact ⟨of_decide_eq_true rfl, of_decide_eq_true rfl⟩, ?_⟩)
  intro m e
  obtain ⟨R41, D41, rfl, hR, hD⟩ := e
  repeat (refine ⟨by first | rfl | exact of_decide_eq_true rfl | exact ⟨of_decide_eq_true rfl, of_decide_eq_true rfl⟩, ?_⟩)
  intro m e
  obtain ⟨R42, D42, rfl, hR, hD⟩ := step_rf 16 0 99 hR hD e rfl rfl (of_decide_eq_true rfl) (S' := [(26, 0), (26, 1), (26, 2), (19, 0), (19, 1), (19, 2), (19, 3), (16, 1), (16, 2)]) rfl
  intro v ev
  obtain rfl : v = 1 := ev
  refine sg_X9_init_155 (d := d + 2) ?_
  rw [show mR (BM n1 107 R42 D42) 4 2 = 16 from hR.at 4 2 (of_decide_eq_true rfl) (by decide)]
  refine ⟨fun c => absurd c (of_decide_eq_true rfl), fun _ => ?_⟩
  repeat (refine ⟨by first | rfl | exact of_decide_eq_true rfl | exact ⟨of_decide_eq_true rfl, of_decide_eq_true rfl⟩, ?_⟩)
  intro m e
  obtain ⟨R43, D43, rfl, hR, hD⟩ := step_nw 6 0 hR hD e rfl rfl (fun _ => rfl) (S' := [(107, 2), (107, 3), (107, 4), (26, 0), (26, 1), (26, 2), (19, 0), (19, 1), (19, 2), (19, 3), (16, 1), (16, 2)]) (T' := [(107, 1)]) rfl rfl
  repeat (refine ⟨by first | rfl | exact of_decide_eq_true rfl | exact ⟨of_decide_eq_true rfl, of_decide_eq_true rfl⟩, ?_⟩)
  refine ⟨7, 107, _, I_107 (d := d + 1) hR hD, ?_⟩
  repeat (refine ⟨by first | rfl | exact of_decide_eq_true rfl | exact ⟨of_decide_eq_true rfl, of_decide_eq_true rfl⟩, ?_⟩)
  intro m e
  obtain ⟨R44, D44, rfl, hR, hD⟩ := e
  repeat (refine ⟨by first | rfl | exact of_decide_eq_true rfl | exact ⟨of_decide_eq_true rfl, of_decide_eq_true rfl⟩, ?_⟩)
  intro m e
  obtain ⟨R45, D45, rfl, hR, hD⟩ := step_rf 16 1 107 hR hD e rfl rfl (of_decide_eq_true rfl) (S' := [(26, 0), (26, 1), (26, 2), (19, 0), (19, 1), (19, 2), (19, 3), (16, 2)]) rfl
  intro v ev
  obtain rfl : v = 2 := ev
  refine sg_X9_init_155 (d := d + 2) ?_
  rw [show mR (BM n1 115 R45 D45) 4 2 = 16 from hR.at 4 2 (of_decide_eq_true rfl) (by decide)]
  refine ⟨fun c => absurd c (of_decide_eq_true rfl), fun _ => ?_⟩
  repeat (refine ⟨by first | rfl | exact of_decide_eq_true rfl | exact ⟨of_decide_eq_true rfl, of_decide_eq_true rfl⟩, ?_⟩)
  intro m e
  obtain ⟨R46, D46, rfl, hR, hD⟩ := step_nw 6 0 hR hD e rfl rfl (fun _ => rfl) (S' := [(115, 2), (115, 3), (115, 4), (26, 0), (26, 1), (26, 2), (19, 0), (19, 1), (19, 2), (19, 3), (16, 2)]) (T' := [(115, 1)]) rfl rfl
  repeat (refine ⟨by first | rfl | exact of_decide_eq_true rfl | exact ⟨of_decide_eq_true rfl, of_decide_eq_true rfl⟩, ?_⟩)
  refine ⟨7, 107, _, I_115 (d := d + 1) hR hD, ?_⟩
  repeat (refine ⟨by first | rfl | exact of_decide_eq_true rfl | exact ⟨of_decide_eq_true rfl, of_decide_eq_true rfl⟩, ?_⟩)
  intro m e
  obtain ⟨R47, D47, rfl, hR, hD⟩ := e
  repeat (refine ⟨by first | rfl | exact of_decide_eq_true rfl | exact ⟨of_decide_eq_true rfl, of_decide_eq_true rfl⟩, ?_⟩)
  intro m e
  obtain ⟨R48, D48, rfl, hR, hD⟩ := step_rf 16 2 115 hR hD e rfl rfl (of_decide_eq_true rfl) (S' := [(26, 0), (26, 1), (26, 2), (19, 0), (19, 1), (19, 2), (19, 3)]) rfl
  intro v ev
  obtain rfl : v = 3 := ev
  refine sg_X9_init_155 (d := d + 2) ⟨fun _ => ?_, fun c => absurd (of_decide_eq_true rfl) c⟩
  refine sg_X9_init_181 (d := d + 2) ?_
  rw [show mR (BM n1 123 R48 D48) 4 5 = 19 from hR.at 4 5 (of_decide_eq_true rfl) (by decide)]
  refine ⟨fun c => absurd c (of_decide_eq_true rfl), fun _ => ?_⟩
  repeat (refine ⟨by first | rfl | exact of_decide_eq_true rfl | exact ⟨of_decide_eq_true rfl, of_decide_eq_true rfl⟩, ?_⟩)
  intro m e
  obtain ⟨R49, D49, rfl, hR, hD⟩ := step_nw 9 0 hR hD e rfl rfl (fun _ => rfl) (S' := [(123, 0), (123, 1), (123, 2), (123, 3), (26, 0), (26, 1), (26, 2), (19, 0), (19, 1), (19, 2), (19, 3)]) (T' := []) rfl rfl
  repeat (refine ⟨by first | rfl | exact of_decide_eq_true rfl | exact ⟨of_decide_eq_true rfl, of_decide_eq_true rfl⟩, ?_⟩)
  refine ⟨4, 4000, _, I_123 (d := d + 2) hR hD, ?_⟩
  repeat (refine ⟨by first | rfl | exact of_decide_eq_true rfl | exact ⟨of_decide_eq_true rfl, of_decide_eq_true rfl⟩, ?_⟩)
  intro m e
  obtain ⟨R50, D50, rfl, hR, hD⟩ := e
  repeat (refine ⟨by first | rfl | exact of_decide_eq_true rfl | exact ⟨of_decide_eq_true rfl, of_decide_eq_true rfl⟩, ?_⟩)
  intro m e
  obtain ⟨R51, D51, rfl, hR, hD⟩ := step_rf 19 0 123 hR hD e rfl rfl (of_decide_eq_true rfl) (S' := [(26, 0), (26, 1), (26, 2), (19, 1), (19, 2), (19, 3)]) rfl
  intro v ev
  obtain rfl : v = 1 := ev
  refine sg_X9_init_181 (d := d + 2) ?_
  rw [show mR (BM n1 128 R51 D51) 4 5 = 19 from hR.at 4 5 (of_decide_eq_true rfl) (by decide)]
  refine ⟨fun c => absurd c (of_decide_eq_true rfl), fun _ => ?_⟩
  repeat (refine ⟨by first | rfl | exact of_decide_eq_true rfl | exact ⟨of_decide_eq_true rfl, of_decide_eq_true rfl⟩, ?_⟩)
  intro m e
  obtain ⟨R52, D52, rfl, hR, hD⟩ := step_nw 9 0 hR hD e rfl rfl (fun _ => rfl) (S' := [(128, 0), (128, 1), (128, 2), (128, 3), (26, 0), (26, 1), (26, 2), (19, 1), (19, 2), (19, 3)]) (T' := []) rfl rfl
  repeat (refine ⟨by first | rfl | exact of_decide_eq_true rfl | exact ⟨of_decide_eq_true rfl, of_decide_eq_true rfl⟩, ?_⟩)
  refine ⟨4, 4000, _, I_128 (d := d + 2) hR hD, ?_⟩
  repeat (refine ⟨by first | rfl | exact of_decide_eq_true rfl | exact ⟨of_decide_eq_true rfl, of_decide_eq_true rfl⟩, ?_⟩)
  intro m e
  obtain ⟨R53, D53, rfl, hR, hD⟩ := e
  repeat (refine ⟨by first | rfl | exact of_decide_eq_true rfl | exact ⟨of_decide_eq_true rfl, of_decide_eq_true rfl⟩, ?_⟩)
  intro m e
  obtain ⟨R54, D54, rfl, hR, hD⟩ := step_rf 19 1 128 hR hD e rfl rfl (of_decide_eq_true rfl) (S' := [(26, 0), (26, 1), (26, 2), (19, 2), (19, 3)]) rfl
  intro v ev
  obtain rfl : v = 2 := ev
  refine sg_X9_init_181 (d := d + 2) ?_
  rw [show mR (BM n1 133 R54 D54) 4 5 = 19 from hR.at 4 5 (of_decide_eq_true rfl) (by decide)]
  refine ⟨fun c => absurd c (of_decide_eq_true rfl), fun _ => ?_⟩
  repeat (refine ⟨by first | rfl | exact of_decide_eq_true rfl | exact ⟨of_decide_eq_true rfl, of_decide_eq_true rfl⟩, ?_⟩)
  intro m e
  obtain ⟨R55, D55, rfl, hR, hD⟩ := step_nw 9 0 hR hD e rfl rfl (fun _ => rfl) (S' := [(133, 0), (133, 1), (133, 2), (133, 3), (26, 0), (26, 1), (26, 2), (19, 2), (19, 3)]) (T' := []) rfl rfl
  repeat (refine ⟨by first | rfl | exact of_decide_eq_true rfl | exact ⟨of_decide_eq_true rfl, of_decide_eq_true rfl⟩, ?_⟩)
  refine ⟨4, 4000, _, I_133 (d := d + 2) hR hD, ?_⟩
  repeat (refine ⟨by first | rfl | exact of_decide_eq_true rfl | exact ⟨of_decide_eq_true rfl, of_decide_eq_true rfl⟩, ?_⟩)
  intro m e
  obtain ⟨R56, D56, rfl, hR, hD⟩ := e
  repeat (refine ⟨by first | rfl | exact of_decide_eq_true rfl | exact ⟨of_decide_eq_true rfl, of_decide_eq_true rfl⟩, ?_⟩)
  intro m e
  obtain ⟨R57, D57, rfl, hR, hD⟩ := step_rf 19 2 133 hR hD e rfl rfl (of_decide_eq_true rfl) (S' := [(26, 0), (26, 1), (26, 2), (19, 3)]) rfl
  intro v ev
  obtain rfl : v = 3 := ev
  refine sg_X9_init_181 (d := d + 2) ?_
  rw [show mR (BM n1 138 R57 D57) 4 5 = 19 from hR.at 4 5 (of_decide_eq_true rfl) (by decide)]
  refine ⟨fun c => absurd c (of_decide_eq_true rfl), fun _ => ?_⟩
  repeat (refine ⟨by first | rfl | exact of_decide_eq_true rfl | exact ⟨of_decide_eq_true rfl, of_decide_eq_true rfl⟩, ?_⟩)
  intro m e
  obtain ⟨R58, D58, rfl, hR, hD⟩ := step_nw 9 0 hR hD e rfl rfl (fun _ => rfl) (S' := [(138, 0), (138, 1), (138, 2), (138, 3), (26, 0), (26, 1), (26, 2), (19, 3)]) (T' := []) rfl rfl
  repeat (refine ⟨by first | rfl | exact of_decide_eq_true rfl | exact ⟨of_decide_eq_true rfl, of_decide_eq_true rfl⟩, ?_⟩)
  refine ⟨4, 4000, _, I_138 (d := d + 2) hR hD, ?_⟩
  repeat (refine ⟨by first | rfl | exact of_decide_eq_true rfl | exact ⟨of_decide_eq_true rfl, of_decide_eq_true rfl⟩, ?_⟩)
  intro m e
  obtain ⟨R59, D59, rfl, hR, hD⟩ := e
  repeat (refine ⟨by first | rfl | exact of_decide_eq_true rfl | exact ⟨of_decide_eq_true rfl, of_decide_eq_true rfl⟩, ?_⟩)
  intro m e
  obtain ⟨R60, D60, rfl, hR, hD⟩ := step_rf 19 3 138 hR hD e rfl rfl (of_decide_eq_true rfl) (S' := [(26, 0), (26, 1), (26, 2)]) rfl
  intro v ev
  obtain rfl : v = 4 := ev
  refine sg_X9_init_181 (d := d + 2) ⟨fun _ => ?_, fun c => absurd (of_decide_eq_true rfl) c⟩
  refine sg_X9_init_207 (d := d + 2) ?_
  rw [show mR (BM n1 143 R60 D60) 4 8 = 26 from hR.at 4 8 (of_decide_eq_true rfl) (by decide)]
  refine ⟨fun c => absurd c (of_decide_eq_true rfl), fun _ => ?_⟩
  repeat (refine ⟨by first | rfl | exact of_decide_eq_true rfl | exact ⟨of_decide_eq_true rfl, of_decide_eq_true rfl⟩, ?_⟩)
  intro m e
  obtain ⟨R61, D61, rfl, hR, hD⟩ := step_nw 3 0 hR hD e rfl rfl (fun _ => rfl) (S' := [(143, 0), (143, 1), (26, 0), (26, 1), (26, 2)]) (T' := []) rfl rfl
  repeat (refine ⟨by first | rfl | exact of_decide_eq_true rfl | exact ⟨of_decide_eq_true rfl, of_decide_eq_true rfl⟩, ?_⟩)
  refine ⟨2, 80, _, I_143 (d := d + 2) hR hD, ?_⟩
  repeat (refine ⟨by first | rfl | exact of_decide_eq_true rfl | exact ⟨of_decide_eq_true rfl, of_decide_eq_true rfl⟩, ?_⟩)
  intro m e
  obtain ⟨R62, D62, rfl, hR, hD⟩ := e
  repeat (refine ⟨by first | rfl | exact of_decide_eq_true rfl | exact ⟨of_decide_eq_true rfl, of_decide_eq_true rfl⟩, ?_⟩)
  intro m e
  obtain ⟨R63, D63, rfl, hR, hD⟩ := step_rf 26 0 143 hR hD e rfl rfl (of_decide_eq_true rfl) (S' := [(26, 1), (26, 2)]) rfl
  intro v ev
  obtain rfl : v = 1 := ev
  refine sg_X9_init_207 (d := d + 2) ?_
  rw [show mR (BM n1 146 R63 D63) 4 8 = 26 from hR.at 4 8 (of_decide_eq_true rfl) (by decide)]
  refine ⟨fun c => absurd c (of_decide_eq_true rfl), fun _ => ?_⟩
  repeat (refine ⟨by first | rfl | exact of_decide_eq_true rfl | exact ⟨of_decide_eq_true rfl, of_decide_eq_true rfl⟩, ?_⟩)
  intro m e
  obtain ⟨R64, D64, rfl, hR, hD⟩ := step_nw 3 0 hR hD e rfl rfl (fun _ => rfl) (S' := [(146, 0), (146, 1), (26, 1), (26, 2)]) (T' := []) rfl rfl
  repeat (refine ⟨by first | rfl | exact of_decide_eq_true rfl | exact ⟨of_decide_eq_true rfl, of_decide_eq_true rfl⟩, ?_⟩)
  refine ⟨2, 80, _, I_146 (d := d + 2) hR hD, ?_⟩
  repeat (refine ⟨by first | rfl | exact of_decide_eq_true rfl | exact ⟨of_decide_eq_true rfl, of_decide_eq_true rfl⟩, ?_⟩)
  intro m e
  obtain ⟨R65, D65, rfl, hR, hD⟩ := e
  repeat (refine ⟨by first | rfl | exact of_decide_eq_true rfl | exact ⟨of_decide_eq_true rfl, of_decide_eq_true rfl⟩, ?_⟩)
  intro m e
  obtain ⟨R66, D66, rfl, hR, hD⟩ := step_rf 26 1 146 hR hD e rfl rfl (of_decide_eq_true rfl) (S' := [(26, 2)]) rfl
  intro v ev
  obtain rfl : v = 2 := ev
  refine sg_X9_init_207 (d := d + 2) ?_
  rw [show mR (BM n1 149 R66 D66) 4 8 = 26 from hR.at 4 8 (of_decide_eq_true rfl) (by decide)]
  refine ⟨fun c => absurd c (of_decide_eq_true rfl), fun _ => ?_⟩
  repeat (refine ⟨by first | rfl | exact of_decide_eq_true rfl | exact ⟨of_decide_eq_true rfl, of_decide_eq_true rfl⟩, ?_⟩)
  intro m e
  obtain ⟨R67, D67, rfl, hR, hD⟩ := step_nw 3 0 hR hD e rfl rfl (fun _ => rfl) (S' := [(149, 0), (149, 1), (26, 2)]) (T' := []) rfl rfl
  repeat (refine ⟨by first | rfl | exact of_decide_eq_true rfl | exact ⟨of_decide_eq_true rfl, of_decide_eq_true rfl⟩, ?_⟩)
  refine ⟨2, 80, _, I_149 (d := d + 2) hR hD, ?_⟩
  repeat (refine ⟨by first | rfl | exact of_decide_eq_true rfl | exact ⟨of_decide_eq_true rfl, of_decide_eq_true rfl⟩, ?_⟩)
  intro m e
  obtain ⟨R68, D68, rfl, hR, hD⟩ := e
  repeat (refine ⟨by first | rfl | exact of_decide_eq_true rfl | exact ⟨of_decide_eq_true rfl, of_decide_eq_true rfl⟩, ?_⟩)
  intro m e
  obtain ⟨R69, D69, rfl, hR, hD⟩ := step_rf 26 2 149 hR hD e rfl rfl (of_decide_eq_true rfl) (S' := []) rfl
  intro v ev
  obtain rfl : v = 3 := ev
  refine sg_X9_init_207 (d := d + 2) ⟨fun _ => ?_, fun c => absurd (of_decide_eq_true rfl) c⟩
  have q8 : R69 4 1 = 8 := hR.at 4 1 (of_decide_eq_true rfl) (by decide)
  have q5 : R69 4 0 = 5 := hR.at 4 0 (of_decide_eq_true rfl) (by decide)
  rw [show mR (BM n1 152 R69 D69) 4 1 = 8 from q8, show mR (BM n1 152 R69 D69) 4 0 = 5 from q5]
  repeat (refine ⟨by first | rfl | exact of_decide_eq_true rfl | exact ⟨of_decide_eq_true rfl, of_decide_eq_true rfl⟩, ?_⟩)
  have at' : ∀ o t : Nat, o < 152 → R69 o (t : Int) = RF W00 o (t : Int) := fun o t ho => hR.at o t ho List.not_mem_nil
  refine ⟨0, 0, _, C_sfresh (d := d) (o := 8) (c := 5) (D := D69) (ρ := (R69, Kx 152, Nx n1 152, 152)) ⟨rfl, at' 8 2 (by decide), at' 8 3 (by decide), at' 8 4 (by decide), ⟨rfl, at' 9 0 (by decide), at' 9 1 (by decide), rfl, rfl, rfl, rfl⟩, ⟨rfl, at' 12 0 (by decide), at' 12 1 (by decide), rfl, rfl, rfl, rfl⟩, rfl, rfl⟩ ⟨rfl, at' 5 3 (by decide), at' 5 4 (by decide), rfl, rfl, rfl, rfl⟩ (Or.inl (by decide)), ?_⟩
  repeat (refine ⟨by first | rfl | exact of_decide_eq_true rfl | exact ⟨of_decide_eq_true rfl, of_decide_eq_true rfl⟩, ?_⟩)
  rintro m ⟨D', rfl, f, hs⟩
  exact ⟨rfl, R69, D69, D', rfl, hR, hD, f, hs⟩
end INX
