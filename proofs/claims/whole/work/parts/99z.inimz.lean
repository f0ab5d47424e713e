/-! ===== the model's constructor (by program, wip/whole/gen_inm.py) ===== -/
section INZ
variable {n1 : Nat}
theorem dv_hi {o : Nat} {j : Int} (h0 : 171 ≤ o) (h1 : o ≤ 174) : dv o j = 0 := by
  refine dv_big (fun t _ y => ?_)
  have q : o = 171 ∨ o = 172 ∨ o = 173 ∨ o = 174 := by omega
  rcases q with rfl | rfl | rfl | rfl
  · exact absurd y (by show t ∉ ([] : List Nat); exact List.not_mem_nil)
  · exact absurd y (by show t ∉ ([] : List Nat); exact List.not_mem_nil)
  · exact absurd y (by show t ∉ ([] : List Nat); exact List.not_mem_nil)
  · exact absurd y (by show t ∉ ([] : List Nat); exact List.not_mem_nil)
theorem I_152 {d : Nat} {R : Nat → Int → Nat} {D B G : DD} (hR : RI 153 [(152, 3), (152, 4), (152, 6), (152, 7), (152, 8), (152, 9), (152, 11), (152, 13), (152, 22), (152, 23), (152, 24), (152, 25), (152, 26), (152, 27), (152, 28), (152, 29), (152, 30), (152, 31), (152, 34), (152, 35), (152, 43), (152, 45), (152, 47), (152, 48), (152, 49), (152, 50), (152, 51), (152, 54), (152, 55), (152, 56), (152, 58), (152, 60), (152, 61), (152, 62), (152, 63), (152, 64), (152, 65)] R) (hD : DI (dG B G) 153 [(152, 0), (152, 1), (152, 2), (152, 10)] D) : Cl (d + 1) 40 23879 mX10_init [vr 152] (BM n1 153 R D) (KV (fun m => ∃ D0 D' : DD, m = (D', rh1 n1) ∧ DI (dG B G) 193 [] D0 ∧ Fr mbF D0 D' ∧ mst D' = zfresh (mcup D0) (mst D0))) := by
  refine Cl_of mb_X10_init (Nat.le_of_ble_eq_true rfl) ?_
  show Wp (d + 1) 40 23879 mX10_init 0 [some (vr 152), none] [] (BM n1 153 R D) _
  refine st_aload_n (pc := 0) dX10_init_0 rfl rfl ?_
  refine st_objInit (pc := 1) (st := []) dX10_init_1 ck_10_3 (by decide) (by show (0 : Nat) ≤ 8; decide) ?_
  refine st_aload_n (pc := 4) dX10_init_4 rfl rfl ?_
  refine sg_bipush (pc := 5) dX10_init_5 (by omega) (by decide) ?_
  refine sg_pfI (pc := 7) (J := 0) dX10_init_7 fl_10_9 rfl (Or.inl rfl) rfl ?_
  refine Wp.nameM (fun m e => ?_)
  obtain ⟨R1, D1, rfl, hR, hD⟩ := step_nm 152 0 8 hR hD e rfl rfl (T' := [(152, 1), (152, 2), (152, 10)]) rfl
  refine st_aload_n (pc := 10) dX10_init_10 rfl rfl ?_
  refine sg_bipush (pc := 11) dX10_init_11 (by omega) (by decide) ?_
  refine sg_pfI (pc := 13) (J := 1) dX10_init_13 fl_10_13 rfl (Or.inl rfl) rfl ?_
  refine Wp.nameM (fun m e => ?_)
  obtain ⟨R2, D2, rfl, hR, hD⟩ := step_nm 152 1 100 hR hD e rfl rfl (T' := [(152, 2), (152, 10)]) rfl
  refine st_aload_n (pc := 16) dX10_init_16 rfl rfl ?_
  refine sg_bipush (pc := 17) dX10_init_17 (by omega) (by decide) ?_
  refine sg_pfI (pc := 19) (J := 2) dX10_init_19 fl_10_16 rfl (Or.inl rfl) rfl ?_
  refine Wp.nameM (fun m e => ?_)
  obtain ⟨R3, D3, rfl, hR, hD⟩ := step_nm 152 2 80 hR hD e rfl rfl (T' := [(152, 10)]) rfl
  refine st_aload_n (pc := 22) dX10_init_22 rfl rfl ?_
  refine sg_bipush (pc := 23) dX10_init_23 (by omega) (by decide) ?_
  refine st_newI (pc := 25) dX10_init_25 (of_decide_eq_true rfl) (of_decide_eq_true rfl) (of_decide_eq_true rfl) (of_decide_eq_true rfl) (of_decide_eq_true rfl) ?_
  refine Wp.nameM (fun m e => ?_)
  obtain ⟨R4, D4, rfl, hR, hD⟩ := step_nw 20 7 hR hD e rfl rfl (fun _ => rfl) (S' := [(152, 3), (152, 4), (152, 6), (152, 7), (152, 8), (152, 9), (152, 11), (152, 13), (152, 22), (152, 23), (152, 24), (152, 25), (152, 26), (152, 27), (152, 28), (152, 29), (152, 30), (152, 31), (152, 34), (152, 35), (152, 43), (152, 45), (152, 47), (152, 48), (152, 49), (152, 50), (152, 51), (152, 54), (152, 55), (152, 56), (152, 58), (152, 60), (152, 61), (152, 62), (152, 63), (152, 64), (152, 65)]) (T' := [(153, 0), (153, 1), (153, 3), (153, 6), (152, 10)]) rfl rfl
  refine st_dup (pc := 27) dX10_init_27 rfl ?_
  refine sg_iconst (pc := 28) dX10_init_28 (by omega) ?_
  refine sg_bipush (pc := 29) dX10_init_29 (by omega) (by decide) ?_
  refine st_iastore (pc := 31) (a := 153) dX10_init_31 rfl (of_decide_eq_true rfl) (of_decide_eq_true rfl) ?_
  refine Wp.nameM (fun m e => ?_)
  obtain ⟨R5, D5, rfl, hR, hD⟩ := step_nm 153 0 8 hR hD e rfl rfl (T' := [(153, 1), (153, 3), (153, 6), (152, 10)]) rfl
  refine st_dup (pc := 32) dX10_init_32 rfl ?_
  refine sg_iconst (pc := 33) dX10_init_33 (by omega) ?_
  refine sg_iconst (pc := 34) dX10_init_34 (by omega) ?_
  refine st_iastore (pc := 35) (a := 153) dX10_init_35 rfl (of_decide_eq_true rfl) (of_decide_eq_true rfl) ?_
  refine Wp.nameM (fun m e => ?_)
  obtain ⟨R6, D6, rfl, hR, hD⟩ := step_nm 153 1 2 hR hD e rfl rfl (T' := [(153, 3), (153, 6), (152, 10)]) rfl
  refine st_dup (pc := 36) dX10_init_36 rfl ?_
  refine sg_iconst (pc := 37) dX10_init_37 (by omega) ?_
  refine sg_iconst (pc := 38) dX10_init_38 (by omega) ?_
  refine st_iastore (pc := 39) (a := 153) dX10_init_39 rfl (of_decide_eq_true rfl) (of_decide_eq_true rfl) ?_
  refine Wp.nameM (fun m e => ?_)
  obtain ⟨R7, D7, rfl, hR, hD⟩ := step_nm 153 2 0 hR hD e rfl rfl (T' := [(153, 3), (153, 6), (152, 10)]) rfl
  refine st_dup (pc := 40) dX10_init_40 rfl ?_
  refine sg_iconst (pc := 41) dX10_init_41 (by omega) ?_
  refine sg_bipush (pc := 42) dX10_init_42 (by omega) (by decide) ?_
  refine st_iastore (pc := 44) (a := 153) dX10_init_44 rfl (of_decide_eq_true rfl) (of_decide_eq_true rfl) ?_
  refine Wp.nameM (fun m e => ?_)
  obtain ⟨R8, D8, rfl, hR, hD⟩ := step_nm 153 3 6 hR hD e rfl rfl (T' := [(153, 6), (152, 10)]) rfl
  refine st_dup (pc := 45) dX10_init_45 rfl ?_
  refine sg_iconst (pc := 46) dX10_init_46 (by omega) ?_
  refine sg_iconst (pc := 47) dX10_init_47 (by omega) ?_
  refine st_iastore (pc := 48) (a := 153) dX10_init_48 rfl (of_decide_eq_true rfl) (of_decide_eq_true rfl) ?_
  refine Wp.nameM (fun m e => ?_)
  obtain ⟨R9, D9, rfl, hR, hD⟩ := step_nm 153 4 0 hR hD e rfl rfl (T' := [(153, 6), (152, 10)]) rfl
  refine st_dup (pc := 49) dX10_init_49 rfl ?_
  refine sg_iconst (pc := 50) dX10_init_50 (by omega) ?_
  refine sg_iconst (pc := 51) dX10_init_51 (by omega) ?_
  refine st_iastore (pc := 52) (a := 153) dX10_init_52 rfl (of_decide_eq_true rfl) (of_decide_eq_true rfl) ?_
  refine Wp.nameM (fun m e => ?_)
  obtain ⟨R10, D10, rfl, hR, hD⟩ := step_nm 153 5 0 hR hD e rfl rfl (T' := [(153, 6), (152, 10)]) rfl
  refine st_dup (pc := 53) dX10_init_53 rfl ?_
  refine sg_bipush (pc := 54) dX10_init_54 (by omega) (by decide) ?_
  refine sg_iconst (pc := 56) dX10_init_56 (by omega) ?_
  refine st_iastore (pc := 57) (a := 153) dX10_init_57 rfl (of_decide_eq_true rfl) (of_decide_eq_true rfl) ?_
  refine Wp.nameM (fun m e => ?_)
  obtain ⟨R11, D11, rfl, hR, hD⟩ := step_nm 153 6 3 hR hD e rfl rfl (T' := [(152, 10)]) rfl
  refine sg_pfR (pc := 58) (J := 3) dX10_init_58 fl_10_19 rfl (Or.inr ⟨rfl, rfl⟩) rfl ?_
  refine Wp.nameM (fun m e => ?_)
  obtain ⟨R12, D12, rfl, hR, hD⟩ := step_rf 152 3 153 hR hD e rfl rfl (of_decide_eq_true rfl) (S' := [(152, 4), (152, 6), (152, 7), (152, 8), (152, 9), (152, 11), (152, 13), (152, 22), (152, 23), (152, 24), (152, 25), (152, 26), (152, 27), (152, 28), (152, 29), (152, 30), (152, 31), (152, 34), (152, 35), (152, 43), (152, 45), (152, 47), (152, 48), (152, 49), (152, 50), (152, 51), (152, 54), (152, 55), (152, 56), (152, 58), (152, 60), (152, 61), (152, 62), (152, 63), (152, 64), (152, 65)]) rfl
  refine st_aload_n (pc := 61) dX10_init_61 rfl rfl ?_
  refine sg_bipush (pc := 62) dX10_init_62 (by omega) (by decide) ?_
  refine st_newI (pc := 64) dX10_init_64 (of_decide_eq_true rfl) (of_decide_eq_true rfl) (of_decide_eq_true rfl) (of_decide_eq_true rfl) (of_decide_eq_true rfl) ?_
  refine Wp.nameM (fun m e => ?_)
  obtain ⟨R13, D13, rfl, hR, hD⟩ := step_nw 20 20 hR hD e rfl rfl (fun _ => rfl) (S' := [(152, 4), (152, 6), (152, 7), (152, 8), (152, 9), (152, 11), (152, 13), (152, 22), (152, 23), (152, 24), (152, 25), (152, 26), (152, 27), (152, 28), (152, 29), (152, 30), (152, 31), (152, 34), (152, 35), (152, 43), (152, 45), (152, 47), (152, 48), (152, 49), (152, 50), (152, 51), (152, 54), (152, 55), (152, 56), (152, 58), (152, 60), (152, 61), (152, 62), (152, 63), (152, 64), (152, 65)]) (T' := [(154, 0), (154, 1), (154, 2), (154, 3), (154, 4), (154, 5), (154, 6), (154, 7), (154, 8), (154, 9), (154, 10), (154, 11), (154, 12), (154, 13), (154, 14), (154, 15), (154, 16), (154, 17), (154, 18), (154, 19), (152, 10)]) rfl rfl
  refine sg_pfR (pc := 66) (J := 4) dX10_init_66 fl_10_23 rfl (Or.inr ⟨rfl, rfl⟩) rfl ?_
  refine Wp.nameM (fun m e => ?_)
  obtain ⟨R14, D14, rfl, hR, hD⟩ := step_rf 152 4 154 hR hD e rfl rfl (of_decide_eq_true rfl) (S' := [(152, 6), (152, 7), (152, 8), (152, 9), (152, 11), (152, 13), (152, 22), (152, 23), (152, 24), (152, 25), (152, 26), (152, 27), (152, 28), (152, 29), (152, 30), (152, 31), (152, 34), (152, 35), (152, 43), (152, 45), (152, 47), (152, 48), (152, 49), (152, 50), (152, 51), (152, 54), (152, 55), (152, 56), (152, 58), (152, 60), (152, 61), (152, 62), (152, 63), (152, 64), (152, 65)]) rfl
  refine st_aload_n (pc := 69) dX10_init_69 rfl rfl ?_
  refine sg_bipush (pc := 70) dX10_init_70 (by omega) (by decide) ?_
  refine st_newI (pc := 72) dX10_init_72 (of_decide_eq_true rfl) (of_decide_eq_true rfl) (of_decide_eq_true rfl) (of_decide_eq_true rfl) (of_decide_eq_true rfl) ?_
  refine Wp.nameM (fun m e => ?_)
  obtain ⟨R15, D15, rfl, hR, hD⟩ := step_nw 20 40 hR hD e rfl rfl (fun _ => rfl) (S' := [(152, 6), (152, 7), (152, 8), (152, 9), (152, 11), (152, 13), (152, 22), (152, 23), (152, 24), (152, 25), (152, 26), (152, 27), (152, 28), (152, 29), (152, 30), (152, 31), (152, 34), (152, 35), (152, 43), (152, 45), (152, 47), (152, 48), (152, 49), (152, 50), (152, 51), (152, 54), (152, 55), (152, 56), (152, 58), (152, 60), (152, 61), (152, 62), (152, 63), (152, 64), (152, 65)]) (T' := [(154, 0), (154, 1), (154, 2), (154, 3), (154, 4), (154, 5), (154, 6), (154, 7), (154, 8), (154, 9), (154, 10), (154, 11), (154, 12), (154, 13), (154, 14), (154, 15), (154, 16), (154, 17), (154, 18), (154, 19), (152, 10)]) rfl rfl
  refine sg_pfR (pc := 74) (J := 6) dX10_init_74 fl_10_26 rfl (Or.inr ⟨rfl, rfl⟩) rfl ?_
  refine Wp.nameM (fun m e => ?_)
  obtain ⟨R16, D16, rfl, hR, hD⟩ := step_rf 152 6 155 hR hD e rfl rfl (of_decide_eq_true rfl) (S' := [(152, 7), (152, 8), (152, 9), (152, 11), (152, 13), (152, 22), (152, 23), (152, 24), (152, 25), (152, 26), (152, 27), (152, 28), (152, 29), (152, 30), (152, 31), (152, 34), (152, 35), (152, 43), (152, 45), (152, 47), (152, 48), (152, 49), (152, 50), (152, 51), (152, 54), (152, 55), (152, 56), (152, 58), (152, 60), (152, 61), (152, 62), (152, 63), (152, 64), (152, 65)]) rfl
  refine st_aload_n (pc := 77) dX10_init_77 rfl rfl ?_
  refine sg_bipush (pc := 78) dX10_init_78 (by omega) (by decide) ?_
  refine st_newI (pc := 80) dX10_init_80 (of_decide_eq_true rfl) (of_decide_eq_true rfl) (of_decide_eq_true rfl) (of_decide_eq_true rfl) (of_decide_eq_true rfl) ?_
  refine Wp.nameM (fun m e => ?_)
  obtain ⟨R17, D17, rfl, hR, hD⟩ := step_nw 20 40 hR hD e rfl rfl (fun _ => rfl) (S' := [(152, 7), (152, 8), (152, 9), (152, 11), (152, 13), (152, 22), (152, 23), (152, 24), (152, 25), (152, 26), (152, 27), (152, 28), (152, 29), (152, 30), (152, 31), (152, 34), (152, 35), (152, 43), (152, 45), (152, 47), (152, 48), (152, 49), (152, 50), (152, 51), (152, 54), (152, 55), (152, 56), (152, 58), (152, 60), (152, 61), (152, 62), (152, 63), (152, 64), (152, 65)]) (T' := [(154, 0), (154, 1), (154, 2), (154, 3), (154, 4), (154, 5), (154, 6), (154, 7), (154, 8), (154, 9), (154, 10), (154, 11), (154, 12), (154, 13), (154, 14), (154, 15), (154, 16), (154, 17), (154, 18), (154, 19), (152, 10)]) rfl rfl
  refine sg_pfR (pc := 82) (J := 7) dX10_init_82 fl_10_29 rfl (Or.inr ⟨rfl, rfl⟩) rfl ?_
  refine Wp.nameM (fun m e => ?_)
  obtain ⟨R18, D18, rfl, hR, hD⟩ := step_rf 152 7 156 hR hD e rfl rfl (of_decide_eq_true rfl) (S' := [(152, 8), (152, 9), (152, 11), (152, 13), (152, 22), (152, 23), (152, 24), (152, 25), (152, 26), (152, 27), (152, 28), (152, 29), (152, 30), (152, 31), (152, 34), (152, 35), (152, 43), (152, 45), (152, 47), (152, 48), (152, 49), (152, 50), (152, 51), (152, 54), (152, 55), (152, 56), (152, 58), (152, 60), (152, 61), (152, 62), (152, 63), (152, 64), (152, 65)]) rfl
  refine st_aload_n (pc := 85) dX10_init_85 rfl rfl ?_
  refine sg_iconst (pc := 86) dX10_init_86 (by omega) ?_
  refine st_newI (pc := 87) dX10_init_87 (of_decide_eq_true rfl) (of_decide_eq_true rfl) (of_decide_eq_true rfl) (of_decide_eq_true rfl) (of_decide_eq_true rfl) ?_
  refine Wp.nameM (fun m e => ?_)
  obtain ⟨R19, D19, rfl, hR, hD⟩ := step_nw 20 2 hR hD e rfl rfl (fun _ => rfl) (S' := [(152, 8), (152, 9), (152, 11), (152, 13), (152, 22), (152, 23), (152, 24), (152, 25), (152, 26), (152, 27), (152, 28), (152, 29), (152, 30), (152, 31), (152, 34), (152, 35), (152, 43), (152, 45), (152, 47), (152, 48), (152, 49), (152, 50), (152, 51), (152, 54), (152, 55), (152, 56), (152, 58), (152, 60), (152, 61), (152, 62), (152, 63), (152, 64), (152, 65)]) (T' := [(154, 0), (154, 1), (154, 2), (154, 3), (154, 4), (154, 5), (154, 6), (154, 7), (154, 8), (154, 9), (154, 10), (154, 11), (154, 12), (154, 13), (154, 14), (154, 15), (154, 16), (154, 17), (154, 18), (154, 19), (152, 10)]) rfl rfl
  refine sg_pfR (pc := 89) (J := 8) dX10_init_89 fl_10_32 rfl (Or.inr ⟨rfl, rfl⟩) rfl ?_
  refine Wp.nameM (fun m e => ?_)
  obtain ⟨R20, D20, rfl, hR, hD⟩ := step_rf 152 8 157 hR hD e rfl rfl (of_decide_eq_true rfl) (S' := [(152, 9), (152, 11), (152, 13), (152, 22), (152, 23), (152, 24), (152, 25), (152, 26), (152, 27), (152, 28), (152, 29), (152, 30), (152, 31), (152, 34), (152, 35), (152, 43), (152, 45), (152, 47), (152, 48), (152, 49), (152, 50), (152, 51), (152, 54), (152, 55), (152, 56), (152, 58), (152, 60), (152, 61), (152, 62), (152, 63), (152, 64), (152, 65)]) rfl
  refine st_aload_n (pc := 92) dX10_init_92 rfl rfl ?_
  refine sg_bipush (pc := 93) dX10_init_93 (by omega) (by decide) ?_
  refine st_newI (pc := 95) dX10_init_95 (of_decide_eq_true rfl) (of_decide_eq_true rfl) (of_decide_eq_true rfl) (of_decide_eq_true rfl) (of_decide_eq_true rfl) ?_
  refine Wp.nameM (fun m e => ?_)
  obtain ⟨R21, D21, rfl, hR, hD⟩ := step_nw 20 21 hR hD e rfl rfl (fun _ => rfl) (S' := [(152, 9), (152, 11), (152, 13), (152, 22), (152, 23), (152, 24), (152, 25), (152, 26), (152, 27), (152, 28), (152, 29), (152, 30), (152, 31), (152, 34), (152, 35), (152, 43), (152, 45), (152, 47), (152, 48), (152, 49), (152, 50), (152, 51), (152, 54), (152, 55), (152, 56), (152, 58), (152, 60), (152, 61), (152, 62), (152, 63), (152, 64), (152, 65)]) (T' := [(154, 0), (154, 1), (154, 2), (154, 3), (154, 4), (154, 5), (154, 6), (154, 7), (154, 8), (154, 9), (154, 10), (154, 11), (154, 12), (154, 13), (154, 14), (154, 15), (154, 16), (154, 17), (154, 18), (154, 19), (152, 10)]) rfl rfl
  refine sg_pfR (pc := 97) (J := 9) dX10_init_97 fl_10_35 rfl (Or.inr ⟨rfl, rfl⟩) rfl ?_
  refine Wp.nameM (fun m e => ?_)
  obtain ⟨R22, D22, rfl, hR, hD⟩ := step_rf 152 9 158 hR hD e rfl rfl (of_decide_eq_true rfl) (S' := [(152, 11), (152, 13), (152, 22), (152, 23), (152, 24), (152, 25), (152, 26), (152, 27), (152, 28), (152, 29), (152, 30), (152, 31), (152, 34), (152, 35), (152, 43), (152, 45), (152, 47), (152, 48), (152, 49), (152, 50), (152, 51), (152, 54), (152, 55), (152, 56), (152, 58), (152, 60), (152, 61), (152, 62), (152, 63), (152, 64), (152, 65)]) rfl
  refine st_aload_n (pc := 100) dX10_init_100 rfl rfl ?_
  refine sg_iconst (pc := 101) dX10_init_101 (by omega) ?_
  refine sg_pfI (pc := 102) (J := 10) dX10_init_102 fl_10_38 rfl (Or.inl rfl) rfl ?_
  refine Wp.nameM (fun m e => ?_)
  obtain ⟨R23, D23, rfl, hR, hD⟩ := step_nm 152 10 1 hR hD e rfl rfl (T' := [(154, 0), (154, 1), (154, 2), (154, 3), (154, 4), (154, 5), (154, 6), (154, 7), (154, 8), (154, 9), (154, 10), (154, 11), (154, 12), (154, 13), (154, 14), (154, 15), (154, 16), (154, 17), (154, 18), (154, 19)]) rfl
  refine st_aload_n (pc := 105) dX10_init_105 rfl rfl ?_
  refine sg_bipush (pc := 106) dX10_init_106 (by omega) (by decide) ?_
  refine st_newB (pc := 108) dX10_init_108 (of_decide_eq_true rfl) (of_decide_eq_true rfl) (of_decide_eq_true rfl) (of_decide_eq_true rfl) (of_decide_eq_true rfl) ?_
  refine Wp.nameM (fun m e => ?_)
  obtain ⟨R24, D24, rfl, hR, hD⟩ := step_nw 22 80 hR hD e rfl rfl (fun _ => rfl) (S' := [(152, 11), (152, 13), (152, 22), (152, 23), (152, 24), (152, 25), (152, 26), (152, 27), (152, 28), (152, 29), (152, 30), (152, 31), (152, 34), (152, 35), (152, 43), (152, 45), (152, 47), (152, 48), (152, 49), (152, 50), (152, 51), (152, 54), (152, 55), (152, 56), (152, 58), (152, 60), (152, 61), (152, 62), (152, 63), (152, 64), (152, 65)]) (T' := [(154, 0), (154, 1), (154, 2), (154, 3), (154, 4), (154, 5), (154, 6), (154, 7), (154, 8), (154, 9), (154, 10), (154, 11), (154, 12), (154, 13), (154, 14), (154, 15), (154, 16), (154, 17), (154, 18), (154, 19)]) rfl rfl
  refine sg_pfR (pc := 110) (J := 11) dX10_init_110 fl_10_41 rfl (Or.inr ⟨rfl, rfl⟩) rfl ?_
  refine Wp.nameM (fun m e => ?_)
  obtain ⟨R25, D25, rfl, hR, hD⟩ := step_rf 152 11 159 hR hD e rfl rfl (of_decide_eq_true rfl) (S' := [(152, 13), (152, 22), (152, 23), (152, 24), (152, 25), (152, 26), (152, 27), (152, 28), (152, 29), (152, 30), (152, 31), (152, 34), (152, 35), (152, 43), (152, 45), (152, 47), (152, 48), (152, 49), (152, 50), (152, 51), (152, 54), (152, 55), (152, 56), (152, 58), (152, 60), (152, 61), (152, 62), (152, 63), (152, 64), (152, 65)]) rfl
  refine st_aload_n (pc := 113) dX10_init_113 rfl rfl ?_
  refine sg_bipush (pc := 114) dX10_init_114 (by omega) (by decide) ?_
  refine st_newJ (pc := 116) dX10_init_116 (of_decide_eq_true rfl) (of_decide_eq_true rfl) (of_decide_eq_true rfl) (of_decide_eq_true rfl) (of_decide_eq_true rfl) ?_
  refine Wp.nameM (fun m e => ?_)
  obtain ⟨R26, D26, rfl, hR, hD⟩ := step_nw 21 8 hR hD e rfl rfl (fun _ => rfl) (S' := [(152, 13), (152, 22), (152, 23), (152, 24), (152, 25), (152, 26), (152, 27), (152, 28), (152, 29), (152, 30), (152, 31), (152, 34), (152, 35), (152, 43), (152, 45), (152, 47), (152, 48), (152, 49), (152, 50), (152, 51), (152, 54), (152, 55), (152, 56), (152, 58), (152, 60), (152, 61), (152, 62), (152, 63), (152, 64), (152, 65)]) (T' := [(154, 0), (154, 1), (154, 2), (154, 3), (154, 4), (154, 5), (154, 6), (154, 7), (154, 8), (154, 9), (154, 10), (154, 11), (154, 12), (154, 13), (154, 14), (154, 15), (154, 16), (154, 17), (154, 18), (154, 19)]) rfl rfl
  refine sg_pfR (pc := 118) (J := 13) dX10_init_118 fl_10_45 rfl (Or.inr ⟨rfl, rfl⟩) rfl ?_
  refine Wp.nameM (fun m e => ?_)
  obtain ⟨R27, D27, rfl, hR, hD⟩ := step_rf 152 13 160 hR hD e rfl rfl (of_decide_eq_true rfl) (S' := [(152, 22), (152, 23), (152, 24), (152, 25), (152, 26), (152, 27), (152, 28), (152, 29), (152, 30), (152, 31), (152, 34), (152, 35), (152, 43), (152, 45), (152, 47), (152, 48), (152, 49), (152, 50), (152, 51), (152, 54), (152, 55), (152, 56), (152, 58), (152, 60), (152, 61), (152, 62), (152, 63), (152, 64), (152, 65)]) rfl
  refine st_aload_n (pc := 121) dX10_init_121 rfl rfl ?_
  refine sg_iconst (pc := 122) dX10_init_122 (by omega) ?_
  refine st_newI (pc := 123) dX10_init_123 (of_decide_eq_true rfl) (of_decide_eq_true rfl) (of_decide_eq_true rfl) (of_decide_eq_true rfl) (of_decide_eq_true rfl) ?_
  refine Wp.nameM (fun m e => ?_)
  obtain ⟨R28, D28, rfl, hR, hD⟩ := step_nw 20 4 hR hD e rfl rfl (fun _ => rfl) (S' := [(152, 22), (152, 23), (152, 24), (152, 25), (152, 26), (152, 27), (152, 28), (152, 29), (152, 30), (152, 31), (152, 34), (152, 35), (152, 43), (152, 45), (152, 47), (152, 48), (152, 49), (152, 50), (152, 51), (152, 54), (152, 55), (152, 56), (152, 58), (152, 60), (152, 61), (152, 62), (152, 63), (152, 64), (152, 65)]) (T' := [(154, 0), (154, 1), (154, 2), (154, 3), (154, 4), (154, 5), (154, 6), (154, 7), (154, 8), (154, 9), (154, 10), (154, 11), (154, 12), (154, 13), (154, 14), (154, 15), (154, 16), (154, 17), (154, 18), (154, 19)]) rfl rfl
  refine sg_pfR (pc := 125) (J := 22) dX10_init_125 fl_10_49 rfl (Or.inr ⟨rfl, rfl⟩) rfl ?_
  refine Wp.nameM (fun m e => ?_)
  obtain ⟨R29, D29, rfl, hR, hD⟩ := step_rf 152 22 161 hR hD e rfl rfl (of_decide_eq_true rfl) (S' := [(152, 23), (152, 24), (152, 25), (152, 26), (152, 27), (152, 28), (152, 29), (152, 30), (152, 31), (152, 34), (152, 35), (152, 43), (152, 45), (152, 47), (152, 48), (152, 49), (152, 50), (152, 51), (152, 54), (152, 55), (152, 56), (152, 58), (152, 60), (152, 61), (152, 62), (152, 63), (152, 64), (152, 65)]) rfl
  refine st_aload_n (pc := 128) dX10_init_128 rfl rfl ?_
  refine sg_iconst (pc := 129) dX10_init_129 (by omega) ?_
  refine st_newI (pc := 130) dX10_init_130 (of_decide_eq_true rfl) (of_decide_eq_true rfl) (of_decide_eq_true rfl) (of_decide_eq_true rfl) (of_decide_eq_true rfl) ?_
  refine Wp.nameM (fun m e => ?_)
  obtain ⟨R30, D30, rfl, hR, hD⟩ := step_nw 20 4 hR hD e rfl rfl (fun _ => rfl) (S' := [(152, 23), (152, 24), (152, 25), (152, 26), (152, 27), (152, 28), (152, 29), (152, 30), (152, 31), (152, 34), (152, 35), (152, 43), (152, 45), (152, 47), (152, 48), (152, 49), (152, 50), (152, 51), (152, 54), (152, 55), (152, 56), (152, 58), (152, 60), (152, 61), (152, 62), (152, 63), (152, 64), (152, 65)]) (T' := [(154, 0), (154, 1), (154, 2), (154, 3), (154, 4), (154, 5), (154, 6), (154, 7), (154, 8), (154, 9), (154, 10), (154, 11), (154, 12), (154, 13), (154, 14), (154, 15), (154, 16), (154, 17), (154, 18), (154, 19)]) rfl rfl
  refine sg_pfR (pc := 132) (J := 23) dX10_init_132 fl_10_52 rfl (Or.inr ⟨rfl, rfl⟩) rfl ?_
  refine Wp.nameM (fun m e => ?_)
  obtain ⟨R31, D31, rfl, hR, hD⟩ := step_rf 152 23 162 hR hD e rfl rfl (of_decide_eq_true rfl) (S' := [(152, 24), (152, 25), (152, 26), (152, 27), (152, 28), (152, 29), (152, 30), (152, 31), (152, 34), (152, 35), (152, 43), (152, 45), (152, 47), (152, 48), (152, 49), (152, 50), (152, 51), (152, 54), (152, 55), (152, 56), (152, 58), (152, 60), (152, 61), (152, 62), (152, 63), (152, 64), (152, 65)]) rfl
  refine st_aload_n (pc := 135) dX10_init_135 rfl rfl ?_
  refine sg_sipush (pc := 136) dX10_init_136 (by omega) (by decide) ?_
  refine st_newI (pc := 139) dX10_init_139 (of_decide_eq_true rfl) (of_decide_eq_true rfl) (of_decide_eq_true rfl) (of_decide_eq_true rfl) (of_decide_eq_true rfl) ?_
  refine Wp.nameM (fun m e => ?_)
  obtain ⟨R32, D32, rfl, hR, hD⟩ := step_nw 20 4000 hR hD e rfl rfl (fun _ => rfl) (S' := [(152, 24), (152, 25), (152, 26), (152, 27), (152, 28), (152, 29), (152, 30), (152, 31), (152, 34), (152, 35), (152, 43), (152, 45), (152, 47), (152, 48), (152, 49), (152, 50), (152, 51), (152, 54), (152, 55), (152, 56), (152, 58), (152, 60), (152, 61), (152, 62), (152, 63), (152, 64), (152, 65)]) (T' := [(154, 0), (154, 1), (154, 2), (154, 3), (154, 4), (154, 5), (154, 6), (154, 7), (154, 8), (154, 9), (154, 10), (154, 11), (154, 12), (154, 13), (154, 14), (154, 15), (154, 16), (154, 17), (154, 18), (154, 19)]) rfl rfl
  refine sg_pfR (pc := 141) (J := 24) dX10_init_141 fl_10_55 rfl (Or.inr ⟨rfl, rfl⟩) rfl ?_
  refine Wp.nameM (fun m e => ?_)
  obtain ⟨R33, D33, rfl, hR, hD⟩ := step_rf 152 24 163 hR hD e rfl rfl (of_decide_eq_true rfl) (S' := [(152, 25), (152, 26), (152, 27), (152, 28), (152, 29), (152, 30), (152, 31), (152, 34), (152, 35), (152, 43), (152, 45), (152, 47), (152, 48), (152, 49), (152, 50), (152, 51), (152, 54), (152, 55), (152, 56), (152, 58), (152, 60), (152, 61), (152, 62), (152, 63), (152, 64), (152, 65)]) rfl
  refine st_aload_n (pc := 144) dX10_init_144 rfl rfl ?_
  refine sg_sipush (pc := 145) dX10_init_145 (by omega) (by decide) ?_
  refine st_newI (pc := 148) dX10_init_148 (of_decide_eq_true rfl) (of_decide_eq_true rfl) (of_decide_eq_true rfl) (of_decide_eq_true rfl) (of_decide_eq_true rfl) ?_
  refine Wp.nameM (fun m e => ?_)
  obtain ⟨R34, D34, rfl, hR, hD⟩ := step_nw 20 4000 hR hD e rfl rfl (fun _ => rfl) (S' := [(152, 25), (152, 26), (152, 27), (152, 28), (152, 29), (152, 30), (152, 31), (152, 34), (152, 35), (152, 43), (152, 45), (152, 47), (152, 48), (152, 49), (152, 50), (152, 51), (152, 54), (152, 55), (152, 56), (152, 58), (152, 60), (152, 61), (152, 62), (152, 63), (152, 64), (152, 65)]) (T' := [(154, 0), (154, 1), (154, 2), (154, 3), (154, 4), (154, 5), (154, 6), (154, 7), (154, 8), (154, 9), (154, 10), (154, 11), (154, 12), (154, 13), (154, 14), (154, 15), (154, 16), (154, 17), (154, 18), (154, 19)]) rfl rfl
  refine sg_pfR (pc := 150) (J := 25) dX10_init_150 fl_10_58 rfl (Or.inr ⟨rfl, rfl⟩) rfl ?_
  refine Wp.nameM (fun m e => ?_)
  obtain ⟨R35, D35, rfl, hR, hD⟩ := step_rf 152 25 164 hR hD e rfl rfl (of_decide_eq_true rfl) (S' := [(152, 26), (152, 27), (152, 28), (152, 29), (152, 30), (152, 31), (152, 34), (152, 35), (152, 43), (152, 45), (152, 47), (152, 48), (152, 49), (152, 50), (152, 51), (152, 54), (152, 55), (152, 56), (152, 58), (152, 60), (152, 61), (152, 62), (152, 63), (152, 64), (152, 65)]) rfl
  refine st_aload_n (pc := 153) dX10_init_153 rfl rfl ?_
  refine sg_sipush (pc := 154) dX10_init_154 (by omega) (by decide) ?_
  refine st_newI (pc := 157) dX10_init_157 (of_decide_eq_true rfl) (of_decide_eq_true rfl) (of_decide_eq_true rfl) (of_decide_eq_true rfl) (of_decide_eq_true rfl) ?_
  refine Wp.nameM (fun m e => ?_)
  obtain ⟨R36, D36, rfl, hR, hD⟩ := step_nw 20 4000 hR hD e rfl rfl (fun _ => rfl) (S' := [(152, 26), (152, 27), (152, 28), (152, 29), (152, 30), (152, 31), (152, 34), (152, 35), (152, 43), (152, 45), (152, 47), (152, 48), (152, 49), (152, 50), (152, 51), (152, 54), (152, 55), (152, 56), (152, 58), (152, 60), (152, 61), (152, 62), (152, 63), (152, 64), (152, 65)]) (T' := [(154, 0), (154, 1), (154, 2), (154, 3), (154, 4), (154, 5), (154, 6), (154, 7), (154, 8), (154, 9), (154, 10), (154, 11), (154, 12), (154, 13), (154, 14), (154, 15), (154, 16), (154, 17), (154, 18), (154, 19)]) rfl rfl
  refine sg_pfR (pc := 159) (J := 26) dX10_init_159 fl_10_61 rfl (Or.inr ⟨rfl, rfl⟩) rfl ?_
  refine Wp.nameM (fun m e => ?_)
  obtain ⟨R37, D37, rfl, hR, hD⟩ := step_rf 152 26 165 hR hD e rfl rfl (of_decide_eq_true rfl) (S' := [(152, 27), (152, 28), (152, 29), (152, 30), (152, 31), (152, 34), (152, 35), (152, 43), (152, 45), (152, 47), (152, 48), (152, 49), (152, 50), (152, 51), (152, 54), (152, 55), (152, 56), (152, 58), (152, 60), (152, 61), (152, 62), (152, 63), (152, 64), (152, 65)]) rfl
  refine st_aload_n (pc := 162) dX10_init_162 rfl rfl ?_
  refine sg_sipush (pc := 163) dX10_init_163 (by omega) (by decide) ?_
  refine st_newI (pc := 166) dX10_init_166 (of_decide_eq_true rfl) (of_decide_eq_true rfl) (of_decide_eq_true rfl) (of_decide_eq_true rfl) (of_decide_eq_true rfl) ?_
  refine Wp.nameM (fun m e => ?_)
  obtain ⟨R38, D38, rfl, hR, hD⟩ := step_nw 20 4000 hR hD e rfl rfl (fun _ => rfl) (S' := [(152, 27), (152, 28), (152, 29), (152, 30), (152, 31), (152, 34), (152, 35), (152, 43), (152, 45), (152, 47), (152, 48), (152, 49), (152, 50), (152, 51), (152, 54), (152, 55), (152, 56), (152, 58), (152, 60), (152, 61), (152, 62), (152, 63), (152, 64), (152, 65)]) (T' := [(154, 0), (154, 1), (154, 2), (154, 3), (154, 4), (154, 5), (154, 6), (154, 7), (154, 8), (154, 9), (154, 10), (154, 11), (154, 12), (154, 13), (154, 14), (154, 15), (154, 16), (154, 17), (154, 18), (154, 19)]) rfl rfl
  refine sg_pfR (pc := 168) (J := 27) dX10_init_168 fl_10_64 rfl (Or.inr ⟨rfl, rfl⟩) rfl ?_
  refine Wp.nameM (fun m e => ?_)
  obtain ⟨R39, D39, rfl, hR, hD⟩ := step_rf 152 27 166 hR hD e rfl rfl (of_decide_eq_true rfl) (S' := [(152, 28), (152, 29), (152, 30), (152, 31), (152, 34), (152, 35), (152, 43), (152, 45), (152, 47), (152, 48), (152, 49), (152, 50), (152, 51), (152, 54), (152, 55), (152, 56), (152, 58), (152, 60), (152, 61), (152, 62), (152, 63), (152, 64), (152, 65)]) rfl
  refine st_aload_n (pc := 171) dX10_init_171 rfl rfl ?_
  refine sg_sipush (pc := 172) dX10_init_172 (by omega) (by decide) ?_
  refine st_newI (pc := 175) dX10_init_175 (of_decide_eq_true rfl) (of_decide_eq_true rfl) (of_decide_eq_true rfl) (of_decide_eq_true rfl) (of_decide_eq_true rfl) ?_
  refine Wp.nameM (fun m e => ?_)
  obtain ⟨R40, D40, rfl, hR, hD⟩ := step_nw 20 1000 hR hD e rfl rfl (fun _ => rfl) (S' := [(152, 28), (152, 29), (152, 30), (152, 31), (152, 34), (152, 35), (152, 43), (152, 45), (152, 47), (152, 48), (152, 49), (152, 50), (152, 51), (152, 54), (152, 55), (152, 56), (152, 58), (152, 60), (152, 61), (152, 62), (152, 63), (152, 64), (152, 65)]) (T' := [(154, 0), (154, 1), (154, 2), (154, 3), (154, 4), (154, 5), (154, 6), (154, 7), (154, 8), (154, 9), (154, 10), (154, 11), (154, 12), (154, 13), (154, 14), (154, 15), (154, 16), (154, 17), (154, 18), (154, 19)]) rfl rfl
  refine sg_pfR (pc := 177) (J := 28) dX10_init_177 fl_10_67 rfl (Or.inr ⟨rfl, rfl⟩) rfl ?_
  refine Wp.nameM (fun m e => ?_)
  obtain ⟨R41, D41, rfl, hR, hD⟩ := step_rf 152 28 167 hR hD e rfl rfl (of_decide_eq_true rfl) (S' := [(152, 29), (152, 30), (152, 31), (152, 34), (152, 35), (152, 43), (152, 45), (152, 47), (152, 48), (152, 49), (152, 50), (152, 51), (152, 54), (152, 55), (152, 56), (152, 58), (152, 60), (152, 61), (152, 62), (152, 63), (152, 64), (152, 65)]) rfl
  refine st_aload_n (pc := 180) dX10_init_180 rfl rfl ?_
  refine sg_sipush (pc := 181) dX10_init_181 (by omega) (by decide) ?_
  refine st_newI (pc := 184) dX10_init_184 (of_decide_eq_true rfl) (of_decide_eq_true rfl) (of_decide_eq_true rfl) (of_decide_eq_true rfl) (of_decide_eq_true rfl) ?_
  refine Wp.nameM (fun m e => ?_)
  obtain ⟨R42, D42, rfl, hR, hD⟩ := step_nw 20 1000 hR hD e rfl rfl (fun _ => rfl) (S' := [(152, 29), (152, 30), (152, 31), (152, 34), (152, 35), (152, 43), (152, 45), (152, 47), (152, 48), (152, 49), (152, 50), (152, 51), (152, 54), (152, 55), (152, 56), (152, 58), (152, 60), (152, 61), (152, 62), (152, 63), (152, 64), (152, 65)]) (T' := [(154, 0), (154, 1), (154, 2), (154, 3), (154, 4), (154, 5), (154, 6), (154, 7), (154, 8), (154, 9), (154, 10), (154, 11), (154, 12), (154, 13), (154, 14), (154, 15), (154, 16), (154, 17), (154, 18), (154, 19)]) rfl rfl
  refine sg_pfR (pc := 186) (J := 29) dX10_init_186 fl_10_70 rfl (Or.inr ⟨rfl, rfl⟩) rfl ?_
  refine Wp.nameM (fun m e => ?_)
  obtain ⟨R43, D43, rfl, hR, hD⟩ := step_rf 152 29 168 hR hD e rfl rfl (of_decide_eq_true rfl) (S' := [(152, 30), (152, 31), (152, 34), (152, 35), (152, 43), (152, 45), (152, 47), (152, 48), (152, 49), (152, 50), (152, 51), (152, 54), (152, 55), (152, 56), (152, 58), (152, 60), (152, 61), (152, 62), (152, 63), (152, 64), (152, 65)]) rfl
  refine st_aload_n (pc := 189) dX10_init_189 rfl rfl ?_
  refine sg_sipush (pc := 190) dX10_init_190 (by omega) (by decide) ?_
  refine st_newI (pc := 193) dX10_init_193 (of_decide_eq_true rfl) (of_decide_eq_true rfl) (of_decide_eq_true rfl) (of_decide_eq_true rfl) (of_decide_eq_true rfl) ?_
  refine Wp.nameM (fun m e => ?_)
  obtain ⟨R44, D44, rfl, hR, hD⟩ := step_nw 20 1000 hR hD e rfl rfl (fun _ => rfl) (S' := [(152, 30), (152, 31), (152, 34), (152, 35), (152, 43), (152, 45), (152, 47), (152, 48), (152, 49), (152, 50), (152, 51), (152, 54), (152, 55), (152, 56), (152, 58), (152, 60), (152, 61), (152, 62), (152, 63), (152, 64), (152, 65)]) (T' := [(154, 0), (154, 1), (154, 2), (154, 3), (154, 4), (154, 5), (154, 6), (154, 7), (154, 8), (154, 9), (154, 10), (154, 11), (154, 12), (154, 13), (154, 14), (154, 15), (154, 16), (154, 17), (154, 18), (154, 19)]) rfl rfl
  refine sg_pfR (pc := 195) (J := 30) dX10_init_195 fl_10_73 rfl (Or.inr ⟨rfl, rfl⟩) rfl ?_
  refine Wp.nameM (fun m e => ?_)
  obtain ⟨R45, D45, rfl, hR, hD⟩ := step_rf 152 30 169 hR hD e rfl rfl (of_decide_eq_true rfl) (S' := [(152, 31), (152, 34), (152, 35), (152, 43), (152, 45), (152, 47), (152, 48), (152, 49), (152, 50), (152, 51), (152, 54), (152, 55), (152, 56), (152, 58), (152, 60), (152, 61), (152, 62), (152, 63), (152, 64), (152, 65)]) rfl
  refine st_aload_n (pc := 198) dX10_init_198 rfl rfl ?_
  refine sg_sipush (pc := 199) dX10_init_199 (by omega) (by decide) ?_
  refine st_newI (pc := 202) dX10_init_202 (of_decide_eq_true rfl) (of_decide_eq_true rfl) (of_decide_eq_true rfl) (of_decide_eq_true rfl) (of_decide_eq_true rfl) ?_
  refine Wp.nameM (fun m e => ?_)
  obtain ⟨R46, D46, rfl, hR, hD⟩ := step_nw 20 1000 hR hD e rfl rfl (fun _ => rfl) (S' := [(152, 31), (152, 34), (152, 35), (152, 43), (152, 45), (152, 47), (152, 48), (152, 49), (152, 50), (152, 51), (152, 54), (152, 55), (152, 56), (152, 58), (152, 60), (152, 61), (152, 62), (152, 63), (152, 64), (152, 65)]) (T' := [(154, 0), (154, 1), (154, 2), (154, 3), (154, 4), (154, 5), (154, 6), (154, 7), (154, 8), (154, 9), (154, 10), (154, 11), (154, 12), (154, 13), (154, 14), (154, 15), (154, 16), (154, 17), (154, 18), (154, 19)]) rfl rfl
  refine sg_pfR (pc := 204) (J := 31) dX10_init_204 fl_10_76 rfl (Or.inr ⟨rfl, rfl⟩) rfl ?_
  refine Wp.nameM (fun m e => ?_)
  obtain ⟨R47, D47, rfl, hR, hD⟩ := step_rf 152 31 170 hR hD e rfl rfl (of_decide_eq_true rfl) (S' := [(152, 34), (152, 35), (152, 43), (152, 45), (152, 47), (152, 48), (152, 49), (152, 50), (152, 51), (152, 54), (152, 55), (152, 56), (152, 58), (152, 60), (152, 61), (152, 62), (152, 63), (152, 64), (152, 65)]) rfl
  refine st_aload_n (pc := 207) dX10_init_207 rfl rfl ?_
  refine sg_iconst (pc := 208) dX10_init_208 (by omega) ?_
  refine sg_bipush (pc := 209) dX10_init_209 (by omega) (by decide) ?_
  refine st_mna (pc := 211) dX10_init_211 rfl (of_decide_eq_true rfl) (of_decide_eq_true rfl) (of_decide_eq_true rfl) (of_decide_eq_true rfl) (of_decide_eq_true rfl) (of_decide_eq_true rfl) (of_decide_eq_true rfl) ?_
  refine Wp.nameM (fun m e => ?_)
  obtain ⟨R48, D48, rfl, hR, hD⟩ := step_mna hR hD e (fun o j h0 h1 => by show (if 8 ≤ o ∧ o ≤ 15 then G o j else (if o < 4 then B o j else dv o j)) = 0; rw [if_neg (by omega), if_neg (by omega)]; exact dv_hi h0 h1)
  refine sg_pfR (pc := 215) (J := 34) dX10_init_215 fl_10_81 rfl (Or.inr ⟨rfl, rfl⟩) rfl ?_
  refine Wp.nameM (fun m e => ?_)
  obtain ⟨R49, D49, rfl, hR, hD⟩ := step_rf 152 34 171 hR hD e rfl rfl (of_decide_eq_true rfl) (S' := [(152, 35), (152, 43), (152, 45), (152, 47), (152, 48), (152, 49), (152, 50), (152, 51), (152, 54), (152, 55), (152, 56), (152, 58), (152, 60), (152, 61), (152, 62), (152, 63), (152, 64), (152, 65)]) rfl
  refine st_aload_n (pc := 218) dX10_init_218 rfl rfl ?_
  refine sg_iconst (pc := 219) dX10_init_219 (by omega) ?_
  refine st_newI (pc := 220) dX10_init_220 (of_decide_eq_true rfl) (of_decide_eq_true rfl) (of_decide_eq_true rfl) (of_decide_eq_true rfl) (of_decide_eq_true rfl) ?_
  refine Wp.nameM (fun m e => ?_)
  obtain ⟨R50, D50, rfl, hR, hD⟩ := step_nw 20 3 hR hD e rfl rfl (fun _ => rfl) (S' := [(152, 35), (152, 43), (152, 45), (152, 47), (152, 48), (152, 49), (152, 50), (152, 51), (152, 54), (152, 55), (152, 56), (152, 58), (152, 60), (152, 61), (152, 62), (152, 63), (152, 64), (152, 65)]) (T' := [(154, 0), (154, 1), (154, 2), (154, 3), (154, 4), (154, 5), (154, 6), (154, 7), (154, 8), (154, 9), (154, 10), (154, 11), (154, 12), (154, 13), (154, 14), (154, 15), (154, 16), (154, 17), (154, 18), (154, 19)]) rfl rfl
  refine sg_pfR (pc := 222) (J := 35) dX10_init_222 fl_10_84 rfl (Or.inr ⟨rfl, rfl⟩) rfl ?_
  refine Wp.nameM (fun m e => ?_)
  obtain ⟨R51, D51, rfl, hR, hD⟩ := step_rf 152 35 175 hR hD e rfl rfl (of_decide_eq_true rfl) (S' := [(152, 43), (152, 45), (152, 47), (152, 48), (152, 49), (152, 50), (152, 51), (152, 54), (152, 55), (152, 56), (152, 58), (152, 60), (152, 61), (152, 62), (152, 63), (152, 64), (152, 65)]) rfl
  refine st_aload_n (pc := 225) dX10_init_225 rfl rfl ?_
  refine sg_sipush (pc := 226) dX10_init_226 (by omega) (by decide) ?_
  refine st_newI (pc := 229) dX10_init_229 (of_decide_eq_true rfl) (of_decide_eq_true rfl) (of_decide_eq_true rfl) (of_decide_eq_true rfl) (of_decide_eq_true rfl) ?_
  refine Wp.nameM (fun m e => ?_)
  obtain ⟨R52, D52, rfl, hR, hD⟩ := step_nw 20 1050 hR hD e rfl rfl (fun _ => rfl) (S' := [(152, 43), (152, 45), (152, 47), (152, 48), (152, 49), (152, 50), (152, 51), (152, 54), (152, 55), (152, 56), (152, 58), (152, 60), (152, 61), (152, 62), (152, 63), (152, 64), (152, 65)]) (T' := [(154, 0), (154, 1), (154, 2), (154, 3), (154, 4), (154, 5), (154, 6), (154, 7), (154, 8), (154, 9), (154, 10), (154, 11), (154, 12), (154, 13), (154, 14), (154, 15), (154, 16), (154, 17), (154, 18), (154, 19)]) rfl rfl
  refine sg_pfR (pc := 231) (J := 43) dX10_init_231 fl_10_87 rfl (Or.inr ⟨rfl, rfl⟩) rfl ?_
  refine Wp.nameM (fun m e => ?_)
  obtain ⟨R53, D53, rfl, hR, hD⟩ := step_rf 152 43 176 hR hD e rfl rfl (of_decide_eq_true rfl) (S' := [(152, 45), (152, 47), (152, 48), (152, 49), (152, 50), (152, 51), (152, 54), (152, 55), (152, 56), (152, 58), (152, 60), (152, 61), (152, 62), (152, 63), (152, 64), (152, 65)]) rfl
  refine st_aload_n (pc := 234) dX10_init_234 rfl rfl ?_
  refine sg_sipush (pc := 235) dX10_init_235 (by omega) (by decide) ?_
  refine st_newI (pc := 238) dX10_init_238 (of_decide_eq_true rfl) (of_decide_eq_true rfl) (of_decide_eq_true rfl) (of_decide_eq_true rfl) (of_decide_eq_true rfl) ?_
  refine Wp.nameM (fun m e => ?_)
  obtain ⟨R54, D54, rfl, hR, hD⟩ := step_nw 20 420 hR hD e rfl rfl (fun _ => rfl) (S' := [(152, 45), (152, 47), (152, 48), (152, 49), (152, 50), (152, 51), (152, 54), (152, 55), (152, 56), (152, 58), (152, 60), (152, 61), (152, 62), (152, 63), (152, 64), (152, 65)]) (T' := [(154, 0), (154, 1), (154, 2), (154, 3), (154, 4), (154, 5), (154, 6), (154, 7), (154, 8), (154, 9), (154, 10), (154, 11), (154, 12), (154, 13), (154, 14), (154, 15), (154, 16), (154, 17), (154, 18), (154, 19)]) rfl rfl
  refine sg_pfR (pc := 240) (J := 45) dX10_init_240 fl_10_90 rfl (Or.inr ⟨rfl, rfl⟩) rfl ?_
  refine Wp.nameM (fun m e => ?_)
  obtain ⟨R55, D55, rfl, hR, hD⟩ := step_rf 152 45 177 hR hD e rfl rfl (of_decide_eq_true rfl) (S' := [(152, 47), (152, 48), (152, 49), (152, 50), (152, 51), (152, 54), (152, 55), (152, 56), (152, 58), (152, 60), (152, 61), (152, 62), (152, 63), (152, 64), (152, 65)]) rfl
  refine st_aload_n (pc := 243) dX10_init_243 rfl rfl ?_
  refine sg_sipush (pc := 244) dX10_init_244 (by omega) (by decide) ?_
  refine st_newI (pc := 247) dX10_init_247 (of_decide_eq_true rfl) (of_decide_eq_true rfl) (of_decide_eq_true rfl) (of_decide_eq_true rfl) (of_decide_eq_true rfl) ?_
  refine Wp.nameM (fun m e => ?_)
  obtain ⟨R56, D56, rfl, hR, hD⟩ := step_nw 20 402 hR hD e rfl rfl (fun _ => rfl) (S' := [(152, 47), (152, 48), (152, 49), (152, 50), (152, 51), (152, 54), (152, 55), (152, 56), (152, 58), (152, 60), (152, 61), (152, 62), (152, 63), (152, 64), (152, 65)]) (T' := [(154, 0), (154, 1), (154, 2), (154, 3), (154, 4), (154, 5), (154, 6), (154, 7), (154, 8), (154, 9), (154, 10), (154, 11), (154, 12), (154, 13), (154, 14), (154, 15), (154, 16), (154, 17), (154, 18), (154, 19)]) rfl rfl
  refine sg_pfR (pc := 249) (J := 47) dX10_init_249 fl_10_93 rfl (Or.inr ⟨rfl, rfl⟩) rfl ?_
  refine Wp.nameM (fun m e => ?_)
  obtain ⟨R57, D57, rfl, hR, hD⟩ := step_rf 152 47 178 hR hD e rfl rfl (of_decide_eq_true rfl) (S' := [(152, 48), (152, 49), (152, 50), (152, 51), (152, 54), (152, 55), (152, 56), (152, 58), (152, 60), (152, 61), (152, 62), (152, 63), (152, 64), (152, 65)]) rfl
  refine st_aload_n (pc := 252) dX10_init_252 rfl rfl ?_
  refine sg_sipush (pc := 253) dX10_init_253 (by omega) (by decide) ?_
  refine st_newI (pc := 256) dX10_init_256 (of_decide_eq_true rfl) (of_decide_eq_true rfl) (of_decide_eq_true rfl) (of_decide_eq_true rfl) (of_decide_eq_true rfl) ?_
  refine Wp.nameM (fun m e => ?_)
  obtain ⟨R58, D58, rfl, hR, hD⟩ := step_nw 20 1000 hR hD e rfl rfl (fun _ => rfl) (S' := [(152, 48), (152, 49), (152, 50), (152, 51), (152, 54), (152, 55), (152, 56), (152, 58), (152, 60), (152, 61), (152, 62), (152, 63), (152, 64), (152, 65)]) (T' := [(154, 0), (154, 1), (154, 2), (154, 3), (154, 4), (154, 5), (154, 6), (154, 7), (154, 8), (154, 9), (154, 10), (154, 11), (154, 12), (154, 13), (154, 14), (154, 15), (154, 16), (154, 17), (154, 18), (154, 19)]) rfl rfl
  refine sg_pfR (pc := 258) (J := 48) dX10_init_258 fl_10_96 rfl (Or.inr ⟨rfl, rfl⟩) rfl ?_
  refine Wp.nameM (fun m e => ?_)
  obtain ⟨R59, D59, rfl, hR, hD⟩ := step_rf 152 48 179 hR hD e rfl rfl (of_decide_eq_true rfl) (S' := [(152, 49), (152, 50), (152, 51), (152, 54), (152, 55), (152, 56), (152, 58), (152, 60), (152, 61), (152, 62), (152, 63), (152, 64), (152, 65)]) rfl
  refine st_aload_n (pc := 261) dX10_init_261 rfl rfl ?_
  refine sg_iconst (pc := 262) dX10_init_262 (by omega) ?_
  refine st_newI (pc := 263) dX10_init_263 (of_decide_eq_true rfl) (of_decide_eq_true rfl) (of_decide_eq_true rfl) (of_decide_eq_true rfl) (of_decide_eq_true rfl) ?_
  refine Wp.nameM (fun m e => ?_)
  obtain ⟨R60, D60, rfl, hR, hD⟩ := step_nw 20 4 hR hD e rfl rfl (fun _ => rfl) (S' := [(152, 49), (152, 50), (152, 51), (152, 54), (152, 55), (152, 56), (152, 58), (152, 60), (152, 61), (152, 62), (152, 63), (152, 64), (152, 65)]) (T' := [(154, 0), (154, 1), (154, 2), (154, 3), (154, 4), (154, 5), (154, 6), (154, 7), (154, 8), (154, 9), (154, 10), (154, 11), (154, 12), (154, 13), (154, 14), (154, 15), (154, 16), (154, 17), (154, 18), (154, 19)]) rfl rfl
  refine sg_pfR (pc := 265) (J := 49) dX10_init_265 fl_10_99 rfl (Or.inr ⟨rfl, rfl⟩) rfl ?_
  refine Wp.nameM (fun m e => ?_)
  obtain ⟨R61, D61, rfl, hR, hD⟩ := step_rf 152 49 180 hR hD e rfl rfl (of_decide_eq_true rfl) (S' := [(152, 50), (152, 51), (152, 54), (152, 55), (152, 56), (152, 58), (152, 60), (152, 61), (152, 62), (152, 63), (152, 64), (152, 65)]) rfl
  refine st_aload_n (pc := 268) dX10_init_268 rfl rfl ?_
  refine sg_iconst (pc := 269) dX10_init_269 (by omega) ?_
  refine st_newI (pc := 270) dX10_init_270 (of_decide_eq_true rfl) (of_decide_eq_true rfl) (of_decide_eq_true rfl) (of_decide_eq_true rfl) (of_decide_eq_true rfl) ?_
  refine Wp.nameM (fun m e => ?_)
  obtain ⟨R62, D62, rfl, hR, hD⟩ := step_nw 20 4 hR hD e rfl rfl (fun _ => rfl) (S' := [(152, 50), (152, 51), (152, 54), (152, 55), (152, 56), (152, 58), (152, 60), (152, 61), (152, 62), (152, 63), (152, 64), (152, 65)]) (T' := [(154, 0), (154, 1), (154, 2), (154, 3), (154, 4), (154, 5), (154, 6), (154, 7), (154, 8), (154, 9), (154, 10), (154, 11), (154, 12), (154, 13), (154, 14), (154, 15), (154, 16), (154, 17), (154, 18), (154, 19)]) rfl rfl
  refine sg_pfR (pc := 272) (J := 50) dX10_init_272 fl_10_102 rfl (Or.inr ⟨rfl, rfl⟩) rfl ?_
  refine Wp.nameM (fun m e => ?_)
  obtain ⟨R63, D63, rfl, hR, hD⟩ := step_rf 152 50 181 hR hD e rfl rfl (of_decide_eq_true rfl) (S' := [(152, 51), (152, 54), (152, 55), (152, 56), (152, 58), (152, 60), (152, 61), (152, 62), (152, 63), (152, 64), (152, 65)]) rfl
  refine st_aload_n (pc := 275) dX10_init_275 rfl rfl ?_
  refine sg_iconst (pc := 276) dX10_init_276 (by omega) ?_
  refine st_newI (pc := 277) dX10_init_277 (of_decide_eq_true rfl) (of_decide_eq_true rfl) (of_decide_eq_true rfl) (of_decide_eq_true rfl) (of_decide_eq_true rfl) ?_
  refine Wp.nameM (fun m e => ?_)
  obtain ⟨R64, D64, rfl, hR, hD⟩ := step_nw 20 4 hR hD e rfl rfl (fun _ => rfl) (S' := [(152, 51), (152, 54), (152, 55), (152, 56), (152, 58), (152, 60), (152, 61), (152, 62), (152, 63), (152, 64), (152, 65)]) (T' := [(154, 0), (154, 1), (154, 2), (154, 3), (154, 4), (154, 5), (154, 6), (154, 7), (154, 8), (154, 9), (154, 10), (154, 11), (154, 12), (154, 13), (154, 14), (154, 15), (154, 16), (154, 17), (154, 18), (154, 19)]) rfl rfl
  refine sg_pfR (pc := 279) (J := 51) dX10_init_279 fl_10_105 rfl (Or.inr ⟨rfl, rfl⟩) rfl ?_
  refine Wp.nameM (fun m e => ?_)
  obtain ⟨R65, D65, rfl, hR, hD⟩ := step_rf 152 51 182 hR hD e rfl rfl (of_decide_eq_true rfl) (S' := [(152, 54), (152, 55), (152, 56), (152, 58), (152, 60), (152, 61), (152, 62), (152, 63), (152, 64), (152, 65)]) rfl
  refine st_aload_n (pc := 282) dX10_init_282 rfl rfl ?_
  refine sg_sipush (pc := 283) dX10_init_283 (by omega) (by decide) ?_
  refine st_newI (pc := 286) dX10_init_286 (of_decide_eq_true rfl) (of_decide_eq_true rfl) (of_decide_eq_true rfl) (of_decide_eq_true rfl) (of_decide_eq_true rfl) ?_
  refine Wp.nameM (fun m e => ?_)
  obtain ⟨R66, D66, rfl, hR, hD⟩ := step_nw 20 420 hR hD e rfl rfl (fun _ => rfl) (S' := [(152, 54), (152, 55), (152, 56), (152, 58), (152, 60), (152, 61), (152, 62), (152, 63), (152, 64), (152, 65)]) (T' := [(154, 0), (154, 1), (154, 2), (154, 3), (154, 4), (154, 5), (154, 6), (154, 7), (154, 8), (154, 9), (154, 10), (154, 11), (154, 12), (154, 13), (154, 14), (154, 15), (154, 16), (154, 17), (154, 18), (154, 19)]) rfl rfl
  refine sg_pfR (pc := 288) (J := 54) dX10_init_288 fl_10_108 rfl (Or.inr ⟨rfl, rfl⟩) rfl ?_
  refine Wp.nameM (fun m e => ?_)
  obtain ⟨R67, D67, rfl, hR, hD⟩ := step_rf 152 54 183 hR hD e rfl rfl (of_decide_eq_true rfl) (S' := [(152, 55), (152, 56), (152, 58), (152, 60), (152, 61), (152, 62), (152, 63), (152, 64), (152, 65)]) rfl
  refine st_aload_n (pc := 291) dX10_init_291 rfl rfl ?_
  refine sg_bipush (pc := 292) dX10_init_292 (by omega) (by decide) ?_
  refine st_newI (pc := 294) dX10_init_294 (of_decide_eq_true rfl) (of_decide_eq_true rfl) (of_decide_eq_true rfl) (of_decide_eq_true rfl) (of_decide_eq_true rfl) ?_
  refine Wp.nameM (fun m e => ?_)
  obtain ⟨R68, D68, rfl, hR, hD⟩ := step_nw 20 105 hR hD e rfl rfl (fun _ => rfl) (S' := [(152, 55), (152, 56), (152, 58), (152, 60), (152, 61), (152, 62), (152, 63), (152, 64), (152, 65)]) (T' := [(154, 0), (154, 1), (154, 2), (154, 3), (154, 4), (154, 5), (154, 6), (154, 7), (154, 8), (154, 9), (154, 10), (154, 11), (154, 12), (154, 13), (154, 14), (154, 15), (154, 16), (154, 17), (154, 18), (154, 19)]) rfl rfl
  refine sg_pfR (pc := 296) (J := 55) dX10_init_296 fl_10_111 rfl (Or.inr ⟨rfl, rfl⟩) rfl ?_
  refine Wp.nameM (fun m e => ?_)
  obtain ⟨R69, D69, rfl, hR, hD⟩ := step_rf 152 55 184 hR hD e rfl rfl (of_decide_eq_true rfl) (S' := [(152, 56), (152, 58), (152, 60), (152, 61), (152, 62), (152, 63), (152, 64), (152, 65)]) rfl
  refine st_aload_n (pc := 299) dX10_init_299 rfl rfl ?_
  refine sg_bipush (pc := 300) dX10_init_300 (by omega) (by decide) ?_
  refine st_newI (pc := 302) dX10_init_302 (of_decide_eq_true rfl) (of_decide_eq_true rfl) (of_decide_eq_true rfl) (of_decide_eq_true rfl) (of_decide_eq_true rfl) ?_
  refine Wp.nameM (fun m e => ?_)
  obtain ⟨R70, D70, rfl, hR, hD⟩ := step_nw 20 20 hR hD e rfl rfl (fun _ => rfl) (S' := [(152, 56), (152, 58), (152, 60), (152, 61), (152, 62), (152, 63), (152, 64), (152, 65)]) (T' := [(154, 0), (154, 1), (154, 2), (154, 3), (154, 4), (154, 5), (154, 6), (154, 7), (154, 8), (154, 9), (154, 10), (154, 11), (154, 12), (154, 13), (154, 14), (154, 15), (154, 16), (154, 17), (154, 18), (154, 19)]) rfl rfl
  refine sg_pfR (pc := 304) (J := 56) dX10_init_304 fl_10_114 rfl (Or.inr ⟨rfl, rfl⟩) rfl ?_
  refine Wp.nameM (fun m e => ?_)
  obtain ⟨R71, D71, rfl, hR, hD⟩ := step_rf 152 56 185 hR hD e rfl rfl (of_decide_eq_true rfl) (S' := [(152, 58), (152, 60), (152, 61), (152, 62), (152, 63), (152, 64), (152, 65)]) rfl
  refine st_aload_n (pc := 307) dX10_init_307 rfl rfl ?_
  refine sg_bipush (pc := 308) dX10_init_308 (by omega) (by decide) ?_
  refine st_newI (pc := 310) dX10_init_310 (of_decide_eq_true rfl) (of_decide_eq_true rfl) (of_decide_eq_true rfl) (of_decide_eq_true rfl) (of_decide_eq_true rfl) ?_
  refine Wp.nameM (fun m e => ?_)
  obtain ⟨R72, D72, rfl, hR, hD⟩ := step_nw 20 12 hR hD e rfl rfl (fun _ => rfl) (S' := [(152, 58), (152, 60), (152, 61), (152, 62), (152, 63), (152, 64), (152, 65)]) (T' := [(154, 0), (154, 1), (154, 2), (154, 3), (154, 4), (154, 5), (154, 6), (154, 7), (154, 8), (154, 9), (154, 10), (154, 11), (154, 12), (154, 13), (154, 14), (154, 15), (154, 16), (154, 17), (154, 18), (154, 19)]) rfl rfl
  refine sg_pfR (pc := 312) (J := 58) dX10_init_312 fl_10_117 rfl (Or.inr ⟨rfl, rfl⟩) rfl ?_
  refine Wp.nameM (fun m e => ?_)
  obtain ⟨R73, D73, rfl, hR, hD⟩ := step_rf 152 58 186 hR hD e rfl rfl (of_decide_eq_true rfl) (S' := [(152, 60), (152, 61), (152, 62), (152, 63), (152, 64), (152, 65)]) rfl
  refine st_aload_n (pc := 315) dX10_init_315 rfl rfl ?_
  refine sg_bipush (pc := 316) dX10_init_316 (by omega) (by decide) ?_
  refine st_newI (pc := 318) dX10_init_318 (of_decide_eq_true rfl) (of_decide_eq_true rfl) (of_decide_eq_true rfl) (of_decide_eq_true rfl) (of_decide_eq_true rfl) ?_
  refine Wp.nameM (fun m e => ?_)
  obtain ⟨R74, D74, rfl, hR, hD⟩ := step_nw 20 20 hR hD e rfl rfl (fun _ => rfl) (S' := [(152, 60), (152, 61), (152, 62), (152, 63), (152, 64), (152, 65)]) (T' := [(154, 0), (154, 1), (154, 2), (154, 3), (154, 4), (154, 5), (154, 6), (154, 7), (154, 8), (154, 9), (154, 10), (154, 11), (154, 12), (154, 13), (154, 14), (154, 15), (154, 16), (154, 17), (154, 18), (154, 19)]) rfl rfl
  refine sg_pfR (pc := 320) (J := 60) dX10_init_320 fl_10_120 rfl (Or.inr ⟨rfl, rfl⟩) rfl ?_
  refine Wp.nameM (fun m e => ?_)
  obtain ⟨R75, D75, rfl, hR, hD⟩ := step_rf 152 60 187 hR hD e rfl rfl (of_decide_eq_true rfl) (S' := [(152, 61), (152, 62), (152, 63), (152, 64), (152, 65)]) rfl
  refine st_aload_n (pc := 323) dX10_init_323 rfl rfl ?_
  refine sg_bipush (pc := 324) dX10_init_324 (by omega) (by decide) ?_
  refine st_newI (pc := 326) dX10_init_326 (of_decide_eq_true rfl) (of_decide_eq_true rfl) (of_decide_eq_true rfl) (of_decide_eq_true rfl) (of_decide_eq_true rfl) ?_
  refine Wp.nameM (fun m e => ?_)
  obtain ⟨R76, D76, rfl, hR, hD⟩ := step_nw 20 20 hR hD e rfl rfl (fun _ => rfl) (S' := [(152, 61), (152, 62), (152, 63), (152, 64), (152, 65)]) (T' := [(154, 0), (154, 1), (154, 2), (154, 3), (154, 4), (154, 5), (154, 6), (154, 7), (154, 8), (154, 9), (154, 10), (154, 11), (154, 12), (154, 13), (154, 14), (154, 15), (154, 16), (154, 17), (154, 18), (154, 19)]) rfl rfl
  refine sg_pfR (pc := 328) (J := 61) dX10_init_328 fl_10_123 rfl (Or.inr ⟨rfl, rfl⟩) rfl ?_
  refine Wp.nameM (fun m e => ?_)
  obtain ⟨R77, D77, rfl, hR, hD⟩ := step_rf 152 61 188 hR hD e rfl rfl (of_decide_eq_true rfl) (S' := [(152, 62), (152, 63), (152, 64), (152, 65)]) rfl
  refine st_aload_n (pc := 331) dX10_init_331 rfl rfl ?_
  refine sg_bipush (pc := 332) dX10_init_332 (by omega) (by decide) ?_
  refine st_newI (pc := 334) dX10_init_334 (of_decide_eq_true rfl) (of_decide_eq_true rfl) (of_decide_eq_true rfl) (of_decide_eq_true rfl) (of_decide_eq_true rfl) ?_
  refine Wp.nameM (fun m e => ?_)
  obtain ⟨R78, D78, rfl, hR, hD⟩ := step_nw 20 20 hR hD e rfl rfl (fun _ => rfl) (S' := [(152, 62), (152, 63), (152, 64), (152, 65)]) (T' := [(154, 0), (154, 1), (154, 2), (154, 3), (154, 4), (154, 5), (154, 6), (154, 7), (154, 8), (154, 9), (154, 10), (154, 11), (154, 12), (154, 13), (154, 14), (154, 15), (154, 16), (154, 17), (154, 18), (154, 19)]) rfl rfl
  refine sg_pfR (pc := 336) (J := 62) dX10_init_336 fl_10_126 rfl (Or.inr ⟨rfl, rfl⟩) rfl ?_
  refine Wp.nameM (fun m e => ?_)
  obtain ⟨R79, D79, rfl, hR, hD⟩ := step_rf 152 62 189 hR hD e rfl rfl (of_decide_eq_true rfl) (S' := [(152, 63), (152, 64), (152, 65)]) rfl
  refine st_aload_n (pc := 339) dX10_init_339 rfl rfl ?_
  refine sg_bipush (pc := 340) dX10_init_340 (by omega) (by decide) ?_
  refine st_newI (pc := 342) dX10_init_342 (of_decide_eq_true rfl) (of_decide_eq_true rfl) (of_decide_eq_true rfl) (of_decide_eq_true rfl) (of_decide_eq_true rfl) ?_
  refine Wp.nameM (fun m e => ?_)
  obtain ⟨R80, D80, rfl, hR, hD⟩ := step_nw 20 20 hR hD e rfl rfl (fun _ => rfl) (S' := [(152, 63), (152, 64), (152, 65)]) (T' := [(154, 0), (154, 1), (154, 2), (154, 3), (154, 4), (154, 5), (154, 6), (154, 7), (154, 8), (154, 9), (154, 10), (154, 11), (154, 12), (154, 13), (154, 14), (154, 15), (154, 16), (154, 17), (154, 18), (154, 19)]) rfl rfl
  refine sg_pfR (pc := 344) (J := 63) dX10_init_344 fl_10_129 rfl (Or.inr ⟨rfl, rfl⟩) rfl ?_
  refine Wp.nameM (fun m e => ?_)
  obtain ⟨R81, D81, rfl, hR, hD⟩ := step_rf 152 63 190 hR hD e rfl rfl (of_decide_eq_true rfl) (S' := [(152, 64), (152, 65)]) rfl
  refine st_aload_n (pc := 347) dX10_init_347 rfl rfl ?_
  refine sg_iconst (pc := 348) dX10_init_348 (by omega) ?_
  refine st_newZ (pc := 349) dX10_init_349 (of_decide_eq_true rfl) (of_decide_eq_true rfl) (of_decide_eq_true rfl) (of_decide_eq_true rfl) (of_decide_eq_true rfl) ?_
  refine Wp.nameM (fun m e => ?_)
  obtain ⟨R82, D82, rfl, hR, hD⟩ := step_nw 24 3 hR hD e rfl rfl (fun _ => rfl) (S' := [(152, 64), (152, 65)]) (T' := [(154, 0), (154, 1), (154, 2), (154, 3), (154, 4), (154, 5), (154, 6), (154, 7), (154, 8), (154, 9), (154, 10), (154, 11), (154, 12), (154, 13), (154, 14), (154, 15), (154, 16), (154, 17), (154, 18), (154, 19)]) rfl rfl
  refine sg_pfR (pc := 351) (J := 64) dX10_init_351 fl_10_132 rfl (Or.inr ⟨rfl, rfl⟩) rfl ?_
  refine Wp.nameM (fun m e => ?_)
  obtain ⟨R83, D83, rfl, hR, hD⟩ := step_rf 152 64 191 hR hD e rfl rfl (of_decide_eq_true rfl) (S' := [(152, 65)]) rfl
  refine st_aload_n (pc := 354) dX10_init_354 rfl rfl ?_
  refine sg_iconst (pc := 355) dX10_init_355 (by omega) ?_
  refine st_newI (pc := 356) dX10_init_356 (of_decide_eq_true rfl) (of_decide_eq_true rfl) (of_decide_eq_true rfl) (of_decide_eq_true rfl) (of_decide_eq_true rfl) ?_
  refine Wp.nameM (fun m e => ?_)
  obtain ⟨R84, D84, rfl, hR, hD⟩ := step_nw 20 3 hR hD e rfl rfl (fun _ => rfl) (S' := [(152, 65)]) (T' := [(154, 0), (154, 1), (154, 2), (154, 3), (154, 4), (154, 5), (154, 6), (154, 7), (154, 8), (154, 9), (154, 10), (154, 11), (154, 12), (154, 13), (154, 14), (154, 15), (154, 16), (154, 17), (154, 18), (154, 19)]) rfl rfl
  refine sg_pfR (pc := 358) (J := 65) dX10_init_358 fl_10_136 rfl (Or.inr ⟨rfl, rfl⟩) rfl ?_
  refine Wp.nameM (fun m e => ?_)
  obtain ⟨R85, D85, rfl, hR, hD⟩ := step_rf 152 65 192 hR hD e rfl rfl (of_decide_eq_true rfl) (S' := []) rfl
  refine sg_iconst (pc := 361) dX10_init_361 (by omega) ?_
  refine sg_istore_n (pc := 362) (ls' := [some (vr 152), some (vi 0)]) dX10_init_362 rfl (by show (1 : Nat) < 2; decide) rfl ?_
  refine st_iload_n (pc := 363) dX10_init_363 rfl rfl ?_
  refine sg_bipush (pc := 364) dX10_init_364 (by omega) (by decide) ?_
  refine st_icmpge (pc := 366) (tgt := 383) dX10_init_366 rfl (fun c => absurd c (by decide)) (fun c => ?_)
  refine st_aload_n (pc := 369) dX10_init_369 rfl rfl ?_
  refine sg_gfR (pc := 370) (J := 4) dX10_init_370 fl_10_23 rfl rfl ?_
  rw [show mR (BM n1 193 R85 D85) 152 4 = 154 from hR.at 152 4 (of_decide_eq_true rfl) (by decide)]
  refine st_iload_n (pc := 373) dX10_init_373 rfl rfl ?_
  refine sg_bipush (pc := 374) dX10_init_374 (by omega) (by decide) ?_
  refine st_iastore (pc := 376) (a := 154) dX10_init_376 rfl (of_decide_eq_true rfl) (of_decide_eq_true rfl) ?_
  refine Wp.nameM (fun m e => ?_)
  obtain ⟨R86, D86, rfl, hR, hD⟩ := step_nm 154 0 100 hR hD e rfl rfl (T' := [(154, 1), (154, 2), (154, 3), (154, 4), (154, 5), (154, 6), (154, 7), (154, 8), (154, 9), (154, 10), (154, 11), (154, 12), (154, 13), (154, 14), (154, 15), (154, 16), (154, 17), (154, 18), (154, 19)]) rfl
  refine sg_iinc (pc := 377) (ls' := [some (vr 152), some (vi 1)]) dX10_init_377 rfl rfl ?_
  refine st_goto (pc := 380) (tgt := 363) dX10_init_380 rfl ?_
  refine st_iload_n (pc := 363) dX10_init_363 rfl rfl ?_
  refine sg_bipush (pc := 364) dX10_init_364 (by omega) (by decide) ?_
  refine st_icmpge (pc := 366) (tgt := 383) dX10_init_366 rfl (fun c => absurd c (by decide)) (fun c => ?_)
  refine st_aload_n (pc := 369) dX10_init_369 rfl rfl ?_
  refine sg_gfR (pc := 370) (J := 4) dX10_init_370 fl_10_23 rfl rfl ?_
  rw [show mR (BM n1 193 R86 D86) 152 4 = 154 from hR.at 152 4 (of_decide_eq_true rfl) (by decide)]
  refine st_iload_n (pc := 373) dX10_init_373 rfl rfl ?_
  refine sg_bipush (pc := 374) dX10_init_374 (by omega) (by decide) ?_
  refine st_iastore (pc := 376) (a := 154) dX10_init_376 rfl (of_decide_eq_true rfl) (of_decide_eq_true rfl) ?_
  refine Wp.nameM (fun m e => ?_)
  obtain ⟨R87, D87, rfl, hR, hD⟩ := step_nm 154 1 100 hR hD e rfl rfl (T' := [(154, 2), (154, 3), (154, 4), (154, 5), (154, 6), (154, 7), (154, 8), (154, 9), (154, 10), (154, 11), (154, 12), (154, 13), (154, 14), (154, 15), (154, 16), (154, 17), (154, 18), (154, 19)]) rfl
  refine sg_iinc (pc := 377) (ls' := [some (vr 152), some (vi 2)]) dX10_init_377 rfl rfl ?_
  refine st_goto (pc := 380) (tgt := 363) dX10_init_380 rfl ?_
  refine st_iload_n (pc := 363) dX10_init_363 rfl rfl ?_
  refine sg_bipush (pc := 364) dX10_init_364 (by omega) (by decide) ?_
  refine st_icmpge (pc := 366) (tgt := 383) dX10_init_366 rfl (fun c => absurd c (by decide)) (fun c => ?_)
  refine st_aload_n (pc := 369) dX10_init_369 rfl rfl ?_
  refine sg_gfR (pc := 370) (J := 4) dX10_init_370 fl_10_23 rfl rfl ?_
  rw [show mR (BM n1 193 R87 D87) 152 4 = 154 from hR.at 152 4 (of_decide_eq_true rfl) (by decide)]
  refine st_iload_n (pc := 373) dX10_init_373 rfl rfl ?_
  refine sg_bipush (pc := 374) dX10_init_374 (by omega) (by decide) ?_
  refine st_iastore (pc := 376) (a := 154) dX10_init_376 rfl (of_decide_eq_true rfl) (of_decide_eq_true rfl) ?_
  refine Wp.nameM (fun m e => ?_)
  obtain ⟨R88, D88, rfl, hR, hD⟩ := step_nm 154 2 100 hR hD e rfl rfl (T' := [(154, 3), (154, 4), (154, 5), (154, 6), (154, 7), (154, 8), (154, 9), (154, 10), (154, 11), (154, 12), (154, 13), (154, 14), (154, 15), (154, 16), (154, 17), (154, 18), (154, 19)]) rfl
  refine sg_iinc (pc := 377) (ls' := [some (vr 152), some (vi 3)]) dX10_init_377 rfl rfl ?_
  refine st_goto (pc := 380) (tgt := 363) dX10_init_380 rfl ?_
  refine st_iload_n (pc := 363) dX10_init_363 rfl rfl ?_
  refine sg_bipush (pc := 364) dX10_init_364 (by omega) (by decide) ?_
  refine st_icmpge (pc := 366) (tgt := 383) dX10_init_366 rfl (fun c => absurd c (by decide)) (fun c => ?_)
  refine st_aload_n (pc := 369) dX10_init_369 rfl rfl ?_
  refine sg_gfR (pc := 370) (J := 4) dX10_init_370 fl_10_23 rfl rfl ?_
  rw [show mR (BM n1 193 R88 D88) 152 4 = 154 from hR.at 152 4 (of_decide_eq_true rfl) (by decide)]
  refine st_iload_n (pc := 373) dX10_init_373 rfl rfl ?_
  refine sg_bipush (pc := 374) dX10_init_374 (by omega) (by decide) ?_
  refine st_iastore (pc := 376) (a := 154) dX10_init_376 rfl (of_decide_eq_true rfl) (of_decide_eq_true rfl) ?_
  refine Wp.nameM (fun m e => ?_)
  obtain ⟨R89, D89, rfl, hR, hD⟩ := step_nm 154 3 100 hR hD e rfl rfl (T' := [(154, 4), (154, 5), (154, 6), (154, 7), (154, 8), (154, 9), (154, 10), (154, 11), (154, 12), (154, 13), (154, 14), (154, 15), (154, 16), (154, 17), (154, 18), (154, 19)]) rfl
  refine sg_iinc (pc := 377) (ls' := [some (vr 152), some (vi 4)]) dX10_init_377 rfl rfl ?_
  refine st_goto (pc := 380) (tgt := 363) dX10_init_380 rfl ?_
  refine st_iload_n (pc := 363) dX10_init_363 rfl rfl ?_
  refine sg_bipush (pc := 364) dX10_init_364 (by omega) (by decide) ?_
  refine st_icmpge (pc := 366) (tgt := 383) dX10_init_366 rfl (fun c => absurd c (by decide)) (fun c => ?_)
  refine st_aload_n (pc := 369) dX10_init_369 rfl rfl ?_
  refine sg_gfR (pc := 370) (J := 4) dX10_init_370 fl_10_23 rfl rfl ?_
  rw [show mR (BM n1 193 R89 D89) 152 4 = 154 from hR.at 152 4 (of_decide_eq_true rfl) (by decide)]
  refine st_iload_n (pc := 373) dX10_init_373 rfl rfl ?_
  refine sg_bipush (pc := 374) dX10_init_374 (by omega) (by decide) ?_
  refine st_iastore (pc := 376) (a := 154) dX10_init_376 rfl (of_decide_eq_true rfl) (of_decide_eq_true rfl) ?_
  refine Wp.nameM (fun m e => ?_)
  obtain ⟨R90, D90, rfl, hR, hD⟩ := step_nm 154 4 100 hR hD e rfl rfl (T' := [(154, 5), (154, 6), (154, 7), (154, 8), (154, 9), (154, 10), (154, 11), (154, 12), (154, 13), (154, 14), (154, 15), (154, 16), (154, 17), (154, 18), (154, 19)]) rfl
  refine sg_iinc (pc := 377) (ls' := [some (vr 152), some (vi 5)]) dX10_init_377 rfl rfl ?_
  refine st_goto (pc := 380) (tgt := 363) dX10_init_380 rfl ?_
  refine st_iload_n (pc := 363) dX10_init_363 rfl rfl ?_
  refine sg_bipush (pc := 364) dX10_init_364 (by omega) (by decide) ?_
  refine st_icmpge (pc := 366) (tgt := 383) dX10_init_366 rfl (fun c => absurd c (by decide)) (fun c => ?_)
  refine st_aload_n (pc := 369) dX10_init_369 rfl rfl ?_
  refine sg_gfR (pc := 370) (J := 4) dX10_init_370 fl_10_23 rfl rfl ?_
  rw [show mR (BM n1 193 R90 D90) 152 4 = 154 from hR.at 152 4 (of_decide_eq_true rfl) (by decide)]
  refine st_iload_n (pc := 373) dX10_init_373 rfl rfl ?_
  refine sg_bipush (pc := 374) dX10_init_374 (by omega) (by decide) ?_
  refine st_iastore (pc := 376) (a := 154) dX10_init_376 rfl (of_decide_eq_true rfl) (of_decide_eq_true rfl) ?_
  refine Wp.nameM (fun m e => ?_)
  obtain ⟨R91, D91, rfl, hR, hD⟩ := step_nm 154 5 100 hR hD e rfl rfl (T' := [(154, 6), (154, 7), (154, 8), (154, 9), (154, 10), (154, 11), (154, 12), (154, 13), (154, 14), (154, 15), (154, 16), (154, 17), (154, 18), (154, 19)]) rfl
  refine sg_iinc (pc := 377) (ls' := [some (vr 152), some (vi 6)]) dX10_init_377 rfl rfl ?_
  refine st_goto (pc := 380) (tgt := 363) dX10_init_380 rfl ?_
  refine st_iload_n (pc := 363) dX10_init_363 rfl rfl ?_
  refine sg_bipush (pc := 364) dX10_init_364 (by omega) (by decide) ?_
  refine st_icmpge (pc := 366) (tgt := 383) dX10_init_366 rfl (fun c => absurd c (by decide)) (fun c => ?_)
  refine st_aload_n (pc := 369) dX10_init_369 rfl rfl ?_
  refine sg_gfR (pc := 370) (J := 4) dX10_init_370 fl_10_23 rfl rfl ?_
  rw [show mR (BM n1 193 R91 D91) 152 4 = 154 from hR.at 152 4 (of_decide_eq_true rfl) (by decide)]
  refine st_iload_n (pc := 373) dX10_init_373 rfl rfl ?_
  refine sg_bipush (pc := 374) dX10_init_374 (by omega) (by decide) ?_
  refine st_iastore (pc := 376) (a := 154) dX10_init_376 rfl (of_decide_eq_true rfl) (of_decide_eq_true rfl) ?_
  refine Wp.nameM (fun m e => ?_)
  obtain ⟨R92, D92, rfl, hR, hD⟩ := step_nm 154 6 100 hR hD e rfl rfl (T' := [(154, 7), (154, 8), (154, 9), (154, 10), (154, 11), (154, 12), (154, 13), (154, 14), (154, 15), (154, 16), (154, 17), (154, 18), (154, 19)]) rfl
  refine sg_iinc (pc := 377) (ls' := [some (vr 152), some (vi 7)]) dX10_init_377 rfl rfl ?_
  refine st_goto (pc := 380) (tgt := 363) dX10_init_380 rfl ?_
  refine st_iload_n (pc := 363) dX10_init_363 rfl rfl ?_
  refine sg_bipush (pc := 364) dX10_init_364 (by omega) (by decide) ?_
  refine st_icmpge (pc := 366) (tgt := 383) dX10_init_366 rfl (fun c => absurd c (by decide)) (fun c => ?_)
  refine st_aload_n (pc := 369) dX10_init_369 rfl rfl ?_
  refine sg_gfR (pc := 370) (J := 4) dX10_init_370 fl_10_23 rfl rfl ?_
  rw [show mR (BM n1 193 R92 D92) 152 4 = 154 from hR.at 152 4 (of_decide_eq_true rfl) (by decide)]
  refine st_iload_n (pc := 373) dX10_init_373 rfl rfl ?_
  refine sg_bipush (pc := 374) dX10_init_374 (by omega) (by decide) ?_
  refine st_iastore (pc := 376) (a := 154) dX10_init_376 rfl (of_decide_eq_true rfl) (of_decide_eq_true rfl) ?_
  refine Wp.nameM (fun m e => ?_)
  obtain ⟨R93, D93, rfl, hR, hD⟩ := step_nm 154 7 100 hR hD e rfl rfl (T' := [(154, 8), (154, 9), (154, 10), (154, 11), (154, 12), (154, 13), (154, 14), (154, 15), (154, 16), (154, 17), (154, 18), (154, 19)]) rfl
  refine sg_iinc (pc := 377) (ls' := [some (vr 152), some (vi 8)]) dX10_init_377 rfl rfl ?_
  refine st_goto (pc := 380) (tgt := 363) dX10_init_380 rfl ?_
  refine st_iload_n (pc := 363) dX10_init_363 rfl rfl ?_
  refine sg_bipush (pc := 364) dX10_init_364 (by omega) (by decide) ?_
  refine st_icmpge (pc := 366) (tgt := 383) dX10_init_366 rfl (fun c => absurd c (by decide)) (fun c => ?_)
  refine st_aload_n (pc := 369) dX10_init_369 rfl rfl ?_
  refine sg_gfR (pc := 370) (J := 4) dX10_init_370 fl_10_23 rfl rfl ?_
  rw [show mR (BM n1 193 R93 D93) 152 4 = 154 from hR.at 152 4 (of_decide_eq_true rfl) (by decide)]
  refine st_iload_n (pc := 373) dX10_init_373 rfl rfl ?_
  refine sg_bipush (pc := 374) dX10_init_374 (by omega) (by decide) ?_
  refine st_iastore (pc := 376) (a := 154) dX10_init_376 rfl (of_decide_eq_true rfl) (of_decide_eq_true rfl) ?_
  refine Wp.nameM (fun m e => ?_)
  obtain ⟨R94, D94, rfl, hR, hD⟩ := step_nm 154 8 100 hR hD e rfl rfl (T' := [(154, 9), (154, 10), (154, 11), (154, 12), (154, 13), (154, 14), (154, 15), (154, 16), (154, 17), (154, 18), (154, 19)]) rfl
  refine sg_iinc (pc := 377) (ls' := [some (vr 152), some (vi 9)]) dX10_init_377 rfl rfl ?_
  refine st_goto (pc := 380) (tgt := 363) dX10_init_380 rfl ?_
  refine st_iload_n (pc := 363) dX10_init_363 rfl rfl ?_
  refine sg_bipush (pc := 364) dX10_init_364 (by omega) (by decide) ?_
  refine st_icmpge (pc := 366) (tgt := 383) dX10_init_366 rfl (fun c => absurd c (by decide)) (fun c => ?_)
  refine st_aload_n (pc := 369) dX10_init_369 rfl rfl ?_
  refine sg_gfR (pc := 370) (J := 4) dX10_init_370 fl_10_23 rfl rfl ?_
  rw [show mR (BM n1 193 R94 D94) 152 4 = 154 from hR.at 152 4 (of_decide_eq_true rfl) (by decide)]
  refine st_iload_n (pc := 373) dX10_init_373 rfl rfl ?_
  refine sg_bipush (pc := 374) dX10_init_374 (by omega) (by decide) ?_
  refine st_iastore (pc := 376) (a := 154) dX10_init_376 rfl (of_decide_eq_true rfl) (of_decide_eq_true rfl) ?_
  refine Wp.nameM (fun m e => ?_)
  obtain ⟨R95, D95, rfl, hR, hD⟩ := step_nm 154 9 100 hR hD e rfl rfl (T' := [(154, 10), (154, 11), (154, 12), (154, 13), (154, 14), (154, 15), (154, 16), (154, 17), (154, 18), (154, 19)]) rfl
  refine sg_iinc (pc := 377) (ls' := [some (vr 152), some (vi 10)]) dX10_init_377 rfl rfl ?_
  refine st_goto (pc := 380) (tgt := 363) dX10_init_380 rfl ?_
  refine st_iload_n (pc := 363) dX10_init_363 rfl rfl ?_
  refine sg_bipush (pc := 364) dX10_init_364 (by omega) (by decide) ?_
  refine st_icmpge (pc := 366) (tgt := 383) dX10_init_366 rfl (fun c => absurd c (by decide)) (fun c => ?_)
  refine st_aload_n (pc := 369) dX10_init_369 rfl rfl ?_
  refine sg_gfR (pc := 370) (J := 4) dX10_init_370 fl_10_23 rfl rfl ?_
  rw [show mR (BM n1 193 R95 D95) 152 4 = 154 from hR.at 152 4 (of_decide_eq_true rfl) (by decide)]
  refine st_iload_n (pc := 373) dX10_init_373 rfl rfl ?_
  refine sg_bipush (pc := 374) dX10_init_374 (by omega) (by decide) ?_
  refine st_iastore (pc := 376) (a := 154) dX10_init_376 rfl (of_decide_eq_true rfl) (of_decide_eq_true rfl) ?_
  refine Wp.nameM (fun m e => ?_)
  obtain ⟨R96, D96, rfl, hR, hD⟩ := step_nm 154 10 100 hR hD e rfl rfl (T' := [(154, 11), (154, 12), (154, 13), (154, 14), (154, 15), (154, 16), (154, 17), (154, 18), (154, 19)]) rfl
  refine sg_iinc (pc := 377) (ls' := [some (vr 152), some (vi 11)]) dX10_init_377 rfl rfl ?_
  refine st_goto (pc := 380) (tgt := 363) dX10_init_380 rfl ?_
  refine st_iload_n (pc := 363) dX10_init_363 rfl rfl ?_
  refine sg_bipush (pc := 364) dX10_init_364 (by omega) (by decide) ?_
  refine st_icmpge (pc := 366) (tgt := 383) dX10_init_366 rfl (fun c => absurd c (by decide)) (fun c => ?_)
  refine st_aload_n (pc := 369) dX10_init_369 rfl rfl ?_
  refine sg_gfR (pc := 370) (J := 4) dX10_init_370 fl_10_23 rfl rfl ?_
  rw [show mR (BM n1 193 R96 D96) 152 4 = 154 from hR.at 152 4 (of_decide_eq_true rfl) (by decide)]
  refine st_iload_n (pc := 373) dX10_init_373 rfl rfl ?_
  refine sg_bipush (pc := 374) dX10_init_374 (by omega) (by decide) ?_
  refine st_iastore (pc := 376) (a := 154) dX10_init_376 rfl (of_decide_eq_true rfl) (of_decide_eq_true rfl) ?_
  refine Wp.nameM (fun m e => ?_)
  obtain ⟨R97, D97, rfl, hR, hD⟩ := step_nm 154 11 100 hR hD e rfl rfl (T' := [(154, 12), (154, 13), (154, 14), (154, 15), (154, 16), (154, 17), (154, 18), (154, 19)]) rfl
  refine sg_iinc (pc := 377) (ls' := [some (vr 152), some (vi 12)]) dX10_init_377 rfl rfl ?_
  refine st_goto (pc := 380) (tgt := 363) dX10_init_380 rfl ?_
  refine st_iload_n (pc := 363) dX10_init_363 rfl rfl ?_
  refine sg_bipush (pc := 364) dX10_init_364 (by omega) (by decide) ?_
  refine st_icmpge (pc := 366) (tgt := 383) dX10_init_366 rfl (fun c => absurd c (by decide)) (fun c => ?_)
  refine st_aload_n (pc := 369) dX10_init_369 rfl rfl ?_
  refine sg_gfR (pc := 370) (J := 4) dX10_init_370 fl_10_23 rfl rfl ?_
  rw [show mR (BM n1 193 R97 D97) 152 4 = 154 from hR.at 152 4 (of_decide_eq_true rfl) (by decide)]
  refine st_iload_n (pc := 373) dX10_init_373 rfl rfl ?_
  refine sg_bipush (pc := 374) dX10_init_374 (by omega) (by decide) ?_
  refine st_iastore (pc := 376) (a := 154) dX10_init_376 rfl (of_decide_eq_true rfl) (of_decide_eq_true rfl) ?_
  refine Wp.nameM (fun m e => ?_)
  obtain ⟨R98, D98, rfl, hR, hD⟩ := step_nm 154 12 100 hR hD e rfl rfl (T' := [(154, 13), (154, 14), (154, 15), (154, 16), (154, 17), (154, 18), (154, 19)]) rfl
  refine sg_iinc (pc := 377) (ls' := [some (vr 152), some (vi 13)]) dX10_init_377 rfl rfl ?_
  refine st_goto (pc := 380) (tgt := 363) dX10_init_380 rfl ?_
  refine st_iload_n (pc := 363) dX10_init_363 rfl rfl ?_
  refine sg_bipush (pc := 364) dX10_init_364 (by omega) (by decide) ?_
  refine st_icmpge (pc := 366) (tgt := 383) dX10_init_366 rfl (fun c => absurd c (by decide)) (fun c => ?_)
  refine st_aload_n (pc := 369) dX10_init_369 rfl rfl ?_
  refine sg_gfR (pc := 370) (J := 4) dX10_init_370 fl_10_23 rfl rfl ?_
  rw [show mR (BM n1 193 R98 D98) 152 4 = 154 from hR.at 152 4 (of_decide_eq_true rfl) (by decide)]
  refine st_iload_n (pc := 373) dX10_init_373 rfl rfl ?_
  refine sg_bipush (pc := 374) dX10_init_374 (by omega) (by decide) ?_
  refine st_iastore (pc := 376) (a := 154) dX10_init_376 rfl (of_decide_eq_true rfl) (of_decide_eq_true rfl) ?_
  refine Wp.nameM (fun m e => ?_)
  obtain ⟨R99, D99, rfl, hR, hD⟩ := step_nm 154 13 100 hR hD e rfl rfl (T' := [(154, 14), (154, 15), (154, 16), (154, 17), (154, 18), (154, 19)]) rfl
  refine sg_iinc (pc := 377) (ls' := [some (vr 152), some (vi 14)]) dX10_init_377 rfl rfl ?_
  refine st_goto (pc := 380) (tgt := 363) dX10_init_380 rfl ?_
  refine st_iload_n (pc := 363) dX10_init_363 rfl rfl ?_
  refine sg_bipush (pc := 364) dX10_init_364 (by omega) (by decide) ?_
  refine st_icmpge (pc := 366) (tgt := 383) dX10_init_366 rfl (fun c => absurd c (by decide)) (fun c => ?_)
  refine st_aload_n (pc := 369) dX10_init_369 rfl rfl ?_
  refine sg_gfR (pc := 370) (J := 4) dX10_init_370 fl_10_23 rfl rfl ?_
  rw [show mR (BM n1 193 R99 D99) 152 4 = 154 from hR.at 152 4 (of_decide_eq_true rfl) (by decide)]
  refine st_iload_n (pc := 373) dX10_init_373 rfl rfl ?_
  refine sg_bipush (pc := 374) dX10_init_374 (by omega) (by decide) ?_
  refine st_iastore (pc := 376) (a := 154) dX10_init_376 rfl (of_decide_eq_true rfl) (of_decide_eq_true rfl) ?_
  refine Wp.nameM (fun m e => ?_)
  obtain ⟨R100, D100, rfl, hR, hD⟩ := step_nm 154 14 100 hR hD e rfl rfl (T' := [(154, 15), (154, 16), (154, 17), (154, 18), (154, 19)]) rfl
  refine sg_iinc (pc := 377) (ls' := [some (vr 152), some (vi 15)]) dX10_init_377 rfl rfl ?_
  refine st_goto (pc := 380) (tgt := 363) dX10_init_380 rfl ?_
  refine st_iload_n (pc := 363) dX10_init_363 rfl rfl ?_
  refine sg_bipush (pc := 364) dX10_init_364 (by omega) (by decide) ?_
  refine st_icmpge (pc := 366) (tgt := 383) dX10_init_366 rfl (fun c => absurd c (by decide)) (fun c => ?_)
  refine st_aload_n (pc := 369) dX10_init_369 rfl rfl ?_
  refine sg_gfR (pc := 370) (J := 4) dX10_init_370 fl_10_23 rfl rfl ?_
  rw [show mR (BM n1 193 R100 D100) 152 4 = 154 from hR.at 152 4 (of_decide_eq_true rfl) (by decide)]
  refine st_iload_n (pc := 373) dX10_init_373 rfl rfl ?_
  refine sg_bipush (pc := 374) dX10_init_374 (by omega) (by decide) ?_
  refine st_iastore (pc := 376) (a := 154) dX10_init_376 rfl (of_decide_eq_true rfl) (of_decide_eq_true rfl) ?_
  refine Wp.nameM (fun m e => ?_)
  obtain ⟨R101, D101, rfl, hR, hD⟩ := step_nm 154 15 100 hR hD e rfl rfl (T' := [(154, 16), (154, 17), (154, 18), (154, 19)]) rfl
  refine sg_iinc (pc := 377) (ls' := [some (vr 152), some (vi 16)]) dX10_init_377 rfl rfl ?_
  refine st_goto (pc := 380) (tgt := 363) dX10_init_380 rfl ?_
  refine st_iload_n (pc := 363) dX10_init_363 rfl rfl ?_
  refine sg_bipush (pc := 364) dX10_init_364 (by omega) (by decide) ?_
  refine st_icmpge (pc := 366) (tgt := 383) dX10_init_366 rfl (fun c => absurd c (by decide)) (fun c => ?_)
  refine st_aload_n (pc := 369) dX10_init_369 rfl rfl ?_
  refine sg_gfR (pc := 370) (J := 4) dX10_init_370 fl_10_23 rfl rfl ?_
  rw [show mR (BM n1 193 R101 D101) 152 4 = 154 from hR.at 152 4 (of_decide_eq_true rfl) (by decide)]
  refine st_iload_n (pc := 373) dX10_init_373 rfl rfl ?_
  refine sg_bipush (pc := 374) dX10_init_374 (by omega) (by decide) ?_
  refine st_iastore (pc := 376) (a := 154) dX10_init_376 rfl (of_decide_eq_true rfl) (of_decide_eq_true rfl) ?_
  refine Wp.nameM (fun m e => ?_)
  obtain ⟨R102, D102, rfl, hR, hD⟩ := step_nm 154 16 100 hR hD e rfl rfl (T' := [(154, 17), (154, 18), (154, 19)]) rfl
  refine sg_iinc (pc := 377) (ls' := [some (vr 152), some (vi 17)]) dX10_init_377 rfl rfl ?_
  refine st_goto (pc := 380) (tgt := 363) dX10_init_380 rfl ?_
  refine st_iload_n (pc := 363) dX10_init_363 rfl rfl ?_
  refine sg_bipush (pc := 364) dX10_init_364 (by omega) (by decide) ?_
  refine st_icmpge (pc := 366) (tgt := 383) dX10_init_366 rfl (fun c => absurd c (by decide)) (fun c => ?_)
  refine st_aload_n (pc := 369) dX10_init_369 rfl rfl ?_
  refine sg_gfR (pc := 370) (J := 4) dX10_init_370 fl_10_23 rfl rfl ?_
  rw [show mR (BM n1 193 R102 D102) 152 4 = 154 from hR.at 152 4 (of_decide_eq_true rfl) (by decide)]
  refine st_iload_n (pc := 373) dX10_init_373 rfl rfl ?_
  refine sg_bipush (pc := 374) dX10_init_374 (by omega) (by decide) ?_
  refine st_iastore (pc := 376) (a := 154) dX10_init_376 rfl (of_decide_eq_true rfl) (of_decide_eq_true rfl) ?_
  refine Wp.nameM (fun m e => ?_)
  obtain ⟨R103, D103, rfl, hR, hD⟩ := step_nm 154 17 100 hR hD e rfl rfl (T' := [(154, 18), (154, 19)]) rfl
  refine sg_iinc (pc := 377) (ls' := [some (vr 152), some (vi 18)]) dX10_init_377 rfl rfl ?_
  refine st_goto (pc := 380) (tgt := 363) dX10_init_380 rfl ?_
  refine st_iload_n (pc := 363) dX10_init_363 rfl rfl ?_
  refine sg_bipush (pc := 364) dX10_init_364 (by omega) (by decide) ?_
  refine st_icmpge (pc := 366) (tgt := 383) dX10_init_366 rfl (fun c => absurd c (by decide)) (fun c => ?_)
  refine st_aload_n (pc := 369) dX10_init_369 rfl rfl ?_
  refine sg_gfR (pc := 370) (J := 4) dX10_init_370 fl_10_23 rfl rfl ?_
  rw [show mR (BM n1 193 R103 D103) 152 4 = 154 from hR.at 152 4 (of_decide_eq_true rfl) (by decide)]
  refine st_iload_n (pc := 373) dX10_init_373 rfl rfl ?_
  refine sg_bipush (pc := 374) dX10_init_374 (by omega) (by decide) ?_
  refine st_iastore (pc := 376) (a := 154) dX10_init_376 rfl (of_decide_eq_true rfl) (of_decide_eq_true rfl) ?_
  refine Wp.nameM (fun m e => ?_)
  obtain ⟨R104, D104, rfl, hR, hD⟩ := step_nm 154 18 100 hR hD e rfl rfl (T' := [(154, 19)]) rfl
  refine sg_iinc (pc := 377) (ls' := [some (vr 152), some (vi 19)]) dX10_init_377 rfl rfl ?_
  refine st_goto (pc := 380) (tgt := 363) dX10_init_380 rfl ?_
  refine st_iload_n (pc := 363) dX10_init_363 rfl rfl ?_
  refine sg_bipush (pc := 364) dX10_init_364 (by omega) (by decide) ?_
  refine st_icmpge (pc := 366) (tgt := 383) dX10_init_366 rfl (fun c => absurd c (by decide)) (fun c => ?_)
  refine st_aload_n (pc := 369) dX10_init_369 rfl rfl ?_
  refine sg_gfR (pc := 370) (J := 4) dX10_init_370 fl_10_23 rfl rfl ?_
  rw [show mR (BM n1 193 R104 D104) 152 4 = 154 from hR.at 152 4 (of_decide_eq_true rfl) (by decide)]
  refine st_iload_n (pc := 373) dX10_init_373 rfl rfl ?_
  refine sg_bipush (pc := 374) dX10_init_374 (by omega) (by decide) ?_
  refine st_iastore (pc := 376) (a := 154) dX10_init_376 rfl (of_decide_eq_true rfl) (of_decide_eq_true rfl) ?_
  refine Wp.nameM (fun m e => ?_)
  obtain ⟨R105, D105, rfl, hR, hD⟩ := step_nm 154 19 100 hR hD e rfl rfl (T' := []) rfl
  refine sg_iinc (pc := 377) (ls' := [some (vr 152), some (vi 20)]) dX10_init_377 rfl rfl ?_
  refine st_goto (pc := 380) (tgt := 363) dX10_init_380 rfl ?_
  refine st_iload_n (pc := 363) dX10_init_363 rfl rfl ?_
  refine sg_bipush (pc := 364) dX10_init_364 (by omega) (by decide) ?_
  refine st_icmpge (pc := 366) (tgt := 383) dX10_init_366 rfl (fun c => ?_) (fun c => absurd (by decide) c)
  refine st_aload_n (pc := 383) dX10_init_383 rfl rfl ?_
  obtain rfl := hR.all
  refine sg_VV (pc := 384) (av := []) (st := []) (b := 152) dX10_init_384 ck_10_139 rfl (by show (10 : Nat) ≤ 10; decide) rfl (by show (0 : Nat) ≤ 8; decide) (C_begin1 (n1 := n1) (D := D105)) (Nat.zero_le _) (Nat.zero_le _) (fun m2 h => ?_) rfl
  obtain ⟨D', rfl, f, hs⟩ := h
  exact st_return (pc := 387) dX10_init_387 rfl ⟨rfl, D105, D', rfl, hD, f, hs⟩
end INZ
