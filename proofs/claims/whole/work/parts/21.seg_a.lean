/-! ===== by program (wip/whole/gen_seg.py): stretches of methods ===== -/
theorem sg_X0_init_0 {d bc bs : Nat} {a0 : Nat} {μ : Mem} {Q : Option (Option AV) → Mem → Prop}
    (h : a0 ≠ 0 ∧ (mK μ a0 = 1 ∧ (∀ m1, m1 = sD μ a0 0 7 → (∀ m2, m2 = sD m1 a0 1 100 → (∀ m3, m3 = sD m2 a0 2 80 → mX m3 ≠ 0 ∧ (0 : Int) ≤ 7 ∧ 7 ≤ (100000 : Int) ∧ 1 ≤ bc ∧ 7 ≤ ((bs : Nat) : Int) ∧ (∀ m4, m4 = nwM m3 20 (7 : Int).toNat → mK m4 (mX m3) = 20 ∧ ((0 : Int) ≤ 0 ∧ 0 < (mN m4 (mX m3) : Int)) ∧ (∀ m5, m5 = sD m4 (mX m3) 0 8 → ((0 : Int) ≤ 1 ∧ 1 < (mN m5 (mX m3) : Int)) ∧ (∀ m6, m6 = sD m5 (mX m3) 1 2 → ((0 : Int) ≤ 2 ∧ 2 < (mN m6 (mX m3) : Int)) ∧ (∀ m7, m7 = sD m6 (mX m3) 2 0 → ((0 : Int) ≤ 3 ∧ 3 < (mN m7 (mX m3) : Int)) ∧ (∀ m8, m8 = sD m7 (mX m3) 3 6 → ((0 : Int) ≤ 4 ∧ 4 < (mN m8 (mX m3) : Int)) ∧ (∀ m9, m9 = sD m8 (mX m3) 4 0 → ((0 : Int) ≤ 5 ∧ 5 < (mN m9 (mX m3) : Int)) ∧ (∀ m10, m10 = sD m9 (mX m3) 5 0 → ((0 : Int) ≤ 6 ∧ 6 < (mN m10 (mX m3) : Int)) ∧ (∀ m11, m11 = sD m10 (mX m3) 6 3 → mK m11 a0 = 1 ∧ (∀ m12, m12 = sR m11 a0 3 (mX m3) → mX m12 ≠ 0 ∧ (0 : Int) ≤ 20 ∧ 20 ≤ (100000 : Int) ∧ 1 ≤ bc - 1 ∧ 20 ≤ ((bs - (7 : Int).toNat : Nat) : Int) ∧ (∀ m13, m13 = nwM m12 20 (20 : Int).toNat → mK m13 a0 = 1 ∧ (∀ m14, m14 = sR m13 a0 4 (mX m12) → mK m14 a0 = 1 ∧ (∃ (mc1 ms1 : Nat) (K1 : Mem → Prop), Cl d mc1 ms1 mJ7_fill_53178 [vr (mR m14 a0 4), vi 100] m14 (KV K1) ∧ mc1 ≤ bc - 1 - 1 ∧ ms1 ≤ bs - (7 : Int).toNat - (20 : Int).toNat ∧ (∀ m15, K1 m15 → Q (some none) m15)))))))))))))))))) :
    Wp (d + 1) bc bs mX0_init 0 [some (vr a0)] [] μ Q := by
  refine st_aload_n (pc := 0) dX0_init_0 rfl rfl ?_
  obtain ⟨h0, h⟩ := h
  refine st_objInit (pc := 1) (st := []) dX0_init_1 ck_0_3 h0 (by show (0 : Nat) ≤ 8; decide) ?_
  refine st_aload_n (pc := 4) dX0_init_4 rfl rfl ?_
  refine sg_bipush (pc := 5) dX0_init_5 (by omega) (by decide) ?_
  obtain ⟨hk1, h⟩ := h
  refine sg_pfI (pc := 7) (J := 0) dX0_init_7 fl_0_9 rfl (Or.inl rfl) hk1 ?_
  refine Wp.nameM (fun m1 em1 => ?_)
  replace h := h m1 em1
  refine st_aload_n (pc := 10) dX0_init_10 rfl rfl ?_
  refine sg_bipush (pc := 11) dX0_init_11 (by omega) (by decide) ?_
  refine sg_pfI (pc := 13) (J := 1) dX0_init_13 fl_0_15 rfl (Or.inl rfl) (by cases em1; exact hk1) ?_
  refine Wp.nameM (fun m2 em2 => ?_)
  replace h := h m2 em2
  refine st_aload_n (pc := 16) dX0_init_16 rfl rfl ?_
  refine sg_bipush (pc := 17) dX0_init_17 (by omega) (by decide) ?_
  refine sg_pfI (pc := 19) (J := 2) dX0_init_19 fl_0_18 rfl (Or.inl rfl) (by cases em2; cases em1; exact hk1) ?_
  refine Wp.nameM (fun m3 em3 => ?_)
  replace h := h m3 em3
  refine st_aload_n (pc := 22) dX0_init_22 rfl rfl ?_
  refine sg_bipush (pc := 23) dX0_init_23 (by omega) (by decide) ?_
  obtain ⟨h0, h1, h2, h3, h4, h⟩ := h
  refine st_newI (pc := 25) dX0_init_25 h0 h1 h2 h3 h4 ?_
  refine Wp.nameM (fun m4 em4 => ?_)
  replace h := h m4 em4
  refine st_dup (pc := 27) dX0_init_27 rfl ?_
  refine sg_iconst (pc := 28) dX0_init_28 (by omega) ?_
  refine sg_bipush (pc := 29) dX0_init_29 (by omega) (by decide) ?_
  obtain ⟨hk2, h⟩ := h
  obtain ⟨h1, h⟩ := h
  refine st_iastore (pc := 31) dX0_init_31 hk2 h1.1 h1.2 ?_
  refine Wp.nameM (fun m5 em5 => ?_)
  replace h := h m5 em5
  refine st_dup (pc := 32) dX0_init_32 rfl ?_
  refine sg_iconst (pc := 33) dX0_init_33 (by omega) ?_
  refine sg_iconst (pc := 34) dX0_init_34 (by omega) ?_
  obtain ⟨h1, h⟩ := h
  refine st_iastore (pc := 35) dX0_init_35 (by cases em5; exact hk2) h1.1 h1.2 ?_
  refine Wp.nameM (fun m6 em6 => ?_)
  replace h := h m6 em6
  refine st_dup (pc := 36) dX0_init_36 rfl ?_
  refine sg_iconst (pc := 37) dX0_init_37 (by omega) ?_
  refine sg_iconst (pc := 38) dX0_init_38 (by omega) ?_
  obtain ⟨h1, h⟩ := h
  refine st_iastore (pc := 39) dX0_init_39 (by cases em6; cases em5; exact hk2) h1.1 h1.2 ?_
  refine Wp.nameM (fun m7 em7 => ?_)
  replace h := h m7 em7
  refine st_dup (pc := 40) dX0_init_40 rfl ?_
  refine sg_iconst (pc := 41) dX0_init_41 (by omega) ?_
  refine sg_bipush (pc := 42) dX0_init_42 (by omega) (by decide) ?_
  obtain ⟨h1, h⟩ := h
  refine st_iastore (pc := 44) dX0_init_44 (by cases em7; cases em6; cases em5; exact hk2) h1.1 h1.2 ?_
  refine Wp.nameM (fun m8 em8 => ?_)
  replace h := h m8 em8
  refine st_dup (pc := 45) dX0_init_45 rfl ?_
  refine sg_iconst (pc := 46) dX0_init_46 (by omega) ?_
  refine sg_iconst (pc := 47) dX0_init_47 (by omega) ?_
  obtain ⟨h1, h⟩ := h
  refine st_iastore (pc := 48) dX0_init_48 (by cases em8; cases em7; cases em6; cases em5; exact hk2) h1.1 h1.2 ?_
  refine Wp.nameM (fun m9 em9 => ?_)
  replace h := h m9 em9
  refine st_dup (pc := 49) dX0_init_49 rfl ?_
  refine sg_iconst (pc := 50) dX0_init_50 (by omega) ?_
  refine sg_iconst (pc := 51) dX0_init_51 (by omega) ?_
  obtain ⟨h1, h⟩ := h
  refine st_iastore (pc := 52) dX0_init_52 (by cases em9; cases em8; cases em7; cases em6; cases em5; exact hk2) h1.1 h1.2 ?_
  refine Wp.nameM (fun m10 em10 => ?_)
  replace h := h m10 em10
  refine st_dup (pc := 53) dX0_init_53 rfl ?_
  refine sg_bipush (pc := 54) dX0_init_54 (by omega) (by decide) ?_
  refine sg_iconst (pc := 56) dX0_init_56 (by omega) ?_
  obtain ⟨h1, h⟩ := h
  refine st_iastore (pc := 57) dX0_init_57 (by cases em10; cases em9; cases em8; cases em7; cases em6; cases em5; exact hk2) h1.1 h1.2 ?_
  refine Wp.nameM (fun m11 em11 => ?_)
  replace h := h m11 em11
  obtain ⟨hk3, h⟩ := h
  refine sg_pfR (pc := 58) (J := 3) dX0_init_58 fl_0_21 rfl (Or.inr ⟨rfl, rfl⟩) hk3 ?_
  refine Wp.nameM (fun m12 em12 => ?_)
  replace h := h m12 em12
  refine st_aload_n (pc := 61) dX0_init_61 rfl rfl ?_
  refine sg_bipush (pc := 62) dX0_init_62 (by omega) (by decide) ?_
  obtain ⟨h0, h1, h2, h3, h4, h⟩ := h
  refine st_newI (pc := 64) dX0_init_64 h0 h1 h2 h3 h4 ?_
  refine Wp.nameM (fun m13 em13 => ?_)
  replace h := h m13 em13
  obtain ⟨hk4, h⟩ := h
  refine sg_pfR (pc := 66) (J := 4) dX0_init_66 fl_0_25 rfl (Or.inr ⟨rfl, rfl⟩) hk4 ?_
  refine Wp.nameM (fun m14 em14 => ?_)
  replace h := h m14 em14
  refine st_aload_n (pc := 69) dX0_init_69 rfl rfl ?_
  obtain ⟨hk5, h⟩ := h
  refine sg_gfR (pc := 70) (J := 4) dX0_init_70 fl_0_25 rfl hk5 ?_
  refine sg_bipush (pc := 73) dX0_init_73 (by omega) (by decide) ?_
  obtain ⟨mc1, ms1, K1, hC, e1, e2, h⟩ := h
  refine sg_SV (pc := 75) (av := [vr (mR m14 a0 4), vi 100]) (st := []) (K := K1) dX0_init_75 ck_0_28 rfl (by show (0 : Nat) ≤ 8; decide) hC e1 e2 (fun m15 hK => ?_) rfl
  replace h := h m15 hK
  exact st_return (pc := 78) dX0_init_78 rfl h

theorem sg_X0_copy_0 {d bc bs : Nat} {a0 : Nat} {a1 : Nat} {μ : Mem} {Q : Option (Option AV) → Mem → Prop}
    (h : mK μ a1 = 1 ∧ (mK μ a0 = 1 ∧ (∀ m1, m1 = sD μ a0 0 (mD μ a1 0) → (∀ m2, m2 = sD m1 a0 1 (mD m1 a1 1) → (∀ m3, m3 = sD m2 a0 2 (mD m2 a1 2) → ((20 ≤ mK m3 (mR m3 a0 3) ∧ mK m3 (mR m3 a0 3) ≤ 28) ∨ ((mR m3 a0 3) ≠ 0 ∧ mK m3 (mR m3 a0 3) = 40)) ∧ (mK m3 (mR m3 a1 3) = 20 ∧ mK m3 (mR m3 a0 3) = 20 ∧ (0 : Int) ≤ 0 ∧ (0 : Int) ≤ 0 ∧ (0 : Int) ≤ (mN m3 (mR m3 a0 3) : Int) ∧ 0 + (mN m3 (mR m3 a0 3) : Int) ≤ (mN m3 (mR m3 a1 3) : Int) ∧ 0 + (mN m3 (mR m3 a0 3) : Int) ≤ (mN m3 (mR m3 a0 3) : Int) ∧ (∀ m4, m4 = sCp m3 (mR m3 a1 3) 0 (mR m3 a0 3) 0 (mN m3 (mR m3 a0 3) : Int) → ((20 ≤ mK m4 (mR m4 a0 4) ∧ mK m4 (mR m4 a0 4) ≤ 28) ∨ ((mR m4 a0 4) ≠ 0 ∧ mK m4 (mR m4 a0 4) = 40)) ∧ (mK m4 (mR m4 a1 4) = 20 ∧ mK m4 (mR m4 a0 4) = 20 ∧ (0 : Int) ≤ 0 ∧ (0 : Int) ≤ 0 ∧ (0 : Int) ≤ (mN m4 (mR m4 a0 4) : Int) ∧ 0 + (mN m4 (mR m4 a0 4) : Int) ≤ (mN m4 (mR m4 a1 4) : Int) ∧ 0 + (mN m4 (mR m4 a0 4) : Int) ≤ (mN m4 (mR m4 a0 4) : Int) ∧ (∀ m5, m5 = sCp m4 (mR m4 a1 4) 0 (mR m4 a0 4) 0 (mN m4 (mR m4 a0 4) : Int) → Q (some none) m5))))))))) :
    Wp d bc bs mX0_copy 0 [some (vr a0), some (vr a1)] [] μ Q := by
  refine st_aload_n (pc := 0) dX0_copy_0 rfl rfl ?_
  refine st_aload_n (pc := 1) dX0_copy_1 rfl rfl ?_
  obtain ⟨hk1, h⟩ := h
  refine sg_gfI (pc := 2) (J := 0) dX0_copy_2 fl_0_9 (by decide) rfl hk1 ?_
  obtain ⟨hk2, h⟩ := h
  refine sg_pfI (pc := 5) (J := 0) dX0_copy_5 fl_0_9 rfl (Or.inl rfl) hk2 ?_
  refine Wp.nameM (fun m1 em1 => ?_)
  replace h := h m1 em1
  refine st_aload_n (pc := 8) dX0_copy_8 rfl rfl ?_
  refine st_aload_n (pc := 9) dX0_copy_9 rfl rfl ?_
  refine sg_gfI (pc := 10) (J := 1) dX0_copy_10 fl_0_15 (by decide) rfl (by cases em1; exact hk1) ?_
  refine sg_pfI (pc := 13) (J := 1) dX0_copy_13 fl_0_15 rfl (Or.inl rfl) (by cases em1; exact hk2) ?_
  refine Wp.nameM (fun m2 em2 => ?_)
  replace h := h m2 em2
  refine st_aload_n (pc := 16) dX0_copy_16 rfl rfl ?_
  refine st_aload_n (pc := 17) dX0_copy_17 rfl rfl ?_
  refine sg_gfI (pc := 18) (J := 2) dX0_copy_18 fl_0_18 (by decide) rfl (by cases em2; cases em1; exact hk1) ?_
  refine sg_pfI (pc := 21) (J := 2) dX0_copy_21 fl_0_18 rfl (Or.inl rfl) (by cases em2; cases em1; exact hk2) ?_
  refine Wp.nameM (fun m3 em3 => ?_)
  replace h := h m3 em3
  refine st_aload_n (pc := 24) dX0_copy_24 rfl rfl ?_
  refine sg_gfR (pc := 25) (J := 3) dX0_copy_25 fl_0_21 rfl (by cases em3; cases em2; cases em1; exact hk1) ?_
  refine sg_iconst (pc := 28) dX0_copy_28 (by omega) ?_
  refine st_aload_n (pc := 29) dX0_copy_29 rfl rfl ?_
  refine sg_gfR (pc := 30) (J := 3) dX0_copy_30 fl_0_21 rfl (by cases em3; cases em2; cases em1; exact hk2) ?_
  refine sg_iconst (pc := 33) dX0_copy_33 (by omega) ?_
  refine st_aload_n (pc := 34) dX0_copy_34 rfl rfl ?_
  refine sg_gfR (pc := 35) (J := 3) dX0_copy_35 fl_0_21 rfl (by cases em3; cases em2; cases em1; exact hk2) ?_
  obtain ⟨hk3, h⟩ := h
  refine sg_alen (pc := 38) dX0_copy_38 hk3 ?_
  obtain ⟨h1, h2, h3, h4, h5, h6, h7, h⟩ := h
  refine st_copy (pc := 39) (st := []) dX0_copy_39 ck_0_33 h1 h2 h3 h4 h5 h6 h7 (by show (0 : Nat) ≤ 8; decide) ?_
  refine Wp.nameM (fun m4 em4 => ?_)
  replace h := h m4 em4
  refine st_aload_n (pc := 42) dX0_copy_42 rfl rfl ?_
  refine sg_gfR (pc := 43) (J := 4) dX0_copy_43 fl_0_25 rfl (by cases em4; cases em3; cases em2; cases em1; exact hk1) ?_
  refine sg_iconst (pc := 46) dX0_copy_46 (by omega) ?_
  refine st_aload_n (pc := 47) dX0_copy_47 rfl rfl ?_
  refine sg_gfR (pc := 48) (J := 4) dX0_copy_48 fl_0_25 rfl (by cases em4; cases em3; cases em2; cases em1; exact hk2) ?_
  refine sg_iconst (pc := 51) dX0_copy_51 (by omega) ?_
  refine st_aload_n (pc := 52) dX0_copy_52 rfl rfl ?_
  refine sg_gfR (pc := 53) (J := 4) dX0_copy_53 fl_0_25 rfl (by cases em4; cases em3; cases em2; cases em1; exact hk2) ?_
  obtain ⟨hk4, h⟩ := h
  refine sg_alen (pc := 56) dX0_copy_56 hk4 ?_
  obtain ⟨h1, h2, h3, h4, h5, h6, h7, h⟩ := h
  refine st_copy (pc := 57) (st := []) dX0_copy_57 ck_0_33 h1 h2 h3 h4 h5 h6 h7 (by show (0 : Nat) ≤ 8; decide) ?_
  refine Wp.nameM (fun m5 em5 => ?_)
  replace h := h m5 em5
  exact st_return (pc := 60) dX0_copy_60 rfl h

theorem sg_X0_openAll_0 {d bc bs : Nat} {a0 : Nat} {μ : Mem} {Q : Option (Option AV) → Mem → Prop}
    (h : mK μ a0 = 1 ∧ (∃ (mc1 ms1 : Nat) (K1 : Mem → Prop), Cl d mc1 ms1 mJ7_fill_53178 [vr (mR μ a0 4), vi 100] μ (KV K1) ∧ mc1 ≤ bc ∧ ms1 ≤ bs ∧ (∀ m1, K1 m1 → Q (some none) m1))) :
    Wp (d + 1) bc bs mX0_openAll 0 [some (vr a0)] [] μ Q := by
  refine st_aload_n (pc := 0) dX0_openAll_0 rfl rfl ?_
  obtain ⟨hk1, h⟩ := h
  refine sg_gfR (pc := 1) (J := 4) dX0_openAll_1 fl_0_25 rfl hk1 ?_
  refine sg_bipush (pc := 4) dX0_openAll_4 (by omega) (by decide) ?_
  obtain ⟨mc1, ms1, K1, hC, e1, e2, h⟩ := h
  refine sg_SV (pc := 6) (av := [vr (mR μ a0 4), vi 100]) (st := []) (K := K1) dX0_openAll_6 ck_0_28 rfl (by show (0 : Nat) ≤ 8; decide) hC e1 e2 (fun m1 hK => ?_) rfl
  replace h := h m1 hK
  exact st_return (pc := 9) dX0_openAll_9 rfl h

theorem sg_X0_wallCount_0 {d bc bs : Nat} {a0 : Nat} {μ : Mem} {Q : Option (Option AV) → Mem → Prop}
    (h : Wp d bc bs mX0_wallCount 4 [some (vr a0), some (vi 0), some (vi 0)] [] μ Q) :
    Wp d bc bs mX0_wallCount 0 [some (vr a0), none, none] [] μ Q := by
  refine sg_iconst (pc := 0) dX0_wallCount_0 (by omega) ?_
  refine sg_istore_n (pc := 1) (ls' := [some (vr a0), some (vi 0), none]) dX0_wallCount_1 rfl (by show (1 : Nat) < 3; decide) rfl ?_
  refine sg_iconst (pc := 2) dX0_wallCount_2 (by omega) ?_
  refine sg_istore_n (pc := 3) (ls' := [some (vr a0), some (vi 0), some (vi 0)]) dX0_wallCount_3 rfl (by show (2 : Nat) < 3; decide) rfl ?_
  exact h

theorem sg_X0_wallCount_4 {d bc bs : Nat} {a0 : Nat} {a1 : Int} {a2 : Int} {μ : Mem} {Q : Option (Option AV) → Mem → Prop}
    (h : mK μ a0 = 1 ∧ (((mD μ a0 0) ≤ a2 → Q (some (some (vi a1))) μ) ∧ (¬ (mD μ a0 0) ≤ a2 → (mK μ (mR μ a0 4) = 20 ∨ ((mR μ a0 4) ≠ 0 ∧ mK μ (mR μ a0 4) = 40)) ∧ ((0 : Int) ≤ a2 ∧ a2 < (mN μ (mR μ a0 4) : Int)) ∧ ((100 ≤ (mD μ (mR μ a0 4) a2) → ∀ v1, v1 = w32 (a1 + 0) → ∀ v2, v2 = w32 (a2 + 1) → Wp d bc bs mX0_wallCount 4 [some (vr a0), some (vi v1), some (vi v2)] [] μ Q) ∧ (¬ 100 ≤ (mD μ (mR μ a0 4) a2) → ∀ v3, v3 = w32 (a1 + 1) → ∀ v4, v4 = w32 (a2 + 1) → Wp d bc bs mX0_wallCount 4 [some (vr a0), some (vi v3), some (vi v4)] [] μ Q))))) :
    Wp d bc bs mX0_wallCount 4 [some (vr a0), some (vi a1), some (vi a2)] [] μ Q := by
  refine st_iload_n (pc := 4) dX0_wallCount_4 rfl rfl ?_
  refine st_aload_n (pc := 5) dX0_wallCount_5 rfl rfl ?_
  obtain ⟨hk1, h⟩ := h
  refine sg_gfI (pc := 6) (J := 0) dX0_wallCount_6 fl_0_9 (by decide) rfl hk1 ?_
  refine st_icmpge (pc := 9) (tgt := 37) dX0_wallCount_9 rfl (fun c => ?_) (fun c => ?_)
  · replace h := h.1 c
    refine st_iload_n (pc := 37) dX0_wallCount_37 rfl rfl ?_
    exact st_ireturn (pc := 38) dX0_wallCount_38 (Or.inl rfl) h
  · replace h := h.2 c
    refine st_iload_n (pc := 12) dX0_wallCount_12 rfl rfl ?_
    refine st_aload_n (pc := 13) dX0_wallCount_13 rfl rfl ?_
    refine sg_gfR (pc := 14) (J := 4) dX0_wallCount_14 fl_0_25 rfl hk1 ?_
    refine st_iload_n (pc := 17) dX0_wallCount_17 rfl rfl ?_
    obtain ⟨hk2, h⟩ := h
    obtain ⟨h1, h⟩ := h
    refine sg_iaload (pc := 18) dX0_wallCount_18 hk2 h1 ?_
    refine sg_bipush (pc := 19) dX0_wallCount_19 (by omega) (by decide) ?_
    refine st_icmpge (pc := 21) (tgt := 28) dX0_wallCount_21 rfl (fun c => ?_) (fun c => ?_)
    · replace h := h.1 c
      refine sg_iconst (pc := 28) dX0_wallCount_28 (by omega) ?_
      refine st_iadd (pc := 29) dX0_wallCount_29 ?_
      refine sg_istore_n (pc := 30) (ls' := [some (vr a0), some (vi (w32 (a1 + 0))), some (vi a2)]) dX0_wallCount_30 rfl (by show (1 : Nat) < 3; decide) rfl ?_
      refine Wp.nameL (ls2 := fun v => [some (vr a0), some (vi v), some (vi a2)]) 1 _ rfl (fun _ => rfl) (fun v1 ev1 => ?_)
      replace h := h v1 ev1
      refine sg_iinc (pc := 31) (ls' := [some (vr a0), some (vi v1), some (vi (w32 (a2 + 1)))]) dX0_wallCount_31 rfl rfl ?_
      refine Wp.nameL (ls2 := fun v => [some (vr a0), some (vi v1), some (vi v)]) 2 _ rfl (fun _ => rfl) (fun v2 ev2 => ?_)
      replace h := h v2 ev2
      refine st_goto (pc := 34) dX0_wallCount_34 rfl ?_
      exact h
    · replace h := h.2 c
      refine sg_iconst (pc := 24) dX0_wallCount_24 (by omega) ?_
      refine st_goto (pc := 25) dX0_wallCount_25 rfl ?_
      refine st_iadd (pc := 29) dX0_wallCount_29 ?_
      refine sg_istore_n (pc := 30) (ls' := [some (vr a0), some (vi (w32 (a1 + 1))), some (vi a2)]) dX0_wallCount_30 rfl (by show (1 : Nat) < 3; decide) rfl ?_
      refine Wp.nameL (ls2 := fun v => [some (vr a0), some (vi v), some (vi a2)]) 1 _ rfl (fun _ => rfl) (fun v3 ev3 => ?_)
      replace h := h v3 ev3
      refine sg_iinc (pc := 31) (ls' := [some (vr a0), some (vi v3), some (vi (w32 (a2 + 1)))]) dX0_wallCount_31 rfl rfl ?_
      refine Wp.nameL (ls2 := fun v => [some (vr a0), some (vi v3), some (vi v)]) 2 _ rfl (fun _ => rfl) (fun v4 ev4 => ?_)
      replace h := h v4 ev4
      refine st_goto (pc := 34) dX0_wallCount_34 rfl ?_
      exact h

theorem sg_X1_init_0 {d bc bs : Nat} {a0 : Nat} {μ : Mem} {Q : Option (Option AV) → Mem → Prop}
    (h : a0 ≠ 0 ∧ (mX μ ≠ 0 ∧ (0 : Int) ≤ 20 ∧ 20 ≤ (100000 : Int) ∧ 1 ≤ bc ∧ 20 ≤ ((bs : Nat) : Int) ∧ (∀ m1, m1 = nwM μ 20 (20 : Int).toNat → mK m1 a0 = 2 ∧ (∀ m2, m2 = sR m1 a0 0 (mX μ) → mX m2 ≠ 0 ∧ (0 : Int) ≤ 20 ∧ 20 ≤ (100000 : Int) ∧ 1 ≤ bc - 1 ∧ 20 ≤ ((bs - (20 : Int).toNat : Nat) : Int) ∧ (∀ m3, m3 = nwM m2 20 (20 : Int).toNat → mK m3 a0 = 2 ∧ (∀ m4, m4 = sR m3 a0 1 (mX m2) → mX m4 ≠ 0 ∧ (0 : Int) ≤ 20 ∧ 20 ≤ (100000 : Int) ∧ 1 ≤ bc - 1 - 1 ∧ 20 ≤ ((bs - (20 : Int).toNat - (20 : Int).toNat : Nat) : Int) ∧ (∀ m5, m5 = nwM m4 20 (20 : Int).toNat → mK m5 a0 = 2 ∧ (∀ m6, m6 = sR m5 a0 2 (mX m4) → mX m6 ≠ 0 ∧ (0 : Int) ≤ 20 ∧ 20 ≤ (100000 : Int) ∧ 1 ≤ bc - 1 - 1 - 1 ∧ 20 ≤ ((bs - (20 : Int).toNat - (20 : Int).toNat - (20 : Int).toNat : Nat) : Int) ∧ (∀ m7, m7 = nwM m6 20 (20 : Int).toNat → mK m7 a0 = 2 ∧ (∀ m8, m8 = sR m7 a0 3 (mX m6) → mK m8 a0 = 2 ∧ (∀ m9, m9 = sD m8 a0 4 0 → Q (some none) m9))))))))))) :
    Wp d bc bs mX1_init 0 [some (vr a0)] [] μ Q := by
  refine st_aload_n (pc := 0) dX1_init_0 rfl rfl ?_
  obtain ⟨h0, h⟩ := h
  refine st_objInit (pc := 1) (st := []) dX1_init_1 ck_1_3 h0 (by show (0 : Nat) ≤ 8; decide) ?_
  refine st_aload_n (pc := 4) dX1_init_4 rfl rfl ?_
  refine sg_bipush (pc := 5) dX1_init_5 (by omega) (by decide) ?_
  obtain ⟨h0, h1, h2, h3, h4, h⟩ := h
  refine st_newI (pc := 7) dX1_init_7 h0 h1 h2 h3 h4 ?_
  refine Wp.nameM (fun m1 em1 => ?_)
  replace h := h m1 em1
  obtain ⟨hk1, h⟩ := h
  refine sg_pfR (pc := 9) (J := 0) dX1_init_9 fl_1_9 rfl (Or.inr ⟨rfl, rfl⟩) hk1 ?_
  refine Wp.nameM (fun m2 em2 => ?_)
  replace h := h m2 em2
  refine st_aload_n (pc := 12) dX1_init_12 rfl rfl ?_
  refine sg_bipush (pc := 13) dX1_init_13 (by omega) (by decide) ?_
  obtain ⟨h0, h1, h2, h3, h4, h⟩ := h
  refine st_newI (pc := 15) dX1_init_15 h0 h1 h2 h3 h4 ?_
  refine Wp.nameM (fun m3 em3 => ?_)
  replace h := h m3 em3
  obtain ⟨hk2, h⟩ := h
  refine sg_pfR (pc := 17) (J := 1) dX1_init_17 fl_1_15 rfl (Or.inr ⟨rfl, rfl⟩) hk2 ?_
  refine Wp.nameM (fun m4 em4 => ?_)
  replace h := h m4 em4
  refine st_aload_n (pc := 20) dX1_init_20 rfl rfl ?_
  refine sg_bipush (pc := 21) dX1_init_21 (by omega) (by decide) ?_
  obtain ⟨h0, h1, h2, h3, h4, h⟩ := h
  refine st_newI (pc := 23) dX1_init_23 h0 h1 h2 h3 h4 ?_
  refine Wp.nameM (fun m5 em5 => ?_)
  replace h := h m5 em5
  obtain ⟨hk3, h⟩ := h
  refine sg_pfR (pc := 25) (J := 2) dX1_init_25 fl_1_18 rfl (Or.inr ⟨rfl, rfl⟩) hk3 ?_
  refine Wp.nameM (fun m6 em6 => ?_)
  replace h := h m6 em6
  refine st_aload_n (pc := 28) dX1_init_28 rfl rfl ?_
  refine sg_bipush (pc := 29) dX1_init_29 (by omega) (by decide) ?_
  obtain ⟨h0, h1, h2, h3, h4, h⟩ := h
  refine st_newI (pc := 31) dX1_init_31 h0 h1 h2 h3 h4 ?_
  refine Wp.nameM (fun m7 em7 => ?_)
  replace h := h m7 em7
  obtain ⟨hk4, h⟩ := h
  refine sg_pfR (pc := 33) (J := 3) dX1_init_33 fl_1_21 rfl (Or.inr ⟨rfl, rfl⟩) hk4 ?_
  refine Wp.nameM (fun m8 em8 => ?_)
  replace h := h m8 em8
  refine st_aload_n (pc := 36) dX1_init_36 rfl rfl ?_
  refine sg_iconst (pc := 37) dX1_init_37 (by omega) ?_
  obtain ⟨hk5, h⟩ := h
  refine sg_pfI (pc := 38) (J := 4) dX1_init_38 fl_1_24 rfl (Or.inl rfl) hk5 ?_
  refine Wp.nameM (fun m9 em9 => ?_)
  replace h := h m9 em9
  exact st_return (pc := 41) dX1_init_41 rfl h

theorem sg_X1_add_0 {d bc bs : Nat} {a0 : Nat} {a1 : Int} {a2 : Int} {a3 : Int} {a4 : Int} {μ : Mem} {Q : Option (Option AV) → Mem → Prop}
    (h : mK μ a0 = 2 ∧ (((mD μ a0 4) < 20 → mK μ (mR μ a0 0) = 20 ∧ ((0 : Int) ≤ (mD μ a0 4) ∧ (mD μ a0 4) < (mN μ (mR μ a0 0) : Int)) ∧ (∀ m1, m1 = sD μ (mR μ a0 0) (mD μ a0 4) a1 → mK m1 (mR m1 a0 1) = 20 ∧ ((0 : Int) ≤ (mD m1 a0 4) ∧ (mD m1 a0 4) < (mN m1 (mR m1 a0 1) : Int)) ∧ (∀ m2, m2 = sD m1 (mR m1 a0 1) (mD m1 a0 4) a2 → mK m2 (mR m2 a0 2) = 20 ∧ ((0 : Int) ≤ (mD m2 a0 4) ∧ (mD m2 a0 4) < (mN m2 (mR m2 a0 2) : Int)) ∧ (∀ m3, m3 = sD m2 (mR m2 a0 2) (mD m2 a0 4) a3 → mK m3 (mR m3 a0 3) = 20 ∧ ((0 : Int) ≤ (mD m3 a0 4) ∧ (mD m3 a0 4) < (mN m3 (mR m3 a0 3) : Int)) ∧ (∀ m4, m4 = sD m3 (mR m3 a0 3) (mD m3 a0 4) a4 → (∀ m5, m5 = sD m4 a0 4 (w32 ((mD m4 a0 4) + 1)) → Q (some (some (vi 1))) m5)))))) ∧ (¬ (mD μ a0 4) < 20 → Q (some (some (vi 0))) μ))) :
    Wp d bc bs mX1_add 0 [some (vr a0), some (vi a1), some (vi a2), some (vi a3), some (vi a4)] [] μ Q := by
  refine st_aload_n (pc := 0) dX1_add_0 rfl rfl ?_
  obtain ⟨hk1, h⟩ := h
  refine sg_gfI (pc := 1) (J := 4) dX1_add_1 fl_1_24 (by decide) rfl hk1 ?_
  refine sg_bipush (pc := 4) dX1_add_4 (by omega) (by decide) ?_
  refine st_icmplt (pc := 6) (tgt := 11) dX1_add_6 rfl (fun c => ?_) (fun c => ?_)
  · replace h := h.1 c
    refine st_aload_n (pc := 11) dX1_add_11 rfl rfl ?_
    refine sg_gfR (pc := 12) (J := 0) dX1_add_12 fl_1_9 rfl hk1 ?_
    refine st_aload_n (pc := 15) dX1_add_15 rfl rfl ?_
    refine sg_gfI (pc := 16) (J := 4) dX1_add_16 fl_1_24 (by decide) rfl hk1 ?_
    refine st_iload_n (pc := 19) dX1_add_19 rfl rfl ?_
    obtain ⟨hk2, h⟩ := h
    obtain ⟨h1, h⟩ := h
    refine st_iastore (pc := 20) dX1_add_20 hk2 h1.1 h1.2 ?_
    refine Wp.nameM (fun m1 em1 => ?_)
    replace h := h m1 em1
    refine st_aload_n (pc := 21) dX1_add_21 rfl rfl ?_
    refine sg_gfR (pc := 22) (J := 1) dX1_add_22 fl_1_15 rfl (by cases em1; exact hk1) ?_
    refine st_aload_n (pc := 25) dX1_add_25 rfl rfl ?_
    refine sg_gfI (pc := 26) (J := 4) dX1_add_26 fl_1_24 (by decide) rfl (by cases em1; exact hk1) ?_
    refine st_iload_n (pc := 29) dX1_add_29 rfl rfl ?_
    obtain ⟨hk3, h⟩ := h
    obtain ⟨h1, h⟩ := h
    refine st_iastore (pc := 30) dX1_add_30 hk3 h1.1 h1.2 ?_
    refine Wp.nameM (fun m2 em2 => ?_)
    replace h := h m2 em2
    refine st_aload_n (pc := 31) dX1_add_31 rfl rfl ?_
    refine sg_gfR (pc := 32) (J := 2) dX1_add_32 fl_1_18 rfl (by cases em2; cases em1; exact hk1) ?_
    refine st_aload_n (pc := 35) dX1_add_35 rfl rfl ?_
    refine sg_gfI (pc := 36) (J := 4) dX1_add_36 fl_1_24 (by decide) rfl (by cases em2; cases em1; exact hk1) ?_
    refine st_iload_n (pc := 39) dX1_add_39 rfl rfl ?_
    obtain ⟨hk4, h⟩ := h
    obtain ⟨h1, h⟩ := h
    refine st_iastore (pc := 40) dX1_add_40 hk4 h1.1 h1.2 ?_
    refine Wp.nameM (fun m3 em3 => ?_)
    replace h := h m3 em3
    refine st_aload_n (pc := 41) dX1_add_41 rfl rfl ?_
    refine sg_gfR (pc := 42) (J := 3) dX1_add_42 fl_1_21 rfl (by cases em3; cases em2; cases em1; exact hk1) ?_
    refine st_aload_n (pc := 45) dX1_add_45 rfl rfl ?_
    refine sg_gfI (pc := 46) (J := 4) dX1_add_46 fl_1_24 (by decide) rfl (by cases em3; cases em2; cases em1; exact hk1) ?_
    refine st_iload (pc := 49) dX1_add_49 rfl ?_
    obtain ⟨hk5, h⟩ := h
    obtain ⟨h1, h⟩ := h
    refine st_iastore (pc := 51) dX1_add_51 hk5 h1.1 h1.2 ?_
    refine Wp.nameM (fun m4 em4 => ?_)
    replace h := h m4 em4
    refine st_aload_n (pc := 52) dX1_add_52 rfl rfl ?_
    refine st_dup (pc := 53) dX1_add_53 rfl ?_
    refine sg_gfI (pc := 54) (J := 4) dX1_add_54 fl_1_24 (by decide) rfl (by cases em4; cases em3; cases em2; cases em1; exact hk1) ?_
    refine sg_iconst (pc := 57) dX1_add_57 (by omega) ?_
    refine st_iadd (pc := 58) dX1_add_58 ?_
    refine sg_pfI (pc := 59) (J := 4) dX1_add_59 fl_1_24 rfl (Or.inl rfl) (by cases em4; cases em3; cases em2; cases em1; exact hk1) ?_
    refine Wp.nameM (fun m5 em5 => ?_)
    replace h := h m5 em5
    refine sg_iconst (pc := 62) dX1_add_62 (by omega) ?_
    exact st_ireturn (pc := 63) dX1_add_63 (Or.inr ⟨rfl, by omega⟩) h
  · replace h := h.2 c
    refine sg_iconst (pc := 9) dX1_add_9 (by omega) ?_
    exact st_ireturn (pc := 10) dX1_add_10 (Or.inr ⟨rfl, by omega⟩) h

theorem sg_X2_joined_0 {d bc bs : Nat} {a0 : Int} {a1 : Int} {a2 : Int} {μ : Mem} {Q : Option (Option AV) → Mem → Prop}
    (h : ((a0 < (-3) ∨ (-1) < a0) → (¬ a2 = 0 → a2 ≠ 0 ∧ (Q (some (some (vi (w32 (a1.tdiv a2))))) μ)) ∧ (a2 = 0 → Q (some (some (vi 0))) μ)) ∧ (a0 = (-3) → Q (some (some (vi (w32 (a1 * a2))))) μ) ∧ (a0 = (-2) → Q (some (some (vi (w32 (a1 - a2))))) μ) ∧ (a0 = (-1) → Q (some (some (vi (w32 (a1 + a2))))) μ)) :
    Wp d bc bs mX2_joined 0 [some (vi a0), some (vi a1), some (vi a2)] [] μ Q := by
  refine st_iload_n (pc := 0) dX2_joined_0 rfl rfl ?_
  by_cases c1 : a0 < (-3) ∨ (-1) < a0
  · replace h := h.1 c1
    refine st_swOut (pc := 1) (tgt := 40) dX2_joined_1 c1 rfl ?_
    refine st_iload_n (pc := 40) dX2_joined_40 rfl rfl ?_
    refine st_ifne (pc := 41) (tgt := 48) dX2_joined_41 rfl (fun c => ?_) (fun c => ?_)
    · replace h := h.1 c
      refine st_iload_n (pc := 48) dX2_joined_48 rfl rfl ?_
      refine st_iload_n (pc := 49) dX2_joined_49 rfl rfl ?_
      obtain ⟨h0, h⟩ := h
      refine st_idiv (pc := 50) dX2_joined_50 h0 ?_
      exact st_ireturn (pc := 51) dX2_joined_51 (Or.inl rfl) h
    · replace h := h.2 c
      refine sg_iconst (pc := 44) dX2_joined_44 (by omega) ?_
      refine st_goto (pc := 45) dX2_joined_45 rfl ?_
      exact st_ireturn (pc := 51) dX2_joined_51 (Or.inl rfl) h
  replace h := h.2
  by_cases e0 : a0 = (-3)
  · replace h := h.1 e0
    refine st_swIn (pc := 1) (off := 35) (tgt := 36) dX2_joined_1 (by omega) (by omega) (by rw [e0]; rfl) rfl ?_
    refine st_iload_n (pc := 36) dX2_joined_36 rfl rfl ?_
    refine st_iload_n (pc := 37) dX2_joined_37 rfl rfl ?_
    refine st_imul (pc := 38) dX2_joined_38 ?_
    exact st_ireturn (pc := 39) dX2_joined_39 (Or.inl rfl) h
  replace h := h.2
  by_cases e1 : a0 = (-2)
  · replace h := h.1 e1
    refine st_swIn (pc := 1) (off := 31) (tgt := 32) dX2_joined_1 (by omega) (by omega) (by rw [e1]; rfl) rfl ?_
    refine st_iload_n (pc := 32) dX2_joined_32 rfl rfl ?_
    refine st_iload_n (pc := 33) dX2_joined_33 rfl rfl ?_
    refine st_isub (pc := 34) dX2_joined_34 ?_
    exact st_ireturn (pc := 35) dX2_joined_35 (Or.inl rfl) h
  replace h := h.2
  by_cases e2 : a0 = (-1)
  · replace h := h e2
    refine st_swIn (pc := 1) (off := 27) (tgt := 28) dX2_joined_1 (by omega) (by omega) (by rw [e2]; rfl) rfl ?_
    refine st_iload_n (pc := 28) dX2_joined_28 rfl rfl ?_
    refine st_iload_n (pc := 29) dX2_joined_29 rfl rfl ?_
    refine st_iadd (pc := 30) dX2_joined_30 ?_
    exact st_ireturn (pc := 31) dX2_joined_31 (Or.inl rfl) h
  exfalso
  omega

theorem sg_X2_named_0 {d bc bs : Nat} {a0 : Int} {a1 : Int} {a2 : Int} {a3 : Int} {a4 : Int} {a5 : Int} {μ : Mem} {Q : Option (Option AV) → Mem → Prop}
    (h : ((a0 < (-9) ∨ (-6) < a0) → Q (some (some (vi a5))) μ) ∧ (a0 = (-9) → Q (some (some (vi a4))) μ) ∧ (a0 = (-8) → Q (some (some (vi a3))) μ) ∧ (a0 = (-7) → Q (some (some (vi a2))) μ) ∧ (a0 = (-6) → Q (some (some (vi a1))) μ)) :
    Wp d bc bs mX2_named 0 [some (vi a0), some (vi a1), some (vi a2), some (vi a3), some (vi a4), some (vi a5)] [] μ Q := by
  refine st_iload_n (pc := 0) dX2_named_0 rfl rfl ?_
  by_cases c1 : a0 < (-9) ∨ (-6) < a0
  · replace h := h.1 c1
    refine st_swOut (pc := 1) (tgt := 41) dX2_named_1 c1 rfl ?_
    refine st_iload (pc := 41) dX2_named_41 rfl ?_
    exact st_ireturn (pc := 43) dX2_named_43 (Or.inl rfl) h
  replace h := h.2
  by_cases e0 : a0 = (-9)
  · replace h := h.1 e0
    refine st_swIn (pc := 1) (off := 37) (tgt := 38) dX2_named_1 (by omega) (by omega) (by rw [e0]; rfl) rfl ?_
    refine st_iload (pc := 38) dX2_named_38 rfl ?_
    exact st_ireturn (pc := 40) dX2_named_40 (Or.inl rfl) h
  replace h := h.2
  by_cases e1 : a0 = (-8)
  · replace h := h.1 e1
    refine st_swIn (pc := 1) (off := 35) (tgt := 36) dX2_named_1 (by omega) (by omega) (by rw [e1]; rfl) rfl ?_
    refine st_iload_n (pc := 36) dX2_named_36 rfl rfl ?_
    exact st_ireturn (pc := 37) dX2_named_37 (Or.inl rfl) h
  replace h := h.2
  by_cases e2 : a0 = (-7)
  · replace h := h.1 e2
    refine st_swIn (pc := 1) (off := 33) (tgt := 34) dX2_named_1 (by omega) (by omega) (by rw [e2]; rfl) rfl ?_
    refine st_iload_n (pc := 34) dX2_named_34 rfl rfl ?_
    exact st_ireturn (pc := 35) dX2_named_35 (Or.inl rfl) h
  replace h := h.2
  by_cases e3 : a0 = (-6)
  · replace h := h e3
    refine st_swIn (pc := 1) (off := 31) (tgt := 32) dX2_named_1 (by omega) (by omega) (by rw [e3]; rfl) rfl ?_
    refine st_iload_n (pc := 32) dX2_named_32 rfl rfl ?_
    exact st_ireturn (pc := 33) dX2_named_33 (Or.inl rfl) h
  exfalso
  omega

theorem sg_X2_bounded_0 {d bc bs : Nat} {a0 : Nat} {a1 : Int} {a2 : Int} {a3 : Int} {a4 : Int} {a5 : Int} {μ : Mem} {Q : Option (Option AV) → Mem → Prop}
    (h : Wp (d + 1) bc bs mX2_bounded 6 [some (vr a0), some (vi a1), some (vi a2), some (vi a3), some (vi a4), some (vi a5), some (vi 0), some (vi 0), none] [] μ Q) :
    Wp (d + 1) bc bs mX2_bounded 0 [some (vr a0), some (vi a1), some (vi a2), some (vi a3), some (vi a4), some (vi a5), none, none, none] [] μ Q := by
  refine sg_iconst (pc := 0) dX2_bounded_0 (by omega) ?_
  refine sg_istore (pc := 1) (ls' := [some (vr a0), some (vi a1), some (vi a2), some (vi a3), some (vi a4), some (vi a5), some (vi 0), none, none]) dX2_bounded_1 (by show (6 : Nat) < 9; decide) rfl ?_
  refine sg_iconst (pc := 3) dX2_bounded_3 (by omega) ?_
  refine sg_istore (pc := 4) (ls' := [some (vr a0), some (vi a1), some (vi a2), some (vi a3), some (vi a4), some (vi a5), some (vi 0), some (vi 0), none]) dX2_bounded_4 (by show (7 : Nat) < 9; decide) rfl ?_
  exact h

theorem sg_X2_bounded_6 {d bc bs : Nat} {a0 : Nat} {a1 : Int} {a2 : Int} {a3 : Int} {a4 : Int} {a5 : Int} {a6 : Int} {a7 : Int} {μ : Mem} {Q : Option (Option AV) → Mem → Prop}
    (h : mK μ a0 = 3 ∧ (((mD μ a0 2) ≤ a7 → Wp (d + 1) bc bs mX2_bounded 170 [some (vr a0), some (vi a1), some (vi a2), some (vi a3), some (vi a4), some (vi a5), some (vi a6), some (vi a7), none] [] μ Q) ∧ (¬ (mD μ a0 2) ≤ a7 → ((20 ≤ mK μ (mR μ a0 0) ∧ mK μ (mR μ a0 0) ≤ 28) ∨ ((mR μ a0 0) ≠ 0 ∧ mK μ (mR μ a0 0) = 40)) ∧ (((mN μ (mR μ a0 0) : Int) ≤ a7 → Wp (d + 1) bc bs mX2_bounded 170 [some (vr a0), some (vi a1), some (vi a2), some (vi a3), some (vi a4), some (vi a5), some (vi a6), some (vi a7), none] [] μ Q) ∧ (¬ (mN μ (mR μ a0 0) : Int) ≤ a7 → (mK μ (mR μ a0 0) = 20 ∨ ((mR μ a0 0) ≠ 0 ∧ mK μ (mR μ a0 0) = 40)) ∧ ((0 : Int) ≤ a7 ∧ a7 < (mN μ (mR μ a0 0) : Int)) ∧ (∀ v1, v1 = mD μ (mR μ a0 0) a7 → (¬ v1 = (-5) → Wp (d + 1) bc bs mX2_bounded 69 [some (vr a0), some (vi a1), some (vi a2), some (vi a3), some (vi a4), some (vi a5), some (vi a6), some (vi a7), some (vi v1)] [] μ Q) ∧ (v1 = (-5) → (a6 < 1 → Wp (d + 1) bc bs mX2_bounded 69 [some (vr a0), some (vi a1), some (vi a2), some (vi a3), some (vi a4), some (vi a5), some (vi a6), some (vi a7), some (vi v1)] [] μ Q) ∧ (¬ a6 < 1 → (mK μ (mR μ a0 1) = 20 ∨ ((mR μ a0 1) ≠ 0 ∧ mK μ (mR μ a0 1) = 40)) ∧ ((0 : Int) ≤ (w32 (a6 - 1)) ∧ (w32 (a6 - 1)) < (mN μ (mR μ a0 1) : Int)) ∧ (mK μ (mR μ a0 1) = 20 ∧ ((0 : Int) ≤ (w32 (a6 - 1)) ∧ (w32 (a6 - 1)) < (mN μ (mR μ a0 1) : Int)) ∧ (∀ m1, m1 = sD μ (mR μ a0 1) (w32 (a6 - 1)) (w32 (-(mD μ (mR μ a0 1) (w32 (a6 - 1))))) → ∀ v2, v2 = w32 (a7 + 1) → Wp (d + 1) bc bs mX2_bounded 6 [some (vr a0), some (vi a1), some (vi a2), some (vi a3), some (vi a4), some (vi a5), some (vi a6), some (vi v2), none] [] m1 Q)))))))))) :
    Wp (d + 1) bc bs mX2_bounded 6 [some (vr a0), some (vi a1), some (vi a2), some (vi a3), some (vi a4), some (vi a5), some (vi a6), some (vi a7), none] [] μ Q := by
  refine st_iload (pc := 6) dX2_bounded_6 rfl ?_
  refine st_aload_n (pc := 8) dX2_bounded_8 rfl rfl ?_
  obtain ⟨hk1, h⟩ := h
  refine sg_gfI (pc := 9) (J := 2) dX2_bounded_9 fl_2_18 (by decide) rfl hk1 ?_
  refine st_icmpge (pc := 12) (tgt := 170) dX2_bounded_12 rfl (fun c => ?_) (fun c => ?_)
  · replace h := h.1 c
    exact h
  · replace h := h.2 c
    refine st_iload (pc := 15) dX2_bounded_15 rfl ?_
    refine st_aload_n (pc := 17) dX2_bounded_17 rfl rfl ?_
    refine sg_gfR (pc := 18) (J := 0) dX2_bounded_18 fl_2_9 rfl hk1 ?_
    obtain ⟨hk2, h⟩ := h
    refine sg_alen (pc := 21) dX2_bounded_21 hk2 ?_
    refine st_icmpge (pc := 22) (tgt := 170) dX2_bounded_22 rfl (fun c => ?_) (fun c => ?_)
    · replace h := h.1 c
      exact h
    · replace h := h.2 c
      refine st_aload_n (pc := 25) dX2_bounded_25 rfl rfl ?_
      refine sg_gfR (pc := 26) (J := 0) dX2_bounded_26 fl_2_9 rfl hk1 ?_
      refine st_iload (pc := 29) dX2_bounded_29 rfl ?_
      obtain ⟨hk3, h⟩ := h
      obtain ⟨h1, h⟩ := h
      refine sg_iaload (pc := 31) dX2_bounded_31 hk3 h1 ?_
      refine sg_istore (pc := 32) (ls' := [some (vr a0), some (vi a1), some (vi a2), some (vi a3), some (vi a4), some (vi a5), some (vi a6), some (vi a7), some (vi (mD μ (mR μ a0 0) a7))]) dX2_bounded_32 (by show (8 : Nat) < 9; decide) rfl ?_
      refine Wp.nameL (ls2 := fun v => [some (vr a0), some (vi a1), some (vi a2), some (vi a3), some (vi a4), some (vi a5), some (vi a6), some (vi a7), some (vi v)]) 8 _ rfl (fun _ => rfl) (fun v1 ev1 => ?_)
      replace h := h v1 ev1
      refine st_iload (pc := 34) dX2_bounded_34 rfl ?_
      refine sg_bipush (pc := 36) dX2_bounded_36 (by omega) (by decide) ?_
      refine st_icmpne (pc := 38) (tgt := 69) dX2_bounded_38 rfl (fun c => ?_) (fun c => ?_)
      · replace h := h.1 c
        exact h
      · replace h := h.2 c
        refine st_iload (pc := 41) dX2_bounded_41 rfl ?_
        refine sg_iconst (pc := 43) dX2_bounded_43 (by omega) ?_
        refine st_icmplt (pc := 44) (tgt := 69) dX2_bounded_44 rfl (fun c => ?_) (fun c => ?_)
        · replace h := h.1 c
          exact h
        · replace h := h.2 c
          refine st_aload_n (pc := 47) dX2_bounded_47 rfl rfl ?_
          refine sg_gfR (pc := 48) (J := 1) dX2_bounded_48 fl_2_15 rfl hk1 ?_
          refine st_iload (pc := 51) dX2_bounded_51 rfl ?_
          refine sg_iconst (pc := 53) dX2_bounded_53 (by omega) ?_
          refine st_isub (pc := 54) dX2_bounded_54 ?_
          refine st_aload_n (pc := 55) dX2_bounded_55 rfl rfl ?_
          refine sg_gfR (pc := 56) (J := 1) dX2_bounded_56 fl_2_15 rfl hk1 ?_
          refine st_iload (pc := 59) dX2_bounded_59 rfl ?_
          refine sg_iconst (pc := 61) dX2_bounded_61 (by omega) ?_
          refine st_isub (pc := 62) dX2_bounded_62 ?_
          obtain ⟨hk4, h⟩ := h
          obtain ⟨h1, h⟩ := h
          refine sg_iaload (pc := 63) dX2_bounded_63 hk4 h1 ?_
          refine st_ineg (pc := 64) dX2_bounded_64 ?_
          obtain ⟨hk5, h⟩ := h
          obtain ⟨h1, h⟩ := h
          refine st_iastore (pc := 65) dX2_bounded_65 hk5 h1.1 h1.2 ?_
          refine Wp.nameM (fun m1 em1 => ?_)
          replace h := h m1 em1
          refine st_goto (pc := 66) dX2_bounded_66 rfl ?_
          refine sg_iinc (pc := 164) (ls' := [some (vr a0), some (vi a1), some (vi a2), some (vi a3), some (vi a4), some (vi a5), some (vi a6), some (vi (w32 (a7 + 1))), some (vi v1)]) dX2_bounded_164 rfl rfl ?_
          refine Wp.nameL (ls2 := fun v => [some (vr a0), some (vi a1), some (vi a2), some (vi a3), some (vi a4), some (vi a5), some (vi a6), some (vi v), some (vi v1)]) 7 _ rfl (fun _ => rfl) (fun v2 ev2 => ?_)
          replace h := h v2 ev2
          refine st_goto (pc := 167) dX2_bounded_167 rfl ?_
          refine Wp.drop 8 rfl ?_
          exact h

theorem sg_X2_bounded_69 {d bc bs : Nat} {a0 : Nat} {a1 : Int} {a2 : Int} {a3 : Int} {a4 : Int} {a5 : Int} {a6 : Int} {a7 : Int} {a8 : Int} {μ : Mem} {Q : Option (Option AV) → Mem → Prop}
    (h : ∃ (mc1 ms1 : Nat) (K1 : Int → Mem → Prop), Cl d mc1 ms1 mX9_isIn [vi a8, vi (-4), vi (-1)] μ (KI K1) ∧ mc1 ≤ bc ∧ ms1 ≤ bs ∧ (∀ x1 m1, K1 x1 m1 → (x1 = 0 → Wp (d + 1) (bc - mc1) (bs - ms1) mX2_bounded 122 [some (vr a0), some (vi a1), some (vi a2), some (vi a3), some (vi a4), some (vi a5), some (vi a6), some (vi a7), some (vi a8)] [] m1 Q) ∧ (¬ x1 = 0 → (a6 < 2 → Wp (d + 1) (bc - mc1) (bs - ms1) mX2_bounded 122 [some (vr a0), some (vi a1), some (vi a2), some (vi a3), some (vi a4), some (vi a5), some (vi a6), some (vi a7), some (vi a8)] [] m1 Q) ∧ (¬ a6 < 2 → ∀ v1, v1 = w32 (a6 + (-1)) → mK m1 a0 = 3 ∧ ((mK m1 (mR m1 a0 1) = 20 ∨ ((mR m1 a0 1) ≠ 0 ∧ mK m1 (mR m1 a0 1) = 40)) ∧ ((0 : Int) ≤ (w32 (v1 - 1)) ∧ (w32 (v1 - 1)) < (mN m1 (mR m1 a0 1) : Int)) ∧ (((0 : Int) ≤ v1 ∧ v1 < (mN m1 (mR m1 a0 1) : Int)) ∧ (∃ (mc2 ms2 : Nat) (K2 : Int → Mem → Prop), Cl d mc2 ms2 mX2_joined [vi a8, vi (mD m1 (mR m1 a0 1) (w32 (v1 - 1))), vi (mD m1 (mR m1 a0 1) v1)] m1 (KI K2) ∧ mc2 ≤ bc - mc1 ∧ ms2 ≤ bs - ms1 ∧ (∀ x2 m2, K2 x2 m2 → mK m2 (mR m1 a0 1) = 20 ∧ ((0 : Int) ≤ (w32 (v1 - 1)) ∧ (w32 (v1 - 1)) < (mN m2 (mR m1 a0 1) : Int)) ∧ (∀ m3, m3 = sD m2 (mR m1 a0 1) (w32 (v1 - 1)) x2 → ∀ v2, v2 = w32 (a7 + 1) → Wp (d + 1) (bc - mc1 - mc2) (bs - ms1 - ms2) mX2_bounded 6 [some (vr a0), some (vi a1), some (vi a2), some (vi a3), some (vi a4), some (vi a5), some (vi v1), some (vi v2), none] [] m3 Q))))))))) :
    Wp (d + 1) bc bs mX2_bounded 69 [some (vr a0), some (vi a1), some (vi a2), some (vi a3), some (vi a4), some (vi a5), some (vi a6), some (vi a7), some (vi a8)] [] μ Q := by
  refine st_iload (pc := 69) dX2_bounded_69 rfl ?_
  refine sg_bipush (pc := 71) dX2_bounded_71 (by omega) (by decide) ?_
  refine sg_iconst (pc := 73) dX2_bounded_73 (by omega) ?_
  obtain ⟨mc1, ms1, K1, hC, e1, e2, h⟩ := h
  refine sg_SNI (pc := 74) (av := [vi a8, vi (-4), vi (-1)]) (st := []) (K := K1) dX2_bounded_74 ck_2_68 rfl (by show (0 : Nat) ≤ 8; decide) hC e1 e2 (fun x1 m1 hK => ?_) rfl
  replace h := h x1 m1 hK
  refine st_ifeq (pc := 77) (tgt := 122) dX2_bounded_77 rfl (fun c => ?_) (fun c => ?_)
  · replace h := h.1 c
    exact h
  · replace h := h.2 c
    refine st_iload (pc := 80) dX2_bounded_80 rfl ?_
    refine sg_iconst (pc := 82) dX2_bounded_82 (by omega) ?_
    refine st_icmplt (pc := 83) (tgt := 122) dX2_bounded_83 rfl (fun c => ?_) (fun c => ?_)
    · replace h := h.1 c
      exact h
    · replace h := h.2 c
      refine sg_iinc (pc := 86) (ls' := [some (vr a0), some (vi a1), some (vi a2), some (vi a3), some (vi a4), some (vi a5), some (vi (w32 (a6 + (-1)))), some (vi a7), some (vi a8)]) dX2_bounded_86 rfl rfl ?_
      refine Wp.nameL (ls2 := fun v => [some (vr a0), some (vi a1), some (vi a2), some (vi a3), some (vi a4), some (vi a5), some (vi v), some (vi a7), some (vi a8)]) 6 _ rfl (fun _ => rfl) (fun v1 ev1 => ?_)
      replace h := h v1 ev1
      refine st_aload_n (pc := 89) dX2_bounded_89 rfl rfl ?_
      obtain ⟨hk1, h⟩ := h
      refine sg_gfR (pc := 90) (J := 1) dX2_bounded_90 fl_2_15 rfl hk1 ?_
      refine st_iload (pc := 93) dX2_bounded_93 rfl ?_
      refine sg_iconst (pc := 95) dX2_bounded_95 (by omega) ?_
      refine st_isub (pc := 96) dX2_bounded_96 ?_
      refine st_iload (pc := 97) dX2_bounded_97 rfl ?_
      refine st_aload_n (pc := 99) dX2_bounded_99 rfl rfl ?_
      refine sg_gfR (pc := 100) (J := 1) dX2_bounded_100 fl_2_15 rfl hk1 ?_
      refine st_iload (pc := 103) dX2_bounded_103 rfl ?_
      refine sg_iconst (pc := 105) dX2_bounded_105 (by omega) ?_
      refine st_isub (pc := 106) dX2_bounded_106 ?_
      obtain ⟨hk2, h⟩ := h
      obtain ⟨h1, h⟩ := h
      refine sg_iaload (pc := 107) dX2_bounded_107 hk2 h1 ?_
      refine st_aload_n (pc := 108) dX2_bounded_108 rfl rfl ?_
      refine sg_gfR (pc := 109) (J := 1) dX2_bounded_109 fl_2_15 rfl hk1 ?_
      refine st_iload (pc := 112) dX2_bounded_112 rfl ?_
      obtain ⟨h1, h⟩ := h
      refine sg_iaload (pc := 114) dX2_bounded_114 hk2 h1 ?_
      obtain ⟨mc2, ms2, K2, hC, e1, e2, h⟩ := h
      refine sg_SI (pc := 115) (av := [vi a8, vi (mD m1 (mR m1 a0 1) (w32 (v1 - 1))), vi (mD m1 (mR m1 a0 1) v1)]) (st := [vi (w32 (v1 - 1)), vr (mR m1 a0 1)]) (K := K2) dX2_bounded_115 ck_2_72 rfl (by show (2 : Nat) ≤ 8; decide) hC e1 e2 (fun x2 m2 hK => ?_) rfl
      replace h := h x2 m2 hK
      obtain ⟨hk3, h⟩ := h
      obtain ⟨h1, h⟩ := h
      refine st_iastore (pc := 118) dX2_bounded_118 hk3 h1.1 h1.2 ?_
      refine Wp.nameM (fun m3 em3 => ?_)
      replace h := h m3 em3
      refine st_goto (pc := 119) dX2_bounded_119 rfl ?_
      refine sg_iinc (pc := 164) (ls' := [some (vr a0), some (vi a1), some (vi a2), some (vi a3), some (vi a4), some (vi a5), some (vi v1), some (vi (w32 (a7 + 1))), some (vi a8)]) dX2_bounded_164 rfl rfl ?_
      refine Wp.nameL (ls2 := fun v => [some (vr a0), some (vi a1), some (vi a2), some (vi a3), some (vi a4), some (vi a5), some (vi v1), some (vi v), some (vi a8)]) 7 _ rfl (fun _ => rfl) (fun v2 ev2 => ?_)
      replace h := h v2 ev2
      refine st_goto (pc := 167) dX2_bounded_167 rfl ?_
      refine Wp.drop 8 rfl ?_
      exact h

theorem sg_X2_bounded_122 {d bc bs : Nat} {a0 : Nat} {a1 : Int} {a2 : Int} {a3 : Int} {a4 : Int} {a5 : Int} {a6 : Int} {a7 : Int} {a8 : Int} {μ : Mem} {Q : Option (Option AV) → Mem → Prop}
    (h : mK μ a0 = 3 ∧ (((20 ≤ mK μ (mR μ a0 1) ∧ mK μ (mR μ a0 1) ≤ 28) ∨ ((mR μ a0 1) ≠ 0 ∧ mK μ (mR μ a0 1) = 40)) ∧ (((mN μ (mR μ a0 1) : Int) ≤ a6 → ∀ v1, v1 = w32 (a7 + 1) → Wp (d + 1) bc bs mX2_bounded 6 [some (vr a0), some (vi a1), some (vi a2), some (vi a3), some (vi a4), some (vi a5), some (vi a6), some (vi v1), none] [] μ Q) ∧ (¬ (mN μ (mR μ a0 1) : Int) ≤ a6 → (a8 < 0 → ∃ (mc1 ms1 : Nat) (K1 : Int → Mem → Prop), Cl d mc1 ms1 mX2_named [vi a8, vi a1, vi a2, vi a3, vi a4, vi a5] μ (KI K1) ∧ mc1 ≤ bc ∧ ms1 ≤ bs ∧ (∀ x1 m1, K1 x1 m1 → mK m1 (mR μ a0 1) = 20 ∧ ((0 : Int) ≤ a6 ∧ a6 < (mN m1 (mR μ a0 1) : Int)) ∧ (∀ m2, m2 = sD m1 (mR μ a0 1) a6 x1 → ∀ v2, v2 = w32 (a6 + 1) → ∀ v3, v3 = w32 (a7 + 1) → Wp (d + 1) (bc - mc1) (bs - ms1) mX2_bounded 6 [some (vr a0), some (vi a1), some (vi a2), some (vi a3), some (vi a4), some (vi a5), some (vi v2), some (vi v3), none] [] m2 Q))) ∧ (¬ a8 < 0 → mK μ (mR μ a0 1) = 20 ∧ ((0 : Int) ≤ a6 ∧ a6 < (mN μ (mR μ a0 1) : Int)) ∧ (∀ m3, m3 = sD μ (mR μ a0 1) a6 a8 → ∀ v4, v4 = w32 (a6 + 1) → ∀ v5, v5 = w32 (a7 + 1) → Wp (d + 1) bc bs mX2_bounded 6 [some (vr a0), some (vi a1), some (vi a2), some (vi a3), some (vi a4), some (vi a5), some (vi v4), some (vi v5), none] [] m3 Q)))))) :
    Wp (d + 1) bc bs mX2_bounded 122 [some (vr a0), some (vi a1), some (vi a2), some (vi a3), some (vi a4), some (vi a5), some (vi a6), some (vi a7), some (vi a8)] [] μ Q := by
  refine st_iload (pc := 122) dX2_bounded_122 rfl ?_
  refine st_aload_n (pc := 124) dX2_bounded_124 rfl rfl ?_
  obtain ⟨hk1, h⟩ := h
  refine sg_gfR (pc := 125) (J := 1) dX2_bounded_125 fl_2_15 rfl hk1 ?_
  obtain ⟨hk2, h⟩ := h
  refine sg_alen (pc := 128) dX2_bounded_128 hk2 ?_
  refine st_icmpge (pc := 129) (tgt := 164) dX2_bounded_129 rfl (fun c => ?_) (fun c => ?_)
  · replace h := h.1 c
    refine sg_iinc (pc := 164) (ls' := [some (vr a0), some (vi a1), some (vi a2), some (vi a3), some (vi a4), some (vi a5), some (vi a6), some (vi (w32 (a7 + 1))), some (vi a8)]) dX2_bounded_164 rfl rfl ?_
    refine Wp.nameL (ls2 := fun v => [some (vr a0), some (vi a1), some (vi a2), some (vi a3), some (vi a4), some (vi a5), some (vi a6), some (vi v), some (vi a8)]) 7 _ rfl (fun _ => rfl) (fun v1 ev1 => ?_)
    replace h := h v1 ev1
    refine st_goto (pc := 167) dX2_bounded_167 rfl ?_
    refine Wp.drop 8 rfl ?_
    exact h
  · replace h := h.2 c
    refine st_aload_n (pc := 132) dX2_bounded_132 rfl rfl ?_
    refine sg_gfR (pc := 133) (J := 1) dX2_bounded_133 fl_2_15 rfl hk1 ?_
    refine st_iload (pc := 136) dX2_bounded_136 rfl ?_
    refine st_iload (pc := 138) dX2_bounded_138 rfl ?_
    refine st_iflt (pc := 140) (tgt := 148) dX2_bounded_140 rfl (fun c => ?_) (fun c => ?_)
    · replace h := h.1 c
      refine st_iload (pc := 148) dX2_bounded_148 rfl ?_
      refine st_iload_n (pc := 150) dX2_bounded_150 rfl rfl ?_
      refine st_iload_n (pc := 151) dX2_bounded_151 rfl rfl ?_
      refine st_iload_n (pc := 152) dX2_bounded_152 rfl rfl ?_
      refine st_iload (pc := 153) dX2_bounded_153 rfl ?_
      refine st_iload (pc := 155) dX2_bounded_155 rfl ?_
      obtain ⟨mc1, ms1, K1, hC, e1, e2, h⟩ := h
      refine sg_SI (pc := 157) (av := [vi a8, vi a1, vi a2, vi a3, vi a4, vi a5]) (st := [vi a6, vr (mR μ a0 1)]) (K := K1) dX2_bounded_157 ck_2_76 rfl (by show (2 : Nat) ≤ 8; decide) hC e1 e2 (fun x1 m1 hK => ?_) rfl
      replace h := h x1 m1 hK
      obtain ⟨hk3, h⟩ := h
      obtain ⟨h1, h⟩ := h
      refine st_iastore (pc := 160) dX2_bounded_160 hk3 h1.1 h1.2 ?_
      refine Wp.nameM (fun m2 em2 => ?_)
      replace h := h m2 em2
      refine sg_iinc (pc := 161) (ls' := [some (vr a0), some (vi a1), some (vi a2), some (vi a3), some (vi a4), some (vi a5), some (vi (w32 (a6 + 1))), some (vi a7), some (vi a8)]) dX2_bounded_161 rfl rfl ?_
      refine Wp.nameL (ls2 := fun v => [some (vr a0), some (vi a1), some (vi a2), some (vi a3), some (vi a4), some (vi a5), some (vi v), some (vi a7), some (vi a8)]) 6 _ rfl (fun _ => rfl) (fun v2 ev2 => ?_)
      replace h := h v2 ev2
      refine sg_iinc (pc := 164) (ls' := [some (vr a0), some (vi a1), some (vi a2), some (vi a3), some (vi a4), some (vi a5), some (vi v2), some (vi (w32 (a7 + 1))), some (vi a8)]) dX2_bounded_164 rfl rfl ?_
      refine Wp.nameL (ls2 := fun v => [some (vr a0), some (vi a1), some (vi a2), some (vi a3), some (vi a4), some (vi a5), some (vi v2), some (vi v), some (vi a8)]) 7 _ rfl (fun _ => rfl) (fun v3 ev3 => ?_)
      replace h := h v3 ev3
      refine st_goto (pc := 167) dX2_bounded_167 rfl ?_
      refine Wp.drop 8 rfl ?_
      exact h
    · replace h := h.2 c
      refine st_iload (pc := 143) dX2_bounded_143 rfl ?_
      refine st_goto (pc := 145) dX2_bounded_145 rfl ?_
      obtain ⟨hk4, h⟩ := h
      obtain ⟨h1, h⟩ := h
      refine st_iastore (pc := 160) dX2_bounded_160 hk4 h1.1 h1.2 ?_
      refine Wp.nameM (fun m3 em3 => ?_)
      replace h := h m3 em3
      refine sg_iinc (pc := 161) (ls' := [some (vr a0), some (vi a1), some (vi a2), some (vi a3), some (vi a4), some (vi a5), some (vi (w32 (a6 + 1))), some (vi a7), some (vi a8)]) dX2_bounded_161 rfl rfl ?_
      refine Wp.nameL (ls2 := fun v => [some (vr a0), some (vi a1), some (vi a2), some (vi a3), some (vi a4), some (vi a5), some (vi v), some (vi a7), some (vi a8)]) 6 _ rfl (fun _ => rfl) (fun v4 ev4 => ?_)
      replace h := h v4 ev4
      refine sg_iinc (pc := 164) (ls' := [some (vr a0), some (vi a1), some (vi a2), some (vi a3), some (vi a4), some (vi a5), some (vi v4), some (vi (w32 (a7 + 1))), some (vi a8)]) dX2_bounded_164 rfl rfl ?_
      refine Wp.nameL (ls2 := fun v => [some (vr a0), some (vi a1), some (vi a2), some (vi a3), some (vi a4), some (vi a5), some (vi v4), some (vi v), some (vi a8)]) 7 _ rfl (fun _ => rfl) (fun v5 ev5 => ?_)
      replace h := h v5 ev5
      refine st_goto (pc := 167) dX2_bounded_167 rfl ?_
      refine Wp.drop 8 rfl ?_
      exact h

theorem sg_X2_bounded_170 {d bc bs : Nat} {a0 : Nat} {a1 : Int} {a2 : Int} {a3 : Int} {a4 : Int} {a5 : Int} {a6 : Int} {a7 : Int} {μ : Mem} {Q : Option (Option AV) → Mem → Prop}
    (h : (a6 ≤ 0 → Q (some (some (vi 0))) μ) ∧ (¬ a6 ≤ 0 → mK μ a0 = 3 ∧ ((mK μ (mR μ a0 1) = 20 ∨ ((mR μ a0 1) ≠ 0 ∧ mK μ (mR μ a0 1) = 40)) ∧ ((0 : Int) ≤ (w32 (a6 - 1)) ∧ (w32 (a6 - 1)) < (mN μ (mR μ a0 1) : Int)) ∧ (∃ (mc1 ms1 : Nat) (K1 : Int → Mem → Prop), Cl d mc1 ms1 mX9_between [vi (mD μ (mR μ a0 1) (w32 (a6 - 1))), vi (-500), vi 500] μ (KI K1) ∧ mc1 ≤ bc ∧ ms1 ≤ bs ∧ (∀ x1 m1, K1 x1 m1 → Q (some (some (vi x1))) m1))))) :
    Wp (d + 1) bc bs mX2_bounded 170 [some (vr a0), some (vi a1), some (vi a2), some (vi a3), some (vi a4), some (vi a5), some (vi a6), some (vi a7), none] [] μ Q := by
  refine st_iload (pc := 170) dX2_bounded_170 rfl ?_
  refine st_ifle (pc := 172) (tgt := 196) dX2_bounded_172 rfl (fun c => ?_) (fun c => ?_)
  · replace h := h.1 c
    refine sg_iconst (pc := 196) dX2_bounded_196 (by omega) ?_
    exact st_ireturn (pc := 197) dX2_bounded_197 (Or.inl rfl) h
  · replace h := h.2 c
    refine st_aload_n (pc := 175) dX2_bounded_175 rfl rfl ?_
    obtain ⟨hk1, h⟩ := h
    refine sg_gfR (pc := 176) (J := 1) dX2_bounded_176 fl_2_15 rfl hk1 ?_
    refine st_iload (pc := 179) dX2_bounded_179 rfl ?_
    refine sg_iconst (pc := 181) dX2_bounded_181 (by omega) ?_
    refine st_isub (pc := 182) dX2_bounded_182 ?_
    obtain ⟨hk2, h⟩ := h
    obtain ⟨h1, h⟩ := h
    refine sg_iaload (pc := 183) dX2_bounded_183 hk2 h1 ?_
    refine sg_sipush (pc := 184) dX2_bounded_184 (by omega) (by decide) ?_
    refine sg_sipush (pc := 187) dX2_bounded_187 (by omega) (by decide) ?_
    obtain ⟨mc1, ms1, K1, hC, e1, e2, h⟩ := h
    refine sg_SNI (pc := 190) (av := [vi (mD μ (mR μ a0 1) (w32 (a6 - 1))), vi (-500), vi 500]) (st := []) (K := K1) dX2_bounded_190 ck_2_80 rfl (by show (0 : Nat) ≤ 8; decide) hC e1 e2 (fun x1 m1 hK => ?_) rfl
    replace h := h x1 m1 hK
    refine st_goto (pc := 193) dX2_bounded_193 rfl ?_
    exact st_ireturn (pc := 197) dX2_bounded_197 (Or.inl rfl) h

theorem sg_X1_offByLaw_0 {d bc bs : Nat} {a0 : Nat} {a1 : Int} {a2 : Nat} {a3 : Nat} {μ : Mem} {Q : Option (Option AV) → Mem → Prop}
    (h : mK μ a0 = 2 ∧ ((mK μ (mR μ a0 0) = 20 ∨ ((mR μ a0 0) ≠ 0 ∧ mK μ (mR μ a0 0) = 40)) ∧ ((0 : Int) ≤ a1 ∧ a1 < (mN μ (mR μ a0 0) : Int)) ∧ ((mK μ (mR μ a0 1) = 20 ∨ ((mR μ a0 1) ≠ 0 ∧ mK μ (mR μ a0 1) = 40)) ∧ ((0 : Int) ≤ a1 ∧ a1 < (mN μ (mR μ a0 1) : Int)) ∧ ((mK μ (mR μ a0 2) = 20 ∨ ((mR μ a0 2) ≠ 0 ∧ mK μ (mR μ a0 2) = 40)) ∧ ((0 : Int) ≤ a1 ∧ a1 < (mN μ (mR μ a0 2) : Int)) ∧ (mK μ a3 = 1 ∧ ((mK μ (mR μ a3 3) = 20 ∨ ((mR μ a3 3) ≠ 0 ∧ mK μ (mR μ a3 3) = 40)) ∧ ((0 : Int) ≤ 2 ∧ 2 < (mN μ (mR μ a3 3) : Int)) ∧ (mK μ a2 = 3 ∧ ∃ (mc1 ms1 : Nat) (K1 : Int → Mem → Prop), Cl d mc1 ms1 mX2_bounded [vr a2, vi (mD μ (mR μ a0 0) a1), vi (mD μ (mR μ a0 1) a1), vi (mD μ (mR μ a0 2) a1), vi (mD μ (mR μ a3 3) 2), vi (mD μ a3 2)] μ (KI K1) ∧ mc1 ≤ bc ∧ ms1 ≤ bs ∧ (∀ x1 m1, K1 x1 m1 → mK m1 a0 = 2 ∧ ((mK m1 (mR m1 a0 3) = 20 ∨ ((mR m1 a0 3) ≠ 0 ∧ mK m1 (mR m1 a0 3) = 40)) ∧ ((0 : Int) ≤ a1 ∧ a1 < (mN m1 (mR m1 a0 3) : Int)) ∧ (∃ (mc2 ms2 : Nat) (K2 : Int → Mem → Prop), Cl d mc2 ms2 mJ9_abs_0f7a4 [vi (w32 (x1 - (mD m1 (mR m1 a0 3) a1)))] m1 (KI K2) ∧ mc2 ≤ bc - mc1 ∧ ms2 ≤ bs - ms1 ∧ (∀ x2 m2, K2 x2 m2 → Q (some (some (vi x2))) m2))))))))))) :
    Wp (d + 1) bc bs mX1_offByLaw 0 [some (vr a0), some (vi a1), some (vr a2), some (vr a3), none] [] μ Q := by
  refine st_aload_n (pc := 0) dX1_offByLaw_0 rfl rfl ?_
  refine st_aload_n (pc := 1) dX1_offByLaw_1 rfl rfl ?_
  obtain ⟨hk1, h⟩ := h
  refine sg_gfR (pc := 2) (J := 0) dX1_offByLaw_2 fl_1_9 rfl hk1 ?_
  refine st_iload_n (pc := 5) dX1_offByLaw_5 rfl rfl ?_
  obtain ⟨hk2, h⟩ := h
  obtain ⟨h1, h⟩ := h
  refine sg_iaload (pc := 6) dX1_offByLaw_6 hk2 h1 ?_
  refine st_aload_n (pc := 7) dX1_offByLaw_7 rfl rfl ?_
  refine sg_gfR (pc := 8) (J := 1) dX1_offByLaw_8 fl_1_15 rfl hk1 ?_
  refine st_iload_n (pc := 11) dX1_offByLaw_11 rfl rfl ?_
  obtain ⟨hk3, h⟩ := h
  obtain ⟨h1, h⟩ := h
  refine sg_iaload (pc := 12) dX1_offByLaw_12 hk3 h1 ?_
  refine st_aload_n (pc := 13) dX1_offByLaw_13 rfl rfl ?_
  refine sg_gfR (pc := 14) (J := 2) dX1_offByLaw_14 fl_1_18 rfl hk1 ?_
  refine st_iload_n (pc := 17) dX1_offByLaw_17 rfl rfl ?_
  obtain ⟨hk4, h⟩ := h
  obtain ⟨h1, h⟩ := h
  refine sg_iaload (pc := 18) dX1_offByLaw_18 hk4 h1 ?_
  refine st_aload_n (pc := 19) dX1_offByLaw_19 rfl rfl ?_
  obtain ⟨hk5, h⟩ := h
  refine sg_gfR (pc := 20) (J := 3) dX1_offByLaw_20 fl_1_28 rfl hk5 ?_
  refine sg_iconst (pc := 23) dX1_offByLaw_23 (by omega) ?_
  obtain ⟨hk6, h⟩ := h
  obtain ⟨h1, h⟩ := h
  refine sg_iaload (pc := 24) dX1_offByLaw_24 hk6 h1 ?_
  refine st_aload_n (pc := 25) dX1_offByLaw_25 rfl rfl ?_
  refine sg_gfI (pc := 26) (J := 2) dX1_offByLaw_26 fl_1_33 (by decide) rfl hk5 ?_
  obtain ⟨hk7, h⟩ := h
  obtain ⟨mc1, ms1, K1, hC, e1, e2, h⟩ := h
  refine sg_VI (pc := 29) (av := [vi (mD μ (mR μ a0 0) a1), vi (mD μ (mR μ a0 1) a1), vi (mD μ (mR μ a0 2) a1), vi (mD μ (mR μ a3 3) 2), vi (mD μ a3 2)]) (st := []) (K := K1) dX1_offByLaw_29 ck_1_36 rfl (by decide) hk7 (by show (0 : Nat) ≤ 8; decide) hC e1 e2 (fun x1 m1 hK => ?_) rfl
  replace h := h x1 m1 hK
  refine sg_istore (pc := 32) (ls' := [some (vr a0), some (vi a1), some (vr a2), some (vr a3), some (vi x1)]) dX1_offByLaw_32 (by show (4 : Nat) < 5; decide) rfl ?_
  refine st_iload (pc := 34) dX1_offByLaw_34 rfl ?_
  refine st_aload_n (pc := 36) dX1_offByLaw_36 rfl rfl ?_
  obtain ⟨hk8, h⟩ := h
  refine sg_gfR (pc := 37) (J := 3) dX1_offByLaw_37 fl_1_21 rfl hk8 ?_
  refine st_iload_n (pc := 40) dX1_offByLaw_40 rfl rfl ?_
  obtain ⟨hk9, h⟩ := h
  obtain ⟨h1, h⟩ := h
  refine sg_iaload (pc := 41) dX1_offByLaw_41 hk9 h1 ?_
  refine st_isub (pc := 42) dX1_offByLaw_42 ?_
  obtain ⟨mc2, ms2, K2, hC, e1, e2, h⟩ := h
  refine sg_SI (pc := 43) (av := [vi (w32 (x1 - (mD m1 (mR m1 a0 3) a1)))]) (st := []) (K := K2) dX1_offByLaw_43 ck_1_42 rfl (by show (0 : Nat) ≤ 8; decide) hC e1 e2 (fun x2 m2 hK => ?_) rfl
  replace h := h x2 m2 hK
  exact st_ireturn (pc := 46) dX1_offByLaw_46 (Or.inl rfl) h

theorem sg_X1_offByTenths_0 {d bc bs : Nat} {a0 : Nat} {a1 : Int} {a2 : Int} {μ : Mem} {Q : Option (Option AV) → Mem → Prop}
    (h : Wp (d + 1) bc bs mX1_offByTenths 5 [some (vr a0), some (vi a1), some (vi a2), some (vi 0), some (vi 0), none] [] μ Q) :
    Wp (d + 1) bc bs mX1_offByTenths 0 [some (vr a0), some (vi a1), some (vi a2), none, none, none] [] μ Q := by
  refine sg_iconst (pc := 0) dX1_offByTenths_0 (by omega) ?_
  refine sg_istore_n (pc := 1) (ls' := [some (vr a0), some (vi a1), some (vi a2), some (vi 0), none, none]) dX1_offByTenths_1 rfl (by show (3 : Nat) < 6; decide) rfl ?_
  refine sg_iconst (pc := 2) dX1_offByTenths_2 (by omega) ?_
  refine sg_istore (pc := 3) (ls' := [some (vr a0), some (vi a1), some (vi a2), some (vi 0), some (vi 0), none]) dX1_offByTenths_3 (by show (4 : Nat) < 6; decide) rfl ?_
  exact h

theorem sg_X1_offByTenths_5 {d bc bs : Nat} {a0 : Nat} {a1 : Int} {a2 : Int} {a3 : Int} {a4 : Int} {μ : Mem} {Q : Option (Option AV) → Mem → Prop}
    (h : mK μ a0 = 2 ∧ (((mD μ a0 4) ≤ a4 → Q (some (some (vi a3))) μ) ∧ (¬ (mD μ a0 4) ≤ a4 → (mK μ (mR μ a0 0) = 20 ∨ ((mR μ a0 0) ≠ 0 ∧ mK μ (mR μ a0 0) = 40)) ∧ ((0 : Int) ≤ a4 ∧ a4 < (mN μ (mR μ a0 0) : Int)) ∧ ((mK μ (mR μ a0 1) = 20 ∨ ((mR μ a0 1) ≠ 0 ∧ mK μ (mR μ a0 1) = 40)) ∧ ((0 : Int) ≤ a4 ∧ a4 < (mN μ (mR μ a0 1) : Int)) ∧ (∃ (mc1 ms1 : Nat) (K1 : Int → Mem → Prop), Cl d mc1 ms1 mX9_between [vi (w32 ((w32 ((w32 ((mD μ (mR μ a0 0) a4) * a1)).tdiv 10)) - (w32 ((w32 ((mD μ (mR μ a0 1) a4) * a2)).tdiv 10)))), vi (-500), vi 500] μ (KI K1) ∧ mc1 ≤ bc ∧ ms1 ≤ bs ∧ (∀ x1 m1, K1 x1 m1 → mK m1 a0 = 2 ∧ ((mK m1 (mR m1 a0 3) = 20 ∨ ((mR m1 a0 3) ≠ 0 ∧ mK m1 (mR m1 a0 3) = 40)) ∧ ((0 : Int) ≤ a4 ∧ a4 < (mN m1 (mR m1 a0 3) : Int)) ∧ (∃ (mc2 ms2 : Nat) (K2 : Int → Mem → Prop), Cl d mc2 ms2 mJ9_abs_0f7a4 [vi (w32 (x1 - (mD m1 (mR m1 a0 3) a4)))] m1 (KI K2) ∧ mc2 ≤ bc - mc1 ∧ ms2 ≤ bs - ms1 ∧ (∀ x2 m2, K2 x2 m2 → ∀ v1, v1 = w32 (a3 + x2) → ∀ v2, v2 = w32 (a4 + 1) → Wp (d + 1) (bc - mc1 - mc2) (bs - ms1 - ms2) mX1_offByTenths 5 [some (vr a0), some (vi a1), some (vi a2), some (vi v1), some (vi v2), none] [] m2 Q))))))))) :
    Wp (d + 1) bc bs mX1_offByTenths 5 [some (vr a0), some (vi a1), some (vi a2), some (vi a3), some (vi a4), none] [] μ Q := by
  refine st_iload (pc := 5) dX1_offByTenths_5 rfl ?_
  refine st_aload_n (pc := 7) dX1_offByTenths_7 rfl rfl ?_
  obtain ⟨hk1, h⟩ := h
  refine sg_gfI (pc := 8) (J := 4) dX1_offByTenths_8 fl_1_24 (by decide) rfl hk1 ?_
  refine st_icmpge (pc := 11) (tgt := 72) dX1_offByTenths_11 rfl (fun c => ?_) (fun c => ?_)
  · replace h := h.1 c
    refine st_iload_n (pc := 72) dX1_offByTenths_72 rfl rfl ?_
    exact st_ireturn (pc := 73) dX1_offByTenths_73 (Or.inl rfl) h
  · replace h := h.2 c
    refine st_aload_n (pc := 14) dX1_offByTenths_14 rfl rfl ?_
    refine sg_gfR (pc := 15) (J := 0) dX1_offByTenths_15 fl_1_9 rfl hk1 ?_
    refine st_iload (pc := 18) dX1_offByTenths_18 rfl ?_
    obtain ⟨hk2, h⟩ := h
    obtain ⟨h1, h⟩ := h
    refine sg_iaload (pc := 20) dX1_offByTenths_20 hk2 h1 ?_
    refine st_iload_n (pc := 21) dX1_offByTenths_21 rfl rfl ?_
    refine st_imul (pc := 22) dX1_offByTenths_22 ?_
    refine sg_bipush (pc := 23) dX1_offByTenths_23 (by omega) (by decide) ?_
    refine st_idiv (pc := 25) dX1_offByTenths_25 (by omega) ?_
    refine st_aload_n (pc := 26) dX1_offByTenths_26 rfl rfl ?_
    refine sg_gfR (pc := 27) (J := 1) dX1_offByTenths_27 fl_1_15 rfl hk1 ?_
    refine st_iload (pc := 30) dX1_offByTenths_30 rfl ?_
    obtain ⟨hk3, h⟩ := h
    obtain ⟨h1, h⟩ := h
    refine sg_iaload (pc := 32) dX1_offByTenths_32 hk3 h1 ?_
    refine st_iload_n (pc := 33) dX1_offByTenths_33 rfl rfl ?_
    refine st_imul (pc := 34) dX1_offByTenths_34 ?_
    refine sg_bipush (pc := 35) dX1_offByTenths_35 (by omega) (by decide) ?_
    refine st_idiv (pc := 37) dX1_offByTenths_37 (by omega) ?_
    refine st_isub (pc := 38) dX1_offByTenths_38 ?_
    refine sg_sipush (pc := 39) dX1_offByTenths_39 (by omega) (by decide) ?_
    refine sg_sipush (pc := 42) dX1_offByTenths_42 (by omega) (by decide) ?_
    obtain ⟨mc1, ms1, K1, hC, e1, e2, h⟩ := h
    refine sg_SNI (pc := 45) (av := [vi (w32 ((w32 ((w32 ((mD μ (mR μ a0 0) a4) * a1)).tdiv 10)) - (w32 ((w32 ((mD μ (mR μ a0 1) a4) * a2)).tdiv 10)))), vi (-500), vi 500]) (st := []) (K := K1) dX1_offByTenths_45 ck_1_48 rfl (by show (0 : Nat) ≤ 8; decide) hC e1 e2 (fun x1 m1 hK => ?_) rfl
    replace h := h x1 m1 hK
    refine sg_istore (pc := 48) (ls' := [some (vr a0), some (vi a1), some (vi a2), some (vi a3), some (vi a4), some (vi x1)]) dX1_offByTenths_48 (by show (5 : Nat) < 6; decide) rfl ?_
    refine st_iload_n (pc := 50) dX1_offByTenths_50 rfl rfl ?_
    refine st_iload (pc := 51) dX1_offByTenths_51 rfl ?_
    refine st_aload_n (pc := 53) dX1_offByTenths_53 rfl rfl ?_
    obtain ⟨hk4, h⟩ := h
    refine sg_gfR (pc := 54) (J := 3) dX1_offByTenths_54 fl_1_21 rfl hk4 ?_
    refine st_iload (pc := 57) dX1_offByTenths_57 rfl ?_
    obtain ⟨hk5, h⟩ := h
    obtain ⟨h1, h⟩ := h
    refine sg_iaload (pc := 59) dX1_offByTenths_59 hk5 h1 ?_
    refine st_isub (pc := 60) dX1_offByTenths_60 ?_
    obtain ⟨mc2, ms2, K2, hC, e1, e2, h⟩ := h
    refine sg_SI (pc := 61) (av := [vi (w32 (x1 - (mD m1 (mR m1 a0 3) a4)))]) (st := [vi a3]) (K := K2) dX1_offByTenths_61 ck_1_42 rfl (by show (1 : Nat) ≤ 8; decide) hC e1 e2 (fun x2 m2 hK => ?_) rfl
    replace h := h x2 m2 hK
    refine st_iadd (pc := 64) dX1_offByTenths_64 ?_
    refine sg_istore_n (pc := 65) (ls' := [some (vr a0), some (vi a1), some (vi a2), some (vi (w32 (a3 + x2))), some (vi a4), some (vi x1)]) dX1_offByTenths_65 rfl (by show (3 : Nat) < 6; decide) rfl ?_
    refine Wp.nameL (ls2 := fun v => [some (vr a0), some (vi a1), some (vi a2), some (vi v), some (vi a4), some (vi x1)]) 3 _ rfl (fun _ => rfl) (fun v1 ev1 => ?_)
    replace h := h v1 ev1
    refine sg_iinc (pc := 66) (ls' := [some (vr a0), some (vi a1), some (vi a2), some (vi v1), some (vi (w32 (a4 + 1))), some (vi x1)]) dX1_offByTenths_66 rfl rfl ?_
    refine Wp.nameL (ls2 := fun v => [some (vr a0), some (vi a1), some (vi a2), some (vi v1), some (vi v), some (vi x1)]) 4 _ rfl (fun _ => rfl) (fun v2 ev2 => ?_)
    replace h := h v2 ev2
    refine st_goto (pc := 69) dX1_offByTenths_69 rfl ?_
    refine Wp.drop 5 rfl ?_
    exact h

theorem sg_X2_init_0 {d bc bs : Nat} {a0 : Nat} {μ : Mem} {Q : Option (Option AV) → Mem → Prop}
    (h : a0 ≠ 0 ∧ (mX μ ≠ 0 ∧ (0 : Int) ≤ 40 ∧ 40 ≤ (100000 : Int) ∧ 1 ≤ bc ∧ 40 ≤ ((bs : Nat) : Int) ∧ (∀ m1, m1 = nwM μ 20 (40 : Int).toNat → mK m1 a0 = 3 ∧ (∀ m2, m2 = sR m1 a0 0 (mX μ) → mX m2 ≠ 0 ∧ (0 : Int) ≤ 40 ∧ 40 ≤ (100000 : Int) ∧ 1 ≤ bc - 1 ∧ 40 ≤ ((bs - (40 : Int).toNat : Nat) : Int) ∧ (∀ m3, m3 = nwM m2 20 (40 : Int).toNat → mK m3 a0 = 3 ∧ (∀ m4, m4 = sR m3 a0 1 (mX m2) → mK m4 a0 = 3 ∧ (∀ m5, m5 = sD m4 a0 2 0 → Q (some none) m5))))))) :
    Wp d bc bs mX2_init 0 [some (vr a0)] [] μ Q := by
  refine st_aload_n (pc := 0) dX2_init_0 rfl rfl ?_
  obtain ⟨h0, h⟩ := h
  refine st_objInit (pc := 1) (st := []) dX2_init_1 ck_2_3 h0 (by show (0 : Nat) ≤ 8; decide) ?_
  refine st_aload_n (pc := 4) dX2_init_4 rfl rfl ?_
  refine sg_bipush (pc := 5) dX2_init_5 (by omega) (by decide) ?_
  obtain ⟨h0, h1, h2, h3, h4, h⟩ := h
  refine st_newI (pc := 7) dX2_init_7 h0 h1 h2 h3 h4 ?_
  refine Wp.nameM (fun m1 em1 => ?_)
  replace h := h m1 em1
  obtain ⟨hk1, h⟩ := h
  refine sg_pfR (pc := 9) (J := 0) dX2_init_9 fl_2_9 rfl (Or.inr ⟨rfl, rfl⟩) hk1 ?_
  refine Wp.nameM (fun m2 em2 => ?_)
  replace h := h m2 em2
  refine st_aload_n (pc := 12) dX2_init_12 rfl rfl ?_
  refine sg_bipush (pc := 13) dX2_init_13 (by omega) (by decide) ?_
  obtain ⟨h0, h1, h2, h3, h4, h⟩ := h
  refine st_newI (pc := 15) dX2_init_15 h0 h1 h2 h3 h4 ?_
  refine Wp.nameM (fun m3 em3 => ?_)
  replace h := h m3 em3
  obtain ⟨hk2, h⟩ := h
  refine sg_pfR (pc := 17) (J := 1) dX2_init_17 fl_2_15 rfl (Or.inr ⟨rfl, rfl⟩) hk2 ?_
  refine Wp.nameM (fun m4 em4 => ?_)
  replace h := h m4 em4
  refine st_aload_n (pc := 20) dX2_init_20 rfl rfl ?_
  refine sg_iconst (pc := 21) dX2_init_21 (by omega) ?_
  obtain ⟨hk3, h⟩ := h
  refine sg_pfI (pc := 22) (J := 2) dX2_init_22 fl_2_18 rfl (Or.inl rfl) hk3 ?_
  refine Wp.nameM (fun m5 em5 => ?_)
  replace h := h m5 em5
  exact st_return (pc := 25) dX2_init_25 rfl h

theorem sg_X2_emit_0 {d bc bs : Nat} {a0 : Nat} {a1 : Int} {μ : Mem} {Q : Option (Option AV) → Mem → Prop}
    (h : mK μ a0 = 3 ∧ (((20 ≤ mK μ (mR μ a0 0) ∧ mK μ (mR μ a0 0) ≤ 28) ∨ ((mR μ a0 0) ≠ 0 ∧ mK μ (mR μ a0 0) = 40)) ∧ (((mN μ (mR μ a0 0) : Int) ≤ (mD μ a0 2) → Q (some none) μ) ∧ (¬ (mN μ (mR μ a0 0) : Int) ≤ (mD μ a0 2) → mK μ (mR μ a0 0) = 20 ∧ ((0 : Int) ≤ (mD μ a0 2) ∧ (mD μ a0 2) < (mN μ (mR μ a0 0) : Int)) ∧ (∀ m1, m1 = sD μ (mR μ a0 0) (mD μ a0 2) a1 → (∀ m2, m2 = sD m1 a0 2 (w32 ((mD m1 a0 2) + 1)) → Q (some none) m2)))))) :
    Wp d bc bs mX2_emit 0 [some (vr a0), some (vi a1)] [] μ Q := by
  refine st_aload_n (pc := 0) dX2_emit_0 rfl rfl ?_
  obtain ⟨hk1, h⟩ := h
  refine sg_gfI (pc := 1) (J := 2) dX2_emit_1 fl_2_18 (by decide) rfl hk1 ?_
  refine st_aload_n (pc := 4) dX2_emit_4 rfl rfl ?_
  refine sg_gfR (pc := 5) (J := 0) dX2_emit_5 fl_2_9 rfl hk1 ?_
  obtain ⟨hk2, h⟩ := h
  refine sg_alen (pc := 8) dX2_emit_8 hk2 ?_
  refine st_icmpge (pc := 9) (tgt := 32) dX2_emit_9 rfl (fun c => ?_) (fun c => ?_)
  · replace h := h.1 c
    exact st_return (pc := 32) dX2_emit_32 rfl h
  · replace h := h.2 c
    refine st_aload_n (pc := 12) dX2_emit_12 rfl rfl ?_
    refine sg_gfR (pc := 13) (J := 0) dX2_emit_13 fl_2_9 rfl hk1 ?_
    refine st_aload_n (pc := 16) dX2_emit_16 rfl rfl ?_
    refine sg_gfI (pc := 17) (J := 2) dX2_emit_17 fl_2_18 (by decide) rfl hk1 ?_
    refine st_iload_n (pc := 20) dX2_emit_20 rfl rfl ?_
    obtain ⟨hk3, h⟩ := h
    obtain ⟨h1, h⟩ := h
    refine st_iastore (pc := 21) dX2_emit_21 hk3 h1.1 h1.2 ?_
    refine Wp.nameM (fun m1 em1 => ?_)
    replace h := h m1 em1
    refine st_aload_n (pc := 22) dX2_emit_22 rfl rfl ?_
    refine st_dup (pc := 23) dX2_emit_23 rfl ?_
    refine sg_gfI (pc := 24) (J := 2) dX2_emit_24 fl_2_18 (by decide) rfl (by cases em1; exact hk1) ?_
    refine sg_iconst (pc := 27) dX2_emit_27 (by omega) ?_
    refine st_iadd (pc := 28) dX2_emit_28 ?_
    refine sg_pfI (pc := 29) (J := 2) dX2_emit_29 fl_2_18 rfl (Or.inl rfl) (by cases em1; exact hk1) ?_
    refine Wp.nameM (fun m2 em2 => ?_)
    replace h := h m2 em2
    exact st_return (pc := 32) dX2_emit_32 rfl h

theorem sg_X2_readName_0 {d bc bs : Nat} {a0 : Nat} {a1 : Nat} {μ : Mem} {Q : Option (Option AV) → Mem → Prop}
    (h : mK μ a1 = 7 ∧ ∃ (mc1 ms1 : Nat) (K1 : Int → Mem → Prop), Cl d mc1 ms1 mX6_skip [vr a1, vi 112] μ (KI K1) ∧ mc1 ≤ bc ∧ ms1 ≤ bs ∧ (∀ x1 m1, K1 x1 m1 → (x1 = 0 → mK m1 a1 = 7 ∧ ∃ (mc2 ms2 : Nat) (K2 : Int → Mem → Prop), Cl d mc2 ms2 mX6_skip [vr a1, vi 115] m1 (KI K2) ∧ mc2 ≤ bc - mc1 ∧ ms2 ≤ bs - ms1 ∧ (∀ x2 m2, K2 x2 m2 → (x2 = 0 → mK m2 a1 = 7 ∧ ∃ (mc3 ms3 : Nat) (K3 : Int → Mem → Prop), Cl d mc3 ms3 mX6_skip [vr a1, vi 116] m2 (KI K3) ∧ mc3 ≤ bc - mc1 - mc2 ∧ ms3 ≤ bs - ms1 - ms2 ∧ (∀ x3 m3, K3 x3 m3 → (x3 = 0 → mK m3 a1 = 7 ∧ ∃ (mc4 ms4 : Nat) (K4 : Int → Mem → Prop), Cl d mc4 ms4 mX6_skip [vr a1, vi 102] m3 (KI K4) ∧ mc4 ≤ bc - mc1 - mc2 - mc3 ∧ ms4 ≤ bs - ms1 - ms2 - ms3 ∧ (∀ x4 m4, K4 x4 m4 → (x4 = 0 → mK m4 a1 = 7 ∧ ∃ (mc5 ms5 : Nat) (K5 : Int → Mem → Prop), Cl d mc5 ms5 mX6_skip [vr a1, vi 104] m4 (KI K5) ∧ mc5 ≤ bc - mc1 - mc2 - mc3 - mc4 ∧ ms5 ≤ bs - ms1 - ms2 - ms3 - ms4 ∧ (∀ x5 m5, K5 x5 m5 → (x5 = 0 → mK m5 a1 = 7 ∧ ∃ (mc6 ms6 : Nat) (K6 : Mem → Prop), Cl d mc6 ms6 mX6_failHere [vr a1] m5 (KV K6) ∧ mc6 ≤ bc - mc1 - mc2 - mc3 - mc4 - mc5 ∧ ms6 ≤ bs - ms1 - ms2 - ms3 - ms4 - ms5 ∧ (∀ m6, K6 m6 → Q (some none) m6)) ∧ (¬ x5 = 0 → mK m5 a0 = 3 ∧ ∃ (mc7 ms7 : Nat) (K7 : Mem → Prop), Cl d mc7 ms7 mX2_emit [vr a0, vi (-10)] m5 (KV K7) ∧ mc7 ≤ bc - mc1 - mc2 - mc3 - mc4 - mc5 ∧ ms7 ≤ bs - ms1 - ms2 - ms3 - ms4 - ms5 ∧ (∀ m7, K7 m7 → Q (some none) m7)))) ∧ (¬ x4 = 0 → mK m4 a0 = 3 ∧ ∃ (mc8 ms8 : Nat) (K8 : Mem → Prop), Cl d mc8 ms8 mX2_emit [vr a0, vi (-9)] m4 (KV K8) ∧ mc8 ≤ bc - mc1 - mc2 - mc3 - mc4 ∧ ms8 ≤ bs - ms1 - ms2 - ms3 - ms4 ∧ (∀ m8, K8 m8 → Q (some none) m8)))) ∧ (¬ x3 = 0 → mK m3 a0 = 3 ∧ ∃ (mc9 ms9 : Nat) (K9 : Mem → Prop), Cl d mc9 ms9 mX2_emit [vr a0, vi (-8)] m3 (KV K9) ∧ mc9 ≤ bc - mc1 - mc2 - mc3 ∧ ms9 ≤ bs - ms1 - ms2 - ms3 ∧ (∀ m9, K9 m9 → Q (some none) m9)))) ∧ (¬ x2 = 0 → mK m2 a0 = 3 ∧ ∃ (mc10 ms10 : Nat) (K10 : Mem → Prop), Cl d mc10 ms10 mX2_emit [vr a0, vi (-7)] m2 (KV K10) ∧ mc10 ≤ bc - mc1 - mc2 ∧ ms10 ≤ bs - ms1 - ms2 ∧ (∀ m10, K10 m10 → Q (some none) m10)))) ∧ (¬ x1 = 0 → mK m1 a0 = 3 ∧ ∃ (mc11 ms11 : Nat) (K11 : Mem → Prop), Cl d mc11 ms11 mX2_emit [vr a0, vi (-6)] m1 (KV K11) ∧ mc11 ≤ bc - mc1 ∧ ms11 ≤ bs - ms1 ∧ (∀ m11, K11 m11 → Q (some none) m11)))) :
    Wp (d + 1) bc bs mX2_readName 0 [some (vr a0), some (vr a1)] [] μ Q := by
  refine st_aload_n (pc := 0) dX2_readName_0 rfl rfl ?_
  refine sg_bipush (pc := 1) dX2_readName_1 (by omega) (by decide) ?_
  obtain ⟨hk1, h⟩ := h
  obtain ⟨mc1, ms1, K1, hC, e1, e2, h⟩ := h
  refine sg_VI (pc := 3) (av := [vi 112]) (st := []) (K := K1) dX2_readName_3 ck_2_39 rfl (by decide) hk1 (by show (0 : Nat) ≤ 8; decide) hC e1 e2 (fun x1 m1 hK => ?_) rfl
  replace h := h x1 m1 hK
  refine st_ifeq (pc := 6) (tgt := 18) dX2_readName_6 rfl (fun c => ?_) (fun c => ?_)
  · replace h := h.1 c
    refine st_aload_n (pc := 18) dX2_readName_18 rfl rfl ?_
    refine sg_bipush (pc := 19) dX2_readName_19 (by omega) (by decide) ?_
    obtain ⟨hk2, h⟩ := h
    obtain ⟨mc2, ms2, K2, hC, e1, e2, h⟩ := h
    refine sg_VI (pc := 21) (av := [vi 115]) (st := []) (K := K2) dX2_readName_21 ck_2_39 rfl (by decide) hk2 (by show (0 : Nat) ≤ 8; decide) hC e1 e2 (fun x2 m2 hK => ?_) rfl
    replace h := h x2 m2 hK
    refine st_ifeq (pc := 24) (tgt := 36) dX2_readName_24 rfl (fun c => ?_) (fun c => ?_)
    · replace h := h.1 c
      refine st_aload_n (pc := 36) dX2_readName_36 rfl rfl ?_
      refine sg_bipush (pc := 37) dX2_readName_37 (by omega) (by decide) ?_
      obtain ⟨hk3, h⟩ := h
      obtain ⟨mc3, ms3, K3, hC, e1, e2, h⟩ := h
      refine sg_VI (pc := 39) (av := [vi 116]) (st := []) (K := K3) dX2_readName_39 ck_2_39 rfl (by decide) hk3 (by show (0 : Nat) ≤ 8; decide) hC e1 e2 (fun x3 m3 hK => ?_) rfl
      replace h := h x3 m3 hK
      refine st_ifeq (pc := 42) (tgt := 54) dX2_readName_42 rfl (fun c => ?_) (fun c => ?_)
      · replace h := h.1 c
        refine st_aload_n (pc := 54) dX2_readName_54 rfl rfl ?_
        refine sg_bipush (pc := 55) dX2_readName_55 (by omega) (by decide) ?_
        obtain ⟨hk4, h⟩ := h
        obtain ⟨mc4, ms4, K4, hC, e1, e2, h⟩ := h
        refine sg_VI (pc := 57) (av := [vi 102]) (st := []) (K := K4) dX2_readName_57 ck_2_39 rfl (by decide) hk4 (by show (0 : Nat) ≤ 8; decide) hC e1 e2 (fun x4 m4 hK => ?_) rfl
        replace h := h x4 m4 hK
        refine st_ifeq (pc := 60) (tgt := 72) dX2_readName_60 rfl (fun c => ?_) (fun c => ?_)
        · replace h := h.1 c
          refine st_aload_n (pc := 72) dX2_readName_72 rfl rfl ?_
          refine sg_bipush (pc := 73) dX2_readName_73 (by omega) (by decide) ?_
          obtain ⟨hk5, h⟩ := h
          obtain ⟨mc5, ms5, K5, hC, e1, e2, h⟩ := h
          refine sg_VI (pc := 75) (av := [vi 104]) (st := []) (K := K5) dX2_readName_75 ck_2_39 rfl (by decide) hk5 (by show (0 : Nat) ≤ 8; decide) hC e1 e2 (fun x5 m5 hK => ?_) rfl
          replace h := h x5 m5 hK
          refine st_ifeq (pc := 78) (tgt := 90) dX2_readName_78 rfl (fun c => ?_) (fun c => ?_)
          · replace h := h.1 c
            refine st_aload_n (pc := 90) dX2_readName_90 rfl rfl ?_
            obtain ⟨hk6, h⟩ := h
            obtain ⟨mc6, ms6, K6, hC, e1, e2, h⟩ := h
            refine sg_VV (pc := 91) (av := []) (st := []) (K := K6) dX2_readName_91 ck_2_65 rfl (by decide) hk6 (by show (0 : Nat) ≤ 8; decide) hC e1 e2 (fun m6 hK => ?_) rfl
            replace h := h m6 hK
            exact st_return (pc := 94) dX2_readName_94 rfl h
          · replace h := h.2 c
            refine st_aload_n (pc := 81) dX2_readName_81 rfl rfl ?_
            refine sg_bipush (pc := 82) dX2_readName_82 (by omega) (by decide) ?_
            obtain ⟨hk7, h⟩ := h
            obtain ⟨mc7, ms7, K7, hC, e1, e2, h⟩ := h
            refine sg_VV (pc := 84) (av := [vi (-10)]) (st := []) (K := K7) dX2_readName_84 ck_2_43 rfl (by decide) hk7 (by show (0 : Nat) ≤ 8; decide) hC e1 e2 (fun m7 hK => ?_) rfl
            replace h := h m7 hK
            refine st_goto (pc := 87) dX2_readName_87 rfl ?_
            exact st_return (pc := 94) dX2_readName_94 rfl h
        · replace h := h.2 c
          refine st_aload_n (pc := 63) dX2_readName_63 rfl rfl ?_
          refine sg_bipush (pc := 64) dX2_readName_64 (by omega) (by decide) ?_
          obtain ⟨hk8, h⟩ := h
          obtain ⟨mc8, ms8, K8, hC, e1, e2, h⟩ := h
          refine sg_VV (pc := 66) (av := [vi (-9)]) (st := []) (K := K8) dX2_readName_66 ck_2_43 rfl (by decide) hk8 (by show (0 : Nat) ≤ 8; decide) hC e1 e2 (fun m8 hK => ?_) rfl
          replace h := h m8 hK
          refine st_goto (pc := 69) dX2_readName_69 rfl ?_
          exact st_return (pc := 94) dX2_readName_94 rfl h
      · replace h := h.2 c
        refine st_aload_n (pc := 45) dX2_readName_45 rfl rfl ?_
        refine sg_bipush (pc := 46) dX2_readName_46 (by omega) (by decide) ?_
        obtain ⟨hk9, h⟩ := h
        obtain ⟨mc9, ms9, K9, hC, e1, e2, h⟩ := h
        refine sg_VV (pc := 48) (av := [vi (-8)]) (st := []) (K := K9) dX2_readName_48 ck_2_43 rfl (by decide) hk9 (by show (0 : Nat) ≤ 8; decide) hC e1 e2 (fun m9 hK => ?_) rfl
        replace h := h m9 hK
        refine st_goto (pc := 51) dX2_readName_51 rfl ?_
        exact st_return (pc := 94) dX2_readName_94 rfl h
    · replace h := h.2 c
      refine st_aload_n (pc := 27) dX2_readName_27 rfl rfl ?_
      refine sg_bipush (pc := 28) dX2_readName_28 (by omega) (by decide) ?_
      obtain ⟨hk10, h⟩ := h
      obtain ⟨mc10, ms10, K10, hC, e1, e2, h⟩ := h
      refine sg_VV (pc := 30) (av := [vi (-7)]) (st := []) (K := K10) dX2_readName_30 ck_2_43 rfl (by decide) hk10 (by show (0 : Nat) ≤ 8; decide) hC e1 e2 (fun m10 hK => ?_) rfl
      replace h := h m10 hK
      refine st_goto (pc := 33) dX2_readName_33 rfl ?_
      exact st_return (pc := 94) dX2_readName_94 rfl h
  · replace h := h.2 c
    refine st_aload_n (pc := 9) dX2_readName_9 rfl rfl ?_
    refine sg_bipush (pc := 10) dX2_readName_10 (by omega) (by decide) ?_
    obtain ⟨hk11, h⟩ := h
    obtain ⟨mc11, ms11, K11, hC, e1, e2, h⟩ := h
    refine sg_VV (pc := 12) (av := [vi (-6)]) (st := []) (K := K11) dX2_readName_12 ck_2_43 rfl (by decide) hk11 (by show (0 : Nat) ≤ 8; decide) hC e1 e2 (fun m11 hK => ?_) rfl
    replace h := h m11 hK
    refine st_goto (pc := 15) dX2_readName_15 rfl ?_
    exact st_return (pc := 94) dX2_readName_94 rfl h

theorem sg_X2_readProduct_0 {d bc bs : Nat} {a0 : Nat} {a1 : Nat} {a2 : Int} {μ : Mem} {Q : Option (Option AV) → Mem → Prop}
    (h : mK μ a0 = 3 ∧ ∃ (mc1 ms1 : Nat) (K1 : Mem → Prop), Cl d mc1 ms1 mX2_readThing [vr a0, vr a1, vi a2] μ (KV K1) ∧ mc1 ≤ bc ∧ ms1 ≤ bs ∧ (∀ m1, K1 m1 → Wp (d + 1) (bc - mc1) (bs - ms1) mX2_readProduct 8 [some (vr a0), some (vr a1), some (vi a2), some (vi 0)] [] m1 Q)) :
    Wp (d + 1) bc bs mX2_readProduct 0 [some (vr a0), some (vr a1), some (vi a2), none] [] μ Q := by
  refine st_aload_n (pc := 0) dX2_readProduct_0 rfl rfl ?_
  refine st_aload_n (pc := 1) dX2_readProduct_1 rfl rfl ?_
  refine st_iload_n (pc := 2) dX2_readProduct_2 rfl rfl ?_
  obtain ⟨hk1, h⟩ := h
  obtain ⟨mc1, ms1, K1, hC, e1, e2, h⟩ := h
  refine sg_VV (pc := 3) (av := [vr a1, vi a2]) (st := []) (K := K1) dX2_readProduct_3 ck_2_47 rfl (by decide) hk1 (by show (0 : Nat) ≤ 8; decide) hC e1 e2 (fun m1 hK => ?_) rfl
  replace h := h m1 hK
  refine sg_iconst (pc := 6) dX2_readProduct_6 (by omega) ?_
  refine sg_istore_n (pc := 7) (ls' := [some (vr a0), some (vr a1), some (vi a2), some (vi 0)]) dX2_readProduct_7 rfl (by show (3 : Nat) < 4; decide) rfl ?_
  exact h

theorem sg_X2_readProduct_8 {d bc bs : Nat} {a0 : Nat} {a1 : Nat} {a2 : Int} {a3 : Int} {μ : Mem} {Q : Option (Option AV) → Mem → Prop}
    (h : (40 ≤ a3 → Q (some none) μ) ∧ (¬ 40 ≤ a3 → mK μ a1 = 7 ∧ ∃ (mc1 ms1 : Nat) (K1 : Int → Mem → Prop), Cl d mc1 ms1 mX6_isGood [vr a1] μ (KI K1) ∧ mc1 ≤ bc ∧ ms1 ≤ bs ∧ (∀ x1 m1, K1 x1 m1 → (x1 = 0 → Q (some none) m1) ∧ (¬ x1 = 0 → mK m1 a1 = 7 ∧ ∃ (mc2 ms2 : Nat) (K2 : Int → Mem → Prop), Cl d mc2 ms2 mX6_skip [vr a1, vi 42] m1 (KI K2) ∧ mc2 ≤ bc - mc1 ∧ ms2 ≤ bs - ms1 ∧ (∀ x2 m2, K2 x2 m2 → (x2 = 0 → mK m2 a1 = 7 ∧ ∃ (mc3 ms3 : Nat) (K3 : Int → Mem → Prop), Cl d mc3 ms3 mX6_skip [vr a1, vi 47] m2 (KI K3) ∧ mc3 ≤ bc - mc1 - mc2 ∧ ms3 ≤ bs - ms1 - ms2 ∧ (∀ x3 m3, K3 x3 m3 → (x3 = 0 → Q (some none) m3) ∧ (¬ x3 = 0 → mK m3 a0 = 3 ∧ ∃ (mc4 ms4 : Nat) (K4 : Mem → Prop), Cl d mc4 ms4 mX2_readThing [vr a0, vr a1, vi a2] m3 (KV K4) ∧ mc4 ≤ bc - mc1 - mc2 - mc3 ∧ ms4 ≤ bs - ms1 - ms2 - ms3 ∧ (∀ m4, K4 m4 → mK m4 a0 = 3 ∧ ∃ (mc5 ms5 : Nat) (K5 : Mem → Prop), Cl d mc5 ms5 mX2_emit [vr a0, vi (-4)] m4 (KV K5) ∧ mc5 ≤ bc - mc1 - mc2 - mc3 - mc4 ∧ ms5 ≤ bs - ms1 - ms2 - ms3 - ms4 ∧ (∀ m5, K5 m5 → ∀ v1, v1 = w32 (a3 + 1) → Wp (d + 1) (bc - mc1 - mc2 - mc3 - mc4 - mc5) (bs - ms1 - ms2 - ms3 - ms4 - ms5) mX2_readProduct 8 [some (vr a0), some (vr a1), some (vi a2), some (vi v1)] [] m5 Q))))) ∧ (¬ x2 = 0 → mK m2 a0 = 3 ∧ ∃ (mc6 ms6 : Nat) (K6 : Mem → Prop), Cl d mc6 ms6 mX2_readThing [vr a0, vr a1, vi a2] m2 (KV K6) ∧ mc6 ≤ bc - mc1 - mc2 ∧ ms6 ≤ bs - ms1 - ms2 ∧ (∀ m6, K6 m6 → mK m6 a0 = 3 ∧ ∃ (mc7 ms7 : Nat) (K7 : Mem → Prop), Cl d mc7 ms7 mX2_emit [vr a0, vi (-3)] m6 (KV K7) ∧ mc7 ≤ bc - mc1 - mc2 - mc6 ∧ ms7 ≤ bs - ms1 - ms2 - ms6 ∧ (∀ m7, K7 m7 → ∀ v2, v2 = w32 (a3 + 1) → Wp (d + 1) (bc - mc1 - mc2 - mc6 - mc7) (bs - ms1 - ms2 - ms6 - ms7) mX2_readProduct 8 [some (vr a0), some (vr a1), some (vi a2), some (vi v2)] [] m7 Q)))))))) :
    Wp (d + 1) bc bs mX2_readProduct 8 [some (vr a0), some (vr a1), some (vi a2), some (vi a3)] [] μ Q := by
  refine st_iload_n (pc := 8) dX2_readProduct_8 rfl rfl ?_
  refine sg_bipush (pc := 9) dX2_readProduct_9 (by omega) (by decide) ?_
  refine st_icmpge (pc := 11) (tgt := 76) dX2_readProduct_11 rfl (fun c => ?_) (fun c => ?_)
  · replace h := h.1 c
    exact st_return (pc := 76) dX2_readProduct_76 rfl h
  · replace h := h.2 c
    refine st_aload_n (pc := 14) dX2_readProduct_14 rfl rfl ?_
    obtain ⟨hk1, h⟩ := h
    obtain ⟨mc1, ms1, K1, hC, e1, e2, h⟩ := h
    refine sg_VI (pc := 15) (av := []) (st := []) (K := K1) dX2_readProduct_15 ck_2_35 rfl (by decide) hk1 (by show (0 : Nat) ≤ 8; decide) hC e1 e2 (fun x1 m1 hK => ?_) rfl
    replace h := h x1 m1 hK
    refine st_ifeq (pc := 18) (tgt := 76) dX2_readProduct_18 rfl (fun c => ?_) (fun c => ?_)
    · replace h := h.1 c
      exact st_return (pc := 76) dX2_readProduct_76 rfl h
    · replace h := h.2 c
      refine st_aload_n (pc := 21) dX2_readProduct_21 rfl rfl ?_
      refine sg_bipush (pc := 22) dX2_readProduct_22 (by omega) (by decide) ?_
      obtain ⟨hk2, h⟩ := h
      obtain ⟨mc2, ms2, K2, hC, e1, e2, h⟩ := h
      refine sg_VI (pc := 24) (av := [vi 42]) (st := []) (K := K2) dX2_readProduct_24 ck_2_39 rfl (by decide) hk2 (by show (0 : Nat) ≤ 8; decide) hC e1 e2 (fun x2 m2 hK => ?_) rfl
      replace h := h x2 m2 hK
      refine st_ifeq (pc := 27) (tgt := 45) dX2_readProduct_27 rfl (fun c => ?_) (fun c => ?_)
      · replace h := h.1 c
        refine st_aload_n (pc := 45) dX2_readProduct_45 rfl rfl ?_
        refine sg_bipush (pc := 46) dX2_readProduct_46 (by omega) (by decide) ?_
        obtain ⟨hk3, h⟩ := h
        obtain ⟨mc3, ms3, K3, hC, e1, e2, h⟩ := h
        refine sg_VI (pc := 48) (av := [vi 47]) (st := []) (K := K3) dX2_readProduct_48 ck_2_39 rfl (by decide) hk3 (by show (0 : Nat) ≤ 8; decide) hC e1 e2 (fun x3 m3 hK => ?_) rfl
        replace h := h x3 m3 hK
        refine st_ifeq (pc := 51) (tgt := 69) dX2_readProduct_51 rfl (fun c => ?_) (fun c => ?_)
        · replace h := h.1 c
          exact st_return (pc := 69) dX2_readProduct_69 rfl h
        · replace h := h.2 c
          refine st_aload_n (pc := 54) dX2_readProduct_54 rfl rfl ?_
          refine st_aload_n (pc := 55) dX2_readProduct_55 rfl rfl ?_
          refine st_iload_n (pc := 56) dX2_readProduct_56 rfl rfl ?_
          obtain ⟨hk4, h⟩ := h
          obtain ⟨mc4, ms4, K4, hC, e1, e2, h⟩ := h
          refine sg_VV (pc := 57) (av := [vr a1, vi a2]) (st := []) (K := K4) dX2_readProduct_57 ck_2_47 rfl (by decide) hk4 (by show (0 : Nat) ≤ 8; decide) hC e1 e2 (fun m4 hK => ?_) rfl
          replace h := h m4 hK
          refine st_aload_n (pc := 60) dX2_readProduct_60 rfl rfl ?_
          refine sg_bipush (pc := 61) dX2_readProduct_61 (by omega) (by decide) ?_
          obtain ⟨hk5, h⟩ := h
          obtain ⟨mc5, ms5, K5, hC, e1, e2, h⟩ := h
          refine sg_VV (pc := 63) (av := [vi (-4)]) (st := []) (K := K5) dX2_readProduct_63 ck_2_43 rfl (by decide) hk5 (by show (0 : Nat) ≤ 8; decide) hC e1 e2 (fun m5 hK => ?_) rfl
          replace h := h m5 hK
          refine st_goto (pc := 66) dX2_readProduct_66 rfl ?_
          refine sg_iinc (pc := 70) (ls' := [some (vr a0), some (vr a1), some (vi a2), some (vi (w32 (a3 + 1)))]) dX2_readProduct_70 rfl rfl ?_
          refine Wp.nameL (ls2 := fun v => [some (vr a0), some (vr a1), some (vi a2), some (vi v)]) 3 _ rfl (fun _ => rfl) (fun v1 ev1 => ?_)
          replace h := h v1 ev1
          refine st_goto (pc := 73) dX2_readProduct_73 rfl ?_
          exact h
      · replace h := h.2 c
        refine st_aload_n (pc := 30) dX2_readProduct_30 rfl rfl ?_
        refine st_aload_n (pc := 31) dX2_readProduct_31 rfl rfl ?_
        refine st_iload_n (pc := 32) dX2_readProduct_32 rfl rfl ?_
        obtain ⟨hk6, h⟩ := h
        obtain ⟨mc6, ms6, K6, hC, e1, e2, h⟩ := h
        refine sg_VV (pc := 33) (av := [vr a1, vi a2]) (st := []) (K := K6) dX2_readProduct_33 ck_2_47 rfl (by decide) hk6 (by show (0 : Nat) ≤ 8; decide) hC e1 e2 (fun m6 hK => ?_) rfl
        replace h := h m6 hK
        refine st_aload_n (pc := 36) dX2_readProduct_36 rfl rfl ?_
        refine sg_bipush (pc := 37) dX2_readProduct_37 (by omega) (by decide) ?_
        obtain ⟨hk7, h⟩ := h
        obtain ⟨mc7, ms7, K7, hC, e1, e2, h⟩ := h
        refine sg_VV (pc := 39) (av := [vi (-3)]) (st := []) (K := K7) dX2_readProduct_39 ck_2_43 rfl (by decide) hk7 (by show (0 : Nat) ≤ 8; decide) hC e1 e2 (fun m7 hK => ?_) rfl
        replace h := h m7 hK
        refine st_goto (pc := 42) dX2_readProduct_42 rfl ?_
        refine sg_iinc (pc := 70) (ls' := [some (vr a0), some (vr a1), some (vi a2), some (vi (w32 (a3 + 1)))]) dX2_readProduct_70 rfl rfl ?_
        refine Wp.nameL (ls2 := fun v => [some (vr a0), some (vr a1), some (vi a2), some (vi v)]) 3 _ rfl (fun _ => rfl) (fun v2 ev2 => ?_)
        replace h := h v2 ev2
        refine st_goto (pc := 73) dX2_readProduct_73 rfl ?_
        exact h

theorem sg_X2_readSum_0 {d bc bs : Nat} {a0 : Nat} {a1 : Nat} {a2 : Int} {μ : Mem} {Q : Option (Option AV) → Mem → Prop}
    (h : mK μ a0 = 3 ∧ ∃ (mc1 ms1 : Nat) (K1 : Mem → Prop), Cl d mc1 ms1 mX2_readProduct [vr a0, vr a1, vi a2] μ (KV K1) ∧ mc1 ≤ bc ∧ ms1 ≤ bs ∧ (∀ m1, K1 m1 → Wp (d + 1) (bc - mc1) (bs - ms1) mX2_readSum 8 [some (vr a0), some (vr a1), some (vi a2), some (vi 0)] [] m1 Q)) :
    Wp (d + 1) bc bs mX2_readSum 0 [some (vr a0), some (vr a1), some (vi a2), none] [] μ Q := by
  refine st_aload_n (pc := 0) dX2_readSum_0 rfl rfl ?_
  refine st_aload_n (pc := 1) dX2_readSum_1 rfl rfl ?_
  refine st_iload_n (pc := 2) dX2_readSum_2 rfl rfl ?_
  obtain ⟨hk1, h⟩ := h
  obtain ⟨mc1, ms1, K1, hC, e1, e2, h⟩ := h
  refine sg_VV (pc := 3) (av := [vr a1, vi a2]) (st := []) (K := K1) dX2_readSum_3 ck_2_32 rfl (by decide) hk1 (by show (0 : Nat) ≤ 8; decide) hC e1 e2 (fun m1 hK => ?_) rfl
  replace h := h m1 hK
  refine sg_iconst (pc := 6) dX2_readSum_6 (by omega) ?_
  refine sg_istore_n (pc := 7) (ls' := [some (vr a0), some (vr a1), some (vi a2), some (vi 0)]) dX2_readSum_7 rfl (by show (3 : Nat) < 4; decide) rfl ?_
  exact h

theorem sg_X2_readSum_8 {d bc bs : Nat} {a0 : Nat} {a1 : Nat} {a2 : Int} {a3 : Int} {μ : Mem} {Q : Option (Option AV) → Mem → Prop}
    (h : (40 ≤ a3 → Q (some none) μ) ∧ (¬ 40 ≤ a3 → mK μ a1 = 7 ∧ ∃ (mc1 ms1 : Nat) (K1 : Int → Mem → Prop), Cl d mc1 ms1 mX6_isGood [vr a1] μ (KI K1) ∧ mc1 ≤ bc ∧ ms1 ≤ bs ∧ (∀ x1 m1, K1 x1 m1 → (x1 = 0 → Q (some none) m1) ∧ (¬ x1 = 0 → mK m1 a1 = 7 ∧ ∃ (mc2 ms2 : Nat) (K2 : Int → Mem → Prop), Cl d mc2 ms2 mX6_skip [vr a1, vi 43] m1 (KI K2) ∧ mc2 ≤ bc - mc1 ∧ ms2 ≤ bs - ms1 ∧ (∀ x2 m2, K2 x2 m2 → (x2 = 0 → mK m2 a1 = 7 ∧ ∃ (mc3 ms3 : Nat) (K3 : Int → Mem → Prop), Cl d mc3 ms3 mX6_skip [vr a1, vi 45] m2 (KI K3) ∧ mc3 ≤ bc - mc1 - mc2 ∧ ms3 ≤ bs - ms1 - ms2 ∧ (∀ x3 m3, K3 x3 m3 → (x3 = 0 → Q (some none) m3) ∧ (¬ x3 = 0 → mK m3 a0 = 3 ∧ ∃ (mc4 ms4 : Nat) (K4 : Mem → Prop), Cl d mc4 ms4 mX2_readProduct [vr a0, vr a1, vi a2] m3 (KV K4) ∧ mc4 ≤ bc - mc1 - mc2 - mc3 ∧ ms4 ≤ bs - ms1 - ms2 - ms3 ∧ (∀ m4, K4 m4 → mK m4 a0 = 3 ∧ ∃ (mc5 ms5 : Nat) (K5 : Mem → Prop), Cl d mc5 ms5 mX2_emit [vr a0, vi (-2)] m4 (KV K5) ∧ mc5 ≤ bc - mc1 - mc2 - mc3 - mc4 ∧ ms5 ≤ bs - ms1 - ms2 - ms3 - ms4 ∧ (∀ m5, K5 m5 → ∀ v1, v1 = w32 (a3 + 1) → Wp (d + 1) (bc - mc1 - mc2 - mc3 - mc4 - mc5) (bs - ms1 - ms2 - ms3 - ms4 - ms5) mX2_readSum 8 [some (vr a0), some (vr a1), some (vi a2), some (vi v1)] [] m5 Q))))) ∧ (¬ x2 = 0 → mK m2 a0 = 3 ∧ ∃ (mc6 ms6 : Nat) (K6 : Mem → Prop), Cl d mc6 ms6 mX2_readProduct [vr a0, vr a1, vi a2] m2 (KV K6) ∧ mc6 ≤ bc - mc1 - mc2 ∧ ms6 ≤ bs - ms1 - ms2 ∧ (∀ m6, K6 m6 → mK m6 a0 = 3 ∧ ∃ (mc7 ms7 : Nat) (K7 : Mem → Prop), Cl d mc7 ms7 mX2_emit [vr a0, vi (-1)] m6 (KV K7) ∧ mc7 ≤ bc - mc1 - mc2 - mc6 ∧ ms7 ≤ bs - ms1 - ms2 - ms6 ∧ (∀ m7, K7 m7 → ∀ v2, v2 = w32 (a3 + 1) → Wp (d + 1) (bc - mc1 - mc2 - mc6 - mc7) (bs - ms1 - ms2 - ms6 - ms7) mX2_readSum 8 [some (vr a0), some (vr a1), some (vi a2), some (vi v2)] [] m7 Q)))))))) :
    Wp (d + 1) bc bs mX2_readSum 8 [some (vr a0), some (vr a1), some (vi a2), some (vi a3)] [] μ Q := by
  refine st_iload_n (pc := 8) dX2_readSum_8 rfl rfl ?_
  refine sg_bipush (pc := 9) dX2_readSum_9 (by omega) (by decide) ?_
  refine st_icmpge (pc := 11) (tgt := 75) dX2_readSum_11 rfl (fun c => ?_) (fun c => ?_)
  · replace h := h.1 c
    exact st_return (pc := 75) dX2_readSum_75 rfl h
  · replace h := h.2 c
    refine st_aload_n (pc := 14) dX2_readSum_14 rfl rfl ?_
    obtain ⟨hk1, h⟩ := h
    obtain ⟨mc1, ms1, K1, hC, e1, e2, h⟩ := h
    refine sg_VI (pc := 15) (av := []) (st := []) (K := K1) dX2_readSum_15 ck_2_35 rfl (by decide) hk1 (by show (0 : Nat) ≤ 8; decide) hC e1 e2 (fun x1 m1 hK => ?_) rfl
    replace h := h x1 m1 hK
    refine st_ifeq (pc := 18) (tgt := 75) dX2_readSum_18 rfl (fun c => ?_) (fun c => ?_)
    · replace h := h.1 c
      exact st_return (pc := 75) dX2_readSum_75 rfl h
    · replace h := h.2 c
      refine st_aload_n (pc := 21) dX2_readSum_21 rfl rfl ?_
      refine sg_bipush (pc := 22) dX2_readSum_22 (by omega) (by decide) ?_
      obtain ⟨hk2, h⟩ := h
      obtain ⟨mc2, ms2, K2, hC, e1, e2, h⟩ := h
      refine sg_VI (pc := 24) (av := [vi 43]) (st := []) (K := K2) dX2_readSum_24 ck_2_39 rfl (by decide) hk2 (by show (0 : Nat) ≤ 8; decide) hC e1 e2 (fun x2 m2 hK => ?_) rfl
      replace h := h x2 m2 hK
      refine st_ifeq (pc := 27) (tgt := 44) dX2_readSum_27 rfl (fun c => ?_) (fun c => ?_)
      · replace h := h.1 c
        refine st_aload_n (pc := 44) dX2_readSum_44 rfl rfl ?_
        refine sg_bipush (pc := 45) dX2_readSum_45 (by omega) (by decide) ?_
        obtain ⟨hk3, h⟩ := h
        obtain ⟨mc3, ms3, K3, hC, e1, e2, h⟩ := h
        refine sg_VI (pc := 47) (av := [vi 45]) (st := []) (K := K3) dX2_readSum_47 ck_2_39 rfl (by decide) hk3 (by show (0 : Nat) ≤ 8; decide) hC e1 e2 (fun x3 m3 hK => ?_) rfl
        replace h := h x3 m3 hK
        refine st_ifeq (pc := 50) (tgt := 68) dX2_readSum_50 rfl (fun c => ?_) (fun c => ?_)
        · replace h := h.1 c
          exact st_return (pc := 68) dX2_readSum_68 rfl h
        · replace h := h.2 c
          refine st_aload_n (pc := 53) dX2_readSum_53 rfl rfl ?_
          refine st_aload_n (pc := 54) dX2_readSum_54 rfl rfl ?_
          refine st_iload_n (pc := 55) dX2_readSum_55 rfl rfl ?_
          obtain ⟨hk4, h⟩ := h
          obtain ⟨mc4, ms4, K4, hC, e1, e2, h⟩ := h
          refine sg_VV (pc := 56) (av := [vr a1, vi a2]) (st := []) (K := K4) dX2_readSum_56 ck_2_32 rfl (by decide) hk4 (by show (0 : Nat) ≤ 8; decide) hC e1 e2 (fun m4 hK => ?_) rfl
          replace h := h m4 hK
          refine st_aload_n (pc := 59) dX2_readSum_59 rfl rfl ?_
          refine sg_bipush (pc := 60) dX2_readSum_60 (by omega) (by decide) ?_
          obtain ⟨hk5, h⟩ := h
          obtain ⟨mc5, ms5, K5, hC, e1, e2, h⟩ := h
          refine sg_VV (pc := 62) (av := [vi (-2)]) (st := []) (K := K5) dX2_readSum_62 ck_2_43 rfl (by decide) hk5 (by show (0 : Nat) ≤ 8; decide) hC e1 e2 (fun m5 hK => ?_) rfl
          replace h := h m5 hK
          refine st_goto (pc := 65) dX2_readSum_65 rfl ?_
          refine sg_iinc (pc := 69) (ls' := [some (vr a0), some (vr a1), some (vi a2), some (vi (w32 (a3 + 1)))]) dX2_readSum_69 rfl rfl ?_
          refine Wp.nameL (ls2 := fun v => [some (vr a0), some (vr a1), some (vi a2), some (vi v)]) 3 _ rfl (fun _ => rfl) (fun v1 ev1 => ?_)
          replace h := h v1 ev1
          refine st_goto (pc := 72) dX2_readSum_72 rfl ?_
          exact h
      · replace h := h.2 c
        refine st_aload_n (pc := 30) dX2_readSum_30 rfl rfl ?_
        refine st_aload_n (pc := 31) dX2_readSum_31 rfl rfl ?_
        refine st_iload_n (pc := 32) dX2_readSum_32 rfl rfl ?_
        obtain ⟨hk6, h⟩ := h
        obtain ⟨mc6, ms6, K6, hC, e1, e2, h⟩ := h
        refine sg_VV (pc := 33) (av := [vr a1, vi a2]) (st := []) (K := K6) dX2_readSum_33 ck_2_32 rfl (by decide) hk6 (by show (0 : Nat) ≤ 8; decide) hC e1 e2 (fun m6 hK => ?_) rfl
        replace h := h m6 hK
        refine st_aload_n (pc := 36) dX2_readSum_36 rfl rfl ?_
        refine sg_iconst (pc := 37) dX2_readSum_37 (by omega) ?_
        obtain ⟨hk7, h⟩ := h
        obtain ⟨mc7, ms7, K7, hC, e1, e2, h⟩ := h
        refine sg_VV (pc := 38) (av := [vi (-1)]) (st := []) (K := K7) dX2_readSum_38 ck_2_43 rfl (by decide) hk7 (by show (0 : Nat) ≤ 8; decide) hC e1 e2 (fun m7 hK => ?_) rfl
        replace h := h m7 hK
        refine st_goto (pc := 41) dX2_readSum_41 rfl ?_
        refine sg_iinc (pc := 69) (ls' := [some (vr a0), some (vr a1), some (vi a2), some (vi (w32 (a3 + 1)))]) dX2_readSum_69 rfl rfl ?_
        refine Wp.nameL (ls2 := fun v => [some (vr a0), some (vr a1), some (vi a2), some (vi v)]) 3 _ rfl (fun _ => rfl) (fun v2 ev2 => ?_)
        replace h := h v2 ev2
        refine st_goto (pc := 72) dX2_readSum_72 rfl ?_
        exact h

theorem sg_X2_readThing_0 {d bc bs : Nat} {a0 : Nat} {a1 : Nat} {a2 : Int} {μ : Mem} {Q : Option (Option AV) → Mem → Prop}
    (h : Wp (d + 1) bc bs mX2_readThing 5 [some (vr a0), some (vr a1), some (vi a2), some (vi 0), some (vi 0)] [] μ Q) :
    Wp (d + 1) bc bs mX2_readThing 0 [some (vr a0), some (vr a1), some (vi a2), none, none] [] μ Q := by
  refine sg_iconst (pc := 0) dX2_readThing_0 (by omega) ?_
  refine sg_istore_n (pc := 1) (ls' := [some (vr a0), some (vr a1), some (vi a2), some (vi 0), none]) dX2_readThing_1 rfl (by show (3 : Nat) < 5; decide) rfl ?_
  refine sg_iconst (pc := 2) dX2_readThing_2 (by omega) ?_
  refine sg_istore (pc := 3) (ls' := [some (vr a0), some (vr a1), some (vi a2), some (vi 0), some (vi 0)]) dX2_readThing_3 (by show (4 : Nat) < 5; decide) rfl ?_
  exact h

theorem sg_X2_readThing_5 {d bc bs : Nat} {a0 : Nat} {a1 : Nat} {a2 : Int} {a3 : Int} {a4 : Int} {μ : Mem} {Q : Option (Option AV) → Mem → Prop}
    (h : (40 ≤ a4 → Wp (d + 1) bc bs mX2_readThing 37 [some (vr a0), some (vr a1), some (vi a2), some (vi a3), some (vi a4)] [] μ Q) ∧ (¬ 40 ≤ a4 → mK μ a1 = 7 ∧ ∃ (mc1 ms1 : Nat) (K1 : Int → Mem → Prop), Cl d mc1 ms1 mX6_skip [vr a1, vi 45] μ (KI K1) ∧ mc1 ≤ bc ∧ ms1 ≤ bs ∧ (∀ x1 m1, K1 x1 m1 → (x1 = 0 → Wp (d + 1) (bc - mc1) (bs - ms1) mX2_readThing 37 [some (vr a0), some (vr a1), some (vi a2), some (vi a3), some (vi a4)] [] m1 Q) ∧ (¬ x1 = 0 → (¬ a3 = 0 → ∀ v1, v1 = w32 (a4 + 1) → Wp (d + 1) (bc - mc1) (bs - ms1) mX2_readThing 5 [some (vr a0), some (vr a1), some (vi a2), some (vi 0), some (vi v1)] [] m1 Q) ∧ (a3 = 0 → ∀ v2, v2 = w32 (a4 + 1) → Wp (d + 1) (bc - mc1) (bs - ms1) mX2_readThing 5 [some (vr a0), some (vr a1), some (vi a2), some (vi 1), some (vi v2)] [] m1 Q))))) :
    Wp (d + 1) bc bs mX2_readThing 5 [some (vr a0), some (vr a1), some (vi a2), some (vi a3), some (vi a4)] [] μ Q := by
  refine st_iload (pc := 5) dX2_readThing_5 rfl ?_
  refine sg_bipush (pc := 7) dX2_readThing_7 (by omega) (by decide) ?_
  refine st_icmpge (pc := 9) (tgt := 37) dX2_readThing_9 rfl (fun c => ?_) (fun c => ?_)
  · replace h := h.1 c
    exact h
  · replace h := h.2 c
    refine st_aload_n (pc := 12) dX2_readThing_12 rfl rfl ?_
    refine sg_bipush (pc := 13) dX2_readThing_13 (by omega) (by decide) ?_
    obtain ⟨hk1, h⟩ := h
    obtain ⟨mc1, ms1, K1, hC, e1, e2, h⟩ := h
    refine sg_VI (pc := 15) (av := [vi 45]) (st := []) (K := K1) dX2_readThing_15 ck_2_39 rfl (by decide) hk1 (by show (0 : Nat) ≤ 8; decide) hC e1 e2 (fun x1 m1 hK => ?_) rfl
    replace h := h x1 m1 hK
    refine st_ifeq (pc := 18) (tgt := 37) dX2_readThing_18 rfl (fun c => ?_) (fun c => ?_)
    · replace h := h.1 c
      exact h
    · replace h := h.2 c
      refine st_iload_n (pc := 21) dX2_readThing_21 rfl rfl ?_
      refine st_ifne (pc := 22) (tgt := 29) dX2_readThing_22 rfl (fun c => ?_) (fun c => ?_)
      · replace h := h.1 c
        refine sg_iconst (pc := 29) dX2_readThing_29 (by omega) ?_
        refine sg_istore_n (pc := 30) (ls' := [some (vr a0), some (vr a1), some (vi a2), some (vi 0), some (vi a4)]) dX2_readThing_30 rfl (by show (3 : Nat) < 5; decide) rfl ?_
        refine sg_iinc (pc := 31) (ls' := [some (vr a0), some (vr a1), some (vi a2), some (vi 0), some (vi (w32 (a4 + 1)))]) dX2_readThing_31 rfl rfl ?_
        refine Wp.nameL (ls2 := fun v => [some (vr a0), some (vr a1), some (vi a2), some (vi 0), some (vi v)]) 4 _ rfl (fun _ => rfl) (fun v1 ev1 => ?_)
        replace h := h v1 ev1
        refine st_goto (pc := 34) dX2_readThing_34 rfl ?_
        exact h
      · replace h := h.2 c
        refine sg_iconst (pc := 25) dX2_readThing_25 (by omega) ?_
        refine st_goto (pc := 26) dX2_readThing_26 rfl ?_
        refine sg_istore_n (pc := 30) (ls' := [some (vr a0), some (vr a1), some (vi a2), some (vi 1), some (vi a4)]) dX2_readThing_30 rfl (by show (3 : Nat) < 5; decide) rfl ?_
        refine sg_iinc (pc := 31) (ls' := [some (vr a0), some (vr a1), some (vi a2), some (vi 1), some (vi (w32 (a4 + 1)))]) dX2_readThing_31 rfl rfl ?_
        refine Wp.nameL (ls2 := fun v => [some (vr a0), some (vr a1), some (vi a2), some (vi 1), some (vi v)]) 4 _ rfl (fun _ => rfl) (fun v2 ev2 => ?_)
        replace h := h v2 ev2
        refine st_goto (pc := 34) dX2_readThing_34 rfl ?_
        exact h

theorem sg_X2_readThing_37 {d bc bs : Nat} {a0 : Nat} {a1 : Nat} {a2 : Int} {a3 : Int} {a4 : Int} {μ : Mem} {Q : Option (Option AV) → Mem → Prop}
    (h : mK μ a1 = 7 ∧ ∃ (mc1 ms1 : Nat) (K1 : Int → Mem → Prop), Cl d mc1 ms1 mX6_isAtDigit [vr a1] μ (KI K1) ∧ mc1 ≤ bc ∧ ms1 ≤ bs ∧ (∀ x1 m1, K1 x1 m1 → (x1 = 0 → (4 ≤ a2 → Wp (d + 1) (bc - mc1) (bs - ms1) mX2_readThing 90 [some (vr a0), some (vr a1), some (vi a2), some (vi a3), some (vi a4)] [] m1 Q) ∧ (¬ 4 ≤ a2 → mK m1 a1 = 7 ∧ ∃ (mc2 ms2 : Nat) (K2 : Int → Mem → Prop), Cl d mc2 ms2 mX6_skip [vr a1, vi 40] m1 (KI K2) ∧ mc2 ≤ bc - mc1 ∧ ms2 ≤ bs - ms1 ∧ (∀ x2 m2, K2 x2 m2 → (x2 = 0 → Wp (d + 1) (bc - mc1 - mc2) (bs - ms1 - ms2) mX2_readThing 90 [some (vr a0), some (vr a1), some (vi a2), some (vi a3), some (vi a4)] [] m2 Q) ∧ (¬ x2 = 0 → mK m2 a0 = 3 ∧ ∃ (mc3 ms3 : Nat) (K3 : Mem → Prop), Cl d mc3 ms3 mX2_readSum [vr a0, vr a1, vi (w32 (a2 + 1))] m2 (KV K3) ∧ mc3 ≤ bc - mc1 - mc2 ∧ ms3 ≤ bs - ms1 - ms2 ∧ (∀ m3, K3 m3 → mK m3 a1 = 7 ∧ ∃ (mc4 ms4 : Nat) (K4 : Mem → Prop), Cl d mc4 ms4 mX6_need [vr a1, vi 41] m3 (KV K4) ∧ mc4 ≤ bc - mc1 - mc2 - mc3 ∧ ms4 ≤ bs - ms1 - ms2 - ms3 ∧ (∀ m4, K4 m4 → Wp (d + 1) (bc - mc1 - mc2 - mc3 - mc4) (bs - ms1 - ms2 - ms3 - ms4) mX2_readThing 95 [some (vr a0), some (vr a1), some (vi a2), some (vi a3), some (vi a4)] [] m4 Q)))))) ∧ (¬ x1 = 0 → mK m1 a1 = 7 ∧ ∃ (mc5 ms5 : Nat) (K5 : Int → Mem → Prop), Cl d mc5 ms5 mX6_number [vr a1, vi 0, vi 999] m1 (KI K5) ∧ mc5 ≤ bc - mc1 ∧ ms5 ≤ bs - ms1 ∧ (∀ x3 m5, K5 x3 m5 → mK m5 a0 = 3 ∧ ∃ (mc6 ms6 : Nat) (K6 : Mem → Prop), Cl d mc6 ms6 mX2_emit [vr a0, vi x3] m5 (KV K6) ∧ mc6 ≤ bc - mc1 - mc5 ∧ ms6 ≤ bs - ms1 - ms5 ∧ (∀ m6, K6 m6 → Wp (d + 1) (bc - mc1 - mc5 - mc6) (bs - ms1 - ms5 - ms6) mX2_readThing 95 [some (vr a0), some (vr a1), some (vi a2), some (vi a3), some (vi a4)] [] m6 Q))))) :
    Wp (d + 1) bc bs mX2_readThing 37 [some (vr a0), some (vr a1), some (vi a2), some (vi a3), some (vi a4)] [] μ Q := by
  refine st_aload_n (pc := 37) dX2_readThing_37 rfl rfl ?_
  obtain ⟨hk1, h⟩ := h
  obtain ⟨mc1, ms1, K1, hC, e1, e2, h⟩ := h
  refine sg_VI (pc := 38) (av := []) (st := []) (K := K1) dX2_readThing_38 ck_2_50 rfl (by decide) hk1 (by show (0 : Nat) ≤ 8; decide) hC e1 e2 (fun x1 m1 hK => ?_) rfl
  replace h := h x1 m1 hK
  refine st_ifeq (pc := 41) (tgt := 59) dX2_readThing_41 rfl (fun c => ?_) (fun c => ?_)
  · replace h := h.1 c
    refine st_iload_n (pc := 59) dX2_readThing_59 rfl rfl ?_
    refine sg_iconst (pc := 60) dX2_readThing_60 (by omega) ?_
    refine st_icmpge (pc := 61) (tgt := 90) dX2_readThing_61 rfl (fun c => ?_) (fun c => ?_)
    · replace h := h.1 c
      exact h
    · replace h := h.2 c
      refine st_aload_n (pc := 64) dX2_readThing_64 rfl rfl ?_
      refine sg_bipush (pc := 65) dX2_readThing_65 (by omega) (by decide) ?_
      obtain ⟨hk2, h⟩ := h
      obtain ⟨mc2, ms2, K2, hC, e1, e2, h⟩ := h
      refine sg_VI (pc := 67) (av := [vi 40]) (st := []) (K := K2) dX2_readThing_67 ck_2_39 rfl (by decide) hk2 (by show (0 : Nat) ≤ 8; decide) hC e1 e2 (fun x2 m2 hK => ?_) rfl
      replace h := h x2 m2 hK
      refine st_ifeq (pc := 70) (tgt := 90) dX2_readThing_70 rfl (fun c => ?_) (fun c => ?_)
      · replace h := h.1 c
        exact h
      · replace h := h.2 c
        refine st_aload_n (pc := 73) dX2_readThing_73 rfl rfl ?_
        refine st_aload_n (pc := 74) dX2_readThing_74 rfl rfl ?_
        refine st_iload_n (pc := 75) dX2_readThing_75 rfl rfl ?_
        refine sg_iconst (pc := 76) dX2_readThing_76 (by omega) ?_
        refine st_iadd (pc := 77) dX2_readThing_77 ?_
        obtain ⟨hk3, h⟩ := h
        obtain ⟨mc3, ms3, K3, hC, e1, e2, h⟩ := h
        refine sg_VV (pc := 78) (av := [vr a1, vi (w32 (a2 + 1))]) (st := []) (K := K3) dX2_readThing_78 ck_2_28 rfl (by decide) hk3 (by show (0 : Nat) ≤ 8; decide) hC e1 e2 (fun m3 hK => ?_) rfl
        replace h := h m3 hK
        refine st_aload_n (pc := 81) dX2_readThing_81 rfl rfl ?_
        refine sg_bipush (pc := 82) dX2_readThing_82 (by omega) (by decide) ?_
        obtain ⟨hk4, h⟩ := h
        obtain ⟨mc4, ms4, K4, hC, e1, e2, h⟩ := h
        refine sg_VV (pc := 84) (av := [vi 41]) (st := []) (K := K4) dX2_readThing_84 ck_2_57 rfl (by decide) hk4 (by show (0 : Nat) ≤ 8; decide) hC e1 e2 (fun m4 hK => ?_) rfl
        replace h := h m4 hK
        refine st_goto (pc := 87) dX2_readThing_87 rfl ?_
        exact h
  · replace h := h.2 c
    refine st_aload_n (pc := 44) dX2_readThing_44 rfl rfl ?_
    refine st_aload_n (pc := 45) dX2_readThing_45 rfl rfl ?_
    refine sg_iconst (pc := 46) dX2_readThing_46 (by omega) ?_
    refine sg_sipush (pc := 47) dX2_readThing_47 (by omega) (by decide) ?_
    obtain ⟨hk5, h⟩ := h
    obtain ⟨mc5, ms5, K5, hC, e1, e2, h⟩ := h
    refine sg_VI (pc := 50) (av := [vi 0, vi 999]) (st := [vr a0]) (K := K5) dX2_readThing_50 ck_2_53 rfl (by decide) hk5 (by show (1 : Nat) ≤ 8; decide) hC e1 e2 (fun x3 m5 hK => ?_) rfl
    replace h := h x3 m5 hK
    obtain ⟨hk6, h⟩ := h
    obtain ⟨mc6, ms6, K6, hC, e1, e2, h⟩ := h
    refine sg_VV (pc := 53) (av := [vi x3]) (st := []) (K := K6) dX2_readThing_53 ck_2_43 rfl (by decide) hk6 (by show (0 : Nat) ≤ 8; decide) hC e1 e2 (fun m6 hK => ?_) rfl
    replace h := h m6 hK
    refine st_goto (pc := 56) dX2_readThing_56 rfl ?_
    exact h

theorem sg_X2_readThing_90 {d bc bs : Nat} {a0 : Nat} {a1 : Nat} {a2 : Int} {a3 : Int} {a4 : Int} {μ : Mem} {Q : Option (Option AV) → Mem → Prop}
    (h : mK μ a0 = 3 ∧ ∃ (mc1 ms1 : Nat) (K1 : Mem → Prop), Cl d mc1 ms1 mX2_readName [vr a0, vr a1] μ (KV K1) ∧ mc1 ≤ bc ∧ ms1 ≤ bs ∧ (∀ m1, K1 m1 → Wp (d + 1) (bc - mc1) (bs - ms1) mX2_readThing 95 [some (vr a0), some (vr a1), some (vi a2), some (vi a3), some (vi a4)] [] m1 Q)) :
    Wp (d + 1) bc bs mX2_readThing 90 [some (vr a0), some (vr a1), some (vi a2), some (vi a3), some (vi a4)] [] μ Q := by
  refine st_aload_n (pc := 90) dX2_readThing_90 rfl rfl ?_
  refine st_aload_n (pc := 91) dX2_readThing_91 rfl rfl ?_
  obtain ⟨hk1, h⟩ := h
  obtain ⟨mc1, ms1, K1, hC, e1, e2, h⟩ := h
  refine sg_VV (pc := 92) (av := [vr a1]) (st := []) (K := K1) dX2_readThing_92 ck_2_61 rfl (by decide) hk1 (by show (0 : Nat) ≤ 8; decide) hC e1 e2 (fun m1 hK => ?_) rfl
  replace h := h m1 hK
  exact h

theorem sg_X2_readThing_95 {d bc bs : Nat} {a0 : Nat} {a1 : Nat} {a2 : Int} {a3 : Int} {a4 : Int} {μ : Mem} {Q : Option (Option AV) → Mem → Prop}
    (h : (a3 = 0 → Q (some none) μ) ∧ (¬ a3 = 0 → mK μ a0 = 3 ∧ ∃ (mc1 ms1 : Nat) (K1 : Mem → Prop), Cl d mc1 ms1 mX2_emit [vr a0, vi (-5)] μ (KV K1) ∧ mc1 ≤ bc ∧ ms1 ≤ bs ∧ (∀ m1, K1 m1 → Q (some none) m1))) :
    Wp (d + 1) bc bs mX2_readThing 95 [some (vr a0), some (vr a1), some (vi a2), some (vi a3), some (vi a4)] [] μ Q := by
  refine st_iload_n (pc := 95) dX2_readThing_95 rfl rfl ?_
  refine st_ifeq (pc := 96) (tgt := 105) dX2_readThing_96 rfl (fun c => ?_) (fun c => ?_)
  · replace h := h.1 c
    exact st_return (pc := 105) dX2_readThing_105 rfl h
  · replace h := h.2 c
    refine st_aload_n (pc := 99) dX2_readThing_99 rfl rfl ?_
    refine sg_bipush (pc := 100) dX2_readThing_100 (by omega) (by decide) ?_
    obtain ⟨hk1, h⟩ := h
    obtain ⟨mc1, ms1, K1, hC, e1, e2, h⟩ := h
    refine sg_VV (pc := 102) (av := [vi (-5)]) (st := []) (K := K1) dX2_readThing_102 ck_2_43 rfl (by decide) hk1 (by show (0 : Nat) ≤ 8; decide) hC e1 e2 (fun m1 hK => ?_) rfl
    replace h := h m1 hK
    exact st_return (pc := 105) dX2_readThing_105 rfl h

theorem sg_X2_read_0 {d bc bs : Nat} {a0 : Nat} {a1 : Nat} {μ : Mem} {Q : Option (Option AV) → Mem → Prop}
    (h : mK μ a0 = 3 ∧ (∀ m1, m1 = sD μ a0 2 0 → mK m1 a1 = 7 ∧ ∃ (mc1 ms1 : Nat) (K1 : Int → Mem → Prop), Cl d mc1 ms1 mX6_begin [vr a1, vi 40] m1 (KI K1) ∧ mc1 ≤ bc ∧ ms1 ≤ bs ∧ (∀ x1 m2, K1 x1 m2 → (x1 = 0 → Q (some none) m2) ∧ (¬ x1 = 0 → mK m2 a0 = 3 ∧ ∃ (mc2 ms2 : Nat) (K2 : Mem → Prop), Cl d mc2 ms2 mX2_readSum [vr a0, vr a1, vi 0] m2 (KV K2) ∧ mc2 ≤ bc - mc1 ∧ ms2 ≤ bs - ms1 ∧ (∀ m3, K2 m3 → Q (some none) m3))))) :
    Wp (d + 1) bc bs mX2_read 0 [some (vr a0), some (vr a1)] [] μ Q := by
  refine st_aload_n (pc := 0) dX2_read_0 rfl rfl ?_
  refine sg_iconst (pc := 1) dX2_read_1 (by omega) ?_
  obtain ⟨hk1, h⟩ := h
  refine sg_pfI (pc := 2) (J := 2) dX2_read_2 fl_2_18 rfl (Or.inl rfl) hk1 ?_
  refine Wp.nameM (fun m1 em1 => ?_)
  replace h := h m1 em1
  refine st_aload_n (pc := 5) dX2_read_5 rfl rfl ?_
  refine sg_bipush (pc := 6) dX2_read_6 (by omega) (by decide) ?_
  obtain ⟨hk2, h⟩ := h
  obtain ⟨mc1, ms1, K1, hC, e1, e2, h⟩ := h
  refine sg_VI (pc := 8) (av := [vi 40]) (st := []) (K := K1) dX2_read_8 ck_2_22 rfl (by decide) hk2 (by show (0 : Nat) ≤ 8; decide) hC e1 e2 (fun x1 m2 hK => ?_) rfl
  replace h := h x1 m2 hK
  refine st_ifeq (pc := 11) (tgt := 20) dX2_read_11 rfl (fun c => ?_) (fun c => ?_)
  · replace h := h.1 c
    exact st_return (pc := 20) dX2_read_20 rfl h
  · replace h := h.2 c
    refine st_aload_n (pc := 14) dX2_read_14 rfl rfl ?_
    refine st_aload_n (pc := 15) dX2_read_15 rfl rfl ?_
    refine sg_iconst (pc := 16) dX2_read_16 (by omega) ?_
    obtain ⟨hk3, h⟩ := h
    obtain ⟨mc2, ms2, K2, hC, e1, e2, h⟩ := h
    refine sg_VV (pc := 17) (av := [vr a1, vi 0]) (st := []) (K := K2) dX2_read_17 ck_2_28 rfl (by decide) hk3 (by show (0 : Nat) ≤ 8; decide) hC e1 e2 (fun m3 hK => ?_) rfl
    replace h := h m3 hK
    exact st_return (pc := 20) dX2_read_20 rfl h

theorem sg_X4_init_0 {d bc bs : Nat} {a0 : Nat} {μ : Mem} {Q : Option (Option AV) → Mem → Prop}
    (h : a0 ≠ 0 ∧ (mX μ ≠ 0 ∧ (0 : Int) ≤ 20 ∧ 20 ≤ (100000 : Int) ∧ 1 ≤ bc ∧ 20 ≤ ((bs : Nat) : Int) ∧ (∀ m1, m1 = nwM μ 20 (20 : Int).toNat → mK m1 a0 = 5 ∧ (∀ m2, m2 = sR m1 a0 0 (mX μ) → mX m2 ≠ 0 ∧ (0 : Int) ≤ 20 ∧ 20 ≤ (100000 : Int) ∧ 1 ≤ bc - 1 ∧ 20 ≤ ((bs - (20 : Int).toNat : Nat) : Int) ∧ (∀ m3, m3 = nwM m2 20 (20 : Int).toNat → mK m3 a0 = 5 ∧ (∀ m4, m4 = sR m3 a0 1 (mX m2) → mK m4 a0 = 5 ∧ (∀ m5, m5 = sD m4 a0 2 0 → Q (some none) m5))))))) :
    Wp d bc bs mX4_init 0 [some (vr a0)] [] μ Q := by
  refine st_aload_n (pc := 0) dX4_init_0 rfl rfl ?_
  obtain ⟨h0, h⟩ := h
  refine st_objInit (pc := 1) (st := []) dX4_init_1 ck_4_3 h0 (by show (0 : Nat) ≤ 8; decide) ?_
  refine st_aload_n (pc := 4) dX4_init_4 rfl rfl ?_
  refine sg_bipush (pc := 5) dX4_init_5 (by omega) (by decide) ?_
  obtain ⟨h0, h1, h2, h3, h4, h⟩ := h
  refine st_newI (pc := 7) dX4_init_7 h0 h1 h2 h3 h4 ?_
  refine Wp.nameM (fun m1 em1 => ?_)
  replace h := h m1 em1
  obtain ⟨hk1, h⟩ := h
  refine sg_pfR (pc := 9) (J := 0) dX4_init_9 fl_4_9 rfl (Or.inr ⟨rfl, rfl⟩) hk1 ?_
  refine Wp.nameM (fun m2 em2 => ?_)
  replace h := h m2 em2
  refine st_aload_n (pc := 12) dX4_init_12 rfl rfl ?_
  refine sg_bipush (pc := 13) dX4_init_13 (by omega) (by decide) ?_
  obtain ⟨h0, h1, h2, h3, h4, h⟩ := h
  refine st_newI (pc := 15) dX4_init_15 h0 h1 h2 h3 h4 ?_
  refine Wp.nameM (fun m3 em3 => ?_)
  replace h := h m3 em3
  obtain ⟨hk2, h⟩ := h
  refine sg_pfR (pc := 17) (J := 1) dX4_init_17 fl_4_15 rfl (Or.inr ⟨rfl, rfl⟩) hk2 ?_
  refine Wp.nameM (fun m4 em4 => ?_)
  replace h := h m4 em4
  refine st_aload_n (pc := 20) dX4_init_20 rfl rfl ?_
  refine sg_iconst (pc := 21) dX4_init_21 (by omega) ?_
  obtain ⟨hk3, h⟩ := h
  refine sg_pfI (pc := 22) (J := 2) dX4_init_22 fl_4_18 rfl (Or.inl rfl) hk3 ?_
  refine Wp.nameM (fun m5 em5 => ?_)
  replace h := h m5 em5
  exact st_return (pc := 25) dX4_init_25 rfl h

theorem sg_X5_init_0 {d bc bs : Nat} {a0 : Nat} {μ : Mem} {Q : Option (Option AV) → Mem → Prop}
    (h : a0 ≠ 0 ∧ (mK μ a0 = 6 ∧ (∀ m1, m1 = sD μ a0 0 0 → (∀ m2, m2 = sD m1 a0 1 1 → mX m2 ≠ 0 ∧ 1 ≤ bc ∧ clN 5 ≤ bs ∧ (∀ m3, m3 = nwM m2 5 0 → ∃ (mc1 ms1 : Nat) (K1 : Mem → Prop), Cl d mc1 ms1 mX4_init [vr (mX m2)] m3 (KV K1) ∧ mc1 ≤ bc - 1 ∧ ms1 ≤ bs - clN 5 ∧ (mX m2) ≠ 0 ∧ (∀ m4, K1 m4 → mK m4 a0 = 6 ∧ (∀ m5, m5 = sR m4 a0 2 (mX m2) → mX m5 ≠ 0 ∧ 1 ≤ bc - 1 - mc1 ∧ clN 5 ≤ bs - clN 5 - ms1 ∧ (∀ m6, m6 = nwM m5 5 0 → ∃ (mc2 ms2 : Nat) (K2 : Mem → Prop), Cl d mc2 ms2 mX4_init [vr (mX m5)] m6 (KV K2) ∧ mc2 ≤ bc - 1 - mc1 - 1 ∧ ms2 ≤ bs - clN 5 - ms1 - clN 5 ∧ (mX m5) ≠ 0 ∧ (∀ m7, K2 m7 → mK m7 a0 = 6 ∧ (∀ m8, m8 = sR m7 a0 3 (mX m5) → mX m8 ≠ 0 ∧ (0 : Int) ≤ 21 ∧ 21 ≤ (100000 : Int) ∧ 1 ≤ bc - 1 - mc1 - 1 - mc2 ∧ 21 ≤ ((bs - clN 5 - ms1 - clN 5 - ms2 : Nat) : Int) ∧ (∀ m9, m9 = nwM m8 20 (21 : Int).toNat → mK m9 a0 = 6 ∧ (∀ m10, m10 = sR m9 a0 4 (mX m8) → Q (some none) m10)))))))))))) :
    Wp (d + 1) bc bs mX5_init 0 [some (vr a0)] [] μ Q := by
  refine st_aload_n (pc := 0) dX5_init_0 rfl rfl ?_
  obtain ⟨h0, h⟩ := h
  refine st_objInit (pc := 1) (st := []) dX5_init_1 ck_5_3 h0 (by show (0 : Nat) ≤ 8; decide) ?_
  refine st_aload_n (pc := 4) dX5_init_4 rfl rfl ?_
  refine sg_iconst (pc := 5) dX5_init_5 (by omega) ?_
  obtain ⟨hk1, h⟩ := h
  refine sg_pfI (pc := 6) (J := 0) dX5_init_6 fl_5_9 rfl (Or.inl rfl) hk1 ?_
  refine Wp.nameM (fun m1 em1 => ?_)
  replace h := h m1 em1
  refine st_aload_n (pc := 9) dX5_init_9 rfl rfl ?_
  refine sg_iconst (pc := 10) dX5_init_10 (by omega) ?_
  refine sg_pfI (pc := 11) (J := 1) dX5_init_11 fl_5_15 rfl (Or.inl rfl) (by cases em1; exact hk1) ?_
  refine Wp.nameM (fun m2 em2 => ?_)
  replace h := h m2 em2
  refine st_aload_n (pc := 14) dX5_init_14 rfl rfl ?_
  obtain ⟨h0, h1, h2, h⟩ := h
  refine st_new (pc := 15) dX5_init_15 nw_5_18 h0 h1 h2 ?_
  refine Wp.nameM (fun m3 em3 => ?_)
  replace h := h m3 em3
  refine st_dup (pc := 18) dX5_init_18 rfl ?_
  obtain ⟨mc1, ms1, K1, hC, e1, e2, h0, h⟩ := h
  refine sg_INV (pc := 19) (av := []) (st := [vr (mX m2), vr a0]) (K := K1) dX5_init_19 ck_5_20 rfl h0 (by show (2 : Nat) ≤ 8; decide) hC e1 e2 (fun m4 hK => ?_) rfl
  replace h := h m4 hK
  obtain ⟨hk2, h⟩ := h
  refine sg_pfR (pc := 22) (J := 2) dX5_init_22 fl_5_21 rfl (Or.inr ⟨rfl, rfl⟩) hk2 ?_
  refine Wp.nameM (fun m5 em5 => ?_)
  replace h := h m5 em5
  refine st_aload_n (pc := 25) dX5_init_25 rfl rfl ?_
  obtain ⟨h0, h1, h2, h⟩ := h
  refine st_new (pc := 26) dX5_init_26 nw_5_18 h0 h1 h2 ?_
  refine Wp.nameM (fun m6 em6 => ?_)
  replace h := h m6 em6
  refine st_dup (pc := 29) dX5_init_29 rfl ?_
  obtain ⟨mc2, ms2, K2, hC, e1, e2, h0, h⟩ := h
  refine sg_INV (pc := 30) (av := []) (st := [vr (mX m5), vr a0]) (K := K2) dX5_init_30 ck_5_20 rfl h0 (by show (2 : Nat) ≤ 8; decide) hC e1 e2 (fun m7 hK => ?_) rfl
  replace h := h m7 hK
  obtain ⟨hk3, h⟩ := h
  refine sg_pfR (pc := 33) (J := 3) dX5_init_33 fl_5_25 rfl (Or.inr ⟨rfl, rfl⟩) hk3 ?_
  refine Wp.nameM (fun m8 em8 => ?_)
  replace h := h m8 em8
  refine st_aload_n (pc := 36) dX5_init_36 rfl rfl ?_
  refine sg_bipush (pc := 37) dX5_init_37 (by omega) (by decide) ?_
  obtain ⟨h0, h1, h2, h3, h4, h⟩ := h
  refine st_newI (pc := 39) dX5_init_39 h0 h1 h2 h3 h4 ?_
  refine Wp.nameM (fun m9 em9 => ?_)
  replace h := h m9 em9
  obtain ⟨hk4, h⟩ := h
  refine sg_pfR (pc := 41) (J := 4) dX5_init_41 fl_5_28 rfl (Or.inr ⟨rfl, rfl⟩) hk4 ?_
  refine Wp.nameM (fun m10 em10 => ?_)
  replace h := h m10 em10
  exact st_return (pc := 44) dX5_init_44 rfl h

theorem sg_X4_freshen_0 {d bc bs : Nat} {a0 : Nat} {a1 : Nat} {μ : Mem} {Q : Option (Option AV) → Mem → Prop}
    (h : mK μ a0 = 5 ∧ (mK μ a1 = 1 ∧ (∃ (mc1 ms1 : Nat) (K1 : Mem → Prop), Cl d mc1 ms1 mJ7_fill_53178 [vr (mR μ a0 0), vi (mD μ a1 2)] μ (KV K1) ∧ mc1 ≤ bc ∧ ms1 ≤ bs ∧ (∀ m1, K1 m1 → mK m1 a0 = 5 ∧ (∃ (mc2 ms2 : Nat) (K2 : Mem → Prop), Cl d mc2 ms2 mJ7_fill_53178 [vr (mR m1 a0 1), vi 0] m1 (KV K2) ∧ mc2 ≤ bc - mc1 ∧ ms2 ≤ bs - ms1 ∧ (∀ m2, K2 m2 → mK m2 a0 = 5 ∧ (∀ m3, m3 = sD m2 a0 2 0 → Q (some none) m3))))))) :
    Wp (d + 1) bc bs mX4_freshen 0 [some (vr a0), some (vr a1)] [] μ Q := by
  refine st_aload_n (pc := 0) dX4_freshen_0 rfl rfl ?_
  obtain ⟨hk1, h⟩ := h
  refine sg_gfR (pc := 1) (J := 0) dX4_freshen_1 fl_4_9 rfl hk1 ?_
  refine st_aload_n (pc := 4) dX4_freshen_4 rfl rfl ?_
  obtain ⟨hk2, h⟩ := h
  refine sg_gfI (pc := 5) (J := 2) dX4_freshen_5 fl_4_22 (by decide) rfl hk2 ?_
  obtain ⟨mc1, ms1, K1, hC, e1, e2, h⟩ := h
  refine sg_SV (pc := 8) (av := [vr (mR μ a0 0), vi (mD μ a1 2)]) (st := []) (K := K1) dX4_freshen_8 ck_4_27 rfl (by show (0 : Nat) ≤ 8; decide) hC e1 e2 (fun m1 hK => ?_) rfl
  replace h := h m1 hK
  refine st_aload_n (pc := 11) dX4_freshen_11 rfl rfl ?_
  obtain ⟨hk3, h⟩ := h
  refine sg_gfR (pc := 12) (J := 1) dX4_freshen_12 fl_4_15 rfl hk3 ?_
  refine sg_iconst (pc := 15) dX4_freshen_15 (by omega) ?_
  obtain ⟨mc2, ms2, K2, hC, e1, e2, h⟩ := h
  refine sg_SV (pc := 16) (av := [vr (mR m1 a0 1), vi 0]) (st := []) (K := K2) dX4_freshen_16 ck_4_27 rfl (by show (0 : Nat) ≤ 8; decide) hC e1 e2 (fun m2 hK => ?_) rfl
  replace h := h m2 hK
  refine st_aload_n (pc := 19) dX4_freshen_19 rfl rfl ?_
  refine sg_iconst (pc := 20) dX4_freshen_20 (by omega) ?_
  obtain ⟨hk4, h⟩ := h
  refine sg_pfI (pc := 21) (J := 2) dX4_freshen_21 fl_4_18 rfl (Or.inl rfl) hk4 ?_
  refine Wp.nameM (fun m3 em3 => ?_)
  replace h := h m3 em3
  exact st_return (pc := 24) dX4_freshen_24 rfl h

theorem sg_X5_freshen_0 {d bc bs : Nat} {a0 : Nat} {a1 : Nat} {μ : Mem} {Q : Option (Option AV) → Mem → Prop}
    (h : mK μ a0 = 6 ∧ (∀ m1, m1 = sD μ a0 0 0 → mK m1 (mR m1 a0 2) = 5 ∧ ∃ (mc1 ms1 : Nat) (K1 : Mem → Prop), Cl d mc1 ms1 mX4_freshen [vr (mR m1 a0 2), vr a1] m1 (KV K1) ∧ mc1 ≤ bc ∧ ms1 ≤ bs ∧ (∀ m2, K1 m2 → mK m2 a0 = 6 ∧ (mK m2 (mR m2 a0 3) = 5 ∧ ∃ (mc2 ms2 : Nat) (K2 : Mem → Prop), Cl d mc2 ms2 mX4_freshen [vr (mR m2 a0 3), vr a1] m2 (KV K2) ∧ mc2 ≤ bc - mc1 ∧ ms2 ≤ bs - ms1 ∧ (∀ m3, K2 m3 → Q (some none) m3))))) :
    Wp (d + 1) bc bs mX5_freshen 0 [some (vr a0), some (vr a1)] [] μ Q := by
  refine st_aload_n (pc := 0) dX5_freshen_0 rfl rfl ?_
  refine sg_iconst (pc := 1) dX5_freshen_1 (by omega) ?_
  obtain ⟨hk1, h⟩ := h
  refine sg_pfI (pc := 2) (J := 0) dX5_freshen_2 fl_5_9 rfl (Or.inl rfl) hk1 ?_
  refine Wp.nameM (fun m1 em1 => ?_)
  replace h := h m1 em1
  refine st_aload_n (pc := 5) dX5_freshen_5 rfl rfl ?_
  refine sg_gfR (pc := 6) (J := 2) dX5_freshen_6 fl_5_21 rfl (by cases em1; exact hk1) ?_
  refine st_aload_n (pc := 9) dX5_freshen_9 rfl rfl ?_
  obtain ⟨hk2, h⟩ := h
  obtain ⟨mc1, ms1, K1, hC, e1, e2, h⟩ := h
  refine sg_VV (pc := 10) (av := [vr a1]) (st := []) (K := K1) dX5_freshen_10 ck_5_32 rfl (by decide) hk2 (by show (0 : Nat) ≤ 8; decide) hC e1 e2 (fun m2 hK => ?_) rfl
  replace h := h m2 hK
  refine st_aload_n (pc := 13) dX5_freshen_13 rfl rfl ?_
  obtain ⟨hk3, h⟩ := h
  refine sg_gfR (pc := 14) (J := 3) dX5_freshen_14 fl_5_25 rfl hk3 ?_
  refine st_aload_n (pc := 17) dX5_freshen_17 rfl rfl ?_
  obtain ⟨hk4, h⟩ := h
  obtain ⟨mc2, ms2, K2, hC, e1, e2, h⟩ := h
  refine sg_VV (pc := 18) (av := [vr a1]) (st := []) (K := K2) dX5_freshen_18 ck_5_32 rfl (by decide) hk4 (by show (0 : Nat) ≤ 8; decide) hC e1 e2 (fun m3 hK => ?_) rfl
  replace h := h m3 hK
  exact st_return (pc := 21) dX5_freshen_21 rfl h

theorem sg_X4_copy_0 {d bc bs : Nat} {a0 : Nat} {a1 : Nat} {μ : Mem} {Q : Option (Option AV) → Mem → Prop}
    (h : mK μ a1 = 5 ∧ (mK μ a0 = 5 ∧ (((20 ≤ mK μ (mR μ a0 0) ∧ mK μ (mR μ a0 0) ≤ 28) ∨ ((mR μ a0 0) ≠ 0 ∧ mK μ (mR μ a0 0) = 40)) ∧ (mK μ (mR μ a1 0) = 20 ∧ mK μ (mR μ a0 0) = 20 ∧ (0 : Int) ≤ 0 ∧ (0 : Int) ≤ 0 ∧ (0 : Int) ≤ (mN μ (mR μ a0 0) : Int) ∧ 0 + (mN μ (mR μ a0 0) : Int) ≤ (mN μ (mR μ a1 0) : Int) ∧ 0 + (mN μ (mR μ a0 0) : Int) ≤ (mN μ (mR μ a0 0) : Int) ∧ (∀ m1, m1 = sCp μ (mR μ a1 0) 0 (mR μ a0 0) 0 (mN μ (mR μ a0 0) : Int) → ((20 ≤ mK m1 (mR m1 a0 1) ∧ mK m1 (mR m1 a0 1) ≤ 28) ∨ ((mR m1 a0 1) ≠ 0 ∧ mK m1 (mR m1 a0 1) = 40)) ∧ (mK m1 (mR m1 a1 1) = 20 ∧ mK m1 (mR m1 a0 1) = 20 ∧ (0 : Int) ≤ 0 ∧ (0 : Int) ≤ 0 ∧ (0 : Int) ≤ (mN m1 (mR m1 a0 1) : Int) ∧ 0 + (mN m1 (mR m1 a0 1) : Int) ≤ (mN m1 (mR m1 a1 1) : Int) ∧ 0 + (mN m1 (mR m1 a0 1) : Int) ≤ (mN m1 (mR m1 a0 1) : Int) ∧ (∀ m2, m2 = sCp m1 (mR m1 a1 1) 0 (mR m1 a0 1) 0 (mN m1 (mR m1 a0 1) : Int) → (∀ m3, m3 = sD m2 a0 2 (mD m2 a1 2) → Q (some none) m3)))))))) :
    Wp d bc bs mX4_copy 0 [some (vr a0), some (vr a1)] [] μ Q := by
  refine st_aload_n (pc := 0) dX4_copy_0 rfl rfl ?_
  obtain ⟨hk1, h⟩ := h
  refine sg_gfR (pc := 1) (J := 0) dX4_copy_1 fl_4_9 rfl hk1 ?_
  refine sg_iconst (pc := 4) dX4_copy_4 (by omega) ?_
  refine st_aload_n (pc := 5) dX4_copy_5 rfl rfl ?_
  obtain ⟨hk2, h⟩ := h
  refine sg_gfR (pc := 6) (J := 0) dX4_copy_6 fl_4_9 rfl hk2 ?_
  refine sg_iconst (pc := 9) dX4_copy_9 (by omega) ?_
  refine st_aload_n (pc := 10) dX4_copy_10 rfl rfl ?_
  refine sg_gfR (pc := 11) (J := 0) dX4_copy_11 fl_4_9 rfl hk2 ?_
  obtain ⟨hk3, h⟩ := h
  refine sg_alen (pc := 14) dX4_copy_14 hk3 ?_
  obtain ⟨h1, h2, h3, h4, h5, h6, h7, h⟩ := h
  refine st_copy (pc := 15) (st := []) dX4_copy_15 ck_4_32 h1 h2 h3 h4 h5 h6 h7 (by show (0 : Nat) ≤ 8; decide) ?_
  refine Wp.nameM (fun m1 em1 => ?_)
  replace h := h m1 em1
  refine st_aload_n (pc := 18) dX4_copy_18 rfl rfl ?_
  refine sg_gfR (pc := 19) (J := 1) dX4_copy_19 fl_4_15 rfl (by cases em1; exact hk1) ?_
  refine sg_iconst (pc := 22) dX4_copy_22 (by omega) ?_
  refine st_aload_n (pc := 23) dX4_copy_23 rfl rfl ?_
  refine sg_gfR (pc := 24) (J := 1) dX4_copy_24 fl_4_15 rfl (by cases em1; exact hk2) ?_
  refine sg_iconst (pc := 27) dX4_copy_27 (by omega) ?_
  refine st_aload_n (pc := 28) dX4_copy_28 rfl rfl ?_
  refine sg_gfR (pc := 29) (J := 1) dX4_copy_29 fl_4_15 rfl (by cases em1; exact hk2) ?_
  obtain ⟨hk4, h⟩ := h
  refine sg_alen (pc := 32) dX4_copy_32 hk4 ?_
  obtain ⟨h1, h2, h3, h4, h5, h6, h7, h⟩ := h
  refine st_copy (pc := 33) (st := []) dX4_copy_33 ck_4_32 h1 h2 h3 h4 h5 h6 h7 (by show (0 : Nat) ≤ 8; decide) ?_
  refine Wp.nameM (fun m2 em2 => ?_)
  replace h := h m2 em2
  refine st_aload_n (pc := 36) dX4_copy_36 rfl rfl ?_
  refine st_aload_n (pc := 37) dX4_copy_37 rfl rfl ?_
  refine sg_gfI (pc := 38) (J := 2) dX4_copy_38 fl_4_18 (by decide) rfl (by cases em2; cases em1; exact hk1) ?_
  refine sg_pfI (pc := 41) (J := 2) dX4_copy_41 fl_4_18 rfl (Or.inl rfl) (by cases em2; cases em1; exact hk2) ?_
  refine Wp.nameM (fun m3 em3 => ?_)
  replace h := h m3 em3
  exact st_return (pc := 44) dX4_copy_44 rfl h

theorem sg_X5_copy_0 {d bc bs : Nat} {a0 : Nat} {a1 : Nat} {μ : Mem} {Q : Option (Option AV) → Mem → Prop}
    (h : mK μ a1 = 6 ∧ (mK μ a0 = 6 ∧ (∀ m1, m1 = sD μ a0 0 (mD μ a1 0) → (∀ m2, m2 = sD m1 a0 1 (mD m1 a1 1) → mK m2 (mR m2 a0 2) = 5 ∧ ∃ (mc1 ms1 : Nat) (K1 : Mem → Prop), Cl d mc1 ms1 mX4_copy [vr (mR m2 a0 2), vr (mR m2 a1 2)] m2 (KV K1) ∧ mc1 ≤ bc ∧ ms1 ≤ bs ∧ (∀ m3, K1 m3 → mK m3 a0 = 6 ∧ (mK m3 a1 = 6 ∧ (mK m3 (mR m3 a0 3) = 5 ∧ ∃ (mc2 ms2 : Nat) (K2 : Mem → Prop), Cl d mc2 ms2 mX4_copy [vr (mR m3 a0 3), vr (mR m3 a1 3)] m3 (KV K2) ∧ mc2 ≤ bc - mc1 ∧ ms2 ≤ bs - ms1 ∧ (∀ m4, K2 m4 → mK m4 a1 = 6 ∧ (mK m4 a0 = 6 ∧ (((20 ≤ mK m4 (mR m4 a0 4) ∧ mK m4 (mR m4 a0 4) ≤ 28) ∨ ((mR m4 a0 4) ≠ 0 ∧ mK m4 (mR m4 a0 4) = 40)) ∧ (mK m4 (mR m4 a1 4) = 20 ∧ mK m4 (mR m4 a0 4) = 20 ∧ (0 : Int) ≤ 0 ∧ (0 : Int) ≤ 0 ∧ (0 : Int) ≤ (mN m4 (mR m4 a0 4) : Int) ∧ 0 + (mN m4 (mR m4 a0 4) : Int) ≤ (mN m4 (mR m4 a1 4) : Int) ∧ 0 + (mN m4 (mR m4 a0 4) : Int) ≤ (mN m4 (mR m4 a0 4) : Int) ∧ (∀ m5, m5 = sCp m4 (mR m4 a1 4) 0 (mR m4 a0 4) 0 (mN m4 (mR m4 a0 4) : Int) → Q (some none) m5)))))))))))) :
    Wp (d + 1) bc bs mX5_copy 0 [some (vr a0), some (vr a1)] [] μ Q := by
  refine st_aload_n (pc := 0) dX5_copy_0 rfl rfl ?_
  refine st_aload_n (pc := 1) dX5_copy_1 rfl rfl ?_
  obtain ⟨hk1, h⟩ := h
  refine sg_gfI (pc := 2) (J := 0) dX5_copy_2 fl_5_9 (by decide) rfl hk1 ?_
  obtain ⟨hk2, h⟩ := h
  refine sg_pfI (pc := 5) (J := 0) dX5_copy_5 fl_5_9 rfl (Or.inl rfl) hk2 ?_
  refine Wp.nameM (fun m1 em1 => ?_)
  replace h := h m1 em1
  refine st_aload_n (pc := 8) dX5_copy_8 rfl rfl ?_
  refine st_aload_n (pc := 9) dX5_copy_9 rfl rfl ?_
  refine sg_gfI (pc := 10) (J := 1) dX5_copy_10 fl_5_15 (by decide) rfl (by cases em1; exact hk1) ?_
  refine sg_pfI (pc := 13) (J := 1) dX5_copy_13 fl_5_15 rfl (Or.inl rfl) (by cases em1; exact hk2) ?_
  refine Wp.nameM (fun m2 em2 => ?_)
  replace h := h m2 em2
  refine st_aload_n (pc := 16) dX5_copy_16 rfl rfl ?_
  refine sg_gfR (pc := 17) (J := 2) dX5_copy_17 fl_5_21 rfl (by cases em2; cases em1; exact hk2) ?_
  refine st_aload_n (pc := 20) dX5_copy_20 rfl rfl ?_
  refine sg_gfR (pc := 21) (J := 2) dX5_copy_21 fl_5_21 rfl (by cases em2; cases em1; exact hk1) ?_
  obtain ⟨hk3, h⟩ := h
  obtain ⟨mc1, ms1, K1, hC, e1, e2, h⟩ := h
  refine sg_VV (pc := 24) (av := [vr (mR m2 a1 2)]) (st := []) (K := K1) dX5_copy_24 ck_5_36 rfl (by decide) hk3 (by show (0 : Nat) ≤ 8; decide) hC e1 e2 (fun m3 hK => ?_) rfl
  replace h := h m3 hK
  refine st_aload_n (pc := 27) dX5_copy_27 rfl rfl ?_
  obtain ⟨hk4, h⟩ := h
  refine sg_gfR (pc := 28) (J := 3) dX5_copy_28 fl_5_25 rfl hk4 ?_
  refine st_aload_n (pc := 31) dX5_copy_31 rfl rfl ?_
  obtain ⟨hk5, h⟩ := h
  refine sg_gfR (pc := 32) (J := 3) dX5_copy_32 fl_5_25 rfl hk5 ?_
  obtain ⟨hk6, h⟩ := h
  obtain ⟨mc2, ms2, K2, hC, e1, e2, h⟩ := h
  refine sg_VV (pc := 35) (av := [vr (mR m3 a1 3)]) (st := []) (K := K2) dX5_copy_35 ck_5_36 rfl (by decide) hk6 (by show (0 : Nat) ≤ 8; decide) hC e1 e2 (fun m4 hK => ?_) rfl
  replace h := h m4 hK
  refine st_aload_n (pc := 38) dX5_copy_38 rfl rfl ?_
  obtain ⟨hk7, h⟩ := h
  refine sg_gfR (pc := 39) (J := 4) dX5_copy_39 fl_5_28 rfl hk7 ?_
  refine sg_iconst (pc := 42) dX5_copy_42 (by omega) ?_
  refine st_aload_n (pc := 43) dX5_copy_43 rfl rfl ?_
  obtain ⟨hk8, h⟩ := h
  refine sg_gfR (pc := 44) (J := 4) dX5_copy_44 fl_5_28 rfl hk8 ?_
  refine sg_iconst (pc := 47) dX5_copy_47 (by omega) ?_
  refine st_aload_n (pc := 48) dX5_copy_48 rfl rfl ?_
  refine sg_gfR (pc := 49) (J := 4) dX5_copy_49 fl_5_28 rfl hk8 ?_
  obtain ⟨hk9, h⟩ := h
  refine sg_alen (pc := 52) dX5_copy_52 hk9 ?_
  obtain ⟨h1, h2, h3, h4, h5, h6, h7, h⟩ := h
  refine st_copy (pc := 53) (st := []) dX5_copy_53 ck_5_40 h1 h2 h3 h4 h5 h6 h7 (by show (0 : Nat) ≤ 8; decide) ?_
  refine Wp.nameM (fun m5 em5 => ?_)
  replace h := h m5 em5
  exact st_return (pc := 56) dX5_copy_56 rfl h

theorem sg_X5_wander_0 {d bc bs : Nat} {a0 : Nat} {a1 : Int} {μ : Mem} {Q : Option (Option AV) → Mem → Prop}
    (h : (0 < a1 → mK μ a0 = 6 ∧ ((∀ m1, m1 = sD μ a0 1 (w32 ((w32 ((mD μ a0 1) * 1103515245)) + 12345)) → (w32 ((w32 (2 * a1)) + 1)) ≠ 0 ∧ (Q (some (some (vi (w32 (((bUshr (mD m1 a0 1) 16).tmod (w32 ((w32 (2 * a1)) + 1))) - a1))))) m1)))) ∧ (¬ 0 < a1 → Q (some (some (vi 0))) μ)) :
    Wp d bc bs mX5_wander 0 [some (vr a0), some (vi a1)] [] μ Q := by
  refine st_iload_n (pc := 0) dX5_wander_0 rfl rfl ?_
  refine st_ifgt (pc := 1) (tgt := 6) dX5_wander_1 rfl (fun c => ?_) (fun c => ?_)
  · replace h := h.1 c
    refine st_aload_n (pc := 6) dX5_wander_6 rfl rfl ?_
    refine st_aload_n (pc := 7) dX5_wander_7 rfl rfl ?_
    obtain ⟨hk1, h⟩ := h
    refine sg_gfI (pc := 8) (J := 1) dX5_wander_8 fl_5_15 (by decide) rfl hk1 ?_
    refine st_ldc (pc := 11) (n := 1103515245) dX5_wander_11 cn_5_79 (by unfold r32; omega) ?_
    refine st_imul (pc := 13) dX5_wander_13 ?_
    refine sg_sipush (pc := 14) dX5_wander_14 (by omega) (by decide) ?_
    refine st_iadd (pc := 17) dX5_wander_17 ?_
    refine sg_pfI (pc := 18) (J := 1) dX5_wander_18 fl_5_15 rfl (Or.inl rfl) hk1 ?_
    refine Wp.nameM (fun m1 em1 => ?_)
    replace h := h m1 em1
    refine st_aload_n (pc := 21) dX5_wander_21 rfl rfl ?_
    refine sg_gfI (pc := 22) (J := 1) dX5_wander_22 fl_5_15 (by decide) rfl (by cases em1; exact hk1) ?_
    refine sg_bipush (pc := 25) dX5_wander_25 (by omega) (by decide) ?_
    refine st_iushr (pc := 27) dX5_wander_27 ?_
    refine sg_iconst (pc := 28) dX5_wander_28 (by omega) ?_
    refine st_iload_n (pc := 29) dX5_wander_29 rfl rfl ?_
    refine st_imul (pc := 30) dX5_wander_30 ?_
    refine sg_iconst (pc := 31) dX5_wander_31 (by omega) ?_
    refine st_iadd (pc := 32) dX5_wander_32 ?_
    obtain ⟨h0, h⟩ := h
    refine st_irem (pc := 33) dX5_wander_33 h0 ?_
    refine st_iload_n (pc := 34) dX5_wander_34 rfl rfl ?_
    refine st_isub (pc := 35) dX5_wander_35 ?_
    exact st_ireturn (pc := 36) dX5_wander_36 (Or.inl rfl) h
  · replace h := h.2 c
    refine sg_iconst (pc := 4) dX5_wander_4 (by omega) ?_
    exact st_ireturn (pc := 5) dX5_wander_5 (Or.inl rfl) h

theorem sg_X4_slope_0 {d bc bs : Nat} {a0 : Nat} {a1 : Nat} {μ : Mem} {Q : Option (Option AV) → Mem → Prop}
    (h : mK μ a0 = 5 ∧ ((mK μ (mR μ a0 0) = 20 ∨ ((mR μ a0 0) ≠ 0 ∧ mK μ (mR μ a0 0) = 40)) ∧ ((0 : Int) ≤ 0 ∧ 0 < (mN μ (mR μ a0 0) : Int)) ∧ (mK μ a1 = 1 ∧ (((0 : Int) ≤ (mD μ a1 0) ∧ (mD μ a1 0) < (mN μ (mR μ a0 0) : Int)) ∧ (Q (some (some (vi (w32 ((mD μ (mR μ a0 0) 0) - (mD μ (mR μ a0 0) (mD μ a1 0))))))) μ))))) :
    Wp d bc bs mX4_slope 0 [some (vr a0), some (vr a1)] [] μ Q := by
  refine st_aload_n (pc := 0) dX4_slope_0 rfl rfl ?_
  obtain ⟨hk1, h⟩ := h
  refine sg_gfR (pc := 1) (J := 0) dX4_slope_1 fl_4_9 rfl hk1 ?_
  refine sg_iconst (pc := 4) dX4_slope_4 (by omega) ?_
  obtain ⟨hk2, h⟩ := h
  obtain ⟨h1, h⟩ := h
  refine sg_iaload (pc := 5) dX4_slope_5 hk2 h1 ?_
  refine st_aload_n (pc := 6) dX4_slope_6 rfl rfl ?_
  refine sg_gfR (pc := 7) (J := 0) dX4_slope_7 fl_4_9 rfl hk1 ?_
  refine st_aload_n (pc := 10) dX4_slope_10 rfl rfl ?_
  obtain ⟨hk3, h⟩ := h
  refine sg_gfI (pc := 11) (J := 0) dX4_slope_11 fl_4_38 (by decide) rfl hk3 ?_
  obtain ⟨h1, h⟩ := h
  refine sg_iaload (pc := 14) dX4_slope_14 hk2 h1 ?_
  refine st_isub (pc := 15) dX4_slope_15 ?_
  exact st_ireturn (pc := 16) dX4_slope_16 (Or.inl rfl) h

theorem sg_X5_slopeSeen_0 {d bc bs : Nat} {a0 : Nat} {a1 : Nat} {μ : Mem} {Q : Option (Option AV) → Mem → Prop}
    (h : mK μ a1 = 1 ∧ ((mK μ (mR μ a1 3) = 20 ∨ ((mR μ a1 3) ≠ 0 ∧ mK μ (mR μ a1 3) = 40)) ∧ ((0 : Int) ≤ 5 ∧ 5 < (mN μ (mR μ a1 3) : Int)) ∧ (∀ v1, v1 = mD μ (mR μ a1 3) 5 → (¬ v1 = 0 → mK μ a0 = 6 ∧ ((v1 ≤ (mD μ a0 0) → ((20 ≤ mK μ (mR μ a0 4) ∧ mK μ (mR μ a0 4) ≤ 28) ∨ ((mR μ a0 4) ≠ 0 ∧ mK μ (mR μ a0 4) = 40)) ∧ (∃ (mc1 ms1 : Nat) (K1 : Int → Mem → Prop), Cl d mc1 ms1 mJ9_floorMod_7cf53 [vi (w32 ((mD μ a0 0) - v1)), vi (mN μ (mR μ a0 4) : Int)] μ (KI K1) ∧ mc1 ≤ bc ∧ ms1 ≤ bs ∧ (∀ x1 m1, K1 x1 m1 → (mK m1 (mR μ a0 4) = 20 ∨ ((mR μ a0 4) ≠ 0 ∧ mK m1 (mR μ a0 4) = 40)) ∧ ((0 : Int) ≤ x1 ∧ x1 < (mN m1 (mR μ a0 4) : Int)) ∧ (Q (some (some (vi (mD m1 (mR μ a0 4) x1)))) m1)))) ∧ (¬ v1 ≤ (mD μ a0 0) → Q (some (some (vi 0))) μ))) ∧ (v1 = 0 → mK μ a0 = 6 ∧ (mK μ (mR μ a0 2) = 5 ∧ ∃ (mc2 ms2 : Nat) (K2 : Int → Mem → Prop), Cl d mc2 ms2 mX4_slope [vr (mR μ a0 2), vr a1] μ (KI K2) ∧ mc2 ≤ bc ∧ ms2 ≤ bs ∧ (∀ x2 m2, K2 x2 m2 → Q (some (some (vi x2))) m2)))))) :
    Wp (d + 1) bc bs mX5_slopeSeen 0 [some (vr a0), some (vr a1), none] [] μ Q := by
  refine st_aload_n (pc := 0) dX5_slopeSeen_0 rfl rfl ?_
  obtain ⟨hk1, h⟩ := h
  refine sg_gfR (pc := 1) (J := 3) dX5_slopeSeen_1 fl_5_83 rfl hk1 ?_
  refine sg_iconst (pc := 4) dX5_slopeSeen_4 (by omega) ?_
  obtain ⟨hk2, h⟩ := h
  obtain ⟨h1, h⟩ := h
  refine sg_iaload (pc := 5) dX5_slopeSeen_5 hk2 h1 ?_
  refine sg_istore_n (pc := 6) (ls' := [some (vr a0), some (vr a1), some (vi (mD μ (mR μ a1 3) 5))]) dX5_slopeSeen_6 rfl (by show (2 : Nat) < 3; decide) rfl ?_
  refine Wp.nameL (ls2 := fun v => [some (vr a0), some (vr a1), some (vi v)]) 2 _ rfl (fun _ => rfl) (fun v1 ev1 => ?_)
  replace h := h v1 ev1
  refine st_iload_n (pc := 7) dX5_slopeSeen_7 rfl rfl ?_
  refine st_ifne (pc := 8) (tgt := 20) dX5_slopeSeen_8 rfl (fun c => ?_) (fun c => ?_)
  · replace h := h.1 c
    refine st_aload_n (pc := 20) dX5_slopeSeen_20 rfl rfl ?_
    obtain ⟨hk3, h⟩ := h
    refine sg_gfI (pc := 21) (J := 0) dX5_slopeSeen_21 fl_5_9 (by decide) rfl hk3 ?_
    refine st_iload_n (pc := 24) dX5_slopeSeen_24 rfl rfl ?_
    refine st_icmpge (pc := 25) (tgt := 32) dX5_slopeSeen_25 rfl (fun c => ?_) (fun c => ?_)
    · replace h := h.1 c
      refine st_aload_n (pc := 32) dX5_slopeSeen_32 rfl rfl ?_
      refine sg_gfR (pc := 33) (J := 4) dX5_slopeSeen_33 fl_5_28 rfl hk3 ?_
      refine st_aload_n (pc := 36) dX5_slopeSeen_36 rfl rfl ?_
      refine sg_gfI (pc := 37) (J := 0) dX5_slopeSeen_37 fl_5_9 (by decide) rfl hk3 ?_
      refine st_iload_n (pc := 40) dX5_slopeSeen_40 rfl rfl ?_
      refine st_isub (pc := 41) dX5_slopeSeen_41 ?_
      refine st_aload_n (pc := 42) dX5_slopeSeen_42 rfl rfl ?_
      refine sg_gfR (pc := 43) (J := 4) dX5_slopeSeen_43 fl_5_28 rfl hk3 ?_
      obtain ⟨hk4, h⟩ := h
      refine sg_alen (pc := 46) dX5_slopeSeen_46 hk4 ?_
      obtain ⟨mc1, ms1, K1, hC, e1, e2, h⟩ := h
      refine sg_SI (pc := 47) (av := [vi (w32 ((mD μ a0 0) - v1)), vi (mN μ (mR μ a0 4) : Int)]) (st := [vr (mR μ a0 4)]) (K := K1) dX5_slopeSeen_47 ck_5_46 rfl (by show (1 : Nat) ≤ 8; decide) hC e1 e2 (fun x1 m1 hK => ?_) rfl
      replace h := h x1 m1 hK
      obtain ⟨hk5, h⟩ := h
      obtain ⟨h1, h⟩ := h
      refine sg_iaload (pc := 50) dX5_slopeSeen_50 hk5 h1 ?_
      exact st_ireturn (pc := 51) dX5_slopeSeen_51 (Or.inl rfl) h
    · replace h := h.2 c
      refine sg_iconst (pc := 28) dX5_slopeSeen_28 (by omega) ?_
      refine st_goto (pc := 29) dX5_slopeSeen_29 rfl ?_
      exact st_ireturn (pc := 51) dX5_slopeSeen_51 (Or.inl rfl) h
  · replace h := h.2 c
    refine st_aload_n (pc := 11) dX5_slopeSeen_11 rfl rfl ?_
    obtain ⟨hk6, h⟩ := h
    refine sg_gfR (pc := 12) (J := 2) dX5_slopeSeen_12 fl_5_21 rfl hk6 ?_
    refine st_aload_n (pc := 15) dX5_slopeSeen_15 rfl rfl ?_
    obtain ⟨hk7, h⟩ := h
    obtain ⟨mc2, ms2, K2, hC, e1, e2, h⟩ := h
    refine sg_VI (pc := 16) (av := [vr a1]) (st := []) (K := K2) dX5_slopeSeen_16 ck_5_52 rfl (by decide) hk7 (by show (0 : Nat) ≤ 8; decide) hC e1 e2 (fun x2 m2 hK => ?_) rfl
    replace h := h x2 m2 hK
    exact st_ireturn (pc := 19) dX5_slopeSeen_19 (Or.inl rfl) h

theorem sg_X5_given_0 {d bc bs : Nat} {a0 : Nat} {a1 : Nat} {a2 : Nat} {a3 : Int} {μ : Mem} {Q : Option (Option AV) → Mem → Prop}
    (h : (¬ a2 = 0 → mK μ a0 = 6 ∧ ∃ (mc1 ms1 : Nat) (K1 : Int → Mem → Prop), Cl d mc1 ms1 mX5_slopeSeen [vr a0, vr a1] μ (KI K1) ∧ mc1 ≤ bc ∧ ms1 ≤ bs ∧ (∀ x1 m1, K1 x1 m1 → mK m1 a0 = 6 ∧ (mK m1 a1 = 1 ∧ ((mK m1 (mR m1 a1 3) = 20 ∨ ((mR m1 a1 3) ≠ 0 ∧ mK m1 (mR m1 a1 3) = 40)) ∧ ((0 : Int) ≤ 2 ∧ 2 < (mN m1 (mR m1 a1 3) : Int)) ∧ (mK m1 (mR m1 a0 2) = 5 ∧ ((mK m1 (mR m1 (mR m1 a0 2) 0) = 20 ∨ ((mR m1 (mR m1 a0 2) 0) ≠ 0 ∧ mK m1 (mR m1 (mR m1 a0 2) 0) = 40)) ∧ ((0 : Int) ≤ 0 ∧ 0 < (mN m1 (mR m1 (mR m1 a0 2) 0) : Int)) ∧ (mK m1 a2 = 3 ∧ ∃ (mc2 ms2 : Nat) (K2 : Int → Mem → Prop), Cl d mc2 ms2 mX2_bounded [vr a2, vi a3, vi x1, vi (mD m1 a0 0), vi (mD m1 (mR m1 a1 3) 2), vi (mD m1 (mR m1 (mR m1 a0 2) 0) 0)] m1 (KI K2) ∧ mc2 ≤ bc - mc1 ∧ ms2 ≤ bs - ms1 ∧ (∀ x2 m2, K2 x2 m2 → Q (some (some (vi x2))) m2)))))))) ∧ (a2 = 0 → Q (some (some (vi a3))) μ)) :
    Wp (d + 1) bc bs mX5_given 0 [some (vr a0), some (vr a1), some (vr a2), some (vi a3), none] [] μ Q := by
  refine st_aload_n (pc := 0) dX5_given_0 rfl rfl ?_
  refine st_ifnonnull (pc := 1) (tgt := 6) dX5_given_1 rfl (fun c => ?_) (fun c => ?_)
  · replace h := h.1 c
    refine st_aload_n (pc := 6) dX5_given_6 rfl rfl ?_
    refine st_aload_n (pc := 7) dX5_given_7 rfl rfl ?_
    obtain ⟨hk1, h⟩ := h
    obtain ⟨mc1, ms1, K1, hC, e1, e2, h⟩ := h
    refine sg_VI (pc := 8) (av := [vr a1]) (st := []) (K := K1) dX5_given_8 ck_5_80 rfl (by decide) hk1 (by show (0 : Nat) ≤ 8; decide) hC e1 e2 (fun x1 m1 hK => ?_) rfl
    replace h := h x1 m1 hK
    refine sg_istore (pc := 11) (ls' := [some (vr a0), some (vr a1), some (vr a2), some (vi a3), some (vi x1)]) dX5_given_11 (by show (4 : Nat) < 5; decide) rfl ?_
    refine st_aload_n (pc := 13) dX5_given_13 rfl rfl ?_
    refine st_iload_n (pc := 14) dX5_given_14 rfl rfl ?_
    refine st_iload (pc := 15) dX5_given_15 rfl ?_
    refine st_aload_n (pc := 17) dX5_given_17 rfl rfl ?_
    obtain ⟨hk2, h⟩ := h
    refine sg_gfI (pc := 18) (J := 0) dX5_given_18 fl_5_9 (by decide) rfl hk2 ?_
    refine st_aload_n (pc := 21) dX5_given_21 rfl rfl ?_
    obtain ⟨hk3, h⟩ := h
    refine sg_gfR (pc := 22) (J := 3) dX5_given_22 fl_5_83 rfl hk3 ?_
    refine sg_iconst (pc := 25) dX5_given_25 (by omega) ?_
    obtain ⟨hk4, h⟩ := h
    obtain ⟨h1, h⟩ := h
    refine sg_iaload (pc := 26) dX5_given_26 hk4 h1 ?_
    refine st_aload_n (pc := 27) dX5_given_27 rfl rfl ?_
    refine sg_gfR (pc := 28) (J := 2) dX5_given_28 fl_5_21 rfl hk2 ?_
    obtain ⟨hk5, h⟩ := h
    refine sg_gfR (pc := 31) (J := 0) dX5_given_31 fl_5_88 rfl hk5 ?_
    refine sg_iconst (pc := 34) dX5_given_34 (by omega) ?_
    obtain ⟨hk6, h⟩ := h
    obtain ⟨h1, h⟩ := h
    refine sg_iaload (pc := 35) dX5_given_35 hk6 h1 ?_
    obtain ⟨hk7, h⟩ := h
    obtain ⟨mc2, ms2, K2, hC, e1, e2, h⟩ := h
    refine sg_VI (pc := 36) (av := [vi a3, vi x1, vi (mD m1 a0 0), vi (mD m1 (mR m1 a1 3) 2), vi (mD m1 (mR m1 (mR m1 a0 2) 0) 0)]) (st := []) (K := K2) dX5_given_36 ck_5_91 rfl (by decide) hk7 (by show (0 : Nat) ≤ 8; decide) hC e1 e2 (fun x2 m2 hK => ?_) rfl
    replace h := h x2 m2 hK
    exact st_ireturn (pc := 39) dX5_given_39 (Or.inl rfl) h
  · replace h := h.2 c
    refine st_iload_n (pc := 4) dX5_given_4 rfl rfl ?_
    exact st_ireturn (pc := 5) dX5_given_5 (Or.inl rfl) h

theorem sg_X4_drive_0 {d bc bs : Nat} {a0 : Nat} {a1 : Nat} {a2 : Int} {μ : Mem} {Q : Option (Option AV) → Mem → Prop}
    (h : mK μ a1 = 1 ∧ (∀ v1, v1 = mD μ a1 0 → (mK μ (mR μ a1 3) = 20 ∨ ((mR μ a1 3) ≠ 0 ∧ mK μ (mR μ a1 3) = 40)) ∧ ((0 : Int) ≤ 0 ∧ 0 < (mN μ (mR μ a1 3) : Int)) ∧ (∀ v2, v2 = mD μ (mR μ a1 3) 0 → ((0 : Int) ≤ 1 ∧ 1 < (mN μ (mR μ a1 3) : Int)) ∧ (((0 : Int) ≤ 2 ∧ 2 < (mN μ (mR μ a1 3) : Int)) ∧ (((0 : Int) ≤ 3 ∧ 3 < (mN μ (mR μ a1 3) : Int)) ∧ (∃ (mc1 ms1 : Nat) (K1 : Int → Mem → Prop), Cl d mc1 ms1 mJ9_min_7cf53 [vi 100, vi (w32 ((mD μ (mR μ a1 3) 1) + (w32 ((mD μ (mR μ a1 3) 2) * (mD μ (mR μ a1 3) 3)))))] μ (KI K1) ∧ mc1 ≤ bc ∧ ms1 ≤ bs ∧ (∀ x1 m1, K1 x1 m1 → Wp (d + 1) (bc - mc1) (bs - ms1) mX4_drive 43 [some (vr a0), some (vr a1), some (vi a2), some (vi v1), some (vi v2), some (vi x1), some (vi 0), none] [] m1 Q))))))) :
    Wp (d + 1) bc bs mX4_drive 0 [some (vr a0), some (vr a1), some (vi a2), none, none, none, none, none] [] μ Q := by
  refine st_aload_n (pc := 0) dX4_drive_0 rfl rfl ?_
  obtain ⟨hk1, h⟩ := h
  refine sg_gfI (pc := 1) (J := 0) dX4_drive_1 fl_4_38 (by decide) rfl hk1 ?_
  refine sg_istore_n (pc := 4) (ls' := [some (vr a0), some (vr a1), some (vi a2), some (vi (mD μ a1 0)), none, none, none, none]) dX4_drive_4 rfl (by show (3 : Nat) < 8; decide) rfl ?_
  refine Wp.nameL (ls2 := fun v => [some (vr a0), some (vr a1), some (vi a2), some (vi v), none, none, none, none]) 3 _ rfl (fun _ => rfl) (fun v1 ev1 => ?_)
  replace h := h v1 ev1
  refine st_aload_n (pc := 5) dX4_drive_5 rfl rfl ?_
  refine sg_gfR (pc := 6) (J := 3) dX4_drive_6 fl_4_66 rfl hk1 ?_
  refine sg_iconst (pc := 9) dX4_drive_9 (by omega) ?_
  obtain ⟨hk2, h⟩ := h
  obtain ⟨h1, h⟩ := h
  refine sg_iaload (pc := 10) dX4_drive_10 hk2 h1 ?_
  refine sg_istore (pc := 11) (ls' := [some (vr a0), some (vr a1), some (vi a2), some (vi v1), some (vi (mD μ (mR μ a1 3) 0)), none, none, none]) dX4_drive_11 (by show (4 : Nat) < 8; decide) rfl ?_
  refine Wp.nameL (ls2 := fun v => [some (vr a0), some (vr a1), some (vi a2), some (vi v1), some (vi v), none, none, none]) 4 _ rfl (fun _ => rfl) (fun v2 ev2 => ?_)
  replace h := h v2 ev2
  refine sg_bipush (pc := 13) dX4_drive_13 (by omega) (by decide) ?_
  refine st_aload_n (pc := 15) dX4_drive_15 rfl rfl ?_
  refine sg_gfR (pc := 16) (J := 3) dX4_drive_16 fl_4_66 rfl hk1 ?_
  refine sg_iconst (pc := 19) dX4_drive_19 (by omega) ?_
  obtain ⟨h1, h⟩ := h
  refine sg_iaload (pc := 20) dX4_drive_20 hk2 h1 ?_
  refine st_aload_n (pc := 21) dX4_drive_21 rfl rfl ?_
  refine sg_gfR (pc := 22) (J := 3) dX4_drive_22 fl_4_66 rfl hk1 ?_
  refine sg_iconst (pc := 25) dX4_drive_25 (by omega) ?_
  obtain ⟨h1, h⟩ := h
  refine sg_iaload (pc := 26) dX4_drive_26 hk2 h1 ?_
  refine st_aload_n (pc := 27) dX4_drive_27 rfl rfl ?_
  refine sg_gfR (pc := 28) (J := 3) dX4_drive_28 fl_4_66 rfl hk1 ?_
  refine sg_iconst (pc := 31) dX4_drive_31 (by omega) ?_
  obtain ⟨h1, h⟩ := h
  refine sg_iaload (pc := 32) dX4_drive_32 hk2 h1 ?_
  refine st_imul (pc := 33) dX4_drive_33 ?_
  refine st_iadd (pc := 34) dX4_drive_34 ?_
  obtain ⟨mc1, ms1, K1, hC, e1, e2, h⟩ := h
  refine sg_SI (pc := 35) (av := [vi 100, vi (w32 ((mD μ (mR μ a1 3) 1) + (w32 ((mD μ (mR μ a1 3) 2) * (mD μ (mR μ a1 3) 3)))))]) (st := []) (K := K1) dX4_drive_35 ck_4_69 rfl (by show (0 : Nat) ≤ 8; decide) hC e1 e2 (fun x1 m1 hK => ?_) rfl
  replace h := h x1 m1 hK
  refine sg_istore (pc := 38) (ls' := [some (vr a0), some (vr a1), some (vi a2), some (vi v1), some (vi v2), some (vi x1), none, none]) dX4_drive_38 (by show (5 : Nat) < 8; decide) rfl ?_
  refine sg_iconst (pc := 40) dX4_drive_40 (by omega) ?_
  refine sg_istore (pc := 41) (ls' := [some (vr a0), some (vr a1), some (vi a2), some (vi v1), some (vi v2), some (vi x1), some (vi 0), none]) dX4_drive_41 (by show (6 : Nat) < 8; decide) rfl ?_
  exact h

theorem sg_X4_drive_43 {d bc bs : Nat} {a0 : Nat} {a1 : Nat} {a2 : Int} {a3 : Int} {a4 : Int} {a5 : Int} {a6 : Int} {μ : Mem} {Q : Option (Option AV) → Mem → Prop}
    (h : (a3 ≤ a6 → Q (some none) μ) ∧ (¬ a3 ≤ a6 → mK μ a0 = 5 ∧ ((mK μ (mR μ a0 1) = 20 ∨ ((mR μ a0 1) ≠ 0 ∧ mK μ (mR μ a0 1) = 40)) ∧ ((0 : Int) ≤ a6 ∧ a6 < (mN μ (mR μ a0 1) : Int)) ∧ ((mK μ (mR μ a0 0) = 20 ∨ ((mR μ a0 0) ≠ 0 ∧ mK μ (mR μ a0 0) = 40)) ∧ ((0 : Int) ≤ a6 ∧ a6 < (mN μ (mR μ a0 0) : Int)) ∧ (((0 : Int) ≤ (w32 (a6 + 1)) ∧ (w32 (a6 + 1)) < (mN μ (mR μ a0 0) : Int)) ∧ (∀ v1, v1 = w32 ((w32 ((mD μ (mR μ a0 1) a6) + (w32 ((w32 (a4 * (w32 ((mD μ (mR μ a0 0) a6) - (mD μ (mR μ a0 0) (w32 (a6 + 1))))))).tdiv 16)))) + a2) → ∀ v2, v2 = w32 (v1 - (w32 ((w32 (v1 * a5)).tdiv 100))) → mK μ a1 = 1 ∧ ((mK μ (mR μ a1 4) = 20 ∨ ((mR μ a1 4) ≠ 0 ∧ mK μ (mR μ a1 4) = 40)) ∧ ((0 : Int) ≤ a6 ∧ a6 < (mN μ (mR μ a1 4) : Int)) ∧ (∃ (mc1 ms1 : Nat) (K1 : Int → Mem → Prop), Cl d mc1 ms1 mX9_between [vi (w32 ((w32 (v2 * (mD μ (mR μ a1 4) a6))).tdiv 100)), vi (-8000), vi 8000] μ (KI K1) ∧ mc1 ≤ bc ∧ ms1 ≤ bs ∧ (∀ x1 m1, K1 x1 m1 → mK m1 (mR μ a0 1) = 20 ∧ ((0 : Int) ≤ a6 ∧ a6 < (mN m1 (mR μ a0 1) : Int)) ∧ (∀ m2, m2 = sD m1 (mR μ a0 1) a6 x1 → ∀ v3, v3 = w32 (a6 + 1) → Wp (d + 1) (bc - mc1) (bs - ms1) mX4_drive 43 [some (vr a0), some (vr a1), some (vi a2), some (vi a3), some (vi a4), some (vi a5), some (vi v3), none] [] m2 Q)))))))))) :
    Wp (d + 1) bc bs mX4_drive 43 [some (vr a0), some (vr a1), some (vi a2), some (vi a3), some (vi a4), some (vi a5), some (vi a6), none] [] μ Q := by
  refine st_iload (pc := 43) dX4_drive_43 rfl ?_
  refine st_iload_n (pc := 45) dX4_drive_45 rfl rfl ?_
  refine st_icmpge (pc := 46) (tgt := 132) dX4_drive_46 rfl (fun c => ?_) (fun c => ?_)
  · replace h := h.1 c
    exact st_return (pc := 132) dX4_drive_132 rfl h
  · replace h := h.2 c
    refine st_aload_n (pc := 49) dX4_drive_49 rfl rfl ?_
    obtain ⟨hk1, h⟩ := h
    refine sg_gfR (pc := 50) (J := 1) dX4_drive_50 fl_4_15 rfl hk1 ?_
    refine st_iload (pc := 53) dX4_drive_53 rfl ?_
    obtain ⟨hk2, h⟩ := h
    obtain ⟨h1, h⟩ := h
    refine sg_iaload (pc := 55) dX4_drive_55 hk2 h1 ?_
    refine st_iload (pc := 56) dX4_drive_56 rfl ?_
    refine st_aload_n (pc := 58) dX4_drive_58 rfl rfl ?_
    refine sg_gfR (pc := 59) (J := 0) dX4_drive_59 fl_4_9 rfl hk1 ?_
    refine st_iload (pc := 62) dX4_drive_62 rfl ?_
    obtain ⟨hk3, h⟩ := h
    obtain ⟨h1, h⟩ := h
    refine sg_iaload (pc := 64) dX4_drive_64 hk3 h1 ?_
    refine st_aload_n (pc := 65) dX4_drive_65 rfl rfl ?_
    refine sg_gfR (pc := 66) (J := 0) dX4_drive_66 fl_4_9 rfl hk1 ?_
    refine st_iload (pc := 69) dX4_drive_69 rfl ?_
    refine sg_iconst (pc := 71) dX4_drive_71 (by omega) ?_
    refine st_iadd (pc := 72) dX4_drive_72 ?_
    obtain ⟨h1, h⟩ := h
    refine sg_iaload (pc := 73) dX4_drive_73 hk3 h1 ?_
    refine st_isub (pc := 74) dX4_drive_74 ?_
    refine st_imul (pc := 75) dX4_drive_75 ?_
    refine sg_bipush (pc := 76) dX4_drive_76 (by omega) (by decide) ?_
    refine st_idiv (pc := 78) dX4_drive_78 (by omega) ?_
    refine st_iadd (pc := 79) dX4_drive_79 ?_
    refine st_iload_n (pc := 80) dX4_drive_80 rfl rfl ?_
    refine st_iadd (pc := 81) dX4_drive_81 ?_
    refine sg_istore (pc := 82) (ls' := [some (vr a0), some (vr a1), some (vi a2), some (vi a3), some (vi a4), some (vi a5), some (vi a6), some (vi (w32 ((w32 ((mD μ (mR μ a0 1) a6) + (w32 ((w32 (a4 * (w32 ((mD μ (mR μ a0 0) a6) - (mD μ (mR μ a0 0) (w32 (a6 + 1))))))).tdiv 16)))) + a2)))]) dX4_drive_82 (by show (7 : Nat) < 8; decide) rfl ?_
    refine Wp.nameL (ls2 := fun v => [some (vr a0), some (vr a1), some (vi a2), some (vi a3), some (vi a4), some (vi a5), some (vi a6), some (vi v)]) 7 _ rfl (fun _ => rfl) (fun v1 ev1 => ?_)
    replace h := h v1 ev1
    refine st_iload (pc := 84) dX4_drive_84 rfl ?_
    refine st_iload (pc := 86) dX4_drive_86 rfl ?_
    refine st_iload (pc := 88) dX4_drive_88 rfl ?_
    refine st_imul (pc := 90) dX4_drive_90 ?_
    refine sg_bipush (pc := 91) dX4_drive_91 (by omega) (by decide) ?_
    refine st_idiv (pc := 93) dX4_drive_93 (by omega) ?_
    refine st_isub (pc := 94) dX4_drive_94 ?_
    refine sg_istore (pc := 95) (ls' := [some (vr a0), some (vr a1), some (vi a2), some (vi a3), some (vi a4), some (vi a5), some (vi a6), some (vi (w32 (v1 - (w32 ((w32 (v1 * a5)).tdiv 100)))))]) dX4_drive_95 (by show (7 : Nat) < 8; decide) rfl ?_
    refine Wp.nameL (ls2 := fun v => [some (vr a0), some (vr a1), some (vi a2), some (vi a3), some (vi a4), some (vi a5), some (vi a6), some (vi v)]) 7 _ rfl (fun _ => rfl) (fun v2 ev2 => ?_)
    replace h := h v2 ev2
    refine st_aload_n (pc := 97) dX4_drive_97 rfl rfl ?_
    refine sg_gfR (pc := 98) (J := 1) dX4_drive_98 fl_4_15 rfl hk1 ?_
    refine st_iload (pc := 101) dX4_drive_101 rfl ?_
    refine st_iload (pc := 103) dX4_drive_103 rfl ?_
    refine st_aload_n (pc := 105) dX4_drive_105 rfl rfl ?_
    obtain ⟨hk4, h⟩ := h
    refine sg_gfR (pc := 106) (J := 4) dX4_drive_106 fl_4_72 rfl hk4 ?_
    refine st_iload (pc := 109) dX4_drive_109 rfl ?_
    obtain ⟨hk5, h⟩ := h
    obtain ⟨h1, h⟩ := h
    refine sg_iaload (pc := 111) dX4_drive_111 hk5 h1 ?_
    refine st_imul (pc := 112) dX4_drive_112 ?_
    refine sg_bipush (pc := 113) dX4_drive_113 (by omega) (by decide) ?_
    refine st_idiv (pc := 115) dX4_drive_115 (by omega) ?_
    refine sg_sipush (pc := 116) dX4_drive_116 (by omega) (by decide) ?_
    refine sg_sipush (pc := 119) dX4_drive_119 (by omega) (by decide) ?_
    obtain ⟨mc1, ms1, K1, hC, e1, e2, h⟩ := h
    refine sg_SNI (pc := 122) (av := [vi (w32 ((w32 (v2 * (mD μ (mR μ a1 4) a6))).tdiv 100)), vi (-8000), vi 8000]) (st := [vi a6, vr (mR μ a0 1)]) (K := K1) dX4_drive_122 ck_4_50 rfl (by show (2 : Nat) ≤ 8; decide) hC e1 e2 (fun x1 m1 hK => ?_) rfl
    replace h := h x1 m1 hK
    obtain ⟨hk6, h⟩ := h
    obtain ⟨h1, h⟩ := h
    refine st_iastore (pc := 125) dX4_drive_125 hk6 h1.1 h1.2 ?_
    refine Wp.nameM (fun m2 em2 => ?_)
    replace h := h m2 em2
    refine sg_iinc (pc := 126) (ls' := [some (vr a0), some (vr a1), some (vi a2), some (vi a3), some (vi a4), some (vi a5), some (vi (w32 (a6 + 1))), some (vi v2)]) dX4_drive_126 rfl rfl ?_
    refine Wp.nameL (ls2 := fun v => [some (vr a0), some (vr a1), some (vi a2), some (vi a3), some (vi a4), some (vi a5), some (vi v), some (vi v2)]) 6 _ rfl (fun _ => rfl) (fun v3 ev3 => ?_)
    replace h := h v3 ev3
    refine st_goto (pc := 129) dX4_drive_129 rfl ?_
    refine Wp.drop 7 rfl ?_
    exact h

theorem sg_X4_move_0 {d bc bs : Nat} {a0 : Nat} {a1 : Int} {μ : Mem} {Q : Option (Option AV) → Mem → Prop}
    (h : mK μ a0 = 5 ∧ ((mK μ (mR μ a0 1) = 20 ∨ ((mR μ a0 1) ≠ 0 ∧ mK μ (mR μ a0 1) = 40)) ∧ ((0 : Int) ≤ a1 ∧ a1 < (mN μ (mR μ a0 1) : Int)) ∧ (∀ v1, v1 = w32 ((mD μ (mR μ a0 1) a1).tdiv 8) → (mK μ (mR μ a0 0) = 20 ∨ ((mR μ a0 0) ≠ 0 ∧ mK μ (mR μ a0 0) = 40)) ∧ ((0 : Int) ≤ (w32 (a1 + 1)) ∧ (w32 (a1 + 1)) < (mN μ (mR μ a0 0) : Int)) ∧ (((0 : Int) ≤ a1 ∧ a1 < (mN μ (mR μ a0 0) : Int)) ∧ (∃ (mc1 ms1 : Nat) (K1 : Int → Mem → Prop), Cl d mc1 ms1 mX9_between [vi v1, vi (w32 (-(mD μ (mR μ a0 0) (w32 (a1 + 1))))), vi (mD μ (mR μ a0 0) a1)] μ (KI K1) ∧ mc1 ≤ bc ∧ ms1 ≤ bs ∧ (∀ x1 m1, K1 x1 m1 → (x1 = v1 → Wp (d + 1) (bc - mc1) (bs - ms1) mX4_move 45 [some (vr a0), some (vi a1), some (vi v1), some (vi x1)] [] m1 Q) ∧ (¬ x1 = v1 → mK m1 a0 = 5 ∧ (mK m1 (mR m1 a0 1) = 20 ∧ ((0 : Int) ≤ a1 ∧ a1 < (mN m1 (mR m1 a0 1) : Int)) ∧ (∀ m2, m2 = sD m1 (mR m1 a0 1) a1 (w32 (8 * x1)) → Wp (d + 1) (bc - mc1) (bs - ms1) mX4_move 45 [some (vr a0), some (vi a1), some (vi v1), some (vi x1)] [] m2 Q))))))))) :
    Wp (d + 1) bc bs mX4_move 0 [some (vr a0), some (vi a1), none, none] [] μ Q := by
  refine st_aload_n (pc := 0) dX4_move_0 rfl rfl ?_
  obtain ⟨hk1, h⟩ := h
  refine sg_gfR (pc := 1) (J := 1) dX4_move_1 fl_4_15 rfl hk1 ?_
  refine st_iload_n (pc := 4) dX4_move_4 rfl rfl ?_
  obtain ⟨hk2, h⟩ := h
  obtain ⟨h1, h⟩ := h
  refine sg_iaload (pc := 5) dX4_move_5 hk2 h1 ?_
  refine sg_bipush (pc := 6) dX4_move_6 (by omega) (by decide) ?_
  refine st_idiv (pc := 8) dX4_move_8 (by omega) ?_
  refine sg_istore_n (pc := 9) (ls' := [some (vr a0), some (vi a1), some (vi (w32 ((mD μ (mR μ a0 1) a1).tdiv 8))), none]) dX4_move_9 rfl (by show (2 : Nat) < 4; decide) rfl ?_
  refine Wp.nameL (ls2 := fun v => [some (vr a0), some (vi a1), some (vi v), none]) 2 _ rfl (fun _ => rfl) (fun v1 ev1 => ?_)
  replace h := h v1 ev1
  refine st_iload_n (pc := 10) dX4_move_10 rfl rfl ?_
  refine st_aload_n (pc := 11) dX4_move_11 rfl rfl ?_
  refine sg_gfR (pc := 12) (J := 0) dX4_move_12 fl_4_9 rfl hk1 ?_
  refine st_iload_n (pc := 15) dX4_move_15 rfl rfl ?_
  refine sg_iconst (pc := 16) dX4_move_16 (by omega) ?_
  refine st_iadd (pc := 17) dX4_move_17 ?_
  obtain ⟨hk3, h⟩ := h
  obtain ⟨h1, h⟩ := h
  refine sg_iaload (pc := 18) dX4_move_18 hk3 h1 ?_
  refine st_ineg (pc := 19) dX4_move_19 ?_
  refine st_aload_n (pc := 20) dX4_move_20 rfl rfl ?_
  refine sg_gfR (pc := 21) (J := 0) dX4_move_21 fl_4_9 rfl hk1 ?_
  refine st_iload_n (pc := 24) dX4_move_24 rfl rfl ?_
  obtain ⟨h1, h⟩ := h
  refine sg_iaload (pc := 25) dX4_move_25 hk3 h1 ?_
  obtain ⟨mc1, ms1, K1, hC, e1, e2, h⟩ := h
  refine sg_SNI (pc := 26) (av := [vi v1, vi (w32 (-(mD μ (mR μ a0 0) (w32 (a1 + 1))))), vi (mD μ (mR μ a0 0) a1)]) (st := []) (K := K1) dX4_move_26 ck_4_50 rfl (by show (0 : Nat) ≤ 8; decide) hC e1 e2 (fun x1 m1 hK => ?_) rfl
  replace h := h x1 m1 hK
  refine sg_istore_n (pc := 29) (ls' := [some (vr a0), some (vi a1), some (vi v1), some (vi x1)]) dX4_move_29 rfl (by show (3 : Nat) < 4; decide) rfl ?_
  refine st_iload_n (pc := 30) dX4_move_30 rfl rfl ?_
  refine st_iload_n (pc := 31) dX4_move_31 rfl rfl ?_
  refine st_icmpeq (pc := 32) (tgt := 45) dX4_move_32 rfl (fun c => ?_) (fun c => ?_)
  · replace h := h.1 c
    exact h
  · replace h := h.2 c
    refine st_aload_n (pc := 35) dX4_move_35 rfl rfl ?_
    obtain ⟨hk4, h⟩ := h
    refine sg_gfR (pc := 36) (J := 1) dX4_move_36 fl_4_15 rfl hk4 ?_
    refine st_iload_n (pc := 39) dX4_move_39 rfl rfl ?_
    refine sg_bipush (pc := 40) dX4_move_40 (by omega) (by decide) ?_
    refine st_iload_n (pc := 42) dX4_move_42 rfl rfl ?_
    refine st_imul (pc := 43) dX4_move_43 ?_
    obtain ⟨hk5, h⟩ := h
    obtain ⟨h1, h⟩ := h
    refine st_iastore (pc := 44) dX4_move_44 hk5 h1.1 h1.2 ?_
    refine Wp.nameM (fun m2 em2 => ?_)
    replace h := h m2 em2
    exact h

theorem sg_X4_move_45 {d bc bs : Nat} {a0 : Nat} {a1 : Int} {a2 : Int} {a3 : Int} {μ : Mem} {Q : Option (Option AV) → Mem → Prop}
    (h : mK μ a0 = 5 ∧ ((mK μ (mR μ a0 0) = 20 ∨ ((mR μ a0 0) ≠ 0 ∧ mK μ (mR μ a0 0) = 40)) ∧ ((0 : Int) ≤ a1 ∧ a1 < (mN μ (mR μ a0 0) : Int)) ∧ (mK μ (mR μ a0 0) = 20 ∧ ((0 : Int) ≤ a1 ∧ a1 < (mN μ (mR μ a0 0) : Int)) ∧ (∀ m1, m1 = sD μ (mR μ a0 0) a1 (w32 ((mD μ (mR μ a0 0) a1) - a3)) → ((0 : Int) ≤ (w32 (a1 + 1)) ∧ (w32 (a1 + 1)) < (mN m1 (mR m1 a0 0) : Int)) ∧ (((0 : Int) ≤ (w32 (a1 + 1)) ∧ (w32 (a1 + 1)) < (mN m1 (mR m1 a0 0) : Int)) ∧ (∀ m2, m2 = sD m1 (mR m1 a0 0) (w32 (a1 + 1)) (w32 ((mD m1 (mR m1 a0 0) (w32 (a1 + 1))) + a3)) → Q (some none) m2)))))) :
    Wp (d + 1) bc bs mX4_move 45 [some (vr a0), some (vi a1), some (vi a2), some (vi a3)] [] μ Q := by
  refine st_aload_n (pc := 45) dX4_move_45 rfl rfl ?_
  obtain ⟨hk1, h⟩ := h
  refine sg_gfR (pc := 46) (J := 0) dX4_move_46 fl_4_9 rfl hk1 ?_
  refine st_iload_n (pc := 49) dX4_move_49 rfl rfl ?_
  refine st_dup2 (pc := 50) dX4_move_50 rfl rfl ?_
  obtain ⟨hk2, h⟩ := h
  obtain ⟨h1, h⟩ := h
  refine sg_iaload (pc := 51) dX4_move_51 hk2 h1 ?_
  refine st_iload_n (pc := 52) dX4_move_52 rfl rfl ?_
  refine st_isub (pc := 53) dX4_move_53 ?_
  obtain ⟨hk3, h⟩ := h
  obtain ⟨h1, h⟩ := h
  refine st_iastore (pc := 54) dX4_move_54 hk3 h1.1 h1.2 ?_
  refine Wp.nameM (fun m1 em1 => ?_)
  replace h := h m1 em1
  refine st_aload_n (pc := 55) dX4_move_55 rfl rfl ?_
  refine sg_gfR (pc := 56) (J := 0) dX4_move_56 fl_4_9 rfl (by cases em1; exact hk1) ?_
  refine st_iload_n (pc := 59) dX4_move_59 rfl rfl ?_
  refine sg_iconst (pc := 60) dX4_move_60 (by omega) ?_
  refine st_iadd (pc := 61) dX4_move_61 ?_
  refine st_dup2 (pc := 62) dX4_move_62 rfl rfl ?_
  obtain ⟨h1, h⟩ := h
  refine sg_iaload (pc := 63) dX4_move_63 (by cases em1; exact hk2) h1 ?_
  refine st_iload_n (pc := 64) dX4_move_64 rfl rfl ?_
  refine st_iadd (pc := 65) dX4_move_65 ?_
  obtain ⟨h1, h⟩ := h
  refine st_iastore (pc := 66) dX4_move_66 (by cases em1; exact hk3) h1.1 h1.2 ?_
  refine Wp.nameM (fun m2 em2 => ?_)
  replace h := h m2 em2
  exact st_return (pc := 67) dX4_move_67 rfl h

theorem sg_X4_runOver_0 {d bc bs : Nat} {a0 : Nat} {a1 : Nat} {a2 : Int} {μ : Mem} {Q : Option (Option AV) → Mem → Prop}
    (h : mK μ a0 = 5 ∧ ((mK μ (mR μ a0 0) = 20 ∨ ((mR μ a0 0) ≠ 0 ∧ mK μ (mR μ a0 0) = 40)) ∧ ((0 : Int) ≤ a2 ∧ a2 < (mN μ (mR μ a0 0) : Int)) ∧ (mK μ a1 = 1 ∧ (∀ v1, v1 = w32 ((mD μ (mR μ a0 0) a2) - (mD μ a1 1)) → (0 < v1 → (mK μ (mR μ a1 3) = 20 ∨ ((mR μ a1 3) ≠ 0 ∧ mK μ (mR μ a1 3) = 40)) ∧ ((0 : Int) ≤ 4 ∧ 4 < (mN μ (mR μ a1 3) : Int)) ∧ (∀ v2, v2 = w32 (v1 - (w32 ((w32 (v1 * (mD μ (mR μ a1 3) 4))).tdiv 100))) → ((0 : Int) ≤ a2 ∧ a2 < (mN μ (mR μ a0 0) : Int)) ∧ (mK μ (mR μ a0 0) = 20 ∧ ((0 : Int) ≤ a2 ∧ a2 < (mN μ (mR μ a0 0) : Int)) ∧ (∀ m1, m1 = sD μ (mR μ a0 0) a2 (w32 ((mD μ (mR μ a0 0) a2) - v2)) → Q (some (some (vi v2))) m1)))) ∧ (¬ 0 < v1 → Q (some (some (vi 0))) μ))))) :
    Wp d bc bs mX4_runOver 0 [some (vr a0), some (vr a1), some (vi a2), none, none] [] μ Q := by
  refine st_aload_n (pc := 0) dX4_runOver_0 rfl rfl ?_
  obtain ⟨hk1, h⟩ := h
  refine sg_gfR (pc := 1) (J := 0) dX4_runOver_1 fl_4_9 rfl hk1 ?_
  refine st_iload_n (pc := 4) dX4_runOver_4 rfl rfl ?_
  obtain ⟨hk2, h⟩ := h
  obtain ⟨h1, h⟩ := h
  refine sg_iaload (pc := 5) dX4_runOver_5 hk2 h1 ?_
  refine st_aload_n (pc := 6) dX4_runOver_6 rfl rfl ?_
  obtain ⟨hk3, h⟩ := h
  refine sg_gfI (pc := 7) (J := 1) dX4_runOver_7 fl_4_47 (by decide) rfl hk3 ?_
  refine st_isub (pc := 10) dX4_runOver_10 ?_
  refine sg_istore_n (pc := 11) (ls' := [some (vr a0), some (vr a1), some (vi a2), some (vi (w32 ((mD μ (mR μ a0 0) a2) - (mD μ a1 1)))), none]) dX4_runOver_11 rfl (by show (3 : Nat) < 5; decide) rfl ?_
  refine Wp.nameL (ls2 := fun v => [some (vr a0), some (vr a1), some (vi a2), some (vi v), none]) 3 _ rfl (fun _ => rfl) (fun v1 ev1 => ?_)
  replace h := h v1 ev1
  refine st_iload_n (pc := 12) dX4_runOver_12 rfl rfl ?_
  refine st_ifgt (pc := 13) (tgt := 18) dX4_runOver_13 rfl (fun c => ?_) (fun c => ?_)
  · replace h := h.1 c
    refine st_iload_n (pc := 18) dX4_runOver_18 rfl rfl ?_
    refine st_iload_n (pc := 19) dX4_runOver_19 rfl rfl ?_
    refine st_aload_n (pc := 20) dX4_runOver_20 rfl rfl ?_
    refine sg_gfR (pc := 21) (J := 3) dX4_runOver_21 fl_4_66 rfl hk3 ?_
    refine sg_iconst (pc := 24) dX4_runOver_24 (by omega) ?_
    obtain ⟨hk4, h⟩ := h
    obtain ⟨h1, h⟩ := h
    refine sg_iaload (pc := 25) dX4_runOver_25 hk4 h1 ?_
    refine st_imul (pc := 26) dX4_runOver_26 ?_
    refine sg_bipush (pc := 27) dX4_runOver_27 (by omega) (by decide) ?_
    refine st_idiv (pc := 29) dX4_runOver_29 (by omega) ?_
    refine st_isub (pc := 30) dX4_runOver_30 ?_
    refine sg_istore (pc := 31) (ls' := [some (vr a0), some (vr a1), some (vi a2), some (vi v1), some (vi (w32 (v1 - (w32 ((w32 (v1 * (mD μ (mR μ a1 3) 4))).tdiv 100)))))]) dX4_runOver_31 (by show (4 : Nat) < 5; decide) rfl ?_
    refine Wp.nameL (ls2 := fun v => [some (vr a0), some (vr a1), some (vi a2), some (vi v1), some (vi v)]) 4 _ rfl (fun _ => rfl) (fun v2 ev2 => ?_)
    replace h := h v2 ev2
    refine st_aload_n (pc := 33) dX4_runOver_33 rfl rfl ?_
    refine sg_gfR (pc := 34) (J := 0) dX4_runOver_34 fl_4_9 rfl hk1 ?_
    refine st_iload_n (pc := 37) dX4_runOver_37 rfl rfl ?_
    refine st_dup2 (pc := 38) dX4_runOver_38 rfl rfl ?_
    obtain ⟨h1, h⟩ := h
    refine sg_iaload (pc := 39) dX4_runOver_39 hk2 h1 ?_
    refine st_iload (pc := 40) dX4_runOver_40 rfl ?_
    refine st_isub (pc := 42) dX4_runOver_42 ?_
    obtain ⟨hk5, h⟩ := h
    obtain ⟨h1, h⟩ := h
    refine st_iastore (pc := 43) dX4_runOver_43 hk5 h1.1 h1.2 ?_
    refine Wp.nameM (fun m1 em1 => ?_)
    replace h := h m1 em1
    refine st_iload (pc := 44) dX4_runOver_44 rfl ?_
    exact st_ireturn (pc := 46) dX4_runOver_46 (Or.inl rfl) h
  · replace h := h.2 c
    refine sg_iconst (pc := 16) dX4_runOver_16 (by omega) ?_
    exact st_ireturn (pc := 17) dX4_runOver_17 (Or.inl rfl) h

theorem sg_X4_pass_0 {d bc bs : Nat} {a0 : Nat} {a1 : Nat} {a2 : Int} {μ : Mem} {Q : Option (Option AV) → Mem → Prop}
    (h : mK μ a0 = 5 ∧ ∃ (mc1 ms1 : Nat) (K1 : Mem → Prop), Cl d mc1 ms1 mX4_drive [vr a0, vr a1, vi a2] μ (KV K1) ∧ mc1 ≤ bc ∧ ms1 ≤ bs ∧ (∀ m1, K1 m1 → Wp (d + 1) (bc - mc1) (bs - ms1) mX4_pass 8 [some (vr a0), some (vr a1), some (vi a2), some (vi 0)] [] m1 Q)) :
    Wp (d + 1) bc bs mX4_pass 0 [some (vr a0), some (vr a1), some (vi a2), none] [] μ Q := by
  refine st_aload_n (pc := 0) dX4_pass_0 rfl rfl ?_
  refine st_aload_n (pc := 1) dX4_pass_1 rfl rfl ?_
  refine st_iload_n (pc := 2) dX4_pass_2 rfl rfl ?_
  obtain ⟨hk1, h⟩ := h
  obtain ⟨mc1, ms1, K1, hC, e1, e2, h⟩ := h
  refine sg_VV (pc := 3) (av := [vr a1, vi a2]) (st := []) (K := K1) dX4_pass_3 ck_4_54 rfl (by decide) hk1 (by show (0 : Nat) ≤ 8; decide) hC e1 e2 (fun m1 hK => ?_) rfl
  replace h := h m1 hK
  refine sg_iconst (pc := 6) dX4_pass_6 (by omega) ?_
  refine sg_istore_n (pc := 7) (ls' := [some (vr a0), some (vr a1), some (vi a2), some (vi 0)]) dX4_pass_7 rfl (by show (3 : Nat) < 4; decide) rfl ?_
  exact h

theorem sg_X4_pass_8 {d bc bs : Nat} {a0 : Nat} {a1 : Nat} {a2 : Int} {a3 : Int} {μ : Mem} {Q : Option (Option AV) → Mem → Prop}
    (h : mK μ a1 = 1 ∧ (((mD μ a1 0) ≤ a3 → mK μ a0 = 5 ∧ ∃ (mc1 ms1 : Nat) (K1 : Int → Mem → Prop), Cl d mc1 ms1 mX4_runOver [vr a0, vr a1, vi 0] μ (KI K1) ∧ mc1 ≤ bc ∧ ms1 ≤ bs ∧ (∀ x1 m1, K1 x1 m1 → mK m1 a1 = 1 ∧ (mK m1 a0 = 5 ∧ ∃ (mc2 ms2 : Nat) (K2 : Int → Mem → Prop), Cl d mc2 ms2 mX4_runOver [vr a0, vr a1, vi (mD m1 a1 0)] m1 (KI K2) ∧ mc2 ≤ bc - mc1 ∧ ms2 ≤ bs - ms1 ∧ (∀ x2 m2, K2 x2 m2 → ∀ v1, v1 = w32 (x1 + x2) → mK m2 a0 = 5 ∧ ((∀ m3, m3 = sD m2 a0 2 (w32 ((mD m2 a0 2) + v1)) → Q (some (some (vi v1))) m3)))))) ∧ (¬ (mD μ a1 0) ≤ a3 → mK μ a0 = 5 ∧ ∃ (mc3 ms3 : Nat) (K3 : Mem → Prop), Cl d mc3 ms3 mX4_move [vr a0, vi a3] μ (KV K3) ∧ mc3 ≤ bc ∧ ms3 ≤ bs ∧ (∀ m4, K3 m4 → ∀ v2, v2 = w32 (a3 + 1) → Wp (d + 1) (bc - mc3) (bs - ms3) mX4_pass 8 [some (vr a0), some (vr a1), some (vi a2), some (vi v2)] [] m4 Q)))) :
    Wp (d + 1) bc bs mX4_pass 8 [some (vr a0), some (vr a1), some (vi a2), some (vi a3)] [] μ Q := by
  refine st_iload_n (pc := 8) dX4_pass_8 rfl rfl ?_
  refine st_aload_n (pc := 9) dX4_pass_9 rfl rfl ?_
  obtain ⟨hk1, h⟩ := h
  refine sg_gfI (pc := 10) (J := 0) dX4_pass_10 fl_4_38 (by decide) rfl hk1 ?_
  refine st_icmpge (pc := 13) (tgt := 27) dX4_pass_13 rfl (fun c => ?_) (fun c => ?_)
  · replace h := h.1 c
    refine st_aload_n (pc := 27) dX4_pass_27 rfl rfl ?_
    refine st_aload_n (pc := 28) dX4_pass_28 rfl rfl ?_
    refine sg_iconst (pc := 29) dX4_pass_29 (by omega) ?_
    obtain ⟨hk2, h⟩ := h
    obtain ⟨mc1, ms1, K1, hC, e1, e2, h⟩ := h
    refine sg_VI (pc := 30) (av := [vr a1, vi 0]) (st := []) (K := K1) dX4_pass_30 ck_4_62 rfl (by decide) hk2 (by show (0 : Nat) ≤ 8; decide) hC e1 e2 (fun x1 m1 hK => ?_) rfl
    replace h := h x1 m1 hK
    refine st_aload_n (pc := 33) dX4_pass_33 rfl rfl ?_
    refine st_aload_n (pc := 34) dX4_pass_34 rfl rfl ?_
    refine st_aload_n (pc := 35) dX4_pass_35 rfl rfl ?_
    obtain ⟨hk3, h⟩ := h
    refine sg_gfI (pc := 36) (J := 0) dX4_pass_36 fl_4_38 (by decide) rfl hk3 ?_
    obtain ⟨hk4, h⟩ := h
    obtain ⟨mc2, ms2, K2, hC, e1, e2, h⟩ := h
    refine sg_VI (pc := 39) (av := [vr a1, vi (mD m1 a1 0)]) (st := [vi x1]) (K := K2) dX4_pass_39 ck_4_62 rfl (by decide) hk4 (by show (1 : Nat) ≤ 8; decide) hC e1 e2 (fun x2 m2 hK => ?_) rfl
    replace h := h x2 m2 hK
    refine st_iadd (pc := 42) dX4_pass_42 ?_
    refine sg_istore_n (pc := 43) (ls' := [some (vr a0), some (vr a1), some (vi a2), some (vi (w32 (x1 + x2)))]) dX4_pass_43 rfl (by show (3 : Nat) < 4; decide) rfl ?_
    refine Wp.nameL (ls2 := fun v => [some (vr a0), some (vr a1), some (vi a2), some (vi v)]) 3 _ rfl (fun _ => rfl) (fun v1 ev1 => ?_)
    replace h := h v1 ev1
    refine st_aload_n (pc := 44) dX4_pass_44 rfl rfl ?_
    refine st_dup (pc := 45) dX4_pass_45 rfl ?_
    obtain ⟨hk5, h⟩ := h
    refine sg_gfI (pc := 46) (J := 2) dX4_pass_46 fl_4_18 (by decide) rfl hk5 ?_
    refine st_iload_n (pc := 49) dX4_pass_49 rfl rfl ?_
    refine st_iadd (pc := 50) dX4_pass_50 ?_
    refine sg_pfI (pc := 51) (J := 2) dX4_pass_51 fl_4_18 rfl (Or.inl rfl) hk5 ?_
    refine Wp.nameM (fun m3 em3 => ?_)
    replace h := h m3 em3
    refine st_iload_n (pc := 54) dX4_pass_54 rfl rfl ?_
    exact st_ireturn (pc := 55) dX4_pass_55 (Or.inl rfl) h
  · replace h := h.2 c
    refine st_aload_n (pc := 16) dX4_pass_16 rfl rfl ?_
    refine st_iload_n (pc := 17) dX4_pass_17 rfl rfl ?_
    obtain ⟨hk6, h⟩ := h
    obtain ⟨mc3, ms3, K3, hC, e1, e2, h⟩ := h
    refine sg_VV (pc := 18) (av := [vi a3]) (st := []) (K := K3) dX4_pass_18 ck_4_58 rfl (by decide) hk6 (by show (0 : Nat) ≤ 8; decide) hC e1 e2 (fun m4 hK => ?_) rfl
    replace h := h m4 hK
    refine sg_iinc (pc := 21) (ls' := [some (vr a0), some (vr a1), some (vi a2), some (vi (w32 (a3 + 1)))]) dX4_pass_21 rfl rfl ?_
    refine Wp.nameL (ls2 := fun v => [some (vr a0), some (vr a1), some (vi a2), some (vi v)]) 3 _ rfl (fun _ => rfl) (fun v2 ev2 => ?_)
    replace h := h v2 ev2
    refine st_goto (pc := 24) dX4_pass_24 rfl ?_
    exact h

theorem sg_X5_pass_0 {d bc bs : Nat} {a0 : Nat} {a1 : Nat} {a2 : Int} {a3 : Int} {μ : Mem} {Q : Option (Option AV) → Mem → Prop}
    (h : mK μ a0 = 6 ∧ (((20 ≤ mK μ (mR μ a0 4) ∧ mK μ (mR μ a0 4) ≤ 28) ∨ ((mR μ a0 4) ≠ 0 ∧ mK μ (mR μ a0 4) = 40)) ∧ (∃ (mc1 ms1 : Nat) (K1 : Int → Mem → Prop), Cl d mc1 ms1 mJ9_floorMod_7cf53 [vi (mD μ a0 0), vi (mN μ (mR μ a0 4) : Int)] μ (KI K1) ∧ mc1 ≤ bc ∧ ms1 ≤ bs ∧ (∀ x1 m1, K1 x1 m1 → mK m1 a0 = 6 ∧ (mK m1 (mR m1 a0 2) = 5 ∧ ∃ (mc2 ms2 : Nat) (K2 : Int → Mem → Prop), Cl d mc2 ms2 mX4_slope [vr (mR m1 a0 2), vr a1] m1 (KI K2) ∧ mc2 ≤ bc - mc1 ∧ ms2 ≤ bs - ms1 ∧ (∀ x2 m2, K2 x2 m2 → mK m2 (mR μ a0 4) = 20 ∧ ((0 : Int) ≤ x1 ∧ x1 < (mN m2 (mR μ a0 4) : Int)) ∧ (∀ m3, m3 = sD m2 (mR μ a0 4) x1 x2 → mK m3 a0 = 6 ∧ (mK m3 (mR m3 a0 2) = 5 ∧ ∃ (mc3 ms3 : Nat) (K3 : Int → Mem → Prop), Cl d mc3 ms3 mX4_pass [vr (mR m3 a0 2), vr a1, vi a2] m3 (KI K3) ∧ mc3 ≤ bc - mc1 - mc2 ∧ ms3 ≤ bs - ms1 - ms2 ∧ (∀ x3 m4, K3 x3 m4 → mK m4 a0 = 6 ∧ (mK m4 (mR m4 a0 3) = 5 ∧ ∃ (mc4 ms4 : Nat) (K4 : Int → Mem → Prop), Cl d mc4 ms4 mX4_pass [vr (mR m4 a0 3), vr a1, vi a3] m4 (KI K4) ∧ mc4 ≤ bc - mc1 - mc2 - mc3 ∧ ms4 ≤ bs - ms1 - ms2 - ms3 ∧ (∀ x4 m5, K4 x4 m5 → ∀ v1, v1 = w32 (x3 + x4) → mK m5 a0 = 6 ∧ ((∀ m6, m6 = sD m5 a0 0 (w32 ((mD m5 a0 0) + 1)) → Q (some (some (vi v1))) m6))))))))))))) :
    Wp (d + 1) bc bs mX5_pass 0 [some (vr a0), some (vr a1), some (vi a2), some (vi a3), none] [] μ Q := by
  refine st_aload_n (pc := 0) dX5_pass_0 rfl rfl ?_
  obtain ⟨hk1, h⟩ := h
  refine sg_gfR (pc := 1) (J := 4) dX5_pass_1 fl_5_28 rfl hk1 ?_
  refine st_aload_n (pc := 4) dX5_pass_4 rfl rfl ?_
  refine sg_gfI (pc := 5) (J := 0) dX5_pass_5 fl_5_9 (by decide) rfl hk1 ?_
  refine st_aload_n (pc := 8) dX5_pass_8 rfl rfl ?_
  refine sg_gfR (pc := 9) (J := 4) dX5_pass_9 fl_5_28 rfl hk1 ?_
  obtain ⟨hk2, h⟩ := h
  refine sg_alen (pc := 12) dX5_pass_12 hk2 ?_
  obtain ⟨mc1, ms1, K1, hC, e1, e2, h⟩ := h
  refine sg_SI (pc := 13) (av := [vi (mD μ a0 0), vi (mN μ (mR μ a0 4) : Int)]) (st := [vr (mR μ a0 4)]) (K := K1) dX5_pass_13 ck_5_46 rfl (by show (1 : Nat) ≤ 8; decide) hC e1 e2 (fun x1 m1 hK => ?_) rfl
  replace h := h x1 m1 hK
  refine st_aload_n (pc := 16) dX5_pass_16 rfl rfl ?_
  obtain ⟨hk3, h⟩ := h
  refine sg_gfR (pc := 17) (J := 2) dX5_pass_17 fl_5_21 rfl hk3 ?_
  refine st_aload_n (pc := 20) dX5_pass_20 rfl rfl ?_
  obtain ⟨hk4, h⟩ := h
  obtain ⟨mc2, ms2, K2, hC, e1, e2, h⟩ := h
  refine sg_VI (pc := 21) (av := [vr a1]) (st := [vi x1, vr (mR μ a0 4)]) (K := K2) dX5_pass_21 ck_5_52 rfl (by decide) hk4 (by show (2 : Nat) ≤ 8; decide) hC e1 e2 (fun x2 m2 hK => ?_) rfl
  replace h := h x2 m2 hK
  obtain ⟨hk5, h⟩ := h
  obtain ⟨h1, h⟩ := h
  refine st_iastore (pc := 24) dX5_pass_24 hk5 h1.1 h1.2 ?_
  refine Wp.nameM (fun m3 em3 => ?_)
  replace h := h m3 em3
  refine st_aload_n (pc := 25) dX5_pass_25 rfl rfl ?_
  obtain ⟨hk6, h⟩ := h
  refine sg_gfR (pc := 26) (J := 2) dX5_pass_26 fl_5_21 rfl hk6 ?_
  refine st_aload_n (pc := 29) dX5_pass_29 rfl rfl ?_
  refine st_iload_n (pc := 30) dX5_pass_30 rfl rfl ?_
  obtain ⟨hk7, h⟩ := h
  obtain ⟨mc3, ms3, K3, hC, e1, e2, h⟩ := h
  refine sg_VI (pc := 31) (av := [vr a1, vi a2]) (st := []) (K := K3) dX5_pass_31 ck_5_56 rfl (by decide) hk7 (by show (0 : Nat) ≤ 8; decide) hC e1 e2 (fun x3 m4 hK => ?_) rfl
  replace h := h x3 m4 hK
  refine st_aload_n (pc := 34) dX5_pass_34 rfl rfl ?_
  obtain ⟨hk8, h⟩ := h
  refine sg_gfR (pc := 35) (J := 3) dX5_pass_35 fl_5_25 rfl hk8 ?_
  refine st_aload_n (pc := 38) dX5_pass_38 rfl rfl ?_
  refine st_iload_n (pc := 39) dX5_pass_39 rfl rfl ?_
  obtain ⟨hk9, h⟩ := h
  obtain ⟨mc4, ms4, K4, hC, e1, e2, h⟩ := h
  refine sg_VI (pc := 40) (av := [vr a1, vi a3]) (st := [vi x3]) (K := K4) dX5_pass_40 ck_5_56 rfl (by decide) hk9 (by show (1 : Nat) ≤ 8; decide) hC e1 e2 (fun x4 m5 hK => ?_) rfl
  replace h := h x4 m5 hK
  refine st_iadd (pc := 43) dX5_pass_43 ?_
  refine sg_istore (pc := 44) (ls' := [some (vr a0), some (vr a1), some (vi a2), some (vi a3), some (vi (w32 (x3 + x4)))]) dX5_pass_44 (by show (4 : Nat) < 5; decide) rfl ?_
  refine Wp.nameL (ls2 := fun v => [some (vr a0), some (vr a1), some (vi a2), some (vi a3), some (vi v)]) 4 _ rfl (fun _ => rfl) (fun v1 ev1 => ?_)
  replace h := h v1 ev1
  refine st_aload_n (pc := 46) dX5_pass_46 rfl rfl ?_
  refine st_dup (pc := 47) dX5_pass_47 rfl ?_
  obtain ⟨hk10, h⟩ := h
  refine sg_gfI (pc := 48) (J := 0) dX5_pass_48 fl_5_9 (by decide) rfl hk10 ?_
  refine sg_iconst (pc := 51) dX5_pass_51 (by omega) ?_
  refine st_iadd (pc := 52) dX5_pass_52 ?_
  refine sg_pfI (pc := 53) (J := 0) dX5_pass_53 fl_5_9 rfl (Or.inl rfl) hk10 ?_
  refine Wp.nameM (fun m6 em6 => ?_)
  replace h := h m6 em6
  refine st_iload (pc := 56) dX5_pass_56 rfl ?_
  exact st_ireturn (pc := 58) dX5_pass_58 (Or.inl rfl) h

theorem sg_X5_carry_0 {d bc bs : Nat} {a0 : Nat} {a1 : Nat} {a2 : Nat} {a3 : Nat} {a4 : Int} {a5 : Int} {μ : Mem} {Q : Option (Option AV) → Mem → Prop}
    (h : mK μ a3 = 9 ∧ ((mK μ (mR μ a3 0) = 20 ∨ ((mR μ a3 0) ≠ 0 ∧ mK μ (mR μ a3 0) = 40)) ∧ ((0 : Int) ≤ a4 ∧ a4 < (mN μ (mR μ a3 0) : Int)) ∧ ((mK μ (mR μ a3 2) = 20 ∨ ((mR μ a3 2) ≠ 0 ∧ mK μ (mR μ a3 2) = 40)) ∧ ((0 : Int) ≤ a4 ∧ a4 < (mN μ (mR μ a3 2) : Int)) ∧ (mK μ a0 = 6 ∧ ∃ (mc1 ms1 : Nat) (K1 : Int → Mem → Prop), Cl d mc1 ms1 mX5_wander [vr a0, vi (mD μ (mR μ a3 2) a4)] μ (KI K1) ∧ mc1 ≤ bc ∧ ms1 ≤ bs ∧ (∀ x1 m1, K1 x1 m1 → mK m1 a0 = 6 ∧ ∃ (mc2 ms2 : Nat) (K2 : Int → Mem → Prop), Cl d mc2 ms2 mX5_given [vr a0, vr a1, vr a2, vi (w32 ((mD μ (mR μ a3 0) a4) + x1))] m1 (KI K2) ∧ mc2 ≤ bc - mc1 ∧ ms2 ≤ bs - ms1 ∧ (∀ x2 m2, K2 x2 m2 → mK m2 a3 = 9 ∧ ((mK m2 (mR m2 a3 1) = 20 ∨ ((mR m2 a3 1) ≠ 0 ∧ mK m2 (mR m2 a3 1) = 40)) ∧ ((0 : Int) ≤ a4 ∧ a4 < (mN m2 (mR m2 a3 1) : Int)) ∧ (∀ v1, v1 = mD m2 (mR m2 a3 1) a4 → (a5 = 0 → mK m2 a0 = 6 ∧ ∃ (mc3 ms3 : Nat) (K3 : Int → Mem → Prop), Cl d mc3 ms3 mX5_pass [vr a0, vr a1, vi x2, vi v1] m2 (KI K3) ∧ mc3 ≤ bc - mc1 - mc2 ∧ ms3 ≤ bs - ms1 - ms2 ∧ (∀ x3 m3, K3 x3 m3 → Q (some (some (vi x3))) m3)) ∧ (¬ a5 = 0 → mK m2 a0 = 6 ∧ ∃ (mc4 ms4 : Nat) (K4 : Int → Mem → Prop), Cl d mc4 ms4 mX5_pass [vr a0, vr a1, vi v1, vi x2] m2 (KI K4) ∧ mc4 ≤ bc - mc1 - mc2 ∧ ms4 ≤ bs - ms1 - ms2 ∧ (∀ x4 m4, K4 x4 m4 → Q (some (some (vi x4))) m4)))))))))) :
    Wp (d + 1) bc bs mX5_carry 0 [some (vr a0), some (vr a1), some (vr a2), some (vr a3), some (vi a4), some (vi a5), none, none] [] μ Q := by
  refine st_aload_n (pc := 0) dX5_carry_0 rfl rfl ?_
  refine st_aload_n (pc := 1) dX5_carry_1 rfl rfl ?_
  refine st_aload_n (pc := 2) dX5_carry_2 rfl rfl ?_
  refine st_aload_n (pc := 3) dX5_carry_3 rfl rfl ?_
  obtain ⟨hk1, h⟩ := h
  refine sg_gfR (pc := 4) (J := 0) dX5_carry_4 fl_5_60 rfl hk1 ?_
  refine st_iload (pc := 7) dX5_carry_7 rfl ?_
  obtain ⟨hk2, h⟩ := h
  obtain ⟨h1, h⟩ := h
  refine sg_iaload (pc := 9) dX5_carry_9 hk2 h1 ?_
  refine st_aload_n (pc := 10) dX5_carry_10 rfl rfl ?_
  refine st_aload_n (pc := 11) dX5_carry_11 rfl rfl ?_
  refine sg_gfR (pc := 12) (J := 2) dX5_carry_12 fl_5_64 rfl hk1 ?_
  refine st_iload (pc := 15) dX5_carry_15 rfl ?_
  obtain ⟨hk3, h⟩ := h
  obtain ⟨h1, h⟩ := h
  refine sg_iaload (pc := 17) dX5_carry_17 hk3 h1 ?_
  obtain ⟨hk4, h⟩ := h
  obtain ⟨mc1, ms1, K1, hC, e1, e2, h⟩ := h
  refine sg_VI (pc := 18) (av := [vi (mD μ (mR μ a3 2) a4)]) (st := [vi (mD μ (mR μ a3 0) a4), vr a2, vr a1, vr a0]) (K := K1) dX5_carry_18 ck_5_67 rfl (by decide) hk4 (by show (4 : Nat) ≤ 8; decide) hC e1 e2 (fun x1 m1 hK => ?_) rfl
  replace h := h x1 m1 hK
  refine st_iadd (pc := 21) dX5_carry_21 ?_
  obtain ⟨hk5, h⟩ := h
  obtain ⟨mc2, ms2, K2, hC, e1, e2, h⟩ := h
  refine sg_VI (pc := 22) (av := [vr a1, vr a2, vi (w32 ((mD μ (mR μ a3 0) a4) + x1))]) (st := []) (K := K2) dX5_carry_22 ck_5_70 rfl (by decide) hk5 (by show (0 : Nat) ≤ 8; decide) hC e1 e2 (fun x2 m2 hK => ?_) rfl
  replace h := h x2 m2 hK
  refine sg_istore (pc := 25) (ls' := [some (vr a0), some (vr a1), some (vr a2), some (vr a3), some (vi a4), some (vi a5), some (vi x2), none]) dX5_carry_25 (by show (6 : Nat) < 8; decide) rfl ?_
  refine st_aload_n (pc := 27) dX5_carry_27 rfl rfl ?_
  obtain ⟨hk6, h⟩ := h
  refine sg_gfR (pc := 28) (J := 1) dX5_carry_28 fl_5_74 rfl hk6 ?_
  refine st_iload (pc := 31) dX5_carry_31 rfl ?_
  obtain ⟨hk7, h⟩ := h
  obtain ⟨h1, h⟩ := h
  refine sg_iaload (pc := 33) dX5_carry_33 hk7 h1 ?_
  refine sg_istore (pc := 34) (ls' := [some (vr a0), some (vr a1), some (vr a2), some (vr a3), some (vi a4), some (vi a5), some (vi x2), some (vi (mD m2 (mR m2 a3 1) a4))]) dX5_carry_34 (by show (7 : Nat) < 8; decide) rfl ?_
  refine Wp.nameL (ls2 := fun v => [some (vr a0), some (vr a1), some (vr a2), some (vr a3), some (vi a4), some (vi a5), some (vi x2), some (vi v)]) 7 _ rfl (fun _ => rfl) (fun v1 ev1 => ?_)
  replace h := h v1 ev1
  refine st_iload (pc := 36) dX5_carry_36 rfl ?_
  refine st_ifeq (pc := 38) (tgt := 53) dX5_carry_38 rfl (fun c => ?_) (fun c => ?_)
  · replace h := h.1 c
    refine st_aload_n (pc := 53) dX5_carry_53 rfl rfl ?_
    refine st_aload_n (pc := 54) dX5_carry_54 rfl rfl ?_
    refine st_iload (pc := 55) dX5_carry_55 rfl ?_
    refine st_iload (pc := 57) dX5_carry_57 rfl ?_
    obtain ⟨hk8, h⟩ := h
    obtain ⟨mc3, ms3, K3, hC, e1, e2, h⟩ := h
    refine sg_VI (pc := 59) (av := [vr a1, vi x2, vi v1]) (st := []) (K := K3) dX5_carry_59 ck_5_76 rfl (by decide) hk8 (by show (0 : Nat) ≤ 8; decide) hC e1 e2 (fun x3 m3 hK => ?_) rfl
    replace h := h x3 m3 hK
    exact st_ireturn (pc := 62) dX5_carry_62 (Or.inl rfl) h
  · replace h := h.2 c
    refine st_aload_n (pc := 41) dX5_carry_41 rfl rfl ?_
    refine st_aload_n (pc := 42) dX5_carry_42 rfl rfl ?_
    refine st_iload (pc := 43) dX5_carry_43 rfl ?_
    refine st_iload (pc := 45) dX5_carry_45 rfl ?_
    obtain ⟨hk9, h⟩ := h
    obtain ⟨mc4, ms4, K4, hC, e1, e2, h⟩ := h
    refine sg_VI (pc := 47) (av := [vr a1, vi v1, vi x2]) (st := []) (K := K4) dX5_carry_47 ck_5_76 rfl (by decide) hk9 (by show (0 : Nat) ≤ 8; decide) hC e1 e2 (fun x4 m4 hK => ?_) rfl
    replace h := h x4 m4 hK
    refine st_goto (pc := 50) dX5_carry_50 rfl ?_
    exact st_ireturn (pc := 62) dX5_carry_62 (Or.inl rfl) h

theorem sg_X4_lean_0 {d bc bs : Nat} {a0 : Nat} {a1 : Nat} {a2 : Int} {μ : Mem} {Q : Option (Option AV) → Mem → Prop}
    (h : mK μ a1 = 1 ∧ (∃ (mc1 ms1 : Nat) (K1 : Int → Mem → Prop), Cl d mc1 ms1 mJ9_max_7cf53 [vi 1, vi (mD μ a1 0)] μ (KI K1) ∧ mc1 ≤ bc ∧ ms1 ≤ bs ∧ (∀ x1 m1, K1 x1 m1 → Wp (d + 1) (bc - mc1) (bs - ms1) mX4_lean 12 [some (vr a0), some (vr a1), some (vi a2), some (vi x1), some (vi 0)] [] m1 Q))) :
    Wp (d + 1) bc bs mX4_lean 0 [some (vr a0), some (vr a1), some (vi a2), none, none] [] μ Q := by
  refine sg_iconst (pc := 0) dX4_lean_0 (by omega) ?_
  refine st_aload_n (pc := 1) dX4_lean_1 rfl rfl ?_
  obtain ⟨hk1, h⟩ := h
  refine sg_gfI (pc := 2) (J := 0) dX4_lean_2 fl_4_38 (by decide) rfl hk1 ?_
  obtain ⟨mc1, ms1, K1, hC, e1, e2, h⟩ := h
  refine sg_SI (pc := 5) (av := [vi 1, vi (mD μ a1 0)]) (st := []) (K := K1) dX4_lean_5 ck_4_41 rfl (by show (0 : Nat) ≤ 8; decide) hC e1 e2 (fun x1 m1 hK => ?_) rfl
  replace h := h x1 m1 hK
  refine sg_istore_n (pc := 8) (ls' := [some (vr a0), some (vr a1), some (vi a2), some (vi x1), none]) dX4_lean_8 rfl (by show (3 : Nat) < 5; decide) rfl ?_
  refine sg_iconst (pc := 9) dX4_lean_9 (by omega) ?_
  refine sg_istore (pc := 10) (ls' := [some (vr a0), some (vr a1), some (vi a2), some (vi x1), some (vi 0)]) dX4_lean_10 (by show (4 : Nat) < 5; decide) rfl ?_
  exact h

theorem sg_X4_lean_12 {d bc bs : Nat} {a0 : Nat} {a1 : Nat} {a2 : Int} {a3 : Int} {a4 : Int} {μ : Mem} {Q : Option (Option AV) → Mem → Prop}
    (h : (a3 < a4 → mK μ a0 = 5 ∧ (∃ (mc1 ms1 : Nat) (K1 : Mem → Prop), Cl d mc1 ms1 mJ7_fill_53178 [vr (mR μ a0 1), vi 0] μ (KV K1) ∧ mc1 ≤ bc ∧ ms1 ≤ bs ∧ (∀ m1, K1 m1 → Q (some none) m1))) ∧ (¬ a3 < a4 → mK μ a0 = 5 ∧ (mK μ a1 = 1 ∧ (a3 ≠ 0 ∧ (∃ (mc2 ms2 : Nat) (K2 : Int → Mem → Prop), Cl d mc2 ms2 mX9_between [vi (w32 ((mD μ a1 2) + (w32 ((w32 (a2 * (w32 (a3 - (w32 (2 * a4)))))).tdiv a3)))), vi 0, vi (mD μ a1 1)] μ (KI K2) ∧ mc2 ≤ bc ∧ ms2 ≤ bs ∧ (∀ x1 m2, K2 x1 m2 → mK m2 (mR μ a0 0) = 20 ∧ ((0 : Int) ≤ a4 ∧ a4 < (mN m2 (mR μ a0 0) : Int)) ∧ (∀ m3, m3 = sD m2 (mR μ a0 0) a4 x1 → ∀ v1, v1 = w32 (a4 + 1) → Wp (d + 1) (bc - mc2) (bs - ms2) mX4_lean 12 [some (vr a0), some (vr a1), some (vi a2), some (vi a3), some (vi v1)] [] m3 Q))))))) :
    Wp (d + 1) bc bs mX4_lean 12 [some (vr a0), some (vr a1), some (vi a2), some (vi a3), some (vi a4)] [] μ Q := by
  refine st_iload (pc := 12) dX4_lean_12 rfl ?_
  refine st_iload_n (pc := 14) dX4_lean_14 rfl rfl ?_
  refine st_icmpgt (pc := 15) (tgt := 54) dX4_lean_15 rfl (fun c => ?_) (fun c => ?_)
  · replace h := h.1 c
    refine st_aload_n (pc := 54) dX4_lean_54 rfl rfl ?_
    obtain ⟨hk1, h⟩ := h
    refine sg_gfR (pc := 55) (J := 1) dX4_lean_55 fl_4_15 rfl hk1 ?_
    refine sg_iconst (pc := 58) dX4_lean_58 (by omega) ?_
    obtain ⟨mc1, ms1, K1, hC, e1, e2, h⟩ := h
    refine sg_SV (pc := 59) (av := [vr (mR μ a0 1), vi 0]) (st := []) (K := K1) dX4_lean_59 ck_4_27 rfl (by show (0 : Nat) ≤ 8; decide) hC e1 e2 (fun m1 hK => ?_) rfl
    replace h := h m1 hK
    exact st_return (pc := 62) dX4_lean_62 rfl h
  · replace h := h.2 c
    refine st_aload_n (pc := 18) dX4_lean_18 rfl rfl ?_
    obtain ⟨hk2, h⟩ := h
    refine sg_gfR (pc := 19) (J := 0) dX4_lean_19 fl_4_9 rfl hk2 ?_
    refine st_iload (pc := 22) dX4_lean_22 rfl ?_
    refine st_aload_n (pc := 24) dX4_lean_24 rfl rfl ?_
    obtain ⟨hk3, h⟩ := h
    refine sg_gfI (pc := 25) (J := 2) dX4_lean_25 fl_4_22 (by decide) rfl hk3 ?_
    refine st_iload_n (pc := 28) dX4_lean_28 rfl rfl ?_
    refine st_iload_n (pc := 29) dX4_lean_29 rfl rfl ?_
    refine sg_iconst (pc := 30) dX4_lean_30 (by omega) ?_
    refine st_iload (pc := 31) dX4_lean_31 rfl ?_
    refine st_imul (pc := 33) dX4_lean_33 ?_
    refine st_isub (pc := 34) dX4_lean_34 ?_
    refine st_imul (pc := 35) dX4_lean_35 ?_
    refine st_iload_n (pc := 36) dX4_lean_36 rfl rfl ?_
    obtain ⟨h0, h⟩ := h
    refine st_idiv (pc := 37) dX4_lean_37 h0 ?_
    refine st_iadd (pc := 38) dX4_lean_38 ?_
    refine sg_iconst (pc := 39) dX4_lean_39 (by omega) ?_
    refine st_aload_n (pc := 40) dX4_lean_40 rfl rfl ?_
    refine sg_gfI (pc := 41) (J := 1) dX4_lean_41 fl_4_47 (by decide) rfl hk3 ?_
    obtain ⟨mc2, ms2, K2, hC, e1, e2, h⟩ := h
    refine sg_SNI (pc := 44) (av := [vi (w32 ((mD μ a1 2) + (w32 ((w32 (a2 * (w32 (a3 - (w32 (2 * a4)))))).tdiv a3)))), vi 0, vi (mD μ a1 1)]) (st := [vi a4, vr (mR μ a0 0)]) (K := K2) dX4_lean_44 ck_4_50 rfl (by show (2 : Nat) ≤ 8; decide) hC e1 e2 (fun x1 m2 hK => ?_) rfl
    replace h := h x1 m2 hK
    obtain ⟨hk4, h⟩ := h
    obtain ⟨h1, h⟩ := h
    refine st_iastore (pc := 47) dX4_lean_47 hk4 h1.1 h1.2 ?_
    refine Wp.nameM (fun m3 em3 => ?_)
    replace h := h m3 em3
    refine sg_iinc (pc := 48) (ls' := [some (vr a0), some (vr a1), some (vi a2), some (vi a3), some (vi (w32 (a4 + 1)))]) dX4_lean_48 rfl rfl ?_
    refine Wp.nameL (ls2 := fun v => [some (vr a0), some (vr a1), some (vi a2), some (vi a3), some (vi v)]) 4 _ rfl (fun _ => rfl) (fun v1 ev1 => ?_)
    replace h := h v1 ev1
    refine st_goto (pc := 51) dX4_lean_51 rfl ?_
    exact h

theorem sg_X4_higherEnd_0 {d bc bs : Nat} {a0 : Nat} {a1 : Nat} {μ : Mem} {Q : Option (Option AV) → Mem → Prop}
    (h : mK μ a0 = 5 ∧ ((mK μ (mR μ a0 0) = 20 ∨ ((mR μ a0 0) ≠ 0 ∧ mK μ (mR μ a0 0) = 40)) ∧ ((0 : Int) ≤ 0 ∧ 0 < (mN μ (mR μ a0 0) : Int)) ∧ (mK μ a1 = 1 ∧ (((0 : Int) ≤ (mD μ a1 0) ∧ (mD μ a1 0) < (mN μ (mR μ a0 0) : Int)) ∧ (∃ (mc1 ms1 : Nat) (K1 : Int → Mem → Prop), Cl d mc1 ms1 mJ9_max_7cf53 [vi (mD μ (mR μ a0 0) 0), vi (mD μ (mR μ a0 0) (mD μ a1 0))] μ (KI K1) ∧ mc1 ≤ bc ∧ ms1 ≤ bs ∧ (∀ x1 m1, K1 x1 m1 → Q (some (some (vi x1))) m1)))))) :
    Wp (d + 1) bc bs mX4_higherEnd 0 [some (vr a0), some (vr a1)] [] μ Q := by
  refine st_aload_n (pc := 0) dX4_higherEnd_0 rfl rfl ?_
  obtain ⟨hk1, h⟩ := h
  refine sg_gfR (pc := 1) (J := 0) dX4_higherEnd_1 fl_4_9 rfl hk1 ?_
  refine sg_iconst (pc := 4) dX4_higherEnd_4 (by omega) ?_
  obtain ⟨hk2, h⟩ := h
  obtain ⟨h1, h⟩ := h
  refine sg_iaload (pc := 5) dX4_higherEnd_5 hk2 h1 ?_
  refine st_aload_n (pc := 6) dX4_higherEnd_6 rfl rfl ?_
  refine sg_gfR (pc := 7) (J := 0) dX4_higherEnd_7 fl_4_9 rfl hk1 ?_
  refine st_aload_n (pc := 10) dX4_higherEnd_10 rfl rfl ?_
  obtain ⟨hk3, h⟩ := h
  refine sg_gfI (pc := 11) (J := 0) dX4_higherEnd_11 fl_4_38 (by decide) rfl hk3 ?_
  obtain ⟨h1, h⟩ := h
  refine sg_iaload (pc := 14) dX4_higherEnd_14 hk2 h1 ?_
  obtain ⟨mc1, ms1, K1, hC, e1, e2, h⟩ := h
  refine sg_SI (pc := 15) (av := [vi (mD μ (mR μ a0 0) 0), vi (mD μ (mR μ a0 0) (mD μ a1 0))]) (st := []) (K := K1) dX4_higherEnd_15 ck_4_41 rfl (by show (0 : Nat) ≤ 8; decide) hC e1 e2 (fun x1 m1 hK => ?_) rfl
  replace h := h x1 m1 hK
  exact st_ireturn (pc := 18) dX4_higherEnd_18 (Or.inl rfl) h

theorem sg_X4_contents_0 {d bc bs : Nat} {a0 : Nat} {a1 : Nat} {μ : Mem} {Q : Option (Option AV) → Mem → Prop}
    (h : Wp d bc bs mX4_contents 4 [some (vr a0), some (vr a1), some (vi 0), some (vi 0)] [] μ Q) :
    Wp d bc bs mX4_contents 0 [some (vr a0), some (vr a1), none, none] [] μ Q := by
  refine sg_iconst (pc := 0) dX4_contents_0 (by omega) ?_
  refine sg_istore_n (pc := 1) (ls' := [some (vr a0), some (vr a1), some (vi 0), none]) dX4_contents_1 rfl (by show (2 : Nat) < 4; decide) rfl ?_
  refine sg_iconst (pc := 2) dX4_contents_2 (by omega) ?_
  refine sg_istore_n (pc := 3) (ls' := [some (vr a0), some (vr a1), some (vi 0), some (vi 0)]) dX4_contents_3 rfl (by show (3 : Nat) < 4; decide) rfl ?_
  exact h

theorem sg_X4_contents_4 {d bc bs : Nat} {a0 : Nat} {a1 : Nat} {a2 : Int} {a3 : Int} {μ : Mem} {Q : Option (Option AV) → Mem → Prop}
    (h : mK μ a1 = 1 ∧ (((mD μ a1 0) < a3 → Q (some (some (vi a2))) μ) ∧ (¬ (mD μ a1 0) < a3 → mK μ a0 = 5 ∧ ((mK μ (mR μ a0 0) = 20 ∨ ((mR μ a0 0) ≠ 0 ∧ mK μ (mR μ a0 0) = 40)) ∧ ((0 : Int) ≤ a3 ∧ a3 < (mN μ (mR μ a0 0) : Int)) ∧ (∀ v1, v1 = w32 (a2 + (mD μ (mR μ a0 0) a3)) → ∀ v2, v2 = w32 (a3 + 1) → Wp d bc bs mX4_contents 4 [some (vr a0), some (vr a1), some (vi v1), some (vi v2)] [] μ Q))))) :
    Wp d bc bs mX4_contents 4 [some (vr a0), some (vr a1), some (vi a2), some (vi a3)] [] μ Q := by
  refine st_iload_n (pc := 4) dX4_contents_4 rfl rfl ?_
  refine st_aload_n (pc := 5) dX4_contents_5 rfl rfl ?_
  obtain ⟨hk1, h⟩ := h
  refine sg_gfI (pc := 6) (J := 0) dX4_contents_6 fl_4_38 (by decide) rfl hk1 ?_
  refine st_icmpgt (pc := 9) (tgt := 27) dX4_contents_9 rfl (fun c => ?_) (fun c => ?_)
  · replace h := h.1 c
    refine st_iload_n (pc := 27) dX4_contents_27 rfl rfl ?_
    exact st_ireturn (pc := 28) dX4_contents_28 (Or.inl rfl) h
  · replace h := h.2 c
    refine st_iload_n (pc := 12) dX4_contents_12 rfl rfl ?_
    refine st_aload_n (pc := 13) dX4_contents_13 rfl rfl ?_
    obtain ⟨hk2, h⟩ := h
    refine sg_gfR (pc := 14) (J := 0) dX4_contents_14 fl_4_9 rfl hk2 ?_
    refine st_iload_n (pc := 17) dX4_contents_17 rfl rfl ?_
    obtain ⟨hk3, h⟩ := h
    obtain ⟨h1, h⟩ := h
    refine sg_iaload (pc := 18) dX4_contents_18 hk3 h1 ?_
    refine st_iadd (pc := 19) dX4_contents_19 ?_
    refine sg_istore_n (pc := 20) (ls' := [some (vr a0), some (vr a1), some (vi (w32 (a2 + (mD μ (mR μ a0 0) a3)))), some (vi a3)]) dX4_contents_20 rfl (by show (2 : Nat) < 4; decide) rfl ?_
    refine Wp.nameL (ls2 := fun v => [some (vr a0), some (vr a1), some (vi v), some (vi a3)]) 2 _ rfl (fun _ => rfl) (fun v1 ev1 => ?_)
    replace h := h v1 ev1
    refine sg_iinc (pc := 21) (ls' := [some (vr a0), some (vr a1), some (vi v1), some (vi (w32 (a3 + 1)))]) dX4_contents_21 rfl rfl ?_
    refine Wp.nameL (ls2 := fun v => [some (vr a0), some (vr a1), some (vi v1), some (vi v)]) 3 _ rfl (fun _ => rfl) (fun v2 ev2 => ?_)
    replace h := h v2 ev2
    refine st_goto (pc := 24) dX4_contents_24 rfl ?_
    exact h

theorem sg_X4_greatest_0 {d bc bs : Nat} {a0 : Nat} {a1 : Nat} {μ : Mem} {Q : Option (Option AV) → Mem → Prop}
    (h : Wp (d + 1) bc bs mX4_greatest 4 [some (vr a0), some (vr a1), some (vi 0), some (vi 0)] [] μ Q) :
    Wp (d + 1) bc bs mX4_greatest 0 [some (vr a0), some (vr a1), none, none] [] μ Q := by
  refine sg_iconst (pc := 0) dX4_greatest_0 (by omega) ?_
  refine sg_istore_n (pc := 1) (ls' := [some (vr a0), some (vr a1), some (vi 0), none]) dX4_greatest_1 rfl (by show (2 : Nat) < 4; decide) rfl ?_
  refine sg_iconst (pc := 2) dX4_greatest_2 (by omega) ?_
  refine sg_istore_n (pc := 3) (ls' := [some (vr a0), some (vr a1), some (vi 0), some (vi 0)]) dX4_greatest_3 rfl (by show (3 : Nat) < 4; decide) rfl ?_
  exact h

theorem sg_X4_greatest_4 {d bc bs : Nat} {a0 : Nat} {a1 : Nat} {a2 : Int} {a3 : Int} {μ : Mem} {Q : Option (Option AV) → Mem → Prop}
    (h : mK μ a1 = 1 ∧ (((mD μ a1 0) < a3 → Q (some (some (vi a2))) μ) ∧ (¬ (mD μ a1 0) < a3 → mK μ a0 = 5 ∧ ((mK μ (mR μ a0 0) = 20 ∨ ((mR μ a0 0) ≠ 0 ∧ mK μ (mR μ a0 0) = 40)) ∧ ((0 : Int) ≤ a3 ∧ a3 < (mN μ (mR μ a0 0) : Int)) ∧ (∃ (mc1 ms1 : Nat) (K1 : Int → Mem → Prop), Cl d mc1 ms1 mJ9_max_7cf53 [vi a2, vi (mD μ (mR μ a0 0) a3)] μ (KI K1) ∧ mc1 ≤ bc ∧ ms1 ≤ bs ∧ (∀ x1 m1, K1 x1 m1 → ∀ v1, v1 = w32 (a3 + 1) → Wp (d + 1) (bc - mc1) (bs - ms1) mX4_greatest 4 [some (vr a0), some (vr a1), some (vi x1), some (vi v1)] [] m1 Q)))))) :
    Wp (d + 1) bc bs mX4_greatest 4 [some (vr a0), some (vr a1), some (vi a2), some (vi a3)] [] μ Q := by
  refine st_iload_n (pc := 4) dX4_greatest_4 rfl rfl ?_
  refine st_aload_n (pc := 5) dX4_greatest_5 rfl rfl ?_
  obtain ⟨hk1, h⟩ := h
  refine sg_gfI (pc := 6) (J := 0) dX4_greatest_6 fl_4_38 (by decide) rfl hk1 ?_
  refine st_icmpgt (pc := 9) (tgt := 29) dX4_greatest_9 rfl (fun c => ?_) (fun c => ?_)
  · replace h := h.1 c
    refine st_iload_n (pc := 29) dX4_greatest_29 rfl rfl ?_
    exact st_ireturn (pc := 30) dX4_greatest_30 (Or.inl rfl) h
  · replace h := h.2 c
    refine st_iload_n (pc := 12) dX4_greatest_12 rfl rfl ?_
    refine st_aload_n (pc := 13) dX4_greatest_13 rfl rfl ?_
    obtain ⟨hk2, h⟩ := h
    refine sg_gfR (pc := 14) (J := 0) dX4_greatest_14 fl_4_9 rfl hk2 ?_
    refine st_iload_n (pc := 17) dX4_greatest_17 rfl rfl ?_
    obtain ⟨hk3, h⟩ := h
    obtain ⟨h1, h⟩ := h
    refine sg_iaload (pc := 18) dX4_greatest_18 hk3 h1 ?_
    obtain ⟨mc1, ms1, K1, hC, e1, e2, h⟩ := h
    refine sg_SI (pc := 19) (av := [vi a2, vi (mD μ (mR μ a0 0) a3)]) (st := []) (K := K1) dX4_greatest_19 ck_4_41 rfl (by show (0 : Nat) ≤ 8; decide) hC e1 e2 (fun x1 m1 hK => ?_) rfl
    replace h := h x1 m1 hK
    refine sg_istore_n (pc := 22) (ls' := [some (vr a0), some (vr a1), some (vi x1), some (vi a3)]) dX4_greatest_22 rfl (by show (2 : Nat) < 4; decide) rfl ?_
    refine sg_iinc (pc := 23) (ls' := [some (vr a0), some (vr a1), some (vi x1), some (vi (w32 (a3 + 1)))]) dX4_greatest_23 rfl rfl ?_
    refine Wp.nameL (ls2 := fun v => [some (vr a0), some (vr a1), some (vi x1), some (vi v)]) 3 _ rfl (fun _ => rfl) (fun v1 ev1 => ?_)
    replace h := h v1 ev1
    refine st_goto (pc := 26) dX4_greatest_26 rfl ?_
    exact h

theorem sg_X4_restlessness_0 {d bc bs : Nat} {a0 : Nat} {a1 : Nat} {μ : Mem} {Q : Option (Option AV) → Mem → Prop}
    (h : Wp d bc bs mX4_restlessness 5 [some (vr a0), some (vr a1), some (vl 0), none, some (vi 0), none, none, none, none] [] μ Q) :
    Wp d bc bs mX4_restlessness 0 [some (vr a0), some (vr a1), none, none, none, none, none, none, none] [] μ Q := by
  refine st_lconst (pc := 0) (x := 0) dX4_restlessness_0 (by decide) (by unfold r64; omega) ?_
  refine sg_lstore_n (pc := 1) (ls' := [some (vr a0), some (vr a1), some (vl 0), none, none, none, none, none, none]) dX4_restlessness_1 rfl (by show (3 : Nat) < 9; decide) rfl ?_
  refine sg_iconst (pc := 2) dX4_restlessness_2 (by omega) ?_
  refine sg_istore (pc := 3) (ls' := [some (vr a0), some (vr a1), some (vl 0), none, some (vi 0), none, none, none, none]) dX4_restlessness_3 (by show (4 : Nat) < 9; decide) rfl ?_
  exact h

theorem sg_X4_restlessness_5 {d bc bs : Nat} {a0 : Nat} {a1 : Nat} {a2 : Int} {a4 : Int} {μ : Mem} {Q : Option (Option AV) → Mem → Prop}
    (h : mK μ a1 = 1 ∧ (((mD μ a1 0) < a4 → Q (some (some (vl a2))) μ) ∧ (¬ (mD μ a1 0) < a4 → mK μ a0 = 5 ∧ ((mK μ (mR μ a0 0) = 20 ∨ ((mR μ a0 0) ≠ 0 ∧ mK μ (mR μ a0 0) = 40)) ∧ ((0 : Int) ≤ a4 ∧ a4 < (mN μ (mR μ a0 0) : Int)) ∧ (((mD μ a1 0) ≤ a4 → ∀ v1, v1 = w32 (a4 + 1) → Wp d bc bs mX4_restlessness 5 [some (vr a0), some (vr a1), some (vl (w64 (a2 + (w64 ((w64 ((w32 ((mD μ (mR μ a0 0) a4) - (mD μ a1 2))) * (w32 ((mD μ (mR μ a0 0) a4) - (mD μ a1 2))))) + (w64 (0 * 0))))))), none, some (vi v1), none, none, none, none] [] μ Q) ∧ (¬ (mD μ a1 0) ≤ a4 → (mK μ (mR μ a0 1) = 20 ∨ ((mR μ a0 1) ≠ 0 ∧ mK μ (mR μ a0 1) = 40)) ∧ ((0 : Int) ≤ a4 ∧ a4 < (mN μ (mR μ a0 1) : Int)) ∧ (∀ v2, v2 = w32 (a4 + 1) → Wp d bc bs mX4_restlessness 5 [some (vr a0), some (vr a1), some (vl (w64 (a2 + (w64 ((w64 ((w32 ((mD μ (mR μ a0 0) a4) - (mD μ a1 2))) * (w32 ((mD μ (mR μ a0 0) a4) - (mD μ a1 2))))) + (w64 ((w32 ((mD μ (mR μ a0 1) a4).tdiv 8)) * (w32 ((mD μ (mR μ a0 1) a4).tdiv 8))))))))), none, some (vi v2), none, none, none, none] [] μ Q))))))) :
    Wp d bc bs mX4_restlessness 5 [some (vr a0), some (vr a1), some (vl a2), none, some (vi a4), none, none, none, none] [] μ Q := by
  refine st_iload (pc := 5) dX4_restlessness_5 rfl ?_
  refine st_aload_n (pc := 7) dX4_restlessness_7 rfl rfl ?_
  obtain ⟨hk1, h⟩ := h
  refine sg_gfI (pc := 8) (J := 0) dX4_restlessness_8 fl_4_38 (by decide) rfl hk1 ?_
  refine st_icmpgt (pc := 11) (tgt := 75) dX4_restlessness_11 rfl (fun c => ?_) (fun c => ?_)
  · replace h := h.1 c
    refine st_lload_n (pc := 75) dX4_restlessness_75 rfl rfl ?_
    exact st_lreturn (pc := 76) dX4_restlessness_76 rfl h
  · replace h := h.2 c
    refine st_aload_n (pc := 14) dX4_restlessness_14 rfl rfl ?_
    obtain ⟨hk2, h⟩ := h
    refine sg_gfR (pc := 15) (J := 0) dX4_restlessness_15 fl_4_9 rfl hk2 ?_
    refine st_iload (pc := 18) dX4_restlessness_18 rfl ?_
    obtain ⟨hk3, h⟩ := h
    obtain ⟨h1, h⟩ := h
    refine sg_iaload (pc := 20) dX4_restlessness_20 hk3 h1 ?_
    refine st_aload_n (pc := 21) dX4_restlessness_21 rfl rfl ?_
    refine sg_gfI (pc := 22) (J := 2) dX4_restlessness_22 fl_4_22 (by decide) rfl hk1 ?_
    refine st_isub (pc := 25) dX4_restlessness_25 ?_
    refine st_i2l (pc := 26) dX4_restlessness_26 ?_
    refine sg_lstore (pc := 27) (ls' := [some (vr a0), some (vr a1), some (vl a2), none, some (vi a4), some (vl (w32 ((mD μ (mR μ a0 0) a4) - (mD μ a1 2)))), none, none, none]) dX4_restlessness_27 (by show (6 : Nat) < 9; decide) rfl ?_
    refine st_iload (pc := 29) dX4_restlessness_29 rfl ?_
    refine st_aload_n (pc := 31) dX4_restlessness_31 rfl rfl ?_
    refine sg_gfI (pc := 32) (J := 0) dX4_restlessness_32 fl_4_38 (by decide) rfl hk1 ?_
    refine st_icmpge (pc := 35) (tgt := 52) dX4_restlessness_35 rfl (fun c => ?_) (fun c => ?_)
    · replace h := h.1 c
      refine st_lconst (pc := 52) (x := 0) dX4_restlessness_52 (by decide) (by unfold r64; omega) ?_
      refine sg_lstore (pc := 53) (ls' := [some (vr a0), some (vr a1), some (vl a2), none, some (vi a4), some (vl (w32 ((mD μ (mR μ a0 0) a4) - (mD μ a1 2)))), none, some (vl 0), none]) dX4_restlessness_53 (by show (8 : Nat) < 9; decide) rfl ?_
      refine st_lload_n (pc := 55) dX4_restlessness_55 rfl rfl ?_
      refine st_lload (pc := 56) dX4_restlessness_56 rfl ?_
      refine st_lload (pc := 58) dX4_restlessness_58 rfl ?_
      refine st_lmul (pc := 60) dX4_restlessness_60 ?_
      refine st_lload (pc := 61) dX4_restlessness_61 rfl ?_
      refine st_lload (pc := 63) dX4_restlessness_63 rfl ?_
      refine st_lmul (pc := 65) dX4_restlessness_65 ?_
      refine st_ladd (pc := 66) dX4_restlessness_66 ?_
      refine st_ladd (pc := 67) dX4_restlessness_67 ?_
      refine sg_lstore_n (pc := 68) (ls' := [some (vr a0), some (vr a1), some (vl (w64 (a2 + (w64 ((w64 ((w32 ((mD μ (mR μ a0 0) a4) - (mD μ a1 2))) * (w32 ((mD μ (mR μ a0 0) a4) - (mD μ a1 2))))) + (w64 (0 * 0))))))), none, some (vi a4), some (vl (w32 ((mD μ (mR μ a0 0) a4) - (mD μ a1 2)))), none, some (vl 0), none]) dX4_restlessness_68 rfl (by show (3 : Nat) < 9; decide) rfl ?_
      refine sg_iinc (pc := 69) (ls' := [some (vr a0), some (vr a1), some (vl (w64 (a2 + (w64 ((w64 ((w32 ((mD μ (mR μ a0 0) a4) - (mD μ a1 2))) * (w32 ((mD μ (mR μ a0 0) a4) - (mD μ a1 2))))) + (w64 (0 * 0))))))), none, some (vi (w32 (a4 + 1))), some (vl (w32 ((mD μ (mR μ a0 0) a4) - (mD μ a1 2)))), none, some (vl 0), none]) dX4_restlessness_69 rfl rfl ?_
      refine Wp.nameL (ls2 := fun v => [some (vr a0), some (vr a1), some (vl (w64 (a2 + (w64 ((w64 ((w32 ((mD μ (mR μ a0 0) a4) - (mD μ a1 2))) * (w32 ((mD μ (mR μ a0 0) a4) - (mD μ a1 2))))) + (w64 (0 * 0))))))), none, some (vi v), some (vl (w32 ((mD μ (mR μ a0 0) a4) - (mD μ a1 2)))), none, some (vl 0), none]) 4 _ rfl (fun _ => rfl) (fun v1 ev1 => ?_)
      replace h := h v1 ev1
      refine st_goto (pc := 72) dX4_restlessness_72 rfl ?_
      refine Wp.drop 5 rfl ?_
      refine Wp.drop 7 rfl ?_
      exact h
    · replace h := h.2 c
      refine st_aload_n (pc := 38) dX4_restlessness_38 rfl rfl ?_
      refine sg_gfR (pc := 39) (J := 1) dX4_restlessness_39 fl_4_15 rfl hk2 ?_
      refine st_iload (pc := 42) dX4_restlessness_42 rfl ?_
      obtain ⟨hk4, h⟩ := h
      obtain ⟨h1, h⟩ := h
      refine sg_iaload (pc := 44) dX4_restlessness_44 hk4 h1 ?_
      refine sg_bipush (pc := 45) dX4_restlessness_45 (by omega) (by decide) ?_
      refine st_idiv (pc := 47) dX4_restlessness_47 (by omega) ?_
      refine st_i2l (pc := 48) dX4_restlessness_48 ?_
      refine st_goto (pc := 49) dX4_restlessness_49 rfl ?_
      refine sg_lstore (pc := 53) (ls' := [some (vr a0), some (vr a1), some (vl a2), none, some (vi a4), some (vl (w32 ((mD μ (mR μ a0 0) a4) - (mD μ a1 2)))), none, some (vl (w32 ((mD μ (mR μ a0 1) a4).tdiv 8))), none]) dX4_restlessness_53 (by show (8 : Nat) < 9; decide) rfl ?_
      refine st_lload_n (pc := 55) dX4_restlessness_55 rfl rfl ?_
      refine st_lload (pc := 56) dX4_restlessness_56 rfl ?_
      refine st_lload (pc := 58) dX4_restlessness_58 rfl ?_
      refine st_lmul (pc := 60) dX4_restlessness_60 ?_
      refine st_lload (pc := 61) dX4_restlessness_61 rfl ?_
      refine st_lload (pc := 63) dX4_restlessness_63 rfl ?_
      refine st_lmul (pc := 65) dX4_restlessness_65 ?_
      refine st_ladd (pc := 66) dX4_restlessness_66 ?_
      refine st_ladd (pc := 67) dX4_restlessness_67 ?_
      refine sg_lstore_n (pc := 68) (ls' := [some (vr a0), some (vr a1), some (vl (w64 (a2 + (w64 ((w64 ((w32 ((mD μ (mR μ a0 0) a4) - (mD μ a1 2))) * (w32 ((mD μ (mR μ a0 0) a4) - (mD μ a1 2))))) + (w64 ((w32 ((mD μ (mR μ a0 1) a4).tdiv 8)) * (w32 ((mD μ (mR μ a0 1) a4).tdiv 8))))))))), none, some (vi a4), some (vl (w32 ((mD μ (mR μ a0 0) a4) - (mD μ a1 2)))), none, some (vl (w32 ((mD μ (mR μ a0 1) a4).tdiv 8))), none]) dX4_restlessness_68 rfl (by show (3 : Nat) < 9; decide) rfl ?_
      refine sg_iinc (pc := 69) (ls' := [some (vr a0), some (vr a1), some (vl (w64 (a2 + (w64 ((w64 ((w32 ((mD μ (mR μ a0 0) a4) - (mD μ a1 2))) * (w32 ((mD μ (mR μ a0 0) a4) - (mD μ a1 2))))) + (w64 ((w32 ((mD μ (mR μ a0 1) a4).tdiv 8)) * (w32 ((mD μ (mR μ a0 1) a4).tdiv 8))))))))), none, some (vi (w32 (a4 + 1))), some (vl (w32 ((mD μ (mR μ a0 0) a4) - (mD μ a1 2)))), none, some (vl (w32 ((mD μ (mR μ a0 1) a4).tdiv 8))), none]) dX4_restlessness_69 rfl rfl ?_
      refine Wp.nameL (ls2 := fun v => [some (vr a0), some (vr a1), some (vl (w64 (a2 + (w64 ((w64 ((w32 ((mD μ (mR μ a0 0) a4) - (mD μ a1 2))) * (w32 ((mD μ (mR μ a0 0) a4) - (mD μ a1 2))))) + (w64 ((w32 ((mD μ (mR μ a0 1) a4).tdiv 8)) * (w32 ((mD μ (mR μ a0 1) a4).tdiv 8))))))))), none, some (vi v), some (vl (w32 ((mD μ (mR μ a0 0) a4) - (mD μ a1 2)))), none, some (vl (w32 ((mD μ (mR μ a0 1) a4).tdiv 8))), none]) 4 _ rfl (fun _ => rfl) (fun v2 ev2 => ?_)
      replace h := h v2 ev2
      refine st_goto (pc := 72) dX4_restlessness_72 rfl ?_
      refine Wp.drop 5 rfl ?_
      refine Wp.drop 7 rfl ?_
      exact h

theorem sg_X5_rowOf_0 {d bc bs : Nat} {a0 : Nat} {a1 : Int} {μ : Mem} {Q : Option (Option AV) → Mem → Prop}
    (h : (¬ a1 = 0 → mK μ a0 = 6 ∧ (Q (some (some (vr (mR μ a0 3)))) μ)) ∧ (a1 = 0 → mK μ a0 = 6 ∧ (Q (some (some (vr (mR μ a0 2)))) μ))) :
    Wp d bc bs mX5_rowOf 0 [some (vr a0), some (vi a1)] [] μ Q := by
  refine st_iload_n (pc := 0) dX5_rowOf_0 rfl rfl ?_
  refine st_ifne (pc := 1) (tgt := 11) dX5_rowOf_1 rfl (fun c => ?_) (fun c => ?_)
  · replace h := h.1 c
    refine st_aload_n (pc := 11) dX5_rowOf_11 rfl rfl ?_
    obtain ⟨hk1, h⟩ := h
    refine sg_gfR (pc := 12) (J := 3) dX5_rowOf_12 fl_5_25 rfl hk1 ?_
    exact st_areturn (pc := 15) dX5_rowOf_15 rfl h
  · replace h := h.2 c
    refine st_aload_n (pc := 4) dX5_rowOf_4 rfl rfl ?_
    obtain ⟨hk2, h⟩ := h
    refine sg_gfR (pc := 5) (J := 2) dX5_rowOf_5 fl_5_21 rfl hk2 ?_
    refine st_goto (pc := 8) dX5_rowOf_8 rfl ?_
    exact st_areturn (pc := 15) dX5_rowOf_15 rfl h

