/-! ===== by program (wip/whole/gen_seg.py): stretches of methods ===== -/
theorem sg_X10_who_84 {d bc bs : Nat} {a0 : Nat} {a1 : Int} {a2 : Int} {a3 : Int} {a4 : Int} {a5 : Int} {a6 : Int} {a7 : Int} {μ : Mem} {Q : Option (Option AV) → Mem → Prop}
    (h : (a1 = (-1) → Wp (d + 1) bc bs mX10_who 101 [some (vr a0), some (vi a1), some (vi a2), some (vi a3), some (vi a4), some (vi a5), some (vi a6), some (vi a7)] [] μ Q) ∧ (¬ a1 = (-1) → (¬ a7 = a3 → Wp (d + 1) bc bs mX10_who 101 [some (vr a0), some (vi a1), some (vi a2), some (vi a3), some (vi a4), some (vi a5), some (vi a6), some (vi a7)] [] μ Q) ∧ (a7 = a3 → ∀ v1, v1 = w32 (a4 + 1) → ∀ v2, v2 = w32 (a6 + 1) → Wp (d + 1) bc bs mX10_who 26 [some (vr a0), some (vi a1), some (vi a2), some (vi a3), some (vi v1), some (vi a5), some (vi v2), none] [] μ Q))) :
    Wp (d + 1) bc bs mX10_who 84 [some (vr a0), some (vi a1), some (vi a2), some (vi a3), some (vi a4), some (vi a5), some (vi a6), some (vi a7)] [] μ Q := by
  refine st_iload_n (pc := 84) dX10_who_84 rfl rfl ?_
  refine sg_iconst (pc := 85) dX10_who_85 (by omega) ?_
  refine st_icmpeq (pc := 86) (tgt := 101) dX10_who_86 rfl (fun c => ?_) (fun c => ?_)
  · replace h := h.1 c
    exact h
  · replace h := h.2 c
    refine st_iload (pc := 89) dX10_who_89 rfl ?_
    refine st_iload_n (pc := 91) dX10_who_91 rfl rfl ?_
    refine st_icmpne (pc := 92) (tgt := 101) dX10_who_92 rfl (fun c => ?_) (fun c => ?_)
    · replace h := h.1 c
      exact h
    · replace h := h.2 c
      refine sg_iinc (pc := 95) (ls' := [some (vr a0), some (vi a1), some (vi a2), some (vi a3), some (vi (w32 (a4 + 1))), some (vi a5), some (vi a6), some (vi a7)]) dX10_who_95 rfl rfl ?_
      refine Wp.nameL (ls2 := fun v => [some (vr a0), some (vi a1), some (vi a2), some (vi a3), some (vi v), some (vi a5), some (vi a6), some (vi a7)]) 4 _ rfl (fun _ => rfl) (fun v1 ev1 => ?_)
      replace h := h v1 ev1
      refine st_goto (pc := 98) dX10_who_98 rfl ?_
      refine sg_iinc (pc := 113) (ls' := [some (vr a0), some (vi a1), some (vi a2), some (vi a3), some (vi v1), some (vi a5), some (vi (w32 (a6 + 1))), some (vi a7)]) dX10_who_113 rfl rfl ?_
      refine Wp.nameL (ls2 := fun v => [some (vr a0), some (vi a1), some (vi a2), some (vi a3), some (vi v1), some (vi a5), some (vi v), some (vi a7)]) 6 _ rfl (fun _ => rfl) (fun v2 ev2 => ?_)
      replace h := h v2 ev2
      refine st_goto (pc := 116) dX10_who_116 rfl ?_
      refine Wp.drop 7 rfl ?_
      exact h

theorem sg_X10_who_101 {d bc bs : Nat} {a0 : Nat} {a1 : Int} {a2 : Int} {a3 : Int} {a4 : Int} {a5 : Int} {a6 : Int} {a7 : Int} {μ : Mem} {Q : Option (Option AV) → Mem → Prop}
    (h : ∀ v1, v1 = w32 (a6 + 1) → Wp (d + 1) bc bs mX10_who 26 [some (vr a0), some (vi a5), some (vi a6), some (vi a7), some (vi 1), some (vi a5), some (vi v1), none] [] μ Q) :
    Wp (d + 1) bc bs mX10_who 101 [some (vr a0), some (vi a1), some (vi a2), some (vi a3), some (vi a4), some (vi a5), some (vi a6), some (vi a7)] [] μ Q := by
  refine st_iload (pc := 101) dX10_who_101 rfl ?_
  refine sg_istore_n (pc := 103) (ls' := [some (vr a0), some (vi a5), some (vi a2), some (vi a3), some (vi a4), some (vi a5), some (vi a6), some (vi a7)]) dX10_who_103 rfl (by show (1 : Nat) < 8; decide) rfl ?_
  refine st_iload (pc := 104) dX10_who_104 rfl ?_
  refine sg_istore_n (pc := 106) (ls' := [some (vr a0), some (vi a5), some (vi a6), some (vi a3), some (vi a4), some (vi a5), some (vi a6), some (vi a7)]) dX10_who_106 rfl (by show (2 : Nat) < 8; decide) rfl ?_
  refine st_iload (pc := 107) dX10_who_107 rfl ?_
  refine sg_istore_n (pc := 109) (ls' := [some (vr a0), some (vi a5), some (vi a6), some (vi a7), some (vi a4), some (vi a5), some (vi a6), some (vi a7)]) dX10_who_109 rfl (by show (3 : Nat) < 8; decide) rfl ?_
  refine sg_iconst (pc := 110) dX10_who_110 (by omega) ?_
  refine sg_istore (pc := 111) (ls' := [some (vr a0), some (vi a5), some (vi a6), some (vi a7), some (vi 1), some (vi a5), some (vi a6), some (vi a7)]) dX10_who_111 (by show (4 : Nat) < 8; decide) rfl ?_
  refine sg_iinc (pc := 113) (ls' := [some (vr a0), some (vi a5), some (vi a6), some (vi a7), some (vi 1), some (vi a5), some (vi (w32 (a6 + 1))), some (vi a7)]) dX10_who_113 rfl rfl ?_
  refine Wp.nameL (ls2 := fun v => [some (vr a0), some (vi a5), some (vi a6), some (vi a7), some (vi 1), some (vi a5), some (vi v), some (vi a7)]) 6 _ rfl (fun _ => rfl) (fun v1 ev1 => ?_)
  replace h := h v1 ev1
  refine st_goto (pc := 116) dX10_who_116 rfl ?_
  refine Wp.drop 7 rfl ?_
  exact h

theorem sg_X10_film_0 {d bc bs : Nat} {a0 : Nat} {a1 : Int} {a2 : Int} {a3 : Int} {a4 : Int} {μ : Mem} {Q : Option (Option AV) → Mem → Prop}
    (h : mK μ a0 = 11 ∧ (∀ m1, m1 = sD μ a0 15 0 → ∃ (mc1 ms1 : Nat) (K1 : Int → Mem → Prop), Cl d mc1 ms1 mX10_in [vi a1, vi (-500), vi 500] m1 (KI K1) ∧ mc1 ≤ bc ∧ ms1 ≤ bs ∧ (∀ x1 m2, K1 x1 m2 → (x1 = 0 → Q (some (some (vi (-1)))) m2) ∧ (¬ x1 = 0 → ∃ (mc2 ms2 : Nat) (K2 : Int → Mem → Prop), Cl d mc2 ms2 mX10_in [vi a2, vi (-999), vi 999] m2 (KI K2) ∧ mc2 ≤ bc - mc1 ∧ ms2 ≤ bs - ms1 ∧ (∀ x2 m3, K2 x2 m3 → (x2 = 0 → Q (some (some (vi (-1)))) m3) ∧ (¬ x2 = 0 → ∃ (mc3 ms3 : Nat) (K3 : Int → Mem → Prop), Cl d mc3 ms3 mX10_in [vi a3, vi 0, vi 1000] m3 (KI K3) ∧ mc3 ≤ bc - mc1 - mc2 ∧ ms3 ≤ bs - ms1 - ms2 ∧ (∀ x3 m4, K3 x3 m4 → (x3 = 0 → Q (some (some (vi (-1)))) m4) ∧ (¬ x3 = 0 → ∃ (mc4 ms4 : Nat) (K4 : Int → Mem → Prop), Cl d mc4 ms4 mX10_in [vi a4, vi (-500), vi 500] m4 (KI K4) ∧ mc4 ≤ bc - mc1 - mc2 - mc3 ∧ ms4 ≤ bs - ms1 - ms2 - ms3 ∧ (∀ x4 m5, K4 x4 m5 → (x4 = 0 → Q (some (some (vi (-1)))) m5) ∧ (¬ x4 = 0 → mK m5 a0 = 11 ∧ ((¬ (mD m5 a0 59) = 20 → mK m5 (mR m5 a0 60) = 20 ∧ ((0 : Int) ≤ (mD m5 a0 59) ∧ (mD m5 a0 59) < (mN m5 (mR m5 a0 60) : Int)) ∧ (∀ m6, m6 = sD m5 (mR m5 a0 60) (mD m5 a0 59) a1 → mK m6 (mR m6 a0 61) = 20 ∧ ((0 : Int) ≤ (mD m6 a0 59) ∧ (mD m6 a0 59) < (mN m6 (mR m6 a0 61) : Int)) ∧ (∀ m7, m7 = sD m6 (mR m6 a0 61) (mD m6 a0 59) a2 → mK m7 (mR m7 a0 62) = 20 ∧ ((0 : Int) ≤ (mD m7 a0 59) ∧ (mD m7 a0 59) < (mN m7 (mR m7 a0 62) : Int)) ∧ (∀ m8, m8 = sD m7 (mR m7 a0 62) (mD m7 a0 59) a3 → mK m8 (mR m8 a0 63) = 20 ∧ ((0 : Int) ≤ (mD m8 a0 59) ∧ (mD m8 a0 59) < (mN m8 (mR m8 a0 63) : Int)) ∧ (∀ m9, m9 = sD m8 (mR m8 a0 63) (mD m8 a0 59) a4 → (∀ m10, m10 = sD m9 a0 59 (w32 ((mD m9 a0 59) + 1)) → Q (some (some (vi (mD m10 a0 59)))) m10)))))) ∧ ((mD m5 a0 59) = 20 → Q (some (some (vi (-1)))) m5)))))))))))) :
    Wp (d + 1) bc bs mX10_film 0 [some (vr a0), some (vi a1), some (vi a2), some (vi a3), some (vi a4)] [] μ Q := by
  refine st_aload_n (pc := 0) dX10_film_0 rfl rfl ?_
  refine sg_iconst (pc := 1) dX10_film_1 (by omega) ?_
  obtain ⟨hk1, h⟩ := h
  refine sg_pfI (pc := 2) (J := 15) dX10_film_2 fl_10_142 rfl (Or.inl rfl) hk1 ?_
  refine Wp.nameM (fun m1 em1 => ?_)
  replace h := h m1 em1
  refine st_iload_n (pc := 5) dX10_film_5 rfl rfl ?_
  refine sg_sipush (pc := 6) dX10_film_6 (by omega) (by decide) ?_
  refine sg_sipush (pc := 9) dX10_film_9 (by omega) (by decide) ?_
  obtain ⟨mc1, ms1, K1, hC, e1, e2, h⟩ := h
  refine sg_SI (pc := 12) (av := [vi a1, vi (-500), vi 500]) (st := []) (K := K1) dX10_film_12 ck_10_151 rfl (by show (0 : Nat) ≤ 8; decide) hC e1 e2 (fun x1 m2 hK => ?_) rfl
  replace h := h x1 m2 hK
  refine st_ifeq (pc := 15) (tgt := 65) dX10_film_15 rfl (fun c => ?_) (fun c => ?_)
  · replace h := h.1 c
    refine sg_iconst (pc := 65) dX10_film_65 (by omega) ?_
    exact st_ireturn (pc := 66) dX10_film_66 (Or.inl rfl) h
  · replace h := h.2 c
    refine st_iload_n (pc := 18) dX10_film_18 rfl rfl ?_
    refine sg_sipush (pc := 19) dX10_film_19 (by omega) (by decide) ?_
    refine sg_sipush (pc := 22) dX10_film_22 (by omega) (by decide) ?_
    obtain ⟨mc2, ms2, K2, hC, e1, e2, h⟩ := h
    refine sg_SI (pc := 25) (av := [vi a2, vi (-999), vi 999]) (st := []) (K := K2) dX10_film_25 ck_10_151 rfl (by show (0 : Nat) ≤ 8; decide) hC e1 e2 (fun x2 m3 hK => ?_) rfl
    replace h := h x2 m3 hK
    refine st_ifeq (pc := 28) (tgt := 65) dX10_film_28 rfl (fun c => ?_) (fun c => ?_)
    · replace h := h.1 c
      refine sg_iconst (pc := 65) dX10_film_65 (by omega) ?_
      exact st_ireturn (pc := 66) dX10_film_66 (Or.inl rfl) h
    · replace h := h.2 c
      refine st_iload_n (pc := 31) dX10_film_31 rfl rfl ?_
      refine sg_iconst (pc := 32) dX10_film_32 (by omega) ?_
      refine sg_sipush (pc := 33) dX10_film_33 (by omega) (by decide) ?_
      obtain ⟨mc3, ms3, K3, hC, e1, e2, h⟩ := h
      refine sg_SI (pc := 36) (av := [vi a3, vi 0, vi 1000]) (st := []) (K := K3) dX10_film_36 ck_10_151 rfl (by show (0 : Nat) ≤ 8; decide) hC e1 e2 (fun x3 m4 hK => ?_) rfl
      replace h := h x3 m4 hK
      refine st_ifeq (pc := 39) (tgt := 65) dX10_film_39 rfl (fun c => ?_) (fun c => ?_)
      · replace h := h.1 c
        refine sg_iconst (pc := 65) dX10_film_65 (by omega) ?_
        exact st_ireturn (pc := 66) dX10_film_66 (Or.inl rfl) h
      · replace h := h.2 c
        refine st_iload (pc := 42) dX10_film_42 rfl ?_
        refine sg_sipush (pc := 44) dX10_film_44 (by omega) (by decide) ?_
        refine sg_sipush (pc := 47) dX10_film_47 (by omega) (by decide) ?_
        obtain ⟨mc4, ms4, K4, hC, e1, e2, h⟩ := h
        refine sg_SI (pc := 50) (av := [vi a4, vi (-500), vi 500]) (st := []) (K := K4) dX10_film_50 ck_10_151 rfl (by show (0 : Nat) ≤ 8; decide) hC e1 e2 (fun x4 m5 hK => ?_) rfl
        replace h := h x4 m5 hK
        refine st_ifeq (pc := 53) (tgt := 65) dX10_film_53 rfl (fun c => ?_) (fun c => ?_)
        · replace h := h.1 c
          refine sg_iconst (pc := 65) dX10_film_65 (by omega) ?_
          exact st_ireturn (pc := 66) dX10_film_66 (Or.inl rfl) h
        · replace h := h.2 c
          refine st_aload_n (pc := 56) dX10_film_56 rfl rfl ?_
          obtain ⟨hk2, h⟩ := h
          refine sg_gfI (pc := 57) (J := 59) dX10_film_57 fl_10_384 (by decide) rfl hk2 ?_
          refine sg_bipush (pc := 60) dX10_film_60 (by omega) (by decide) ?_
          refine st_icmpne (pc := 62) (tgt := 67) dX10_film_62 rfl (fun c => ?_) (fun c => ?_)
          · replace h := h.1 c
            refine st_aload_n (pc := 67) dX10_film_67 rfl rfl ?_
            refine sg_gfR (pc := 68) (J := 60) dX10_film_68 fl_10_120 rfl hk2 ?_
            refine st_aload_n (pc := 71) dX10_film_71 rfl rfl ?_
            refine sg_gfI (pc := 72) (J := 59) dX10_film_72 fl_10_384 (by decide) rfl hk2 ?_
            refine st_iload_n (pc := 75) dX10_film_75 rfl rfl ?_
            obtain ⟨hk3, h⟩ := h
            obtain ⟨h1, h⟩ := h
            refine st_iastore (pc := 76) dX10_film_76 hk3 h1.1 h1.2 ?_
            refine Wp.nameM (fun m6 em6 => ?_)
            replace h := h m6 em6
            refine st_aload_n (pc := 77) dX10_film_77 rfl rfl ?_
            refine sg_gfR (pc := 78) (J := 61) dX10_film_78 fl_10_123 rfl (by cases em6; exact hk2) ?_
            refine st_aload_n (pc := 81) dX10_film_81 rfl rfl ?_
            refine sg_gfI (pc := 82) (J := 59) dX10_film_82 fl_10_384 (by decide) rfl (by cases em6; exact hk2) ?_
            refine st_iload_n (pc := 85) dX10_film_85 rfl rfl ?_
            obtain ⟨hk4, h⟩ := h
            obtain ⟨h1, h⟩ := h
            refine st_iastore (pc := 86) dX10_film_86 hk4 h1.1 h1.2 ?_
            refine Wp.nameM (fun m7 em7 => ?_)
            replace h := h m7 em7
            refine st_aload_n (pc := 87) dX10_film_87 rfl rfl ?_
            refine sg_gfR (pc := 88) (J := 62) dX10_film_88 fl_10_126 rfl (by cases em7; cases em6; exact hk2) ?_
            refine st_aload_n (pc := 91) dX10_film_91 rfl rfl ?_
            refine sg_gfI (pc := 92) (J := 59) dX10_film_92 fl_10_384 (by decide) rfl (by cases em7; cases em6; exact hk2) ?_
            refine st_iload_n (pc := 95) dX10_film_95 rfl rfl ?_
            obtain ⟨hk5, h⟩ := h
            obtain ⟨h1, h⟩ := h
            refine st_iastore (pc := 96) dX10_film_96 hk5 h1.1 h1.2 ?_
            refine Wp.nameM (fun m8 em8 => ?_)
            replace h := h m8 em8
            refine st_aload_n (pc := 97) dX10_film_97 rfl rfl ?_
            refine sg_gfR (pc := 98) (J := 63) dX10_film_98 fl_10_129 rfl (by cases em8; cases em7; cases em6; exact hk2) ?_
            refine st_aload_n (pc := 101) dX10_film_101 rfl rfl ?_
            refine sg_gfI (pc := 102) (J := 59) dX10_film_102 fl_10_384 (by decide) rfl (by cases em8; cases em7; cases em6; exact hk2) ?_
            refine st_iload (pc := 105) dX10_film_105 rfl ?_
            obtain ⟨hk6, h⟩ := h
            obtain ⟨h1, h⟩ := h
            refine st_iastore (pc := 107) dX10_film_107 hk6 h1.1 h1.2 ?_
            refine Wp.nameM (fun m9 em9 => ?_)
            replace h := h m9 em9
            refine st_aload_n (pc := 108) dX10_film_108 rfl rfl ?_
            refine st_dup (pc := 109) dX10_film_109 rfl ?_
            refine sg_gfI (pc := 110) (J := 59) dX10_film_110 fl_10_384 (by decide) rfl (by cases em9; cases em8; cases em7; cases em6; exact hk2) ?_
            refine sg_iconst (pc := 113) dX10_film_113 (by omega) ?_
            refine st_iadd (pc := 114) dX10_film_114 ?_
            refine sg_pfI (pc := 115) (J := 59) dX10_film_115 fl_10_384 rfl (Or.inl rfl) (by cases em9; cases em8; cases em7; cases em6; exact hk2) ?_
            refine Wp.nameM (fun m10 em10 => ?_)
            replace h := h m10 em10
            refine st_aload_n (pc := 118) dX10_film_118 rfl rfl ?_
            refine sg_gfI (pc := 119) (J := 59) dX10_film_119 fl_10_384 (by decide) rfl (by cases em10; cases em9; cases em8; cases em7; cases em6; exact hk2) ?_
            exact st_ireturn (pc := 122) dX10_film_122 (Or.inl rfl) h
          · replace h := h.2 c
            refine sg_iconst (pc := 65) dX10_film_65 (by omega) ?_
            exact st_ireturn (pc := 66) dX10_film_66 (Or.inl rfl) h

theorem sg_X10_fits_0 {d bc bs : Nat} {a0 : Nat} {a1 : Int} {a2 : Int} {μ : Mem} {Q : Option (Option AV) → Mem → Prop}
    (h : mK μ a0 = 11 ∧ (∀ m1, m1 = sD μ a0 15 0 → ∃ (mc1 ms1 : Nat) (K1 : Int → Mem → Prop), Cl d mc1 ms1 mX10_isLaw [vr a0, vi a1] m1 (KI K1) ∧ mc1 ≤ bc ∧ ms1 ≤ bs ∧ (∀ x1 m2, K1 x1 m2 → (x1 = 0 → Q (some (some (vi (-1)))) m2) ∧ (¬ x1 = 0 → ∃ (mc2 ms2 : Nat) (K2 : Int → Mem → Prop), Cl d mc2 ms2 mX10_in [vi a2, vi 0, vi 99] m2 (KI K2) ∧ mc2 ≤ bc - mc1 ∧ ms2 ≤ bs - ms1 ∧ (∀ x2 m3, K2 x2 m3 → (¬ x2 = 0 → Wp (d + 1) (bc - mc1 - mc2) (bs - ms1 - ms2) mX10_fits 39 [some (vr a0), some (vi a1), some (vi a2), some (vi 0), some (vi 0), some (vi (-1)), some (vi 0), some (vi 0), none] [] m3 Q) ∧ (x2 = 0 → Q (some (some (vi (-1)))) m3)))))) :
    Wp (d + 1) bc bs mX10_fits 0 [some (vr a0), some (vi a1), some (vi a2), none, none, none, none, none, none] [] μ Q := by
  refine st_aload_n (pc := 0) dX10_fits_0 rfl rfl ?_
  refine sg_iconst (pc := 1) dX10_fits_1 (by omega) ?_
  obtain ⟨hk1, h⟩ := h
  refine sg_pfI (pc := 2) (J := 15) dX10_fits_2 fl_10_142 rfl (Or.inl rfl) hk1 ?_
  refine Wp.nameM (fun m1 em1 => ?_)
  replace h := h m1 em1
  refine st_aload_n (pc := 5) dX10_fits_5 rfl rfl ?_
  refine st_iload_n (pc := 6) dX10_fits_6 rfl rfl ?_
  obtain ⟨mc1, ms1, K1, hC, e1, e2, h⟩ := h
  refine sg_VI (pc := 7) (av := [vi a1]) (st := []) (K := K1) dX10_fits_7 ck_10_280 rfl (by decide) (by cases em1; exact hk1) (by show (0 : Nat) ≤ 8; decide) hC e1 e2 (fun x1 m2 hK => ?_) rfl
  replace h := h x1 m2 hK
  refine st_ifeq (pc := 10) (tgt := 23) dX10_fits_10 rfl (fun c => ?_) (fun c => ?_)
  · replace h := h.1 c
    refine sg_iconst (pc := 23) dX10_fits_23 (by omega) ?_
    exact st_ireturn (pc := 24) dX10_fits_24 (Or.inl rfl) h
  · replace h := h.2 c
    refine st_iload_n (pc := 13) dX10_fits_13 rfl rfl ?_
    refine sg_iconst (pc := 14) dX10_fits_14 (by omega) ?_
    refine sg_bipush (pc := 15) dX10_fits_15 (by omega) (by decide) ?_
    obtain ⟨mc2, ms2, K2, hC, e1, e2, h⟩ := h
    refine sg_SI (pc := 17) (av := [vi a2, vi 0, vi 99]) (st := []) (K := K2) dX10_fits_17 ck_10_151 rfl (by show (0 : Nat) ≤ 8; decide) hC e1 e2 (fun x2 m3 hK => ?_) rfl
    replace h := h x2 m3 hK
    refine st_ifne (pc := 20) (tgt := 25) dX10_fits_20 rfl (fun c => ?_) (fun c => ?_)
    · replace h := h.1 c
      refine sg_iconst (pc := 25) dX10_fits_25 (by omega) ?_
      refine sg_istore_n (pc := 26) (ls' := [some (vr a0), some (vi a1), some (vi a2), some (vi 0), none, none, none, none, none]) dX10_fits_26 rfl (by show (3 : Nat) < 9; decide) rfl ?_
      refine sg_iconst (pc := 27) dX10_fits_27 (by omega) ?_
      refine sg_istore (pc := 28) (ls' := [some (vr a0), some (vi a1), some (vi a2), some (vi 0), some (vi 0), none, none, none, none]) dX10_fits_28 (by show (4 : Nat) < 9; decide) rfl ?_
      refine sg_iconst (pc := 30) dX10_fits_30 (by omega) ?_
      refine sg_istore (pc := 31) (ls' := [some (vr a0), some (vi a1), some (vi a2), some (vi 0), some (vi 0), some (vi (-1)), none, none, none]) dX10_fits_31 (by show (5 : Nat) < 9; decide) rfl ?_
      refine sg_iconst (pc := 33) dX10_fits_33 (by omega) ?_
      refine sg_istore (pc := 34) (ls' := [some (vr a0), some (vi a1), some (vi a2), some (vi 0), some (vi 0), some (vi (-1)), some (vi 0), none, none]) dX10_fits_34 (by show (6 : Nat) < 9; decide) rfl ?_
      refine sg_iconst (pc := 36) dX10_fits_36 (by omega) ?_
      refine sg_istore (pc := 37) (ls' := [some (vr a0), some (vi a1), some (vi a2), some (vi 0), some (vi 0), some (vi (-1)), some (vi 0), some (vi 0), none]) dX10_fits_37 (by show (7 : Nat) < 9; decide) rfl ?_
      exact h
    · replace h := h.2 c
      refine sg_iconst (pc := 23) dX10_fits_23 (by omega) ?_
      exact st_ireturn (pc := 24) dX10_fits_24 (Or.inl rfl) h

theorem sg_X10_fits_39 {d bc bs : Nat} {a0 : Nat} {a1 : Int} {a2 : Int} {a3 : Int} {a4 : Int} {a5 : Int} {a6 : Int} {a7 : Int} {μ : Mem} {Q : Option (Option AV) → Mem → Prop}
    (h : mK μ a0 = 11 ∧ (((mD μ a0 59) ≤ a7 → (∀ m1, m1 = sD μ a0 14 0 → ∃ (mc1 ms1 : Nat) (K1 : Mem → Prop), Cl d mc1 ms1 mX10_tell [vr a0, vl a4] m1 (KV K1) ∧ mc1 ≤ bc ∧ ms1 ≤ bs ∧ (∀ m2, K1 m2 → mK m2 a0 = 11 ∧ ∃ (mc2 ms2 : Nat) (K2 : Mem → Prop), Cl d mc2 ms2 mX10_tell [vr a0, vl a5] m2 (KV K2) ∧ mc2 ≤ bc - mc1 ∧ ms2 ≤ bs - ms1 ∧ (∀ m3, K2 m3 → Q (some (some (vi a3))) m3)))) ∧ (¬ (mD μ a0 59) ≤ a7 → (mK μ (mR μ a0 60) = 20 ∨ ((mR μ a0 60) ≠ 0 ∧ mK μ (mR μ a0 60) = 40)) ∧ ((0 : Int) ≤ a7 ∧ a7 < (mN μ (mR μ a0 60) : Int)) ∧ ((mK μ (mR μ a0 61) = 20 ∨ ((mR μ a0 61) ≠ 0 ∧ mK μ (mR μ a0 61) = 40)) ∧ ((0 : Int) ≤ a7 ∧ a7 < (mN μ (mR μ a0 61) : Int)) ∧ ((mK μ (mR μ a0 62) = 20 ∨ ((mR μ a0 62) ≠ 0 ∧ mK μ (mR μ a0 62) = 40)) ∧ ((0 : Int) ≤ a7 ∧ a7 < (mN μ (mR μ a0 62) : Int)) ∧ (∃ (mc3 ms3 : Nat) (K3 : Int → Mem → Prop), Cl d mc3 ms3 mX10_byLaw [vr a0, vi a1, vi (mD μ (mR μ a0 60) a7), vi (mD μ (mR μ a0 61) a7), vi (mD μ (mR μ a0 62) a7), vi (mD μ a0 2)] μ (KI K3) ∧ mc3 ≤ bc ∧ ms3 ≤ bs ∧ (∀ x1 m4, K3 x1 m4 → mK m4 a0 = 11 ∧ ((mK m4 (mR m4 a0 63) = 20 ∨ ((mR m4 a0 63) ≠ 0 ∧ mK m4 (mR m4 a0 63) = 40)) ∧ ((0 : Int) ≤ a7 ∧ a7 < (mN m4 (mR m4 a0 63) : Int)) ∧ (∃ (mc4 ms4 : Nat) (K4 : Int → Mem → Prop), Cl d mc4 ms4 mJ9_abs_0f7a4 [vi (w32 (x1 - (mD m4 (mR m4 a0 63) a7)))] m4 (KI K4) ∧ mc4 ≤ bc - mc3 ∧ ms4 ≤ bs - ms3 ∧ (∀ x2 m5, K4 x2 m5 → (a2 < x2 → ∀ v1, v1 = w32 (a3 + 0) → ∀ v2, v2 = w32 (a4 + x2) → (a5 = (-1) → ∀ v3, v3 = w32 (a7 + 1) → Wp (d + 1) (bc - mc3 - mc4) (bs - ms3 - ms4) mX10_fits 39 [some (vr a0), some (vi a1), some (vi a2), some (vi v1), some (vi v2), some (vi a7), some (vi x2), some (vi v3), none] [] m5 Q) ∧ (¬ a5 = (-1) → (a6 < x2 → ∀ v4, v4 = w32 (a7 + 1) → Wp (d + 1) (bc - mc3 - mc4) (bs - ms3 - ms4) mX10_fits 39 [some (vr a0), some (vi a1), some (vi a2), some (vi v1), some (vi v2), some (vi a7), some (vi x2), some (vi v4), none] [] m5 Q) ∧ (¬ a6 < x2 → ∀ v5, v5 = w32 (a7 + 1) → Wp (d + 1) (bc - mc3 - mc4) (bs - ms3 - ms4) mX10_fits 39 [some (vr a0), some (vi a1), some (vi a2), some (vi v1), some (vi v2), some (vi a5), some (vi a6), some (vi v5), none] [] m5 Q))) ∧ (¬ a2 < x2 → ∀ v6, v6 = w32 (a3 + 1) → ∀ v7, v7 = w32 (a4 + x2) → (a5 = (-1) → ∀ v8, v8 = w32 (a7 + 1) → Wp (d + 1) (bc - mc3 - mc4) (bs - ms3 - ms4) mX10_fits 39 [some (vr a0), some (vi a1), some (vi a2), some (vi v6), some (vi v7), some (vi a7), some (vi x2), some (vi v8), none] [] m5 Q) ∧ (¬ a5 = (-1) → (a6 < x2 → ∀ v9, v9 = w32 (a7 + 1) → Wp (d + 1) (bc - mc3 - mc4) (bs - ms3 - ms4) mX10_fits 39 [some (vr a0), some (vi a1), some (vi a2), some (vi v6), some (vi v7), some (vi a7), some (vi x2), some (vi v9), none] [] m5 Q) ∧ (¬ a6 < x2 → ∀ v10, v10 = w32 (a7 + 1) → Wp (d + 1) (bc - mc3 - mc4) (bs - ms3 - ms4) mX10_fits 39 [some (vr a0), some (vi a1), some (vi a2), some (vi v6), some (vi v7), some (vi a5), some (vi a6), some (vi v10), none] [] m5 Q))))))))))))) :
    Wp (d + 1) bc bs mX10_fits 39 [some (vr a0), some (vi a1), some (vi a2), some (vi a3), some (vi a4), some (vi a5), some (vi a6), some (vi a7), none] [] μ Q := by
  refine st_iload (pc := 39) dX10_fits_39 rfl ?_
  refine st_aload_n (pc := 41) dX10_fits_41 rfl rfl ?_
  obtain ⟨hk1, h⟩ := h
  refine sg_gfI (pc := 42) (J := 59) dX10_fits_42 fl_10_384 (by decide) rfl hk1 ?_
  refine st_icmpge (pc := 45) (tgt := 142) dX10_fits_45 rfl (fun c => ?_) (fun c => ?_)
  · replace h := h.1 c
    refine st_aload_n (pc := 142) dX10_fits_142 rfl rfl ?_
    refine sg_iconst (pc := 143) dX10_fits_143 (by omega) ?_
    refine sg_pfI (pc := 144) (J := 14) dX10_fits_144 fl_10_145 rfl (Or.inl rfl) hk1 ?_
    refine Wp.nameM (fun m1 em1 => ?_)
    replace h := h m1 em1
    refine st_aload_n (pc := 147) dX10_fits_147 rfl rfl ?_
    refine st_iload (pc := 148) dX10_fits_148 rfl ?_
    refine st_i2l (pc := 150) dX10_fits_150 ?_
    obtain ⟨mc1, ms1, K1, hC, e1, e2, h⟩ := h
    refine sg_VV (pc := 151) (av := [vl a4]) (st := []) (K := K1) dX10_fits_151 ck_10_252 rfl (by decide) (by cases em1; exact hk1) (by show (0 : Nat) ≤ 8; decide) hC e1 e2 (fun m2 hK => ?_) rfl
    replace h := h m2 hK
    refine st_aload_n (pc := 154) dX10_fits_154 rfl rfl ?_
    refine st_iload (pc := 155) dX10_fits_155 rfl ?_
    refine st_i2l (pc := 157) dX10_fits_157 ?_
    obtain ⟨hk2, h⟩ := h
    obtain ⟨mc2, ms2, K2, hC, e1, e2, h⟩ := h
    refine sg_VV (pc := 158) (av := [vl a5]) (st := []) (K := K2) dX10_fits_158 ck_10_252 rfl (by decide) hk2 (by show (0 : Nat) ≤ 8; decide) hC e1 e2 (fun m3 hK => ?_) rfl
    replace h := h m3 hK
    refine st_iload_n (pc := 161) dX10_fits_161 rfl rfl ?_
    exact st_ireturn (pc := 162) dX10_fits_162 (Or.inl rfl) h
  · replace h := h.2 c
    refine st_aload_n (pc := 48) dX10_fits_48 rfl rfl ?_
    refine st_iload_n (pc := 49) dX10_fits_49 rfl rfl ?_
    refine st_aload_n (pc := 50) dX10_fits_50 rfl rfl ?_
    refine sg_gfR (pc := 51) (J := 60) dX10_fits_51 fl_10_120 rfl hk1 ?_
    refine st_iload (pc := 54) dX10_fits_54 rfl ?_
    obtain ⟨hk3, h⟩ := h
    obtain ⟨h1, h⟩ := h
    refine sg_iaload (pc := 56) dX10_fits_56 hk3 h1 ?_
    refine st_aload_n (pc := 57) dX10_fits_57 rfl rfl ?_
    refine sg_gfR (pc := 58) (J := 61) dX10_fits_58 fl_10_123 rfl hk1 ?_
    refine st_iload (pc := 61) dX10_fits_61 rfl ?_
    obtain ⟨hk4, h⟩ := h
    obtain ⟨h1, h⟩ := h
    refine sg_iaload (pc := 63) dX10_fits_63 hk4 h1 ?_
    refine st_aload_n (pc := 64) dX10_fits_64 rfl rfl ?_
    refine sg_gfR (pc := 65) (J := 62) dX10_fits_65 fl_10_126 rfl hk1 ?_
    refine st_iload (pc := 68) dX10_fits_68 rfl ?_
    obtain ⟨hk5, h⟩ := h
    obtain ⟨h1, h⟩ := h
    refine sg_iaload (pc := 70) dX10_fits_70 hk5 h1 ?_
    refine st_aload_n (pc := 71) dX10_fits_71 rfl rfl ?_
    refine sg_gfI (pc := 72) (J := 2) dX10_fits_72 fl_10_16 (by decide) rfl hk1 ?_
    obtain ⟨mc3, ms3, K3, hC, e1, e2, h⟩ := h
    refine sg_VI (pc := 75) (av := [vi a1, vi (mD μ (mR μ a0 60) a7), vi (mD μ (mR μ a0 61) a7), vi (mD μ (mR μ a0 62) a7), vi (mD μ a0 2)]) (st := []) (K := K3) dX10_fits_75 ck_10_283 rfl (by decide) hk1 (by show (0 : Nat) ≤ 8; decide) hC e1 e2 (fun x1 m4 hK => ?_) rfl
    replace h := h x1 m4 hK
    refine st_aload_n (pc := 78) dX10_fits_78 rfl rfl ?_
    obtain ⟨hk6, h⟩ := h
    refine sg_gfR (pc := 79) (J := 63) dX10_fits_79 fl_10_129 rfl hk6 ?_
    refine st_iload (pc := 82) dX10_fits_82 rfl ?_
    obtain ⟨hk7, h⟩ := h
    obtain ⟨h1, h⟩ := h
    refine sg_iaload (pc := 84) dX10_fits_84 hk7 h1 ?_
    refine st_isub (pc := 85) dX10_fits_85 ?_
    obtain ⟨mc4, ms4, K4, hC, e1, e2, h⟩ := h
    refine sg_SI (pc := 86) (av := [vi (w32 (x1 - (mD m4 (mR m4 a0 63) a7)))]) (st := []) (K := K4) dX10_fits_86 ck_10_248 rfl (by show (0 : Nat) ≤ 8; decide) hC e1 e2 (fun x2 m5 hK => ?_) rfl
    replace h := h x2 m5 hK
    refine sg_istore (pc := 89) (ls' := [some (vr a0), some (vi a1), some (vi a2), some (vi a3), some (vi a4), some (vi a5), some (vi a6), some (vi a7), some (vi x2)]) dX10_fits_89 (by show (8 : Nat) < 9; decide) rfl ?_
    refine st_iload_n (pc := 91) dX10_fits_91 rfl rfl ?_
    refine st_iload (pc := 92) dX10_fits_92 rfl ?_
    refine st_iload_n (pc := 94) dX10_fits_94 rfl rfl ?_
    refine st_icmpgt (pc := 95) (tgt := 102) dX10_fits_95 rfl (fun c => ?_) (fun c => ?_)
    · replace h := h.1 c
      refine sg_iconst (pc := 102) dX10_fits_102 (by omega) ?_
      refine st_iadd (pc := 103) dX10_fits_103 ?_
      refine sg_istore_n (pc := 104) (ls' := [some (vr a0), some (vi a1), some (vi a2), some (vi (w32 (a3 + 0))), some (vi a4), some (vi a5), some (vi a6), some (vi a7), some (vi x2)]) dX10_fits_104 rfl (by show (3 : Nat) < 9; decide) rfl ?_
      refine Wp.nameL (ls2 := fun v => [some (vr a0), some (vi a1), some (vi a2), some (vi v), some (vi a4), some (vi a5), some (vi a6), some (vi a7), some (vi x2)]) 3 _ rfl (fun _ => rfl) (fun v1 ev1 => ?_)
      replace h := h v1 ev1
      refine st_iload (pc := 105) dX10_fits_105 rfl ?_
      refine st_iload (pc := 107) dX10_fits_107 rfl ?_
      refine st_iadd (pc := 109) dX10_fits_109 ?_
      refine sg_istore (pc := 110) (ls' := [some (vr a0), some (vi a1), some (vi a2), some (vi v1), some (vi (w32 (a4 + x2))), some (vi a5), some (vi a6), some (vi a7), some (vi x2)]) dX10_fits_110 (by show (4 : Nat) < 9; decide) rfl ?_
      refine Wp.nameL (ls2 := fun v => [some (vr a0), some (vi a1), some (vi a2), some (vi v1), some (vi v), some (vi a5), some (vi a6), some (vi a7), some (vi x2)]) 4 _ rfl (fun _ => rfl) (fun v2 ev2 => ?_)
      replace h := h v2 ev2
      refine st_iload (pc := 112) dX10_fits_112 rfl ?_
      refine sg_iconst (pc := 114) dX10_fits_114 (by omega) ?_
      refine st_icmpeq (pc := 115) (tgt := 128) dX10_fits_115 rfl (fun c => ?_) (fun c => ?_)
      · replace h := h.1 c
        refine st_iload (pc := 128) dX10_fits_128 rfl ?_
        refine sg_istore (pc := 130) (ls' := [some (vr a0), some (vi a1), some (vi a2), some (vi v1), some (vi v2), some (vi a7), some (vi a6), some (vi a7), some (vi x2)]) dX10_fits_130 (by show (5 : Nat) < 9; decide) rfl ?_
        refine st_iload (pc := 132) dX10_fits_132 rfl ?_
        refine sg_istore (pc := 134) (ls' := [some (vr a0), some (vi a1), some (vi a2), some (vi v1), some (vi v2), some (vi a7), some (vi x2), some (vi a7), some (vi x2)]) dX10_fits_134 (by show (6 : Nat) < 9; decide) rfl ?_
        refine sg_iinc (pc := 136) (ls' := [some (vr a0), some (vi a1), some (vi a2), some (vi v1), some (vi v2), some (vi a7), some (vi x2), some (vi (w32 (a7 + 1))), some (vi x2)]) dX10_fits_136 rfl rfl ?_
        refine Wp.nameL (ls2 := fun v => [some (vr a0), some (vi a1), some (vi a2), some (vi v1), some (vi v2), some (vi a7), some (vi x2), some (vi v), some (vi x2)]) 7 _ rfl (fun _ => rfl) (fun v3 ev3 => ?_)
        replace h := h v3 ev3
        refine st_goto (pc := 139) dX10_fits_139 rfl ?_
        refine Wp.drop 8 rfl ?_
        exact h
      · replace h := h.2 c
        refine st_iload (pc := 118) dX10_fits_118 rfl ?_
        refine st_iload (pc := 120) dX10_fits_120 rfl ?_
        refine st_icmpgt (pc := 122) (tgt := 128) dX10_fits_122 rfl (fun c => ?_) (fun c => ?_)
        · replace h := h.1 c
          refine st_iload (pc := 128) dX10_fits_128 rfl ?_
          refine sg_istore (pc := 130) (ls' := [some (vr a0), some (vi a1), some (vi a2), some (vi v1), some (vi v2), some (vi a7), some (vi a6), some (vi a7), some (vi x2)]) dX10_fits_130 (by show (5 : Nat) < 9; decide) rfl ?_
          refine st_iload (pc := 132) dX10_fits_132 rfl ?_
          refine sg_istore (pc := 134) (ls' := [some (vr a0), some (vi a1), some (vi a2), some (vi v1), some (vi v2), some (vi a7), some (vi x2), some (vi a7), some (vi x2)]) dX10_fits_134 (by show (6 : Nat) < 9; decide) rfl ?_
          refine sg_iinc (pc := 136) (ls' := [some (vr a0), some (vi a1), some (vi a2), some (vi v1), some (vi v2), some (vi a7), some (vi x2), some (vi (w32 (a7 + 1))), some (vi x2)]) dX10_fits_136 rfl rfl ?_
          refine Wp.nameL (ls2 := fun v => [some (vr a0), some (vi a1), some (vi a2), some (vi v1), some (vi v2), some (vi a7), some (vi x2), some (vi v), some (vi x2)]) 7 _ rfl (fun _ => rfl) (fun v4 ev4 => ?_)
          replace h := h v4 ev4
          refine st_goto (pc := 139) dX10_fits_139 rfl ?_
          refine Wp.drop 8 rfl ?_
          exact h
        · replace h := h.2 c
          refine st_goto (pc := 125) dX10_fits_125 rfl ?_
          refine sg_iinc (pc := 136) (ls' := [some (vr a0), some (vi a1), some (vi a2), some (vi v1), some (vi v2), some (vi a5), some (vi a6), some (vi (w32 (a7 + 1))), some (vi x2)]) dX10_fits_136 rfl rfl ?_
          refine Wp.nameL (ls2 := fun v => [some (vr a0), some (vi a1), some (vi a2), some (vi v1), some (vi v2), some (vi a5), some (vi a6), some (vi v), some (vi x2)]) 7 _ rfl (fun _ => rfl) (fun v5 ev5 => ?_)
          replace h := h v5 ev5
          refine st_goto (pc := 139) dX10_fits_139 rfl ?_
          refine Wp.drop 8 rfl ?_
          exact h
    · replace h := h.2 c
      refine sg_iconst (pc := 98) dX10_fits_98 (by omega) ?_
      refine st_goto (pc := 99) dX10_fits_99 rfl ?_
      refine st_iadd (pc := 103) dX10_fits_103 ?_
      refine sg_istore_n (pc := 104) (ls' := [some (vr a0), some (vi a1), some (vi a2), some (vi (w32 (a3 + 1))), some (vi a4), some (vi a5), some (vi a6), some (vi a7), some (vi x2)]) dX10_fits_104 rfl (by show (3 : Nat) < 9; decide) rfl ?_
      refine Wp.nameL (ls2 := fun v => [some (vr a0), some (vi a1), some (vi a2), some (vi v), some (vi a4), some (vi a5), some (vi a6), some (vi a7), some (vi x2)]) 3 _ rfl (fun _ => rfl) (fun v6 ev6 => ?_)
      replace h := h v6 ev6
      refine st_iload (pc := 105) dX10_fits_105 rfl ?_
      refine st_iload (pc := 107) dX10_fits_107 rfl ?_
      refine st_iadd (pc := 109) dX10_fits_109 ?_
      refine sg_istore (pc := 110) (ls' := [some (vr a0), some (vi a1), some (vi a2), some (vi v6), some (vi (w32 (a4 + x2))), some (vi a5), some (vi a6), some (vi a7), some (vi x2)]) dX10_fits_110 (by show (4 : Nat) < 9; decide) rfl ?_
      refine Wp.nameL (ls2 := fun v => [some (vr a0), some (vi a1), some (vi a2), some (vi v6), some (vi v), some (vi a5), some (vi a6), some (vi a7), some (vi x2)]) 4 _ rfl (fun _ => rfl) (fun v7 ev7 => ?_)
      replace h := h v7 ev7
      refine st_iload (pc := 112) dX10_fits_112 rfl ?_
      refine sg_iconst (pc := 114) dX10_fits_114 (by omega) ?_
      refine st_icmpeq (pc := 115) (tgt := 128) dX10_fits_115 rfl (fun c => ?_) (fun c => ?_)
      · replace h := h.1 c
        refine st_iload (pc := 128) dX10_fits_128 rfl ?_
        refine sg_istore (pc := 130) (ls' := [some (vr a0), some (vi a1), some (vi a2), some (vi v6), some (vi v7), some (vi a7), some (vi a6), some (vi a7), some (vi x2)]) dX10_fits_130 (by show (5 : Nat) < 9; decide) rfl ?_
        refine st_iload (pc := 132) dX10_fits_132 rfl ?_
        refine sg_istore (pc := 134) (ls' := [some (vr a0), some (vi a1), some (vi a2), some (vi v6), some (vi v7), some (vi a7), some (vi x2), some (vi a7), some (vi x2)]) dX10_fits_134 (by show (6 : Nat) < 9; decide) rfl ?_
        refine sg_iinc (pc := 136) (ls' := [some (vr a0), some (vi a1), some (vi a2), some (vi v6), some (vi v7), some (vi a7), some (vi x2), some (vi (w32 (a7 + 1))), some (vi x2)]) dX10_fits_136 rfl rfl ?_
        refine Wp.nameL (ls2 := fun v => [some (vr a0), some (vi a1), some (vi a2), some (vi v6), some (vi v7), some (vi a7), some (vi x2), some (vi v), some (vi x2)]) 7 _ rfl (fun _ => rfl) (fun v8 ev8 => ?_)
        replace h := h v8 ev8
        refine st_goto (pc := 139) dX10_fits_139 rfl ?_
        refine Wp.drop 8 rfl ?_
        exact h
      · replace h := h.2 c
        refine st_iload (pc := 118) dX10_fits_118 rfl ?_
        refine st_iload (pc := 120) dX10_fits_120 rfl ?_
        refine st_icmpgt (pc := 122) (tgt := 128) dX10_fits_122 rfl (fun c => ?_) (fun c => ?_)
        · replace h := h.1 c
          refine st_iload (pc := 128) dX10_fits_128 rfl ?_
          refine sg_istore (pc := 130) (ls' := [some (vr a0), some (vi a1), some (vi a2), some (vi v6), some (vi v7), some (vi a7), some (vi a6), some (vi a7), some (vi x2)]) dX10_fits_130 (by show (5 : Nat) < 9; decide) rfl ?_
          refine st_iload (pc := 132) dX10_fits_132 rfl ?_
          refine sg_istore (pc := 134) (ls' := [some (vr a0), some (vi a1), some (vi a2), some (vi v6), some (vi v7), some (vi a7), some (vi x2), some (vi a7), some (vi x2)]) dX10_fits_134 (by show (6 : Nat) < 9; decide) rfl ?_
          refine sg_iinc (pc := 136) (ls' := [some (vr a0), some (vi a1), some (vi a2), some (vi v6), some (vi v7), some (vi a7), some (vi x2), some (vi (w32 (a7 + 1))), some (vi x2)]) dX10_fits_136 rfl rfl ?_
          refine Wp.nameL (ls2 := fun v => [some (vr a0), some (vi a1), some (vi a2), some (vi v6), some (vi v7), some (vi a7), some (vi x2), some (vi v), some (vi x2)]) 7 _ rfl (fun _ => rfl) (fun v9 ev9 => ?_)
          replace h := h v9 ev9
          refine st_goto (pc := 139) dX10_fits_139 rfl ?_
          refine Wp.drop 8 rfl ?_
          exact h
        · replace h := h.2 c
          refine st_goto (pc := 125) dX10_fits_125 rfl ?_
          refine sg_iinc (pc := 136) (ls' := [some (vr a0), some (vi a1), some (vi a2), some (vi v6), some (vi v7), some (vi a5), some (vi a6), some (vi (w32 (a7 + 1))), some (vi x2)]) dX10_fits_136 rfl rfl ?_
          refine Wp.nameL (ls2 := fun v => [some (vr a0), some (vi a1), some (vi a2), some (vi v6), some (vi v7), some (vi a5), some (vi a6), some (vi v), some (vi x2)]) 7 _ rfl (fun _ => rfl) (fun v10 ev10 => ?_)
          replace h := h v10 ev10
          refine st_goto (pc := 139) dX10_fits_139 rfl ?_
          refine Wp.drop 8 rfl ?_
          exact h

theorem sg_X10_reads_0 {d bc bs : Nat} {a0 : Nat} {μ : Mem} {Q : Option (Option AV) → Mem → Prop}
    (h : mK μ a0 = 11 ∧ (∀ m1, m1 = sD μ a0 15 0 → (¬ (mD m1 a0 59) = 0 → Wp (d + 1) bc bs mX10_reads 23 [some (vr a0), some (vi (-1)), some (vi 0), some (vi 0), some (vi 0), none, none, none] [] m1 Q) ∧ ((mD m1 a0 59) = 0 → Q (some (some (vi (-1)))) m1))) :
    Wp (d + 1) bc bs mX10_reads 0 [some (vr a0), none, none, none, none, none, none, none] [] μ Q := by
  refine st_aload_n (pc := 0) dX10_reads_0 rfl rfl ?_
  refine sg_iconst (pc := 1) dX10_reads_1 (by omega) ?_
  obtain ⟨hk1, h⟩ := h
  refine sg_pfI (pc := 2) (J := 15) dX10_reads_2 fl_10_142 rfl (Or.inl rfl) hk1 ?_
  refine Wp.nameM (fun m1 em1 => ?_)
  replace h := h m1 em1
  refine st_aload_n (pc := 5) dX10_reads_5 rfl rfl ?_
  refine sg_gfI (pc := 6) (J := 59) dX10_reads_6 fl_10_384 (by decide) rfl (by cases em1; exact hk1) ?_
  refine st_ifne (pc := 9) (tgt := 14) dX10_reads_9 rfl (fun c => ?_) (fun c => ?_)
  · replace h := h.1 c
    refine sg_iconst (pc := 14) dX10_reads_14 (by omega) ?_
    refine sg_istore_n (pc := 15) (ls' := [some (vr a0), some (vi (-1)), none, none, none, none, none, none]) dX10_reads_15 rfl (by show (1 : Nat) < 8; decide) rfl ?_
    refine sg_iconst (pc := 16) dX10_reads_16 (by omega) ?_
    refine sg_istore_n (pc := 17) (ls' := [some (vr a0), some (vi (-1)), some (vi 0), none, none, none, none, none]) dX10_reads_17 rfl (by show (2 : Nat) < 8; decide) rfl ?_
    refine sg_iconst (pc := 18) dX10_reads_18 (by omega) ?_
    refine sg_istore_n (pc := 19) (ls' := [some (vr a0), some (vi (-1)), some (vi 0), some (vi 0), none, none, none, none]) dX10_reads_19 rfl (by show (3 : Nat) < 8; decide) rfl ?_
    refine sg_iconst (pc := 20) dX10_reads_20 (by omega) ?_
    refine sg_istore (pc := 21) (ls' := [some (vr a0), some (vi (-1)), some (vi 0), some (vi 0), some (vi 0), none, none, none]) dX10_reads_21 (by show (4 : Nat) < 8; decide) rfl ?_
    exact h
  · replace h := h.2 c
    refine sg_iconst (pc := 12) dX10_reads_12 (by omega) ?_
    exact st_ireturn (pc := 13) dX10_reads_13 (Or.inl rfl) h

theorem sg_X10_reads_23 {d bc bs : Nat} {a0 : Nat} {a1 : Int} {a2 : Int} {a3 : Int} {a4 : Int} {μ : Mem} {Q : Option (Option AV) → Mem → Prop}
    (h : (20 < a4 → mK μ a0 = 11 ∧ (∀ m1, m1 = sD μ a0 14 0 → ∃ (mc1 ms1 : Nat) (K1 : Mem → Prop), Cl d mc1 ms1 mX10_tell [vr a0, vl a1] m1 (KV K1) ∧ mc1 ≤ bc ∧ ms1 ≤ bs ∧ (∀ m2, K1 m2 → mK m2 a0 = 11 ∧ ∃ (mc2 ms2 : Nat) (K2 : Mem → Prop), Cl d mc2 ms2 mX10_tell [vr a0, vl a2] m2 (KV K2) ∧ mc2 ≤ bc - mc1 ∧ ms2 ≤ bs - ms1 ∧ (∀ m3, K2 m3 → mK m3 a0 = 11 ∧ ∃ (mc3 ms3 : Nat) (K3 : Mem → Prop), Cl d mc3 ms3 mX10_tell [vr a0, vl a3] m3 (KV K3) ∧ mc3 ≤ bc - mc1 - mc2 ∧ ms3 ≤ bs - ms1 - ms2 ∧ (∀ m4, K3 m4 → Q (some (some (vi 0))) m4))))) ∧ (¬ 20 < a4 → Wp (d + 1) bc bs mX10_reads 33 [some (vr a0), some (vi a1), some (vi a2), some (vi a3), some (vi a4), some (vi 0), none, none] [] μ Q)) :
    Wp (d + 1) bc bs mX10_reads 23 [some (vr a0), some (vi a1), some (vi a2), some (vi a3), some (vi a4), none, none, none] [] μ Q := by
  refine st_iload (pc := 23) dX10_reads_23 rfl ?_
  refine sg_bipush (pc := 25) dX10_reads_25 (by omega) (by decide) ?_
  refine st_icmpgt (pc := 27) (tgt := 142) dX10_reads_27 rfl (fun c => ?_) (fun c => ?_)
  · replace h := h.1 c
    refine st_aload_n (pc := 142) dX10_reads_142 rfl rfl ?_
    refine sg_iconst (pc := 143) dX10_reads_143 (by omega) ?_
    obtain ⟨hk1, h⟩ := h
    refine sg_pfI (pc := 144) (J := 14) dX10_reads_144 fl_10_145 rfl (Or.inl rfl) hk1 ?_
    refine Wp.nameM (fun m1 em1 => ?_)
    replace h := h m1 em1
    refine st_aload_n (pc := 147) dX10_reads_147 rfl rfl ?_
    refine st_iload_n (pc := 148) dX10_reads_148 rfl rfl ?_
    refine st_i2l (pc := 149) dX10_reads_149 ?_
    obtain ⟨mc1, ms1, K1, hC, e1, e2, h⟩ := h
    refine sg_VV (pc := 150) (av := [vl a1]) (st := []) (K := K1) dX10_reads_150 ck_10_252 rfl (by decide) (by cases em1; exact hk1) (by show (0 : Nat) ≤ 8; decide) hC e1 e2 (fun m2 hK => ?_) rfl
    replace h := h m2 hK
    refine st_aload_n (pc := 153) dX10_reads_153 rfl rfl ?_
    refine st_iload_n (pc := 154) dX10_reads_154 rfl rfl ?_
    refine st_i2l (pc := 155) dX10_reads_155 ?_
    obtain ⟨hk2, h⟩ := h
    obtain ⟨mc2, ms2, K2, hC, e1, e2, h⟩ := h
    refine sg_VV (pc := 156) (av := [vl a2]) (st := []) (K := K2) dX10_reads_156 ck_10_252 rfl (by decide) hk2 (by show (0 : Nat) ≤ 8; decide) hC e1 e2 (fun m3 hK => ?_) rfl
    replace h := h m3 hK
    refine st_aload_n (pc := 159) dX10_reads_159 rfl rfl ?_
    refine st_iload_n (pc := 160) dX10_reads_160 rfl rfl ?_
    refine st_i2l (pc := 161) dX10_reads_161 ?_
    obtain ⟨hk3, h⟩ := h
    obtain ⟨mc3, ms3, K3, hC, e1, e2, h⟩ := h
    refine sg_VV (pc := 162) (av := [vl a3]) (st := []) (K := K3) dX10_reads_162 ck_10_252 rfl (by decide) hk3 (by show (0 : Nat) ≤ 8; decide) hC e1 e2 (fun m4 hK => ?_) rfl
    replace h := h m4 hK
    refine sg_iconst (pc := 165) dX10_reads_165 (by omega) ?_
    exact st_ireturn (pc := 166) dX10_reads_166 (Or.inl rfl) h
  · replace h := h.2 c
    refine sg_iconst (pc := 30) dX10_reads_30 (by omega) ?_
    refine sg_istore (pc := 31) (ls' := [some (vr a0), some (vi a1), some (vi a2), some (vi a3), some (vi a4), some (vi 0), none, none]) dX10_reads_31 (by show (5 : Nat) < 8; decide) rfl ?_
    exact h

theorem sg_X10_reads_33 {d bc bs : Nat} {a0 : Nat} {a1 : Int} {a2 : Int} {a3 : Int} {a4 : Int} {a5 : Int} {μ : Mem} {Q : Option (Option AV) → Mem → Prop}
    (h : (20 < a5 → ∀ v1, v1 = w32 (a4 + 1) → Wp (d + 1) bc bs mX10_reads 23 [some (vr a0), some (vi a1), some (vi a2), some (vi a3), some (vi v1), none, none, none] [] μ Q) ∧ (¬ 20 < a5 → Wp (d + 1) bc bs mX10_reads 46 [some (vr a0), some (vi a1), some (vi a2), some (vi a3), some (vi a4), some (vi a5), some (vi 0), some (vi 0)] [] μ Q)) :
    Wp (d + 1) bc bs mX10_reads 33 [some (vr a0), some (vi a1), some (vi a2), some (vi a3), some (vi a4), some (vi a5), none, none] [] μ Q := by
  refine st_iload (pc := 33) dX10_reads_33 rfl ?_
  refine sg_bipush (pc := 35) dX10_reads_35 (by omega) (by decide) ?_
  refine st_icmpgt (pc := 37) (tgt := 136) dX10_reads_37 rfl (fun c => ?_) (fun c => ?_)
  · replace h := h.1 c
    refine sg_iinc (pc := 136) (ls' := [some (vr a0), some (vi a1), some (vi a2), some (vi a3), some (vi (w32 (a4 + 1))), some (vi a5), none, none]) dX10_reads_136 rfl rfl ?_
    refine Wp.nameL (ls2 := fun v => [some (vr a0), some (vi a1), some (vi a2), some (vi a3), some (vi v), some (vi a5), none, none]) 4 _ rfl (fun _ => rfl) (fun v1 ev1 => ?_)
    replace h := h v1 ev1
    refine st_goto (pc := 139) dX10_reads_139 rfl ?_
    refine Wp.drop 5 rfl ?_
    exact h
  · replace h := h.2 c
    refine sg_iconst (pc := 40) dX10_reads_40 (by omega) ?_
    refine sg_istore (pc := 41) (ls' := [some (vr a0), some (vi a1), some (vi a2), some (vi a3), some (vi a4), some (vi a5), some (vi 0), none]) dX10_reads_41 (by show (6 : Nat) < 8; decide) rfl ?_
    refine sg_iconst (pc := 43) dX10_reads_43 (by omega) ?_
    refine sg_istore (pc := 44) (ls' := [some (vr a0), some (vi a1), some (vi a2), some (vi a3), some (vi a4), some (vi a5), some (vi 0), some (vi 0)]) dX10_reads_44 (by show (7 : Nat) < 8; decide) rfl ?_
    exact h

theorem sg_X10_reads_46 {d bc bs : Nat} {a0 : Nat} {a1 : Int} {a2 : Int} {a3 : Int} {a4 : Int} {a5 : Int} {a6 : Int} {a7 : Int} {μ : Mem} {Q : Option (Option AV) → Mem → Prop}
    (h : mK μ a0 = 11 ∧ (((mD μ a0 59) ≤ a7 → (a1 = (-1) → ∀ v1, v1 = w32 (a5 + 1) → Wp (d + 1) bc bs mX10_reads 33 [some (vr a0), some (vi a4), some (vi a5), some (vi a6), some (vi a4), some (vi v1), none, none] [] μ Q) ∧ (¬ a1 = (-1) → (a6 < a3 → ∀ v2, v2 = w32 (a5 + 1) → Wp (d + 1) bc bs mX10_reads 33 [some (vr a0), some (vi a4), some (vi a5), some (vi a6), some (vi a4), some (vi v2), none, none] [] μ Q) ∧ (¬ a6 < a3 → ∀ v3, v3 = w32 (a5 + 1) → Wp (d + 1) bc bs mX10_reads 33 [some (vr a0), some (vi a1), some (vi a2), some (vi a3), some (vi a4), some (vi v3), none, none] [] μ Q))) ∧ (¬ (mD μ a0 59) ≤ a7 → (mK μ (mR μ a0 60) = 20 ∨ ((mR μ a0 60) ≠ 0 ∧ mK μ (mR μ a0 60) = 40)) ∧ ((0 : Int) ≤ a7 ∧ a7 < (mN μ (mR μ a0 60) : Int)) ∧ ((mK μ (mR μ a0 61) = 20 ∨ ((mR μ a0 61) ≠ 0 ∧ mK μ (mR μ a0 61) = 40)) ∧ ((0 : Int) ≤ a7 ∧ a7 < (mN μ (mR μ a0 61) : Int)) ∧ (∃ (mc1 ms1 : Nat) (K1 : Int → Mem → Prop), Cl d mc1 ms1 mX10_bounded [vi (w32 ((w32 ((w32 ((mD μ (mR μ a0 60) a7) * a4)).tdiv 10)) - (w32 ((w32 ((mD μ (mR μ a0 61) a7) * a5)).tdiv 10))))] μ (KI K1) ∧ mc1 ≤ bc ∧ ms1 ≤ bs ∧ (∀ x1 m1, K1 x1 m1 → mK m1 a0 = 11 ∧ ((mK m1 (mR m1 a0 63) = 20 ∨ ((mR m1 a0 63) ≠ 0 ∧ mK m1 (mR m1 a0 63) = 40)) ∧ ((0 : Int) ≤ a7 ∧ a7 < (mN m1 (mR m1 a0 63) : Int)) ∧ (∃ (mc2 ms2 : Nat) (K2 : Int → Mem → Prop), Cl d mc2 ms2 mJ9_abs_0f7a4 [vi (w32 (x1 - (mD m1 (mR m1 a0 63) a7)))] m1 (KI K2) ∧ mc2 ≤ bc - mc1 ∧ ms2 ≤ bs - ms1 ∧ (∀ x2 m2, K2 x2 m2 → ∀ v4, v4 = w32 (a6 + x2) → ∀ v5, v5 = w32 (a7 + 1) → Wp (d + 1) (bc - mc1 - mc2) (bs - ms1 - ms2) mX10_reads 46 [some (vr a0), some (vi a1), some (vi a2), some (vi a3), some (vi a4), some (vi a5), some (vi v4), some (vi v5)] [] m2 Q))))))))) :
    Wp (d + 1) bc bs mX10_reads 46 [some (vr a0), some (vi a1), some (vi a2), some (vi a3), some (vi a4), some (vi a5), some (vi a6), some (vi a7)] [] μ Q := by
  refine st_iload (pc := 46) dX10_reads_46 rfl ?_
  refine st_aload_n (pc := 48) dX10_reads_48 rfl rfl ?_
  obtain ⟨hk1, h⟩ := h
  refine sg_gfI (pc := 49) (J := 59) dX10_reads_49 fl_10_384 (by decide) rfl hk1 ?_
  refine st_icmpge (pc := 52) (tgt := 107) dX10_reads_52 rfl (fun c => ?_) (fun c => ?_)
  · replace h := h.1 c
    refine st_iload_n (pc := 107) dX10_reads_107 rfl rfl ?_
    refine sg_iconst (pc := 108) dX10_reads_108 (by omega) ?_
    refine st_icmpeq (pc := 109) (tgt := 121) dX10_reads_109 rfl (fun c => ?_) (fun c => ?_)
    · replace h := h.1 c
      refine st_iload (pc := 121) dX10_reads_121 rfl ?_
      refine sg_istore_n (pc := 123) (ls' := [some (vr a0), some (vi a4), some (vi a2), some (vi a3), some (vi a4), some (vi a5), some (vi a6), some (vi a7)]) dX10_reads_123 rfl (by show (1 : Nat) < 8; decide) rfl ?_
      refine st_iload (pc := 124) dX10_reads_124 rfl ?_
      refine sg_istore_n (pc := 126) (ls' := [some (vr a0), some (vi a4), some (vi a5), some (vi a3), some (vi a4), some (vi a5), some (vi a6), some (vi a7)]) dX10_reads_126 rfl (by show (2 : Nat) < 8; decide) rfl ?_
      refine st_iload (pc := 127) dX10_reads_127 rfl ?_
      refine sg_istore_n (pc := 129) (ls' := [some (vr a0), some (vi a4), some (vi a5), some (vi a6), some (vi a4), some (vi a5), some (vi a6), some (vi a7)]) dX10_reads_129 rfl (by show (3 : Nat) < 8; decide) rfl ?_
      refine sg_iinc (pc := 130) (ls' := [some (vr a0), some (vi a4), some (vi a5), some (vi a6), some (vi a4), some (vi (w32 (a5 + 1))), some (vi a6), some (vi a7)]) dX10_reads_130 rfl rfl ?_
      refine Wp.nameL (ls2 := fun v => [some (vr a0), some (vi a4), some (vi a5), some (vi a6), some (vi a4), some (vi v), some (vi a6), some (vi a7)]) 5 _ rfl (fun _ => rfl) (fun v1 ev1 => ?_)
      replace h := h v1 ev1
      refine st_goto (pc := 133) dX10_reads_133 rfl ?_
      refine Wp.drop 6 rfl ?_
      refine Wp.drop 7 rfl ?_
      exact h
    · replace h := h.2 c
      refine st_iload (pc := 112) dX10_reads_112 rfl ?_
      refine st_iload_n (pc := 114) dX10_reads_114 rfl rfl ?_
      refine st_icmplt (pc := 115) (tgt := 121) dX10_reads_115 rfl (fun c => ?_) (fun c => ?_)
      · replace h := h.1 c
        refine st_iload (pc := 121) dX10_reads_121 rfl ?_
        refine sg_istore_n (pc := 123) (ls' := [some (vr a0), some (vi a4), some (vi a2), some (vi a3), some (vi a4), some (vi a5), some (vi a6), some (vi a7)]) dX10_reads_123 rfl (by show (1 : Nat) < 8; decide) rfl ?_
        refine st_iload (pc := 124) dX10_reads_124 rfl ?_
        refine sg_istore_n (pc := 126) (ls' := [some (vr a0), some (vi a4), some (vi a5), some (vi a3), some (vi a4), some (vi a5), some (vi a6), some (vi a7)]) dX10_reads_126 rfl (by show (2 : Nat) < 8; decide) rfl ?_
        refine st_iload (pc := 127) dX10_reads_127 rfl ?_
        refine sg_istore_n (pc := 129) (ls' := [some (vr a0), some (vi a4), some (vi a5), some (vi a6), some (vi a4), some (vi a5), some (vi a6), some (vi a7)]) dX10_reads_129 rfl (by show (3 : Nat) < 8; decide) rfl ?_
        refine sg_iinc (pc := 130) (ls' := [some (vr a0), some (vi a4), some (vi a5), some (vi a6), some (vi a4), some (vi (w32 (a5 + 1))), some (vi a6), some (vi a7)]) dX10_reads_130 rfl rfl ?_
        refine Wp.nameL (ls2 := fun v => [some (vr a0), some (vi a4), some (vi a5), some (vi a6), some (vi a4), some (vi v), some (vi a6), some (vi a7)]) 5 _ rfl (fun _ => rfl) (fun v2 ev2 => ?_)
        replace h := h v2 ev2
        refine st_goto (pc := 133) dX10_reads_133 rfl ?_
        refine Wp.drop 6 rfl ?_
        refine Wp.drop 7 rfl ?_
        exact h
      · replace h := h.2 c
        refine st_goto (pc := 118) dX10_reads_118 rfl ?_
        refine sg_iinc (pc := 130) (ls' := [some (vr a0), some (vi a1), some (vi a2), some (vi a3), some (vi a4), some (vi (w32 (a5 + 1))), some (vi a6), some (vi a7)]) dX10_reads_130 rfl rfl ?_
        refine Wp.nameL (ls2 := fun v => [some (vr a0), some (vi a1), some (vi a2), some (vi a3), some (vi a4), some (vi v), some (vi a6), some (vi a7)]) 5 _ rfl (fun _ => rfl) (fun v3 ev3 => ?_)
        replace h := h v3 ev3
        refine st_goto (pc := 133) dX10_reads_133 rfl ?_
        refine Wp.drop 6 rfl ?_
        refine Wp.drop 7 rfl ?_
        exact h
  · replace h := h.2 c
    refine st_iload (pc := 55) dX10_reads_55 rfl ?_
    refine st_aload_n (pc := 57) dX10_reads_57 rfl rfl ?_
    refine sg_gfR (pc := 58) (J := 60) dX10_reads_58 fl_10_120 rfl hk1 ?_
    refine st_iload (pc := 61) dX10_reads_61 rfl ?_
    obtain ⟨hk2, h⟩ := h
    obtain ⟨h1, h⟩ := h
    refine sg_iaload (pc := 63) dX10_reads_63 hk2 h1 ?_
    refine st_iload (pc := 64) dX10_reads_64 rfl ?_
    refine st_imul (pc := 66) dX10_reads_66 ?_
    refine sg_bipush (pc := 67) dX10_reads_67 (by omega) (by decide) ?_
    refine st_idiv (pc := 69) dX10_reads_69 (by omega) ?_
    refine st_aload_n (pc := 70) dX10_reads_70 rfl rfl ?_
    refine sg_gfR (pc := 71) (J := 61) dX10_reads_71 fl_10_123 rfl hk1 ?_
    refine st_iload (pc := 74) dX10_reads_74 rfl ?_
    obtain ⟨hk3, h⟩ := h
    obtain ⟨h1, h⟩ := h
    refine sg_iaload (pc := 76) dX10_reads_76 hk3 h1 ?_
    refine st_iload (pc := 77) dX10_reads_77 rfl ?_
    refine st_imul (pc := 79) dX10_reads_79 ?_
    refine sg_bipush (pc := 80) dX10_reads_80 (by omega) (by decide) ?_
    refine st_idiv (pc := 82) dX10_reads_82 (by omega) ?_
    refine st_isub (pc := 83) dX10_reads_83 ?_
    obtain ⟨mc1, ms1, K1, hC, e1, e2, h⟩ := h
    refine sg_SI (pc := 84) (av := [vi (w32 ((w32 ((w32 ((mD μ (mR μ a0 60) a7) * a4)).tdiv 10)) - (w32 ((w32 ((mD μ (mR μ a0 61) a7) * a5)).tdiv 10))))]) (st := [vi a6]) (K := K1) dX10_reads_84 ck_10_277 rfl (by show (1 : Nat) ≤ 8; decide) hC e1 e2 (fun x1 m1 hK => ?_) rfl
    replace h := h x1 m1 hK
    refine st_aload_n (pc := 87) dX10_reads_87 rfl rfl ?_
    obtain ⟨hk4, h⟩ := h
    refine sg_gfR (pc := 88) (J := 63) dX10_reads_88 fl_10_129 rfl hk4 ?_
    refine st_iload (pc := 91) dX10_reads_91 rfl ?_
    obtain ⟨hk5, h⟩ := h
    obtain ⟨h1, h⟩ := h
    refine sg_iaload (pc := 93) dX10_reads_93 hk5 h1 ?_
    refine st_isub (pc := 94) dX10_reads_94 ?_
    obtain ⟨mc2, ms2, K2, hC, e1, e2, h⟩ := h
    refine sg_SI (pc := 95) (av := [vi (w32 (x1 - (mD m1 (mR m1 a0 63) a7)))]) (st := [vi a6]) (K := K2) dX10_reads_95 ck_10_248 rfl (by show (1 : Nat) ≤ 8; decide) hC e1 e2 (fun x2 m2 hK => ?_) rfl
    replace h := h x2 m2 hK
    refine st_iadd (pc := 98) dX10_reads_98 ?_
    refine sg_istore (pc := 99) (ls' := [some (vr a0), some (vi a1), some (vi a2), some (vi a3), some (vi a4), some (vi a5), some (vi (w32 (a6 + x2))), some (vi a7)]) dX10_reads_99 (by show (6 : Nat) < 8; decide) rfl ?_
    refine Wp.nameL (ls2 := fun v => [some (vr a0), some (vi a1), some (vi a2), some (vi a3), some (vi a4), some (vi a5), some (vi v), some (vi a7)]) 6 _ rfl (fun _ => rfl) (fun v4 ev4 => ?_)
    replace h := h v4 ev4
    refine sg_iinc (pc := 101) (ls' := [some (vr a0), some (vi a1), some (vi a2), some (vi a3), some (vi a4), some (vi a5), some (vi v4), some (vi (w32 (a7 + 1)))]) dX10_reads_101 rfl rfl ?_
    refine Wp.nameL (ls2 := fun v => [some (vr a0), some (vi a1), some (vi a2), some (vi a3), some (vi a4), some (vi a5), some (vi v4), some (vi v)]) 7 _ rfl (fun _ => rfl) (fun v5 ev5 => ?_)
    replace h := h v5 ev5
    refine st_goto (pc := 104) dX10_reads_104 rfl ?_
    exact h

theorem sg_X10_seed_0 {d bc bs : Nat} {a0 : Nat} {a1 : Int} {μ : Mem} {Q : Option (Option AV) → Mem → Prop}
    (h : mK μ a0 = 11 ∧ (∀ m1, m1 = sD μ a0 15 0 → ∀ v1, v1 = mD m1 a0 10 → (∀ m2, m2 = sD m1 a0 10 a1 → Q (some (some (vi v1))) m2))) :
    Wp d bc bs mX10_seed 0 [some (vr a0), some (vi a1), none] [] μ Q := by
  refine st_aload_n (pc := 0) dX10_seed_0 rfl rfl ?_
  refine sg_iconst (pc := 1) dX10_seed_1 (by omega) ?_
  obtain ⟨hk1, h⟩ := h
  refine sg_pfI (pc := 2) (J := 15) dX10_seed_2 fl_10_142 rfl (Or.inl rfl) hk1 ?_
  refine Wp.nameM (fun m1 em1 => ?_)
  replace h := h m1 em1
  refine st_aload_n (pc := 5) dX10_seed_5 rfl rfl ?_
  refine sg_gfI (pc := 6) (J := 10) dX10_seed_6 fl_10_38 (by decide) rfl (by cases em1; exact hk1) ?_
  refine sg_istore_n (pc := 9) (ls' := [some (vr a0), some (vi a1), some (vi (mD m1 a0 10))]) dX10_seed_9 rfl (by show (2 : Nat) < 3; decide) rfl ?_
  refine Wp.nameL (ls2 := fun v => [some (vr a0), some (vi a1), some (vi v)]) 2 _ rfl (fun _ => rfl) (fun v1 ev1 => ?_)
  replace h := h v1 ev1
  refine st_aload_n (pc := 10) dX10_seed_10 rfl rfl ?_
  refine st_iload_n (pc := 11) dX10_seed_11 rfl rfl ?_
  refine sg_pfI (pc := 12) (J := 10) dX10_seed_12 fl_10_38 rfl (Or.inl rfl) (by cases em1; exact hk1) ?_
  refine Wp.nameM (fun m2 em2 => ?_)
  replace h := h m2 em2
  refine st_iload_n (pc := 15) dX10_seed_15 rfl rfl ?_
  exact st_ireturn (pc := 16) dX10_seed_16 (Or.inl rfl) h

theorem sg_X10_keep_0 {d bc bs : Nat} {a0 : Nat} {a1 : Int} {μ : Mem} {Q : Option (Option AV) → Mem → Prop}
    (h : mK μ a0 = 11 ∧ (∀ m1, m1 = sD μ a0 15 0 → ∃ (mc1 ms1 : Nat) (K1 : Int → Mem → Prop), Cl d mc1 ms1 mX10_in [vi a1, vi 0, vi 2] m1 (KI K1) ∧ mc1 ≤ bc ∧ ms1 ≤ bs ∧ (∀ x1 m2, K1 x1 m2 → (¬ x1 = 0 → mK m2 a0 = 11 ∧ (mK m2 (mR m2 a0 64) = 24 ∧ ((0 : Int) ≤ a1 ∧ a1 < (mN m2 (mR m2 a0 64) : Int)) ∧ (∀ m3, m3 = sD m2 (mR m2 a0 64) a1 1 → mK m3 (mR m3 a0 65) = 20 ∧ ((0 : Int) ≤ a1 ∧ a1 < (mN m3 (mR m3 a0 65) : Int)) ∧ (∀ m4, m4 = sD m3 (mR m3 a0 65) a1 (mD m3 a0 16) → ∃ (mc2 ms2 : Nat) (K2 : Mem → Prop), Cl d mc2 ms2 mX10_putBy [vr a0, vi a1] m4 (KV K2) ∧ mc2 ≤ bc - mc1 ∧ ms2 ≤ bs - ms1 ∧ (∀ m5, K2 m5 → Q (some (some (vi 1))) m5))))) ∧ (x1 = 0 → Q (some (some (vi 0))) m2)))) :
    Wp (d + 1) bc bs mX10_keep 0 [some (vr a0), some (vi a1)] [] μ Q := by
  refine st_aload_n (pc := 0) dX10_keep_0 rfl rfl ?_
  refine sg_iconst (pc := 1) dX10_keep_1 (by omega) ?_
  obtain ⟨hk1, h⟩ := h
  refine sg_pfI (pc := 2) (J := 15) dX10_keep_2 fl_10_142 rfl (Or.inl rfl) hk1 ?_
  refine Wp.nameM (fun m1 em1 => ?_)
  replace h := h m1 em1
  refine st_iload_n (pc := 5) dX10_keep_5 rfl rfl ?_
  refine sg_iconst (pc := 6) dX10_keep_6 (by omega) ?_
  refine sg_iconst (pc := 7) dX10_keep_7 (by omega) ?_
  obtain ⟨mc1, ms1, K1, hC, e1, e2, h⟩ := h
  refine sg_SI (pc := 8) (av := [vi a1, vi 0, vi 2]) (st := []) (K := K1) dX10_keep_8 ck_10_151 rfl (by show (0 : Nat) ≤ 8; decide) hC e1 e2 (fun x1 m2 hK => ?_) rfl
  replace h := h x1 m2 hK
  refine st_ifne (pc := 11) (tgt := 16) dX10_keep_11 rfl (fun c => ?_) (fun c => ?_)
  · replace h := h.1 c
    refine st_aload_n (pc := 16) dX10_keep_16 rfl rfl ?_
    obtain ⟨hk2, h⟩ := h
    refine sg_gfR (pc := 17) (J := 64) dX10_keep_17 fl_10_132 rfl hk2 ?_
    refine st_iload_n (pc := 20) dX10_keep_20 rfl rfl ?_
    refine sg_iconst (pc := 21) dX10_keep_21 (by omega) ?_
    obtain ⟨hk3, h⟩ := h
    obtain ⟨h1, h⟩ := h
    refine st_zastore (pc := 22) dX10_keep_22 hk3 h1.1 h1.2 (by omega) ?_
    refine Wp.nameM (fun m3 em3 => ?_)
    replace h := h m3 em3
    refine st_aload_n (pc := 23) dX10_keep_23 rfl rfl ?_
    refine sg_gfR (pc := 24) (J := 65) dX10_keep_24 fl_10_136 rfl (by cases em3; exact hk2) ?_
    refine st_iload_n (pc := 27) dX10_keep_27 rfl rfl ?_
    refine st_aload_n (pc := 28) dX10_keep_28 rfl rfl ?_
    refine sg_gfI (pc := 29) (J := 16) dX10_keep_29 fl_10_155 (by decide) rfl (by cases em3; exact hk2) ?_
    obtain ⟨hk4, h⟩ := h
    obtain ⟨h1, h⟩ := h
    refine st_iastore (pc := 32) dX10_keep_32 hk4 h1.1 h1.2 ?_
    refine Wp.nameM (fun m4 em4 => ?_)
    replace h := h m4 em4
    refine st_aload_n (pc := 33) dX10_keep_33 rfl rfl ?_
    refine st_iload_n (pc := 34) dX10_keep_34 rfl rfl ?_
    obtain ⟨mc2, ms2, K2, hC, e1, e2, h⟩ := h
    refine sg_VV (pc := 35) (av := [vi a1]) (st := []) (K := K2) dX10_keep_35 ck_10_326 rfl (by decide) (by cases em4; cases em3; exact hk2) (by show (0 : Nat) ≤ 8; decide) hC e1 e2 (fun m5 hK => ?_) rfl
    replace h := h m5 hK
    refine sg_iconst (pc := 38) dX10_keep_38 (by omega) ?_
    exact st_ireturn (pc := 39) dX10_keep_39 (Or.inr ⟨rfl, by omega⟩) h
  · replace h := h.2 c
    refine sg_iconst (pc := 14) dX10_keep_14 (by omega) ?_
    exact st_ireturn (pc := 15) dX10_keep_15 (Or.inr ⟨rfl, by omega⟩) h

theorem sg_X10_again_0 {d bc bs : Nat} {a0 : Nat} {a1 : Int} {μ : Mem} {Q : Option (Option AV) → Mem → Prop}
    (h : mK μ a0 = 11 ∧ (∀ m1, m1 = sD μ a0 15 0 → ∃ (mc1 ms1 : Nat) (K1 : Int → Mem → Prop), Cl d mc1 ms1 mX10_in [vi a1, vi 0, vi 2] m1 (KI K1) ∧ mc1 ≤ bc ∧ ms1 ≤ bs ∧ (∀ x1 m2, K1 x1 m2 → (x1 = 0 → Q (some (some (vi 0))) m2) ∧ (¬ x1 = 0 → mK m2 a0 = 11 ∧ (mK m2 (mR m2 a0 64) = 24 ∧ ((0 : Int) ≤ a1 ∧ a1 < (mN m2 (mR m2 a0 64) : Int)) ∧ (((mD m2 (mR m2 a0 64) a1) = 0 → Q (some (some (vi 0))) m2) ∧ (¬ (mD m2 (mR m2 a0 64) a1) = 0 → (mK m2 (mR m2 a0 65) = 20 ∨ ((mR m2 a0 65) ≠ 0 ∧ mK m2 (mR m2 a0 65) = 40)) ∧ ((0 : Int) ≤ a1 ∧ a1 < (mN m2 (mR m2 a0 65) : Int)) ∧ (((mD m2 (mR m2 a0 65) a1) = (mD m2 a0 16) → ∃ (mc2 ms2 : Nat) (K2 : Mem → Prop), Cl d mc2 ms2 mX10_bringBack [vr a0, vi a1] m2 (KV K2) ∧ mc2 ≤ bc - mc1 ∧ ms2 ≤ bs - ms1 ∧ (∀ m3, K2 m3 → Q (some (some (vi 1))) m3)) ∧ (¬ (mD m2 (mR m2 a0 65) a1) = (mD m2 a0 16) → Q (some (some (vi 0))) m2))))))))) :
    Wp (d + 1) bc bs mX10_again 0 [some (vr a0), some (vi a1)] [] μ Q := by
  refine st_aload_n (pc := 0) dX10_again_0 rfl rfl ?_
  refine sg_iconst (pc := 1) dX10_again_1 (by omega) ?_
  obtain ⟨hk1, h⟩ := h
  refine sg_pfI (pc := 2) (J := 15) dX10_again_2 fl_10_142 rfl (Or.inl rfl) hk1 ?_
  refine Wp.nameM (fun m1 em1 => ?_)
  replace h := h m1 em1
  refine st_iload_n (pc := 5) dX10_again_5 rfl rfl ?_
  refine sg_iconst (pc := 6) dX10_again_6 (by omega) ?_
  refine sg_iconst (pc := 7) dX10_again_7 (by omega) ?_
  obtain ⟨mc1, ms1, K1, hC, e1, e2, h⟩ := h
  refine sg_SI (pc := 8) (av := [vi a1, vi 0, vi 2]) (st := []) (K := K1) dX10_again_8 ck_10_151 rfl (by show (0 : Nat) ≤ 8; decide) hC e1 e2 (fun x1 m2 hK => ?_) rfl
  replace h := h x1 m2 hK
  refine st_ifeq (pc := 11) (tgt := 36) dX10_again_11 rfl (fun c => ?_) (fun c => ?_)
  · replace h := h.1 c
    refine sg_iconst (pc := 36) dX10_again_36 (by omega) ?_
    exact st_ireturn (pc := 37) dX10_again_37 (Or.inr ⟨rfl, by omega⟩) h
  · replace h := h.2 c
    refine st_aload_n (pc := 14) dX10_again_14 rfl rfl ?_
    obtain ⟨hk2, h⟩ := h
    refine sg_gfR (pc := 15) (J := 64) dX10_again_15 fl_10_132 rfl hk2 ?_
    refine st_iload_n (pc := 18) dX10_again_18 rfl rfl ?_
    obtain ⟨hk3, h⟩ := h
    obtain ⟨h1, h⟩ := h
    refine st_zaload (pc := 19) dX10_again_19 hk3 h1.1 h1.2 ?_
    refine st_ifeq (pc := 20) (tgt := 36) dX10_again_20 rfl (fun c => ?_) (fun c => ?_)
    · replace h := h.1 c
      refine sg_iconst (pc := 36) dX10_again_36 (by omega) ?_
      exact st_ireturn (pc := 37) dX10_again_37 (Or.inr ⟨rfl, by omega⟩) h
    · replace h := h.2 c
      refine st_aload_n (pc := 23) dX10_again_23 rfl rfl ?_
      refine sg_gfR (pc := 24) (J := 65) dX10_again_24 fl_10_136 rfl hk2 ?_
      refine st_iload_n (pc := 27) dX10_again_27 rfl rfl ?_
      obtain ⟨hk4, h⟩ := h
      obtain ⟨h1, h⟩ := h
      refine sg_iaload (pc := 28) dX10_again_28 hk4 h1 ?_
      refine st_aload_n (pc := 29) dX10_again_29 rfl rfl ?_
      refine sg_gfI (pc := 30) (J := 16) dX10_again_30 fl_10_155 (by decide) rfl hk2 ?_
      refine st_icmpeq (pc := 33) (tgt := 38) dX10_again_33 rfl (fun c => ?_) (fun c => ?_)
      · replace h := h.1 c
        refine st_aload_n (pc := 38) dX10_again_38 rfl rfl ?_
        refine st_iload_n (pc := 39) dX10_again_39 rfl rfl ?_
        obtain ⟨mc2, ms2, K2, hC, e1, e2, h⟩ := h
        refine sg_VV (pc := 40) (av := [vi a1]) (st := []) (K := K2) dX10_again_40 ck_10_329 rfl (by decide) hk2 (by show (0 : Nat) ≤ 8; decide) hC e1 e2 (fun m3 hK => ?_) rfl
        replace h := h m3 hK
        refine sg_iconst (pc := 43) dX10_again_43 (by omega) ?_
        exact st_ireturn (pc := 44) dX10_again_44 (Or.inr ⟨rfl, by omega⟩) h
      · replace h := h.2 c
        refine sg_iconst (pc := 36) dX10_again_36 (by omega) ?_
        exact st_ireturn (pc := 37) dX10_again_37 (Or.inr ⟨rfl, by omega⟩) h

theorem sg_X10_count_0 {d bc bs : Nat} {a0 : Nat} {a1 : Int} {μ : Mem} {Q : Option (Option AV) → Mem → Prop}
    (h : mK μ a0 = 11 ∧ (∀ m1, m1 = sD μ a0 15 0 → ((a1 < 0 ∨ 9 < a1) → Q (some (some (vi (-1)))) m1) ∧ (a1 = 0 → Q (some (some (vi (mD m1 a0 0)))) m1) ∧ (a1 = 1 → Q (some (some (vi (mD m1 a0 1)))) m1) ∧ (a1 = 2 → Q (some (some (vi (mD m1 a0 2)))) m1) ∧ (a1 = 3 → Q (some (some (vi (mD m1 a0 5)))) m1) ∧ (a1 = 4 → Wp d bc bs mX10_count 86 [some (vr a0), some (vi a1), some (vi 0), some (vi 0)] [] m1 Q) ∧ (a1 = 5 → Q (some (some (vi (mD m1 a0 57)))) m1) ∧ (a1 = 6 → Q (some (some (vi (mD m1 a0 59)))) m1) ∧ (a1 = 7 → Q (some (some (vi (mD m1 a0 14)))) m1) ∧ (a1 = 8 → Q (some (some (vi (mD m1 a0 12)))) m1) ∧ (a1 = 9 → Wp d bc bs mX10_count 140 [some (vr a0), some (vi a1), some (vi 0), some (vi 0)] [] m1 Q))) :
    Wp d bc bs mX10_count 0 [some (vr a0), some (vi a1), none, none] [] μ Q := by
  refine st_aload_n (pc := 0) dX10_count_0 rfl rfl ?_
  refine sg_iconst (pc := 1) dX10_count_1 (by omega) ?_
  obtain ⟨hk1, h⟩ := h
  refine sg_pfI (pc := 2) (J := 15) dX10_count_2 fl_10_142 rfl (Or.inl rfl) hk1 ?_
  refine Wp.nameM (fun m1 em1 => ?_)
  replace h := h m1 em1
  refine sg_iconst (pc := 5) dX10_count_5 (by omega) ?_
  refine sg_istore_n (pc := 6) (ls' := [some (vr a0), some (vi a1), some (vi 0), none]) dX10_count_6 rfl (by show (2 : Nat) < 4; decide) rfl ?_
  refine st_iload_n (pc := 7) dX10_count_7 rfl rfl ?_
  by_cases c1 : a1 < 0 ∨ 9 < a1
  · replace h := h.1 c1
    refine st_swOut (pc := 8) (tgt := 177) dX10_count_8 c1 rfl ?_
    refine sg_iconst (pc := 177) dX10_count_177 (by omega) ?_
    exact st_ireturn (pc := 178) dX10_count_178 (Or.inl rfl) h
  replace h := h.2
  by_cases e0 : a1 = 0
  · replace h := h.1 e0
    refine st_swIn (pc := 8) (off := 56) (tgt := 64) dX10_count_8 (by omega) (by omega) (by rw [e0]; rfl) rfl ?_
    refine st_aload_n (pc := 64) dX10_count_64 rfl rfl ?_
    refine sg_gfI (pc := 65) (J := 0) dX10_count_65 fl_10_9 (by decide) rfl (by cases em1; exact hk1) ?_
    exact st_ireturn (pc := 68) dX10_count_68 (Or.inl rfl) h
  replace h := h.2
  by_cases e1 : a1 = 1
  · replace h := h.1 e1
    refine st_swIn (pc := 8) (off := 61) (tgt := 69) dX10_count_8 (by omega) (by omega) (by rw [e1]; rfl) rfl ?_
    refine st_aload_n (pc := 69) dX10_count_69 rfl rfl ?_
    refine sg_gfI (pc := 70) (J := 1) dX10_count_70 fl_10_13 (by decide) rfl (by cases em1; exact hk1) ?_
    exact st_ireturn (pc := 73) dX10_count_73 (Or.inl rfl) h
  replace h := h.2
  by_cases e2 : a1 = 2
  · replace h := h.1 e2
    refine st_swIn (pc := 8) (off := 66) (tgt := 74) dX10_count_8 (by omega) (by omega) (by rw [e2]; rfl) rfl ?_
    refine st_aload_n (pc := 74) dX10_count_74 rfl rfl ?_
    refine sg_gfI (pc := 75) (J := 2) dX10_count_75 fl_10_16 (by decide) rfl (by cases em1; exact hk1) ?_
    exact st_ireturn (pc := 78) dX10_count_78 (Or.inl rfl) h
  replace h := h.2
  by_cases e3 : a1 = 3
  · replace h := h.1 e3
    refine st_swIn (pc := 8) (off := 71) (tgt := 79) dX10_count_8 (by omega) (by omega) (by rw [e3]; rfl) rfl ?_
    refine st_aload_n (pc := 79) dX10_count_79 rfl rfl ?_
    refine sg_gfI (pc := 80) (J := 5) dX10_count_80 fl_10_148 (by decide) rfl (by cases em1; exact hk1) ?_
    exact st_ireturn (pc := 83) dX10_count_83 (Or.inl rfl) h
  replace h := h.2
  by_cases e4 : a1 = 4
  · replace h := h.1 e4
    refine st_swIn (pc := 8) (off := 76) (tgt := 84) dX10_count_8 (by omega) (by omega) (by rw [e4]; rfl) rfl ?_
    refine sg_iconst (pc := 84) dX10_count_84 (by omega) ?_
    refine sg_istore_n (pc := 85) (ls' := [some (vr a0), some (vi a1), some (vi 0), some (vi 0)]) dX10_count_85 rfl (by show (3 : Nat) < 4; decide) rfl ?_
    exact h
  replace h := h.2
  by_cases e5 : a1 = 5
  · replace h := h.1 e5
    refine st_swIn (pc := 8) (off := 110) (tgt := 118) dX10_count_8 (by omega) (by omega) (by rw [e5]; rfl) rfl ?_
    refine st_aload_n (pc := 118) dX10_count_118 rfl rfl ?_
    refine sg_gfI (pc := 119) (J := 57) dX10_count_119 fl_10_378 (by decide) rfl (by cases em1; exact hk1) ?_
    exact st_ireturn (pc := 122) dX10_count_122 (Or.inl rfl) h
  replace h := h.2
  by_cases e6 : a1 = 6
  · replace h := h.1 e6
    refine st_swIn (pc := 8) (off := 115) (tgt := 123) dX10_count_8 (by omega) (by omega) (by rw [e6]; rfl) rfl ?_
    refine st_aload_n (pc := 123) dX10_count_123 rfl rfl ?_
    refine sg_gfI (pc := 124) (J := 59) dX10_count_124 fl_10_384 (by decide) rfl (by cases em1; exact hk1) ?_
    exact st_ireturn (pc := 127) dX10_count_127 (Or.inl rfl) h
  replace h := h.2
  by_cases e7 : a1 = 7
  · replace h := h.1 e7
    refine st_swIn (pc := 8) (off := 120) (tgt := 128) dX10_count_8 (by omega) (by omega) (by rw [e7]; rfl) rfl ?_
    refine st_aload_n (pc := 128) dX10_count_128 rfl rfl ?_
    refine sg_gfI (pc := 129) (J := 14) dX10_count_129 fl_10_145 (by decide) rfl (by cases em1; exact hk1) ?_
    exact st_ireturn (pc := 132) dX10_count_132 (Or.inl rfl) h
  replace h := h.2
  by_cases e8 : a1 = 8
  · replace h := h.1 e8
    refine st_swIn (pc := 8) (off := 125) (tgt := 133) dX10_count_8 (by omega) (by omega) (by rw [e8]; rfl) rfl ?_
    refine st_aload_n (pc := 133) dX10_count_133 rfl rfl ?_
    refine sg_gfI (pc := 134) (J := 12) dX10_count_134 fl_10_191 (by decide) rfl (by cases em1; exact hk1) ?_
    exact st_ireturn (pc := 137) dX10_count_137 (Or.inl rfl) h
  replace h := h.2
  by_cases e9 : a1 = 9
  · replace h := h e9
    refine st_swIn (pc := 8) (off := 130) (tgt := 138) dX10_count_8 (by omega) (by omega) (by rw [e9]; rfl) rfl ?_
    refine sg_iconst (pc := 138) dX10_count_138 (by omega) ?_
    refine sg_istore_n (pc := 139) (ls' := [some (vr a0), some (vi a1), some (vi 0), some (vi 0)]) dX10_count_139 rfl (by show (3 : Nat) < 4; decide) rfl ?_
    exact h
  exfalso
  omega

theorem sg_X10_count_86 {d bc bs : Nat} {a0 : Nat} {a1 : Int} {a2 : Int} {a3 : Int} {μ : Mem} {Q : Option (Option AV) → Mem → Prop}
    (h : (3 ≤ a3 → Q (some (some (vi a2))) μ) ∧ (¬ 3 ≤ a3 → mK μ a0 = 11 ∧ ((mK μ (mR μ a0 35) = 20 ∨ ((mR μ a0 35) ≠ 0 ∧ mK μ (mR μ a0 35) = 40)) ∧ ((0 : Int) ≤ a3 ∧ a3 < (mN μ (mR μ a0 35) : Int)) ∧ (((mD μ (mR μ a0 35) a3) ≤ 0 → ∀ v1, v1 = bOr a2 0 → ∀ v2, v2 = w32 (a3 + 1) → Wp d bc bs mX10_count 86 [some (vr a0), some (vi a1), some (vi v1), some (vi v2)] [] μ Q) ∧ (¬ (mD μ (mR μ a0 35) a3) ≤ 0 → ∀ v3, v3 = bOr a2 (bShl 1 a3) → ∀ v4, v4 = w32 (a3 + 1) → Wp d bc bs mX10_count 86 [some (vr a0), some (vi a1), some (vi v3), some (vi v4)] [] μ Q))))) :
    Wp d bc bs mX10_count 86 [some (vr a0), some (vi a1), some (vi a2), some (vi a3)] [] μ Q := by
  refine st_iload_n (pc := 86) dX10_count_86 rfl rfl ?_
  refine sg_iconst (pc := 87) dX10_count_87 (by omega) ?_
  refine st_icmpge (pc := 88) (tgt := 116) dX10_count_88 rfl (fun c => ?_) (fun c => ?_)
  · replace h := h.1 c
    refine st_iload_n (pc := 116) dX10_count_116 rfl rfl ?_
    exact st_ireturn (pc := 117) dX10_count_117 (Or.inl rfl) h
  · replace h := h.2 c
    refine st_iload_n (pc := 91) dX10_count_91 rfl rfl ?_
    refine st_aload_n (pc := 92) dX10_count_92 rfl rfl ?_
    obtain ⟨hk1, h⟩ := h
    refine sg_gfR (pc := 93) (J := 35) dX10_count_93 fl_10_84 rfl hk1 ?_
    refine st_iload_n (pc := 96) dX10_count_96 rfl rfl ?_
    obtain ⟨hk2, h⟩ := h
    obtain ⟨h1, h⟩ := h
    refine sg_iaload (pc := 97) dX10_count_97 hk2 h1 ?_
    refine st_ifle (pc := 98) (tgt := 107) dX10_count_98 rfl (fun c => ?_) (fun c => ?_)
    · replace h := h.1 c
      refine sg_iconst (pc := 107) dX10_count_107 (by omega) ?_
      refine st_ior (pc := 108) dX10_count_108 ?_
      refine sg_istore_n (pc := 109) (ls' := [some (vr a0), some (vi a1), some (vi (bOr a2 0)), some (vi a3)]) dX10_count_109 rfl (by show (2 : Nat) < 4; decide) rfl ?_
      refine Wp.nameL (ls2 := fun v => [some (vr a0), some (vi a1), some (vi v), some (vi a3)]) 2 _ rfl (fun _ => rfl) (fun v1 ev1 => ?_)
      replace h := h v1 ev1
      refine sg_iinc (pc := 110) (ls' := [some (vr a0), some (vi a1), some (vi v1), some (vi (w32 (a3 + 1)))]) dX10_count_110 rfl rfl ?_
      refine Wp.nameL (ls2 := fun v => [some (vr a0), some (vi a1), some (vi v1), some (vi v)]) 3 _ rfl (fun _ => rfl) (fun v2 ev2 => ?_)
      replace h := h v2 ev2
      refine st_goto (pc := 113) dX10_count_113 rfl ?_
      exact h
    · replace h := h.2 c
      refine sg_iconst (pc := 101) dX10_count_101 (by omega) ?_
      refine st_iload_n (pc := 102) dX10_count_102 rfl rfl ?_
      refine st_ishl (pc := 103) dX10_count_103 ?_
      refine st_goto (pc := 104) dX10_count_104 rfl ?_
      refine st_ior (pc := 108) dX10_count_108 ?_
      refine sg_istore_n (pc := 109) (ls' := [some (vr a0), some (vi a1), some (vi (bOr a2 (bShl 1 a3))), some (vi a3)]) dX10_count_109 rfl (by show (2 : Nat) < 4; decide) rfl ?_
      refine Wp.nameL (ls2 := fun v => [some (vr a0), some (vi a1), some (vi v), some (vi a3)]) 2 _ rfl (fun _ => rfl) (fun v3 ev3 => ?_)
      replace h := h v3 ev3
      refine sg_iinc (pc := 110) (ls' := [some (vr a0), some (vi a1), some (vi v3), some (vi (w32 (a3 + 1)))]) dX10_count_110 rfl rfl ?_
      refine Wp.nameL (ls2 := fun v => [some (vr a0), some (vi a1), some (vi v3), some (vi v)]) 3 _ rfl (fun _ => rfl) (fun v4 ev4 => ?_)
      replace h := h v4 ev4
      refine st_goto (pc := 113) dX10_count_113 rfl ?_
      exact h

theorem sg_X10_count_140 {d bc bs : Nat} {a0 : Nat} {a1 : Int} {a2 : Int} {a3 : Int} {μ : Mem} {Q : Option (Option AV) → Mem → Prop}
    (h : mK μ a0 = 11 ∧ (((w32 ((mD μ a0 0) - 1)) ≤ a3 → Q (some (some (vi a2))) μ) ∧ (¬ (w32 ((mD μ a0 0) - 1)) ≤ a3 → (mK μ (mR μ a0 4) = 20 ∨ ((mR μ a0 4) ≠ 0 ∧ mK μ (mR μ a0 4) = 40)) ∧ ((0 : Int) ≤ a3 ∧ a3 < (mN μ (mR μ a0 4) : Int)) ∧ ((100 ≤ (mD μ (mR μ a0 4) a3) → ∀ v1, v1 = w32 (a2 + 0) → ∀ v2, v2 = w32 (a3 + 1) → Wp d bc bs mX10_count 140 [some (vr a0), some (vi a1), some (vi v1), some (vi v2)] [] μ Q) ∧ (¬ 100 ≤ (mD μ (mR μ a0 4) a3) → ∀ v3, v3 = w32 (a2 + 1) → ∀ v4, v4 = w32 (a3 + 1) → Wp d bc bs mX10_count 140 [some (vr a0), some (vi a1), some (vi v3), some (vi v4)] [] μ Q))))) :
    Wp d bc bs mX10_count 140 [some (vr a0), some (vi a1), some (vi a2), some (vi a3)] [] μ Q := by
  refine st_iload_n (pc := 140) dX10_count_140 rfl rfl ?_
  refine st_aload_n (pc := 141) dX10_count_141 rfl rfl ?_
  obtain ⟨hk1, h⟩ := h
  refine sg_gfI (pc := 142) (J := 0) dX10_count_142 fl_10_9 (by decide) rfl hk1 ?_
  refine sg_iconst (pc := 145) dX10_count_145 (by omega) ?_
  refine st_isub (pc := 146) dX10_count_146 ?_
  refine st_icmpge (pc := 147) (tgt := 175) dX10_count_147 rfl (fun c => ?_) (fun c => ?_)
  · replace h := h.1 c
    refine st_iload_n (pc := 175) dX10_count_175 rfl rfl ?_
    exact st_ireturn (pc := 176) dX10_count_176 (Or.inl rfl) h
  · replace h := h.2 c
    refine st_iload_n (pc := 150) dX10_count_150 rfl rfl ?_
    refine st_aload_n (pc := 151) dX10_count_151 rfl rfl ?_
    refine sg_gfR (pc := 152) (J := 4) dX10_count_152 fl_10_23 rfl hk1 ?_
    refine st_iload_n (pc := 155) dX10_count_155 rfl rfl ?_
    obtain ⟨hk2, h⟩ := h
    obtain ⟨h1, h⟩ := h
    refine sg_iaload (pc := 156) dX10_count_156 hk2 h1 ?_
    refine sg_bipush (pc := 157) dX10_count_157 (by omega) (by decide) ?_
    refine st_icmpge (pc := 159) (tgt := 166) dX10_count_159 rfl (fun c => ?_) (fun c => ?_)
    · replace h := h.1 c
      refine sg_iconst (pc := 166) dX10_count_166 (by omega) ?_
      refine st_iadd (pc := 167) dX10_count_167 ?_
      refine sg_istore_n (pc := 168) (ls' := [some (vr a0), some (vi a1), some (vi (w32 (a2 + 0))), some (vi a3)]) dX10_count_168 rfl (by show (2 : Nat) < 4; decide) rfl ?_
      refine Wp.nameL (ls2 := fun v => [some (vr a0), some (vi a1), some (vi v), some (vi a3)]) 2 _ rfl (fun _ => rfl) (fun v1 ev1 => ?_)
      replace h := h v1 ev1
      refine sg_iinc (pc := 169) (ls' := [some (vr a0), some (vi a1), some (vi v1), some (vi (w32 (a3 + 1)))]) dX10_count_169 rfl rfl ?_
      refine Wp.nameL (ls2 := fun v => [some (vr a0), some (vi a1), some (vi v1), some (vi v)]) 3 _ rfl (fun _ => rfl) (fun v2 ev2 => ?_)
      replace h := h v2 ev2
      refine st_goto (pc := 172) dX10_count_172 rfl ?_
      exact h
    · replace h := h.2 c
      refine sg_iconst (pc := 162) dX10_count_162 (by omega) ?_
      refine st_goto (pc := 163) dX10_count_163 rfl ?_
      refine st_iadd (pc := 167) dX10_count_167 ?_
      refine sg_istore_n (pc := 168) (ls' := [some (vr a0), some (vi a1), some (vi (w32 (a2 + 1))), some (vi a3)]) dX10_count_168 rfl (by show (2 : Nat) < 4; decide) rfl ?_
      refine Wp.nameL (ls2 := fun v => [some (vr a0), some (vi a1), some (vi v), some (vi a3)]) 2 _ rfl (fun _ => rfl) (fun v3 ev3 => ?_)
      replace h := h v3 ev3
      refine sg_iinc (pc := 169) (ls' := [some (vr a0), some (vi a1), some (vi v3), some (vi (w32 (a3 + 1)))]) dX10_count_169 rfl rfl ?_
      refine Wp.nameL (ls2 := fun v => [some (vr a0), some (vi a1), some (vi v3), some (vi v)]) 3 _ rfl (fun _ => rfl) (fun v4 ev4 => ?_)
      replace h := h v4 ev4
      refine st_goto (pc := 172) dX10_count_172 rfl ?_
      exact h

theorem sg_X10_row_0 {d bc bs : Nat} {a0 : Nat} {a1 : Int} {μ : Mem} {Q : Option (Option AV) → Mem → Prop}
    (h : mK μ a0 = 11 ∧ (∀ m1, m1 = sD μ a0 15 0 → ∃ (mc1 ms1 : Nat) (K1 : Int → Mem → Prop), Cl d mc1 ms1 mX10_in [vi a1, vi 0, vi (w32 ((mD m1 a0 14) - 1))] m1 (KI K1) ∧ mc1 ≤ bc ∧ ms1 ≤ bs ∧ (∀ x1 m2, K1 x1 m2 → (x1 = 0 → mK m2 a0 = 11 ∧ ∃ (mc2 ms2 : Nat) (K2 : Int → Mem → Prop), Cl d mc2 ms2 mX10_lost [vr a0] m2 (KI K2) ∧ mc2 ≤ bc - mc1 ∧ ms2 ≤ bs - ms1 ∧ (∀ x2 m3, K2 x2 m3 → Q (some (some (vl x2))) m3)) ∧ (¬ x1 = 0 → mK m2 a0 = 11 ∧ (mK m2 (mR m2 a0 13) = 21 ∧ ((0 : Int) ≤ a1 ∧ a1 < (mN m2 (mR m2 a0 13) : Int)) ∧ (Q (some (some (vl (mD m2 (mR m2 a0 13) a1)))) m2)))))) :
    Wp (d + 1) bc bs mX10_row 0 [some (vr a0), some (vi a1)] [] μ Q := by
  refine st_aload_n (pc := 0) dX10_row_0 rfl rfl ?_
  refine sg_iconst (pc := 1) dX10_row_1 (by omega) ?_
  obtain ⟨hk1, h⟩ := h
  refine sg_pfI (pc := 2) (J := 15) dX10_row_2 fl_10_142 rfl (Or.inl rfl) hk1 ?_
  refine Wp.nameM (fun m1 em1 => ?_)
  replace h := h m1 em1
  refine st_iload_n (pc := 5) dX10_row_5 rfl rfl ?_
  refine sg_iconst (pc := 6) dX10_row_6 (by omega) ?_
  refine st_aload_n (pc := 7) dX10_row_7 rfl rfl ?_
  refine sg_gfI (pc := 8) (J := 14) dX10_row_8 fl_10_145 (by decide) rfl (by cases em1; exact hk1) ?_
  refine sg_iconst (pc := 11) dX10_row_11 (by omega) ?_
  refine st_isub (pc := 12) dX10_row_12 ?_
  obtain ⟨mc1, ms1, K1, hC, e1, e2, h⟩ := h
  refine sg_SI (pc := 13) (av := [vi a1, vi 0, vi (w32 ((mD m1 a0 14) - 1))]) (st := []) (K := K1) dX10_row_13 ck_10_151 rfl (by show (0 : Nat) ≤ 8; decide) hC e1 e2 (fun x1 m2 hK => ?_) rfl
  replace h := h x1 m2 hK
  refine st_ifeq (pc := 16) (tgt := 28) dX10_row_16 rfl (fun c => ?_) (fun c => ?_)
  · replace h := h.1 c
    refine st_aload_n (pc := 28) dX10_row_28 rfl rfl ?_
    obtain ⟨hk2, h⟩ := h
    obtain ⟨mc2, ms2, K2, hC, e1, e2, h⟩ := h
    refine sg_VI (pc := 29) (av := []) (st := []) (K := K2) dX10_row_29 ck_10_188 rfl (by decide) hk2 (by show (0 : Nat) ≤ 8; decide) hC e1 e2 (fun x2 m3 hK => ?_) rfl
    replace h := h x2 m3 hK
    refine st_i2l (pc := 32) dX10_row_32 ?_
    exact st_lreturn (pc := 33) dX10_row_33 rfl h
  · replace h := h.2 c
    refine st_aload_n (pc := 19) dX10_row_19 rfl rfl ?_
    obtain ⟨hk3, h⟩ := h
    refine sg_gfR (pc := 20) (J := 13) dX10_row_20 fl_10_45 rfl hk3 ?_
    refine st_iload_n (pc := 23) dX10_row_23 rfl rfl ?_
    obtain ⟨hk4, h⟩ := h
    obtain ⟨h1, h⟩ := h
    refine st_laload (pc := 24) dX10_row_24 hk4 h1.1 h1.2 ?_
    refine st_goto (pc := 25) dX10_row_25 rfl ?_
    exact st_lreturn (pc := 33) dX10_row_33 rfl h

