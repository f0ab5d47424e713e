/-! ===== by program (wip/whole/gen_seg.py): stretches of methods ===== -/
theorem sg_X10_pass_0 {d bc bs : Nat} {a0 : Nat} {a1 : Int} {a2 : Int} {μ : Mem} {Q : Option (Option AV) → Mem → Prop}
    (h : mK μ a0 = 11 ∧ (∃ (mc1 ms1 : Nat) (K1 : Int → Mem → Prop), Cl d mc1 ms1 mX10_slope [vr a0] μ (KI K1) ∧ mc1 ≤ bc ∧ ms1 ≤ bs ∧ (∀ x1 m1, K1 x1 m1 → mK m1 (mR μ a0 9) = 20 ∧ ((0 : Int) ≤ ((mD μ a0 5).tmod 21) ∧ ((mD μ a0 5).tmod 21) < (mN m1 (mR μ a0 9) : Int)) ∧ (∀ m2, m2 = sD m1 (mR μ a0 9) ((mD μ a0 5).tmod 21) x1 → Wp (d + 1) (bc - mc1) (bs - ms1) mX10_pass 21 [some (vr a0), some (vi a1), some (vi a2), some (vi 0), some (vi 0)] [] m2 Q)))) :
    Wp (d + 1) bc bs mX10_pass 0 [some (vr a0), some (vi a1), some (vi a2), none, none] [] μ Q := by
  refine st_aload_n (pc := 0) dX10_pass_0 rfl rfl ?_
  obtain ⟨hk1, h⟩ := h
  refine sg_gfR (pc := 1) (J := 9) dX10_pass_1 fl_10_35 rfl hk1 ?_
  refine st_aload_n (pc := 4) dX10_pass_4 rfl rfl ?_
  refine sg_gfI (pc := 5) (J := 5) dX10_pass_5 fl_10_148 (by decide) rfl hk1 ?_
  refine sg_bipush (pc := 8) dX10_pass_8 (by omega) (by decide) ?_
  refine st_irem (pc := 10) dX10_pass_10 (by omega) ?_
  refine st_aload_n (pc := 11) dX10_pass_11 rfl rfl ?_
  obtain ⟨mc1, ms1, K1, hC, e1, e2, h⟩ := h
  refine sg_VI (pc := 12) (av := []) (st := [vi ((mD μ a0 5).tmod 21), vr (mR μ a0 9)]) (K := K1) dX10_pass_12 ck_10_175 rfl (by decide) hk1 (by show (2 : Nat) ≤ 8; decide) hC e1 e2 (fun x1 m1 hK => ?_) rfl
  replace h := h x1 m1 hK
  obtain ⟨hk2, h⟩ := h
  obtain ⟨h1, h⟩ := h
  refine st_iastore (pc := 15) dX10_pass_15 hk2 h1.1 h1.2 ?_
  refine Wp.nameM (fun m2 em2 => ?_)
  replace h := h m2 em2
  refine sg_iconst (pc := 16) dX10_pass_16 (by omega) ?_
  refine sg_istore_n (pc := 17) (ls' := [some (vr a0), some (vi a1), some (vi a2), some (vi 0), none]) dX10_pass_17 rfl (by show (3 : Nat) < 5; decide) rfl ?_
  refine sg_iconst (pc := 18) dX10_pass_18 (by omega) ?_
  refine sg_istore (pc := 19) (ls' := [some (vr a0), some (vi a1), some (vi a2), some (vi 0), some (vi 0)]) dX10_pass_19 (by show (4 : Nat) < 5; decide) rfl ?_
  exact h

theorem sg_X10_pass_21 {d bc bs : Nat} {a0 : Nat} {a1 : Int} {a2 : Int} {a3 : Int} {a4 : Int} {μ : Mem} {Q : Option (Option AV) → Mem → Prop}
    (h : (2 ≤ a4 → mK μ a0 = 11 ∧ ((∀ m1, m1 = sD μ a0 5 (w32 ((mD μ a0 5) + 1)) → Q (some (some (vi a3))) m1))) ∧ (¬ 2 ≤ a4 → (¬ a4 = 0 → mK μ a0 = 11 ∧ ∃ (mc1 ms1 : Nat) (K1 : Mem → Prop), Cl d mc1 ms1 mX10_flows [vr a0, vi a4, vi a2] μ (KV K1) ∧ mc1 ≤ bc ∧ ms1 ≤ bs ∧ (∀ m2, K1 m2 → mK m2 a0 = 11 ∧ ∃ (mc2 ms2 : Nat) (K2 : Int → Mem → Prop), Cl d mc2 ms2 mX10_over [vr a0, vi a4, vi 0] m2 (KI K2) ∧ mc2 ≤ bc - mc1 ∧ ms2 ≤ bs - ms1 ∧ (∀ x1 m3, K2 x1 m3 → mK m3 a0 = 11 ∧ (∃ (mc3 ms3 : Nat) (K3 : Int → Mem → Prop), Cl d mc3 ms3 mX10_over [vr a0, vi a4, vi (w32 ((mD m3 a0 0) - 1))] m3 (KI K3) ∧ mc3 ≤ bc - mc1 - mc2 ∧ ms3 ≤ bs - ms1 - ms2 ∧ (∀ x2 m4, K3 x2 m4 → ∀ v1, v1 = w32 (a3 + (w32 (x1 + x2))) → ∀ v2, v2 = w32 (a4 + 1) → Wp (d + 1) (bc - mc1 - mc2 - mc3) (bs - ms1 - ms2 - ms3) mX10_pass 21 [some (vr a0), some (vi a1), some (vi a2), some (vi v1), some (vi v2)] [] m4 Q))))) ∧ (a4 = 0 → mK μ a0 = 11 ∧ ∃ (mc4 ms4 : Nat) (K4 : Mem → Prop), Cl d mc4 ms4 mX10_flows [vr a0, vi a4, vi a1] μ (KV K4) ∧ mc4 ≤ bc ∧ ms4 ≤ bs ∧ (∀ m5, K4 m5 → mK m5 a0 = 11 ∧ ∃ (mc5 ms5 : Nat) (K5 : Int → Mem → Prop), Cl d mc5 ms5 mX10_over [vr a0, vi a4, vi 0] m5 (KI K5) ∧ mc5 ≤ bc - mc4 ∧ ms5 ≤ bs - ms4 ∧ (∀ x3 m6, K5 x3 m6 → mK m6 a0 = 11 ∧ (∃ (mc6 ms6 : Nat) (K6 : Int → Mem → Prop), Cl d mc6 ms6 mX10_over [vr a0, vi a4, vi (w32 ((mD m6 a0 0) - 1))] m6 (KI K6) ∧ mc6 ≤ bc - mc4 - mc5 ∧ ms6 ≤ bs - ms4 - ms5 ∧ (∀ x4 m7, K6 x4 m7 → ∀ v3, v3 = w32 (a3 + (w32 (x3 + x4))) → ∀ v4, v4 = w32 (a4 + 1) → Wp (d + 1) (bc - mc4 - mc5 - mc6) (bs - ms4 - ms5 - ms6) mX10_pass 21 [some (vr a0), some (vi a1), some (vi a2), some (vi v3), some (vi v4)] [] m7 Q))))))) :
    Wp (d + 1) bc bs mX10_pass 21 [some (vr a0), some (vi a1), some (vi a2), some (vi a3), some (vi a4)] [] μ Q := by
  refine st_iload (pc := 21) dX10_pass_21 rfl ?_
  refine sg_iconst (pc := 23) dX10_pass_23 (by omega) ?_
  refine st_icmpge (pc := 24) (tgt := 72) dX10_pass_24 rfl (fun c => ?_) (fun c => ?_)
  · replace h := h.1 c
    refine st_aload_n (pc := 72) dX10_pass_72 rfl rfl ?_
    refine st_dup (pc := 73) dX10_pass_73 rfl ?_
    obtain ⟨hk1, h⟩ := h
    refine sg_gfI (pc := 74) (J := 5) dX10_pass_74 fl_10_148 (by decide) rfl hk1 ?_
    refine sg_iconst (pc := 77) dX10_pass_77 (by omega) ?_
    refine st_iadd (pc := 78) dX10_pass_78 ?_
    refine sg_pfI (pc := 79) (J := 5) dX10_pass_79 fl_10_148 rfl (Or.inl rfl) hk1 ?_
    refine Wp.nameM (fun m1 em1 => ?_)
    replace h := h m1 em1
    refine st_iload_n (pc := 82) dX10_pass_82 rfl rfl ?_
    exact st_ireturn (pc := 83) dX10_pass_83 (Or.inl rfl) h
  · replace h := h.2 c
    refine st_aload_n (pc := 27) dX10_pass_27 rfl rfl ?_
    refine st_iload (pc := 28) dX10_pass_28 rfl ?_
    refine st_iload (pc := 30) dX10_pass_30 rfl ?_
    refine st_ifne (pc := 32) (tgt := 39) dX10_pass_32 rfl (fun c => ?_) (fun c => ?_)
    · replace h := h.1 c
      refine st_iload_n (pc := 39) dX10_pass_39 rfl rfl ?_
      obtain ⟨hk2, h⟩ := h
      obtain ⟨mc1, ms1, K1, hC, e1, e2, h⟩ := h
      refine sg_VV (pc := 40) (av := [vi a4, vi a2]) (st := []) (K := K1) dX10_pass_40 ck_10_179 rfl (by decide) hk2 (by show (0 : Nat) ≤ 8; decide) hC e1 e2 (fun m2 hK => ?_) rfl
      replace h := h m2 hK
      refine st_iload_n (pc := 43) dX10_pass_43 rfl rfl ?_
      refine st_aload_n (pc := 44) dX10_pass_44 rfl rfl ?_
      refine st_iload (pc := 45) dX10_pass_45 rfl ?_
      refine sg_iconst (pc := 47) dX10_pass_47 (by omega) ?_
      obtain ⟨hk3, h⟩ := h
      obtain ⟨mc2, ms2, K2, hC, e1, e2, h⟩ := h
      refine sg_VI (pc := 48) (av := [vi a4, vi 0]) (st := [vi a3]) (K := K2) dX10_pass_48 ck_10_182 rfl (by decide) hk3 (by show (1 : Nat) ≤ 8; decide) hC e1 e2 (fun x1 m3 hK => ?_) rfl
      replace h := h x1 m3 hK
      refine st_aload_n (pc := 51) dX10_pass_51 rfl rfl ?_
      refine st_iload (pc := 52) dX10_pass_52 rfl ?_
      refine st_aload_n (pc := 54) dX10_pass_54 rfl rfl ?_
      obtain ⟨hk4, h⟩ := h
      refine sg_gfI (pc := 55) (J := 0) dX10_pass_55 fl_10_9 (by decide) rfl hk4 ?_
      refine sg_iconst (pc := 58) dX10_pass_58 (by omega) ?_
      refine st_isub (pc := 59) dX10_pass_59 ?_
      obtain ⟨mc3, ms3, K3, hC, e1, e2, h⟩ := h
      refine sg_VI (pc := 60) (av := [vi a4, vi (w32 ((mD m3 a0 0) - 1))]) (st := [vi x1, vi a3]) (K := K3) dX10_pass_60 ck_10_182 rfl (by decide) hk4 (by show (2 : Nat) ≤ 8; decide) hC e1 e2 (fun x2 m4 hK => ?_) rfl
      replace h := h x2 m4 hK
      refine st_iadd (pc := 63) dX10_pass_63 ?_
      refine st_iadd (pc := 64) dX10_pass_64 ?_
      refine sg_istore_n (pc := 65) (ls' := [some (vr a0), some (vi a1), some (vi a2), some (vi (w32 (a3 + (w32 (x1 + x2))))), some (vi a4)]) dX10_pass_65 rfl (by show (3 : Nat) < 5; decide) rfl ?_
      refine Wp.nameL (ls2 := fun v => [some (vr a0), some (vi a1), some (vi a2), some (vi v), some (vi a4)]) 3 _ rfl (fun _ => rfl) (fun v1 ev1 => ?_)
      replace h := h v1 ev1
      refine sg_iinc (pc := 66) (ls' := [some (vr a0), some (vi a1), some (vi a2), some (vi v1), some (vi (w32 (a4 + 1)))]) dX10_pass_66 rfl rfl ?_
      refine Wp.nameL (ls2 := fun v => [some (vr a0), some (vi a1), some (vi a2), some (vi v1), some (vi v)]) 4 _ rfl (fun _ => rfl) (fun v2 ev2 => ?_)
      replace h := h v2 ev2
      refine st_goto (pc := 69) dX10_pass_69 rfl ?_
      exact h
    · replace h := h.2 c
      refine st_iload_n (pc := 35) dX10_pass_35 rfl rfl ?_
      refine st_goto (pc := 36) dX10_pass_36 rfl ?_
      obtain ⟨hk5, h⟩ := h
      obtain ⟨mc4, ms4, K4, hC, e1, e2, h⟩ := h
      refine sg_VV (pc := 40) (av := [vi a4, vi a1]) (st := []) (K := K4) dX10_pass_40 ck_10_179 rfl (by decide) hk5 (by show (0 : Nat) ≤ 8; decide) hC e1 e2 (fun m5 hK => ?_) rfl
      replace h := h m5 hK
      refine st_iload_n (pc := 43) dX10_pass_43 rfl rfl ?_
      refine st_aload_n (pc := 44) dX10_pass_44 rfl rfl ?_
      refine st_iload (pc := 45) dX10_pass_45 rfl ?_
      refine sg_iconst (pc := 47) dX10_pass_47 (by omega) ?_
      obtain ⟨hk6, h⟩ := h
      obtain ⟨mc5, ms5, K5, hC, e1, e2, h⟩ := h
      refine sg_VI (pc := 48) (av := [vi a4, vi 0]) (st := [vi a3]) (K := K5) dX10_pass_48 ck_10_182 rfl (by decide) hk6 (by show (1 : Nat) ≤ 8; decide) hC e1 e2 (fun x3 m6 hK => ?_) rfl
      replace h := h x3 m6 hK
      refine st_aload_n (pc := 51) dX10_pass_51 rfl rfl ?_
      refine st_iload (pc := 52) dX10_pass_52 rfl ?_
      refine st_aload_n (pc := 54) dX10_pass_54 rfl rfl ?_
      obtain ⟨hk7, h⟩ := h
      refine sg_gfI (pc := 55) (J := 0) dX10_pass_55 fl_10_9 (by decide) rfl hk7 ?_
      refine sg_iconst (pc := 58) dX10_pass_58 (by omega) ?_
      refine st_isub (pc := 59) dX10_pass_59 ?_
      obtain ⟨mc6, ms6, K6, hC, e1, e2, h⟩ := h
      refine sg_VI (pc := 60) (av := [vi a4, vi (w32 ((mD m6 a0 0) - 1))]) (st := [vi x3, vi a3]) (K := K6) dX10_pass_60 ck_10_182 rfl (by decide) hk7 (by show (2 : Nat) ≤ 8; decide) hC e1 e2 (fun x4 m7 hK => ?_) rfl
      replace h := h x4 m7 hK
      refine st_iadd (pc := 63) dX10_pass_63 ?_
      refine st_iadd (pc := 64) dX10_pass_64 ?_
      refine sg_istore_n (pc := 65) (ls' := [some (vr a0), some (vi a1), some (vi a2), some (vi (w32 (a3 + (w32 (x3 + x4))))), some (vi a4)]) dX10_pass_65 rfl (by show (3 : Nat) < 5; decide) rfl ?_
      refine Wp.nameL (ls2 := fun v => [some (vr a0), some (vi a1), some (vi a2), some (vi v), some (vi a4)]) 3 _ rfl (fun _ => rfl) (fun v3 ev3 => ?_)
      replace h := h v3 ev3
      refine sg_iinc (pc := 66) (ls' := [some (vr a0), some (vi a1), some (vi a2), some (vi v3), some (vi (w32 (a4 + 1)))]) dX10_pass_66 rfl rfl ?_
      refine Wp.nameL (ls2 := fun v => [some (vr a0), some (vi a1), some (vi a2), some (vi v3), some (vi v)]) 4 _ rfl (fun _ => rfl) (fun v4 ev4 => ?_)
      replace h := h v4 ev4
      refine st_goto (pc := 69) dX10_pass_69 rfl ?_
      exact h

theorem sg_X10_tick_0 {d bc bs : Nat} {a0 : Nat} {a1 : Int} {a2 : Int} {μ : Mem} {Q : Option (Option AV) → Mem → Prop}
    (h : mK μ a0 = 11 ∧ (∀ m1, m1 = sD μ a0 15 0 → ∃ (mc1 ms1 : Nat) (K1 : Int → Mem → Prop), Cl d mc1 ms1 mX10_in [vi a1, vi (-500), vi 500] m1 (KI K1) ∧ mc1 ≤ bc ∧ ms1 ≤ bs ∧ (∀ x1 m2, K1 x1 m2 → (x1 = 0 → Q (some (some (vi (-1)))) m2) ∧ (¬ x1 = 0 → ∃ (mc2 ms2 : Nat) (K2 : Int → Mem → Prop), Cl d mc2 ms2 mX10_in [vi a2, vi (-500), vi 500] m2 (KI K2) ∧ mc2 ≤ bc - mc1 ∧ ms2 ≤ bs - ms1 ∧ (∀ x2 m3, K2 x2 m3 → (x2 = 0 → Q (some (some (vi (-1)))) m3) ∧ (¬ x2 = 0 → mK m3 a0 = 11 ∧ ∃ (mc3 ms3 : Nat) (K3 : Int → Mem → Prop), Cl d mc3 ms3 mX10_pass [vr a0, vi a1, vi a2] m3 (KI K3) ∧ mc3 ≤ bc - mc1 - mc2 ∧ ms3 ≤ bs - ms1 - ms2 ∧ (∀ x3 m4, K3 x3 m4 → Q (some (some (vi x3))) m4))))))) :
    Wp (d + 1) bc bs mX10_tick 0 [some (vr a0), some (vi a1), some (vi a2)] [] μ Q := by
  refine st_aload_n (pc := 0) dX10_tick_0 rfl rfl ?_
  refine sg_iconst (pc := 1) dX10_tick_1 (by omega) ?_
  obtain ⟨hk1, h⟩ := h
  refine sg_pfI (pc := 2) (J := 15) dX10_tick_2 fl_10_142 rfl (Or.inl rfl) hk1 ?_
  refine Wp.nameM (fun m1 em1 => ?_)
  replace h := h m1 em1
  refine st_iload_n (pc := 5) dX10_tick_5 rfl rfl ?_
  refine sg_sipush (pc := 6) dX10_tick_6 (by omega) (by decide) ?_
  refine sg_sipush (pc := 9) dX10_tick_9 (by omega) (by decide) ?_
  obtain ⟨mc1, ms1, K1, hC, e1, e2, h⟩ := h
  refine sg_SI (pc := 12) (av := [vi a1, vi (-500), vi 500]) (st := []) (K := K1) dX10_tick_12 ck_10_151 rfl (by show (0 : Nat) ≤ 8; decide) hC e1 e2 (fun x1 m2 hK => ?_) rfl
  replace h := h x1 m2 hK
  refine st_ifeq (pc := 15) (tgt := 40) dX10_tick_15 rfl (fun c => ?_) (fun c => ?_)
  · replace h := h.1 c
    refine sg_iconst (pc := 40) dX10_tick_40 (by omega) ?_
    exact st_ireturn (pc := 41) dX10_tick_41 (Or.inl rfl) h
  · replace h := h.2 c
    refine st_iload_n (pc := 18) dX10_tick_18 rfl rfl ?_
    refine sg_sipush (pc := 19) dX10_tick_19 (by omega) (by decide) ?_
    refine sg_sipush (pc := 22) dX10_tick_22 (by omega) (by decide) ?_
    obtain ⟨mc2, ms2, K2, hC, e1, e2, h⟩ := h
    refine sg_SI (pc := 25) (av := [vi a2, vi (-500), vi 500]) (st := []) (K := K2) dX10_tick_25 ck_10_151 rfl (by show (0 : Nat) ≤ 8; decide) hC e1 e2 (fun x2 m3 hK => ?_) rfl
    replace h := h x2 m3 hK
    refine st_ifeq (pc := 28) (tgt := 40) dX10_tick_28 rfl (fun c => ?_) (fun c => ?_)
    · replace h := h.1 c
      refine sg_iconst (pc := 40) dX10_tick_40 (by omega) ?_
      exact st_ireturn (pc := 41) dX10_tick_41 (Or.inl rfl) h
    · replace h := h.2 c
      refine st_aload_n (pc := 31) dX10_tick_31 rfl rfl ?_
      refine st_iload_n (pc := 32) dX10_tick_32 rfl rfl ?_
      refine st_iload_n (pc := 33) dX10_tick_33 rfl rfl ?_
      obtain ⟨hk2, h⟩ := h
      obtain ⟨mc3, ms3, K3, hC, e1, e2, h⟩ := h
      refine sg_VI (pc := 34) (av := [vi a1, vi a2]) (st := []) (K := K3) dX10_tick_34 ck_10_185 rfl (by decide) hk2 (by show (0 : Nat) ≤ 8; decide) hC e1 e2 (fun x3 m4 hK => ?_) rfl
      replace h := h x3 m4 hK
      refine st_goto (pc := 37) dX10_tick_37 rfl ?_
      exact st_ireturn (pc := 41) dX10_tick_41 (Or.inl rfl) h

theorem sg_X10_cell_0 {d bc bs : Nat} {a0 : Nat} {a1 : Int} {a2 : Int} {a3 : Int} {μ : Mem} {Q : Option (Option AV) → Mem → Prop}
    (h : mK μ a0 = 11 ∧ (∀ m1, m1 = sD μ a0 15 0 → ∃ (mc1 ms1 : Nat) (K1 : Int → Mem → Prop), Cl d mc1 ms1 mX10_in [vi a1, vi 0, vi 1] m1 (KI K1) ∧ mc1 ≤ bc ∧ ms1 ≤ bs ∧ (∀ x1 m2, K1 x1 m2 → (x1 = 0 → Wp (d + 1) (bc - mc1) (bs - ms1) mX10_cell 37 [some (vr a0), some (vi a1), some (vi a2), some (vi a3)] [] m2 Q) ∧ (¬ x1 = 0 → mK m2 a0 = 11 ∧ (∃ (mc2 ms2 : Nat) (K2 : Int → Mem → Prop), Cl d mc2 ms2 mX10_in [vi a2, vi 0, vi (w32 ((mD m2 a0 0) - 1))] m2 (KI K2) ∧ mc2 ≤ bc - mc1 ∧ ms2 ≤ bs - ms1 ∧ (∀ x2 m3, K2 x2 m3 → (x2 = 0 → Wp (d + 1) (bc - mc1 - mc2) (bs - ms1 - ms2) mX10_cell 37 [some (vr a0), some (vi a1), some (vi a2), some (vi a3)] [] m3 Q) ∧ (¬ x2 = 0 → ∃ (mc3 ms3 : Nat) (K3 : Int → Mem → Prop), Cl d mc3 ms3 mX10_in [vi a3, vi 0, vi 1] m3 (KI K3) ∧ mc3 ≤ bc - mc1 - mc2 ∧ ms3 ≤ bs - ms1 - ms2 ∧ (∀ x3 m4, K3 x3 m4 → (¬ x3 = 0 → (¬ a3 = 0 → mK m4 a0 = 11 ∧ ((¬ a2 = (w32 ((mD m4 a0 0) - 1)) → (mK m4 (mR m4 a0 7) = 20 ∨ ((mR m4 a0 7) ≠ 0 ∧ mK m4 (mR m4 a0 7) = 40)) ∧ ((0 : Int) ≤ (w32 ((w32 (20 * a1)) + a2)) ∧ (w32 ((w32 (20 * a1)) + a2)) < (mN m4 (mR m4 a0 7) : Int)) ∧ (Q (some (some (vi (mD m4 (mR m4 a0 7) (w32 ((w32 (20 * a1)) + a2)))))) m4)) ∧ (a2 = (w32 ((mD m4 a0 0) - 1)) → Q (some (some (vi 0))) m4))) ∧ (a3 = 0 → mK m4 a0 = 11 ∧ ((mK m4 (mR m4 a0 6) = 20 ∨ ((mR m4 a0 6) ≠ 0 ∧ mK m4 (mR m4 a0 6) = 40)) ∧ ((0 : Int) ≤ (w32 ((w32 (20 * a1)) + a2)) ∧ (w32 ((w32 (20 * a1)) + a2)) < (mN m4 (mR m4 a0 6) : Int)) ∧ (Q (some (some (vi (mD m4 (mR m4 a0 6) (w32 ((w32 (20 * a1)) + a2)))))) m4)))) ∧ (x3 = 0 → Wp (d + 1) (bc - mc1 - mc2 - mc3) (bs - ms1 - ms2 - ms3) mX10_cell 37 [some (vr a0), some (vi a1), some (vi a2), some (vi a3)] [] m4 Q))))))))) :
    Wp (d + 1) bc bs mX10_cell 0 [some (vr a0), some (vi a1), some (vi a2), some (vi a3)] [] μ Q := by
  refine st_aload_n (pc := 0) dX10_cell_0 rfl rfl ?_
  refine sg_iconst (pc := 1) dX10_cell_1 (by omega) ?_
  obtain ⟨hk1, h⟩ := h
  refine sg_pfI (pc := 2) (J := 15) dX10_cell_2 fl_10_142 rfl (Or.inl rfl) hk1 ?_
  refine Wp.nameM (fun m1 em1 => ?_)
  replace h := h m1 em1
  refine st_iload_n (pc := 5) dX10_cell_5 rfl rfl ?_
  refine sg_iconst (pc := 6) dX10_cell_6 (by omega) ?_
  refine sg_iconst (pc := 7) dX10_cell_7 (by omega) ?_
  obtain ⟨mc1, ms1, K1, hC, e1, e2, h⟩ := h
  refine sg_SI (pc := 8) (av := [vi a1, vi 0, vi 1]) (st := []) (K := K1) dX10_cell_8 ck_10_151 rfl (by show (0 : Nat) ≤ 8; decide) hC e1 e2 (fun x1 m2 hK => ?_) rfl
  replace h := h x1 m2 hK
  refine st_ifeq (pc := 11) (tgt := 37) dX10_cell_11 rfl (fun c => ?_) (fun c => ?_)
  · replace h := h.1 c
    exact h
  · replace h := h.2 c
    refine st_iload_n (pc := 14) dX10_cell_14 rfl rfl ?_
    refine sg_iconst (pc := 15) dX10_cell_15 (by omega) ?_
    refine st_aload_n (pc := 16) dX10_cell_16 rfl rfl ?_
    obtain ⟨hk2, h⟩ := h
    refine sg_gfI (pc := 17) (J := 0) dX10_cell_17 fl_10_9 (by decide) rfl hk2 ?_
    refine sg_iconst (pc := 20) dX10_cell_20 (by omega) ?_
    refine st_isub (pc := 21) dX10_cell_21 ?_
    obtain ⟨mc2, ms2, K2, hC, e1, e2, h⟩ := h
    refine sg_SI (pc := 22) (av := [vi a2, vi 0, vi (w32 ((mD m2 a0 0) - 1))]) (st := []) (K := K2) dX10_cell_22 ck_10_151 rfl (by show (0 : Nat) ≤ 8; decide) hC e1 e2 (fun x2 m3 hK => ?_) rfl
    replace h := h x2 m3 hK
    refine st_ifeq (pc := 25) (tgt := 37) dX10_cell_25 rfl (fun c => ?_) (fun c => ?_)
    · replace h := h.1 c
      exact h
    · replace h := h.2 c
      refine st_iload_n (pc := 28) dX10_cell_28 rfl rfl ?_
      refine sg_iconst (pc := 29) dX10_cell_29 (by omega) ?_
      refine sg_iconst (pc := 30) dX10_cell_30 (by omega) ?_
      obtain ⟨mc3, ms3, K3, hC, e1, e2, h⟩ := h
      refine sg_SI (pc := 31) (av := [vi a3, vi 0, vi 1]) (st := []) (K := K3) dX10_cell_31 ck_10_151 rfl (by show (0 : Nat) ≤ 8; decide) hC e1 e2 (fun x3 m4 hK => ?_) rfl
      replace h := h x3 m4 hK
      refine st_ifne (pc := 34) (tgt := 42) dX10_cell_34 rfl (fun c => ?_) (fun c => ?_)
      · replace h := h.1 c
        refine st_iload_n (pc := 42) dX10_cell_42 rfl rfl ?_
        refine st_ifne (pc := 43) (tgt := 60) dX10_cell_43 rfl (fun c => ?_) (fun c => ?_)
        · replace h := h.1 c
          refine st_iload_n (pc := 60) dX10_cell_60 rfl rfl ?_
          refine st_aload_n (pc := 61) dX10_cell_61 rfl rfl ?_
          obtain ⟨hk3, h⟩ := h
          refine sg_gfI (pc := 62) (J := 0) dX10_cell_62 fl_10_9 (by decide) rfl hk3 ?_
          refine sg_iconst (pc := 65) dX10_cell_65 (by omega) ?_
          refine st_isub (pc := 66) dX10_cell_66 ?_
          refine st_icmpne (pc := 67) (tgt := 74) dX10_cell_67 rfl (fun c => ?_) (fun c => ?_)
          · replace h := h.1 c
            refine st_aload_n (pc := 74) dX10_cell_74 rfl rfl ?_
            refine sg_gfR (pc := 75) (J := 7) dX10_cell_75 fl_10_29 rfl hk3 ?_
            refine sg_bipush (pc := 78) dX10_cell_78 (by omega) (by decide) ?_
            refine st_iload_n (pc := 80) dX10_cell_80 rfl rfl ?_
            refine st_imul (pc := 81) dX10_cell_81 ?_
            refine st_iload_n (pc := 82) dX10_cell_82 rfl rfl ?_
            refine st_iadd (pc := 83) dX10_cell_83 ?_
            obtain ⟨hk4, h⟩ := h
            obtain ⟨h1, h⟩ := h
            refine sg_iaload (pc := 84) dX10_cell_84 hk4 h1 ?_
            exact st_ireturn (pc := 85) dX10_cell_85 (Or.inl rfl) h
          · replace h := h.2 c
            refine sg_iconst (pc := 70) dX10_cell_70 (by omega) ?_
            refine st_goto (pc := 71) dX10_cell_71 rfl ?_
            exact st_ireturn (pc := 85) dX10_cell_85 (Or.inl rfl) h
        · replace h := h.2 c
          refine st_aload_n (pc := 46) dX10_cell_46 rfl rfl ?_
          obtain ⟨hk5, h⟩ := h
          refine sg_gfR (pc := 47) (J := 6) dX10_cell_47 fl_10_26 rfl hk5 ?_
          refine sg_bipush (pc := 50) dX10_cell_50 (by omega) (by decide) ?_
          refine st_iload_n (pc := 52) dX10_cell_52 rfl rfl ?_
          refine st_imul (pc := 53) dX10_cell_53 ?_
          refine st_iload_n (pc := 54) dX10_cell_54 rfl rfl ?_
          refine st_iadd (pc := 55) dX10_cell_55 ?_
          obtain ⟨hk6, h⟩ := h
          obtain ⟨h1, h⟩ := h
          refine sg_iaload (pc := 56) dX10_cell_56 hk6 h1 ?_
          refine st_goto (pc := 57) dX10_cell_57 rfl ?_
          exact st_ireturn (pc := 85) dX10_cell_85 (Or.inl rfl) h
      · replace h := h.2 c
        exact h

theorem sg_X10_cell_37 {d bc bs : Nat} {a0 : Nat} {a1 : Int} {a2 : Int} {a3 : Int} {μ : Mem} {Q : Option (Option AV) → Mem → Prop}
    (h : mK μ a0 = 11 ∧ ∃ (mc1 ms1 : Nat) (K1 : Int → Mem → Prop), Cl d mc1 ms1 mX10_lost [vr a0] μ (KI K1) ∧ mc1 ≤ bc ∧ ms1 ≤ bs ∧ (∀ x1 m1, K1 x1 m1 → Q (some (some (vi x1))) m1)) :
    Wp (d + 1) bc bs mX10_cell 37 [some (vr a0), some (vi a1), some (vi a2), some (vi a3)] [] μ Q := by
  refine st_aload_n (pc := 37) dX10_cell_37 rfl rfl ?_
  obtain ⟨hk1, h⟩ := h
  obtain ⟨mc1, ms1, K1, hC, e1, e2, h⟩ := h
  refine sg_VI (pc := 38) (av := []) (st := []) (K := K1) dX10_cell_38 ck_10_188 rfl (by decide) hk1 (by show (0 : Nat) ≤ 8; decide) hC e1 e2 (fun x1 m1 hK => ?_) rfl
  replace h := h x1 m1 hK
  exact st_ireturn (pc := 41) dX10_cell_41 (Or.inl rfl) h

theorem sg_X10_of_0 {d bc bs : Nat} {a0 : Nat} {a1 : Int} {a2 : Int} {μ : Mem} {Q : Option (Option AV) → Mem → Prop}
    (h : mK μ a0 = 11 ∧ (∀ m1, m1 = sD μ a0 15 0 → ∃ (mc1 ms1 : Nat) (K1 : Int → Mem → Prop), Cl d mc1 ms1 mX10_in [vi a1, vi 0, vi 1] m1 (KI K1) ∧ mc1 ≤ bc ∧ ms1 ≤ bs ∧ (∀ x1 m2, K1 x1 m2 → (x1 = 0 → Wp (d + 1) (bc - mc1) (bs - ms1) mX10_of 23 [some (vr a0), some (vi a1), some (vi a2), none, none, none] [] m2 Q) ∧ (¬ x1 = 0 → ∃ (mc2 ms2 : Nat) (K2 : Int → Mem → Prop), Cl d mc2 ms2 mX10_in [vi a2, vi 0, vi 3] m2 (KI K2) ∧ mc2 ≤ bc - mc1 ∧ ms2 ≤ bs - ms1 ∧ (∀ x2 m3, K2 x2 m3 → (¬ x2 = 0 → Wp (d + 1) (bc - mc1 - mc2) (bs - ms1 - ms2) mX10_of 36 [some (vr a0), some (vi a1), some (vi a2), some (vi 0), some (vi 0), some (vi 0)] [] m3 Q) ∧ (x2 = 0 → Wp (d + 1) (bc - mc1 - mc2) (bs - ms1 - ms2) mX10_of 23 [some (vr a0), some (vi a1), some (vi a2), none, none, none] [] m3 Q)))))) :
    Wp (d + 1) bc bs mX10_of 0 [some (vr a0), some (vi a1), some (vi a2), none, none, none] [] μ Q := by
  refine st_aload_n (pc := 0) dX10_of_0 rfl rfl ?_
  refine sg_iconst (pc := 1) dX10_of_1 (by omega) ?_
  obtain ⟨hk1, h⟩ := h
  refine sg_pfI (pc := 2) (J := 15) dX10_of_2 fl_10_142 rfl (Or.inl rfl) hk1 ?_
  refine Wp.nameM (fun m1 em1 => ?_)
  replace h := h m1 em1
  refine st_iload_n (pc := 5) dX10_of_5 rfl rfl ?_
  refine sg_iconst (pc := 6) dX10_of_6 (by omega) ?_
  refine sg_iconst (pc := 7) dX10_of_7 (by omega) ?_
  obtain ⟨mc1, ms1, K1, hC, e1, e2, h⟩ := h
  refine sg_SI (pc := 8) (av := [vi a1, vi 0, vi 1]) (st := []) (K := K1) dX10_of_8 ck_10_151 rfl (by show (0 : Nat) ≤ 8; decide) hC e1 e2 (fun x1 m2 hK => ?_) rfl
  replace h := h x1 m2 hK
  refine st_ifeq (pc := 11) (tgt := 23) dX10_of_11 rfl (fun c => ?_) (fun c => ?_)
  · replace h := h.1 c
    exact h
  · replace h := h.2 c
    refine st_iload_n (pc := 14) dX10_of_14 rfl rfl ?_
    refine sg_iconst (pc := 15) dX10_of_15 (by omega) ?_
    refine sg_iconst (pc := 16) dX10_of_16 (by omega) ?_
    obtain ⟨mc2, ms2, K2, hC, e1, e2, h⟩ := h
    refine sg_SI (pc := 17) (av := [vi a2, vi 0, vi 3]) (st := []) (K := K2) dX10_of_17 ck_10_151 rfl (by show (0 : Nat) ≤ 8; decide) hC e1 e2 (fun x2 m3 hK => ?_) rfl
    replace h := h x2 m3 hK
    refine st_ifne (pc := 20) (tgt := 28) dX10_of_20 rfl (fun c => ?_) (fun c => ?_)
    · replace h := h.1 c
      refine sg_iconst (pc := 28) dX10_of_28 (by omega) ?_
      refine sg_istore_n (pc := 29) (ls' := [some (vr a0), some (vi a1), some (vi a2), some (vi 0), none, none]) dX10_of_29 rfl (by show (3 : Nat) < 6; decide) rfl ?_
      refine sg_iconst (pc := 30) dX10_of_30 (by omega) ?_
      refine sg_istore (pc := 31) (ls' := [some (vr a0), some (vi a1), some (vi a2), some (vi 0), some (vi 0), none]) dX10_of_31 (by show (4 : Nat) < 6; decide) rfl ?_
      refine sg_iconst (pc := 33) dX10_of_33 (by omega) ?_
      refine sg_istore (pc := 34) (ls' := [some (vr a0), some (vi a1), some (vi a2), some (vi 0), some (vi 0), some (vi 0)]) dX10_of_34 (by show (5 : Nat) < 6; decide) rfl ?_
      exact h
    · replace h := h.2 c
      exact h

theorem sg_X10_of_23 {d bc bs : Nat} {a0 : Nat} {a1 : Int} {a2 : Int} {μ : Mem} {Q : Option (Option AV) → Mem → Prop}
    (h : mK μ a0 = 11 ∧ ∃ (mc1 ms1 : Nat) (K1 : Int → Mem → Prop), Cl d mc1 ms1 mX10_lost [vr a0] μ (KI K1) ∧ mc1 ≤ bc ∧ ms1 ≤ bs ∧ (∀ x1 m1, K1 x1 m1 → Q (some (some (vi x1))) m1)) :
    Wp (d + 1) bc bs mX10_of 23 [some (vr a0), some (vi a1), some (vi a2), none, none, none] [] μ Q := by
  refine st_aload_n (pc := 23) dX10_of_23 rfl rfl ?_
  obtain ⟨hk1, h⟩ := h
  obtain ⟨mc1, ms1, K1, hC, e1, e2, h⟩ := h
  refine sg_VI (pc := 24) (av := []) (st := []) (K := K1) dX10_of_24 ck_10_188 rfl (by decide) hk1 (by show (0 : Nat) ≤ 8; decide) hC e1 e2 (fun x1 m1 hK => ?_) rfl
  replace h := h x1 m1 hK
  exact st_ireturn (pc := 27) dX10_of_27 (Or.inl rfl) h

theorem sg_X10_of_36 {d bc bs : Nat} {a0 : Nat} {a1 : Int} {a2 : Int} {a3 : Int} {a4 : Int} {a5 : Int} {μ : Mem} {Q : Option (Option AV) → Mem → Prop}
    (h : mK μ a0 = 11 ∧ (((mD μ a0 0) ≤ a5 → (¬ a2 = 0 → (¬ a2 = 1 → (¬ a2 = 2 → Q (some (some (vi a4))) μ) ∧ (a2 = 2 → Q (some (some (vi a3))) μ)) ∧ (a2 = 1 → (mK μ (mR μ a0 8) = 20 ∨ ((mR μ a0 8) ≠ 0 ∧ mK μ (mR μ a0 8) = 40)) ∧ ((0 : Int) ≤ a1 ∧ a1 < (mN μ (mR μ a0 8) : Int)) ∧ (Q (some (some (vi (mD μ (mR μ a0 8) a1)))) μ))) ∧ (a2 = 0 → (mK μ (mR μ a0 6) = 20 ∨ ((mR μ a0 6) ≠ 0 ∧ mK μ (mR μ a0 6) = 40)) ∧ ((0 : Int) ≤ (w32 (20 * a1)) ∧ (w32 (20 * a1)) < (mN μ (mR μ a0 6) : Int)) ∧ (((0 : Int) ≤ (w32 ((w32 ((w32 (20 * a1)) + (mD μ a0 0))) - 1)) ∧ (w32 ((w32 ((w32 (20 * a1)) + (mD μ a0 0))) - 1)) < (mN μ (mR μ a0 6) : Int)) ∧ (Q (some (some (vi (w32 ((mD μ (mR μ a0 6) (w32 (20 * a1))) - (mD μ (mR μ a0 6) (w32 ((w32 ((w32 (20 * a1)) + (mD μ a0 0))) - 1)))))))) μ)))) ∧ (¬ (mD μ a0 0) ≤ a5 → (mK μ (mR μ a0 6) = 20 ∨ ((mR μ a0 6) ≠ 0 ∧ mK μ (mR μ a0 6) = 40)) ∧ ((0 : Int) ≤ (w32 ((w32 (20 * a1)) + a5)) ∧ (w32 ((w32 (20 * a1)) + a5)) < (mN μ (mR μ a0 6) : Int)) ∧ (∀ v1, v1 = w32 (a3 + (mD μ (mR μ a0 6) (w32 ((w32 (20 * a1)) + a5)))) → ((0 : Int) ≤ (w32 ((w32 (20 * a1)) + a5)) ∧ (w32 ((w32 (20 * a1)) + a5)) < (mN μ (mR μ a0 6) : Int)) ∧ (∃ (mc1 ms1 : Nat) (K1 : Int → Mem → Prop), Cl d mc1 ms1 mJ9_max_7cf53 [vi a4, vi (mD μ (mR μ a0 6) (w32 ((w32 (20 * a1)) + a5)))] μ (KI K1) ∧ mc1 ≤ bc ∧ ms1 ≤ bs ∧ (∀ x1 m1, K1 x1 m1 → ∀ v2, v2 = w32 (a5 + 1) → Wp (d + 1) (bc - mc1) (bs - ms1) mX10_of 36 [some (vr a0), some (vi a1), some (vi a2), some (vi v1), some (vi x1), some (vi v2)] [] m1 Q)))))) :
    Wp (d + 1) bc bs mX10_of 36 [some (vr a0), some (vi a1), some (vi a2), some (vi a3), some (vi a4), some (vi a5)] [] μ Q := by
  refine st_iload (pc := 36) dX10_of_36 rfl ?_
  refine st_aload_n (pc := 38) dX10_of_38 rfl rfl ?_
  obtain ⟨hk1, h⟩ := h
  refine sg_gfI (pc := 39) (J := 0) dX10_of_39 fl_10_9 (by decide) rfl hk1 ?_
  refine st_icmpge (pc := 42) (tgt := 85) dX10_of_42 rfl (fun c => ?_) (fun c => ?_)
  · replace h := h.1 c
    refine st_iload_n (pc := 85) dX10_of_85 rfl rfl ?_
    refine st_ifne (pc := 86) (tgt := 118) dX10_of_86 rfl (fun c => ?_) (fun c => ?_)
    · replace h := h.1 c
      refine st_iload_n (pc := 118) dX10_of_118 rfl rfl ?_
      refine sg_iconst (pc := 119) dX10_of_119 (by omega) ?_
      refine st_icmpne (pc := 120) (tgt := 132) dX10_of_120 rfl (fun c => ?_) (fun c => ?_)
      · replace h := h.1 c
        refine st_iload_n (pc := 132) dX10_of_132 rfl rfl ?_
        refine sg_iconst (pc := 133) dX10_of_133 (by omega) ?_
        refine st_icmpne (pc := 134) (tgt := 141) dX10_of_134 rfl (fun c => ?_) (fun c => ?_)
        · replace h := h.1 c
          refine st_iload (pc := 141) dX10_of_141 rfl ?_
          exact st_ireturn (pc := 143) dX10_of_143 (Or.inl rfl) h
        · replace h := h.2 c
          refine st_iload_n (pc := 137) dX10_of_137 rfl rfl ?_
          refine st_goto (pc := 138) dX10_of_138 rfl ?_
          exact st_ireturn (pc := 143) dX10_of_143 (Or.inl rfl) h
      · replace h := h.2 c
        refine st_aload_n (pc := 123) dX10_of_123 rfl rfl ?_
        refine sg_gfR (pc := 124) (J := 8) dX10_of_124 fl_10_32 rfl hk1 ?_
        refine st_iload_n (pc := 127) dX10_of_127 rfl rfl ?_
        obtain ⟨hk2, h⟩ := h
        obtain ⟨h1, h⟩ := h
        refine sg_iaload (pc := 128) dX10_of_128 hk2 h1 ?_
        refine st_goto (pc := 129) dX10_of_129 rfl ?_
        exact st_ireturn (pc := 143) dX10_of_143 (Or.inl rfl) h
    · replace h := h.2 c
      refine st_aload_n (pc := 89) dX10_of_89 rfl rfl ?_
      refine sg_gfR (pc := 90) (J := 6) dX10_of_90 fl_10_26 rfl hk1 ?_
      refine sg_bipush (pc := 93) dX10_of_93 (by omega) (by decide) ?_
      refine st_iload_n (pc := 95) dX10_of_95 rfl rfl ?_
      refine st_imul (pc := 96) dX10_of_96 ?_
      obtain ⟨hk3, h⟩ := h
      obtain ⟨h1, h⟩ := h
      refine sg_iaload (pc := 97) dX10_of_97 hk3 h1 ?_
      refine st_aload_n (pc := 98) dX10_of_98 rfl rfl ?_
      refine sg_gfR (pc := 99) (J := 6) dX10_of_99 fl_10_26 rfl hk1 ?_
      refine sg_bipush (pc := 102) dX10_of_102 (by omega) (by decide) ?_
      refine st_iload_n (pc := 104) dX10_of_104 rfl rfl ?_
      refine st_imul (pc := 105) dX10_of_105 ?_
      refine st_aload_n (pc := 106) dX10_of_106 rfl rfl ?_
      refine sg_gfI (pc := 107) (J := 0) dX10_of_107 fl_10_9 (by decide) rfl hk1 ?_
      refine st_iadd (pc := 110) dX10_of_110 ?_
      refine sg_iconst (pc := 111) dX10_of_111 (by omega) ?_
      refine st_isub (pc := 112) dX10_of_112 ?_
      obtain ⟨h1, h⟩ := h
      refine sg_iaload (pc := 113) dX10_of_113 hk3 h1 ?_
      refine st_isub (pc := 114) dX10_of_114 ?_
      refine st_goto (pc := 115) dX10_of_115 rfl ?_
      exact st_ireturn (pc := 143) dX10_of_143 (Or.inl rfl) h
  · replace h := h.2 c
    refine st_iload_n (pc := 45) dX10_of_45 rfl rfl ?_
    refine st_aload_n (pc := 46) dX10_of_46 rfl rfl ?_
    refine sg_gfR (pc := 47) (J := 6) dX10_of_47 fl_10_26 rfl hk1 ?_
    refine sg_bipush (pc := 50) dX10_of_50 (by omega) (by decide) ?_
    refine st_iload_n (pc := 52) dX10_of_52 rfl rfl ?_
    refine st_imul (pc := 53) dX10_of_53 ?_
    refine st_iload (pc := 54) dX10_of_54 rfl ?_
    refine st_iadd (pc := 56) dX10_of_56 ?_
    obtain ⟨hk4, h⟩ := h
    obtain ⟨h1, h⟩ := h
    refine sg_iaload (pc := 57) dX10_of_57 hk4 h1 ?_
    refine st_iadd (pc := 58) dX10_of_58 ?_
    refine sg_istore_n (pc := 59) (ls' := [some (vr a0), some (vi a1), some (vi a2), some (vi (w32 (a3 + (mD μ (mR μ a0 6) (w32 ((w32 (20 * a1)) + a5)))))), some (vi a4), some (vi a5)]) dX10_of_59 rfl (by show (3 : Nat) < 6; decide) rfl ?_
    refine Wp.nameL (ls2 := fun v => [some (vr a0), some (vi a1), some (vi a2), some (vi v), some (vi a4), some (vi a5)]) 3 _ rfl (fun _ => rfl) (fun v1 ev1 => ?_)
    replace h := h v1 ev1
    refine st_iload (pc := 60) dX10_of_60 rfl ?_
    refine st_aload_n (pc := 62) dX10_of_62 rfl rfl ?_
    refine sg_gfR (pc := 63) (J := 6) dX10_of_63 fl_10_26 rfl hk1 ?_
    refine sg_bipush (pc := 66) dX10_of_66 (by omega) (by decide) ?_
    refine st_iload_n (pc := 68) dX10_of_68 rfl rfl ?_
    refine st_imul (pc := 69) dX10_of_69 ?_
    refine st_iload (pc := 70) dX10_of_70 rfl ?_
    refine st_iadd (pc := 72) dX10_of_72 ?_
    obtain ⟨h1, h⟩ := h
    refine sg_iaload (pc := 73) dX10_of_73 hk4 h1 ?_
    obtain ⟨mc1, ms1, K1, hC, e1, e2, h⟩ := h
    refine sg_SI (pc := 74) (av := [vi a4, vi (mD μ (mR μ a0 6) (w32 ((w32 (20 * a1)) + a5)))]) (st := []) (K := K1) dX10_of_74 ck_10_168 rfl (by show (0 : Nat) ≤ 8; decide) hC e1 e2 (fun x1 m1 hK => ?_) rfl
    replace h := h x1 m1 hK
    refine sg_istore (pc := 77) (ls' := [some (vr a0), some (vi a1), some (vi a2), some (vi v1), some (vi x1), some (vi a5)]) dX10_of_77 (by show (4 : Nat) < 6; decide) rfl ?_
    refine sg_iinc (pc := 79) (ls' := [some (vr a0), some (vi a1), some (vi a2), some (vi v1), some (vi x1), some (vi (w32 (a5 + 1)))]) dX10_of_79 rfl rfl ?_
    refine Wp.nameL (ls2 := fun v => [some (vr a0), some (vi a1), some (vi a2), some (vi v1), some (vi x1), some (vi v)]) 5 _ rfl (fun _ => rfl) (fun v2 ev2 => ?_)
    replace h := h v2 ev2
    refine st_goto (pc := 82) dX10_of_82 rfl ?_
    exact h

theorem sg_X10_sign_0 {d bc bs : Nat} {a0 : Nat} {a1 : Int} {μ : Mem} {Q : Option (Option AV) → Mem → Prop}
    (h : mK μ a0 = 11 ∧ (∀ m1, m1 = sD μ a0 15 0 → ((w32 ((mD m1 a0 12) + 4)) ≤ 80 → Wp d bc bs mX10_sign 20 [some (vr a0), some (vi a1), some (vi 3)] [] m1 Q) ∧ (¬ (w32 ((mD m1 a0 12) + 4)) ≤ 80 → Q (some (some (vi (-1)))) m1))) :
    Wp d bc bs mX10_sign 0 [some (vr a0), some (vi a1), none] [] μ Q := by
  refine st_aload_n (pc := 0) dX10_sign_0 rfl rfl ?_
  refine sg_iconst (pc := 1) dX10_sign_1 (by omega) ?_
  obtain ⟨hk1, h⟩ := h
  refine sg_pfI (pc := 2) (J := 15) dX10_sign_2 fl_10_142 rfl (Or.inl rfl) hk1 ?_
  refine Wp.nameM (fun m1 em1 => ?_)
  replace h := h m1 em1
  refine st_aload_n (pc := 5) dX10_sign_5 rfl rfl ?_
  refine sg_gfI (pc := 6) (J := 12) dX10_sign_6 fl_10_191 (by decide) rfl (by cases em1; exact hk1) ?_
  refine sg_iconst (pc := 9) dX10_sign_9 (by omega) ?_
  refine st_iadd (pc := 10) dX10_sign_10 ?_
  refine sg_bipush (pc := 11) dX10_sign_11 (by omega) (by decide) ?_
  refine st_icmple (pc := 13) (tgt := 18) dX10_sign_13 rfl (fun c => ?_) (fun c => ?_)
  · replace h := h.1 c
    refine sg_iconst (pc := 18) dX10_sign_18 (by omega) ?_
    refine sg_istore_n (pc := 19) (ls' := [some (vr a0), some (vi a1), some (vi 3)]) dX10_sign_19 rfl (by show (2 : Nat) < 3; decide) rfl ?_
    exact h
  · replace h := h.2 c
    refine sg_iconst (pc := 16) dX10_sign_16 (by omega) ?_
    exact st_ireturn (pc := 17) dX10_sign_17 (Or.inl rfl) h

theorem sg_X10_sign_20 {d bc bs : Nat} {a0 : Nat} {a1 : Int} {a2 : Int} {μ : Mem} {Q : Option (Option AV) → Mem → Prop}
    (h : (a2 < 0 → mK μ a0 = 11 ∧ (Q (some (some (vi (mD μ a0 12)))) μ)) ∧ (¬ a2 < 0 → mK μ a0 = 11 ∧ ((∀ m1, m1 = sD μ a0 12 (w32 ((mD μ a0 12) + 1)) → mK m1 (mR μ a0 11) = 22 ∧ ((0 : Int) ≤ (mD μ a0 12) ∧ (mD μ a0 12) < (mN m1 (mR μ a0 11) : Int)) ∧ (∀ m2, m2 = sD m1 (mR μ a0 11) (mD μ a0 12) (w8 (w8 (bShr a1 (w32 (8 * a2))))) → ∀ v1, v1 = w32 (a2 + (-1)) → Wp d bc bs mX10_sign 20 [some (vr a0), some (vi a1), some (vi v1)] [] m2 Q))))) :
    Wp d bc bs mX10_sign 20 [some (vr a0), some (vi a1), some (vi a2)] [] μ Q := by
  refine st_iload_n (pc := 20) dX10_sign_20 rfl rfl ?_
  refine st_iflt (pc := 21) (tgt := 53) dX10_sign_21 rfl (fun c => ?_) (fun c => ?_)
  · replace h := h.1 c
    refine st_aload_n (pc := 53) dX10_sign_53 rfl rfl ?_
    obtain ⟨hk1, h⟩ := h
    refine sg_gfI (pc := 54) (J := 12) dX10_sign_54 fl_10_191 (by decide) rfl hk1 ?_
    exact st_ireturn (pc := 57) dX10_sign_57 (Or.inl rfl) h
  · replace h := h.2 c
    refine st_aload_n (pc := 24) dX10_sign_24 rfl rfl ?_
    obtain ⟨hk2, h⟩ := h
    refine sg_gfR (pc := 25) (J := 11) dX10_sign_25 fl_10_41 rfl hk2 ?_
    refine st_aload_n (pc := 28) dX10_sign_28 rfl rfl ?_
    refine st_dup (pc := 29) dX10_sign_29 rfl ?_
    refine sg_gfI (pc := 30) (J := 12) dX10_sign_30 fl_10_191 (by decide) rfl hk2 ?_
    refine st_dup_x1 (pc := 33) dX10_sign_33 rfl rfl ?_
    refine sg_iconst (pc := 34) dX10_sign_34 (by omega) ?_
    refine st_iadd (pc := 35) dX10_sign_35 ?_
    refine sg_pfI (pc := 36) (J := 12) dX10_sign_36 fl_10_191 rfl (Or.inl rfl) hk2 ?_
    refine Wp.nameM (fun m1 em1 => ?_)
    replace h := h m1 em1
    refine st_iload_n (pc := 39) dX10_sign_39 rfl rfl ?_
    refine sg_bipush (pc := 40) dX10_sign_40 (by omega) (by decide) ?_
    refine st_iload_n (pc := 42) dX10_sign_42 rfl rfl ?_
    refine st_imul (pc := 43) dX10_sign_43 ?_
    refine st_ishr (pc := 44) dX10_sign_44 ?_
    refine st_i2b (pc := 45) dX10_sign_45 ?_
    obtain ⟨hk3, h⟩ := h
    obtain ⟨h1, h⟩ := h
    refine st_bastore (pc := 46) dX10_sign_46 hk3 h1.1 h1.2 ?_
    refine Wp.nameM (fun m2 em2 => ?_)
    replace h := h m2 em2
    refine sg_iinc (pc := 47) (ls' := [some (vr a0), some (vi a1), some (vi (w32 (a2 + (-1))))]) dX10_sign_47 rfl rfl ?_
    refine Wp.nameL (ls2 := fun v => [some (vr a0), some (vi a1), some (vi v)]) 2 _ rfl (fun _ => rfl) (fun v1 ev1 => ?_)
    replace h := h v1 ev1
    refine st_goto (pc := 50) dX10_sign_50 rfl ?_
    exact h

theorem sg_X10_end_0 {d bc bs : Nat} {a0 : Nat} {a1 : Int} {μ : Mem} {Q : Option (Option AV) → Mem → Prop}
    (h : mK μ a0 = 11 ∧ (∀ m1, m1 = sD μ a0 15 0 → ∃ (mc1 ms1 : Nat) (K1 : Int → Mem → Prop), Cl d mc1 ms1 mX10_in [vi a1, vi 0, vi (mD m1 a0 12)] m1 (KI K1) ∧ mc1 ≤ bc ∧ ms1 ≤ bs ∧ (∀ x1 m2, K1 x1 m2 → (¬ x1 = 0 → mK m2 a0 = 11 ∧ (∀ m3, m3 = sD m2 a0 12 a1 → Q (some (some (vi 1))) m3)) ∧ (x1 = 0 → Q (some (some (vi 0))) m2)))) :
    Wp (d + 1) bc bs mX10_end 0 [some (vr a0), some (vi a1)] [] μ Q := by
  refine st_aload_n (pc := 0) dX10_end_0 rfl rfl ?_
  refine sg_iconst (pc := 1) dX10_end_1 (by omega) ?_
  obtain ⟨hk1, h⟩ := h
  refine sg_pfI (pc := 2) (J := 15) dX10_end_2 fl_10_142 rfl (Or.inl rfl) hk1 ?_
  refine Wp.nameM (fun m1 em1 => ?_)
  replace h := h m1 em1
  refine st_iload_n (pc := 5) dX10_end_5 rfl rfl ?_
  refine sg_iconst (pc := 6) dX10_end_6 (by omega) ?_
  refine st_aload_n (pc := 7) dX10_end_7 rfl rfl ?_
  refine sg_gfI (pc := 8) (J := 12) dX10_end_8 fl_10_191 (by decide) rfl (by cases em1; exact hk1) ?_
  obtain ⟨mc1, ms1, K1, hC, e1, e2, h⟩ := h
  refine sg_SI (pc := 11) (av := [vi a1, vi 0, vi (mD m1 a0 12)]) (st := []) (K := K1) dX10_end_11 ck_10_151 rfl (by show (0 : Nat) ≤ 8; decide) hC e1 e2 (fun x1 m2 hK => ?_) rfl
  replace h := h x1 m2 hK
  refine st_ifne (pc := 14) (tgt := 19) dX10_end_14 rfl (fun c => ?_) (fun c => ?_)
  · replace h := h.1 c
    refine st_aload_n (pc := 19) dX10_end_19 rfl rfl ?_
    refine st_iload_n (pc := 20) dX10_end_20 rfl rfl ?_
    obtain ⟨hk2, h⟩ := h
    refine sg_pfI (pc := 21) (J := 12) dX10_end_21 fl_10_191 rfl (Or.inl rfl) hk2 ?_
    refine Wp.nameM (fun m3 em3 => ?_)
    replace h := h m3 em3
    refine sg_iconst (pc := 24) dX10_end_24 (by omega) ?_
    exact st_ireturn (pc := 25) dX10_end_25 (Or.inr ⟨rfl, by omega⟩) h
  · replace h := h.2 c
    refine sg_iconst (pc := 17) dX10_end_17 (by omega) ?_
    exact st_ireturn (pc := 18) dX10_end_18 (Or.inr ⟨rfl, by omega⟩) h

theorem sg_X10_start_0 {d bc bs : Nat} {a0 : Nat} {a1 : Nat} {a2 : Int} {a3 : Int} {μ : Mem} {Q : Option (Option AV) → Mem → Prop}
    (h : mK μ a0 = 11 ∧ (∀ m1, m1 = sR μ a0 17 a1 → mK m1 a0 = 11 ∧ (∀ m2, m2 = sD m1 a0 18 a2 → (∀ m3, m3 = sD m2 a0 19 a3 → (∀ m4, m4 = sD m3 a0 20 0 → (∀ m5, m5 = sD m4 a0 21 (-1) → Q (some none) m5)))))) :
    Wp d bc bs mX10_start 0 [some (vr a0), some (vr a1), some (vi a2), some (vi a3)] [] μ Q := by
  refine st_aload_n (pc := 0) dX10_start_0 rfl rfl ?_
  refine st_aload_n (pc := 1) dX10_start_1 rfl rfl ?_
  obtain ⟨hk1, h⟩ := h
  refine sg_pfR (pc := 2) (J := 17) dX10_start_2 fl_10_194 rfl (Or.inl rfl) hk1 ?_
  refine Wp.nameM (fun m1 em1 => ?_)
  replace h := h m1 em1
  refine st_aload_n (pc := 5) dX10_start_5 rfl rfl ?_
  refine st_iload_n (pc := 6) dX10_start_6 rfl rfl ?_
  obtain ⟨hk2, h⟩ := h
  refine sg_pfI (pc := 7) (J := 18) dX10_start_7 fl_10_197 rfl (Or.inl rfl) hk2 ?_
  refine Wp.nameM (fun m2 em2 => ?_)
  replace h := h m2 em2
  refine st_aload_n (pc := 10) dX10_start_10 rfl rfl ?_
  refine st_iload_n (pc := 11) dX10_start_11 rfl rfl ?_
  refine sg_pfI (pc := 12) (J := 19) dX10_start_12 fl_10_200 rfl (Or.inl rfl) (by cases em2; exact hk2) ?_
  refine Wp.nameM (fun m3 em3 => ?_)
  replace h := h m3 em3
  refine st_aload_n (pc := 15) dX10_start_15 rfl rfl ?_
  refine sg_iconst (pc := 16) dX10_start_16 (by omega) ?_
  refine sg_pfI (pc := 17) (J := 20) dX10_start_17 fl_10_203 rfl (Or.inl rfl) (by cases em3; cases em2; exact hk2) ?_
  refine Wp.nameM (fun m4 em4 => ?_)
  replace h := h m4 em4
  refine st_aload_n (pc := 20) dX10_start_20 rfl rfl ?_
  refine sg_iconst (pc := 21) dX10_start_21 (by omega) ?_
  refine sg_pfI (pc := 22) (J := 21) dX10_start_22 fl_10_206 rfl (Or.inl rfl) (by cases em4; cases em3; cases em2; exact hk2) ?_
  refine Wp.nameM (fun m5 em5 => ?_)
  replace h := h m5 em5
  exact st_return (pc := 25) dX10_start_25 rfl h

theorem sg_X10_here_0 {d bc bs : Nat} {a0 : Nat} {μ : Mem} {Q : Option (Option AV) → Mem → Prop}
    (h : mK μ a0 = 11 ∧ (((mD μ a0 18) ≤ (mD μ a0 20) → Q (some (some (vi (-1)))) μ) ∧ (¬ (mD μ a0 18) ≤ (mD μ a0 20) → ((mD μ a0 19) ≤ (mD μ a0 20) → Q (some (some (vi (-1)))) μ) ∧ (¬ (mD μ a0 19) ≤ (mD μ a0 20) → mK μ (mR μ a0 17) = 22 ∧ ((0 : Int) ≤ (mD μ a0 20) ∧ (mD μ a0 20) < (mN μ (mR μ a0 17) : Int)) ∧ (Q (some (some (vi (mD μ (mR μ a0 17) (mD μ a0 20))))) μ))))) :
    Wp d bc bs mX10_here 0 [some (vr a0)] [] μ Q := by
  refine st_aload_n (pc := 0) dX10_here_0 rfl rfl ?_
  obtain ⟨hk1, h⟩ := h
  refine sg_gfI (pc := 1) (J := 20) dX10_here_1 fl_10_203 (by decide) rfl hk1 ?_
  refine st_aload_n (pc := 4) dX10_here_4 rfl rfl ?_
  refine sg_gfI (pc := 5) (J := 18) dX10_here_5 fl_10_197 (by decide) rfl hk1 ?_
  refine st_icmpge (pc := 8) (tgt := 34) dX10_here_8 rfl (fun c => ?_) (fun c => ?_)
  · replace h := h.1 c
    refine sg_iconst (pc := 34) dX10_here_34 (by omega) ?_
    exact st_ireturn (pc := 35) dX10_here_35 (Or.inl rfl) h
  · replace h := h.2 c
    refine st_aload_n (pc := 11) dX10_here_11 rfl rfl ?_
    refine sg_gfI (pc := 12) (J := 20) dX10_here_12 fl_10_203 (by decide) rfl hk1 ?_
    refine st_aload_n (pc := 15) dX10_here_15 rfl rfl ?_
    refine sg_gfI (pc := 16) (J := 19) dX10_here_16 fl_10_200 (by decide) rfl hk1 ?_
    refine st_icmpge (pc := 19) (tgt := 34) dX10_here_19 rfl (fun c => ?_) (fun c => ?_)
    · replace h := h.1 c
      refine sg_iconst (pc := 34) dX10_here_34 (by omega) ?_
      exact st_ireturn (pc := 35) dX10_here_35 (Or.inl rfl) h
    · replace h := h.2 c
      refine st_aload_n (pc := 22) dX10_here_22 rfl rfl ?_
      refine sg_gfR (pc := 23) (J := 17) dX10_here_23 fl_10_194 rfl hk1 ?_
      refine st_aload_n (pc := 26) dX10_here_26 rfl rfl ?_
      refine sg_gfI (pc := 27) (J := 20) dX10_here_27 fl_10_203 (by decide) rfl hk1 ?_
      obtain ⟨hk2, h⟩ := h
      obtain ⟨h1, h⟩ := h
      refine st_baload (pc := 30) dX10_here_30 hk2 h1.1 h1.2 ?_
      refine st_goto (pc := 31) dX10_here_31 rfl ?_
      exact st_ireturn (pc := 35) dX10_here_35 (Or.inl rfl) h

theorem sg_X10_fine_0 {d bc bs : Nat} {a0 : Nat} {μ : Mem} {Q : Option (Option AV) → Mem → Prop}
    (h : mK μ a0 = 11 ∧ ((¬ (mD μ a0 21) = (-1) → Q (some (some (vi 0))) μ) ∧ ((mD μ a0 21) = (-1) → Q (some (some (vi 1))) μ))) :
    Wp d bc bs mX10_fine 0 [some (vr a0)] [] μ Q := by
  refine st_aload_n (pc := 0) dX10_fine_0 rfl rfl ?_
  obtain ⟨hk1, h⟩ := h
  refine sg_gfI (pc := 1) (J := 21) dX10_fine_1 fl_10_206 (by decide) rfl hk1 ?_
  refine sg_iconst (pc := 4) dX10_fine_4 (by omega) ?_
  refine st_icmpne (pc := 5) (tgt := 12) dX10_fine_5 rfl (fun c => ?_) (fun c => ?_)
  · replace h := h.1 c
    refine sg_iconst (pc := 12) dX10_fine_12 (by omega) ?_
    exact st_ireturn (pc := 13) dX10_fine_13 (Or.inr ⟨rfl, by omega⟩) h
  · replace h := h.2 c
    refine sg_iconst (pc := 8) dX10_fine_8 (by omega) ?_
    refine st_goto (pc := 9) dX10_fine_9 rfl ?_
    exact st_ireturn (pc := 13) dX10_fine_13 (Or.inr ⟨rfl, by omega⟩) h

theorem sg_X10_fault_0 {d bc bs : Nat} {a0 : Nat} {a1 : Int} {μ : Mem} {Q : Option (Option AV) → Mem → Prop}
    (h : mK μ a0 = 11 ∧ ∃ (mc1 ms1 : Nat) (K1 : Int → Mem → Prop), Cl d mc1 ms1 mX10_fine [vr a0] μ (KI K1) ∧ mc1 ≤ bc ∧ ms1 ≤ bs ∧ (∀ x1 m1, K1 x1 m1 → (x1 = 0 → Q (some none) m1) ∧ (¬ x1 = 0 → mK m1 a0 = 11 ∧ (∀ m2, m2 = sD m1 a0 21 a1 → Q (some none) m2)))) :
    Wp (d + 1) bc bs mX10_fault 0 [some (vr a0), some (vi a1)] [] μ Q := by
  refine st_aload_n (pc := 0) dX10_fault_0 rfl rfl ?_
  obtain ⟨hk1, h⟩ := h
  obtain ⟨mc1, ms1, K1, hC, e1, e2, h⟩ := h
  refine sg_VI (pc := 1) (av := []) (st := []) (K := K1) dX10_fault_1 ck_10_209 rfl (by decide) hk1 (by show (0 : Nat) ≤ 8; decide) hC e1 e2 (fun x1 m1 hK => ?_) rfl
  replace h := h x1 m1 hK
  refine st_ifeq (pc := 4) (tgt := 12) dX10_fault_4 rfl (fun c => ?_) (fun c => ?_)
  · replace h := h.1 c
    exact st_return (pc := 12) dX10_fault_12 rfl h
  · replace h := h.2 c
    refine st_aload_n (pc := 7) dX10_fault_7 rfl rfl ?_
    refine st_iload_n (pc := 8) dX10_fault_8 rfl rfl ?_
    obtain ⟨hk2, h⟩ := h
    refine sg_pfI (pc := 9) (J := 21) dX10_fault_9 fl_10_206 rfl (Or.inl rfl) hk2 ?_
    refine Wp.nameM (fun m2 em2 => ?_)
    replace h := h m2 em2
    exact st_return (pc := 12) dX10_fault_12 rfl h

theorem sg_X10_passes_0 {d bc bs : Nat} {a0 : Nat} {a1 : Int} {μ : Mem} {Q : Option (Option AV) → Mem → Prop}
    (h : mK μ a0 = 11 ∧ ∃ (mc1 ms1 : Nat) (K1 : Int → Mem → Prop), Cl d mc1 ms1 mX10_fine [vr a0] μ (KI K1) ∧ mc1 ≤ bc ∧ ms1 ≤ bs ∧ (∀ x1 m1, K1 x1 m1 → (x1 = 0 → Q (some (some (vi 0))) m1) ∧ (¬ x1 = 0 → mK m1 a0 = 11 ∧ ∃ (mc2 ms2 : Nat) (K2 : Int → Mem → Prop), Cl d mc2 ms2 mX10_here [vr a0] m1 (KI K2) ∧ mc2 ≤ bc - mc1 ∧ ms2 ≤ bs - ms1 ∧ (∀ x2 m2, K2 x2 m2 → (x2 = a1 → mK m2 a0 = 11 ∧ ((∀ m3, m3 = sD m2 a0 20 (w32 ((mD m2 a0 20) + 1)) → Q (some (some (vi 1))) m3))) ∧ (¬ x2 = a1 → Q (some (some (vi 0))) m2))))) :
    Wp (d + 1) bc bs mX10_passes 0 [some (vr a0), some (vi a1)] [] μ Q := by
  refine st_aload_n (pc := 0) dX10_passes_0 rfl rfl ?_
  obtain ⟨hk1, h⟩ := h
  obtain ⟨mc1, ms1, K1, hC, e1, e2, h⟩ := h
  refine sg_VI (pc := 1) (av := []) (st := []) (K := K1) dX10_passes_1 ck_10_209 rfl (by decide) hk1 (by show (0 : Nat) ≤ 8; decide) hC e1 e2 (fun x1 m1 hK => ?_) rfl
  replace h := h x1 m1 hK
  refine st_ifeq (pc := 4) (tgt := 15) dX10_passes_4 rfl (fun c => ?_) (fun c => ?_)
  · replace h := h.1 c
    refine sg_iconst (pc := 15) dX10_passes_15 (by omega) ?_
    exact st_ireturn (pc := 16) dX10_passes_16 (Or.inr ⟨rfl, by omega⟩) h
  · replace h := h.2 c
    refine st_aload_n (pc := 7) dX10_passes_7 rfl rfl ?_
    obtain ⟨hk2, h⟩ := h
    obtain ⟨mc2, ms2, K2, hC, e1, e2, h⟩ := h
    refine sg_VI (pc := 8) (av := []) (st := []) (K := K2) dX10_passes_8 ck_10_213 rfl (by decide) hk2 (by show (0 : Nat) ≤ 8; decide) hC e1 e2 (fun x2 m2 hK => ?_) rfl
    replace h := h x2 m2 hK
    refine st_iload_n (pc := 11) dX10_passes_11 rfl rfl ?_
    refine st_icmpeq (pc := 12) (tgt := 17) dX10_passes_12 rfl (fun c => ?_) (fun c => ?_)
    · replace h := h.1 c
      refine st_aload_n (pc := 17) dX10_passes_17 rfl rfl ?_
      refine st_dup (pc := 18) dX10_passes_18 rfl ?_
      obtain ⟨hk3, h⟩ := h
      refine sg_gfI (pc := 19) (J := 20) dX10_passes_19 fl_10_203 (by decide) rfl hk3 ?_
      refine sg_iconst (pc := 22) dX10_passes_22 (by omega) ?_
      refine st_iadd (pc := 23) dX10_passes_23 ?_
      refine sg_pfI (pc := 24) (J := 20) dX10_passes_24 fl_10_203 rfl (Or.inl rfl) hk3 ?_
      refine Wp.nameM (fun m3 em3 => ?_)
      replace h := h m3 em3
      refine sg_iconst (pc := 27) dX10_passes_27 (by omega) ?_
      exact st_ireturn (pc := 28) dX10_passes_28 (Or.inr ⟨rfl, by omega⟩) h
    · replace h := h.2 c
      refine sg_iconst (pc := 15) dX10_passes_15 (by omega) ?_
      exact st_ireturn (pc := 16) dX10_passes_16 (Or.inr ⟨rfl, by omega⟩) h

theorem sg_X10_need_0 {d bc bs : Nat} {a0 : Nat} {a1 : Int} {μ : Mem} {Q : Option (Option AV) → Mem → Prop}
    (h : mK μ a0 = 11 ∧ ∃ (mc1 ms1 : Nat) (K1 : Int → Mem → Prop), Cl d mc1 ms1 mX10_passes [vr a0, vi a1] μ (KI K1) ∧ mc1 ≤ bc ∧ ms1 ≤ bs ∧ (∀ x1 m1, K1 x1 m1 → (¬ x1 = 0 → Q (some none) m1) ∧ (x1 = 0 → mK m1 a0 = 11 ∧ (∃ (mc2 ms2 : Nat) (K2 : Mem → Prop), Cl d mc2 ms2 mX10_fault [vr a0, vi (mD m1 a0 20)] m1 (KV K2) ∧ mc2 ≤ bc - mc1 ∧ ms2 ≤ bs - ms1 ∧ (∀ m2, K2 m2 → Q (some none) m2))))) :
    Wp (d + 1) bc bs mX10_need 0 [some (vr a0), some (vi a1)] [] μ Q := by
  refine st_aload_n (pc := 0) dX10_need_0 rfl rfl ?_
  refine st_iload_n (pc := 1) dX10_need_1 rfl rfl ?_
  obtain ⟨hk1, h⟩ := h
  obtain ⟨mc1, ms1, K1, hC, e1, e2, h⟩ := h
  refine sg_VI (pc := 2) (av := [vi a1]) (st := []) (K := K1) dX10_need_2 ck_10_216 rfl (by decide) hk1 (by show (0 : Nat) ≤ 8; decide) hC e1 e2 (fun x1 m1 hK => ?_) rfl
  replace h := h x1 m1 hK
  refine st_ifne (pc := 5) (tgt := 16) dX10_need_5 rfl (fun c => ?_) (fun c => ?_)
  · replace h := h.1 c
    exact st_return (pc := 16) dX10_need_16 rfl h
  · replace h := h.2 c
    refine st_aload_n (pc := 8) dX10_need_8 rfl rfl ?_
    refine st_aload_n (pc := 9) dX10_need_9 rfl rfl ?_
    obtain ⟨hk2, h⟩ := h
    refine sg_gfI (pc := 10) (J := 20) dX10_need_10 fl_10_203 (by decide) rfl hk2 ?_
    obtain ⟨mc2, ms2, K2, hC, e1, e2, h⟩ := h
    refine sg_VV (pc := 13) (av := [vi (mD m1 a0 20)]) (st := []) (K := K2) dX10_need_13 ck_10_220 rfl (by decide) hk2 (by show (0 : Nat) ≤ 8; decide) hC e1 e2 (fun m2 hK => ?_) rfl
    replace h := h m2 hK
    exact st_return (pc := 16) dX10_need_16 rfl h

theorem sg_X10_number_0 {d bc bs : Nat} {a0 : Nat} {a1 : Int} {a2 : Int} {μ : Mem} {Q : Option (Option AV) → Mem → Prop}
    (h : mK μ a0 = 11 ∧ ∃ (mc1 ms1 : Nat) (K1 : Int → Mem → Prop), Cl d mc1 ms1 mX10_fine [vr a0] μ (KI K1) ∧ mc1 ≤ bc ∧ ms1 ≤ bs ∧ (∀ x1 m1, K1 x1 m1 → (¬ x1 = 0 → mK m1 a0 = 11 ∧ (∀ v1, v1 = mD m1 a0 20 → Wp (d + 1) (bc - mc1) (bs - ms1) mX10_number 17 [some (vr a0), some (vi a1), some (vi a2), some (vi v1), some (vi 0)] [] m1 Q)) ∧ (x1 = 0 → Q (some (some (vi 0))) m1))) :
    Wp (d + 1) bc bs mX10_number 0 [some (vr a0), some (vi a1), some (vi a2), none, none] [] μ Q := by
  refine st_aload_n (pc := 0) dX10_number_0 rfl rfl ?_
  obtain ⟨hk1, h⟩ := h
  obtain ⟨mc1, ms1, K1, hC, e1, e2, h⟩ := h
  refine sg_VI (pc := 1) (av := []) (st := []) (K := K1) dX10_number_1 ck_10_209 rfl (by decide) hk1 (by show (0 : Nat) ≤ 8; decide) hC e1 e2 (fun x1 m1 hK => ?_) rfl
  replace h := h x1 m1 hK
  refine st_ifne (pc := 4) (tgt := 9) dX10_number_4 rfl (fun c => ?_) (fun c => ?_)
  · replace h := h.1 c
    refine st_aload_n (pc := 9) dX10_number_9 rfl rfl ?_
    obtain ⟨hk2, h⟩ := h
    refine sg_gfI (pc := 10) (J := 20) dX10_number_10 fl_10_203 (by decide) rfl hk2 ?_
    refine sg_istore_n (pc := 13) (ls' := [some (vr a0), some (vi a1), some (vi a2), some (vi (mD m1 a0 20)), none]) dX10_number_13 rfl (by show (3 : Nat) < 5; decide) rfl ?_
    refine Wp.nameL (ls2 := fun v => [some (vr a0), some (vi a1), some (vi a2), some (vi v), none]) 3 _ rfl (fun _ => rfl) (fun v1 ev1 => ?_)
    replace h := h v1 ev1
    refine sg_iconst (pc := 14) dX10_number_14 (by omega) ?_
    refine sg_istore (pc := 15) (ls' := [some (vr a0), some (vi a1), some (vi a2), some (vi v1), some (vi 0)]) dX10_number_15 (by show (4 : Nat) < 5; decide) rfl ?_
    exact h
  · replace h := h.2 c
    refine sg_iconst (pc := 7) dX10_number_7 (by omega) ?_
    exact st_ireturn (pc := 8) dX10_number_8 (Or.inl rfl) h

theorem sg_X10_number_17 {d bc bs : Nat} {a0 : Nat} {a1 : Int} {a2 : Int} {a3 : Int} {a4 : Int} {μ : Mem} {Q : Option (Option AV) → Mem → Prop}
    (h : mK μ a0 = 11 ∧ (((w32 (a3 + 3)) ≤ (mD μ a0 20) → Wp (d + 1) bc bs mX10_number 69 [some (vr a0), some (vi a1), some (vi a2), some (vi a3), some (vi a4)] [] μ Q) ∧ (¬ (w32 (a3 + 3)) ≤ (mD μ a0 20) → ∃ (mc1 ms1 : Nat) (K1 : Int → Mem → Prop), Cl d mc1 ms1 mX10_here [vr a0] μ (KI K1) ∧ mc1 ≤ bc ∧ ms1 ≤ bs ∧ (∀ x1 m1, K1 x1 m1 → ∃ (mc2 ms2 : Nat) (K2 : Int → Mem → Prop), Cl d mc2 ms2 mX10_in [vi x1, vi 48, vi 57] m1 (KI K2) ∧ mc2 ≤ bc - mc1 ∧ ms2 ≤ bs - ms1 ∧ (∀ x2 m2, K2 x2 m2 → (x2 = 0 → Wp (d + 1) (bc - mc1 - mc2) (bs - ms1 - ms2) mX10_number 69 [some (vr a0), some (vi a1), some (vi a2), some (vi a3), some (vi a4)] [] m2 Q) ∧ (¬ x2 = 0 → mK m2 a0 = 11 ∧ ∃ (mc3 ms3 : Nat) (K3 : Int → Mem → Prop), Cl d mc3 ms3 mX10_here [vr a0] m2 (KI K3) ∧ mc3 ≤ bc - mc1 - mc2 ∧ ms3 ≤ bs - ms1 - ms2 ∧ (∀ x3 m3, K3 x3 m3 → ∀ v1, v1 = w32 ((w32 ((w32 (10 * a4)) + x3)) - 48) → mK m3 a0 = 11 ∧ ((∀ m4, m4 = sD m3 a0 20 (w32 ((mD m3 a0 20) + 1)) → Wp (d + 1) (bc - mc1 - mc2 - mc3) (bs - ms1 - ms2 - ms3) mX10_number 17 [some (vr a0), some (vi a1), some (vi a2), some (vi a3), some (vi v1)] [] m4 Q))))))))) :
    Wp (d + 1) bc bs mX10_number 17 [some (vr a0), some (vi a1), some (vi a2), some (vi a3), some (vi a4)] [] μ Q := by
  refine st_aload_n (pc := 17) dX10_number_17 rfl rfl ?_
  obtain ⟨hk1, h⟩ := h
  refine sg_gfI (pc := 18) (J := 20) dX10_number_18 fl_10_203 (by decide) rfl hk1 ?_
  refine st_iload_n (pc := 21) dX10_number_21 rfl rfl ?_
  refine sg_iconst (pc := 22) dX10_number_22 (by omega) ?_
  refine st_iadd (pc := 23) dX10_number_23 ?_
  refine st_icmpge (pc := 24) (tgt := 69) dX10_number_24 rfl (fun c => ?_) (fun c => ?_)
  · replace h := h.1 c
    exact h
  · replace h := h.2 c
    refine st_aload_n (pc := 27) dX10_number_27 rfl rfl ?_
    obtain ⟨mc1, ms1, K1, hC, e1, e2, h⟩ := h
    refine sg_VI (pc := 28) (av := []) (st := []) (K := K1) dX10_number_28 ck_10_213 rfl (by decide) hk1 (by show (0 : Nat) ≤ 8; decide) hC e1 e2 (fun x1 m1 hK => ?_) rfl
    replace h := h x1 m1 hK
    refine sg_bipush (pc := 31) dX10_number_31 (by omega) (by decide) ?_
    refine sg_bipush (pc := 33) dX10_number_33 (by omega) (by decide) ?_
    obtain ⟨mc2, ms2, K2, hC, e1, e2, h⟩ := h
    refine sg_SI (pc := 35) (av := [vi x1, vi 48, vi 57]) (st := []) (K := K2) dX10_number_35 ck_10_151 rfl (by show (0 : Nat) ≤ 8; decide) hC e1 e2 (fun x2 m2 hK => ?_) rfl
    replace h := h x2 m2 hK
    refine st_ifeq (pc := 38) (tgt := 69) dX10_number_38 rfl (fun c => ?_) (fun c => ?_)
    · replace h := h.1 c
      exact h
    · replace h := h.2 c
      refine sg_bipush (pc := 41) dX10_number_41 (by omega) (by decide) ?_
      refine st_iload (pc := 43) dX10_number_43 rfl ?_
      refine st_imul (pc := 45) dX10_number_45 ?_
      refine st_aload_n (pc := 46) dX10_number_46 rfl rfl ?_
      obtain ⟨hk2, h⟩ := h
      obtain ⟨mc3, ms3, K3, hC, e1, e2, h⟩ := h
      refine sg_VI (pc := 47) (av := []) (st := [vi (w32 (10 * a4))]) (K := K3) dX10_number_47 ck_10_213 rfl (by decide) hk2 (by show (1 : Nat) ≤ 8; decide) hC e1 e2 (fun x3 m3 hK => ?_) rfl
      replace h := h x3 m3 hK
      refine st_iadd (pc := 50) dX10_number_50 ?_
      refine sg_bipush (pc := 51) dX10_number_51 (by omega) (by decide) ?_
      refine st_isub (pc := 53) dX10_number_53 ?_
      refine sg_istore (pc := 54) (ls' := [some (vr a0), some (vi a1), some (vi a2), some (vi a3), some (vi (w32 ((w32 ((w32 (10 * a4)) + x3)) - 48)))]) dX10_number_54 (by show (4 : Nat) < 5; decide) rfl ?_
      refine Wp.nameL (ls2 := fun v => [some (vr a0), some (vi a1), some (vi a2), some (vi a3), some (vi v)]) 4 _ rfl (fun _ => rfl) (fun v1 ev1 => ?_)
      replace h := h v1 ev1
      refine st_aload_n (pc := 56) dX10_number_56 rfl rfl ?_
      refine st_dup (pc := 57) dX10_number_57 rfl ?_
      obtain ⟨hk3, h⟩ := h
      refine sg_gfI (pc := 58) (J := 20) dX10_number_58 fl_10_203 (by decide) rfl hk3 ?_
      refine sg_iconst (pc := 61) dX10_number_61 (by omega) ?_
      refine st_iadd (pc := 62) dX10_number_62 ?_
      refine sg_pfI (pc := 63) (J := 20) dX10_number_63 fl_10_203 rfl (Or.inl rfl) hk3 ?_
      refine Wp.nameM (fun m4 em4 => ?_)
      replace h := h m4 em4
      refine st_goto (pc := 66) dX10_number_66 rfl ?_
      exact h

theorem sg_X10_number_69 {d bc bs : Nat} {a0 : Nat} {a1 : Int} {a2 : Int} {a3 : Int} {a4 : Int} {μ : Mem} {Q : Option (Option AV) → Mem → Prop}
    (h : mK μ a0 = 11 ∧ ((¬ (mD μ a0 20) = a3 → ∃ (mc1 ms1 : Nat) (K1 : Int → Mem → Prop), Cl d mc1 ms1 mX10_in [vi a4, vi a1, vi a2] μ (KI K1) ∧ mc1 ≤ bc ∧ ms1 ≤ bs ∧ (∀ x1 m1, K1 x1 m1 → (¬ x1 = 0 → Wp (d + 1) (bc - mc1) (bs - ms1) mX10_number 108 [some (vr a0), some (vi a1), some (vi a2), some (vi a3), some (vi a4)] [] m1 Q) ∧ (x1 = 0 → mK m1 a0 = 11 ∧ (∃ (mc2 ms2 : Nat) (K2 : Mem → Prop), Cl d mc2 ms2 mX10_fault [vr a0, vi (w32 ((mD m1 a0 20) - 1))] m1 (KV K2) ∧ mc2 ≤ bc - mc1 ∧ ms2 ≤ bs - ms1 ∧ (∀ m2, K2 m2 → Wp (d + 1) (bc - mc1 - mc2) (bs - ms1 - ms2) mX10_number 108 [some (vr a0), some (vi a1), some (vi a2), some (vi a3), some (vi a4)] [] m2 Q))))) ∧ ((mD μ a0 20) = a3 → ∃ (mc3 ms3 : Nat) (K3 : Mem → Prop), Cl d mc3 ms3 mX10_fault [vr a0, vi (mD μ a0 20)] μ (KV K3) ∧ mc3 ≤ bc ∧ ms3 ≤ bs ∧ (∀ m3, K3 m3 → Wp (d + 1) (bc - mc3) (bs - ms3) mX10_number 108 [some (vr a0), some (vi a1), some (vi a2), some (vi a3), some (vi a4)] [] m3 Q)))) :
    Wp (d + 1) bc bs mX10_number 69 [some (vr a0), some (vi a1), some (vi a2), some (vi a3), some (vi a4)] [] μ Q := by
  refine st_aload_n (pc := 69) dX10_number_69 rfl rfl ?_
  obtain ⟨hk1, h⟩ := h
  refine sg_gfI (pc := 70) (J := 20) dX10_number_70 fl_10_203 (by decide) rfl hk1 ?_
  refine st_iload_n (pc := 73) dX10_number_73 rfl rfl ?_
  refine st_icmpne (pc := 74) (tgt := 88) dX10_number_74 rfl (fun c => ?_) (fun c => ?_)
  · replace h := h.1 c
    refine st_iload (pc := 88) dX10_number_88 rfl ?_
    refine st_iload_n (pc := 90) dX10_number_90 rfl rfl ?_
    refine st_iload_n (pc := 91) dX10_number_91 rfl rfl ?_
    obtain ⟨mc1, ms1, K1, hC, e1, e2, h⟩ := h
    refine sg_SI (pc := 92) (av := [vi a4, vi a1, vi a2]) (st := []) (K := K1) dX10_number_92 ck_10_151 rfl (by show (0 : Nat) ≤ 8; decide) hC e1 e2 (fun x1 m1 hK => ?_) rfl
    replace h := h x1 m1 hK
    refine st_ifne (pc := 95) (tgt := 108) dX10_number_95 rfl (fun c => ?_) (fun c => ?_)
    · replace h := h.1 c
      exact h
    · replace h := h.2 c
      refine st_aload_n (pc := 98) dX10_number_98 rfl rfl ?_
      refine st_aload_n (pc := 99) dX10_number_99 rfl rfl ?_
      obtain ⟨hk2, h⟩ := h
      refine sg_gfI (pc := 100) (J := 20) dX10_number_100 fl_10_203 (by decide) rfl hk2 ?_
      refine sg_iconst (pc := 103) dX10_number_103 (by omega) ?_
      refine st_isub (pc := 104) dX10_number_104 ?_
      obtain ⟨mc2, ms2, K2, hC, e1, e2, h⟩ := h
      refine sg_VV (pc := 105) (av := [vi (w32 ((mD m1 a0 20) - 1))]) (st := []) (K := K2) dX10_number_105 ck_10_220 rfl (by decide) hk2 (by show (0 : Nat) ≤ 8; decide) hC e1 e2 (fun m2 hK => ?_) rfl
      replace h := h m2 hK
      exact h
  · replace h := h.2 c
    refine st_aload_n (pc := 77) dX10_number_77 rfl rfl ?_
    refine st_aload_n (pc := 78) dX10_number_78 rfl rfl ?_
    refine sg_gfI (pc := 79) (J := 20) dX10_number_79 fl_10_203 (by decide) rfl hk1 ?_
    obtain ⟨mc3, ms3, K3, hC, e1, e2, h⟩ := h
    refine sg_VV (pc := 82) (av := [vi (mD μ a0 20)]) (st := []) (K := K3) dX10_number_82 ck_10_220 rfl (by decide) hk1 (by show (0 : Nat) ≤ 8; decide) hC e1 e2 (fun m3 hK => ?_) rfl
    replace h := h m3 hK
    refine st_goto (pc := 85) dX10_number_85 rfl ?_
    exact h

theorem sg_X10_number_108 {d bc bs : Nat} {a0 : Nat} {a1 : Int} {a2 : Int} {a3 : Int} {a4 : Int} {μ : Mem} {Q : Option (Option AV) → Mem → Prop}
    (h : mK μ a0 = 11 ∧ ∃ (mc1 ms1 : Nat) (K1 : Int → Mem → Prop), Cl d mc1 ms1 mX10_fine [vr a0] μ (KI K1) ∧ mc1 ≤ bc ∧ ms1 ≤ bs ∧ (∀ x1 m1, K1 x1 m1 → (x1 = 0 → Q (some (some (vi 0))) m1) ∧ (¬ x1 = 0 → Q (some (some (vi a4))) m1))) :
    Wp (d + 1) bc bs mX10_number 108 [some (vr a0), some (vi a1), some (vi a2), some (vi a3), some (vi a4)] [] μ Q := by
  refine st_aload_n (pc := 108) dX10_number_108 rfl rfl ?_
  obtain ⟨hk1, h⟩ := h
  obtain ⟨mc1, ms1, K1, hC, e1, e2, h⟩ := h
  refine sg_VI (pc := 109) (av := []) (st := []) (K := K1) dX10_number_109 ck_10_209 rfl (by decide) hk1 (by show (0 : Nat) ≤ 8; decide) hC e1 e2 (fun x1 m1 hK => ?_) rfl
  replace h := h x1 m1 hK
  refine st_ifeq (pc := 112) (tgt := 120) dX10_number_112 rfl (fun c => ?_) (fun c => ?_)
  · replace h := h.1 c
    refine sg_iconst (pc := 120) dX10_number_120 (by omega) ?_
    exact st_ireturn (pc := 121) dX10_number_121 (Or.inl rfl) h
  · replace h := h.2 c
    refine st_iload (pc := 115) dX10_number_115 rfl ?_
    refine st_goto (pc := 117) dX10_number_117 rfl ?_
    exact st_ireturn (pc := 121) dX10_number_121 (Or.inl rfl) h

theorem sg_X10_lay_0 {d bc bs : Nat} {a0 : Nat} {a1 : Int} {a2 : Int} {a3 : Int} {μ : Mem} {Q : Option (Option AV) → Mem → Prop}
    (h : mK μ a0 = 11 ∧ (mK μ (mR μ a0 28) = 20 ∧ ((0 : Int) ≤ (mD μ a0 32) ∧ (mD μ a0 32) < (mN μ (mR μ a0 28) : Int)) ∧ (∀ m1, m1 = sD μ (mR μ a0 28) (mD μ a0 32) a1 → mK m1 (mR m1 a0 29) = 20 ∧ ((0 : Int) ≤ (mD m1 a0 32) ∧ (mD m1 a0 32) < (mN m1 (mR m1 a0 29) : Int)) ∧ (∀ m2, m2 = sD m1 (mR m1 a0 29) (mD m1 a0 32) a2 → mK m2 (mR m2 a0 30) = 20 ∧ ((0 : Int) ≤ (mD m2 a0 32) ∧ (mD m2 a0 32) < (mN m2 (mR m2 a0 30) : Int)) ∧ (∀ m3, m3 = sD m2 (mR m2 a0 30) (mD m2 a0 32) (mD m2 a0 33) → mK m3 (mR m3 a0 31) = 20 ∧ ((0 : Int) ≤ (mD m3 a0 32) ∧ (mD m3 a0 32) < (mN m3 (mR m3 a0 31) : Int)) ∧ (∀ m4, m4 = sD m3 (mR m3 a0 31) (mD m3 a0 32) a3 → (∀ m5, m5 = sD m4 a0 32 (w32 ((mD m4 a0 32) + 1)) → Q (some none) m5))))))) :
    Wp d bc bs mX10_lay 0 [some (vr a0), some (vi a1), some (vi a2), some (vi a3)] [] μ Q := by
  refine st_aload_n (pc := 0) dX10_lay_0 rfl rfl ?_
  obtain ⟨hk1, h⟩ := h
  refine sg_gfR (pc := 1) (J := 28) dX10_lay_1 fl_10_67 rfl hk1 ?_
  refine st_aload_n (pc := 4) dX10_lay_4 rfl rfl ?_
  refine sg_gfI (pc := 5) (J := 32) dX10_lay_5 fl_10_224 (by decide) rfl hk1 ?_
  refine st_iload_n (pc := 8) dX10_lay_8 rfl rfl ?_
  obtain ⟨hk2, h⟩ := h
  obtain ⟨h1, h⟩ := h
  refine st_iastore (pc := 9) dX10_lay_9 hk2 h1.1 h1.2 ?_
  refine Wp.nameM (fun m1 em1 => ?_)
  replace h := h m1 em1
  refine st_aload_n (pc := 10) dX10_lay_10 rfl rfl ?_
  refine sg_gfR (pc := 11) (J := 29) dX10_lay_11 fl_10_70 rfl (by cases em1; exact hk1) ?_
  refine st_aload_n (pc := 14) dX10_lay_14 rfl rfl ?_
  refine sg_gfI (pc := 15) (J := 32) dX10_lay_15 fl_10_224 (by decide) rfl (by cases em1; exact hk1) ?_
  refine st_iload_n (pc := 18) dX10_lay_18 rfl rfl ?_
  obtain ⟨hk3, h⟩ := h
  obtain ⟨h1, h⟩ := h
  refine st_iastore (pc := 19) dX10_lay_19 hk3 h1.1 h1.2 ?_
  refine Wp.nameM (fun m2 em2 => ?_)
  replace h := h m2 em2
  refine st_aload_n (pc := 20) dX10_lay_20 rfl rfl ?_
  refine sg_gfR (pc := 21) (J := 30) dX10_lay_21 fl_10_73 rfl (by cases em2; cases em1; exact hk1) ?_
  refine st_aload_n (pc := 24) dX10_lay_24 rfl rfl ?_
  refine sg_gfI (pc := 25) (J := 32) dX10_lay_25 fl_10_224 (by decide) rfl (by cases em2; cases em1; exact hk1) ?_
  refine st_aload_n (pc := 28) dX10_lay_28 rfl rfl ?_
  refine sg_gfI (pc := 29) (J := 33) dX10_lay_29 fl_10_227 (by decide) rfl (by cases em2; cases em1; exact hk1) ?_
  obtain ⟨hk4, h⟩ := h
  obtain ⟨h1, h⟩ := h
  refine st_iastore (pc := 32) dX10_lay_32 hk4 h1.1 h1.2 ?_
  refine Wp.nameM (fun m3 em3 => ?_)
  replace h := h m3 em3
  refine st_aload_n (pc := 33) dX10_lay_33 rfl rfl ?_
  refine sg_gfR (pc := 34) (J := 31) dX10_lay_34 fl_10_76 rfl (by cases em3; cases em2; cases em1; exact hk1) ?_
  refine st_aload_n (pc := 37) dX10_lay_37 rfl rfl ?_
  refine sg_gfI (pc := 38) (J := 32) dX10_lay_38 fl_10_224 (by decide) rfl (by cases em3; cases em2; cases em1; exact hk1) ?_
  refine st_iload_n (pc := 41) dX10_lay_41 rfl rfl ?_
  obtain ⟨hk5, h⟩ := h
  obtain ⟨h1, h⟩ := h
  refine st_iastore (pc := 42) dX10_lay_42 hk5 h1.1 h1.2 ?_
  refine Wp.nameM (fun m4 em4 => ?_)
  replace h := h m4 em4
  refine st_aload_n (pc := 43) dX10_lay_43 rfl rfl ?_
  refine st_dup (pc := 44) dX10_lay_44 rfl ?_
  refine sg_gfI (pc := 45) (J := 32) dX10_lay_45 fl_10_224 (by decide) rfl (by cases em4; cases em3; cases em2; cases em1; exact hk1) ?_
  refine sg_iconst (pc := 48) dX10_lay_48 (by omega) ?_
  refine st_iadd (pc := 49) dX10_lay_49 ?_
  refine sg_pfI (pc := 50) (J := 32) dX10_lay_50 fl_10_224 rfl (Or.inl rfl) (by cases em4; cases em3; cases em2; cases em1; exact hk1) ?_
  refine Wp.nameM (fun m5 em5 => ?_)
  replace h := h m5 em5
  exact st_return (pc := 53) dX10_lay_53 rfl h

theorem sg_X10_walk_0 {d bc bs : Nat} {a0 : Nat} {a1 : Int} {μ : Mem} {Q : Option (Option AV) → Mem → Prop}
    (h : mK μ a0 = 11 ∧ (∀ m1, m1 = sD μ a0 15 0 → ∃ (mc1 ms1 : Nat) (K1 : Mem → Prop), Cl d mc1 ms1 mX10_start [vr a0, vr (mR m1 a0 11), vi (mD m1 a0 12), vi 60] m1 (KV K1) ∧ mc1 ≤ bc ∧ ms1 ≤ bs ∧ (∀ m2, K1 m2 → mK m2 a0 = 11 ∧ (∀ m3, m3 = sD m2 a0 12 0 → ∃ (mc2 ms2 : Nat) (K2 : Int → Mem → Prop), Cl d mc2 ms2 mX10_in [vi a1, vi 0, vi 3] m3 (KI K2) ∧ mc2 ≤ bc - mc1 ∧ ms2 ≤ bs - ms1 ∧ (∀ x1 m4, K2 x1 m4 → (¬ x1 = 0 → mK m4 a0 = 11 ∧ (∀ m5, m5 = sD m4 a0 32 0 → (∀ m6, m6 = sD m5 a0 33 0 → ((mD m6 a0 18) ≤ 0 → Wp (d + 1) (bc - mc1 - mc2) (bs - ms1 - ms2) mX10_walk 61 [some (vr a0), some (vi a1), some (vi 0), some (vi 0), none, none, none, none, none, none] [] m6 Q) ∧ (¬ (mD m6 a0 18) ≤ 0 → Wp (d + 1) (bc - mc1 - mc2) (bs - ms1 - ms2) mX10_walk 61 [some (vr a0), some (vi a1), some (vi 0), some (vi 1), none, none, none, none, none, none] [] m6 Q)))) ∧ (x1 = 0 → Q (some (some (vi (-100)))) m4)))))) :
    Wp (d + 1) bc bs mX10_walk 0 [some (vr a0), some (vi a1), none, none, none, none, none, none, none, none] [] μ Q := by
  refine st_aload_n (pc := 0) dX10_walk_0 rfl rfl ?_
  refine sg_iconst (pc := 1) dX10_walk_1 (by omega) ?_
  obtain ⟨hk1, h⟩ := h
  refine sg_pfI (pc := 2) (J := 15) dX10_walk_2 fl_10_142 rfl (Or.inl rfl) hk1 ?_
  refine Wp.nameM (fun m1 em1 => ?_)
  replace h := h m1 em1
  refine st_aload_n (pc := 5) dX10_walk_5 rfl rfl ?_
  refine st_aload_n (pc := 6) dX10_walk_6 rfl rfl ?_
  refine sg_gfR (pc := 7) (J := 11) dX10_walk_7 fl_10_41 rfl (by cases em1; exact hk1) ?_
  refine st_aload_n (pc := 10) dX10_walk_10 rfl rfl ?_
  refine sg_gfI (pc := 11) (J := 12) dX10_walk_11 fl_10_191 (by decide) rfl (by cases em1; exact hk1) ?_
  refine sg_bipush (pc := 14) dX10_walk_14 (by omega) (by decide) ?_
  obtain ⟨mc1, ms1, K1, hC, e1, e2, h⟩ := h
  refine sg_VV (pc := 16) (av := [vr (mR m1 a0 11), vi (mD m1 a0 12), vi 60]) (st := []) (K := K1) dX10_walk_16 ck_10_230 rfl (by decide) (by cases em1; exact hk1) (by show (0 : Nat) ≤ 8; decide) hC e1 e2 (fun m2 hK => ?_) rfl
  replace h := h m2 hK
  refine st_aload_n (pc := 19) dX10_walk_19 rfl rfl ?_
  refine sg_iconst (pc := 20) dX10_walk_20 (by omega) ?_
  obtain ⟨hk2, h⟩ := h
  refine sg_pfI (pc := 21) (J := 12) dX10_walk_21 fl_10_191 rfl (Or.inl rfl) hk2 ?_
  refine Wp.nameM (fun m3 em3 => ?_)
  replace h := h m3 em3
  refine st_iload_n (pc := 24) dX10_walk_24 rfl rfl ?_
  refine sg_iconst (pc := 25) dX10_walk_25 (by omega) ?_
  refine sg_iconst (pc := 26) dX10_walk_26 (by omega) ?_
  obtain ⟨mc2, ms2, K2, hC, e1, e2, h⟩ := h
  refine sg_SI (pc := 27) (av := [vi a1, vi 0, vi 3]) (st := []) (K := K2) dX10_walk_27 ck_10_151 rfl (by show (0 : Nat) ≤ 8; decide) hC e1 e2 (fun x1 m4 hK => ?_) rfl
  replace h := h x1 m4 hK
  refine st_ifne (pc := 30) (tgt := 36) dX10_walk_30 rfl (fun c => ?_) (fun c => ?_)
  · replace h := h.1 c
    refine st_aload_n (pc := 36) dX10_walk_36 rfl rfl ?_
    refine sg_iconst (pc := 37) dX10_walk_37 (by omega) ?_
    obtain ⟨hk3, h⟩ := h
    refine sg_pfI (pc := 38) (J := 32) dX10_walk_38 fl_10_224 rfl (Or.inl rfl) hk3 ?_
    refine Wp.nameM (fun m5 em5 => ?_)
    replace h := h m5 em5
    refine st_aload_n (pc := 41) dX10_walk_41 rfl rfl ?_
    refine sg_iconst (pc := 42) dX10_walk_42 (by omega) ?_
    refine sg_pfI (pc := 43) (J := 33) dX10_walk_43 fl_10_227 rfl (Or.inl rfl) (by cases em5; exact hk3) ?_
    refine Wp.nameM (fun m6 em6 => ?_)
    replace h := h m6 em6
    refine sg_iconst (pc := 46) dX10_walk_46 (by omega) ?_
    refine sg_istore_n (pc := 47) (ls' := [some (vr a0), some (vi a1), some (vi 0), none, none, none, none, none, none, none]) dX10_walk_47 rfl (by show (2 : Nat) < 10; decide) rfl ?_
    refine st_aload_n (pc := 48) dX10_walk_48 rfl rfl ?_
    refine sg_gfI (pc := 49) (J := 18) dX10_walk_49 fl_10_197 (by decide) rfl (by cases em6; cases em5; exact hk3) ?_
    refine st_ifle (pc := 52) (tgt := 59) dX10_walk_52 rfl (fun c => ?_) (fun c => ?_)
    · replace h := h.1 c
      refine sg_iconst (pc := 59) dX10_walk_59 (by omega) ?_
      refine sg_istore_n (pc := 60) (ls' := [some (vr a0), some (vi a1), some (vi 0), some (vi 0), none, none, none, none, none, none]) dX10_walk_60 rfl (by show (3 : Nat) < 10; decide) rfl ?_
      exact h
    · replace h := h.2 c
      refine sg_iconst (pc := 55) dX10_walk_55 (by omega) ?_
      refine st_goto (pc := 56) dX10_walk_56 rfl ?_
      refine sg_istore_n (pc := 60) (ls' := [some (vr a0), some (vi a1), some (vi 0), some (vi 1), none, none, none, none, none, none]) dX10_walk_60 rfl (by show (3 : Nat) < 10; decide) rfl ?_
      exact h
  · replace h := h.2 c
    refine sg_bipush (pc := 33) dX10_walk_33 (by omega) (by decide) ?_
    exact st_ireturn (pc := 35) dX10_walk_35 (Or.inl rfl) h

theorem sg_X10_walk_61 {d bc bs : Nat} {a0 : Nat} {a1 : Int} {a2 : Int} {a3 : Int} {μ : Mem} {Q : Option (Option AV) → Mem → Prop}
    (h : (a3 = 0 → mK μ a0 = 11 ∧ (((mD μ a0 18) ≤ (mD μ a0 20) → mK μ (mR μ a0 22) = 20 ∧ ((0 : Int) ≤ a1 ∧ a1 < (mN μ (mR μ a0 22) : Int)) ∧ (∀ m1, m1 = sD μ (mR μ a0 22) a1 (mD μ a0 32) → mK m1 (mR m1 a0 23) = 20 ∧ ((0 : Int) ≤ a1 ∧ a1 < (mN m1 (mR m1 a0 23) : Int)) ∧ (∀ m2, m2 = sD m1 (mR m1 a0 23) a1 a2 → Wp (d + 1) bc bs mX10_walk 496 [some (vr a0), some (vi a1), some (vi a2), some (vi a3), some (vi 0), none, none, none, none, none] [] m2 Q))) ∧ (¬ (mD μ a0 18) ≤ (mD μ a0 20) → Q (some (some (vi (w32 ((-1) - (mD μ a0 20)))))) μ))) ∧ (¬ a3 = 0 → mK μ a0 = 11 ∧ ∃ (mc1 ms1 : Nat) (K1 : Int → Mem → Prop), Cl d mc1 ms1 mX10_here [vr a0] μ (KI K1) ∧ mc1 ≤ bc ∧ ms1 ≤ bs ∧ (∀ x1 m3, K1 x1 m3 → mK m3 a0 = 11 ∧ ((∀ m4, m4 = sD m3 a0 20 (w32 ((mD m3 a0 20) + 1)) → (¬ x1 = 103 → (¬ x1 = 115 → (¬ x1 = 106 → (¬ x1 = 119 → ∃ (mc2 ms2 : Nat) (K2 : Mem → Prop), Cl d mc2 ms2 mX10_fault [vr a0, vi (w32 ((mD m4 a0 20) - 1))] m4 (KV K2) ∧ mc2 ≤ bc - mc1 ∧ ms2 ≤ bs - ms1 ∧ (∀ m5, K2 m5 → Wp (d + 1) (bc - mc1 - mc2) (bs - ms1 - ms2) mX10_walk 434 [some (vr a0), some (vi a1), some (vi a2), some (vi a3), some (vi x1), none, none, none, none, none] [] m5 Q)) ∧ (x1 = 119 → ∃ (mc3 ms3 : Nat) (K3 : Int → Mem → Prop), Cl d mc3 ms3 mX10_number [vr a0, vi 0, vi 50] m4 (KI K3) ∧ mc3 ≤ bc - mc1 ∧ ms3 ≤ bs - ms1 ∧ (∀ x2 m6, K3 x2 m6 → mK m6 a0 = 11 ∧ (∀ m7, m7 = sD m6 a0 33 x2 → Wp (d + 1) (bc - mc1 - mc3) (bs - ms1 - ms3) mX10_walk 434 [some (vr a0), some (vi a1), some (vi a2), some (vi a3), some (vi x1), none, none, none, none, none] [] m7 Q)))) ∧ (x1 = 106 → ∃ (mc4 ms4 : Nat) (K4 : Int → Mem → Prop), Cl d mc4 ms4 mX10_passes [vr a0, vi 45] m4 (KI K4) ∧ mc4 ≤ bc - mc1 ∧ ms4 ≤ bs - ms1 ∧ (∀ x3 m8, K4 x3 m8 → mK m8 a0 = 11 ∧ ∃ (mc5 ms5 : Nat) (K5 : Int → Mem → Prop), Cl d mc5 ms5 mX10_number [vr a0, vi 0, vi 200] m8 (KI K5) ∧ mc5 ≤ bc - mc1 - mc4 ∧ ms5 ≤ bs - ms1 - ms4 ∧ (∀ x4 m9, K5 x4 m9 → mK m9 a0 = 11 ∧ (((w32 ((mD m9 a0 32) + 1)) ≤ 1000 → Wp (d + 1) (bc - mc1 - mc4 - mc5) (bs - ms1 - ms4 - ms5) mX10_walk 374 [some (vr a0), some (vi a1), some (vi a2), some (vi a3), some (vi x1), some (vi x3), some (vi x4), none, none, none] [] m9 Q) ∧ (¬ (w32 ((mD m9 a0 32) + 1)) ≤ 1000 → ∃ (mc6 ms6 : Nat) (K6 : Mem → Prop), Cl d mc6 ms6 mX10_fault [vr a0, vi (w32 ((mD m9 a0 20) - 1))] m9 (KV K6) ∧ mc6 ≤ bc - mc1 - mc4 - mc5 ∧ ms6 ≤ bs - ms1 - ms4 - ms5 ∧ (∀ m10, K6 m10 → Wp (d + 1) (bc - mc1 - mc4 - mc5 - mc6) (bs - ms1 - ms4 - ms5 - ms6) mX10_walk 374 [some (vr a0), some (vi a1), some (vi a2), some (vi a3), some (vi x1), some (vi x3), some (vi x4), none, none, none] [] m10 Q))))))) ∧ (x1 = 115 → ∃ (mc7 ms7 : Nat) (K7 : Int → Mem → Prop), Cl d mc7 ms7 mX10_number [vr a0, vi 1, vi 99] m4 (KI K7) ∧ mc7 ≤ bc - mc1 ∧ ms7 ≤ bs - ms1 ∧ (∀ x5 m11, K7 x5 m11 → mK m11 a0 = 11 ∧ (((w32 ((mD m11 a0 32) + x5)) ≤ 1000 → Wp (d + 1) (bc - mc1 - mc7) (bs - ms1 - ms7) mX10_walk 297 [some (vr a0), some (vi a1), some (vi a2), some (vi a3), some (vi x1), some (vi x5), some (vi 0), none, none, none] [] m11 Q) ∧ (¬ (w32 ((mD m11 a0 32) + x5)) ≤ 1000 → ∃ (mc8 ms8 : Nat) (K8 : Mem → Prop), Cl d mc8 ms8 mX10_fault [vr a0, vi (w32 ((mD m11 a0 20) - 1))] m11 (KV K8) ∧ mc8 ≤ bc - mc1 - mc7 ∧ ms8 ≤ bs - ms1 - ms7 ∧ (∀ m12, K8 m12 → Wp (d + 1) (bc - mc1 - mc7 - mc8) (bs - ms1 - ms7 - ms8) mX10_walk 297 [some (vr a0), some (vi a1), some (vi a2), some (vi a3), some (vi x1), some (vi x5), some (vi 0), none, none, none] [] m12 Q)))))) ∧ (x1 = 103 → ∃ (mc9 ms9 : Nat) (K9 : Int → Mem → Prop), Cl d mc9 ms9 mX10_number [vr a0, vi 0, vi 200] m4 (KI K9) ∧ mc9 ≤ bc - mc1 ∧ ms9 ≤ bs - ms1 ∧ (∀ x6 m13, K9 x6 m13 → mK m13 a0 = 11 ∧ ∃ (mc10 ms10 : Nat) (K10 : Mem → Prop), Cl d mc10 ms10 mX10_need [vr a0, vi 44] m13 (KV K10) ∧ mc10 ≤ bc - mc1 - mc9 ∧ ms10 ≤ bs - ms1 - ms9 ∧ (∀ m14, K10 m14 → mK m14 a0 = 11 ∧ ∃ (mc11 ms11 : Nat) (K11 : Int → Mem → Prop), Cl d mc11 ms11 mX10_number [vr a0, vi 2, vi 40] m14 (KI K11) ∧ mc11 ≤ bc - mc1 - mc9 - mc10 ∧ ms11 ≤ bs - ms1 - ms9 - ms10 ∧ (∀ x7 m15, K11 x7 m15 → mK m15 a0 = 11 ∧ ∃ (mc12 ms12 : Nat) (K12 : Mem → Prop), Cl d mc12 ms12 mX10_need [vr a0, vi 44] m15 (KV K12) ∧ mc12 ≤ bc - mc1 - mc9 - mc10 - mc11 ∧ ms12 ≤ bs - ms1 - ms9 - ms10 - ms11 ∧ (∀ m16, K12 m16 → mK m16 a0 = 11 ∧ ∃ (mc13 ms13 : Nat) (K13 : Int → Mem → Prop), Cl d mc13 ms13 mX10_number [vr a0, vi 0, vi 200] m16 (KI K13) ∧ mc13 ≤ bc - mc1 - mc9 - mc10 - mc11 - mc12 ∧ ms13 ≤ bs - ms1 - ms9 - ms10 - ms11 - ms12 ∧ (∀ x8 m17, K13 x8 m17 → mK m17 a0 = 11 ∧ ∃ (mc14 ms14 : Nat) (K14 : Mem → Prop), Cl d mc14 ms14 mX10_need [vr a0, vi 42] m17 (KV K14) ∧ mc14 ≤ bc - mc1 - mc9 - mc10 - mc11 - mc12 - mc13 ∧ ms14 ≤ bs - ms1 - ms9 - ms10 - ms11 - ms12 - ms13 ∧ (∀ m18, K14 m18 → mK m18 a0 = 11 ∧ ∃ (mc15 ms15 : Nat) (K15 : Int → Mem → Prop), Cl d mc15 ms15 mX10_number [vr a0, vi 1, vi 50] m18 (KI K15) ∧ mc15 ≤ bc - mc1 - mc9 - mc10 - mc11 - mc12 - mc13 - mc14 ∧ ms15 ≤ bs - ms1 - ms9 - ms10 - ms11 - ms12 - ms13 - ms14 ∧ (∀ x9 m19, K15 x9 m19 → mK m19 a0 = 11 ∧ (((w32 ((mD m19 a0 32) + (w32 (x7 * x9)))) ≤ 1000 → Wp (d + 1) (bc - mc1 - mc9 - mc10 - mc11 - mc12 - mc13 - mc14 - mc15) (bs - ms1 - ms9 - ms10 - ms11 - ms12 - ms13 - ms14 - ms15) mX10_walk 173 [some (vr a0), some (vi a1), some (vi a2), some (vi a3), some (vi x1), some (vi x6), some (vi x7), some (vi x8), some (vi x9), some (vi 0)] [] m19 Q) ∧ (¬ (w32 ((mD m19 a0 32) + (w32 (x7 * x9)))) ≤ 1000 → ∃ (mc16 ms16 : Nat) (K16 : Mem → Prop), Cl d mc16 ms16 mX10_fault [vr a0, vi (w32 ((mD m19 a0 20) - 1))] m19 (KV K16) ∧ mc16 ≤ bc - mc1 - mc9 - mc10 - mc11 - mc12 - mc13 - mc14 - mc15 ∧ ms16 ≤ bs - ms1 - ms9 - ms10 - ms11 - ms12 - ms13 - ms14 - ms15 ∧ (∀ m20, K16 m20 → Wp (d + 1) (bc - mc1 - mc9 - mc10 - mc11 - mc12 - mc13 - mc14 - mc15 - mc16) (bs - ms1 - ms9 - ms10 - ms11 - ms12 - ms13 - ms14 - ms15 - ms16) mX10_walk 173 [some (vr a0), some (vi a1), some (vi a2), some (vi a3), some (vi x1), some (vi x6), some (vi x7), some (vi x8), some (vi x9), some (vi 0)] [] m20 Q)))))))))))))))) :
    Wp (d + 1) bc bs mX10_walk 61 [some (vr a0), some (vi a1), some (vi a2), some (vi a3), none, none, none, none, none, none] [] μ Q := by
  refine st_iload_n (pc := 61) dX10_walk_61 rfl rfl ?_
  refine st_ifeq (pc := 62) (tgt := 458) dX10_walk_62 rfl (fun c => ?_) (fun c => ?_)
  · replace h := h.1 c
    refine st_aload_n (pc := 458) dX10_walk_458 rfl rfl ?_
    obtain ⟨hk1, h⟩ := h
    refine sg_gfI (pc := 459) (J := 20) dX10_walk_459 fl_10_203 (by decide) rfl hk1 ?_
    refine st_aload_n (pc := 462) dX10_walk_462 rfl rfl ?_
    refine sg_gfI (pc := 463) (J := 18) dX10_walk_463 fl_10_197 (by decide) rfl hk1 ?_
    refine st_icmpge (pc := 466) (tgt := 476) dX10_walk_466 rfl (fun c => ?_) (fun c => ?_)
    · replace h := h.1 c
      refine st_aload_n (pc := 476) dX10_walk_476 rfl rfl ?_
      refine sg_gfR (pc := 477) (J := 22) dX10_walk_477 fl_10_49 rfl hk1 ?_
      refine st_iload_n (pc := 480) dX10_walk_480 rfl rfl ?_
      refine st_aload_n (pc := 481) dX10_walk_481 rfl rfl ?_
      refine sg_gfI (pc := 482) (J := 32) dX10_walk_482 fl_10_224 (by decide) rfl hk1 ?_
      obtain ⟨hk2, h⟩ := h
      obtain ⟨h1, h⟩ := h
      refine st_iastore (pc := 485) dX10_walk_485 hk2 h1.1 h1.2 ?_
      refine Wp.nameM (fun m1 em1 => ?_)
      replace h := h m1 em1
      refine st_aload_n (pc := 486) dX10_walk_486 rfl rfl ?_
      refine sg_gfR (pc := 487) (J := 23) dX10_walk_487 fl_10_52 rfl (by cases em1; exact hk1) ?_
      refine st_iload_n (pc := 490) dX10_walk_490 rfl rfl ?_
      refine st_iload_n (pc := 491) dX10_walk_491 rfl rfl ?_
      obtain ⟨hk3, h⟩ := h
      obtain ⟨h1, h⟩ := h
      refine st_iastore (pc := 492) dX10_walk_492 hk3 h1.1 h1.2 ?_
      refine Wp.nameM (fun m2 em2 => ?_)
      replace h := h m2 em2
      refine sg_iconst (pc := 493) dX10_walk_493 (by omega) ?_
      refine sg_istore (pc := 494) (ls' := [some (vr a0), some (vi a1), some (vi a2), some (vi a3), some (vi 0), none, none, none, none, none]) dX10_walk_494 (by show (4 : Nat) < 10; decide) rfl ?_
      exact h
    · replace h := h.2 c
      refine sg_iconst (pc := 469) dX10_walk_469 (by omega) ?_
      refine st_aload_n (pc := 470) dX10_walk_470 rfl rfl ?_
      refine sg_gfI (pc := 471) (J := 20) dX10_walk_471 fl_10_203 (by decide) rfl hk1 ?_
      refine st_isub (pc := 474) dX10_walk_474 ?_
      exact st_ireturn (pc := 475) dX10_walk_475 (Or.inl rfl) h
  · replace h := h.2 c
    refine st_aload_n (pc := 65) dX10_walk_65 rfl rfl ?_
    obtain ⟨hk4, h⟩ := h
    obtain ⟨mc1, ms1, K1, hC, e1, e2, h⟩ := h
    refine sg_VI (pc := 66) (av := []) (st := []) (K := K1) dX10_walk_66 ck_10_213 rfl (by decide) hk4 (by show (0 : Nat) ≤ 8; decide) hC e1 e2 (fun x1 m3 hK => ?_) rfl
    replace h := h x1 m3 hK
    refine sg_istore (pc := 69) (ls' := [some (vr a0), some (vi a1), some (vi a2), some (vi a3), some (vi x1), none, none, none, none, none]) dX10_walk_69 (by show (4 : Nat) < 10; decide) rfl ?_
    refine st_aload_n (pc := 71) dX10_walk_71 rfl rfl ?_
    refine st_dup (pc := 72) dX10_walk_72 rfl ?_
    obtain ⟨hk5, h⟩ := h
    refine sg_gfI (pc := 73) (J := 20) dX10_walk_73 fl_10_203 (by decide) rfl hk5 ?_
    refine sg_iconst (pc := 76) dX10_walk_76 (by omega) ?_
    refine st_iadd (pc := 77) dX10_walk_77 ?_
    refine sg_pfI (pc := 78) (J := 20) dX10_walk_78 fl_10_203 rfl (Or.inl rfl) hk5 ?_
    refine Wp.nameM (fun m4 em4 => ?_)
    replace h := h m4 em4
    refine st_iload (pc := 81) dX10_walk_81 rfl ?_
    refine sg_bipush (pc := 83) dX10_walk_83 (by omega) (by decide) ?_
    refine st_icmpne (pc := 85) (tgt := 255) dX10_walk_85 rfl (fun c => ?_) (fun c => ?_)
    · replace h := h.1 c
      refine st_iload (pc := 255) dX10_walk_255 rfl ?_
      refine sg_bipush (pc := 257) dX10_walk_257 (by omega) (by decide) ?_
      refine st_icmpne (pc := 259) (tgt := 327) dX10_walk_259 rfl (fun c => ?_) (fun c => ?_)
      · replace h := h.1 c
        refine st_iload (pc := 327) dX10_walk_327 rfl ?_
        refine sg_bipush (pc := 329) dX10_walk_329 (by omega) (by decide) ?_
        refine st_icmpne (pc := 331) (tgt := 403) dX10_walk_331 rfl (fun c => ?_) (fun c => ?_)
        · replace h := h.1 c
          refine st_iload (pc := 403) dX10_walk_403 rfl ?_
          refine sg_bipush (pc := 405) dX10_walk_405 (by omega) (by decide) ?_
          refine st_icmpne (pc := 407) (tgt := 424) dX10_walk_407 rfl (fun c => ?_) (fun c => ?_)
          · replace h := h.1 c
            refine st_aload_n (pc := 424) dX10_walk_424 rfl rfl ?_
            refine st_aload_n (pc := 425) dX10_walk_425 rfl rfl ?_
            refine sg_gfI (pc := 426) (J := 20) dX10_walk_426 fl_10_203 (by decide) rfl (by cases em4; exact hk5) ?_
            refine sg_iconst (pc := 429) dX10_walk_429 (by omega) ?_
            refine st_isub (pc := 430) dX10_walk_430 ?_
            obtain ⟨mc2, ms2, K2, hC, e1, e2, h⟩ := h
            refine sg_VV (pc := 431) (av := [vi (w32 ((mD m4 a0 20) - 1))]) (st := []) (K := K2) dX10_walk_431 ck_10_220 rfl (by decide) (by cases em4; exact hk5) (by show (0 : Nat) ≤ 8; decide) hC e1 e2 (fun m5 hK => ?_) rfl
            replace h := h m5 hK
            exact h
          · replace h := h.2 c
            refine st_aload_n (pc := 410) dX10_walk_410 rfl rfl ?_
            refine st_aload_n (pc := 411) dX10_walk_411 rfl rfl ?_
            refine sg_iconst (pc := 412) dX10_walk_412 (by omega) ?_
            refine sg_bipush (pc := 413) dX10_walk_413 (by omega) (by decide) ?_
            obtain ⟨mc3, ms3, K3, hC, e1, e2, h⟩ := h
            refine sg_VI (pc := 415) (av := [vi 0, vi 50]) (st := [vr a0]) (K := K3) dX10_walk_415 ck_10_234 rfl (by decide) (by cases em4; exact hk5) (by show (1 : Nat) ≤ 8; decide) hC e1 e2 (fun x2 m6 hK => ?_) rfl
            replace h := h x2 m6 hK
            obtain ⟨hk6, h⟩ := h
            refine sg_pfI (pc := 418) (J := 33) dX10_walk_418 fl_10_227 rfl (Or.inl rfl) hk6 ?_
            refine Wp.nameM (fun m7 em7 => ?_)
            replace h := h m7 em7
            refine st_goto (pc := 421) dX10_walk_421 rfl ?_
            exact h
        · replace h := h.2 c
          refine st_aload_n (pc := 334) dX10_walk_334 rfl rfl ?_
          refine sg_bipush (pc := 335) dX10_walk_335 (by omega) (by decide) ?_
          obtain ⟨mc4, ms4, K4, hC, e1, e2, h⟩ := h
          refine sg_VI (pc := 337) (av := [vi 45]) (st := []) (K := K4) dX10_walk_337 ck_10_216 rfl (by decide) (by cases em4; exact hk5) (by show (0 : Nat) ≤ 8; decide) hC e1 e2 (fun x3 m8 hK => ?_) rfl
          replace h := h x3 m8 hK
          refine sg_istore (pc := 340) (ls' := [some (vr a0), some (vi a1), some (vi a2), some (vi a3), some (vi x1), some (vi x3), none, none, none, none]) dX10_walk_340 (by show (5 : Nat) < 10; decide) rfl ?_
          refine st_aload_n (pc := 342) dX10_walk_342 rfl rfl ?_
          refine sg_iconst (pc := 343) dX10_walk_343 (by omega) ?_
          refine sg_sipush (pc := 344) dX10_walk_344 (by omega) (by decide) ?_
          obtain ⟨hk7, h⟩ := h
          obtain ⟨mc5, ms5, K5, hC, e1, e2, h⟩ := h
          refine sg_VI (pc := 347) (av := [vi 0, vi 200]) (st := []) (K := K5) dX10_walk_347 ck_10_234 rfl (by decide) hk7 (by show (0 : Nat) ≤ 8; decide) hC e1 e2 (fun x4 m9 hK => ?_) rfl
          replace h := h x4 m9 hK
          refine sg_istore (pc := 350) (ls' := [some (vr a0), some (vi a1), some (vi a2), some (vi a3), some (vi x1), some (vi x3), some (vi x4), none, none, none]) dX10_walk_350 (by show (6 : Nat) < 10; decide) rfl ?_
          refine st_aload_n (pc := 352) dX10_walk_352 rfl rfl ?_
          obtain ⟨hk8, h⟩ := h
          refine sg_gfI (pc := 353) (J := 32) dX10_walk_353 fl_10_224 (by decide) rfl hk8 ?_
          refine sg_iconst (pc := 356) dX10_walk_356 (by omega) ?_
          refine st_iadd (pc := 357) dX10_walk_357 ?_
          refine sg_sipush (pc := 358) dX10_walk_358 (by omega) (by decide) ?_
          refine st_icmple (pc := 361) (tgt := 374) dX10_walk_361 rfl (fun c => ?_) (fun c => ?_)
          · replace h := h.1 c
            exact h
          · replace h := h.2 c
            refine st_aload_n (pc := 364) dX10_walk_364 rfl rfl ?_
            refine st_aload_n (pc := 365) dX10_walk_365 rfl rfl ?_
            refine sg_gfI (pc := 366) (J := 20) dX10_walk_366 fl_10_203 (by decide) rfl hk8 ?_
            refine sg_iconst (pc := 369) dX10_walk_369 (by omega) ?_
            refine st_isub (pc := 370) dX10_walk_370 ?_
            obtain ⟨mc6, ms6, K6, hC, e1, e2, h⟩ := h
            refine sg_VV (pc := 371) (av := [vi (w32 ((mD m9 a0 20) - 1))]) (st := []) (K := K6) dX10_walk_371 ck_10_220 rfl (by decide) hk8 (by show (0 : Nat) ≤ 8; decide) hC e1 e2 (fun m10 hK => ?_) rfl
            replace h := h m10 hK
            exact h
      · replace h := h.2 c
        refine st_aload_n (pc := 262) dX10_walk_262 rfl rfl ?_
        refine sg_iconst (pc := 263) dX10_walk_263 (by omega) ?_
        refine sg_bipush (pc := 264) dX10_walk_264 (by omega) (by decide) ?_
        obtain ⟨mc7, ms7, K7, hC, e1, e2, h⟩ := h
        refine sg_VI (pc := 266) (av := [vi 1, vi 99]) (st := []) (K := K7) dX10_walk_266 ck_10_234 rfl (by decide) (by cases em4; exact hk5) (by show (0 : Nat) ≤ 8; decide) hC e1 e2 (fun x5 m11 hK => ?_) rfl
        replace h := h x5 m11 hK
        refine sg_istore (pc := 269) (ls' := [some (vr a0), some (vi a1), some (vi a2), some (vi a3), some (vi x1), some (vi x5), none, none, none, none]) dX10_walk_269 (by show (5 : Nat) < 10; decide) rfl ?_
        refine st_aload_n (pc := 271) dX10_walk_271 rfl rfl ?_
        obtain ⟨hk9, h⟩ := h
        refine sg_gfI (pc := 272) (J := 32) dX10_walk_272 fl_10_224 (by decide) rfl hk9 ?_
        refine st_iload (pc := 275) dX10_walk_275 rfl ?_
        refine st_iadd (pc := 277) dX10_walk_277 ?_
        refine sg_sipush (pc := 278) dX10_walk_278 (by omega) (by decide) ?_
        refine st_icmple (pc := 281) (tgt := 294) dX10_walk_281 rfl (fun c => ?_) (fun c => ?_)
        · replace h := h.1 c
          refine sg_iconst (pc := 294) dX10_walk_294 (by omega) ?_
          refine sg_istore (pc := 295) (ls' := [some (vr a0), some (vi a1), some (vi a2), some (vi a3), some (vi x1), some (vi x5), some (vi 0), none, none, none]) dX10_walk_295 (by show (6 : Nat) < 10; decide) rfl ?_
          exact h
        · replace h := h.2 c
          refine st_aload_n (pc := 284) dX10_walk_284 rfl rfl ?_
          refine st_aload_n (pc := 285) dX10_walk_285 rfl rfl ?_
          refine sg_gfI (pc := 286) (J := 20) dX10_walk_286 fl_10_203 (by decide) rfl hk9 ?_
          refine sg_iconst (pc := 289) dX10_walk_289 (by omega) ?_
          refine st_isub (pc := 290) dX10_walk_290 ?_
          obtain ⟨mc8, ms8, K8, hC, e1, e2, h⟩ := h
          refine sg_VV (pc := 291) (av := [vi (w32 ((mD m11 a0 20) - 1))]) (st := []) (K := K8) dX10_walk_291 ck_10_220 rfl (by decide) hk9 (by show (0 : Nat) ≤ 8; decide) hC e1 e2 (fun m12 hK => ?_) rfl
          replace h := h m12 hK
          refine sg_iconst (pc := 294) dX10_walk_294 (by omega) ?_
          refine sg_istore (pc := 295) (ls' := [some (vr a0), some (vi a1), some (vi a2), some (vi a3), some (vi x1), some (vi x5), some (vi 0), none, none, none]) dX10_walk_295 (by show (6 : Nat) < 10; decide) rfl ?_
          exact h
    · replace h := h.2 c
      refine st_aload_n (pc := 88) dX10_walk_88 rfl rfl ?_
      refine sg_iconst (pc := 89) dX10_walk_89 (by omega) ?_
      refine sg_sipush (pc := 90) dX10_walk_90 (by omega) (by decide) ?_
      obtain ⟨mc9, ms9, K9, hC, e1, e2, h⟩ := h
      refine sg_VI (pc := 93) (av := [vi 0, vi 200]) (st := []) (K := K9) dX10_walk_93 ck_10_234 rfl (by decide) (by cases em4; exact hk5) (by show (0 : Nat) ≤ 8; decide) hC e1 e2 (fun x6 m13 hK => ?_) rfl
      replace h := h x6 m13 hK
      refine sg_istore (pc := 96) (ls' := [some (vr a0), some (vi a1), some (vi a2), some (vi a3), some (vi x1), some (vi x6), none, none, none, none]) dX10_walk_96 (by show (5 : Nat) < 10; decide) rfl ?_
      refine st_aload_n (pc := 98) dX10_walk_98 rfl rfl ?_
      refine sg_bipush (pc := 99) dX10_walk_99 (by omega) (by decide) ?_
      obtain ⟨hk10, h⟩ := h
      obtain ⟨mc10, ms10, K10, hC, e1, e2, h⟩ := h
      refine sg_VV (pc := 101) (av := [vi 44]) (st := []) (K := K10) dX10_walk_101 ck_10_237 rfl (by decide) hk10 (by show (0 : Nat) ≤ 8; decide) hC e1 e2 (fun m14 hK => ?_) rfl
      replace h := h m14 hK
      refine st_aload_n (pc := 104) dX10_walk_104 rfl rfl ?_
      refine sg_iconst (pc := 105) dX10_walk_105 (by omega) ?_
      refine sg_bipush (pc := 106) dX10_walk_106 (by omega) (by decide) ?_
      obtain ⟨hk11, h⟩ := h
      obtain ⟨mc11, ms11, K11, hC, e1, e2, h⟩ := h
      refine sg_VI (pc := 108) (av := [vi 2, vi 40]) (st := []) (K := K11) dX10_walk_108 ck_10_234 rfl (by decide) hk11 (by show (0 : Nat) ≤ 8; decide) hC e1 e2 (fun x7 m15 hK => ?_) rfl
      replace h := h x7 m15 hK
      refine sg_istore (pc := 111) (ls' := [some (vr a0), some (vi a1), some (vi a2), some (vi a3), some (vi x1), some (vi x6), some (vi x7), none, none, none]) dX10_walk_111 (by show (6 : Nat) < 10; decide) rfl ?_
      refine st_aload_n (pc := 113) dX10_walk_113 rfl rfl ?_
      refine sg_bipush (pc := 114) dX10_walk_114 (by omega) (by decide) ?_
      obtain ⟨hk12, h⟩ := h
      obtain ⟨mc12, ms12, K12, hC, e1, e2, h⟩ := h
      refine sg_VV (pc := 116) (av := [vi 44]) (st := []) (K := K12) dX10_walk_116 ck_10_237 rfl (by decide) hk12 (by show (0 : Nat) ≤ 8; decide) hC e1 e2 (fun m16 hK => ?_) rfl
      replace h := h m16 hK
      refine st_aload_n (pc := 119) dX10_walk_119 rfl rfl ?_
      refine sg_iconst (pc := 120) dX10_walk_120 (by omega) ?_
      refine sg_sipush (pc := 121) dX10_walk_121 (by omega) (by decide) ?_
      obtain ⟨hk13, h⟩ := h
      obtain ⟨mc13, ms13, K13, hC, e1, e2, h⟩ := h
      refine sg_VI (pc := 124) (av := [vi 0, vi 200]) (st := []) (K := K13) dX10_walk_124 ck_10_234 rfl (by decide) hk13 (by show (0 : Nat) ≤ 8; decide) hC e1 e2 (fun x8 m17 hK => ?_) rfl
      replace h := h x8 m17 hK
      refine sg_istore (pc := 127) (ls' := [some (vr a0), some (vi a1), some (vi a2), some (vi a3), some (vi x1), some (vi x6), some (vi x7), some (vi x8), none, none]) dX10_walk_127 (by show (7 : Nat) < 10; decide) rfl ?_
      refine st_aload_n (pc := 129) dX10_walk_129 rfl rfl ?_
      refine sg_bipush (pc := 130) dX10_walk_130 (by omega) (by decide) ?_
      obtain ⟨hk14, h⟩ := h
      obtain ⟨mc14, ms14, K14, hC, e1, e2, h⟩ := h
      refine sg_VV (pc := 132) (av := [vi 42]) (st := []) (K := K14) dX10_walk_132 ck_10_237 rfl (by decide) hk14 (by show (0 : Nat) ≤ 8; decide) hC e1 e2 (fun m18 hK => ?_) rfl
      replace h := h m18 hK
      refine st_aload_n (pc := 135) dX10_walk_135 rfl rfl ?_
      refine sg_iconst (pc := 136) dX10_walk_136 (by omega) ?_
      refine sg_bipush (pc := 137) dX10_walk_137 (by omega) (by decide) ?_
      obtain ⟨hk15, h⟩ := h
      obtain ⟨mc15, ms15, K15, hC, e1, e2, h⟩ := h
      refine sg_VI (pc := 139) (av := [vi 1, vi 50]) (st := []) (K := K15) dX10_walk_139 ck_10_234 rfl (by decide) hk15 (by show (0 : Nat) ≤ 8; decide) hC e1 e2 (fun x9 m19 hK => ?_) rfl
      replace h := h x9 m19 hK
      refine sg_istore (pc := 142) (ls' := [some (vr a0), some (vi a1), some (vi a2), some (vi a3), some (vi x1), some (vi x6), some (vi x7), some (vi x8), some (vi x9), none]) dX10_walk_142 (by show (8 : Nat) < 10; decide) rfl ?_
      refine st_aload_n (pc := 144) dX10_walk_144 rfl rfl ?_
      obtain ⟨hk16, h⟩ := h
      refine sg_gfI (pc := 145) (J := 32) dX10_walk_145 fl_10_224 (by decide) rfl hk16 ?_
      refine st_iload (pc := 148) dX10_walk_148 rfl ?_
      refine st_iload (pc := 150) dX10_walk_150 rfl ?_
      refine st_imul (pc := 152) dX10_walk_152 ?_
      refine st_iadd (pc := 153) dX10_walk_153 ?_
      refine sg_sipush (pc := 154) dX10_walk_154 (by omega) (by decide) ?_
      refine st_icmple (pc := 157) (tgt := 170) dX10_walk_157 rfl (fun c => ?_) (fun c => ?_)
      · replace h := h.1 c
        refine sg_iconst (pc := 170) dX10_walk_170 (by omega) ?_
        refine sg_istore (pc := 171) (ls' := [some (vr a0), some (vi a1), some (vi a2), some (vi a3), some (vi x1), some (vi x6), some (vi x7), some (vi x8), some (vi x9), some (vi 0)]) dX10_walk_171 (by show (9 : Nat) < 10; decide) rfl ?_
        exact h
      · replace h := h.2 c
        refine st_aload_n (pc := 160) dX10_walk_160 rfl rfl ?_
        refine st_aload_n (pc := 161) dX10_walk_161 rfl rfl ?_
        refine sg_gfI (pc := 162) (J := 20) dX10_walk_162 fl_10_203 (by decide) rfl hk16 ?_
        refine sg_iconst (pc := 165) dX10_walk_165 (by omega) ?_
        refine st_isub (pc := 166) dX10_walk_166 ?_
        obtain ⟨mc16, ms16, K16, hC, e1, e2, h⟩ := h
        refine sg_VV (pc := 167) (av := [vi (w32 ((mD m19 a0 20) - 1))]) (st := []) (K := K16) dX10_walk_167 ck_10_220 rfl (by decide) hk16 (by show (0 : Nat) ≤ 8; decide) hC e1 e2 (fun m20 hK => ?_) rfl
        replace h := h m20 hK
        refine sg_iconst (pc := 170) dX10_walk_170 (by omega) ?_
        refine sg_istore (pc := 171) (ls' := [some (vr a0), some (vi a1), some (vi a2), some (vi a3), some (vi x1), some (vi x6), some (vi x7), some (vi x8), some (vi x9), some (vi 0)]) dX10_walk_171 (by show (9 : Nat) < 10; decide) rfl ?_
        exact h

theorem sg_X10_walk_173 {d bc bs : Nat} {a0 : Nat} {a1 : Int} {a2 : Int} {a3 : Int} {a4 : Int} {a5 : Int} {a6 : Int} {a7 : Int} {a8 : Int} {a9 : Int} {μ : Mem} {Q : Option (Option AV) → Mem → Prop}
    (h : ((w32 (a6 * a8)) ≤ a9 → ∀ v1, v1 = w32 (a2 + a8) → Wp (d + 1) bc bs mX10_walk 434 [some (vr a0), some (vi a1), some (vi v1), some (vi a3), some (vi a4), none, none, none, none, none] [] μ Q) ∧ (¬ (w32 (a6 * a8)) ≤ a9 → mK μ a0 = 11 ∧ ∃ (mc1 ms1 : Nat) (K1 : Int → Mem → Prop), Cl d mc1 ms1 mX10_fine [vr a0] μ (KI K1) ∧ mc1 ≤ bc ∧ ms1 ≤ bs ∧ (∀ x1 m1, K1 x1 m1 → (x1 = 0 → ∀ v2, v2 = w32 (a2 + a8) → Wp (d + 1) (bc - mc1) (bs - ms1) mX10_walk 434 [some (vr a0), some (vi a1), some (vi v2), some (vi a3), some (vi a4), none, none, none, none, none] [] m1 Q) ∧ (¬ x1 = 0 → a6 ≠ 0 ∧ (((w32 (a6.tdiv 2)) ≤ (a9.tmod a6) → a6 ≠ 0 ∧ ((¬ ((w32 (a2 + (w32 (a9.tdiv a6)))).tmod 2) = 0 → a6 ≠ 0 ∧ (mK m1 a0 = 11 ∧ ∃ (mc2 ms2 : Nat) (K2 : Mem → Prop), Cl d mc2 ms2 mX10_lay [vr a0, vi (w32 (-a5)), vi (w32 (-a7)), vi (w32 (a2 + (w32 (a9.tdiv a6))))] m1 (KV K2) ∧ mc2 ≤ bc - mc1 ∧ ms2 ≤ bs - ms1 ∧ (∀ m2, K2 m2 → ∀ v3, v3 = w32 (a9 + 1) → Wp (d + 1) (bc - mc1 - mc2) (bs - ms1 - ms2) mX10_walk 173 [some (vr a0), some (vi a1), some (vi a2), some (vi a3), some (vi a4), some (vi a5), some (vi a6), some (vi a7), some (vi a8), some (vi v3)] [] m2 Q))) ∧ (((w32 (a2 + (w32 (a9.tdiv a6)))).tmod 2) = 0 → a6 ≠ 0 ∧ (mK m1 a0 = 11 ∧ ∃ (mc3 ms3 : Nat) (K3 : Mem → Prop), Cl d mc3 ms3 mX10_lay [vr a0, vi (w32 (-a5)), vi a7, vi (w32 (a2 + (w32 (a9.tdiv a6))))] m1 (KV K3) ∧ mc3 ≤ bc - mc1 ∧ ms3 ≤ bs - ms1 ∧ (∀ m3, K3 m3 → ∀ v4, v4 = w32 (a9 + 1) → Wp (d + 1) (bc - mc1 - mc3) (bs - ms1 - ms3) mX10_walk 173 [some (vr a0), some (vi a1), some (vi a2), some (vi a3), some (vi a4), some (vi a5), some (vi a6), some (vi a7), some (vi a8), some (vi v4)] [] m3 Q))))) ∧ (¬ (w32 (a6.tdiv 2)) ≤ (a9.tmod a6) → a6 ≠ 0 ∧ ((¬ ((w32 (a2 + (w32 (a9.tdiv a6)))).tmod 2) = 0 → a6 ≠ 0 ∧ (mK m1 a0 = 11 ∧ ∃ (mc4 ms4 : Nat) (K4 : Mem → Prop), Cl d mc4 ms4 mX10_lay [vr a0, vi a5, vi (w32 (-a7)), vi (w32 (a2 + (w32 (a9.tdiv a6))))] m1 (KV K4) ∧ mc4 ≤ bc - mc1 ∧ ms4 ≤ bs - ms1 ∧ (∀ m4, K4 m4 → ∀ v5, v5 = w32 (a9 + 1) → Wp (d + 1) (bc - mc1 - mc4) (bs - ms1 - ms4) mX10_walk 173 [some (vr a0), some (vi a1), some (vi a2), some (vi a3), some (vi a4), some (vi a5), some (vi a6), some (vi a7), some (vi a8), some (vi v5)] [] m4 Q))) ∧ (((w32 (a2 + (w32 (a9.tdiv a6)))).tmod 2) = 0 → a6 ≠ 0 ∧ (mK m1 a0 = 11 ∧ ∃ (mc5 ms5 : Nat) (K5 : Mem → Prop), Cl d mc5 ms5 mX10_lay [vr a0, vi a5, vi a7, vi (w32 (a2 + (w32 (a9.tdiv a6))))] m1 (KV K5) ∧ mc5 ≤ bc - mc1 ∧ ms5 ≤ bs - ms1 ∧ (∀ m5, K5 m5 → ∀ v6, v6 = w32 (a9 + 1) → Wp (d + 1) (bc - mc1 - mc5) (bs - ms1 - ms5) mX10_walk 173 [some (vr a0), some (vi a1), some (vi a2), some (vi a3), some (vi a4), some (vi a5), some (vi a6), some (vi a7), some (vi a8), some (vi v6)] [] m5 Q)))))))))) :
    Wp (d + 1) bc bs mX10_walk 173 [some (vr a0), some (vi a1), some (vi a2), some (vi a3), some (vi a4), some (vi a5), some (vi a6), some (vi a7), some (vi a8), some (vi a9)] [] μ Q := by
  refine st_iload (pc := 173) dX10_walk_173 rfl ?_
  refine st_iload (pc := 175) dX10_walk_175 rfl ?_
  refine st_iload (pc := 177) dX10_walk_177 rfl ?_
  refine st_imul (pc := 179) dX10_walk_179 ?_
  refine st_icmpge (pc := 180) (tgt := 247) dX10_walk_180 rfl (fun c => ?_) (fun c => ?_)
  · replace h := h.1 c
    refine st_iload_n (pc := 247) dX10_walk_247 rfl rfl ?_
    refine st_iload (pc := 248) dX10_walk_248 rfl ?_
    refine st_iadd (pc := 250) dX10_walk_250 ?_
    refine sg_istore_n (pc := 251) (ls' := [some (vr a0), some (vi a1), some (vi (w32 (a2 + a8))), some (vi a3), some (vi a4), some (vi a5), some (vi a6), some (vi a7), some (vi a8), some (vi a9)]) dX10_walk_251 rfl (by show (2 : Nat) < 10; decide) rfl ?_
    refine Wp.nameL (ls2 := fun v => [some (vr a0), some (vi a1), some (vi v), some (vi a3), some (vi a4), some (vi a5), some (vi a6), some (vi a7), some (vi a8), some (vi a9)]) 2 _ rfl (fun _ => rfl) (fun v1 ev1 => ?_)
    replace h := h v1 ev1
    refine st_goto (pc := 252) dX10_walk_252 rfl ?_
    refine Wp.drop 5 rfl ?_
    refine Wp.drop 6 rfl ?_
    refine Wp.drop 7 rfl ?_
    refine Wp.drop 8 rfl ?_
    refine Wp.drop 9 rfl ?_
    exact h
  · replace h := h.2 c
    refine st_aload_n (pc := 183) dX10_walk_183 rfl rfl ?_
    obtain ⟨hk1, h⟩ := h
    obtain ⟨mc1, ms1, K1, hC, e1, e2, h⟩ := h
    refine sg_VI (pc := 184) (av := []) (st := []) (K := K1) dX10_walk_184 ck_10_209 rfl (by decide) hk1 (by show (0 : Nat) ≤ 8; decide) hC e1 e2 (fun x1 m1 hK => ?_) rfl
    replace h := h x1 m1 hK
    refine st_ifeq (pc := 187) (tgt := 247) dX10_walk_187 rfl (fun c => ?_) (fun c => ?_)
    · replace h := h.1 c
      refine st_iload_n (pc := 247) dX10_walk_247 rfl rfl ?_
      refine st_iload (pc := 248) dX10_walk_248 rfl ?_
      refine st_iadd (pc := 250) dX10_walk_250 ?_
      refine sg_istore_n (pc := 251) (ls' := [some (vr a0), some (vi a1), some (vi (w32 (a2 + a8))), some (vi a3), some (vi a4), some (vi a5), some (vi a6), some (vi a7), some (vi a8), some (vi a9)]) dX10_walk_251 rfl (by show (2 : Nat) < 10; decide) rfl ?_
      refine Wp.nameL (ls2 := fun v => [some (vr a0), some (vi a1), some (vi v), some (vi a3), some (vi a4), some (vi a5), some (vi a6), some (vi a7), some (vi a8), some (vi a9)]) 2 _ rfl (fun _ => rfl) (fun v2 ev2 => ?_)
      replace h := h v2 ev2
      refine st_goto (pc := 252) dX10_walk_252 rfl ?_
      refine Wp.drop 5 rfl ?_
      refine Wp.drop 6 rfl ?_
      refine Wp.drop 7 rfl ?_
      refine Wp.drop 8 rfl ?_
      refine Wp.drop 9 rfl ?_
      exact h
    · replace h := h.2 c
      refine st_aload_n (pc := 190) dX10_walk_190 rfl rfl ?_
      refine st_iload (pc := 191) dX10_walk_191 rfl ?_
      refine st_iload (pc := 193) dX10_walk_193 rfl ?_
      obtain ⟨h0, h⟩ := h
      refine st_irem (pc := 195) dX10_walk_195 h0 ?_
      refine st_iload (pc := 196) dX10_walk_196 rfl ?_
      refine sg_iconst (pc := 198) dX10_walk_198 (by omega) ?_
      refine st_idiv (pc := 199) dX10_walk_199 (by omega) ?_
      refine st_icmpge (pc := 200) (tgt := 208) dX10_walk_200 rfl (fun c => ?_) (fun c => ?_)
      · replace h := h.1 c
        refine st_iload (pc := 208) dX10_walk_208 rfl ?_
        refine st_ineg (pc := 210) dX10_walk_210 ?_
        refine st_iload_n (pc := 211) dX10_walk_211 rfl rfl ?_
        refine st_iload (pc := 212) dX10_walk_212 rfl ?_
        refine st_iload (pc := 214) dX10_walk_214 rfl ?_
        obtain ⟨h0, h⟩ := h
        refine st_idiv (pc := 216) dX10_walk_216 h0 ?_
        refine st_iadd (pc := 217) dX10_walk_217 ?_
        refine sg_iconst (pc := 218) dX10_walk_218 (by omega) ?_
        refine st_irem (pc := 219) dX10_walk_219 (by omega) ?_
        refine st_ifne (pc := 220) (tgt := 228) dX10_walk_220 rfl (fun c => ?_) (fun c => ?_)
        · replace h := h.1 c
          refine st_iload (pc := 228) dX10_walk_228 rfl ?_
          refine st_ineg (pc := 230) dX10_walk_230 ?_
          refine st_iload_n (pc := 231) dX10_walk_231 rfl rfl ?_
          refine st_iload (pc := 232) dX10_walk_232 rfl ?_
          refine st_iload (pc := 234) dX10_walk_234 rfl ?_
          obtain ⟨h0, h⟩ := h
          refine st_idiv (pc := 236) dX10_walk_236 h0 ?_
          refine st_iadd (pc := 237) dX10_walk_237 ?_
          obtain ⟨hk2, h⟩ := h
          obtain ⟨mc2, ms2, K2, hC, e1, e2, h⟩ := h
          refine sg_VV (pc := 238) (av := [vi (w32 (-a5)), vi (w32 (-a7)), vi (w32 (a2 + (w32 (a9.tdiv a6))))]) (st := []) (K := K2) dX10_walk_238 ck_10_241 rfl (by decide) hk2 (by show (0 : Nat) ≤ 8; decide) hC e1 e2 (fun m2 hK => ?_) rfl
          replace h := h m2 hK
          refine sg_iinc (pc := 241) (ls' := [some (vr a0), some (vi a1), some (vi a2), some (vi a3), some (vi a4), some (vi a5), some (vi a6), some (vi a7), some (vi a8), some (vi (w32 (a9 + 1)))]) dX10_walk_241 rfl rfl ?_
          refine Wp.nameL (ls2 := fun v => [some (vr a0), some (vi a1), some (vi a2), some (vi a3), some (vi a4), some (vi a5), some (vi a6), some (vi a7), some (vi a8), some (vi v)]) 9 _ rfl (fun _ => rfl) (fun v3 ev3 => ?_)
          replace h := h v3 ev3
          refine st_goto (pc := 244) dX10_walk_244 rfl ?_
          exact h
        · replace h := h.2 c
          refine st_iload (pc := 223) dX10_walk_223 rfl ?_
          refine st_goto (pc := 225) dX10_walk_225 rfl ?_
          refine st_iload_n (pc := 231) dX10_walk_231 rfl rfl ?_
          refine st_iload (pc := 232) dX10_walk_232 rfl ?_
          refine st_iload (pc := 234) dX10_walk_234 rfl ?_
          obtain ⟨h0, h⟩ := h
          refine st_idiv (pc := 236) dX10_walk_236 h0 ?_
          refine st_iadd (pc := 237) dX10_walk_237 ?_
          obtain ⟨hk3, h⟩ := h
          obtain ⟨mc3, ms3, K3, hC, e1, e2, h⟩ := h
          refine sg_VV (pc := 238) (av := [vi (w32 (-a5)), vi a7, vi (w32 (a2 + (w32 (a9.tdiv a6))))]) (st := []) (K := K3) dX10_walk_238 ck_10_241 rfl (by decide) hk3 (by show (0 : Nat) ≤ 8; decide) hC e1 e2 (fun m3 hK => ?_) rfl
          replace h := h m3 hK
          refine sg_iinc (pc := 241) (ls' := [some (vr a0), some (vi a1), some (vi a2), some (vi a3), some (vi a4), some (vi a5), some (vi a6), some (vi a7), some (vi a8), some (vi (w32 (a9 + 1)))]) dX10_walk_241 rfl rfl ?_
          refine Wp.nameL (ls2 := fun v => [some (vr a0), some (vi a1), some (vi a2), some (vi a3), some (vi a4), some (vi a5), some (vi a6), some (vi a7), some (vi a8), some (vi v)]) 9 _ rfl (fun _ => rfl) (fun v4 ev4 => ?_)
          replace h := h v4 ev4
          refine st_goto (pc := 244) dX10_walk_244 rfl ?_
          exact h
      · replace h := h.2 c
        refine st_iload (pc := 203) dX10_walk_203 rfl ?_
        refine st_goto (pc := 205) dX10_walk_205 rfl ?_
        refine st_iload_n (pc := 211) dX10_walk_211 rfl rfl ?_
        refine st_iload (pc := 212) dX10_walk_212 rfl ?_
        refine st_iload (pc := 214) dX10_walk_214 rfl ?_
        obtain ⟨h0, h⟩ := h
        refine st_idiv (pc := 216) dX10_walk_216 h0 ?_
        refine st_iadd (pc := 217) dX10_walk_217 ?_
        refine sg_iconst (pc := 218) dX10_walk_218 (by omega) ?_
        refine st_irem (pc := 219) dX10_walk_219 (by omega) ?_
        refine st_ifne (pc := 220) (tgt := 228) dX10_walk_220 rfl (fun c => ?_) (fun c => ?_)
        · replace h := h.1 c
          refine st_iload (pc := 228) dX10_walk_228 rfl ?_
          refine st_ineg (pc := 230) dX10_walk_230 ?_
          refine st_iload_n (pc := 231) dX10_walk_231 rfl rfl ?_
          refine st_iload (pc := 232) dX10_walk_232 rfl ?_
          refine st_iload (pc := 234) dX10_walk_234 rfl ?_
          obtain ⟨h0, h⟩ := h
          refine st_idiv (pc := 236) dX10_walk_236 h0 ?_
          refine st_iadd (pc := 237) dX10_walk_237 ?_
          obtain ⟨hk4, h⟩ := h
          obtain ⟨mc4, ms4, K4, hC, e1, e2, h⟩ := h
          refine sg_VV (pc := 238) (av := [vi a5, vi (w32 (-a7)), vi (w32 (a2 + (w32 (a9.tdiv a6))))]) (st := []) (K := K4) dX10_walk_238 ck_10_241 rfl (by decide) hk4 (by show (0 : Nat) ≤ 8; decide) hC e1 e2 (fun m4 hK => ?_) rfl
          replace h := h m4 hK
          refine sg_iinc (pc := 241) (ls' := [some (vr a0), some (vi a1), some (vi a2), some (vi a3), some (vi a4), some (vi a5), some (vi a6), some (vi a7), some (vi a8), some (vi (w32 (a9 + 1)))]) dX10_walk_241 rfl rfl ?_
          refine Wp.nameL (ls2 := fun v => [some (vr a0), some (vi a1), some (vi a2), some (vi a3), some (vi a4), some (vi a5), some (vi a6), some (vi a7), some (vi a8), some (vi v)]) 9 _ rfl (fun _ => rfl) (fun v5 ev5 => ?_)
          replace h := h v5 ev5
          refine st_goto (pc := 244) dX10_walk_244 rfl ?_
          exact h
        · replace h := h.2 c
          refine st_iload (pc := 223) dX10_walk_223 rfl ?_
          refine st_goto (pc := 225) dX10_walk_225 rfl ?_
          refine st_iload_n (pc := 231) dX10_walk_231 rfl rfl ?_
          refine st_iload (pc := 232) dX10_walk_232 rfl ?_
          refine st_iload (pc := 234) dX10_walk_234 rfl ?_
          obtain ⟨h0, h⟩ := h
          refine st_idiv (pc := 236) dX10_walk_236 h0 ?_
          refine st_iadd (pc := 237) dX10_walk_237 ?_
          obtain ⟨hk5, h⟩ := h
          obtain ⟨mc5, ms5, K5, hC, e1, e2, h⟩ := h
          refine sg_VV (pc := 238) (av := [vi a5, vi a7, vi (w32 (a2 + (w32 (a9.tdiv a6))))]) (st := []) (K := K5) dX10_walk_238 ck_10_241 rfl (by decide) hk5 (by show (0 : Nat) ≤ 8; decide) hC e1 e2 (fun m5 hK => ?_) rfl
          replace h := h m5 hK
          refine sg_iinc (pc := 241) (ls' := [some (vr a0), some (vi a1), some (vi a2), some (vi a3), some (vi a4), some (vi a5), some (vi a6), some (vi a7), some (vi a8), some (vi (w32 (a9 + 1)))]) dX10_walk_241 rfl rfl ?_
          refine Wp.nameL (ls2 := fun v => [some (vr a0), some (vi a1), some (vi a2), some (vi a3), some (vi a4), some (vi a5), some (vi a6), some (vi a7), some (vi a8), some (vi v)]) 9 _ rfl (fun _ => rfl) (fun v6 ev6 => ?_)
          replace h := h v6 ev6
          refine st_goto (pc := 244) dX10_walk_244 rfl ?_
          exact h

theorem sg_X10_walk_297 {d bc bs : Nat} {a0 : Nat} {a1 : Int} {a2 : Int} {a3 : Int} {a4 : Int} {a5 : Int} {a6 : Int} {μ : Mem} {Q : Option (Option AV) → Mem → Prop}
    (h : (a5 ≤ a6 → Wp (d + 1) bc bs mX10_walk 434 [some (vr a0), some (vi a1), some (vi a2), some (vi a3), some (vi a4), none, none, none, none, none] [] μ Q) ∧ (¬ a5 ≤ a6 → mK μ a0 = 11 ∧ ∃ (mc1 ms1 : Nat) (K1 : Int → Mem → Prop), Cl d mc1 ms1 mX10_fine [vr a0] μ (KI K1) ∧ mc1 ≤ bc ∧ ms1 ≤ bs ∧ (∀ x1 m1, K1 x1 m1 → (x1 = 0 → Wp (d + 1) (bc - mc1) (bs - ms1) mX10_walk 434 [some (vr a0), some (vi a1), some (vi a2), some (vi a3), some (vi a4), none, none, none, none, none] [] m1 Q) ∧ (¬ x1 = 0 → mK m1 a0 = 11 ∧ ∃ (mc2 ms2 : Nat) (K2 : Mem → Prop), Cl d mc2 ms2 mX10_lay [vr a0, vi 0, vi 0, vi (-1)] m1 (KV K2) ∧ mc2 ≤ bc - mc1 ∧ ms2 ≤ bs - ms1 ∧ (∀ m2, K2 m2 → ∀ v1, v1 = w32 (a6 + 1) → Wp (d + 1) (bc - mc1 - mc2) (bs - ms1 - ms2) mX10_walk 297 [some (vr a0), some (vi a1), some (vi a2), some (vi a3), some (vi a4), some (vi a5), some (vi v1), none, none, none] [] m2 Q))))) :
    Wp (d + 1) bc bs mX10_walk 297 [some (vr a0), some (vi a1), some (vi a2), some (vi a3), some (vi a4), some (vi a5), some (vi a6), none, none, none] [] μ Q := by
  refine st_iload (pc := 297) dX10_walk_297 rfl ?_
  refine st_iload (pc := 299) dX10_walk_299 rfl ?_
  refine st_icmpge (pc := 301) (tgt := 324) dX10_walk_301 rfl (fun c => ?_) (fun c => ?_)
  · replace h := h.1 c
    refine st_goto (pc := 324) dX10_walk_324 rfl ?_
    refine Wp.drop 5 rfl ?_
    refine Wp.drop 6 rfl ?_
    exact h
  · replace h := h.2 c
    refine st_aload_n (pc := 304) dX10_walk_304 rfl rfl ?_
    obtain ⟨hk1, h⟩ := h
    obtain ⟨mc1, ms1, K1, hC, e1, e2, h⟩ := h
    refine sg_VI (pc := 305) (av := []) (st := []) (K := K1) dX10_walk_305 ck_10_209 rfl (by decide) hk1 (by show (0 : Nat) ≤ 8; decide) hC e1 e2 (fun x1 m1 hK => ?_) rfl
    replace h := h x1 m1 hK
    refine st_ifeq (pc := 308) (tgt := 324) dX10_walk_308 rfl (fun c => ?_) (fun c => ?_)
    · replace h := h.1 c
      refine st_goto (pc := 324) dX10_walk_324 rfl ?_
      refine Wp.drop 5 rfl ?_
      refine Wp.drop 6 rfl ?_
      exact h
    · replace h := h.2 c
      refine st_aload_n (pc := 311) dX10_walk_311 rfl rfl ?_
      refine sg_iconst (pc := 312) dX10_walk_312 (by omega) ?_
      refine sg_iconst (pc := 313) dX10_walk_313 (by omega) ?_
      refine sg_iconst (pc := 314) dX10_walk_314 (by omega) ?_
      obtain ⟨hk2, h⟩ := h
      obtain ⟨mc2, ms2, K2, hC, e1, e2, h⟩ := h
      refine sg_VV (pc := 315) (av := [vi 0, vi 0, vi (-1)]) (st := []) (K := K2) dX10_walk_315 ck_10_241 rfl (by decide) hk2 (by show (0 : Nat) ≤ 8; decide) hC e1 e2 (fun m2 hK => ?_) rfl
      replace h := h m2 hK
      refine sg_iinc (pc := 318) (ls' := [some (vr a0), some (vi a1), some (vi a2), some (vi a3), some (vi a4), some (vi a5), some (vi (w32 (a6 + 1))), none, none, none]) dX10_walk_318 rfl rfl ?_
      refine Wp.nameL (ls2 := fun v => [some (vr a0), some (vi a1), some (vi a2), some (vi a3), some (vi a4), some (vi a5), some (vi v), none, none, none]) 6 _ rfl (fun _ => rfl) (fun v1 ev1 => ?_)
      replace h := h v1 ev1
      refine st_goto (pc := 321) dX10_walk_321 rfl ?_
      exact h

theorem sg_X10_walk_374 {d bc bs : Nat} {a0 : Nat} {a1 : Int} {a2 : Int} {a3 : Int} {a4 : Int} {a5 : Int} {a6 : Int} {μ : Mem} {Q : Option (Option AV) → Mem → Prop}
    (h : mK μ a0 = 11 ∧ ∃ (mc1 ms1 : Nat) (K1 : Int → Mem → Prop), Cl d mc1 ms1 mX10_fine [vr a0] μ (KI K1) ∧ mc1 ≤ bc ∧ ms1 ≤ bs ∧ (∀ x1 m1, K1 x1 m1 → (x1 = 0 → Wp (d + 1) (bc - mc1) (bs - ms1) mX10_walk 434 [some (vr a0), some (vi a1), some (vi a2), some (vi a3), some (vi a4), none, none, none, none, none] [] m1 Q) ∧ (¬ x1 = 0 → (a5 = 0 → mK m1 a0 = 11 ∧ ∃ (mc2 ms2 : Nat) (K2 : Mem → Prop), Cl d mc2 ms2 mX10_lay [vr a0, vi a6, vi 0, vi (-1)] m1 (KV K2) ∧ mc2 ≤ bc - mc1 ∧ ms2 ≤ bs - ms1 ∧ (∀ m2, K2 m2 → Wp (d + 1) (bc - mc1 - mc2) (bs - ms1 - ms2) mX10_walk 434 [some (vr a0), some (vi a1), some (vi a2), some (vi a3), some (vi a4), none, none, none, none, none] [] m2 Q)) ∧ (¬ a5 = 0 → mK m1 a0 = 11 ∧ ∃ (mc3 ms3 : Nat) (K3 : Mem → Prop), Cl d mc3 ms3 mX10_lay [vr a0, vi (w32 (-a6)), vi 0, vi (-1)] m1 (KV K3) ∧ mc3 ≤ bc - mc1 ∧ ms3 ≤ bs - ms1 ∧ (∀ m3, K3 m3 → Wp (d + 1) (bc - mc1 - mc3) (bs - ms1 - ms3) mX10_walk 434 [some (vr a0), some (vi a1), some (vi a2), some (vi a3), some (vi a4), none, none, none, none, none] [] m3 Q))))) :
    Wp (d + 1) bc bs mX10_walk 374 [some (vr a0), some (vi a1), some (vi a2), some (vi a3), some (vi a4), some (vi a5), some (vi a6), none, none, none] [] μ Q := by
  refine st_aload_n (pc := 374) dX10_walk_374 rfl rfl ?_
  obtain ⟨hk1, h⟩ := h
  obtain ⟨mc1, ms1, K1, hC, e1, e2, h⟩ := h
  refine sg_VI (pc := 375) (av := []) (st := []) (K := K1) dX10_walk_375 ck_10_209 rfl (by decide) hk1 (by show (0 : Nat) ≤ 8; decide) hC e1 e2 (fun x1 m1 hK => ?_) rfl
  replace h := h x1 m1 hK
  refine st_ifeq (pc := 378) (tgt := 400) dX10_walk_378 rfl (fun c => ?_) (fun c => ?_)
  · replace h := h.1 c
    refine st_goto (pc := 400) dX10_walk_400 rfl ?_
    refine Wp.drop 5 rfl ?_
    refine Wp.drop 6 rfl ?_
    exact h
  · replace h := h.2 c
    refine st_aload_n (pc := 381) dX10_walk_381 rfl rfl ?_
    refine st_iload (pc := 382) dX10_walk_382 rfl ?_
    refine st_ifeq (pc := 384) (tgt := 393) dX10_walk_384 rfl (fun c => ?_) (fun c => ?_)
    · replace h := h.1 c
      refine st_iload (pc := 393) dX10_walk_393 rfl ?_
      refine sg_iconst (pc := 395) dX10_walk_395 (by omega) ?_
      refine sg_iconst (pc := 396) dX10_walk_396 (by omega) ?_
      obtain ⟨hk2, h⟩ := h
      obtain ⟨mc2, ms2, K2, hC, e1, e2, h⟩ := h
      refine sg_VV (pc := 397) (av := [vi a6, vi 0, vi (-1)]) (st := []) (K := K2) dX10_walk_397 ck_10_241 rfl (by decide) hk2 (by show (0 : Nat) ≤ 8; decide) hC e1 e2 (fun m2 hK => ?_) rfl
      replace h := h m2 hK
      refine st_goto (pc := 400) dX10_walk_400 rfl ?_
      refine Wp.drop 5 rfl ?_
      refine Wp.drop 6 rfl ?_
      exact h
    · replace h := h.2 c
      refine st_iload (pc := 387) dX10_walk_387 rfl ?_
      refine st_ineg (pc := 389) dX10_walk_389 ?_
      refine st_goto (pc := 390) dX10_walk_390 rfl ?_
      refine sg_iconst (pc := 395) dX10_walk_395 (by omega) ?_
      refine sg_iconst (pc := 396) dX10_walk_396 (by omega) ?_
      obtain ⟨hk3, h⟩ := h
      obtain ⟨mc3, ms3, K3, hC, e1, e2, h⟩ := h
      refine sg_VV (pc := 397) (av := [vi (w32 (-a6)), vi 0, vi (-1)]) (st := []) (K := K3) dX10_walk_397 ck_10_241 rfl (by decide) hk3 (by show (0 : Nat) ≤ 8; decide) hC e1 e2 (fun m3 hK => ?_) rfl
      replace h := h m3 hK
      refine st_goto (pc := 400) dX10_walk_400 rfl ?_
      refine Wp.drop 5 rfl ?_
      refine Wp.drop 6 rfl ?_
      exact h

theorem sg_X10_walk_434 {d bc bs : Nat} {a0 : Nat} {a1 : Int} {a2 : Int} {a3 : Int} {a4 : Int} {μ : Mem} {Q : Option (Option AV) → Mem → Prop}
    (h : mK μ a0 = 11 ∧ ∃ (mc1 ms1 : Nat) (K1 : Int → Mem → Prop), Cl d mc1 ms1 mX10_fine [vr a0] μ (KI K1) ∧ mc1 ≤ bc ∧ ms1 ≤ bs ∧ (∀ x1 m1, K1 x1 m1 → (¬ x1 = 0 → mK m1 a0 = 11 ∧ ∃ (mc2 ms2 : Nat) (K2 : Int → Mem → Prop), Cl d mc2 ms2 mX10_passes [vr a0, vi 59] m1 (KI K2) ∧ mc2 ≤ bc - mc1 ∧ ms2 ≤ bs - ms1 ∧ (∀ x2 m2, K2 x2 m2 → Wp (d + 1) (bc - mc1 - mc2) (bs - ms1 - ms2) mX10_walk 61 [some (vr a0), some (vi a1), some (vi a2), some (vi x2), none, none, none, none, none, none] [] m2 Q)) ∧ (x1 = 0 → mK m1 a0 = 11 ∧ (Q (some (some (vi (w32 ((-1) - (mD m1 a0 21)))))) m1)))) :
    Wp (d + 1) bc bs mX10_walk 434 [some (vr a0), some (vi a1), some (vi a2), some (vi a3), some (vi a4), none, none, none, none, none] [] μ Q := by
  refine st_aload_n (pc := 434) dX10_walk_434 rfl rfl ?_
  obtain ⟨hk1, h⟩ := h
  obtain ⟨mc1, ms1, K1, hC, e1, e2, h⟩ := h
  refine sg_VI (pc := 435) (av := []) (st := []) (K := K1) dX10_walk_435 ck_10_209 rfl (by decide) hk1 (by show (0 : Nat) ≤ 8; decide) hC e1 e2 (fun x1 m1 hK => ?_) rfl
  replace h := h x1 m1 hK
  refine st_ifne (pc := 438) (tgt := 448) dX10_walk_438 rfl (fun c => ?_) (fun c => ?_)
  · replace h := h.1 c
    refine st_aload_n (pc := 448) dX10_walk_448 rfl rfl ?_
    refine sg_bipush (pc := 449) dX10_walk_449 (by omega) (by decide) ?_
    obtain ⟨hk2, h⟩ := h
    obtain ⟨mc2, ms2, K2, hC, e1, e2, h⟩ := h
    refine sg_VI (pc := 451) (av := [vi 59]) (st := []) (K := K2) dX10_walk_451 ck_10_216 rfl (by decide) hk2 (by show (0 : Nat) ≤ 8; decide) hC e1 e2 (fun x2 m2 hK => ?_) rfl
    replace h := h x2 m2 hK
    refine sg_istore_n (pc := 454) (ls' := [some (vr a0), some (vi a1), some (vi a2), some (vi x2), some (vi a4), none, none, none, none, none]) dX10_walk_454 rfl (by show (3 : Nat) < 10; decide) rfl ?_
    refine st_goto (pc := 455) dX10_walk_455 rfl ?_
    refine Wp.drop 4 rfl ?_
    exact h
  · replace h := h.2 c
    refine sg_iconst (pc := 441) dX10_walk_441 (by omega) ?_
    refine st_aload_n (pc := 442) dX10_walk_442 rfl rfl ?_
    obtain ⟨hk3, h⟩ := h
    refine sg_gfI (pc := 443) (J := 21) dX10_walk_443 fl_10_206 (by decide) rfl hk3 ?_
    refine st_isub (pc := 446) dX10_walk_446 ?_
    exact st_ireturn (pc := 447) dX10_walk_447 (Or.inl rfl) h

theorem sg_X10_walk_496 {d bc bs : Nat} {a0 : Nat} {a1 : Int} {a2 : Int} {a3 : Int} {a4 : Int} {μ : Mem} {Q : Option (Option AV) → Mem → Prop}
    (h : mK μ a0 = 11 ∧ (((mD μ a0 32) ≤ a4 → Q (some (some (vi (mD μ a0 32)))) μ) ∧ (¬ (mD μ a0 32) ≤ a4 → (mK μ (mR μ a0 28) = 20 ∨ ((mR μ a0 28) ≠ 0 ∧ mK μ (mR μ a0 28) = 40)) ∧ ((0 : Int) ≤ a4 ∧ a4 < (mN μ (mR μ a0 28) : Int)) ∧ (mK μ (mR μ a0 24) = 20 ∧ ((0 : Int) ≤ (w32 ((w32 (1000 * a1)) + a4)) ∧ (w32 ((w32 (1000 * a1)) + a4)) < (mN μ (mR μ a0 24) : Int)) ∧ (∀ m1, m1 = sD μ (mR μ a0 24) (w32 ((w32 (1000 * a1)) + a4)) (mD μ (mR μ a0 28) a4) → (mK m1 (mR m1 a0 29) = 20 ∨ ((mR m1 a0 29) ≠ 0 ∧ mK m1 (mR m1 a0 29) = 40)) ∧ ((0 : Int) ≤ a4 ∧ a4 < (mN m1 (mR m1 a0 29) : Int)) ∧ (mK m1 (mR m1 a0 25) = 20 ∧ ((0 : Int) ≤ (w32 ((w32 (1000 * a1)) + a4)) ∧ (w32 ((w32 (1000 * a1)) + a4)) < (mN m1 (mR m1 a0 25) : Int)) ∧ (∀ m2, m2 = sD m1 (mR m1 a0 25) (w32 ((w32 (1000 * a1)) + a4)) (mD m1 (mR m1 a0 29) a4) → (mK m2 (mR m2 a0 30) = 20 ∨ ((mR m2 a0 30) ≠ 0 ∧ mK m2 (mR m2 a0 30) = 40)) ∧ ((0 : Int) ≤ a4 ∧ a4 < (mN m2 (mR m2 a0 30) : Int)) ∧ (mK m2 (mR m2 a0 26) = 20 ∧ ((0 : Int) ≤ (w32 ((w32 (1000 * a1)) + a4)) ∧ (w32 ((w32 (1000 * a1)) + a4)) < (mN m2 (mR m2 a0 26) : Int)) ∧ (∀ m3, m3 = sD m2 (mR m2 a0 26) (w32 ((w32 (1000 * a1)) + a4)) (mD m2 (mR m2 a0 30) a4) → (mK m3 (mR m3 a0 31) = 20 ∨ ((mR m3 a0 31) ≠ 0 ∧ mK m3 (mR m3 a0 31) = 40)) ∧ ((0 : Int) ≤ a4 ∧ a4 < (mN m3 (mR m3 a0 31) : Int)) ∧ (mK m3 (mR m3 a0 27) = 20 ∧ ((0 : Int) ≤ (w32 ((w32 (1000 * a1)) + a4)) ∧ (w32 ((w32 (1000 * a1)) + a4)) < (mN m3 (mR m3 a0 27) : Int)) ∧ (∀ m4, m4 = sD m3 (mR m3 a0 27) (w32 ((w32 (1000 * a1)) + a4)) (mD m3 (mR m3 a0 31) a4) → ∀ v1, v1 = w32 (a4 + 1) → Wp (d + 1) bc bs mX10_walk 496 [some (vr a0), some (vi a1), some (vi a2), some (vi a3), some (vi v1), none, none, none, none, none] [] m4 Q))))))))))) :
    Wp (d + 1) bc bs mX10_walk 496 [some (vr a0), some (vi a1), some (vi a2), some (vi a3), some (vi a4), none, none, none, none, none] [] μ Q := by
  refine st_iload (pc := 496) dX10_walk_496 rfl ?_
  refine st_aload_n (pc := 498) dX10_walk_498 rfl rfl ?_
  obtain ⟨hk1, h⟩ := h
  refine sg_gfI (pc := 499) (J := 32) dX10_walk_499 fl_10_224 (by decide) rfl hk1 ?_
  refine st_icmpge (pc := 502) (tgt := 591) dX10_walk_502 rfl (fun c => ?_) (fun c => ?_)
  · replace h := h.1 c
    refine st_aload_n (pc := 591) dX10_walk_591 rfl rfl ?_
    refine sg_gfI (pc := 592) (J := 32) dX10_walk_592 fl_10_224 (by decide) rfl hk1 ?_
    exact st_ireturn (pc := 595) dX10_walk_595 (Or.inl rfl) h
  · replace h := h.2 c
    refine st_aload_n (pc := 505) dX10_walk_505 rfl rfl ?_
    refine sg_gfR (pc := 506) (J := 24) dX10_walk_506 fl_10_55 rfl hk1 ?_
    refine sg_sipush (pc := 509) dX10_walk_509 (by omega) (by decide) ?_
    refine st_iload_n (pc := 512) dX10_walk_512 rfl rfl ?_
    refine st_imul (pc := 513) dX10_walk_513 ?_
    refine st_iload (pc := 514) dX10_walk_514 rfl ?_
    refine st_iadd (pc := 516) dX10_walk_516 ?_
    refine st_aload_n (pc := 517) dX10_walk_517 rfl rfl ?_
    refine sg_gfR (pc := 518) (J := 28) dX10_walk_518 fl_10_67 rfl hk1 ?_
    refine st_iload (pc := 521) dX10_walk_521 rfl ?_
    obtain ⟨hk2, h⟩ := h
    obtain ⟨h1, h⟩ := h
    refine sg_iaload (pc := 523) dX10_walk_523 hk2 h1 ?_
    obtain ⟨hk3, h⟩ := h
    obtain ⟨h1, h⟩ := h
    refine st_iastore (pc := 524) dX10_walk_524 hk3 h1.1 h1.2 ?_
    refine Wp.nameM (fun m1 em1 => ?_)
    replace h := h m1 em1
    refine st_aload_n (pc := 525) dX10_walk_525 rfl rfl ?_
    refine sg_gfR (pc := 526) (J := 25) dX10_walk_526 fl_10_58 rfl (by cases em1; exact hk1) ?_
    refine sg_sipush (pc := 529) dX10_walk_529 (by omega) (by decide) ?_
    refine st_iload_n (pc := 532) dX10_walk_532 rfl rfl ?_
    refine st_imul (pc := 533) dX10_walk_533 ?_
    refine st_iload (pc := 534) dX10_walk_534 rfl ?_
    refine st_iadd (pc := 536) dX10_walk_536 ?_
    refine st_aload_n (pc := 537) dX10_walk_537 rfl rfl ?_
    refine sg_gfR (pc := 538) (J := 29) dX10_walk_538 fl_10_70 rfl (by cases em1; exact hk1) ?_
    refine st_iload (pc := 541) dX10_walk_541 rfl ?_
    obtain ⟨hk4, h⟩ := h
    obtain ⟨h1, h⟩ := h
    refine sg_iaload (pc := 543) dX10_walk_543 hk4 h1 ?_
    obtain ⟨hk5, h⟩ := h
    obtain ⟨h1, h⟩ := h
    refine st_iastore (pc := 544) dX10_walk_544 hk5 h1.1 h1.2 ?_
    refine Wp.nameM (fun m2 em2 => ?_)
    replace h := h m2 em2
    refine st_aload_n (pc := 545) dX10_walk_545 rfl rfl ?_
    refine sg_gfR (pc := 546) (J := 26) dX10_walk_546 fl_10_61 rfl (by cases em2; cases em1; exact hk1) ?_
    refine sg_sipush (pc := 549) dX10_walk_549 (by omega) (by decide) ?_
    refine st_iload_n (pc := 552) dX10_walk_552 rfl rfl ?_
    refine st_imul (pc := 553) dX10_walk_553 ?_
    refine st_iload (pc := 554) dX10_walk_554 rfl ?_
    refine st_iadd (pc := 556) dX10_walk_556 ?_
    refine st_aload_n (pc := 557) dX10_walk_557 rfl rfl ?_
    refine sg_gfR (pc := 558) (J := 30) dX10_walk_558 fl_10_73 rfl (by cases em2; cases em1; exact hk1) ?_
    refine st_iload (pc := 561) dX10_walk_561 rfl ?_
    obtain ⟨hk6, h⟩ := h
    obtain ⟨h1, h⟩ := h
    refine sg_iaload (pc := 563) dX10_walk_563 hk6 h1 ?_
    obtain ⟨hk7, h⟩ := h
    obtain ⟨h1, h⟩ := h
    refine st_iastore (pc := 564) dX10_walk_564 hk7 h1.1 h1.2 ?_
    refine Wp.nameM (fun m3 em3 => ?_)
    replace h := h m3 em3
    refine st_aload_n (pc := 565) dX10_walk_565 rfl rfl ?_
    refine sg_gfR (pc := 566) (J := 27) dX10_walk_566 fl_10_64 rfl (by cases em3; cases em2; cases em1; exact hk1) ?_
    refine sg_sipush (pc := 569) dX10_walk_569 (by omega) (by decide) ?_
    refine st_iload_n (pc := 572) dX10_walk_572 rfl rfl ?_
    refine st_imul (pc := 573) dX10_walk_573 ?_
    refine st_iload (pc := 574) dX10_walk_574 rfl ?_
    refine st_iadd (pc := 576) dX10_walk_576 ?_
    refine st_aload_n (pc := 577) dX10_walk_577 rfl rfl ?_
    refine sg_gfR (pc := 578) (J := 31) dX10_walk_578 fl_10_76 rfl (by cases em3; cases em2; cases em1; exact hk1) ?_
    refine st_iload (pc := 581) dX10_walk_581 rfl ?_
    obtain ⟨hk8, h⟩ := h
    obtain ⟨h1, h⟩ := h
    refine sg_iaload (pc := 583) dX10_walk_583 hk8 h1 ?_
    obtain ⟨hk9, h⟩ := h
    obtain ⟨h1, h⟩ := h
    refine st_iastore (pc := 584) dX10_walk_584 hk9 h1.1 h1.2 ?_
    refine Wp.nameM (fun m4 em4 => ?_)
    replace h := h m4 em4
    refine sg_iinc (pc := 585) (ls' := [some (vr a0), some (vi a1), some (vi a2), some (vi a3), some (vi (w32 (a4 + 1))), none, none, none, none, none]) dX10_walk_585 rfl rfl ?_
    refine Wp.nameL (ls2 := fun v => [some (vr a0), some (vi a1), some (vi a2), some (vi a3), some (vi v), none, none, none, none, none]) 4 _ rfl (fun _ => rfl) (fun v1 ev1 => ?_)
    replace h := h v1 ev1
    refine st_goto (pc := 588) dX10_walk_588 rfl ?_
    exact h

theorem sg_X10_isWalk_0 {d bc bs : Nat} {a0 : Int} {μ : Mem} {Q : Option (Option AV) → Mem → Prop}
    (h : ∃ (mc1 ms1 : Nat) (K1 : Int → Mem → Prop), Cl d mc1 ms1 mX10_in [vi a0, vi 0, vi 3] μ (KI K1) ∧ mc1 ≤ bc ∧ ms1 ≤ bs ∧ (∀ x1 m1, K1 x1 m1 → (x1 = 0 ∨ x1 = 1) ∧ Q (some (some (vi x1))) m1)) :
    Wp (d + 1) bc bs mX10_isWalk 0 [some (vi a0)] [] μ Q := by
  refine st_iload_n (pc := 0) dX10_isWalk_0 rfl rfl ?_
  refine sg_iconst (pc := 1) dX10_isWalk_1 (by omega) ?_
  refine sg_iconst (pc := 2) dX10_isWalk_2 (by omega) ?_
  obtain ⟨mc1, ms1, K1, hC, e1, e2, h⟩ := h
  refine sg_SI (pc := 3) (av := [vi a0, vi 0, vi 3]) (st := []) (K := K1) dX10_isWalk_3 ck_10_151 rfl (by show (0 : Nat) ≤ 8; decide) hC e1 e2 (fun x1 m1 hK => ?_) rfl
  replace h := h x1 m1 hK
  exact st_ireturn (pc := 6) dX10_isWalk_6 (Or.inr ⟨rfl, h.1⟩) h.2

theorem sg_X10_steps_0 {d bc bs : Nat} {a0 : Nat} {a1 : Int} {μ : Mem} {Q : Option (Option AV) → Mem → Prop}
    (h : mK μ a0 = 11 ∧ (∀ m1, m1 = sD μ a0 15 0 → ∃ (mc1 ms1 : Nat) (K1 : Int → Mem → Prop), Cl d mc1 ms1 mX10_isWalk [vi a1] m1 (KI K1) ∧ mc1 ≤ bc ∧ ms1 ≤ bs ∧ (∀ x1 m2, K1 x1 m2 → (¬ x1 = 0 → Wp (d + 1) (bc - mc1) (bs - ms1) mX10_steps 21 [some (vr a0), some (vi a1), some (vi 0), some (vi 0), some (vi 0)] [] m2 Q) ∧ (x1 = 0 → Q (some (some (vi (-1)))) m2)))) :
    Wp (d + 1) bc bs mX10_steps 0 [some (vr a0), some (vi a1), none, none, none] [] μ Q := by
  refine st_aload_n (pc := 0) dX10_steps_0 rfl rfl ?_
  refine sg_iconst (pc := 1) dX10_steps_1 (by omega) ?_
  obtain ⟨hk1, h⟩ := h
  refine sg_pfI (pc := 2) (J := 15) dX10_steps_2 fl_10_142 rfl (Or.inl rfl) hk1 ?_
  refine Wp.nameM (fun m1 em1 => ?_)
  replace h := h m1 em1
  refine st_iload_n (pc := 5) dX10_steps_5 rfl rfl ?_
  obtain ⟨mc1, ms1, K1, hC, e1, e2, h⟩ := h
  refine sg_SI (pc := 6) (av := [vi a1]) (st := []) (K := K1) dX10_steps_6 ck_10_245 rfl (by show (0 : Nat) ≤ 8; decide) hC e1 e2 (fun x1 m2 hK => ?_) rfl
  replace h := h x1 m2 hK
  refine st_ifne (pc := 9) (tgt := 14) dX10_steps_9 rfl (fun c => ?_) (fun c => ?_)
  · replace h := h.1 c
    refine sg_iconst (pc := 14) dX10_steps_14 (by omega) ?_
    refine sg_istore_n (pc := 15) (ls' := [some (vr a0), some (vi a1), some (vi 0), none, none]) dX10_steps_15 rfl (by show (2 : Nat) < 5; decide) rfl ?_
    refine sg_iconst (pc := 16) dX10_steps_16 (by omega) ?_
    refine sg_istore_n (pc := 17) (ls' := [some (vr a0), some (vi a1), some (vi 0), some (vi 0), none]) dX10_steps_17 rfl (by show (3 : Nat) < 5; decide) rfl ?_
    refine sg_iconst (pc := 18) dX10_steps_18 (by omega) ?_
    refine sg_istore (pc := 19) (ls' := [some (vr a0), some (vi a1), some (vi 0), some (vi 0), some (vi 0)]) dX10_steps_19 (by show (4 : Nat) < 5; decide) rfl ?_
    exact h
  · replace h := h.2 c
    refine sg_iconst (pc := 12) dX10_steps_12 (by omega) ?_
    exact st_ireturn (pc := 13) dX10_steps_13 (Or.inl rfl) h

theorem sg_X10_steps_21 {d bc bs : Nat} {a0 : Nat} {a1 : Int} {a2 : Int} {a3 : Int} {a4 : Int} {μ : Mem} {Q : Option (Option AV) → Mem → Prop}
    (h : mK μ a0 = 11 ∧ ((mK μ (mR μ a0 22) = 20 ∨ ((mR μ a0 22) ≠ 0 ∧ mK μ (mR μ a0 22) = 40)) ∧ ((0 : Int) ≤ a1 ∧ a1 < (mN μ (mR μ a0 22) : Int)) ∧ (((mD μ (mR μ a0 22) a1) ≤ a4 → (∀ m1, m1 = sD μ a0 14 0 → ((0 : Int) ≤ a1 ∧ a1 < (mN m1 (mR m1 a0 22) : Int)) ∧ (∃ (mc1 ms1 : Nat) (K1 : Mem → Prop), Cl d mc1 ms1 mX10_tell [vr a0, vl (mD m1 (mR m1 a0 22) a1)] m1 (KV K1) ∧ mc1 ≤ bc ∧ ms1 ≤ bs ∧ (∀ m2, K1 m2 → mK m2 a0 = 11 ∧ ∃ (mc2 ms2 : Nat) (K2 : Mem → Prop), Cl d mc2 ms2 mX10_tell [vr a0, vl a2] m2 (KV K2) ∧ mc2 ≤ bc - mc1 ∧ ms2 ≤ bs - ms1 ∧ (∀ m3, K2 m3 → mK m3 a0 = 11 ∧ ∃ (mc3 ms3 : Nat) (K3 : Mem → Prop), Cl d mc3 ms3 mX10_tell [vr a0, vl a3] m3 (KV K3) ∧ mc3 ≤ bc - mc1 - mc2 ∧ ms3 ≤ bs - ms1 - ms2 ∧ (∀ m4, K3 m4 → mK m4 a0 = 11 ∧ ((mK m4 (mR m4 a0 23) = 20 ∨ ((mR m4 a0 23) ≠ 0 ∧ mK m4 (mR m4 a0 23) = 40)) ∧ ((0 : Int) ≤ a1 ∧ a1 < (mN m4 (mR m4 a0 23) : Int)) ∧ (Q (some (some (vi (mD m4 (mR m4 a0 23) a1)))) m4)))))))) ∧ (¬ (mD μ (mR μ a0 22) a1) ≤ a4 → (mK μ (mR μ a0 24) = 20 ∨ ((mR μ a0 24) ≠ 0 ∧ mK μ (mR μ a0 24) = 40)) ∧ ((0 : Int) ≤ (w32 ((w32 (1000 * a1)) + a4)) ∧ (w32 ((w32 (1000 * a1)) + a4)) < (mN μ (mR μ a0 24) : Int)) ∧ (∃ (mc4 ms4 : Nat) (K4 : Int → Mem → Prop), Cl d mc4 ms4 mJ9_abs_0f7a4 [vi (mD μ (mR μ a0 24) (w32 ((w32 (1000 * a1)) + a4)))] μ (KI K4) ∧ mc4 ≤ bc ∧ ms4 ≤ bs ∧ (∀ x1 m5, K4 x1 m5 → ∀ v1, v1 = w32 (a2 + x1) → mK m5 a0 = 11 ∧ ((mK m5 (mR m5 a0 25) = 20 ∨ ((mR m5 a0 25) ≠ 0 ∧ mK m5 (mR m5 a0 25) = 40)) ∧ ((0 : Int) ≤ (w32 ((w32 (1000 * a1)) + a4)) ∧ (w32 ((w32 (1000 * a1)) + a4)) < (mN m5 (mR m5 a0 25) : Int)) ∧ (∃ (mc5 ms5 : Nat) (K5 : Int → Mem → Prop), Cl d mc5 ms5 mJ9_abs_0f7a4 [vi (mD m5 (mR m5 a0 25) (w32 ((w32 (1000 * a1)) + a4)))] m5 (KI K5) ∧ mc5 ≤ bc - mc4 ∧ ms5 ≤ bs - ms4 ∧ (∀ x2 m6, K5 x2 m6 → ∀ v2, v2 = w32 (a3 + x2) → ∀ v3, v3 = w32 (a4 + 1) → Wp (d + 1) (bc - mc4 - mc5) (bs - ms4 - ms5) mX10_steps 21 [some (vr a0), some (vi a1), some (vi v1), some (vi v2), some (vi v3)] [] m6 Q))))))))) :
    Wp (d + 1) bc bs mX10_steps 21 [some (vr a0), some (vi a1), some (vi a2), some (vi a3), some (vi a4)] [] μ Q := by
  refine st_iload (pc := 21) dX10_steps_21 rfl ?_
  refine st_aload_n (pc := 23) dX10_steps_23 rfl rfl ?_
  obtain ⟨hk1, h⟩ := h
  refine sg_gfR (pc := 24) (J := 22) dX10_steps_24 fl_10_49 rfl hk1 ?_
  refine st_iload_n (pc := 27) dX10_steps_27 rfl rfl ?_
  obtain ⟨hk2, h⟩ := h
  obtain ⟨h1, h⟩ := h
  refine sg_iaload (pc := 28) dX10_steps_28 hk2 h1 ?_
  refine st_icmpge (pc := 29) (tgt := 76) dX10_steps_29 rfl (fun c => ?_) (fun c => ?_)
  · replace h := h.1 c
    refine st_aload_n (pc := 76) dX10_steps_76 rfl rfl ?_
    refine sg_iconst (pc := 77) dX10_steps_77 (by omega) ?_
    refine sg_pfI (pc := 78) (J := 14) dX10_steps_78 fl_10_145 rfl (Or.inl rfl) hk1 ?_
    refine Wp.nameM (fun m1 em1 => ?_)
    replace h := h m1 em1
    refine st_aload_n (pc := 81) dX10_steps_81 rfl rfl ?_
    refine st_aload_n (pc := 82) dX10_steps_82 rfl rfl ?_
    refine sg_gfR (pc := 83) (J := 22) dX10_steps_83 fl_10_49 rfl (by cases em1; exact hk1) ?_
    refine st_iload_n (pc := 86) dX10_steps_86 rfl rfl ?_
    obtain ⟨h1, h⟩ := h
    refine sg_iaload (pc := 87) dX10_steps_87 (by cases em1; exact hk2) h1 ?_
    refine st_i2l (pc := 88) dX10_steps_88 ?_
    obtain ⟨mc1, ms1, K1, hC, e1, e2, h⟩ := h
    refine sg_VV (pc := 89) (av := [vl (mD m1 (mR m1 a0 22) a1)]) (st := []) (K := K1) dX10_steps_89 ck_10_252 rfl (by decide) (by cases em1; exact hk1) (by show (0 : Nat) ≤ 8; decide) hC e1 e2 (fun m2 hK => ?_) rfl
    replace h := h m2 hK
    refine st_aload_n (pc := 92) dX10_steps_92 rfl rfl ?_
    refine st_iload_n (pc := 93) dX10_steps_93 rfl rfl ?_
    refine st_i2l (pc := 94) dX10_steps_94 ?_
    obtain ⟨hk3, h⟩ := h
    obtain ⟨mc2, ms2, K2, hC, e1, e2, h⟩ := h
    refine sg_VV (pc := 95) (av := [vl a2]) (st := []) (K := K2) dX10_steps_95 ck_10_252 rfl (by decide) hk3 (by show (0 : Nat) ≤ 8; decide) hC e1 e2 (fun m3 hK => ?_) rfl
    replace h := h m3 hK
    refine st_aload_n (pc := 98) dX10_steps_98 rfl rfl ?_
    refine st_iload_n (pc := 99) dX10_steps_99 rfl rfl ?_
    refine st_i2l (pc := 100) dX10_steps_100 ?_
    obtain ⟨hk4, h⟩ := h
    obtain ⟨mc3, ms3, K3, hC, e1, e2, h⟩ := h
    refine sg_VV (pc := 101) (av := [vl a3]) (st := []) (K := K3) dX10_steps_101 ck_10_252 rfl (by decide) hk4 (by show (0 : Nat) ≤ 8; decide) hC e1 e2 (fun m4 hK => ?_) rfl
    replace h := h m4 hK
    refine st_aload_n (pc := 104) dX10_steps_104 rfl rfl ?_
    obtain ⟨hk5, h⟩ := h
    refine sg_gfR (pc := 105) (J := 23) dX10_steps_105 fl_10_52 rfl hk5 ?_
    refine st_iload_n (pc := 108) dX10_steps_108 rfl rfl ?_
    obtain ⟨hk6, h⟩ := h
    obtain ⟨h1, h⟩ := h
    refine sg_iaload (pc := 109) dX10_steps_109 hk6 h1 ?_
    exact st_ireturn (pc := 110) dX10_steps_110 (Or.inl rfl) h
  · replace h := h.2 c
    refine st_iload_n (pc := 32) dX10_steps_32 rfl rfl ?_
    refine st_aload_n (pc := 33) dX10_steps_33 rfl rfl ?_
    refine sg_gfR (pc := 34) (J := 24) dX10_steps_34 fl_10_55 rfl hk1 ?_
    refine sg_sipush (pc := 37) dX10_steps_37 (by omega) (by decide) ?_
    refine st_iload_n (pc := 40) dX10_steps_40 rfl rfl ?_
    refine st_imul (pc := 41) dX10_steps_41 ?_
    refine st_iload (pc := 42) dX10_steps_42 rfl ?_
    refine st_iadd (pc := 44) dX10_steps_44 ?_
    obtain ⟨hk7, h⟩ := h
    obtain ⟨h1, h⟩ := h
    refine sg_iaload (pc := 45) dX10_steps_45 hk7 h1 ?_
    obtain ⟨mc4, ms4, K4, hC, e1, e2, h⟩ := h
    refine sg_SI (pc := 46) (av := [vi (mD μ (mR μ a0 24) (w32 ((w32 (1000 * a1)) + a4)))]) (st := [vi a2]) (K := K4) dX10_steps_46 ck_10_248 rfl (by show (1 : Nat) ≤ 8; decide) hC e1 e2 (fun x1 m5 hK => ?_) rfl
    replace h := h x1 m5 hK
    refine st_iadd (pc := 49) dX10_steps_49 ?_
    refine sg_istore_n (pc := 50) (ls' := [some (vr a0), some (vi a1), some (vi (w32 (a2 + x1))), some (vi a3), some (vi a4)]) dX10_steps_50 rfl (by show (2 : Nat) < 5; decide) rfl ?_
    refine Wp.nameL (ls2 := fun v => [some (vr a0), some (vi a1), some (vi v), some (vi a3), some (vi a4)]) 2 _ rfl (fun _ => rfl) (fun v1 ev1 => ?_)
    replace h := h v1 ev1
    refine st_iload_n (pc := 51) dX10_steps_51 rfl rfl ?_
    refine st_aload_n (pc := 52) dX10_steps_52 rfl rfl ?_
    obtain ⟨hk8, h⟩ := h
    refine sg_gfR (pc := 53) (J := 25) dX10_steps_53 fl_10_58 rfl hk8 ?_
    refine sg_sipush (pc := 56) dX10_steps_56 (by omega) (by decide) ?_
    refine st_iload_n (pc := 59) dX10_steps_59 rfl rfl ?_
    refine st_imul (pc := 60) dX10_steps_60 ?_
    refine st_iload (pc := 61) dX10_steps_61 rfl ?_
    refine st_iadd (pc := 63) dX10_steps_63 ?_
    obtain ⟨hk9, h⟩ := h
    obtain ⟨h1, h⟩ := h
    refine sg_iaload (pc := 64) dX10_steps_64 hk9 h1 ?_
    obtain ⟨mc5, ms5, K5, hC, e1, e2, h⟩ := h
    refine sg_SI (pc := 65) (av := [vi (mD m5 (mR m5 a0 25) (w32 ((w32 (1000 * a1)) + a4)))]) (st := [vi a3]) (K := K5) dX10_steps_65 ck_10_248 rfl (by show (1 : Nat) ≤ 8; decide) hC e1 e2 (fun x2 m6 hK => ?_) rfl
    replace h := h x2 m6 hK
    refine st_iadd (pc := 68) dX10_steps_68 ?_
    refine sg_istore_n (pc := 69) (ls' := [some (vr a0), some (vi a1), some (vi v1), some (vi (w32 (a3 + x2))), some (vi a4)]) dX10_steps_69 rfl (by show (3 : Nat) < 5; decide) rfl ?_
    refine Wp.nameL (ls2 := fun v => [some (vr a0), some (vi a1), some (vi v1), some (vi v), some (vi a4)]) 3 _ rfl (fun _ => rfl) (fun v2 ev2 => ?_)
    replace h := h v2 ev2
    refine sg_iinc (pc := 70) (ls' := [some (vr a0), some (vi a1), some (vi v1), some (vi v2), some (vi (w32 (a4 + 1)))]) dX10_steps_70 rfl rfl ?_
    refine Wp.nameL (ls2 := fun v => [some (vr a0), some (vi a1), some (vi v1), some (vi v2), some (vi v)]) 4 _ rfl (fun _ => rfl) (fun v3 ev3 => ?_)
    replace h := h v3 ev3
    refine st_goto (pc := 73) dX10_steps_73 rfl ?_
    exact h

theorem sg_X10_product_0 {d bc bs : Nat} {a0 : Nat} {a1 : Int} {μ : Mem} {Q : Option (Option AV) → Mem → Prop}
    (h : mK μ a0 = 11 ∧ ∃ (mc1 ms1 : Nat) (K1 : Int → Mem → Prop), Cl d mc1 ms1 mX10_thing [vr a0, vi a1] μ (KI K1) ∧ mc1 ≤ bc ∧ ms1 ≤ bs ∧ (∀ x1 m1, K1 x1 m1 → Wp (d + 1) (bc - mc1) (bs - ms1) mX10_product 6 [some (vr a0), some (vi a1), some (vi x1), none, none] [] m1 Q)) :
    Wp (d + 1) bc bs mX10_product 0 [some (vr a0), some (vi a1), none, none, none] [] μ Q := by
  refine st_aload_n (pc := 0) dX10_product_0 rfl rfl ?_
  refine st_iload_n (pc := 1) dX10_product_1 rfl rfl ?_
  obtain ⟨hk1, h⟩ := h
  obtain ⟨mc1, ms1, K1, hC, e1, e2, h⟩ := h
  refine sg_VI (pc := 2) (av := [vi a1]) (st := []) (K := K1) dX10_product_2 ck_10_259 rfl (by decide) hk1 (by show (0 : Nat) ≤ 8; decide) hC e1 e2 (fun x1 m1 hK => ?_) rfl
  replace h := h x1 m1 hK
  refine sg_istore_n (pc := 5) (ls' := [some (vr a0), some (vi a1), some (vi x1), none, none]) dX10_product_5 rfl (by show (2 : Nat) < 5; decide) rfl ?_
  exact h

theorem sg_X10_product_6 {d bc bs : Nat} {a0 : Nat} {a1 : Int} {a2 : Int} {μ : Mem} {Q : Option (Option AV) → Mem → Prop}
    (h : mK μ a0 = 11 ∧ ∃ (mc1 ms1 : Nat) (K1 : Int → Mem → Prop), Cl d mc1 ms1 mX10_fine [vr a0] μ (KI K1) ∧ mc1 ≤ bc ∧ ms1 ≤ bs ∧ (∀ x1 m1, K1 x1 m1 → (x1 = 0 → Q (some (some (vi a2))) m1) ∧ (¬ x1 = 0 → mK m1 a0 = 11 ∧ ∃ (mc2 ms2 : Nat) (K2 : Int → Mem → Prop), Cl d mc2 ms2 mX10_here [vr a0] m1 (KI K2) ∧ mc2 ≤ bc - mc1 ∧ ms2 ≤ bs - ms1 ∧ (∀ x2 m2, K2 x2 m2 → (x2 = 42 → Wp (d + 1) (bc - mc1 - mc2) (bs - ms1 - ms2) mX10_product 31 [some (vr a0), some (vi a1), some (vi a2), none, none] [] m2 Q) ∧ (¬ x2 = 42 → mK m2 a0 = 11 ∧ ∃ (mc3 ms3 : Nat) (K3 : Int → Mem → Prop), Cl d mc3 ms3 mX10_here [vr a0] m2 (KI K3) ∧ mc3 ≤ bc - mc1 - mc2 ∧ ms3 ≤ bs - ms1 - ms2 ∧ (∀ x3 m3, K3 x3 m3 → (¬ x3 = 47 → Q (some (some (vi a2))) m3) ∧ (x3 = 47 → Wp (d + 1) (bc - mc1 - mc2 - mc3) (bs - ms1 - ms2 - ms3) mX10_product 31 [some (vr a0), some (vi a1), some (vi a2), none, none] [] m3 Q))))))) :
    Wp (d + 1) bc bs mX10_product 6 [some (vr a0), some (vi a1), some (vi a2), none, none] [] μ Q := by
  refine st_aload_n (pc := 6) dX10_product_6 rfl rfl ?_
  obtain ⟨hk1, h⟩ := h
  obtain ⟨mc1, ms1, K1, hC, e1, e2, h⟩ := h
  refine sg_VI (pc := 7) (av := []) (st := []) (K := K1) dX10_product_7 ck_10_209 rfl (by decide) hk1 (by show (0 : Nat) ≤ 8; decide) hC e1 e2 (fun x1 m1 hK => ?_) rfl
  replace h := h x1 m1 hK
  refine st_ifeq (pc := 10) (tgt := 91) dX10_product_10 rfl (fun c => ?_) (fun c => ?_)
  · replace h := h.1 c
    refine st_iload_n (pc := 91) dX10_product_91 rfl rfl ?_
    exact st_ireturn (pc := 92) dX10_product_92 (Or.inl rfl) h
  · replace h := h.2 c
    refine st_aload_n (pc := 13) dX10_product_13 rfl rfl ?_
    obtain ⟨hk2, h⟩ := h
    obtain ⟨mc2, ms2, K2, hC, e1, e2, h⟩ := h
    refine sg_VI (pc := 14) (av := []) (st := []) (K := K2) dX10_product_14 ck_10_213 rfl (by decide) hk2 (by show (0 : Nat) ≤ 8; decide) hC e1 e2 (fun x2 m2 hK => ?_) rfl
    replace h := h x2 m2 hK
    refine sg_bipush (pc := 17) dX10_product_17 (by omega) (by decide) ?_
    refine st_icmpeq (pc := 19) (tgt := 31) dX10_product_19 rfl (fun c => ?_) (fun c => ?_)
    · replace h := h.1 c
      exact h
    · replace h := h.2 c
      refine st_aload_n (pc := 22) dX10_product_22 rfl rfl ?_
      obtain ⟨hk3, h⟩ := h
      obtain ⟨mc3, ms3, K3, hC, e1, e2, h⟩ := h
      refine sg_VI (pc := 23) (av := []) (st := []) (K := K3) dX10_product_23 ck_10_213 rfl (by decide) hk3 (by show (0 : Nat) ≤ 8; decide) hC e1 e2 (fun x3 m3 hK => ?_) rfl
      replace h := h x3 m3 hK
      refine sg_bipush (pc := 26) dX10_product_26 (by omega) (by decide) ?_
      refine st_icmpne (pc := 28) (tgt := 91) dX10_product_28 rfl (fun c => ?_) (fun c => ?_)
      · replace h := h.1 c
        refine st_iload_n (pc := 91) dX10_product_91 rfl rfl ?_
        exact st_ireturn (pc := 92) dX10_product_92 (Or.inl rfl) h
      · replace h := h.2 c
        exact h

theorem sg_X10_product_31 {d bc bs : Nat} {a0 : Nat} {a1 : Int} {a2 : Int} {μ : Mem} {Q : Option (Option AV) → Mem → Prop}
    (h : mK μ a0 = 11 ∧ ∃ (mc1 ms1 : Nat) (K1 : Int → Mem → Prop), Cl d mc1 ms1 mX10_here [vr a0] μ (KI K1) ∧ mc1 ≤ bc ∧ ms1 ≤ bs ∧ (∀ x1 m1, K1 x1 m1 → (¬ x1 = 42 → mK m1 a0 = 11 ∧ ((∀ m2, m2 = sD m1 a0 20 (w32 ((mD m1 a0 20) + 1)) → ∃ (mc2 ms2 : Nat) (K2 : Int → Mem → Prop), Cl d mc2 ms2 mX10_thing [vr a0, vi a1] m2 (KI K2) ∧ mc2 ≤ bc - mc1 ∧ ms2 ≤ bs - ms1 ∧ (∀ x2 m3, K2 x2 m3 → ((0 : Int) = 0 → (¬ x2 = 0 → x2 ≠ 0 ∧ (∀ v1, v1 = w32 (a2.tdiv x2) → Wp (d + 1) (bc - mc1 - mc2) (bs - ms1 - ms2) mX10_product 6 [some (vr a0), some (vi a1), some (vi v1), none, none] [] m3 Q)) ∧ (x2 = 0 → Wp (d + 1) (bc - mc1 - mc2) (bs - ms1 - ms2) mX10_product 6 [some (vr a0), some (vi a1), some (vi 0), none, none] [] m3 Q)) ∧ (¬ (0 : Int) = 0 → ∀ v2, v2 = w32 (a2 * x2) → Wp (d + 1) (bc - mc1 - mc2) (bs - ms1 - ms2) mX10_product 6 [some (vr a0), some (vi a1), some (vi v2), none, none] [] m3 Q))))) ∧ (x1 = 42 → mK m1 a0 = 11 ∧ ((∀ m4, m4 = sD m1 a0 20 (w32 ((mD m1 a0 20) + 1)) → ∃ (mc3 ms3 : Nat) (K3 : Int → Mem → Prop), Cl d mc3 ms3 mX10_thing [vr a0, vi a1] m4 (KI K3) ∧ mc3 ≤ bc - mc1 ∧ ms3 ≤ bs - ms1 ∧ (∀ x3 m5, K3 x3 m5 → ((1 : Int) = 0 → (¬ x3 = 0 → x3 ≠ 0 ∧ (∀ v3, v3 = w32 (a2.tdiv x3) → Wp (d + 1) (bc - mc1 - mc3) (bs - ms1 - ms3) mX10_product 6 [some (vr a0), some (vi a1), some (vi v3), none, none] [] m5 Q)) ∧ (x3 = 0 → Wp (d + 1) (bc - mc1 - mc3) (bs - ms1 - ms3) mX10_product 6 [some (vr a0), some (vi a1), some (vi 0), none, none] [] m5 Q)) ∧ (¬ (1 : Int) = 0 → ∀ v4, v4 = w32 (a2 * x3) → Wp (d + 1) (bc - mc1 - mc3) (bs - ms1 - ms3) mX10_product 6 [some (vr a0), some (vi a1), some (vi v4), none, none] [] m5 Q))))))) :
    Wp (d + 1) bc bs mX10_product 31 [some (vr a0), some (vi a1), some (vi a2), none, none] [] μ Q := by
  refine st_aload_n (pc := 31) dX10_product_31 rfl rfl ?_
  obtain ⟨hk1, h⟩ := h
  obtain ⟨mc1, ms1, K1, hC, e1, e2, h⟩ := h
  refine sg_VI (pc := 32) (av := []) (st := []) (K := K1) dX10_product_32 ck_10_213 rfl (by decide) hk1 (by show (0 : Nat) ≤ 8; decide) hC e1 e2 (fun x1 m1 hK => ?_) rfl
  replace h := h x1 m1 hK
  refine sg_bipush (pc := 35) dX10_product_35 (by omega) (by decide) ?_
  refine st_icmpne (pc := 37) (tgt := 44) dX10_product_37 rfl (fun c => ?_) (fun c => ?_)
  · replace h := h.1 c
    refine sg_iconst (pc := 44) dX10_product_44 (by omega) ?_
    refine sg_istore_n (pc := 45) (ls' := [some (vr a0), some (vi a1), some (vi a2), some (vi 0), none]) dX10_product_45 rfl (by show (3 : Nat) < 5; decide) rfl ?_
    refine st_aload_n (pc := 46) dX10_product_46 rfl rfl ?_
    refine st_dup (pc := 47) dX10_product_47 rfl ?_
    obtain ⟨hk2, h⟩ := h
    refine sg_gfI (pc := 48) (J := 20) dX10_product_48 fl_10_203 (by decide) rfl hk2 ?_
    refine sg_iconst (pc := 51) dX10_product_51 (by omega) ?_
    refine st_iadd (pc := 52) dX10_product_52 ?_
    refine sg_pfI (pc := 53) (J := 20) dX10_product_53 fl_10_203 rfl (Or.inl rfl) hk2 ?_
    refine Wp.nameM (fun m2 em2 => ?_)
    replace h := h m2 em2
    refine st_aload_n (pc := 56) dX10_product_56 rfl rfl ?_
    refine st_iload_n (pc := 57) dX10_product_57 rfl rfl ?_
    obtain ⟨mc2, ms2, K2, hC, e1, e2, h⟩ := h
    refine sg_VI (pc := 58) (av := [vi a1]) (st := []) (K := K2) dX10_product_58 ck_10_259 rfl (by decide) (by cases em2; exact hk2) (by show (0 : Nat) ≤ 8; decide) hC e1 e2 (fun x2 m3 hK => ?_) rfl
    replace h := h x2 m3 hK
    refine sg_istore (pc := 61) (ls' := [some (vr a0), some (vi a1), some (vi a2), some (vi 0), some (vi x2)]) dX10_product_61 (by show (4 : Nat) < 5; decide) rfl ?_
    refine st_iload_n (pc := 63) dX10_product_63 rfl rfl ?_
    refine st_ifeq (pc := 64) (tgt := 74) dX10_product_64 rfl (fun c => ?_) (fun c => ?_)
    · replace h := h.1 c
      refine st_iload (pc := 74) dX10_product_74 rfl ?_
      refine st_ifne (pc := 76) (tgt := 83) dX10_product_76 rfl (fun c => ?_) (fun c => ?_)
      · replace h := h.1 c
        refine st_iload_n (pc := 83) dX10_product_83 rfl rfl ?_
        refine st_iload (pc := 84) dX10_product_84 rfl ?_
        obtain ⟨h0, h⟩ := h
        refine st_idiv (pc := 86) dX10_product_86 h0 ?_
        refine sg_istore_n (pc := 87) (ls' := [some (vr a0), some (vi a1), some (vi (w32 (a2.tdiv x2))), some (vi 0), some (vi x2)]) dX10_product_87 rfl (by show (2 : Nat) < 5; decide) rfl ?_
        refine Wp.nameL (ls2 := fun v => [some (vr a0), some (vi a1), some (vi v), some (vi 0), some (vi x2)]) 2 _ rfl (fun _ => rfl) (fun v1 ev1 => ?_)
        replace h := h v1 ev1
        refine st_goto (pc := 88) dX10_product_88 rfl ?_
        refine Wp.drop 3 rfl ?_
        refine Wp.drop 4 rfl ?_
        exact h
      · replace h := h.2 c
        refine sg_iconst (pc := 79) dX10_product_79 (by omega) ?_
        refine st_goto (pc := 80) dX10_product_80 rfl ?_
        refine sg_istore_n (pc := 87) (ls' := [some (vr a0), some (vi a1), some (vi 0), some (vi 0), some (vi x2)]) dX10_product_87 rfl (by show (2 : Nat) < 5; decide) rfl ?_
        refine st_goto (pc := 88) dX10_product_88 rfl ?_
        refine Wp.drop 3 rfl ?_
        refine Wp.drop 4 rfl ?_
        exact h
    · replace h := h.2 c
      refine st_iload_n (pc := 67) dX10_product_67 rfl rfl ?_
      refine st_iload (pc := 68) dX10_product_68 rfl ?_
      refine st_imul (pc := 70) dX10_product_70 ?_
      refine st_goto (pc := 71) dX10_product_71 rfl ?_
      refine sg_istore_n (pc := 87) (ls' := [some (vr a0), some (vi a1), some (vi (w32 (a2 * x2))), some (vi 0), some (vi x2)]) dX10_product_87 rfl (by show (2 : Nat) < 5; decide) rfl ?_
      refine Wp.nameL (ls2 := fun v => [some (vr a0), some (vi a1), some (vi v), some (vi 0), some (vi x2)]) 2 _ rfl (fun _ => rfl) (fun v2 ev2 => ?_)
      replace h := h v2 ev2
      refine st_goto (pc := 88) dX10_product_88 rfl ?_
      refine Wp.drop 3 rfl ?_
      refine Wp.drop 4 rfl ?_
      exact h
  · replace h := h.2 c
    refine sg_iconst (pc := 40) dX10_product_40 (by omega) ?_
    refine st_goto (pc := 41) dX10_product_41 rfl ?_
    refine sg_istore_n (pc := 45) (ls' := [some (vr a0), some (vi a1), some (vi a2), some (vi 1), none]) dX10_product_45 rfl (by show (3 : Nat) < 5; decide) rfl ?_
    refine st_aload_n (pc := 46) dX10_product_46 rfl rfl ?_
    refine st_dup (pc := 47) dX10_product_47 rfl ?_
    obtain ⟨hk3, h⟩ := h
    refine sg_gfI (pc := 48) (J := 20) dX10_product_48 fl_10_203 (by decide) rfl hk3 ?_
    refine sg_iconst (pc := 51) dX10_product_51 (by omega) ?_
    refine st_iadd (pc := 52) dX10_product_52 ?_
    refine sg_pfI (pc := 53) (J := 20) dX10_product_53 fl_10_203 rfl (Or.inl rfl) hk3 ?_
    refine Wp.nameM (fun m4 em4 => ?_)
    replace h := h m4 em4
    refine st_aload_n (pc := 56) dX10_product_56 rfl rfl ?_
    refine st_iload_n (pc := 57) dX10_product_57 rfl rfl ?_
    obtain ⟨mc3, ms3, K3, hC, e1, e2, h⟩ := h
    refine sg_VI (pc := 58) (av := [vi a1]) (st := []) (K := K3) dX10_product_58 ck_10_259 rfl (by decide) (by cases em4; exact hk3) (by show (0 : Nat) ≤ 8; decide) hC e1 e2 (fun x3 m5 hK => ?_) rfl
    replace h := h x3 m5 hK
    refine sg_istore (pc := 61) (ls' := [some (vr a0), some (vi a1), some (vi a2), some (vi 1), some (vi x3)]) dX10_product_61 (by show (4 : Nat) < 5; decide) rfl ?_
    refine st_iload_n (pc := 63) dX10_product_63 rfl rfl ?_
    refine st_ifeq (pc := 64) (tgt := 74) dX10_product_64 rfl (fun c => ?_) (fun c => ?_)
    · replace h := h.1 c
      refine st_iload (pc := 74) dX10_product_74 rfl ?_
      refine st_ifne (pc := 76) (tgt := 83) dX10_product_76 rfl (fun c => ?_) (fun c => ?_)
      · replace h := h.1 c
        refine st_iload_n (pc := 83) dX10_product_83 rfl rfl ?_
        refine st_iload (pc := 84) dX10_product_84 rfl ?_
        obtain ⟨h0, h⟩ := h
        refine st_idiv (pc := 86) dX10_product_86 h0 ?_
        refine sg_istore_n (pc := 87) (ls' := [some (vr a0), some (vi a1), some (vi (w32 (a2.tdiv x3))), some (vi 1), some (vi x3)]) dX10_product_87 rfl (by show (2 : Nat) < 5; decide) rfl ?_
        refine Wp.nameL (ls2 := fun v => [some (vr a0), some (vi a1), some (vi v), some (vi 1), some (vi x3)]) 2 _ rfl (fun _ => rfl) (fun v3 ev3 => ?_)
        replace h := h v3 ev3
        refine st_goto (pc := 88) dX10_product_88 rfl ?_
        refine Wp.drop 3 rfl ?_
        refine Wp.drop 4 rfl ?_
        exact h
      · replace h := h.2 c
        refine sg_iconst (pc := 79) dX10_product_79 (by omega) ?_
        refine st_goto (pc := 80) dX10_product_80 rfl ?_
        refine sg_istore_n (pc := 87) (ls' := [some (vr a0), some (vi a1), some (vi 0), some (vi 1), some (vi x3)]) dX10_product_87 rfl (by show (2 : Nat) < 5; decide) rfl ?_
        refine st_goto (pc := 88) dX10_product_88 rfl ?_
        refine Wp.drop 3 rfl ?_
        refine Wp.drop 4 rfl ?_
        exact h
    · replace h := h.2 c
      refine st_iload_n (pc := 67) dX10_product_67 rfl rfl ?_
      refine st_iload (pc := 68) dX10_product_68 rfl ?_
      refine st_imul (pc := 70) dX10_product_70 ?_
      refine st_goto (pc := 71) dX10_product_71 rfl ?_
      refine sg_istore_n (pc := 87) (ls' := [some (vr a0), some (vi a1), some (vi (w32 (a2 * x3))), some (vi 1), some (vi x3)]) dX10_product_87 rfl (by show (2 : Nat) < 5; decide) rfl ?_
      refine Wp.nameL (ls2 := fun v => [some (vr a0), some (vi a1), some (vi v), some (vi 1), some (vi x3)]) 2 _ rfl (fun _ => rfl) (fun v4 ev4 => ?_)
      replace h := h v4 ev4
      refine st_goto (pc := 88) dX10_product_88 rfl ?_
      refine Wp.drop 3 rfl ?_
      refine Wp.drop 4 rfl ?_
      exact h

theorem sg_X10_sum_0 {d bc bs : Nat} {a0 : Nat} {a1 : Int} {μ : Mem} {Q : Option (Option AV) → Mem → Prop}
    (h : mK μ a0 = 11 ∧ ∃ (mc1 ms1 : Nat) (K1 : Int → Mem → Prop), Cl d mc1 ms1 mX10_product [vr a0, vi a1] μ (KI K1) ∧ mc1 ≤ bc ∧ ms1 ≤ bs ∧ (∀ x1 m1, K1 x1 m1 → Wp (d + 1) (bc - mc1) (bs - ms1) mX10_sum 6 [some (vr a0), some (vi a1), some (vi x1), none, none] [] m1 Q)) :
    Wp (d + 1) bc bs mX10_sum 0 [some (vr a0), some (vi a1), none, none, none] [] μ Q := by
  refine st_aload_n (pc := 0) dX10_sum_0 rfl rfl ?_
  refine st_iload_n (pc := 1) dX10_sum_1 rfl rfl ?_
  obtain ⟨hk1, h⟩ := h
  obtain ⟨mc1, ms1, K1, hC, e1, e2, h⟩ := h
  refine sg_VI (pc := 2) (av := [vi a1]) (st := []) (K := K1) dX10_sum_2 ck_10_256 rfl (by decide) hk1 (by show (0 : Nat) ≤ 8; decide) hC e1 e2 (fun x1 m1 hK => ?_) rfl
  replace h := h x1 m1 hK
  refine sg_istore_n (pc := 5) (ls' := [some (vr a0), some (vi a1), some (vi x1), none, none]) dX10_sum_5 rfl (by show (2 : Nat) < 5; decide) rfl ?_
  exact h

theorem sg_X10_sum_6 {d bc bs : Nat} {a0 : Nat} {a1 : Int} {a2 : Int} {μ : Mem} {Q : Option (Option AV) → Mem → Prop}
    (h : mK μ a0 = 11 ∧ ∃ (mc1 ms1 : Nat) (K1 : Int → Mem → Prop), Cl d mc1 ms1 mX10_fine [vr a0] μ (KI K1) ∧ mc1 ≤ bc ∧ ms1 ≤ bs ∧ (∀ x1 m1, K1 x1 m1 → (x1 = 0 → Q (some (some (vi a2))) m1) ∧ (¬ x1 = 0 → mK m1 a0 = 11 ∧ ∃ (mc2 ms2 : Nat) (K2 : Int → Mem → Prop), Cl d mc2 ms2 mX10_here [vr a0] m1 (KI K2) ∧ mc2 ≤ bc - mc1 ∧ ms2 ≤ bs - ms1 ∧ (∀ x2 m2, K2 x2 m2 → (x2 = 43 → Wp (d + 1) (bc - mc1 - mc2) (bs - ms1 - ms2) mX10_sum 31 [some (vr a0), some (vi a1), some (vi a2), none, none] [] m2 Q) ∧ (¬ x2 = 43 → mK m2 a0 = 11 ∧ ∃ (mc3 ms3 : Nat) (K3 : Int → Mem → Prop), Cl d mc3 ms3 mX10_here [vr a0] m2 (KI K3) ∧ mc3 ≤ bc - mc1 - mc2 ∧ ms3 ≤ bs - ms1 - ms2 ∧ (∀ x3 m3, K3 x3 m3 → (¬ x3 = 45 → Q (some (some (vi a2))) m3) ∧ (x3 = 45 → Wp (d + 1) (bc - mc1 - mc2 - mc3) (bs - ms1 - ms2 - ms3) mX10_sum 31 [some (vr a0), some (vi a1), some (vi a2), none, none] [] m3 Q))))))) :
    Wp (d + 1) bc bs mX10_sum 6 [some (vr a0), some (vi a1), some (vi a2), none, none] [] μ Q := by
  refine st_aload_n (pc := 6) dX10_sum_6 rfl rfl ?_
  obtain ⟨hk1, h⟩ := h
  obtain ⟨mc1, ms1, K1, hC, e1, e2, h⟩ := h
  refine sg_VI (pc := 7) (av := []) (st := []) (K := K1) dX10_sum_7 ck_10_209 rfl (by decide) hk1 (by show (0 : Nat) ≤ 8; decide) hC e1 e2 (fun x1 m1 hK => ?_) rfl
  replace h := h x1 m1 hK
  refine st_ifeq (pc := 10) (tgt := 82) dX10_sum_10 rfl (fun c => ?_) (fun c => ?_)
  · replace h := h.1 c
    refine st_iload_n (pc := 82) dX10_sum_82 rfl rfl ?_
    exact st_ireturn (pc := 83) dX10_sum_83 (Or.inl rfl) h
  · replace h := h.2 c
    refine st_aload_n (pc := 13) dX10_sum_13 rfl rfl ?_
    obtain ⟨hk2, h⟩ := h
    obtain ⟨mc2, ms2, K2, hC, e1, e2, h⟩ := h
    refine sg_VI (pc := 14) (av := []) (st := []) (K := K2) dX10_sum_14 ck_10_213 rfl (by decide) hk2 (by show (0 : Nat) ≤ 8; decide) hC e1 e2 (fun x2 m2 hK => ?_) rfl
    replace h := h x2 m2 hK
    refine sg_bipush (pc := 17) dX10_sum_17 (by omega) (by decide) ?_
    refine st_icmpeq (pc := 19) (tgt := 31) dX10_sum_19 rfl (fun c => ?_) (fun c => ?_)
    · replace h := h.1 c
      exact h
    · replace h := h.2 c
      refine st_aload_n (pc := 22) dX10_sum_22 rfl rfl ?_
      obtain ⟨hk3, h⟩ := h
      obtain ⟨mc3, ms3, K3, hC, e1, e2, h⟩ := h
      refine sg_VI (pc := 23) (av := []) (st := []) (K := K3) dX10_sum_23 ck_10_213 rfl (by decide) hk3 (by show (0 : Nat) ≤ 8; decide) hC e1 e2 (fun x3 m3 hK => ?_) rfl
      replace h := h x3 m3 hK
      refine sg_bipush (pc := 26) dX10_sum_26 (by omega) (by decide) ?_
      refine st_icmpne (pc := 28) (tgt := 82) dX10_sum_28 rfl (fun c => ?_) (fun c => ?_)
      · replace h := h.1 c
        refine st_iload_n (pc := 82) dX10_sum_82 rfl rfl ?_
        exact st_ireturn (pc := 83) dX10_sum_83 (Or.inl rfl) h
      · replace h := h.2 c
        exact h

theorem sg_X10_sum_31 {d bc bs : Nat} {a0 : Nat} {a1 : Int} {a2 : Int} {μ : Mem} {Q : Option (Option AV) → Mem → Prop}
    (h : mK μ a0 = 11 ∧ ∃ (mc1 ms1 : Nat) (K1 : Int → Mem → Prop), Cl d mc1 ms1 mX10_here [vr a0] μ (KI K1) ∧ mc1 ≤ bc ∧ ms1 ≤ bs ∧ (∀ x1 m1, K1 x1 m1 → (¬ x1 = 43 → mK m1 a0 = 11 ∧ ((∀ m2, m2 = sD m1 a0 20 (w32 ((mD m1 a0 20) + 1)) → ∃ (mc2 ms2 : Nat) (K2 : Int → Mem → Prop), Cl d mc2 ms2 mX10_product [vr a0, vi a1] m2 (KI K2) ∧ mc2 ≤ bc - mc1 ∧ ms2 ≤ bs - ms1 ∧ (∀ x2 m3, K2 x2 m3 → ((0 : Int) = 0 → ∀ v1, v1 = w32 (a2 - x2) → Wp (d + 1) (bc - mc1 - mc2) (bs - ms1 - ms2) mX10_sum 6 [some (vr a0), some (vi a1), some (vi v1), none, none] [] m3 Q) ∧ (¬ (0 : Int) = 0 → ∀ v2, v2 = w32 (a2 + x2) → Wp (d + 1) (bc - mc1 - mc2) (bs - ms1 - ms2) mX10_sum 6 [some (vr a0), some (vi a1), some (vi v2), none, none] [] m3 Q))))) ∧ (x1 = 43 → mK m1 a0 = 11 ∧ ((∀ m4, m4 = sD m1 a0 20 (w32 ((mD m1 a0 20) + 1)) → ∃ (mc3 ms3 : Nat) (K3 : Int → Mem → Prop), Cl d mc3 ms3 mX10_product [vr a0, vi a1] m4 (KI K3) ∧ mc3 ≤ bc - mc1 ∧ ms3 ≤ bs - ms1 ∧ (∀ x3 m5, K3 x3 m5 → ((1 : Int) = 0 → ∀ v3, v3 = w32 (a2 - x3) → Wp (d + 1) (bc - mc1 - mc3) (bs - ms1 - ms3) mX10_sum 6 [some (vr a0), some (vi a1), some (vi v3), none, none] [] m5 Q) ∧ (¬ (1 : Int) = 0 → ∀ v4, v4 = w32 (a2 + x3) → Wp (d + 1) (bc - mc1 - mc3) (bs - ms1 - ms3) mX10_sum 6 [some (vr a0), some (vi a1), some (vi v4), none, none] [] m5 Q))))))) :
    Wp (d + 1) bc bs mX10_sum 31 [some (vr a0), some (vi a1), some (vi a2), none, none] [] μ Q := by
  refine st_aload_n (pc := 31) dX10_sum_31 rfl rfl ?_
  obtain ⟨hk1, h⟩ := h
  obtain ⟨mc1, ms1, K1, hC, e1, e2, h⟩ := h
  refine sg_VI (pc := 32) (av := []) (st := []) (K := K1) dX10_sum_32 ck_10_213 rfl (by decide) hk1 (by show (0 : Nat) ≤ 8; decide) hC e1 e2 (fun x1 m1 hK => ?_) rfl
  replace h := h x1 m1 hK
  refine sg_bipush (pc := 35) dX10_sum_35 (by omega) (by decide) ?_
  refine st_icmpne (pc := 37) (tgt := 44) dX10_sum_37 rfl (fun c => ?_) (fun c => ?_)
  · replace h := h.1 c
    refine sg_iconst (pc := 44) dX10_sum_44 (by omega) ?_
    refine sg_istore_n (pc := 45) (ls' := [some (vr a0), some (vi a1), some (vi a2), some (vi 0), none]) dX10_sum_45 rfl (by show (3 : Nat) < 5; decide) rfl ?_
    refine st_aload_n (pc := 46) dX10_sum_46 rfl rfl ?_
    refine st_dup (pc := 47) dX10_sum_47 rfl ?_
    obtain ⟨hk2, h⟩ := h
    refine sg_gfI (pc := 48) (J := 20) dX10_sum_48 fl_10_203 (by decide) rfl hk2 ?_
    refine sg_iconst (pc := 51) dX10_sum_51 (by omega) ?_
    refine st_iadd (pc := 52) dX10_sum_52 ?_
    refine sg_pfI (pc := 53) (J := 20) dX10_sum_53 fl_10_203 rfl (Or.inl rfl) hk2 ?_
    refine Wp.nameM (fun m2 em2 => ?_)
    replace h := h m2 em2
    refine st_aload_n (pc := 56) dX10_sum_56 rfl rfl ?_
    refine st_iload_n (pc := 57) dX10_sum_57 rfl rfl ?_
    obtain ⟨mc2, ms2, K2, hC, e1, e2, h⟩ := h
    refine sg_VI (pc := 58) (av := [vi a1]) (st := []) (K := K2) dX10_sum_58 ck_10_256 rfl (by decide) (by cases em2; exact hk2) (by show (0 : Nat) ≤ 8; decide) hC e1 e2 (fun x2 m3 hK => ?_) rfl
    replace h := h x2 m3 hK
    refine sg_istore (pc := 61) (ls' := [some (vr a0), some (vi a1), some (vi a2), some (vi 0), some (vi x2)]) dX10_sum_61 (by show (4 : Nat) < 5; decide) rfl ?_
    refine st_iload_n (pc := 63) dX10_sum_63 rfl rfl ?_
    refine st_ifeq (pc := 64) (tgt := 74) dX10_sum_64 rfl (fun c => ?_) (fun c => ?_)
    · replace h := h.1 c
      refine st_iload_n (pc := 74) dX10_sum_74 rfl rfl ?_
      refine st_iload (pc := 75) dX10_sum_75 rfl ?_
      refine st_isub (pc := 77) dX10_sum_77 ?_
      refine sg_istore_n (pc := 78) (ls' := [some (vr a0), some (vi a1), some (vi (w32 (a2 - x2))), some (vi 0), some (vi x2)]) dX10_sum_78 rfl (by show (2 : Nat) < 5; decide) rfl ?_
      refine Wp.nameL (ls2 := fun v => [some (vr a0), some (vi a1), some (vi v), some (vi 0), some (vi x2)]) 2 _ rfl (fun _ => rfl) (fun v1 ev1 => ?_)
      replace h := h v1 ev1
      refine st_goto (pc := 79) dX10_sum_79 rfl ?_
      refine Wp.drop 3 rfl ?_
      refine Wp.drop 4 rfl ?_
      exact h
    · replace h := h.2 c
      refine st_iload_n (pc := 67) dX10_sum_67 rfl rfl ?_
      refine st_iload (pc := 68) dX10_sum_68 rfl ?_
      refine st_iadd (pc := 70) dX10_sum_70 ?_
      refine st_goto (pc := 71) dX10_sum_71 rfl ?_
      refine sg_istore_n (pc := 78) (ls' := [some (vr a0), some (vi a1), some (vi (w32 (a2 + x2))), some (vi 0), some (vi x2)]) dX10_sum_78 rfl (by show (2 : Nat) < 5; decide) rfl ?_
      refine Wp.nameL (ls2 := fun v => [some (vr a0), some (vi a1), some (vi v), some (vi 0), some (vi x2)]) 2 _ rfl (fun _ => rfl) (fun v2 ev2 => ?_)
      replace h := h v2 ev2
      refine st_goto (pc := 79) dX10_sum_79 rfl ?_
      refine Wp.drop 3 rfl ?_
      refine Wp.drop 4 rfl ?_
      exact h
  · replace h := h.2 c
    refine sg_iconst (pc := 40) dX10_sum_40 (by omega) ?_
    refine st_goto (pc := 41) dX10_sum_41 rfl ?_
    refine sg_istore_n (pc := 45) (ls' := [some (vr a0), some (vi a1), some (vi a2), some (vi 1), none]) dX10_sum_45 rfl (by show (3 : Nat) < 5; decide) rfl ?_
    refine st_aload_n (pc := 46) dX10_sum_46 rfl rfl ?_
    refine st_dup (pc := 47) dX10_sum_47 rfl ?_
    obtain ⟨hk3, h⟩ := h
    refine sg_gfI (pc := 48) (J := 20) dX10_sum_48 fl_10_203 (by decide) rfl hk3 ?_
    refine sg_iconst (pc := 51) dX10_sum_51 (by omega) ?_
    refine st_iadd (pc := 52) dX10_sum_52 ?_
    refine sg_pfI (pc := 53) (J := 20) dX10_sum_53 fl_10_203 rfl (Or.inl rfl) hk3 ?_
    refine Wp.nameM (fun m4 em4 => ?_)
    replace h := h m4 em4
    refine st_aload_n (pc := 56) dX10_sum_56 rfl rfl ?_
    refine st_iload_n (pc := 57) dX10_sum_57 rfl rfl ?_
    obtain ⟨mc3, ms3, K3, hC, e1, e2, h⟩ := h
    refine sg_VI (pc := 58) (av := [vi a1]) (st := []) (K := K3) dX10_sum_58 ck_10_256 rfl (by decide) (by cases em4; exact hk3) (by show (0 : Nat) ≤ 8; decide) hC e1 e2 (fun x3 m5 hK => ?_) rfl
    replace h := h x3 m5 hK
    refine sg_istore (pc := 61) (ls' := [some (vr a0), some (vi a1), some (vi a2), some (vi 1), some (vi x3)]) dX10_sum_61 (by show (4 : Nat) < 5; decide) rfl ?_
    refine st_iload_n (pc := 63) dX10_sum_63 rfl rfl ?_
    refine st_ifeq (pc := 64) (tgt := 74) dX10_sum_64 rfl (fun c => ?_) (fun c => ?_)
    · replace h := h.1 c
      refine st_iload_n (pc := 74) dX10_sum_74 rfl rfl ?_
      refine st_iload (pc := 75) dX10_sum_75 rfl ?_
      refine st_isub (pc := 77) dX10_sum_77 ?_
      refine sg_istore_n (pc := 78) (ls' := [some (vr a0), some (vi a1), some (vi (w32 (a2 - x3))), some (vi 1), some (vi x3)]) dX10_sum_78 rfl (by show (2 : Nat) < 5; decide) rfl ?_
      refine Wp.nameL (ls2 := fun v => [some (vr a0), some (vi a1), some (vi v), some (vi 1), some (vi x3)]) 2 _ rfl (fun _ => rfl) (fun v3 ev3 => ?_)
      replace h := h v3 ev3
      refine st_goto (pc := 79) dX10_sum_79 rfl ?_
      refine Wp.drop 3 rfl ?_
      refine Wp.drop 4 rfl ?_
      exact h
    · replace h := h.2 c
      refine st_iload_n (pc := 67) dX10_sum_67 rfl rfl ?_
      refine st_iload (pc := 68) dX10_sum_68 rfl ?_
      refine st_iadd (pc := 70) dX10_sum_70 ?_
      refine st_goto (pc := 71) dX10_sum_71 rfl ?_
      refine sg_istore_n (pc := 78) (ls' := [some (vr a0), some (vi a1), some (vi (w32 (a2 + x3))), some (vi 1), some (vi x3)]) dX10_sum_78 rfl (by show (2 : Nat) < 5; decide) rfl ?_
      refine Wp.nameL (ls2 := fun v => [some (vr a0), some (vi a1), some (vi v), some (vi 1), some (vi x3)]) 2 _ rfl (fun _ => rfl) (fun v4 ev4 => ?_)
      replace h := h v4 ev4
      refine st_goto (pc := 79) dX10_sum_79 rfl ?_
      refine Wp.drop 3 rfl ?_
      refine Wp.drop 4 rfl ?_
      exact h

