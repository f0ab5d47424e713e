/-! ===== by program (wip/whole/gen_seg.py): stretches of methods ===== -/
theorem sg_X10_begin_0 {d bc bs : Nat} {a0 : Nat} {μ : Mem} {Q : Option (Option AV) → Mem → Prop}
    (h : mK μ a0 = 11 ∧ (∀ m1, m1 = sD μ a0 5 0 → Wp d bc bs mX10_begin 7 [some (vr a0), some (vi 0)] [] m1 Q)) :
    Wp d bc bs mX10_begin 0 [some (vr a0), none] [] μ Q := by
  refine st_aload_n (pc := 0) dX10_begin_0 rfl rfl ?_
  refine sg_iconst (pc := 1) dX10_begin_1 (by omega) ?_
  obtain ⟨hk1, h⟩ := h
  refine sg_pfI (pc := 2) (J := 5) dX10_begin_2 fl_10_148 rfl (Or.inl rfl) hk1 ?_
  refine Wp.nameM (fun m1 em1 => ?_)
  replace h := h m1 em1
  refine sg_iconst (pc := 5) dX10_begin_5 (by omega) ?_
  refine sg_istore_n (pc := 6) (ls' := [some (vr a0), some (vi 0)]) dX10_begin_6 rfl (by show (1 : Nat) < 2; decide) rfl ?_
  exact h

theorem sg_X10_begin_7 {d bc bs : Nat} {a0 : Nat} {a1 : Int} {μ : Mem} {Q : Option (Option AV) → Mem → Prop}
    (h : (40 ≤ a1 → mK μ a0 = 11 ∧ (mK μ (mR μ a0 8) = 20 ∧ ((0 : Int) ≤ 0 ∧ 0 < (mN μ (mR μ a0 8) : Int)) ∧ (∀ m1, m1 = sD μ (mR μ a0 8) 0 0 → ((0 : Int) ≤ 1 ∧ 1 < (mN m1 (mR m1 a0 8) : Int)) ∧ (∀ m2, m2 = sD m1 (mR m1 a0 8) 1 0 → Q (some none) m2)))) ∧ (¬ 40 ≤ a1 → mK μ a0 = 11 ∧ (mK μ (mR μ a0 6) = 20 ∧ ((0 : Int) ≤ a1 ∧ a1 < (mN μ (mR μ a0 6) : Int)) ∧ (∀ m3, m3 = sD μ (mR μ a0 6) a1 (mD μ a0 2) → mK m3 (mR m3 a0 7) = 20 ∧ ((0 : Int) ≤ a1 ∧ a1 < (mN m3 (mR m3 a0 7) : Int)) ∧ (∀ m4, m4 = sD m3 (mR m3 a0 7) a1 0 → ∀ v1, v1 = w32 (a1 + 1) → Wp d bc bs mX10_begin 7 [some (vr a0), some (vi v1)] [] m4 Q))))) :
    Wp d bc bs mX10_begin 7 [some (vr a0), some (vi a1)] [] μ Q := by
  refine st_iload_n (pc := 7) dX10_begin_7 rfl rfl ?_
  refine sg_bipush (pc := 8) dX10_begin_8 (by omega) (by decide) ?_
  refine st_icmpge (pc := 10) (tgt := 36) dX10_begin_10 rfl (fun c => ?_) (fun c => ?_)
  · replace h := h.1 c
    refine st_aload_n (pc := 36) dX10_begin_36 rfl rfl ?_
    obtain ⟨hk1, h⟩ := h
    refine sg_gfR (pc := 37) (J := 8) dX10_begin_37 fl_10_32 rfl hk1 ?_
    refine sg_iconst (pc := 40) dX10_begin_40 (by omega) ?_
    refine sg_iconst (pc := 41) dX10_begin_41 (by omega) ?_
    obtain ⟨hk2, h⟩ := h
    obtain ⟨h1, h⟩ := h
    refine st_iastore (pc := 42) dX10_begin_42 hk2 h1.1 h1.2 ?_
    refine Wp.nameM (fun m1 em1 => ?_)
    replace h := h m1 em1
    refine st_aload_n (pc := 43) dX10_begin_43 rfl rfl ?_
    refine sg_gfR (pc := 44) (J := 8) dX10_begin_44 fl_10_32 rfl (by cases em1; exact hk1) ?_
    refine sg_iconst (pc := 47) dX10_begin_47 (by omega) ?_
    refine sg_iconst (pc := 48) dX10_begin_48 (by omega) ?_
    obtain ⟨h1, h⟩ := h
    refine st_iastore (pc := 49) dX10_begin_49 (by cases em1; exact hk2) h1.1 h1.2 ?_
    refine Wp.nameM (fun m2 em2 => ?_)
    replace h := h m2 em2
    exact st_return (pc := 50) dX10_begin_50 rfl h
  · replace h := h.2 c
    refine st_aload_n (pc := 13) dX10_begin_13 rfl rfl ?_
    obtain ⟨hk3, h⟩ := h
    refine sg_gfR (pc := 14) (J := 6) dX10_begin_14 fl_10_26 rfl hk3 ?_
    refine st_iload_n (pc := 17) dX10_begin_17 rfl rfl ?_
    refine st_aload_n (pc := 18) dX10_begin_18 rfl rfl ?_
    refine sg_gfI (pc := 19) (J := 2) dX10_begin_19 fl_10_16 (by decide) rfl hk3 ?_
    obtain ⟨hk4, h⟩ := h
    obtain ⟨h1, h⟩ := h
    refine st_iastore (pc := 22) dX10_begin_22 hk4 h1.1 h1.2 ?_
    refine Wp.nameM (fun m3 em3 => ?_)
    replace h := h m3 em3
    refine st_aload_n (pc := 23) dX10_begin_23 rfl rfl ?_
    refine sg_gfR (pc := 24) (J := 7) dX10_begin_24 fl_10_29 rfl (by cases em3; exact hk3) ?_
    refine st_iload_n (pc := 27) dX10_begin_27 rfl rfl ?_
    refine sg_iconst (pc := 28) dX10_begin_28 (by omega) ?_
    obtain ⟨hk5, h⟩ := h
    obtain ⟨h1, h⟩ := h
    refine st_iastore (pc := 29) dX10_begin_29 hk5 h1.1 h1.2 ?_
    refine Wp.nameM (fun m4 em4 => ?_)
    replace h := h m4 em4
    refine sg_iinc (pc := 30) (ls' := [some (vr a0), some (vi (w32 (a1 + 1)))]) dX10_begin_30 rfl rfl ?_
    refine Wp.nameL (ls2 := fun v => [some (vr a0), some (vi v)]) 1 _ rfl (fun _ => rfl) (fun v1 ev1 => ?_)
    replace h := h v1 ev1
    refine st_goto (pc := 33) dX10_begin_33 rfl ?_
    exact h

theorem sg_X10_thrown_0 {d bc bs : Nat} {a0 : Nat} {μ : Mem} {Q : Option (Option AV) → Mem → Prop}
    (h : mK μ a0 = 11 ∧ (Q (some (some (vi (mD μ a0 15)))) μ)) :
    Wp d bc bs mX10_thrown 0 [some (vr a0)] [] μ Q := by
  refine st_aload_n (pc := 0) dX10_thrown_0 rfl rfl ?_
  obtain ⟨hk1, h⟩ := h
  refine sg_gfI (pc := 1) (J := 15) dX10_thrown_1 fl_10_142 (by decide) rfl hk1 ?_
  exact st_ireturn (pc := 4) dX10_thrown_4 (Or.inl rfl) h

theorem sg_X10_in_0 {d bc bs : Nat} {a0 : Int} {a1 : Int} {a2 : Int} {μ : Mem} {Q : Option (Option AV) → Mem → Prop}
    (h : (a0 < a1 → Q (some (some (vi 0))) μ) ∧ (¬ a0 < a1 → (a2 < a0 → Q (some (some (vi 0))) μ) ∧ (¬ a2 < a0 → Q (some (some (vi 1))) μ))) :
    Wp d bc bs mX10_in 0 [some (vi a0), some (vi a1), some (vi a2)] [] μ Q := by
  refine st_iload_n (pc := 0) dX10_in_0 rfl rfl ?_
  refine st_iload_n (pc := 1) dX10_in_1 rfl rfl ?_
  refine st_icmplt (pc := 2) (tgt := 14) dX10_in_2 rfl (fun c => ?_) (fun c => ?_)
  · replace h := h.1 c
    refine sg_iconst (pc := 14) dX10_in_14 (by omega) ?_
    exact st_ireturn (pc := 15) dX10_in_15 (Or.inr ⟨rfl, by omega⟩) h
  · replace h := h.2 c
    refine st_iload_n (pc := 5) dX10_in_5 rfl rfl ?_
    refine st_iload_n (pc := 6) dX10_in_6 rfl rfl ?_
    refine st_icmpgt (pc := 7) (tgt := 14) dX10_in_7 rfl (fun c => ?_) (fun c => ?_)
    · replace h := h.1 c
      refine sg_iconst (pc := 14) dX10_in_14 (by omega) ?_
      exact st_ireturn (pc := 15) dX10_in_15 (Or.inr ⟨rfl, by omega⟩) h
    · replace h := h.2 c
      refine sg_iconst (pc := 10) dX10_in_10 (by omega) ?_
      refine st_goto (pc := 11) dX10_in_11 rfl ?_
      exact st_ireturn (pc := 15) dX10_in_15 (Or.inr ⟨rfl, by omega⟩) h

theorem sg_X10_lost_0 {d bc bs : Nat} {a0 : Nat} {μ : Mem} {Q : Option (Option AV) → Mem → Prop}
    (h : mK μ a0 = 11 ∧ (∀ m1, m1 = sD μ a0 15 1 → Q (some (some (vi 0))) m1)) :
    Wp d bc bs mX10_lost 0 [some (vr a0)] [] μ Q := by
  refine st_aload_n (pc := 0) dX10_lost_0 rfl rfl ?_
  refine sg_iconst (pc := 1) dX10_lost_1 (by omega) ?_
  obtain ⟨hk1, h⟩ := h
  refine sg_pfI (pc := 2) (J := 15) dX10_lost_2 fl_10_142 rfl (Or.inl rfl) hk1 ?_
  refine Wp.nameM (fun m1 em1 => ?_)
  replace h := h m1 em1
  refine sg_iconst (pc := 5) dX10_lost_5 (by omega) ?_
  exact st_ireturn (pc := 6) dX10_lost_6 (Or.inl rfl) h

theorem sg_X10_tell_0 {d bc bs : Nat} {a0 : Nat} {a1 : Int} {μ : Mem} {Q : Option (Option AV) → Mem → Prop}
    (h : mK μ a0 = 11 ∧ (mK μ (mR μ a0 13) = 21 ∧ ((0 : Int) ≤ (mD μ a0 14) ∧ (mD μ a0 14) < (mN μ (mR μ a0 13) : Int)) ∧ (∀ m1, m1 = sD μ (mR μ a0 13) (mD μ a0 14) a1 → (∀ m2, m2 = sD m1 a0 14 (w32 ((mD m1 a0 14) + 1)) → Q (some none) m2)))) :
    Wp d bc bs mX10_tell 0 [some (vr a0), some (vl a1), none] [] μ Q := by
  refine st_aload_n (pc := 0) dX10_tell_0 rfl rfl ?_
  obtain ⟨hk1, h⟩ := h
  refine sg_gfR (pc := 1) (J := 13) dX10_tell_1 fl_10_45 rfl hk1 ?_
  refine st_aload_n (pc := 4) dX10_tell_4 rfl rfl ?_
  refine sg_gfI (pc := 5) (J := 14) dX10_tell_5 fl_10_145 (by decide) rfl hk1 ?_
  refine st_lload_n (pc := 8) dX10_tell_8 rfl rfl ?_
  obtain ⟨hk2, h⟩ := h
  obtain ⟨h1, h⟩ := h
  refine st_lastore (pc := 9) dX10_tell_9 hk2 h1.1 h1.2 ?_
  refine Wp.nameM (fun m1 em1 => ?_)
  replace h := h m1 em1
  refine st_aload_n (pc := 10) dX10_tell_10 rfl rfl ?_
  refine st_dup (pc := 11) dX10_tell_11 rfl ?_
  refine sg_gfI (pc := 12) (J := 14) dX10_tell_12 fl_10_145 (by decide) rfl (by cases em1; exact hk1) ?_
  refine sg_iconst (pc := 15) dX10_tell_15 (by omega) ?_
  refine st_iadd (pc := 16) dX10_tell_16 ?_
  refine sg_pfI (pc := 17) (J := 14) dX10_tell_17 fl_10_145 rfl (Or.inl rfl) (by cases em1; exact hk1) ?_
  refine Wp.nameM (fun m2 em2 => ?_)
  replace h := h m2 em2
  exact st_return (pc := 20) dX10_tell_20 rfl h

theorem sg_X10_cup_0 {d bc bs : Nat} {a0 : Nat} {a1 : Int} {a2 : Int} {a3 : Int} {μ : Mem} {Q : Option (Option AV) → Mem → Prop}
    (h : mK μ a0 = 11 ∧ (∀ m1, m1 = sD μ a0 15 0 → ∃ (mc1 ms1 : Nat) (K1 : Int → Mem → Prop), Cl d mc1 ms1 mX10_in [vi a1, vi 2, vi 20] m1 (KI K1) ∧ mc1 ≤ bc ∧ ms1 ≤ bs ∧ (∀ x1 m2, K1 x1 m2 → (x1 = 0 → Q (some (some (vi 0))) m2) ∧ (¬ x1 = 0 → ∃ (mc2 ms2 : Nat) (K2 : Int → Mem → Prop), Cl d mc2 ms2 mX10_in [vi a2, vi 1, vi 999] m2 (KI K2) ∧ mc2 ≤ bc - mc1 ∧ ms2 ≤ bs - ms1 ∧ (∀ x2 m3, K2 x2 m3 → (x2 = 0 → Q (some (some (vi 0))) m3) ∧ (¬ x2 = 0 → ∃ (mc3 ms3 : Nat) (K3 : Int → Mem → Prop), Cl d mc3 ms3 mX10_in [vi a3, vi 0, vi a2] m3 (KI K3) ∧ mc3 ≤ bc - mc1 - mc2 ∧ ms3 ≤ bs - ms1 - ms2 ∧ (∀ x3 m4, K3 x3 m4 → (¬ x3 = 0 → mK m4 a0 = 11 ∧ (∀ m5, m5 = sD m4 a0 0 a1 → (∀ m6, m6 = sD m5 a0 1 a2 → (∀ m7, m7 = sD m6 a0 2 a3 → Wp (d + 1) (bc - mc1 - mc2 - mc3) (bs - ms1 - ms2 - ms3) mX10_cup 55 [some (vr a0), some (vi a1), some (vi a2), some (vi a3), some (vi 0)] [] m7 Q)))) ∧ (x3 = 0 → Q (some (some (vi 0))) m4)))))))) :
    Wp (d + 1) bc bs mX10_cup 0 [some (vr a0), some (vi a1), some (vi a2), some (vi a3), none] [] μ Q := by
  refine st_aload_n (pc := 0) dX10_cup_0 rfl rfl ?_
  refine sg_iconst (pc := 1) dX10_cup_1 (by omega) ?_
  obtain ⟨hk1, h⟩ := h
  refine sg_pfI (pc := 2) (J := 15) dX10_cup_2 fl_10_142 rfl (Or.inl rfl) hk1 ?_
  refine Wp.nameM (fun m1 em1 => ?_)
  replace h := h m1 em1
  refine st_iload_n (pc := 5) dX10_cup_5 rfl rfl ?_
  refine sg_iconst (pc := 6) dX10_cup_6 (by omega) ?_
  refine sg_bipush (pc := 7) dX10_cup_7 (by omega) (by decide) ?_
  obtain ⟨mc1, ms1, K1, hC, e1, e2, h⟩ := h
  refine sg_SI (pc := 9) (av := [vi a1, vi 2, vi 20]) (st := []) (K := K1) dX10_cup_9 ck_10_151 rfl (by show (0 : Nat) ≤ 8; decide) hC e1 e2 (fun x1 m2 hK => ?_) rfl
  replace h := h x1 m2 hK
  refine st_ifeq (pc := 12) (tgt := 35) dX10_cup_12 rfl (fun c => ?_) (fun c => ?_)
  · replace h := h.1 c
    refine sg_iconst (pc := 35) dX10_cup_35 (by omega) ?_
    exact st_ireturn (pc := 36) dX10_cup_36 (Or.inr ⟨rfl, by omega⟩) h
  · replace h := h.2 c
    refine st_iload_n (pc := 15) dX10_cup_15 rfl rfl ?_
    refine sg_iconst (pc := 16) dX10_cup_16 (by omega) ?_
    refine sg_sipush (pc := 17) dX10_cup_17 (by omega) (by decide) ?_
    obtain ⟨mc2, ms2, K2, hC, e1, e2, h⟩ := h
    refine sg_SI (pc := 20) (av := [vi a2, vi 1, vi 999]) (st := []) (K := K2) dX10_cup_20 ck_10_151 rfl (by show (0 : Nat) ≤ 8; decide) hC e1 e2 (fun x2 m3 hK => ?_) rfl
    replace h := h x2 m3 hK
    refine st_ifeq (pc := 23) (tgt := 35) dX10_cup_23 rfl (fun c => ?_) (fun c => ?_)
    · replace h := h.1 c
      refine sg_iconst (pc := 35) dX10_cup_35 (by omega) ?_
      exact st_ireturn (pc := 36) dX10_cup_36 (Or.inr ⟨rfl, by omega⟩) h
    · replace h := h.2 c
      refine st_iload_n (pc := 26) dX10_cup_26 rfl rfl ?_
      refine sg_iconst (pc := 27) dX10_cup_27 (by omega) ?_
      refine st_iload_n (pc := 28) dX10_cup_28 rfl rfl ?_
      obtain ⟨mc3, ms3, K3, hC, e1, e2, h⟩ := h
      refine sg_SI (pc := 29) (av := [vi a3, vi 0, vi a2]) (st := []) (K := K3) dX10_cup_29 ck_10_151 rfl (by show (0 : Nat) ≤ 8; decide) hC e1 e2 (fun x3 m4 hK => ?_) rfl
      replace h := h x3 m4 hK
      refine st_ifne (pc := 32) (tgt := 37) dX10_cup_32 rfl (fun c => ?_) (fun c => ?_)
      · replace h := h.1 c
        refine st_aload_n (pc := 37) dX10_cup_37 rfl rfl ?_
        refine st_iload_n (pc := 38) dX10_cup_38 rfl rfl ?_
        obtain ⟨hk2, h⟩ := h
        refine sg_pfI (pc := 39) (J := 0) dX10_cup_39 fl_10_9 rfl (Or.inl rfl) hk2 ?_
        refine Wp.nameM (fun m5 em5 => ?_)
        replace h := h m5 em5
        refine st_aload_n (pc := 42) dX10_cup_42 rfl rfl ?_
        refine st_iload_n (pc := 43) dX10_cup_43 rfl rfl ?_
        refine sg_pfI (pc := 44) (J := 1) dX10_cup_44 fl_10_13 rfl (Or.inl rfl) (by cases em5; exact hk2) ?_
        refine Wp.nameM (fun m6 em6 => ?_)
        replace h := h m6 em6
        refine st_aload_n (pc := 47) dX10_cup_47 rfl rfl ?_
        refine st_iload_n (pc := 48) dX10_cup_48 rfl rfl ?_
        refine sg_pfI (pc := 49) (J := 2) dX10_cup_49 fl_10_16 rfl (Or.inl rfl) (by cases em6; cases em5; exact hk2) ?_
        refine Wp.nameM (fun m7 em7 => ?_)
        replace h := h m7 em7
        refine sg_iconst (pc := 52) dX10_cup_52 (by omega) ?_
        refine sg_istore (pc := 53) (ls' := [some (vr a0), some (vi a1), some (vi a2), some (vi a3), some (vi 0)]) dX10_cup_53 (by show (4 : Nat) < 5; decide) rfl ?_
        exact h
      · replace h := h.2 c
        refine sg_iconst (pc := 35) dX10_cup_35 (by omega) ?_
        exact st_ireturn (pc := 36) dX10_cup_36 (Or.inr ⟨rfl, by omega⟩) h

theorem sg_X10_cup_55 {d bc bs : Nat} {a0 : Nat} {a1 : Int} {a2 : Int} {a3 : Int} {a4 : Int} {μ : Mem} {Q : Option (Option AV) → Mem → Prop}
    (h : (20 ≤ a4 → mK μ a0 = 11 ∧ ∃ (mc1 ms1 : Nat) (K1 : Mem → Prop), Cl d mc1 ms1 mX10_begin [vr a0] μ (KV K1) ∧ mc1 ≤ bc ∧ ms1 ≤ bs ∧ (∀ m1, K1 m1 → mK m1 a0 = 11 ∧ ((∀ m2, m2 = sD m1 a0 16 (w32 ((mD m1 a0 16) + 1)) → Q (some (some (vi 1))) m2)))) ∧ (¬ 20 ≤ a4 → mK μ a0 = 11 ∧ (mK μ (mR μ a0 4) = 20 ∧ ((0 : Int) ≤ a4 ∧ a4 < (mN μ (mR μ a0 4) : Int)) ∧ (∀ m3, m3 = sD μ (mR μ a0 4) a4 100 → ∀ v1, v1 = w32 (a4 + 1) → Wp (d + 1) bc bs mX10_cup 55 [some (vr a0), some (vi a1), some (vi a2), some (vi a3), some (vi v1)] [] m3 Q)))) :
    Wp (d + 1) bc bs mX10_cup 55 [some (vr a0), some (vi a1), some (vi a2), some (vi a3), some (vi a4)] [] μ Q := by
  refine st_iload (pc := 55) dX10_cup_55 rfl ?_
  refine sg_bipush (pc := 57) dX10_cup_57 (by omega) (by decide) ?_
  refine st_icmpge (pc := 59) (tgt := 77) dX10_cup_59 rfl (fun c => ?_) (fun c => ?_)
  · replace h := h.1 c
    refine st_aload_n (pc := 77) dX10_cup_77 rfl rfl ?_
    obtain ⟨hk1, h⟩ := h
    obtain ⟨mc1, ms1, K1, hC, e1, e2, h⟩ := h
    refine sg_VV (pc := 78) (av := []) (st := []) (K := K1) dX10_cup_78 ck_10_139 rfl (by decide) hk1 (by show (0 : Nat) ≤ 8; decide) hC e1 e2 (fun m1 hK => ?_) rfl
    replace h := h m1 hK
    refine st_aload_n (pc := 81) dX10_cup_81 rfl rfl ?_
    refine st_dup (pc := 82) dX10_cup_82 rfl ?_
    obtain ⟨hk2, h⟩ := h
    refine sg_gfI (pc := 83) (J := 16) dX10_cup_83 fl_10_155 (by decide) rfl hk2 ?_
    refine sg_iconst (pc := 86) dX10_cup_86 (by omega) ?_
    refine st_iadd (pc := 87) dX10_cup_87 ?_
    refine sg_pfI (pc := 88) (J := 16) dX10_cup_88 fl_10_155 rfl (Or.inl rfl) hk2 ?_
    refine Wp.nameM (fun m2 em2 => ?_)
    replace h := h m2 em2
    refine sg_iconst (pc := 91) dX10_cup_91 (by omega) ?_
    exact st_ireturn (pc := 92) dX10_cup_92 (Or.inr ⟨rfl, by omega⟩) h
  · replace h := h.2 c
    refine st_aload_n (pc := 62) dX10_cup_62 rfl rfl ?_
    obtain ⟨hk3, h⟩ := h
    refine sg_gfR (pc := 63) (J := 4) dX10_cup_63 fl_10_23 rfl hk3 ?_
    refine st_iload (pc := 66) dX10_cup_66 rfl ?_
    refine sg_bipush (pc := 68) dX10_cup_68 (by omega) (by decide) ?_
    obtain ⟨hk4, h⟩ := h
    obtain ⟨h1, h⟩ := h
    refine st_iastore (pc := 70) dX10_cup_70 hk4 h1.1 h1.2 ?_
    refine Wp.nameM (fun m3 em3 => ?_)
    replace h := h m3 em3
    refine sg_iinc (pc := 71) (ls' := [some (vr a0), some (vi a1), some (vi a2), some (vi a3), some (vi (w32 (a4 + 1)))]) dX10_cup_71 rfl rfl ?_
    refine Wp.nameL (ls2 := fun v => [some (vr a0), some (vi a1), some (vi a2), some (vi a3), some (vi v)]) 4 _ rfl (fun _ => rfl) (fun v1 ev1 => ?_)
    replace h := h v1 ev1
    refine st_goto (pc := 74) dX10_cup_74 rfl ?_
    exact h

theorem sg_X10_set_0 {d bc bs : Nat} {a0 : Nat} {a1 : Int} {a2 : Int} {μ : Mem} {Q : Option (Option AV) → Mem → Prop}
    (h : mK μ a0 = 11 ∧ (∀ m1, m1 = sD μ a0 15 0 → (¬ a1 = 0 → (¬ a1 = 0 → (¬ a1 = 1 → (¬ a1 = 2 → (¬ a1 = 4 → (¬ a1 = 6 → ∃ (mc1 ms1 : Nat) (K1 : Int → Mem → Prop), Cl d mc1 ms1 mX10_in [vi a1, vi 0, vi 6] m1 (KI K1) ∧ mc1 ≤ bc ∧ ms1 ≤ bs ∧ (∀ x1 m2, K1 x1 m2 → (x1 = 0 → Q (some (some (vi (-1)))) m2) ∧ (¬ x1 = 0 → ∃ (mc2 ms2 : Nat) (K2 : Int → Mem → Prop), Cl d mc2 ms2 mX10_in [vi a2, vi 0, vi 20] m2 (KI K2) ∧ mc2 ≤ bc - mc1 ∧ ms2 ≤ bs - ms1 ∧ (∀ x2 m3, K2 x2 m3 → (¬ x2 = 0 → mK m3 a0 = 11 ∧ ((mK m3 (mR m3 a0 3) = 20 ∨ ((mR m3 a0 3) ≠ 0 ∧ mK m3 (mR m3 a0 3) = 40)) ∧ ((0 : Int) ≤ a1 ∧ a1 < (mN m3 (mR m3 a0 3) : Int)) ∧ (∀ v1, v1 = mD m3 (mR m3 a0 3) a1 → mK m3 (mR m3 a0 3) = 20 ∧ ((0 : Int) ≤ a1 ∧ a1 < (mN m3 (mR m3 a0 3) : Int)) ∧ (∀ m4, m4 = sD m3 (mR m3 a0 3) a1 a2 → Q (some (some (vi v1))) m4)))) ∧ (x2 = 0 → Q (some (some (vi (-1)))) m3))))) ∧ (a1 = 6 → ∃ (mc3 ms3 : Nat) (K3 : Int → Mem → Prop), Cl d mc3 ms3 mX10_in [vi a1, vi 0, vi 6] m1 (KI K3) ∧ mc3 ≤ bc ∧ ms3 ≤ bs ∧ (∀ x3 m5, K3 x3 m5 → (x3 = 0 → Q (some (some (vi (-1)))) m5) ∧ (¬ x3 = 0 → ∃ (mc4 ms4 : Nat) (K4 : Int → Mem → Prop), Cl d mc4 ms4 mX10_in [vi a2, vi 0, vi 3] m5 (KI K4) ∧ mc4 ≤ bc - mc3 ∧ ms4 ≤ bs - ms3 ∧ (∀ x4 m6, K4 x4 m6 → (¬ x4 = 0 → mK m6 a0 = 11 ∧ ((mK m6 (mR m6 a0 3) = 20 ∨ ((mR m6 a0 3) ≠ 0 ∧ mK m6 (mR m6 a0 3) = 40)) ∧ ((0 : Int) ≤ a1 ∧ a1 < (mN m6 (mR m6 a0 3) : Int)) ∧ (∀ v2, v2 = mD m6 (mR m6 a0 3) a1 → mK m6 (mR m6 a0 3) = 20 ∧ ((0 : Int) ≤ a1 ∧ a1 < (mN m6 (mR m6 a0 3) : Int)) ∧ (∀ m7, m7 = sD m6 (mR m6 a0 3) a1 a2 → Q (some (some (vi v2))) m7)))) ∧ (x4 = 0 → Q (some (some (vi (-1)))) m6)))))) ∧ (a1 = 4 → ∃ (mc5 ms5 : Nat) (K5 : Int → Mem → Prop), Cl d mc5 ms5 mX10_in [vi a1, vi 0, vi 6] m1 (KI K5) ∧ mc5 ≤ bc ∧ ms5 ≤ bs ∧ (∀ x5 m8, K5 x5 m8 → (x5 = 0 → Q (some (some (vi (-1)))) m8) ∧ (¬ x5 = 0 → ∃ (mc6 ms6 : Nat) (K6 : Int → Mem → Prop), Cl d mc6 ms6 mX10_in [vi a2, vi 0, vi 100] m8 (KI K6) ∧ mc6 ≤ bc - mc5 ∧ ms6 ≤ bs - ms5 ∧ (∀ x6 m9, K6 x6 m9 → (¬ x6 = 0 → mK m9 a0 = 11 ∧ ((mK m9 (mR m9 a0 3) = 20 ∨ ((mR m9 a0 3) ≠ 0 ∧ mK m9 (mR m9 a0 3) = 40)) ∧ ((0 : Int) ≤ a1 ∧ a1 < (mN m9 (mR m9 a0 3) : Int)) ∧ (∀ v3, v3 = mD m9 (mR m9 a0 3) a1 → mK m9 (mR m9 a0 3) = 20 ∧ ((0 : Int) ≤ a1 ∧ a1 < (mN m9 (mR m9 a0 3) : Int)) ∧ (∀ m10, m10 = sD m9 (mR m9 a0 3) a1 a2 → Q (some (some (vi v3))) m10)))) ∧ (x6 = 0 → Q (some (some (vi (-1)))) m9)))))) ∧ (a1 = 2 → ∃ (mc7 ms7 : Nat) (K7 : Int → Mem → Prop), Cl d mc7 ms7 mX10_in [vi a1, vi 0, vi 6] m1 (KI K7) ∧ mc7 ≤ bc ∧ ms7 ≤ bs ∧ (∀ x7 m11, K7 x7 m11 → (x7 = 0 → Q (some (some (vi (-1)))) m11) ∧ (¬ x7 = 0 → ∃ (mc8 ms8 : Nat) (K8 : Int → Mem → Prop), Cl d mc8 ms8 mX10_in [vi a2, vi 0, vi 9] m11 (KI K8) ∧ mc8 ≤ bc - mc7 ∧ ms8 ≤ bs - ms7 ∧ (∀ x8 m12, K8 x8 m12 → (¬ x8 = 0 → mK m12 a0 = 11 ∧ ((mK m12 (mR m12 a0 3) = 20 ∨ ((mR m12 a0 3) ≠ 0 ∧ mK m12 (mR m12 a0 3) = 40)) ∧ ((0 : Int) ≤ a1 ∧ a1 < (mN m12 (mR m12 a0 3) : Int)) ∧ (∀ v4, v4 = mD m12 (mR m12 a0 3) a1 → mK m12 (mR m12 a0 3) = 20 ∧ ((0 : Int) ≤ a1 ∧ a1 < (mN m12 (mR m12 a0 3) : Int)) ∧ (∀ m13, m13 = sD m12 (mR m12 a0 3) a1 a2 → Q (some (some (vi v4))) m13)))) ∧ (x8 = 0 → Q (some (some (vi (-1)))) m12)))))) ∧ (a1 = 1 → ∃ (mc9 ms9 : Nat) (K9 : Int → Mem → Prop), Cl d mc9 ms9 mX10_in [vi a1, vi 0, vi 6] m1 (KI K9) ∧ mc9 ≤ bc ∧ ms9 ≤ bs ∧ (∀ x9 m14, K9 x9 m14 → (x9 = 0 → Q (some (some (vi (-1)))) m14) ∧ (¬ x9 = 0 → ∃ (mc10 ms10 : Nat) (K10 : Int → Mem → Prop), Cl d mc10 ms10 mX10_in [vi a2, vi 0, vi 50] m14 (KI K10) ∧ mc10 ≤ bc - mc9 ∧ ms10 ≤ bs - ms9 ∧ (∀ x10 m15, K10 x10 m15 → (¬ x10 = 0 → mK m15 a0 = 11 ∧ ((mK m15 (mR m15 a0 3) = 20 ∨ ((mR m15 a0 3) ≠ 0 ∧ mK m15 (mR m15 a0 3) = 40)) ∧ ((0 : Int) ≤ a1 ∧ a1 < (mN m15 (mR m15 a0 3) : Int)) ∧ (∀ v5, v5 = mD m15 (mR m15 a0 3) a1 → mK m15 (mR m15 a0 3) = 20 ∧ ((0 : Int) ≤ a1 ∧ a1 < (mN m15 (mR m15 a0 3) : Int)) ∧ (∀ m16, m16 = sD m15 (mR m15 a0 3) a1 a2 → Q (some (some (vi v5))) m16)))) ∧ (x10 = 0 → Q (some (some (vi (-1)))) m15)))))) ∧ (a1 = 0 → ∃ (mc11 ms11 : Nat) (K11 : Int → Mem → Prop), Cl d mc11 ms11 mX10_in [vi a1, vi 0, vi 6] m1 (KI K11) ∧ mc11 ≤ bc ∧ ms11 ≤ bs ∧ (∀ x11 m17, K11 x11 m17 → (x11 = 0 → Q (some (some (vi (-1)))) m17) ∧ (¬ x11 = 0 → ∃ (mc12 ms12 : Nat) (K12 : Int → Mem → Prop), Cl d mc12 ms12 mX10_in [vi a2, vi 0, vi 16] m17 (KI K12) ∧ mc12 ≤ bc - mc11 ∧ ms12 ≤ bs - ms11 ∧ (∀ x12 m18, K12 x12 m18 → (¬ x12 = 0 → mK m18 a0 = 11 ∧ ((mK m18 (mR m18 a0 3) = 20 ∨ ((mR m18 a0 3) ≠ 0 ∧ mK m18 (mR m18 a0 3) = 40)) ∧ ((0 : Int) ≤ a1 ∧ a1 < (mN m18 (mR m18 a0 3) : Int)) ∧ (∀ v6, v6 = mD m18 (mR m18 a0 3) a1 → mK m18 (mR m18 a0 3) = 20 ∧ ((0 : Int) ≤ a1 ∧ a1 < (mN m18 (mR m18 a0 3) : Int)) ∧ (∀ m19, m19 = sD m18 (mR m18 a0 3) a1 a2 → Q (some (some (vi v6))) m19)))) ∧ (x12 = 0 → Q (some (some (vi (-1)))) m18)))))) ∧ (a1 = 0 → (¬ a1 = 0 → (¬ a1 = 1 → (¬ a1 = 2 → (¬ a1 = 4 → (¬ a1 = 6 → ∃ (mc13 ms13 : Nat) (K13 : Int → Mem → Prop), Cl d mc13 ms13 mX10_in [vi a1, vi 0, vi 6] m1 (KI K13) ∧ mc13 ≤ bc ∧ ms13 ≤ bs ∧ (∀ x13 m20, K13 x13 m20 → (x13 = 0 → Q (some (some (vi (-1)))) m20) ∧ (¬ x13 = 0 → ∃ (mc14 ms14 : Nat) (K14 : Int → Mem → Prop), Cl d mc14 ms14 mX10_in [vi a2, vi 1, vi 20] m20 (KI K14) ∧ mc14 ≤ bc - mc13 ∧ ms14 ≤ bs - ms13 ∧ (∀ x14 m21, K14 x14 m21 → (¬ x14 = 0 → mK m21 a0 = 11 ∧ ((mK m21 (mR m21 a0 3) = 20 ∨ ((mR m21 a0 3) ≠ 0 ∧ mK m21 (mR m21 a0 3) = 40)) ∧ ((0 : Int) ≤ a1 ∧ a1 < (mN m21 (mR m21 a0 3) : Int)) ∧ (∀ v7, v7 = mD m21 (mR m21 a0 3) a1 → mK m21 (mR m21 a0 3) = 20 ∧ ((0 : Int) ≤ a1 ∧ a1 < (mN m21 (mR m21 a0 3) : Int)) ∧ (∀ m22, m22 = sD m21 (mR m21 a0 3) a1 a2 → Q (some (some (vi v7))) m22)))) ∧ (x14 = 0 → Q (some (some (vi (-1)))) m21))))) ∧ (a1 = 6 → ∃ (mc15 ms15 : Nat) (K15 : Int → Mem → Prop), Cl d mc15 ms15 mX10_in [vi a1, vi 0, vi 6] m1 (KI K15) ∧ mc15 ≤ bc ∧ ms15 ≤ bs ∧ (∀ x15 m23, K15 x15 m23 → (x15 = 0 → Q (some (some (vi (-1)))) m23) ∧ (¬ x15 = 0 → ∃ (mc16 ms16 : Nat) (K16 : Int → Mem → Prop), Cl d mc16 ms16 mX10_in [vi a2, vi 1, vi 3] m23 (KI K16) ∧ mc16 ≤ bc - mc15 ∧ ms16 ≤ bs - ms15 ∧ (∀ x16 m24, K16 x16 m24 → (¬ x16 = 0 → mK m24 a0 = 11 ∧ ((mK m24 (mR m24 a0 3) = 20 ∨ ((mR m24 a0 3) ≠ 0 ∧ mK m24 (mR m24 a0 3) = 40)) ∧ ((0 : Int) ≤ a1 ∧ a1 < (mN m24 (mR m24 a0 3) : Int)) ∧ (∀ v8, v8 = mD m24 (mR m24 a0 3) a1 → mK m24 (mR m24 a0 3) = 20 ∧ ((0 : Int) ≤ a1 ∧ a1 < (mN m24 (mR m24 a0 3) : Int)) ∧ (∀ m25, m25 = sD m24 (mR m24 a0 3) a1 a2 → Q (some (some (vi v8))) m25)))) ∧ (x16 = 0 → Q (some (some (vi (-1)))) m24)))))) ∧ (a1 = 4 → ∃ (mc17 ms17 : Nat) (K17 : Int → Mem → Prop), Cl d mc17 ms17 mX10_in [vi a1, vi 0, vi 6] m1 (KI K17) ∧ mc17 ≤ bc ∧ ms17 ≤ bs ∧ (∀ x17 m26, K17 x17 m26 → (x17 = 0 → Q (some (some (vi (-1)))) m26) ∧ (¬ x17 = 0 → ∃ (mc18 ms18 : Nat) (K18 : Int → Mem → Prop), Cl d mc18 ms18 mX10_in [vi a2, vi 1, vi 100] m26 (KI K18) ∧ mc18 ≤ bc - mc17 ∧ ms18 ≤ bs - ms17 ∧ (∀ x18 m27, K18 x18 m27 → (¬ x18 = 0 → mK m27 a0 = 11 ∧ ((mK m27 (mR m27 a0 3) = 20 ∨ ((mR m27 a0 3) ≠ 0 ∧ mK m27 (mR m27 a0 3) = 40)) ∧ ((0 : Int) ≤ a1 ∧ a1 < (mN m27 (mR m27 a0 3) : Int)) ∧ (∀ v9, v9 = mD m27 (mR m27 a0 3) a1 → mK m27 (mR m27 a0 3) = 20 ∧ ((0 : Int) ≤ a1 ∧ a1 < (mN m27 (mR m27 a0 3) : Int)) ∧ (∀ m28, m28 = sD m27 (mR m27 a0 3) a1 a2 → Q (some (some (vi v9))) m28)))) ∧ (x18 = 0 → Q (some (some (vi (-1)))) m27)))))) ∧ (a1 = 2 → ∃ (mc19 ms19 : Nat) (K19 : Int → Mem → Prop), Cl d mc19 ms19 mX10_in [vi a1, vi 0, vi 6] m1 (KI K19) ∧ mc19 ≤ bc ∧ ms19 ≤ bs ∧ (∀ x19 m29, K19 x19 m29 → (x19 = 0 → Q (some (some (vi (-1)))) m29) ∧ (¬ x19 = 0 → ∃ (mc20 ms20 : Nat) (K20 : Int → Mem → Prop), Cl d mc20 ms20 mX10_in [vi a2, vi 1, vi 9] m29 (KI K20) ∧ mc20 ≤ bc - mc19 ∧ ms20 ≤ bs - ms19 ∧ (∀ x20 m30, K20 x20 m30 → (¬ x20 = 0 → mK m30 a0 = 11 ∧ ((mK m30 (mR m30 a0 3) = 20 ∨ ((mR m30 a0 3) ≠ 0 ∧ mK m30 (mR m30 a0 3) = 40)) ∧ ((0 : Int) ≤ a1 ∧ a1 < (mN m30 (mR m30 a0 3) : Int)) ∧ (∀ v10, v10 = mD m30 (mR m30 a0 3) a1 → mK m30 (mR m30 a0 3) = 20 ∧ ((0 : Int) ≤ a1 ∧ a1 < (mN m30 (mR m30 a0 3) : Int)) ∧ (∀ m31, m31 = sD m30 (mR m30 a0 3) a1 a2 → Q (some (some (vi v10))) m31)))) ∧ (x20 = 0 → Q (some (some (vi (-1)))) m30)))))) ∧ (a1 = 1 → ∃ (mc21 ms21 : Nat) (K21 : Int → Mem → Prop), Cl d mc21 ms21 mX10_in [vi a1, vi 0, vi 6] m1 (KI K21) ∧ mc21 ≤ bc ∧ ms21 ≤ bs ∧ (∀ x21 m32, K21 x21 m32 → (x21 = 0 → Q (some (some (vi (-1)))) m32) ∧ (¬ x21 = 0 → ∃ (mc22 ms22 : Nat) (K22 : Int → Mem → Prop), Cl d mc22 ms22 mX10_in [vi a2, vi 1, vi 50] m32 (KI K22) ∧ mc22 ≤ bc - mc21 ∧ ms22 ≤ bs - ms21 ∧ (∀ x22 m33, K22 x22 m33 → (¬ x22 = 0 → mK m33 a0 = 11 ∧ ((mK m33 (mR m33 a0 3) = 20 ∨ ((mR m33 a0 3) ≠ 0 ∧ mK m33 (mR m33 a0 3) = 40)) ∧ ((0 : Int) ≤ a1 ∧ a1 < (mN m33 (mR m33 a0 3) : Int)) ∧ (∀ v11, v11 = mD m33 (mR m33 a0 3) a1 → mK m33 (mR m33 a0 3) = 20 ∧ ((0 : Int) ≤ a1 ∧ a1 < (mN m33 (mR m33 a0 3) : Int)) ∧ (∀ m34, m34 = sD m33 (mR m33 a0 3) a1 a2 → Q (some (some (vi v11))) m34)))) ∧ (x22 = 0 → Q (some (some (vi (-1)))) m33)))))) ∧ (a1 = 0 → ∃ (mc23 ms23 : Nat) (K23 : Int → Mem → Prop), Cl d mc23 ms23 mX10_in [vi a1, vi 0, vi 6] m1 (KI K23) ∧ mc23 ≤ bc ∧ ms23 ≤ bs ∧ (∀ x23 m35, K23 x23 m35 → (x23 = 0 → Q (some (some (vi (-1)))) m35) ∧ (¬ x23 = 0 → ∃ (mc24 ms24 : Nat) (K24 : Int → Mem → Prop), Cl d mc24 ms24 mX10_in [vi a2, vi 1, vi 16] m35 (KI K24) ∧ mc24 ≤ bc - mc23 ∧ ms24 ≤ bs - ms23 ∧ (∀ x24 m36, K24 x24 m36 → (¬ x24 = 0 → mK m36 a0 = 11 ∧ ((mK m36 (mR m36 a0 3) = 20 ∨ ((mR m36 a0 3) ≠ 0 ∧ mK m36 (mR m36 a0 3) = 40)) ∧ ((0 : Int) ≤ a1 ∧ a1 < (mN m36 (mR m36 a0 3) : Int)) ∧ (∀ v12, v12 = mD m36 (mR m36 a0 3) a1 → mK m36 (mR m36 a0 3) = 20 ∧ ((0 : Int) ≤ a1 ∧ a1 < (mN m36 (mR m36 a0 3) : Int)) ∧ (∀ m37, m37 = sD m36 (mR m36 a0 3) a1 a2 → Q (some (some (vi v12))) m37)))) ∧ (x24 = 0 → Q (some (some (vi (-1)))) m36)))))))) :
    Wp (d + 1) bc bs mX10_set 0 [some (vr a0), some (vi a1), some (vi a2), none, none, none] [] μ Q := by
  refine st_aload_n (pc := 0) dX10_set_0 rfl rfl ?_
  refine sg_iconst (pc := 1) dX10_set_1 (by omega) ?_
  obtain ⟨hk1, h⟩ := h
  refine sg_pfI (pc := 2) (J := 15) dX10_set_2 fl_10_142 rfl (Or.inl rfl) hk1 ?_
  refine Wp.nameM (fun m1 em1 => ?_)
  replace h := h m1 em1
  refine st_iload_n (pc := 5) dX10_set_5 rfl rfl ?_
  refine st_ifne (pc := 6) (tgt := 13) dX10_set_6 rfl (fun c => ?_) (fun c => ?_)
  · replace h := h.1 c
    refine sg_iconst (pc := 13) dX10_set_13 (by omega) ?_
    refine sg_istore_n (pc := 14) (ls' := [some (vr a0), some (vi a1), some (vi a2), some (vi 0), none, none]) dX10_set_14 rfl (by show (3 : Nat) < 6; decide) rfl ?_
    refine st_iload_n (pc := 15) dX10_set_15 rfl rfl ?_
    refine st_ifne (pc := 16) (tgt := 24) dX10_set_16 rfl (fun c => ?_) (fun c => ?_)
    · replace h := h.1 c
      refine st_iload_n (pc := 24) dX10_set_24 rfl rfl ?_
      refine sg_iconst (pc := 25) dX10_set_25 (by omega) ?_
      refine st_icmpne (pc := 26) (tgt := 34) dX10_set_26 rfl (fun c => ?_) (fun c => ?_)
      · replace h := h.1 c
        refine st_iload_n (pc := 34) dX10_set_34 rfl rfl ?_
        refine sg_iconst (pc := 35) dX10_set_35 (by omega) ?_
        refine st_icmpne (pc := 36) (tgt := 44) dX10_set_36 rfl (fun c => ?_) (fun c => ?_)
        · replace h := h.1 c
          refine st_iload_n (pc := 44) dX10_set_44 rfl rfl ?_
          refine sg_iconst (pc := 45) dX10_set_45 (by omega) ?_
          refine st_icmpne (pc := 46) (tgt := 54) dX10_set_46 rfl (fun c => ?_) (fun c => ?_)
          · replace h := h.1 c
            refine st_iload_n (pc := 54) dX10_set_54 rfl rfl ?_
            refine sg_bipush (pc := 55) dX10_set_55 (by omega) (by decide) ?_
            refine st_icmpne (pc := 57) (tgt := 64) dX10_set_57 rfl (fun c => ?_) (fun c => ?_)
            · replace h := h.1 c
              refine sg_bipush (pc := 64) dX10_set_64 (by omega) (by decide) ?_
              refine sg_istore (pc := 66) (ls' := [some (vr a0), some (vi a1), some (vi a2), some (vi 0), some (vi 20), none]) dX10_set_66 (by show (4 : Nat) < 6; decide) rfl ?_
              refine st_iload_n (pc := 68) dX10_set_68 rfl rfl ?_
              refine sg_iconst (pc := 69) dX10_set_69 (by omega) ?_
              refine sg_bipush (pc := 70) dX10_set_70 (by omega) (by decide) ?_
              obtain ⟨mc1, ms1, K1, hC, e1, e2, h⟩ := h
              refine sg_SI (pc := 72) (av := [vi a1, vi 0, vi 6]) (st := []) (K := K1) dX10_set_72 ck_10_151 rfl (by show (0 : Nat) ≤ 8; decide) hC e1 e2 (fun x1 m2 hK => ?_) rfl
              replace h := h x1 m2 hK
              refine st_ifeq (pc := 75) (tgt := 88) dX10_set_75 rfl (fun c => ?_) (fun c => ?_)
              · replace h := h.1 c
                refine sg_iconst (pc := 88) dX10_set_88 (by omega) ?_
                exact st_ireturn (pc := 89) dX10_set_89 (Or.inl rfl) h
              · replace h := h.2 c
                refine st_iload_n (pc := 78) dX10_set_78 rfl rfl ?_
                refine st_iload_n (pc := 79) dX10_set_79 rfl rfl ?_
                refine st_iload (pc := 80) dX10_set_80 rfl ?_
                obtain ⟨mc2, ms2, K2, hC, e1, e2, h⟩ := h
                refine sg_SI (pc := 82) (av := [vi a2, vi 0, vi 20]) (st := []) (K := K2) dX10_set_82 ck_10_151 rfl (by show (0 : Nat) ≤ 8; decide) hC e1 e2 (fun x2 m3 hK => ?_) rfl
                replace h := h x2 m3 hK
                refine st_ifne (pc := 85) (tgt := 90) dX10_set_85 rfl (fun c => ?_) (fun c => ?_)
                · replace h := h.1 c
                  refine st_aload_n (pc := 90) dX10_set_90 rfl rfl ?_
                  obtain ⟨hk2, h⟩ := h
                  refine sg_gfR (pc := 91) (J := 3) dX10_set_91 fl_10_19 rfl hk2 ?_
                  refine st_iload_n (pc := 94) dX10_set_94 rfl rfl ?_
                  obtain ⟨hk3, h⟩ := h
                  obtain ⟨h1, h⟩ := h
                  refine sg_iaload (pc := 95) dX10_set_95 hk3 h1 ?_
                  refine sg_istore (pc := 96) (ls' := [some (vr a0), some (vi a1), some (vi a2), some (vi 0), some (vi 20), some (vi (mD m3 (mR m3 a0 3) a1))]) dX10_set_96 (by show (5 : Nat) < 6; decide) rfl ?_
                  refine Wp.nameL (ls2 := fun v => [some (vr a0), some (vi a1), some (vi a2), some (vi 0), some (vi 20), some (vi v)]) 5 _ rfl (fun _ => rfl) (fun v1 ev1 => ?_)
                  replace h := h v1 ev1
                  refine st_aload_n (pc := 98) dX10_set_98 rfl rfl ?_
                  refine sg_gfR (pc := 99) (J := 3) dX10_set_99 fl_10_19 rfl hk2 ?_
                  refine st_iload_n (pc := 102) dX10_set_102 rfl rfl ?_
                  refine st_iload_n (pc := 103) dX10_set_103 rfl rfl ?_
                  obtain ⟨hk4, h⟩ := h
                  obtain ⟨h1, h⟩ := h
                  refine st_iastore (pc := 104) dX10_set_104 hk4 h1.1 h1.2 ?_
                  refine Wp.nameM (fun m4 em4 => ?_)
                  replace h := h m4 em4
                  refine st_iload (pc := 105) dX10_set_105 rfl ?_
                  exact st_ireturn (pc := 107) dX10_set_107 (Or.inl rfl) h
                · replace h := h.2 c
                  refine sg_iconst (pc := 88) dX10_set_88 (by omega) ?_
                  exact st_ireturn (pc := 89) dX10_set_89 (Or.inl rfl) h
            · replace h := h.2 c
              refine sg_iconst (pc := 60) dX10_set_60 (by omega) ?_
              refine st_goto (pc := 61) dX10_set_61 rfl ?_
              refine sg_istore (pc := 66) (ls' := [some (vr a0), some (vi a1), some (vi a2), some (vi 0), some (vi 3), none]) dX10_set_66 (by show (4 : Nat) < 6; decide) rfl ?_
              refine st_iload_n (pc := 68) dX10_set_68 rfl rfl ?_
              refine sg_iconst (pc := 69) dX10_set_69 (by omega) ?_
              refine sg_bipush (pc := 70) dX10_set_70 (by omega) (by decide) ?_
              obtain ⟨mc3, ms3, K3, hC, e1, e2, h⟩ := h
              refine sg_SI (pc := 72) (av := [vi a1, vi 0, vi 6]) (st := []) (K := K3) dX10_set_72 ck_10_151 rfl (by show (0 : Nat) ≤ 8; decide) hC e1 e2 (fun x3 m5 hK => ?_) rfl
              replace h := h x3 m5 hK
              refine st_ifeq (pc := 75) (tgt := 88) dX10_set_75 rfl (fun c => ?_) (fun c => ?_)
              · replace h := h.1 c
                refine sg_iconst (pc := 88) dX10_set_88 (by omega) ?_
                exact st_ireturn (pc := 89) dX10_set_89 (Or.inl rfl) h
              · replace h := h.2 c
                refine st_iload_n (pc := 78) dX10_set_78 rfl rfl ?_
                refine st_iload_n (pc := 79) dX10_set_79 rfl rfl ?_
                refine st_iload (pc := 80) dX10_set_80 rfl ?_
                obtain ⟨mc4, ms4, K4, hC, e1, e2, h⟩ := h
                refine sg_SI (pc := 82) (av := [vi a2, vi 0, vi 3]) (st := []) (K := K4) dX10_set_82 ck_10_151 rfl (by show (0 : Nat) ≤ 8; decide) hC e1 e2 (fun x4 m6 hK => ?_) rfl
                replace h := h x4 m6 hK
                refine st_ifne (pc := 85) (tgt := 90) dX10_set_85 rfl (fun c => ?_) (fun c => ?_)
                · replace h := h.1 c
                  refine st_aload_n (pc := 90) dX10_set_90 rfl rfl ?_
                  obtain ⟨hk5, h⟩ := h
                  refine sg_gfR (pc := 91) (J := 3) dX10_set_91 fl_10_19 rfl hk5 ?_
                  refine st_iload_n (pc := 94) dX10_set_94 rfl rfl ?_
                  obtain ⟨hk6, h⟩ := h
                  obtain ⟨h1, h⟩ := h
                  refine sg_iaload (pc := 95) dX10_set_95 hk6 h1 ?_
                  refine sg_istore (pc := 96) (ls' := [some (vr a0), some (vi a1), some (vi a2), some (vi 0), some (vi 3), some (vi (mD m6 (mR m6 a0 3) a1))]) dX10_set_96 (by show (5 : Nat) < 6; decide) rfl ?_
                  refine Wp.nameL (ls2 := fun v => [some (vr a0), some (vi a1), some (vi a2), some (vi 0), some (vi 3), some (vi v)]) 5 _ rfl (fun _ => rfl) (fun v2 ev2 => ?_)
                  replace h := h v2 ev2
                  refine st_aload_n (pc := 98) dX10_set_98 rfl rfl ?_
                  refine sg_gfR (pc := 99) (J := 3) dX10_set_99 fl_10_19 rfl hk5 ?_
                  refine st_iload_n (pc := 102) dX10_set_102 rfl rfl ?_
                  refine st_iload_n (pc := 103) dX10_set_103 rfl rfl ?_
                  obtain ⟨hk7, h⟩ := h
                  obtain ⟨h1, h⟩ := h
                  refine st_iastore (pc := 104) dX10_set_104 hk7 h1.1 h1.2 ?_
                  refine Wp.nameM (fun m7 em7 => ?_)
                  replace h := h m7 em7
                  refine st_iload (pc := 105) dX10_set_105 rfl ?_
                  exact st_ireturn (pc := 107) dX10_set_107 (Or.inl rfl) h
                · replace h := h.2 c
                  refine sg_iconst (pc := 88) dX10_set_88 (by omega) ?_
                  exact st_ireturn (pc := 89) dX10_set_89 (Or.inl rfl) h
          · replace h := h.2 c
            refine sg_bipush (pc := 49) dX10_set_49 (by omega) (by decide) ?_
            refine st_goto (pc := 51) dX10_set_51 rfl ?_
            refine sg_istore (pc := 66) (ls' := [some (vr a0), some (vi a1), some (vi a2), some (vi 0), some (vi 100), none]) dX10_set_66 (by show (4 : Nat) < 6; decide) rfl ?_
            refine st_iload_n (pc := 68) dX10_set_68 rfl rfl ?_
            refine sg_iconst (pc := 69) dX10_set_69 (by omega) ?_
            refine sg_bipush (pc := 70) dX10_set_70 (by omega) (by decide) ?_
            obtain ⟨mc5, ms5, K5, hC, e1, e2, h⟩ := h
            refine sg_SI (pc := 72) (av := [vi a1, vi 0, vi 6]) (st := []) (K := K5) dX10_set_72 ck_10_151 rfl (by show (0 : Nat) ≤ 8; decide) hC e1 e2 (fun x5 m8 hK => ?_) rfl
            replace h := h x5 m8 hK
            refine st_ifeq (pc := 75) (tgt := 88) dX10_set_75 rfl (fun c => ?_) (fun c => ?_)
            · replace h := h.1 c
              refine sg_iconst (pc := 88) dX10_set_88 (by omega) ?_
              exact st_ireturn (pc := 89) dX10_set_89 (Or.inl rfl) h
            · replace h := h.2 c
              refine st_iload_n (pc := 78) dX10_set_78 rfl rfl ?_
              refine st_iload_n (pc := 79) dX10_set_79 rfl rfl ?_
              refine st_iload (pc := 80) dX10_set_80 rfl ?_
              obtain ⟨mc6, ms6, K6, hC, e1, e2, h⟩ := h
              refine sg_SI (pc := 82) (av := [vi a2, vi 0, vi 100]) (st := []) (K := K6) dX10_set_82 ck_10_151 rfl (by show (0 : Nat) ≤ 8; decide) hC e1 e2 (fun x6 m9 hK => ?_) rfl
              replace h := h x6 m9 hK
              refine st_ifne (pc := 85) (tgt := 90) dX10_set_85 rfl (fun c => ?_) (fun c => ?_)
              · replace h := h.1 c
                refine st_aload_n (pc := 90) dX10_set_90 rfl rfl ?_
                obtain ⟨hk8, h⟩ := h
                refine sg_gfR (pc := 91) (J := 3) dX10_set_91 fl_10_19 rfl hk8 ?_
                refine st_iload_n (pc := 94) dX10_set_94 rfl rfl ?_
                obtain ⟨hk9, h⟩ := h
                obtain ⟨h1, h⟩ := h
                refine sg_iaload (pc := 95) dX10_set_95 hk9 h1 ?_
                refine sg_istore (pc := 96) (ls' := [some (vr a0), some (vi a1), some (vi a2), some (vi 0), some (vi 100), some (vi (mD m9 (mR m9 a0 3) a1))]) dX10_set_96 (by show (5 : Nat) < 6; decide) rfl ?_
                refine Wp.nameL (ls2 := fun v => [some (vr a0), some (vi a1), some (vi a2), some (vi 0), some (vi 100), some (vi v)]) 5 _ rfl (fun _ => rfl) (fun v3 ev3 => ?_)
                replace h := h v3 ev3
                refine st_aload_n (pc := 98) dX10_set_98 rfl rfl ?_
                refine sg_gfR (pc := 99) (J := 3) dX10_set_99 fl_10_19 rfl hk8 ?_
                refine st_iload_n (pc := 102) dX10_set_102 rfl rfl ?_
                refine st_iload_n (pc := 103) dX10_set_103 rfl rfl ?_
                obtain ⟨hk10, h⟩ := h
                obtain ⟨h1, h⟩ := h
                refine st_iastore (pc := 104) dX10_set_104 hk10 h1.1 h1.2 ?_
                refine Wp.nameM (fun m10 em10 => ?_)
                replace h := h m10 em10
                refine st_iload (pc := 105) dX10_set_105 rfl ?_
                exact st_ireturn (pc := 107) dX10_set_107 (Or.inl rfl) h
              · replace h := h.2 c
                refine sg_iconst (pc := 88) dX10_set_88 (by omega) ?_
                exact st_ireturn (pc := 89) dX10_set_89 (Or.inl rfl) h
        · replace h := h.2 c
          refine sg_bipush (pc := 39) dX10_set_39 (by omega) (by decide) ?_
          refine st_goto (pc := 41) dX10_set_41 rfl ?_
          refine sg_istore (pc := 66) (ls' := [some (vr a0), some (vi a1), some (vi a2), some (vi 0), some (vi 9), none]) dX10_set_66 (by show (4 : Nat) < 6; decide) rfl ?_
          refine st_iload_n (pc := 68) dX10_set_68 rfl rfl ?_
          refine sg_iconst (pc := 69) dX10_set_69 (by omega) ?_
          refine sg_bipush (pc := 70) dX10_set_70 (by omega) (by decide) ?_
          obtain ⟨mc7, ms7, K7, hC, e1, e2, h⟩ := h
          refine sg_SI (pc := 72) (av := [vi a1, vi 0, vi 6]) (st := []) (K := K7) dX10_set_72 ck_10_151 rfl (by show (0 : Nat) ≤ 8; decide) hC e1 e2 (fun x7 m11 hK => ?_) rfl
          replace h := h x7 m11 hK
          refine st_ifeq (pc := 75) (tgt := 88) dX10_set_75 rfl (fun c => ?_) (fun c => ?_)
          · replace h := h.1 c
            refine sg_iconst (pc := 88) dX10_set_88 (by omega) ?_
            exact st_ireturn (pc := 89) dX10_set_89 (Or.inl rfl) h
          · replace h := h.2 c
            refine st_iload_n (pc := 78) dX10_set_78 rfl rfl ?_
            refine st_iload_n (pc := 79) dX10_set_79 rfl rfl ?_
            refine st_iload (pc := 80) dX10_set_80 rfl ?_
            obtain ⟨mc8, ms8, K8, hC, e1, e2, h⟩ := h
            refine sg_SI (pc := 82) (av := [vi a2, vi 0, vi 9]) (st := []) (K := K8) dX10_set_82 ck_10_151 rfl (by show (0 : Nat) ≤ 8; decide) hC e1 e2 (fun x8 m12 hK => ?_) rfl
            replace h := h x8 m12 hK
            refine st_ifne (pc := 85) (tgt := 90) dX10_set_85 rfl (fun c => ?_) (fun c => ?_)
            · replace h := h.1 c
              refine st_aload_n (pc := 90) dX10_set_90 rfl rfl ?_
              obtain ⟨hk11, h⟩ := h
              refine sg_gfR (pc := 91) (J := 3) dX10_set_91 fl_10_19 rfl hk11 ?_
              refine st_iload_n (pc := 94) dX10_set_94 rfl rfl ?_
              obtain ⟨hk12, h⟩ := h
              obtain ⟨h1, h⟩ := h
              refine sg_iaload (pc := 95) dX10_set_95 hk12 h1 ?_
              refine sg_istore (pc := 96) (ls' := [some (vr a0), some (vi a1), some (vi a2), some (vi 0), some (vi 9), some (vi (mD m12 (mR m12 a0 3) a1))]) dX10_set_96 (by show (5 : Nat) < 6; decide) rfl ?_
              refine Wp.nameL (ls2 := fun v => [some (vr a0), some (vi a1), some (vi a2), some (vi 0), some (vi 9), some (vi v)]) 5 _ rfl (fun _ => rfl) (fun v4 ev4 => ?_)
              replace h := h v4 ev4
              refine st_aload_n (pc := 98) dX10_set_98 rfl rfl ?_
              refine sg_gfR (pc := 99) (J := 3) dX10_set_99 fl_10_19 rfl hk11 ?_
              refine st_iload_n (pc := 102) dX10_set_102 rfl rfl ?_
              refine st_iload_n (pc := 103) dX10_set_103 rfl rfl ?_
              obtain ⟨hk13, h⟩ := h
              obtain ⟨h1, h⟩ := h
              refine st_iastore (pc := 104) dX10_set_104 hk13 h1.1 h1.2 ?_
              refine Wp.nameM (fun m13 em13 => ?_)
              replace h := h m13 em13
              refine st_iload (pc := 105) dX10_set_105 rfl ?_
              exact st_ireturn (pc := 107) dX10_set_107 (Or.inl rfl) h
            · replace h := h.2 c
              refine sg_iconst (pc := 88) dX10_set_88 (by omega) ?_
              exact st_ireturn (pc := 89) dX10_set_89 (Or.inl rfl) h
      · replace h := h.2 c
        refine sg_bipush (pc := 29) dX10_set_29 (by omega) (by decide) ?_
        refine st_goto (pc := 31) dX10_set_31 rfl ?_
        refine sg_istore (pc := 66) (ls' := [some (vr a0), some (vi a1), some (vi a2), some (vi 0), some (vi 50), none]) dX10_set_66 (by show (4 : Nat) < 6; decide) rfl ?_
        refine st_iload_n (pc := 68) dX10_set_68 rfl rfl ?_
        refine sg_iconst (pc := 69) dX10_set_69 (by omega) ?_
        refine sg_bipush (pc := 70) dX10_set_70 (by omega) (by decide) ?_
        obtain ⟨mc9, ms9, K9, hC, e1, e2, h⟩ := h
        refine sg_SI (pc := 72) (av := [vi a1, vi 0, vi 6]) (st := []) (K := K9) dX10_set_72 ck_10_151 rfl (by show (0 : Nat) ≤ 8; decide) hC e1 e2 (fun x9 m14 hK => ?_) rfl
        replace h := h x9 m14 hK
        refine st_ifeq (pc := 75) (tgt := 88) dX10_set_75 rfl (fun c => ?_) (fun c => ?_)
        · replace h := h.1 c
          refine sg_iconst (pc := 88) dX10_set_88 (by omega) ?_
          exact st_ireturn (pc := 89) dX10_set_89 (Or.inl rfl) h
        · replace h := h.2 c
          refine st_iload_n (pc := 78) dX10_set_78 rfl rfl ?_
          refine st_iload_n (pc := 79) dX10_set_79 rfl rfl ?_
          refine st_iload (pc := 80) dX10_set_80 rfl ?_
          obtain ⟨mc10, ms10, K10, hC, e1, e2, h⟩ := h
          refine sg_SI (pc := 82) (av := [vi a2, vi 0, vi 50]) (st := []) (K := K10) dX10_set_82 ck_10_151 rfl (by show (0 : Nat) ≤ 8; decide) hC e1 e2 (fun x10 m15 hK => ?_) rfl
          replace h := h x10 m15 hK
          refine st_ifne (pc := 85) (tgt := 90) dX10_set_85 rfl (fun c => ?_) (fun c => ?_)
          · replace h := h.1 c
            refine st_aload_n (pc := 90) dX10_set_90 rfl rfl ?_
            obtain ⟨hk14, h⟩ := h
            refine sg_gfR (pc := 91) (J := 3) dX10_set_91 fl_10_19 rfl hk14 ?_
            refine st_iload_n (pc := 94) dX10_set_94 rfl rfl ?_
            obtain ⟨hk15, h⟩ := h
            obtain ⟨h1, h⟩ := h
            refine sg_iaload (pc := 95) dX10_set_95 hk15 h1 ?_
            refine sg_istore (pc := 96) (ls' := [some (vr a0), some (vi a1), some (vi a2), some (vi 0), some (vi 50), some (vi (mD m15 (mR m15 a0 3) a1))]) dX10_set_96 (by show (5 : Nat) < 6; decide) rfl ?_
            refine Wp.nameL (ls2 := fun v => [some (vr a0), some (vi a1), some (vi a2), some (vi 0), some (vi 50), some (vi v)]) 5 _ rfl (fun _ => rfl) (fun v5 ev5 => ?_)
            replace h := h v5 ev5
            refine st_aload_n (pc := 98) dX10_set_98 rfl rfl ?_
            refine sg_gfR (pc := 99) (J := 3) dX10_set_99 fl_10_19 rfl hk14 ?_
            refine st_iload_n (pc := 102) dX10_set_102 rfl rfl ?_
            refine st_iload_n (pc := 103) dX10_set_103 rfl rfl ?_
            obtain ⟨hk16, h⟩ := h
            obtain ⟨h1, h⟩ := h
            refine st_iastore (pc := 104) dX10_set_104 hk16 h1.1 h1.2 ?_
            refine Wp.nameM (fun m16 em16 => ?_)
            replace h := h m16 em16
            refine st_iload (pc := 105) dX10_set_105 rfl ?_
            exact st_ireturn (pc := 107) dX10_set_107 (Or.inl rfl) h
          · replace h := h.2 c
            refine sg_iconst (pc := 88) dX10_set_88 (by omega) ?_
            exact st_ireturn (pc := 89) dX10_set_89 (Or.inl rfl) h
    · replace h := h.2 c
      refine sg_bipush (pc := 19) dX10_set_19 (by omega) (by decide) ?_
      refine st_goto (pc := 21) dX10_set_21 rfl ?_
      refine sg_istore (pc := 66) (ls' := [some (vr a0), some (vi a1), some (vi a2), some (vi 0), some (vi 16), none]) dX10_set_66 (by show (4 : Nat) < 6; decide) rfl ?_
      refine st_iload_n (pc := 68) dX10_set_68 rfl rfl ?_
      refine sg_iconst (pc := 69) dX10_set_69 (by omega) ?_
      refine sg_bipush (pc := 70) dX10_set_70 (by omega) (by decide) ?_
      obtain ⟨mc11, ms11, K11, hC, e1, e2, h⟩ := h
      refine sg_SI (pc := 72) (av := [vi a1, vi 0, vi 6]) (st := []) (K := K11) dX10_set_72 ck_10_151 rfl (by show (0 : Nat) ≤ 8; decide) hC e1 e2 (fun x11 m17 hK => ?_) rfl
      replace h := h x11 m17 hK
      refine st_ifeq (pc := 75) (tgt := 88) dX10_set_75 rfl (fun c => ?_) (fun c => ?_)
      · replace h := h.1 c
        refine sg_iconst (pc := 88) dX10_set_88 (by omega) ?_
        exact st_ireturn (pc := 89) dX10_set_89 (Or.inl rfl) h
      · replace h := h.2 c
        refine st_iload_n (pc := 78) dX10_set_78 rfl rfl ?_
        refine st_iload_n (pc := 79) dX10_set_79 rfl rfl ?_
        refine st_iload (pc := 80) dX10_set_80 rfl ?_
        obtain ⟨mc12, ms12, K12, hC, e1, e2, h⟩ := h
        refine sg_SI (pc := 82) (av := [vi a2, vi 0, vi 16]) (st := []) (K := K12) dX10_set_82 ck_10_151 rfl (by show (0 : Nat) ≤ 8; decide) hC e1 e2 (fun x12 m18 hK => ?_) rfl
        replace h := h x12 m18 hK
        refine st_ifne (pc := 85) (tgt := 90) dX10_set_85 rfl (fun c => ?_) (fun c => ?_)
        · replace h := h.1 c
          refine st_aload_n (pc := 90) dX10_set_90 rfl rfl ?_
          obtain ⟨hk17, h⟩ := h
          refine sg_gfR (pc := 91) (J := 3) dX10_set_91 fl_10_19 rfl hk17 ?_
          refine st_iload_n (pc := 94) dX10_set_94 rfl rfl ?_
          obtain ⟨hk18, h⟩ := h
          obtain ⟨h1, h⟩ := h
          refine sg_iaload (pc := 95) dX10_set_95 hk18 h1 ?_
          refine sg_istore (pc := 96) (ls' := [some (vr a0), some (vi a1), some (vi a2), some (vi 0), some (vi 16), some (vi (mD m18 (mR m18 a0 3) a1))]) dX10_set_96 (by show (5 : Nat) < 6; decide) rfl ?_
          refine Wp.nameL (ls2 := fun v => [some (vr a0), some (vi a1), some (vi a2), some (vi 0), some (vi 16), some (vi v)]) 5 _ rfl (fun _ => rfl) (fun v6 ev6 => ?_)
          replace h := h v6 ev6
          refine st_aload_n (pc := 98) dX10_set_98 rfl rfl ?_
          refine sg_gfR (pc := 99) (J := 3) dX10_set_99 fl_10_19 rfl hk17 ?_
          refine st_iload_n (pc := 102) dX10_set_102 rfl rfl ?_
          refine st_iload_n (pc := 103) dX10_set_103 rfl rfl ?_
          obtain ⟨hk19, h⟩ := h
          obtain ⟨h1, h⟩ := h
          refine st_iastore (pc := 104) dX10_set_104 hk19 h1.1 h1.2 ?_
          refine Wp.nameM (fun m19 em19 => ?_)
          replace h := h m19 em19
          refine st_iload (pc := 105) dX10_set_105 rfl ?_
          exact st_ireturn (pc := 107) dX10_set_107 (Or.inl rfl) h
        · replace h := h.2 c
          refine sg_iconst (pc := 88) dX10_set_88 (by omega) ?_
          exact st_ireturn (pc := 89) dX10_set_89 (Or.inl rfl) h
  · replace h := h.2 c
    refine sg_iconst (pc := 9) dX10_set_9 (by omega) ?_
    refine st_goto (pc := 10) dX10_set_10 rfl ?_
    refine sg_istore_n (pc := 14) (ls' := [some (vr a0), some (vi a1), some (vi a2), some (vi 1), none, none]) dX10_set_14 rfl (by show (3 : Nat) < 6; decide) rfl ?_
    refine st_iload_n (pc := 15) dX10_set_15 rfl rfl ?_
    refine st_ifne (pc := 16) (tgt := 24) dX10_set_16 rfl (fun c => ?_) (fun c => ?_)
    · replace h := h.1 c
      refine st_iload_n (pc := 24) dX10_set_24 rfl rfl ?_
      refine sg_iconst (pc := 25) dX10_set_25 (by omega) ?_
      refine st_icmpne (pc := 26) (tgt := 34) dX10_set_26 rfl (fun c => ?_) (fun c => ?_)
      · replace h := h.1 c
        refine st_iload_n (pc := 34) dX10_set_34 rfl rfl ?_
        refine sg_iconst (pc := 35) dX10_set_35 (by omega) ?_
        refine st_icmpne (pc := 36) (tgt := 44) dX10_set_36 rfl (fun c => ?_) (fun c => ?_)
        · replace h := h.1 c
          refine st_iload_n (pc := 44) dX10_set_44 rfl rfl ?_
          refine sg_iconst (pc := 45) dX10_set_45 (by omega) ?_
          refine st_icmpne (pc := 46) (tgt := 54) dX10_set_46 rfl (fun c => ?_) (fun c => ?_)
          · replace h := h.1 c
            refine st_iload_n (pc := 54) dX10_set_54 rfl rfl ?_
            refine sg_bipush (pc := 55) dX10_set_55 (by omega) (by decide) ?_
            refine st_icmpne (pc := 57) (tgt := 64) dX10_set_57 rfl (fun c => ?_) (fun c => ?_)
            · replace h := h.1 c
              refine sg_bipush (pc := 64) dX10_set_64 (by omega) (by decide) ?_
              refine sg_istore (pc := 66) (ls' := [some (vr a0), some (vi a1), some (vi a2), some (vi 1), some (vi 20), none]) dX10_set_66 (by show (4 : Nat) < 6; decide) rfl ?_
              refine st_iload_n (pc := 68) dX10_set_68 rfl rfl ?_
              refine sg_iconst (pc := 69) dX10_set_69 (by omega) ?_
              refine sg_bipush (pc := 70) dX10_set_70 (by omega) (by decide) ?_
              obtain ⟨mc13, ms13, K13, hC, e1, e2, h⟩ := h
              refine sg_SI (pc := 72) (av := [vi a1, vi 0, vi 6]) (st := []) (K := K13) dX10_set_72 ck_10_151 rfl (by show (0 : Nat) ≤ 8; decide) hC e1 e2 (fun x13 m20 hK => ?_) rfl
              replace h := h x13 m20 hK
              refine st_ifeq (pc := 75) (tgt := 88) dX10_set_75 rfl (fun c => ?_) (fun c => ?_)
              · replace h := h.1 c
                refine sg_iconst (pc := 88) dX10_set_88 (by omega) ?_
                exact st_ireturn (pc := 89) dX10_set_89 (Or.inl rfl) h
              · replace h := h.2 c
                refine st_iload_n (pc := 78) dX10_set_78 rfl rfl ?_
                refine st_iload_n (pc := 79) dX10_set_79 rfl rfl ?_
                refine st_iload (pc := 80) dX10_set_80 rfl ?_
                obtain ⟨mc14, ms14, K14, hC, e1, e2, h⟩ := h
                refine sg_SI (pc := 82) (av := [vi a2, vi 1, vi 20]) (st := []) (K := K14) dX10_set_82 ck_10_151 rfl (by show (0 : Nat) ≤ 8; decide) hC e1 e2 (fun x14 m21 hK => ?_) rfl
                replace h := h x14 m21 hK
                refine st_ifne (pc := 85) (tgt := 90) dX10_set_85 rfl (fun c => ?_) (fun c => ?_)
                · replace h := h.1 c
                  refine st_aload_n (pc := 90) dX10_set_90 rfl rfl ?_
                  obtain ⟨hk20, h⟩ := h
                  refine sg_gfR (pc := 91) (J := 3) dX10_set_91 fl_10_19 rfl hk20 ?_
                  refine st_iload_n (pc := 94) dX10_set_94 rfl rfl ?_
                  obtain ⟨hk21, h⟩ := h
                  obtain ⟨h1, h⟩ := h
                  refine sg_iaload (pc := 95) dX10_set_95 hk21 h1 ?_
                  refine sg_istore (pc := 96) (ls' := [some (vr a0), some (vi a1), some (vi a2), some (vi 1), some (vi 20), some (vi (mD m21 (mR m21 a0 3) a1))]) dX10_set_96 (by show (5 : Nat) < 6; decide) rfl ?_
                  refine Wp.nameL (ls2 := fun v => [some (vr a0), some (vi a1), some (vi a2), some (vi 1), some (vi 20), some (vi v)]) 5 _ rfl (fun _ => rfl) (fun v7 ev7 => ?_)
                  replace h := h v7 ev7
                  refine st_aload_n (pc := 98) dX10_set_98 rfl rfl ?_
                  refine sg_gfR (pc := 99) (J := 3) dX10_set_99 fl_10_19 rfl hk20 ?_
                  refine st_iload_n (pc := 102) dX10_set_102 rfl rfl ?_
                  refine st_iload_n (pc := 103) dX10_set_103 rfl rfl ?_
                  obtain ⟨hk22, h⟩ := h
                  obtain ⟨h1, h⟩ := h
                  refine st_iastore (pc := 104) dX10_set_104 hk22 h1.1 h1.2 ?_
                  refine Wp.nameM (fun m22 em22 => ?_)
                  replace h := h m22 em22
                  refine st_iload (pc := 105) dX10_set_105 rfl ?_
                  exact st_ireturn (pc := 107) dX10_set_107 (Or.inl rfl) h
                · replace h := h.2 c
                  refine sg_iconst (pc := 88) dX10_set_88 (by omega) ?_
                  exact st_ireturn (pc := 89) dX10_set_89 (Or.inl rfl) h
            · replace h := h.2 c
              refine sg_iconst (pc := 60) dX10_set_60 (by omega) ?_
              refine st_goto (pc := 61) dX10_set_61 rfl ?_
              refine sg_istore (pc := 66) (ls' := [some (vr a0), some (vi a1), some (vi a2), some (vi 1), some (vi 3), none]) dX10_set_66 (by show (4 : Nat) < 6; decide) rfl ?_
              refine st_iload_n (pc := 68) dX10_set_68 rfl rfl ?_
              refine sg_iconst (pc := 69) dX10_set_69 (by omega) ?_
              refine sg_bipush (pc := 70) dX10_set_70 (by omega) (by decide) ?_
              obtain ⟨mc15, ms15, K15, hC, e1, e2, h⟩ := h
              refine sg_SI (pc := 72) (av := [vi a1, vi 0, vi 6]) (st := []) (K := K15) dX10_set_72 ck_10_151 rfl (by show (0 : Nat) ≤ 8; decide) hC e1 e2 (fun x15 m23 hK => ?_) rfl
              replace h := h x15 m23 hK
              refine st_ifeq (pc := 75) (tgt := 88) dX10_set_75 rfl (fun c => ?_) (fun c => ?_)
              · replace h := h.1 c
                refine sg_iconst (pc := 88) dX10_set_88 (by omega) ?_
                exact st_ireturn (pc := 89) dX10_set_89 (Or.inl rfl) h
              · replace h := h.2 c
                refine st_iload_n (pc := 78) dX10_set_78 rfl rfl ?_
                refine st_iload_n (pc := 79) dX10_set_79 rfl rfl ?_
                refine st_iload (pc := 80) dX10_set_80 rfl ?_
                obtain ⟨mc16, ms16, K16, hC, e1, e2, h⟩ := h
                refine sg_SI (pc := 82) (av := [vi a2, vi 1, vi 3]) (st := []) (K := K16) dX10_set_82 ck_10_151 rfl (by show (0 : Nat) ≤ 8; decide) hC e1 e2 (fun x16 m24 hK => ?_) rfl
                replace h := h x16 m24 hK
                refine st_ifne (pc := 85) (tgt := 90) dX10_set_85 rfl (fun c => ?_) (fun c => ?_)
                · replace h := h.1 c
                  refine st_aload_n (pc := 90) dX10_set_90 rfl rfl ?_
                  obtain ⟨hk23, h⟩ := h
                  refine sg_gfR (pc := 91) (J := 3) dX10_set_91 fl_10_19 rfl hk23 ?_
                  refine st_iload_n (pc := 94) dX10_set_94 rfl rfl ?_
                  obtain ⟨hk24, h⟩ := h
                  obtain ⟨h1, h⟩ := h
                  refine sg_iaload (pc := 95) dX10_set_95 hk24 h1 ?_
                  refine sg_istore (pc := 96) (ls' := [some (vr a0), some (vi a1), some (vi a2), some (vi 1), some (vi 3), some (vi (mD m24 (mR m24 a0 3) a1))]) dX10_set_96 (by show (5 : Nat) < 6; decide) rfl ?_
                  refine Wp.nameL (ls2 := fun v => [some (vr a0), some (vi a1), some (vi a2), some (vi 1), some (vi 3), some (vi v)]) 5 _ rfl (fun _ => rfl) (fun v8 ev8 => ?_)
                  replace h := h v8 ev8
                  refine st_aload_n (pc := 98) dX10_set_98 rfl rfl ?_
                  refine sg_gfR (pc := 99) (J := 3) dX10_set_99 fl_10_19 rfl hk23 ?_
                  refine st_iload_n (pc := 102) dX10_set_102 rfl rfl ?_
                  refine st_iload_n (pc := 103) dX10_set_103 rfl rfl ?_
                  obtain ⟨hk25, h⟩ := h
                  obtain ⟨h1, h⟩ := h
                  refine st_iastore (pc := 104) dX10_set_104 hk25 h1.1 h1.2 ?_
                  refine Wp.nameM (fun m25 em25 => ?_)
                  replace h := h m25 em25
                  refine st_iload (pc := 105) dX10_set_105 rfl ?_
                  exact st_ireturn (pc := 107) dX10_set_107 (Or.inl rfl) h
                · replace h := h.2 c
                  refine sg_iconst (pc := 88) dX10_set_88 (by omega) ?_
                  exact st_ireturn (pc := 89) dX10_set_89 (Or.inl rfl) h
          · replace h := h.2 c
            refine sg_bipush (pc := 49) dX10_set_49 (by omega) (by decide) ?_
            refine st_goto (pc := 51) dX10_set_51 rfl ?_
            refine sg_istore (pc := 66) (ls' := [some (vr a0), some (vi a1), some (vi a2), some (vi 1), some (vi 100), none]) dX10_set_66 (by show (4 : Nat) < 6; decide) rfl ?_
            refine st_iload_n (pc := 68) dX10_set_68 rfl rfl ?_
            refine sg_iconst (pc := 69) dX10_set_69 (by omega) ?_
            refine sg_bipush (pc := 70) dX10_set_70 (by omega) (by decide) ?_
            obtain ⟨mc17, ms17, K17, hC, e1, e2, h⟩ := h
            refine sg_SI (pc := 72) (av := [vi a1, vi 0, vi 6]) (st := []) (K := K17) dX10_set_72 ck_10_151 rfl (by show (0 : Nat) ≤ 8; decide) hC e1 e2 (fun x17 m26 hK => ?_) rfl
            replace h := h x17 m26 hK
            refine st_ifeq (pc := 75) (tgt := 88) dX10_set_75 rfl (fun c => ?_) (fun c => ?_)
            · replace h := h.1 c
              refine sg_iconst (pc := 88) dX10_set_88 (by omega) ?_
              exact st_ireturn (pc := 89) dX10_set_89 (Or.inl rfl) h
            · replace h := h.2 c
              refine st_iload_n (pc := 78) dX10_set_78 rfl rfl ?_
              refine st_iload_n (pc := 79) dX10_set_79 rfl rfl ?_
              refine st_iload (pc := 80) dX10_set_80 rfl ?_
              obtain ⟨mc18, ms18, K18, hC, e1, e2, h⟩ := h
              refine sg_SI (pc := 82) (av := [vi a2, vi 1, vi 100]) (st := []) (K := K18) dX10_set_82 ck_10_151 rfl (by show (0 : Nat) ≤ 8; decide) hC e1 e2 (fun x18 m27 hK => ?_) rfl
              replace h := h x18 m27 hK
              refine st_ifne (pc := 85) (tgt := 90) dX10_set_85 rfl (fun c => ?_) (fun c => ?_)
              · replace h := h.1 c
                refine st_aload_n (pc := 90) dX10_set_90 rfl rfl ?_
                obtain ⟨hk26, h⟩ := h
                refine sg_gfR (pc := 91) (J := 3) dX10_set_91 fl_10_19 rfl hk26 ?_
                refine st_iload_n (pc := 94) dX10_set_94 rfl rfl ?_
                obtain ⟨hk27, h⟩ := h
                obtain ⟨h1, h⟩ := h
                refine sg_iaload (pc := 95) dX10_set_95 hk27 h1 ?_
                refine sg_istore (pc := 96) (ls' := [some (vr a0), some (vi a1), some (vi a2), some (vi 1), some (vi 100), some (vi (mD m27 (mR m27 a0 3) a1))]) dX10_set_96 (by show (5 : Nat) < 6; decide) rfl ?_
                refine Wp.nameL (ls2 := fun v => [some (vr a0), some (vi a1), some (vi a2), some (vi 1), some (vi 100), some (vi v)]) 5 _ rfl (fun _ => rfl) (fun v9 ev9 => ?_)
                replace h := h v9 ev9
                refine st_aload_n (pc := 98) dX10_set_98 rfl rfl ?_
                refine sg_gfR (pc := 99) (J := 3) dX10_set_99 fl_10_19 rfl hk26 ?_
                refine st_iload_n (pc := 102) dX10_set_102 rfl rfl ?_
                refine st_iload_n (pc := 103) dX10_set_103 rfl rfl ?_
                obtain ⟨hk28, h⟩ := h
                obtain ⟨h1, h⟩ := h
                refine st_iastore (pc := 104) dX10_set_104 hk28 h1.1 h1.2 ?_
                refine Wp.nameM (fun m28 em28 => ?_)
                replace h := h m28 em28
                refine st_iload (pc := 105) dX10_set_105 rfl ?_
                exact st_ireturn (pc := 107) dX10_set_107 (Or.inl rfl) h
              · replace h := h.2 c
                refine sg_iconst (pc := 88) dX10_set_88 (by omega) ?_
                exact st_ireturn (pc := 89) dX10_set_89 (Or.inl rfl) h
        · replace h := h.2 c
          refine sg_bipush (pc := 39) dX10_set_39 (by omega) (by decide) ?_
          refine st_goto (pc := 41) dX10_set_41 rfl ?_
          refine sg_istore (pc := 66) (ls' := [some (vr a0), some (vi a1), some (vi a2), some (vi 1), some (vi 9), none]) dX10_set_66 (by show (4 : Nat) < 6; decide) rfl ?_
          refine st_iload_n (pc := 68) dX10_set_68 rfl rfl ?_
          refine sg_iconst (pc := 69) dX10_set_69 (by omega) ?_
          refine sg_bipush (pc := 70) dX10_set_70 (by omega) (by decide) ?_
          obtain ⟨mc19, ms19, K19, hC, e1, e2, h⟩ := h
          refine sg_SI (pc := 72) (av := [vi a1, vi 0, vi 6]) (st := []) (K := K19) dX10_set_72 ck_10_151 rfl (by show (0 : Nat) ≤ 8; decide) hC e1 e2 (fun x19 m29 hK => ?_) rfl
          replace h := h x19 m29 hK
          refine st_ifeq (pc := 75) (tgt := 88) dX10_set_75 rfl (fun c => ?_) (fun c => ?_)
          · replace h := h.1 c
            refine sg_iconst (pc := 88) dX10_set_88 (by omega) ?_
            exact st_ireturn (pc := 89) dX10_set_89 (Or.inl rfl) h
          · replace h := h.2 c
            refine st_iload_n (pc := 78) dX10_set_78 rfl rfl ?_
            refine st_iload_n (pc := 79) dX10_set_79 rfl rfl ?_
            refine st_iload (pc := 80) dX10_set_80 rfl ?_
            obtain ⟨mc20, ms20, K20, hC, e1, e2, h⟩ := h
            refine sg_SI (pc := 82) (av := [vi a2, vi 1, vi 9]) (st := []) (K := K20) dX10_set_82 ck_10_151 rfl (by show (0 : Nat) ≤ 8; decide) hC e1 e2 (fun x20 m30 hK => ?_) rfl
            replace h := h x20 m30 hK
            refine st_ifne (pc := 85) (tgt := 90) dX10_set_85 rfl (fun c => ?_) (fun c => ?_)
            · replace h := h.1 c
              refine st_aload_n (pc := 90) dX10_set_90 rfl rfl ?_
              obtain ⟨hk29, h⟩ := h
              refine sg_gfR (pc := 91) (J := 3) dX10_set_91 fl_10_19 rfl hk29 ?_
              refine st_iload_n (pc := 94) dX10_set_94 rfl rfl ?_
              obtain ⟨hk30, h⟩ := h
              obtain ⟨h1, h⟩ := h
              refine sg_iaload (pc := 95) dX10_set_95 hk30 h1 ?_
              refine sg_istore (pc := 96) (ls' := [some (vr a0), some (vi a1), some (vi a2), some (vi 1), some (vi 9), some (vi (mD m30 (mR m30 a0 3) a1))]) dX10_set_96 (by show (5 : Nat) < 6; decide) rfl ?_
              refine Wp.nameL (ls2 := fun v => [some (vr a0), some (vi a1), some (vi a2), some (vi 1), some (vi 9), some (vi v)]) 5 _ rfl (fun _ => rfl) (fun v10 ev10 => ?_)
              replace h := h v10 ev10
              refine st_aload_n (pc := 98) dX10_set_98 rfl rfl ?_
              refine sg_gfR (pc := 99) (J := 3) dX10_set_99 fl_10_19 rfl hk29 ?_
              refine st_iload_n (pc := 102) dX10_set_102 rfl rfl ?_
              refine st_iload_n (pc := 103) dX10_set_103 rfl rfl ?_
              obtain ⟨hk31, h⟩ := h
              obtain ⟨h1, h⟩ := h
              refine st_iastore (pc := 104) dX10_set_104 hk31 h1.1 h1.2 ?_
              refine Wp.nameM (fun m31 em31 => ?_)
              replace h := h m31 em31
              refine st_iload (pc := 105) dX10_set_105 rfl ?_
              exact st_ireturn (pc := 107) dX10_set_107 (Or.inl rfl) h
            · replace h := h.2 c
              refine sg_iconst (pc := 88) dX10_set_88 (by omega) ?_
              exact st_ireturn (pc := 89) dX10_set_89 (Or.inl rfl) h
      · replace h := h.2 c
        refine sg_bipush (pc := 29) dX10_set_29 (by omega) (by decide) ?_
        refine st_goto (pc := 31) dX10_set_31 rfl ?_
        refine sg_istore (pc := 66) (ls' := [some (vr a0), some (vi a1), some (vi a2), some (vi 1), some (vi 50), none]) dX10_set_66 (by show (4 : Nat) < 6; decide) rfl ?_
        refine st_iload_n (pc := 68) dX10_set_68 rfl rfl ?_
        refine sg_iconst (pc := 69) dX10_set_69 (by omega) ?_
        refine sg_bipush (pc := 70) dX10_set_70 (by omega) (by decide) ?_
        obtain ⟨mc21, ms21, K21, hC, e1, e2, h⟩ := h
        refine sg_SI (pc := 72) (av := [vi a1, vi 0, vi 6]) (st := []) (K := K21) dX10_set_72 ck_10_151 rfl (by show (0 : Nat) ≤ 8; decide) hC e1 e2 (fun x21 m32 hK => ?_) rfl
        replace h := h x21 m32 hK
        refine st_ifeq (pc := 75) (tgt := 88) dX10_set_75 rfl (fun c => ?_) (fun c => ?_)
        · replace h := h.1 c
          refine sg_iconst (pc := 88) dX10_set_88 (by omega) ?_
          exact st_ireturn (pc := 89) dX10_set_89 (Or.inl rfl) h
        · replace h := h.2 c
          refine st_iload_n (pc := 78) dX10_set_78 rfl rfl ?_
          refine st_iload_n (pc := 79) dX10_set_79 rfl rfl ?_
          refine st_iload (pc := 80) dX10_set_80 rfl ?_
          obtain ⟨mc22, ms22, K22, hC, e1, e2, h⟩ := h
          refine sg_SI (pc := 82) (av := [vi a2, vi 1, vi 50]) (st := []) (K := K22) dX10_set_82 ck_10_151 rfl (by show (0 : Nat) ≤ 8; decide) hC e1 e2 (fun x22 m33 hK => ?_) rfl
          replace h := h x22 m33 hK
          refine st_ifne (pc := 85) (tgt := 90) dX10_set_85 rfl (fun c => ?_) (fun c => ?_)
          · replace h := h.1 c
            refine st_aload_n (pc := 90) dX10_set_90 rfl rfl ?_
            obtain ⟨hk32, h⟩ := h
            refine sg_gfR (pc := 91) (J := 3) dX10_set_91 fl_10_19 rfl hk32 ?_
            refine st_iload_n (pc := 94) dX10_set_94 rfl rfl ?_
            obtain ⟨hk33, h⟩ := h
            obtain ⟨h1, h⟩ := h
            refine sg_iaload (pc := 95) dX10_set_95 hk33 h1 ?_
            refine sg_istore (pc := 96) (ls' := [some (vr a0), some (vi a1), some (vi a2), some (vi 1), some (vi 50), some (vi (mD m33 (mR m33 a0 3) a1))]) dX10_set_96 (by show (5 : Nat) < 6; decide) rfl ?_
            refine Wp.nameL (ls2 := fun v => [some (vr a0), some (vi a1), some (vi a2), some (vi 1), some (vi 50), some (vi v)]) 5 _ rfl (fun _ => rfl) (fun v11 ev11 => ?_)
            replace h := h v11 ev11
            refine st_aload_n (pc := 98) dX10_set_98 rfl rfl ?_
            refine sg_gfR (pc := 99) (J := 3) dX10_set_99 fl_10_19 rfl hk32 ?_
            refine st_iload_n (pc := 102) dX10_set_102 rfl rfl ?_
            refine st_iload_n (pc := 103) dX10_set_103 rfl rfl ?_
            obtain ⟨hk34, h⟩ := h
            obtain ⟨h1, h⟩ := h
            refine st_iastore (pc := 104) dX10_set_104 hk34 h1.1 h1.2 ?_
            refine Wp.nameM (fun m34 em34 => ?_)
            replace h := h m34 em34
            refine st_iload (pc := 105) dX10_set_105 rfl ?_
            exact st_ireturn (pc := 107) dX10_set_107 (Or.inl rfl) h
          · replace h := h.2 c
            refine sg_iconst (pc := 88) dX10_set_88 (by omega) ?_
            exact st_ireturn (pc := 89) dX10_set_89 (Or.inl rfl) h
    · replace h := h.2 c
      refine sg_bipush (pc := 19) dX10_set_19 (by omega) (by decide) ?_
      refine st_goto (pc := 21) dX10_set_21 rfl ?_
      refine sg_istore (pc := 66) (ls' := [some (vr a0), some (vi a1), some (vi a2), some (vi 1), some (vi 16), none]) dX10_set_66 (by show (4 : Nat) < 6; decide) rfl ?_
      refine st_iload_n (pc := 68) dX10_set_68 rfl rfl ?_
      refine sg_iconst (pc := 69) dX10_set_69 (by omega) ?_
      refine sg_bipush (pc := 70) dX10_set_70 (by omega) (by decide) ?_
      obtain ⟨mc23, ms23, K23, hC, e1, e2, h⟩ := h
      refine sg_SI (pc := 72) (av := [vi a1, vi 0, vi 6]) (st := []) (K := K23) dX10_set_72 ck_10_151 rfl (by show (0 : Nat) ≤ 8; decide) hC e1 e2 (fun x23 m35 hK => ?_) rfl
      replace h := h x23 m35 hK
      refine st_ifeq (pc := 75) (tgt := 88) dX10_set_75 rfl (fun c => ?_) (fun c => ?_)
      · replace h := h.1 c
        refine sg_iconst (pc := 88) dX10_set_88 (by omega) ?_
        exact st_ireturn (pc := 89) dX10_set_89 (Or.inl rfl) h
      · replace h := h.2 c
        refine st_iload_n (pc := 78) dX10_set_78 rfl rfl ?_
        refine st_iload_n (pc := 79) dX10_set_79 rfl rfl ?_
        refine st_iload (pc := 80) dX10_set_80 rfl ?_
        obtain ⟨mc24, ms24, K24, hC, e1, e2, h⟩ := h
        refine sg_SI (pc := 82) (av := [vi a2, vi 1, vi 16]) (st := []) (K := K24) dX10_set_82 ck_10_151 rfl (by show (0 : Nat) ≤ 8; decide) hC e1 e2 (fun x24 m36 hK => ?_) rfl
        replace h := h x24 m36 hK
        refine st_ifne (pc := 85) (tgt := 90) dX10_set_85 rfl (fun c => ?_) (fun c => ?_)
        · replace h := h.1 c
          refine st_aload_n (pc := 90) dX10_set_90 rfl rfl ?_
          obtain ⟨hk35, h⟩ := h
          refine sg_gfR (pc := 91) (J := 3) dX10_set_91 fl_10_19 rfl hk35 ?_
          refine st_iload_n (pc := 94) dX10_set_94 rfl rfl ?_
          obtain ⟨hk36, h⟩ := h
          obtain ⟨h1, h⟩ := h
          refine sg_iaload (pc := 95) dX10_set_95 hk36 h1 ?_
          refine sg_istore (pc := 96) (ls' := [some (vr a0), some (vi a1), some (vi a2), some (vi 1), some (vi 16), some (vi (mD m36 (mR m36 a0 3) a1))]) dX10_set_96 (by show (5 : Nat) < 6; decide) rfl ?_
          refine Wp.nameL (ls2 := fun v => [some (vr a0), some (vi a1), some (vi a2), some (vi 1), some (vi 16), some (vi v)]) 5 _ rfl (fun _ => rfl) (fun v12 ev12 => ?_)
          replace h := h v12 ev12
          refine st_aload_n (pc := 98) dX10_set_98 rfl rfl ?_
          refine sg_gfR (pc := 99) (J := 3) dX10_set_99 fl_10_19 rfl hk35 ?_
          refine st_iload_n (pc := 102) dX10_set_102 rfl rfl ?_
          refine st_iload_n (pc := 103) dX10_set_103 rfl rfl ?_
          obtain ⟨hk37, h⟩ := h
          obtain ⟨h1, h⟩ := h
          refine st_iastore (pc := 104) dX10_set_104 hk37 h1.1 h1.2 ?_
          refine Wp.nameM (fun m37 em37 => ?_)
          replace h := h m37 em37
          refine st_iload (pc := 105) dX10_set_105 rfl ?_
          exact st_ireturn (pc := 107) dX10_set_107 (Or.inl rfl) h
        · replace h := h.2 c
          refine sg_iconst (pc := 88) dX10_set_88 (by omega) ?_
          exact st_ireturn (pc := 89) dX10_set_89 (Or.inl rfl) h

theorem sg_X10_isGap_0 {d bc bs : Nat} {a0 : Nat} {a1 : Int} {μ : Mem} {Q : Option (Option AV) → Mem → Prop}
    (h : mK μ a0 = 11 ∧ (∃ (mc1 ms1 : Nat) (K1 : Int → Mem → Prop), Cl d mc1 ms1 mX10_in [vi a1, vi 0, vi (w32 ((mD μ a0 0) - 2))] μ (KI K1) ∧ mc1 ≤ bc ∧ ms1 ≤ bs ∧ (∀ x1 m1, K1 x1 m1 → (x1 = 0 ∨ x1 = 1) ∧ Q (some (some (vi x1))) m1))) :
    Wp (d + 1) bc bs mX10_isGap 0 [some (vr a0), some (vi a1)] [] μ Q := by
  refine st_iload_n (pc := 0) dX10_isGap_0 rfl rfl ?_
  refine sg_iconst (pc := 1) dX10_isGap_1 (by omega) ?_
  refine st_aload_n (pc := 2) dX10_isGap_2 rfl rfl ?_
  obtain ⟨hk1, h⟩ := h
  refine sg_gfI (pc := 3) (J := 0) dX10_isGap_3 fl_10_9 (by decide) rfl hk1 ?_
  refine sg_iconst (pc := 6) dX10_isGap_6 (by omega) ?_
  refine st_isub (pc := 7) dX10_isGap_7 ?_
  obtain ⟨mc1, ms1, K1, hC, e1, e2, h⟩ := h
  refine sg_SI (pc := 8) (av := [vi a1, vi 0, vi (w32 ((mD μ a0 0) - 2))]) (st := []) (K := K1) dX10_isGap_8 ck_10_151 rfl (by show (0 : Nat) ≤ 8; decide) hC e1 e2 (fun x1 m1 hK => ?_) rfl
  replace h := h x1 m1 hK
  exact st_ireturn (pc := 11) dX10_isGap_11 (Or.inr ⟨rfl, h.1⟩) h.2

theorem sg_X10_wall_0 {d bc bs : Nat} {a0 : Nat} {a1 : Int} {a2 : Int} {μ : Mem} {Q : Option (Option AV) → Mem → Prop}
    (h : mK μ a0 = 11 ∧ (∀ m1, m1 = sD μ a0 15 0 → ∃ (mc1 ms1 : Nat) (K1 : Int → Mem → Prop), Cl d mc1 ms1 mX10_isGap [vr a0, vi a1] m1 (KI K1) ∧ mc1 ≤ bc ∧ ms1 ≤ bs ∧ (∀ x1 m2, K1 x1 m2 → (x1 = 0 → Q (some (some (vi (-1)))) m2) ∧ (¬ x1 = 0 → ∃ (mc2 ms2 : Nat) (K2 : Int → Mem → Prop), Cl d mc2 ms2 mX10_in [vi a2, vi 0, vi 100] m2 (KI K2) ∧ mc2 ≤ bc - mc1 ∧ ms2 ≤ bs - ms1 ∧ (∀ x2 m3, K2 x2 m3 → (¬ x2 = 0 → mK m3 a0 = 11 ∧ ((mK m3 (mR m3 a0 4) = 20 ∨ ((mR m3 a0 4) ≠ 0 ∧ mK m3 (mR m3 a0 4) = 40)) ∧ ((0 : Int) ≤ a1 ∧ a1 < (mN m3 (mR m3 a0 4) : Int)) ∧ (∀ v1, v1 = mD m3 (mR m3 a0 4) a1 → mK m3 (mR m3 a0 4) = 20 ∧ ((0 : Int) ≤ a1 ∧ a1 < (mN m3 (mR m3 a0 4) : Int)) ∧ (∀ m4, m4 = sD m3 (mR m3 a0 4) a1 a2 → Q (some (some (vi v1))) m4)))) ∧ (x2 = 0 → Q (some (some (vi (-1)))) m3)))))) :
    Wp (d + 1) bc bs mX10_wall 0 [some (vr a0), some (vi a1), some (vi a2), none] [] μ Q := by
  refine st_aload_n (pc := 0) dX10_wall_0 rfl rfl ?_
  refine sg_iconst (pc := 1) dX10_wall_1 (by omega) ?_
  obtain ⟨hk1, h⟩ := h
  refine sg_pfI (pc := 2) (J := 15) dX10_wall_2 fl_10_142 rfl (Or.inl rfl) hk1 ?_
  refine Wp.nameM (fun m1 em1 => ?_)
  replace h := h m1 em1
  refine st_aload_n (pc := 5) dX10_wall_5 rfl rfl ?_
  refine st_iload_n (pc := 6) dX10_wall_6 rfl rfl ?_
  obtain ⟨mc1, ms1, K1, hC, e1, e2, h⟩ := h
  refine sg_VI (pc := 7) (av := [vi a1]) (st := []) (K := K1) dX10_wall_7 ck_10_158 rfl (by decide) (by cases em1; exact hk1) (by show (0 : Nat) ≤ 8; decide) hC e1 e2 (fun x1 m2 hK => ?_) rfl
  replace h := h x1 m2 hK
  refine st_ifeq (pc := 10) (tgt := 23) dX10_wall_10 rfl (fun c => ?_) (fun c => ?_)
  · replace h := h.1 c
    refine sg_iconst (pc := 23) dX10_wall_23 (by omega) ?_
    exact st_ireturn (pc := 24) dX10_wall_24 (Or.inl rfl) h
  · replace h := h.2 c
    refine st_iload_n (pc := 13) dX10_wall_13 rfl rfl ?_
    refine sg_iconst (pc := 14) dX10_wall_14 (by omega) ?_
    refine sg_bipush (pc := 15) dX10_wall_15 (by omega) (by decide) ?_
    obtain ⟨mc2, ms2, K2, hC, e1, e2, h⟩ := h
    refine sg_SI (pc := 17) (av := [vi a2, vi 0, vi 100]) (st := []) (K := K2) dX10_wall_17 ck_10_151 rfl (by show (0 : Nat) ≤ 8; decide) hC e1 e2 (fun x2 m3 hK => ?_) rfl
    replace h := h x2 m3 hK
    refine st_ifne (pc := 20) (tgt := 25) dX10_wall_20 rfl (fun c => ?_) (fun c => ?_)
    · replace h := h.1 c
      refine st_aload_n (pc := 25) dX10_wall_25 rfl rfl ?_
      obtain ⟨hk2, h⟩ := h
      refine sg_gfR (pc := 26) (J := 4) dX10_wall_26 fl_10_23 rfl hk2 ?_
      refine st_iload_n (pc := 29) dX10_wall_29 rfl rfl ?_
      obtain ⟨hk3, h⟩ := h
      obtain ⟨h1, h⟩ := h
      refine sg_iaload (pc := 30) dX10_wall_30 hk3 h1 ?_
      refine sg_istore_n (pc := 31) (ls' := [some (vr a0), some (vi a1), some (vi a2), some (vi (mD m3 (mR m3 a0 4) a1))]) dX10_wall_31 rfl (by show (3 : Nat) < 4; decide) rfl ?_
      refine Wp.nameL (ls2 := fun v => [some (vr a0), some (vi a1), some (vi a2), some (vi v)]) 3 _ rfl (fun _ => rfl) (fun v1 ev1 => ?_)
      replace h := h v1 ev1
      refine st_aload_n (pc := 32) dX10_wall_32 rfl rfl ?_
      refine sg_gfR (pc := 33) (J := 4) dX10_wall_33 fl_10_23 rfl hk2 ?_
      refine st_iload_n (pc := 36) dX10_wall_36 rfl rfl ?_
      refine st_iload_n (pc := 37) dX10_wall_37 rfl rfl ?_
      obtain ⟨hk4, h⟩ := h
      obtain ⟨h1, h⟩ := h
      refine st_iastore (pc := 38) dX10_wall_38 hk4 h1.1 h1.2 ?_
      refine Wp.nameM (fun m4 em4 => ?_)
      replace h := h m4 em4
      refine st_iload_n (pc := 39) dX10_wall_39 rfl rfl ?_
      exact st_ireturn (pc := 40) dX10_wall_40 (Or.inl rfl) h
    · replace h := h.2 c
      refine sg_iconst (pc := 23) dX10_wall_23 (by omega) ?_
      exact st_ireturn (pc := 24) dX10_wall_24 (Or.inl rfl) h

theorem sg_X10_sheet_0 {d bc bs : Nat} {a0 : Nat} {a1 : Int} {a2 : Int} {a3 : Int} {a4 : Int} {μ : Mem} {Q : Option (Option AV) → Mem → Prop}
    (h : mK μ a0 = 11 ∧ (∀ m1, m1 = sD μ a0 15 0 → ∃ (mc1 ms1 : Nat) (K1 : Int → Mem → Prop), Cl d mc1 ms1 mX10_in [vi a1, vi 0, vi 3] m1 (KI K1) ∧ mc1 ≤ bc ∧ ms1 ≤ bs ∧ (∀ x1 m2, K1 x1 m2 → (x1 = 0 → Q (some (some (vi (-1)))) m2) ∧ (¬ x1 = 0 → mK m2 a0 = 11 ∧ ((a2 ≤ (w32 ((mD m2 a0 0) - 1)) → (3 ≤ a1 → Wp (d + 1) (bc - mc1) (bs - ms1) mX10_sheet 47 [some (vr a0), some (vi a1), some (vi a2), some (vi a3), some (vi a4), some (vi 0), some (vi a3), some (vi 0), none] [] m2 Q) ∧ (¬ 3 ≤ a1 → (0 ≤ a2 → Wp (d + 1) (bc - mc1) (bs - ms1) mX10_sheet 47 [some (vr a0), some (vi a1), some (vi a2), some (vi a3), some (vi a4), some (vi 0), some (vi a3), some (vi 0), none] [] m2 Q) ∧ (¬ 0 ≤ a2 → Q (some (some (vi (-2)))) m2))) ∧ (¬ a2 ≤ (w32 ((mD m2 a0 0) - 1)) → Q (some (some (vi (-1)))) m2)))))) :
    Wp (d + 1) bc bs mX10_sheet 0 [some (vr a0), some (vi a1), some (vi a2), some (vi a3), some (vi a4), none, none, none, none] [] μ Q := by
  refine st_aload_n (pc := 0) dX10_sheet_0 rfl rfl ?_
  refine sg_iconst (pc := 1) dX10_sheet_1 (by omega) ?_
  obtain ⟨hk1, h⟩ := h
  refine sg_pfI (pc := 2) (J := 15) dX10_sheet_2 fl_10_142 rfl (Or.inl rfl) hk1 ?_
  refine Wp.nameM (fun m1 em1 => ?_)
  replace h := h m1 em1
  refine st_iload_n (pc := 5) dX10_sheet_5 rfl rfl ?_
  refine sg_iconst (pc := 6) dX10_sheet_6 (by omega) ?_
  refine sg_iconst (pc := 7) dX10_sheet_7 (by omega) ?_
  obtain ⟨mc1, ms1, K1, hC, e1, e2, h⟩ := h
  refine sg_SI (pc := 8) (av := [vi a1, vi 0, vi 3]) (st := []) (K := K1) dX10_sheet_8 ck_10_151 rfl (by show (0 : Nat) ≤ 8; decide) hC e1 e2 (fun x1 m2 hK => ?_) rfl
  replace h := h x1 m2 hK
  refine st_ifeq (pc := 11) (tgt := 24) dX10_sheet_11 rfl (fun c => ?_) (fun c => ?_)
  · replace h := h.1 c
    refine sg_iconst (pc := 24) dX10_sheet_24 (by omega) ?_
    exact st_ireturn (pc := 25) dX10_sheet_25 (Or.inl rfl) h
  · replace h := h.2 c
    refine st_iload_n (pc := 14) dX10_sheet_14 rfl rfl ?_
    refine st_aload_n (pc := 15) dX10_sheet_15 rfl rfl ?_
    obtain ⟨hk2, h⟩ := h
    refine sg_gfI (pc := 16) (J := 0) dX10_sheet_16 fl_10_9 (by decide) rfl hk2 ?_
    refine sg_iconst (pc := 19) dX10_sheet_19 (by omega) ?_
    refine st_isub (pc := 20) dX10_sheet_20 ?_
    refine st_icmple (pc := 21) (tgt := 26) dX10_sheet_21 rfl (fun c => ?_) (fun c => ?_)
    · replace h := h.1 c
      refine st_iload_n (pc := 26) dX10_sheet_26 rfl rfl ?_
      refine sg_iconst (pc := 27) dX10_sheet_27 (by omega) ?_
      refine st_icmpge (pc := 28) (tgt := 38) dX10_sheet_28 rfl (fun c => ?_) (fun c => ?_)
      · replace h := h.1 c
        refine sg_iconst (pc := 38) dX10_sheet_38 (by omega) ?_
        refine sg_istore (pc := 39) (ls' := [some (vr a0), some (vi a1), some (vi a2), some (vi a3), some (vi a4), some (vi 0), none, none, none]) dX10_sheet_39 (by show (5 : Nat) < 9; decide) rfl ?_
        refine st_iload_n (pc := 41) dX10_sheet_41 rfl rfl ?_
        refine sg_istore (pc := 42) (ls' := [some (vr a0), some (vi a1), some (vi a2), some (vi a3), some (vi a4), some (vi 0), some (vi a3), none, none]) dX10_sheet_42 (by show (6 : Nat) < 9; decide) rfl ?_
        refine sg_iconst (pc := 44) dX10_sheet_44 (by omega) ?_
        refine sg_istore (pc := 45) (ls' := [some (vr a0), some (vi a1), some (vi a2), some (vi a3), some (vi a4), some (vi 0), some (vi a3), some (vi 0), none]) dX10_sheet_45 (by show (7 : Nat) < 9; decide) rfl ?_
        exact h
      · replace h := h.2 c
        refine st_iload_n (pc := 31) dX10_sheet_31 rfl rfl ?_
        refine st_ifge (pc := 32) (tgt := 38) dX10_sheet_32 rfl (fun c => ?_) (fun c => ?_)
        · replace h := h.1 c
          refine sg_iconst (pc := 38) dX10_sheet_38 (by omega) ?_
          refine sg_istore (pc := 39) (ls' := [some (vr a0), some (vi a1), some (vi a2), some (vi a3), some (vi a4), some (vi 0), none, none, none]) dX10_sheet_39 (by show (5 : Nat) < 9; decide) rfl ?_
          refine st_iload_n (pc := 41) dX10_sheet_41 rfl rfl ?_
          refine sg_istore (pc := 42) (ls' := [some (vr a0), some (vi a1), some (vi a2), some (vi a3), some (vi a4), some (vi 0), some (vi a3), none, none]) dX10_sheet_42 (by show (6 : Nat) < 9; decide) rfl ?_
          refine sg_iconst (pc := 44) dX10_sheet_44 (by omega) ?_
          refine sg_istore (pc := 45) (ls' := [some (vr a0), some (vi a1), some (vi a2), some (vi a3), some (vi a4), some (vi 0), some (vi a3), some (vi 0), none]) dX10_sheet_45 (by show (7 : Nat) < 9; decide) rfl ?_
          exact h
        · replace h := h.2 c
          refine sg_bipush (pc := 35) dX10_sheet_35 (by omega) (by decide) ?_
          exact st_ireturn (pc := 37) dX10_sheet_37 (Or.inl rfl) h
    · replace h := h.2 c
      refine sg_iconst (pc := 24) dX10_sheet_24 (by omega) ?_
      exact st_ireturn (pc := 25) dX10_sheet_25 (Or.inl rfl) h

theorem sg_X10_sheet_47 {d bc bs : Nat} {a0 : Nat} {a1 : Int} {a2 : Int} {a3 : Int} {a4 : Int} {a5 : Int} {a6 : Int} {a7 : Int} {μ : Mem} {Q : Option (Option AV) → Mem → Prop}
    (h : mK μ a0 = 11 ∧ (((w32 ((mD μ a0 0) - 1)) ≤ a7 → (¬ a1 = 3 → Q (some (some (vi a5))) μ) ∧ (a1 = 3 → Q (some (some (vi (-3)))) μ)) ∧ (¬ (w32 ((mD μ a0 0) - 1)) ≤ a7 → (¬ a1 = 0 → (¬ a1 = 1 → (a1 = 3 → mK μ (mR μ a0 4) = 20 ∧ ((0 : Int) ≤ a7 ∧ a7 < (mN μ (mR μ a0 4) : Int)) ∧ (∀ m1, m1 = sD μ (mR μ a0 4) a7 100 → (mK m1 (mR m1 a0 4) = 20 ∨ ((mR m1 a0 4) ≠ 0 ∧ mK m1 (mR m1 a0 4) = 40)) ∧ ((0 : Int) ≤ a7 ∧ a7 < (mN m1 (mR m1 a0 4) : Int)) ∧ (∀ v1, v1 = w32 (a5 + (mD m1 (mR m1 a0 4) a7)) → ∀ v2, v2 = w32 (a6 + a4) → ∀ v3, v3 = w32 (a7 + 1) → Wp (d + 1) bc bs mX10_sheet 47 [some (vr a0), some (vi a1), some (vi a2), some (vi a3), some (vi a4), some (vi v1), some (vi v2), some (vi v3), none] [] m1 Q))) ∧ (¬ a1 = 3 → (a7 < a2 → ∃ (mc1 ms1 : Nat) (K1 : Int → Mem → Prop), Cl d mc1 ms1 mJ9_min_7cf53 [vi 100, vi a6] μ (KI K1) ∧ mc1 ≤ bc ∧ ms1 ≤ bs ∧ (∀ x1 m2, K1 x1 m2 → ∃ (mc2 ms2 : Nat) (K2 : Int → Mem → Prop), Cl d mc2 ms2 mJ9_max_7cf53 [vi 0, vi x1] m2 (KI K2) ∧ mc2 ≤ bc - mc1 ∧ ms2 ≤ bs - ms1 ∧ (∀ x2 m3, K2 x2 m3 → mK m3 (mR μ a0 4) = 20 ∧ ((0 : Int) ≤ a7 ∧ a7 < (mN m3 (mR μ a0 4) : Int)) ∧ (∀ m4, m4 = sD m3 (mR μ a0 4) a7 x2 → mK m4 a0 = 11 ∧ ((mK m4 (mR m4 a0 4) = 20 ∨ ((mR m4 a0 4) ≠ 0 ∧ mK m4 (mR m4 a0 4) = 40)) ∧ ((0 : Int) ≤ a7 ∧ a7 < (mN m4 (mR m4 a0 4) : Int)) ∧ (∀ v4, v4 = w32 (a5 + (mD m4 (mR m4 a0 4) a7)) → ∀ v5, v5 = w32 (a6 + a4) → ∀ v6, v6 = w32 (a7 + 1) → Wp (d + 1) (bc - mc1 - mc2) (bs - ms1 - ms2) mX10_sheet 47 [some (vr a0), some (vi a1), some (vi a2), some (vi a3), some (vi a4), some (vi v4), some (vi v5), some (vi v6), none] [] m4 Q)))))) ∧ (¬ a7 < a2 → mK μ (mR μ a0 4) = 20 ∧ ((0 : Int) ≤ a7 ∧ a7 < (mN μ (mR μ a0 4) : Int)) ∧ (∀ m5, m5 = sD μ (mR μ a0 4) a7 100 → (mK m5 (mR m5 a0 4) = 20 ∨ ((mR m5 a0 4) ≠ 0 ∧ mK m5 (mR m5 a0 4) = 40)) ∧ ((0 : Int) ≤ a7 ∧ a7 < (mN m5 (mR m5 a0 4) : Int)) ∧ (∀ v7, v7 = w32 (a5 + (mD m5 (mR m5 a0 4) a7)) → ∀ v8, v8 = w32 (a6 + a4) → ∀ v9, v9 = w32 (a7 + 1) → Wp (d + 1) bc bs mX10_sheet 47 [some (vr a0), some (vi a1), some (vi a2), some (vi a3), some (vi a4), some (vi v7), some (vi v8), some (vi v9), none] [] m5 Q))))) ∧ (a1 = 1 → ∀ v10, v10 = w16 a6 → (a1 = 3 → mK μ (mR μ a0 4) = 20 ∧ ((0 : Int) ≤ a7 ∧ a7 < (mN μ (mR μ a0 4) : Int)) ∧ (∀ m6, m6 = sD μ (mR μ a0 4) a7 100 → (mK m6 (mR m6 a0 4) = 20 ∨ ((mR m6 a0 4) ≠ 0 ∧ mK m6 (mR m6 a0 4) = 40)) ∧ ((0 : Int) ≤ a7 ∧ a7 < (mN m6 (mR m6 a0 4) : Int)) ∧ (∀ v11, v11 = w32 (a5 + (mD m6 (mR m6 a0 4) a7)) → ∀ v12, v12 = w32 (a6 + a4) → ∀ v13, v13 = w32 (a7 + 1) → Wp (d + 1) bc bs mX10_sheet 47 [some (vr a0), some (vi a1), some (vi a2), some (vi a3), some (vi a4), some (vi v11), some (vi v12), some (vi v13), none] [] m6 Q))) ∧ (¬ a1 = 3 → (a7 < a2 → ∃ (mc3 ms3 : Nat) (K3 : Int → Mem → Prop), Cl d mc3 ms3 mJ9_min_7cf53 [vi 100, vi v10] μ (KI K3) ∧ mc3 ≤ bc ∧ ms3 ≤ bs ∧ (∀ x3 m7, K3 x3 m7 → ∃ (mc4 ms4 : Nat) (K4 : Int → Mem → Prop), Cl d mc4 ms4 mJ9_max_7cf53 [vi 0, vi x3] m7 (KI K4) ∧ mc4 ≤ bc - mc3 ∧ ms4 ≤ bs - ms3 ∧ (∀ x4 m8, K4 x4 m8 → mK m8 (mR μ a0 4) = 20 ∧ ((0 : Int) ≤ a7 ∧ a7 < (mN m8 (mR μ a0 4) : Int)) ∧ (∀ m9, m9 = sD m8 (mR μ a0 4) a7 x4 → mK m9 a0 = 11 ∧ ((mK m9 (mR m9 a0 4) = 20 ∨ ((mR m9 a0 4) ≠ 0 ∧ mK m9 (mR m9 a0 4) = 40)) ∧ ((0 : Int) ≤ a7 ∧ a7 < (mN m9 (mR m9 a0 4) : Int)) ∧ (∀ v14, v14 = w32 (a5 + (mD m9 (mR m9 a0 4) a7)) → ∀ v15, v15 = w32 (a6 + a4) → ∀ v16, v16 = w32 (a7 + 1) → Wp (d + 1) (bc - mc3 - mc4) (bs - ms3 - ms4) mX10_sheet 47 [some (vr a0), some (vi a1), some (vi a2), some (vi a3), some (vi a4), some (vi v14), some (vi v15), some (vi v16), none] [] m9 Q)))))) ∧ (¬ a7 < a2 → mK μ (mR μ a0 4) = 20 ∧ ((0 : Int) ≤ a7 ∧ a7 < (mN μ (mR μ a0 4) : Int)) ∧ (∀ m10, m10 = sD μ (mR μ a0 4) a7 100 → (mK m10 (mR m10 a0 4) = 20 ∨ ((mR m10 a0 4) ≠ 0 ∧ mK m10 (mR m10 a0 4) = 40)) ∧ ((0 : Int) ≤ a7 ∧ a7 < (mN m10 (mR m10 a0 4) : Int)) ∧ (∀ v17, v17 = w32 (a5 + (mD m10 (mR m10 a0 4) a7)) → ∀ v18, v18 = w32 (a6 + a4) → ∀ v19, v19 = w32 (a7 + 1) → Wp (d + 1) bc bs mX10_sheet 47 [some (vr a0), some (vi a1), some (vi a2), some (vi a3), some (vi a4), some (vi v17), some (vi v18), some (vi v19), none] [] m10 Q)))))) ∧ (a1 = 0 → ∀ v20, v20 = w8 a6 → (a1 = 3 → mK μ (mR μ a0 4) = 20 ∧ ((0 : Int) ≤ a7 ∧ a7 < (mN μ (mR μ a0 4) : Int)) ∧ (∀ m11, m11 = sD μ (mR μ a0 4) a7 100 → (mK m11 (mR m11 a0 4) = 20 ∨ ((mR m11 a0 4) ≠ 0 ∧ mK m11 (mR m11 a0 4) = 40)) ∧ ((0 : Int) ≤ a7 ∧ a7 < (mN m11 (mR m11 a0 4) : Int)) ∧ (∀ v21, v21 = w32 (a5 + (mD m11 (mR m11 a0 4) a7)) → ∀ v22, v22 = w32 (a6 + a4) → ∀ v23, v23 = w32 (a7 + 1) → Wp (d + 1) bc bs mX10_sheet 47 [some (vr a0), some (vi a1), some (vi a2), some (vi a3), some (vi a4), some (vi v21), some (vi v22), some (vi v23), none] [] m11 Q))) ∧ (¬ a1 = 3 → (a7 < a2 → ∃ (mc5 ms5 : Nat) (K5 : Int → Mem → Prop), Cl d mc5 ms5 mJ9_min_7cf53 [vi 100, vi v20] μ (KI K5) ∧ mc5 ≤ bc ∧ ms5 ≤ bs ∧ (∀ x5 m12, K5 x5 m12 → ∃ (mc6 ms6 : Nat) (K6 : Int → Mem → Prop), Cl d mc6 ms6 mJ9_max_7cf53 [vi 0, vi x5] m12 (KI K6) ∧ mc6 ≤ bc - mc5 ∧ ms6 ≤ bs - ms5 ∧ (∀ x6 m13, K6 x6 m13 → mK m13 (mR μ a0 4) = 20 ∧ ((0 : Int) ≤ a7 ∧ a7 < (mN m13 (mR μ a0 4) : Int)) ∧ (∀ m14, m14 = sD m13 (mR μ a0 4) a7 x6 → mK m14 a0 = 11 ∧ ((mK m14 (mR m14 a0 4) = 20 ∨ ((mR m14 a0 4) ≠ 0 ∧ mK m14 (mR m14 a0 4) = 40)) ∧ ((0 : Int) ≤ a7 ∧ a7 < (mN m14 (mR m14 a0 4) : Int)) ∧ (∀ v24, v24 = w32 (a5 + (mD m14 (mR m14 a0 4) a7)) → ∀ v25, v25 = w32 (a6 + a4) → ∀ v26, v26 = w32 (a7 + 1) → Wp (d + 1) (bc - mc5 - mc6) (bs - ms5 - ms6) mX10_sheet 47 [some (vr a0), some (vi a1), some (vi a2), some (vi a3), some (vi a4), some (vi v24), some (vi v25), some (vi v26), none] [] m14 Q)))))) ∧ (¬ a7 < a2 → mK μ (mR μ a0 4) = 20 ∧ ((0 : Int) ≤ a7 ∧ a7 < (mN μ (mR μ a0 4) : Int)) ∧ (∀ m15, m15 = sD μ (mR μ a0 4) a7 100 → (mK m15 (mR m15 a0 4) = 20 ∨ ((mR m15 a0 4) ≠ 0 ∧ mK m15 (mR m15 a0 4) = 40)) ∧ ((0 : Int) ≤ a7 ∧ a7 < (mN m15 (mR m15 a0 4) : Int)) ∧ (∀ v27, v27 = w32 (a5 + (mD m15 (mR m15 a0 4) a7)) → ∀ v28, v28 = w32 (a6 + a4) → ∀ v29, v29 = w32 (a7 + 1) → Wp (d + 1) bc bs mX10_sheet 47 [some (vr a0), some (vi a1), some (vi a2), some (vi a3), some (vi a4), some (vi v27), some (vi v28), some (vi v29), none] [] m15 Q)))))))) :
    Wp (d + 1) bc bs mX10_sheet 47 [some (vr a0), some (vi a1), some (vi a2), some (vi a3), some (vi a4), some (vi a5), some (vi a6), some (vi a7), none] [] μ Q := by
  refine st_iload (pc := 47) dX10_sheet_47 rfl ?_
  refine st_aload_n (pc := 49) dX10_sheet_49 rfl rfl ?_
  obtain ⟨hk1, h⟩ := h
  refine sg_gfI (pc := 50) (J := 0) dX10_sheet_50 fl_10_9 (by decide) rfl hk1 ?_
  refine sg_iconst (pc := 53) dX10_sheet_53 (by omega) ?_
  refine st_isub (pc := 54) dX10_sheet_54 ?_
  refine st_icmpge (pc := 55) (tgt := 142) dX10_sheet_55 rfl (fun c => ?_) (fun c => ?_)
  · replace h := h.1 c
    refine st_iload_n (pc := 142) dX10_sheet_142 rfl rfl ?_
    refine sg_iconst (pc := 143) dX10_sheet_143 (by omega) ?_
    refine st_icmpne (pc := 144) (tgt := 152) dX10_sheet_144 rfl (fun c => ?_) (fun c => ?_)
    · replace h := h.1 c
      refine st_iload (pc := 152) dX10_sheet_152 rfl ?_
      exact st_ireturn (pc := 154) dX10_sheet_154 (Or.inl rfl) h
    · replace h := h.2 c
      refine sg_bipush (pc := 147) dX10_sheet_147 (by omega) (by decide) ?_
      refine st_goto (pc := 149) dX10_sheet_149 rfl ?_
      exact st_ireturn (pc := 154) dX10_sheet_154 (Or.inl rfl) h
  · replace h := h.2 c
    refine st_iload_n (pc := 58) dX10_sheet_58 rfl rfl ?_
    refine st_ifne (pc := 59) (tgt := 68) dX10_sheet_59 rfl (fun c => ?_) (fun c => ?_)
    · replace h := h.1 c
      refine st_iload_n (pc := 68) dX10_sheet_68 rfl rfl ?_
      refine sg_iconst (pc := 69) dX10_sheet_69 (by omega) ?_
      refine st_icmpne (pc := 70) (tgt := 79) dX10_sheet_70 rfl (fun c => ?_) (fun c => ?_)
      · replace h := h.1 c
        refine st_iload (pc := 79) dX10_sheet_79 rfl ?_
        refine sg_istore (pc := 81) (ls' := [some (vr a0), some (vi a1), some (vi a2), some (vi a3), some (vi a4), some (vi a5), some (vi a6), some (vi a7), some (vi a6)]) dX10_sheet_81 (by show (8 : Nat) < 9; decide) rfl ?_
        refine st_aload_n (pc := 83) dX10_sheet_83 rfl rfl ?_
        refine sg_gfR (pc := 84) (J := 4) dX10_sheet_84 fl_10_23 rfl hk1 ?_
        refine st_iload (pc := 87) dX10_sheet_87 rfl ?_
        refine st_iload_n (pc := 89) dX10_sheet_89 rfl rfl ?_
        refine sg_iconst (pc := 90) dX10_sheet_90 (by omega) ?_
        refine st_icmpeq (pc := 91) (tgt := 100) dX10_sheet_91 rfl (fun c => ?_) (fun c => ?_)
        · replace h := h.1 c
          refine sg_bipush (pc := 100) dX10_sheet_100 (by omega) (by decide) ?_
          refine st_goto (pc := 102) dX10_sheet_102 rfl ?_
          obtain ⟨hk2, h⟩ := h
          obtain ⟨h1, h⟩ := h
          refine st_iastore (pc := 116) dX10_sheet_116 hk2 h1.1 h1.2 ?_
          refine Wp.nameM (fun m1 em1 => ?_)
          replace h := h m1 em1
          refine st_iload (pc := 117) dX10_sheet_117 rfl ?_
          refine st_aload_n (pc := 119) dX10_sheet_119 rfl rfl ?_
          refine sg_gfR (pc := 120) (J := 4) dX10_sheet_120 fl_10_23 rfl (by cases em1; exact hk1) ?_
          refine st_iload (pc := 123) dX10_sheet_123 rfl ?_
          obtain ⟨hk3, h⟩ := h
          obtain ⟨h1, h⟩ := h
          refine sg_iaload (pc := 125) dX10_sheet_125 hk3 h1 ?_
          refine st_iadd (pc := 126) dX10_sheet_126 ?_
          refine sg_istore (pc := 127) (ls' := [some (vr a0), some (vi a1), some (vi a2), some (vi a3), some (vi a4), some (vi (w32 (a5 + (mD m1 (mR m1 a0 4) a7)))), some (vi a6), some (vi a7), some (vi a6)]) dX10_sheet_127 (by show (5 : Nat) < 9; decide) rfl ?_
          refine Wp.nameL (ls2 := fun v => [some (vr a0), some (vi a1), some (vi a2), some (vi a3), some (vi a4), some (vi v), some (vi a6), some (vi a7), some (vi a6)]) 5 _ rfl (fun _ => rfl) (fun v1 ev1 => ?_)
          replace h := h v1 ev1
          refine st_iload (pc := 129) dX10_sheet_129 rfl ?_
          refine st_iload (pc := 131) dX10_sheet_131 rfl ?_
          refine st_iadd (pc := 133) dX10_sheet_133 ?_
          refine sg_istore (pc := 134) (ls' := [some (vr a0), some (vi a1), some (vi a2), some (vi a3), some (vi a4), some (vi v1), some (vi (w32 (a6 + a4))), some (vi a7), some (vi a6)]) dX10_sheet_134 (by show (6 : Nat) < 9; decide) rfl ?_
          refine Wp.nameL (ls2 := fun v => [some (vr a0), some (vi a1), some (vi a2), some (vi a3), some (vi a4), some (vi v1), some (vi v), some (vi a7), some (vi a6)]) 6 _ rfl (fun _ => rfl) (fun v2 ev2 => ?_)
          replace h := h v2 ev2
          refine sg_iinc (pc := 136) (ls' := [some (vr a0), some (vi a1), some (vi a2), some (vi a3), some (vi a4), some (vi v1), some (vi v2), some (vi (w32 (a7 + 1))), some (vi a6)]) dX10_sheet_136 rfl rfl ?_
          refine Wp.nameL (ls2 := fun v => [some (vr a0), some (vi a1), some (vi a2), some (vi a3), some (vi a4), some (vi v1), some (vi v2), some (vi v), some (vi a6)]) 7 _ rfl (fun _ => rfl) (fun v3 ev3 => ?_)
          replace h := h v3 ev3
          refine st_goto (pc := 139) dX10_sheet_139 rfl ?_
          refine Wp.drop 8 rfl ?_
          exact h
        · replace h := h.2 c
          refine st_iload (pc := 94) dX10_sheet_94 rfl ?_
          refine st_iload_n (pc := 96) dX10_sheet_96 rfl rfl ?_
          refine st_icmplt (pc := 97) (tgt := 105) dX10_sheet_97 rfl (fun c => ?_) (fun c => ?_)
          · replace h := h.1 c
            refine sg_iconst (pc := 105) dX10_sheet_105 (by omega) ?_
            refine sg_bipush (pc := 106) dX10_sheet_106 (by omega) (by decide) ?_
            refine st_iload (pc := 108) dX10_sheet_108 rfl ?_
            obtain ⟨mc1, ms1, K1, hC, e1, e2, h⟩ := h
            refine sg_SI (pc := 110) (av := [vi 100, vi a6]) (st := [vi 0, vi a7, vr (mR μ a0 4)]) (K := K1) dX10_sheet_110 ck_10_162 rfl (by show (3 : Nat) ≤ 8; decide) hC e1 e2 (fun x1 m2 hK => ?_) rfl
            replace h := h x1 m2 hK
            obtain ⟨mc2, ms2, K2, hC, e1, e2, h⟩ := h
            refine sg_SI (pc := 113) (av := [vi 0, vi x1]) (st := [vi a7, vr (mR μ a0 4)]) (K := K2) dX10_sheet_113 ck_10_168 rfl (by show (2 : Nat) ≤ 8; decide) hC e1 e2 (fun x2 m3 hK => ?_) rfl
            replace h := h x2 m3 hK
            obtain ⟨hk4, h⟩ := h
            obtain ⟨h1, h⟩ := h
            refine st_iastore (pc := 116) dX10_sheet_116 hk4 h1.1 h1.2 ?_
            refine Wp.nameM (fun m4 em4 => ?_)
            replace h := h m4 em4
            refine st_iload (pc := 117) dX10_sheet_117 rfl ?_
            refine st_aload_n (pc := 119) dX10_sheet_119 rfl rfl ?_
            obtain ⟨hk5, h⟩ := h
            refine sg_gfR (pc := 120) (J := 4) dX10_sheet_120 fl_10_23 rfl hk5 ?_
            refine st_iload (pc := 123) dX10_sheet_123 rfl ?_
            obtain ⟨hk6, h⟩ := h
            obtain ⟨h1, h⟩ := h
            refine sg_iaload (pc := 125) dX10_sheet_125 hk6 h1 ?_
            refine st_iadd (pc := 126) dX10_sheet_126 ?_
            refine sg_istore (pc := 127) (ls' := [some (vr a0), some (vi a1), some (vi a2), some (vi a3), some (vi a4), some (vi (w32 (a5 + (mD m4 (mR m4 a0 4) a7)))), some (vi a6), some (vi a7), some (vi a6)]) dX10_sheet_127 (by show (5 : Nat) < 9; decide) rfl ?_
            refine Wp.nameL (ls2 := fun v => [some (vr a0), some (vi a1), some (vi a2), some (vi a3), some (vi a4), some (vi v), some (vi a6), some (vi a7), some (vi a6)]) 5 _ rfl (fun _ => rfl) (fun v4 ev4 => ?_)
            replace h := h v4 ev4
            refine st_iload (pc := 129) dX10_sheet_129 rfl ?_
            refine st_iload (pc := 131) dX10_sheet_131 rfl ?_
            refine st_iadd (pc := 133) dX10_sheet_133 ?_
            refine sg_istore (pc := 134) (ls' := [some (vr a0), some (vi a1), some (vi a2), some (vi a3), some (vi a4), some (vi v4), some (vi (w32 (a6 + a4))), some (vi a7), some (vi a6)]) dX10_sheet_134 (by show (6 : Nat) < 9; decide) rfl ?_
            refine Wp.nameL (ls2 := fun v => [some (vr a0), some (vi a1), some (vi a2), some (vi a3), some (vi a4), some (vi v4), some (vi v), some (vi a7), some (vi a6)]) 6 _ rfl (fun _ => rfl) (fun v5 ev5 => ?_)
            replace h := h v5 ev5
            refine sg_iinc (pc := 136) (ls' := [some (vr a0), some (vi a1), some (vi a2), some (vi a3), some (vi a4), some (vi v4), some (vi v5), some (vi (w32 (a7 + 1))), some (vi a6)]) dX10_sheet_136 rfl rfl ?_
            refine Wp.nameL (ls2 := fun v => [some (vr a0), some (vi a1), some (vi a2), some (vi a3), some (vi a4), some (vi v4), some (vi v5), some (vi v), some (vi a6)]) 7 _ rfl (fun _ => rfl) (fun v6 ev6 => ?_)
            replace h := h v6 ev6
            refine st_goto (pc := 139) dX10_sheet_139 rfl ?_
            refine Wp.drop 8 rfl ?_
            exact h
          · replace h := h.2 c
            refine sg_bipush (pc := 100) dX10_sheet_100 (by omega) (by decide) ?_
            refine st_goto (pc := 102) dX10_sheet_102 rfl ?_
            obtain ⟨hk7, h⟩ := h
            obtain ⟨h1, h⟩ := h
            refine st_iastore (pc := 116) dX10_sheet_116 hk7 h1.1 h1.2 ?_
            refine Wp.nameM (fun m5 em5 => ?_)
            replace h := h m5 em5
            refine st_iload (pc := 117) dX10_sheet_117 rfl ?_
            refine st_aload_n (pc := 119) dX10_sheet_119 rfl rfl ?_
            refine sg_gfR (pc := 120) (J := 4) dX10_sheet_120 fl_10_23 rfl (by cases em5; exact hk1) ?_
            refine st_iload (pc := 123) dX10_sheet_123 rfl ?_
            obtain ⟨hk8, h⟩ := h
            obtain ⟨h1, h⟩ := h
            refine sg_iaload (pc := 125) dX10_sheet_125 hk8 h1 ?_
            refine st_iadd (pc := 126) dX10_sheet_126 ?_
            refine sg_istore (pc := 127) (ls' := [some (vr a0), some (vi a1), some (vi a2), some (vi a3), some (vi a4), some (vi (w32 (a5 + (mD m5 (mR m5 a0 4) a7)))), some (vi a6), some (vi a7), some (vi a6)]) dX10_sheet_127 (by show (5 : Nat) < 9; decide) rfl ?_
            refine Wp.nameL (ls2 := fun v => [some (vr a0), some (vi a1), some (vi a2), some (vi a3), some (vi a4), some (vi v), some (vi a6), some (vi a7), some (vi a6)]) 5 _ rfl (fun _ => rfl) (fun v7 ev7 => ?_)
            replace h := h v7 ev7
            refine st_iload (pc := 129) dX10_sheet_129 rfl ?_
            refine st_iload (pc := 131) dX10_sheet_131 rfl ?_
            refine st_iadd (pc := 133) dX10_sheet_133 ?_
            refine sg_istore (pc := 134) (ls' := [some (vr a0), some (vi a1), some (vi a2), some (vi a3), some (vi a4), some (vi v7), some (vi (w32 (a6 + a4))), some (vi a7), some (vi a6)]) dX10_sheet_134 (by show (6 : Nat) < 9; decide) rfl ?_
            refine Wp.nameL (ls2 := fun v => [some (vr a0), some (vi a1), some (vi a2), some (vi a3), some (vi a4), some (vi v7), some (vi v), some (vi a7), some (vi a6)]) 6 _ rfl (fun _ => rfl) (fun v8 ev8 => ?_)
            replace h := h v8 ev8
            refine sg_iinc (pc := 136) (ls' := [some (vr a0), some (vi a1), some (vi a2), some (vi a3), some (vi a4), some (vi v7), some (vi v8), some (vi (w32 (a7 + 1))), some (vi a6)]) dX10_sheet_136 rfl rfl ?_
            refine Wp.nameL (ls2 := fun v => [some (vr a0), some (vi a1), some (vi a2), some (vi a3), some (vi a4), some (vi v7), some (vi v8), some (vi v), some (vi a6)]) 7 _ rfl (fun _ => rfl) (fun v9 ev9 => ?_)
            replace h := h v9 ev9
            refine st_goto (pc := 139) dX10_sheet_139 rfl ?_
            refine Wp.drop 8 rfl ?_
            exact h
      · replace h := h.2 c
        refine st_iload (pc := 73) dX10_sheet_73 rfl ?_
        refine st_i2s (pc := 75) dX10_sheet_75 ?_
        refine st_goto (pc := 76) dX10_sheet_76 rfl ?_
        refine sg_istore (pc := 81) (ls' := [some (vr a0), some (vi a1), some (vi a2), some (vi a3), some (vi a4), some (vi a5), some (vi a6), some (vi a7), some (vi (w16 a6))]) dX10_sheet_81 (by show (8 : Nat) < 9; decide) rfl ?_
        refine Wp.nameL (ls2 := fun v => [some (vr a0), some (vi a1), some (vi a2), some (vi a3), some (vi a4), some (vi a5), some (vi a6), some (vi a7), some (vi v)]) 8 _ rfl (fun _ => rfl) (fun v10 ev10 => ?_)
        replace h := h v10 ev10
        refine st_aload_n (pc := 83) dX10_sheet_83 rfl rfl ?_
        refine sg_gfR (pc := 84) (J := 4) dX10_sheet_84 fl_10_23 rfl hk1 ?_
        refine st_iload (pc := 87) dX10_sheet_87 rfl ?_
        refine st_iload_n (pc := 89) dX10_sheet_89 rfl rfl ?_
        refine sg_iconst (pc := 90) dX10_sheet_90 (by omega) ?_
        refine st_icmpeq (pc := 91) (tgt := 100) dX10_sheet_91 rfl (fun c => ?_) (fun c => ?_)
        · replace h := h.1 c
          refine sg_bipush (pc := 100) dX10_sheet_100 (by omega) (by decide) ?_
          refine st_goto (pc := 102) dX10_sheet_102 rfl ?_
          obtain ⟨hk9, h⟩ := h
          obtain ⟨h1, h⟩ := h
          refine st_iastore (pc := 116) dX10_sheet_116 hk9 h1.1 h1.2 ?_
          refine Wp.nameM (fun m6 em6 => ?_)
          replace h := h m6 em6
          refine st_iload (pc := 117) dX10_sheet_117 rfl ?_
          refine st_aload_n (pc := 119) dX10_sheet_119 rfl rfl ?_
          refine sg_gfR (pc := 120) (J := 4) dX10_sheet_120 fl_10_23 rfl (by cases em6; exact hk1) ?_
          refine st_iload (pc := 123) dX10_sheet_123 rfl ?_
          obtain ⟨hk10, h⟩ := h
          obtain ⟨h1, h⟩ := h
          refine sg_iaload (pc := 125) dX10_sheet_125 hk10 h1 ?_
          refine st_iadd (pc := 126) dX10_sheet_126 ?_
          refine sg_istore (pc := 127) (ls' := [some (vr a0), some (vi a1), some (vi a2), some (vi a3), some (vi a4), some (vi (w32 (a5 + (mD m6 (mR m6 a0 4) a7)))), some (vi a6), some (vi a7), some (vi v10)]) dX10_sheet_127 (by show (5 : Nat) < 9; decide) rfl ?_
          refine Wp.nameL (ls2 := fun v => [some (vr a0), some (vi a1), some (vi a2), some (vi a3), some (vi a4), some (vi v), some (vi a6), some (vi a7), some (vi v10)]) 5 _ rfl (fun _ => rfl) (fun v11 ev11 => ?_)
          replace h := h v11 ev11
          refine st_iload (pc := 129) dX10_sheet_129 rfl ?_
          refine st_iload (pc := 131) dX10_sheet_131 rfl ?_
          refine st_iadd (pc := 133) dX10_sheet_133 ?_
          refine sg_istore (pc := 134) (ls' := [some (vr a0), some (vi a1), some (vi a2), some (vi a3), some (vi a4), some (vi v11), some (vi (w32 (a6 + a4))), some (vi a7), some (vi v10)]) dX10_sheet_134 (by show (6 : Nat) < 9; decide) rfl ?_
          refine Wp.nameL (ls2 := fun v => [some (vr a0), some (vi a1), some (vi a2), some (vi a3), some (vi a4), some (vi v11), some (vi v), some (vi a7), some (vi v10)]) 6 _ rfl (fun _ => rfl) (fun v12 ev12 => ?_)
          replace h := h v12 ev12
          refine sg_iinc (pc := 136) (ls' := [some (vr a0), some (vi a1), some (vi a2), some (vi a3), some (vi a4), some (vi v11), some (vi v12), some (vi (w32 (a7 + 1))), some (vi v10)]) dX10_sheet_136 rfl rfl ?_
          refine Wp.nameL (ls2 := fun v => [some (vr a0), some (vi a1), some (vi a2), some (vi a3), some (vi a4), some (vi v11), some (vi v12), some (vi v), some (vi v10)]) 7 _ rfl (fun _ => rfl) (fun v13 ev13 => ?_)
          replace h := h v13 ev13
          refine st_goto (pc := 139) dX10_sheet_139 rfl ?_
          refine Wp.drop 8 rfl ?_
          exact h
        · replace h := h.2 c
          refine st_iload (pc := 94) dX10_sheet_94 rfl ?_
          refine st_iload_n (pc := 96) dX10_sheet_96 rfl rfl ?_
          refine st_icmplt (pc := 97) (tgt := 105) dX10_sheet_97 rfl (fun c => ?_) (fun c => ?_)
          · replace h := h.1 c
            refine sg_iconst (pc := 105) dX10_sheet_105 (by omega) ?_
            refine sg_bipush (pc := 106) dX10_sheet_106 (by omega) (by decide) ?_
            refine st_iload (pc := 108) dX10_sheet_108 rfl ?_
            obtain ⟨mc3, ms3, K3, hC, e1, e2, h⟩ := h
            refine sg_SI (pc := 110) (av := [vi 100, vi v10]) (st := [vi 0, vi a7, vr (mR μ a0 4)]) (K := K3) dX10_sheet_110 ck_10_162 rfl (by show (3 : Nat) ≤ 8; decide) hC e1 e2 (fun x3 m7 hK => ?_) rfl
            replace h := h x3 m7 hK
            obtain ⟨mc4, ms4, K4, hC, e1, e2, h⟩ := h
            refine sg_SI (pc := 113) (av := [vi 0, vi x3]) (st := [vi a7, vr (mR μ a0 4)]) (K := K4) dX10_sheet_113 ck_10_168 rfl (by show (2 : Nat) ≤ 8; decide) hC e1 e2 (fun x4 m8 hK => ?_) rfl
            replace h := h x4 m8 hK
            obtain ⟨hk11, h⟩ := h
            obtain ⟨h1, h⟩ := h
            refine st_iastore (pc := 116) dX10_sheet_116 hk11 h1.1 h1.2 ?_
            refine Wp.nameM (fun m9 em9 => ?_)
            replace h := h m9 em9
            refine st_iload (pc := 117) dX10_sheet_117 rfl ?_
            refine st_aload_n (pc := 119) dX10_sheet_119 rfl rfl ?_
            obtain ⟨hk12, h⟩ := h
            refine sg_gfR (pc := 120) (J := 4) dX10_sheet_120 fl_10_23 rfl hk12 ?_
            refine st_iload (pc := 123) dX10_sheet_123 rfl ?_
            obtain ⟨hk13, h⟩ := h
            obtain ⟨h1, h⟩ := h
            refine sg_iaload (pc := 125) dX10_sheet_125 hk13 h1 ?_
            refine st_iadd (pc := 126) dX10_sheet_126 ?_
            refine sg_istore (pc := 127) (ls' := [some (vr a0), some (vi a1), some (vi a2), some (vi a3), some (vi a4), some (vi (w32 (a5 + (mD m9 (mR m9 a0 4) a7)))), some (vi a6), some (vi a7), some (vi v10)]) dX10_sheet_127 (by show (5 : Nat) < 9; decide) rfl ?_
            refine Wp.nameL (ls2 := fun v => [some (vr a0), some (vi a1), some (vi a2), some (vi a3), some (vi a4), some (vi v), some (vi a6), some (vi a7), some (vi v10)]) 5 _ rfl (fun _ => rfl) (fun v14 ev14 => ?_)
            replace h := h v14 ev14
            refine st_iload (pc := 129) dX10_sheet_129 rfl ?_
            refine st_iload (pc := 131) dX10_sheet_131 rfl ?_
            refine st_iadd (pc := 133) dX10_sheet_133 ?_
            refine sg_istore (pc := 134) (ls' := [some (vr a0), some (vi a1), some (vi a2), some (vi a3), some (vi a4), some (vi v14), some (vi (w32 (a6 + a4))), some (vi a7), some (vi v10)]) dX10_sheet_134 (by show (6 : Nat) < 9; decide) rfl ?_
            refine Wp.nameL (ls2 := fun v => [some (vr a0), some (vi a1), some (vi a2), some (vi a3), some (vi a4), some (vi v14), some (vi v), some (vi a7), some (vi v10)]) 6 _ rfl (fun _ => rfl) (fun v15 ev15 => ?_)
            replace h := h v15 ev15
            refine sg_iinc (pc := 136) (ls' := [some (vr a0), some (vi a1), some (vi a2), some (vi a3), some (vi a4), some (vi v14), some (vi v15), some (vi (w32 (a7 + 1))), some (vi v10)]) dX10_sheet_136 rfl rfl ?_
            refine Wp.nameL (ls2 := fun v => [some (vr a0), some (vi a1), some (vi a2), some (vi a3), some (vi a4), some (vi v14), some (vi v15), some (vi v), some (vi v10)]) 7 _ rfl (fun _ => rfl) (fun v16 ev16 => ?_)
            replace h := h v16 ev16
            refine st_goto (pc := 139) dX10_sheet_139 rfl ?_
            refine Wp.drop 8 rfl ?_
            exact h
          · replace h := h.2 c
            refine sg_bipush (pc := 100) dX10_sheet_100 (by omega) (by decide) ?_
            refine st_goto (pc := 102) dX10_sheet_102 rfl ?_
            obtain ⟨hk14, h⟩ := h
            obtain ⟨h1, h⟩ := h
            refine st_iastore (pc := 116) dX10_sheet_116 hk14 h1.1 h1.2 ?_
            refine Wp.nameM (fun m10 em10 => ?_)
            replace h := h m10 em10
            refine st_iload (pc := 117) dX10_sheet_117 rfl ?_
            refine st_aload_n (pc := 119) dX10_sheet_119 rfl rfl ?_
            refine sg_gfR (pc := 120) (J := 4) dX10_sheet_120 fl_10_23 rfl (by cases em10; exact hk1) ?_
            refine st_iload (pc := 123) dX10_sheet_123 rfl ?_
            obtain ⟨hk15, h⟩ := h
            obtain ⟨h1, h⟩ := h
            refine sg_iaload (pc := 125) dX10_sheet_125 hk15 h1 ?_
            refine st_iadd (pc := 126) dX10_sheet_126 ?_
            refine sg_istore (pc := 127) (ls' := [some (vr a0), some (vi a1), some (vi a2), some (vi a3), some (vi a4), some (vi (w32 (a5 + (mD m10 (mR m10 a0 4) a7)))), some (vi a6), some (vi a7), some (vi v10)]) dX10_sheet_127 (by show (5 : Nat) < 9; decide) rfl ?_
            refine Wp.nameL (ls2 := fun v => [some (vr a0), some (vi a1), some (vi a2), some (vi a3), some (vi a4), some (vi v), some (vi a6), some (vi a7), some (vi v10)]) 5 _ rfl (fun _ => rfl) (fun v17 ev17 => ?_)
            replace h := h v17 ev17
            refine st_iload (pc := 129) dX10_sheet_129 rfl ?_
            refine st_iload (pc := 131) dX10_sheet_131 rfl ?_
            refine st_iadd (pc := 133) dX10_sheet_133 ?_
            refine sg_istore (pc := 134) (ls' := [some (vr a0), some (vi a1), some (vi a2), some (vi a3), some (vi a4), some (vi v17), some (vi (w32 (a6 + a4))), some (vi a7), some (vi v10)]) dX10_sheet_134 (by show (6 : Nat) < 9; decide) rfl ?_
            refine Wp.nameL (ls2 := fun v => [some (vr a0), some (vi a1), some (vi a2), some (vi a3), some (vi a4), some (vi v17), some (vi v), some (vi a7), some (vi v10)]) 6 _ rfl (fun _ => rfl) (fun v18 ev18 => ?_)
            replace h := h v18 ev18
            refine sg_iinc (pc := 136) (ls' := [some (vr a0), some (vi a1), some (vi a2), some (vi a3), some (vi a4), some (vi v17), some (vi v18), some (vi (w32 (a7 + 1))), some (vi v10)]) dX10_sheet_136 rfl rfl ?_
            refine Wp.nameL (ls2 := fun v => [some (vr a0), some (vi a1), some (vi a2), some (vi a3), some (vi a4), some (vi v17), some (vi v18), some (vi v), some (vi v10)]) 7 _ rfl (fun _ => rfl) (fun v19 ev19 => ?_)
            replace h := h v19 ev19
            refine st_goto (pc := 139) dX10_sheet_139 rfl ?_
            refine Wp.drop 8 rfl ?_
            exact h
    · replace h := h.2 c
      refine st_iload (pc := 62) dX10_sheet_62 rfl ?_
      refine st_i2b (pc := 64) dX10_sheet_64 ?_
      refine st_goto (pc := 65) dX10_sheet_65 rfl ?_
      refine sg_istore (pc := 81) (ls' := [some (vr a0), some (vi a1), some (vi a2), some (vi a3), some (vi a4), some (vi a5), some (vi a6), some (vi a7), some (vi (w8 a6))]) dX10_sheet_81 (by show (8 : Nat) < 9; decide) rfl ?_
      refine Wp.nameL (ls2 := fun v => [some (vr a0), some (vi a1), some (vi a2), some (vi a3), some (vi a4), some (vi a5), some (vi a6), some (vi a7), some (vi v)]) 8 _ rfl (fun _ => rfl) (fun v20 ev20 => ?_)
      replace h := h v20 ev20
      refine st_aload_n (pc := 83) dX10_sheet_83 rfl rfl ?_
      refine sg_gfR (pc := 84) (J := 4) dX10_sheet_84 fl_10_23 rfl hk1 ?_
      refine st_iload (pc := 87) dX10_sheet_87 rfl ?_
      refine st_iload_n (pc := 89) dX10_sheet_89 rfl rfl ?_
      refine sg_iconst (pc := 90) dX10_sheet_90 (by omega) ?_
      refine st_icmpeq (pc := 91) (tgt := 100) dX10_sheet_91 rfl (fun c => ?_) (fun c => ?_)
      · replace h := h.1 c
        refine sg_bipush (pc := 100) dX10_sheet_100 (by omega) (by decide) ?_
        refine st_goto (pc := 102) dX10_sheet_102 rfl ?_
        obtain ⟨hk16, h⟩ := h
        obtain ⟨h1, h⟩ := h
        refine st_iastore (pc := 116) dX10_sheet_116 hk16 h1.1 h1.2 ?_
        refine Wp.nameM (fun m11 em11 => ?_)
        replace h := h m11 em11
        refine st_iload (pc := 117) dX10_sheet_117 rfl ?_
        refine st_aload_n (pc := 119) dX10_sheet_119 rfl rfl ?_
        refine sg_gfR (pc := 120) (J := 4) dX10_sheet_120 fl_10_23 rfl (by cases em11; exact hk1) ?_
        refine st_iload (pc := 123) dX10_sheet_123 rfl ?_
        obtain ⟨hk17, h⟩ := h
        obtain ⟨h1, h⟩ := h
        refine sg_iaload (pc := 125) dX10_sheet_125 hk17 h1 ?_
        refine st_iadd (pc := 126) dX10_sheet_126 ?_
        refine sg_istore (pc := 127) (ls' := [some (vr a0), some (vi a1), some (vi a2), some (vi a3), some (vi a4), some (vi (w32 (a5 + (mD m11 (mR m11 a0 4) a7)))), some (vi a6), some (vi a7), some (vi v20)]) dX10_sheet_127 (by show (5 : Nat) < 9; decide) rfl ?_
        refine Wp.nameL (ls2 := fun v => [some (vr a0), some (vi a1), some (vi a2), some (vi a3), some (vi a4), some (vi v), some (vi a6), some (vi a7), some (vi v20)]) 5 _ rfl (fun _ => rfl) (fun v21 ev21 => ?_)
        replace h := h v21 ev21
        refine st_iload (pc := 129) dX10_sheet_129 rfl ?_
        refine st_iload (pc := 131) dX10_sheet_131 rfl ?_
        refine st_iadd (pc := 133) dX10_sheet_133 ?_
        refine sg_istore (pc := 134) (ls' := [some (vr a0), some (vi a1), some (vi a2), some (vi a3), some (vi a4), some (vi v21), some (vi (w32 (a6 + a4))), some (vi a7), some (vi v20)]) dX10_sheet_134 (by show (6 : Nat) < 9; decide) rfl ?_
        refine Wp.nameL (ls2 := fun v => [some (vr a0), some (vi a1), some (vi a2), some (vi a3), some (vi a4), some (vi v21), some (vi v), some (vi a7), some (vi v20)]) 6 _ rfl (fun _ => rfl) (fun v22 ev22 => ?_)
        replace h := h v22 ev22
        refine sg_iinc (pc := 136) (ls' := [some (vr a0), some (vi a1), some (vi a2), some (vi a3), some (vi a4), some (vi v21), some (vi v22), some (vi (w32 (a7 + 1))), some (vi v20)]) dX10_sheet_136 rfl rfl ?_
        refine Wp.nameL (ls2 := fun v => [some (vr a0), some (vi a1), some (vi a2), some (vi a3), some (vi a4), some (vi v21), some (vi v22), some (vi v), some (vi v20)]) 7 _ rfl (fun _ => rfl) (fun v23 ev23 => ?_)
        replace h := h v23 ev23
        refine st_goto (pc := 139) dX10_sheet_139 rfl ?_
        refine Wp.drop 8 rfl ?_
        exact h
      · replace h := h.2 c
        refine st_iload (pc := 94) dX10_sheet_94 rfl ?_
        refine st_iload_n (pc := 96) dX10_sheet_96 rfl rfl ?_
        refine st_icmplt (pc := 97) (tgt := 105) dX10_sheet_97 rfl (fun c => ?_) (fun c => ?_)
        · replace h := h.1 c
          refine sg_iconst (pc := 105) dX10_sheet_105 (by omega) ?_
          refine sg_bipush (pc := 106) dX10_sheet_106 (by omega) (by decide) ?_
          refine st_iload (pc := 108) dX10_sheet_108 rfl ?_
          obtain ⟨mc5, ms5, K5, hC, e1, e2, h⟩ := h
          refine sg_SI (pc := 110) (av := [vi 100, vi v20]) (st := [vi 0, vi a7, vr (mR μ a0 4)]) (K := K5) dX10_sheet_110 ck_10_162 rfl (by show (3 : Nat) ≤ 8; decide) hC e1 e2 (fun x5 m12 hK => ?_) rfl
          replace h := h x5 m12 hK
          obtain ⟨mc6, ms6, K6, hC, e1, e2, h⟩ := h
          refine sg_SI (pc := 113) (av := [vi 0, vi x5]) (st := [vi a7, vr (mR μ a0 4)]) (K := K6) dX10_sheet_113 ck_10_168 rfl (by show (2 : Nat) ≤ 8; decide) hC e1 e2 (fun x6 m13 hK => ?_) rfl
          replace h := h x6 m13 hK
          obtain ⟨hk18, h⟩ := h
          obtain ⟨h1, h⟩ := h
          refine st_iastore (pc := 116) dX10_sheet_116 hk18 h1.1 h1.2 ?_
          refine Wp.nameM (fun m14 em14 => ?_)
          replace h := h m14 em14
          refine st_iload (pc := 117) dX10_sheet_117 rfl ?_
          refine st_aload_n (pc := 119) dX10_sheet_119 rfl rfl ?_
          obtain ⟨hk19, h⟩ := h
          refine sg_gfR (pc := 120) (J := 4) dX10_sheet_120 fl_10_23 rfl hk19 ?_
          refine st_iload (pc := 123) dX10_sheet_123 rfl ?_
          obtain ⟨hk20, h⟩ := h
          obtain ⟨h1, h⟩ := h
          refine sg_iaload (pc := 125) dX10_sheet_125 hk20 h1 ?_
          refine st_iadd (pc := 126) dX10_sheet_126 ?_
          refine sg_istore (pc := 127) (ls' := [some (vr a0), some (vi a1), some (vi a2), some (vi a3), some (vi a4), some (vi (w32 (a5 + (mD m14 (mR m14 a0 4) a7)))), some (vi a6), some (vi a7), some (vi v20)]) dX10_sheet_127 (by show (5 : Nat) < 9; decide) rfl ?_
          refine Wp.nameL (ls2 := fun v => [some (vr a0), some (vi a1), some (vi a2), some (vi a3), some (vi a4), some (vi v), some (vi a6), some (vi a7), some (vi v20)]) 5 _ rfl (fun _ => rfl) (fun v24 ev24 => ?_)
          replace h := h v24 ev24
          refine st_iload (pc := 129) dX10_sheet_129 rfl ?_
          refine st_iload (pc := 131) dX10_sheet_131 rfl ?_
          refine st_iadd (pc := 133) dX10_sheet_133 ?_
          refine sg_istore (pc := 134) (ls' := [some (vr a0), some (vi a1), some (vi a2), some (vi a3), some (vi a4), some (vi v24), some (vi (w32 (a6 + a4))), some (vi a7), some (vi v20)]) dX10_sheet_134 (by show (6 : Nat) < 9; decide) rfl ?_
          refine Wp.nameL (ls2 := fun v => [some (vr a0), some (vi a1), some (vi a2), some (vi a3), some (vi a4), some (vi v24), some (vi v), some (vi a7), some (vi v20)]) 6 _ rfl (fun _ => rfl) (fun v25 ev25 => ?_)
          replace h := h v25 ev25
          refine sg_iinc (pc := 136) (ls' := [some (vr a0), some (vi a1), some (vi a2), some (vi a3), some (vi a4), some (vi v24), some (vi v25), some (vi (w32 (a7 + 1))), some (vi v20)]) dX10_sheet_136 rfl rfl ?_
          refine Wp.nameL (ls2 := fun v => [some (vr a0), some (vi a1), some (vi a2), some (vi a3), some (vi a4), some (vi v24), some (vi v25), some (vi v), some (vi v20)]) 7 _ rfl (fun _ => rfl) (fun v26 ev26 => ?_)
          replace h := h v26 ev26
          refine st_goto (pc := 139) dX10_sheet_139 rfl ?_
          refine Wp.drop 8 rfl ?_
          exact h
        · replace h := h.2 c
          refine sg_bipush (pc := 100) dX10_sheet_100 (by omega) (by decide) ?_
          refine st_goto (pc := 102) dX10_sheet_102 rfl ?_
          obtain ⟨hk21, h⟩ := h
          obtain ⟨h1, h⟩ := h
          refine st_iastore (pc := 116) dX10_sheet_116 hk21 h1.1 h1.2 ?_
          refine Wp.nameM (fun m15 em15 => ?_)
          replace h := h m15 em15
          refine st_iload (pc := 117) dX10_sheet_117 rfl ?_
          refine st_aload_n (pc := 119) dX10_sheet_119 rfl rfl ?_
          refine sg_gfR (pc := 120) (J := 4) dX10_sheet_120 fl_10_23 rfl (by cases em15; exact hk1) ?_
          refine st_iload (pc := 123) dX10_sheet_123 rfl ?_
          obtain ⟨hk22, h⟩ := h
          obtain ⟨h1, h⟩ := h
          refine sg_iaload (pc := 125) dX10_sheet_125 hk22 h1 ?_
          refine st_iadd (pc := 126) dX10_sheet_126 ?_
          refine sg_istore (pc := 127) (ls' := [some (vr a0), some (vi a1), some (vi a2), some (vi a3), some (vi a4), some (vi (w32 (a5 + (mD m15 (mR m15 a0 4) a7)))), some (vi a6), some (vi a7), some (vi v20)]) dX10_sheet_127 (by show (5 : Nat) < 9; decide) rfl ?_
          refine Wp.nameL (ls2 := fun v => [some (vr a0), some (vi a1), some (vi a2), some (vi a3), some (vi a4), some (vi v), some (vi a6), some (vi a7), some (vi v20)]) 5 _ rfl (fun _ => rfl) (fun v27 ev27 => ?_)
          replace h := h v27 ev27
          refine st_iload (pc := 129) dX10_sheet_129 rfl ?_
          refine st_iload (pc := 131) dX10_sheet_131 rfl ?_
          refine st_iadd (pc := 133) dX10_sheet_133 ?_
          refine sg_istore (pc := 134) (ls' := [some (vr a0), some (vi a1), some (vi a2), some (vi a3), some (vi a4), some (vi v27), some (vi (w32 (a6 + a4))), some (vi a7), some (vi v20)]) dX10_sheet_134 (by show (6 : Nat) < 9; decide) rfl ?_
          refine Wp.nameL (ls2 := fun v => [some (vr a0), some (vi a1), some (vi a2), some (vi a3), some (vi a4), some (vi v27), some (vi v), some (vi a7), some (vi v20)]) 6 _ rfl (fun _ => rfl) (fun v28 ev28 => ?_)
          replace h := h v28 ev28
          refine sg_iinc (pc := 136) (ls' := [some (vr a0), some (vi a1), some (vi a2), some (vi a3), some (vi a4), some (vi v27), some (vi v28), some (vi (w32 (a7 + 1))), some (vi v20)]) dX10_sheet_136 rfl rfl ?_
          refine Wp.nameL (ls2 := fun v => [some (vr a0), some (vi a1), some (vi a2), some (vi a3), some (vi a4), some (vi v27), some (vi v28), some (vi v), some (vi v20)]) 7 _ rfl (fun _ => rfl) (fun v29 ev29 => ?_)
          replace h := h v29 ev29
          refine st_goto (pc := 139) dX10_sheet_139 rfl ?_
          refine Wp.drop 8 rfl ?_
          exact h

theorem sg_X10_fresh_0 {d bc bs : Nat} {a0 : Nat} {μ : Mem} {Q : Option (Option AV) → Mem → Prop}
    (h : mK μ a0 = 11 ∧ (∀ m1, m1 = sD μ a0 15 0 → ∀ v1, v1 = mD m1 a0 5 → ∃ (mc1 ms1 : Nat) (K1 : Mem → Prop), Cl d mc1 ms1 mX10_begin [vr a0] m1 (KV K1) ∧ mc1 ≤ bc ∧ ms1 ≤ bs ∧ (∀ m2, K1 m2 → Q (some (some (vi v1))) m2))) :
    Wp (d + 1) bc bs mX10_fresh 0 [some (vr a0), none] [] μ Q := by
  refine st_aload_n (pc := 0) dX10_fresh_0 rfl rfl ?_
  refine sg_iconst (pc := 1) dX10_fresh_1 (by omega) ?_
  obtain ⟨hk1, h⟩ := h
  refine sg_pfI (pc := 2) (J := 15) dX10_fresh_2 fl_10_142 rfl (Or.inl rfl) hk1 ?_
  refine Wp.nameM (fun m1 em1 => ?_)
  replace h := h m1 em1
  refine st_aload_n (pc := 5) dX10_fresh_5 rfl rfl ?_
  refine sg_gfI (pc := 6) (J := 5) dX10_fresh_6 fl_10_148 (by decide) rfl (by cases em1; exact hk1) ?_
  refine sg_istore_n (pc := 9) (ls' := [some (vr a0), some (vi (mD m1 a0 5))]) dX10_fresh_9 rfl (by show (1 : Nat) < 2; decide) rfl ?_
  refine Wp.nameL (ls2 := fun v => [some (vr a0), some (vi v)]) 1 _ rfl (fun _ => rfl) (fun v1 ev1 => ?_)
  replace h := h v1 ev1
  refine st_aload_n (pc := 10) dX10_fresh_10 rfl rfl ?_
  obtain ⟨mc1, ms1, K1, hC, e1, e2, h⟩ := h
  refine sg_VV (pc := 11) (av := []) (st := []) (K := K1) dX10_fresh_11 ck_10_139 rfl (by decide) (by cases em1; exact hk1) (by show (0 : Nat) ≤ 8; decide) hC e1 e2 (fun m2 hK => ?_) rfl
  replace h := h m2 hK
  refine st_iload_n (pc := 14) dX10_fresh_14 rfl rfl ?_
  exact st_ireturn (pc := 15) dX10_fresh_15 (Or.inl rfl) h

theorem sg_X10_lean_0 {d bc bs : Nat} {a0 : Nat} {a1 : Int} {a2 : Int} {μ : Mem} {Q : Option (Option AV) → Mem → Prop}
    (h : Wp (d + 1) bc bs mX10_lean 2 [some (vr a0), some (vi a1), some (vi a2), some (vi 0), none] [] μ Q) :
    Wp (d + 1) bc bs mX10_lean 0 [some (vr a0), some (vi a1), some (vi a2), none, none] [] μ Q := by
  refine sg_iconst (pc := 0) dX10_lean_0 (by omega) ?_
  refine sg_istore_n (pc := 1) (ls' := [some (vr a0), some (vi a1), some (vi a2), some (vi 0), none]) dX10_lean_1 rfl (by show (3 : Nat) < 5; decide) rfl ?_
  exact h

theorem sg_X10_lean_2 {d bc bs : Nat} {a0 : Nat} {a1 : Int} {a2 : Int} {a3 : Int} {μ : Mem} {Q : Option (Option AV) → Mem → Prop}
    (h : mK μ a0 = 11 ∧ (((mD μ a0 0) ≤ a3 → Q (some none) μ) ∧ (¬ (mD μ a0 0) ≤ a3 → (w32 ((mD μ a0 0) - 1)) ≠ 0 ∧ (∀ v1, v1 = w32 ((mD μ a0 2) + (w32 ((w32 (a2 * (w32 ((w32 ((mD μ a0 0) - 1)) - (w32 (2 * a3)))))).tdiv (w32 ((mD μ a0 0) - 1))))) → ∃ (mc1 ms1 : Nat) (K1 : Int → Mem → Prop), Cl d mc1 ms1 mJ9_min_7cf53 [vi (mD μ a0 1), vi v1] μ (KI K1) ∧ mc1 ≤ bc ∧ ms1 ≤ bs ∧ (∀ x1 m1, K1 x1 m1 → ∃ (mc2 ms2 : Nat) (K2 : Int → Mem → Prop), Cl d mc2 ms2 mJ9_max_7cf53 [vi 0, vi x1] m1 (KI K2) ∧ mc2 ≤ bc - mc1 ∧ ms2 ≤ bs - ms1 ∧ (∀ x2 m2, K2 x2 m2 → mK m2 (mR μ a0 6) = 20 ∧ ((0 : Int) ≤ (w32 ((w32 (20 * a1)) + a3)) ∧ (w32 ((w32 (20 * a1)) + a3)) < (mN m2 (mR μ a0 6) : Int)) ∧ (∀ m3, m3 = sD m2 (mR μ a0 6) (w32 ((w32 (20 * a1)) + a3)) x2 → mK m3 a0 = 11 ∧ (mK m3 (mR m3 a0 7) = 20 ∧ ((0 : Int) ≤ (w32 ((w32 (20 * a1)) + a3)) ∧ (w32 ((w32 (20 * a1)) + a3)) < (mN m3 (mR m3 a0 7) : Int)) ∧ (∀ m4, m4 = sD m3 (mR m3 a0 7) (w32 ((w32 (20 * a1)) + a3)) 0 → ∀ v2, v2 = w32 (a3 + 1) → Wp (d + 1) (bc - mc1 - mc2) (bs - ms1 - ms2) mX10_lean 2 [some (vr a0), some (vi a1), some (vi a2), some (vi v2), none] [] m4 Q))))))))) :
    Wp (d + 1) bc bs mX10_lean 2 [some (vr a0), some (vi a1), some (vi a2), some (vi a3), none] [] μ Q := by
  refine st_iload_n (pc := 2) dX10_lean_2 rfl rfl ?_
  refine st_aload_n (pc := 3) dX10_lean_3 rfl rfl ?_
  obtain ⟨hk1, h⟩ := h
  refine sg_gfI (pc := 4) (J := 0) dX10_lean_4 fl_10_9 (by decide) rfl hk1 ?_
  refine st_icmpge (pc := 7) (tgt := 78) dX10_lean_7 rfl (fun c => ?_) (fun c => ?_)
  · replace h := h.1 c
    exact st_return (pc := 78) dX10_lean_78 rfl h
  · replace h := h.2 c
    refine st_aload_n (pc := 10) dX10_lean_10 rfl rfl ?_
    refine sg_gfI (pc := 11) (J := 2) dX10_lean_11 fl_10_16 (by decide) rfl hk1 ?_
    refine st_iload_n (pc := 14) dX10_lean_14 rfl rfl ?_
    refine st_aload_n (pc := 15) dX10_lean_15 rfl rfl ?_
    refine sg_gfI (pc := 16) (J := 0) dX10_lean_16 fl_10_9 (by decide) rfl hk1 ?_
    refine sg_iconst (pc := 19) dX10_lean_19 (by omega) ?_
    refine st_isub (pc := 20) dX10_lean_20 ?_
    refine sg_iconst (pc := 21) dX10_lean_21 (by omega) ?_
    refine st_iload_n (pc := 22) dX10_lean_22 rfl rfl ?_
    refine st_imul (pc := 23) dX10_lean_23 ?_
    refine st_isub (pc := 24) dX10_lean_24 ?_
    refine st_imul (pc := 25) dX10_lean_25 ?_
    refine st_aload_n (pc := 26) dX10_lean_26 rfl rfl ?_
    refine sg_gfI (pc := 27) (J := 0) dX10_lean_27 fl_10_9 (by decide) rfl hk1 ?_
    refine sg_iconst (pc := 30) dX10_lean_30 (by omega) ?_
    refine st_isub (pc := 31) dX10_lean_31 ?_
    obtain ⟨h0, h⟩ := h
    refine st_idiv (pc := 32) dX10_lean_32 h0 ?_
    refine st_iadd (pc := 33) dX10_lean_33 ?_
    refine sg_istore (pc := 34) (ls' := [some (vr a0), some (vi a1), some (vi a2), some (vi a3), some (vi (w32 ((mD μ a0 2) + (w32 ((w32 (a2 * (w32 ((w32 ((mD μ a0 0) - 1)) - (w32 (2 * a3)))))).tdiv (w32 ((mD μ a0 0) - 1)))))))]) dX10_lean_34 (by show (4 : Nat) < 5; decide) rfl ?_
    refine Wp.nameL (ls2 := fun v => [some (vr a0), some (vi a1), some (vi a2), some (vi a3), some (vi v)]) 4 _ rfl (fun _ => rfl) (fun v1 ev1 => ?_)
    replace h := h v1 ev1
    refine st_aload_n (pc := 36) dX10_lean_36 rfl rfl ?_
    refine sg_gfR (pc := 37) (J := 6) dX10_lean_37 fl_10_26 rfl hk1 ?_
    refine sg_bipush (pc := 40) dX10_lean_40 (by omega) (by decide) ?_
    refine st_iload_n (pc := 42) dX10_lean_42 rfl rfl ?_
    refine st_imul (pc := 43) dX10_lean_43 ?_
    refine st_iload_n (pc := 44) dX10_lean_44 rfl rfl ?_
    refine st_iadd (pc := 45) dX10_lean_45 ?_
    refine sg_iconst (pc := 46) dX10_lean_46 (by omega) ?_
    refine st_aload_n (pc := 47) dX10_lean_47 rfl rfl ?_
    refine sg_gfI (pc := 48) (J := 1) dX10_lean_48 fl_10_13 (by decide) rfl hk1 ?_
    refine st_iload (pc := 51) dX10_lean_51 rfl ?_
    obtain ⟨mc1, ms1, K1, hC, e1, e2, h⟩ := h
    refine sg_SI (pc := 53) (av := [vi (mD μ a0 1), vi v1]) (st := [vi 0, vi (w32 ((w32 (20 * a1)) + a3)), vr (mR μ a0 6)]) (K := K1) dX10_lean_53 ck_10_162 rfl (by show (3 : Nat) ≤ 8; decide) hC e1 e2 (fun x1 m1 hK => ?_) rfl
    replace h := h x1 m1 hK
    obtain ⟨mc2, ms2, K2, hC, e1, e2, h⟩ := h
    refine sg_SI (pc := 56) (av := [vi 0, vi x1]) (st := [vi (w32 ((w32 (20 * a1)) + a3)), vr (mR μ a0 6)]) (K := K2) dX10_lean_56 ck_10_168 rfl (by show (2 : Nat) ≤ 8; decide) hC e1 e2 (fun x2 m2 hK => ?_) rfl
    replace h := h x2 m2 hK
    obtain ⟨hk2, h⟩ := h
    obtain ⟨h1, h⟩ := h
    refine st_iastore (pc := 59) dX10_lean_59 hk2 h1.1 h1.2 ?_
    refine Wp.nameM (fun m3 em3 => ?_)
    replace h := h m3 em3
    refine st_aload_n (pc := 60) dX10_lean_60 rfl rfl ?_
    obtain ⟨hk3, h⟩ := h
    refine sg_gfR (pc := 61) (J := 7) dX10_lean_61 fl_10_29 rfl hk3 ?_
    refine sg_bipush (pc := 64) dX10_lean_64 (by omega) (by decide) ?_
    refine st_iload_n (pc := 66) dX10_lean_66 rfl rfl ?_
    refine st_imul (pc := 67) dX10_lean_67 ?_
    refine st_iload_n (pc := 68) dX10_lean_68 rfl rfl ?_
    refine st_iadd (pc := 69) dX10_lean_69 ?_
    refine sg_iconst (pc := 70) dX10_lean_70 (by omega) ?_
    obtain ⟨hk4, h⟩ := h
    obtain ⟨h1, h⟩ := h
    refine st_iastore (pc := 71) dX10_lean_71 hk4 h1.1 h1.2 ?_
    refine Wp.nameM (fun m4 em4 => ?_)
    replace h := h m4 em4
    refine sg_iinc (pc := 72) (ls' := [some (vr a0), some (vi a1), some (vi a2), some (vi (w32 (a3 + 1))), some (vi v1)]) dX10_lean_72 rfl rfl ?_
    refine Wp.nameL (ls2 := fun v => [some (vr a0), some (vi a1), some (vi a2), some (vi v), some (vi v1)]) 3 _ rfl (fun _ => rfl) (fun v2 ev2 => ?_)
    replace h := h v2 ev2
    refine st_goto (pc := 75) dX10_lean_75 rfl ?_
    refine Wp.drop 4 rfl ?_
    exact h

theorem sg_X10_tilt_0 {d bc bs : Nat} {a0 : Nat} {a1 : Int} {a2 : Int} {μ : Mem} {Q : Option (Option AV) → Mem → Prop}
    (h : mK μ a0 = 11 ∧ (∀ m1, m1 = sD μ a0 15 0 → ∃ (mc1 ms1 : Nat) (K1 : Int → Mem → Prop), Cl d mc1 ms1 mX10_in [vi a1, vi 0, vi 1] m1 (KI K1) ∧ mc1 ≤ bc ∧ ms1 ≤ bs ∧ (∀ x1 m2, K1 x1 m2 → (x1 = 0 → Q (some (some (vi 0))) m2) ∧ (¬ x1 = 0 → ∃ (mc2 ms2 : Nat) (K2 : Int → Mem → Prop), Cl d mc2 ms2 mX10_in [vi a2, vi (-500), vi 500] m2 (KI K2) ∧ mc2 ≤ bc - mc1 ∧ ms2 ≤ bs - ms1 ∧ (∀ x2 m3, K2 x2 m3 → (¬ x2 = 0 → mK m3 a0 = 11 ∧ ∃ (mc3 ms3 : Nat) (K3 : Mem → Prop), Cl d mc3 ms3 mX10_lean [vr a0, vi a1, vi a2] m3 (KV K3) ∧ mc3 ≤ bc - mc1 - mc2 ∧ ms3 ≤ bs - ms1 - ms2 ∧ (∀ m4, K3 m4 → Q (some (some (vi 1))) m4)) ∧ (x2 = 0 → Q (some (some (vi 0))) m3)))))) :
    Wp (d + 1) bc bs mX10_tilt 0 [some (vr a0), some (vi a1), some (vi a2)] [] μ Q := by
  refine st_aload_n (pc := 0) dX10_tilt_0 rfl rfl ?_
  refine sg_iconst (pc := 1) dX10_tilt_1 (by omega) ?_
  obtain ⟨hk1, h⟩ := h
  refine sg_pfI (pc := 2) (J := 15) dX10_tilt_2 fl_10_142 rfl (Or.inl rfl) hk1 ?_
  refine Wp.nameM (fun m1 em1 => ?_)
  replace h := h m1 em1
  refine st_iload_n (pc := 5) dX10_tilt_5 rfl rfl ?_
  refine sg_iconst (pc := 6) dX10_tilt_6 (by omega) ?_
  refine sg_iconst (pc := 7) dX10_tilt_7 (by omega) ?_
  obtain ⟨mc1, ms1, K1, hC, e1, e2, h⟩ := h
  refine sg_SI (pc := 8) (av := [vi a1, vi 0, vi 1]) (st := []) (K := K1) dX10_tilt_8 ck_10_151 rfl (by show (0 : Nat) ≤ 8; decide) hC e1 e2 (fun x1 m2 hK => ?_) rfl
  replace h := h x1 m2 hK
  refine st_ifeq (pc := 11) (tgt := 27) dX10_tilt_11 rfl (fun c => ?_) (fun c => ?_)
  · replace h := h.1 c
    refine sg_iconst (pc := 27) dX10_tilt_27 (by omega) ?_
    exact st_ireturn (pc := 28) dX10_tilt_28 (Or.inr ⟨rfl, by omega⟩) h
  · replace h := h.2 c
    refine st_iload_n (pc := 14) dX10_tilt_14 rfl rfl ?_
    refine sg_sipush (pc := 15) dX10_tilt_15 (by omega) (by decide) ?_
    refine sg_sipush (pc := 18) dX10_tilt_18 (by omega) (by decide) ?_
    obtain ⟨mc2, ms2, K2, hC, e1, e2, h⟩ := h
    refine sg_SI (pc := 21) (av := [vi a2, vi (-500), vi 500]) (st := []) (K := K2) dX10_tilt_21 ck_10_151 rfl (by show (0 : Nat) ≤ 8; decide) hC e1 e2 (fun x2 m3 hK => ?_) rfl
    replace h := h x2 m3 hK
    refine st_ifne (pc := 24) (tgt := 29) dX10_tilt_24 rfl (fun c => ?_) (fun c => ?_)
    · replace h := h.1 c
      refine st_aload_n (pc := 29) dX10_tilt_29 rfl rfl ?_
      refine st_iload_n (pc := 30) dX10_tilt_30 rfl rfl ?_
      refine st_iload_n (pc := 31) dX10_tilt_31 rfl rfl ?_
      obtain ⟨hk2, h⟩ := h
      obtain ⟨mc3, ms3, K3, hC, e1, e2, h⟩ := h
      refine sg_VV (pc := 32) (av := [vi a1, vi a2]) (st := []) (K := K3) dX10_tilt_32 ck_10_171 rfl (by decide) hk2 (by show (0 : Nat) ≤ 8; decide) hC e1 e2 (fun m4 hK => ?_) rfl
      replace h := h m4 hK
      refine sg_iconst (pc := 35) dX10_tilt_35 (by omega) ?_
      exact st_ireturn (pc := 36) dX10_tilt_36 (Or.inr ⟨rfl, by omega⟩) h
    · replace h := h.2 c
      refine sg_iconst (pc := 27) dX10_tilt_27 (by omega) ?_
      exact st_ireturn (pc := 28) dX10_tilt_28 (Or.inr ⟨rfl, by omega⟩) h

theorem sg_X10_slope_0 {d bc bs : Nat} {a0 : Nat} {μ : Mem} {Q : Option (Option AV) → Mem → Prop}
    (h : mK μ a0 = 11 ∧ ((mK μ (mR μ a0 6) = 20 ∨ ((mR μ a0 6) ≠ 0 ∧ mK μ (mR μ a0 6) = 40)) ∧ ((0 : Int) ≤ 0 ∧ 0 < (mN μ (mR μ a0 6) : Int)) ∧ (((0 : Int) ≤ (w32 ((mD μ a0 0) - 1)) ∧ (w32 ((mD μ a0 0) - 1)) < (mN μ (mR μ a0 6) : Int)) ∧ (Q (some (some (vi (w32 ((mD μ (mR μ a0 6) 0) - (mD μ (mR μ a0 6) (w32 ((mD μ a0 0) - 1)))))))) μ)))) :
    Wp d bc bs mX10_slope 0 [some (vr a0)] [] μ Q := by
  refine st_aload_n (pc := 0) dX10_slope_0 rfl rfl ?_
  obtain ⟨hk1, h⟩ := h
  refine sg_gfR (pc := 1) (J := 6) dX10_slope_1 fl_10_26 rfl hk1 ?_
  refine sg_iconst (pc := 4) dX10_slope_4 (by omega) ?_
  obtain ⟨hk2, h⟩ := h
  obtain ⟨h1, h⟩ := h
  refine sg_iaload (pc := 5) dX10_slope_5 hk2 h1 ?_
  refine st_aload_n (pc := 6) dX10_slope_6 rfl rfl ?_
  refine sg_gfR (pc := 7) (J := 6) dX10_slope_7 fl_10_26 rfl hk1 ?_
  refine st_aload_n (pc := 10) dX10_slope_10 rfl rfl ?_
  refine sg_gfI (pc := 11) (J := 0) dX10_slope_11 fl_10_9 (by decide) rfl hk1 ?_
  refine sg_iconst (pc := 14) dX10_slope_14 (by omega) ?_
  refine st_isub (pc := 15) dX10_slope_15 ?_
  obtain ⟨h1, h⟩ := h
  refine sg_iaload (pc := 16) dX10_slope_16 hk2 h1 ?_
  refine st_isub (pc := 17) dX10_slope_17 ?_
  exact st_ireturn (pc := 18) dX10_slope_18 (Or.inl rfl) h

theorem sg_X10_flows_0 {d bc bs : Nat} {a0 : Nat} {a1 : Int} {a2 : Int} {μ : Mem} {Q : Option (Option AV) → Mem → Prop}
    (h : mK μ a0 = 11 ∧ ((mK μ (mR μ a0 3) = 20 ∨ ((mR μ a0 3) ≠ 0 ∧ mK μ (mR μ a0 3) = 40)) ∧ ((0 : Int) ≤ 1 ∧ 1 < (mN μ (mR μ a0 3) : Int)) ∧ (((0 : Int) ≤ 2 ∧ 2 < (mN μ (mR μ a0 3) : Int)) ∧ (((0 : Int) ≤ 3 ∧ 3 < (mN μ (mR μ a0 3) : Int)) ∧ (∃ (mc1 ms1 : Nat) (K1 : Int → Mem → Prop), Cl d mc1 ms1 mJ9_min_7cf53 [vi 100, vi (w32 ((mD μ (mR μ a0 3) 1) + (w32 ((mD μ (mR μ a0 3) 2) * (mD μ (mR μ a0 3) 3)))))] μ (KI K1) ∧ mc1 ≤ bc ∧ ms1 ≤ bs ∧ (∀ x1 m1, K1 x1 m1 → Wp (d + 1) (bc - mc1) (bs - ms1) mX10_flows 29 [some (vr a0), some (vi a1), some (vi a2), some (vi x1), some (vi 0), none, none, none] [] m1 Q)))))) :
    Wp (d + 1) bc bs mX10_flows 0 [some (vr a0), some (vi a1), some (vi a2), none, none, none, none, none] [] μ Q := by
  refine sg_bipush (pc := 0) dX10_flows_0 (by omega) (by decide) ?_
  refine st_aload_n (pc := 2) dX10_flows_2 rfl rfl ?_
  obtain ⟨hk1, h⟩ := h
  refine sg_gfR (pc := 3) (J := 3) dX10_flows_3 fl_10_19 rfl hk1 ?_
  refine sg_iconst (pc := 6) dX10_flows_6 (by omega) ?_
  obtain ⟨hk2, h⟩ := h
  obtain ⟨h1, h⟩ := h
  refine sg_iaload (pc := 7) dX10_flows_7 hk2 h1 ?_
  refine st_aload_n (pc := 8) dX10_flows_8 rfl rfl ?_
  refine sg_gfR (pc := 9) (J := 3) dX10_flows_9 fl_10_19 rfl hk1 ?_
  refine sg_iconst (pc := 12) dX10_flows_12 (by omega) ?_
  obtain ⟨h1, h⟩ := h
  refine sg_iaload (pc := 13) dX10_flows_13 hk2 h1 ?_
  refine st_aload_n (pc := 14) dX10_flows_14 rfl rfl ?_
  refine sg_gfR (pc := 15) (J := 3) dX10_flows_15 fl_10_19 rfl hk1 ?_
  refine sg_iconst (pc := 18) dX10_flows_18 (by omega) ?_
  obtain ⟨h1, h⟩ := h
  refine sg_iaload (pc := 19) dX10_flows_19 hk2 h1 ?_
  refine st_imul (pc := 20) dX10_flows_20 ?_
  refine st_iadd (pc := 21) dX10_flows_21 ?_
  obtain ⟨mc1, ms1, K1, hC, e1, e2, h⟩ := h
  refine sg_SI (pc := 22) (av := [vi 100, vi (w32 ((mD μ (mR μ a0 3) 1) + (w32 ((mD μ (mR μ a0 3) 2) * (mD μ (mR μ a0 3) 3)))))]) (st := []) (K := K1) dX10_flows_22 ck_10_162 rfl (by show (0 : Nat) ≤ 8; decide) hC e1 e2 (fun x1 m1 hK => ?_) rfl
  replace h := h x1 m1 hK
  refine sg_istore_n (pc := 25) (ls' := [some (vr a0), some (vi a1), some (vi a2), some (vi x1), none, none, none, none]) dX10_flows_25 rfl (by show (3 : Nat) < 8; decide) rfl ?_
  refine sg_iconst (pc := 26) dX10_flows_26 (by omega) ?_
  refine sg_istore (pc := 27) (ls' := [some (vr a0), some (vi a1), some (vi a2), some (vi x1), some (vi 0), none, none, none]) dX10_flows_27 (by show (4 : Nat) < 8; decide) rfl ?_
  exact h

theorem sg_X10_flows_29 {d bc bs : Nat} {a0 : Nat} {a1 : Int} {a2 : Int} {a3 : Int} {a4 : Int} {μ : Mem} {Q : Option (Option AV) → Mem → Prop}
    (h : mK μ a0 = 11 ∧ (((w32 ((mD μ a0 0) - 1)) ≤ a4 → Wp (d + 1) bc bs mX10_flows 145 [some (vr a0), some (vi a1), some (vi a2), some (vi a3), some (vi 0), none, none, none] [] μ Q) ∧ (¬ (w32 ((mD μ a0 0) - 1)) ≤ a4 → ∀ v1, v1 = w32 ((w32 (20 * a1)) + a4) → (mK μ (mR μ a0 7) = 20 ∨ ((mR μ a0 7) ≠ 0 ∧ mK μ (mR μ a0 7) = 40)) ∧ ((0 : Int) ≤ v1 ∧ v1 < (mN μ (mR μ a0 7) : Int)) ∧ ((mK μ (mR μ a0 3) = 20 ∨ ((mR μ a0 3) ≠ 0 ∧ mK μ (mR μ a0 3) = 40)) ∧ ((0 : Int) ≤ 0 ∧ 0 < (mN μ (mR μ a0 3) : Int)) ∧ ((mK μ (mR μ a0 6) = 20 ∨ ((mR μ a0 6) ≠ 0 ∧ mK μ (mR μ a0 6) = 40)) ∧ ((0 : Int) ≤ v1 ∧ v1 < (mN μ (mR μ a0 6) : Int)) ∧ (((0 : Int) ≤ (w32 (v1 + 1)) ∧ (w32 (v1 + 1)) < (mN μ (mR μ a0 6) : Int)) ∧ (∀ v2, v2 = w32 ((w32 ((mD μ (mR μ a0 7) v1) + (w32 ((w32 ((mD μ (mR μ a0 3) 0) * (w32 ((mD μ (mR μ a0 6) v1) - (mD μ (mR μ a0 6) (w32 (v1 + 1))))))).tdiv 16)))) + a2) → ∀ v3, v3 = w32 (v2 - (w32 ((w32 (v2 * a3)).tdiv 100))) → (mK μ (mR μ a0 4) = 20 ∨ ((mR μ a0 4) ≠ 0 ∧ mK μ (mR μ a0 4) = 40)) ∧ ((0 : Int) ≤ a4 ∧ a4 < (mN μ (mR μ a0 4) : Int)) ∧ (∀ v4, v4 = w32 ((w32 (v3 * (mD μ (mR μ a0 4) a4))).tdiv 100) → ∃ (mc1 ms1 : Nat) (K1 : Int → Mem → Prop), Cl d mc1 ms1 mJ9_min_7cf53 [vi 8000, vi v4] μ (KI K1) ∧ mc1 ≤ bc ∧ ms1 ≤ bs ∧ (∀ x1 m1, K1 x1 m1 → ∃ (mc2 ms2 : Nat) (K2 : Int → Mem → Prop), Cl d mc2 ms2 mJ9_max_7cf53 [vi (-8000), vi x1] m1 (KI K2) ∧ mc2 ≤ bc - mc1 ∧ ms2 ≤ bs - ms1 ∧ (∀ x2 m2, K2 x2 m2 → mK m2 (mR μ a0 7) = 20 ∧ ((0 : Int) ≤ v1 ∧ v1 < (mN m2 (mR μ a0 7) : Int)) ∧ (∀ m3, m3 = sD m2 (mR μ a0 7) v1 x2 → ∀ v5, v5 = w32 (a4 + 1) → Wp (d + 1) (bc - mc1 - mc2) (bs - ms1 - ms2) mX10_flows 29 [some (vr a0), some (vi a1), some (vi a2), some (vi a3), some (vi v5), none, none, none] [] m3 Q))))))))))) :
    Wp (d + 1) bc bs mX10_flows 29 [some (vr a0), some (vi a1), some (vi a2), some (vi a3), some (vi a4), none, none, none] [] μ Q := by
  refine st_iload (pc := 29) dX10_flows_29 rfl ?_
  refine st_aload_n (pc := 31) dX10_flows_31 rfl rfl ?_
  obtain ⟨hk1, h⟩ := h
  refine sg_gfI (pc := 32) (J := 0) dX10_flows_32 fl_10_9 (by decide) rfl hk1 ?_
  refine sg_iconst (pc := 35) dX10_flows_35 (by omega) ?_
  refine st_isub (pc := 36) dX10_flows_36 ?_
  refine st_icmpge (pc := 37) (tgt := 142) dX10_flows_37 rfl (fun c => ?_) (fun c => ?_)
  · replace h := h.1 c
    refine sg_iconst (pc := 142) dX10_flows_142 (by omega) ?_
    refine sg_istore (pc := 143) (ls' := [some (vr a0), some (vi a1), some (vi a2), some (vi a3), some (vi 0), none, none, none]) dX10_flows_143 (by show (4 : Nat) < 8; decide) rfl ?_
    exact h
  · replace h := h.2 c
    refine sg_bipush (pc := 40) dX10_flows_40 (by omega) (by decide) ?_
    refine st_iload_n (pc := 42) dX10_flows_42 rfl rfl ?_
    refine st_imul (pc := 43) dX10_flows_43 ?_
    refine st_iload (pc := 44) dX10_flows_44 rfl ?_
    refine st_iadd (pc := 46) dX10_flows_46 ?_
    refine sg_istore (pc := 47) (ls' := [some (vr a0), some (vi a1), some (vi a2), some (vi a3), some (vi a4), some (vi (w32 ((w32 (20 * a1)) + a4))), none, none]) dX10_flows_47 (by show (5 : Nat) < 8; decide) rfl ?_
    refine Wp.nameL (ls2 := fun v => [some (vr a0), some (vi a1), some (vi a2), some (vi a3), some (vi a4), some (vi v), none, none]) 5 _ rfl (fun _ => rfl) (fun v1 ev1 => ?_)
    replace h := h v1 ev1
    refine st_aload_n (pc := 49) dX10_flows_49 rfl rfl ?_
    refine sg_gfR (pc := 50) (J := 7) dX10_flows_50 fl_10_29 rfl hk1 ?_
    refine st_iload (pc := 53) dX10_flows_53 rfl ?_
    obtain ⟨hk2, h⟩ := h
    obtain ⟨h1, h⟩ := h
    refine sg_iaload (pc := 55) dX10_flows_55 hk2 h1 ?_
    refine st_aload_n (pc := 56) dX10_flows_56 rfl rfl ?_
    refine sg_gfR (pc := 57) (J := 3) dX10_flows_57 fl_10_19 rfl hk1 ?_
    refine sg_iconst (pc := 60) dX10_flows_60 (by omega) ?_
    obtain ⟨hk3, h⟩ := h
    obtain ⟨h1, h⟩ := h
    refine sg_iaload (pc := 61) dX10_flows_61 hk3 h1 ?_
    refine st_aload_n (pc := 62) dX10_flows_62 rfl rfl ?_
    refine sg_gfR (pc := 63) (J := 6) dX10_flows_63 fl_10_26 rfl hk1 ?_
    refine st_iload (pc := 66) dX10_flows_66 rfl ?_
    obtain ⟨hk4, h⟩ := h
    obtain ⟨h1, h⟩ := h
    refine sg_iaload (pc := 68) dX10_flows_68 hk4 h1 ?_
    refine st_aload_n (pc := 69) dX10_flows_69 rfl rfl ?_
    refine sg_gfR (pc := 70) (J := 6) dX10_flows_70 fl_10_26 rfl hk1 ?_
    refine st_iload (pc := 73) dX10_flows_73 rfl ?_
    refine sg_iconst (pc := 75) dX10_flows_75 (by omega) ?_
    refine st_iadd (pc := 76) dX10_flows_76 ?_
    obtain ⟨h1, h⟩ := h
    refine sg_iaload (pc := 77) dX10_flows_77 hk4 h1 ?_
    refine st_isub (pc := 78) dX10_flows_78 ?_
    refine st_imul (pc := 79) dX10_flows_79 ?_
    refine sg_bipush (pc := 80) dX10_flows_80 (by omega) (by decide) ?_
    refine st_idiv (pc := 82) dX10_flows_82 (by omega) ?_
    refine st_iadd (pc := 83) dX10_flows_83 ?_
    refine st_iload_n (pc := 84) dX10_flows_84 rfl rfl ?_
    refine st_iadd (pc := 85) dX10_flows_85 ?_
    refine sg_istore (pc := 86) (ls' := [some (vr a0), some (vi a1), some (vi a2), some (vi a3), some (vi a4), some (vi v1), some (vi (w32 ((w32 ((mD μ (mR μ a0 7) v1) + (w32 ((w32 ((mD μ (mR μ a0 3) 0) * (w32 ((mD μ (mR μ a0 6) v1) - (mD μ (mR μ a0 6) (w32 (v1 + 1))))))).tdiv 16)))) + a2))), none]) dX10_flows_86 (by show (6 : Nat) < 8; decide) rfl ?_
    refine Wp.nameL (ls2 := fun v => [some (vr a0), some (vi a1), some (vi a2), some (vi a3), some (vi a4), some (vi v1), some (vi v), none]) 6 _ rfl (fun _ => rfl) (fun v2 ev2 => ?_)
    replace h := h v2 ev2
    refine st_iload (pc := 88) dX10_flows_88 rfl ?_
    refine st_iload (pc := 90) dX10_flows_90 rfl ?_
    refine st_iload_n (pc := 92) dX10_flows_92 rfl rfl ?_
    refine st_imul (pc := 93) dX10_flows_93 ?_
    refine sg_bipush (pc := 94) dX10_flows_94 (by omega) (by decide) ?_
    refine st_idiv (pc := 96) dX10_flows_96 (by omega) ?_
    refine st_isub (pc := 97) dX10_flows_97 ?_
    refine sg_istore (pc := 98) (ls' := [some (vr a0), some (vi a1), some (vi a2), some (vi a3), some (vi a4), some (vi v1), some (vi (w32 (v2 - (w32 ((w32 (v2 * a3)).tdiv 100))))), none]) dX10_flows_98 (by show (6 : Nat) < 8; decide) rfl ?_
    refine Wp.nameL (ls2 := fun v => [some (vr a0), some (vi a1), some (vi a2), some (vi a3), some (vi a4), some (vi v1), some (vi v), none]) 6 _ rfl (fun _ => rfl) (fun v3 ev3 => ?_)
    replace h := h v3 ev3
    refine st_iload (pc := 100) dX10_flows_100 rfl ?_
    refine st_aload_n (pc := 102) dX10_flows_102 rfl rfl ?_
    refine sg_gfR (pc := 103) (J := 4) dX10_flows_103 fl_10_23 rfl hk1 ?_
    refine st_iload (pc := 106) dX10_flows_106 rfl ?_
    obtain ⟨hk5, h⟩ := h
    obtain ⟨h1, h⟩ := h
    refine sg_iaload (pc := 108) dX10_flows_108 hk5 h1 ?_
    refine st_imul (pc := 109) dX10_flows_109 ?_
    refine sg_bipush (pc := 110) dX10_flows_110 (by omega) (by decide) ?_
    refine st_idiv (pc := 112) dX10_flows_112 (by omega) ?_
    refine sg_istore (pc := 113) (ls' := [some (vr a0), some (vi a1), some (vi a2), some (vi a3), some (vi a4), some (vi v1), some (vi (w32 ((w32 (v3 * (mD μ (mR μ a0 4) a4))).tdiv 100))), none]) dX10_flows_113 (by show (6 : Nat) < 8; decide) rfl ?_
    refine Wp.nameL (ls2 := fun v => [some (vr a0), some (vi a1), some (vi a2), some (vi a3), some (vi a4), some (vi v1), some (vi v), none]) 6 _ rfl (fun _ => rfl) (fun v4 ev4 => ?_)
    replace h := h v4 ev4
    refine st_aload_n (pc := 115) dX10_flows_115 rfl rfl ?_
    refine sg_gfR (pc := 116) (J := 7) dX10_flows_116 fl_10_29 rfl hk1 ?_
    refine st_iload (pc := 119) dX10_flows_119 rfl ?_
    refine sg_sipush (pc := 121) dX10_flows_121 (by omega) (by decide) ?_
    refine sg_sipush (pc := 124) dX10_flows_124 (by omega) (by decide) ?_
    refine st_iload (pc := 127) dX10_flows_127 rfl ?_
    obtain ⟨mc1, ms1, K1, hC, e1, e2, h⟩ := h
    refine sg_SI (pc := 129) (av := [vi 8000, vi v4]) (st := [vi (-8000), vi v1, vr (mR μ a0 7)]) (K := K1) dX10_flows_129 ck_10_162 rfl (by show (3 : Nat) ≤ 8; decide) hC e1 e2 (fun x1 m1 hK => ?_) rfl
    replace h := h x1 m1 hK
    obtain ⟨mc2, ms2, K2, hC, e1, e2, h⟩ := h
    refine sg_SI (pc := 132) (av := [vi (-8000), vi x1]) (st := [vi v1, vr (mR μ a0 7)]) (K := K2) dX10_flows_132 ck_10_168 rfl (by show (2 : Nat) ≤ 8; decide) hC e1 e2 (fun x2 m2 hK => ?_) rfl
    replace h := h x2 m2 hK
    obtain ⟨hk6, h⟩ := h
    obtain ⟨h1, h⟩ := h
    refine st_iastore (pc := 135) dX10_flows_135 hk6 h1.1 h1.2 ?_
    refine Wp.nameM (fun m3 em3 => ?_)
    replace h := h m3 em3
    refine sg_iinc (pc := 136) (ls' := [some (vr a0), some (vi a1), some (vi a2), some (vi a3), some (vi (w32 (a4 + 1))), some (vi v1), some (vi v4), none]) dX10_flows_136 rfl rfl ?_
    refine Wp.nameL (ls2 := fun v => [some (vr a0), some (vi a1), some (vi a2), some (vi a3), some (vi v), some (vi v1), some (vi v4), none]) 4 _ rfl (fun _ => rfl) (fun v5 ev5 => ?_)
    replace h := h v5 ev5
    refine st_goto (pc := 139) dX10_flows_139 rfl ?_
    refine Wp.drop 5 rfl ?_
    refine Wp.drop 6 rfl ?_
    exact h

theorem sg_X10_flows_145 {d bc bs : Nat} {a0 : Nat} {a1 : Int} {a2 : Int} {a3 : Int} {a4 : Int} {μ : Mem} {Q : Option (Option AV) → Mem → Prop}
    (h : mK μ a0 = 11 ∧ (((w32 ((mD μ a0 0) - 1)) ≤ a4 → Q (some none) μ) ∧ (¬ (w32 ((mD μ a0 0) - 1)) ≤ a4 → ∀ v1, v1 = w32 ((w32 (20 * a1)) + a4) → (mK μ (mR μ a0 7) = 20 ∨ ((mR μ a0 7) ≠ 0 ∧ mK μ (mR μ a0 7) = 40)) ∧ ((0 : Int) ≤ v1 ∧ v1 < (mN μ (mR μ a0 7) : Int)) ∧ (∀ v2, v2 = w32 ((mD μ (mR μ a0 7) v1).tdiv 8) → (v2 ≤ 0 → (mK μ (mR μ a0 6) = 20 ∨ ((mR μ a0 6) ≠ 0 ∧ mK μ (mR μ a0 6) = 40)) ∧ ((0 : Int) ≤ (w32 (v1 + 1)) ∧ (w32 (v1 + 1)) < (mN μ (mR μ a0 6) : Int)) ∧ (∃ (mc1 ms1 : Nat) (K1 : Int → Mem → Prop), Cl d mc1 ms1 mJ9_min_7cf53 [vi (w32 (-v2)), vi (mD μ (mR μ a0 6) (w32 (v1 + 1)))] μ (KI K1) ∧ mc1 ≤ bc ∧ ms1 ≤ bs ∧ (∀ x1 m1, K1 x1 m1 → ∀ v3, v3 = w32 (-x1) → mK m1 a0 = 11 ∧ ((mK m1 (mR m1 a0 6) = 20 ∨ ((mR m1 a0 6) ≠ 0 ∧ mK m1 (mR m1 a0 6) = 40)) ∧ ((0 : Int) ≤ v1 ∧ v1 < (mN m1 (mR m1 a0 6) : Int)) ∧ (mK m1 (mR m1 a0 6) = 20 ∧ ((0 : Int) ≤ v1 ∧ v1 < (mN m1 (mR m1 a0 6) : Int)) ∧ (∀ m2, m2 = sD m1 (mR m1 a0 6) v1 (w32 ((mD m1 (mR m1 a0 6) v1) - v3)) → ((0 : Int) ≤ (w32 (v1 + 1)) ∧ (w32 (v1 + 1)) < (mN m2 (mR m2 a0 6) : Int)) ∧ (((0 : Int) ≤ (w32 (v1 + 1)) ∧ (w32 (v1 + 1)) < (mN m2 (mR m2 a0 6) : Int)) ∧ (∀ m3, m3 = sD m2 (mR m2 a0 6) (w32 (v1 + 1)) (w32 ((mD m2 (mR m2 a0 6) (w32 (v1 + 1))) + v3)) → (v3 = v2 → ∀ v4, v4 = w32 (a4 + 1) → Wp (d + 1) (bc - mc1) (bs - ms1) mX10_flows 145 [some (vr a0), some (vi a1), some (vi a2), some (vi a3), some (vi v4), none, none, none] [] m3 Q) ∧ (¬ v3 = v2 → mK m3 (mR m3 a0 7) = 20 ∧ ((0 : Int) ≤ v1 ∧ v1 < (mN m3 (mR m3 a0 7) : Int)) ∧ (∀ m4, m4 = sD m3 (mR m3 a0 7) v1 (w32 (8 * v3)) → ∀ v5, v5 = w32 (a4 + 1) → Wp (d + 1) (bc - mc1) (bs - ms1) mX10_flows 145 [some (vr a0), some (vi a1), some (vi a2), some (vi a3), some (vi v5), none, none, none] [] m4 Q)))))))))) ∧ (¬ v2 ≤ 0 → (mK μ (mR μ a0 6) = 20 ∨ ((mR μ a0 6) ≠ 0 ∧ mK μ (mR μ a0 6) = 40)) ∧ ((0 : Int) ≤ v1 ∧ v1 < (mN μ (mR μ a0 6) : Int)) ∧ (∃ (mc2 ms2 : Nat) (K2 : Int → Mem → Prop), Cl d mc2 ms2 mJ9_min_7cf53 [vi v2, vi (mD μ (mR μ a0 6) v1)] μ (KI K2) ∧ mc2 ≤ bc ∧ ms2 ≤ bs ∧ (∀ x2 m5, K2 x2 m5 → mK m5 a0 = 11 ∧ ((mK m5 (mR m5 a0 6) = 20 ∨ ((mR m5 a0 6) ≠ 0 ∧ mK m5 (mR m5 a0 6) = 40)) ∧ ((0 : Int) ≤ v1 ∧ v1 < (mN m5 (mR m5 a0 6) : Int)) ∧ (mK m5 (mR m5 a0 6) = 20 ∧ ((0 : Int) ≤ v1 ∧ v1 < (mN m5 (mR m5 a0 6) : Int)) ∧ (∀ m6, m6 = sD m5 (mR m5 a0 6) v1 (w32 ((mD m5 (mR m5 a0 6) v1) - x2)) → ((0 : Int) ≤ (w32 (v1 + 1)) ∧ (w32 (v1 + 1)) < (mN m6 (mR m6 a0 6) : Int)) ∧ (((0 : Int) ≤ (w32 (v1 + 1)) ∧ (w32 (v1 + 1)) < (mN m6 (mR m6 a0 6) : Int)) ∧ (∀ m7, m7 = sD m6 (mR m6 a0 6) (w32 (v1 + 1)) (w32 ((mD m6 (mR m6 a0 6) (w32 (v1 + 1))) + x2)) → (x2 = v2 → ∀ v6, v6 = w32 (a4 + 1) → Wp (d + 1) (bc - mc2) (bs - ms2) mX10_flows 145 [some (vr a0), some (vi a1), some (vi a2), some (vi a3), some (vi v6), none, none, none] [] m7 Q) ∧ (¬ x2 = v2 → mK m7 (mR m7 a0 7) = 20 ∧ ((0 : Int) ≤ v1 ∧ v1 < (mN m7 (mR m7 a0 7) : Int)) ∧ (∀ m8, m8 = sD m7 (mR m7 a0 7) v1 (w32 (8 * x2)) → ∀ v7, v7 = w32 (a4 + 1) → Wp (d + 1) (bc - mc2) (bs - ms2) mX10_flows 145 [some (vr a0), some (vi a1), some (vi a2), some (vi a3), some (vi v7), none, none, none] [] m8 Q)))))))))))))) :
    Wp (d + 1) bc bs mX10_flows 145 [some (vr a0), some (vi a1), some (vi a2), some (vi a3), some (vi a4), none, none, none] [] μ Q := by
  refine st_iload (pc := 145) dX10_flows_145 rfl ?_
  refine st_aload_n (pc := 147) dX10_flows_147 rfl rfl ?_
  obtain ⟨hk1, h⟩ := h
  refine sg_gfI (pc := 148) (J := 0) dX10_flows_148 fl_10_9 (by decide) rfl hk1 ?_
  refine sg_iconst (pc := 151) dX10_flows_151 (by omega) ?_
  refine st_isub (pc := 152) dX10_flows_152 ?_
  refine st_icmpge (pc := 153) (tgt := 266) dX10_flows_153 rfl (fun c => ?_) (fun c => ?_)
  · replace h := h.1 c
    exact st_return (pc := 266) dX10_flows_266 rfl h
  · replace h := h.2 c
    refine sg_bipush (pc := 156) dX10_flows_156 (by omega) (by decide) ?_
    refine st_iload_n (pc := 158) dX10_flows_158 rfl rfl ?_
    refine st_imul (pc := 159) dX10_flows_159 ?_
    refine st_iload (pc := 160) dX10_flows_160 rfl ?_
    refine st_iadd (pc := 162) dX10_flows_162 ?_
    refine sg_istore (pc := 163) (ls' := [some (vr a0), some (vi a1), some (vi a2), some (vi a3), some (vi a4), some (vi (w32 ((w32 (20 * a1)) + a4))), none, none]) dX10_flows_163 (by show (5 : Nat) < 8; decide) rfl ?_
    refine Wp.nameL (ls2 := fun v => [some (vr a0), some (vi a1), some (vi a2), some (vi a3), some (vi a4), some (vi v), none, none]) 5 _ rfl (fun _ => rfl) (fun v1 ev1 => ?_)
    replace h := h v1 ev1
    refine st_aload_n (pc := 165) dX10_flows_165 rfl rfl ?_
    refine sg_gfR (pc := 166) (J := 7) dX10_flows_166 fl_10_29 rfl hk1 ?_
    refine st_iload (pc := 169) dX10_flows_169 rfl ?_
    obtain ⟨hk2, h⟩ := h
    obtain ⟨h1, h⟩ := h
    refine sg_iaload (pc := 171) dX10_flows_171 hk2 h1 ?_
    refine sg_bipush (pc := 172) dX10_flows_172 (by omega) (by decide) ?_
    refine st_idiv (pc := 174) dX10_flows_174 (by omega) ?_
    refine sg_istore (pc := 175) (ls' := [some (vr a0), some (vi a1), some (vi a2), some (vi a3), some (vi a4), some (vi v1), some (vi (w32 ((mD μ (mR μ a0 7) v1).tdiv 8))), none]) dX10_flows_175 (by show (6 : Nat) < 8; decide) rfl ?_
    refine Wp.nameL (ls2 := fun v => [some (vr a0), some (vi a1), some (vi a2), some (vi a3), some (vi a4), some (vi v1), some (vi v), none]) 6 _ rfl (fun _ => rfl) (fun v2 ev2 => ?_)
    replace h := h v2 ev2
    refine st_iload (pc := 177) dX10_flows_177 rfl ?_
    refine st_ifle (pc := 179) (tgt := 197) dX10_flows_179 rfl (fun c => ?_) (fun c => ?_)
    · replace h := h.1 c
      refine st_iload (pc := 197) dX10_flows_197 rfl ?_
      refine st_ineg (pc := 199) dX10_flows_199 ?_
      refine st_aload_n (pc := 200) dX10_flows_200 rfl rfl ?_
      refine sg_gfR (pc := 201) (J := 6) dX10_flows_201 fl_10_26 rfl hk1 ?_
      refine st_iload (pc := 204) dX10_flows_204 rfl ?_
      refine sg_iconst (pc := 206) dX10_flows_206 (by omega) ?_
      refine st_iadd (pc := 207) dX10_flows_207 ?_
      obtain ⟨hk3, h⟩ := h
      obtain ⟨h1, h⟩ := h
      refine sg_iaload (pc := 208) dX10_flows_208 hk3 h1 ?_
      obtain ⟨mc1, ms1, K1, hC, e1, e2, h⟩ := h
      refine sg_SI (pc := 209) (av := [vi (w32 (-v2)), vi (mD μ (mR μ a0 6) (w32 (v1 + 1)))]) (st := []) (K := K1) dX10_flows_209 ck_10_162 rfl (by show (0 : Nat) ≤ 8; decide) hC e1 e2 (fun x1 m1 hK => ?_) rfl
      replace h := h x1 m1 hK
      refine st_ineg (pc := 212) dX10_flows_212 ?_
      refine sg_istore (pc := 213) (ls' := [some (vr a0), some (vi a1), some (vi a2), some (vi a3), some (vi a4), some (vi v1), some (vi v2), some (vi (w32 (-x1)))]) dX10_flows_213 (by show (7 : Nat) < 8; decide) rfl ?_
      refine Wp.nameL (ls2 := fun v => [some (vr a0), some (vi a1), some (vi a2), some (vi a3), some (vi a4), some (vi v1), some (vi v2), some (vi v)]) 7 _ rfl (fun _ => rfl) (fun v3 ev3 => ?_)
      replace h := h v3 ev3
      refine st_aload_n (pc := 215) dX10_flows_215 rfl rfl ?_
      obtain ⟨hk4, h⟩ := h
      refine sg_gfR (pc := 216) (J := 6) dX10_flows_216 fl_10_26 rfl hk4 ?_
      refine st_iload (pc := 219) dX10_flows_219 rfl ?_
      refine st_dup2 (pc := 221) dX10_flows_221 rfl rfl ?_
      obtain ⟨hk5, h⟩ := h
      obtain ⟨h1, h⟩ := h
      refine sg_iaload (pc := 222) dX10_flows_222 hk5 h1 ?_
      refine st_iload (pc := 223) dX10_flows_223 rfl ?_
      refine st_isub (pc := 225) dX10_flows_225 ?_
      obtain ⟨hk6, h⟩ := h
      obtain ⟨h1, h⟩ := h
      refine st_iastore (pc := 226) dX10_flows_226 hk6 h1.1 h1.2 ?_
      refine Wp.nameM (fun m2 em2 => ?_)
      replace h := h m2 em2
      refine st_aload_n (pc := 227) dX10_flows_227 rfl rfl ?_
      refine sg_gfR (pc := 228) (J := 6) dX10_flows_228 fl_10_26 rfl (by cases em2; exact hk4) ?_
      refine st_iload (pc := 231) dX10_flows_231 rfl ?_
      refine sg_iconst (pc := 233) dX10_flows_233 (by omega) ?_
      refine st_iadd (pc := 234) dX10_flows_234 ?_
      refine st_dup2 (pc := 235) dX10_flows_235 rfl rfl ?_
      obtain ⟨h1, h⟩ := h
      refine sg_iaload (pc := 236) dX10_flows_236 (by cases em2; exact hk5) h1 ?_
      refine st_iload (pc := 237) dX10_flows_237 rfl ?_
      refine st_iadd (pc := 239) dX10_flows_239 ?_
      obtain ⟨h1, h⟩ := h
      refine st_iastore (pc := 240) dX10_flows_240 (by cases em2; exact hk6) h1.1 h1.2 ?_
      refine Wp.nameM (fun m3 em3 => ?_)
      replace h := h m3 em3
      refine st_iload (pc := 241) dX10_flows_241 rfl ?_
      refine st_iload (pc := 243) dX10_flows_243 rfl ?_
      refine st_icmpeq (pc := 245) (tgt := 260) dX10_flows_245 rfl (fun c => ?_) (fun c => ?_)
      · replace h := h.1 c
        refine sg_iinc (pc := 260) (ls' := [some (vr a0), some (vi a1), some (vi a2), some (vi a3), some (vi (w32 (a4 + 1))), some (vi v1), some (vi v2), some (vi v3)]) dX10_flows_260 rfl rfl ?_
        refine Wp.nameL (ls2 := fun v => [some (vr a0), some (vi a1), some (vi a2), some (vi a3), some (vi v), some (vi v1), some (vi v2), some (vi v3)]) 4 _ rfl (fun _ => rfl) (fun v4 ev4 => ?_)
        replace h := h v4 ev4
        refine st_goto (pc := 263) dX10_flows_263 rfl ?_
        refine Wp.drop 5 rfl ?_
        refine Wp.drop 6 rfl ?_
        refine Wp.drop 7 rfl ?_
        exact h
      · replace h := h.2 c
        refine st_aload_n (pc := 248) dX10_flows_248 rfl rfl ?_
        refine sg_gfR (pc := 249) (J := 7) dX10_flows_249 fl_10_29 rfl (by cases em3; cases em2; exact hk4) ?_
        refine st_iload (pc := 252) dX10_flows_252 rfl ?_
        refine sg_bipush (pc := 254) dX10_flows_254 (by omega) (by decide) ?_
        refine st_iload (pc := 256) dX10_flows_256 rfl ?_
        refine st_imul (pc := 258) dX10_flows_258 ?_
        obtain ⟨hk7, h⟩ := h
        obtain ⟨h1, h⟩ := h
        refine st_iastore (pc := 259) dX10_flows_259 hk7 h1.1 h1.2 ?_
        refine Wp.nameM (fun m4 em4 => ?_)
        replace h := h m4 em4
        refine sg_iinc (pc := 260) (ls' := [some (vr a0), some (vi a1), some (vi a2), some (vi a3), some (vi (w32 (a4 + 1))), some (vi v1), some (vi v2), some (vi v3)]) dX10_flows_260 rfl rfl ?_
        refine Wp.nameL (ls2 := fun v => [some (vr a0), some (vi a1), some (vi a2), some (vi a3), some (vi v), some (vi v1), some (vi v2), some (vi v3)]) 4 _ rfl (fun _ => rfl) (fun v5 ev5 => ?_)
        replace h := h v5 ev5
        refine st_goto (pc := 263) dX10_flows_263 rfl ?_
        refine Wp.drop 5 rfl ?_
        refine Wp.drop 6 rfl ?_
        refine Wp.drop 7 rfl ?_
        exact h
    · replace h := h.2 c
      refine st_iload (pc := 182) dX10_flows_182 rfl ?_
      refine st_aload_n (pc := 184) dX10_flows_184 rfl rfl ?_
      refine sg_gfR (pc := 185) (J := 6) dX10_flows_185 fl_10_26 rfl hk1 ?_
      refine st_iload (pc := 188) dX10_flows_188 rfl ?_
      obtain ⟨hk8, h⟩ := h
      obtain ⟨h1, h⟩ := h
      refine sg_iaload (pc := 190) dX10_flows_190 hk8 h1 ?_
      obtain ⟨mc2, ms2, K2, hC, e1, e2, h⟩ := h
      refine sg_SI (pc := 191) (av := [vi v2, vi (mD μ (mR μ a0 6) v1)]) (st := []) (K := K2) dX10_flows_191 ck_10_162 rfl (by show (0 : Nat) ≤ 8; decide) hC e1 e2 (fun x2 m5 hK => ?_) rfl
      replace h := h x2 m5 hK
      refine st_goto (pc := 194) dX10_flows_194 rfl ?_
      refine sg_istore (pc := 213) (ls' := [some (vr a0), some (vi a1), some (vi a2), some (vi a3), some (vi a4), some (vi v1), some (vi v2), some (vi x2)]) dX10_flows_213 (by show (7 : Nat) < 8; decide) rfl ?_
      refine st_aload_n (pc := 215) dX10_flows_215 rfl rfl ?_
      obtain ⟨hk9, h⟩ := h
      refine sg_gfR (pc := 216) (J := 6) dX10_flows_216 fl_10_26 rfl hk9 ?_
      refine st_iload (pc := 219) dX10_flows_219 rfl ?_
      refine st_dup2 (pc := 221) dX10_flows_221 rfl rfl ?_
      obtain ⟨hk10, h⟩ := h
      obtain ⟨h1, h⟩ := h
      refine sg_iaload (pc := 222) dX10_flows_222 hk10 h1 ?_
      refine st_iload (pc := 223) dX10_flows_223 rfl ?_
      refine st_isub (pc := 225) dX10_flows_225 ?_
      obtain ⟨hk11, h⟩ := h
      obtain ⟨h1, h⟩ := h
      refine st_iastore (pc := 226) dX10_flows_226 hk11 h1.1 h1.2 ?_
      refine Wp.nameM (fun m6 em6 => ?_)
      replace h := h m6 em6
      refine st_aload_n (pc := 227) dX10_flows_227 rfl rfl ?_
      refine sg_gfR (pc := 228) (J := 6) dX10_flows_228 fl_10_26 rfl (by cases em6; exact hk9) ?_
      refine st_iload (pc := 231) dX10_flows_231 rfl ?_
      refine sg_iconst (pc := 233) dX10_flows_233 (by omega) ?_
      refine st_iadd (pc := 234) dX10_flows_234 ?_
      refine st_dup2 (pc := 235) dX10_flows_235 rfl rfl ?_
      obtain ⟨h1, h⟩ := h
      refine sg_iaload (pc := 236) dX10_flows_236 (by cases em6; exact hk10) h1 ?_
      refine st_iload (pc := 237) dX10_flows_237 rfl ?_
      refine st_iadd (pc := 239) dX10_flows_239 ?_
      obtain ⟨h1, h⟩ := h
      refine st_iastore (pc := 240) dX10_flows_240 (by cases em6; exact hk11) h1.1 h1.2 ?_
      refine Wp.nameM (fun m7 em7 => ?_)
      replace h := h m7 em7
      refine st_iload (pc := 241) dX10_flows_241 rfl ?_
      refine st_iload (pc := 243) dX10_flows_243 rfl ?_
      refine st_icmpeq (pc := 245) (tgt := 260) dX10_flows_245 rfl (fun c => ?_) (fun c => ?_)
      · replace h := h.1 c
        refine sg_iinc (pc := 260) (ls' := [some (vr a0), some (vi a1), some (vi a2), some (vi a3), some (vi (w32 (a4 + 1))), some (vi v1), some (vi v2), some (vi x2)]) dX10_flows_260 rfl rfl ?_
        refine Wp.nameL (ls2 := fun v => [some (vr a0), some (vi a1), some (vi a2), some (vi a3), some (vi v), some (vi v1), some (vi v2), some (vi x2)]) 4 _ rfl (fun _ => rfl) (fun v6 ev6 => ?_)
        replace h := h v6 ev6
        refine st_goto (pc := 263) dX10_flows_263 rfl ?_
        refine Wp.drop 5 rfl ?_
        refine Wp.drop 6 rfl ?_
        refine Wp.drop 7 rfl ?_
        exact h
      · replace h := h.2 c
        refine st_aload_n (pc := 248) dX10_flows_248 rfl rfl ?_
        refine sg_gfR (pc := 249) (J := 7) dX10_flows_249 fl_10_29 rfl (by cases em7; cases em6; exact hk9) ?_
        refine st_iload (pc := 252) dX10_flows_252 rfl ?_
        refine sg_bipush (pc := 254) dX10_flows_254 (by omega) (by decide) ?_
        refine st_iload (pc := 256) dX10_flows_256 rfl ?_
        refine st_imul (pc := 258) dX10_flows_258 ?_
        obtain ⟨hk12, h⟩ := h
        obtain ⟨h1, h⟩ := h
        refine st_iastore (pc := 259) dX10_flows_259 hk12 h1.1 h1.2 ?_
        refine Wp.nameM (fun m8 em8 => ?_)
        replace h := h m8 em8
        refine sg_iinc (pc := 260) (ls' := [some (vr a0), some (vi a1), some (vi a2), some (vi a3), some (vi (w32 (a4 + 1))), some (vi v1), some (vi v2), some (vi x2)]) dX10_flows_260 rfl rfl ?_
        refine Wp.nameL (ls2 := fun v => [some (vr a0), some (vi a1), some (vi a2), some (vi a3), some (vi v), some (vi v1), some (vi v2), some (vi x2)]) 4 _ rfl (fun _ => rfl) (fun v7 ev7 => ?_)
        replace h := h v7 ev7
        refine st_goto (pc := 263) dX10_flows_263 rfl ?_
        refine Wp.drop 5 rfl ?_
        refine Wp.drop 6 rfl ?_
        refine Wp.drop 7 rfl ?_
        exact h

theorem sg_X10_over_0 {d bc bs : Nat} {a0 : Nat} {a1 : Int} {a2 : Int} {μ : Mem} {Q : Option (Option AV) → Mem → Prop}
    (h : ∀ v1, v1 = w32 ((w32 (20 * a1)) + a2) → mK μ a0 = 11 ∧ ((mK μ (mR μ a0 6) = 20 ∨ ((mR μ a0 6) ≠ 0 ∧ mK μ (mR μ a0 6) = 40)) ∧ ((0 : Int) ≤ v1 ∧ v1 < (mN μ (mR μ a0 6) : Int)) ∧ (∃ (mc1 ms1 : Nat) (K1 : Int → Mem → Prop), Cl d mc1 ms1 mJ9_max_7cf53 [vi 0, vi (w32 ((mD μ (mR μ a0 6) v1) - (mD μ a0 1)))] μ (KI K1) ∧ mc1 ≤ bc ∧ ms1 ≤ bs ∧ (∀ x1 m1, K1 x1 m1 → mK m1 a0 = 11 ∧ ((mK m1 (mR m1 a0 3) = 20 ∨ ((mR m1 a0 3) ≠ 0 ∧ mK m1 (mR m1 a0 3) = 40)) ∧ ((0 : Int) ≤ 4 ∧ 4 < (mN m1 (mR m1 a0 3) : Int)) ∧ (∀ v2, v2 = w32 (x1 - (w32 ((w32 (x1 * (mD m1 (mR m1 a0 3) 4))).tdiv 100))) → (mK m1 (mR m1 a0 6) = 20 ∨ ((mR m1 a0 6) ≠ 0 ∧ mK m1 (mR m1 a0 6) = 40)) ∧ ((0 : Int) ≤ v1 ∧ v1 < (mN m1 (mR m1 a0 6) : Int)) ∧ (mK m1 (mR m1 a0 6) = 20 ∧ ((0 : Int) ≤ v1 ∧ v1 < (mN m1 (mR m1 a0 6) : Int)) ∧ (∀ m2, m2 = sD m1 (mR m1 a0 6) v1 (w32 ((mD m1 (mR m1 a0 6) v1) - v2)) → (mK m2 (mR m2 a0 8) = 20 ∨ ((mR m2 a0 8) ≠ 0 ∧ mK m2 (mR m2 a0 8) = 40)) ∧ ((0 : Int) ≤ a1 ∧ a1 < (mN m2 (mR m2 a0 8) : Int)) ∧ (mK m2 (mR m2 a0 8) = 20 ∧ ((0 : Int) ≤ a1 ∧ a1 < (mN m2 (mR m2 a0 8) : Int)) ∧ (∀ m3, m3 = sD m2 (mR m2 a0 8) a1 (w32 ((mD m2 (mR m2 a0 8) a1) + v2)) → Q (some (some (vi v2))) m3)))))))))) :
    Wp (d + 1) bc bs mX10_over 0 [some (vr a0), some (vi a1), some (vi a2), none, none, none] [] μ Q := by
  refine sg_bipush (pc := 0) dX10_over_0 (by omega) (by decide) ?_
  refine st_iload_n (pc := 2) dX10_over_2 rfl rfl ?_
  refine st_imul (pc := 3) dX10_over_3 ?_
  refine st_iload_n (pc := 4) dX10_over_4 rfl rfl ?_
  refine st_iadd (pc := 5) dX10_over_5 ?_
  refine sg_istore_n (pc := 6) (ls' := [some (vr a0), some (vi a1), some (vi a2), some (vi (w32 ((w32 (20 * a1)) + a2))), none, none]) dX10_over_6 rfl (by show (3 : Nat) < 6; decide) rfl ?_
  refine Wp.nameL (ls2 := fun v => [some (vr a0), some (vi a1), some (vi a2), some (vi v), none, none]) 3 _ rfl (fun _ => rfl) (fun v1 ev1 => ?_)
  replace h := h v1 ev1
  refine sg_iconst (pc := 7) dX10_over_7 (by omega) ?_
  refine st_aload_n (pc := 8) dX10_over_8 rfl rfl ?_
  obtain ⟨hk1, h⟩ := h
  refine sg_gfR (pc := 9) (J := 6) dX10_over_9 fl_10_26 rfl hk1 ?_
  refine st_iload_n (pc := 12) dX10_over_12 rfl rfl ?_
  obtain ⟨hk2, h⟩ := h
  obtain ⟨h1, h⟩ := h
  refine sg_iaload (pc := 13) dX10_over_13 hk2 h1 ?_
  refine st_aload_n (pc := 14) dX10_over_14 rfl rfl ?_
  refine sg_gfI (pc := 15) (J := 1) dX10_over_15 fl_10_13 (by decide) rfl hk1 ?_
  refine st_isub (pc := 18) dX10_over_18 ?_
  obtain ⟨mc1, ms1, K1, hC, e1, e2, h⟩ := h
  refine sg_SI (pc := 19) (av := [vi 0, vi (w32 ((mD μ (mR μ a0 6) v1) - (mD μ a0 1)))]) (st := []) (K := K1) dX10_over_19 ck_10_168 rfl (by show (0 : Nat) ≤ 8; decide) hC e1 e2 (fun x1 m1 hK => ?_) rfl
  replace h := h x1 m1 hK
  refine sg_istore (pc := 22) (ls' := [some (vr a0), some (vi a1), some (vi a2), some (vi v1), some (vi x1), none]) dX10_over_22 (by show (4 : Nat) < 6; decide) rfl ?_
  refine st_iload (pc := 24) dX10_over_24 rfl ?_
  refine st_iload (pc := 26) dX10_over_26 rfl ?_
  refine st_aload_n (pc := 28) dX10_over_28 rfl rfl ?_
  obtain ⟨hk3, h⟩ := h
  refine sg_gfR (pc := 29) (J := 3) dX10_over_29 fl_10_19 rfl hk3 ?_
  refine sg_iconst (pc := 32) dX10_over_32 (by omega) ?_
  obtain ⟨hk4, h⟩ := h
  obtain ⟨h1, h⟩ := h
  refine sg_iaload (pc := 33) dX10_over_33 hk4 h1 ?_
  refine st_imul (pc := 34) dX10_over_34 ?_
  refine sg_bipush (pc := 35) dX10_over_35 (by omega) (by decide) ?_
  refine st_idiv (pc := 37) dX10_over_37 (by omega) ?_
  refine st_isub (pc := 38) dX10_over_38 ?_
  refine sg_istore (pc := 39) (ls' := [some (vr a0), some (vi a1), some (vi a2), some (vi v1), some (vi x1), some (vi (w32 (x1 - (w32 ((w32 (x1 * (mD m1 (mR m1 a0 3) 4))).tdiv 100)))))]) dX10_over_39 (by show (5 : Nat) < 6; decide) rfl ?_
  refine Wp.nameL (ls2 := fun v => [some (vr a0), some (vi a1), some (vi a2), some (vi v1), some (vi x1), some (vi v)]) 5 _ rfl (fun _ => rfl) (fun v2 ev2 => ?_)
  replace h := h v2 ev2
  refine st_aload_n (pc := 41) dX10_over_41 rfl rfl ?_
  refine sg_gfR (pc := 42) (J := 6) dX10_over_42 fl_10_26 rfl hk3 ?_
  refine st_iload_n (pc := 45) dX10_over_45 rfl rfl ?_
  refine st_dup2 (pc := 46) dX10_over_46 rfl rfl ?_
  obtain ⟨hk5, h⟩ := h
  obtain ⟨h1, h⟩ := h
  refine sg_iaload (pc := 47) dX10_over_47 hk5 h1 ?_
  refine st_iload (pc := 48) dX10_over_48 rfl ?_
  refine st_isub (pc := 50) dX10_over_50 ?_
  obtain ⟨hk6, h⟩ := h
  obtain ⟨h1, h⟩ := h
  refine st_iastore (pc := 51) dX10_over_51 hk6 h1.1 h1.2 ?_
  refine Wp.nameM (fun m2 em2 => ?_)
  replace h := h m2 em2
  refine st_aload_n (pc := 52) dX10_over_52 rfl rfl ?_
  refine sg_gfR (pc := 53) (J := 8) dX10_over_53 fl_10_32 rfl (by cases em2; exact hk3) ?_
  refine st_iload_n (pc := 56) dX10_over_56 rfl rfl ?_
  refine st_dup2 (pc := 57) dX10_over_57 rfl rfl ?_
  obtain ⟨hk7, h⟩ := h
  obtain ⟨h1, h⟩ := h
  refine sg_iaload (pc := 58) dX10_over_58 hk7 h1 ?_
  refine st_iload (pc := 59) dX10_over_59 rfl ?_
  refine st_iadd (pc := 61) dX10_over_61 ?_
  obtain ⟨hk8, h⟩ := h
  obtain ⟨h1, h⟩ := h
  refine st_iastore (pc := 62) dX10_over_62 hk8 h1.1 h1.2 ?_
  refine Wp.nameM (fun m3 em3 => ?_)
  replace h := h m3 em3
  refine st_iload (pc := 63) dX10_over_63 rfl ?_
  exact st_ireturn (pc := 65) dX10_over_65 (Or.inl rfl) h

