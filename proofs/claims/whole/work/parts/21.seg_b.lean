/-! ===== by program (wip/whole/gen_seg.py): stretches of methods ===== -/
theorem sg_X6_begin_0 {d bc bs : Nat} {a0 : Nat} {a1 : Int} {μ : Mem} {Q : Option (Option AV) → Mem → Prop}
    (h : mK μ a0 = 7 ∧ (∀ m1, m1 = sD μ a0 2 0 → ∃ (mc1 ms1 : Nat) (K1 : Int → Mem → Prop), Cl d mc1 ms1 mJ9_min_7cf53 [vi (mD m1 a0 1), vi a1] m1 (KI K1) ∧ mc1 ≤ bc ∧ ms1 ≤ bs ∧ (∀ x1 m2, K1 x1 m2 → mK m2 a0 = 7 ∧ (∀ m3, m3 = sD m2 a0 3 x1 → (∀ m4, m4 = sD m3 a0 4 (-1) → ((mD m4 a0 3) ≤ 0 → Q (some (some (vi 0))) m4) ∧ (¬ (mD m4 a0 3) ≤ 0 → Q (some (some (vi 1))) m4)))))) :
    Wp (d + 1) bc bs mX6_begin 0 [some (vr a0), some (vi a1)] [] μ Q := by
  refine st_aload_n (pc := 0) dX6_begin_0 rfl rfl ?_
  refine sg_iconst (pc := 1) dX6_begin_1 (by omega) ?_
  obtain ⟨hk1, h⟩ := h
  refine sg_pfI (pc := 2) (J := 2) dX6_begin_2 fl_6_19 rfl (Or.inl rfl) hk1 ?_
  refine Wp.nameM (fun m1 em1 => ?_)
  replace h := h m1 em1
  refine st_aload_n (pc := 5) dX6_begin_5 rfl rfl ?_
  refine st_aload_n (pc := 6) dX6_begin_6 rfl rfl ?_
  refine sg_gfI (pc := 7) (J := 1) dX6_begin_7 fl_6_15 (by decide) rfl (by cases em1; exact hk1) ?_
  refine st_iload_n (pc := 10) dX6_begin_10 rfl rfl ?_
  obtain ⟨mc1, ms1, K1, hC, e1, e2, h⟩ := h
  refine sg_SI (pc := 11) (av := [vi (mD m1 a0 1), vi a1]) (st := [vr a0]) (K := K1) dX6_begin_11 ck_6_28 rfl (by show (1 : Nat) ≤ 8; decide) hC e1 e2 (fun x1 m2 hK => ?_) rfl
  replace h := h x1 m2 hK
  obtain ⟨hk2, h⟩ := h
  refine sg_pfI (pc := 14) (J := 3) dX6_begin_14 fl_6_22 rfl (Or.inl rfl) hk2 ?_
  refine Wp.nameM (fun m3 em3 => ?_)
  replace h := h m3 em3
  refine st_aload_n (pc := 17) dX6_begin_17 rfl rfl ?_
  refine sg_iconst (pc := 18) dX6_begin_18 (by omega) ?_
  refine sg_pfI (pc := 19) (J := 4) dX6_begin_19 fl_6_25 rfl (Or.inl rfl) (by cases em3; exact hk2) ?_
  refine Wp.nameM (fun m4 em4 => ?_)
  replace h := h m4 em4
  refine st_aload_n (pc := 22) dX6_begin_22 rfl rfl ?_
  refine sg_gfI (pc := 23) (J := 3) dX6_begin_23 fl_6_22 (by decide) rfl (by cases em4; cases em3; exact hk2) ?_
  refine st_ifle (pc := 26) (tgt := 33) dX6_begin_26 rfl (fun c => ?_) (fun c => ?_)
  · replace h := h.1 c
    refine sg_iconst (pc := 33) dX6_begin_33 (by omega) ?_
    exact st_ireturn (pc := 34) dX6_begin_34 (Or.inr ⟨rfl, by omega⟩) h
  · replace h := h.2 c
    refine sg_iconst (pc := 29) dX6_begin_29 (by omega) ?_
    refine st_goto (pc := 30) dX6_begin_30 rfl ?_
    exact st_ireturn (pc := 34) dX6_begin_34 (Or.inr ⟨rfl, by omega⟩) h

theorem sg_X6_isGood_0 {d bc bs : Nat} {a0 : Nat} {μ : Mem} {Q : Option (Option AV) → Mem → Prop}
    (h : mK μ a0 = 7 ∧ ((¬ (mD μ a0 4) = (-1) → Q (some (some (vi 0))) μ) ∧ ((mD μ a0 4) = (-1) → Q (some (some (vi 1))) μ))) :
    Wp d bc bs mX6_isGood 0 [some (vr a0)] [] μ Q := by
  refine st_aload_n (pc := 0) dX6_isGood_0 rfl rfl ?_
  obtain ⟨hk1, h⟩ := h
  refine sg_gfI (pc := 1) (J := 4) dX6_isGood_1 fl_6_25 (by decide) rfl hk1 ?_
  refine sg_iconst (pc := 4) dX6_isGood_4 (by omega) ?_
  refine st_icmpne (pc := 5) (tgt := 12) dX6_isGood_5 rfl (fun c => ?_) (fun c => ?_)
  · replace h := h.1 c
    refine sg_iconst (pc := 12) dX6_isGood_12 (by omega) ?_
    exact st_ireturn (pc := 13) dX6_isGood_13 (Or.inr ⟨rfl, by omega⟩) h
  · replace h := h.2 c
    refine sg_iconst (pc := 8) dX6_isGood_8 (by omega) ?_
    refine st_goto (pc := 9) dX6_isGood_9 rfl ?_
    exact st_ireturn (pc := 13) dX6_isGood_13 (Or.inr ⟨rfl, by omega⟩) h

theorem sg_X6_next_0 {d bc bs : Nat} {a0 : Nat} {μ : Mem} {Q : Option (Option AV) → Mem → Prop}
    (h : mK μ a0 = 7 ∧ (((mD μ a0 3) ≤ (mD μ a0 2) → Q (some (some (vi (-1)))) μ) ∧ (¬ (mD μ a0 3) ≤ (mD μ a0 2) → ((20 ≤ mK μ (mR μ a0 0) ∧ mK μ (mR μ a0 0) ≤ 28) ∨ ((mR μ a0 0) ≠ 0 ∧ mK μ (mR μ a0 0) = 40)) ∧ (((mN μ (mR μ a0 0) : Int) ≤ (mD μ a0 2) → Q (some (some (vi (-1)))) μ) ∧ (¬ (mN μ (mR μ a0 0) : Int) ≤ (mD μ a0 2) → mK μ (mR μ a0 0) = 23 ∧ ((0 : Int) ≤ (mD μ a0 2) ∧ (mD μ a0 2) < (mN μ (mR μ a0 0) : Int)) ∧ (Q (some (some (vi (mD μ (mR μ a0 0) (mD μ a0 2))))) μ)))))) :
    Wp d bc bs mX6_next 0 [some (vr a0)] [] μ Q := by
  refine st_aload_n (pc := 0) dX6_next_0 rfl rfl ?_
  obtain ⟨hk1, h⟩ := h
  refine sg_gfI (pc := 1) (J := 2) dX6_next_1 fl_6_19 (by decide) rfl hk1 ?_
  refine st_aload_n (pc := 4) dX6_next_4 rfl rfl ?_
  refine sg_gfI (pc := 5) (J := 3) dX6_next_5 fl_6_22 (by decide) rfl hk1 ?_
  refine st_icmpge (pc := 8) (tgt := 35) dX6_next_8 rfl (fun c => ?_) (fun c => ?_)
  · replace h := h.1 c
    refine sg_iconst (pc := 35) dX6_next_35 (by omega) ?_
    exact st_ireturn (pc := 36) dX6_next_36 (Or.inl rfl) h
  · replace h := h.2 c
    refine st_aload_n (pc := 11) dX6_next_11 rfl rfl ?_
    refine sg_gfI (pc := 12) (J := 2) dX6_next_12 fl_6_19 (by decide) rfl hk1 ?_
    refine st_aload_n (pc := 15) dX6_next_15 rfl rfl ?_
    refine sg_gfR (pc := 16) (J := 0) dX6_next_16 fl_6_9 rfl hk1 ?_
    obtain ⟨hk2, h⟩ := h
    refine sg_alen (pc := 19) dX6_next_19 hk2 ?_
    refine st_icmpge (pc := 20) (tgt := 35) dX6_next_20 rfl (fun c => ?_) (fun c => ?_)
    · replace h := h.1 c
      refine sg_iconst (pc := 35) dX6_next_35 (by omega) ?_
      exact st_ireturn (pc := 36) dX6_next_36 (Or.inl rfl) h
    · replace h := h.2 c
      refine st_aload_n (pc := 23) dX6_next_23 rfl rfl ?_
      refine sg_gfR (pc := 24) (J := 0) dX6_next_24 fl_6_9 rfl hk1 ?_
      refine st_aload_n (pc := 27) dX6_next_27 rfl rfl ?_
      refine sg_gfI (pc := 28) (J := 2) dX6_next_28 fl_6_19 (by decide) rfl hk1 ?_
      obtain ⟨hk3, h⟩ := h
      obtain ⟨h1, h⟩ := h
      refine st_caload (pc := 31) dX6_next_31 hk3 h1.1 h1.2 ?_
      refine st_goto (pc := 32) dX6_next_32 rfl ?_
      exact st_ireturn (pc := 36) dX6_next_36 (Or.inl rfl) h

theorem sg_X6_skip_0 {d bc bs : Nat} {a0 : Nat} {a1 : Int} {μ : Mem} {Q : Option (Option AV) → Mem → Prop}
    (h : mK μ a0 = 7 ∧ ∃ (mc1 ms1 : Nat) (K1 : Int → Mem → Prop), Cl d mc1 ms1 mX6_next [vr a0] μ (KI K1) ∧ mc1 ≤ bc ∧ ms1 ≤ bs ∧ (∀ x1 m1, K1 x1 m1 → (x1 = a1 → mK m1 a0 = 7 ∧ ((∀ m2, m2 = sD m1 a0 2 (w32 ((mD m1 a0 2) + 1)) → Q (some (some (vi 1))) m2))) ∧ (¬ x1 = a1 → Q (some (some (vi 0))) m1))) :
    Wp (d + 1) bc bs mX6_skip 0 [some (vr a0), some (vi a1)] [] μ Q := by
  refine st_aload_n (pc := 0) dX6_skip_0 rfl rfl ?_
  obtain ⟨hk1, h⟩ := h
  obtain ⟨mc1, ms1, K1, hC, e1, e2, h⟩ := h
  refine sg_VI (pc := 1) (av := []) (st := []) (K := K1) dX6_skip_1 ck_6_38 rfl (by decide) hk1 (by show (0 : Nat) ≤ 8; decide) hC e1 e2 (fun x1 m1 hK => ?_) rfl
  replace h := h x1 m1 hK
  refine st_iload_n (pc := 4) dX6_skip_4 rfl rfl ?_
  refine st_icmpeq (pc := 5) (tgt := 10) dX6_skip_5 rfl (fun c => ?_) (fun c => ?_)
  · replace h := h.1 c
    refine st_aload_n (pc := 10) dX6_skip_10 rfl rfl ?_
    refine st_dup (pc := 11) dX6_skip_11 rfl ?_
    obtain ⟨hk2, h⟩ := h
    refine sg_gfI (pc := 12) (J := 2) dX6_skip_12 fl_6_19 (by decide) rfl hk2 ?_
    refine sg_iconst (pc := 15) dX6_skip_15 (by omega) ?_
    refine st_iadd (pc := 16) dX6_skip_16 ?_
    refine sg_pfI (pc := 17) (J := 2) dX6_skip_17 fl_6_19 rfl (Or.inl rfl) hk2 ?_
    refine Wp.nameM (fun m2 em2 => ?_)
    replace h := h m2 em2
    refine sg_iconst (pc := 20) dX6_skip_20 (by omega) ?_
    exact st_ireturn (pc := 21) dX6_skip_21 (Or.inr ⟨rfl, by omega⟩) h
  · replace h := h.2 c
    refine sg_iconst (pc := 8) dX6_skip_8 (by omega) ?_
    exact st_ireturn (pc := 9) dX6_skip_9 (Or.inr ⟨rfl, by omega⟩) h

theorem sg_X6_isAtDigit_0 {d bc bs : Nat} {a0 : Nat} {μ : Mem} {Q : Option (Option AV) → Mem → Prop}
    (h : mK μ a0 = 7 ∧ ∃ (mc1 ms1 : Nat) (K1 : Int → Mem → Prop), Cl d mc1 ms1 mX6_next [vr a0] μ (KI K1) ∧ mc1 ≤ bc ∧ ms1 ≤ bs ∧ (∀ x1 m1, K1 x1 m1 → ∃ (mc2 ms2 : Nat) (K2 : Int → Mem → Prop), Cl d mc2 ms2 mX9_isIn [vi x1, vi 48, vi 57] m1 (KI K2) ∧ mc2 ≤ bc - mc1 ∧ ms2 ≤ bs - ms1 ∧ (∀ x2 m2, K2 x2 m2 → (x2 = 0 ∨ x2 = 1) ∧ Q (some (some (vi x2))) m2))) :
    Wp (d + 1) bc bs mX6_isAtDigit 0 [some (vr a0)] [] μ Q := by
  refine st_aload_n (pc := 0) dX6_isAtDigit_0 rfl rfl ?_
  obtain ⟨hk1, h⟩ := h
  obtain ⟨mc1, ms1, K1, hC, e1, e2, h⟩ := h
  refine sg_VI (pc := 1) (av := []) (st := []) (K := K1) dX6_isAtDigit_1 ck_6_38 rfl (by decide) hk1 (by show (0 : Nat) ≤ 8; decide) hC e1 e2 (fun x1 m1 hK => ?_) rfl
  replace h := h x1 m1 hK
  refine sg_bipush (pc := 4) dX6_isAtDigit_4 (by omega) (by decide) ?_
  refine sg_bipush (pc := 6) dX6_isAtDigit_6 (by omega) (by decide) ?_
  obtain ⟨mc2, ms2, K2, hC, e1, e2, h⟩ := h
  refine sg_SNI (pc := 8) (av := [vi x1, vi 48, vi 57]) (st := []) (K := K2) dX6_isAtDigit_8 ck_6_49 rfl (by show (0 : Nat) ≤ 8; decide) hC e1 e2 (fun x2 m2 hK => ?_) rfl
  replace h := h x2 m2 hK
  exact st_ireturn (pc := 11) dX6_isAtDigit_11 (Or.inr ⟨rfl, h.1⟩) h.2

theorem sg_X6_fail_0 {d bc bs : Nat} {a0 : Nat} {a1 : Int} {μ : Mem} {Q : Option (Option AV) → Mem → Prop}
    (h : mK μ a0 = 7 ∧ ((¬ (mD μ a0 4) = (-1) → Q (some none) μ) ∧ ((mD μ a0 4) = (-1) → (∀ m1, m1 = sD μ a0 4 a1 → Q (some none) m1)))) :
    Wp d bc bs mX6_fail 0 [some (vr a0), some (vi a1)] [] μ Q := by
  refine st_aload_n (pc := 0) dX6_fail_0 rfl rfl ?_
  obtain ⟨hk1, h⟩ := h
  refine sg_gfI (pc := 1) (J := 4) dX6_fail_1 fl_6_25 (by decide) rfl hk1 ?_
  refine sg_iconst (pc := 4) dX6_fail_4 (by omega) ?_
  refine st_icmpne (pc := 5) (tgt := 13) dX6_fail_5 rfl (fun c => ?_) (fun c => ?_)
  · replace h := h.1 c
    exact st_return (pc := 13) dX6_fail_13 rfl h
  · replace h := h.2 c
    refine st_aload_n (pc := 8) dX6_fail_8 rfl rfl ?_
    refine st_iload_n (pc := 9) dX6_fail_9 rfl rfl ?_
    refine sg_pfI (pc := 10) (J := 4) dX6_fail_10 fl_6_25 rfl (Or.inl rfl) hk1 ?_
    refine Wp.nameM (fun m1 em1 => ?_)
    replace h := h m1 em1
    exact st_return (pc := 13) dX6_fail_13 rfl h

theorem sg_X6_failHere_0 {d bc bs : Nat} {a0 : Nat} {μ : Mem} {Q : Option (Option AV) → Mem → Prop}
    (h : mK μ a0 = 7 ∧ (∃ (mc1 ms1 : Nat) (K1 : Mem → Prop), Cl d mc1 ms1 mX6_fail [vr a0, vi (mD μ a0 2)] μ (KV K1) ∧ mc1 ≤ bc ∧ ms1 ≤ bs ∧ (∀ m1, K1 m1 → Q (some none) m1))) :
    Wp (d + 1) bc bs mX6_failHere 0 [some (vr a0)] [] μ Q := by
  refine st_aload_n (pc := 0) dX6_failHere_0 rfl rfl ?_
  refine st_aload_n (pc := 1) dX6_failHere_1 rfl rfl ?_
  obtain ⟨hk1, h⟩ := h
  refine sg_gfI (pc := 2) (J := 2) dX6_failHere_2 fl_6_19 (by decide) rfl hk1 ?_
  obtain ⟨mc1, ms1, K1, hC, e1, e2, h⟩ := h
  refine sg_VV (pc := 5) (av := [vi (mD μ a0 2)]) (st := []) (K := K1) dX6_failHere_5 ck_6_34 rfl (by decide) hk1 (by show (0 : Nat) ≤ 8; decide) hC e1 e2 (fun m1 hK => ?_) rfl
  replace h := h m1 hK
  exact st_return (pc := 8) dX6_failHere_8 rfl h

theorem sg_X6_failAtLastDigit_0 {d bc bs : Nat} {a0 : Nat} {μ : Mem} {Q : Option (Option AV) → Mem → Prop}
    (h : mK μ a0 = 7 ∧ (∃ (mc1 ms1 : Nat) (K1 : Mem → Prop), Cl d mc1 ms1 mX6_fail [vr a0, vi (w32 ((mD μ a0 2) - 1))] μ (KV K1) ∧ mc1 ≤ bc ∧ ms1 ≤ bs ∧ (∀ m1, K1 m1 → Q (some none) m1))) :
    Wp (d + 1) bc bs mX6_failAtLastDigit 0 [some (vr a0)] [] μ Q := by
  refine st_aload_n (pc := 0) dX6_failAtLastDigit_0 rfl rfl ?_
  refine st_aload_n (pc := 1) dX6_failAtLastDigit_1 rfl rfl ?_
  obtain ⟨hk1, h⟩ := h
  refine sg_gfI (pc := 2) (J := 2) dX6_failAtLastDigit_2 fl_6_19 (by decide) rfl hk1 ?_
  refine sg_iconst (pc := 5) dX6_failAtLastDigit_5 (by omega) ?_
  refine st_isub (pc := 6) dX6_failAtLastDigit_6 ?_
  obtain ⟨mc1, ms1, K1, hC, e1, e2, h⟩ := h
  refine sg_VV (pc := 7) (av := [vi (w32 ((mD μ a0 2) - 1))]) (st := []) (K := K1) dX6_failAtLastDigit_7 ck_6_34 rfl (by decide) hk1 (by show (0 : Nat) ≤ 8; decide) hC e1 e2 (fun m1 hK => ?_) rfl
  replace h := h m1 hK
  exact st_return (pc := 10) dX6_failAtLastDigit_10 rfl h

theorem sg_X6_number_0 {d bc bs : Nat} {a0 : Nat} {a1 : Int} {a2 : Int} {μ : Mem} {Q : Option (Option AV) → Mem → Prop}
    (h : Wp (d + 1) bc bs mX6_number 5 [some (vr a0), some (vi a1), some (vi a2), some (vi 0), some (vi 0)] [] μ Q) :
    Wp (d + 1) bc bs mX6_number 0 [some (vr a0), some (vi a1), some (vi a2), none, none] [] μ Q := by
  refine sg_iconst (pc := 0) dX6_number_0 (by omega) ?_
  refine sg_istore_n (pc := 1) (ls' := [some (vr a0), some (vi a1), some (vi a2), some (vi 0), none]) dX6_number_1 rfl (by show (3 : Nat) < 5; decide) rfl ?_
  refine sg_iconst (pc := 2) dX6_number_2 (by omega) ?_
  refine sg_istore (pc := 3) (ls' := [some (vr a0), some (vi a1), some (vi a2), some (vi 0), some (vi 0)]) dX6_number_3 (by show (4 : Nat) < 5; decide) rfl ?_
  exact h

theorem sg_X6_number_5 {d bc bs : Nat} {a0 : Nat} {a1 : Int} {a2 : Int} {a3 : Int} {a4 : Int} {μ : Mem} {Q : Option (Option AV) → Mem → Prop}
    (h : (3 ≤ a4 → Wp (d + 1) bc bs mX6_number 47 [some (vr a0), some (vi a1), some (vi a2), some (vi a3), some (vi a4)] [] μ Q) ∧ (¬ 3 ≤ a4 → mK μ a0 = 7 ∧ ∃ (mc1 ms1 : Nat) (K1 : Int → Mem → Prop), Cl d mc1 ms1 mX6_isAtDigit [vr a0] μ (KI K1) ∧ mc1 ≤ bc ∧ ms1 ≤ bs ∧ (∀ x1 m1, K1 x1 m1 → (x1 = 0 → Wp (d + 1) (bc - mc1) (bs - ms1) mX6_number 47 [some (vr a0), some (vi a1), some (vi a2), some (vi a3), some (vi a4)] [] m1 Q) ∧ (¬ x1 = 0 → mK m1 a0 = 7 ∧ ∃ (mc2 ms2 : Nat) (K2 : Int → Mem → Prop), Cl d mc2 ms2 mX6_next [vr a0] m1 (KI K2) ∧ mc2 ≤ bc - mc1 ∧ ms2 ≤ bs - ms1 ∧ (∀ x2 m2, K2 x2 m2 → ∀ v1, v1 = w32 ((w32 ((w32 (a3 * 10)) + x2)) - 48) → mK m2 a0 = 7 ∧ ((∀ m3, m3 = sD m2 a0 2 (w32 ((mD m2 a0 2) + 1)) → ∀ v2, v2 = w32 (a4 + 1) → Wp (d + 1) (bc - mc1 - mc2) (bs - ms1 - ms2) mX6_number 5 [some (vr a0), some (vi a1), some (vi a2), some (vi v1), some (vi v2)] [] m3 Q))))))) :
    Wp (d + 1) bc bs mX6_number 5 [some (vr a0), some (vi a1), some (vi a2), some (vi a3), some (vi a4)] [] μ Q := by
  refine st_iload (pc := 5) dX6_number_5 rfl ?_
  refine sg_iconst (pc := 7) dX6_number_7 (by omega) ?_
  refine st_icmpge (pc := 8) (tgt := 47) dX6_number_8 rfl (fun c => ?_) (fun c => ?_)
  · replace h := h.1 c
    exact h
  · replace h := h.2 c
    refine st_aload_n (pc := 11) dX6_number_11 rfl rfl ?_
    obtain ⟨hk1, h⟩ := h
    obtain ⟨mc1, ms1, K1, hC, e1, e2, h⟩ := h
    refine sg_VI (pc := 12) (av := []) (st := []) (K := K1) dX6_number_12 ck_6_53 rfl (by decide) hk1 (by show (0 : Nat) ≤ 8; decide) hC e1 e2 (fun x1 m1 hK => ?_) rfl
    replace h := h x1 m1 hK
    refine st_ifeq (pc := 15) (tgt := 47) dX6_number_15 rfl (fun c => ?_) (fun c => ?_)
    · replace h := h.1 c
      exact h
    · replace h := h.2 c
      refine st_iload_n (pc := 18) dX6_number_18 rfl rfl ?_
      refine sg_bipush (pc := 19) dX6_number_19 (by omega) (by decide) ?_
      refine st_imul (pc := 21) dX6_number_21 ?_
      refine st_aload_n (pc := 22) dX6_number_22 rfl rfl ?_
      obtain ⟨hk2, h⟩ := h
      obtain ⟨mc2, ms2, K2, hC, e1, e2, h⟩ := h
      refine sg_VI (pc := 23) (av := []) (st := [vi (w32 (a3 * 10))]) (K := K2) dX6_number_23 ck_6_38 rfl (by decide) hk2 (by show (1 : Nat) ≤ 8; decide) hC e1 e2 (fun x2 m2 hK => ?_) rfl
      replace h := h x2 m2 hK
      refine st_iadd (pc := 26) dX6_number_26 ?_
      refine sg_bipush (pc := 27) dX6_number_27 (by omega) (by decide) ?_
      refine st_isub (pc := 29) dX6_number_29 ?_
      refine sg_istore_n (pc := 30) (ls' := [some (vr a0), some (vi a1), some (vi a2), some (vi (w32 ((w32 ((w32 (a3 * 10)) + x2)) - 48))), some (vi a4)]) dX6_number_30 rfl (by show (3 : Nat) < 5; decide) rfl ?_
      refine Wp.nameL (ls2 := fun v => [some (vr a0), some (vi a1), some (vi a2), some (vi v), some (vi a4)]) 3 _ rfl (fun _ => rfl) (fun v1 ev1 => ?_)
      replace h := h v1 ev1
      refine st_aload_n (pc := 31) dX6_number_31 rfl rfl ?_
      refine st_dup (pc := 32) dX6_number_32 rfl ?_
      obtain ⟨hk3, h⟩ := h
      refine sg_gfI (pc := 33) (J := 2) dX6_number_33 fl_6_19 (by decide) rfl hk3 ?_
      refine sg_iconst (pc := 36) dX6_number_36 (by omega) ?_
      refine st_iadd (pc := 37) dX6_number_37 ?_
      refine sg_pfI (pc := 38) (J := 2) dX6_number_38 fl_6_19 rfl (Or.inl rfl) hk3 ?_
      refine Wp.nameM (fun m3 em3 => ?_)
      replace h := h m3 em3
      refine sg_iinc (pc := 41) (ls' := [some (vr a0), some (vi a1), some (vi a2), some (vi v1), some (vi (w32 (a4 + 1)))]) dX6_number_41 rfl rfl ?_
      refine Wp.nameL (ls2 := fun v => [some (vr a0), some (vi a1), some (vi a2), some (vi v1), some (vi v)]) 4 _ rfl (fun _ => rfl) (fun v2 ev2 => ?_)
      replace h := h v2 ev2
      refine st_goto (pc := 44) dX6_number_44 rfl ?_
      exact h

theorem sg_X6_number_47 {d bc bs : Nat} {a0 : Nat} {a1 : Int} {a2 : Int} {a3 : Int} {a4 : Int} {μ : Mem} {Q : Option (Option AV) → Mem → Prop}
    (h : (¬ a4 = 0 → ∃ (mc1 ms1 : Nat) (K1 : Int → Mem → Prop), Cl d mc1 ms1 mX9_isIn [vi a3, vi a1, vi a2] μ (KI K1) ∧ mc1 ≤ bc ∧ ms1 ≤ bs ∧ (∀ x1 m1, K1 x1 m1 → (¬ x1 = 0 → Q (some (some (vi a3))) m1) ∧ (x1 = 0 → mK m1 a0 = 7 ∧ ∃ (mc2 ms2 : Nat) (K2 : Mem → Prop), Cl d mc2 ms2 mX6_failAtLastDigit [vr a0] m1 (KV K2) ∧ mc2 ≤ bc - mc1 ∧ ms2 ≤ bs - ms1 ∧ (∀ m2, K2 m2 → Q (some (some (vi a3))) m2)))) ∧ (a4 = 0 → mK μ a0 = 7 ∧ ∃ (mc3 ms3 : Nat) (K3 : Mem → Prop), Cl d mc3 ms3 mX6_failHere [vr a0] μ (KV K3) ∧ mc3 ≤ bc ∧ ms3 ≤ bs ∧ (∀ m3, K3 m3 → Q (some (some (vi a3))) m3))) :
    Wp (d + 1) bc bs mX6_number 47 [some (vr a0), some (vi a1), some (vi a2), some (vi a3), some (vi a4)] [] μ Q := by
  refine st_iload (pc := 47) dX6_number_47 rfl ?_
  refine st_ifne (pc := 49) (tgt := 59) dX6_number_49 rfl (fun c => ?_) (fun c => ?_)
  · replace h := h.1 c
    refine st_iload_n (pc := 59) dX6_number_59 rfl rfl ?_
    refine st_iload_n (pc := 60) dX6_number_60 rfl rfl ?_
    refine st_iload_n (pc := 61) dX6_number_61 rfl rfl ?_
    obtain ⟨mc1, ms1, K1, hC, e1, e2, h⟩ := h
    refine sg_SNI (pc := 62) (av := [vi a3, vi a1, vi a2]) (st := []) (K := K1) dX6_number_62 ck_6_49 rfl (by show (0 : Nat) ≤ 8; decide) hC e1 e2 (fun x1 m1 hK => ?_) rfl
    replace h := h x1 m1 hK
    refine st_ifne (pc := 65) (tgt := 72) dX6_number_65 rfl (fun c => ?_) (fun c => ?_)
    · replace h := h.1 c
      refine st_iload_n (pc := 72) dX6_number_72 rfl rfl ?_
      exact st_ireturn (pc := 73) dX6_number_73 (Or.inl rfl) h
    · replace h := h.2 c
      refine st_aload_n (pc := 68) dX6_number_68 rfl rfl ?_
      obtain ⟨hk1, h⟩ := h
      obtain ⟨mc2, ms2, K2, hC, e1, e2, h⟩ := h
      refine sg_VV (pc := 69) (av := []) (st := []) (K := K2) dX6_number_69 ck_6_57 rfl (by decide) hk1 (by show (0 : Nat) ≤ 8; decide) hC e1 e2 (fun m2 hK => ?_) rfl
      replace h := h m2 hK
      refine st_iload_n (pc := 72) dX6_number_72 rfl rfl ?_
      exact st_ireturn (pc := 73) dX6_number_73 (Or.inl rfl) h
  · replace h := h.2 c
    refine st_aload_n (pc := 52) dX6_number_52 rfl rfl ?_
    obtain ⟨hk2, h⟩ := h
    obtain ⟨mc3, ms3, K3, hC, e1, e2, h⟩ := h
    refine sg_VV (pc := 53) (av := []) (st := []) (K := K3) dX6_number_53 ck_6_46 rfl (by decide) hk2 (by show (0 : Nat) ≤ 8; decide) hC e1 e2 (fun m3 hK => ?_) rfl
    replace h := h m3 hK
    refine st_goto (pc := 56) dX6_number_56 rfl ?_
    refine st_iload_n (pc := 72) dX6_number_72 rfl rfl ?_
    exact st_ireturn (pc := 73) dX6_number_73 (Or.inl rfl) h

theorem sg_X6_need_0 {d bc bs : Nat} {a0 : Nat} {a1 : Int} {μ : Mem} {Q : Option (Option AV) → Mem → Prop}
    (h : mK μ a0 = 7 ∧ ∃ (mc1 ms1 : Nat) (K1 : Int → Mem → Prop), Cl d mc1 ms1 mX6_skip [vr a0, vi a1] μ (KI K1) ∧ mc1 ≤ bc ∧ ms1 ≤ bs ∧ (∀ x1 m1, K1 x1 m1 → (¬ x1 = 0 → Q (some none) m1) ∧ (x1 = 0 → mK m1 a0 = 7 ∧ ∃ (mc2 ms2 : Nat) (K2 : Mem → Prop), Cl d mc2 ms2 mX6_failHere [vr a0] m1 (KV K2) ∧ mc2 ≤ bc - mc1 ∧ ms2 ≤ bs - ms1 ∧ (∀ m2, K2 m2 → Q (some none) m2)))) :
    Wp (d + 1) bc bs mX6_need 0 [some (vr a0), some (vi a1)] [] μ Q := by
  refine st_aload_n (pc := 0) dX6_need_0 rfl rfl ?_
  refine st_iload_n (pc := 1) dX6_need_1 rfl rfl ?_
  obtain ⟨hk1, h⟩ := h
  obtain ⟨mc1, ms1, K1, hC, e1, e2, h⟩ := h
  refine sg_VI (pc := 2) (av := [vi a1]) (st := []) (K := K1) dX6_need_2 ck_6_42 rfl (by decide) hk1 (by show (0 : Nat) ≤ 8; decide) hC e1 e2 (fun x1 m1 hK => ?_) rfl
  replace h := h x1 m1 hK
  refine st_ifne (pc := 5) (tgt := 12) dX6_need_5 rfl (fun c => ?_) (fun c => ?_)
  · replace h := h.1 c
    exact st_return (pc := 12) dX6_need_12 rfl h
  · replace h := h.2 c
    refine st_aload_n (pc := 8) dX6_need_8 rfl rfl ?_
    obtain ⟨hk2, h⟩ := h
    obtain ⟨mc2, ms2, K2, hC, e1, e2, h⟩ := h
    refine sg_VV (pc := 9) (av := []) (st := []) (K := K2) dX6_need_9 ck_6_46 rfl (by decide) hk2 (by show (0 : Nat) ≤ 8; decide) hC e1 e2 (fun m2 hK => ?_) rfl
    replace h := h m2 hK
    exact st_return (pc := 12) dX6_need_12 rfl h

theorem sg_X3_init_0 {d bc bs : Nat} {a0 : Nat} {μ : Mem} {Q : Option (Option AV) → Mem → Prop}
    (h : a0 ≠ 0 ∧ (mX μ ≠ 0 ∧ 1 ≤ bc ∧ clN 1 ≤ bs ∧ (∀ m1, m1 = nwM μ 1 0 → ∃ (mc1 ms1 : Nat) (K1 : Mem → Prop), Cl d mc1 ms1 mX0_init [vr (mX μ)] m1 (KV K1) ∧ mc1 ≤ bc - 1 ∧ ms1 ≤ bs - clN 1 ∧ (mX μ) ≠ 0 ∧ (∀ m2, K1 m2 → mK m2 a0 = 4 ∧ (∀ m3, m3 = sR m2 a0 0 (mX μ) → mK m3 a0 = 4 ∧ (∀ m4, m4 = sR m3 a0 1 0 → mX m4 ≠ 0 ∧ (0 : Int) ≤ 5 ∧ 5 ≤ (100000 : Int) ∧ 1 ≤ bc - 1 - mc1 ∧ 5 ≤ ((bs - clN 1 - ms1 : Nat) : Int) ∧ (∀ m5, m5 = nwM m4 25 (5 : Int).toNat → mK m5 a0 = 4 ∧ (∀ m6, m6 = sR m5 a0 2 (mX m4) → mX m6 ≠ 0 ∧ (0 : Int) ≤ 4 ∧ 4 ≤ (100000 : Int) ∧ 1 ≤ bc - 1 - mc1 - 1 ∧ 4 ≤ ((bs - clN 1 - ms1 - (5 : Int).toNat : Nat) : Int) ∧ (∀ m7, m7 = nwM m6 20 (4 : Int).toNat → mK m7 a0 = 4 ∧ (∀ m8, m8 = sR m7 a0 3 (mX m6) → mK m8 a0 = 4 ∧ (∀ m9, m9 = sD m8 a0 4 0 → mX m9 ≠ 0 ∧ (0 : Int) ≤ 4 ∧ 4 ≤ (100000 : Int) ∧ 1 ≤ bc - 1 - mc1 - 1 - 1 ∧ 4 ≤ ((bs - clN 1 - ms1 - (5 : Int).toNat - (4 : Int).toNat : Nat) : Int) ∧ (∀ m10, m10 = nwM m9 20 (4 : Int).toNat → mK m10 a0 = 4 ∧ (∀ m11, m11 = sR m10 a0 5 (mX m9) → mK m11 a0 = 4 ∧ (∀ m12, m12 = sD m11 a0 6 0 → (∀ m13, m13 = sD m12 a0 7 0 → Wp (d + 1) (bc - 1 - mc1 - 1 - 1 - 1) (bs - clN 1 - ms1 - (5 : Int).toNat - (4 : Int).toNat - (4 : Int).toNat) mX3_init 59 [some (vr a0), some (vi 0)] [] m13 Q))))))))))))))) :
    Wp (d + 1) bc bs mX3_init 0 [some (vr a0), none] [] μ Q := by
  refine st_aload_n (pc := 0) dX3_init_0 rfl rfl ?_
  obtain ⟨h0, h⟩ := h
  refine st_objInit (pc := 1) (st := []) dX3_init_1 ck_3_3 h0 (by show (0 : Nat) ≤ 8; decide) ?_
  refine st_aload_n (pc := 4) dX3_init_4 rfl rfl ?_
  obtain ⟨h0, h1, h2, h⟩ := h
  refine st_new (pc := 5) dX3_init_5 nw_3_9 h0 h1 h2 ?_
  refine Wp.nameM (fun m1 em1 => ?_)
  replace h := h m1 em1
  refine st_dup (pc := 8) dX3_init_8 rfl ?_
  obtain ⟨mc1, ms1, K1, hC, e1, e2, h0, h⟩ := h
  refine sg_IV (pc := 9) (av := []) (st := [vr (mX μ), vr a0]) (K := K1) dX3_init_9 ck_3_11 rfl h0 (by show (2 : Nat) ≤ 8; decide) hC e1 e2 (fun m2 hK => ?_) rfl
  replace h := h m2 hK
  obtain ⟨hk1, h⟩ := h
  refine sg_pfR (pc := 12) (J := 0) dX3_init_12 fl_3_12 rfl (Or.inr ⟨rfl, rfl⟩) hk1 ?_
  refine Wp.nameM (fun m3 em3 => ?_)
  replace h := h m3 em3
  refine st_aload_n (pc := 15) dX3_init_15 rfl rfl ?_
  refine st_null (pc := 16) dX3_init_16 ?_
  obtain ⟨hk2, h⟩ := h
  refine sg_pfR (pc := 17) (J := 1) dX3_init_17 fl_3_18 rfl (Or.inl rfl) hk2 ?_
  refine Wp.nameM (fun m4 em4 => ?_)
  replace h := h m4 em4
  refine st_aload_n (pc := 20) dX3_init_20 rfl rfl ?_
  refine sg_iconst (pc := 21) dX3_init_21 (by omega) ?_
  obtain ⟨h0, h1, h2, h3, h4, h⟩ := h
  refine st_anewS (pc := 22) dX3_init_22 nw_3_22 h0 h1 h2 h3 h4 ?_
  refine Wp.nameM (fun m5 em5 => ?_)
  replace h := h m5 em5
  obtain ⟨hk3, h⟩ := h
  refine sg_pfR (pc := 25) (J := 2) dX3_init_25 fl_3_24 rfl (Or.inr ⟨rfl, rfl⟩) hk3 ?_
  refine Wp.nameM (fun m6 em6 => ?_)
  replace h := h m6 em6
  refine st_aload_n (pc := 28) dX3_init_28 rfl rfl ?_
  refine sg_iconst (pc := 29) dX3_init_29 (by omega) ?_
  obtain ⟨h0, h1, h2, h3, h4, h⟩ := h
  refine st_newI (pc := 30) dX3_init_30 h0 h1 h2 h3 h4 ?_
  refine Wp.nameM (fun m7 em7 => ?_)
  replace h := h m7 em7
  obtain ⟨hk4, h⟩ := h
  refine sg_pfR (pc := 32) (J := 3) dX3_init_32 fl_3_28 rfl (Or.inr ⟨rfl, rfl⟩) hk4 ?_
  refine Wp.nameM (fun m8 em8 => ?_)
  replace h := h m8 em8
  refine st_aload_n (pc := 35) dX3_init_35 rfl rfl ?_
  refine sg_iconst (pc := 36) dX3_init_36 (by omega) ?_
  obtain ⟨hk5, h⟩ := h
  refine sg_pfI (pc := 37) (J := 4) dX3_init_37 fl_3_32 rfl (Or.inl rfl) hk5 ?_
  refine Wp.nameM (fun m9 em9 => ?_)
  replace h := h m9 em9
  refine st_aload_n (pc := 40) dX3_init_40 rfl rfl ?_
  refine sg_iconst (pc := 41) dX3_init_41 (by omega) ?_
  obtain ⟨h0, h1, h2, h3, h4, h⟩ := h
  refine st_newI (pc := 42) dX3_init_42 h0 h1 h2 h3 h4 ?_
  refine Wp.nameM (fun m10 em10 => ?_)
  replace h := h m10 em10
  obtain ⟨hk6, h⟩ := h
  refine sg_pfR (pc := 44) (J := 5) dX3_init_44 fl_3_36 rfl (Or.inr ⟨rfl, rfl⟩) hk6 ?_
  refine Wp.nameM (fun m11 em11 => ?_)
  replace h := h m11 em11
  refine st_aload_n (pc := 47) dX3_init_47 rfl rfl ?_
  refine sg_iconst (pc := 48) dX3_init_48 (by omega) ?_
  obtain ⟨hk7, h⟩ := h
  refine sg_pfI (pc := 49) (J := 6) dX3_init_49 fl_3_39 rfl (Or.inl rfl) hk7 ?_
  refine Wp.nameM (fun m12 em12 => ?_)
  replace h := h m12 em12
  refine st_aload_n (pc := 52) dX3_init_52 rfl rfl ?_
  refine sg_iconst (pc := 53) dX3_init_53 (by omega) ?_
  refine sg_pfI (pc := 54) (J := 7) dX3_init_54 fl_3_42 rfl (Or.inl rfl) (by cases em12; exact hk7) ?_
  refine Wp.nameM (fun m13 em13 => ?_)
  replace h := h m13 em13
  refine sg_iconst (pc := 57) dX3_init_57 (by omega) ?_
  refine sg_istore_n (pc := 58) (ls' := [some (vr a0), some (vi 0)]) dX3_init_58 rfl (by show (1 : Nat) < 2; decide) rfl ?_
  exact h

theorem sg_X3_init_59 {d bc bs : Nat} {a0 : Nat} {a1 : Int} {μ : Mem} {Q : Option (Option AV) → Mem → Prop}
    (h : mK μ a0 = 4 ∧ (((20 ≤ mK μ (mR μ a0 2) ∧ mK μ (mR μ a0 2) ≤ 28) ∨ ((mR μ a0 2) ≠ 0 ∧ mK μ (mR μ a0 2) = 40)) ∧ (((mN μ (mR μ a0 2) : Int) ≤ a1 → Q (some none) μ) ∧ (¬ (mN μ (mR μ a0 2) : Int) ≤ a1 → mX μ ≠ 0 ∧ 1 ≤ bc ∧ clN 6 ≤ bs ∧ (∀ m1, m1 = nwM μ 6 0 → ∃ (mc1 ms1 : Nat) (K1 : Mem → Prop), Cl d mc1 ms1 mX5_init [vr (mX μ)] m1 (KV K1) ∧ mc1 ≤ bc - 1 ∧ ms1 ≤ bs - clN 6 ∧ (mX μ) ≠ 0 ∧ (∀ m2, K1 m2 → mK m2 (mR μ a0 2) = 25 ∧ ((0 : Int) ≤ a1 ∧ a1 < (mN m2 (mR μ a0 2) : Int)) ∧ mK m2 (mX μ) = 6 ∧ (∀ m3, m3 = sR m2 (mR μ a0 2) a1 (mX μ) → ∀ v1, v1 = w32 (a1 + 1) → Wp (d + 1) (bc - 1 - mc1) (bs - clN 6 - ms1) mX3_init 59 [some (vr a0), some (vi v1)] [] m3 Q))))))) :
    Wp (d + 1) bc bs mX3_init 59 [some (vr a0), some (vi a1)] [] μ Q := by
  refine st_iload_n (pc := 59) dX3_init_59 rfl rfl ?_
  refine st_aload_n (pc := 60) dX3_init_60 rfl rfl ?_
  obtain ⟨hk1, h⟩ := h
  refine sg_gfR (pc := 61) (J := 2) dX3_init_61 fl_3_24 rfl hk1 ?_
  obtain ⟨hk2, h⟩ := h
  refine sg_alen (pc := 64) dX3_init_64 hk2 ?_
  refine st_icmpge (pc := 65) (tgt := 87) dX3_init_65 rfl (fun c => ?_) (fun c => ?_)
  · replace h := h.1 c
    exact st_return (pc := 87) dX3_init_87 rfl h
  · replace h := h.2 c
    refine st_aload_n (pc := 68) dX3_init_68 rfl rfl ?_
    refine sg_gfR (pc := 69) (J := 2) dX3_init_69 fl_3_24 rfl hk1 ?_
    refine st_iload_n (pc := 72) dX3_init_72 rfl rfl ?_
    obtain ⟨h0, h1, h2, h⟩ := h
    refine st_new (pc := 73) dX3_init_73 nw_3_22 h0 h1 h2 ?_
    refine Wp.nameM (fun m1 em1 => ?_)
    replace h := h m1 em1
    refine st_dup (pc := 76) dX3_init_76 rfl ?_
    obtain ⟨mc1, ms1, K1, hC, e1, e2, h0, h⟩ := h
    refine sg_INV (pc := 77) (av := []) (st := [vr (mX μ), vi a1, vr (mR μ a0 2)]) (K := K1) dX3_init_77 ck_3_45 rfl h0 (by show (3 : Nat) ≤ 8; decide) hC e1 e2 (fun m2 hK => ?_) rfl
    replace h := h m2 hK
    obtain ⟨hk3, h⟩ := h
    obtain ⟨h1, h⟩ := h
    obtain ⟨hk4, h⟩ := h
    refine st_aastore (pc := 80) (t := 5) dX3_init_80 hk3 hk4 (by decide) (by decide) (fun _ => rfl) (by decide) (by decide) h1.1 h1.2 ?_
    refine Wp.nameM (fun m3 em3 => ?_)
    replace h := h m3 em3
    refine sg_iinc (pc := 81) (ls' := [some (vr a0), some (vi (w32 (a1 + 1)))]) dX3_init_81 rfl rfl ?_
    refine Wp.nameL (ls2 := fun v => [some (vr a0), some (vi v)]) 1 _ rfl (fun _ => rfl) (fun v1 ev1 => ?_)
    replace h := h v1 ev1
    refine st_goto (pc := 84) dX3_init_84 rfl ?_
    exact h

theorem sg_X3_begin_0 {d bc bs : Nat} {a0 : Nat} {a1 : Nat} {a2 : Nat} {a3 : Int} {μ : Mem} {Q : Option (Option AV) → Mem → Prop}
    (h : mK μ a0 = 4 ∧ (mK μ (mR μ a0 0) = 1 ∧ ∃ (mc1 ms1 : Nat) (K1 : Mem → Prop), Cl d mc1 ms1 mX0_copy [vr (mR μ a0 0), vr a1] μ (KV K1) ∧ mc1 ≤ bc ∧ ms1 ≤ bs ∧ (∀ m1, K1 m1 → mK m1 a0 = 4 ∧ (∀ m2, m2 = sR m1 a0 1 a2 → mK m2 a0 = 4 ∧ (∀ m3, m3 = sD m2 a0 4 a3 → (∀ m4, m4 = sD m3 a0 6 0 → (∀ m5, m5 = sD m4 a0 7 2147483647 → mK m5 (mR m5 a0 2) = 25 ∧ ((0 : Int) ≤ 0 ∧ 0 < (mN m5 (mR m5 a0 2) : Int)) ∧ (mK m5 (mR m5 (mR m5 a0 2) 0) = 6 ∧ ∃ (mc2 ms2 : Nat) (K2 : Mem → Prop), Cl d mc2 ms2 mX5_freshen [vr (mR m5 (mR m5 a0 2) 0), vr (mR m5 a0 0)] m5 (KV K2) ∧ mc2 ≤ bc - mc1 ∧ ms2 ≤ bs - ms1 ∧ (∀ m6, K2 m6 → mK m6 a0 = 4 ∧ (mK m6 (mR m6 a0 2) = 25 ∧ ((0 : Int) ≤ 0 ∧ 0 < (mN m6 (mR m6 a0 2) : Int)) ∧ (mK m6 (mR m6 (mR m6 a0 2) 0) = 6 ∧ (∀ m7, m7 = sD m6 (mR m6 (mR m6 a0 2) 0) 1 1 → Q (some none) m7)))))))))))) :
    Wp (d + 1) bc bs mX3_begin 0 [some (vr a0), some (vr a1), some (vr a2), some (vi a3)] [] μ Q := by
  refine st_aload_n (pc := 0) dX3_begin_0 rfl rfl ?_
  obtain ⟨hk1, h⟩ := h
  refine sg_gfR (pc := 1) (J := 0) dX3_begin_1 fl_3_12 rfl hk1 ?_
  refine st_aload_n (pc := 4) dX3_begin_4 rfl rfl ?_
  obtain ⟨hk2, h⟩ := h
  obtain ⟨mc1, ms1, K1, hC, e1, e2, h⟩ := h
  refine sg_VV (pc := 5) (av := [vr a1]) (st := []) (K := K1) dX3_begin_5 ck_3_46 rfl (by decide) hk2 (by show (0 : Nat) ≤ 8; decide) hC e1 e2 (fun m1 hK => ?_) rfl
  replace h := h m1 hK
  refine st_aload_n (pc := 8) dX3_begin_8 rfl rfl ?_
  refine st_aload_n (pc := 9) dX3_begin_9 rfl rfl ?_
  obtain ⟨hk3, h⟩ := h
  refine sg_pfR (pc := 10) (J := 1) dX3_begin_10 fl_3_18 rfl (Or.inl rfl) hk3 ?_
  refine Wp.nameM (fun m2 em2 => ?_)
  replace h := h m2 em2
  refine st_aload_n (pc := 13) dX3_begin_13 rfl rfl ?_
  refine st_iload_n (pc := 14) dX3_begin_14 rfl rfl ?_
  obtain ⟨hk4, h⟩ := h
  refine sg_pfI (pc := 15) (J := 4) dX3_begin_15 fl_3_32 rfl (Or.inl rfl) hk4 ?_
  refine Wp.nameM (fun m3 em3 => ?_)
  replace h := h m3 em3
  refine st_aload_n (pc := 18) dX3_begin_18 rfl rfl ?_
  refine sg_iconst (pc := 19) dX3_begin_19 (by omega) ?_
  refine sg_pfI (pc := 20) (J := 6) dX3_begin_20 fl_3_39 rfl (Or.inl rfl) (by cases em3; exact hk4) ?_
  refine Wp.nameM (fun m4 em4 => ?_)
  replace h := h m4 em4
  refine st_aload_n (pc := 23) dX3_begin_23 rfl rfl ?_
  refine st_ldc (pc := 24) (n := 2147483647) dX3_begin_24 cn_3_52 (by unfold r32; omega) ?_
  refine sg_pfI (pc := 26) (J := 7) dX3_begin_26 fl_3_42 rfl (Or.inl rfl) (by cases em4; cases em3; exact hk4) ?_
  refine Wp.nameM (fun m5 em5 => ?_)
  replace h := h m5 em5
  refine st_aload_n (pc := 29) dX3_begin_29 rfl rfl ?_
  refine sg_gfR (pc := 30) (J := 2) dX3_begin_30 fl_3_24 rfl (by cases em5; cases em4; cases em3; exact hk4) ?_
  refine sg_iconst (pc := 33) dX3_begin_33 (by omega) ?_
  obtain ⟨hk5, h⟩ := h
  obtain ⟨h1, h⟩ := h
  refine st_aaload (pc := 34) (t := 5) dX3_begin_34 hk5 (fun _ => rfl) (by decide) (by decide) h1.1 h1.2 ?_
  refine st_aload_n (pc := 35) dX3_begin_35 rfl rfl ?_
  refine sg_gfR (pc := 36) (J := 0) dX3_begin_36 fl_3_12 rfl (by cases em5; cases em4; cases em3; exact hk4) ?_
  obtain ⟨hk6, h⟩ := h
  obtain ⟨mc2, ms2, K2, hC, e1, e2, h⟩ := h
  refine sg_VV (pc := 39) (av := [vr (mR m5 a0 0)]) (st := []) (K := K2) dX3_begin_39 ck_3_53 rfl (by decide) hk6 (by show (0 : Nat) ≤ 8; decide) hC e1 e2 (fun m6 hK => ?_) rfl
  replace h := h m6 hK
  refine st_aload_n (pc := 42) dX3_begin_42 rfl rfl ?_
  obtain ⟨hk7, h⟩ := h
  refine sg_gfR (pc := 43) (J := 2) dX3_begin_43 fl_3_24 rfl hk7 ?_
  refine sg_iconst (pc := 46) dX3_begin_46 (by omega) ?_
  obtain ⟨hk8, h⟩ := h
  obtain ⟨h1, h⟩ := h
  refine st_aaload (pc := 47) (t := 5) dX3_begin_47 hk8 (fun _ => rfl) (by decide) (by decide) h1.1 h1.2 ?_
  refine sg_iconst (pc := 48) dX3_begin_48 (by omega) ?_
  obtain ⟨hk9, h⟩ := h
  refine sg_pfI (pc := 49) (J := 1) dX3_begin_49 fl_3_56 rfl (Or.inl rfl) hk9 ?_
  refine Wp.nameM (fun m7 em7 => ?_)
  replace h := h m7 em7
  exact st_return (pc := 52) dX3_begin_52 rfl h

theorem sg_X3_carries_0 {d bc bs : Nat} {a0 : Nat} {a1 : Int} {a2 : Nat} {μ : Mem} {Q : Option (Option AV) → Mem → Prop}
    (h : ∃ (mc1 ms1 : Nat) (K1 : Int → Mem → Prop), Cl d mc1 ms1 mX9_isIn [vi a1, vi 0, vi 3] μ (KI K1) ∧ mc1 ≤ bc ∧ ms1 ≤ bs ∧ (∀ x1 m1, K1 x1 m1 → (¬ x1 = 0 → mK m1 a0 = 4 ∧ (mK m1 (mR m1 a0 2) = 25 ∧ ((0 : Int) ≤ (w32 (a1 + 1)) ∧ (w32 (a1 + 1)) < (mN m1 (mR m1 a0 2) : Int)) ∧ (((0 : Int) ≤ a1 ∧ a1 < (mN m1 (mR m1 a0 2) : Int)) ∧ (mK m1 (mR m1 (mR m1 a0 2) (w32 (a1 + 1))) = 6 ∧ ∃ (mc2 ms2 : Nat) (K2 : Mem → Prop), Cl d mc2 ms2 mX5_copy [vr (mR m1 (mR m1 a0 2) (w32 (a1 + 1))), vr (mR m1 (mR m1 a0 2) a1)] m1 (KV K2) ∧ mc2 ≤ bc - mc1 ∧ ms2 ≤ bs - ms1 ∧ (∀ m2, K2 m2 → Wp (d + 1) (bc - mc1 - mc2) (bs - ms1 - ms2) mX3_carries 33 [some (vr a0), some (vi a1), some (vr a2), some (vr (mR m1 (mR m1 a0 2) (w32 (a1 + 1)))), some (vi 0)] [] m2 Q))))) ∧ (x1 = 0 → Q (some (some (vi 0))) m1))) :
    Wp (d + 1) bc bs mX3_carries 0 [some (vr a0), some (vi a1), some (vr a2), none, none] [] μ Q := by
  refine st_iload_n (pc := 0) dX3_carries_0 rfl rfl ?_
  refine sg_iconst (pc := 1) dX3_carries_1 (by omega) ?_
  refine sg_iconst (pc := 2) dX3_carries_2 (by omega) ?_
  obtain ⟨mc1, ms1, K1, hC, e1, e2, h⟩ := h
  refine sg_SNI (pc := 3) (av := [vi a1, vi 0, vi 3]) (st := []) (K := K1) dX3_carries_3 ck_3_59 rfl (by show (0 : Nat) ≤ 8; decide) hC e1 e2 (fun x1 m1 hK => ?_) rfl
  replace h := h x1 m1 hK
  refine st_ifne (pc := 6) (tgt := 11) dX3_carries_6 rfl (fun c => ?_) (fun c => ?_)
  · replace h := h.1 c
    refine st_aload_n (pc := 11) dX3_carries_11 rfl rfl ?_
    obtain ⟨hk1, h⟩ := h
    refine sg_gfR (pc := 12) (J := 2) dX3_carries_12 fl_3_24 rfl hk1 ?_
    refine st_iload_n (pc := 15) dX3_carries_15 rfl rfl ?_
    refine sg_iconst (pc := 16) dX3_carries_16 (by omega) ?_
    refine st_iadd (pc := 17) dX3_carries_17 ?_
    obtain ⟨hk2, h⟩ := h
    obtain ⟨h1, h⟩ := h
    refine st_aaload (pc := 18) (t := 5) dX3_carries_18 hk2 (fun _ => rfl) (by decide) (by decide) h1.1 h1.2 ?_
    refine sg_astore_n (pc := 19) (ls' := [some (vr a0), some (vi a1), some (vr a2), some (vr (mR m1 (mR m1 a0 2) (w32 (a1 + 1)))), none]) dX3_carries_19 rfl (by show (3 : Nat) < 5; decide) rfl ?_
    refine st_aload_n (pc := 20) dX3_carries_20 rfl rfl ?_
    refine st_aload_n (pc := 21) dX3_carries_21 rfl rfl ?_
    refine sg_gfR (pc := 22) (J := 2) dX3_carries_22 fl_3_24 rfl hk1 ?_
    refine st_iload_n (pc := 25) dX3_carries_25 rfl rfl ?_
    obtain ⟨h1, h⟩ := h
    refine st_aaload (pc := 26) (t := 5) dX3_carries_26 hk2 (fun _ => rfl) (by decide) (by decide) h1.1 h1.2 ?_
    obtain ⟨hk3, h⟩ := h
    obtain ⟨mc2, ms2, K2, hC, e1, e2, h⟩ := h
    refine sg_VV (pc := 27) (av := [vr (mR m1 (mR m1 a0 2) a1)]) (st := []) (K := K2) dX3_carries_27 ck_3_63 rfl (by decide) hk3 (by show (0 : Nat) ≤ 8; decide) hC e1 e2 (fun m2 hK => ?_) rfl
    replace h := h m2 hK
    refine sg_iconst (pc := 30) dX3_carries_30 (by omega) ?_
    refine sg_istore (pc := 31) (ls' := [some (vr a0), some (vi a1), some (vr a2), some (vr (mR m1 (mR m1 a0 2) (w32 (a1 + 1)))), some (vi 0)]) dX3_carries_31 (by show (4 : Nat) < 5; decide) rfl ?_
    exact h
  · replace h := h.2 c
    refine sg_iconst (pc := 9) dX3_carries_9 (by omega) ?_
    exact st_ireturn (pc := 10) dX3_carries_10 (Or.inr ⟨rfl, by omega⟩) h

theorem sg_X3_carries_33 {d bc bs : Nat} {a0 : Nat} {a1 : Int} {a2 : Nat} {a3 : Nat} {a4 : Int} {μ : Mem} {Q : Option (Option AV) → Mem → Prop}
    (h : mK μ a2 = 9 ∧ (((mD μ a2 4) ≤ a4 → Q (some (some (vi 1))) μ) ∧ (¬ (mD μ a2 4) ≤ a4 → mK μ a0 = 4 ∧ (mK μ a3 = 6 ∧ ∃ (mc1 ms1 : Nat) (K1 : Int → Mem → Prop), Cl d mc1 ms1 mX5_carry [vr a3, vr (mR μ a0 0), vr (mR μ a0 1), vr a2, vi a4, vi 0] μ (KI K1) ∧ mc1 ≤ bc ∧ ms1 ≤ bs ∧ (∀ x1 m1, K1 x1 m1 → (x1 ≤ 0 → ∀ v1, v1 = w32 (a4 + 1) → Wp (d + 1) (bc - mc1) (bs - ms1) mX3_carries 33 [some (vr a0), some (vi a1), some (vr a2), some (vr a3), some (vi v1)] [] m1 Q) ∧ (¬ x1 ≤ 0 → Q (some (some (vi 0))) m1)))))) :
    Wp (d + 1) bc bs mX3_carries 33 [some (vr a0), some (vi a1), some (vr a2), some (vr a3), some (vi a4)] [] μ Q := by
  refine st_iload (pc := 33) dX3_carries_33 rfl ?_
  refine st_aload_n (pc := 35) dX3_carries_35 rfl rfl ?_
  obtain ⟨hk1, h⟩ := h
  refine sg_gfI (pc := 36) (J := 4) dX3_carries_36 fl_3_66 (by decide) rfl hk1 ?_
  refine st_icmpge (pc := 39) (tgt := 69) dX3_carries_39 rfl (fun c => ?_) (fun c => ?_)
  · replace h := h.1 c
    refine sg_iconst (pc := 69) dX3_carries_69 (by omega) ?_
    exact st_ireturn (pc := 70) dX3_carries_70 (Or.inr ⟨rfl, by omega⟩) h
  · replace h := h.2 c
    refine st_aload_n (pc := 42) dX3_carries_42 rfl rfl ?_
    refine st_aload_n (pc := 43) dX3_carries_43 rfl rfl ?_
    obtain ⟨hk2, h⟩ := h
    refine sg_gfR (pc := 44) (J := 0) dX3_carries_44 fl_3_12 rfl hk2 ?_
    refine st_aload_n (pc := 47) dX3_carries_47 rfl rfl ?_
    refine sg_gfR (pc := 48) (J := 1) dX3_carries_48 fl_3_18 rfl hk2 ?_
    refine st_aload_n (pc := 51) dX3_carries_51 rfl rfl ?_
    refine st_iload (pc := 52) dX3_carries_52 rfl ?_
    refine sg_iconst (pc := 54) dX3_carries_54 (by omega) ?_
    obtain ⟨hk3, h⟩ := h
    obtain ⟨mc1, ms1, K1, hC, e1, e2, h⟩ := h
    refine sg_VI (pc := 55) (av := [vr (mR μ a0 0), vr (mR μ a0 1), vr a2, vi a4, vi 0]) (st := []) (K := K1) dX3_carries_55 ck_3_71 rfl (by decide) hk3 (by show (0 : Nat) ≤ 8; decide) hC e1 e2 (fun x1 m1 hK => ?_) rfl
    replace h := h x1 m1 hK
    refine st_ifle (pc := 58) (tgt := 63) dX3_carries_58 rfl (fun c => ?_) (fun c => ?_)
    · replace h := h.1 c
      refine sg_iinc (pc := 63) (ls' := [some (vr a0), some (vi a1), some (vr a2), some (vr a3), some (vi (w32 (a4 + 1)))]) dX3_carries_63 rfl rfl ?_
      refine Wp.nameL (ls2 := fun v => [some (vr a0), some (vi a1), some (vr a2), some (vr a3), some (vi v)]) 4 _ rfl (fun _ => rfl) (fun v1 ev1 => ?_)
      replace h := h v1 ev1
      refine st_goto (pc := 66) dX3_carries_66 rfl ?_
      exact h
    · replace h := h.2 c
      refine sg_iconst (pc := 61) dX3_carries_61 (by omega) ?_
      exact st_ireturn (pc := 62) dX3_carries_62 (Or.inr ⟨rfl, by omega⟩) h

theorem sg_X3_choose_0 {d bc bs : Nat} {a0 : Nat} {a1 : Int} {a2 : Int} {μ : Mem} {Q : Option (Option AV) → Mem → Prop}
    (h : ∃ (mc1 ms1 : Nat) (K1 : Int → Mem → Prop), Cl d mc1 ms1 mX9_isIn [vi a1, vi 0, vi 3] μ (KI K1) ∧ mc1 ≤ bc ∧ ms1 ≤ bs ∧ (∀ x1 m1, K1 x1 m1 → (x1 = 0 → Q (some none) m1) ∧ (¬ x1 = 0 → mK m1 a0 = 4 ∧ (mK m1 (mR m1 a0 3) = 20 ∧ ((0 : Int) ≤ a1 ∧ a1 < (mN m1 (mR m1 a0 3) : Int)) ∧ (∀ m2, m2 = sD m1 (mR m1 a0 3) a1 a2 → Q (some none) m2))))) :
    Wp (d + 1) bc bs mX3_choose 0 [some (vr a0), some (vi a1), some (vi a2)] [] μ Q := by
  refine st_iload_n (pc := 0) dX3_choose_0 rfl rfl ?_
  refine sg_iconst (pc := 1) dX3_choose_1 (by omega) ?_
  refine sg_iconst (pc := 2) dX3_choose_2 (by omega) ?_
  obtain ⟨mc1, ms1, K1, hC, e1, e2, h⟩ := h
  refine sg_SNI (pc := 3) (av := [vi a1, vi 0, vi 3]) (st := []) (K := K1) dX3_choose_3 ck_3_59 rfl (by show (0 : Nat) ≤ 8; decide) hC e1 e2 (fun x1 m1 hK => ?_) rfl
  replace h := h x1 m1 hK
  refine st_ifeq (pc := 6) (tgt := 16) dX3_choose_6 rfl (fun c => ?_) (fun c => ?_)
  · replace h := h.1 c
    exact st_return (pc := 16) dX3_choose_16 rfl h
  · replace h := h.2 c
    refine st_aload_n (pc := 9) dX3_choose_9 rfl rfl ?_
    obtain ⟨hk1, h⟩ := h
    refine sg_gfR (pc := 10) (J := 3) dX3_choose_10 fl_3_28 rfl hk1 ?_
    refine st_iload_n (pc := 13) dX3_choose_13 rfl rfl ?_
    refine st_iload_n (pc := 14) dX3_choose_14 rfl rfl ?_
    obtain ⟨hk2, h⟩ := h
    obtain ⟨h1, h⟩ := h
    refine st_iastore (pc := 15) dX3_choose_15 hk2 h1.1 h1.2 ?_
    refine Wp.nameM (fun m2 em2 => ?_)
    replace h := h m2 em2
    exact st_return (pc := 16) dX3_choose_16 rfl h

theorem sg_X3_noteBest_0 {d bc bs : Nat} {a0 : Nat} {a1 : Int} {a2 : Int} {μ : Mem} {Q : Option (Option AV) → Mem → Prop}
    (h : mK μ a0 = 4 ∧ (∀ m1, m1 = sD μ a0 6 a1 → (∀ m2, m2 = sD m1 a0 7 a2 → ((20 ≤ mK m2 (mR m2 a0 3) ∧ mK m2 (mR m2 a0 3) ≤ 28) ∨ ((mR m2 a0 3) ≠ 0 ∧ mK m2 (mR m2 a0 3) = 40)) ∧ (mK m2 (mR m2 a0 3) = 20 ∧ mK m2 (mR m2 a0 5) = 20 ∧ (0 : Int) ≤ 0 ∧ (0 : Int) ≤ 0 ∧ (0 : Int) ≤ (mN m2 (mR m2 a0 3) : Int) ∧ 0 + (mN m2 (mR m2 a0 3) : Int) ≤ (mN m2 (mR m2 a0 3) : Int) ∧ 0 + (mN m2 (mR m2 a0 3) : Int) ≤ (mN m2 (mR m2 a0 5) : Int) ∧ (∀ m3, m3 = sCp m2 (mR m2 a0 3) 0 (mR m2 a0 5) 0 (mN m2 (mR m2 a0 3) : Int) → Q (some none) m3))))) :
    Wp d bc bs mX3_noteBest 0 [some (vr a0), some (vi a1), some (vi a2)] [] μ Q := by
  refine st_aload_n (pc := 0) dX3_noteBest_0 rfl rfl ?_
  refine st_iload_n (pc := 1) dX3_noteBest_1 rfl rfl ?_
  obtain ⟨hk1, h⟩ := h
  refine sg_pfI (pc := 2) (J := 6) dX3_noteBest_2 fl_3_39 rfl (Or.inl rfl) hk1 ?_
  refine Wp.nameM (fun m1 em1 => ?_)
  replace h := h m1 em1
  refine st_aload_n (pc := 5) dX3_noteBest_5 rfl rfl ?_
  refine st_iload_n (pc := 6) dX3_noteBest_6 rfl rfl ?_
  refine sg_pfI (pc := 7) (J := 7) dX3_noteBest_7 fl_3_42 rfl (Or.inl rfl) (by cases em1; exact hk1) ?_
  refine Wp.nameM (fun m2 em2 => ?_)
  replace h := h m2 em2
  refine st_aload_n (pc := 10) dX3_noteBest_10 rfl rfl ?_
  refine sg_gfR (pc := 11) (J := 3) dX3_noteBest_11 fl_3_28 rfl (by cases em2; cases em1; exact hk1) ?_
  refine sg_iconst (pc := 14) dX3_noteBest_14 (by omega) ?_
  refine st_aload_n (pc := 15) dX3_noteBest_15 rfl rfl ?_
  refine sg_gfR (pc := 16) (J := 5) dX3_noteBest_16 fl_3_36 rfl (by cases em2; cases em1; exact hk1) ?_
  refine sg_iconst (pc := 19) dX3_noteBest_19 (by omega) ?_
  refine st_aload_n (pc := 20) dX3_noteBest_20 rfl rfl ?_
  refine sg_gfR (pc := 21) (J := 3) dX3_noteBest_21 fl_3_28 rfl (by cases em2; cases em1; exact hk1) ?_
  obtain ⟨hk2, h⟩ := h
  refine sg_alen (pc := 24) dX3_noteBest_24 hk2 ?_
  obtain ⟨h1, h2, h3, h4, h5, h6, h7, h⟩ := h
  refine st_copy (pc := 25) (st := []) dX3_noteBest_25 ck_3_75 h1 h2 h3 h4 h5 h6 h7 (by show (0 : Nat) ≤ 8; decide) ?_
  refine Wp.nameM (fun m3 em3 => ?_)
  replace h := h m3 em3
  exact st_return (pc := 28) dX3_noteBest_28 rfl h

theorem sg_X6_init_0 {d bc bs : Nat} {a0 : Nat} {μ : Mem} {Q : Option (Option AV) → Mem → Prop}
    (h : a0 ≠ 0 ∧ (mX μ ≠ 0 ∧ (0 : Int) ≤ 80 ∧ 80 ≤ (100000 : Int) ∧ 1 ≤ bc ∧ 80 ≤ ((bs : Nat) : Int) ∧ (∀ m1, m1 = nwM μ 23 (80 : Int).toNat → mK m1 a0 = 7 ∧ (∀ m2, m2 = sR m1 a0 0 (mX μ) → mK m2 a0 = 7 ∧ (∀ m3, m3 = sD m2 a0 1 0 → (∀ m4, m4 = sD m3 a0 2 0 → (∀ m5, m5 = sD m4 a0 3 0 → (∀ m6, m6 = sD m5 a0 4 (-1) → Q (some none) m6)))))))) :
    Wp d bc bs mX6_init 0 [some (vr a0)] [] μ Q := by
  refine st_aload_n (pc := 0) dX6_init_0 rfl rfl ?_
  obtain ⟨h0, h⟩ := h
  refine st_objInit (pc := 1) (st := []) dX6_init_1 ck_6_3 h0 (by show (0 : Nat) ≤ 8; decide) ?_
  refine st_aload_n (pc := 4) dX6_init_4 rfl rfl ?_
  refine sg_bipush (pc := 5) dX6_init_5 (by omega) (by decide) ?_
  obtain ⟨h0, h1, h2, h3, h4, h⟩ := h
  refine st_newC (pc := 7) dX6_init_7 h0 h1 h2 h3 h4 ?_
  refine Wp.nameM (fun m1 em1 => ?_)
  replace h := h m1 em1
  obtain ⟨hk1, h⟩ := h
  refine sg_pfR (pc := 9) (J := 0) dX6_init_9 fl_6_9 rfl (Or.inr ⟨rfl, rfl⟩) hk1 ?_
  refine Wp.nameM (fun m2 em2 => ?_)
  replace h := h m2 em2
  refine st_aload_n (pc := 12) dX6_init_12 rfl rfl ?_
  refine sg_iconst (pc := 13) dX6_init_13 (by omega) ?_
  obtain ⟨hk2, h⟩ := h
  refine sg_pfI (pc := 14) (J := 1) dX6_init_14 fl_6_15 rfl (Or.inl rfl) hk2 ?_
  refine Wp.nameM (fun m3 em3 => ?_)
  replace h := h m3 em3
  refine st_aload_n (pc := 17) dX6_init_17 rfl rfl ?_
  refine sg_iconst (pc := 18) dX6_init_18 (by omega) ?_
  refine sg_pfI (pc := 19) (J := 2) dX6_init_19 fl_6_19 rfl (Or.inl rfl) (by cases em3; exact hk2) ?_
  refine Wp.nameM (fun m4 em4 => ?_)
  replace h := h m4 em4
  refine st_aload_n (pc := 22) dX6_init_22 rfl rfl ?_
  refine sg_iconst (pc := 23) dX6_init_23 (by omega) ?_
  refine sg_pfI (pc := 24) (J := 3) dX6_init_24 fl_6_22 rfl (Or.inl rfl) (by cases em4; cases em3; exact hk2) ?_
  refine Wp.nameM (fun m5 em5 => ?_)
  replace h := h m5 em5
  refine st_aload_n (pc := 27) dX6_init_27 rfl rfl ?_
  refine sg_iconst (pc := 28) dX6_init_28 (by omega) ?_
  refine sg_pfI (pc := 29) (J := 4) dX6_init_29 fl_6_25 rfl (Or.inl rfl) (by cases em5; cases em4; cases em3; exact hk2) ?_
  refine Wp.nameM (fun m6 em6 => ?_)
  replace h := h m6 em6
  exact st_return (pc := 32) dX6_init_32 rfl h

theorem sg_X6_add_0 {d bc bs : Nat} {a0 : Nat} {a1 : Int} {μ : Mem} {Q : Option (Option AV) → Mem → Prop}
    (h : mK μ a0 = 7 ∧ (((20 ≤ mK μ (mR μ a0 0) ∧ mK μ (mR μ a0 0) ≤ 28) ∨ ((mR μ a0 0) ≠ 0 ∧ mK μ (mR μ a0 0) = 40)) ∧ (((w32 ((mD μ a0 1) + 4)) ≤ (mN μ (mR μ a0 0) : Int) → Wp d bc bs mX6_add 19 [some (vr a0), some (vi a1), some (vi 24)] [] μ Q) ∧ (¬ (w32 ((mD μ a0 1) + 4)) ≤ (mN μ (mR μ a0 0) : Int) → Q (some (some (vi 0))) μ)))) :
    Wp d bc bs mX6_add 0 [some (vr a0), some (vi a1), none] [] μ Q := by
  refine st_aload_n (pc := 0) dX6_add_0 rfl rfl ?_
  obtain ⟨hk1, h⟩ := h
  refine sg_gfI (pc := 1) (J := 1) dX6_add_1 fl_6_15 (by decide) rfl hk1 ?_
  refine sg_iconst (pc := 4) dX6_add_4 (by omega) ?_
  refine st_iadd (pc := 5) dX6_add_5 ?_
  refine st_aload_n (pc := 6) dX6_add_6 rfl rfl ?_
  refine sg_gfR (pc := 7) (J := 0) dX6_add_7 fl_6_9 rfl hk1 ?_
  obtain ⟨hk2, h⟩ := h
  refine sg_alen (pc := 10) dX6_add_10 hk2 ?_
  refine st_icmple (pc := 11) (tgt := 16) dX6_add_11 rfl (fun c => ?_) (fun c => ?_)
  · replace h := h.1 c
    refine sg_bipush (pc := 16) dX6_add_16 (by omega) (by decide) ?_
    refine sg_istore_n (pc := 18) (ls' := [some (vr a0), some (vi a1), some (vi 24)]) dX6_add_18 rfl (by show (2 : Nat) < 3; decide) rfl ?_
    exact h
  · replace h := h.2 c
    refine sg_iconst (pc := 14) dX6_add_14 (by omega) ?_
    exact st_ireturn (pc := 15) dX6_add_15 (Or.inr ⟨rfl, by omega⟩) h

theorem sg_X6_add_19 {d bc bs : Nat} {a0 : Nat} {a1 : Int} {a2 : Int} {μ : Mem} {Q : Option (Option AV) → Mem → Prop}
    (h : (a2 < 0 → Q (some (some (vi 1))) μ) ∧ (¬ a2 < 0 → mK μ a0 = 7 ∧ (mK μ (mR μ a0 0) = 23 ∧ ((0 : Int) ≤ (mD μ a0 1) ∧ (mD μ a0 1) < (mN μ (mR μ a0 0) : Int)) ∧ (∀ m1, m1 = sD μ (mR μ a0 0) (mD μ a0 1) (((bAnd (bUshr a1 a2) 255) % 65536) % 65536) → (∀ m2, m2 = sD m1 a0 1 (w32 ((mD m1 a0 1) + 1)) → ∀ v1, v1 = w32 (a2 + (-8)) → Wp d bc bs mX6_add 19 [some (vr a0), some (vi a1), some (vi v1)] [] m2 Q))))) :
    Wp d bc bs mX6_add 19 [some (vr a0), some (vi a1), some (vi a2)] [] μ Q := by
  refine st_iload_n (pc := 19) dX6_add_19 rfl rfl ?_
  refine st_iflt (pc := 20) (tgt := 56) dX6_add_20 rfl (fun c => ?_) (fun c => ?_)
  · replace h := h.1 c
    refine sg_iconst (pc := 56) dX6_add_56 (by omega) ?_
    exact st_ireturn (pc := 57) dX6_add_57 (Or.inr ⟨rfl, by omega⟩) h
  · replace h := h.2 c
    refine st_aload_n (pc := 23) dX6_add_23 rfl rfl ?_
    obtain ⟨hk1, h⟩ := h
    refine sg_gfR (pc := 24) (J := 0) dX6_add_24 fl_6_9 rfl hk1 ?_
    refine st_aload_n (pc := 27) dX6_add_27 rfl rfl ?_
    refine sg_gfI (pc := 28) (J := 1) dX6_add_28 fl_6_15 (by decide) rfl hk1 ?_
    refine st_iload_n (pc := 31) dX6_add_31 rfl rfl ?_
    refine st_iload_n (pc := 32) dX6_add_32 rfl rfl ?_
    refine st_iushr (pc := 33) dX6_add_33 ?_
    refine sg_sipush (pc := 34) dX6_add_34 (by omega) (by decide) ?_
    refine st_iand (pc := 37) dX6_add_37 ?_
    refine st_i2c (pc := 38) dX6_add_38 ?_
    obtain ⟨hk2, h⟩ := h
    obtain ⟨h1, h⟩ := h
    refine st_castore (pc := 39) dX6_add_39 hk2 h1.1 h1.2 ?_
    refine Wp.nameM (fun m1 em1 => ?_)
    replace h := h m1 em1
    refine st_aload_n (pc := 40) dX6_add_40 rfl rfl ?_
    refine st_dup (pc := 41) dX6_add_41 rfl ?_
    refine sg_gfI (pc := 42) (J := 1) dX6_add_42 fl_6_15 (by decide) rfl (by cases em1; exact hk1) ?_
    refine sg_iconst (pc := 45) dX6_add_45 (by omega) ?_
    refine st_iadd (pc := 46) dX6_add_46 ?_
    refine sg_pfI (pc := 47) (J := 1) dX6_add_47 fl_6_15 rfl (Or.inl rfl) (by cases em1; exact hk1) ?_
    refine Wp.nameM (fun m2 em2 => ?_)
    replace h := h m2 em2
    refine sg_iinc (pc := 50) (ls' := [some (vr a0), some (vi a1), some (vi (w32 (a2 + (-8))))]) dX6_add_50 rfl rfl ?_
    refine Wp.nameL (ls2 := fun v => [some (vr a0), some (vi a1), some (vi v)]) 2 _ rfl (fun _ => rfl) (fun v1 ev1 => ?_)
    replace h := h v1 ev1
    refine st_goto (pc := 53) dX6_add_53 rfl ?_
    exact h

theorem sg_X6_finish_0 {d bc bs : Nat} {a0 : Nat} {μ : Mem} {Q : Option (Option AV) → Mem → Prop}
    (h : mK μ a0 = 7 ∧ (((mD μ a0 2) < (mD μ a0 3) → Wp (d + 1) bc bs mX6_finish 22 [some (vr a0)] [] μ Q) ∧ (¬ (mD μ a0 2) < (mD μ a0 3) → ((mD μ a0 1) ≤ (mD μ a0 3) → Wp (d + 1) bc bs mX6_finish 30 [some (vr a0)] [] μ Q) ∧ (¬ (mD μ a0 1) ≤ (mD μ a0 3) → Wp (d + 1) bc bs mX6_finish 22 [some (vr a0)] [] μ Q)))) :
    Wp (d + 1) bc bs mX6_finish 0 [some (vr a0)] [] μ Q := by
  refine st_aload_n (pc := 0) dX6_finish_0 rfl rfl ?_
  obtain ⟨hk1, h⟩ := h
  refine sg_gfI (pc := 1) (J := 2) dX6_finish_1 fl_6_19 (by decide) rfl hk1 ?_
  refine st_aload_n (pc := 4) dX6_finish_4 rfl rfl ?_
  refine sg_gfI (pc := 5) (J := 3) dX6_finish_5 fl_6_22 (by decide) rfl hk1 ?_
  refine st_icmplt (pc := 8) (tgt := 22) dX6_finish_8 rfl (fun c => ?_) (fun c => ?_)
  · replace h := h.1 c
    exact h
  · replace h := h.2 c
    refine st_aload_n (pc := 11) dX6_finish_11 rfl rfl ?_
    refine sg_gfI (pc := 12) (J := 3) dX6_finish_12 fl_6_22 (by decide) rfl hk1 ?_
    refine st_aload_n (pc := 15) dX6_finish_15 rfl rfl ?_
    refine sg_gfI (pc := 16) (J := 1) dX6_finish_16 fl_6_15 (by decide) rfl hk1 ?_
    refine st_icmpge (pc := 19) (tgt := 30) dX6_finish_19 rfl (fun c => ?_) (fun c => ?_)
    · replace h := h.1 c
      exact h
    · replace h := h.2 c
      exact h

theorem sg_X6_finish_22 {d bc bs : Nat} {a0 : Nat} {μ : Mem} {Q : Option (Option AV) → Mem → Prop}
    (h : mK μ a0 = 7 ∧ (∃ (mc1 ms1 : Nat) (K1 : Mem → Prop), Cl d mc1 ms1 mX6_fail [vr a0, vi (mD μ a0 2)] μ (KV K1) ∧ mc1 ≤ bc ∧ ms1 ≤ bs ∧ (∀ m1, K1 m1 → Wp (d + 1) (bc - mc1) (bs - ms1) mX6_finish 30 [some (vr a0)] [] m1 Q))) :
    Wp (d + 1) bc bs mX6_finish 22 [some (vr a0)] [] μ Q := by
  refine st_aload_n (pc := 22) dX6_finish_22 rfl rfl ?_
  refine st_aload_n (pc := 23) dX6_finish_23 rfl rfl ?_
  obtain ⟨hk1, h⟩ := h
  refine sg_gfI (pc := 24) (J := 2) dX6_finish_24 fl_6_19 (by decide) rfl hk1 ?_
  obtain ⟨mc1, ms1, K1, hC, e1, e2, h⟩ := h
  refine sg_VV (pc := 27) (av := [vi (mD μ a0 2)]) (st := []) (K := K1) dX6_finish_27 ck_6_34 rfl (by decide) hk1 (by show (0 : Nat) ≤ 8; decide) hC e1 e2 (fun m1 hK => ?_) rfl
  replace h := h m1 hK
  exact h

theorem sg_X6_finish_30 {d bc bs : Nat} {a0 : Nat} {μ : Mem} {Q : Option (Option AV) → Mem → Prop}
    (h : mK μ a0 = 7 ∧ (∀ m1, m1 = sD μ a0 1 0 → Q (some (some (vi (mD m1 a0 4)))) m1)) :
    Wp (d + 1) bc bs mX6_finish 30 [some (vr a0)] [] μ Q := by
  refine st_aload_n (pc := 30) dX6_finish_30 rfl rfl ?_
  refine sg_iconst (pc := 31) dX6_finish_31 (by omega) ?_
  obtain ⟨hk1, h⟩ := h
  refine sg_pfI (pc := 32) (J := 1) dX6_finish_32 fl_6_15 rfl (Or.inl rfl) hk1 ?_
  refine Wp.nameM (fun m1 em1 => ?_)
  replace h := h m1 em1
  refine st_aload_n (pc := 35) dX6_finish_35 rfl rfl ?_
  refine sg_gfI (pc := 36) (J := 4) dX6_finish_36 fl_6_25 (by decide) rfl (by cases em1; exact hk1) ?_
  exact st_ireturn (pc := 39) dX6_finish_39 (Or.inl rfl) h

theorem sg_X7_init_0 {d bc bs : Nat} {a0 : Nat} {μ : Mem} {Q : Option (Option AV) → Mem → Prop}
    (h : a0 ≠ 0 ∧ (mX μ ≠ 0 ∧ 1 ≤ bc ∧ clN 1 ≤ bs ∧ (∀ m1, m1 = nwM μ 1 0 → ∃ (mc1 ms1 : Nat) (K1 : Mem → Prop), Cl d mc1 ms1 mX0_init [vr (mX μ)] m1 (KV K1) ∧ mc1 ≤ bc - 1 ∧ ms1 ≤ bs - clN 1 ∧ (mX μ) ≠ 0 ∧ (∀ m2, K1 m2 → mK m2 a0 = 8 ∧ (∀ m3, m3 = sR m2 a0 0 (mX μ) → mK m3 a0 = 8 ∧ (∀ m4, m4 = sR m3 a0 1 0 → mX m4 ≠ 0 ∧ 1 ≤ bc - 1 - mc1 ∧ clN 6 ≤ bs - clN 1 - ms1 ∧ (∀ m5, m5 = nwM m4 6 0 → ∃ (mc2 ms2 : Nat) (K2 : Mem → Prop), Cl d mc2 ms2 mX5_init [vr (mX m4)] m5 (KV K2) ∧ mc2 ≤ bc - 1 - mc1 - 1 ∧ ms2 ≤ bs - clN 1 - ms1 - clN 6 ∧ (mX m4) ≠ 0 ∧ (∀ m6, K2 m6 → mK m6 a0 = 8 ∧ (∀ m7, m7 = sR m6 a0 2 (mX m4) → mK m7 a0 = 8 ∧ (∀ m8, m8 = sD m7 a0 3 0 → (∀ m9, m9 = sD m8 a0 4 0 → (∀ m10, m10 = sD m9 a0 5 (-1) → (∀ m11, m11 = sD m10 a0 6 0 → (∀ m12, m12 = sD m11 a0 7 0 → mX m12 ≠ 0 ∧ (0 : Int) ≤ 1040 ∧ 1040 ≤ (100000 : Int) ∧ 1 ≤ bc - 1 - mc1 - 1 - mc2 ∧ 1040 ≤ ((bs - clN 1 - ms1 - clN 6 - ms2 : Nat) : Int) ∧ (∀ m13, m13 = nwM m12 20 (1040 : Int).toNat → mK m13 a0 = 8 ∧ (∀ m14, m14 = sR m13 a0 8 (mX m12) → mK m14 a0 = 8 ∧ (∀ m15, m15 = sD m14 a0 9 0 → mX m15 ≠ 0 ∧ (0 : Int) ≤ 1000 ∧ 1000 ≤ (100000 : Int) ∧ 1 ≤ bc - 1 - mc1 - 1 - mc2 - 1 ∧ 1000 ≤ ((bs - clN 1 - ms1 - clN 6 - ms2 - (1040 : Int).toNat : Nat) : Int) ∧ (∀ m16, m16 = nwM m15 20 (1000 : Int).toNat → mK m16 a0 = 8 ∧ (∀ m17, m17 = sR m16 a0 10 (mX m15) → mX m17 ≠ 0 ∧ (0 : Int) ≤ 401 ∧ 401 ≤ (100000 : Int) ∧ 1 ≤ bc - 1 - mc1 - 1 - mc2 - 1 - 1 ∧ 401 ≤ ((bs - clN 1 - ms1 - clN 6 - ms2 - (1040 : Int).toNat - (1000 : Int).toNat : Nat) : Int) ∧ (∀ m18, m18 = nwM m17 20 (401 : Int).toNat → mK m18 a0 = 8 ∧ (∀ m19, m19 = sR m18 a0 11 (mX m17) → Q (some none) m19))))))))))))))))))))) :
    Wp (d + 1) bc bs mX7_init 0 [some (vr a0)] [] μ Q := by
  refine st_aload_n (pc := 0) dX7_init_0 rfl rfl ?_
  obtain ⟨h0, h⟩ := h
  refine st_objInit (pc := 1) (st := []) dX7_init_1 ck_7_3 h0 (by show (0 : Nat) ≤ 8; decide) ?_
  refine st_aload_n (pc := 4) dX7_init_4 rfl rfl ?_
  obtain ⟨h0, h1, h2, h⟩ := h
  refine st_new (pc := 5) dX7_init_5 nw_7_9 h0 h1 h2 ?_
  refine Wp.nameM (fun m1 em1 => ?_)
  replace h := h m1 em1
  refine st_dup (pc := 8) dX7_init_8 rfl ?_
  obtain ⟨mc1, ms1, K1, hC, e1, e2, h0, h⟩ := h
  refine sg_IV (pc := 9) (av := []) (st := [vr (mX μ), vr a0]) (K := K1) dX7_init_9 ck_7_11 rfl h0 (by show (2 : Nat) ≤ 8; decide) hC e1 e2 (fun m2 hK => ?_) rfl
  replace h := h m2 hK
  obtain ⟨hk1, h⟩ := h
  refine sg_pfR (pc := 12) (J := 0) dX7_init_12 fl_7_12 rfl (Or.inr ⟨rfl, rfl⟩) hk1 ?_
  refine Wp.nameM (fun m3 em3 => ?_)
  replace h := h m3 em3
  refine st_aload_n (pc := 15) dX7_init_15 rfl rfl ?_
  refine st_null (pc := 16) dX7_init_16 ?_
  obtain ⟨hk2, h⟩ := h
  refine sg_pfR (pc := 17) (J := 1) dX7_init_17 fl_7_18 rfl (Or.inl rfl) hk2 ?_
  refine Wp.nameM (fun m4 em4 => ?_)
  replace h := h m4 em4
  refine st_aload_n (pc := 20) dX7_init_20 rfl rfl ?_
  obtain ⟨h0, h1, h2, h⟩ := h
  refine st_new (pc := 21) dX7_init_21 nw_7_22 h0 h1 h2 ?_
  refine Wp.nameM (fun m5 em5 => ?_)
  replace h := h m5 em5
  refine st_dup (pc := 24) dX7_init_24 rfl ?_
  obtain ⟨mc2, ms2, K2, hC, e1, e2, h0, h⟩ := h
  refine sg_INV (pc := 25) (av := []) (st := [vr (mX m4), vr a0]) (K := K2) dX7_init_25 ck_7_24 rfl h0 (by show (2 : Nat) ≤ 8; decide) hC e1 e2 (fun m6 hK => ?_) rfl
  replace h := h m6 hK
  obtain ⟨hk3, h⟩ := h
  refine sg_pfR (pc := 28) (J := 2) dX7_init_28 fl_7_25 rfl (Or.inr ⟨rfl, rfl⟩) hk3 ?_
  refine Wp.nameM (fun m7 em7 => ?_)
  replace h := h m7 em7
  refine st_aload_n (pc := 31) dX7_init_31 rfl rfl ?_
  refine sg_iconst (pc := 32) dX7_init_32 (by omega) ?_
  obtain ⟨hk4, h⟩ := h
  refine sg_pfZ (pc := 33) (J := 3) dX7_init_33 fl_7_29 rfl (Or.inl rfl) (by omega) hk4 ?_
  refine Wp.nameM (fun m8 em8 => ?_)
  replace h := h m8 em8
  refine st_aload_n (pc := 36) dX7_init_36 rfl rfl ?_
  refine sg_iconst (pc := 37) dX7_init_37 (by omega) ?_
  refine sg_pfI (pc := 38) (J := 4) dX7_init_38 fl_7_33 rfl (Or.inl rfl) (by cases em8; exact hk4) ?_
  refine Wp.nameM (fun m9 em9 => ?_)
  replace h := h m9 em9
  refine st_aload_n (pc := 41) dX7_init_41 rfl rfl ?_
  refine sg_iconst (pc := 42) dX7_init_42 (by omega) ?_
  refine sg_pfI (pc := 43) (J := 5) dX7_init_43 fl_7_37 rfl (Or.inl rfl) (by cases em9; cases em8; exact hk4) ?_
  refine Wp.nameM (fun m10 em10 => ?_)
  replace h := h m10 em10
  refine st_aload_n (pc := 46) dX7_init_46 rfl rfl ?_
  refine sg_iconst (pc := 47) dX7_init_47 (by omega) ?_
  refine sg_pfI (pc := 48) (J := 6) dX7_init_48 fl_7_40 rfl (Or.inl rfl) (by cases em10; cases em9; cases em8; exact hk4) ?_
  refine Wp.nameM (fun m11 em11 => ?_)
  replace h := h m11 em11
  refine st_aload_n (pc := 51) dX7_init_51 rfl rfl ?_
  refine sg_iconst (pc := 52) dX7_init_52 (by omega) ?_
  refine sg_pfI (pc := 53) (J := 7) dX7_init_53 fl_7_43 rfl (Or.inl rfl) (by cases em11; cases em10; cases em9; cases em8; exact hk4) ?_
  refine Wp.nameM (fun m12 em12 => ?_)
  replace h := h m12 em12
  refine st_aload_n (pc := 56) dX7_init_56 rfl rfl ?_
  refine sg_sipush (pc := 57) dX7_init_57 (by omega) (by decide) ?_
  obtain ⟨h0, h1, h2, h3, h4, h⟩ := h
  refine st_newI (pc := 60) dX7_init_60 h0 h1 h2 h3 h4 ?_
  refine Wp.nameM (fun m13 em13 => ?_)
  replace h := h m13 em13
  obtain ⟨hk5, h⟩ := h
  refine sg_pfR (pc := 62) (J := 8) dX7_init_62 fl_7_46 rfl (Or.inr ⟨rfl, rfl⟩) hk5 ?_
  refine Wp.nameM (fun m14 em14 => ?_)
  replace h := h m14 em14
  refine st_aload_n (pc := 65) dX7_init_65 rfl rfl ?_
  refine sg_iconst (pc := 66) dX7_init_66 (by omega) ?_
  obtain ⟨hk6, h⟩ := h
  refine sg_pfI (pc := 67) (J := 9) dX7_init_67 fl_7_50 rfl (Or.inl rfl) hk6 ?_
  refine Wp.nameM (fun m15 em15 => ?_)
  replace h := h m15 em15
  refine st_aload_n (pc := 70) dX7_init_70 rfl rfl ?_
  refine sg_sipush (pc := 71) dX7_init_71 (by omega) (by decide) ?_
  obtain ⟨h0, h1, h2, h3, h4, h⟩ := h
  refine st_newI (pc := 74) dX7_init_74 h0 h1 h2 h3 h4 ?_
  refine Wp.nameM (fun m16 em16 => ?_)
  replace h := h m16 em16
  obtain ⟨hk7, h⟩ := h
  refine sg_pfR (pc := 76) (J := 10) dX7_init_76 fl_7_53 rfl (Or.inr ⟨rfl, rfl⟩) hk7 ?_
  refine Wp.nameM (fun m17 em17 => ?_)
  replace h := h m17 em17
  refine st_aload_n (pc := 79) dX7_init_79 rfl rfl ?_
  refine sg_sipush (pc := 80) dX7_init_80 (by omega) (by decide) ?_
  obtain ⟨h0, h1, h2, h3, h4, h⟩ := h
  refine st_newI (pc := 83) dX7_init_83 h0 h1 h2 h3 h4 ?_
  refine Wp.nameM (fun m18 em18 => ?_)
  replace h := h m18 em18
  obtain ⟨hk8, h⟩ := h
  refine sg_pfR (pc := 85) (J := 11) dX7_init_85 fl_7_56 rfl (Or.inr ⟨rfl, rfl⟩) hk8 ?_
  refine Wp.nameM (fun m19 em19 => ?_)
  replace h := h m19 em19
  exact st_return (pc := 88) dX7_init_88 rfl h

theorem sg_X7_begin_0 {d bc bs : Nat} {a0 : Nat} {a1 : Int} {μ : Mem} {Q : Option (Option AV) → Mem → Prop}
    (h : mK μ a0 = 8 ∧ (mK μ (mR μ a0 2) = 6 ∧ ∃ (mc1 ms1 : Nat) (K1 : Mem → Prop), Cl d mc1 ms1 mX5_freshen [vr (mR μ a0 2), vr (mR μ a0 0)] μ (KV K1) ∧ mc1 ≤ bc ∧ ms1 ≤ bs ∧ (∀ m1, K1 m1 → mK m1 a0 = 8 ∧ (mK m1 (mR m1 a0 2) = 6 ∧ (∀ m2, m2 = sD m1 (mR m1 a0 2) 1 a1 → (∀ m3, m3 = sD m2 a0 3 0 → (∀ m4, m4 = sD m3 a0 4 0 → (∀ m5, m5 = sD m4 a0 5 (-1) → (∀ m6, m6 = sD m5 a0 6 0 → (∀ m7, m7 = sD m6 a0 7 0 → (∀ m8, m8 = sD m7 a0 9 0 → Q (some none) m8))))))))))) :
    Wp (d + 1) bc bs mX7_begin 0 [some (vr a0), some (vi a1)] [] μ Q := by
  refine st_aload_n (pc := 0) dX7_begin_0 rfl rfl ?_
  obtain ⟨hk1, h⟩ := h
  refine sg_gfR (pc := 1) (J := 2) dX7_begin_1 fl_7_25 rfl hk1 ?_
  refine st_aload_n (pc := 4) dX7_begin_4 rfl rfl ?_
  refine sg_gfR (pc := 5) (J := 0) dX7_begin_5 fl_7_12 rfl hk1 ?_
  obtain ⟨hk2, h⟩ := h
  obtain ⟨mc1, ms1, K1, hC, e1, e2, h⟩ := h
  refine sg_VV (pc := 8) (av := [vr (mR μ a0 0)]) (st := []) (K := K1) dX7_begin_8 ck_7_59 rfl (by decide) hk2 (by show (0 : Nat) ≤ 8; decide) hC e1 e2 (fun m1 hK => ?_) rfl
  replace h := h m1 hK
  refine st_aload_n (pc := 11) dX7_begin_11 rfl rfl ?_
  obtain ⟨hk3, h⟩ := h
  refine sg_gfR (pc := 12) (J := 2) dX7_begin_12 fl_7_25 rfl hk3 ?_
  refine st_iload_n (pc := 15) dX7_begin_15 rfl rfl ?_
  obtain ⟨hk4, h⟩ := h
  refine sg_pfI (pc := 16) (J := 1) dX7_begin_16 fl_7_63 rfl (Or.inl rfl) hk4 ?_
  refine Wp.nameM (fun m2 em2 => ?_)
  replace h := h m2 em2
  refine st_aload_n (pc := 19) dX7_begin_19 rfl rfl ?_
  refine sg_iconst (pc := 20) dX7_begin_20 (by omega) ?_
  refine sg_pfZ (pc := 21) (J := 3) dX7_begin_21 fl_7_29 rfl (Or.inl rfl) (by omega) (by cases em2; exact hk3) ?_
  refine Wp.nameM (fun m3 em3 => ?_)
  replace h := h m3 em3
  refine st_aload_n (pc := 24) dX7_begin_24 rfl rfl ?_
  refine sg_iconst (pc := 25) dX7_begin_25 (by omega) ?_
  refine sg_pfI (pc := 26) (J := 4) dX7_begin_26 fl_7_33 rfl (Or.inl rfl) (by cases em3; cases em2; exact hk3) ?_
  refine Wp.nameM (fun m4 em4 => ?_)
  replace h := h m4 em4
  refine st_aload_n (pc := 29) dX7_begin_29 rfl rfl ?_
  refine sg_iconst (pc := 30) dX7_begin_30 (by omega) ?_
  refine sg_pfI (pc := 31) (J := 5) dX7_begin_31 fl_7_37 rfl (Or.inl rfl) (by cases em4; cases em3; cases em2; exact hk3) ?_
  refine Wp.nameM (fun m5 em5 => ?_)
  replace h := h m5 em5
  refine st_aload_n (pc := 34) dX7_begin_34 rfl rfl ?_
  refine sg_iconst (pc := 35) dX7_begin_35 (by omega) ?_
  refine sg_pfI (pc := 36) (J := 6) dX7_begin_36 fl_7_40 rfl (Or.inl rfl) (by cases em5; cases em4; cases em3; cases em2; exact hk3) ?_
  refine Wp.nameM (fun m6 em6 => ?_)
  replace h := h m6 em6
  refine st_aload_n (pc := 39) dX7_begin_39 rfl rfl ?_
  refine sg_iconst (pc := 40) dX7_begin_40 (by omega) ?_
  refine sg_pfI (pc := 41) (J := 7) dX7_begin_41 fl_7_43 rfl (Or.inl rfl) (by cases em6; cases em5; cases em4; cases em3; cases em2; exact hk3) ?_
  refine Wp.nameM (fun m7 em7 => ?_)
  replace h := h m7 em7
  refine st_aload_n (pc := 44) dX7_begin_44 rfl rfl ?_
  refine sg_iconst (pc := 45) dX7_begin_45 (by omega) ?_
  refine sg_pfI (pc := 46) (J := 9) dX7_begin_46 fl_7_50 rfl (Or.inl rfl) (by cases em7; cases em6; cases em5; cases em4; cases em3; cases em2; exact hk3) ?_
  refine Wp.nameM (fun m8 em8 => ?_)
  replace h := h m8 em8
  exact st_return (pc := 49) dX7_begin_49 rfl h

theorem sg_X7_note_0 {d bc bs : Nat} {a0 : Nat} {a1 : Int} {μ : Mem} {Q : Option (Option AV) → Mem → Prop}
    (h : mK μ a0 = 8 ∧ ((∀ m1, m1 = sD μ a0 4 (w32 ((mD μ a0 4) + a1)) → (a1 ≤ 0 → Wp (d + 1) bc bs mX7_note 35 [some (vr a0), some (vi a1), none] [] m1 Q) ∧ (¬ a1 ≤ 0 → (¬ (mD m1 a0 5) = (-1) → Wp (d + 1) bc bs mX7_note 35 [some (vr a0), some (vi a1), none] [] m1 Q) ∧ ((mD m1 a0 5) = (-1) → mK m1 (mR m1 a0 2) = 6 ∧ ((∀ m2, m2 = sD m1 a0 5 (w32 ((mD m1 (mR m1 a0 2) 0) - 1)) → Wp (d + 1) bc bs mX7_note 35 [some (vr a0), some (vi a1), none] [] m2 Q))))))) :
    Wp (d + 1) bc bs mX7_note 0 [some (vr a0), some (vi a1), none] [] μ Q := by
  refine st_aload_n (pc := 0) dX7_note_0 rfl rfl ?_
  refine st_dup (pc := 1) dX7_note_1 rfl ?_
  obtain ⟨hk1, h⟩ := h
  refine sg_gfI (pc := 2) (J := 4) dX7_note_2 fl_7_33 (by decide) rfl hk1 ?_
  refine st_iload_n (pc := 5) dX7_note_5 rfl rfl ?_
  refine st_iadd (pc := 6) dX7_note_6 ?_
  refine sg_pfI (pc := 7) (J := 4) dX7_note_7 fl_7_33 rfl (Or.inl rfl) hk1 ?_
  refine Wp.nameM (fun m1 em1 => ?_)
  replace h := h m1 em1
  refine st_iload_n (pc := 10) dX7_note_10 rfl rfl ?_
  refine st_ifle (pc := 11) (tgt := 35) dX7_note_11 rfl (fun c => ?_) (fun c => ?_)
  · replace h := h.1 c
    exact h
  · replace h := h.2 c
    refine st_aload_n (pc := 14) dX7_note_14 rfl rfl ?_
    refine sg_gfI (pc := 15) (J := 5) dX7_note_15 fl_7_37 (by decide) rfl (by cases em1; exact hk1) ?_
    refine sg_iconst (pc := 18) dX7_note_18 (by omega) ?_
    refine st_icmpne (pc := 19) (tgt := 35) dX7_note_19 rfl (fun c => ?_) (fun c => ?_)
    · replace h := h.1 c
      exact h
    · replace h := h.2 c
      refine st_aload_n (pc := 22) dX7_note_22 rfl rfl ?_
      refine st_aload_n (pc := 23) dX7_note_23 rfl rfl ?_
      refine sg_gfR (pc := 24) (J := 2) dX7_note_24 fl_7_25 rfl (by cases em1; exact hk1) ?_
      obtain ⟨hk2, h⟩ := h
      refine sg_gfI (pc := 27) (J := 0) dX7_note_27 fl_7_99 (by decide) rfl hk2 ?_
      refine sg_iconst (pc := 30) dX7_note_30 (by omega) ?_
      refine st_isub (pc := 31) dX7_note_31 ?_
      refine sg_pfI (pc := 32) (J := 5) dX7_note_32 fl_7_37 rfl (Or.inl rfl) (by cases em1; exact hk1) ?_
      refine Wp.nameM (fun m2 em2 => ?_)
      replace h := h m2 em2
      exact h

theorem sg_X7_note_35 {d bc bs : Nat} {a0 : Nat} {a1 : Int} {μ : Mem} {Q : Option (Option AV) → Mem → Prop}
    (h : (a1 ≤ 0 → Wp (d + 1) bc bs mX7_note 79 [some (vr a0), some (vi a1), none] [] μ Q) ∧ (¬ a1 ≤ 0 → mK μ a0 = 8 ∧ (((20 ≤ mK μ (mR μ a0 8) ∧ mK μ (mR μ a0 8) ≤ 28) ∨ ((mR μ a0 8) ≠ 0 ∧ mK μ (mR μ a0 8) = 40)) ∧ (((mN μ (mR μ a0 8) : Int) ≤ (mD μ a0 9) → Wp (d + 1) bc bs mX7_note 79 [some (vr a0), some (vi a1), none] [] μ Q) ∧ (¬ (mN μ (mR μ a0 8) : Int) ≤ (mD μ a0 9) → mK μ (mR μ a0 2) = 6 ∧ (mK μ (mR μ a0 8) = 20 ∧ ((0 : Int) ≤ (mD μ a0 9) ∧ (mD μ a0 9) < (mN μ (mR μ a0 8) : Int)) ∧ (∀ m1, m1 = sD μ (mR μ a0 8) (mD μ a0 9) (w32 ((mD μ (mR μ a0 2) 0) - 1)) → (∀ m2, m2 = sD m1 a0 9 (w32 ((mD m1 a0 9) + 1)) → Wp (d + 1) bc bs mX7_note 79 [some (vr a0), some (vi a1), none] [] m2 Q)))))))) :
    Wp (d + 1) bc bs mX7_note 35 [some (vr a0), some (vi a1), none] [] μ Q := by
  refine st_iload_n (pc := 35) dX7_note_35 rfl rfl ?_
  refine st_ifle (pc := 36) (tgt := 79) dX7_note_36 rfl (fun c => ?_) (fun c => ?_)
  · replace h := h.1 c
    exact h
  · replace h := h.2 c
    refine st_aload_n (pc := 39) dX7_note_39 rfl rfl ?_
    obtain ⟨hk1, h⟩ := h
    refine sg_gfI (pc := 40) (J := 9) dX7_note_40 fl_7_50 (by decide) rfl hk1 ?_
    refine st_aload_n (pc := 43) dX7_note_43 rfl rfl ?_
    refine sg_gfR (pc := 44) (J := 8) dX7_note_44 fl_7_46 rfl hk1 ?_
    obtain ⟨hk2, h⟩ := h
    refine sg_alen (pc := 47) dX7_note_47 hk2 ?_
    refine st_icmpge (pc := 48) (tgt := 79) dX7_note_48 rfl (fun c => ?_) (fun c => ?_)
    · replace h := h.1 c
      exact h
    · replace h := h.2 c
      refine st_aload_n (pc := 51) dX7_note_51 rfl rfl ?_
      refine sg_gfR (pc := 52) (J := 8) dX7_note_52 fl_7_46 rfl hk1 ?_
      refine st_aload_n (pc := 55) dX7_note_55 rfl rfl ?_
      refine sg_gfI (pc := 56) (J := 9) dX7_note_56 fl_7_50 (by decide) rfl hk1 ?_
      refine st_aload_n (pc := 59) dX7_note_59 rfl rfl ?_
      refine sg_gfR (pc := 60) (J := 2) dX7_note_60 fl_7_25 rfl hk1 ?_
      obtain ⟨hk3, h⟩ := h
      refine sg_gfI (pc := 63) (J := 0) dX7_note_63 fl_7_99 (by decide) rfl hk3 ?_
      refine sg_iconst (pc := 66) dX7_note_66 (by omega) ?_
      refine st_isub (pc := 67) dX7_note_67 ?_
      obtain ⟨hk4, h⟩ := h
      obtain ⟨h1, h⟩ := h
      refine st_iastore (pc := 68) dX7_note_68 hk4 h1.1 h1.2 ?_
      refine Wp.nameM (fun m1 em1 => ?_)
      replace h := h m1 em1
      refine st_aload_n (pc := 69) dX7_note_69 rfl rfl ?_
      refine st_dup (pc := 70) dX7_note_70 rfl ?_
      refine sg_gfI (pc := 71) (J := 9) dX7_note_71 fl_7_50 (by decide) rfl (by cases em1; exact hk1) ?_
      refine sg_iconst (pc := 74) dX7_note_74 (by omega) ?_
      refine st_iadd (pc := 75) dX7_note_75 ?_
      refine sg_pfI (pc := 76) (J := 9) dX7_note_76 fl_7_50 rfl (Or.inl rfl) (by cases em1; exact hk1) ?_
      refine Wp.nameM (fun m2 em2 => ?_)
      replace h := h m2 em2
      exact h

theorem sg_X7_note_79 {d bc bs : Nat} {a0 : Nat} {a1 : Int} {μ : Mem} {Q : Option (Option AV) → Mem → Prop}
    (h : mK μ a0 = 8 ∧ (mK μ (mR μ a0 2) = 6 ∧ (mK μ (mR μ (mR μ a0 2) 2) = 5 ∧ ∃ (mc1 ms1 : Nat) (K1 : Int → Mem → Prop), Cl d mc1 ms1 mX4_higherEnd [vr (mR μ (mR μ a0 2) 2), vr (mR μ a0 0)] μ (KI K1) ∧ mc1 ≤ bc ∧ ms1 ≤ bs ∧ (∀ x1 m1, K1 x1 m1 → mK m1 a0 = 8 ∧ (mK m1 (mR m1 a0 2) = 6 ∧ (mK m1 (mR m1 (mR m1 a0 2) 3) = 5 ∧ ∃ (mc2 ms2 : Nat) (K2 : Int → Mem → Prop), Cl d mc2 ms2 mX4_higherEnd [vr (mR m1 (mR m1 a0 2) 3), vr (mR m1 a0 0)] m1 (KI K2) ∧ mc2 ≤ bc - mc1 ∧ ms2 ≤ bs - ms1 ∧ (∀ x2 m2, K2 x2 m2 → ∃ (mc3 ms3 : Nat) (K3 : Int → Mem → Prop), Cl d mc3 ms3 mJ9_max_7cf53 [vi x1, vi x2] m2 (KI K3) ∧ mc3 ≤ bc - mc1 - mc2 ∧ ms3 ≤ bs - ms1 - ms2 ∧ (∀ x3 m3, K3 x3 m3 → mK m3 a0 = 8 ∧ (∃ (mc4 ms4 : Nat) (K4 : Int → Mem → Prop), Cl d mc4 ms4 mJ9_max_7cf53 [vi (mD m3 a0 6), vi x3] m3 (KI K4) ∧ mc4 ≤ bc - mc1 - mc2 - mc3 ∧ ms4 ≤ bs - ms1 - ms2 - ms3 ∧ (∀ x4 m4, K4 x4 m4 → mK m4 a0 = 8 ∧ (∀ m5, m5 = sD m4 a0 6 x4 → mK m5 (mR m5 a0 2) = 6 ∧ (mK m5 (mR m5 (mR m5 a0 2) 2) = 5 ∧ ∃ (mc5 ms5 : Nat) (K5 : Int → Mem → Prop), Cl d mc5 ms5 mX4_slope [vr (mR m5 (mR m5 a0 2) 2), vr (mR m5 a0 0)] m5 (KI K5) ∧ mc5 ≤ bc - mc1 - mc2 - mc3 - mc4 ∧ ms5 ≤ bs - ms1 - ms2 - ms3 - ms4 ∧ (∀ x5 m6, K5 x5 m6 → ∃ (mc6 ms6 : Nat) (K6 : Int → Mem → Prop), Cl d mc6 ms6 mJ9_abs_0f7a4 [vi x5] m6 (KI K6) ∧ mc6 ≤ bc - mc1 - mc2 - mc3 - mc4 - mc5 ∧ ms6 ≤ bs - ms1 - ms2 - ms3 - ms4 - ms5 ∧ (∀ x6 m7, K6 x6 m7 → ∃ (mc7 ms7 : Nat) (K7 : Int → Mem → Prop), Cl d mc7 ms7 mJ9_max_7cf53 [vi (mD m5 a0 7), vi x6] m7 (KI K7) ∧ mc7 ≤ bc - mc1 - mc2 - mc3 - mc4 - mc5 - mc6 ∧ ms7 ≤ bs - ms1 - ms2 - ms3 - ms4 - ms5 - ms6 ∧ (∀ x7 m8, K7 x7 m8 → mK m8 a0 = 8 ∧ (∀ m9, m9 = sD m8 a0 7 x7 → Q (some none) m9)))))))))))))))) :
    Wp (d + 1) bc bs mX7_note 79 [some (vr a0), some (vi a1), none] [] μ Q := by
  refine st_aload_n (pc := 79) dX7_note_79 rfl rfl ?_
  obtain ⟨hk1, h⟩ := h
  refine sg_gfR (pc := 80) (J := 2) dX7_note_80 fl_7_25 rfl hk1 ?_
  obtain ⟨hk2, h⟩ := h
  refine sg_gfR (pc := 83) (J := 2) dX7_note_83 fl_7_102 rfl hk2 ?_
  refine st_aload_n (pc := 86) dX7_note_86 rfl rfl ?_
  refine sg_gfR (pc := 87) (J := 0) dX7_note_87 fl_7_12 rfl hk1 ?_
  obtain ⟨hk3, h⟩ := h
  obtain ⟨mc1, ms1, K1, hC, e1, e2, h⟩ := h
  refine sg_VI (pc := 90) (av := [vr (mR μ a0 0)]) (st := []) (K := K1) dX7_note_90 ck_7_106 rfl (by decide) hk3 (by show (0 : Nat) ≤ 8; decide) hC e1 e2 (fun x1 m1 hK => ?_) rfl
  replace h := h x1 m1 hK
  refine st_aload_n (pc := 93) dX7_note_93 rfl rfl ?_
  obtain ⟨hk4, h⟩ := h
  refine sg_gfR (pc := 94) (J := 2) dX7_note_94 fl_7_25 rfl hk4 ?_
  obtain ⟨hk5, h⟩ := h
  refine sg_gfR (pc := 97) (J := 3) dX7_note_97 fl_7_112 rfl hk5 ?_
  refine st_aload_n (pc := 100) dX7_note_100 rfl rfl ?_
  refine sg_gfR (pc := 101) (J := 0) dX7_note_101 fl_7_12 rfl hk4 ?_
  obtain ⟨hk6, h⟩ := h
  obtain ⟨mc2, ms2, K2, hC, e1, e2, h⟩ := h
  refine sg_VI (pc := 104) (av := [vr (mR m1 a0 0)]) (st := [vi x1]) (K := K2) dX7_note_104 ck_7_106 rfl (by decide) hk6 (by show (1 : Nat) ≤ 8; decide) hC e1 e2 (fun x2 m2 hK => ?_) rfl
  replace h := h x2 m2 hK
  obtain ⟨mc3, ms3, K3, hC, e1, e2, h⟩ := h
  refine sg_SI (pc := 107) (av := [vi x1, vi x2]) (st := []) (K := K3) dX7_note_107 ck_7_92 rfl (by show (0 : Nat) ≤ 8; decide) hC e1 e2 (fun x3 m3 hK => ?_) rfl
  replace h := h x3 m3 hK
  refine sg_istore_n (pc := 110) (ls' := [some (vr a0), some (vi a1), some (vi x3)]) dX7_note_110 rfl (by show (2 : Nat) < 3; decide) rfl ?_
  refine st_aload_n (pc := 111) dX7_note_111 rfl rfl ?_
  refine st_aload_n (pc := 112) dX7_note_112 rfl rfl ?_
  obtain ⟨hk7, h⟩ := h
  refine sg_gfI (pc := 113) (J := 6) dX7_note_113 fl_7_40 (by decide) rfl hk7 ?_
  refine st_iload_n (pc := 116) dX7_note_116 rfl rfl ?_
  obtain ⟨mc4, ms4, K4, hC, e1, e2, h⟩ := h
  refine sg_SI (pc := 117) (av := [vi (mD m3 a0 6), vi x3]) (st := [vr a0]) (K := K4) dX7_note_117 ck_7_92 rfl (by show (1 : Nat) ≤ 8; decide) hC e1 e2 (fun x4 m4 hK => ?_) rfl
  replace h := h x4 m4 hK
  obtain ⟨hk8, h⟩ := h
  refine sg_pfI (pc := 120) (J := 6) dX7_note_120 fl_7_40 rfl (Or.inl rfl) hk8 ?_
  refine Wp.nameM (fun m5 em5 => ?_)
  replace h := h m5 em5
  refine st_aload_n (pc := 123) dX7_note_123 rfl rfl ?_
  refine st_aload_n (pc := 124) dX7_note_124 rfl rfl ?_
  refine sg_gfI (pc := 125) (J := 7) dX7_note_125 fl_7_43 (by decide) rfl (by cases em5; exact hk8) ?_
  refine st_aload_n (pc := 128) dX7_note_128 rfl rfl ?_
  refine sg_gfR (pc := 129) (J := 2) dX7_note_129 fl_7_25 rfl (by cases em5; exact hk8) ?_
  obtain ⟨hk9, h⟩ := h
  refine sg_gfR (pc := 132) (J := 2) dX7_note_132 fl_7_102 rfl hk9 ?_
  refine st_aload_n (pc := 135) dX7_note_135 rfl rfl ?_
  refine sg_gfR (pc := 136) (J := 0) dX7_note_136 fl_7_12 rfl (by cases em5; exact hk8) ?_
  obtain ⟨hk10, h⟩ := h
  obtain ⟨mc5, ms5, K5, hC, e1, e2, h⟩ := h
  refine sg_VI (pc := 139) (av := [vr (mR m5 a0 0)]) (st := [vi (mD m5 a0 7), vr a0]) (K := K5) dX7_note_139 ck_7_115 rfl (by decide) hk10 (by show (2 : Nat) ≤ 8; decide) hC e1 e2 (fun x5 m6 hK => ?_) rfl
  replace h := h x5 m6 hK
  obtain ⟨mc6, ms6, K6, hC, e1, e2, h⟩ := h
  refine sg_SI (pc := 142) (av := [vi x5]) (st := [vi (mD m5 a0 7), vr a0]) (K := K6) dX7_note_142 ck_7_118 rfl (by show (2 : Nat) ≤ 8; decide) hC e1 e2 (fun x6 m7 hK => ?_) rfl
  replace h := h x6 m7 hK
  obtain ⟨mc7, ms7, K7, hC, e1, e2, h⟩ := h
  refine sg_SI (pc := 145) (av := [vi (mD m5 a0 7), vi x6]) (st := [vr a0]) (K := K7) dX7_note_145 ck_7_92 rfl (by show (1 : Nat) ≤ 8; decide) hC e1 e2 (fun x7 m8 hK => ?_) rfl
  replace h := h x7 m8 hK
  obtain ⟨hk11, h⟩ := h
  refine sg_pfI (pc := 148) (J := 7) dX7_note_148 fl_7_43 rfl (Or.inl rfl) hk11 ?_
  refine Wp.nameM (fun m9 em9 => ?_)
  replace h := h m9 em9
  exact st_return (pc := 151) dX7_note_151 rfl h

theorem sg_X7_through_0 {d bc bs : Nat} {a0 : Nat} {a1 : Nat} {a2 : Int} {a3 : Int} {a4 : Int} {μ : Mem} {Q : Option (Option AV) → Mem → Prop}
    (h : mK μ a1 = 9 ∧ (∃ (mc1 ms1 : Nat) (K1 : Int → Mem → Prop), Cl d mc1 ms1 mJ9_min_7cf53 [vi a3, vi (mD μ a1 4)] μ (KI K1) ∧ mc1 ≤ bc ∧ ms1 ≤ bs ∧ (∀ x1 m1, K1 x1 m1 → ∃ (mc2 ms2 : Nat) (K2 : Int → Mem → Prop), Cl d mc2 ms2 mJ9_max_7cf53 [vi 0, vi a2] m1 (KI K2) ∧ mc2 ≤ bc - mc1 ∧ ms2 ≤ bs - ms1 ∧ (∀ x2 m2, K2 x2 m2 → Wp (d + 1) (bc - mc1 - mc2) (bs - ms1 - ms2) mX7_through 17 [some (vr a0), some (vr a1), some (vi a2), some (vi a3), some (vi a4), some (vi x1), some (vi x2)] [] m2 Q)))) :
    Wp (d + 1) bc bs mX7_through 0 [some (vr a0), some (vr a1), some (vi a2), some (vi a3), some (vi a4), none, none] [] μ Q := by
  refine st_iload_n (pc := 0) dX7_through_0 rfl rfl ?_
  refine st_aload_n (pc := 1) dX7_through_1 rfl rfl ?_
  obtain ⟨hk1, h⟩ := h
  refine sg_gfI (pc := 2) (J := 4) dX7_through_2 fl_7_70 (by decide) rfl hk1 ?_
  obtain ⟨mc1, ms1, K1, hC, e1, e2, h⟩ := h
  refine sg_SI (pc := 5) (av := [vi a3, vi (mD μ a1 4)]) (st := []) (K := K1) dX7_through_5 ck_7_86 rfl (by show (0 : Nat) ≤ 8; decide) hC e1 e2 (fun x1 m1 hK => ?_) rfl
  replace h := h x1 m1 hK
  refine sg_istore (pc := 8) (ls' := [some (vr a0), some (vr a1), some (vi a2), some (vi a3), some (vi a4), some (vi x1), none]) dX7_through_8 (by show (5 : Nat) < 7; decide) rfl ?_
  refine sg_iconst (pc := 10) dX7_through_10 (by omega) ?_
  refine st_iload_n (pc := 11) dX7_through_11 rfl rfl ?_
  obtain ⟨mc2, ms2, K2, hC, e1, e2, h⟩ := h
  refine sg_SI (pc := 12) (av := [vi 0, vi a2]) (st := []) (K := K2) dX7_through_12 ck_7_92 rfl (by show (0 : Nat) ≤ 8; decide) hC e1 e2 (fun x2 m2 hK => ?_) rfl
  replace h := h x2 m2 hK
  refine sg_istore (pc := 15) (ls' := [some (vr a0), some (vr a1), some (vi a2), some (vi a3), some (vi a4), some (vi x1), some (vi x2)]) dX7_through_15 (by show (6 : Nat) < 7; decide) rfl ?_
  exact h

theorem sg_X7_through_17 {d bc bs : Nat} {a0 : Nat} {a1 : Nat} {a2 : Int} {a3 : Int} {a4 : Int} {a5 : Int} {a6 : Int} {μ : Mem} {Q : Option (Option AV) → Mem → Prop}
    (h : (a5 ≤ a6 → Q (some none) μ) ∧ (¬ a5 ≤ a6 → mK μ a0 = 8 ∧ (mK μ (mR μ a0 2) = 6 ∧ ∃ (mc1 ms1 : Nat) (K1 : Int → Mem → Prop), Cl d mc1 ms1 mX5_carry [vr (mR μ a0 2), vr (mR μ a0 0), vr (mR μ a0 1), vr a1, vi a6, vi a4] μ (KI K1) ∧ mc1 ≤ bc ∧ ms1 ≤ bs ∧ (∀ x1 m1, K1 x1 m1 → mK m1 a0 = 8 ∧ ∃ (mc2 ms2 : Nat) (K2 : Mem → Prop), Cl d mc2 ms2 mX7_note [vr a0, vi x1] m1 (KV K2) ∧ mc2 ≤ bc - mc1 ∧ ms2 ≤ bs - ms1 ∧ (∀ m2, K2 m2 → mK m2 a0 = 8 ∧ (((mD m2 a0 3) = 0 → ∀ v1, v1 = w32 (a6 + 1) → Wp (d + 1) (bc - mc1 - mc2) (bs - ms1 - ms2) mX7_through 17 [some (vr a0), some (vr a1), some (vi a2), some (vi a3), some (vi a4), some (vi a5), some (vi v1)] [] m2 Q) ∧ (¬ (mD m2 a0 3) = 0 → ((mD m2 a0 4) ≤ 0 → ∀ v2, v2 = w32 (a6 + 1) → Wp (d + 1) (bc - mc1 - mc2) (bs - ms1 - ms2) mX7_through 17 [some (vr a0), some (vr a1), some (vi a2), some (vi a3), some (vi a4), some (vi a5), some (vi v2)] [] m2 Q) ∧ (¬ (mD m2 a0 4) ≤ 0 → Q (some none) m2)))))))) :
    Wp (d + 1) bc bs mX7_through 17 [some (vr a0), some (vr a1), some (vi a2), some (vi a3), some (vi a4), some (vi a5), some (vi a6)] [] μ Q := by
  refine st_iload (pc := 17) dX7_through_17 rfl ?_
  refine st_iload (pc := 19) dX7_through_19 rfl ?_
  refine st_icmpge (pc := 21) (tgt := 69) dX7_through_21 rfl (fun c => ?_) (fun c => ?_)
  · replace h := h.1 c
    exact st_return (pc := 69) dX7_through_69 rfl h
  · replace h := h.2 c
    refine st_aload_n (pc := 24) dX7_through_24 rfl rfl ?_
    refine st_aload_n (pc := 25) dX7_through_25 rfl rfl ?_
    obtain ⟨hk1, h⟩ := h
    refine sg_gfR (pc := 26) (J := 2) dX7_through_26 fl_7_25 rfl hk1 ?_
    refine st_aload_n (pc := 29) dX7_through_29 rfl rfl ?_
    refine sg_gfR (pc := 30) (J := 0) dX7_through_30 fl_7_12 rfl hk1 ?_
    refine st_aload_n (pc := 33) dX7_through_33 rfl rfl ?_
    refine sg_gfR (pc := 34) (J := 1) dX7_through_34 fl_7_18 rfl hk1 ?_
    refine st_aload_n (pc := 37) dX7_through_37 rfl rfl ?_
    refine st_iload (pc := 38) dX7_through_38 rfl ?_
    refine st_iload (pc := 40) dX7_through_40 rfl ?_
    obtain ⟨hk2, h⟩ := h
    obtain ⟨mc1, ms1, K1, hC, e1, e2, h⟩ := h
    refine sg_VI (pc := 42) (av := [vr (mR μ a0 0), vr (mR μ a0 1), vr a1, vi a6, vi a4]) (st := [vr a0]) (K := K1) dX7_through_42 ck_7_95 rfl (by decide) hk2 (by show (1 : Nat) ≤ 8; decide) hC e1 e2 (fun x1 m1 hK => ?_) rfl
    replace h := h x1 m1 hK
    obtain ⟨hk3, h⟩ := h
    obtain ⟨mc2, ms2, K2, hC, e1, e2, h⟩ := h
    refine sg_VV (pc := 45) (av := [vi x1]) (st := []) (K := K2) dX7_through_45 ck_7_83 rfl (by decide) hk3 (by show (0 : Nat) ≤ 8; decide) hC e1 e2 (fun m2 hK => ?_) rfl
    replace h := h m2 hK
    refine st_aload_n (pc := 48) dX7_through_48 rfl rfl ?_
    obtain ⟨hk4, h⟩ := h
    refine sg_gfI (pc := 49) (J := 3) dX7_through_49 fl_7_29 (by decide) rfl hk4 ?_
    refine st_ifeq (pc := 52) (tgt := 63) dX7_through_52 rfl (fun c => ?_) (fun c => ?_)
    · replace h := h.1 c
      refine sg_iinc (pc := 63) (ls' := [some (vr a0), some (vr a1), some (vi a2), some (vi a3), some (vi a4), some (vi a5), some (vi (w32 (a6 + 1)))]) dX7_through_63 rfl rfl ?_
      refine Wp.nameL (ls2 := fun v => [some (vr a0), some (vr a1), some (vi a2), some (vi a3), some (vi a4), some (vi a5), some (vi v)]) 6 _ rfl (fun _ => rfl) (fun v1 ev1 => ?_)
      replace h := h v1 ev1
      refine st_goto (pc := 66) dX7_through_66 rfl ?_
      exact h
    · replace h := h.2 c
      refine st_aload_n (pc := 55) dX7_through_55 rfl rfl ?_
      refine sg_gfI (pc := 56) (J := 4) dX7_through_56 fl_7_33 (by decide) rfl hk4 ?_
      refine st_ifle (pc := 59) (tgt := 63) dX7_through_59 rfl (fun c => ?_) (fun c => ?_)
      · replace h := h.1 c
        refine sg_iinc (pc := 63) (ls' := [some (vr a0), some (vr a1), some (vi a2), some (vi a3), some (vi a4), some (vi a5), some (vi (w32 (a6 + 1)))]) dX7_through_63 rfl rfl ?_
        refine Wp.nameL (ls2 := fun v => [some (vr a0), some (vr a1), some (vi a2), some (vi a3), some (vi a4), some (vi a5), some (vi v)]) 6 _ rfl (fun _ => rfl) (fun v2 ev2 => ?_)
        replace h := h v2 ev2
        refine st_goto (pc := 66) dX7_through_66 rfl ?_
        exact h
      · replace h := h.2 c
        exact st_return (pc := 62) dX7_through_62 rfl h

theorem sg_X7_spiltOn_0 {d bc bs : Nat} {a0 : Nat} {a1 : Nat} {a2 : Int} {μ : Mem} {Q : Option (Option AV) → Mem → Prop}
    (h : mK μ a0 = 8 ∧ ∃ (mc1 ms1 : Nat) (K1 : Mem → Prop), Cl d mc1 ms1 mX7_begin [vr a0, vi a2] μ (KV K1) ∧ mc1 ≤ bc ∧ ms1 ≤ bs ∧ (∀ m1, K1 m1 → mK m1 a1 = 9 ∧ (mK m1 a0 = 8 ∧ ∃ (mc2 ms2 : Nat) (K2 : Mem → Prop), Cl d mc2 ms2 mX7_through [vr a0, vr a1, vi 0, vi (mD m1 a1 4), vi 0] m1 (KV K2) ∧ mc2 ≤ bc - mc1 ∧ ms2 ≤ bs - ms1 ∧ (∀ m2, K2 m2 → mK m2 a0 = 8 ∧ (Q (some (some (vi (mD m2 a0 4)))) m2))))) :
    Wp (d + 1) bc bs mX7_spiltOn 0 [some (vr a0), some (vr a1), some (vi a2)] [] μ Q := by
  refine st_aload_n (pc := 0) dX7_spiltOn_0 rfl rfl ?_
  refine st_iload_n (pc := 1) dX7_spiltOn_1 rfl rfl ?_
  obtain ⟨hk1, h⟩ := h
  obtain ⟨mc1, ms1, K1, hC, e1, e2, h⟩ := h
  refine sg_VV (pc := 2) (av := [vi a2]) (st := []) (K := K1) dX7_spiltOn_2 ck_7_66 rfl (by decide) hk1 (by show (0 : Nat) ≤ 8; decide) hC e1 e2 (fun m1 hK => ?_) rfl
  replace h := h m1 hK
  refine st_aload_n (pc := 5) dX7_spiltOn_5 rfl rfl ?_
  refine st_aload_n (pc := 6) dX7_spiltOn_6 rfl rfl ?_
  refine sg_iconst (pc := 7) dX7_spiltOn_7 (by omega) ?_
  refine st_aload_n (pc := 8) dX7_spiltOn_8 rfl rfl ?_
  obtain ⟨hk2, h⟩ := h
  refine sg_gfI (pc := 9) (J := 4) dX7_spiltOn_9 fl_7_70 (by decide) rfl hk2 ?_
  refine sg_iconst (pc := 12) dX7_spiltOn_12 (by omega) ?_
  obtain ⟨hk3, h⟩ := h
  obtain ⟨mc2, ms2, K2, hC, e1, e2, h⟩ := h
  refine sg_VV (pc := 13) (av := [vr a1, vi 0, vi (mD m1 a1 4), vi 0]) (st := []) (K := K2) dX7_spiltOn_13 ck_7_75 rfl (by decide) hk3 (by show (0 : Nat) ≤ 8; decide) hC e1 e2 (fun m2 hK => ?_) rfl
  replace h := h m2 hK
  refine st_aload_n (pc := 16) dX7_spiltOn_16 rfl rfl ?_
  obtain ⟨hk4, h⟩ := h
  refine sg_gfI (pc := 17) (J := 4) dX7_spiltOn_17 fl_7_33 (by decide) rfl hk4 ?_
  exact st_ireturn (pc := 20) dX7_spiltOn_20 (Or.inl rfl) h

theorem sg_X7_keepsAll_0 {d bc bs : Nat} {a0 : Nat} {a1 : Nat} {μ : Mem} {Q : Option (Option AV) → Mem → Prop}
    (h : mK μ a0 = 8 ∧ ∃ (mc1 ms1 : Nat) (K1 : Mem → Prop), Cl d mc1 ms1 mX7_begin [vr a0, vi 1] μ (KV K1) ∧ mc1 ≤ bc ∧ ms1 ≤ bs ∧ (∀ m1, K1 m1 → mK m1 a0 = 8 ∧ (∀ m2, m2 = sD m1 a0 3 1 → mK m2 a1 = 9 ∧ (∃ (mc2 ms2 : Nat) (K2 : Mem → Prop), Cl d mc2 ms2 mX7_through [vr a0, vr a1, vi 0, vi (mD m2 a1 4), vi 0] m2 (KV K2) ∧ mc2 ≤ bc - mc1 ∧ ms2 ≤ bs - ms1 ∧ (∀ m3, K2 m3 → mK m3 a0 = 8 ∧ ((¬ (mD m3 a0 4) = 0 → Q (some (some (vi 0))) m3) ∧ ((mD m3 a0 4) = 0 → Q (some (some (vi 1))) m3))))))) :
    Wp (d + 1) bc bs mX7_keepsAll 0 [some (vr a0), some (vr a1)] [] μ Q := by
  refine st_aload_n (pc := 0) dX7_keepsAll_0 rfl rfl ?_
  refine sg_iconst (pc := 1) dX7_keepsAll_1 (by omega) ?_
  obtain ⟨hk1, h⟩ := h
  obtain ⟨mc1, ms1, K1, hC, e1, e2, h⟩ := h
  refine sg_VV (pc := 2) (av := [vi 1]) (st := []) (K := K1) dX7_keepsAll_2 ck_7_66 rfl (by decide) hk1 (by show (0 : Nat) ≤ 8; decide) hC e1 e2 (fun m1 hK => ?_) rfl
  replace h := h m1 hK
  refine st_aload_n (pc := 5) dX7_keepsAll_5 rfl rfl ?_
  refine sg_iconst (pc := 6) dX7_keepsAll_6 (by omega) ?_
  obtain ⟨hk2, h⟩ := h
  refine sg_pfZ (pc := 7) (J := 3) dX7_keepsAll_7 fl_7_29 rfl (Or.inl rfl) (by omega) hk2 ?_
  refine Wp.nameM (fun m2 em2 => ?_)
  replace h := h m2 em2
  refine st_aload_n (pc := 10) dX7_keepsAll_10 rfl rfl ?_
  refine st_aload_n (pc := 11) dX7_keepsAll_11 rfl rfl ?_
  refine sg_iconst (pc := 12) dX7_keepsAll_12 (by omega) ?_
  refine st_aload_n (pc := 13) dX7_keepsAll_13 rfl rfl ?_
  obtain ⟨hk3, h⟩ := h
  refine sg_gfI (pc := 14) (J := 4) dX7_keepsAll_14 fl_7_70 (by decide) rfl hk3 ?_
  refine sg_iconst (pc := 17) dX7_keepsAll_17 (by omega) ?_
  obtain ⟨mc2, ms2, K2, hC, e1, e2, h⟩ := h
  refine sg_VV (pc := 18) (av := [vr a1, vi 0, vi (mD m2 a1 4), vi 0]) (st := []) (K := K2) dX7_keepsAll_18 ck_7_75 rfl (by decide) (by cases em2; exact hk2) (by show (0 : Nat) ≤ 8; decide) hC e1 e2 (fun m3 hK => ?_) rfl
  replace h := h m3 hK
  refine st_aload_n (pc := 21) dX7_keepsAll_21 rfl rfl ?_
  obtain ⟨hk4, h⟩ := h
  refine sg_gfI (pc := 22) (J := 4) dX7_keepsAll_22 fl_7_33 (by decide) rfl hk4 ?_
  refine st_ifne (pc := 25) (tgt := 32) dX7_keepsAll_25 rfl (fun c => ?_) (fun c => ?_)
  · replace h := h.1 c
    refine sg_iconst (pc := 32) dX7_keepsAll_32 (by omega) ?_
    exact st_ireturn (pc := 33) dX7_keepsAll_33 (Or.inr ⟨rfl, by omega⟩) h
  · replace h := h.2 c
    refine sg_iconst (pc := 28) dX7_keepsAll_28 (by omega) ?_
    refine st_goto (pc := 29) dX7_keepsAll_29 rfl ?_
    exact st_ireturn (pc := 33) dX7_keepsAll_33 (Or.inr ⟨rfl, by omega⟩) h

theorem sg_X7_spiltFrom_0 {d bc bs : Nat} {a0 : Nat} {a1 : Nat} {a2 : Int} {μ : Mem} {Q : Option (Option AV) → Mem → Prop}
    (h : mK μ a0 = 8 ∧ ∃ (mc1 ms1 : Nat) (K1 : Mem → Prop), Cl d mc1 ms1 mX7_begin [vr a0, vi 1] μ (KV K1) ∧ mc1 ≤ bc ∧ ms1 ≤ bs ∧ (∀ m1, K1 m1 → mK m1 a1 = 9 ∧ (mK m1 a0 = 8 ∧ ∃ (mc2 ms2 : Nat) (K2 : Mem → Prop), Cl d mc2 ms2 mX7_through [vr a0, vr a1, vi a2, vi (mD m1 a1 4), vi 0] m1 (KV K2) ∧ mc2 ≤ bc - mc1 ∧ ms2 ≤ bs - ms1 ∧ (∀ m2, K2 m2 → mK m2 a0 = 8 ∧ (Q (some (some (vi (mD m2 a0 4)))) m2))))) :
    Wp (d + 1) bc bs mX7_spiltFrom 0 [some (vr a0), some (vr a1), some (vi a2)] [] μ Q := by
  refine st_aload_n (pc := 0) dX7_spiltFrom_0 rfl rfl ?_
  refine sg_iconst (pc := 1) dX7_spiltFrom_1 (by omega) ?_
  obtain ⟨hk1, h⟩ := h
  obtain ⟨mc1, ms1, K1, hC, e1, e2, h⟩ := h
  refine sg_VV (pc := 2) (av := [vi 1]) (st := []) (K := K1) dX7_spiltFrom_2 ck_7_66 rfl (by decide) hk1 (by show (0 : Nat) ≤ 8; decide) hC e1 e2 (fun m1 hK => ?_) rfl
  replace h := h m1 hK
  refine st_aload_n (pc := 5) dX7_spiltFrom_5 rfl rfl ?_
  refine st_aload_n (pc := 6) dX7_spiltFrom_6 rfl rfl ?_
  refine st_iload_n (pc := 7) dX7_spiltFrom_7 rfl rfl ?_
  refine st_aload_n (pc := 8) dX7_spiltFrom_8 rfl rfl ?_
  obtain ⟨hk2, h⟩ := h
  refine sg_gfI (pc := 9) (J := 4) dX7_spiltFrom_9 fl_7_70 (by decide) rfl hk2 ?_
  refine sg_iconst (pc := 12) dX7_spiltFrom_12 (by omega) ?_
  obtain ⟨hk3, h⟩ := h
  obtain ⟨mc2, ms2, K2, hC, e1, e2, h⟩ := h
  refine sg_VV (pc := 13) (av := [vr a1, vi a2, vi (mD m1 a1 4), vi 0]) (st := []) (K := K2) dX7_spiltFrom_13 ck_7_75 rfl (by decide) hk3 (by show (0 : Nat) ≤ 8; decide) hC e1 e2 (fun m2 hK => ?_) rfl
  replace h := h m2 hK
  refine st_aload_n (pc := 16) dX7_spiltFrom_16 rfl rfl ?_
  obtain ⟨hk4, h⟩ := h
  refine sg_gfI (pc := 17) (J := 4) dX7_spiltFrom_17 fl_7_33 (by decide) rfl hk4 ?_
  exact st_ireturn (pc := 20) dX7_spiltFrom_20 (Or.inl rfl) h

theorem sg_X7_spiltWithTurn_0 {d bc bs : Nat} {a0 : Nat} {a1 : Nat} {a2 : Int} {μ : Mem} {Q : Option (Option AV) → Mem → Prop}
    (h : mK μ a0 = 8 ∧ ∃ (mc1 ms1 : Nat) (K1 : Mem → Prop), Cl d mc1 ms1 mX7_begin [vr a0, vi 1] μ (KV K1) ∧ mc1 ≤ bc ∧ ms1 ≤ bs ∧ (∀ m1, K1 m1 → mK m1 a0 = 8 ∧ ∃ (mc2 ms2 : Nat) (K2 : Mem → Prop), Cl d mc2 ms2 mX7_through [vr a0, vr a1, vi 0, vi a2, vi 0] m1 (KV K2) ∧ mc2 ≤ bc - mc1 ∧ ms2 ≤ bs - ms1 ∧ (∀ m2, K2 m2 → mK m2 a1 = 9 ∧ (mK m2 a0 = 8 ∧ ∃ (mc3 ms3 : Nat) (K3 : Mem → Prop), Cl d mc3 ms3 mX7_through [vr a0, vr a1, vi a2, vi (mD m2 a1 4), vi 1] m2 (KV K3) ∧ mc3 ≤ bc - mc1 - mc2 ∧ ms3 ≤ bs - ms1 - ms2 ∧ (∀ m3, K3 m3 → mK m3 a0 = 8 ∧ (Q (some (some (vi (mD m3 a0 4)))) m3)))))) :
    Wp (d + 1) bc bs mX7_spiltWithTurn 0 [some (vr a0), some (vr a1), some (vi a2)] [] μ Q := by
  refine st_aload_n (pc := 0) dX7_spiltWithTurn_0 rfl rfl ?_
  refine sg_iconst (pc := 1) dX7_spiltWithTurn_1 (by omega) ?_
  obtain ⟨hk1, h⟩ := h
  obtain ⟨mc1, ms1, K1, hC, e1, e2, h⟩ := h
  refine sg_VV (pc := 2) (av := [vi 1]) (st := []) (K := K1) dX7_spiltWithTurn_2 ck_7_66 rfl (by decide) hk1 (by show (0 : Nat) ≤ 8; decide) hC e1 e2 (fun m1 hK => ?_) rfl
  replace h := h m1 hK
  refine st_aload_n (pc := 5) dX7_spiltWithTurn_5 rfl rfl ?_
  refine st_aload_n (pc := 6) dX7_spiltWithTurn_6 rfl rfl ?_
  refine sg_iconst (pc := 7) dX7_spiltWithTurn_7 (by omega) ?_
  refine st_iload_n (pc := 8) dX7_spiltWithTurn_8 rfl rfl ?_
  refine sg_iconst (pc := 9) dX7_spiltWithTurn_9 (by omega) ?_
  obtain ⟨hk2, h⟩ := h
  obtain ⟨mc2, ms2, K2, hC, e1, e2, h⟩ := h
  refine sg_VV (pc := 10) (av := [vr a1, vi 0, vi a2, vi 0]) (st := []) (K := K2) dX7_spiltWithTurn_10 ck_7_75 rfl (by decide) hk2 (by show (0 : Nat) ≤ 8; decide) hC e1 e2 (fun m2 hK => ?_) rfl
  replace h := h m2 hK
  refine st_aload_n (pc := 13) dX7_spiltWithTurn_13 rfl rfl ?_
  refine st_aload_n (pc := 14) dX7_spiltWithTurn_14 rfl rfl ?_
  refine st_iload_n (pc := 15) dX7_spiltWithTurn_15 rfl rfl ?_
  refine st_aload_n (pc := 16) dX7_spiltWithTurn_16 rfl rfl ?_
  obtain ⟨hk3, h⟩ := h
  refine sg_gfI (pc := 17) (J := 4) dX7_spiltWithTurn_17 fl_7_70 (by decide) rfl hk3 ?_
  refine sg_iconst (pc := 20) dX7_spiltWithTurn_20 (by omega) ?_
  obtain ⟨hk4, h⟩ := h
  obtain ⟨mc3, ms3, K3, hC, e1, e2, h⟩ := h
  refine sg_VV (pc := 21) (av := [vr a1, vi a2, vi (mD m2 a1 4), vi 1]) (st := []) (K := K3) dX7_spiltWithTurn_21 ck_7_75 rfl (by decide) hk4 (by show (0 : Nat) ≤ 8; decide) hC e1 e2 (fun m3 hK => ?_) rfl
  replace h := h m3 hK
  refine st_aload_n (pc := 24) dX7_spiltWithTurn_24 rfl rfl ?_
  obtain ⟨hk5, h⟩ := h
  refine sg_gfI (pc := 25) (J := 4) dX7_spiltWithTurn_25 fl_7_33 (by decide) rfl hk5 ?_
  exact st_ireturn (pc := 28) dX7_spiltWithTurn_28 (Or.inl rfl) h

theorem sg_X7_spiltWithPause_0 {d bc bs : Nat} {a0 : Nat} {a1 : Nat} {a2 : Int} {a3 : Int} {μ : Mem} {Q : Option (Option AV) → Mem → Prop}
    (h : mK μ a0 = 8 ∧ ∃ (mc1 ms1 : Nat) (K1 : Mem → Prop), Cl d mc1 ms1 mX7_begin [vr a0, vi 1] μ (KV K1) ∧ mc1 ≤ bc ∧ ms1 ≤ bs ∧ (∀ m1, K1 m1 → mK m1 a0 = 8 ∧ ∃ (mc2 ms2 : Nat) (K2 : Mem → Prop), Cl d mc2 ms2 mX7_through [vr a0, vr a1, vi 0, vi a2, vi 0] m1 (KV K2) ∧ mc2 ≤ bc - mc1 ∧ ms2 ≤ bs - ms1 ∧ (∀ m2, K2 m2 → Wp (d + 1) (bc - mc1 - mc2) (bs - ms1 - ms2) mX7_spiltWithPause 16 [some (vr a0), some (vr a1), some (vi a2), some (vi a3), some (vi 0)] [] m2 Q))) :
    Wp (d + 1) bc bs mX7_spiltWithPause 0 [some (vr a0), some (vr a1), some (vi a2), some (vi a3), none] [] μ Q := by
  refine st_aload_n (pc := 0) dX7_spiltWithPause_0 rfl rfl ?_
  refine sg_iconst (pc := 1) dX7_spiltWithPause_1 (by omega) ?_
  obtain ⟨hk1, h⟩ := h
  obtain ⟨mc1, ms1, K1, hC, e1, e2, h⟩ := h
  refine sg_VV (pc := 2) (av := [vi 1]) (st := []) (K := K1) dX7_spiltWithPause_2 ck_7_66 rfl (by decide) hk1 (by show (0 : Nat) ≤ 8; decide) hC e1 e2 (fun m1 hK => ?_) rfl
  replace h := h m1 hK
  refine st_aload_n (pc := 5) dX7_spiltWithPause_5 rfl rfl ?_
  refine st_aload_n (pc := 6) dX7_spiltWithPause_6 rfl rfl ?_
  refine sg_iconst (pc := 7) dX7_spiltWithPause_7 (by omega) ?_
  refine st_iload_n (pc := 8) dX7_spiltWithPause_8 rfl rfl ?_
  refine sg_iconst (pc := 9) dX7_spiltWithPause_9 (by omega) ?_
  obtain ⟨hk2, h⟩ := h
  obtain ⟨mc2, ms2, K2, hC, e1, e2, h⟩ := h
  refine sg_VV (pc := 10) (av := [vr a1, vi 0, vi a2, vi 0]) (st := []) (K := K2) dX7_spiltWithPause_10 ck_7_75 rfl (by decide) hk2 (by show (0 : Nat) ≤ 8; decide) hC e1 e2 (fun m2 hK => ?_) rfl
  replace h := h m2 hK
  refine sg_iconst (pc := 13) dX7_spiltWithPause_13 (by omega) ?_
  refine sg_istore (pc := 14) (ls' := [some (vr a0), some (vr a1), some (vi a2), some (vi a3), some (vi 0)]) dX7_spiltWithPause_14 (by show (4 : Nat) < 5; decide) rfl ?_
  exact h

theorem sg_X7_spiltWithPause_16 {d bc bs : Nat} {a0 : Nat} {a1 : Nat} {a2 : Int} {a3 : Int} {a4 : Int} {μ : Mem} {Q : Option (Option AV) → Mem → Prop}
    (h : (a3 ≤ a4 → mK μ a1 = 9 ∧ (mK μ a0 = 8 ∧ ∃ (mc1 ms1 : Nat) (K1 : Mem → Prop), Cl d mc1 ms1 mX7_through [vr a0, vr a1, vi a2, vi (mD μ a1 4), vi 0] μ (KV K1) ∧ mc1 ≤ bc ∧ ms1 ≤ bs ∧ (∀ m1, K1 m1 → mK m1 a0 = 8 ∧ (Q (some (some (vi (mD m1 a0 4)))) m1)))) ∧ (¬ a3 ≤ a4 → mK μ a0 = 8 ∧ (mK μ (mR μ a0 2) = 6 ∧ ∃ (mc2 ms2 : Nat) (K2 : Int → Mem → Prop), Cl d mc2 ms2 mX5_pass [vr (mR μ a0 2), vr (mR μ a0 0), vi 0, vi 0] μ (KI K2) ∧ mc2 ≤ bc ∧ ms2 ≤ bs ∧ (∀ x1 m2, K2 x1 m2 → mK m2 a0 = 8 ∧ ∃ (mc3 ms3 : Nat) (K3 : Mem → Prop), Cl d mc3 ms3 mX7_note [vr a0, vi x1] m2 (KV K3) ∧ mc3 ≤ bc - mc2 ∧ ms3 ≤ bs - ms2 ∧ (∀ m3, K3 m3 → ∀ v1, v1 = w32 (a4 + 1) → Wp (d + 1) (bc - mc2 - mc3) (bs - ms2 - ms3) mX7_spiltWithPause 16 [some (vr a0), some (vr a1), some (vi a2), some (vi a3), some (vi v1)] [] m3 Q))))) :
    Wp (d + 1) bc bs mX7_spiltWithPause 16 [some (vr a0), some (vr a1), some (vi a2), some (vi a3), some (vi a4)] [] μ Q := by
  refine st_iload (pc := 16) dX7_spiltWithPause_16 rfl ?_
  refine st_iload_n (pc := 18) dX7_spiltWithPause_18 rfl rfl ?_
  refine st_icmpge (pc := 19) (tgt := 45) dX7_spiltWithPause_19 rfl (fun c => ?_) (fun c => ?_)
  · replace h := h.1 c
    refine st_aload_n (pc := 45) dX7_spiltWithPause_45 rfl rfl ?_
    refine st_aload_n (pc := 46) dX7_spiltWithPause_46 rfl rfl ?_
    refine st_iload_n (pc := 47) dX7_spiltWithPause_47 rfl rfl ?_
    refine st_aload_n (pc := 48) dX7_spiltWithPause_48 rfl rfl ?_
    obtain ⟨hk1, h⟩ := h
    refine sg_gfI (pc := 49) (J := 4) dX7_spiltWithPause_49 fl_7_70 (by decide) rfl hk1 ?_
    refine sg_iconst (pc := 52) dX7_spiltWithPause_52 (by omega) ?_
    obtain ⟨hk2, h⟩ := h
    obtain ⟨mc1, ms1, K1, hC, e1, e2, h⟩ := h
    refine sg_VV (pc := 53) (av := [vr a1, vi a2, vi (mD μ a1 4), vi 0]) (st := []) (K := K1) dX7_spiltWithPause_53 ck_7_75 rfl (by decide) hk2 (by show (0 : Nat) ≤ 8; decide) hC e1 e2 (fun m1 hK => ?_) rfl
    replace h := h m1 hK
    refine st_aload_n (pc := 56) dX7_spiltWithPause_56 rfl rfl ?_
    obtain ⟨hk3, h⟩ := h
    refine sg_gfI (pc := 57) (J := 4) dX7_spiltWithPause_57 fl_7_33 (by decide) rfl hk3 ?_
    exact st_ireturn (pc := 60) dX7_spiltWithPause_60 (Or.inl rfl) h
  · replace h := h.2 c
    refine st_aload_n (pc := 22) dX7_spiltWithPause_22 rfl rfl ?_
    refine st_aload_n (pc := 23) dX7_spiltWithPause_23 rfl rfl ?_
    obtain ⟨hk4, h⟩ := h
    refine sg_gfR (pc := 24) (J := 2) dX7_spiltWithPause_24 fl_7_25 rfl hk4 ?_
    refine st_aload_n (pc := 27) dX7_spiltWithPause_27 rfl rfl ?_
    refine sg_gfR (pc := 28) (J := 0) dX7_spiltWithPause_28 fl_7_12 rfl hk4 ?_
    refine sg_iconst (pc := 31) dX7_spiltWithPause_31 (by omega) ?_
    refine sg_iconst (pc := 32) dX7_spiltWithPause_32 (by omega) ?_
    obtain ⟨hk5, h⟩ := h
    obtain ⟨mc2, ms2, K2, hC, e1, e2, h⟩ := h
    refine sg_VI (pc := 33) (av := [vr (mR μ a0 0), vi 0, vi 0]) (st := [vr a0]) (K := K2) dX7_spiltWithPause_33 ck_7_79 rfl (by decide) hk5 (by show (1 : Nat) ≤ 8; decide) hC e1 e2 (fun x1 m2 hK => ?_) rfl
    replace h := h x1 m2 hK
    obtain ⟨hk6, h⟩ := h
    obtain ⟨mc3, ms3, K3, hC, e1, e2, h⟩ := h
    refine sg_VV (pc := 36) (av := [vi x1]) (st := []) (K := K3) dX7_spiltWithPause_36 ck_7_83 rfl (by decide) hk6 (by show (0 : Nat) ≤ 8; decide) hC e1 e2 (fun m3 hK => ?_) rfl
    replace h := h m3 hK
    refine sg_iinc (pc := 39) (ls' := [some (vr a0), some (vr a1), some (vi a2), some (vi a3), some (vi (w32 (a4 + 1)))]) dX7_spiltWithPause_39 rfl rfl ?_
    refine Wp.nameL (ls2 := fun v => [some (vr a0), some (vr a1), some (vi a2), some (vi a3), some (vi v)]) 4 _ rfl (fun _ => rfl) (fun v1 ev1 => ?_)
    replace h := h v1 ev1
    refine st_goto (pc := 42) dX7_spiltWithPause_42 rfl ?_
    exact h

theorem sg_X7_letGo_0 {d bc bs : Nat} {a0 : Nat} {a1 : Int} {a2 : Int} {μ : Mem} {Q : Option (Option AV) → Mem → Prop}
    (h : mK μ a0 = 8 ∧ (mK μ (mR μ a0 2) = 6 ∧ ∃ (mc1 ms1 : Nat) (K1 : Mem → Prop), Cl d mc1 ms1 mX5_freshen [vr (mR μ a0 2), vr (mR μ a0 0)] μ (KV K1) ∧ mc1 ≤ bc ∧ ms1 ≤ bs ∧ (∀ m1, K1 m1 → mK m1 a0 = 8 ∧ (mK m1 (mR m1 a0 2) = 6 ∧ (mK m1 (mR m1 (mR m1 a0 2) 2) = 5 ∧ ∃ (mc2 ms2 : Nat) (K2 : Mem → Prop), Cl d mc2 ms2 mX4_lean [vr (mR m1 (mR m1 a0 2) 2), vr (mR m1 a0 0), vi a1] m1 (KV K2) ∧ mc2 ≤ bc - mc1 ∧ ms2 ≤ bs - ms1 ∧ (∀ m2, K2 m2 → mK m2 a0 = 8 ∧ (mK m2 (mR m2 a0 2) = 6 ∧ (mK m2 (mR m2 (mR m2 a0 2) 2) = 5 ∧ ∃ (mc3 ms3 : Nat) (K3 : Int → Mem → Prop), Cl d mc3 ms3 mX4_slope [vr (mR m2 (mR m2 a0 2) 2), vr (mR m2 a0 0)] m2 (KI K3) ∧ mc3 ≤ bc - mc1 - mc2 ∧ ms3 ≤ bs - ms1 - ms2 ∧ (∀ x1 m3, K3 x1 m3 → mK m3 (mR m2 a0 11) = 20 ∧ ((0 : Int) ≤ 0 ∧ 0 < (mN m3 (mR m2 a0 11) : Int)) ∧ (∀ m4, m4 = sD m3 (mR m2 a0 11) 0 x1 → Wp (d + 1) (bc - mc1 - mc2 - mc3) (bs - ms1 - ms2 - ms3) mX7_letGo 48 [some (vr a0), some (vi a1), some (vi a2), some (vi 1)] [] m4 Q)))))))))) :
    Wp (d + 1) bc bs mX7_letGo 0 [some (vr a0), some (vi a1), some (vi a2), none] [] μ Q := by
  refine st_aload_n (pc := 0) dX7_letGo_0 rfl rfl ?_
  obtain ⟨hk1, h⟩ := h
  refine sg_gfR (pc := 1) (J := 2) dX7_letGo_1 fl_7_25 rfl hk1 ?_
  refine st_aload_n (pc := 4) dX7_letGo_4 rfl rfl ?_
  refine sg_gfR (pc := 5) (J := 0) dX7_letGo_5 fl_7_12 rfl hk1 ?_
  obtain ⟨hk2, h⟩ := h
  obtain ⟨mc1, ms1, K1, hC, e1, e2, h⟩ := h
  refine sg_VV (pc := 8) (av := [vr (mR μ a0 0)]) (st := []) (K := K1) dX7_letGo_8 ck_7_59 rfl (by decide) hk2 (by show (0 : Nat) ≤ 8; decide) hC e1 e2 (fun m1 hK => ?_) rfl
  replace h := h m1 hK
  refine st_aload_n (pc := 11) dX7_letGo_11 rfl rfl ?_
  obtain ⟨hk3, h⟩ := h
  refine sg_gfR (pc := 12) (J := 2) dX7_letGo_12 fl_7_25 rfl hk3 ?_
  obtain ⟨hk4, h⟩ := h
  refine sg_gfR (pc := 15) (J := 2) dX7_letGo_15 fl_7_102 rfl hk4 ?_
  refine st_aload_n (pc := 18) dX7_letGo_18 rfl rfl ?_
  refine sg_gfR (pc := 19) (J := 0) dX7_letGo_19 fl_7_12 rfl hk3 ?_
  refine st_iload_n (pc := 22) dX7_letGo_22 rfl rfl ?_
  obtain ⟨hk5, h⟩ := h
  obtain ⟨mc2, ms2, K2, hC, e1, e2, h⟩ := h
  refine sg_VV (pc := 23) (av := [vr (mR m1 a0 0), vi a1]) (st := []) (K := K2) dX7_letGo_23 ck_7_122 rfl (by decide) hk5 (by show (0 : Nat) ≤ 8; decide) hC e1 e2 (fun m2 hK => ?_) rfl
  replace h := h m2 hK
  refine st_aload_n (pc := 26) dX7_letGo_26 rfl rfl ?_
  obtain ⟨hk6, h⟩ := h
  refine sg_gfR (pc := 27) (J := 11) dX7_letGo_27 fl_7_56 rfl hk6 ?_
  refine sg_iconst (pc := 30) dX7_letGo_30 (by omega) ?_
  refine st_aload_n (pc := 31) dX7_letGo_31 rfl rfl ?_
  refine sg_gfR (pc := 32) (J := 2) dX7_letGo_32 fl_7_25 rfl hk6 ?_
  obtain ⟨hk7, h⟩ := h
  refine sg_gfR (pc := 35) (J := 2) dX7_letGo_35 fl_7_102 rfl hk7 ?_
  refine st_aload_n (pc := 38) dX7_letGo_38 rfl rfl ?_
  refine sg_gfR (pc := 39) (J := 0) dX7_letGo_39 fl_7_12 rfl hk6 ?_
  obtain ⟨hk8, h⟩ := h
  obtain ⟨mc3, ms3, K3, hC, e1, e2, h⟩ := h
  refine sg_VI (pc := 42) (av := [vr (mR m2 a0 0)]) (st := [vi 0, vr (mR m2 a0 11)]) (K := K3) dX7_letGo_42 ck_7_115 rfl (by decide) hk8 (by show (2 : Nat) ≤ 8; decide) hC e1 e2 (fun x1 m3 hK => ?_) rfl
  replace h := h x1 m3 hK
  obtain ⟨hk9, h⟩ := h
  obtain ⟨h1, h⟩ := h
  refine st_iastore (pc := 45) dX7_letGo_45 hk9 h1.1 h1.2 ?_
  refine Wp.nameM (fun m4 em4 => ?_)
  replace h := h m4 em4
  refine sg_iconst (pc := 46) dX7_letGo_46 (by omega) ?_
  refine sg_istore_n (pc := 47) (ls' := [some (vr a0), some (vi a1), some (vi a2), some (vi 1)]) dX7_letGo_47 rfl (by show (3 : Nat) < 4; decide) rfl ?_
  exact h

theorem sg_X7_letGo_48 {d bc bs : Nat} {a0 : Nat} {a1 : Int} {a2 : Int} {a3 : Int} {μ : Mem} {Q : Option (Option AV) → Mem → Prop}
    (h : (a2 < a3 → mK μ a0 = 8 ∧ (Q (some (some (vr (mR μ a0 11)))) μ)) ∧ (¬ a2 < a3 → mK μ a0 = 8 ∧ (((20 ≤ mK μ (mR μ a0 11) ∧ mK μ (mR μ a0 11) ≤ 28) ∨ ((mR μ a0 11) ≠ 0 ∧ mK μ (mR μ a0 11) = 40)) ∧ (((mN μ (mR μ a0 11) : Int) ≤ a3 → Q (some (some (vr (mR μ a0 11)))) μ) ∧ (¬ (mN μ (mR μ a0 11) : Int) ≤ a3 → mK μ (mR μ a0 2) = 6 ∧ ∃ (mc1 ms1 : Nat) (K1 : Int → Mem → Prop), Cl d mc1 ms1 mX5_pass [vr (mR μ a0 2), vr (mR μ a0 0), vi 0, vi 0] μ (KI K1) ∧ mc1 ≤ bc ∧ ms1 ≤ bs ∧ (∀ x1 m1, K1 x1 m1 → mK m1 a0 = 8 ∧ (mK m1 (mR m1 a0 2) = 6 ∧ (mK m1 (mR m1 (mR m1 a0 2) 2) = 5 ∧ ∃ (mc2 ms2 : Nat) (K2 : Int → Mem → Prop), Cl d mc2 ms2 mX4_slope [vr (mR m1 (mR m1 a0 2) 2), vr (mR m1 a0 0)] m1 (KI K2) ∧ mc2 ≤ bc - mc1 ∧ ms2 ≤ bs - ms1 ∧ (∀ x2 m2, K2 x2 m2 → mK m2 (mR m1 a0 11) = 20 ∧ ((0 : Int) ≤ a3 ∧ a3 < (mN m2 (mR m1 a0 11) : Int)) ∧ (∀ m3, m3 = sD m2 (mR m1 a0 11) a3 x2 → ∀ v1, v1 = w32 (a3 + 1) → Wp (d + 1) (bc - mc1 - mc2) (bs - ms1 - ms2) mX7_letGo 48 [some (vr a0), some (vi a1), some (vi a2), some (vi v1)] [] m3 Q)))))))))) :
    Wp (d + 1) bc bs mX7_letGo 48 [some (vr a0), some (vi a1), some (vi a2), some (vi a3)] [] μ Q := by
  refine st_iload_n (pc := 48) dX7_letGo_48 rfl rfl ?_
  refine st_iload_n (pc := 49) dX7_letGo_49 rfl rfl ?_
  refine st_icmpgt (pc := 50) (tgt := 102) dX7_letGo_50 rfl (fun c => ?_) (fun c => ?_)
  · replace h := h.1 c
    refine st_aload_n (pc := 102) dX7_letGo_102 rfl rfl ?_
    obtain ⟨hk1, h⟩ := h
    refine sg_gfR (pc := 103) (J := 11) dX7_letGo_103 fl_7_56 rfl hk1 ?_
    exact st_areturn (pc := 106) dX7_letGo_106 rfl h
  · replace h := h.2 c
    refine st_iload_n (pc := 53) dX7_letGo_53 rfl rfl ?_
    refine st_aload_n (pc := 54) dX7_letGo_54 rfl rfl ?_
    obtain ⟨hk2, h⟩ := h
    refine sg_gfR (pc := 55) (J := 11) dX7_letGo_55 fl_7_56 rfl hk2 ?_
    obtain ⟨hk3, h⟩ := h
    refine sg_alen (pc := 58) dX7_letGo_58 hk3 ?_
    refine st_icmpge (pc := 59) (tgt := 102) dX7_letGo_59 rfl (fun c => ?_) (fun c => ?_)
    · replace h := h.1 c
      refine st_aload_n (pc := 102) dX7_letGo_102 rfl rfl ?_
      refine sg_gfR (pc := 103) (J := 11) dX7_letGo_103 fl_7_56 rfl hk2 ?_
      exact st_areturn (pc := 106) dX7_letGo_106 rfl h
    · replace h := h.2 c
      refine st_aload_n (pc := 62) dX7_letGo_62 rfl rfl ?_
      refine sg_gfR (pc := 63) (J := 2) dX7_letGo_63 fl_7_25 rfl hk2 ?_
      refine st_aload_n (pc := 66) dX7_letGo_66 rfl rfl ?_
      refine sg_gfR (pc := 67) (J := 0) dX7_letGo_67 fl_7_12 rfl hk2 ?_
      refine sg_iconst (pc := 70) dX7_letGo_70 (by omega) ?_
      refine sg_iconst (pc := 71) dX7_letGo_71 (by omega) ?_
      obtain ⟨hk4, h⟩ := h
      obtain ⟨mc1, ms1, K1, hC, e1, e2, h⟩ := h
      refine sg_VI (pc := 72) (av := [vr (mR μ a0 0), vi 0, vi 0]) (st := []) (K := K1) dX7_letGo_72 ck_7_79 rfl (by decide) hk4 (by show (0 : Nat) ≤ 8; decide) hC e1 e2 (fun x1 m1 hK => ?_) rfl
      replace h := h x1 m1 hK
      refine st_pop (pc := 75) dX7_letGo_75 rfl ?_
      refine st_aload_n (pc := 76) dX7_letGo_76 rfl rfl ?_
      obtain ⟨hk5, h⟩ := h
      refine sg_gfR (pc := 77) (J := 11) dX7_letGo_77 fl_7_56 rfl hk5 ?_
      refine st_iload_n (pc := 80) dX7_letGo_80 rfl rfl ?_
      refine st_aload_n (pc := 81) dX7_letGo_81 rfl rfl ?_
      refine sg_gfR (pc := 82) (J := 2) dX7_letGo_82 fl_7_25 rfl hk5 ?_
      obtain ⟨hk6, h⟩ := h
      refine sg_gfR (pc := 85) (J := 2) dX7_letGo_85 fl_7_102 rfl hk6 ?_
      refine st_aload_n (pc := 88) dX7_letGo_88 rfl rfl ?_
      refine sg_gfR (pc := 89) (J := 0) dX7_letGo_89 fl_7_12 rfl hk5 ?_
      obtain ⟨hk7, h⟩ := h
      obtain ⟨mc2, ms2, K2, hC, e1, e2, h⟩ := h
      refine sg_VI (pc := 92) (av := [vr (mR m1 a0 0)]) (st := [vi a3, vr (mR m1 a0 11)]) (K := K2) dX7_letGo_92 ck_7_115 rfl (by decide) hk7 (by show (2 : Nat) ≤ 8; decide) hC e1 e2 (fun x2 m2 hK => ?_) rfl
      replace h := h x2 m2 hK
      obtain ⟨hk8, h⟩ := h
      obtain ⟨h1, h⟩ := h
      refine st_iastore (pc := 95) dX7_letGo_95 hk8 h1.1 h1.2 ?_
      refine Wp.nameM (fun m3 em3 => ?_)
      replace h := h m3 em3
      refine sg_iinc (pc := 96) (ls' := [some (vr a0), some (vi a1), some (vi a2), some (vi (w32 (a3 + 1)))]) dX7_letGo_96 rfl rfl ?_
      refine Wp.nameL (ls2 := fun v => [some (vr a0), some (vi a1), some (vi a2), some (vi v)]) 3 _ rfl (fun _ => rfl) (fun v1 ev1 => ?_)
      replace h := h v1 ev1
      refine st_goto (pc := 99) dX7_letGo_99 rfl ?_
      exact h

theorem sg_X7_clearFirsts_0 {d bc bs : Nat} {a0 : Nat} {μ : Mem} {Q : Option (Option AV) → Mem → Prop}
    (h : mK μ a0 = 8 ∧ (∃ (mc1 ms1 : Nat) (K1 : Mem → Prop), Cl d mc1 ms1 mJ7_fill_53178 [vr (mR μ a0 10), vi 0] μ (KV K1) ∧ mc1 ≤ bc ∧ ms1 ≤ bs ∧ (∀ m1, K1 m1 → Q (some none) m1))) :
    Wp (d + 1) bc bs mX7_clearFirsts 0 [some (vr a0)] [] μ Q := by
  refine st_aload_n (pc := 0) dX7_clearFirsts_0 rfl rfl ?_
  obtain ⟨hk1, h⟩ := h
  refine sg_gfR (pc := 1) (J := 10) dX7_clearFirsts_1 fl_7_53 rfl hk1 ?_
  refine sg_iconst (pc := 4) dX7_clearFirsts_4 (by omega) ?_
  obtain ⟨mc1, ms1, K1, hC, e1, e2, h⟩ := h
  refine sg_SV (pc := 5) (av := [vr (mR μ a0 10), vi 0]) (st := []) (K := K1) dX7_clearFirsts_5 ck_7_126 rfl (by show (0 : Nat) ≤ 8; decide) hC e1 e2 (fun m1 hK => ?_) rfl
  replace h := h m1 hK
  exact st_return (pc := 8) dX7_clearFirsts_8 rfl h

theorem sg_X7_countFirst_0 {d bc bs : Nat} {a0 : Nat} {a1 : Int} {μ : Mem} {Q : Option (Option AV) → Mem → Prop}
    (h : mK μ a0 = 8 ∧ (((20 ≤ mK μ (mR μ a0 10) ∧ mK μ (mR μ a0 10) ≤ 28) ∨ ((mR μ a0 10) ≠ 0 ∧ mK μ (mR μ a0 10) = 40)) ∧ (∃ (mc1 ms1 : Nat) (K1 : Int → Mem → Prop), Cl d mc1 ms1 mX9_isIn [vi a1, vi 0, vi (w32 ((mN μ (mR μ a0 10) : Int) - 1))] μ (KI K1) ∧ mc1 ≤ bc ∧ ms1 ≤ bs ∧ (∀ x1 m1, K1 x1 m1 → (x1 = 0 → Q (some none) m1) ∧ (¬ x1 = 0 → mK m1 a0 = 8 ∧ ((mK m1 (mR m1 a0 10) = 20 ∨ ((mR m1 a0 10) ≠ 0 ∧ mK m1 (mR m1 a0 10) = 40)) ∧ ((0 : Int) ≤ a1 ∧ a1 < (mN m1 (mR m1 a0 10) : Int)) ∧ (mK m1 (mR m1 a0 10) = 20 ∧ ((0 : Int) ≤ a1 ∧ a1 < (mN m1 (mR m1 a0 10) : Int)) ∧ (∀ m2, m2 = sD m1 (mR m1 a0 10) a1 (w32 ((mD m1 (mR m1 a0 10) a1) + 1)) → Q (some none) m2)))))))) :
    Wp (d + 1) bc bs mX7_countFirst 0 [some (vr a0), some (vi a1)] [] μ Q := by
  refine st_iload_n (pc := 0) dX7_countFirst_0 rfl rfl ?_
  refine sg_iconst (pc := 1) dX7_countFirst_1 (by omega) ?_
  refine st_aload_n (pc := 2) dX7_countFirst_2 rfl rfl ?_
  obtain ⟨hk1, h⟩ := h
  refine sg_gfR (pc := 3) (J := 10) dX7_countFirst_3 fl_7_53 rfl hk1 ?_
  obtain ⟨hk2, h⟩ := h
  refine sg_alen (pc := 6) dX7_countFirst_6 hk2 ?_
  refine sg_iconst (pc := 7) dX7_countFirst_7 (by omega) ?_
  refine st_isub (pc := 8) dX7_countFirst_8 ?_
  obtain ⟨mc1, ms1, K1, hC, e1, e2, h⟩ := h
  refine sg_SNI (pc := 9) (av := [vi a1, vi 0, vi (w32 ((mN μ (mR μ a0 10) : Int) - 1))]) (st := []) (K := K1) dX7_countFirst_9 ck_7_132 rfl (by show (0 : Nat) ≤ 8; decide) hC e1 e2 (fun x1 m1 hK => ?_) rfl
  replace h := h x1 m1 hK
  refine st_ifeq (pc := 12) (tgt := 25) dX7_countFirst_12 rfl (fun c => ?_) (fun c => ?_)
  · replace h := h.1 c
    exact st_return (pc := 25) dX7_countFirst_25 rfl h
  · replace h := h.2 c
    refine st_aload_n (pc := 15) dX7_countFirst_15 rfl rfl ?_
    obtain ⟨hk3, h⟩ := h
    refine sg_gfR (pc := 16) (J := 10) dX7_countFirst_16 fl_7_53 rfl hk3 ?_
    refine st_iload_n (pc := 19) dX7_countFirst_19 rfl rfl ?_
    refine st_dup2 (pc := 20) dX7_countFirst_20 rfl rfl ?_
    obtain ⟨hk4, h⟩ := h
    obtain ⟨h1, h⟩ := h
    refine sg_iaload (pc := 21) dX7_countFirst_21 hk4 h1 ?_
    refine sg_iconst (pc := 22) dX7_countFirst_22 (by omega) ?_
    refine st_iadd (pc := 23) dX7_countFirst_23 ?_
    obtain ⟨hk5, h⟩ := h
    obtain ⟨h1, h⟩ := h
    refine st_iastore (pc := 24) dX7_countFirst_24 hk5 h1.1 h1.2 ?_
    refine Wp.nameM (fun m2 em2 => ?_)
    replace h := h m2 em2
    exact st_return (pc := 25) dX7_countFirst_25 rfl h

theorem sg_X7_mostOftenFirst_0 {d bc bs : Nat} {a0 : Nat} {μ : Mem} {Q : Option (Option AV) → Mem → Prop}
    (h : Wp d bc bs mX7_mostOftenFirst 6 [some (vr a0), some (vi (-1)), some (vi 0), some (vi 0)] [] μ Q) :
    Wp d bc bs mX7_mostOftenFirst 0 [some (vr a0), none, none, none] [] μ Q := by
  refine sg_iconst (pc := 0) dX7_mostOftenFirst_0 (by omega) ?_
  refine sg_istore_n (pc := 1) (ls' := [some (vr a0), some (vi (-1)), none, none]) dX7_mostOftenFirst_1 rfl (by show (1 : Nat) < 4; decide) rfl ?_
  refine sg_iconst (pc := 2) dX7_mostOftenFirst_2 (by omega) ?_
  refine sg_istore_n (pc := 3) (ls' := [some (vr a0), some (vi (-1)), some (vi 0), none]) dX7_mostOftenFirst_3 rfl (by show (2 : Nat) < 4; decide) rfl ?_
  refine sg_iconst (pc := 4) dX7_mostOftenFirst_4 (by omega) ?_
  refine sg_istore_n (pc := 5) (ls' := [some (vr a0), some (vi (-1)), some (vi 0), some (vi 0)]) dX7_mostOftenFirst_5 rfl (by show (3 : Nat) < 4; decide) rfl ?_
  exact h

theorem sg_X7_mostOftenFirst_6 {d bc bs : Nat} {a0 : Nat} {a1 : Int} {a2 : Int} {a3 : Int} {μ : Mem} {Q : Option (Option AV) → Mem → Prop}
    (h : mK μ a0 = 8 ∧ (((20 ≤ mK μ (mR μ a0 10) ∧ mK μ (mR μ a0 10) ≤ 28) ∨ ((mR μ a0 10) ≠ 0 ∧ mK μ (mR μ a0 10) = 40)) ∧ (((mN μ (mR μ a0 10) : Int) ≤ a3 → Q (some (some (vi a1))) μ) ∧ (¬ (mN μ (mR μ a0 10) : Int) ≤ a3 → (mK μ (mR μ a0 10) = 20 ∨ ((mR μ a0 10) ≠ 0 ∧ mK μ (mR μ a0 10) = 40)) ∧ ((0 : Int) ≤ a3 ∧ a3 < (mN μ (mR μ a0 10) : Int)) ∧ (((mD μ (mR μ a0 10) a3) ≤ a2 → ∀ v1, v1 = w32 (a3 + 1) → Wp d bc bs mX7_mostOftenFirst 6 [some (vr a0), some (vi a1), some (vi a2), some (vi v1)] [] μ Q) ∧ (¬ (mD μ (mR μ a0 10) a3) ≤ a2 → ((0 : Int) ≤ a3 ∧ a3 < (mN μ (mR μ a0 10) : Int)) ∧ (∀ v2, v2 = mD μ (mR μ a0 10) a3 → ∀ v3, v3 = w32 (a3 + 1) → Wp d bc bs mX7_mostOftenFirst 6 [some (vr a0), some (vi a3), some (vi v2), some (vi v3)] [] μ Q))))))) :
    Wp d bc bs mX7_mostOftenFirst 6 [some (vr a0), some (vi a1), some (vi a2), some (vi a3)] [] μ Q := by
  refine st_iload_n (pc := 6) dX7_mostOftenFirst_6 rfl rfl ?_
  refine st_aload_n (pc := 7) dX7_mostOftenFirst_7 rfl rfl ?_
  obtain ⟨hk1, h⟩ := h
  refine sg_gfR (pc := 8) (J := 10) dX7_mostOftenFirst_8 fl_7_53 rfl hk1 ?_
  obtain ⟨hk2, h⟩ := h
  refine sg_alen (pc := 11) dX7_mostOftenFirst_11 hk2 ?_
  refine st_icmpge (pc := 12) (tgt := 40) dX7_mostOftenFirst_12 rfl (fun c => ?_) (fun c => ?_)
  · replace h := h.1 c
    refine st_iload_n (pc := 40) dX7_mostOftenFirst_40 rfl rfl ?_
    exact st_ireturn (pc := 41) dX7_mostOftenFirst_41 (Or.inl rfl) h
  · replace h := h.2 c
    refine st_aload_n (pc := 15) dX7_mostOftenFirst_15 rfl rfl ?_
    refine sg_gfR (pc := 16) (J := 10) dX7_mostOftenFirst_16 fl_7_53 rfl hk1 ?_
    refine st_iload_n (pc := 19) dX7_mostOftenFirst_19 rfl rfl ?_
    obtain ⟨hk3, h⟩ := h
    obtain ⟨h1, h⟩ := h
    refine sg_iaload (pc := 20) dX7_mostOftenFirst_20 hk3 h1 ?_
    refine st_iload_n (pc := 21) dX7_mostOftenFirst_21 rfl rfl ?_
    refine st_icmple (pc := 22) (tgt := 34) dX7_mostOftenFirst_22 rfl (fun c => ?_) (fun c => ?_)
    · replace h := h.1 c
      refine sg_iinc (pc := 34) (ls' := [some (vr a0), some (vi a1), some (vi a2), some (vi (w32 (a3 + 1)))]) dX7_mostOftenFirst_34 rfl rfl ?_
      refine Wp.nameL (ls2 := fun v => [some (vr a0), some (vi a1), some (vi a2), some (vi v)]) 3 _ rfl (fun _ => rfl) (fun v1 ev1 => ?_)
      replace h := h v1 ev1
      refine st_goto (pc := 37) dX7_mostOftenFirst_37 rfl ?_
      exact h
    · replace h := h.2 c
      refine st_aload_n (pc := 25) dX7_mostOftenFirst_25 rfl rfl ?_
      refine sg_gfR (pc := 26) (J := 10) dX7_mostOftenFirst_26 fl_7_53 rfl hk1 ?_
      refine st_iload_n (pc := 29) dX7_mostOftenFirst_29 rfl rfl ?_
      obtain ⟨h1, h⟩ := h
      refine sg_iaload (pc := 30) dX7_mostOftenFirst_30 hk3 h1 ?_
      refine sg_istore_n (pc := 31) (ls' := [some (vr a0), some (vi a1), some (vi (mD μ (mR μ a0 10) a3)), some (vi a3)]) dX7_mostOftenFirst_31 rfl (by show (2 : Nat) < 4; decide) rfl ?_
      refine Wp.nameL (ls2 := fun v => [some (vr a0), some (vi a1), some (vi v), some (vi a3)]) 2 _ rfl (fun _ => rfl) (fun v2 ev2 => ?_)
      replace h := h v2 ev2
      refine st_iload_n (pc := 32) dX7_mostOftenFirst_32 rfl rfl ?_
      refine sg_istore_n (pc := 33) (ls' := [some (vr a0), some (vi a3), some (vi v2), some (vi a3)]) dX7_mostOftenFirst_33 rfl (by show (1 : Nat) < 4; decide) rfl ?_
      refine sg_iinc (pc := 34) (ls' := [some (vr a0), some (vi a3), some (vi v2), some (vi (w32 (a3 + 1)))]) dX7_mostOftenFirst_34 rfl rfl ?_
      refine Wp.nameL (ls2 := fun v => [some (vr a0), some (vi a3), some (vi v2), some (vi v)]) 3 _ rfl (fun _ => rfl) (fun v3 ev3 => ?_)
      replace h := h v3 ev3
      refine st_goto (pc := 37) dX7_mostOftenFirst_37 rfl ?_
      exact h

theorem sg_X8_init_0 {d bc bs : Nat} {a0 : Nat} {μ : Mem} {Q : Option (Option AV) → Mem → Prop}
    (h : a0 ≠ 0 ∧ (mX μ ≠ 0 ∧ (0 : Int) ≤ 1000 ∧ 1000 ≤ (100000 : Int) ∧ 1 ≤ bc ∧ 1000 ≤ ((bs : Nat) : Int) ∧ (∀ m1, m1 = nwM μ 20 (1000 : Int).toNat → mK m1 a0 = 9 ∧ (∀ m2, m2 = sR m1 a0 0 (mX μ) → mX m2 ≠ 0 ∧ (0 : Int) ≤ 1000 ∧ 1000 ≤ (100000 : Int) ∧ 1 ≤ bc - 1 ∧ 1000 ≤ ((bs - (1000 : Int).toNat : Nat) : Int) ∧ (∀ m3, m3 = nwM m2 20 (1000 : Int).toNat → mK m3 a0 = 9 ∧ (∀ m4, m4 = sR m3 a0 1 (mX m2) → mX m4 ≠ 0 ∧ (0 : Int) ≤ 1000 ∧ 1000 ≤ (100000 : Int) ∧ 1 ≤ bc - 1 - 1 ∧ 1000 ≤ ((bs - (1000 : Int).toNat - (1000 : Int).toNat : Nat) : Int) ∧ (∀ m5, m5 = nwM m4 20 (1000 : Int).toNat → mK m5 a0 = 9 ∧ (∀ m6, m6 = sR m5 a0 2 (mX m4) → mX m6 ≠ 0 ∧ (0 : Int) ≤ 1000 ∧ 1000 ≤ (100000 : Int) ∧ 1 ≤ bc - 1 - 1 - 1 ∧ 1000 ≤ ((bs - (1000 : Int).toNat - (1000 : Int).toNat - (1000 : Int).toNat : Nat) : Int) ∧ (∀ m7, m7 = nwM m6 20 (1000 : Int).toNat → mK m7 a0 = 9 ∧ (∀ m8, m8 = sR m7 a0 3 (mX m6) → mK m8 a0 = 9 ∧ (∀ m9, m9 = sD m8 a0 4 0 → (∀ m10, m10 = sD m9 a0 5 0 → (∀ m11, m11 = sD m10 a0 6 0 → Q (some none) m11))))))))))))) :
    Wp d bc bs mX8_init 0 [some (vr a0)] [] μ Q := by
  refine st_aload_n (pc := 0) dX8_init_0 rfl rfl ?_
  obtain ⟨h0, h⟩ := h
  refine st_objInit (pc := 1) (st := []) dX8_init_1 ck_8_3 h0 (by show (0 : Nat) ≤ 8; decide) ?_
  refine st_aload_n (pc := 4) dX8_init_4 rfl rfl ?_
  refine sg_sipush (pc := 5) dX8_init_5 (by omega) (by decide) ?_
  obtain ⟨h0, h1, h2, h3, h4, h⟩ := h
  refine st_newI (pc := 8) dX8_init_8 h0 h1 h2 h3 h4 ?_
  refine Wp.nameM (fun m1 em1 => ?_)
  replace h := h m1 em1
  obtain ⟨hk1, h⟩ := h
  refine sg_pfR (pc := 10) (J := 0) dX8_init_10 fl_8_9 rfl (Or.inr ⟨rfl, rfl⟩) hk1 ?_
  refine Wp.nameM (fun m2 em2 => ?_)
  replace h := h m2 em2
  refine st_aload_n (pc := 13) dX8_init_13 rfl rfl ?_
  refine sg_sipush (pc := 14) dX8_init_14 (by omega) (by decide) ?_
  obtain ⟨h0, h1, h2, h3, h4, h⟩ := h
  refine st_newI (pc := 17) dX8_init_17 h0 h1 h2 h3 h4 ?_
  refine Wp.nameM (fun m3 em3 => ?_)
  replace h := h m3 em3
  obtain ⟨hk2, h⟩ := h
  refine sg_pfR (pc := 19) (J := 1) dX8_init_19 fl_8_15 rfl (Or.inr ⟨rfl, rfl⟩) hk2 ?_
  refine Wp.nameM (fun m4 em4 => ?_)
  replace h := h m4 em4
  refine st_aload_n (pc := 22) dX8_init_22 rfl rfl ?_
  refine sg_sipush (pc := 23) dX8_init_23 (by omega) (by decide) ?_
  obtain ⟨h0, h1, h2, h3, h4, h⟩ := h
  refine st_newI (pc := 26) dX8_init_26 h0 h1 h2 h3 h4 ?_
  refine Wp.nameM (fun m5 em5 => ?_)
  replace h := h m5 em5
  obtain ⟨hk3, h⟩ := h
  refine sg_pfR (pc := 28) (J := 2) dX8_init_28 fl_8_18 rfl (Or.inr ⟨rfl, rfl⟩) hk3 ?_
  refine Wp.nameM (fun m6 em6 => ?_)
  replace h := h m6 em6
  refine st_aload_n (pc := 31) dX8_init_31 rfl rfl ?_
  refine sg_sipush (pc := 32) dX8_init_32 (by omega) (by decide) ?_
  obtain ⟨h0, h1, h2, h3, h4, h⟩ := h
  refine st_newI (pc := 35) dX8_init_35 h0 h1 h2 h3 h4 ?_
  refine Wp.nameM (fun m7 em7 => ?_)
  replace h := h m7 em7
  obtain ⟨hk4, h⟩ := h
  refine sg_pfR (pc := 37) (J := 3) dX8_init_37 fl_8_21 rfl (Or.inr ⟨rfl, rfl⟩) hk4 ?_
  refine Wp.nameM (fun m8 em8 => ?_)
  replace h := h m8 em8
  refine st_aload_n (pc := 40) dX8_init_40 rfl rfl ?_
  refine sg_iconst (pc := 41) dX8_init_41 (by omega) ?_
  obtain ⟨hk5, h⟩ := h
  refine sg_pfI (pc := 42) (J := 4) dX8_init_42 fl_8_24 rfl (Or.inl rfl) hk5 ?_
  refine Wp.nameM (fun m9 em9 => ?_)
  replace h := h m9 em9
  refine st_aload_n (pc := 45) dX8_init_45 rfl rfl ?_
  refine sg_iconst (pc := 46) dX8_init_46 (by omega) ?_
  refine sg_pfI (pc := 47) (J := 5) dX8_init_47 fl_8_28 rfl (Or.inl rfl) (by cases em9; exact hk5) ?_
  refine Wp.nameM (fun m10 em10 => ?_)
  replace h := h m10 em10
  refine st_aload_n (pc := 50) dX8_init_50 rfl rfl ?_
  refine sg_iconst (pc := 51) dX8_init_51 (by omega) ?_
  refine sg_pfI (pc := 52) (J := 6) dX8_init_52 fl_8_31 rfl (Or.inl rfl) (by cases em10; cases em9; exact hk5) ?_
  refine Wp.nameM (fun m11 em11 => ?_)
  replace h := h m11 em11
  exact st_return (pc := 55) dX8_init_55 rfl h

theorem sg_X8_clear_0 {d bc bs : Nat} {a0 : Nat} {μ : Mem} {Q : Option (Option AV) → Mem → Prop}
    (h : mK μ a0 = 9 ∧ (∀ m1, m1 = sD μ a0 4 0 → (∀ m2, m2 = sD m1 a0 5 0 → (∀ m3, m3 = sD m2 a0 6 0 → Q (some none) m3)))) :
    Wp d bc bs mX8_clear 0 [some (vr a0)] [] μ Q := by
  refine st_aload_n (pc := 0) dX8_clear_0 rfl rfl ?_
  refine sg_iconst (pc := 1) dX8_clear_1 (by omega) ?_
  obtain ⟨hk1, h⟩ := h
  refine sg_pfI (pc := 2) (J := 4) dX8_clear_2 fl_8_24 rfl (Or.inl rfl) hk1 ?_
  refine Wp.nameM (fun m1 em1 => ?_)
  replace h := h m1 em1
  refine st_aload_n (pc := 5) dX8_clear_5 rfl rfl ?_
  refine sg_iconst (pc := 6) dX8_clear_6 (by omega) ?_
  refine sg_pfI (pc := 7) (J := 5) dX8_clear_7 fl_8_28 rfl (Or.inl rfl) (by cases em1; exact hk1) ?_
  refine Wp.nameM (fun m2 em2 => ?_)
  replace h := h m2 em2
  refine st_aload_n (pc := 10) dX8_clear_10 rfl rfl ?_
  refine sg_iconst (pc := 11) dX8_clear_11 (by omega) ?_
  refine sg_pfI (pc := 12) (J := 6) dX8_clear_12 fl_8_31 rfl (Or.inl rfl) (by cases em2; cases em1; exact hk1) ?_
  refine Wp.nameM (fun m3 em3 => ?_)
  replace h := h m3 em3
  exact st_return (pc := 15) dX8_clear_15 rfl h

theorem sg_X8_hasRoom_0 {d bc bs : Nat} {a0 : Nat} {a1 : Nat} {a2 : Int} {μ : Mem} {Q : Option (Option AV) → Mem → Prop}
    (h : mK μ a1 = 7 ∧ ∃ (mc1 ms1 : Nat) (K1 : Int → Mem → Prop), Cl d mc1 ms1 mX6_isGood [vr a1] μ (KI K1) ∧ mc1 ≤ bc ∧ ms1 ≤ bs ∧ (∀ x1 m1, K1 x1 m1 → (x1 = 0 → Wp (d + 1) (bc - mc1) (bs - ms1) mX8_hasRoom 23 [some (vr a0), some (vr a1), some (vi a2)] [] m1 Q) ∧ (¬ x1 = 0 → mK m1 a0 = 9 ∧ (((w32 ((mD m1 a0 4) + a2)) ≤ 1000 → Wp (d + 1) (bc - mc1) (bs - ms1) mX8_hasRoom 23 [some (vr a0), some (vr a1), some (vi a2)] [] m1 Q) ∧ (¬ (w32 ((mD m1 a0 4) + a2)) ≤ 1000 → mK m1 a1 = 7 ∧ ∃ (mc2 ms2 : Nat) (K2 : Mem → Prop), Cl d mc2 ms2 mX6_failAtLastDigit [vr a1] m1 (KV K2) ∧ mc2 ≤ bc - mc1 ∧ ms2 ≤ bs - ms1 ∧ (∀ m2, K2 m2 → Wp (d + 1) (bc - mc1 - mc2) (bs - ms1 - ms2) mX8_hasRoom 23 [some (vr a0), some (vr a1), some (vi a2)] [] m2 Q)))))) :
    Wp (d + 1) bc bs mX8_hasRoom 0 [some (vr a0), some (vr a1), some (vi a2)] [] μ Q := by
  refine st_aload_n (pc := 0) dX8_hasRoom_0 rfl rfl ?_
  obtain ⟨hk1, h⟩ := h
  obtain ⟨mc1, ms1, K1, hC, e1, e2, h⟩ := h
  refine sg_VI (pc := 1) (av := []) (st := []) (K := K1) dX8_hasRoom_1 ck_8_47 rfl (by decide) hk1 (by show (0 : Nat) ≤ 8; decide) hC e1 e2 (fun x1 m1 hK => ?_) rfl
  replace h := h x1 m1 hK
  refine st_ifeq (pc := 4) (tgt := 23) dX8_hasRoom_4 rfl (fun c => ?_) (fun c => ?_)
  · replace h := h.1 c
    exact h
  · replace h := h.2 c
    refine st_aload_n (pc := 7) dX8_hasRoom_7 rfl rfl ?_
    obtain ⟨hk2, h⟩ := h
    refine sg_gfI (pc := 8) (J := 4) dX8_hasRoom_8 fl_8_24 (by decide) rfl hk2 ?_
    refine st_iload_n (pc := 11) dX8_hasRoom_11 rfl rfl ?_
    refine st_iadd (pc := 12) dX8_hasRoom_12 ?_
    refine sg_sipush (pc := 13) dX8_hasRoom_13 (by omega) (by decide) ?_
    refine st_icmple (pc := 16) (tgt := 23) dX8_hasRoom_16 rfl (fun c => ?_) (fun c => ?_)
    · replace h := h.1 c
      exact h
    · replace h := h.2 c
      refine st_aload_n (pc := 19) dX8_hasRoom_19 rfl rfl ?_
      obtain ⟨hk3, h⟩ := h
      obtain ⟨mc2, ms2, K2, hC, e1, e2, h⟩ := h
      refine sg_VV (pc := 20) (av := []) (st := []) (K := K2) dX8_hasRoom_20 ck_8_87 rfl (by decide) hk3 (by show (0 : Nat) ≤ 8; decide) hC e1 e2 (fun m2 hK => ?_) rfl
      replace h := h m2 hK
      exact h

theorem sg_X8_hasRoom_23 {d bc bs : Nat} {a0 : Nat} {a1 : Nat} {a2 : Int} {μ : Mem} {Q : Option (Option AV) → Mem → Prop}
    (h : mK μ a1 = 7 ∧ ∃ (mc1 ms1 : Nat) (K1 : Int → Mem → Prop), Cl d mc1 ms1 mX6_isGood [vr a1] μ (KI K1) ∧ mc1 ≤ bc ∧ ms1 ≤ bs ∧ (∀ x1 m1, K1 x1 m1 → (x1 = 0 ∨ x1 = 1) ∧ Q (some (some (vi x1))) m1)) :
    Wp (d + 1) bc bs mX8_hasRoom 23 [some (vr a0), some (vr a1), some (vi a2)] [] μ Q := by
  refine st_aload_n (pc := 23) dX8_hasRoom_23 rfl rfl ?_
  obtain ⟨hk1, h⟩ := h
  obtain ⟨mc1, ms1, K1, hC, e1, e2, h⟩ := h
  refine sg_VI (pc := 24) (av := []) (st := []) (K := K1) dX8_hasRoom_24 ck_8_47 rfl (by decide) hk1 (by show (0 : Nat) ≤ 8; decide) hC e1 e2 (fun x1 m1 hK => ?_) rfl
  replace h := h x1 m1 hK
  exact st_ireturn (pc := 27) dX8_hasRoom_27 (Or.inr ⟨rfl, h.1⟩) h.2

theorem sg_X8_addTick_0 {d bc bs : Nat} {a0 : Nat} {a1 : Int} {a2 : Int} {a3 : Int} {μ : Mem} {Q : Option (Option AV) → Mem → Prop}
    (h : mK μ a0 = 9 ∧ (((mD μ a0 4) < 1000 → mK μ (mR μ a0 0) = 20 ∧ ((0 : Int) ≤ (mD μ a0 4) ∧ (mD μ a0 4) < (mN μ (mR μ a0 0) : Int)) ∧ (∀ m1, m1 = sD μ (mR μ a0 0) (mD μ a0 4) a1 → mK m1 (mR m1 a0 1) = 20 ∧ ((0 : Int) ≤ (mD m1 a0 4) ∧ (mD m1 a0 4) < (mN m1 (mR m1 a0 1) : Int)) ∧ (∀ m2, m2 = sD m1 (mR m1 a0 1) (mD m1 a0 4) a2 → mK m2 (mR m2 a0 2) = 20 ∧ ((0 : Int) ≤ (mD m2 a0 4) ∧ (mD m2 a0 4) < (mN m2 (mR m2 a0 2) : Int)) ∧ (∀ m3, m3 = sD m2 (mR m2 a0 2) (mD m2 a0 4) (mD m2 a0 6) → mK m3 (mR m3 a0 3) = 20 ∧ ((0 : Int) ≤ (mD m3 a0 4) ∧ (mD m3 a0 4) < (mN m3 (mR m3 a0 3) : Int)) ∧ (∀ m4, m4 = sD m3 (mR m3 a0 3) (mD m3 a0 4) a3 → (∀ m5, m5 = sD m4 a0 4 (w32 ((mD m4 a0 4) + 1)) → Q (some none) m5)))))) ∧ (¬ (mD μ a0 4) < 1000 → Q (some none) μ))) :
    Wp d bc bs mX8_addTick 0 [some (vr a0), some (vi a1), some (vi a2), some (vi a3)] [] μ Q := by
  refine st_aload_n (pc := 0) dX8_addTick_0 rfl rfl ?_
  obtain ⟨hk1, h⟩ := h
  refine sg_gfI (pc := 1) (J := 4) dX8_addTick_1 fl_8_24 (by decide) rfl hk1 ?_
  refine sg_sipush (pc := 4) dX8_addTick_4 (by omega) (by decide) ?_
  refine st_icmplt (pc := 7) (tgt := 11) dX8_addTick_7 rfl (fun c => ?_) (fun c => ?_)
  · replace h := h.1 c
    refine st_aload_n (pc := 11) dX8_addTick_11 rfl rfl ?_
    refine sg_gfR (pc := 12) (J := 0) dX8_addTick_12 fl_8_9 rfl hk1 ?_
    refine st_aload_n (pc := 15) dX8_addTick_15 rfl rfl ?_
    refine sg_gfI (pc := 16) (J := 4) dX8_addTick_16 fl_8_24 (by decide) rfl hk1 ?_
    refine st_iload_n (pc := 19) dX8_addTick_19 rfl rfl ?_
    obtain ⟨hk2, h⟩ := h
    obtain ⟨h1, h⟩ := h
    refine st_iastore (pc := 20) dX8_addTick_20 hk2 h1.1 h1.2 ?_
    refine Wp.nameM (fun m1 em1 => ?_)
    replace h := h m1 em1
    refine st_aload_n (pc := 21) dX8_addTick_21 rfl rfl ?_
    refine sg_gfR (pc := 22) (J := 1) dX8_addTick_22 fl_8_15 rfl (by cases em1; exact hk1) ?_
    refine st_aload_n (pc := 25) dX8_addTick_25 rfl rfl ?_
    refine sg_gfI (pc := 26) (J := 4) dX8_addTick_26 fl_8_24 (by decide) rfl (by cases em1; exact hk1) ?_
    refine st_iload_n (pc := 29) dX8_addTick_29 rfl rfl ?_
    obtain ⟨hk3, h⟩ := h
    obtain ⟨h1, h⟩ := h
    refine st_iastore (pc := 30) dX8_addTick_30 hk3 h1.1 h1.2 ?_
    refine Wp.nameM (fun m2 em2 => ?_)
    replace h := h m2 em2
    refine st_aload_n (pc := 31) dX8_addTick_31 rfl rfl ?_
    refine sg_gfR (pc := 32) (J := 2) dX8_addTick_32 fl_8_18 rfl (by cases em2; cases em1; exact hk1) ?_
    refine st_aload_n (pc := 35) dX8_addTick_35 rfl rfl ?_
    refine sg_gfI (pc := 36) (J := 4) dX8_addTick_36 fl_8_24 (by decide) rfl (by cases em2; cases em1; exact hk1) ?_
    refine st_aload_n (pc := 39) dX8_addTick_39 rfl rfl ?_
    refine sg_gfI (pc := 40) (J := 6) dX8_addTick_40 fl_8_31 (by decide) rfl (by cases em2; cases em1; exact hk1) ?_
    obtain ⟨hk4, h⟩ := h
    obtain ⟨h1, h⟩ := h
    refine st_iastore (pc := 43) dX8_addTick_43 hk4 h1.1 h1.2 ?_
    refine Wp.nameM (fun m3 em3 => ?_)
    replace h := h m3 em3
    refine st_aload_n (pc := 44) dX8_addTick_44 rfl rfl ?_
    refine sg_gfR (pc := 45) (J := 3) dX8_addTick_45 fl_8_21 rfl (by cases em3; cases em2; cases em1; exact hk1) ?_
    refine st_aload_n (pc := 48) dX8_addTick_48 rfl rfl ?_
    refine sg_gfI (pc := 49) (J := 4) dX8_addTick_49 fl_8_24 (by decide) rfl (by cases em3; cases em2; cases em1; exact hk1) ?_
    refine st_iload_n (pc := 52) dX8_addTick_52 rfl rfl ?_
    obtain ⟨hk5, h⟩ := h
    obtain ⟨h1, h⟩ := h
    refine st_iastore (pc := 53) dX8_addTick_53 hk5 h1.1 h1.2 ?_
    refine Wp.nameM (fun m4 em4 => ?_)
    replace h := h m4 em4
    refine st_aload_n (pc := 54) dX8_addTick_54 rfl rfl ?_
    refine st_dup (pc := 55) dX8_addTick_55 rfl ?_
    refine sg_gfI (pc := 56) (J := 4) dX8_addTick_56 fl_8_24 (by decide) rfl (by cases em4; cases em3; cases em2; cases em1; exact hk1) ?_
    refine sg_iconst (pc := 59) dX8_addTick_59 (by omega) ?_
    refine st_iadd (pc := 60) dX8_addTick_60 ?_
    refine sg_pfI (pc := 61) (J := 4) dX8_addTick_61 fl_8_24 rfl (Or.inl rfl) (by cases em4; cases em3; cases em2; cases em1; exact hk1) ?_
    refine Wp.nameM (fun m5 em5 => ?_)
    replace h := h m5 em5
    exact st_return (pc := 64) dX8_addTick_64 rfl h
  · replace h := h.2 c
    exact st_return (pc := 10) dX8_addTick_10 rfl h

theorem sg_X8_addSteps_0 {d bc bs : Nat} {a0 : Nat} {a1 : Int} {a2 : Int} {a3 : Int} {a4 : Int} {μ : Mem} {Q : Option (Option AV) → Mem → Prop}
    (h : Wp (d + 1) bc bs mX8_addSteps 3 [some (vr a0), some (vi a1), some (vi a2), some (vi a3), some (vi a4), some (vi 0), none, none] [] μ Q) :
    Wp (d + 1) bc bs mX8_addSteps 0 [some (vr a0), some (vi a1), some (vi a2), some (vi a3), some (vi a4), none, none, none] [] μ Q := by
  refine sg_iconst (pc := 0) dX8_addSteps_0 (by omega) ?_
  refine sg_istore (pc := 1) (ls' := [some (vr a0), some (vi a1), some (vi a2), some (vi a3), some (vi a4), some (vi 0), none, none]) dX8_addSteps_1 (by show (5 : Nat) < 8; decide) rfl ?_
  exact h

theorem sg_X8_addSteps_3 {d bc bs : Nat} {a0 : Nat} {a1 : Int} {a2 : Int} {a3 : Int} {a4 : Int} {a5 : Int} {μ : Mem} {Q : Option (Option AV) → Mem → Prop}
    (h : (a4 ≤ a5 → Q (some none) μ) ∧ (¬ a4 ≤ a5 → mK μ a0 = 9 ∧ ((¬ ((mD μ a0 5).tmod 2) = 0 → ∀ v1, v1 = w32 (-a3) → Wp (d + 1) bc bs mX8_addSteps 30 [some (vr a0), some (vi a1), some (vi a2), some (vi a3), some (vi a4), some (vi a5), some (vi v1), some (vi 0)] [] μ Q) ∧ (((mD μ a0 5).tmod 2) = 0 → Wp (d + 1) bc bs mX8_addSteps 30 [some (vr a0), some (vi a1), some (vi a2), some (vi a3), some (vi a4), some (vi a5), some (vi a3), some (vi 0)] [] μ Q)))) :
    Wp (d + 1) bc bs mX8_addSteps 3 [some (vr a0), some (vi a1), some (vi a2), some (vi a3), some (vi a4), some (vi a5), none, none] [] μ Q := by
  refine st_iload (pc := 3) dX8_addSteps_3 rfl ?_
  refine st_iload (pc := 5) dX8_addSteps_5 rfl ?_
  refine st_icmpge (pc := 7) (tgt := 82) dX8_addSteps_7 rfl (fun c => ?_) (fun c => ?_)
  · replace h := h.1 c
    exact st_return (pc := 82) dX8_addSteps_82 rfl h
  · replace h := h.2 c
    refine st_aload_n (pc := 10) dX8_addSteps_10 rfl rfl ?_
    obtain ⟨hk1, h⟩ := h
    refine sg_gfI (pc := 11) (J := 5) dX8_addSteps_11 fl_8_28 (by decide) rfl hk1 ?_
    refine sg_iconst (pc := 14) dX8_addSteps_14 (by omega) ?_
    refine st_irem (pc := 15) dX8_addSteps_15 (by omega) ?_
    refine st_ifne (pc := 16) (tgt := 23) dX8_addSteps_16 rfl (fun c => ?_) (fun c => ?_)
    · replace h := h.1 c
      refine st_iload_n (pc := 23) dX8_addSteps_23 rfl rfl ?_
      refine st_ineg (pc := 24) dX8_addSteps_24 ?_
      refine sg_istore (pc := 25) (ls' := [some (vr a0), some (vi a1), some (vi a2), some (vi a3), some (vi a4), some (vi a5), some (vi (w32 (-a3))), none]) dX8_addSteps_25 (by show (6 : Nat) < 8; decide) rfl ?_
      refine Wp.nameL (ls2 := fun v => [some (vr a0), some (vi a1), some (vi a2), some (vi a3), some (vi a4), some (vi a5), some (vi v), none]) 6 _ rfl (fun _ => rfl) (fun v1 ev1 => ?_)
      replace h := h v1 ev1
      refine sg_iconst (pc := 27) dX8_addSteps_27 (by omega) ?_
      refine sg_istore (pc := 28) (ls' := [some (vr a0), some (vi a1), some (vi a2), some (vi a3), some (vi a4), some (vi a5), some (vi v1), some (vi 0)]) dX8_addSteps_28 (by show (7 : Nat) < 8; decide) rfl ?_
      exact h
    · replace h := h.2 c
      refine st_iload_n (pc := 19) dX8_addSteps_19 rfl rfl ?_
      refine st_goto (pc := 20) dX8_addSteps_20 rfl ?_
      refine sg_istore (pc := 25) (ls' := [some (vr a0), some (vi a1), some (vi a2), some (vi a3), some (vi a4), some (vi a5), some (vi a3), none]) dX8_addSteps_25 (by show (6 : Nat) < 8; decide) rfl ?_
      refine sg_iconst (pc := 27) dX8_addSteps_27 (by omega) ?_
      refine sg_istore (pc := 28) (ls' := [some (vr a0), some (vi a1), some (vi a2), some (vi a3), some (vi a4), some (vi a5), some (vi a3), some (vi 0)]) dX8_addSteps_28 (by show (7 : Nat) < 8; decide) rfl ?_
      exact h

theorem sg_X8_addSteps_30 {d bc bs : Nat} {a0 : Nat} {a1 : Int} {a2 : Int} {a3 : Int} {a4 : Int} {a5 : Int} {a6 : Int} {a7 : Int} {μ : Mem} {Q : Option (Option AV) → Mem → Prop}
    (h : (a2 ≤ a7 → mK μ a0 = 9 ∧ ((∀ m1, m1 = sD μ a0 5 (w32 ((mD μ a0 5) + 1)) → ∀ v1, v1 = w32 (a5 + 1) → Wp (d + 1) bc bs mX8_addSteps 3 [some (vr a0), some (vi a1), some (vi a2), some (vi a3), some (vi a4), some (vi v1), none, none] [] m1 Q))) ∧ (¬ a2 ≤ a7 → ((w32 (a2.tdiv 2)) ≤ a7 → mK μ a0 = 9 ∧ (∃ (mc1 ms1 : Nat) (K1 : Mem → Prop), Cl d mc1 ms1 mX8_addTick [vr a0, vi (w32 (-a1)), vi a6, vi (mD μ a0 5)] μ (KV K1) ∧ mc1 ≤ bc ∧ ms1 ≤ bs ∧ (∀ m2, K1 m2 → ∀ v2, v2 = w32 (a7 + 1) → Wp (d + 1) (bc - mc1) (bs - ms1) mX8_addSteps 30 [some (vr a0), some (vi a1), some (vi a2), some (vi a3), some (vi a4), some (vi a5), some (vi a6), some (vi v2)] [] m2 Q))) ∧ (¬ (w32 (a2.tdiv 2)) ≤ a7 → mK μ a0 = 9 ∧ (∃ (mc2 ms2 : Nat) (K2 : Mem → Prop), Cl d mc2 ms2 mX8_addTick [vr a0, vi a1, vi a6, vi (mD μ a0 5)] μ (KV K2) ∧ mc2 ≤ bc ∧ ms2 ≤ bs ∧ (∀ m3, K2 m3 → ∀ v3, v3 = w32 (a7 + 1) → Wp (d + 1) (bc - mc2) (bs - ms2) mX8_addSteps 30 [some (vr a0), some (vi a1), some (vi a2), some (vi a3), some (vi a4), some (vi a5), some (vi a6), some (vi v3)] [] m3 Q))))) :
    Wp (d + 1) bc bs mX8_addSteps 30 [some (vr a0), some (vi a1), some (vi a2), some (vi a3), some (vi a4), some (vi a5), some (vi a6), some (vi a7)] [] μ Q := by
  refine st_iload (pc := 30) dX8_addSteps_30 rfl ?_
  refine st_iload_n (pc := 32) dX8_addSteps_32 rfl rfl ?_
  refine st_icmpge (pc := 33) (tgt := 66) dX8_addSteps_33 rfl (fun c => ?_) (fun c => ?_)
  · replace h := h.1 c
    refine st_aload_n (pc := 66) dX8_addSteps_66 rfl rfl ?_
    refine st_dup (pc := 67) dX8_addSteps_67 rfl ?_
    obtain ⟨hk1, h⟩ := h
    refine sg_gfI (pc := 68) (J := 5) dX8_addSteps_68 fl_8_28 (by decide) rfl hk1 ?_
    refine sg_iconst (pc := 71) dX8_addSteps_71 (by omega) ?_
    refine st_iadd (pc := 72) dX8_addSteps_72 ?_
    refine sg_pfI (pc := 73) (J := 5) dX8_addSteps_73 fl_8_28 rfl (Or.inl rfl) hk1 ?_
    refine Wp.nameM (fun m1 em1 => ?_)
    replace h := h m1 em1
    refine sg_iinc (pc := 76) (ls' := [some (vr a0), some (vi a1), some (vi a2), some (vi a3), some (vi a4), some (vi (w32 (a5 + 1))), some (vi a6), some (vi a7)]) dX8_addSteps_76 rfl rfl ?_
    refine Wp.nameL (ls2 := fun v => [some (vr a0), some (vi a1), some (vi a2), some (vi a3), some (vi a4), some (vi v), some (vi a6), some (vi a7)]) 5 _ rfl (fun _ => rfl) (fun v1 ev1 => ?_)
    replace h := h v1 ev1
    refine st_goto (pc := 79) dX8_addSteps_79 rfl ?_
    refine Wp.drop 6 rfl ?_
    refine Wp.drop 7 rfl ?_
    exact h
  · replace h := h.2 c
    refine st_aload_n (pc := 36) dX8_addSteps_36 rfl rfl ?_
    refine st_iload (pc := 37) dX8_addSteps_37 rfl ?_
    refine st_iload_n (pc := 39) dX8_addSteps_39 rfl rfl ?_
    refine sg_iconst (pc := 40) dX8_addSteps_40 (by omega) ?_
    refine st_idiv (pc := 41) dX8_addSteps_41 (by omega) ?_
    refine st_icmpge (pc := 42) (tgt := 49) dX8_addSteps_42 rfl (fun c => ?_) (fun c => ?_)
    · replace h := h.1 c
      refine st_iload_n (pc := 49) dX8_addSteps_49 rfl rfl ?_
      refine st_ineg (pc := 50) dX8_addSteps_50 ?_
      refine st_iload (pc := 51) dX8_addSteps_51 rfl ?_
      refine st_aload_n (pc := 53) dX8_addSteps_53 rfl rfl ?_
      obtain ⟨hk2, h⟩ := h
      refine sg_gfI (pc := 54) (J := 5) dX8_addSteps_54 fl_8_28 (by decide) rfl hk2 ?_
      obtain ⟨mc1, ms1, K1, hC, e1, e2, h⟩ := h
      refine sg_VV (pc := 57) (av := [vi (w32 (-a1)), vi a6, vi (mD μ a0 5)]) (st := []) (K := K1) dX8_addSteps_57 ck_8_83 rfl (by decide) hk2 (by show (0 : Nat) ≤ 8; decide) hC e1 e2 (fun m2 hK => ?_) rfl
      replace h := h m2 hK
      refine sg_iinc (pc := 60) (ls' := [some (vr a0), some (vi a1), some (vi a2), some (vi a3), some (vi a4), some (vi a5), some (vi a6), some (vi (w32 (a7 + 1)))]) dX8_addSteps_60 rfl rfl ?_
      refine Wp.nameL (ls2 := fun v => [some (vr a0), some (vi a1), some (vi a2), some (vi a3), some (vi a4), some (vi a5), some (vi a6), some (vi v)]) 7 _ rfl (fun _ => rfl) (fun v2 ev2 => ?_)
      replace h := h v2 ev2
      refine st_goto (pc := 63) dX8_addSteps_63 rfl ?_
      exact h
    · replace h := h.2 c
      refine st_iload_n (pc := 45) dX8_addSteps_45 rfl rfl ?_
      refine st_goto (pc := 46) dX8_addSteps_46 rfl ?_
      refine st_iload (pc := 51) dX8_addSteps_51 rfl ?_
      refine st_aload_n (pc := 53) dX8_addSteps_53 rfl rfl ?_
      obtain ⟨hk3, h⟩ := h
      refine sg_gfI (pc := 54) (J := 5) dX8_addSteps_54 fl_8_28 (by decide) rfl hk3 ?_
      obtain ⟨mc2, ms2, K2, hC, e1, e2, h⟩ := h
      refine sg_VV (pc := 57) (av := [vi a1, vi a6, vi (mD μ a0 5)]) (st := []) (K := K2) dX8_addSteps_57 ck_8_83 rfl (by decide) hk3 (by show (0 : Nat) ≤ 8; decide) hC e1 e2 (fun m3 hK => ?_) rfl
      replace h := h m3 hK
      refine sg_iinc (pc := 60) (ls' := [some (vr a0), some (vi a1), some (vi a2), some (vi a3), some (vi a4), some (vi a5), some (vi a6), some (vi (w32 (a7 + 1)))]) dX8_addSteps_60 rfl rfl ?_
      refine Wp.nameL (ls2 := fun v => [some (vr a0), some (vi a1), some (vi a2), some (vi a3), some (vi a4), some (vi a5), some (vi a6), some (vi v)]) 7 _ rfl (fun _ => rfl) (fun v3 ev3 => ?_)
      replace h := h v3 ev3
      refine st_goto (pc := 63) dX8_addSteps_63 rfl ?_
      exact h

theorem sg_X8_readSteps_0 {d bc bs : Nat} {a0 : Nat} {a1 : Nat} {μ : Mem} {Q : Option (Option AV) → Mem → Prop}
    (h : mK μ a1 = 7 ∧ ∃ (mc1 ms1 : Nat) (K1 : Int → Mem → Prop), Cl d mc1 ms1 mX6_number [vr a1, vi 0, vi 200] μ (KI K1) ∧ mc1 ≤ bc ∧ ms1 ≤ bs ∧ (∀ x1 m1, K1 x1 m1 → mK m1 a1 = 7 ∧ ∃ (mc2 ms2 : Nat) (K2 : Mem → Prop), Cl d mc2 ms2 mX6_need [vr a1, vi 44] m1 (KV K2) ∧ mc2 ≤ bc - mc1 ∧ ms2 ≤ bs - ms1 ∧ (∀ m2, K2 m2 → mK m2 a1 = 7 ∧ ∃ (mc3 ms3 : Nat) (K3 : Int → Mem → Prop), Cl d mc3 ms3 mX6_number [vr a1, vi 2, vi 40] m2 (KI K3) ∧ mc3 ≤ bc - mc1 - mc2 ∧ ms3 ≤ bs - ms1 - ms2 ∧ (∀ x2 m3, K3 x2 m3 → mK m3 a1 = 7 ∧ ∃ (mc4 ms4 : Nat) (K4 : Mem → Prop), Cl d mc4 ms4 mX6_need [vr a1, vi 44] m3 (KV K4) ∧ mc4 ≤ bc - mc1 - mc2 - mc3 ∧ ms4 ≤ bs - ms1 - ms2 - ms3 ∧ (∀ m4, K4 m4 → mK m4 a1 = 7 ∧ ∃ (mc5 ms5 : Nat) (K5 : Int → Mem → Prop), Cl d mc5 ms5 mX6_number [vr a1, vi 0, vi 200] m4 (KI K5) ∧ mc5 ≤ bc - mc1 - mc2 - mc3 - mc4 ∧ ms5 ≤ bs - ms1 - ms2 - ms3 - ms4 ∧ (∀ x3 m5, K5 x3 m5 → mK m5 a1 = 7 ∧ ∃ (mc6 ms6 : Nat) (K6 : Mem → Prop), Cl d mc6 ms6 mX6_need [vr a1, vi 42] m5 (KV K6) ∧ mc6 ≤ bc - mc1 - mc2 - mc3 - mc4 - mc5 ∧ ms6 ≤ bs - ms1 - ms2 - ms3 - ms4 - ms5 ∧ (∀ m6, K6 m6 → mK m6 a1 = 7 ∧ ∃ (mc7 ms7 : Nat) (K7 : Int → Mem → Prop), Cl d mc7 ms7 mX6_number [vr a1, vi 1, vi 50] m6 (KI K7) ∧ mc7 ≤ bc - mc1 - mc2 - mc3 - mc4 - mc5 - mc6 ∧ ms7 ≤ bs - ms1 - ms2 - ms3 - ms4 - ms5 - ms6 ∧ (∀ x4 m7, K7 x4 m7 → mK m7 a0 = 9 ∧ ∃ (mc8 ms8 : Nat) (K8 : Int → Mem → Prop), Cl d mc8 ms8 mX8_hasRoom [vr a0, vr a1, vi (w32 (x2 * x4))] m7 (KI K8) ∧ mc8 ≤ bc - mc1 - mc2 - mc3 - mc4 - mc5 - mc6 - mc7 ∧ ms8 ≤ bs - ms1 - ms2 - ms3 - ms4 - ms5 - ms6 - ms7 ∧ (∀ x5 m8, K8 x5 m8 → (x5 = 0 → Q (some none) m8) ∧ (¬ x5 = 0 → mK m8 a0 = 9 ∧ ∃ (mc9 ms9 : Nat) (K9 : Mem → Prop), Cl d mc9 ms9 mX8_addSteps [vr a0, vi x1, vi x2, vi x3, vi x4] m8 (KV K9) ∧ mc9 ≤ bc - mc1 - mc2 - mc3 - mc4 - mc5 - mc6 - mc7 - mc8 ∧ ms9 ≤ bs - ms1 - ms2 - ms3 - ms4 - ms5 - ms6 - ms7 - ms8 ∧ (∀ m9, K9 m9 → Q (some none) m9))))))))))) :
    Wp (d + 1) bc bs mX8_readSteps 0 [some (vr a0), some (vr a1), none, none, none, none] [] μ Q := by
  refine st_aload_n (pc := 0) dX8_readSteps_0 rfl rfl ?_
  refine sg_iconst (pc := 1) dX8_readSteps_1 (by omega) ?_
  refine sg_sipush (pc := 2) dX8_readSteps_2 (by omega) (by decide) ?_
  obtain ⟨hk1, h⟩ := h
  obtain ⟨mc1, ms1, K1, hC, e1, e2, h⟩ := h
  refine sg_VI (pc := 5) (av := [vi 0, vi 200]) (st := []) (K := K1) dX8_readSteps_5 ck_8_64 rfl (by decide) hk1 (by show (0 : Nat) ≤ 8; decide) hC e1 e2 (fun x1 m1 hK => ?_) rfl
  replace h := h x1 m1 hK
  refine sg_istore_n (pc := 8) (ls' := [some (vr a0), some (vr a1), some (vi x1), none, none, none]) dX8_readSteps_8 rfl (by show (2 : Nat) < 6; decide) rfl ?_
  refine st_aload_n (pc := 9) dX8_readSteps_9 rfl rfl ?_
  refine sg_bipush (pc := 10) dX8_readSteps_10 (by omega) (by decide) ?_
  obtain ⟨hk2, h⟩ := h
  obtain ⟨mc2, ms2, K2, hC, e1, e2, h⟩ := h
  refine sg_VV (pc := 12) (av := [vi 44]) (st := []) (K := K2) dX8_readSteps_12 ck_8_71 rfl (by decide) hk2 (by show (0 : Nat) ≤ 8; decide) hC e1 e2 (fun m2 hK => ?_) rfl
  replace h := h m2 hK
  refine st_aload_n (pc := 15) dX8_readSteps_15 rfl rfl ?_
  refine sg_iconst (pc := 16) dX8_readSteps_16 (by omega) ?_
  refine sg_bipush (pc := 17) dX8_readSteps_17 (by omega) (by decide) ?_
  obtain ⟨hk3, h⟩ := h
  obtain ⟨mc3, ms3, K3, hC, e1, e2, h⟩ := h
  refine sg_VI (pc := 19) (av := [vi 2, vi 40]) (st := []) (K := K3) dX8_readSteps_19 ck_8_64 rfl (by decide) hk3 (by show (0 : Nat) ≤ 8; decide) hC e1 e2 (fun x2 m3 hK => ?_) rfl
  replace h := h x2 m3 hK
  refine sg_istore_n (pc := 22) (ls' := [some (vr a0), some (vr a1), some (vi x1), some (vi x2), none, none]) dX8_readSteps_22 rfl (by show (3 : Nat) < 6; decide) rfl ?_
  refine st_aload_n (pc := 23) dX8_readSteps_23 rfl rfl ?_
  refine sg_bipush (pc := 24) dX8_readSteps_24 (by omega) (by decide) ?_
  obtain ⟨hk4, h⟩ := h
  obtain ⟨mc4, ms4, K4, hC, e1, e2, h⟩ := h
  refine sg_VV (pc := 26) (av := [vi 44]) (st := []) (K := K4) dX8_readSteps_26 ck_8_71 rfl (by decide) hk4 (by show (0 : Nat) ≤ 8; decide) hC e1 e2 (fun m4 hK => ?_) rfl
  replace h := h m4 hK
  refine st_aload_n (pc := 29) dX8_readSteps_29 rfl rfl ?_
  refine sg_iconst (pc := 30) dX8_readSteps_30 (by omega) ?_
  refine sg_sipush (pc := 31) dX8_readSteps_31 (by omega) (by decide) ?_
  obtain ⟨hk5, h⟩ := h
  obtain ⟨mc5, ms5, K5, hC, e1, e2, h⟩ := h
  refine sg_VI (pc := 34) (av := [vi 0, vi 200]) (st := []) (K := K5) dX8_readSteps_34 ck_8_64 rfl (by decide) hk5 (by show (0 : Nat) ≤ 8; decide) hC e1 e2 (fun x3 m5 hK => ?_) rfl
  replace h := h x3 m5 hK
  refine sg_istore (pc := 37) (ls' := [some (vr a0), some (vr a1), some (vi x1), some (vi x2), some (vi x3), none]) dX8_readSteps_37 (by show (4 : Nat) < 6; decide) rfl ?_
  refine st_aload_n (pc := 39) dX8_readSteps_39 rfl rfl ?_
  refine sg_bipush (pc := 40) dX8_readSteps_40 (by omega) (by decide) ?_
  obtain ⟨hk6, h⟩ := h
  obtain ⟨mc6, ms6, K6, hC, e1, e2, h⟩ := h
  refine sg_VV (pc := 42) (av := [vi 42]) (st := []) (K := K6) dX8_readSteps_42 ck_8_71 rfl (by decide) hk6 (by show (0 : Nat) ≤ 8; decide) hC e1 e2 (fun m6 hK => ?_) rfl
  replace h := h m6 hK
  refine st_aload_n (pc := 45) dX8_readSteps_45 rfl rfl ?_
  refine sg_iconst (pc := 46) dX8_readSteps_46 (by omega) ?_
  refine sg_bipush (pc := 47) dX8_readSteps_47 (by omega) (by decide) ?_
  obtain ⟨hk7, h⟩ := h
  obtain ⟨mc7, ms7, K7, hC, e1, e2, h⟩ := h
  refine sg_VI (pc := 49) (av := [vi 1, vi 50]) (st := []) (K := K7) dX8_readSteps_49 ck_8_64 rfl (by decide) hk7 (by show (0 : Nat) ≤ 8; decide) hC e1 e2 (fun x4 m7 hK => ?_) rfl
  replace h := h x4 m7 hK
  refine sg_istore (pc := 52) (ls' := [some (vr a0), some (vr a1), some (vi x1), some (vi x2), some (vi x3), some (vi x4)]) dX8_readSteps_52 (by show (5 : Nat) < 6; decide) rfl ?_
  refine st_aload_n (pc := 54) dX8_readSteps_54 rfl rfl ?_
  refine st_aload_n (pc := 55) dX8_readSteps_55 rfl rfl ?_
  refine st_iload_n (pc := 56) dX8_readSteps_56 rfl rfl ?_
  refine st_iload (pc := 57) dX8_readSteps_57 rfl ?_
  refine st_imul (pc := 59) dX8_readSteps_59 ?_
  obtain ⟨hk8, h⟩ := h
  obtain ⟨mc8, ms8, K8, hC, e1, e2, h⟩ := h
  refine sg_VI (pc := 60) (av := [vr a1, vi (w32 (x2 * x4))]) (st := []) (K := K8) dX8_readSteps_60 ck_8_75 rfl (by decide) hk8 (by show (0 : Nat) ≤ 8; decide) hC e1 e2 (fun x5 m8 hK => ?_) rfl
  replace h := h x5 m8 hK
  refine st_ifeq (pc := 63) (tgt := 76) dX8_readSteps_63 rfl (fun c => ?_) (fun c => ?_)
  · replace h := h.1 c
    exact st_return (pc := 76) dX8_readSteps_76 rfl h
  · replace h := h.2 c
    refine st_aload_n (pc := 66) dX8_readSteps_66 rfl rfl ?_
    refine st_iload_n (pc := 67) dX8_readSteps_67 rfl rfl ?_
    refine st_iload_n (pc := 68) dX8_readSteps_68 rfl rfl ?_
    refine st_iload (pc := 69) dX8_readSteps_69 rfl ?_
    refine st_iload (pc := 71) dX8_readSteps_71 rfl ?_
    obtain ⟨hk9, h⟩ := h
    obtain ⟨mc9, ms9, K9, hC, e1, e2, h⟩ := h
    refine sg_VV (pc := 73) (av := [vi x1, vi x2, vi x3, vi x4]) (st := []) (K := K9) dX8_readSteps_73 ck_8_79 rfl (by decide) hk9 (by show (0 : Nat) ≤ 8; decide) hC e1 e2 (fun m9 hK => ?_) rfl
    replace h := h m9 hK
    exact st_return (pc := 76) dX8_readSteps_76 rfl h

theorem sg_X8_readStand_0 {d bc bs : Nat} {a0 : Nat} {a1 : Nat} {μ : Mem} {Q : Option (Option AV) → Mem → Prop}
    (h : mK μ a1 = 7 ∧ ∃ (mc1 ms1 : Nat) (K1 : Int → Mem → Prop), Cl d mc1 ms1 mX6_number [vr a1, vi 1, vi 99] μ (KI K1) ∧ mc1 ≤ bc ∧ ms1 ≤ bs ∧ (∀ x1 m1, K1 x1 m1 → mK m1 a0 = 9 ∧ ∃ (mc2 ms2 : Nat) (K2 : Int → Mem → Prop), Cl d mc2 ms2 mX8_hasRoom [vr a0, vr a1, vi x1] m1 (KI K2) ∧ mc2 ≤ bc - mc1 ∧ ms2 ≤ bs - ms1 ∧ (∀ x2 m2, K2 x2 m2 → (x2 = 0 → Q (some none) m2) ∧ (¬ x2 = 0 → Wp (d + 1) (bc - mc1 - mc2) (bs - ms1 - ms2) mX8_readStand 19 [some (vr a0), some (vr a1), some (vi x1), some (vi 0)] [] m2 Q)))) :
    Wp (d + 1) bc bs mX8_readStand 0 [some (vr a0), some (vr a1), none, none] [] μ Q := by
  refine st_aload_n (pc := 0) dX8_readStand_0 rfl rfl ?_
  refine sg_iconst (pc := 1) dX8_readStand_1 (by omega) ?_
  refine sg_bipush (pc := 2) dX8_readStand_2 (by omega) (by decide) ?_
  obtain ⟨hk1, h⟩ := h
  obtain ⟨mc1, ms1, K1, hC, e1, e2, h⟩ := h
  refine sg_VI (pc := 4) (av := [vi 1, vi 99]) (st := []) (K := K1) dX8_readStand_4 ck_8_64 rfl (by decide) hk1 (by show (0 : Nat) ≤ 8; decide) hC e1 e2 (fun x1 m1 hK => ?_) rfl
  replace h := h x1 m1 hK
  refine sg_istore_n (pc := 7) (ls' := [some (vr a0), some (vr a1), some (vi x1), none]) dX8_readStand_7 rfl (by show (2 : Nat) < 4; decide) rfl ?_
  refine st_aload_n (pc := 8) dX8_readStand_8 rfl rfl ?_
  refine st_aload_n (pc := 9) dX8_readStand_9 rfl rfl ?_
  refine st_iload_n (pc := 10) dX8_readStand_10 rfl rfl ?_
  obtain ⟨hk2, h⟩ := h
  obtain ⟨mc2, ms2, K2, hC, e1, e2, h⟩ := h
  refine sg_VI (pc := 11) (av := [vr a1, vi x1]) (st := []) (K := K2) dX8_readStand_11 ck_8_75 rfl (by decide) hk2 (by show (0 : Nat) ≤ 8; decide) hC e1 e2 (fun x2 m2 hK => ?_) rfl
  replace h := h x2 m2 hK
  refine st_ifeq (pc := 14) (tgt := 37) dX8_readStand_14 rfl (fun c => ?_) (fun c => ?_)
  · replace h := h.1 c
    exact st_return (pc := 37) dX8_readStand_37 rfl h
  · replace h := h.2 c
    refine sg_iconst (pc := 17) dX8_readStand_17 (by omega) ?_
    refine sg_istore_n (pc := 18) (ls' := [some (vr a0), some (vr a1), some (vi x1), some (vi 0)]) dX8_readStand_18 rfl (by show (3 : Nat) < 4; decide) rfl ?_
    exact h

theorem sg_X8_readStand_19 {d bc bs : Nat} {a0 : Nat} {a1 : Nat} {a2 : Int} {a3 : Int} {μ : Mem} {Q : Option (Option AV) → Mem → Prop}
    (h : (a2 ≤ a3 → Q (some none) μ) ∧ (¬ a2 ≤ a3 → mK μ a0 = 9 ∧ ∃ (mc1 ms1 : Nat) (K1 : Mem → Prop), Cl d mc1 ms1 mX8_addTick [vr a0, vi 0, vi 0, vi (-1)] μ (KV K1) ∧ mc1 ≤ bc ∧ ms1 ≤ bs ∧ (∀ m1, K1 m1 → ∀ v1, v1 = w32 (a3 + 1) → Wp (d + 1) (bc - mc1) (bs - ms1) mX8_readStand 19 [some (vr a0), some (vr a1), some (vi a2), some (vi v1)] [] m1 Q))) :
    Wp (d + 1) bc bs mX8_readStand 19 [some (vr a0), some (vr a1), some (vi a2), some (vi a3)] [] μ Q := by
  refine st_iload_n (pc := 19) dX8_readStand_19 rfl rfl ?_
  refine st_iload_n (pc := 20) dX8_readStand_20 rfl rfl ?_
  refine st_icmpge (pc := 21) (tgt := 37) dX8_readStand_21 rfl (fun c => ?_) (fun c => ?_)
  · replace h := h.1 c
    exact st_return (pc := 37) dX8_readStand_37 rfl h
  · replace h := h.2 c
    refine st_aload_n (pc := 24) dX8_readStand_24 rfl rfl ?_
    refine sg_iconst (pc := 25) dX8_readStand_25 (by omega) ?_
    refine sg_iconst (pc := 26) dX8_readStand_26 (by omega) ?_
    refine sg_iconst (pc := 27) dX8_readStand_27 (by omega) ?_
    obtain ⟨hk1, h⟩ := h
    obtain ⟨mc1, ms1, K1, hC, e1, e2, h⟩ := h
    refine sg_VV (pc := 28) (av := [vi 0, vi 0, vi (-1)]) (st := []) (K := K1) dX8_readStand_28 ck_8_83 rfl (by decide) hk1 (by show (0 : Nat) ≤ 8; decide) hC e1 e2 (fun m1 hK => ?_) rfl
    replace h := h m1 hK
    refine sg_iinc (pc := 31) (ls' := [some (vr a0), some (vr a1), some (vi a2), some (vi (w32 (a3 + 1)))]) dX8_readStand_31 rfl rfl ?_
    refine Wp.nameL (ls2 := fun v => [some (vr a0), some (vr a1), some (vi a2), some (vi v)]) 3 _ rfl (fun _ => rfl) (fun v1 ev1 => ?_)
    replace h := h v1 ev1
    refine st_goto (pc := 34) dX8_readStand_34 rfl ?_
    exact h

theorem sg_X8_readJerk_0 {d bc bs : Nat} {a0 : Nat} {a1 : Nat} {μ : Mem} {Q : Option (Option AV) → Mem → Prop}
    (h : mK μ a1 = 7 ∧ ∃ (mc1 ms1 : Nat) (K1 : Int → Mem → Prop), Cl d mc1 ms1 mX6_skip [vr a1, vi 45] μ (KI K1) ∧ mc1 ≤ bc ∧ ms1 ≤ bs ∧ (∀ x1 m1, K1 x1 m1 → mK m1 a1 = 7 ∧ ∃ (mc2 ms2 : Nat) (K2 : Int → Mem → Prop), Cl d mc2 ms2 mX6_number [vr a1, vi 0, vi 200] m1 (KI K2) ∧ mc2 ≤ bc - mc1 ∧ ms2 ≤ bs - ms1 ∧ (∀ x2 m2, K2 x2 m2 → mK m2 a0 = 9 ∧ ∃ (mc3 ms3 : Nat) (K3 : Int → Mem → Prop), Cl d mc3 ms3 mX8_hasRoom [vr a0, vr a1, vi 1] m2 (KI K3) ∧ mc3 ≤ bc - mc1 - mc2 ∧ ms3 ≤ bs - ms1 - ms2 ∧ (∀ x3 m3, K3 x3 m3 → (x3 = 0 → Q (some none) m3) ∧ (¬ x3 = 0 → (x1 = 0 → mK m3 a0 = 9 ∧ ∃ (mc4 ms4 : Nat) (K4 : Mem → Prop), Cl d mc4 ms4 mX8_addTick [vr a0, vi x2, vi 0, vi (-1)] m3 (KV K4) ∧ mc4 ≤ bc - mc1 - mc2 - mc3 ∧ ms4 ≤ bs - ms1 - ms2 - ms3 ∧ (∀ m4, K4 m4 → Q (some none) m4)) ∧ (¬ x1 = 0 → mK m3 a0 = 9 ∧ ∃ (mc5 ms5 : Nat) (K5 : Mem → Prop), Cl d mc5 ms5 mX8_addTick [vr a0, vi (w32 (-x2)), vi 0, vi (-1)] m3 (KV K5) ∧ mc5 ≤ bc - mc1 - mc2 - mc3 ∧ ms5 ≤ bs - ms1 - ms2 - ms3 ∧ (∀ m5, K5 m5 → Q (some none) m5))))))) :
    Wp (d + 1) bc bs mX8_readJerk 0 [some (vr a0), some (vr a1), none, none] [] μ Q := by
  refine st_aload_n (pc := 0) dX8_readJerk_0 rfl rfl ?_
  refine sg_bipush (pc := 1) dX8_readJerk_1 (by omega) (by decide) ?_
  obtain ⟨hk1, h⟩ := h
  obtain ⟨mc1, ms1, K1, hC, e1, e2, h⟩ := h
  refine sg_VI (pc := 3) (av := [vi 45]) (st := []) (K := K1) dX8_readJerk_3 ck_8_51 rfl (by decide) hk1 (by show (0 : Nat) ≤ 8; decide) hC e1 e2 (fun x1 m1 hK => ?_) rfl
  replace h := h x1 m1 hK
  refine sg_istore_n (pc := 6) (ls' := [some (vr a0), some (vr a1), some (vi x1), none]) dX8_readJerk_6 rfl (by show (2 : Nat) < 4; decide) rfl ?_
  refine st_aload_n (pc := 7) dX8_readJerk_7 rfl rfl ?_
  refine sg_iconst (pc := 8) dX8_readJerk_8 (by omega) ?_
  refine sg_sipush (pc := 9) dX8_readJerk_9 (by omega) (by decide) ?_
  obtain ⟨hk2, h⟩ := h
  obtain ⟨mc2, ms2, K2, hC, e1, e2, h⟩ := h
  refine sg_VI (pc := 12) (av := [vi 0, vi 200]) (st := []) (K := K2) dX8_readJerk_12 ck_8_64 rfl (by decide) hk2 (by show (0 : Nat) ≤ 8; decide) hC e1 e2 (fun x2 m2 hK => ?_) rfl
  replace h := h x2 m2 hK
  refine sg_istore_n (pc := 15) (ls' := [some (vr a0), some (vr a1), some (vi x1), some (vi x2)]) dX8_readJerk_15 rfl (by show (3 : Nat) < 4; decide) rfl ?_
  refine st_aload_n (pc := 16) dX8_readJerk_16 rfl rfl ?_
  refine st_aload_n (pc := 17) dX8_readJerk_17 rfl rfl ?_
  refine sg_iconst (pc := 18) dX8_readJerk_18 (by omega) ?_
  obtain ⟨hk3, h⟩ := h
  obtain ⟨mc3, ms3, K3, hC, e1, e2, h⟩ := h
  refine sg_VI (pc := 19) (av := [vr a1, vi 1]) (st := []) (K := K3) dX8_readJerk_19 ck_8_75 rfl (by decide) hk3 (by show (0 : Nat) ≤ 8; decide) hC e1 e2 (fun x3 m3 hK => ?_) rfl
  replace h := h x3 m3 hK
  refine st_ifeq (pc := 22) (tgt := 41) dX8_readJerk_22 rfl (fun c => ?_) (fun c => ?_)
  · replace h := h.1 c
    exact st_return (pc := 41) dX8_readJerk_41 rfl h
  · replace h := h.2 c
    refine st_aload_n (pc := 25) dX8_readJerk_25 rfl rfl ?_
    refine st_iload_n (pc := 26) dX8_readJerk_26 rfl rfl ?_
    refine st_ifeq (pc := 27) (tgt := 35) dX8_readJerk_27 rfl (fun c => ?_) (fun c => ?_)
    · replace h := h.1 c
      refine st_iload_n (pc := 35) dX8_readJerk_35 rfl rfl ?_
      refine sg_iconst (pc := 36) dX8_readJerk_36 (by omega) ?_
      refine sg_iconst (pc := 37) dX8_readJerk_37 (by omega) ?_
      obtain ⟨hk4, h⟩ := h
      obtain ⟨mc4, ms4, K4, hC, e1, e2, h⟩ := h
      refine sg_VV (pc := 38) (av := [vi x2, vi 0, vi (-1)]) (st := []) (K := K4) dX8_readJerk_38 ck_8_83 rfl (by decide) hk4 (by show (0 : Nat) ≤ 8; decide) hC e1 e2 (fun m4 hK => ?_) rfl
      replace h := h m4 hK
      exact st_return (pc := 41) dX8_readJerk_41 rfl h
    · replace h := h.2 c
      refine st_iload_n (pc := 30) dX8_readJerk_30 rfl rfl ?_
      refine st_ineg (pc := 31) dX8_readJerk_31 ?_
      refine st_goto (pc := 32) dX8_readJerk_32 rfl ?_
      refine sg_iconst (pc := 36) dX8_readJerk_36 (by omega) ?_
      refine sg_iconst (pc := 37) dX8_readJerk_37 (by omega) ?_
      obtain ⟨hk5, h⟩ := h
      obtain ⟨mc5, ms5, K5, hC, e1, e2, h⟩ := h
      refine sg_VV (pc := 38) (av := [vi (w32 (-x2)), vi 0, vi (-1)]) (st := []) (K := K5) dX8_readJerk_38 ck_8_83 rfl (by decide) hk5 (by show (0 : Nat) ≤ 8; decide) hC e1 e2 (fun m5 hK => ?_) rfl
      replace h := h m5 hK
      exact st_return (pc := 41) dX8_readJerk_41 rfl h

theorem sg_X8_readPart_0 {d bc bs : Nat} {a0 : Nat} {a1 : Nat} {μ : Mem} {Q : Option (Option AV) → Mem → Prop}
    (h : mK μ a1 = 7 ∧ ∃ (mc1 ms1 : Nat) (K1 : Int → Mem → Prop), Cl d mc1 ms1 mX6_skip [vr a1, vi 103] μ (KI K1) ∧ mc1 ≤ bc ∧ ms1 ≤ bs ∧ (∀ x1 m1, K1 x1 m1 → (x1 = 0 → mK m1 a1 = 7 ∧ ∃ (mc2 ms2 : Nat) (K2 : Int → Mem → Prop), Cl d mc2 ms2 mX6_skip [vr a1, vi 115] m1 (KI K2) ∧ mc2 ≤ bc - mc1 ∧ ms2 ≤ bs - ms1 ∧ (∀ x2 m2, K2 x2 m2 → (x2 = 0 → mK m2 a1 = 7 ∧ ∃ (mc3 ms3 : Nat) (K3 : Int → Mem → Prop), Cl d mc3 ms3 mX6_skip [vr a1, vi 106] m2 (KI K3) ∧ mc3 ≤ bc - mc1 - mc2 ∧ ms3 ≤ bs - ms1 - ms2 ∧ (∀ x3 m3, K3 x3 m3 → (x3 = 0 → mK m3 a1 = 7 ∧ ∃ (mc4 ms4 : Nat) (K4 : Int → Mem → Prop), Cl d mc4 ms4 mX6_skip [vr a1, vi 119] m3 (KI K4) ∧ mc4 ≤ bc - mc1 - mc2 - mc3 ∧ ms4 ≤ bs - ms1 - ms2 - ms3 ∧ (∀ x4 m4, K4 x4 m4 → (x4 = 0 → mK m4 a1 = 7 ∧ ∃ (mc5 ms5 : Nat) (K5 : Mem → Prop), Cl d mc5 ms5 mX6_failHere [vr a1] m4 (KV K5) ∧ mc5 ≤ bc - mc1 - mc2 - mc3 - mc4 ∧ ms5 ≤ bs - ms1 - ms2 - ms3 - ms4 ∧ (∀ m5, K5 m5 → Q (some none) m5)) ∧ (¬ x4 = 0 → mK m4 a1 = 7 ∧ ∃ (mc6 ms6 : Nat) (K6 : Int → Mem → Prop), Cl d mc6 ms6 mX6_number [vr a1, vi 0, vi 50] m4 (KI K6) ∧ mc6 ≤ bc - mc1 - mc2 - mc3 - mc4 ∧ ms6 ≤ bs - ms1 - ms2 - ms3 - ms4 ∧ (∀ x5 m6, K6 x5 m6 → mK m6 a0 = 9 ∧ (∀ m7, m7 = sD m6 a0 6 x5 → Q (some none) m7))))) ∧ (¬ x3 = 0 → mK m3 a0 = 9 ∧ ∃ (mc7 ms7 : Nat) (K7 : Mem → Prop), Cl d mc7 ms7 mX8_readJerk [vr a0, vr a1] m3 (KV K7) ∧ mc7 ≤ bc - mc1 - mc2 - mc3 ∧ ms7 ≤ bs - ms1 - ms2 - ms3 ∧ (∀ m8, K7 m8 → Q (some none) m8)))) ∧ (¬ x2 = 0 → mK m2 a0 = 9 ∧ ∃ (mc8 ms8 : Nat) (K8 : Mem → Prop), Cl d mc8 ms8 mX8_readStand [vr a0, vr a1] m2 (KV K8) ∧ mc8 ≤ bc - mc1 - mc2 ∧ ms8 ≤ bs - ms1 - ms2 ∧ (∀ m9, K8 m9 → Q (some none) m9)))) ∧ (¬ x1 = 0 → mK m1 a0 = 9 ∧ ∃ (mc9 ms9 : Nat) (K9 : Mem → Prop), Cl d mc9 ms9 mX8_readSteps [vr a0, vr a1] m1 (KV K9) ∧ mc9 ≤ bc - mc1 ∧ ms9 ≤ bs - ms1 ∧ (∀ m10, K9 m10 → Q (some none) m10)))) :
    Wp (d + 1) bc bs mX8_readPart 0 [some (vr a0), some (vr a1)] [] μ Q := by
  refine st_aload_n (pc := 0) dX8_readPart_0 rfl rfl ?_
  refine sg_bipush (pc := 1) dX8_readPart_1 (by omega) (by decide) ?_
  obtain ⟨hk1, h⟩ := h
  obtain ⟨mc1, ms1, K1, hC, e1, e2, h⟩ := h
  refine sg_VI (pc := 3) (av := [vi 103]) (st := []) (K := K1) dX8_readPart_3 ck_8_51 rfl (by decide) hk1 (by show (0 : Nat) ≤ 8; decide) hC e1 e2 (fun x1 m1 hK => ?_) rfl
  replace h := h x1 m1 hK
  refine st_ifeq (pc := 6) (tgt := 17) dX8_readPart_6 rfl (fun c => ?_) (fun c => ?_)
  · replace h := h.1 c
    refine st_aload_n (pc := 17) dX8_readPart_17 rfl rfl ?_
    refine sg_bipush (pc := 18) dX8_readPart_18 (by omega) (by decide) ?_
    obtain ⟨hk2, h⟩ := h
    obtain ⟨mc2, ms2, K2, hC, e1, e2, h⟩ := h
    refine sg_VI (pc := 20) (av := [vi 115]) (st := []) (K := K2) dX8_readPart_20 ck_8_51 rfl (by decide) hk2 (by show (0 : Nat) ≤ 8; decide) hC e1 e2 (fun x2 m2 hK => ?_) rfl
    replace h := h x2 m2 hK
    refine st_ifeq (pc := 23) (tgt := 34) dX8_readPart_23 rfl (fun c => ?_) (fun c => ?_)
    · replace h := h.1 c
      refine st_aload_n (pc := 34) dX8_readPart_34 rfl rfl ?_
      refine sg_bipush (pc := 35) dX8_readPart_35 (by omega) (by decide) ?_
      obtain ⟨hk3, h⟩ := h
      obtain ⟨mc3, ms3, K3, hC, e1, e2, h⟩ := h
      refine sg_VI (pc := 37) (av := [vi 106]) (st := []) (K := K3) dX8_readPart_37 ck_8_51 rfl (by decide) hk3 (by show (0 : Nat) ≤ 8; decide) hC e1 e2 (fun x3 m3 hK => ?_) rfl
      replace h := h x3 m3 hK
      refine st_ifeq (pc := 40) (tgt := 51) dX8_readPart_40 rfl (fun c => ?_) (fun c => ?_)
      · replace h := h.1 c
        refine st_aload_n (pc := 51) dX8_readPart_51 rfl rfl ?_
        refine sg_bipush (pc := 52) dX8_readPart_52 (by omega) (by decide) ?_
        obtain ⟨hk4, h⟩ := h
        obtain ⟨mc4, ms4, K4, hC, e1, e2, h⟩ := h
        refine sg_VI (pc := 54) (av := [vi 119]) (st := []) (K := K4) dX8_readPart_54 ck_8_51 rfl (by decide) hk4 (by show (0 : Nat) ≤ 8; decide) hC e1 e2 (fun x4 m4 hK => ?_) rfl
        replace h := h x4 m4 hK
        refine st_ifeq (pc := 57) (tgt := 74) dX8_readPart_57 rfl (fun c => ?_) (fun c => ?_)
        · replace h := h.1 c
          refine st_aload_n (pc := 74) dX8_readPart_74 rfl rfl ?_
          obtain ⟨hk5, h⟩ := h
          obtain ⟨mc5, ms5, K5, hC, e1, e2, h⟩ := h
          refine sg_VV (pc := 75) (av := []) (st := []) (K := K5) dX8_readPart_75 ck_8_68 rfl (by decide) hk5 (by show (0 : Nat) ≤ 8; decide) hC e1 e2 (fun m5 hK => ?_) rfl
          replace h := h m5 hK
          exact st_return (pc := 78) dX8_readPart_78 rfl h
        · replace h := h.2 c
          refine st_aload_n (pc := 60) dX8_readPart_60 rfl rfl ?_
          refine st_aload_n (pc := 61) dX8_readPart_61 rfl rfl ?_
          refine sg_iconst (pc := 62) dX8_readPart_62 (by omega) ?_
          refine sg_bipush (pc := 63) dX8_readPart_63 (by omega) (by decide) ?_
          obtain ⟨hk6, h⟩ := h
          obtain ⟨mc6, ms6, K6, hC, e1, e2, h⟩ := h
          refine sg_VI (pc := 65) (av := [vi 0, vi 50]) (st := [vr a0]) (K := K6) dX8_readPart_65 ck_8_64 rfl (by decide) hk6 (by show (1 : Nat) ≤ 8; decide) hC e1 e2 (fun x5 m6 hK => ?_) rfl
          replace h := h x5 m6 hK
          obtain ⟨hk7, h⟩ := h
          refine sg_pfI (pc := 68) (J := 6) dX8_readPart_68 fl_8_31 rfl (Or.inl rfl) hk7 ?_
          refine Wp.nameM (fun m7 em7 => ?_)
          replace h := h m7 em7
          refine st_goto (pc := 71) dX8_readPart_71 rfl ?_
          exact st_return (pc := 78) dX8_readPart_78 rfl h
      · replace h := h.2 c
        refine st_aload_n (pc := 43) dX8_readPart_43 rfl rfl ?_
        refine st_aload_n (pc := 44) dX8_readPart_44 rfl rfl ?_
        obtain ⟨hk8, h⟩ := h
        obtain ⟨mc7, ms7, K7, hC, e1, e2, h⟩ := h
        refine sg_VV (pc := 45) (av := [vr a1]) (st := []) (K := K7) dX8_readPart_45 ck_8_61 rfl (by decide) hk8 (by show (0 : Nat) ≤ 8; decide) hC e1 e2 (fun m8 hK => ?_) rfl
        replace h := h m8 hK
        refine st_goto (pc := 48) dX8_readPart_48 rfl ?_
        exact st_return (pc := 78) dX8_readPart_78 rfl h
    · replace h := h.2 c
      refine st_aload_n (pc := 26) dX8_readPart_26 rfl rfl ?_
      refine st_aload_n (pc := 27) dX8_readPart_27 rfl rfl ?_
      obtain ⟨hk9, h⟩ := h
      obtain ⟨mc8, ms8, K8, hC, e1, e2, h⟩ := h
      refine sg_VV (pc := 28) (av := [vr a1]) (st := []) (K := K8) dX8_readPart_28 ck_8_58 rfl (by decide) hk9 (by show (0 : Nat) ≤ 8; decide) hC e1 e2 (fun m9 hK => ?_) rfl
      replace h := h m9 hK
      refine st_goto (pc := 31) dX8_readPart_31 rfl ?_
      exact st_return (pc := 78) dX8_readPart_78 rfl h
  · replace h := h.2 c
    refine st_aload_n (pc := 9) dX8_readPart_9 rfl rfl ?_
    refine st_aload_n (pc := 10) dX8_readPart_10 rfl rfl ?_
    obtain ⟨hk10, h⟩ := h
    obtain ⟨mc9, ms9, K9, hC, e1, e2, h⟩ := h
    refine sg_VV (pc := 11) (av := [vr a1]) (st := []) (K := K9) dX8_readPart_11 ck_8_55 rfl (by decide) hk10 (by show (0 : Nat) ≤ 8; decide) hC e1 e2 (fun m10 hK => ?_) rfl
    replace h := h m10 hK
    refine st_goto (pc := 14) dX8_readPart_14 rfl ?_
    exact st_return (pc := 78) dX8_readPart_78 rfl h

theorem sg_X8_read_0 {d bc bs : Nat} {a0 : Nat} {a1 : Nat} {μ : Mem} {Q : Option (Option AV) → Mem → Prop}
    (h : mK μ a0 = 9 ∧ ∃ (mc1 ms1 : Nat) (K1 : Mem → Prop), Cl d mc1 ms1 mX8_clear [vr a0] μ (KV K1) ∧ mc1 ≤ bc ∧ ms1 ≤ bs ∧ (∀ m1, K1 m1 → mK m1 a1 = 7 ∧ ∃ (mc2 ms2 : Nat) (K2 : Int → Mem → Prop), Cl d mc2 ms2 mX6_begin [vr a1, vi 60] m1 (KI K2) ∧ mc2 ≤ bc - mc1 ∧ ms2 ≤ bs - ms1 ∧ (∀ x1 m2, K2 x1 m2 → (¬ x1 = 0 → mK m2 a0 = 9 ∧ ∃ (mc3 ms3 : Nat) (K3 : Mem → Prop), Cl d mc3 ms3 mX8_readPart [vr a0, vr a1] m2 (KV K3) ∧ mc3 ≤ bc - mc1 - mc2 ∧ ms3 ≤ bs - ms1 - ms2 ∧ (∀ m3, K3 m3 → Wp (d + 1) (bc - mc1 - mc2 - mc3) (bs - ms1 - ms2 - ms3) mX8_read 21 [some (vr a0), some (vr a1), some (vi 0)] [] m3 Q)) ∧ (x1 = 0 → Q (some none) m2)))) :
    Wp (d + 1) bc bs mX8_read 0 [some (vr a0), some (vr a1), none] [] μ Q := by
  refine st_aload_n (pc := 0) dX8_read_0 rfl rfl ?_
  obtain ⟨hk1, h⟩ := h
  obtain ⟨mc1, ms1, K1, hC, e1, e2, h⟩ := h
  refine sg_VV (pc := 1) (av := []) (st := []) (K := K1) dX8_read_1 ck_8_34 rfl (by decide) hk1 (by show (0 : Nat) ≤ 8; decide) hC e1 e2 (fun m1 hK => ?_) rfl
  replace h := h m1 hK
  refine st_aload_n (pc := 4) dX8_read_4 rfl rfl ?_
  refine sg_bipush (pc := 5) dX8_read_5 (by omega) (by decide) ?_
  obtain ⟨hk2, h⟩ := h
  obtain ⟨mc2, ms2, K2, hC, e1, e2, h⟩ := h
  refine sg_VI (pc := 7) (av := [vi 60]) (st := []) (K := K2) dX8_read_7 ck_8_37 rfl (by decide) hk2 (by show (0 : Nat) ≤ 8; decide) hC e1 e2 (fun x1 m2 hK => ?_) rfl
  replace h := h x1 m2 hK
  refine st_ifne (pc := 10) (tgt := 14) dX8_read_10 rfl (fun c => ?_) (fun c => ?_)
  · replace h := h.1 c
    refine st_aload_n (pc := 14) dX8_read_14 rfl rfl ?_
    refine st_aload_n (pc := 15) dX8_read_15 rfl rfl ?_
    obtain ⟨hk3, h⟩ := h
    obtain ⟨mc3, ms3, K3, hC, e1, e2, h⟩ := h
    refine sg_VV (pc := 16) (av := [vr a1]) (st := []) (K := K3) dX8_read_16 ck_8_43 rfl (by decide) hk3 (by show (0 : Nat) ≤ 8; decide) hC e1 e2 (fun m3 hK => ?_) rfl
    replace h := h m3 hK
    refine sg_iconst (pc := 19) dX8_read_19 (by omega) ?_
    refine sg_istore_n (pc := 20) (ls' := [some (vr a0), some (vr a1), some (vi 0)]) dX8_read_20 rfl (by show (2 : Nat) < 3; decide) rfl ?_
    exact h
  · replace h := h.2 c
    exact st_return (pc := 13) dX8_read_13 rfl h

theorem sg_X8_read_21 {d bc bs : Nat} {a0 : Nat} {a1 : Nat} {a2 : Int} {μ : Mem} {Q : Option (Option AV) → Mem → Prop}
    (h : (60 ≤ a2 → Q (some none) μ) ∧ (¬ 60 ≤ a2 → mK μ a1 = 7 ∧ ∃ (mc1 ms1 : Nat) (K1 : Int → Mem → Prop), Cl d mc1 ms1 mX6_isGood [vr a1] μ (KI K1) ∧ mc1 ≤ bc ∧ ms1 ≤ bs ∧ (∀ x1 m1, K1 x1 m1 → (x1 = 0 → Q (some none) m1) ∧ (¬ x1 = 0 → mK m1 a1 = 7 ∧ ∃ (mc2 ms2 : Nat) (K2 : Int → Mem → Prop), Cl d mc2 ms2 mX6_skip [vr a1, vi 59] m1 (KI K2) ∧ mc2 ≤ bc - mc1 ∧ ms2 ≤ bs - ms1 ∧ (∀ x2 m2, K2 x2 m2 → (x2 = 0 → Q (some none) m2) ∧ (¬ x2 = 0 → mK m2 a0 = 9 ∧ ∃ (mc3 ms3 : Nat) (K3 : Mem → Prop), Cl d mc3 ms3 mX8_readPart [vr a0, vr a1] m2 (KV K3) ∧ mc3 ≤ bc - mc1 - mc2 ∧ ms3 ≤ bs - ms1 - ms2 ∧ (∀ m3, K3 m3 → ∀ v1, v1 = w32 (a2 + 1) → Wp (d + 1) (bc - mc1 - mc2 - mc3) (bs - ms1 - ms2 - ms3) mX8_read 21 [some (vr a0), some (vr a1), some (vi v1)] [] m3 Q))))))) :
    Wp (d + 1) bc bs mX8_read 21 [some (vr a0), some (vr a1), some (vi a2)] [] μ Q := by
  refine st_iload_n (pc := 21) dX8_read_21 rfl rfl ?_
  refine sg_bipush (pc := 22) dX8_read_22 (by omega) (by decide) ?_
  refine st_icmpge (pc := 24) (tgt := 54) dX8_read_24 rfl (fun c => ?_) (fun c => ?_)
  · replace h := h.1 c
    exact st_return (pc := 54) dX8_read_54 rfl h
  · replace h := h.2 c
    refine st_aload_n (pc := 27) dX8_read_27 rfl rfl ?_
    obtain ⟨hk1, h⟩ := h
    obtain ⟨mc1, ms1, K1, hC, e1, e2, h⟩ := h
    refine sg_VI (pc := 28) (av := []) (st := []) (K := K1) dX8_read_28 ck_8_47 rfl (by decide) hk1 (by show (0 : Nat) ≤ 8; decide) hC e1 e2 (fun x1 m1 hK => ?_) rfl
    replace h := h x1 m1 hK
    refine st_ifeq (pc := 31) (tgt := 54) dX8_read_31 rfl (fun c => ?_) (fun c => ?_)
    · replace h := h.1 c
      exact st_return (pc := 54) dX8_read_54 rfl h
    · replace h := h.2 c
      refine st_aload_n (pc := 34) dX8_read_34 rfl rfl ?_
      refine sg_bipush (pc := 35) dX8_read_35 (by omega) (by decide) ?_
      obtain ⟨hk2, h⟩ := h
      obtain ⟨mc2, ms2, K2, hC, e1, e2, h⟩ := h
      refine sg_VI (pc := 37) (av := [vi 59]) (st := []) (K := K2) dX8_read_37 ck_8_51 rfl (by decide) hk2 (by show (0 : Nat) ≤ 8; decide) hC e1 e2 (fun x2 m2 hK => ?_) rfl
      replace h := h x2 m2 hK
      refine st_ifeq (pc := 40) (tgt := 54) dX8_read_40 rfl (fun c => ?_) (fun c => ?_)
      · replace h := h.1 c
        exact st_return (pc := 54) dX8_read_54 rfl h
      · replace h := h.2 c
        refine st_aload_n (pc := 43) dX8_read_43 rfl rfl ?_
        refine st_aload_n (pc := 44) dX8_read_44 rfl rfl ?_
        obtain ⟨hk3, h⟩ := h
        obtain ⟨mc3, ms3, K3, hC, e1, e2, h⟩ := h
        refine sg_VV (pc := 45) (av := [vr a1]) (st := []) (K := K3) dX8_read_45 ck_8_43 rfl (by decide) hk3 (by show (0 : Nat) ≤ 8; decide) hC e1 e2 (fun m3 hK => ?_) rfl
        replace h := h m3 hK
        refine sg_iinc (pc := 48) (ls' := [some (vr a0), some (vr a1), some (vi (w32 (a2 + 1)))]) dX8_read_48 rfl rfl ?_
        refine Wp.nameL (ls2 := fun v => [some (vr a0), some (vr a1), some (vi v)]) 2 _ rfl (fun _ => rfl) (fun v1 ev1 => ?_)
        replace h := h v1 ev1
        refine st_goto (pc := 51) dX8_read_51 rfl ?_
        exact h

theorem sg_X8_stepAt_0 {d bc bs : Nat} {a0 : Nat} {a1 : Int} {μ : Mem} {Q : Option (Option AV) → Mem → Prop}
    (h : mK μ a0 = 9 ∧ (∃ (mc1 ms1 : Nat) (K1 : Int → Mem → Prop), Cl d mc1 ms1 mX9_isIn [vi a1, vi 0, vi (w32 ((mD μ a0 4) - 1))] μ (KI K1) ∧ mc1 ≤ bc ∧ ms1 ≤ bs ∧ (∀ x1 m1, K1 x1 m1 → (x1 = 0 → Q (some (some (vi (-1)))) m1) ∧ (¬ x1 = 0 → mK m1 a0 = 9 ∧ ((mK m1 (mR m1 a0 3) = 20 ∨ ((mR m1 a0 3) ≠ 0 ∧ mK m1 (mR m1 a0 3) = 40)) ∧ ((0 : Int) ≤ a1 ∧ a1 < (mN m1 (mR m1 a0 3) : Int)) ∧ (Q (some (some (vi (mD m1 (mR m1 a0 3) a1)))) m1)))))) :
    Wp (d + 1) bc bs mX8_stepAt 0 [some (vr a0), some (vi a1)] [] μ Q := by
  refine st_iload_n (pc := 0) dX8_stepAt_0 rfl rfl ?_
  refine sg_iconst (pc := 1) dX8_stepAt_1 (by omega) ?_
  refine st_aload_n (pc := 2) dX8_stepAt_2 rfl rfl ?_
  obtain ⟨hk1, h⟩ := h
  refine sg_gfI (pc := 3) (J := 4) dX8_stepAt_3 fl_8_24 (by decide) rfl hk1 ?_
  refine sg_iconst (pc := 6) dX8_stepAt_6 (by omega) ?_
  refine st_isub (pc := 7) dX8_stepAt_7 ?_
  obtain ⟨mc1, ms1, K1, hC, e1, e2, h⟩ := h
  refine sg_SNI (pc := 8) (av := [vi a1, vi 0, vi (w32 ((mD μ a0 4) - 1))]) (st := []) (K := K1) dX8_stepAt_8 ck_8_90 rfl (by show (0 : Nat) ≤ 8; decide) hC e1 e2 (fun x1 m1 hK => ?_) rfl
  replace h := h x1 m1 hK
  refine st_ifeq (pc := 11) (tgt := 23) dX8_stepAt_11 rfl (fun c => ?_) (fun c => ?_)
  · replace h := h.1 c
    refine sg_iconst (pc := 23) dX8_stepAt_23 (by omega) ?_
    exact st_ireturn (pc := 24) dX8_stepAt_24 (Or.inl rfl) h
  · replace h := h.2 c
    refine st_aload_n (pc := 14) dX8_stepAt_14 rfl rfl ?_
    obtain ⟨hk2, h⟩ := h
    refine sg_gfR (pc := 15) (J := 3) dX8_stepAt_15 fl_8_21 rfl hk2 ?_
    refine st_iload_n (pc := 18) dX8_stepAt_18 rfl rfl ?_
    obtain ⟨hk3, h⟩ := h
    obtain ⟨h1, h⟩ := h
    refine sg_iaload (pc := 19) dX8_stepAt_19 hk3 h1 ?_
    refine st_goto (pc := 20) dX8_stepAt_20 rfl ?_
    exact st_ireturn (pc := 24) dX8_stepAt_24 (Or.inl rfl) h

theorem sg_X8_sizes_0 {d bc bs : Nat} {a0 : Nat} {a1 : Nat} {μ : Mem} {Q : Option (Option AV) → Mem → Prop}
    (h : Wp (d + 1) bc bs mX8_sizes 4 [some (vr a0), some (vr a1), some (vi 0), some (vi 0)] [] μ Q) :
    Wp (d + 1) bc bs mX8_sizes 0 [some (vr a0), some (vr a1), none, none] [] μ Q := by
  refine sg_iconst (pc := 0) dX8_sizes_0 (by omega) ?_
  refine sg_istore_n (pc := 1) (ls' := [some (vr a0), some (vr a1), some (vi 0), none]) dX8_sizes_1 rfl (by show (2 : Nat) < 4; decide) rfl ?_
  refine sg_iconst (pc := 2) dX8_sizes_2 (by omega) ?_
  refine sg_istore_n (pc := 3) (ls' := [some (vr a0), some (vr a1), some (vi 0), some (vi 0)]) dX8_sizes_3 rfl (by show (3 : Nat) < 4; decide) rfl ?_
  exact h

theorem sg_X8_sizes_4 {d bc bs : Nat} {a0 : Nat} {a1 : Nat} {a2 : Int} {a3 : Int} {μ : Mem} {Q : Option (Option AV) → Mem → Prop}
    (h : mK μ a0 = 9 ∧ (((mD μ a0 4) ≤ a3 → Q (some (some (vi a2))) μ) ∧ (¬ (mD μ a0 4) ≤ a3 → ((20 ≤ mK μ a1 ∧ mK μ a1 ≤ 28) ∨ (a1 ≠ 0 ∧ mK μ a1 = 40)) ∧ (((mN μ a1 : Int) ≤ a3 → Q (some (some (vi a2))) μ) ∧ (¬ (mN μ a1 : Int) ≤ a3 → (mK μ a1 = 20 ∨ (a1 ≠ 0 ∧ mK μ a1 = 40)) ∧ ((0 : Int) ≤ a3 ∧ a3 < (mN μ a1 : Int)) ∧ (∃ (mc1 ms1 : Nat) (K1 : Int → Mem → Prop), Cl d mc1 ms1 mJ9_abs_0f7a4 [vi (mD μ a1 a3)] μ (KI K1) ∧ mc1 ≤ bc ∧ ms1 ≤ bs ∧ (∀ x1 m1, K1 x1 m1 → ∀ v1, v1 = w32 (a2 + x1) → ∀ v2, v2 = w32 (a3 + 1) → Wp (d + 1) (bc - mc1) (bs - ms1) mX8_sizes 4 [some (vr a0), some (vr a1), some (vi v1), some (vi v2)] [] m1 Q))))))) :
    Wp (d + 1) bc bs mX8_sizes 4 [some (vr a0), some (vr a1), some (vi a2), some (vi a3)] [] μ Q := by
  refine st_iload_n (pc := 4) dX8_sizes_4 rfl rfl ?_
  refine st_aload_n (pc := 5) dX8_sizes_5 rfl rfl ?_
  obtain ⟨hk1, h⟩ := h
  refine sg_gfI (pc := 6) (J := 4) dX8_sizes_6 fl_8_24 (by decide) rfl hk1 ?_
  refine st_icmpge (pc := 9) (tgt := 33) dX8_sizes_9 rfl (fun c => ?_) (fun c => ?_)
  · replace h := h.1 c
    refine st_iload_n (pc := 33) dX8_sizes_33 rfl rfl ?_
    exact st_ireturn (pc := 34) dX8_sizes_34 (Or.inl rfl) h
  · replace h := h.2 c
    refine st_iload_n (pc := 12) dX8_sizes_12 rfl rfl ?_
    refine st_aload_n (pc := 13) dX8_sizes_13 rfl rfl ?_
    obtain ⟨hk2, h⟩ := h
    refine sg_alen (pc := 14) dX8_sizes_14 hk2 ?_
    refine st_icmpge (pc := 15) (tgt := 33) dX8_sizes_15 rfl (fun c => ?_) (fun c => ?_)
    · replace h := h.1 c
      refine st_iload_n (pc := 33) dX8_sizes_33 rfl rfl ?_
      exact st_ireturn (pc := 34) dX8_sizes_34 (Or.inl rfl) h
    · replace h := h.2 c
      refine st_iload_n (pc := 18) dX8_sizes_18 rfl rfl ?_
      refine st_aload_n (pc := 19) dX8_sizes_19 rfl rfl ?_
      refine st_iload_n (pc := 20) dX8_sizes_20 rfl rfl ?_
      obtain ⟨hk3, h⟩ := h
      obtain ⟨h1, h⟩ := h
      refine sg_iaload (pc := 21) dX8_sizes_21 hk3 h1 ?_
      obtain ⟨mc1, ms1, K1, hC, e1, e2, h⟩ := h
      refine sg_SI (pc := 22) (av := [vi (mD μ a1 a3)]) (st := [vi a2]) (K := K1) dX8_sizes_22 ck_8_94 rfl (by show (1 : Nat) ≤ 8; decide) hC e1 e2 (fun x1 m1 hK => ?_) rfl
      replace h := h x1 m1 hK
      refine st_iadd (pc := 25) dX8_sizes_25 ?_
      refine sg_istore_n (pc := 26) (ls' := [some (vr a0), some (vr a1), some (vi (w32 (a2 + x1))), some (vi a3)]) dX8_sizes_26 rfl (by show (2 : Nat) < 4; decide) rfl ?_
      refine Wp.nameL (ls2 := fun v => [some (vr a0), some (vr a1), some (vi v), some (vi a3)]) 2 _ rfl (fun _ => rfl) (fun v1 ev1 => ?_)
      replace h := h v1 ev1
      refine sg_iinc (pc := 27) (ls' := [some (vr a0), some (vr a1), some (vi v1), some (vi (w32 (a3 + 1)))]) dX8_sizes_27 rfl rfl ?_
      refine Wp.nameL (ls2 := fun v => [some (vr a0), some (vr a1), some (vi v1), some (vi v)]) 3 _ rfl (fun _ => rfl) (fun v2 ev2 => ?_)
      replace h := h v2 ev2
      refine st_goto (pc := 30) dX8_sizes_30 rfl ?_
      exact h

