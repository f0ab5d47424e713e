/-! ===== by program (wip/whole/gen_seg.py): stretches of methods ===== -/
theorem sg_X9_brake_9 {d bc bs : Nat} {a0 : Nat} {a1 : Int} {a2 : Int} {a3 : Int} {μ : Mem} {Q : Option (Option AV) → Mem → Prop}
    (h : (a2 ≤ a3 → Wp (d + 1) bc bs mX9_brake 47 [some (vr a0), some (vi a1), some (vi a2), some (vi 0)] [] μ Q) ∧ (¬ a2 ≤ a3 → mK μ a0 = 10 ∧ (a2 ≠ 0 ∧ (a2 ≠ 0 ∧ (((a1.tmod a2) ≤ a3 → mK μ (mR μ a0 7) = 9 ∧ ∃ (mc1 ms1 : Nat) (K1 : Mem → Prop), Cl d mc1 ms1 mX8_addTick [vr (mR μ a0 7), vi (w32 ((w32 (a1.tdiv a2)) + 0)), vi 0, vi (-1)] μ (KV K1) ∧ mc1 ≤ bc ∧ ms1 ≤ bs ∧ (∀ m1, K1 m1 → ∀ v1, v1 = w32 (a3 + 1) → Wp (d + 1) (bc - mc1) (bs - ms1) mX9_brake 9 [some (vr a0), some (vi a1), some (vi a2), some (vi v1)] [] m1 Q)) ∧ (¬ (a1.tmod a2) ≤ a3 → mK μ (mR μ a0 7) = 9 ∧ ∃ (mc2 ms2 : Nat) (K2 : Mem → Prop), Cl d mc2 ms2 mX8_addTick [vr (mR μ a0 7), vi (w32 ((w32 (a1.tdiv a2)) + 1)), vi 0, vi (-1)] μ (KV K2) ∧ mc2 ≤ bc ∧ ms2 ≤ bs ∧ (∀ m2, K2 m2 → ∀ v2, v2 = w32 (a3 + 1) → Wp (d + 1) (bc - mc2) (bs - ms2) mX9_brake 9 [some (vr a0), some (vi a1), some (vi a2), some (vi v2)] [] m2 Q))))))) :
    Wp (d + 1) bc bs mX9_brake 9 [some (vr a0), some (vi a1), some (vi a2), some (vi a3)] [] μ Q := by
  refine st_iload_n (pc := 9) dX9_brake_9 rfl rfl ?_
  refine st_iload_n (pc := 10) dX9_brake_10 rfl rfl ?_
  refine st_icmpge (pc := 11) (tgt := 45) dX9_brake_11 rfl (fun c => ?_) (fun c => ?_)
  · replace h := h.1 c
    refine sg_iconst (pc := 45) dX9_brake_45 (by omega) ?_
    refine sg_istore_n (pc := 46) (ls' := [some (vr a0), some (vi a1), some (vi a2), some (vi 0)]) dX9_brake_46 rfl (by show (3 : Nat) < 4; decide) rfl ?_
    exact h
  · replace h := h.2 c
    refine st_aload_n (pc := 14) dX9_brake_14 rfl rfl ?_
    obtain ⟨hk1, h⟩ := h
    refine sg_gfR (pc := 15) (J := 7) dX9_brake_15 fl_9_49 rfl hk1 ?_
    refine st_iload_n (pc := 18) dX9_brake_18 rfl rfl ?_
    refine st_iload_n (pc := 19) dX9_brake_19 rfl rfl ?_
    obtain ⟨h0, h⟩ := h
    refine st_idiv (pc := 20) dX9_brake_20 h0 ?_
    refine st_iload_n (pc := 21) dX9_brake_21 rfl rfl ?_
    refine st_iload_n (pc := 22) dX9_brake_22 rfl rfl ?_
    refine st_iload_n (pc := 23) dX9_brake_23 rfl rfl ?_
    obtain ⟨h0, h⟩ := h
    refine st_irem (pc := 24) dX9_brake_24 h0 ?_
    refine st_icmpge (pc := 25) (tgt := 32) dX9_brake_25 rfl (fun c => ?_) (fun c => ?_)
    · replace h := h.1 c
      refine sg_iconst (pc := 32) dX9_brake_32 (by omega) ?_
      refine st_iadd (pc := 33) dX9_brake_33 ?_
      refine sg_iconst (pc := 34) dX9_brake_34 (by omega) ?_
      refine sg_iconst (pc := 35) dX9_brake_35 (by omega) ?_
      obtain ⟨hk2, h⟩ := h
      obtain ⟨mc1, ms1, K1, hC, e1, e2, h⟩ := h
      refine sg_VV (pc := 36) (av := [vi (w32 ((w32 (a1.tdiv a2)) + 0)), vi 0, vi (-1)]) (st := []) (K := K1) dX9_brake_36 ck_9_372 rfl (by decide) hk2 (by show (0 : Nat) ≤ 8; decide) hC e1 e2 (fun m1 hK => ?_) rfl
      replace h := h m1 hK
      refine sg_iinc (pc := 39) (ls' := [some (vr a0), some (vi a1), some (vi a2), some (vi (w32 (a3 + 1)))]) dX9_brake_39 rfl rfl ?_
      refine Wp.nameL (ls2 := fun v => [some (vr a0), some (vi a1), some (vi a2), some (vi v)]) 3 _ rfl (fun _ => rfl) (fun v1 ev1 => ?_)
      replace h := h v1 ev1
      refine st_goto (pc := 42) dX9_brake_42 rfl ?_
      exact h
    · replace h := h.2 c
      refine sg_iconst (pc := 28) dX9_brake_28 (by omega) ?_
      refine st_goto (pc := 29) dX9_brake_29 rfl ?_
      refine st_iadd (pc := 33) dX9_brake_33 ?_
      refine sg_iconst (pc := 34) dX9_brake_34 (by omega) ?_
      refine sg_iconst (pc := 35) dX9_brake_35 (by omega) ?_
      obtain ⟨hk3, h⟩ := h
      obtain ⟨mc2, ms2, K2, hC, e1, e2, h⟩ := h
      refine sg_VV (pc := 36) (av := [vi (w32 ((w32 (a1.tdiv a2)) + 1)), vi 0, vi (-1)]) (st := []) (K := K2) dX9_brake_36 ck_9_372 rfl (by decide) hk3 (by show (0 : Nat) ≤ 8; decide) hC e1 e2 (fun m2 hK => ?_) rfl
      replace h := h m2 hK
      refine sg_iinc (pc := 39) (ls' := [some (vr a0), some (vi a1), some (vi a2), some (vi (w32 (a3 + 1)))]) dX9_brake_39 rfl rfl ?_
      refine Wp.nameL (ls2 := fun v => [some (vr a0), some (vi a1), some (vi a2), some (vi v)]) 3 _ rfl (fun _ => rfl) (fun v2 ev2 => ?_)
      replace h := h v2 ev2
      refine st_goto (pc := 42) dX9_brake_42 rfl ?_
      exact h

theorem sg_X9_brake_47 {d bc bs : Nat} {a0 : Nat} {a1 : Int} {a2 : Int} {a3 : Int} {μ : Mem} {Q : Option (Option AV) → Mem → Prop}
    (h : (100 ≤ a3 → Q (some none) μ) ∧ (¬ 100 ≤ a3 → mK μ a0 = 10 ∧ (mK μ (mR μ a0 7) = 9 ∧ ∃ (mc1 ms1 : Nat) (K1 : Mem → Prop), Cl d mc1 ms1 mX8_addTick [vr (mR μ a0 7), vi 0, vi 0, vi (-1)] μ (KV K1) ∧ mc1 ≤ bc ∧ ms1 ≤ bs ∧ (∀ m1, K1 m1 → ∀ v1, v1 = w32 (a3 + 1) → Wp (d + 1) (bc - mc1) (bs - ms1) mX9_brake 47 [some (vr a0), some (vi a1), some (vi a2), some (vi v1)] [] m1 Q)))) :
    Wp (d + 1) bc bs mX9_brake 47 [some (vr a0), some (vi a1), some (vi a2), some (vi a3)] [] μ Q := by
  refine st_iload_n (pc := 47) dX9_brake_47 rfl rfl ?_
  refine sg_bipush (pc := 48) dX9_brake_48 (by omega) (by decide) ?_
  refine st_icmpge (pc := 50) (tgt := 69) dX9_brake_50 rfl (fun c => ?_) (fun c => ?_)
  · replace h := h.1 c
    exact st_return (pc := 69) dX9_brake_69 rfl h
  · replace h := h.2 c
    refine st_aload_n (pc := 53) dX9_brake_53 rfl rfl ?_
    obtain ⟨hk1, h⟩ := h
    refine sg_gfR (pc := 54) (J := 7) dX9_brake_54 fl_9_49 rfl hk1 ?_
    refine sg_iconst (pc := 57) dX9_brake_57 (by omega) ?_
    refine sg_iconst (pc := 58) dX9_brake_58 (by omega) ?_
    refine sg_iconst (pc := 59) dX9_brake_59 (by omega) ?_
    obtain ⟨hk2, h⟩ := h
    obtain ⟨mc1, ms1, K1, hC, e1, e2, h⟩ := h
    refine sg_VV (pc := 60) (av := [vi 0, vi 0, vi (-1)]) (st := []) (K := K1) dX9_brake_60 ck_9_372 rfl (by decide) hk2 (by show (0 : Nat) ≤ 8; decide) hC e1 e2 (fun m1 hK => ?_) rfl
    replace h := h m1 hK
    refine sg_iinc (pc := 63) (ls' := [some (vr a0), some (vi a1), some (vi a2), some (vi (w32 (a3 + 1)))]) dX9_brake_63 rfl rfl ?_
    refine Wp.nameL (ls2 := fun v => [some (vr a0), some (vi a1), some (vi a2), some (vi v)]) 3 _ rfl (fun _ => rfl) (fun v1 ev1 => ?_)
    replace h := h v1 ev1
    refine st_goto (pc := 66) dX9_brake_66 rfl ?_
    exact h

theorem sg_X9_stop_0 {d bc bs : Nat} {a0 : Nat} {a1 : Int} {μ : Mem} {Q : Option (Option AV) → Mem → Prop}
    (h : ∃ (mc1 ms1 : Nat) (K1 : Int → Mem → Prop), Cl d mc1 ms1 mX9_isIn [vi a1, vi 1, vi 5000] μ (KI K1) ∧ mc1 ≤ bc ∧ ms1 ≤ bs ∧ (∀ x1 m1, K1 x1 m1 → (¬ x1 = 0 → Wp (d + 1) (bc - mc1) (bs - ms1) mX9_stop 15 [some (vr a0), some (vi a1), some (vi 1), none] [] m1 Q) ∧ (x1 = 0 → Q (some (some (vi (-1)))) m1))) :
    Wp (d + 1) bc bs mX9_stop 0 [some (vr a0), some (vi a1), none, none] [] μ Q := by
  refine st_iload_n (pc := 0) dX9_stop_0 rfl rfl ?_
  refine sg_iconst (pc := 1) dX9_stop_1 (by omega) ?_
  refine sg_sipush (pc := 2) dX9_stop_2 (by omega) (by decide) ?_
  obtain ⟨mc1, ms1, K1, hC, e1, e2, h⟩ := h
  refine sg_SI (pc := 5) (av := [vi a1, vi 1, vi 5000]) (st := []) (K := K1) dX9_stop_5 ck_9_102 rfl (by show (0 : Nat) ≤ 8; decide) hC e1 e2 (fun x1 m1 hK => ?_) rfl
  replace h := h x1 m1 hK
  refine st_ifne (pc := 8) (tgt := 13) dX9_stop_8 rfl (fun c => ?_) (fun c => ?_)
  · replace h := h.1 c
    refine sg_iconst (pc := 13) dX9_stop_13 (by omega) ?_
    refine sg_istore_n (pc := 14) (ls' := [some (vr a0), some (vi a1), some (vi 1), none]) dX9_stop_14 rfl (by show (2 : Nat) < 4; decide) rfl ?_
    exact h
  · replace h := h.2 c
    refine sg_iconst (pc := 11) dX9_stop_11 (by omega) ?_
    exact st_ireturn (pc := 12) dX9_stop_12 (Or.inl rfl) h

theorem sg_X9_stop_15 {d bc bs : Nat} {a0 : Nat} {a1 : Int} {a2 : Int} {μ : Mem} {Q : Option (Option AV) → Mem → Prop}
    (h : (200 < a2 → Q (some (some (vi (-2)))) μ) ∧ (¬ 200 < a2 → a2 ≠ 0 ∧ (((w32 ((w32 ((w32 (a1 + a2)) - 1)).tdiv a2)) ≤ 500 → mK μ a0 = 10 ∧ ∃ (mc1 ms1 : Nat) (K1 : Mem → Prop), Cl d mc1 ms1 mX9_brake [vr a0, vi a1, vi a2] μ (KV K1) ∧ mc1 ≤ bc ∧ ms1 ≤ bs ∧ (∀ m1, K1 m1 → mK m1 a0 = 10 ∧ ∃ (mc2 ms2 : Nat) (K2 : Nat → Mem → Prop), Cl d mc2 ms2 mX9_asItIs [vr a0] m1 (KR K2) ∧ mc2 ≤ bc - mc1 ∧ ms2 ≤ bs - ms1 ∧ (∀ x1 m2, K2 x1 m2 → mK m2 x1 = 8 ∧ (∀ m3, m3 = sR m2 x1 1 0 → mK m3 a0 = 10 ∧ (mK m3 x1 = 8 ∧ ∃ (mc3 ms3 : Nat) (K3 : Int → Mem → Prop), Cl d mc3 ms3 mX7_keepsAll [vr x1, vr (mR m3 a0 7)] m3 (KI K3) ∧ mc3 ≤ bc - mc1 - mc2 ∧ ms3 ≤ bs - ms1 - ms2 ∧ (∀ x2 m4, K3 x2 m4 → (x2 = 0 → ∀ v1, v1 = w32 (a2 + 1) → Wp (d + 1) (bc - mc1 - mc2 - mc3) (bs - ms1 - ms2 - ms3) mX9_stop 15 [some (vr a0), some (vi a1), some (vi v1), none] [] m4 Q) ∧ (¬ x2 = 0 → mK m4 x1 = 8 ∧ (mK m4 a0 = 10 ∧ ∃ (mc4 ms4 : Nat) (K4 : Mem → Prop), Cl d mc4 ms4 mX9_tell [vr a0, vl (mD m4 x1 6)] m4 (KV K4) ∧ mc4 ≤ bc - mc1 - mc2 - mc3 ∧ ms4 ≤ bs - ms1 - ms2 - ms3 ∧ (∀ m5, K4 m5 → Q (some (some (vi a2))) m5))))))))) ∧ (¬ (w32 ((w32 ((w32 (a1 + a2)) - 1)).tdiv a2)) ≤ 500 → ∀ v2, v2 = w32 (a2 + 1) → Wp (d + 1) bc bs mX9_stop 15 [some (vr a0), some (vi a1), some (vi v2), none] [] μ Q)))) :
    Wp (d + 1) bc bs mX9_stop 15 [some (vr a0), some (vi a1), some (vi a2), none] [] μ Q := by
  refine st_iload_n (pc := 15) dX9_stop_15 rfl rfl ?_
  refine sg_sipush (pc := 16) dX9_stop_16 (by omega) (by decide) ?_
  refine st_icmpgt (pc := 19) (tgt := 82) dX9_stop_19 rfl (fun c => ?_) (fun c => ?_)
  · replace h := h.1 c
    refine sg_bipush (pc := 82) dX9_stop_82 (by omega) (by decide) ?_
    exact st_ireturn (pc := 84) dX9_stop_84 (Or.inl rfl) h
  · replace h := h.2 c
    refine st_iload_n (pc := 22) dX9_stop_22 rfl rfl ?_
    refine st_iload_n (pc := 23) dX9_stop_23 rfl rfl ?_
    refine st_iadd (pc := 24) dX9_stop_24 ?_
    refine sg_iconst (pc := 25) dX9_stop_25 (by omega) ?_
    refine st_isub (pc := 26) dX9_stop_26 ?_
    refine st_iload_n (pc := 27) dX9_stop_27 rfl rfl ?_
    obtain ⟨h0, h⟩ := h
    refine st_idiv (pc := 28) dX9_stop_28 h0 ?_
    refine sg_sipush (pc := 29) dX9_stop_29 (by omega) (by decide) ?_
    refine st_icmple (pc := 32) (tgt := 38) dX9_stop_32 rfl (fun c => ?_) (fun c => ?_)
    · replace h := h.1 c
      refine st_aload_n (pc := 38) dX9_stop_38 rfl rfl ?_
      refine st_iload_n (pc := 39) dX9_stop_39 rfl rfl ?_
      refine st_iload_n (pc := 40) dX9_stop_40 rfl rfl ?_
      obtain ⟨hk1, h⟩ := h
      obtain ⟨mc1, ms1, K1, hC, e1, e2, h⟩ := h
      refine sg_VV (pc := 41) (av := [vi a1, vi a2]) (st := []) (K := K1) dX9_stop_41 ck_9_359 rfl (by decide) hk1 (by show (0 : Nat) ≤ 8; decide) hC e1 e2 (fun m1 hK => ?_) rfl
      replace h := h m1 hK
      refine st_aload_n (pc := 44) dX9_stop_44 rfl rfl ?_
      obtain ⟨hk2, h⟩ := h
      obtain ⟨mc2, ms2, K2, hC, e1, e2, h⟩ := h
      refine sg_VR (pc := 45) (av := []) (st := []) (K := K2) dX9_stop_45 ck_9_242 rfl (by decide) hk2 (by show (0 : Nat) ≤ 8; decide) hC e1 e2 (fun x1 m2 hK => ?_) rfl
      replace h := h x1 m2 hK
      refine sg_astore_n (pc := 48) (ls' := [some (vr a0), some (vi a1), some (vi a2), some (vr x1)]) dX9_stop_48 rfl (by show (3 : Nat) < 4; decide) rfl ?_
      refine st_aload_n (pc := 49) dX9_stop_49 rfl rfl ?_
      refine st_null (pc := 50) dX9_stop_50 ?_
      obtain ⟨hk3, h⟩ := h
      refine sg_pfR (pc := 51) (J := 1) dX9_stop_51 fl_9_321 rfl (Or.inl rfl) hk3 ?_
      refine Wp.nameM (fun m3 em3 => ?_)
      replace h := h m3 em3
      refine st_aload_n (pc := 54) dX9_stop_54 rfl rfl ?_
      refine st_aload_n (pc := 55) dX9_stop_55 rfl rfl ?_
      obtain ⟨hk4, h⟩ := h
      refine sg_gfR (pc := 56) (J := 7) dX9_stop_56 fl_9_49 rfl hk4 ?_
      obtain ⟨hk5, h⟩ := h
      obtain ⟨mc3, ms3, K3, hC, e1, e2, h⟩ := h
      refine sg_VI (pc := 59) (av := [vr (mR m3 a0 7)]) (st := []) (K := K3) dX9_stop_59 ck_9_300 rfl (by decide) hk5 (by show (0 : Nat) ≤ 8; decide) hC e1 e2 (fun x2 m4 hK => ?_) rfl
      replace h := h x2 m4 hK
      refine st_ifeq (pc := 62) (tgt := 76) dX9_stop_62 rfl (fun c => ?_) (fun c => ?_)
      · replace h := h.1 c
        refine sg_iinc (pc := 76) (ls' := [some (vr a0), some (vi a1), some (vi (w32 (a2 + 1))), some (vr x1)]) dX9_stop_76 rfl rfl ?_
        refine Wp.nameL (ls2 := fun v => [some (vr a0), some (vi a1), some (vi v), some (vr x1)]) 2 _ rfl (fun _ => rfl) (fun v1 ev1 => ?_)
        replace h := h v1 ev1
        refine st_goto (pc := 79) dX9_stop_79 rfl ?_
        refine Wp.drop 3 rfl ?_
        exact h
      · replace h := h.2 c
        refine st_aload_n (pc := 65) dX9_stop_65 rfl rfl ?_
        refine st_aload_n (pc := 66) dX9_stop_66 rfl rfl ?_
        obtain ⟨hk6, h⟩ := h
        refine sg_gfI (pc := 67) (J := 6) dX9_stop_67 fl_9_281 (by decide) rfl hk6 ?_
        refine st_i2l (pc := 70) dX9_stop_70 ?_
        obtain ⟨hk7, h⟩ := h
        obtain ⟨mc4, ms4, K4, hC, e1, e2, h⟩ := h
        refine sg_VV (pc := 71) (av := [vl (mD m4 x1 6)]) (st := []) (K := K4) dX9_stop_71 ck_9_272 rfl (by decide) hk7 (by show (0 : Nat) ≤ 8; decide) hC e1 e2 (fun m5 hK => ?_) rfl
        replace h := h m5 hK
        refine st_iload_n (pc := 74) dX9_stop_74 rfl rfl ?_
        exact st_ireturn (pc := 75) dX9_stop_75 (Or.inl rfl) h
    · replace h := h.2 c
      refine st_goto (pc := 35) dX9_stop_35 rfl ?_
      refine sg_iinc (pc := 76) (ls' := [some (vr a0), some (vi a1), some (vi (w32 (a2 + 1))), none]) dX9_stop_76 rfl rfl ?_
      refine Wp.nameL (ls2 := fun v => [some (vr a0), some (vi a1), some (vi v), none]) 2 _ rfl (fun _ => rfl) (fun v2 ev2 => ?_)
      replace h := h v2 ev2
      refine st_goto (pc := 79) dX9_stop_79 rfl ?_
      exact h

theorem sg_X9_pause_0 {d bc bs : Nat} {a0 : Nat} {a1 : Int} {a2 : Int} {μ : Mem} {Q : Option (Option AV) → Mem → Prop}
    (h : ∃ (mc1 ms1 : Nat) (K1 : Int → Mem → Prop), Cl d mc1 ms1 mX9_isWalk [vi a1] μ (KI K1) ∧ mc1 ≤ bc ∧ ms1 ≤ bs ∧ (∀ x1 m1, K1 x1 m1 → (x1 = 0 → Q (some (some (vi (-1)))) m1) ∧ (¬ x1 = 0 → ∃ (mc2 ms2 : Nat) (K2 : Int → Mem → Prop), Cl d mc2 ms2 mX9_isIn [vi a2, vi 0, vi 1000] m1 (KI K2) ∧ mc2 ≤ bc - mc1 ∧ ms2 ≤ bs - ms1 ∧ (∀ x2 m2, K2 x2 m2 → (¬ x2 = 0 → Wp (d + 1) (bc - mc1 - mc2) (bs - ms1 - ms2) mX9_pause 30 [some (vr a0), some (vi a1), some (vi a2), some (vi (-1)), some (vi 2147483647), some (vi 0), none] [] m2 Q) ∧ (x2 = 0 → Q (some (some (vi (-1)))) m2))))) :
    Wp (d + 1) bc bs mX9_pause 0 [some (vr a0), some (vi a1), some (vi a2), none, none, none, none] [] μ Q := by
  refine st_iload_n (pc := 0) dX9_pause_0 rfl rfl ?_
  obtain ⟨mc1, ms1, K1, hC, e1, e2, h⟩ := h
  refine sg_SI (pc := 1) (av := [vi a1]) (st := []) (K := K1) dX9_pause_1 ck_9_193 rfl (by show (0 : Nat) ≤ 8; decide) hC e1 e2 (fun x1 m1 hK => ?_) rfl
  replace h := h x1 m1 hK
  refine st_ifeq (pc := 4) (tgt := 18) dX9_pause_4 rfl (fun c => ?_) (fun c => ?_)
  · replace h := h.1 c
    refine sg_iconst (pc := 18) dX9_pause_18 (by omega) ?_
    exact st_ireturn (pc := 19) dX9_pause_19 (Or.inl rfl) h
  · replace h := h.2 c
    refine st_iload_n (pc := 7) dX9_pause_7 rfl rfl ?_
    refine sg_iconst (pc := 8) dX9_pause_8 (by omega) ?_
    refine sg_sipush (pc := 9) dX9_pause_9 (by omega) (by decide) ?_
    obtain ⟨mc2, ms2, K2, hC, e1, e2, h⟩ := h
    refine sg_SI (pc := 12) (av := [vi a2, vi 0, vi 1000]) (st := []) (K := K2) dX9_pause_12 ck_9_102 rfl (by show (0 : Nat) ≤ 8; decide) hC e1 e2 (fun x2 m2 hK => ?_) rfl
    replace h := h x2 m2 hK
    refine st_ifne (pc := 15) (tgt := 20) dX9_pause_15 rfl (fun c => ?_) (fun c => ?_)
    · replace h := h.1 c
      refine sg_iconst (pc := 20) dX9_pause_20 (by omega) ?_
      refine sg_istore_n (pc := 21) (ls' := [some (vr a0), some (vi a1), some (vi a2), some (vi (-1)), none, none, none]) dX9_pause_21 rfl (by show (3 : Nat) < 7; decide) rfl ?_
      refine st_ldcw (pc := 22) (n := 2147483647) dX9_pause_22 cn_9_326 (by unfold r32; omega) ?_
      refine sg_istore (pc := 25) (ls' := [some (vr a0), some (vi a1), some (vi a2), some (vi (-1)), some (vi 2147483647), none, none]) dX9_pause_25 (by show (4 : Nat) < 7; decide) rfl ?_
      refine sg_iconst (pc := 27) dX9_pause_27 (by omega) ?_
      refine sg_istore (pc := 28) (ls' := [some (vr a0), some (vi a1), some (vi a2), some (vi (-1)), some (vi 2147483647), some (vi 0), none]) dX9_pause_28 (by show (5 : Nat) < 7; decide) rfl ?_
      exact h
    · replace h := h.2 c
      refine sg_iconst (pc := 18) dX9_pause_18 (by omega) ?_
      exact st_ireturn (pc := 19) dX9_pause_19 (Or.inl rfl) h

theorem sg_X9_pause_30 {d bc bs : Nat} {a0 : Nat} {a1 : Int} {a2 : Int} {a3 : Int} {a4 : Int} {a5 : Int} {μ : Mem} {Q : Option (Option AV) → Mem → Prop}
    (h : (40 < a5 → mK μ a0 = 10 ∧ ∃ (mc1 ms1 : Nat) (K1 : Mem → Prop), Cl d mc1 ms1 mX9_tell [vr a0, vl a4] μ (KV K1) ∧ mc1 ≤ bc ∧ ms1 ≤ bs ∧ (∀ m1, K1 m1 → Q (some (some (vi a3))) m1)) ∧ (¬ 40 < a5 → mK μ a0 = 10 ∧ ∃ (mc2 ms2 : Nat) (K2 : Nat → Mem → Prop), Cl d mc2 ms2 mX9_asItIs [vr a0] μ (KR K2) ∧ mc2 ≤ bc ∧ ms2 ≤ bs ∧ (∀ x1 m2, K2 x1 m2 → mK m2 a0 = 10 ∧ (mK m2 (mR m2 a0 5) = 26 ∧ ((0 : Int) ≤ a1 ∧ a1 < (mN m2 (mR m2 a0 5) : Int)) ∧ (mK m2 x1 = 8 ∧ ∃ (mc3 ms3 : Nat) (K3 : Int → Mem → Prop), Cl d mc3 ms3 mX7_spiltWithPause [vr x1, vr (mR m2 (mR m2 a0 5) a1), vi a2, vi a5] m2 (KI K3) ∧ mc3 ≤ bc - mc2 ∧ ms3 ≤ bs - ms2 ∧ (∀ x2 m3, K3 x2 m3 → (a4 ≤ x2 → ∀ v1, v1 = w32 (a5 + 1) → Wp (d + 1) (bc - mc2 - mc3) (bs - ms2 - ms3) mX9_pause 30 [some (vr a0), some (vi a1), some (vi a2), some (vi a3), some (vi a4), some (vi v1), none] [] m3 Q) ∧ (¬ a4 ≤ x2 → ∀ v2, v2 = w32 (a5 + 1) → Wp (d + 1) (bc - mc2 - mc3) (bs - ms2 - ms3) mX9_pause 30 [some (vr a0), some (vi a1), some (vi a2), some (vi a5), some (vi x2), some (vi v2), none] [] m3 Q))))))) :
    Wp (d + 1) bc bs mX9_pause 30 [some (vr a0), some (vi a1), some (vi a2), some (vi a3), some (vi a4), some (vi a5), none] [] μ Q := by
  refine st_iload (pc := 30) dX9_pause_30 rfl ?_
  refine sg_bipush (pc := 32) dX9_pause_32 (by omega) (by decide) ?_
  refine st_icmpgt (pc := 34) (tgt := 75) dX9_pause_34 rfl (fun c => ?_) (fun c => ?_)
  · replace h := h.1 c
    refine st_aload_n (pc := 75) dX9_pause_75 rfl rfl ?_
    refine st_iload (pc := 76) dX9_pause_76 rfl ?_
    refine st_i2l (pc := 78) dX9_pause_78 ?_
    obtain ⟨hk1, h⟩ := h
    obtain ⟨mc1, ms1, K1, hC, e1, e2, h⟩ := h
    refine sg_VV (pc := 79) (av := [vl a4]) (st := []) (K := K1) dX9_pause_79 ck_9_272 rfl (by decide) hk1 (by show (0 : Nat) ≤ 8; decide) hC e1 e2 (fun m1 hK => ?_) rfl
    replace h := h m1 hK
    refine st_iload_n (pc := 82) dX9_pause_82 rfl rfl ?_
    exact st_ireturn (pc := 83) dX9_pause_83 (Or.inl rfl) h
  · replace h := h.2 c
    refine st_aload_n (pc := 37) dX9_pause_37 rfl rfl ?_
    obtain ⟨hk2, h⟩ := h
    obtain ⟨mc2, ms2, K2, hC, e1, e2, h⟩ := h
    refine sg_VR (pc := 38) (av := []) (st := []) (K := K2) dX9_pause_38 ck_9_242 rfl (by decide) hk2 (by show (0 : Nat) ≤ 8; decide) hC e1 e2 (fun x1 m2 hK => ?_) rfl
    replace h := h x1 m2 hK
    refine st_aload_n (pc := 41) dX9_pause_41 rfl rfl ?_
    obtain ⟨hk3, h⟩ := h
    refine sg_gfR (pc := 42) (J := 5) dX9_pause_42 fl_9_40 rfl hk3 ?_
    refine st_iload_n (pc := 45) dX9_pause_45 rfl rfl ?_
    obtain ⟨hk4, h⟩ := h
    obtain ⟨h1, h⟩ := h
    refine st_aaload (pc := 46) (t := 6) dX9_pause_46 hk4 (fun _ => rfl) (by decide) (by decide) h1.1 h1.2 ?_
    refine st_iload_n (pc := 47) dX9_pause_47 rfl rfl ?_
    refine st_iload (pc := 48) dX9_pause_48 rfl ?_
    obtain ⟨hk5, h⟩ := h
    obtain ⟨mc3, ms3, K3, hC, e1, e2, h⟩ := h
    refine sg_VI (pc := 50) (av := [vr (mR m2 (mR m2 a0 5) a1), vi a2, vi a5]) (st := []) (K := K3) dX9_pause_50 ck_9_362 rfl (by decide) hk5 (by show (0 : Nat) ≤ 8; decide) hC e1 e2 (fun x2 m3 hK => ?_) rfl
    replace h := h x2 m3 hK
    refine sg_istore (pc := 53) (ls' := [some (vr a0), some (vi a1), some (vi a2), some (vi a3), some (vi a4), some (vi a5), some (vi x2)]) dX9_pause_53 (by show (6 : Nat) < 7; decide) rfl ?_
    refine st_iload (pc := 55) dX9_pause_55 rfl ?_
    refine st_iload (pc := 57) dX9_pause_57 rfl ?_
    refine st_icmpge (pc := 59) (tgt := 69) dX9_pause_59 rfl (fun c => ?_) (fun c => ?_)
    · replace h := h.1 c
      refine sg_iinc (pc := 69) (ls' := [some (vr a0), some (vi a1), some (vi a2), some (vi a3), some (vi a4), some (vi (w32 (a5 + 1))), some (vi x2)]) dX9_pause_69 rfl rfl ?_
      refine Wp.nameL (ls2 := fun v => [some (vr a0), some (vi a1), some (vi a2), some (vi a3), some (vi a4), some (vi v), some (vi x2)]) 5 _ rfl (fun _ => rfl) (fun v1 ev1 => ?_)
      replace h := h v1 ev1
      refine st_goto (pc := 72) dX9_pause_72 rfl ?_
      refine Wp.drop 6 rfl ?_
      exact h
    · replace h := h.2 c
      refine st_iload (pc := 62) dX9_pause_62 rfl ?_
      refine sg_istore (pc := 64) (ls' := [some (vr a0), some (vi a1), some (vi a2), some (vi a3), some (vi x2), some (vi a5), some (vi x2)]) dX9_pause_64 (by show (4 : Nat) < 7; decide) rfl ?_
      refine st_iload (pc := 66) dX9_pause_66 rfl ?_
      refine sg_istore_n (pc := 68) (ls' := [some (vr a0), some (vi a1), some (vi a2), some (vi a5), some (vi x2), some (vi a5), some (vi x2)]) dX9_pause_68 rfl (by show (3 : Nat) < 7; decide) rfl ?_
      refine sg_iinc (pc := 69) (ls' := [some (vr a0), some (vi a1), some (vi a2), some (vi a5), some (vi x2), some (vi (w32 (a5 + 1))), some (vi x2)]) dX9_pause_69 rfl rfl ?_
      refine Wp.nameL (ls2 := fun v => [some (vr a0), some (vi a1), some (vi a2), some (vi a5), some (vi x2), some (vi v), some (vi x2)]) 5 _ rfl (fun _ => rfl) (fun v2 ev2 => ?_)
      replace h := h v2 ev2
      refine st_goto (pc := 72) dX9_pause_72 rfl ?_
      refine Wp.drop 6 rfl ?_
      exact h

theorem sg_X9_stir_0 {d bc bs : Nat} {a0 : Nat} {a1 : Int} {μ : Mem} {Q : Option (Option AV) → Mem → Prop}
    (h : ∃ (mc1 ms1 : Nat) (K1 : Int → Mem → Prop), Cl d mc1 ms1 mX9_isRow [vi a1] μ (KI K1) ∧ mc1 ≤ bc ∧ ms1 ≤ bs ∧ (∀ x1 m1, K1 x1 m1 → (x1 = 0 → Q (some (some (vl (-1)))) m1) ∧ (¬ x1 = 0 → mK m1 a0 = 10 ∧ (mK m1 (mR m1 a0 1) = 6 ∧ ∃ (mc2 ms2 : Nat) (K2 : Nat → Mem → Prop), Cl d mc2 ms2 mX5_rowOf [vr (mR m1 a0 1), vi a1] m1 (KR K2) ∧ mc2 ≤ bc - mc1 ∧ ms2 ≤ bs - ms1 ∧ (∀ x2 m2, K2 x2 m2 → mK m2 a0 = 10 ∧ (mK m2 x2 = 5 ∧ ∃ (mc3 ms3 : Nat) (K3 : Int → Mem → Prop), Cl d mc3 ms3 mX4_restlessness [vr x2, vr (mR m2 a0 0)] m2 (KL K3) ∧ mc3 ≤ bc - mc1 - mc2 ∧ ms3 ≤ bs - ms1 - ms2 ∧ (∀ x3 m3, K3 x3 m3 → Q (some (some (vl x3))) m3))))))) :
    Wp (d + 1) bc bs mX9_stir 0 [some (vr a0), some (vi a1)] [] μ Q := by
  refine st_iload_n (pc := 0) dX9_stir_0 rfl rfl ?_
  obtain ⟨mc1, ms1, K1, hC, e1, e2, h⟩ := h
  refine sg_SI (pc := 1) (av := [vi a1]) (st := []) (K := K1) dX9_stir_1 ck_9_145 rfl (by show (0 : Nat) ≤ 8; decide) hC e1 e2 (fun x1 m1 hK => ?_) rfl
  replace h := h x1 m1 hK
  refine st_ifeq (pc := 4) (tgt := 25) dX9_stir_4 rfl (fun c => ?_) (fun c => ?_)
  · replace h := h.1 c
    refine st_ldc2 (pc := 25) (n := (-1)) dX9_stir_25 cn_9_370 (by unfold r64; omega) ?_
    exact st_lreturn (pc := 28) dX9_stir_28 rfl h
  · replace h := h.2 c
    refine st_aload_n (pc := 7) dX9_stir_7 rfl rfl ?_
    obtain ⟨hk1, h⟩ := h
    refine sg_gfR (pc := 8) (J := 1) dX9_stir_8 fl_9_19 rfl hk1 ?_
    refine st_iload_n (pc := 11) dX9_stir_11 rfl rfl ?_
    obtain ⟨hk2, h⟩ := h
    obtain ⟨mc2, ms2, K2, hC, e1, e2, h⟩ := h
    refine sg_VR (pc := 12) (av := [vi a1]) (st := []) (K := K2) dX9_stir_12 ck_9_148 rfl (by decide) hk2 (by show (0 : Nat) ≤ 8; decide) hC e1 e2 (fun x2 m2 hK => ?_) rfl
    replace h := h x2 m2 hK
    refine st_aload_n (pc := 15) dX9_stir_15 rfl rfl ?_
    obtain ⟨hk3, h⟩ := h
    refine sg_gfR (pc := 16) (J := 0) dX9_stir_16 fl_9_10 rfl hk3 ?_
    obtain ⟨hk4, h⟩ := h
    obtain ⟨mc3, ms3, K3, hC, e1, e2, h⟩ := h
    refine sg_VL (pc := 19) (av := [vr (mR m2 a0 0)]) (st := []) (K := K3) dX9_stir_19 ck_9_366 rfl (by decide) hk4 (by show (0 : Nat) ≤ 8; decide) hC e1 e2 (fun x3 m3 hK => ?_) rfl
    replace h := h x3 m3 hK
    refine st_goto (pc := 22) dX9_stir_22 rfl ?_
    exact st_lreturn (pc := 28) dX9_stir_28 rfl h

theorem sg_X9_spot_0 {d bc bs : Nat} {a0 : Nat} {a1 : Int} {μ : Mem} {Q : Option (Option AV) → Mem → Prop}
    (h : ∃ (mc1 ms1 : Nat) (K1 : Int → Mem → Prop), Cl d mc1 ms1 mX9_isIn [vi a1, vi 0, vi 1000] μ (KI K1) ∧ mc1 ≤ bc ∧ ms1 ≤ bs ∧ (∀ x1 m1, K1 x1 m1 → (x1 = 0 → Q (some (some (vi (-1)))) m1) ∧ (¬ x1 = 0 → mK m1 a0 = 10 ∧ (((mD m1 a0 13) < 12 → mK m1 (mR m1 a0 12) = 20 ∧ ((0 : Int) ≤ (mD m1 a0 13) ∧ (mD m1 a0 13) < (mN m1 (mR m1 a0 12) : Int)) ∧ (∀ m2, m2 = sD m1 (mR m1 a0 12) (mD m1 a0 13) a1 → (∀ m3, m3 = sD m2 a0 13 (w32 ((mD m2 a0 13) + 1)) → Q (some (some (vi (mD m3 a0 13)))) m3))) ∧ (¬ (mD m1 a0 13) < 12 → Q (some (some (vi (-1)))) m1))))) :
    Wp (d + 1) bc bs mX9_spot 0 [some (vr a0), some (vi a1)] [] μ Q := by
  refine st_iload_n (pc := 0) dX9_spot_0 rfl rfl ?_
  refine sg_iconst (pc := 1) dX9_spot_1 (by omega) ?_
  refine sg_sipush (pc := 2) dX9_spot_2 (by omega) (by decide) ?_
  obtain ⟨mc1, ms1, K1, hC, e1, e2, h⟩ := h
  refine sg_SI (pc := 5) (av := [vi a1, vi 0, vi 1000]) (st := []) (K := K1) dX9_spot_5 ck_9_102 rfl (by show (0 : Nat) ≤ 8; decide) hC e1 e2 (fun x1 m1 hK => ?_) rfl
  replace h := h x1 m1 hK
  refine st_ifeq (pc := 8) (tgt := 20) dX9_spot_8 rfl (fun c => ?_) (fun c => ?_)
  · replace h := h.1 c
    refine sg_iconst (pc := 20) dX9_spot_20 (by omega) ?_
    exact st_ireturn (pc := 21) dX9_spot_21 (Or.inl rfl) h
  · replace h := h.2 c
    refine st_aload_n (pc := 11) dX9_spot_11 rfl rfl ?_
    obtain ⟨hk1, h⟩ := h
    refine sg_gfI (pc := 12) (J := 13) dX9_spot_12 fl_9_81 (by decide) rfl hk1 ?_
    refine sg_bipush (pc := 15) dX9_spot_15 (by omega) (by decide) ?_
    refine st_icmplt (pc := 17) (tgt := 22) dX9_spot_17 rfl (fun c => ?_) (fun c => ?_)
    · replace h := h.1 c
      refine st_aload_n (pc := 22) dX9_spot_22 rfl rfl ?_
      refine sg_gfR (pc := 23) (J := 12) dX9_spot_23 fl_9_78 rfl hk1 ?_
      refine st_aload_n (pc := 26) dX9_spot_26 rfl rfl ?_
      refine sg_gfI (pc := 27) (J := 13) dX9_spot_27 fl_9_81 (by decide) rfl hk1 ?_
      refine st_iload_n (pc := 30) dX9_spot_30 rfl rfl ?_
      obtain ⟨hk2, h⟩ := h
      obtain ⟨h1, h⟩ := h
      refine st_iastore (pc := 31) dX9_spot_31 hk2 h1.1 h1.2 ?_
      refine Wp.nameM (fun m2 em2 => ?_)
      replace h := h m2 em2
      refine st_aload_n (pc := 32) dX9_spot_32 rfl rfl ?_
      refine st_dup (pc := 33) dX9_spot_33 rfl ?_
      refine sg_gfI (pc := 34) (J := 13) dX9_spot_34 fl_9_81 (by decide) rfl (by cases em2; exact hk1) ?_
      refine sg_iconst (pc := 37) dX9_spot_37 (by omega) ?_
      refine st_iadd (pc := 38) dX9_spot_38 ?_
      refine sg_pfI (pc := 39) (J := 13) dX9_spot_39 fl_9_81 rfl (Or.inl rfl) (by cases em2; exact hk1) ?_
      refine Wp.nameM (fun m3 em3 => ?_)
      replace h := h m3 em3
      refine st_aload_n (pc := 42) dX9_spot_42 rfl rfl ?_
      refine sg_gfI (pc := 43) (J := 13) dX9_spot_43 fl_9_81 (by decide) rfl (by cases em3; cases em2; exact hk1) ?_
      exact st_ireturn (pc := 46) dX9_spot_46 (Or.inl rfl) h
    · replace h := h.2 c
      refine sg_iconst (pc := 20) dX9_spot_20 (by omega) ?_
      exact st_ireturn (pc := 21) dX9_spot_21 (Or.inl rfl) h

theorem sg_X9_wipe_0 {d bc bs : Nat} {a0 : Nat} {μ : Mem} {Q : Option (Option AV) → Mem → Prop}
    (h : mK μ a0 = 10 ∧ (∀ v1, v1 = mD μ a0 13 → (∀ m1, m1 = sD μ a0 13 0 → Q (some (some (vi v1))) m1))) :
    Wp d bc bs mX9_wipe 0 [some (vr a0), none] [] μ Q := by
  refine st_aload_n (pc := 0) dX9_wipe_0 rfl rfl ?_
  obtain ⟨hk1, h⟩ := h
  refine sg_gfI (pc := 1) (J := 13) dX9_wipe_1 fl_9_81 (by decide) rfl hk1 ?_
  refine sg_istore_n (pc := 4) (ls' := [some (vr a0), some (vi (mD μ a0 13))]) dX9_wipe_4 rfl (by show (1 : Nat) < 2; decide) rfl ?_
  refine Wp.nameL (ls2 := fun v => [some (vr a0), some (vi v)]) 1 _ rfl (fun _ => rfl) (fun v1 ev1 => ?_)
  replace h := h v1 ev1
  refine st_aload_n (pc := 5) dX9_wipe_5 rfl rfl ?_
  refine sg_iconst (pc := 6) dX9_wipe_6 (by omega) ?_
  refine sg_pfI (pc := 7) (J := 13) dX9_wipe_7 fl_9_81 rfl (Or.inl rfl) hk1 ?_
  refine Wp.nameM (fun m1 em1 => ?_)
  replace h := h m1 em1
  refine st_iload_n (pc := 10) dX9_wipe_10 rfl rfl ?_
  exact st_ireturn (pc := 11) dX9_wipe_11 (Or.inl rfl) h

theorem sg_X9_isHand_0 {d bc bs : Nat} {a0 : Nat} {a1 : Int} {μ : Mem} {Q : Option (Option AV) → Mem → Prop}
    (h : (a1 = 3 → Q (some (some (vi 1))) μ) ∧ (¬ a1 = 3 → mK μ a0 = 10 ∧ ∃ (mc1 ms1 : Nat) (K1 : Nat → Mem → Prop), Cl d mc1 ms1 mX9_toldLaw [vr a0, vi a1] μ (KR K1) ∧ mc1 ≤ bc ∧ ms1 ≤ bs ∧ (∀ x1 m1, K1 x1 m1 → (x1 = 0 → Q (some (some (vi 0))) m1) ∧ (¬ x1 = 0 → Q (some (some (vi 1))) m1)))) :
    Wp (d + 1) bc bs mX9_isHand 0 [some (vr a0), some (vi a1)] [] μ Q := by
  refine st_iload_n (pc := 0) dX9_isHand_0 rfl rfl ?_
  refine sg_iconst (pc := 1) dX9_isHand_1 (by omega) ?_
  refine st_icmpeq (pc := 2) (tgt := 13) dX9_isHand_2 rfl (fun c => ?_) (fun c => ?_)
  · replace h := h.1 c
    refine sg_iconst (pc := 13) dX9_isHand_13 (by omega) ?_
    refine st_goto (pc := 14) dX9_isHand_14 rfl ?_
    exact st_ireturn (pc := 18) dX9_isHand_18 (Or.inr ⟨rfl, by omega⟩) h
  · replace h := h.2 c
    refine st_aload_n (pc := 5) dX9_isHand_5 rfl rfl ?_
    refine st_iload_n (pc := 6) dX9_isHand_6 rfl rfl ?_
    obtain ⟨hk1, h⟩ := h
    obtain ⟨mc1, ms1, K1, hC, e1, e2, h⟩ := h
    refine sg_VR (pc := 7) (av := [vi a1]) (st := []) (K := K1) dX9_isHand_7 ck_9_208 rfl (by decide) hk1 (by show (0 : Nat) ≤ 8; decide) hC e1 e2 (fun x1 m1 hK => ?_) rfl
    replace h := h x1 m1 hK
    refine st_ifnull (pc := 10) (tgt := 17) dX9_isHand_10 rfl (fun c => ?_) (fun c => ?_)
    · replace h := h.1 c
      refine sg_iconst (pc := 17) dX9_isHand_17 (by omega) ?_
      exact st_ireturn (pc := 18) dX9_isHand_18 (Or.inr ⟨rfl, by omega⟩) h
    · replace h := h.2 c
      refine sg_iconst (pc := 13) dX9_isHand_13 (by omega) ?_
      refine st_goto (pc := 14) dX9_isHand_14 rfl ?_
      exact st_ireturn (pc := 18) dX9_isHand_18 (Or.inr ⟨rfl, by omega⟩) h

theorem sg_X9_nearest_0 {d bc bs : Nat} {a0 : Int} {a1 : Nat} {a2 : Int} {μ : Mem} {Q : Option (Option AV) → Mem → Prop}
    (h : Wp (d + 1) bc bs mX9_nearest 7 [some (vi a0), some (vr a1), some (vi a2), some (vi 1000), some (vi 0)] [] μ Q) :
    Wp (d + 1) bc bs mX9_nearest 0 [some (vi a0), some (vr a1), some (vi a2), none, none] [] μ Q := by
  refine sg_sipush (pc := 0) dX9_nearest_0 (by omega) (by decide) ?_
  refine sg_istore_n (pc := 3) (ls' := [some (vi a0), some (vr a1), some (vi a2), some (vi 1000), none]) dX9_nearest_3 rfl (by show (3 : Nat) < 5; decide) rfl ?_
  refine sg_iconst (pc := 4) dX9_nearest_4 (by omega) ?_
  refine sg_istore (pc := 5) (ls' := [some (vi a0), some (vr a1), some (vi a2), some (vi 1000), some (vi 0)]) dX9_nearest_5 (by show (4 : Nat) < 5; decide) rfl ?_
  exact h

theorem sg_X9_nearest_7 {d bc bs : Nat} {a0 : Int} {a1 : Nat} {a2 : Int} {a3 : Int} {a4 : Int} {μ : Mem} {Q : Option (Option AV) → Mem → Prop}
    (h : (a2 ≤ a4 → Q (some (some (vi a3))) μ) ∧ (¬ a2 ≤ a4 → ((20 ≤ mK μ a1 ∧ mK μ a1 ≤ 28) ∨ (a1 ≠ 0 ∧ mK μ a1 = 40)) ∧ (((mN μ a1 : Int) ≤ a4 → Q (some (some (vi a3))) μ) ∧ (¬ (mN μ a1 : Int) ≤ a4 → (mK μ a1 = 20 ∨ (a1 ≠ 0 ∧ mK μ a1 = 40)) ∧ ((0 : Int) ≤ a4 ∧ a4 < (mN μ a1 : Int)) ∧ (∃ (mc1 ms1 : Nat) (K1 : Int → Mem → Prop), Cl d mc1 ms1 mJ9_abs_0f7a4 [vi (w32 (a0 - (mD μ a1 a4)))] μ (KI K1) ∧ mc1 ≤ bc ∧ ms1 ≤ bs ∧ (∀ x1 m1, K1 x1 m1 → ∃ (mc2 ms2 : Nat) (K2 : Int → Mem → Prop), Cl d mc2 ms2 mJ9_min_7cf53 [vi a3, vi x1] m1 (KI K2) ∧ mc2 ≤ bc - mc1 ∧ ms2 ≤ bs - ms1 ∧ (∀ x2 m2, K2 x2 m2 → ∀ v1, v1 = w32 (a4 + 1) → Wp (d + 1) (bc - mc1 - mc2) (bs - ms1 - ms2) mX9_nearest 7 [some (vi a0), some (vr a1), some (vi a2), some (vi x2), some (vi v1)] [] m2 Q))))))) :
    Wp (d + 1) bc bs mX9_nearest 7 [some (vi a0), some (vr a1), some (vi a2), some (vi a3), some (vi a4)] [] μ Q := by
  refine st_iload (pc := 7) dX9_nearest_7 rfl ?_
  refine st_iload_n (pc := 9) dX9_nearest_9 rfl rfl ?_
  refine st_icmpge (pc := 10) (tgt := 40) dX9_nearest_10 rfl (fun c => ?_) (fun c => ?_)
  · replace h := h.1 c
    refine st_iload_n (pc := 40) dX9_nearest_40 rfl rfl ?_
    exact st_ireturn (pc := 41) dX9_nearest_41 (Or.inl rfl) h
  · replace h := h.2 c
    refine st_iload (pc := 13) dX9_nearest_13 rfl ?_
    refine st_aload_n (pc := 15) dX9_nearest_15 rfl rfl ?_
    obtain ⟨hk1, h⟩ := h
    refine sg_alen (pc := 16) dX9_nearest_16 hk1 ?_
    refine st_icmpge (pc := 17) (tgt := 40) dX9_nearest_17 rfl (fun c => ?_) (fun c => ?_)
    · replace h := h.1 c
      refine st_iload_n (pc := 40) dX9_nearest_40 rfl rfl ?_
      exact st_ireturn (pc := 41) dX9_nearest_41 (Or.inl rfl) h
    · replace h := h.2 c
      refine st_iload_n (pc := 20) dX9_nearest_20 rfl rfl ?_
      refine st_iload_n (pc := 21) dX9_nearest_21 rfl rfl ?_
      refine st_aload_n (pc := 22) dX9_nearest_22 rfl rfl ?_
      refine st_iload (pc := 23) dX9_nearest_23 rfl ?_
      obtain ⟨hk2, h⟩ := h
      obtain ⟨h1, h⟩ := h
      refine sg_iaload (pc := 25) dX9_nearest_25 hk2 h1 ?_
      refine st_isub (pc := 26) dX9_nearest_26 ?_
      obtain ⟨mc1, ms1, K1, hC, e1, e2, h⟩ := h
      refine sg_SI (pc := 27) (av := [vi (w32 (a0 - (mD μ a1 a4)))]) (st := [vi a3]) (K := K1) dX9_nearest_27 ck_9_253 rfl (by show (1 : Nat) ≤ 8; decide) hC e1 e2 (fun x1 m1 hK => ?_) rfl
      replace h := h x1 m1 hK
      obtain ⟨mc2, ms2, K2, hC, e1, e2, h⟩ := h
      refine sg_SI (pc := 30) (av := [vi a3, vi x1]) (st := []) (K := K2) dX9_nearest_30 ck_9_233 rfl (by show (0 : Nat) ≤ 8; decide) hC e1 e2 (fun x2 m2 hK => ?_) rfl
      replace h := h x2 m2 hK
      refine sg_istore_n (pc := 33) (ls' := [some (vi a0), some (vr a1), some (vi a2), some (vi x2), some (vi a4)]) dX9_nearest_33 rfl (by show (3 : Nat) < 5; decide) rfl ?_
      refine sg_iinc (pc := 34) (ls' := [some (vi a0), some (vr a1), some (vi a2), some (vi x2), some (vi (w32 (a4 + 1)))]) dX9_nearest_34 rfl rfl ?_
      refine Wp.nameL (ls2 := fun v => [some (vi a0), some (vr a1), some (vi a2), some (vi x2), some (vi v)]) 4 _ rfl (fun _ => rfl) (fun v1 ev1 => ?_)
      replace h := h v1 ev1
      refine st_goto (pc := 37) dX9_nearest_37 rfl ?_
      exact h

theorem sg_X9_distance_0 {d bc bs : Nat} {a0 : Nat} {a1 : Nat} {μ : Mem} {Q : Option (Option AV) → Mem → Prop}
    (h : Wp (d + 1) bc bs mX9_distance 4 [some (vr a0), some (vr a1), some (vi 0), some (vi 0)] [] μ Q) :
    Wp (d + 1) bc bs mX9_distance 0 [some (vr a0), some (vr a1), none, none] [] μ Q := by
  refine sg_iconst (pc := 0) dX9_distance_0 (by omega) ?_
  refine sg_istore_n (pc := 1) (ls' := [some (vr a0), some (vr a1), some (vi 0), none]) dX9_distance_1 rfl (by show (2 : Nat) < 4; decide) rfl ?_
  refine sg_iconst (pc := 2) dX9_distance_2 (by omega) ?_
  refine sg_istore_n (pc := 3) (ls' := [some (vr a0), some (vr a1), some (vi 0), some (vi 0)]) dX9_distance_3 rfl (by show (3 : Nat) < 4; decide) rfl ?_
  exact h

theorem sg_X9_distance_4 {d bc bs : Nat} {a0 : Nat} {a1 : Nat} {a2 : Int} {a3 : Int} {μ : Mem} {Q : Option (Option AV) → Mem → Prop}
    (h : mK μ a0 = 10 ∧ (((mD μ a0 13) ≤ a3 → Wp (d + 1) bc bs mX9_distance 40 [some (vr a0), some (vr a1), some (vi a2), some (vi 0)] [] μ Q) ∧ (¬ (mD μ a0 13) ≤ a3 → (mK μ (mR μ a0 12) = 20 ∨ ((mR μ a0 12) ≠ 0 ∧ mK μ (mR μ a0 12) = 40)) ∧ ((0 : Int) ≤ a3 ∧ a3 < (mN μ (mR μ a0 12) : Int)) ∧ (mK μ a1 = 8 ∧ (∃ (mc1 ms1 : Nat) (K1 : Int → Mem → Prop), Cl d mc1 ms1 mX9_nearest [vi (mD μ (mR μ a0 12) a3), vr (mR μ a1 8), vi (mD μ a1 9)] μ (KI K1) ∧ mc1 ≤ bc ∧ ms1 ≤ bs ∧ (∀ x1 m1, K1 x1 m1 → ∀ v1, v1 = w32 (a2 + x1) → ∀ v2, v2 = w32 (a3 + 1) → Wp (d + 1) (bc - mc1) (bs - ms1) mX9_distance 4 [some (vr a0), some (vr a1), some (vi v1), some (vi v2)] [] m1 Q)))))) :
    Wp (d + 1) bc bs mX9_distance 4 [some (vr a0), some (vr a1), some (vi a2), some (vi a3)] [] μ Q := by
  refine st_iload_n (pc := 4) dX9_distance_4 rfl rfl ?_
  refine st_aload_n (pc := 5) dX9_distance_5 rfl rfl ?_
  obtain ⟨hk1, h⟩ := h
  refine sg_gfI (pc := 6) (J := 13) dX9_distance_6 fl_9_81 (by decide) rfl hk1 ?_
  refine st_icmpge (pc := 9) (tgt := 38) dX9_distance_9 rfl (fun c => ?_) (fun c => ?_)
  · replace h := h.1 c
    refine sg_iconst (pc := 38) dX9_distance_38 (by omega) ?_
    refine sg_istore_n (pc := 39) (ls' := [some (vr a0), some (vr a1), some (vi a2), some (vi 0)]) dX9_distance_39 rfl (by show (3 : Nat) < 4; decide) rfl ?_
    exact h
  · replace h := h.2 c
    refine st_iload_n (pc := 12) dX9_distance_12 rfl rfl ?_
    refine st_aload_n (pc := 13) dX9_distance_13 rfl rfl ?_
    refine sg_gfR (pc := 14) (J := 12) dX9_distance_14 fl_9_78 rfl hk1 ?_
    refine st_iload_n (pc := 17) dX9_distance_17 rfl rfl ?_
    obtain ⟨hk2, h⟩ := h
    obtain ⟨h1, h⟩ := h
    refine sg_iaload (pc := 18) dX9_distance_18 hk2 h1 ?_
    refine st_aload_n (pc := 19) dX9_distance_19 rfl rfl ?_
    obtain ⟨hk3, h⟩ := h
    refine sg_gfR (pc := 20) (J := 8) dX9_distance_20 fl_9_383 rfl hk3 ?_
    refine st_aload_n (pc := 23) dX9_distance_23 rfl rfl ?_
    refine sg_gfI (pc := 24) (J := 9) dX9_distance_24 fl_9_386 (by decide) rfl hk3 ?_
    obtain ⟨mc1, ms1, K1, hC, e1, e2, h⟩ := h
    refine sg_SI (pc := 27) (av := [vi (mD μ (mR μ a0 12) a3), vr (mR μ a1 8), vi (mD μ a1 9)]) (st := [vi a2]) (K := K1) dX9_distance_27 ck_9_389 rfl (by show (1 : Nat) ≤ 8; decide) hC e1 e2 (fun x1 m1 hK => ?_) rfl
    replace h := h x1 m1 hK
    refine st_iadd (pc := 30) dX9_distance_30 ?_
    refine sg_istore_n (pc := 31) (ls' := [some (vr a0), some (vr a1), some (vi (w32 (a2 + x1))), some (vi a3)]) dX9_distance_31 rfl (by show (2 : Nat) < 4; decide) rfl ?_
    refine Wp.nameL (ls2 := fun v => [some (vr a0), some (vr a1), some (vi v), some (vi a3)]) 2 _ rfl (fun _ => rfl) (fun v1 ev1 => ?_)
    replace h := h v1 ev1
    refine sg_iinc (pc := 32) (ls' := [some (vr a0), some (vr a1), some (vi v1), some (vi (w32 (a3 + 1)))]) dX9_distance_32 rfl rfl ?_
    refine Wp.nameL (ls2 := fun v => [some (vr a0), some (vr a1), some (vi v1), some (vi v)]) 3 _ rfl (fun _ => rfl) (fun v2 ev2 => ?_)
    replace h := h v2 ev2
    refine st_goto (pc := 35) dX9_distance_35 rfl ?_
    exact h

theorem sg_X9_distance_40 {d bc bs : Nat} {a0 : Nat} {a1 : Nat} {a2 : Int} {a3 : Int} {μ : Mem} {Q : Option (Option AV) → Mem → Prop}
    (h : mK μ a1 = 8 ∧ (((mD μ a1 9) ≤ a3 → Q (some (some (vi a2))) μ) ∧ (¬ (mD μ a1 9) ≤ a3 → (mK μ (mR μ a1 8) = 20 ∨ ((mR μ a1 8) ≠ 0 ∧ mK μ (mR μ a1 8) = 40)) ∧ ((0 : Int) ≤ a3 ∧ a3 < (mN μ (mR μ a1 8) : Int)) ∧ (mK μ a0 = 10 ∧ (∃ (mc1 ms1 : Nat) (K1 : Int → Mem → Prop), Cl d mc1 ms1 mX9_nearest [vi (mD μ (mR μ a1 8) a3), vr (mR μ a0 12), vi (mD μ a0 13)] μ (KI K1) ∧ mc1 ≤ bc ∧ ms1 ≤ bs ∧ (∀ x1 m1, K1 x1 m1 → ∀ v1, v1 = w32 (a2 + x1) → ∀ v2, v2 = w32 (a3 + 1) → Wp (d + 1) (bc - mc1) (bs - ms1) mX9_distance 40 [some (vr a0), some (vr a1), some (vi v1), some (vi v2)] [] m1 Q)))))) :
    Wp (d + 1) bc bs mX9_distance 40 [some (vr a0), some (vr a1), some (vi a2), some (vi a3)] [] μ Q := by
  refine st_iload_n (pc := 40) dX9_distance_40 rfl rfl ?_
  refine st_aload_n (pc := 41) dX9_distance_41 rfl rfl ?_
  obtain ⟨hk1, h⟩ := h
  refine sg_gfI (pc := 42) (J := 9) dX9_distance_42 fl_9_386 (by decide) rfl hk1 ?_
  refine st_icmpge (pc := 45) (tgt := 74) dX9_distance_45 rfl (fun c => ?_) (fun c => ?_)
  · replace h := h.1 c
    refine st_iload_n (pc := 74) dX9_distance_74 rfl rfl ?_
    exact st_ireturn (pc := 75) dX9_distance_75 (Or.inl rfl) h
  · replace h := h.2 c
    refine st_iload_n (pc := 48) dX9_distance_48 rfl rfl ?_
    refine st_aload_n (pc := 49) dX9_distance_49 rfl rfl ?_
    refine sg_gfR (pc := 50) (J := 8) dX9_distance_50 fl_9_383 rfl hk1 ?_
    refine st_iload_n (pc := 53) dX9_distance_53 rfl rfl ?_
    obtain ⟨hk2, h⟩ := h
    obtain ⟨h1, h⟩ := h
    refine sg_iaload (pc := 54) dX9_distance_54 hk2 h1 ?_
    refine st_aload_n (pc := 55) dX9_distance_55 rfl rfl ?_
    obtain ⟨hk3, h⟩ := h
    refine sg_gfR (pc := 56) (J := 12) dX9_distance_56 fl_9_78 rfl hk3 ?_
    refine st_aload_n (pc := 59) dX9_distance_59 rfl rfl ?_
    refine sg_gfI (pc := 60) (J := 13) dX9_distance_60 fl_9_81 (by decide) rfl hk3 ?_
    obtain ⟨mc1, ms1, K1, hC, e1, e2, h⟩ := h
    refine sg_SI (pc := 63) (av := [vi (mD μ (mR μ a1 8) a3), vr (mR μ a0 12), vi (mD μ a0 13)]) (st := [vi a2]) (K := K1) dX9_distance_63 ck_9_389 rfl (by show (1 : Nat) ≤ 8; decide) hC e1 e2 (fun x1 m1 hK => ?_) rfl
    replace h := h x1 m1 hK
    refine st_iadd (pc := 66) dX9_distance_66 ?_
    refine sg_istore_n (pc := 67) (ls' := [some (vr a0), some (vr a1), some (vi (w32 (a2 + x1))), some (vi a3)]) dX9_distance_67 rfl (by show (2 : Nat) < 4; decide) rfl ?_
    refine Wp.nameL (ls2 := fun v => [some (vr a0), some (vr a1), some (vi v), some (vi a3)]) 2 _ rfl (fun _ => rfl) (fun v1 ev1 => ?_)
    replace h := h v1 ev1
    refine sg_iinc (pc := 68) (ls' := [some (vr a0), some (vr a1), some (vi v1), some (vi (w32 (a3 + 1)))]) dX9_distance_68 rfl rfl ?_
    refine Wp.nameL (ls2 := fun v => [some (vr a0), some (vr a1), some (vi v1), some (vi v)]) 3 _ rfl (fun _ => rfl) (fun v2 ev2 => ?_)
    replace h := h v2 ev2
    refine st_goto (pc := 71) dX9_distance_71 rfl ?_
    exact h

theorem sg_X9_far_0 {d bc bs : Nat} {a0 : Nat} {a1 : Int} {a2 : Int} {μ : Mem} {Q : Option (Option AV) → Mem → Prop}
    (h : ∃ (mc1 ms1 : Nat) (K1 : Int → Mem → Prop), Cl d mc1 ms1 mX9_isWalk [vi a1] μ (KI K1) ∧ mc1 ≤ bc ∧ ms1 ≤ bs ∧ (∀ x1 m1, K1 x1 m1 → (x1 = 0 → Q (some (some (vi (-1)))) m1) ∧ (¬ x1 = 0 → mK m1 a0 = 10 ∧ ∃ (mc2 ms2 : Nat) (K2 : Int → Mem → Prop), Cl d mc2 ms2 mX9_isHand [vr a0, vi a2] m1 (KI K2) ∧ mc2 ≤ bc - mc1 ∧ ms2 ≤ bs - ms1 ∧ (∀ x2 m2, K2 x2 m2 → (¬ x2 = 0 → mK m2 a0 = 10 ∧ ∃ (mc3 ms3 : Nat) (K3 : Nat → Mem → Prop), Cl d mc3 ms3 mX9_asItIs [vr a0] m2 (KR K3) ∧ mc3 ≤ bc - mc1 - mc2 ∧ ms3 ≤ bs - ms1 - ms2 ∧ (∀ x3 m3, K3 x3 m3 → mK m3 a0 = 10 ∧ ∃ (mc4 ms4 : Nat) (K4 : Nat → Mem → Prop), Cl d mc4 ms4 mX9_toldLaw [vr a0, vi a2] m3 (KR K4) ∧ mc4 ≤ bc - mc1 - mc2 - mc3 ∧ ms4 ≤ bs - ms1 - ms2 - ms3 ∧ (∀ x4 m4, K4 x4 m4 → mK m4 x3 = 8 ∧ (∀ m5, m5 = sR m4 x3 1 x4 → mK m5 a0 = 10 ∧ (mK m5 (mR m5 a0 5) = 26 ∧ ((0 : Int) ≤ a1 ∧ a1 < (mN m5 (mR m5 a0 5) : Int)) ∧ (mK m5 x3 = 8 ∧ ∃ (mc5 ms5 : Nat) (K5 : Int → Mem → Prop), Cl d mc5 ms5 mX7_spiltOn [vr x3, vr (mR m5 (mR m5 a0 5) a1), vi 1] m5 (KI K5) ∧ mc5 ≤ bc - mc1 - mc2 - mc3 - mc4 ∧ ms5 ≤ bs - ms1 - ms2 - ms3 - ms4 ∧ (∀ x5 m6, K5 x5 m6 → mK m6 a0 = 10 ∧ ∃ (mc6 ms6 : Nat) (K6 : Int → Mem → Prop), Cl d mc6 ms6 mX9_distance [vr a0, vr x3] m6 (KI K6) ∧ mc6 ≤ bc - mc1 - mc2 - mc3 - mc4 - mc5 ∧ ms6 ≤ bs - ms1 - ms2 - ms3 - ms4 - ms5 ∧ (∀ x6 m7, K6 x6 m7 → Q (some (some (vi x6))) m7)))))))) ∧ (x2 = 0 → Q (some (some (vi (-1)))) m2))))) :
    Wp (d + 1) bc bs mX9_far 0 [some (vr a0), some (vi a1), some (vi a2), none] [] μ Q := by
  refine st_iload_n (pc := 0) dX9_far_0 rfl rfl ?_
  obtain ⟨mc1, ms1, K1, hC, e1, e2, h⟩ := h
  refine sg_SI (pc := 1) (av := [vi a1]) (st := []) (K := K1) dX9_far_1 ck_9_193 rfl (by show (0 : Nat) ≤ 8; decide) hC e1 e2 (fun x1 m1 hK => ?_) rfl
  replace h := h x1 m1 hK
  refine st_ifeq (pc := 4) (tgt := 15) dX9_far_4 rfl (fun c => ?_) (fun c => ?_)
  · replace h := h.1 c
    refine sg_iconst (pc := 15) dX9_far_15 (by omega) ?_
    exact st_ireturn (pc := 16) dX9_far_16 (Or.inl rfl) h
  · replace h := h.2 c
    refine st_aload_n (pc := 7) dX9_far_7 rfl rfl ?_
    refine st_iload_n (pc := 8) dX9_far_8 rfl rfl ?_
    obtain ⟨hk1, h⟩ := h
    obtain ⟨mc2, ms2, K2, hC, e1, e2, h⟩ := h
    refine sg_VI (pc := 9) (av := [vi a2]) (st := []) (K := K2) dX9_far_9 ck_9_376 rfl (by decide) hk1 (by show (0 : Nat) ≤ 8; decide) hC e1 e2 (fun x2 m2 hK => ?_) rfl
    replace h := h x2 m2 hK
    refine st_ifne (pc := 12) (tgt := 17) dX9_far_12 rfl (fun c => ?_) (fun c => ?_)
    · replace h := h.1 c
      refine st_aload_n (pc := 17) dX9_far_17 rfl rfl ?_
      obtain ⟨hk2, h⟩ := h
      obtain ⟨mc3, ms3, K3, hC, e1, e2, h⟩ := h
      refine sg_VR (pc := 18) (av := []) (st := []) (K := K3) dX9_far_18 ck_9_242 rfl (by decide) hk2 (by show (0 : Nat) ≤ 8; decide) hC e1 e2 (fun x3 m3 hK => ?_) rfl
      replace h := h x3 m3 hK
      refine sg_astore_n (pc := 21) (ls' := [some (vr a0), some (vi a1), some (vi a2), some (vr x3)]) dX9_far_21 rfl (by show (3 : Nat) < 4; decide) rfl ?_
      refine st_aload_n (pc := 22) dX9_far_22 rfl rfl ?_
      refine st_aload_n (pc := 23) dX9_far_23 rfl rfl ?_
      refine st_iload_n (pc := 24) dX9_far_24 rfl rfl ?_
      obtain ⟨hk3, h⟩ := h
      obtain ⟨mc4, ms4, K4, hC, e1, e2, h⟩ := h
      refine sg_VR (pc := 25) (av := [vi a2]) (st := [vr x3]) (K := K4) dX9_far_25 ck_9_208 rfl (by decide) hk3 (by show (1 : Nat) ≤ 8; decide) hC e1 e2 (fun x4 m4 hK => ?_) rfl
      replace h := h x4 m4 hK
      obtain ⟨hk4, h⟩ := h
      refine sg_pfR (pc := 28) (J := 1) dX9_far_28 fl_9_321 rfl (Or.inl rfl) hk4 ?_
      refine Wp.nameM (fun m5 em5 => ?_)
      replace h := h m5 em5
      refine st_aload_n (pc := 31) dX9_far_31 rfl rfl ?_
      refine st_aload_n (pc := 32) dX9_far_32 rfl rfl ?_
      obtain ⟨hk5, h⟩ := h
      refine sg_gfR (pc := 33) (J := 5) dX9_far_33 fl_9_40 rfl hk5 ?_
      refine st_iload_n (pc := 36) dX9_far_36 rfl rfl ?_
      obtain ⟨hk6, h⟩ := h
      obtain ⟨h1, h⟩ := h
      refine st_aaload (pc := 37) (t := 6) dX9_far_37 hk6 (fun _ => rfl) (by decide) (by decide) h1.1 h1.2 ?_
      refine sg_iconst (pc := 38) dX9_far_38 (by omega) ?_
      obtain ⟨hk7, h⟩ := h
      obtain ⟨mc5, ms5, K5, hC, e1, e2, h⟩ := h
      refine sg_VI (pc := 39) (av := [vr (mR m5 (mR m5 a0 5) a1), vi 1]) (st := []) (K := K5) dX9_far_39 ck_9_265 rfl (by decide) hk7 (by show (0 : Nat) ≤ 8; decide) hC e1 e2 (fun x5 m6 hK => ?_) rfl
      replace h := h x5 m6 hK
      refine st_pop (pc := 42) dX9_far_42 rfl ?_
      refine st_aload_n (pc := 43) dX9_far_43 rfl rfl ?_
      refine st_aload_n (pc := 44) dX9_far_44 rfl rfl ?_
      obtain ⟨hk8, h⟩ := h
      obtain ⟨mc6, ms6, K6, hC, e1, e2, h⟩ := h
      refine sg_VI (pc := 45) (av := [vr x3]) (st := []) (K := K6) dX9_far_45 ck_9_379 rfl (by decide) hk8 (by show (0 : Nat) ≤ 8; decide) hC e1 e2 (fun x6 m7 hK => ?_) rfl
      replace h := h x6 m7 hK
      exact st_ireturn (pc := 48) dX9_far_48 (Or.inl rfl) h
    · replace h := h.2 c
      refine sg_iconst (pc := 15) dX9_far_15 (by omega) ?_
      exact st_ireturn (pc := 16) dX9_far_16 (Or.inl rfl) h

theorem sg_X9_who_0 {d bc bs : Nat} {a0 : Nat} {μ : Mem} {Q : Option (Option AV) → Mem → Prop}
    (h : Wp (d + 1) bc bs mX9_who 14 [some (vr a0), some (vi 2147483647), some (vi (-1)), some (vi (-1)), some (vi 0), some (vi 0), none, none, none] [] μ Q) :
    Wp (d + 1) bc bs mX9_who 0 [some (vr a0), none, none, none, none, none, none, none, none] [] μ Q := by
  refine st_ldcw (pc := 0) (n := 2147483647) dX9_who_0 cn_9_326 (by unfold r32; omega) ?_
  refine sg_istore_n (pc := 3) (ls' := [some (vr a0), some (vi 2147483647), none, none, none, none, none, none, none]) dX9_who_3 rfl (by show (1 : Nat) < 9; decide) rfl ?_
  refine sg_iconst (pc := 4) dX9_who_4 (by omega) ?_
  refine sg_istore_n (pc := 5) (ls' := [some (vr a0), some (vi 2147483647), some (vi (-1)), none, none, none, none, none, none]) dX9_who_5 rfl (by show (2 : Nat) < 9; decide) rfl ?_
  refine sg_iconst (pc := 6) dX9_who_6 (by omega) ?_
  refine sg_istore_n (pc := 7) (ls' := [some (vr a0), some (vi 2147483647), some (vi (-1)), some (vi (-1)), none, none, none, none, none]) dX9_who_7 rfl (by show (3 : Nat) < 9; decide) rfl ?_
  refine sg_iconst (pc := 8) dX9_who_8 (by omega) ?_
  refine sg_istore (pc := 9) (ls' := [some (vr a0), some (vi 2147483647), some (vi (-1)), some (vi (-1)), some (vi 0), none, none, none, none]) dX9_who_9 (by show (4 : Nat) < 9; decide) rfl ?_
  refine sg_iconst (pc := 11) dX9_who_11 (by omega) ?_
  refine sg_istore (pc := 12) (ls' := [some (vr a0), some (vi 2147483647), some (vi (-1)), some (vi (-1)), some (vi 0), some (vi 0), none, none, none]) dX9_who_12 (by show (5 : Nat) < 9; decide) rfl ?_
  exact h

theorem sg_X9_who_14 {d bc bs : Nat} {a0 : Nat} {a1 : Int} {a2 : Int} {a3 : Int} {a4 : Int} {a5 : Int} {μ : Mem} {Q : Option (Option AV) → Mem → Prop}
    (h : (4 ≤ a5 → (¬ a2 = (-1) → mK μ a0 = 10 ∧ ∃ (mc1 ms1 : Nat) (K1 : Mem → Prop), Cl d mc1 ms1 mX9_tell__ [vr a0, vl a2, vl a3, vl a4] μ (KV K1) ∧ mc1 ≤ bc ∧ ms1 ≤ bs ∧ (∀ m1, K1 m1 → Q (some (some (vi a1))) m1)) ∧ (a2 = (-1) → Q (some (some (vi (-2)))) μ)) ∧ (¬ 4 ≤ a5 → Wp (d + 1) bc bs mX9_who 23 [some (vr a0), some (vi a1), some (vi a2), some (vi a3), some (vi a4), some (vi a5), some (vi 0), none, none] [] μ Q)) :
    Wp (d + 1) bc bs mX9_who 14 [some (vr a0), some (vi a1), some (vi a2), some (vi a3), some (vi a4), some (vi a5), none, none, none] [] μ Q := by
  refine st_iload (pc := 14) dX9_who_14 rfl ?_
  refine sg_iconst (pc := 16) dX9_who_16 (by omega) ?_
  refine st_icmpge (pc := 17) (tgt := 139) dX9_who_17 rfl (fun c => ?_) (fun c => ?_)
  · replace h := h.1 c
    refine st_iload_n (pc := 139) dX9_who_139 rfl rfl ?_
    refine sg_iconst (pc := 140) dX9_who_140 (by omega) ?_
    refine st_icmpne (pc := 141) (tgt := 147) dX9_who_141 rfl (fun c => ?_) (fun c => ?_)
    · replace h := h.1 c
      refine st_aload_n (pc := 147) dX9_who_147 rfl rfl ?_
      refine st_iload_n (pc := 148) dX9_who_148 rfl rfl ?_
      refine st_i2l (pc := 149) dX9_who_149 ?_
      refine st_iload_n (pc := 150) dX9_who_150 rfl rfl ?_
      refine st_i2l (pc := 151) dX9_who_151 ?_
      refine st_iload (pc := 152) dX9_who_152 rfl ?_
      refine st_i2l (pc := 154) dX9_who_154 ?_
      obtain ⟨hk1, h⟩ := h
      obtain ⟨mc1, ms1, K1, hC, e1, e2, h⟩ := h
      refine sg_VV (pc := 155) (av := [vl a2, vl a3, vl a4]) (st := []) (K := K1) dX9_who_155 ck_9_226 rfl (by decide) hk1 (by show (0 : Nat) ≤ 8; decide) hC e1 e2 (fun m1 hK => ?_) rfl
      replace h := h m1 hK
      refine st_iload_n (pc := 158) dX9_who_158 rfl rfl ?_
      exact st_ireturn (pc := 159) dX9_who_159 (Or.inl rfl) h
    · replace h := h.2 c
      refine sg_bipush (pc := 144) dX9_who_144 (by omega) (by decide) ?_
      exact st_ireturn (pc := 146) dX9_who_146 (Or.inl rfl) h
  · replace h := h.2 c
    refine sg_iconst (pc := 20) dX9_who_20 (by omega) ?_
    refine sg_istore (pc := 21) (ls' := [some (vr a0), some (vi a1), some (vi a2), some (vi a3), some (vi a4), some (vi a5), some (vi 0), none, none]) dX9_who_21 (by show (6 : Nat) < 9; decide) rfl ?_
    exact h

theorem sg_X9_who_23 {d bc bs : Nat} {a0 : Nat} {a1 : Int} {a2 : Int} {a3 : Int} {a4 : Int} {a5 : Int} {a6 : Int} {μ : Mem} {Q : Option (Option AV) → Mem → Prop}
    (h : (3 < a6 → ∀ v1, v1 = w32 (a5 + 1) → Wp (d + 1) bc bs mX9_who 14 [some (vr a0), some (vi a1), some (vi a2), some (vi a3), some (vi a4), some (vi v1), none, none, none] [] μ Q) ∧ (¬ 3 < a6 → mK μ a0 = 10 ∧ (mK μ (mR μ a0 5) = 26 ∧ ((0 : Int) ≤ a5 ∧ a5 < (mN μ (mR μ a0 5) : Int)) ∧ (mK μ (mR μ (mR μ a0 5) a5) = 9 ∧ (((mD μ (mR μ (mR μ a0 5) a5) 4) = 0 → ∀ v2, v2 = w32 (a6 + 1) → Wp (d + 1) bc bs mX9_who 23 [some (vr a0), some (vi a1), some (vi a2), some (vi a3), some (vi a4), some (vi a5), some (vi v2), none, none] [] μ Q) ∧ (¬ (mD μ (mR μ (mR μ a0 5) a5) 4) = 0 → ∃ (mc1 ms1 : Nat) (K1 : Int → Mem → Prop), Cl d mc1 ms1 mX9_isHand [vr a0, vi a6] μ (KI K1) ∧ mc1 ≤ bc ∧ ms1 ≤ bs ∧ (∀ x1 m1, K1 x1 m1 → (¬ x1 = 0 → mK m1 a0 = 10 ∧ ∃ (mc2 ms2 : Nat) (K2 : Nat → Mem → Prop), Cl d mc2 ms2 mX9_asItIs [vr a0] m1 (KR K2) ∧ mc2 ≤ bc - mc1 ∧ ms2 ≤ bs - ms1 ∧ (∀ x2 m2, K2 x2 m2 → mK m2 a0 = 10 ∧ ∃ (mc3 ms3 : Nat) (K3 : Nat → Mem → Prop), Cl d mc3 ms3 mX9_toldLaw [vr a0, vi a6] m2 (KR K3) ∧ mc3 ≤ bc - mc1 - mc2 ∧ ms3 ≤ bs - ms1 - ms2 ∧ (∀ x3 m3, K3 x3 m3 → mK m3 x2 = 8 ∧ (∀ m4, m4 = sR m3 x2 1 x3 → mK m4 a0 = 10 ∧ (mK m4 (mR m4 a0 5) = 26 ∧ ((0 : Int) ≤ a5 ∧ a5 < (mN m4 (mR m4 a0 5) : Int)) ∧ (mK m4 x2 = 8 ∧ ∃ (mc4 ms4 : Nat) (K4 : Int → Mem → Prop), Cl d mc4 ms4 mX7_spiltOn [vr x2, vr (mR m4 (mR m4 a0 5) a5), vi 1] m4 (KI K4) ∧ mc4 ≤ bc - mc1 - mc2 - mc3 ∧ ms4 ≤ bs - ms1 - ms2 - ms3 ∧ (∀ x4 m5, K4 x4 m5 → mK m5 a0 = 10 ∧ ∃ (mc5 ms5 : Nat) (K5 : Int → Mem → Prop), Cl d mc5 ms5 mX9_distance [vr a0, vr x2] m5 (KI K5) ∧ mc5 ≤ bc - mc1 - mc2 - mc3 - mc4 ∧ ms5 ≤ bs - ms1 - ms2 - ms3 - ms4 ∧ (∀ x5 m6, K5 x5 m6 → (a1 ≤ x5 → Wp (d + 1) (bc - mc1 - mc2 - mc3 - mc4 - mc5) (bs - ms1 - ms2 - ms3 - ms4 - ms5) mX9_who 111 [some (vr a0), some (vi a1), some (vi a2), some (vi a3), some (vi a4), some (vi a5), some (vi a6), some (vr x2), some (vi x5)] [] m6 Q) ∧ (¬ a1 ≤ x5 → Wp (d + 1) (bc - mc1 - mc2 - mc3 - mc4 - mc5) (bs - ms1 - ms2 - ms3 - ms4 - ms5) mX9_who 111 [some (vr a0), some (vi x5), some (vi a5), some (vi a6), some (vi 0), some (vi a5), some (vi a6), some (vr x2), some (vi x5)] [] m6 Q))))))))) ∧ (x1 = 0 → ∀ v3, v3 = w32 (a6 + 1) → Wp (d + 1) (bc - mc1) (bs - ms1) mX9_who 23 [some (vr a0), some (vi a1), some (vi a2), some (vi a3), some (vi a4), some (vi a5), some (vi v3), none, none] [] m1 Q)))))))) :
    Wp (d + 1) bc bs mX9_who 23 [some (vr a0), some (vi a1), some (vi a2), some (vi a3), some (vi a4), some (vi a5), some (vi a6), none, none] [] μ Q := by
  refine st_iload (pc := 23) dX9_who_23 rfl ?_
  refine sg_iconst (pc := 25) dX9_who_25 (by omega) ?_
  refine st_icmpgt (pc := 26) (tgt := 133) dX9_who_26 rfl (fun c => ?_) (fun c => ?_)
  · replace h := h.1 c
    refine sg_iinc (pc := 133) (ls' := [some (vr a0), some (vi a1), some (vi a2), some (vi a3), some (vi a4), some (vi (w32 (a5 + 1))), some (vi a6), none, none]) dX9_who_133 rfl rfl ?_
    refine Wp.nameL (ls2 := fun v => [some (vr a0), some (vi a1), some (vi a2), some (vi a3), some (vi a4), some (vi v), some (vi a6), none, none]) 5 _ rfl (fun _ => rfl) (fun v1 ev1 => ?_)
    replace h := h v1 ev1
    refine st_goto (pc := 136) dX9_who_136 rfl ?_
    refine Wp.drop 6 rfl ?_
    exact h
  · replace h := h.2 c
    refine st_aload_n (pc := 29) dX9_who_29 rfl rfl ?_
    obtain ⟨hk1, h⟩ := h
    refine sg_gfR (pc := 30) (J := 5) dX9_who_30 fl_9_40 rfl hk1 ?_
    refine st_iload (pc := 33) dX9_who_33 rfl ?_
    obtain ⟨hk2, h⟩ := h
    obtain ⟨h1, h⟩ := h
    refine st_aaload (pc := 35) (t := 6) dX9_who_35 hk2 (fun _ => rfl) (by decide) (by decide) h1.1 h1.2 ?_
    obtain ⟨hk3, h⟩ := h
    refine sg_gfI (pc := 36) (J := 4) dX9_who_36 fl_9_204 (by decide) rfl hk3 ?_
    refine st_ifeq (pc := 39) (tgt := 127) dX9_who_39 rfl (fun c => ?_) (fun c => ?_)
    · replace h := h.1 c
      refine sg_iinc (pc := 127) (ls' := [some (vr a0), some (vi a1), some (vi a2), some (vi a3), some (vi a4), some (vi a5), some (vi (w32 (a6 + 1))), none, none]) dX9_who_127 rfl rfl ?_
      refine Wp.nameL (ls2 := fun v => [some (vr a0), some (vi a1), some (vi a2), some (vi a3), some (vi a4), some (vi a5), some (vi v), none, none]) 6 _ rfl (fun _ => rfl) (fun v2 ev2 => ?_)
      replace h := h v2 ev2
      refine st_goto (pc := 130) dX9_who_130 rfl ?_
      exact h
    · replace h := h.2 c
      refine st_aload_n (pc := 42) dX9_who_42 rfl rfl ?_
      refine st_iload (pc := 43) dX9_who_43 rfl ?_
      obtain ⟨mc1, ms1, K1, hC, e1, e2, h⟩ := h
      refine sg_VI (pc := 45) (av := [vi a6]) (st := []) (K := K1) dX9_who_45 ck_9_376 rfl (by decide) hk1 (by show (0 : Nat) ≤ 8; decide) hC e1 e2 (fun x1 m1 hK => ?_) rfl
      replace h := h x1 m1 hK
      refine st_ifne (pc := 48) (tgt := 54) dX9_who_48 rfl (fun c => ?_) (fun c => ?_)
      · replace h := h.1 c
        refine st_aload_n (pc := 54) dX9_who_54 rfl rfl ?_
        obtain ⟨hk4, h⟩ := h
        obtain ⟨mc2, ms2, K2, hC, e1, e2, h⟩ := h
        refine sg_VR (pc := 55) (av := []) (st := []) (K := K2) dX9_who_55 ck_9_242 rfl (by decide) hk4 (by show (0 : Nat) ≤ 8; decide) hC e1 e2 (fun x2 m2 hK => ?_) rfl
        replace h := h x2 m2 hK
        refine sg_astore (pc := 58) (ls' := [some (vr a0), some (vi a1), some (vi a2), some (vi a3), some (vi a4), some (vi a5), some (vi a6), some (vr x2), none]) dX9_who_58 (by show (7 : Nat) < 9; decide) rfl ?_
        refine st_aload (pc := 60) dX9_who_60 rfl ?_
        refine st_aload_n (pc := 62) dX9_who_62 rfl rfl ?_
        refine st_iload (pc := 63) dX9_who_63 rfl ?_
        obtain ⟨hk5, h⟩ := h
        obtain ⟨mc3, ms3, K3, hC, e1, e2, h⟩ := h
        refine sg_VR (pc := 65) (av := [vi a6]) (st := [vr x2]) (K := K3) dX9_who_65 ck_9_208 rfl (by decide) hk5 (by show (1 : Nat) ≤ 8; decide) hC e1 e2 (fun x3 m3 hK => ?_) rfl
        replace h := h x3 m3 hK
        obtain ⟨hk6, h⟩ := h
        refine sg_pfR (pc := 68) (J := 1) dX9_who_68 fl_9_321 rfl (Or.inl rfl) hk6 ?_
        refine Wp.nameM (fun m4 em4 => ?_)
        replace h := h m4 em4
        refine st_aload (pc := 71) dX9_who_71 rfl ?_
        refine st_aload_n (pc := 73) dX9_who_73 rfl rfl ?_
        obtain ⟨hk7, h⟩ := h
        refine sg_gfR (pc := 74) (J := 5) dX9_who_74 fl_9_40 rfl hk7 ?_
        refine st_iload (pc := 77) dX9_who_77 rfl ?_
        obtain ⟨hk8, h⟩ := h
        obtain ⟨h1, h⟩ := h
        refine st_aaload (pc := 79) (t := 6) dX9_who_79 hk8 (fun _ => rfl) (by decide) (by decide) h1.1 h1.2 ?_
        refine sg_iconst (pc := 80) dX9_who_80 (by omega) ?_
        obtain ⟨hk9, h⟩ := h
        obtain ⟨mc4, ms4, K4, hC, e1, e2, h⟩ := h
        refine sg_VI (pc := 81) (av := [vr (mR m4 (mR m4 a0 5) a5), vi 1]) (st := []) (K := K4) dX9_who_81 ck_9_265 rfl (by decide) hk9 (by show (0 : Nat) ≤ 8; decide) hC e1 e2 (fun x4 m5 hK => ?_) rfl
        replace h := h x4 m5 hK
        refine st_pop (pc := 84) dX9_who_84 rfl ?_
        refine st_aload_n (pc := 85) dX9_who_85 rfl rfl ?_
        refine st_aload (pc := 86) dX9_who_86 rfl ?_
        obtain ⟨hk10, h⟩ := h
        obtain ⟨mc5, ms5, K5, hC, e1, e2, h⟩ := h
        refine sg_VI (pc := 88) (av := [vr x2]) (st := []) (K := K5) dX9_who_88 ck_9_379 rfl (by decide) hk10 (by show (0 : Nat) ≤ 8; decide) hC e1 e2 (fun x5 m6 hK => ?_) rfl
        replace h := h x5 m6 hK
        refine sg_istore (pc := 91) (ls' := [some (vr a0), some (vi a1), some (vi a2), some (vi a3), some (vi a4), some (vi a5), some (vi a6), some (vr x2), some (vi x5)]) dX9_who_91 (by show (8 : Nat) < 9; decide) rfl ?_
        refine st_iload (pc := 93) dX9_who_93 rfl ?_
        refine st_iload_n (pc := 95) dX9_who_95 rfl rfl ?_
        refine st_icmpge (pc := 96) (tgt := 111) dX9_who_96 rfl (fun c => ?_) (fun c => ?_)
        · replace h := h.1 c
          exact h
        · replace h := h.2 c
          refine st_iload (pc := 99) dX9_who_99 rfl ?_
          refine sg_istore_n (pc := 101) (ls' := [some (vr a0), some (vi x5), some (vi a2), some (vi a3), some (vi a4), some (vi a5), some (vi a6), some (vr x2), some (vi x5)]) dX9_who_101 rfl (by show (1 : Nat) < 9; decide) rfl ?_
          refine st_iload (pc := 102) dX9_who_102 rfl ?_
          refine sg_istore_n (pc := 104) (ls' := [some (vr a0), some (vi x5), some (vi a5), some (vi a3), some (vi a4), some (vi a5), some (vi a6), some (vr x2), some (vi x5)]) dX9_who_104 rfl (by show (2 : Nat) < 9; decide) rfl ?_
          refine st_iload (pc := 105) dX9_who_105 rfl ?_
          refine sg_istore_n (pc := 107) (ls' := [some (vr a0), some (vi x5), some (vi a5), some (vi a6), some (vi a4), some (vi a5), some (vi a6), some (vr x2), some (vi x5)]) dX9_who_107 rfl (by show (3 : Nat) < 9; decide) rfl ?_
          refine sg_iconst (pc := 108) dX9_who_108 (by omega) ?_
          refine sg_istore (pc := 109) (ls' := [some (vr a0), some (vi x5), some (vi a5), some (vi a6), some (vi 0), some (vi a5), some (vi a6), some (vr x2), some (vi x5)]) dX9_who_109 (by show (4 : Nat) < 9; decide) rfl ?_
          exact h
      · replace h := h.2 c
        refine st_goto (pc := 51) dX9_who_51 rfl ?_
        refine sg_iinc (pc := 127) (ls' := [some (vr a0), some (vi a1), some (vi a2), some (vi a3), some (vi a4), some (vi a5), some (vi (w32 (a6 + 1))), none, none]) dX9_who_127 rfl rfl ?_
        refine Wp.nameL (ls2 := fun v => [some (vr a0), some (vi a1), some (vi a2), some (vi a3), some (vi a4), some (vi a5), some (vi v), none, none]) 6 _ rfl (fun _ => rfl) (fun v3 ev3 => ?_)
        replace h := h v3 ev3
        refine st_goto (pc := 130) dX9_who_130 rfl ?_
        exact h

theorem sg_X9_who_111 {d bc bs : Nat} {a0 : Nat} {a1 : Int} {a2 : Int} {a3 : Int} {a4 : Int} {a5 : Int} {a6 : Int} {a7 : Nat} {a8 : Int} {μ : Mem} {Q : Option (Option AV) → Mem → Prop}
    (h : (¬ a8 = a1 → ∀ v1, v1 = w32 (a4 + 0) → ∀ v2, v2 = w32 (a6 + 1) → Wp (d + 1) bc bs mX9_who 23 [some (vr a0), some (vi a1), some (vi a2), some (vi a3), some (vi v1), some (vi a5), some (vi v2), none, none] [] μ Q) ∧ (a8 = a1 → ∀ v3, v3 = w32 (a4 + 1) → ∀ v4, v4 = w32 (a6 + 1) → Wp (d + 1) bc bs mX9_who 23 [some (vr a0), some (vi a1), some (vi a2), some (vi a3), some (vi v3), some (vi a5), some (vi v4), none, none] [] μ Q)) :
    Wp (d + 1) bc bs mX9_who 111 [some (vr a0), some (vi a1), some (vi a2), some (vi a3), some (vi a4), some (vi a5), some (vi a6), some (vr a7), some (vi a8)] [] μ Q := by
  refine st_iload (pc := 111) dX9_who_111 rfl ?_
  refine st_iload (pc := 113) dX9_who_113 rfl ?_
  refine st_iload_n (pc := 115) dX9_who_115 rfl rfl ?_
  refine st_icmpne (pc := 116) (tgt := 123) dX9_who_116 rfl (fun c => ?_) (fun c => ?_)
  · replace h := h.1 c
    refine sg_iconst (pc := 123) dX9_who_123 (by omega) ?_
    refine st_iadd (pc := 124) dX9_who_124 ?_
    refine sg_istore (pc := 125) (ls' := [some (vr a0), some (vi a1), some (vi a2), some (vi a3), some (vi (w32 (a4 + 0))), some (vi a5), some (vi a6), some (vr a7), some (vi a8)]) dX9_who_125 (by show (4 : Nat) < 9; decide) rfl ?_
    refine Wp.nameL (ls2 := fun v => [some (vr a0), some (vi a1), some (vi a2), some (vi a3), some (vi v), some (vi a5), some (vi a6), some (vr a7), some (vi a8)]) 4 _ rfl (fun _ => rfl) (fun v1 ev1 => ?_)
    replace h := h v1 ev1
    refine sg_iinc (pc := 127) (ls' := [some (vr a0), some (vi a1), some (vi a2), some (vi a3), some (vi v1), some (vi a5), some (vi (w32 (a6 + 1))), some (vr a7), some (vi a8)]) dX9_who_127 rfl rfl ?_
    refine Wp.nameL (ls2 := fun v => [some (vr a0), some (vi a1), some (vi a2), some (vi a3), some (vi v1), some (vi a5), some (vi v), some (vr a7), some (vi a8)]) 6 _ rfl (fun _ => rfl) (fun v2 ev2 => ?_)
    replace h := h v2 ev2
    refine st_goto (pc := 130) dX9_who_130 rfl ?_
    refine Wp.drop 7 rfl ?_
    refine Wp.drop 8 rfl ?_
    exact h
  · replace h := h.2 c
    refine sg_iconst (pc := 119) dX9_who_119 (by omega) ?_
    refine st_goto (pc := 120) dX9_who_120 rfl ?_
    refine st_iadd (pc := 124) dX9_who_124 ?_
    refine sg_istore (pc := 125) (ls' := [some (vr a0), some (vi a1), some (vi a2), some (vi a3), some (vi (w32 (a4 + 1))), some (vi a5), some (vi a6), some (vr a7), some (vi a8)]) dX9_who_125 (by show (4 : Nat) < 9; decide) rfl ?_
    refine Wp.nameL (ls2 := fun v => [some (vr a0), some (vi a1), some (vi a2), some (vi a3), some (vi v), some (vi a5), some (vi a6), some (vr a7), some (vi a8)]) 4 _ rfl (fun _ => rfl) (fun v3 ev3 => ?_)
    replace h := h v3 ev3
    refine sg_iinc (pc := 127) (ls' := [some (vr a0), some (vi a1), some (vi a2), some (vi a3), some (vi v3), some (vi a5), some (vi (w32 (a6 + 1))), some (vr a7), some (vi a8)]) dX9_who_127 rfl rfl ?_
    refine Wp.nameL (ls2 := fun v => [some (vr a0), some (vi a1), some (vi a2), some (vi a3), some (vi v3), some (vi a5), some (vi v), some (vr a7), some (vi a8)]) 6 _ rfl (fun _ => rfl) (fun v4 ev4 => ?_)
    replace h := h v4 ev4
    refine st_goto (pc := 130) dX9_who_130 rfl ?_
    refine Wp.drop 7 rfl ?_
    refine Wp.drop 8 rfl ?_
    exact h

theorem sg_X9_film_0 {d bc bs : Nat} {a0 : Nat} {a1 : Int} {a2 : Int} {a3 : Int} {a4 : Int} {μ : Mem} {Q : Option (Option AV) → Mem → Prop}
    (h : ∃ (mc1 ms1 : Nat) (K1 : Int → Mem → Prop), Cl d mc1 ms1 mX9_isPush [vi a1] μ (KI K1) ∧ mc1 ≤ bc ∧ ms1 ≤ bs ∧ (∀ x1 m1, K1 x1 m1 → (x1 = 0 → Q (some (some (vi (-1)))) m1) ∧ (¬ x1 = 0 → ∃ (mc2 ms2 : Nat) (K2 : Int → Mem → Prop), Cl d mc2 ms2 mX9_isIn [vi a2, vi (-999), vi 999] m1 (KI K2) ∧ mc2 ≤ bc - mc1 ∧ ms2 ≤ bs - ms1 ∧ (∀ x2 m2, K2 x2 m2 → (x2 = 0 → Q (some (some (vi (-1)))) m2) ∧ (¬ x2 = 0 → ∃ (mc3 ms3 : Nat) (K3 : Int → Mem → Prop), Cl d mc3 ms3 mX9_isIn [vi a3, vi 0, vi 1000] m2 (KI K3) ∧ mc3 ≤ bc - mc1 - mc2 ∧ ms3 ≤ bs - ms1 - ms2 ∧ (∀ x3 m3, K3 x3 m3 → (x3 = 0 → Q (some (some (vi (-1)))) m3) ∧ (¬ x3 = 0 → ∃ (mc4 ms4 : Nat) (K4 : Int → Mem → Prop), Cl d mc4 ms4 mX9_isPush [vi a4] m3 (KI K4) ∧ mc4 ≤ bc - mc1 - mc2 - mc3 ∧ ms4 ≤ bs - ms1 - ms2 - ms3 ∧ (∀ x4 m4, K4 x4 m4 → (¬ x4 = 0 → mK m4 a0 = 10 ∧ (mK m4 (mR m4 a0 14) = 2 ∧ ∃ (mc5 ms5 : Nat) (K5 : Int → Mem → Prop), Cl d mc5 ms5 mX1_add [vr (mR m4 a0 14), vi a1, vi a2, vi a3, vi a4] m4 (KI K5) ∧ mc5 ≤ bc - mc1 - mc2 - mc3 - mc4 ∧ ms5 ≤ bs - ms1 - ms2 - ms3 - ms4 ∧ (∀ x5 m5, K5 x5 m5 → (x5 = 0 → Q (some (some (vi (-1)))) m5) ∧ (¬ x5 = 0 → mK m5 a0 = 10 ∧ (mK m5 (mR m5 a0 14) = 2 ∧ (Q (some (some (vi (mD m5 (mR m5 a0 14) 4)))) m5)))))) ∧ (x4 = 0 → Q (some (some (vi (-1)))) m4))))))))) :
    Wp (d + 1) bc bs mX9_film 0 [some (vr a0), some (vi a1), some (vi a2), some (vi a3), some (vi a4)] [] μ Q := by
  refine st_iload_n (pc := 0) dX9_film_0 rfl rfl ?_
  obtain ⟨mc1, ms1, K1, hC, e1, e2, h⟩ := h
  refine sg_SI (pc := 1) (av := [vi a1]) (st := []) (K := K1) dX9_film_1 ck_9_158 rfl (by show (0 : Nat) ≤ 8; decide) hC e1 e2 (fun x1 m1 hK => ?_) rfl
  replace h := h x1 m1 hK
  refine st_ifeq (pc := 4) (tgt := 39) dX9_film_4 rfl (fun c => ?_) (fun c => ?_)
  · replace h := h.1 c
    refine sg_iconst (pc := 39) dX9_film_39 (by omega) ?_
    exact st_ireturn (pc := 40) dX9_film_40 (Or.inl rfl) h
  · replace h := h.2 c
    refine st_iload_n (pc := 7) dX9_film_7 rfl rfl ?_
    refine sg_sipush (pc := 8) dX9_film_8 (by omega) (by decide) ?_
    refine sg_sipush (pc := 11) dX9_film_11 (by omega) (by decide) ?_
    obtain ⟨mc2, ms2, K2, hC, e1, e2, h⟩ := h
    refine sg_SI (pc := 14) (av := [vi a2, vi (-999), vi 999]) (st := []) (K := K2) dX9_film_14 ck_9_102 rfl (by show (0 : Nat) ≤ 8; decide) hC e1 e2 (fun x2 m2 hK => ?_) rfl
    replace h := h x2 m2 hK
    refine st_ifeq (pc := 17) (tgt := 39) dX9_film_17 rfl (fun c => ?_) (fun c => ?_)
    · replace h := h.1 c
      refine sg_iconst (pc := 39) dX9_film_39 (by omega) ?_
      exact st_ireturn (pc := 40) dX9_film_40 (Or.inl rfl) h
    · replace h := h.2 c
      refine st_iload_n (pc := 20) dX9_film_20 rfl rfl ?_
      refine sg_iconst (pc := 21) dX9_film_21 (by omega) ?_
      refine sg_sipush (pc := 22) dX9_film_22 (by omega) (by decide) ?_
      obtain ⟨mc3, ms3, K3, hC, e1, e2, h⟩ := h
      refine sg_SI (pc := 25) (av := [vi a3, vi 0, vi 1000]) (st := []) (K := K3) dX9_film_25 ck_9_102 rfl (by show (0 : Nat) ≤ 8; decide) hC e1 e2 (fun x3 m3 hK => ?_) rfl
      replace h := h x3 m3 hK
      refine st_ifeq (pc := 28) (tgt := 39) dX9_film_28 rfl (fun c => ?_) (fun c => ?_)
      · replace h := h.1 c
        refine sg_iconst (pc := 39) dX9_film_39 (by omega) ?_
        exact st_ireturn (pc := 40) dX9_film_40 (Or.inl rfl) h
      · replace h := h.2 c
        refine st_iload (pc := 31) dX9_film_31 rfl ?_
        obtain ⟨mc4, ms4, K4, hC, e1, e2, h⟩ := h
        refine sg_SI (pc := 33) (av := [vi a4]) (st := []) (K := K4) dX9_film_33 ck_9_158 rfl (by show (0 : Nat) ≤ 8; decide) hC e1 e2 (fun x4 m4 hK => ?_) rfl
        replace h := h x4 m4 hK
        refine st_ifne (pc := 36) (tgt := 41) dX9_film_36 rfl (fun c => ?_) (fun c => ?_)
        · replace h := h.1 c
          refine st_aload_n (pc := 41) dX9_film_41 rfl rfl ?_
          obtain ⟨hk1, h⟩ := h
          refine sg_gfR (pc := 42) (J := 14) dX9_film_42 fl_9_87 rfl hk1 ?_
          refine st_iload_n (pc := 45) dX9_film_45 rfl rfl ?_
          refine st_iload_n (pc := 46) dX9_film_46 rfl rfl ?_
          refine st_iload_n (pc := 47) dX9_film_47 rfl rfl ?_
          refine st_iload (pc := 48) dX9_film_48 rfl ?_
          obtain ⟨hk2, h⟩ := h
          obtain ⟨mc5, ms5, K5, hC, e1, e2, h⟩ := h
          refine sg_VI (pc := 50) (av := [vi a1, vi a2, vi a3, vi a4]) (st := []) (K := K5) dX9_film_50 ck_9_393 rfl (by decide) hk2 (by show (0 : Nat) ≤ 8; decide) hC e1 e2 (fun x5 m5 hK => ?_) rfl
          replace h := h x5 m5 hK
          refine st_ifeq (pc := 53) (tgt := 66) dX9_film_53 rfl (fun c => ?_) (fun c => ?_)
          · replace h := h.1 c
            refine sg_iconst (pc := 66) dX9_film_66 (by omega) ?_
            exact st_ireturn (pc := 67) dX9_film_67 (Or.inl rfl) h
          · replace h := h.2 c
            refine st_aload_n (pc := 56) dX9_film_56 rfl rfl ?_
            obtain ⟨hk3, h⟩ := h
            refine sg_gfR (pc := 57) (J := 14) dX9_film_57 fl_9_87 rfl hk3 ?_
            obtain ⟨hk4, h⟩ := h
            refine sg_gfI (pc := 60) (J := 4) dX9_film_60 fl_9_396 (by decide) rfl hk4 ?_
            refine st_goto (pc := 63) dX9_film_63 rfl ?_
            exact st_ireturn (pc := 67) dX9_film_67 (Or.inl rfl) h
        · replace h := h.2 c
          refine sg_iconst (pc := 39) dX9_film_39 (by omega) ?_
          exact st_ireturn (pc := 40) dX9_film_40 (Or.inl rfl) h

theorem sg_X9_fits_0 {d bc bs : Nat} {a0 : Nat} {a1 : Int} {a2 : Int} {μ : Mem} {Q : Option (Option AV) → Mem → Prop}
    (h : mK μ a0 = 10 ∧ ∃ (mc1 ms1 : Nat) (K1 : Nat → Mem → Prop), Cl d mc1 ms1 mX9_toldLaw [vr a0, vi a1] μ (KR K1) ∧ mc1 ≤ bc ∧ ms1 ≤ bs ∧ (∀ x1 m1, K1 x1 m1 → (x1 = 0 → Q (some (some (vi (-1)))) m1) ∧ (¬ x1 = 0 → ∃ (mc2 ms2 : Nat) (K2 : Int → Mem → Prop), Cl d mc2 ms2 mX9_isIn [vi a2, vi 0, vi 99] m1 (KI K2) ∧ mc2 ≤ bc - mc1 ∧ ms2 ≤ bs - ms1 ∧ (∀ x2 m2, K2 x2 m2 → (¬ x2 = 0 → Wp (d + 1) (bc - mc1 - mc2) (bs - ms1 - ms2) mX9_fits 37 [some (vr a0), some (vi a1), some (vi a2), some (vr x1), some (vi 0), some (vi 0), some (vi (-1)), some (vi (-1)), some (vi 0), none] [] m2 Q) ∧ (x2 = 0 → Q (some (some (vi (-1)))) m2))))) :
    Wp (d + 1) bc bs mX9_fits 0 [some (vr a0), some (vi a1), some (vi a2), none, none, none, none, none, none, none] [] μ Q := by
  refine st_aload_n (pc := 0) dX9_fits_0 rfl rfl ?_
  refine st_iload_n (pc := 1) dX9_fits_1 rfl rfl ?_
  obtain ⟨hk1, h⟩ := h
  obtain ⟨mc1, ms1, K1, hC, e1, e2, h⟩ := h
  refine sg_VR (pc := 2) (av := [vi a1]) (st := []) (K := K1) dX9_fits_2 ck_9_208 rfl (by decide) hk1 (by show (0 : Nat) ≤ 8; decide) hC e1 e2 (fun x1 m1 hK => ?_) rfl
  replace h := h x1 m1 hK
  refine sg_astore_n (pc := 5) (ls' := [some (vr a0), some (vi a1), some (vi a2), some (vr x1), none, none, none, none, none, none]) dX9_fits_5 rfl (by show (3 : Nat) < 10; decide) rfl ?_
  refine st_aload_n (pc := 6) dX9_fits_6 rfl rfl ?_
  refine st_ifnull (pc := 7) (tgt := 20) dX9_fits_7 rfl (fun c => ?_) (fun c => ?_)
  · replace h := h.1 c
    refine sg_iconst (pc := 20) dX9_fits_20 (by omega) ?_
    exact st_ireturn (pc := 21) dX9_fits_21 (Or.inl rfl) h
  · replace h := h.2 c
    refine st_iload_n (pc := 10) dX9_fits_10 rfl rfl ?_
    refine sg_iconst (pc := 11) dX9_fits_11 (by omega) ?_
    refine sg_bipush (pc := 12) dX9_fits_12 (by omega) (by decide) ?_
    obtain ⟨mc2, ms2, K2, hC, e1, e2, h⟩ := h
    refine sg_SI (pc := 14) (av := [vi a2, vi 0, vi 99]) (st := []) (K := K2) dX9_fits_14 ck_9_102 rfl (by show (0 : Nat) ≤ 8; decide) hC e1 e2 (fun x2 m2 hK => ?_) rfl
    replace h := h x2 m2 hK
    refine st_ifne (pc := 17) (tgt := 22) dX9_fits_17 rfl (fun c => ?_) (fun c => ?_)
    · replace h := h.1 c
      refine sg_iconst (pc := 22) dX9_fits_22 (by omega) ?_
      refine sg_istore (pc := 23) (ls' := [some (vr a0), some (vi a1), some (vi a2), some (vr x1), some (vi 0), none, none, none, none, none]) dX9_fits_23 (by show (4 : Nat) < 10; decide) rfl ?_
      refine sg_iconst (pc := 25) dX9_fits_25 (by omega) ?_
      refine sg_istore (pc := 26) (ls' := [some (vr a0), some (vi a1), some (vi a2), some (vr x1), some (vi 0), some (vi 0), none, none, none, none]) dX9_fits_26 (by show (5 : Nat) < 10; decide) rfl ?_
      refine sg_iconst (pc := 28) dX9_fits_28 (by omega) ?_
      refine sg_istore (pc := 29) (ls' := [some (vr a0), some (vi a1), some (vi a2), some (vr x1), some (vi 0), some (vi 0), some (vi (-1)), none, none, none]) dX9_fits_29 (by show (6 : Nat) < 10; decide) rfl ?_
      refine sg_iconst (pc := 31) dX9_fits_31 (by omega) ?_
      refine sg_istore (pc := 32) (ls' := [some (vr a0), some (vi a1), some (vi a2), some (vr x1), some (vi 0), some (vi 0), some (vi (-1)), some (vi (-1)), none, none]) dX9_fits_32 (by show (7 : Nat) < 10; decide) rfl ?_
      refine sg_iconst (pc := 34) dX9_fits_34 (by omega) ?_
      refine sg_istore (pc := 35) (ls' := [some (vr a0), some (vi a1), some (vi a2), some (vr x1), some (vi 0), some (vi 0), some (vi (-1)), some (vi (-1)), some (vi 0), none]) dX9_fits_35 (by show (8 : Nat) < 10; decide) rfl ?_
      exact h
    · replace h := h.2 c
      refine sg_iconst (pc := 20) dX9_fits_20 (by omega) ?_
      exact st_ireturn (pc := 21) dX9_fits_21 (Or.inl rfl) h

theorem sg_X9_fits_37 {d bc bs : Nat} {a0 : Nat} {a1 : Int} {a2 : Int} {a3 : Nat} {a4 : Int} {a5 : Int} {a6 : Int} {a7 : Int} {a8 : Int} {μ : Mem} {Q : Option (Option AV) → Mem → Prop}
    (h : mK μ a0 = 10 ∧ (mK μ (mR μ a0 14) = 2 ∧ (((mD μ (mR μ a0 14) 4) ≤ a8 → ∃ (mc1 ms1 : Nat) (K1 : Mem → Prop), Cl d mc1 ms1 mX9_tell_ [vr a0, vl a5, vl a6] μ (KV K1) ∧ mc1 ≤ bc ∧ ms1 ≤ bs ∧ (∀ m1, K1 m1 → Q (some (some (vi a4))) m1)) ∧ (¬ (mD μ (mR μ a0 14) 4) ≤ a8 → ∃ (mc2 ms2 : Nat) (K2 : Int → Mem → Prop), Cl d mc2 ms2 mX1_offByLaw [vr (mR μ a0 14), vi a8, vr a3, vr (mR μ a0 0)] μ (KI K2) ∧ mc2 ≤ bc ∧ ms2 ≤ bs ∧ (∀ x1 m2, K2 x1 m2 → ∀ v1, v1 = w32 (a5 + x1) → (a2 < x1 → ∀ v2, v2 = w32 (a4 + 0) → (x1 ≤ a7 → ∀ v3, v3 = w32 (a8 + 1) → Wp (d + 1) (bc - mc2) (bs - ms2) mX9_fits 37 [some (vr a0), some (vi a1), some (vi a2), some (vr a3), some (vi v2), some (vi v1), some (vi a6), some (vi a7), some (vi v3), none] [] m2 Q) ∧ (¬ x1 ≤ a7 → ∀ v4, v4 = w32 (a8 + 1) → Wp (d + 1) (bc - mc2) (bs - ms2) mX9_fits 37 [some (vr a0), some (vi a1), some (vi a2), some (vr a3), some (vi v2), some (vi v1), some (vi a8), some (vi x1), some (vi v4), none] [] m2 Q)) ∧ (¬ a2 < x1 → ∀ v5, v5 = w32 (a4 + 1) → (x1 ≤ a7 → ∀ v6, v6 = w32 (a8 + 1) → Wp (d + 1) (bc - mc2) (bs - ms2) mX9_fits 37 [some (vr a0), some (vi a1), some (vi a2), some (vr a3), some (vi v5), some (vi v1), some (vi a6), some (vi a7), some (vi v6), none] [] m2 Q) ∧ (¬ x1 ≤ a7 → ∀ v7, v7 = w32 (a8 + 1) → Wp (d + 1) (bc - mc2) (bs - ms2) mX9_fits 37 [some (vr a0), some (vi a1), some (vi a2), some (vr a3), some (vi v5), some (vi v1), some (vi a8), some (vi x1), some (vi v7), none] [] m2 Q))))))) :
    Wp (d + 1) bc bs mX9_fits 37 [some (vr a0), some (vi a1), some (vi a2), some (vr a3), some (vi a4), some (vi a5), some (vi a6), some (vi a7), some (vi a8), none] [] μ Q := by
  refine st_iload (pc := 37) dX9_fits_37 rfl ?_
  refine st_aload_n (pc := 39) dX9_fits_39 rfl rfl ?_
  obtain ⟨hk1, h⟩ := h
  refine sg_gfR (pc := 40) (J := 14) dX9_fits_40 fl_9_87 rfl hk1 ?_
  obtain ⟨hk2, h⟩ := h
  refine sg_gfI (pc := 43) (J := 4) dX9_fits_43 fl_9_396 (by decide) rfl hk2 ?_
  refine st_icmpge (pc := 46) (tgt := 109) dX9_fits_46 rfl (fun c => ?_) (fun c => ?_)
  · replace h := h.1 c
    refine st_aload_n (pc := 109) dX9_fits_109 rfl rfl ?_
    refine st_iload (pc := 110) dX9_fits_110 rfl ?_
    refine st_i2l (pc := 112) dX9_fits_112 ?_
    refine st_iload (pc := 113) dX9_fits_113 rfl ?_
    refine st_i2l (pc := 115) dX9_fits_115 ?_
    obtain ⟨mc1, ms1, K1, hC, e1, e2, h⟩ := h
    refine sg_VV (pc := 116) (av := [vl a5, vl a6]) (st := []) (K := K1) dX9_fits_116 ck_9_250 rfl (by decide) hk1 (by show (0 : Nat) ≤ 8; decide) hC e1 e2 (fun m1 hK => ?_) rfl
    replace h := h m1 hK
    refine st_iload (pc := 119) dX9_fits_119 rfl ?_
    exact st_ireturn (pc := 121) dX9_fits_121 (Or.inl rfl) h
  · replace h := h.2 c
    refine st_aload_n (pc := 49) dX9_fits_49 rfl rfl ?_
    refine sg_gfR (pc := 50) (J := 14) dX9_fits_50 fl_9_87 rfl hk1 ?_
    refine st_iload (pc := 53) dX9_fits_53 rfl ?_
    refine st_aload_n (pc := 55) dX9_fits_55 rfl rfl ?_
    refine st_aload_n (pc := 56) dX9_fits_56 rfl rfl ?_
    refine sg_gfR (pc := 57) (J := 0) dX9_fits_57 fl_9_10 rfl hk1 ?_
    obtain ⟨mc2, ms2, K2, hC, e1, e2, h⟩ := h
    refine sg_VI (pc := 60) (av := [vi a8, vr a3, vr (mR μ a0 0)]) (st := []) (K := K2) dX9_fits_60 ck_9_399 rfl (by decide) hk2 (by show (0 : Nat) ≤ 8; decide) hC e1 e2 (fun x1 m2 hK => ?_) rfl
    replace h := h x1 m2 hK
    refine sg_istore (pc := 63) (ls' := [some (vr a0), some (vi a1), some (vi a2), some (vr a3), some (vi a4), some (vi a5), some (vi a6), some (vi a7), some (vi a8), some (vi x1)]) dX9_fits_63 (by show (9 : Nat) < 10; decide) rfl ?_
    refine st_iload (pc := 65) dX9_fits_65 rfl ?_
    refine st_iload (pc := 67) dX9_fits_67 rfl ?_
    refine st_iadd (pc := 69) dX9_fits_69 ?_
    refine sg_istore (pc := 70) (ls' := [some (vr a0), some (vi a1), some (vi a2), some (vr a3), some (vi a4), some (vi (w32 (a5 + x1))), some (vi a6), some (vi a7), some (vi a8), some (vi x1)]) dX9_fits_70 (by show (5 : Nat) < 10; decide) rfl ?_
    refine Wp.nameL (ls2 := fun v => [some (vr a0), some (vi a1), some (vi a2), some (vr a3), some (vi a4), some (vi v), some (vi a6), some (vi a7), some (vi a8), some (vi x1)]) 5 _ rfl (fun _ => rfl) (fun v1 ev1 => ?_)
    replace h := h v1 ev1
    refine st_iload (pc := 72) dX9_fits_72 rfl ?_
    refine st_iload (pc := 74) dX9_fits_74 rfl ?_
    refine st_iload_n (pc := 76) dX9_fits_76 rfl rfl ?_
    refine st_icmpgt (pc := 77) (tgt := 84) dX9_fits_77 rfl (fun c => ?_) (fun c => ?_)
    · replace h := h.1 c
      refine sg_iconst (pc := 84) dX9_fits_84 (by omega) ?_
      refine st_iadd (pc := 85) dX9_fits_85 ?_
      refine sg_istore (pc := 86) (ls' := [some (vr a0), some (vi a1), some (vi a2), some (vr a3), some (vi (w32 (a4 + 0))), some (vi v1), some (vi a6), some (vi a7), some (vi a8), some (vi x1)]) dX9_fits_86 (by show (4 : Nat) < 10; decide) rfl ?_
      refine Wp.nameL (ls2 := fun v => [some (vr a0), some (vi a1), some (vi a2), some (vr a3), some (vi v), some (vi v1), some (vi a6), some (vi a7), some (vi a8), some (vi x1)]) 4 _ rfl (fun _ => rfl) (fun v2 ev2 => ?_)
      replace h := h v2 ev2
      refine st_iload (pc := 88) dX9_fits_88 rfl ?_
      refine st_iload (pc := 90) dX9_fits_90 rfl ?_
      refine st_icmple (pc := 92) (tgt := 103) dX9_fits_92 rfl (fun c => ?_) (fun c => ?_)
      · replace h := h.1 c
        refine sg_iinc (pc := 103) (ls' := [some (vr a0), some (vi a1), some (vi a2), some (vr a3), some (vi v2), some (vi v1), some (vi a6), some (vi a7), some (vi (w32 (a8 + 1))), some (vi x1)]) dX9_fits_103 rfl rfl ?_
        refine Wp.nameL (ls2 := fun v => [some (vr a0), some (vi a1), some (vi a2), some (vr a3), some (vi v2), some (vi v1), some (vi a6), some (vi a7), some (vi v), some (vi x1)]) 8 _ rfl (fun _ => rfl) (fun v3 ev3 => ?_)
        replace h := h v3 ev3
        refine st_goto (pc := 106) dX9_fits_106 rfl ?_
        refine Wp.drop 9 rfl ?_
        exact h
      · replace h := h.2 c
        refine st_iload (pc := 95) dX9_fits_95 rfl ?_
        refine sg_istore (pc := 97) (ls' := [some (vr a0), some (vi a1), some (vi a2), some (vr a3), some (vi v2), some (vi v1), some (vi a6), some (vi x1), some (vi a8), some (vi x1)]) dX9_fits_97 (by show (7 : Nat) < 10; decide) rfl ?_
        refine st_iload (pc := 99) dX9_fits_99 rfl ?_
        refine sg_istore (pc := 101) (ls' := [some (vr a0), some (vi a1), some (vi a2), some (vr a3), some (vi v2), some (vi v1), some (vi a8), some (vi x1), some (vi a8), some (vi x1)]) dX9_fits_101 (by show (6 : Nat) < 10; decide) rfl ?_
        refine sg_iinc (pc := 103) (ls' := [some (vr a0), some (vi a1), some (vi a2), some (vr a3), some (vi v2), some (vi v1), some (vi a8), some (vi x1), some (vi (w32 (a8 + 1))), some (vi x1)]) dX9_fits_103 rfl rfl ?_
        refine Wp.nameL (ls2 := fun v => [some (vr a0), some (vi a1), some (vi a2), some (vr a3), some (vi v2), some (vi v1), some (vi a8), some (vi x1), some (vi v), some (vi x1)]) 8 _ rfl (fun _ => rfl) (fun v4 ev4 => ?_)
        replace h := h v4 ev4
        refine st_goto (pc := 106) dX9_fits_106 rfl ?_
        refine Wp.drop 9 rfl ?_
        exact h
    · replace h := h.2 c
      refine sg_iconst (pc := 80) dX9_fits_80 (by omega) ?_
      refine st_goto (pc := 81) dX9_fits_81 rfl ?_
      refine st_iadd (pc := 85) dX9_fits_85 ?_
      refine sg_istore (pc := 86) (ls' := [some (vr a0), some (vi a1), some (vi a2), some (vr a3), some (vi (w32 (a4 + 1))), some (vi v1), some (vi a6), some (vi a7), some (vi a8), some (vi x1)]) dX9_fits_86 (by show (4 : Nat) < 10; decide) rfl ?_
      refine Wp.nameL (ls2 := fun v => [some (vr a0), some (vi a1), some (vi a2), some (vr a3), some (vi v), some (vi v1), some (vi a6), some (vi a7), some (vi a8), some (vi x1)]) 4 _ rfl (fun _ => rfl) (fun v5 ev5 => ?_)
      replace h := h v5 ev5
      refine st_iload (pc := 88) dX9_fits_88 rfl ?_
      refine st_iload (pc := 90) dX9_fits_90 rfl ?_
      refine st_icmple (pc := 92) (tgt := 103) dX9_fits_92 rfl (fun c => ?_) (fun c => ?_)
      · replace h := h.1 c
        refine sg_iinc (pc := 103) (ls' := [some (vr a0), some (vi a1), some (vi a2), some (vr a3), some (vi v5), some (vi v1), some (vi a6), some (vi a7), some (vi (w32 (a8 + 1))), some (vi x1)]) dX9_fits_103 rfl rfl ?_
        refine Wp.nameL (ls2 := fun v => [some (vr a0), some (vi a1), some (vi a2), some (vr a3), some (vi v5), some (vi v1), some (vi a6), some (vi a7), some (vi v), some (vi x1)]) 8 _ rfl (fun _ => rfl) (fun v6 ev6 => ?_)
        replace h := h v6 ev6
        refine st_goto (pc := 106) dX9_fits_106 rfl ?_
        refine Wp.drop 9 rfl ?_
        exact h
      · replace h := h.2 c
        refine st_iload (pc := 95) dX9_fits_95 rfl ?_
        refine sg_istore (pc := 97) (ls' := [some (vr a0), some (vi a1), some (vi a2), some (vr a3), some (vi v5), some (vi v1), some (vi a6), some (vi x1), some (vi a8), some (vi x1)]) dX9_fits_97 (by show (7 : Nat) < 10; decide) rfl ?_
        refine st_iload (pc := 99) dX9_fits_99 rfl ?_
        refine sg_istore (pc := 101) (ls' := [some (vr a0), some (vi a1), some (vi a2), some (vr a3), some (vi v5), some (vi v1), some (vi a8), some (vi x1), some (vi a8), some (vi x1)]) dX9_fits_101 (by show (6 : Nat) < 10; decide) rfl ?_
        refine sg_iinc (pc := 103) (ls' := [some (vr a0), some (vi a1), some (vi a2), some (vr a3), some (vi v5), some (vi v1), some (vi a8), some (vi x1), some (vi (w32 (a8 + 1))), some (vi x1)]) dX9_fits_103 rfl rfl ?_
        refine Wp.nameL (ls2 := fun v => [some (vr a0), some (vi a1), some (vi a2), some (vr a3), some (vi v5), some (vi v1), some (vi a8), some (vi x1), some (vi v), some (vi x1)]) 8 _ rfl (fun _ => rfl) (fun v7 ev7 => ?_)
        replace h := h v7 ev7
        refine st_goto (pc := 106) dX9_fits_106 rfl ?_
        refine Wp.drop 9 rfl ?_
        exact h

theorem sg_X9_reads_0 {d bc bs : Nat} {a0 : Nat} {μ : Mem} {Q : Option (Option AV) → Mem → Prop}
    (h : mK μ a0 = 10 ∧ (mK μ (mR μ a0 14) = 2 ∧ ((¬ (mD μ (mR μ a0 14) 4) = 0 → Wp (d + 1) bc bs mX9_reads 23 [some (vr a0), some (vi 2147483647), some (vi (-1)), some (vi (-1)), some (vi 0), none, none] [] μ Q) ∧ ((mD μ (mR μ a0 14) 4) = 0 → Q (some (some (vi (-1)))) μ)))) :
    Wp (d + 1) bc bs mX9_reads 0 [some (vr a0), none, none, none, none, none, none] [] μ Q := by
  refine st_aload_n (pc := 0) dX9_reads_0 rfl rfl ?_
  obtain ⟨hk1, h⟩ := h
  refine sg_gfR (pc := 1) (J := 14) dX9_reads_1 fl_9_87 rfl hk1 ?_
  obtain ⟨hk2, h⟩ := h
  refine sg_gfI (pc := 4) (J := 4) dX9_reads_4 fl_9_396 (by decide) rfl hk2 ?_
  refine st_ifne (pc := 7) (tgt := 12) dX9_reads_7 rfl (fun c => ?_) (fun c => ?_)
  · replace h := h.1 c
    refine st_ldcw (pc := 12) (n := 2147483647) dX9_reads_12 cn_9_326 (by unfold r32; omega) ?_
    refine sg_istore_n (pc := 15) (ls' := [some (vr a0), some (vi 2147483647), none, none, none, none, none]) dX9_reads_15 rfl (by show (1 : Nat) < 7; decide) rfl ?_
    refine sg_iconst (pc := 16) dX9_reads_16 (by omega) ?_
    refine sg_istore_n (pc := 17) (ls' := [some (vr a0), some (vi 2147483647), some (vi (-1)), none, none, none, none]) dX9_reads_17 rfl (by show (2 : Nat) < 7; decide) rfl ?_
    refine sg_iconst (pc := 18) dX9_reads_18 (by omega) ?_
    refine sg_istore_n (pc := 19) (ls' := [some (vr a0), some (vi 2147483647), some (vi (-1)), some (vi (-1)), none, none, none]) dX9_reads_19 rfl (by show (3 : Nat) < 7; decide) rfl ?_
    refine sg_iconst (pc := 20) dX9_reads_20 (by omega) ?_
    refine sg_istore (pc := 21) (ls' := [some (vr a0), some (vi 2147483647), some (vi (-1)), some (vi (-1)), some (vi 0), none, none]) dX9_reads_21 (by show (4 : Nat) < 7; decide) rfl ?_
    exact h
  · replace h := h.2 c
    refine sg_iconst (pc := 10) dX9_reads_10 (by omega) ?_
    exact st_ireturn (pc := 11) dX9_reads_11 (Or.inl rfl) h

theorem sg_X9_reads_23 {d bc bs : Nat} {a0 : Nat} {a1 : Int} {a2 : Int} {a3 : Int} {a4 : Int} {μ : Mem} {Q : Option (Option AV) → Mem → Prop}
    (h : (20 < a4 → mK μ a0 = 10 ∧ ∃ (mc1 ms1 : Nat) (K1 : Mem → Prop), Cl d mc1 ms1 mX9_tell__ [vr a0, vl a2, vl a3, vl a1] μ (KV K1) ∧ mc1 ≤ bc ∧ ms1 ≤ bs ∧ (∀ m1, K1 m1 → Q (some (some (vi 0))) m1)) ∧ (¬ 20 < a4 → Wp (d + 1) bc bs mX9_reads 33 [some (vr a0), some (vi a1), some (vi a2), some (vi a3), some (vi a4), some (vi 0), none] [] μ Q)) :
    Wp (d + 1) bc bs mX9_reads 23 [some (vr a0), some (vi a1), some (vi a2), some (vi a3), some (vi a4), none, none] [] μ Q := by
  refine st_iload (pc := 23) dX9_reads_23 rfl ?_
  refine sg_bipush (pc := 25) dX9_reads_25 (by omega) (by decide) ?_
  refine st_icmpgt (pc := 27) (tgt := 80) dX9_reads_27 rfl (fun c => ?_) (fun c => ?_)
  · replace h := h.1 c
    refine st_aload_n (pc := 80) dX9_reads_80 rfl rfl ?_
    refine st_iload_n (pc := 81) dX9_reads_81 rfl rfl ?_
    refine st_i2l (pc := 82) dX9_reads_82 ?_
    refine st_iload_n (pc := 83) dX9_reads_83 rfl rfl ?_
    refine st_i2l (pc := 84) dX9_reads_84 ?_
    refine st_iload_n (pc := 85) dX9_reads_85 rfl rfl ?_
    refine st_i2l (pc := 86) dX9_reads_86 ?_
    obtain ⟨hk1, h⟩ := h
    obtain ⟨mc1, ms1, K1, hC, e1, e2, h⟩ := h
    refine sg_VV (pc := 87) (av := [vl a2, vl a3, vl a1]) (st := []) (K := K1) dX9_reads_87 ck_9_226 rfl (by decide) hk1 (by show (0 : Nat) ≤ 8; decide) hC e1 e2 (fun m1 hK => ?_) rfl
    replace h := h m1 hK
    refine sg_iconst (pc := 90) dX9_reads_90 (by omega) ?_
    exact st_ireturn (pc := 91) dX9_reads_91 (Or.inl rfl) h
  · replace h := h.2 c
    refine sg_iconst (pc := 30) dX9_reads_30 (by omega) ?_
    refine sg_istore (pc := 31) (ls' := [some (vr a0), some (vi a1), some (vi a2), some (vi a3), some (vi a4), some (vi 0), none]) dX9_reads_31 (by show (5 : Nat) < 7; decide) rfl ?_
    exact h

theorem sg_X9_reads_33 {d bc bs : Nat} {a0 : Nat} {a1 : Int} {a2 : Int} {a3 : Int} {a4 : Int} {a5 : Int} {μ : Mem} {Q : Option (Option AV) → Mem → Prop}
    (h : (20 < a5 → ∀ v1, v1 = w32 (a4 + 1) → Wp (d + 1) bc bs mX9_reads 23 [some (vr a0), some (vi a1), some (vi a2), some (vi a3), some (vi v1), none, none] [] μ Q) ∧ (¬ 20 < a5 → mK μ a0 = 10 ∧ (mK μ (mR μ a0 14) = 2 ∧ ∃ (mc1 ms1 : Nat) (K1 : Int → Mem → Prop), Cl d mc1 ms1 mX1_offByTenths [vr (mR μ a0 14), vi a4, vi a5] μ (KI K1) ∧ mc1 ≤ bc ∧ ms1 ≤ bs ∧ (∀ x1 m1, K1 x1 m1 → (a1 ≤ x1 → ∀ v2, v2 = w32 (a5 + 1) → Wp (d + 1) (bc - mc1) (bs - ms1) mX9_reads 33 [some (vr a0), some (vi a1), some (vi a2), some (vi a3), some (vi a4), some (vi v2), none] [] m1 Q) ∧ (¬ a1 ≤ x1 → ∀ v3, v3 = w32 (a5 + 1) → Wp (d + 1) (bc - mc1) (bs - ms1) mX9_reads 33 [some (vr a0), some (vi x1), some (vi a4), some (vi a5), some (vi a4), some (vi v3), none] [] m1 Q))))) :
    Wp (d + 1) bc bs mX9_reads 33 [some (vr a0), some (vi a1), some (vi a2), some (vi a3), some (vi a4), some (vi a5), none] [] μ Q := by
  refine st_iload (pc := 33) dX9_reads_33 rfl ?_
  refine sg_bipush (pc := 35) dX9_reads_35 (by omega) (by decide) ?_
  refine st_icmpgt (pc := 37) (tgt := 74) dX9_reads_37 rfl (fun c => ?_) (fun c => ?_)
  · replace h := h.1 c
    refine sg_iinc (pc := 74) (ls' := [some (vr a0), some (vi a1), some (vi a2), some (vi a3), some (vi (w32 (a4 + 1))), some (vi a5), none]) dX9_reads_74 rfl rfl ?_
    refine Wp.nameL (ls2 := fun v => [some (vr a0), some (vi a1), some (vi a2), some (vi a3), some (vi v), some (vi a5), none]) 4 _ rfl (fun _ => rfl) (fun v1 ev1 => ?_)
    replace h := h v1 ev1
    refine st_goto (pc := 77) dX9_reads_77 rfl ?_
    refine Wp.drop 5 rfl ?_
    exact h
  · replace h := h.2 c
    refine st_aload_n (pc := 40) dX9_reads_40 rfl rfl ?_
    obtain ⟨hk1, h⟩ := h
    refine sg_gfR (pc := 41) (J := 14) dX9_reads_41 fl_9_87 rfl hk1 ?_
    refine st_iload (pc := 44) dX9_reads_44 rfl ?_
    refine st_iload (pc := 46) dX9_reads_46 rfl ?_
    obtain ⟨hk2, h⟩ := h
    obtain ⟨mc1, ms1, K1, hC, e1, e2, h⟩ := h
    refine sg_VI (pc := 48) (av := [vi a4, vi a5]) (st := []) (K := K1) dX9_reads_48 ck_9_403 rfl (by decide) hk2 (by show (0 : Nat) ≤ 8; decide) hC e1 e2 (fun x1 m1 hK => ?_) rfl
    replace h := h x1 m1 hK
    refine sg_istore (pc := 51) (ls' := [some (vr a0), some (vi a1), some (vi a2), some (vi a3), some (vi a4), some (vi a5), some (vi x1)]) dX9_reads_51 (by show (6 : Nat) < 7; decide) rfl ?_
    refine st_iload (pc := 53) dX9_reads_53 rfl ?_
    refine st_iload_n (pc := 55) dX9_reads_55 rfl rfl ?_
    refine st_icmpge (pc := 56) (tgt := 68) dX9_reads_56 rfl (fun c => ?_) (fun c => ?_)
    · replace h := h.1 c
      refine sg_iinc (pc := 68) (ls' := [some (vr a0), some (vi a1), some (vi a2), some (vi a3), some (vi a4), some (vi (w32 (a5 + 1))), some (vi x1)]) dX9_reads_68 rfl rfl ?_
      refine Wp.nameL (ls2 := fun v => [some (vr a0), some (vi a1), some (vi a2), some (vi a3), some (vi a4), some (vi v), some (vi x1)]) 5 _ rfl (fun _ => rfl) (fun v2 ev2 => ?_)
      replace h := h v2 ev2
      refine st_goto (pc := 71) dX9_reads_71 rfl ?_
      refine Wp.drop 6 rfl ?_
      exact h
    · replace h := h.2 c
      refine st_iload (pc := 59) dX9_reads_59 rfl ?_
      refine sg_istore_n (pc := 61) (ls' := [some (vr a0), some (vi x1), some (vi a2), some (vi a3), some (vi a4), some (vi a5), some (vi x1)]) dX9_reads_61 rfl (by show (1 : Nat) < 7; decide) rfl ?_
      refine st_iload (pc := 62) dX9_reads_62 rfl ?_
      refine sg_istore_n (pc := 64) (ls' := [some (vr a0), some (vi x1), some (vi a4), some (vi a3), some (vi a4), some (vi a5), some (vi x1)]) dX9_reads_64 rfl (by show (2 : Nat) < 7; decide) rfl ?_
      refine st_iload (pc := 65) dX9_reads_65 rfl ?_
      refine sg_istore_n (pc := 67) (ls' := [some (vr a0), some (vi x1), some (vi a4), some (vi a5), some (vi a4), some (vi a5), some (vi x1)]) dX9_reads_67 rfl (by show (3 : Nat) < 7; decide) rfl ?_
      refine sg_iinc (pc := 68) (ls' := [some (vr a0), some (vi x1), some (vi a4), some (vi a5), some (vi a4), some (vi (w32 (a5 + 1))), some (vi x1)]) dX9_reads_68 rfl rfl ?_
      refine Wp.nameL (ls2 := fun v => [some (vr a0), some (vi x1), some (vi a4), some (vi a5), some (vi a4), some (vi v), some (vi x1)]) 5 _ rfl (fun _ => rfl) (fun v3 ev3 => ?_)
      replace h := h v3 ev3
      refine st_goto (pc := 71) dX9_reads_71 rfl ?_
      refine Wp.drop 6 rfl ?_
      exact h

theorem sg_X9_seed_0 {d bc bs : Nat} {a0 : Nat} {a1 : Int} {μ : Mem} {Q : Option (Option AV) → Mem → Prop}
    (h : mK μ a0 = 10 ∧ (mK μ (mR μ a0 1) = 6 ∧ (∀ v1, v1 = mD μ (mR μ a0 1) 1 → (∀ m1, m1 = sD μ (mR μ a0 1) 1 a1 → Q (some (some (vi v1))) m1)))) :
    Wp d bc bs mX9_seed 0 [some (vr a0), some (vi a1), none] [] μ Q := by
  refine st_aload_n (pc := 0) dX9_seed_0 rfl rfl ?_
  obtain ⟨hk1, h⟩ := h
  refine sg_gfR (pc := 1) (J := 1) dX9_seed_1 fl_9_19 rfl hk1 ?_
  obtain ⟨hk2, h⟩ := h
  refine sg_gfI (pc := 4) (J := 1) dX9_seed_4 fl_9_406 (by decide) rfl hk2 ?_
  refine sg_istore_n (pc := 7) (ls' := [some (vr a0), some (vi a1), some (vi (mD μ (mR μ a0 1) 1))]) dX9_seed_7 rfl (by show (2 : Nat) < 3; decide) rfl ?_
  refine Wp.nameL (ls2 := fun v => [some (vr a0), some (vi a1), some (vi v)]) 2 _ rfl (fun _ => rfl) (fun v1 ev1 => ?_)
  replace h := h v1 ev1
  refine st_aload_n (pc := 8) dX9_seed_8 rfl rfl ?_
  refine sg_gfR (pc := 9) (J := 1) dX9_seed_9 fl_9_19 rfl hk1 ?_
  refine st_iload_n (pc := 12) dX9_seed_12 rfl rfl ?_
  refine sg_pfI (pc := 13) (J := 1) dX9_seed_13 fl_9_406 rfl (Or.inl rfl) hk2 ?_
  refine Wp.nameM (fun m1 em1 => ?_)
  replace h := h m1 em1
  refine st_iload_n (pc := 16) dX9_seed_16 rfl rfl ?_
  exact st_ireturn (pc := 17) dX9_seed_17 (Or.inl rfl) h

theorem sg_X9_keep_0 {d bc bs : Nat} {a0 : Nat} {a1 : Int} {μ : Mem} {Q : Option (Option AV) → Mem → Prop}
    (h : ∃ (mc1 ms1 : Nat) (K1 : Int → Mem → Prop), Cl d mc1 ms1 mX9_isIn [vi a1, vi 0, vi 2] μ (KI K1) ∧ mc1 ≤ bc ∧ ms1 ≤ bs ∧ (∀ x1 m1, K1 x1 m1 → (¬ x1 = 0 → mK m1 a0 = 10 ∧ (mK m1 (mR m1 a0 2) = 25 ∧ ((0 : Int) ≤ a1 ∧ a1 < (mN m1 (mR m1 a0 2) : Int)) ∧ (mK m1 (mR m1 (mR m1 a0 2) a1) = 6 ∧ ∃ (mc2 ms2 : Nat) (K2 : Mem → Prop), Cl d mc2 ms2 mX5_copy [vr (mR m1 (mR m1 a0 2) a1), vr (mR m1 a0 1)] m1 (KV K2) ∧ mc2 ≤ bc - mc1 ∧ ms2 ≤ bs - ms1 ∧ (∀ m2, K2 m2 → mK m2 a0 = 10 ∧ ((∀ m3, m3 = sD m2 a0 3 (bOr (mD m2 a0 3) (bShl 1 a1)) → Q (some (some (vi 1))) m3)))))) ∧ (x1 = 0 → Q (some (some (vi 0))) m1))) :
    Wp (d + 1) bc bs mX9_keep 0 [some (vr a0), some (vi a1)] [] μ Q := by
  refine st_iload_n (pc := 0) dX9_keep_0 rfl rfl ?_
  refine sg_iconst (pc := 1) dX9_keep_1 (by omega) ?_
  refine sg_iconst (pc := 2) dX9_keep_2 (by omega) ?_
  obtain ⟨mc1, ms1, K1, hC, e1, e2, h⟩ := h
  refine sg_SI (pc := 3) (av := [vi a1, vi 0, vi 2]) (st := []) (K := K1) dX9_keep_3 ck_9_102 rfl (by show (0 : Nat) ≤ 8; decide) hC e1 e2 (fun x1 m1 hK => ?_) rfl
  replace h := h x1 m1 hK
  refine st_ifne (pc := 6) (tgt := 11) dX9_keep_6 rfl (fun c => ?_) (fun c => ?_)
  · replace h := h.1 c
    refine st_aload_n (pc := 11) dX9_keep_11 rfl rfl ?_
    obtain ⟨hk1, h⟩ := h
    refine sg_gfR (pc := 12) (J := 2) dX9_keep_12 fl_9_23 rfl hk1 ?_
    refine st_iload_n (pc := 15) dX9_keep_15 rfl rfl ?_
    obtain ⟨hk2, h⟩ := h
    obtain ⟨h1, h⟩ := h
    refine st_aaload (pc := 16) (t := 5) dX9_keep_16 hk2 (fun _ => rfl) (by decide) (by decide) h1.1 h1.2 ?_
    refine st_aload_n (pc := 17) dX9_keep_17 rfl rfl ?_
    refine sg_gfR (pc := 18) (J := 1) dX9_keep_18 fl_9_19 rfl hk1 ?_
    obtain ⟨hk3, h⟩ := h
    obtain ⟨mc2, ms2, K2, hC, e1, e2, h⟩ := h
    refine sg_VV (pc := 21) (av := [vr (mR m1 a0 1)]) (st := []) (K := K2) dX9_keep_21 ck_9_409 rfl (by decide) hk3 (by show (0 : Nat) ≤ 8; decide) hC e1 e2 (fun m2 hK => ?_) rfl
    replace h := h m2 hK
    refine st_aload_n (pc := 24) dX9_keep_24 rfl rfl ?_
    refine st_dup (pc := 25) dX9_keep_25 rfl ?_
    obtain ⟨hk4, h⟩ := h
    refine sg_gfI (pc := 26) (J := 3) dX9_keep_26 fl_9_27 (by decide) rfl hk4 ?_
    refine sg_iconst (pc := 29) dX9_keep_29 (by omega) ?_
    refine st_iload_n (pc := 30) dX9_keep_30 rfl rfl ?_
    refine st_ishl (pc := 31) dX9_keep_31 ?_
    refine st_ior (pc := 32) dX9_keep_32 ?_
    refine sg_pfI (pc := 33) (J := 3) dX9_keep_33 fl_9_27 rfl (Or.inl rfl) hk4 ?_
    refine Wp.nameM (fun m3 em3 => ?_)
    replace h := h m3 em3
    refine sg_iconst (pc := 36) dX9_keep_36 (by omega) ?_
    exact st_ireturn (pc := 37) dX9_keep_37 (Or.inr ⟨rfl, by omega⟩) h
  · replace h := h.2 c
    refine sg_iconst (pc := 9) dX9_keep_9 (by omega) ?_
    exact st_ireturn (pc := 10) dX9_keep_10 (Or.inr ⟨rfl, by omega⟩) h

theorem sg_X9_again_0 {d bc bs : Nat} {a0 : Nat} {a1 : Int} {μ : Mem} {Q : Option (Option AV) → Mem → Prop}
    (h : ∃ (mc1 ms1 : Nat) (K1 : Int → Mem → Prop), Cl d mc1 ms1 mX9_isIn [vi a1, vi 0, vi 2] μ (KI K1) ∧ mc1 ≤ bc ∧ ms1 ≤ bs ∧ (∀ x1 m1, K1 x1 m1 → (x1 = 0 → Q (some (some (vi 0))) m1) ∧ (¬ x1 = 0 → mK m1 a0 = 10 ∧ ((¬ (bAnd (bShr (mD m1 a0 3) a1) 1) = 0 → mK m1 (mR m1 a0 2) = 25 ∧ ((0 : Int) ≤ a1 ∧ a1 < (mN m1 (mR m1 a0 2) : Int)) ∧ (mK m1 (mR m1 a0 1) = 6 ∧ ∃ (mc2 ms2 : Nat) (K2 : Mem → Prop), Cl d mc2 ms2 mX5_copy [vr (mR m1 a0 1), vr (mR m1 (mR m1 a0 2) a1)] m1 (KV K2) ∧ mc2 ≤ bc - mc1 ∧ ms2 ≤ bs - ms1 ∧ (∀ m2, K2 m2 → Q (some (some (vi 1))) m2))) ∧ ((bAnd (bShr (mD m1 a0 3) a1) 1) = 0 → Q (some (some (vi 0))) m1))))) :
    Wp (d + 1) bc bs mX9_again 0 [some (vr a0), some (vi a1)] [] μ Q := by
  refine st_iload_n (pc := 0) dX9_again_0 rfl rfl ?_
  refine sg_iconst (pc := 1) dX9_again_1 (by omega) ?_
  refine sg_iconst (pc := 2) dX9_again_2 (by omega) ?_
  obtain ⟨mc1, ms1, K1, hC, e1, e2, h⟩ := h
  refine sg_SI (pc := 3) (av := [vi a1, vi 0, vi 2]) (st := []) (K := K1) dX9_again_3 ck_9_102 rfl (by show (0 : Nat) ≤ 8; decide) hC e1 e2 (fun x1 m1 hK => ?_) rfl
  replace h := h x1 m1 hK
  refine st_ifeq (pc := 6) (tgt := 20) dX9_again_6 rfl (fun c => ?_) (fun c => ?_)
  · replace h := h.1 c
    refine sg_iconst (pc := 20) dX9_again_20 (by omega) ?_
    exact st_ireturn (pc := 21) dX9_again_21 (Or.inr ⟨rfl, by omega⟩) h
  · replace h := h.2 c
    refine st_aload_n (pc := 9) dX9_again_9 rfl rfl ?_
    obtain ⟨hk1, h⟩ := h
    refine sg_gfI (pc := 10) (J := 3) dX9_again_10 fl_9_27 (by decide) rfl hk1 ?_
    refine st_iload_n (pc := 13) dX9_again_13 rfl rfl ?_
    refine st_ishr (pc := 14) dX9_again_14 ?_
    refine sg_iconst (pc := 15) dX9_again_15 (by omega) ?_
    refine st_iand (pc := 16) dX9_again_16 ?_
    refine st_ifne (pc := 17) (tgt := 22) dX9_again_17 rfl (fun c => ?_) (fun c => ?_)
    · replace h := h.1 c
      refine st_aload_n (pc := 22) dX9_again_22 rfl rfl ?_
      refine sg_gfR (pc := 23) (J := 1) dX9_again_23 fl_9_19 rfl hk1 ?_
      refine st_aload_n (pc := 26) dX9_again_26 rfl rfl ?_
      refine sg_gfR (pc := 27) (J := 2) dX9_again_27 fl_9_23 rfl hk1 ?_
      refine st_iload_n (pc := 30) dX9_again_30 rfl rfl ?_
      obtain ⟨hk2, h⟩ := h
      obtain ⟨h1, h⟩ := h
      refine st_aaload (pc := 31) (t := 5) dX9_again_31 hk2 (fun _ => rfl) (by decide) (by decide) h1.1 h1.2 ?_
      obtain ⟨hk3, h⟩ := h
      obtain ⟨mc2, ms2, K2, hC, e1, e2, h⟩ := h
      refine sg_VV (pc := 32) (av := [vr (mR m1 (mR m1 a0 2) a1)]) (st := []) (K := K2) dX9_again_32 ck_9_409 rfl (by decide) hk3 (by show (0 : Nat) ≤ 8; decide) hC e1 e2 (fun m2 hK => ?_) rfl
      replace h := h m2 hK
      refine sg_iconst (pc := 35) dX9_again_35 (by omega) ?_
      exact st_ireturn (pc := 36) dX9_again_36 (Or.inr ⟨rfl, by omega⟩) h
    · replace h := h.2 c
      refine sg_iconst (pc := 20) dX9_again_20 (by omega) ?_
      exact st_ireturn (pc := 21) dX9_again_21 (Or.inr ⟨rfl, by omega⟩) h

theorem sg_X9_toldLawBits_0 {d bc bs : Nat} {a0 : Nat} {μ : Mem} {Q : Option (Option AV) → Mem → Prop}
    (h : Wp d bc bs mX9_toldLawBits 4 [some (vr a0), some (vi 0), some (vi 0)] [] μ Q) :
    Wp d bc bs mX9_toldLawBits 0 [some (vr a0), none, none] [] μ Q := by
  refine sg_iconst (pc := 0) dX9_toldLawBits_0 (by omega) ?_
  refine sg_istore_n (pc := 1) (ls' := [some (vr a0), some (vi 0), none]) dX9_toldLawBits_1 rfl (by show (1 : Nat) < 3; decide) rfl ?_
  refine sg_iconst (pc := 2) dX9_toldLawBits_2 (by omega) ?_
  refine sg_istore_n (pc := 3) (ls' := [some (vr a0), some (vi 0), some (vi 0)]) dX9_toldLawBits_3 rfl (by show (2 : Nat) < 3; decide) rfl ?_
  exact h

theorem sg_X9_toldLawBits_4 {d bc bs : Nat} {a0 : Nat} {a1 : Int} {a2 : Int} {μ : Mem} {Q : Option (Option AV) → Mem → Prop}
    (h : (3 ≤ a2 → Q (some (some (vi a1))) μ) ∧ (¬ 3 ≤ a2 → mK μ a0 = 10 ∧ (mK μ (mR μ a0 8) = 27 ∧ ((0 : Int) ≤ a2 ∧ a2 < (mN μ (mR μ a0 8) : Int)) ∧ (mK μ (mR μ (mR μ a0 8) a2) = 3 ∧ (((mD μ (mR μ (mR μ a0 8) a2) 2) ≤ 0 → ∀ v1, v1 = bOr a1 0 → ∀ v2, v2 = w32 (a2 + 1) → Wp d bc bs mX9_toldLawBits 4 [some (vr a0), some (vi v1), some (vi v2)] [] μ Q) ∧ (¬ (mD μ (mR μ (mR μ a0 8) a2) 2) ≤ 0 → ∀ v3, v3 = bOr a1 (bShl 1 a2) → ∀ v4, v4 = w32 (a2 + 1) → Wp d bc bs mX9_toldLawBits 4 [some (vr a0), some (vi v3), some (vi v4)] [] μ Q)))))) :
    Wp d bc bs mX9_toldLawBits 4 [some (vr a0), some (vi a1), some (vi a2)] [] μ Q := by
  refine st_iload_n (pc := 4) dX9_toldLawBits_4 rfl rfl ?_
  refine sg_iconst (pc := 5) dX9_toldLawBits_5 (by omega) ?_
  refine st_icmpge (pc := 6) (tgt := 37) dX9_toldLawBits_6 rfl (fun c => ?_) (fun c => ?_)
  · replace h := h.1 c
    refine st_iload_n (pc := 37) dX9_toldLawBits_37 rfl rfl ?_
    exact st_ireturn (pc := 38) dX9_toldLawBits_38 (Or.inl rfl) h
  · replace h := h.2 c
    refine st_iload_n (pc := 9) dX9_toldLawBits_9 rfl rfl ?_
    refine st_aload_n (pc := 10) dX9_toldLawBits_10 rfl rfl ?_
    obtain ⟨hk1, h⟩ := h
    refine sg_gfR (pc := 11) (J := 8) dX9_toldLawBits_11 fl_9_55 rfl hk1 ?_
    refine st_iload_n (pc := 14) dX9_toldLawBits_14 rfl rfl ?_
    obtain ⟨hk2, h⟩ := h
    obtain ⟨h1, h⟩ := h
    refine st_aaload (pc := 15) (t := 7) dX9_toldLawBits_15 hk2 (fun _ => rfl) (by decide) (by decide) h1.1 h1.2 ?_
    obtain ⟨hk3, h⟩ := h
    refine sg_gfI (pc := 16) (J := 2) dX9_toldLawBits_16 fl_9_419 (by decide) rfl hk3 ?_
    refine st_ifle (pc := 19) (tgt := 28) dX9_toldLawBits_19 rfl (fun c => ?_) (fun c => ?_)
    · replace h := h.1 c
      refine sg_iconst (pc := 28) dX9_toldLawBits_28 (by omega) ?_
      refine st_ior (pc := 29) dX9_toldLawBits_29 ?_
      refine sg_istore_n (pc := 30) (ls' := [some (vr a0), some (vi (bOr a1 0)), some (vi a2)]) dX9_toldLawBits_30 rfl (by show (1 : Nat) < 3; decide) rfl ?_
      refine Wp.nameL (ls2 := fun v => [some (vr a0), some (vi v), some (vi a2)]) 1 _ rfl (fun _ => rfl) (fun v1 ev1 => ?_)
      replace h := h v1 ev1
      refine sg_iinc (pc := 31) (ls' := [some (vr a0), some (vi v1), some (vi (w32 (a2 + 1)))]) dX9_toldLawBits_31 rfl rfl ?_
      refine Wp.nameL (ls2 := fun v => [some (vr a0), some (vi v1), some (vi v)]) 2 _ rfl (fun _ => rfl) (fun v2 ev2 => ?_)
      replace h := h v2 ev2
      refine st_goto (pc := 34) dX9_toldLawBits_34 rfl ?_
      exact h
    · replace h := h.2 c
      refine sg_iconst (pc := 22) dX9_toldLawBits_22 (by omega) ?_
      refine st_iload_n (pc := 23) dX9_toldLawBits_23 rfl rfl ?_
      refine st_ishl (pc := 24) dX9_toldLawBits_24 ?_
      refine st_goto (pc := 25) dX9_toldLawBits_25 rfl ?_
      refine st_ior (pc := 29) dX9_toldLawBits_29 ?_
      refine sg_istore_n (pc := 30) (ls' := [some (vr a0), some (vi (bOr a1 (bShl 1 a2))), some (vi a2)]) dX9_toldLawBits_30 rfl (by show (1 : Nat) < 3; decide) rfl ?_
      refine Wp.nameL (ls2 := fun v => [some (vr a0), some (vi v), some (vi a2)]) 1 _ rfl (fun _ => rfl) (fun v3 ev3 => ?_)
      replace h := h v3 ev3
      refine sg_iinc (pc := 31) (ls' := [some (vr a0), some (vi v3), some (vi (w32 (a2 + 1)))]) dX9_toldLawBits_31 rfl rfl ?_
      refine Wp.nameL (ls2 := fun v => [some (vr a0), some (vi v3), some (vi v)]) 2 _ rfl (fun _ => rfl) (fun v4 ev4 => ?_)
      replace h := h v4 ev4
      refine st_goto (pc := 34) dX9_toldLawBits_34 rfl ?_
      exact h

theorem sg_X9_count_0 {d bc bs : Nat} {a0 : Nat} {a1 : Int} {μ : Mem} {Q : Option (Option AV) → Mem → Prop}
    (h : ((a1 < 0 ∨ 9 < a1) → Q (some (some (vi (-1)))) μ) ∧ (a1 = 0 → mK μ a0 = 10 ∧ (mK μ (mR μ a0 0) = 1 ∧ (Q (some (some (vi (w32 ((mD μ (mR μ a0 0) 0) + 1))))) μ))) ∧ (a1 = 1 → mK μ a0 = 10 ∧ (mK μ (mR μ a0 0) = 1 ∧ (Q (some (some (vi (mD μ (mR μ a0 0) 1)))) μ))) ∧ (a1 = 2 → mK μ a0 = 10 ∧ (mK μ (mR μ a0 0) = 1 ∧ (Q (some (some (vi (mD μ (mR μ a0 0) 2)))) μ))) ∧ (a1 = 3 → mK μ a0 = 10 ∧ (mK μ (mR μ a0 1) = 6 ∧ (Q (some (some (vi (mD μ (mR μ a0 1) 0)))) μ))) ∧ (a1 = 4 → mK μ a0 = 10 ∧ ∃ (mc1 ms1 : Nat) (K1 : Int → Mem → Prop), Cl d mc1 ms1 mX9_toldLawBits [vr a0] μ (KI K1) ∧ mc1 ≤ bc ∧ ms1 ≤ bs ∧ (∀ x1 m1, K1 x1 m1 → Q (some (some (vi x1))) m1)) ∧ (a1 = 5 → mK μ a0 = 10 ∧ (Q (some (some (vi (mD μ a0 13)))) μ)) ∧ (a1 = 6 → mK μ a0 = 10 ∧ (mK μ (mR μ a0 14) = 2 ∧ (Q (some (some (vi (mD μ (mR μ a0 14) 4)))) μ))) ∧ (a1 = 7 → mK μ a0 = 10 ∧ (Q (some (some (vi (mD μ a0 16)))) μ)) ∧ (a1 = 8 → mK μ a0 = 10 ∧ (mK μ (mR μ a0 4) = 7 ∧ (Q (some (some (vi (mD μ (mR μ a0 4) 1)))) μ))) ∧ (a1 = 9 → mK μ a0 = 10 ∧ (mK μ (mR μ a0 0) = 1 ∧ ∃ (mc2 ms2 : Nat) (K2 : Int → Mem → Prop), Cl d mc2 ms2 mX0_wallCount [vr (mR μ a0 0)] μ (KI K2) ∧ mc2 ≤ bc ∧ ms2 ≤ bs ∧ (∀ x2 m2, K2 x2 m2 → Q (some (some (vi x2))) m2)))) :
    Wp (d + 1) bc bs mX9_count 0 [some (vr a0), some (vi a1)] [] μ Q := by
  refine st_iload_n (pc := 0) dX9_count_0 rfl rfl ?_
  by_cases c1 : a1 < 0 ∨ 9 < a1
  · replace h := h.1 c1
    refine st_swOut (pc := 1) (tgt := 129) dX9_count_1 c1 rfl ?_
    refine sg_iconst (pc := 129) dX9_count_129 (by omega) ?_
    exact st_ireturn (pc := 130) dX9_count_130 (Or.inl rfl) h
  replace h := h.2
  by_cases e0 : a1 = 0
  · replace h := h.1 e0
    refine st_swIn (pc := 1) (off := 55) (tgt := 56) dX9_count_1 (by omega) (by omega) (by rw [e0]; rfl) rfl ?_
    refine st_aload_n (pc := 56) dX9_count_56 rfl rfl ?_
    obtain ⟨hk1, h⟩ := h
    refine sg_gfR (pc := 57) (J := 0) dX9_count_57 fl_9_10 rfl hk1 ?_
    obtain ⟨hk2, h⟩ := h
    refine sg_gfI (pc := 60) (J := 0) dX9_count_60 fl_9_106 (by decide) rfl hk2 ?_
    refine sg_iconst (pc := 63) dX9_count_63 (by omega) ?_
    refine st_iadd (pc := 64) dX9_count_64 ?_
    exact st_ireturn (pc := 65) dX9_count_65 (Or.inl rfl) h
  replace h := h.2
  by_cases e1 : a1 = 1
  · replace h := h.1 e1
    refine st_swIn (pc := 1) (off := 65) (tgt := 66) dX9_count_1 (by omega) (by omega) (by rw [e1]; rfl) rfl ?_
    refine st_aload_n (pc := 66) dX9_count_66 rfl rfl ?_
    obtain ⟨hk3, h⟩ := h
    refine sg_gfR (pc := 67) (J := 0) dX9_count_67 fl_9_10 rfl hk3 ?_
    obtain ⟨hk4, h⟩ := h
    refine sg_gfI (pc := 70) (J := 1) dX9_count_70 fl_9_109 (by decide) rfl hk4 ?_
    exact st_ireturn (pc := 73) dX9_count_73 (Or.inl rfl) h
  replace h := h.2
  by_cases e2 : a1 = 2
  · replace h := h.1 e2
    refine st_swIn (pc := 1) (off := 73) (tgt := 74) dX9_count_1 (by omega) (by omega) (by rw [e2]; rfl) rfl ?_
    refine st_aload_n (pc := 74) dX9_count_74 rfl rfl ?_
    obtain ⟨hk5, h⟩ := h
    refine sg_gfR (pc := 75) (J := 0) dX9_count_75 fl_9_10 rfl hk5 ?_
    obtain ⟨hk6, h⟩ := h
    refine sg_gfI (pc := 78) (J := 2) dX9_count_78 fl_9_112 (by decide) rfl hk6 ?_
    exact st_ireturn (pc := 81) dX9_count_81 (Or.inl rfl) h
  replace h := h.2
  by_cases e3 : a1 = 3
  · replace h := h.1 e3
    refine st_swIn (pc := 1) (off := 81) (tgt := 82) dX9_count_1 (by omega) (by omega) (by rw [e3]; rfl) rfl ?_
    refine st_aload_n (pc := 82) dX9_count_82 rfl rfl ?_
    obtain ⟨hk7, h⟩ := h
    refine sg_gfR (pc := 83) (J := 1) dX9_count_83 fl_9_19 rfl hk7 ?_
    obtain ⟨hk8, h⟩ := h
    refine sg_gfI (pc := 86) (J := 0) dX9_count_86 fl_9_142 (by decide) rfl hk8 ?_
    exact st_ireturn (pc := 89) dX9_count_89 (Or.inl rfl) h
  replace h := h.2
  by_cases e4 : a1 = 4
  · replace h := h.1 e4
    refine st_swIn (pc := 1) (off := 89) (tgt := 90) dX9_count_1 (by omega) (by omega) (by rw [e4]; rfl) rfl ?_
    refine st_aload_n (pc := 90) dX9_count_90 rfl rfl ?_
    obtain ⟨hk9, h⟩ := h
    obtain ⟨mc1, ms1, K1, hC, e1, e2, h⟩ := h
    refine sg_VI (pc := 91) (av := []) (st := []) (K := K1) dX9_count_91 ck_9_413 rfl (by decide) hk9 (by show (0 : Nat) ≤ 8; decide) hC e1 e2 (fun x1 m1 hK => ?_) rfl
    replace h := h x1 m1 hK
    exact st_ireturn (pc := 94) dX9_count_94 (Or.inl rfl) h
  replace h := h.2
  by_cases e5 : a1 = 5
  · replace h := h.1 e5
    refine st_swIn (pc := 1) (off := 94) (tgt := 95) dX9_count_1 (by omega) (by omega) (by rw [e5]; rfl) rfl ?_
    refine st_aload_n (pc := 95) dX9_count_95 rfl rfl ?_
    obtain ⟨hk10, h⟩ := h
    refine sg_gfI (pc := 96) (J := 13) dX9_count_96 fl_9_81 (by decide) rfl hk10 ?_
    exact st_ireturn (pc := 99) dX9_count_99 (Or.inl rfl) h
  replace h := h.2
  by_cases e6 : a1 = 6
  · replace h := h.1 e6
    refine st_swIn (pc := 1) (off := 99) (tgt := 100) dX9_count_1 (by omega) (by omega) (by rw [e6]; rfl) rfl ?_
    refine st_aload_n (pc := 100) dX9_count_100 rfl rfl ?_
    obtain ⟨hk11, h⟩ := h
    refine sg_gfR (pc := 101) (J := 14) dX9_count_101 fl_9_87 rfl hk11 ?_
    obtain ⟨hk12, h⟩ := h
    refine sg_gfI (pc := 104) (J := 4) dX9_count_104 fl_9_396 (by decide) rfl hk12 ?_
    exact st_ireturn (pc := 107) dX9_count_107 (Or.inl rfl) h
  replace h := h.2
  by_cases e7 : a1 = 7
  · replace h := h.1 e7
    refine st_swIn (pc := 1) (off := 107) (tgt := 108) dX9_count_1 (by omega) (by omega) (by rw [e7]; rfl) rfl ?_
    refine st_aload_n (pc := 108) dX9_count_108 rfl rfl ?_
    obtain ⟨hk13, h⟩ := h
    refine sg_gfI (pc := 109) (J := 16) dX9_count_109 fl_9_95 (by decide) rfl hk13 ?_
    exact st_ireturn (pc := 112) dX9_count_112 (Or.inl rfl) h
  replace h := h.2
  by_cases e8 : a1 = 8
  · replace h := h.1 e8
    refine st_swIn (pc := 1) (off := 112) (tgt := 113) dX9_count_1 (by omega) (by omega) (by rw [e8]; rfl) rfl ?_
    refine st_aload_n (pc := 113) dX9_count_113 rfl rfl ?_
    obtain ⟨hk14, h⟩ := h
    refine sg_gfR (pc := 114) (J := 4) dX9_count_114 fl_9_34 rfl hk14 ?_
    obtain ⟨hk15, h⟩ := h
    refine sg_gfI (pc := 117) (J := 1) dX9_count_117 fl_9_190 (by decide) rfl hk15 ?_
    exact st_ireturn (pc := 120) dX9_count_120 (Or.inl rfl) h
  replace h := h.2
  by_cases e9 : a1 = 9
  · replace h := h e9
    refine st_swIn (pc := 1) (off := 120) (tgt := 121) dX9_count_1 (by omega) (by omega) (by rw [e9]; rfl) rfl ?_
    refine st_aload_n (pc := 121) dX9_count_121 rfl rfl ?_
    obtain ⟨hk16, h⟩ := h
    refine sg_gfR (pc := 122) (J := 0) dX9_count_122 fl_9_10 rfl hk16 ?_
    obtain ⟨hk17, h⟩ := h
    obtain ⟨mc2, ms2, K2, hC, e1, e2, h⟩ := h
    refine sg_VI (pc := 125) (av := []) (st := []) (K := K2) dX9_count_125 ck_9_416 rfl (by decide) hk17 (by show (0 : Nat) ≤ 8; decide) hC e1 e2 (fun x2 m2 hK => ?_) rfl
    replace h := h x2 m2 hK
    exact st_ireturn (pc := 128) dX9_count_128 (Or.inl rfl) h
  exfalso
  omega

theorem sg_X9_row_0 {d bc bs : Nat} {a0 : Nat} {a1 : Int} {μ : Mem} {Q : Option (Option AV) → Mem → Prop}
    (h : mK μ a0 = 10 ∧ (∃ (mc1 ms1 : Nat) (K1 : Int → Mem → Prop), Cl d mc1 ms1 mX9_isIn [vi a1, vi 0, vi (w32 ((mD μ a0 16) - 1))] μ (KI K1) ∧ mc1 ≤ bc ∧ ms1 ≤ bs ∧ (∀ x1 m1, K1 x1 m1 → (¬ x1 = 0 → mK m1 a0 = 10 ∧ (mK m1 (mR m1 a0 15) = 21 ∧ ((0 : Int) ≤ a1 ∧ a1 < (mN m1 (mR m1 a0 15) : Int)) ∧ (Q (some (some (vl (mD m1 (mR m1 a0 15) a1)))) m1))) ∧ (x1 = 0 → 1 ≤ bc - mc1 ∧ 6 ≤ bs - ms1 ∧ Q none m1)))) :
    Wp (d + 1) bc bs mX9_row 0 [some (vr a0), some (vi a1)] [] μ Q := by
  refine st_iload_n (pc := 0) dX9_row_0 rfl rfl ?_
  refine sg_iconst (pc := 1) dX9_row_1 (by omega) ?_
  refine st_aload_n (pc := 2) dX9_row_2 rfl rfl ?_
  obtain ⟨hk1, h⟩ := h
  refine sg_gfI (pc := 3) (J := 16) dX9_row_3 fl_9_95 (by decide) rfl hk1 ?_
  refine sg_iconst (pc := 6) dX9_row_6 (by omega) ?_
  refine st_isub (pc := 7) dX9_row_7 ?_
  obtain ⟨mc1, ms1, K1, hC, e1, e2, h⟩ := h
  refine sg_SI (pc := 8) (av := [vi a1, vi 0, vi (w32 ((mD μ a0 16) - 1))]) (st := []) (K := K1) dX9_row_8 ck_9_102 rfl (by show (0 : Nat) ≤ 8; decide) hC e1 e2 (fun x1 m1 hK => ?_) rfl
  replace h := h x1 m1 hK
  refine st_ifne (pc := 11) (tgt := 22) dX9_row_11 rfl (fun c => ?_) (fun c => ?_)
  · replace h := h.1 c
    refine st_aload_n (pc := 22) dX9_row_22 rfl rfl ?_
    obtain ⟨hk2, h⟩ := h
    refine sg_gfR (pc := 23) (J := 15) dX9_row_23 fl_9_91 rfl hk2 ?_
    refine st_iload_n (pc := 26) dX9_row_26 rfl rfl ?_
    obtain ⟨hk3, h⟩ := h
    obtain ⟨h1, h⟩ := h
    refine st_laload (pc := 27) dX9_row_27 hk3 h1.1 h1.2 ?_
    exact st_lreturn (pc := 28) dX9_row_28 rfl h
  · replace h := h.2 c
    exact st_throw (pc := 14) rfl rfl dX9_row_14 dX9_row_17 dX9_row_18 dX9_row_21 h.1 h.2.1 h.2.2

