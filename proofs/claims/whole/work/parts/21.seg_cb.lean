/-! ===== by program (wip/whole/gen_seg.py): stretches of methods ===== -/
theorem sg_X9_tellFraction_0 {d bc bs : Nat} {a0 : Nat} {a1 : Int} {a2 : Int} {μ : Mem} {Q : Option (Option AV) → Mem → Prop}
    (h : ∃ (mc1 ms1 : Nat) (K1 : Int → Mem → Prop), Cl d mc1 ms1 mJ9_abs_0f7a4 [vi a1] μ (KI K1) ∧ mc1 ≤ bc ∧ ms1 ≤ bs ∧ (∀ x1 m1, K1 x1 m1 → ∃ (mc2 ms2 : Nat) (K2 : Int → Mem → Prop), Cl d mc2 ms2 mX9_commonDivisor [vi x1, vi a2] m1 (KI K2) ∧ mc2 ≤ bc - mc1 ∧ ms2 ≤ bs - ms1 ∧ (∀ x2 m2, K2 x2 m2 → (¬ x2 = 0 → x2 ≠ 0 ∧ (mK m2 a0 = 10 ∧ ∃ (mc3 ms3 : Nat) (K3 : Mem → Prop), Cl d mc3 ms3 mX9_tellMore [vr a0, vl (w32 (a1.tdiv x2))] m2 (KV K3) ∧ mc3 ≤ bc - mc1 - mc2 ∧ ms3 ≤ bs - ms1 - ms2 ∧ (∀ m3, K3 m3 → (¬ x2 = 0 → x2 ≠ 0 ∧ (mK m3 a0 = 10 ∧ ∃ (mc4 ms4 : Nat) (K4 : Mem → Prop), Cl d mc4 ms4 mX9_tellMore [vr a0, vl (w32 (a2.tdiv x2))] m3 (KV K4) ∧ mc4 ≤ bc - mc1 - mc2 - mc3 ∧ ms4 ≤ bs - ms1 - ms2 - ms3 ∧ (∀ m4, K4 m4 → Q (some none) m4))) ∧ (x2 = 0 → mK m3 a0 = 10 ∧ ∃ (mc5 ms5 : Nat) (K5 : Mem → Prop), Cl d mc5 ms5 mX9_tellMore [vr a0, vl 1] m3 (KV K5) ∧ mc5 ≤ bc - mc1 - mc2 - mc3 ∧ ms5 ≤ bs - ms1 - ms2 - ms3 ∧ (∀ m5, K5 m5 → Q (some none) m5))))) ∧ (x2 = 0 → mK m2 a0 = 10 ∧ ∃ (mc6 ms6 : Nat) (K6 : Mem → Prop), Cl d mc6 ms6 mX9_tellMore [vr a0, vl 0] m2 (KV K6) ∧ mc6 ≤ bc - mc1 - mc2 ∧ ms6 ≤ bs - ms1 - ms2 ∧ (∀ m6, K6 m6 → (¬ x2 = 0 → x2 ≠ 0 ∧ (mK m6 a0 = 10 ∧ ∃ (mc7 ms7 : Nat) (K7 : Mem → Prop), Cl d mc7 ms7 mX9_tellMore [vr a0, vl (w32 (a2.tdiv x2))] m6 (KV K7) ∧ mc7 ≤ bc - mc1 - mc2 - mc6 ∧ ms7 ≤ bs - ms1 - ms2 - ms6 ∧ (∀ m7, K7 m7 → Q (some none) m7))) ∧ (x2 = 0 → mK m6 a0 = 10 ∧ ∃ (mc8 ms8 : Nat) (K8 : Mem → Prop), Cl d mc8 ms8 mX9_tellMore [vr a0, vl 1] m6 (KV K8) ∧ mc8 ≤ bc - mc1 - mc2 - mc6 ∧ ms8 ≤ bs - ms1 - ms2 - ms6 ∧ (∀ m8, K8 m8 → Q (some none) m8))))))) :
    Wp (d + 1) bc bs mX9_tellFraction 0 [some (vr a0), some (vi a1), some (vi a2), none] [] μ Q := by
  refine st_iload_n (pc := 0) dX9_tellFraction_0 rfl rfl ?_
  obtain ⟨mc1, ms1, K1, hC, e1, e2, h⟩ := h
  refine sg_SI (pc := 1) (av := [vi a1]) (st := []) (K := K1) dX9_tellFraction_1 ck_9_253 rfl (by show (0 : Nat) ≤ 8; decide) hC e1 e2 (fun x1 m1 hK => ?_) rfl
  replace h := h x1 m1 hK
  refine st_iload_n (pc := 4) dX9_tellFraction_4 rfl rfl ?_
  obtain ⟨mc2, ms2, K2, hC, e1, e2, h⟩ := h
  refine sg_SI (pc := 5) (av := [vi x1, vi a2]) (st := []) (K := K2) dX9_tellFraction_5 ck_9_424 rfl (by show (0 : Nat) ≤ 8; decide) hC e1 e2 (fun x2 m2 hK => ?_) rfl
  replace h := h x2 m2 hK
  refine sg_istore_n (pc := 8) (ls' := [some (vr a0), some (vi a1), some (vi a2), some (vi x2)]) dX9_tellFraction_8 rfl (by show (3 : Nat) < 4; decide) rfl ?_
  refine st_aload_n (pc := 9) dX9_tellFraction_9 rfl rfl ?_
  refine st_iload_n (pc := 10) dX9_tellFraction_10 rfl rfl ?_
  refine st_ifne (pc := 11) (tgt := 18) dX9_tellFraction_11 rfl (fun c => ?_) (fun c => ?_)
  · replace h := h.1 c
    refine st_iload_n (pc := 18) dX9_tellFraction_18 rfl rfl ?_
    refine st_iload_n (pc := 19) dX9_tellFraction_19 rfl rfl ?_
    obtain ⟨h0, h⟩ := h
    refine st_idiv (pc := 20) dX9_tellFraction_20 h0 ?_
    refine st_i2l (pc := 21) dX9_tellFraction_21 ?_
    obtain ⟨hk1, h⟩ := h
    obtain ⟨mc3, ms3, K3, hC, e1, e2, h⟩ := h
    refine sg_VV (pc := 22) (av := [vl (w32 (a1.tdiv x2))]) (st := []) (K := K3) dX9_tellFraction_22 ck_9_297 rfl (by decide) hk1 (by show (0 : Nat) ≤ 8; decide) hC e1 e2 (fun m3 hK => ?_) rfl
    replace h := h m3 hK
    refine st_aload_n (pc := 25) dX9_tellFraction_25 rfl rfl ?_
    refine st_iload_n (pc := 26) dX9_tellFraction_26 rfl rfl ?_
    refine st_ifne (pc := 27) (tgt := 34) dX9_tellFraction_27 rfl (fun c => ?_) (fun c => ?_)
    · replace h := h.1 c
      refine st_iload_n (pc := 34) dX9_tellFraction_34 rfl rfl ?_
      refine st_iload_n (pc := 35) dX9_tellFraction_35 rfl rfl ?_
      obtain ⟨h0, h⟩ := h
      refine st_idiv (pc := 36) dX9_tellFraction_36 h0 ?_
      refine st_i2l (pc := 37) dX9_tellFraction_37 ?_
      obtain ⟨hk2, h⟩ := h
      obtain ⟨mc4, ms4, K4, hC, e1, e2, h⟩ := h
      refine sg_VV (pc := 38) (av := [vl (w32 (a2.tdiv x2))]) (st := []) (K := K4) dX9_tellFraction_38 ck_9_297 rfl (by decide) hk2 (by show (0 : Nat) ≤ 8; decide) hC e1 e2 (fun m4 hK => ?_) rfl
      replace h := h m4 hK
      exact st_return (pc := 41) dX9_tellFraction_41 rfl h
    · replace h := h.2 c
      refine st_lconst (pc := 30) (x := 1) dX9_tellFraction_30 (by decide) (by unfold r64; omega) ?_
      refine st_goto (pc := 31) dX9_tellFraction_31 rfl ?_
      obtain ⟨hk3, h⟩ := h
      obtain ⟨mc5, ms5, K5, hC, e1, e2, h⟩ := h
      refine sg_VV (pc := 38) (av := [vl 1]) (st := []) (K := K5) dX9_tellFraction_38 ck_9_297 rfl (by decide) hk3 (by show (0 : Nat) ≤ 8; decide) hC e1 e2 (fun m5 hK => ?_) rfl
      replace h := h m5 hK
      exact st_return (pc := 41) dX9_tellFraction_41 rfl h
  · replace h := h.2 c
    refine st_lconst (pc := 14) (x := 0) dX9_tellFraction_14 (by decide) (by unfold r64; omega) ?_
    refine st_goto (pc := 15) dX9_tellFraction_15 rfl ?_
    obtain ⟨hk4, h⟩ := h
    obtain ⟨mc6, ms6, K6, hC, e1, e2, h⟩ := h
    refine sg_VV (pc := 22) (av := [vl 0]) (st := []) (K := K6) dX9_tellFraction_22 ck_9_297 rfl (by decide) hk4 (by show (0 : Nat) ≤ 8; decide) hC e1 e2 (fun m6 hK => ?_) rfl
    replace h := h m6 hK
    refine st_aload_n (pc := 25) dX9_tellFraction_25 rfl rfl ?_
    refine st_iload_n (pc := 26) dX9_tellFraction_26 rfl rfl ?_
    refine st_ifne (pc := 27) (tgt := 34) dX9_tellFraction_27 rfl (fun c => ?_) (fun c => ?_)
    · replace h := h.1 c
      refine st_iload_n (pc := 34) dX9_tellFraction_34 rfl rfl ?_
      refine st_iload_n (pc := 35) dX9_tellFraction_35 rfl rfl ?_
      obtain ⟨h0, h⟩ := h
      refine st_idiv (pc := 36) dX9_tellFraction_36 h0 ?_
      refine st_i2l (pc := 37) dX9_tellFraction_37 ?_
      obtain ⟨hk5, h⟩ := h
      obtain ⟨mc7, ms7, K7, hC, e1, e2, h⟩ := h
      refine sg_VV (pc := 38) (av := [vl (w32 (a2.tdiv x2))]) (st := []) (K := K7) dX9_tellFraction_38 ck_9_297 rfl (by decide) hk5 (by show (0 : Nat) ≤ 8; decide) hC e1 e2 (fun m7 hK => ?_) rfl
      replace h := h m7 hK
      exact st_return (pc := 41) dX9_tellFraction_41 rfl h
    · replace h := h.2 c
      refine st_lconst (pc := 30) (x := 1) dX9_tellFraction_30 (by decide) (by unfold r64; omega) ?_
      refine st_goto (pc := 31) dX9_tellFraction_31 rfl ?_
      obtain ⟨hk6, h⟩ := h
      obtain ⟨mc8, ms8, K8, hC, e1, e2, h⟩ := h
      refine sg_VV (pc := 38) (av := [vl 1]) (st := []) (K := K8) dX9_tellFraction_38 ck_9_297 rfl (by decide) hk6 (by show (0 : Nat) ≤ 8; decide) hC e1 e2 (fun m8 hK => ?_) rfl
      replace h := h m8 hK
      exact st_return (pc := 41) dX9_tellFraction_41 rfl h

theorem sg_X9_odds_0 {d bc bs : Nat} {a0 : Nat} {a1 : Int} {a2 : Int} {μ : Mem} {Q : Option (Option AV) → Mem → Prop}
    (h : ∃ (mc1 ms1 : Nat) (K1 : Int → Mem → Prop), Cl d mc1 ms1 mX9_isWalk [vi a1] μ (KI K1) ∧ mc1 ≤ bc ∧ ms1 ≤ bs ∧ (∀ x1 m1, K1 x1 m1 → (x1 = 0 → Q (some (some (vi (-1)))) m1) ∧ (¬ x1 = 0 → ∃ (mc2 ms2 : Nat) (K2 : Int → Mem → Prop), Cl d mc2 ms2 mX9_isIn [vi a2, vi 1, vi 20] m1 (KI K2) ∧ mc2 ≤ bc - mc1 ∧ ms2 ≤ bs - ms1 ∧ (∀ x2 m2, K2 x2 m2 → (¬ x2 = 0 → mK m2 a0 = 10 ∧ ∃ (mc3 ms3 : Nat) (K3 : Nat → Mem → Prop), Cl d mc3 ms3 mX9_asItIs [vr a0] m2 (KR K3) ∧ mc3 ≤ bc - mc1 - mc2 ∧ ms3 ≤ bs - ms1 - ms2 ∧ (∀ x3 m3, K3 x3 m3 → mK m3 x3 = 8 ∧ ∃ (mc4 ms4 : Nat) (K4 : Mem → Prop), Cl d mc4 ms4 mX7_clearFirsts [vr x3] m3 (KV K4) ∧ mc4 ≤ bc - mc1 - mc2 - mc3 ∧ ms4 ≤ bs - ms1 - ms2 - ms3 ∧ (∀ m4, K4 m4 → Wp (d + 1) (bc - mc1 - mc2 - mc3 - mc4) (bs - ms1 - ms2 - ms3 - ms4) mX9_odds 34 [some (vr a0), some (vi a1), some (vi a2), some (vr x3), some (vi 0), some (vi 1)] [] m4 Q))) ∧ (x2 = 0 → Q (some (some (vi (-1)))) m2))))) :
    Wp (d + 1) bc bs mX9_odds 0 [some (vr a0), some (vi a1), some (vi a2), none, none, none] [] μ Q := by
  refine st_iload_n (pc := 0) dX9_odds_0 rfl rfl ?_
  obtain ⟨mc1, ms1, K1, hC, e1, e2, h⟩ := h
  refine sg_SI (pc := 1) (av := [vi a1]) (st := []) (K := K1) dX9_odds_1 ck_9_193 rfl (by show (0 : Nat) ≤ 8; decide) hC e1 e2 (fun x1 m1 hK => ?_) rfl
  replace h := h x1 m1 hK
  refine st_ifeq (pc := 4) (tgt := 17) dX9_odds_4 rfl (fun c => ?_) (fun c => ?_)
  · replace h := h.1 c
    refine sg_iconst (pc := 17) dX9_odds_17 (by omega) ?_
    exact st_ireturn (pc := 18) dX9_odds_18 (Or.inl rfl) h
  · replace h := h.2 c
    refine st_iload_n (pc := 7) dX9_odds_7 rfl rfl ?_
    refine sg_iconst (pc := 8) dX9_odds_8 (by omega) ?_
    refine sg_bipush (pc := 9) dX9_odds_9 (by omega) (by decide) ?_
    obtain ⟨mc2, ms2, K2, hC, e1, e2, h⟩ := h
    refine sg_SI (pc := 11) (av := [vi a2, vi 1, vi 20]) (st := []) (K := K2) dX9_odds_11 ck_9_102 rfl (by show (0 : Nat) ≤ 8; decide) hC e1 e2 (fun x2 m2 hK => ?_) rfl
    replace h := h x2 m2 hK
    refine st_ifne (pc := 14) (tgt := 19) dX9_odds_14 rfl (fun c => ?_) (fun c => ?_)
    · replace h := h.1 c
      refine st_aload_n (pc := 19) dX9_odds_19 rfl rfl ?_
      obtain ⟨hk1, h⟩ := h
      obtain ⟨mc3, ms3, K3, hC, e1, e2, h⟩ := h
      refine sg_VR (pc := 20) (av := []) (st := []) (K := K3) dX9_odds_20 ck_9_242 rfl (by decide) hk1 (by show (0 : Nat) ≤ 8; decide) hC e1 e2 (fun x3 m3 hK => ?_) rfl
      replace h := h x3 m3 hK
      refine sg_astore_n (pc := 23) (ls' := [some (vr a0), some (vi a1), some (vi a2), some (vr x3), none, none]) dX9_odds_23 rfl (by show (3 : Nat) < 6; decide) rfl ?_
      refine st_aload_n (pc := 24) dX9_odds_24 rfl rfl ?_
      obtain ⟨hk2, h⟩ := h
      obtain ⟨mc4, ms4, K4, hC, e1, e2, h⟩ := h
      refine sg_VV (pc := 25) (av := []) (st := []) (K := K4) dX9_odds_25 ck_9_283 rfl (by decide) hk2 (by show (0 : Nat) ≤ 8; decide) hC e1 e2 (fun m4 hK => ?_) rfl
      replace h := h m4 hK
      refine sg_iconst (pc := 28) dX9_odds_28 (by omega) ?_
      refine sg_istore (pc := 29) (ls' := [some (vr a0), some (vi a1), some (vi a2), some (vr x3), some (vi 0), none]) dX9_odds_29 (by show (4 : Nat) < 6; decide) rfl ?_
      refine sg_iconst (pc := 31) dX9_odds_31 (by omega) ?_
      refine sg_istore (pc := 32) (ls' := [some (vr a0), some (vi a1), some (vi a2), some (vr x3), some (vi 0), some (vi 1)]) dX9_odds_32 (by show (5 : Nat) < 6; decide) rfl ?_
      exact h
    · replace h := h.2 c
      refine sg_iconst (pc := 17) dX9_odds_17 (by omega) ?_
      exact st_ireturn (pc := 18) dX9_odds_18 (Or.inl rfl) h

theorem sg_X9_odds_34 {d bc bs : Nat} {a0 : Nat} {a1 : Int} {a2 : Int} {a3 : Nat} {a4 : Int} {a5 : Int} {μ : Mem} {Q : Option (Option AV) → Mem → Prop}
    (h : (a2 < a5 → mK μ a0 = 10 ∧ (∀ m1, m1 = sD μ a0 16 0 → ∃ (mc1 ms1 : Nat) (K1 : Mem → Prop), Cl d mc1 ms1 mX9_tellFraction [vr a0, vi a4, vi a2] m1 (KV K1) ∧ mc1 ≤ bc ∧ ms1 ≤ bs ∧ (∀ m2, K1 m2 → mK m2 a3 = 8 ∧ ∃ (mc2 ms2 : Nat) (K2 : Int → Mem → Prop), Cl d mc2 ms2 mX7_mostOftenFirst [vr a3] m2 (KI K2) ∧ mc2 ≤ bc - mc1 ∧ ms2 ≤ bs - ms1 ∧ (∀ x1 m3, K2 x1 m3 → mK m3 a0 = 10 ∧ ∃ (mc3 ms3 : Nat) (K3 : Mem → Prop), Cl d mc3 ms3 mX9_tellMore [vr a0, vl x1] m3 (KV K3) ∧ mc3 ≤ bc - mc1 - mc2 ∧ ms3 ≤ bs - ms1 - ms2 ∧ (∀ m4, K3 m4 → Q (some (some (vi 0))) m4))))) ∧ (¬ a2 < a5 → mK μ a0 = 10 ∧ (mK μ (mR μ a0 5) = 26 ∧ ((0 : Int) ≤ a1 ∧ a1 < (mN μ (mR μ a0 5) : Int)) ∧ (mK μ a3 = 8 ∧ ∃ (mc4 ms4 : Nat) (K4 : Int → Mem → Prop), Cl d mc4 ms4 mX7_spiltOn [vr a3, vr (mR μ (mR μ a0 5) a1), vi a5] μ (KI K4) ∧ mc4 ≤ bc ∧ ms4 ≤ bs ∧ (∀ x2 m5, K4 x2 m5 → (x2 ≤ 0 → ∀ v1, v1 = w32 (a5 + 1) → Wp (d + 1) (bc - mc4) (bs - ms4) mX9_odds 34 [some (vr a0), some (vi a1), some (vi a2), some (vr a3), some (vi a4), some (vi v1)] [] m5 Q) ∧ (¬ x2 ≤ 0 → ∀ v2, v2 = w32 (a4 + 1) → mK m5 a0 = 10 ∧ (mK m5 (mR m5 a0 5) = 26 ∧ ((0 : Int) ≤ a1 ∧ a1 < (mN m5 (mR m5 a0 5) : Int)) ∧ (mK m5 a3 = 8 ∧ (mK m5 (mR m5 (mR m5 a0 5) a1) = 9 ∧ ∃ (mc5 ms5 : Nat) (K5 : Int → Mem → Prop), Cl d mc5 ms5 mX8_stepAt [vr (mR m5 (mR m5 a0 5) a1), vi (mD m5 a3 5)] m5 (KI K5) ∧ mc5 ≤ bc - mc4 ∧ ms5 ≤ bs - ms4 ∧ (∀ x3 m6, K5 x3 m6 → mK m6 a3 = 8 ∧ ∃ (mc6 ms6 : Nat) (K6 : Mem → Prop), Cl d mc6 ms6 mX7_countFirst [vr a3, vi x3] m6 (KV K6) ∧ mc6 ≤ bc - mc4 - mc5 ∧ ms6 ≤ bs - ms4 - ms5 ∧ (∀ m7, K6 m7 → ∀ v3, v3 = w32 (a5 + 1) → Wp (d + 1) (bc - mc4 - mc5 - mc6) (bs - ms4 - ms5 - ms6) mX9_odds 34 [some (vr a0), some (vi a1), some (vi a2), some (vr a3), some (vi v2), some (vi v3)] [] m7 Q))))))))))) :
    Wp (d + 1) bc bs mX9_odds 34 [some (vr a0), some (vi a1), some (vi a2), some (vr a3), some (vi a4), some (vi a5)] [] μ Q := by
  refine st_iload (pc := 34) dX9_odds_34 rfl ?_
  refine st_iload_n (pc := 36) dX9_odds_36 rfl rfl ?_
  refine st_icmpgt (pc := 37) (tgt := 81) dX9_odds_37 rfl (fun c => ?_) (fun c => ?_)
  · replace h := h.1 c
    refine st_aload_n (pc := 81) dX9_odds_81 rfl rfl ?_
    refine sg_iconst (pc := 82) dX9_odds_82 (by omega) ?_
    obtain ⟨hk1, h⟩ := h
    refine sg_pfI (pc := 83) (J := 16) dX9_odds_83 fl_9_95 rfl (Or.inl rfl) hk1 ?_
    refine Wp.nameM (fun m1 em1 => ?_)
    replace h := h m1 em1
    refine st_aload_n (pc := 86) dX9_odds_86 rfl rfl ?_
    refine st_iload (pc := 87) dX9_odds_87 rfl ?_
    refine st_iload_n (pc := 89) dX9_odds_89 rfl rfl ?_
    obtain ⟨mc1, ms1, K1, hC, e1, e2, h⟩ := h
    refine sg_VV (pc := 90) (av := [vi a4, vi a2]) (st := []) (K := K1) dX9_odds_90 ck_9_290 rfl (by decide) (by cases em1; exact hk1) (by show (0 : Nat) ≤ 8; decide) hC e1 e2 (fun m2 hK => ?_) rfl
    replace h := h m2 hK
    refine st_aload_n (pc := 93) dX9_odds_93 rfl rfl ?_
    refine st_aload_n (pc := 94) dX9_odds_94 rfl rfl ?_
    obtain ⟨hk2, h⟩ := h
    obtain ⟨mc2, ms2, K2, hC, e1, e2, h⟩ := h
    refine sg_VI (pc := 95) (av := []) (st := [vr a0]) (K := K2) dX9_odds_95 ck_9_294 rfl (by decide) hk2 (by show (1 : Nat) ≤ 8; decide) hC e1 e2 (fun x1 m3 hK => ?_) rfl
    replace h := h x1 m3 hK
    refine st_i2l (pc := 98) dX9_odds_98 ?_
    obtain ⟨hk3, h⟩ := h
    obtain ⟨mc3, ms3, K3, hC, e1, e2, h⟩ := h
    refine sg_VV (pc := 99) (av := [vl x1]) (st := []) (K := K3) dX9_odds_99 ck_9_297 rfl (by decide) hk3 (by show (0 : Nat) ≤ 8; decide) hC e1 e2 (fun m4 hK => ?_) rfl
    replace h := h m4 hK
    refine sg_iconst (pc := 102) dX9_odds_102 (by omega) ?_
    exact st_ireturn (pc := 103) dX9_odds_103 (Or.inl rfl) h
  · replace h := h.2 c
    refine st_aload_n (pc := 40) dX9_odds_40 rfl rfl ?_
    refine st_aload_n (pc := 41) dX9_odds_41 rfl rfl ?_
    obtain ⟨hk4, h⟩ := h
    refine sg_gfR (pc := 42) (J := 5) dX9_odds_42 fl_9_40 rfl hk4 ?_
    refine st_iload_n (pc := 45) dX9_odds_45 rfl rfl ?_
    obtain ⟨hk5, h⟩ := h
    obtain ⟨h1, h⟩ := h
    refine st_aaload (pc := 46) (t := 6) dX9_odds_46 hk5 (fun _ => rfl) (by decide) (by decide) h1.1 h1.2 ?_
    refine st_iload (pc := 47) dX9_odds_47 rfl ?_
    obtain ⟨hk6, h⟩ := h
    obtain ⟨mc4, ms4, K4, hC, e1, e2, h⟩ := h
    refine sg_VI (pc := 49) (av := [vr (mR μ (mR μ a0 5) a1), vi a5]) (st := []) (K := K4) dX9_odds_49 ck_9_265 rfl (by decide) hk6 (by show (0 : Nat) ≤ 8; decide) hC e1 e2 (fun x2 m5 hK => ?_) rfl
    replace h := h x2 m5 hK
    refine st_ifle (pc := 52) (tgt := 75) dX9_odds_52 rfl (fun c => ?_) (fun c => ?_)
    · replace h := h.1 c
      refine sg_iinc (pc := 75) (ls' := [some (vr a0), some (vi a1), some (vi a2), some (vr a3), some (vi a4), some (vi (w32 (a5 + 1)))]) dX9_odds_75 rfl rfl ?_
      refine Wp.nameL (ls2 := fun v => [some (vr a0), some (vi a1), some (vi a2), some (vr a3), some (vi a4), some (vi v)]) 5 _ rfl (fun _ => rfl) (fun v1 ev1 => ?_)
      replace h := h v1 ev1
      refine st_goto (pc := 78) dX9_odds_78 rfl ?_
      exact h
    · replace h := h.2 c
      refine sg_iinc (pc := 55) (ls' := [some (vr a0), some (vi a1), some (vi a2), some (vr a3), some (vi (w32 (a4 + 1))), some (vi a5)]) dX9_odds_55 rfl rfl ?_
      refine Wp.nameL (ls2 := fun v => [some (vr a0), some (vi a1), some (vi a2), some (vr a3), some (vi v), some (vi a5)]) 4 _ rfl (fun _ => rfl) (fun v2 ev2 => ?_)
      replace h := h v2 ev2
      refine st_aload_n (pc := 58) dX9_odds_58 rfl rfl ?_
      refine st_aload_n (pc := 59) dX9_odds_59 rfl rfl ?_
      obtain ⟨hk7, h⟩ := h
      refine sg_gfR (pc := 60) (J := 5) dX9_odds_60 fl_9_40 rfl hk7 ?_
      refine st_iload_n (pc := 63) dX9_odds_63 rfl rfl ?_
      obtain ⟨hk8, h⟩ := h
      obtain ⟨h1, h⟩ := h
      refine st_aaload (pc := 64) (t := 6) dX9_odds_64 hk8 (fun _ => rfl) (by decide) (by decide) h1.1 h1.2 ?_
      refine st_aload_n (pc := 65) dX9_odds_65 rfl rfl ?_
      obtain ⟨hk9, h⟩ := h
      refine sg_gfI (pc := 66) (J := 5) dX9_odds_66 fl_9_275 (by decide) rfl hk9 ?_
      obtain ⟨hk10, h⟩ := h
      obtain ⟨mc5, ms5, K5, hC, e1, e2, h⟩ := h
      refine sg_VI (pc := 69) (av := [vi (mD m5 a3 5)]) (st := [vr a3]) (K := K5) dX9_odds_69 ck_9_278 rfl (by decide) hk10 (by show (1 : Nat) ≤ 8; decide) hC e1 e2 (fun x3 m6 hK => ?_) rfl
      replace h := h x3 m6 hK
      obtain ⟨hk11, h⟩ := h
      obtain ⟨mc6, ms6, K6, hC, e1, e2, h⟩ := h
      refine sg_VV (pc := 72) (av := [vi x3]) (st := []) (K := K6) dX9_odds_72 ck_9_286 rfl (by decide) hk11 (by show (0 : Nat) ≤ 8; decide) hC e1 e2 (fun m7 hK => ?_) rfl
      replace h := h m7 hK
      refine sg_iinc (pc := 75) (ls' := [some (vr a0), some (vi a1), some (vi a2), some (vr a3), some (vi v2), some (vi (w32 (a5 + 1)))]) dX9_odds_75 rfl rfl ?_
      refine Wp.nameL (ls2 := fun v => [some (vr a0), some (vi a1), some (vi a2), some (vr a3), some (vi v2), some (vi v)]) 5 _ rfl (fun _ => rfl) (fun v3 ev3 => ?_)
      replace h := h v3 ev3
      refine st_goto (pc := 78) dX9_odds_78 rfl ?_
      exact h

theorem sg_X9_full_0 {d bc bs : Nat} {a0 : Nat} {a1 : Int} {μ : Mem} {Q : Option (Option AV) → Mem → Prop}
    (h : ∃ (mc1 ms1 : Nat) (K1 : Int → Mem → Prop), Cl d mc1 ms1 mX9_isWalk [vi a1] μ (KI K1) ∧ mc1 ≤ bc ∧ ms1 ≤ bs ∧ (∀ x1 m1, K1 x1 m1 → (¬ x1 = 0 → Wp (d + 1) (bc - mc1) (bs - ms1) mX9_full 12 [some (vr a0), some (vi a1), some (vi 20), none] [] m1 Q) ∧ (x1 = 0 → Q (some (some (vi (-1)))) m1))) :
    Wp (d + 1) bc bs mX9_full 0 [some (vr a0), some (vi a1), none, none] [] μ Q := by
  refine st_iload_n (pc := 0) dX9_full_0 rfl rfl ?_
  obtain ⟨mc1, ms1, K1, hC, e1, e2, h⟩ := h
  refine sg_SI (pc := 1) (av := [vi a1]) (st := []) (K := K1) dX9_full_1 ck_9_193 rfl (by show (0 : Nat) ≤ 8; decide) hC e1 e2 (fun x1 m1 hK => ?_) rfl
  replace h := h x1 m1 hK
  refine st_ifne (pc := 4) (tgt := 9) dX9_full_4 rfl (fun c => ?_) (fun c => ?_)
  · replace h := h.1 c
    refine sg_bipush (pc := 9) dX9_full_9 (by omega) (by decide) ?_
    refine sg_istore_n (pc := 11) (ls' := [some (vr a0), some (vi a1), some (vi 20), none]) dX9_full_11 rfl (by show (2 : Nat) < 4; decide) rfl ?_
    exact h
  · replace h := h.2 c
    refine sg_iconst (pc := 7) dX9_full_7 (by omega) ?_
    exact st_ireturn (pc := 8) dX9_full_8 (Or.inl rfl) h

theorem sg_X9_full_12 {d bc bs : Nat} {a0 : Nat} {a1 : Int} {a2 : Int} {μ : Mem} {Q : Option (Option AV) → Mem → Prop}
    (h : (a2 < 0 → Q (some (some (vi (-2)))) μ) ∧ (¬ a2 < 0 → mK μ a0 = 10 ∧ ∃ (mc1 ms1 : Nat) (K1 : Nat → Mem → Prop), Cl d mc1 ms1 mX9_asItIs [vr a0] μ (KR K1) ∧ mc1 ≤ bc ∧ ms1 ≤ bs ∧ (∀ x1 m1, K1 x1 m1 → mK m1 x1 = 8 ∧ (mK m1 a0 = 10 ∧ (mK m1 (mR m1 a0 0) = 1 ∧ (mK m1 (mR m1 x1 0) = 1 ∧ (∀ m2, m2 = sD m1 (mR m1 x1 0) 2 (w32 ((w32 ((mD m1 (mR m1 a0 0) 1) * a2)).tdiv 20)) → mK m2 (mR m2 a0 5) = 26 ∧ ((0 : Int) ≤ a1 ∧ a1 < (mN m2 (mR m2 a0 5) : Int)) ∧ (∃ (mc2 ms2 : Nat) (K2 : Int → Mem → Prop), Cl d mc2 ms2 mX7_keepsAll [vr x1, vr (mR m2 (mR m2 a0 5) a1)] m2 (KI K2) ∧ mc2 ≤ bc - mc1 ∧ ms2 ≤ bs - ms1 ∧ (∀ x2 m3, K2 x2 m3 → (x2 = 0 → ∀ v1, v1 = w32 (a2 + (-1)) → Wp (d + 1) (bc - mc1 - mc2) (bs - ms1 - ms2) mX9_full 12 [some (vr a0), some (vi a1), some (vi v1), none] [] m3 Q) ∧ (¬ x2 = 0 → mK m3 x1 = 8 ∧ (mK m3 (mR m3 x1 0) = 1 ∧ (Q (some (some (vi (mD m3 (mR m3 x1 0) 2)))) m3)))))))))))) :
    Wp (d + 1) bc bs mX9_full 12 [some (vr a0), some (vi a1), some (vi a2), none] [] μ Q := by
  refine st_iload_n (pc := 12) dX9_full_12 rfl rfl ?_
  refine st_iflt (pc := 13) (tgt := 67) dX9_full_13 rfl (fun c => ?_) (fun c => ?_)
  · replace h := h.1 c
    refine sg_bipush (pc := 67) dX9_full_67 (by omega) (by decide) ?_
    exact st_ireturn (pc := 69) dX9_full_69 (Or.inl rfl) h
  · replace h := h.2 c
    refine st_aload_n (pc := 16) dX9_full_16 rfl rfl ?_
    obtain ⟨hk1, h⟩ := h
    obtain ⟨mc1, ms1, K1, hC, e1, e2, h⟩ := h
    refine sg_VR (pc := 17) (av := []) (st := []) (K := K1) dX9_full_17 ck_9_242 rfl (by decide) hk1 (by show (0 : Nat) ≤ 8; decide) hC e1 e2 (fun x1 m1 hK => ?_) rfl
    replace h := h x1 m1 hK
    refine sg_astore_n (pc := 20) (ls' := [some (vr a0), some (vi a1), some (vi a2), some (vr x1)]) dX9_full_20 rfl (by show (3 : Nat) < 4; decide) rfl ?_
    refine st_aload_n (pc := 21) dX9_full_21 rfl rfl ?_
    obtain ⟨hk2, h⟩ := h
    refine sg_gfR (pc := 22) (J := 0) dX9_full_22 fl_9_264 rfl hk2 ?_
    refine st_aload_n (pc := 25) dX9_full_25 rfl rfl ?_
    obtain ⟨hk3, h⟩ := h
    refine sg_gfR (pc := 26) (J := 0) dX9_full_26 fl_9_10 rfl hk3 ?_
    obtain ⟨hk4, h⟩ := h
    refine sg_gfI (pc := 29) (J := 1) dX9_full_29 fl_9_109 (by decide) rfl hk4 ?_
    refine st_iload_n (pc := 32) dX9_full_32 rfl rfl ?_
    refine st_imul (pc := 33) dX9_full_33 ?_
    refine sg_bipush (pc := 34) dX9_full_34 (by omega) (by decide) ?_
    refine st_idiv (pc := 36) dX9_full_36 (by omega) ?_
    obtain ⟨hk5, h⟩ := h
    refine sg_pfI (pc := 37) (J := 2) dX9_full_37 fl_9_112 rfl (Or.inl rfl) hk5 ?_
    refine Wp.nameM (fun m2 em2 => ?_)
    replace h := h m2 em2
    refine st_aload_n (pc := 40) dX9_full_40 rfl rfl ?_
    refine st_aload_n (pc := 41) dX9_full_41 rfl rfl ?_
    refine sg_gfR (pc := 42) (J := 5) dX9_full_42 fl_9_40 rfl (by cases em2; exact hk3) ?_
    refine st_iload_n (pc := 45) dX9_full_45 rfl rfl ?_
    obtain ⟨hk6, h⟩ := h
    obtain ⟨h1, h⟩ := h
    refine st_aaload (pc := 46) (t := 6) dX9_full_46 hk6 (fun _ => rfl) (by decide) (by decide) h1.1 h1.2 ?_
    obtain ⟨mc2, ms2, K2, hC, e1, e2, h⟩ := h
    refine sg_VI (pc := 47) (av := [vr (mR m2 (mR m2 a0 5) a1)]) (st := []) (K := K2) dX9_full_47 ck_9_300 rfl (by decide) (by cases em2; exact hk2) (by show (0 : Nat) ≤ 8; decide) hC e1 e2 (fun x2 m3 hK => ?_) rfl
    replace h := h x2 m3 hK
    refine st_ifeq (pc := 50) (tgt := 61) dX9_full_50 rfl (fun c => ?_) (fun c => ?_)
    · replace h := h.1 c
      refine sg_iinc (pc := 61) (ls' := [some (vr a0), some (vi a1), some (vi (w32 (a2 + (-1)))), some (vr x1)]) dX9_full_61 rfl rfl ?_
      refine Wp.nameL (ls2 := fun v => [some (vr a0), some (vi a1), some (vi v), some (vr x1)]) 2 _ rfl (fun _ => rfl) (fun v1 ev1 => ?_)
      replace h := h v1 ev1
      refine st_goto (pc := 64) dX9_full_64 rfl ?_
      refine Wp.drop 3 rfl ?_
      exact h
    · replace h := h.2 c
      refine st_aload_n (pc := 53) dX9_full_53 rfl rfl ?_
      obtain ⟨hk7, h⟩ := h
      refine sg_gfR (pc := 54) (J := 0) dX9_full_54 fl_9_264 rfl hk7 ?_
      obtain ⟨hk8, h⟩ := h
      refine sg_gfI (pc := 57) (J := 2) dX9_full_57 fl_9_112 (by decide) rfl hk8 ?_
      exact st_ireturn (pc := 60) dX9_full_60 (Or.inl rfl) h

theorem sg_X9_leads_0 {d bc bs : Nat} {a0 : Nat} {a1 : Int} {a2 : Int} {μ : Mem} {Q : Option (Option AV) → Mem → Prop}
    (h : ∃ (mc1 ms1 : Nat) (K1 : Int → Mem → Prop), Cl d mc1 ms1 mX9_isWalk [vi a1] μ (KI K1) ∧ mc1 ≤ bc ∧ ms1 ≤ bs ∧ (∀ x1 m1, K1 x1 m1 → (x1 = 0 → Q (some (some (vi (-1)))) m1) ∧ (¬ x1 = 0 → ∃ (mc2 ms2 : Nat) (K2 : Int → Mem → Prop), Cl d mc2 ms2 mX9_isIn [vi a2, vi 0, vi 99] m1 (KI K2) ∧ mc2 ≤ bc - mc1 ∧ ms2 ≤ bs - ms1 ∧ (∀ x2 m2, K2 x2 m2 → (¬ x2 = 0 → mK m2 a0 = 10 ∧ ((mK m2 (mR m2 a0 6) = 20 ∨ ((mR m2 a0 6) ≠ 0 ∧ mK m2 (mR m2 a0 6) = 40)) ∧ ((0 : Int) ≤ a1 ∧ a1 < (mN m2 (mR m2 a0 6) : Int)) ∧ (∀ v1, v1 = mD m2 (mR m2 a0 6) a1 → mK m2 (mR m2 a0 6) = 20 ∧ ((0 : Int) ≤ a1 ∧ a1 < (mN m2 (mR m2 a0 6) : Int)) ∧ (∀ m3, m3 = sD m2 (mR m2 a0 6) a1 a2 → Q (some (some (vi v1))) m3)))) ∧ (x2 = 0 → Q (some (some (vi (-1)))) m2))))) :
    Wp (d + 1) bc bs mX9_leads 0 [some (vr a0), some (vi a1), some (vi a2), none] [] μ Q := by
  refine st_iload_n (pc := 0) dX9_leads_0 rfl rfl ?_
  obtain ⟨mc1, ms1, K1, hC, e1, e2, h⟩ := h
  refine sg_SI (pc := 1) (av := [vi a1]) (st := []) (K := K1) dX9_leads_1 ck_9_193 rfl (by show (0 : Nat) ≤ 8; decide) hC e1 e2 (fun x1 m1 hK => ?_) rfl
  replace h := h x1 m1 hK
  refine st_ifeq (pc := 4) (tgt := 17) dX9_leads_4 rfl (fun c => ?_) (fun c => ?_)
  · replace h := h.1 c
    refine sg_iconst (pc := 17) dX9_leads_17 (by omega) ?_
    exact st_ireturn (pc := 18) dX9_leads_18 (Or.inl rfl) h
  · replace h := h.2 c
    refine st_iload_n (pc := 7) dX9_leads_7 rfl rfl ?_
    refine sg_iconst (pc := 8) dX9_leads_8 (by omega) ?_
    refine sg_bipush (pc := 9) dX9_leads_9 (by omega) (by decide) ?_
    obtain ⟨mc2, ms2, K2, hC, e1, e2, h⟩ := h
    refine sg_SI (pc := 11) (av := [vi a2, vi 0, vi 99]) (st := []) (K := K2) dX9_leads_11 ck_9_102 rfl (by show (0 : Nat) ≤ 8; decide) hC e1 e2 (fun x2 m2 hK => ?_) rfl
    replace h := h x2 m2 hK
    refine st_ifne (pc := 14) (tgt := 19) dX9_leads_14 rfl (fun c => ?_) (fun c => ?_)
    · replace h := h.1 c
      refine st_aload_n (pc := 19) dX9_leads_19 rfl rfl ?_
      obtain ⟨hk1, h⟩ := h
      refine sg_gfR (pc := 20) (J := 6) dX9_leads_20 fl_9_44 rfl hk1 ?_
      refine st_iload_n (pc := 23) dX9_leads_23 rfl rfl ?_
      obtain ⟨hk2, h⟩ := h
      obtain ⟨h1, h⟩ := h
      refine sg_iaload (pc := 24) dX9_leads_24 hk2 h1 ?_
      refine sg_istore_n (pc := 25) (ls' := [some (vr a0), some (vi a1), some (vi a2), some (vi (mD m2 (mR m2 a0 6) a1))]) dX9_leads_25 rfl (by show (3 : Nat) < 4; decide) rfl ?_
      refine Wp.nameL (ls2 := fun v => [some (vr a0), some (vi a1), some (vi a2), some (vi v)]) 3 _ rfl (fun _ => rfl) (fun v1 ev1 => ?_)
      replace h := h v1 ev1
      refine st_aload_n (pc := 26) dX9_leads_26 rfl rfl ?_
      refine sg_gfR (pc := 27) (J := 6) dX9_leads_27 fl_9_44 rfl hk1 ?_
      refine st_iload_n (pc := 30) dX9_leads_30 rfl rfl ?_
      refine st_iload_n (pc := 31) dX9_leads_31 rfl rfl ?_
      obtain ⟨hk3, h⟩ := h
      obtain ⟨h1, h⟩ := h
      refine st_iastore (pc := 32) dX9_leads_32 hk3 h1.1 h1.2 ?_
      refine Wp.nameM (fun m3 em3 => ?_)
      replace h := h m3 em3
      refine st_iload_n (pc := 33) dX9_leads_33 rfl rfl ?_
      exact st_ireturn (pc := 34) dX9_leads_34 (Or.inl rfl) h
    · replace h := h.2 c
      refine sg_iconst (pc := 17) dX9_leads_17 (by omega) ?_
      exact st_ireturn (pc := 18) dX9_leads_18 (Or.inl rfl) h

theorem sg_X9_extend_0 {d bc bs : Nat} {a0 : Nat} {a1 : Nat} {a2 : Nat} {a3 : Int} {a4 : Int} {a5 : Int} {μ : Mem} {Q : Option (Option AV) → Mem → Prop}
    (h : Wp (d + 1) bc bs mX9_extend 3 [some (vr a0), some (vr a1), some (vr a2), some (vi a3), some (vi a4), some (vi a5), some (vi 0), none, none] [] μ Q) :
    Wp (d + 1) bc bs mX9_extend 0 [some (vr a0), some (vr a1), some (vr a2), some (vi a3), some (vi a4), some (vi a5), none, none, none] [] μ Q := by
  refine sg_iconst (pc := 0) dX9_extend_0 (by omega) ?_
  refine sg_istore (pc := 1) (ls' := [some (vr a0), some (vr a1), some (vr a2), some (vi a3), some (vi a4), some (vi a5), some (vi 0), none, none]) dX9_extend_1 (by show (6 : Nat) < 9; decide) rfl ?_
  exact h

theorem sg_X9_extend_3 {d bc bs : Nat} {a0 : Nat} {a1 : Nat} {a2 : Nat} {a3 : Int} {a4 : Int} {a5 : Int} {a6 : Int} {μ : Mem} {Q : Option (Option AV) → Mem → Prop}
    (h : (4 ≤ a6 → Q (some none) μ) ∧ (¬ 4 ≤ a6 → (4 ≤ a3 → Q (some none) μ) ∧ (¬ 4 ≤ a3 → (mK μ a2 = 20 ∨ (a2 ≠ 0 ∧ mK μ a2 = 40)) ∧ ((0 : Int) ≤ a6 ∧ a6 < (mN μ a2 : Int)) ∧ (∀ v1, v1 = w32 (a4 + (mD μ a2 a6)) → mK μ a1 = 26 ∧ ((0 : Int) ≤ a6 ∧ a6 < (mN μ a1 : Int)) ∧ (mK μ (mR μ a1 a6) = 9 ∧ (∀ v2, v2 = w32 (a5 + (mD μ (mR μ a1 a6) 4)) → ((0 : Int) ≤ a6 ∧ a6 < (mN μ a2 : Int)) ∧ (((mD μ a2 a6) = 0 → ∀ v3, v3 = w32 (a6 + 1) → Wp (d + 1) bc bs mX9_extend 3 [some (vr a0), some (vr a1), some (vr a2), some (vi a3), some (vi a4), some (vi a5), some (vi v3), none, none] [] μ Q) ∧ (¬ (mD μ a2 a6) = 0 → mK μ a0 = 4 ∧ (((mD μ a0 7) ≤ v2 → ∀ v4, v4 = w32 (a6 + 1) → Wp (d + 1) bc bs mX9_extend 3 [some (vr a0), some (vr a1), some (vr a2), some (vi a3), some (vi a4), some (vi a5), some (vi v4), none, none] [] μ Q) ∧ (¬ (mD μ a0 7) ≤ v2 → ((0 : Int) ≤ a6 ∧ a6 < (mN μ a1 : Int)) ∧ (∃ (mc1 ms1 : Nat) (K1 : Int → Mem → Prop), Cl d mc1 ms1 mX3_carries [vr a0, vi a3, vr (mR μ a1 a6)] μ (KI K1) ∧ mc1 ≤ bc ∧ ms1 ≤ bs ∧ (∀ x1 m1, K1 x1 m1 → (¬ x1 = 0 → mK m1 a0 = 4 ∧ ∃ (mc2 ms2 : Nat) (K2 : Mem → Prop), Cl d mc2 ms2 mX3_choose [vr a0, vi a3, vi a6] m1 (KV K2) ∧ mc2 ≤ bc - mc1 ∧ ms2 ≤ bs - ms1 ∧ (∀ m2, K2 m2 → mK m2 a0 = 4 ∧ (((mD m2 a0 4) ≤ v1 → ∃ (mc3 ms3 : Nat) (K3 : Mem → Prop), Cl d mc3 ms3 mX3_noteBest [vr a0, vi (w32 (a3 + 1)), vi v2] m2 (KV K3) ∧ mc3 ≤ bc - mc1 - mc2 ∧ ms3 ≤ bs - ms1 - ms2 ∧ (∀ m3, K3 m3 → ∀ v5, v5 = w32 (a6 + 1) → Wp (d + 1) (bc - mc1 - mc2 - mc3) (bs - ms1 - ms2 - ms3) mX9_extend 3 [some (vr a0), some (vr a1), some (vr a2), some (vi a3), some (vi a4), some (vi a5), some (vi v5), none, none] [] m3 Q)) ∧ (¬ (mD m2 a0 4) ≤ v1 → ∃ (mc4 ms4 : Nat) (K4 : Mem → Prop), Cl d mc4 ms4 mX9_extend [vr a0, vr a1, vr a2, vi (w32 (a3 + 1)), vi v1, vi v2] m2 (KV K4) ∧ mc4 ≤ bc - mc1 - mc2 ∧ ms4 ≤ bs - ms1 - ms2 ∧ (∀ m4, K4 m4 → ∀ v6, v6 = w32 (a6 + 1) → Wp (d + 1) (bc - mc1 - mc2 - mc4) (bs - ms1 - ms2 - ms4) mX9_extend 3 [some (vr a0), some (vr a1), some (vr a2), some (vi a3), some (vi a4), some (vi a5), some (vi v6), none, none] [] m4 Q))))) ∧ (x1 = 0 → ∀ v7, v7 = w32 (a6 + 1) → Wp (d + 1) (bc - mc1) (bs - ms1) mX9_extend 3 [some (vr a0), some (vr a1), some (vr a2), some (vi a3), some (vi a4), some (vi a5), some (vi v7), none, none] [] m1 Q))))))))))))) :
    Wp (d + 1) bc bs mX9_extend 3 [some (vr a0), some (vr a1), some (vr a2), some (vi a3), some (vi a4), some (vi a5), some (vi a6), none, none] [] μ Q := by
  refine st_iload (pc := 3) dX9_extend_3 rfl ?_
  refine sg_iconst (pc := 5) dX9_extend_5 (by omega) ?_
  refine st_icmpge (pc := 6) (tgt := 113) dX9_extend_6 rfl (fun c => ?_) (fun c => ?_)
  · replace h := h.1 c
    exact st_return (pc := 113) dX9_extend_113 rfl h
  · replace h := h.2 c
    refine st_iload_n (pc := 9) dX9_extend_9 rfl rfl ?_
    refine sg_iconst (pc := 10) dX9_extend_10 (by omega) ?_
    refine st_icmpge (pc := 11) (tgt := 113) dX9_extend_11 rfl (fun c => ?_) (fun c => ?_)
    · replace h := h.1 c
      exact st_return (pc := 113) dX9_extend_113 rfl h
    · replace h := h.2 c
      refine st_iload (pc := 14) dX9_extend_14 rfl ?_
      refine st_aload_n (pc := 16) dX9_extend_16 rfl rfl ?_
      refine st_iload (pc := 17) dX9_extend_17 rfl ?_
      obtain ⟨hk1, h⟩ := h
      obtain ⟨h1, h⟩ := h
      refine sg_iaload (pc := 19) dX9_extend_19 hk1 h1 ?_
      refine st_iadd (pc := 20) dX9_extend_20 ?_
      refine sg_istore (pc := 21) (ls' := [some (vr a0), some (vr a1), some (vr a2), some (vi a3), some (vi a4), some (vi a5), some (vi a6), some (vi (w32 (a4 + (mD μ a2 a6)))), none]) dX9_extend_21 (by show (7 : Nat) < 9; decide) rfl ?_
      refine Wp.nameL (ls2 := fun v => [some (vr a0), some (vr a1), some (vr a2), some (vi a3), some (vi a4), some (vi a5), some (vi a6), some (vi v), none]) 7 _ rfl (fun _ => rfl) (fun v1 ev1 => ?_)
      replace h := h v1 ev1
      refine st_iload (pc := 23) dX9_extend_23 rfl ?_
      refine st_aload_n (pc := 25) dX9_extend_25 rfl rfl ?_
      refine st_iload (pc := 26) dX9_extend_26 rfl ?_
      obtain ⟨hk2, h⟩ := h
      obtain ⟨h1, h⟩ := h
      refine st_aaload (pc := 28) (t := 6) dX9_extend_28 hk2 (fun _ => rfl) (by decide) (by decide) h1.1 h1.2 ?_
      obtain ⟨hk3, h⟩ := h
      refine sg_gfI (pc := 29) (J := 4) dX9_extend_29 fl_9_204 (by decide) rfl hk3 ?_
      refine st_iadd (pc := 32) dX9_extend_32 ?_
      refine sg_istore (pc := 33) (ls' := [some (vr a0), some (vr a1), some (vr a2), some (vi a3), some (vi a4), some (vi a5), some (vi a6), some (vi v1), some (vi (w32 (a5 + (mD μ (mR μ a1 a6) 4))))]) dX9_extend_33 (by show (8 : Nat) < 9; decide) rfl ?_
      refine Wp.nameL (ls2 := fun v => [some (vr a0), some (vr a1), some (vr a2), some (vi a3), some (vi a4), some (vi a5), some (vi a6), some (vi v1), some (vi v)]) 8 _ rfl (fun _ => rfl) (fun v2 ev2 => ?_)
      replace h := h v2 ev2
      refine st_aload_n (pc := 35) dX9_extend_35 rfl rfl ?_
      refine st_iload (pc := 36) dX9_extend_36 rfl ?_
      obtain ⟨h1, h⟩ := h
      refine sg_iaload (pc := 38) dX9_extend_38 hk1 h1 ?_
      refine st_ifeq (pc := 39) (tgt := 107) dX9_extend_39 rfl (fun c => ?_) (fun c => ?_)
      · replace h := h.1 c
        refine sg_iinc (pc := 107) (ls' := [some (vr a0), some (vr a1), some (vr a2), some (vi a3), some (vi a4), some (vi a5), some (vi (w32 (a6 + 1))), some (vi v1), some (vi v2)]) dX9_extend_107 rfl rfl ?_
        refine Wp.nameL (ls2 := fun v => [some (vr a0), some (vr a1), some (vr a2), some (vi a3), some (vi a4), some (vi a5), some (vi v), some (vi v1), some (vi v2)]) 6 _ rfl (fun _ => rfl) (fun v3 ev3 => ?_)
        replace h := h v3 ev3
        refine st_goto (pc := 110) dX9_extend_110 rfl ?_
        refine Wp.drop 7 rfl ?_
        refine Wp.drop 8 rfl ?_
        exact h
      · replace h := h.2 c
        refine st_iload (pc := 42) dX9_extend_42 rfl ?_
        refine st_aload_n (pc := 44) dX9_extend_44 rfl rfl ?_
        obtain ⟨hk4, h⟩ := h
        refine sg_gfI (pc := 45) (J := 7) dX9_extend_45 fl_9_318 (by decide) rfl hk4 ?_
        refine st_icmpge (pc := 48) (tgt := 107) dX9_extend_48 rfl (fun c => ?_) (fun c => ?_)
        · replace h := h.1 c
          refine sg_iinc (pc := 107) (ls' := [some (vr a0), some (vr a1), some (vr a2), some (vi a3), some (vi a4), some (vi a5), some (vi (w32 (a6 + 1))), some (vi v1), some (vi v2)]) dX9_extend_107 rfl rfl ?_
          refine Wp.nameL (ls2 := fun v => [some (vr a0), some (vr a1), some (vr a2), some (vi a3), some (vi a4), some (vi a5), some (vi v), some (vi v1), some (vi v2)]) 6 _ rfl (fun _ => rfl) (fun v4 ev4 => ?_)
          replace h := h v4 ev4
          refine st_goto (pc := 110) dX9_extend_110 rfl ?_
          refine Wp.drop 7 rfl ?_
          refine Wp.drop 8 rfl ?_
          exact h
        · replace h := h.2 c
          refine st_aload_n (pc := 51) dX9_extend_51 rfl rfl ?_
          refine st_iload_n (pc := 52) dX9_extend_52 rfl rfl ?_
          refine st_aload_n (pc := 53) dX9_extend_53 rfl rfl ?_
          refine st_iload (pc := 54) dX9_extend_54 rfl ?_
          obtain ⟨h1, h⟩ := h
          refine st_aaload (pc := 56) (t := 6) dX9_extend_56 hk2 (fun _ => rfl) (by decide) (by decide) h1.1 h1.2 ?_
          obtain ⟨mc1, ms1, K1, hC, e1, e2, h⟩ := h
          refine sg_VI (pc := 57) (av := [vi a3, vr (mR μ a1 a6)]) (st := []) (K := K1) dX9_extend_57 ck_9_327 rfl (by decide) hk4 (by show (0 : Nat) ≤ 8; decide) hC e1 e2 (fun x1 m1 hK => ?_) rfl
          replace h := h x1 m1 hK
          refine st_ifne (pc := 60) (tgt := 66) dX9_extend_60 rfl (fun c => ?_) (fun c => ?_)
          · replace h := h.1 c
            refine st_aload_n (pc := 66) dX9_extend_66 rfl rfl ?_
            refine st_iload_n (pc := 67) dX9_extend_67 rfl rfl ?_
            refine st_iload (pc := 68) dX9_extend_68 rfl ?_
            obtain ⟨hk5, h⟩ := h
            obtain ⟨mc2, ms2, K2, hC, e1, e2, h⟩ := h
            refine sg_VV (pc := 70) (av := [vi a3, vi a6]) (st := []) (K := K2) dX9_extend_70 ck_9_331 rfl (by decide) hk5 (by show (0 : Nat) ≤ 8; decide) hC e1 e2 (fun m2 hK => ?_) rfl
            replace h := h m2 hK
            refine st_iload (pc := 73) dX9_extend_73 rfl ?_
            refine st_aload_n (pc := 75) dX9_extend_75 rfl rfl ?_
            obtain ⟨hk6, h⟩ := h
            refine sg_gfI (pc := 76) (J := 4) dX9_extend_76 fl_9_334 (by decide) rfl hk6 ?_
            refine st_icmpge (pc := 79) (tgt := 98) dX9_extend_79 rfl (fun c => ?_) (fun c => ?_)
            · replace h := h.1 c
              refine st_aload_n (pc := 98) dX9_extend_98 rfl rfl ?_
              refine st_iload_n (pc := 99) dX9_extend_99 rfl rfl ?_
              refine sg_iconst (pc := 100) dX9_extend_100 (by omega) ?_
              refine st_iadd (pc := 101) dX9_extend_101 ?_
              refine st_iload (pc := 102) dX9_extend_102 rfl ?_
              obtain ⟨mc3, ms3, K3, hC, e1, e2, h⟩ := h
              refine sg_VV (pc := 104) (av := [vi (w32 (a3 + 1)), vi v2]) (st := []) (K := K3) dX9_extend_104 ck_9_337 rfl (by decide) hk6 (by show (0 : Nat) ≤ 8; decide) hC e1 e2 (fun m3 hK => ?_) rfl
              replace h := h m3 hK
              refine sg_iinc (pc := 107) (ls' := [some (vr a0), some (vr a1), some (vr a2), some (vi a3), some (vi a4), some (vi a5), some (vi (w32 (a6 + 1))), some (vi v1), some (vi v2)]) dX9_extend_107 rfl rfl ?_
              refine Wp.nameL (ls2 := fun v => [some (vr a0), some (vr a1), some (vr a2), some (vi a3), some (vi a4), some (vi a5), some (vi v), some (vi v1), some (vi v2)]) 6 _ rfl (fun _ => rfl) (fun v5 ev5 => ?_)
              replace h := h v5 ev5
              refine st_goto (pc := 110) dX9_extend_110 rfl ?_
              refine Wp.drop 7 rfl ?_
              refine Wp.drop 8 rfl ?_
              exact h
            · replace h := h.2 c
              refine st_aload_n (pc := 82) dX9_extend_82 rfl rfl ?_
              refine st_aload_n (pc := 83) dX9_extend_83 rfl rfl ?_
              refine st_aload_n (pc := 84) dX9_extend_84 rfl rfl ?_
              refine st_iload_n (pc := 85) dX9_extend_85 rfl rfl ?_
              refine sg_iconst (pc := 86) dX9_extend_86 (by omega) ?_
              refine st_iadd (pc := 87) dX9_extend_87 ?_
              refine st_iload (pc := 88) dX9_extend_88 rfl ?_
              refine st_iload (pc := 90) dX9_extend_90 rfl ?_
              obtain ⟨mc4, ms4, K4, hC, e1, e2, h⟩ := h
              refine sg_SV (pc := 92) (av := [vr a0, vr a1, vr a2, vi (w32 (a3 + 1)), vi v1, vi v2]) (st := []) (K := K4) dX9_extend_92 ck_9_308 rfl (by show (0 : Nat) ≤ 8; decide) hC e1 e2 (fun m4 hK => ?_) rfl
              replace h := h m4 hK
              refine st_goto (pc := 95) dX9_extend_95 rfl ?_
              refine sg_iinc (pc := 107) (ls' := [some (vr a0), some (vr a1), some (vr a2), some (vi a3), some (vi a4), some (vi a5), some (vi (w32 (a6 + 1))), some (vi v1), some (vi v2)]) dX9_extend_107 rfl rfl ?_
              refine Wp.nameL (ls2 := fun v => [some (vr a0), some (vr a1), some (vr a2), some (vi a3), some (vi a4), some (vi a5), some (vi v), some (vi v1), some (vi v2)]) 6 _ rfl (fun _ => rfl) (fun v6 ev6 => ?_)
              replace h := h v6 ev6
              refine st_goto (pc := 110) dX9_extend_110 rfl ?_
              refine Wp.drop 7 rfl ?_
              refine Wp.drop 8 rfl ?_
              exact h
          · replace h := h.2 c
            refine st_goto (pc := 63) dX9_extend_63 rfl ?_
            refine sg_iinc (pc := 107) (ls' := [some (vr a0), some (vr a1), some (vr a2), some (vi a3), some (vi a4), some (vi a5), some (vi (w32 (a6 + 1))), some (vi v1), some (vi v2)]) dX9_extend_107 rfl rfl ?_
            refine Wp.nameL (ls2 := fun v => [some (vr a0), some (vr a1), some (vr a2), some (vi a3), some (vi a4), some (vi a5), some (vi v), some (vi v1), some (vi v2)]) 6 _ rfl (fun _ => rfl) (fun v7 ev7 => ?_)
            replace h := h v7 ev7
            refine st_goto (pc := 110) dX9_extend_110 rfl ?_
            refine Wp.drop 7 rfl ?_
            refine Wp.drop 8 rfl ?_
            exact h

theorem sg_X9_plan_0 {d bc bs : Nat} {a0 : Nat} {a1 : Int} {μ : Mem} {Q : Option (Option AV) → Mem → Prop}
    (h : ∃ (mc1 ms1 : Nat) (K1 : Int → Mem → Prop), Cl d mc1 ms1 mX9_isIn [vi a1, vi 1, vi 400] μ (KI K1) ∧ mc1 ≤ bc ∧ ms1 ≤ bs ∧ (∀ x1 m1, K1 x1 m1 → (¬ x1 = 0 → mK m1 a0 = 10 ∧ (mK m1 (mR m1 a0 0) = 1 ∧ ((mK m1 (mR m1 (mR m1 a0 0) 3) = 20 ∨ ((mR m1 (mR m1 a0 0) 3) ≠ 0 ∧ mK m1 (mR m1 (mR m1 a0 0) 3) = 40)) ∧ ((0 : Int) ≤ 6 ∧ 6 < (mN m1 (mR m1 (mR m1 a0 0) 3) : Int)) ∧ (∃ (mc2 ms2 : Nat) (K2 : Nat → Mem → Prop), Cl d mc2 ms2 mX9_toldLaw [vr a0, vi (mD m1 (mR m1 (mR m1 a0 0) 3) 6)] m1 (KR K2) ∧ mc2 ≤ bc - mc1 ∧ ms2 ≤ bs - ms1 ∧ (∀ x2 m2, K2 x2 m2 → mK m2 (mR m1 a0 11) = 4 ∧ ∃ (mc3 ms3 : Nat) (K3 : Mem → Prop), Cl d mc3 ms3 mX3_begin [vr (mR m1 a0 11), vr (mR m1 a0 0), vr x2, vi a1] m2 (KV K3) ∧ mc3 ≤ bc - mc1 - mc2 ∧ ms3 ≤ bs - ms1 - ms2 ∧ (∀ m3, K3 m3 → mK m3 a0 = 10 ∧ (∃ (mc4 ms4 : Nat) (K4 : Mem → Prop), Cl d mc4 ms4 mX9_extend [vr (mR m3 a0 11), vr (mR m3 a0 5), vr (mR m3 a0 6), vi 0, vi 0, vi 0] m3 (KV K4) ∧ mc4 ≤ bc - mc1 - mc2 - mc3 ∧ ms4 ≤ bs - ms1 - ms2 - ms3 ∧ (∀ m4, K4 m4 → mK m4 a0 = 10 ∧ (mK m4 (mR m4 a0 11) = 4 ∧ ((¬ (mD m4 (mR m4 a0 11) 6) = 0 → (∀ m5, m5 = sD m4 a0 16 0 → Wp (d + 1) (bc - mc1 - mc2 - mc3 - mc4) (bs - ms1 - ms2 - ms3 - ms4) mX9_plan 77 [some (vr a0), some (vi a1), some (vi 0)] [] m5 Q)) ∧ ((mD m4 (mR m4 a0 11) 6) = 0 → Q (some (some (vi (-2)))) m4))))))))))) ∧ (x1 = 0 → Q (some (some (vi (-1)))) m1))) :
    Wp (d + 1) bc bs mX9_plan 0 [some (vr a0), some (vi a1), none] [] μ Q := by
  refine st_iload_n (pc := 0) dX9_plan_0 rfl rfl ?_
  refine sg_iconst (pc := 1) dX9_plan_1 (by omega) ?_
  refine sg_sipush (pc := 2) dX9_plan_2 (by omega) (by decide) ?_
  obtain ⟨mc1, ms1, K1, hC, e1, e2, h⟩ := h
  refine sg_SI (pc := 5) (av := [vi a1, vi 1, vi 400]) (st := []) (K := K1) dX9_plan_5 ck_9_102 rfl (by show (0 : Nat) ≤ 8; decide) hC e1 e2 (fun x1 m1 hK => ?_) rfl
  replace h := h x1 m1 hK
  refine st_ifne (pc := 8) (tgt := 13) dX9_plan_8 rfl (fun c => ?_) (fun c => ?_)
  · replace h := h.1 c
    refine st_aload_n (pc := 13) dX9_plan_13 rfl rfl ?_
    obtain ⟨hk1, h⟩ := h
    refine sg_gfR (pc := 14) (J := 11) dX9_plan_14 fl_9_74 rfl hk1 ?_
    refine st_aload_n (pc := 17) dX9_plan_17 rfl rfl ?_
    refine sg_gfR (pc := 18) (J := 0) dX9_plan_18 fl_9_10 rfl hk1 ?_
    refine st_aload_n (pc := 21) dX9_plan_21 rfl rfl ?_
    refine st_aload_n (pc := 22) dX9_plan_22 rfl rfl ?_
    refine sg_gfR (pc := 23) (J := 0) dX9_plan_23 fl_9_10 rfl hk1 ?_
    obtain ⟨hk2, h⟩ := h
    refine sg_gfR (pc := 26) (J := 3) dX9_plan_26 fl_9_124 rfl hk2 ?_
    refine sg_bipush (pc := 29) dX9_plan_29 (by omega) (by decide) ?_
    obtain ⟨hk3, h⟩ := h
    obtain ⟨h1, h⟩ := h
    refine sg_iaload (pc := 31) dX9_plan_31 hk3 h1 ?_
    obtain ⟨mc2, ms2, K2, hC, e1, e2, h⟩ := h
    refine sg_VR (pc := 32) (av := [vi (mD m1 (mR m1 (mR m1 a0 0) 3) 6)]) (st := [vr (mR m1 a0 0), vr (mR m1 a0 11)]) (K := K2) dX9_plan_32 ck_9_208 rfl (by decide) hk1 (by show (2 : Nat) ≤ 8; decide) hC e1 e2 (fun x2 m2 hK => ?_) rfl
    replace h := h x2 m2 hK
    refine st_iload_n (pc := 35) dX9_plan_35 rfl rfl ?_
    obtain ⟨hk4, h⟩ := h
    obtain ⟨mc3, ms3, K3, hC, e1, e2, h⟩ := h
    refine sg_VV (pc := 36) (av := [vr (mR m1 a0 0), vr x2, vi a1]) (st := []) (K := K3) dX9_plan_36 ck_9_304 rfl (by decide) hk4 (by show (0 : Nat) ≤ 8; decide) hC e1 e2 (fun m3 hK => ?_) rfl
    replace h := h m3 hK
    refine st_aload_n (pc := 39) dX9_plan_39 rfl rfl ?_
    obtain ⟨hk5, h⟩ := h
    refine sg_gfR (pc := 40) (J := 11) dX9_plan_40 fl_9_74 rfl hk5 ?_
    refine st_aload_n (pc := 43) dX9_plan_43 rfl rfl ?_
    refine sg_gfR (pc := 44) (J := 5) dX9_plan_44 fl_9_40 rfl hk5 ?_
    refine st_aload_n (pc := 47) dX9_plan_47 rfl rfl ?_
    refine sg_gfR (pc := 48) (J := 6) dX9_plan_48 fl_9_44 rfl hk5 ?_
    refine sg_iconst (pc := 51) dX9_plan_51 (by omega) ?_
    refine sg_iconst (pc := 52) dX9_plan_52 (by omega) ?_
    refine sg_iconst (pc := 53) dX9_plan_53 (by omega) ?_
    obtain ⟨mc4, ms4, K4, hC, e1, e2, h⟩ := h
    refine sg_SV (pc := 54) (av := [vr (mR m3 a0 11), vr (mR m3 a0 5), vr (mR m3 a0 6), vi 0, vi 0, vi 0]) (st := []) (K := K4) dX9_plan_54 ck_9_308 rfl (by show (0 : Nat) ≤ 8; decide) hC e1 e2 (fun m4 hK => ?_) rfl
    replace h := h m4 hK
    refine st_aload_n (pc := 57) dX9_plan_57 rfl rfl ?_
    obtain ⟨hk6, h⟩ := h
    refine sg_gfR (pc := 58) (J := 11) dX9_plan_58 fl_9_74 rfl hk6 ?_
    obtain ⟨hk7, h⟩ := h
    refine sg_gfI (pc := 61) (J := 6) dX9_plan_61 fl_9_312 (by decide) rfl hk7 ?_
    refine st_ifne (pc := 64) (tgt := 70) dX9_plan_64 rfl (fun c => ?_) (fun c => ?_)
    · replace h := h.1 c
      refine st_aload_n (pc := 70) dX9_plan_70 rfl rfl ?_
      refine sg_iconst (pc := 71) dX9_plan_71 (by omega) ?_
      refine sg_pfI (pc := 72) (J := 16) dX9_plan_72 fl_9_95 rfl (Or.inl rfl) hk6 ?_
      refine Wp.nameM (fun m5 em5 => ?_)
      replace h := h m5 em5
      refine sg_iconst (pc := 75) dX9_plan_75 (by omega) ?_
      refine sg_istore_n (pc := 76) (ls' := [some (vr a0), some (vi a1), some (vi 0)]) dX9_plan_76 rfl (by show (2 : Nat) < 3; decide) rfl ?_
      exact h
    · replace h := h.2 c
      refine sg_bipush (pc := 67) dX9_plan_67 (by omega) (by decide) ?_
      exact st_ireturn (pc := 69) dX9_plan_69 (Or.inl rfl) h
  · replace h := h.2 c
    refine sg_iconst (pc := 11) dX9_plan_11 (by omega) ?_
    exact st_ireturn (pc := 12) dX9_plan_12 (Or.inl rfl) h

theorem sg_X9_plan_77 {d bc bs : Nat} {a0 : Nat} {a1 : Int} {a2 : Int} {μ : Mem} {Q : Option (Option AV) → Mem → Prop}
    (h : mK μ a0 = 10 ∧ (mK μ (mR μ a0 11) = 4 ∧ (((mD μ (mR μ a0 11) 6) ≤ a2 → Q (some (some (vi (mD μ (mR μ a0 11) 7)))) μ) ∧ (¬ (mD μ (mR μ a0 11) 6) ≤ a2 → ((20 ≤ mK μ (mR μ (mR μ a0 11) 5) ∧ mK μ (mR μ (mR μ a0 11) 5) ≤ 28) ∨ ((mR μ (mR μ a0 11) 5) ≠ 0 ∧ mK μ (mR μ (mR μ a0 11) 5) = 40)) ∧ (((mN μ (mR μ (mR μ a0 11) 5) : Int) ≤ a2 → Q (some (some (vi (mD μ (mR μ a0 11) 7)))) μ) ∧ (¬ (mN μ (mR μ (mR μ a0 11) 5) : Int) ≤ a2 → (mK μ (mR μ (mR μ a0 11) 5) = 20 ∨ ((mR μ (mR μ a0 11) 5) ≠ 0 ∧ mK μ (mR μ (mR μ a0 11) 5) = 40)) ∧ ((0 : Int) ≤ a2 ∧ a2 < (mN μ (mR μ (mR μ a0 11) 5) : Int)) ∧ (∃ (mc1 ms1 : Nat) (K1 : Mem → Prop), Cl d mc1 ms1 mX9_tellMore [vr a0, vl (mD μ (mR μ (mR μ a0 11) 5) a2)] μ (KV K1) ∧ mc1 ≤ bc ∧ ms1 ≤ bs ∧ (∀ m1, K1 m1 → ∀ v1, v1 = w32 (a2 + 1) → Wp (d + 1) (bc - mc1) (bs - ms1) mX9_plan 77 [some (vr a0), some (vi a1), some (vi v1)] [] m1 Q)))))))) :
    Wp (d + 1) bc bs mX9_plan 77 [some (vr a0), some (vi a1), some (vi a2)] [] μ Q := by
  refine st_iload_n (pc := 77) dX9_plan_77 rfl rfl ?_
  refine st_aload_n (pc := 78) dX9_plan_78 rfl rfl ?_
  obtain ⟨hk1, h⟩ := h
  refine sg_gfR (pc := 79) (J := 11) dX9_plan_79 fl_9_74 rfl hk1 ?_
  obtain ⟨hk2, h⟩ := h
  refine sg_gfI (pc := 82) (J := 6) dX9_plan_82 fl_9_312 (by decide) rfl hk2 ?_
  refine st_icmpge (pc := 85) (tgt := 120) dX9_plan_85 rfl (fun c => ?_) (fun c => ?_)
  · replace h := h.1 c
    refine st_aload_n (pc := 120) dX9_plan_120 rfl rfl ?_
    refine sg_gfR (pc := 121) (J := 11) dX9_plan_121 fl_9_74 rfl hk1 ?_
    refine sg_gfI (pc := 124) (J := 7) dX9_plan_124 fl_9_318 (by decide) rfl hk2 ?_
    exact st_ireturn (pc := 127) dX9_plan_127 (Or.inl rfl) h
  · replace h := h.2 c
    refine st_iload_n (pc := 88) dX9_plan_88 rfl rfl ?_
    refine st_aload_n (pc := 89) dX9_plan_89 rfl rfl ?_
    refine sg_gfR (pc := 90) (J := 11) dX9_plan_90 fl_9_74 rfl hk1 ?_
    refine sg_gfR (pc := 93) (J := 5) dX9_plan_93 fl_9_315 rfl hk2 ?_
    obtain ⟨hk3, h⟩ := h
    refine sg_alen (pc := 96) dX9_plan_96 hk3 ?_
    refine st_icmpge (pc := 97) (tgt := 120) dX9_plan_97 rfl (fun c => ?_) (fun c => ?_)
    · replace h := h.1 c
      refine st_aload_n (pc := 120) dX9_plan_120 rfl rfl ?_
      refine sg_gfR (pc := 121) (J := 11) dX9_plan_121 fl_9_74 rfl hk1 ?_
      refine sg_gfI (pc := 124) (J := 7) dX9_plan_124 fl_9_318 (by decide) rfl hk2 ?_
      exact st_ireturn (pc := 127) dX9_plan_127 (Or.inl rfl) h
    · replace h := h.2 c
      refine st_aload_n (pc := 100) dX9_plan_100 rfl rfl ?_
      refine st_aload_n (pc := 101) dX9_plan_101 rfl rfl ?_
      refine sg_gfR (pc := 102) (J := 11) dX9_plan_102 fl_9_74 rfl hk1 ?_
      refine sg_gfR (pc := 105) (J := 5) dX9_plan_105 fl_9_315 rfl hk2 ?_
      refine st_iload_n (pc := 108) dX9_plan_108 rfl rfl ?_
      obtain ⟨hk4, h⟩ := h
      obtain ⟨h1, h⟩ := h
      refine sg_iaload (pc := 109) dX9_plan_109 hk4 h1 ?_
      refine st_i2l (pc := 110) dX9_plan_110 ?_
      obtain ⟨mc1, ms1, K1, hC, e1, e2, h⟩ := h
      refine sg_VV (pc := 111) (av := [vl (mD μ (mR μ (mR μ a0 11) 5) a2)]) (st := []) (K := K1) dX9_plan_111 ck_9_297 rfl (by decide) hk1 (by show (0 : Nat) ≤ 8; decide) hC e1 e2 (fun m1 hK => ?_) rfl
      replace h := h m1 hK
      refine sg_iinc (pc := 114) (ls' := [some (vr a0), some (vi a1), some (vi (w32 (a2 + 1)))]) dX9_plan_114 rfl rfl ?_
      refine Wp.nameL (ls2 := fun v => [some (vr a0), some (vi a1), some (vi v)]) 2 _ rfl (fun _ => rfl) (fun v1 ev1 => ?_)
      replace h := h v1 ev1
      refine st_goto (pc := 117) dX9_plan_117 rfl ?_
      exact h

theorem sg_X9_helps_0 {d bc bs : Nat} {a0 : Nat} {a1 : Int} {a2 : Int} {μ : Mem} {Q : Option (Option AV) → Mem → Prop}
    (h : mK μ a0 = 10 ∧ ∃ (mc1 ms1 : Nat) (K1 : Nat → Mem → Prop), Cl d mc1 ms1 mX9_toldLaw [vr a0, vi a2] μ (KR K1) ∧ mc1 ≤ bc ∧ ms1 ≤ bs ∧ (∀ x1 m1, K1 x1 m1 → ∃ (mc2 ms2 : Nat) (K2 : Int → Mem → Prop), Cl d mc2 ms2 mX9_isWalk [vi a1] m1 (KI K2) ∧ mc2 ≤ bc - mc1 ∧ ms2 ≤ bs - ms1 ∧ (∀ x2 m2, K2 x2 m2 → (x2 = 0 → Q (some (some (vi (-1)))) m2) ∧ (¬ x2 = 0 → (¬ x1 = 0 → mK m2 a0 = 10 ∧ ∃ (mc3 ms3 : Nat) (K3 : Nat → Mem → Prop), Cl d mc3 ms3 mX9_asItIs [vr a0] m2 (KR K3) ∧ mc3 ≤ bc - mc1 - mc2 ∧ ms3 ≤ bs - ms1 - ms2 ∧ (∀ x3 m3, K3 x3 m3 → mK m3 x3 = 8 ∧ (∀ m4, m4 = sR m3 x3 1 0 → mK m4 a0 = 10 ∧ (mK m4 (mR m4 a0 5) = 26 ∧ ((0 : Int) ≤ a1 ∧ a1 < (mN m4 (mR m4 a0 5) : Int)) ∧ (mK m4 x3 = 8 ∧ ∃ (mc4 ms4 : Nat) (K4 : Int → Mem → Prop), Cl d mc4 ms4 mX7_spiltOn [vr x3, vr (mR m4 (mR m4 a0 5) a1), vi 1] m4 (KI K4) ∧ mc4 ≤ bc - mc1 - mc2 - mc3 ∧ ms4 ≤ bs - ms1 - ms2 - ms3 ∧ (∀ x4 m5, K4 x4 m5 → Wp (d + 1) (bc - mc1 - mc2 - mc3 - mc4) (bs - ms1 - ms2 - ms3 - ms4) mX9_helps 59 [some (vr a0), some (vi a1), some (vi a2), some (vr x1), some (vr x3), some (vi x4), some (vi 0), some (vi 2147483647), some (vi (-1)), some (vi 0), none, none] [] m5 Q)))))) ∧ (x1 = 0 → Q (some (some (vi (-1)))) m2))))) :
    Wp (d + 1) bc bs mX9_helps 0 [some (vr a0), some (vi a1), some (vi a2), none, none, none, none, none, none, none, none, none] [] μ Q := by
  refine st_aload_n (pc := 0) dX9_helps_0 rfl rfl ?_
  refine st_iload_n (pc := 1) dX9_helps_1 rfl rfl ?_
  obtain ⟨hk1, h⟩ := h
  obtain ⟨mc1, ms1, K1, hC, e1, e2, h⟩ := h
  refine sg_VR (pc := 2) (av := [vi a2]) (st := []) (K := K1) dX9_helps_2 ck_9_208 rfl (by decide) hk1 (by show (0 : Nat) ≤ 8; decide) hC e1 e2 (fun x1 m1 hK => ?_) rfl
  replace h := h x1 m1 hK
  refine sg_astore_n (pc := 5) (ls' := [some (vr a0), some (vi a1), some (vi a2), some (vr x1), none, none, none, none, none, none, none, none]) dX9_helps_5 rfl (by show (3 : Nat) < 12; decide) rfl ?_
  refine st_iload_n (pc := 6) dX9_helps_6 rfl rfl ?_
  obtain ⟨mc2, ms2, K2, hC, e1, e2, h⟩ := h
  refine sg_SI (pc := 7) (av := [vi a1]) (st := []) (K := K2) dX9_helps_7 ck_9_193 rfl (by show (0 : Nat) ≤ 8; decide) hC e1 e2 (fun x2 m2 hK => ?_) rfl
  replace h := h x2 m2 hK
  refine st_ifeq (pc := 10) (tgt := 17) dX9_helps_10 rfl (fun c => ?_) (fun c => ?_)
  · replace h := h.1 c
    refine sg_iconst (pc := 17) dX9_helps_17 (by omega) ?_
    exact st_ireturn (pc := 18) dX9_helps_18 (Or.inl rfl) h
  · replace h := h.2 c
    refine st_aload_n (pc := 13) dX9_helps_13 rfl rfl ?_
    refine st_ifnonnull (pc := 14) (tgt := 19) dX9_helps_14 rfl (fun c => ?_) (fun c => ?_)
    · replace h := h.1 c
      refine st_aload_n (pc := 19) dX9_helps_19 rfl rfl ?_
      obtain ⟨hk2, h⟩ := h
      obtain ⟨mc3, ms3, K3, hC, e1, e2, h⟩ := h
      refine sg_VR (pc := 20) (av := []) (st := []) (K := K3) dX9_helps_20 ck_9_242 rfl (by decide) hk2 (by show (0 : Nat) ≤ 8; decide) hC e1 e2 (fun x3 m3 hK => ?_) rfl
      replace h := h x3 m3 hK
      refine sg_astore (pc := 23) (ls' := [some (vr a0), some (vi a1), some (vi a2), some (vr x1), some (vr x3), none, none, none, none, none, none, none]) dX9_helps_23 (by show (4 : Nat) < 12; decide) rfl ?_
      refine st_aload (pc := 25) dX9_helps_25 rfl ?_
      refine st_null (pc := 27) dX9_helps_27 ?_
      obtain ⟨hk3, h⟩ := h
      refine sg_pfR (pc := 28) (J := 1) dX9_helps_28 fl_9_321 rfl (Or.inl rfl) hk3 ?_
      refine Wp.nameM (fun m4 em4 => ?_)
      replace h := h m4 em4
      refine st_aload (pc := 31) dX9_helps_31 rfl ?_
      refine st_aload_n (pc := 33) dX9_helps_33 rfl rfl ?_
      obtain ⟨hk4, h⟩ := h
      refine sg_gfR (pc := 34) (J := 5) dX9_helps_34 fl_9_40 rfl hk4 ?_
      refine st_iload_n (pc := 37) dX9_helps_37 rfl rfl ?_
      obtain ⟨hk5, h⟩ := h
      obtain ⟨h1, h⟩ := h
      refine st_aaload (pc := 38) (t := 6) dX9_helps_38 hk5 (fun _ => rfl) (by decide) (by decide) h1.1 h1.2 ?_
      refine sg_iconst (pc := 39) dX9_helps_39 (by omega) ?_
      obtain ⟨hk6, h⟩ := h
      obtain ⟨mc4, ms4, K4, hC, e1, e2, h⟩ := h
      refine sg_VI (pc := 40) (av := [vr (mR m4 (mR m4 a0 5) a1), vi 1]) (st := []) (K := K4) dX9_helps_40 ck_9_265 rfl (by decide) hk6 (by show (0 : Nat) ≤ 8; decide) hC e1 e2 (fun x4 m5 hK => ?_) rfl
      replace h := h x4 m5 hK
      refine sg_istore (pc := 43) (ls' := [some (vr a0), some (vi a1), some (vi a2), some (vr x1), some (vr x3), some (vi x4), none, none, none, none, none, none]) dX9_helps_43 (by show (5 : Nat) < 12; decide) rfl ?_
      refine sg_iconst (pc := 45) dX9_helps_45 (by omega) ?_
      refine sg_istore (pc := 46) (ls' := [some (vr a0), some (vi a1), some (vi a2), some (vr x1), some (vr x3), some (vi x4), some (vi 0), none, none, none, none, none]) dX9_helps_46 (by show (6 : Nat) < 12; decide) rfl ?_
      refine st_ldcw (pc := 48) (n := 2147483647) dX9_helps_48 cn_9_326 (by unfold r32; omega) ?_
      refine sg_istore (pc := 51) (ls' := [some (vr a0), some (vi a1), some (vi a2), some (vr x1), some (vr x3), some (vi x4), some (vi 0), some (vi 2147483647), none, none, none, none]) dX9_helps_51 (by show (7 : Nat) < 12; decide) rfl ?_
      refine sg_iconst (pc := 53) dX9_helps_53 (by omega) ?_
      refine sg_istore (pc := 54) (ls' := [some (vr a0), some (vi a1), some (vi a2), some (vr x1), some (vr x3), some (vi x4), some (vi 0), some (vi 2147483647), some (vi (-1)), none, none, none]) dX9_helps_54 (by show (8 : Nat) < 12; decide) rfl ?_
      refine sg_iconst (pc := 56) dX9_helps_56 (by omega) ?_
      refine sg_istore (pc := 57) (ls' := [some (vr a0), some (vi a1), some (vi a2), some (vr x1), some (vr x3), some (vi x4), some (vi 0), some (vi 2147483647), some (vi (-1)), some (vi 0), none, none]) dX9_helps_57 (by show (9 : Nat) < 12; decide) rfl ?_
      exact h
    · replace h := h.2 c
      refine sg_iconst (pc := 17) dX9_helps_17 (by omega) ?_
      exact st_ireturn (pc := 18) dX9_helps_18 (Or.inl rfl) h

theorem sg_X9_helps_59 {d bc bs : Nat} {a0 : Nat} {a1 : Int} {a2 : Int} {a3 : Nat} {a4 : Nat} {a5 : Int} {a6 : Int} {a7 : Int} {a8 : Int} {a9 : Int} {μ : Mem} {Q : Option (Option AV) → Mem → Prop}
    (h : (20 < a9 → mK μ a0 = 10 ∧ ∃ (mc1 ms1 : Nat) (K1 : Mem → Prop), Cl d mc1 ms1 mX9_tell__ [vr a0, vl a5, vl a7, vl a8] μ (KV K1) ∧ mc1 ≤ bc ∧ ms1 ≤ bs ∧ (∀ m1, K1 m1 → Q (some (some (vi a6))) m1)) ∧ (¬ 20 < a9 → mK μ a0 = 10 ∧ ∃ (mc2 ms2 : Nat) (K2 : Nat → Mem → Prop), Cl d mc2 ms2 mX9_asItIs [vr a0] μ (KR K2) ∧ mc2 ≤ bc ∧ ms2 ≤ bs ∧ (∀ x1 m2, K2 x1 m2 → mK m2 x1 = 8 ∧ (∀ m3, m3 = sR m2 x1 1 a3 → mK m3 x1 = 8 ∧ (mK m3 (mR m3 x1 0) = 1 ∧ (mK m3 (mR m3 (mR m3 x1 0) 3) = 20 ∧ ((0 : Int) ≤ 5 ∧ 5 < (mN m3 (mR m3 (mR m3 x1 0) 3) : Int)) ∧ (∀ m4, m4 = sD m3 (mR m3 (mR m3 x1 0) 3) 5 a9 → mK m4 a0 = 10 ∧ (mK m4 (mR m4 a0 5) = 26 ∧ ((0 : Int) ≤ a1 ∧ a1 < (mN m4 (mR m4 a0 5) : Int)) ∧ (∃ (mc3 ms3 : Nat) (K3 : Int → Mem → Prop), Cl d mc3 ms3 mX7_spiltOn [vr x1, vr (mR m4 (mR m4 a0 5) a1), vi 1] m4 (KI K3) ∧ mc3 ≤ bc - mc2 ∧ ms3 ≤ bs - ms2 ∧ (∀ x2 m5, K3 x2 m5 → (a5 ≤ x2 → Wp (d + 1) (bc - mc2 - mc3) (bs - ms2 - ms3) mX9_helps 120 [some (vr a0), some (vi a1), some (vi a2), some (vr a3), some (vr a4), some (vi a5), some (vi a6), some (vi a7), some (vi a8), some (vi a9), some (vr x1), some (vi x2)] [] m5 Q) ∧ (¬ a5 ≤ x2 → ∀ v1, v1 = bOr a6 (bShl 1 a9) → Wp (d + 1) (bc - mc2 - mc3) (bs - ms2 - ms3) mX9_helps 120 [some (vr a0), some (vi a1), some (vi a2), some (vr a3), some (vr a4), some (vi a5), some (vi v1), some (vi a7), some (vi a8), some (vi a9), some (vr x1), some (vi x2)] [] m5 Q))))))))))) :
    Wp (d + 1) bc bs mX9_helps 59 [some (vr a0), some (vi a1), some (vi a2), some (vr a3), some (vr a4), some (vi a5), some (vi a6), some (vi a7), some (vi a8), some (vi a9), none, none] [] μ Q := by
  refine st_iload (pc := 59) dX9_helps_59 rfl ?_
  refine sg_bipush (pc := 61) dX9_helps_61 (by omega) (by decide) ?_
  refine st_icmpgt (pc := 63) (tgt := 141) dX9_helps_63 rfl (fun c => ?_) (fun c => ?_)
  · replace h := h.1 c
    refine st_aload_n (pc := 141) dX9_helps_141 rfl rfl ?_
    refine st_iload (pc := 142) dX9_helps_142 rfl ?_
    refine st_i2l (pc := 144) dX9_helps_144 ?_
    refine st_iload (pc := 145) dX9_helps_145 rfl ?_
    refine st_i2l (pc := 147) dX9_helps_147 ?_
    refine st_iload (pc := 148) dX9_helps_148 rfl ?_
    refine st_i2l (pc := 150) dX9_helps_150 ?_
    obtain ⟨hk1, h⟩ := h
    obtain ⟨mc1, ms1, K1, hC, e1, e2, h⟩ := h
    refine sg_VV (pc := 151) (av := [vl a5, vl a7, vl a8]) (st := []) (K := K1) dX9_helps_151 ck_9_226 rfl (by decide) hk1 (by show (0 : Nat) ≤ 8; decide) hC e1 e2 (fun m1 hK => ?_) rfl
    replace h := h m1 hK
    refine st_iload (pc := 154) dX9_helps_154 rfl ?_
    exact st_ireturn (pc := 156) dX9_helps_156 (Or.inl rfl) h
  · replace h := h.2 c
    refine st_aload_n (pc := 66) dX9_helps_66 rfl rfl ?_
    obtain ⟨hk2, h⟩ := h
    obtain ⟨mc2, ms2, K2, hC, e1, e2, h⟩ := h
    refine sg_VR (pc := 67) (av := []) (st := []) (K := K2) dX9_helps_67 ck_9_242 rfl (by decide) hk2 (by show (0 : Nat) ≤ 8; decide) hC e1 e2 (fun x1 m2 hK => ?_) rfl
    replace h := h x1 m2 hK
    refine sg_astore (pc := 70) (ls' := [some (vr a0), some (vi a1), some (vi a2), some (vr a3), some (vr a4), some (vi a5), some (vi a6), some (vi a7), some (vi a8), some (vi a9), some (vr x1), none]) dX9_helps_70 (by show (10 : Nat) < 12; decide) rfl ?_
    refine st_aload (pc := 72) dX9_helps_72 rfl ?_
    refine st_aload_n (pc := 74) dX9_helps_74 rfl rfl ?_
    obtain ⟨hk3, h⟩ := h
    refine sg_pfR (pc := 75) (J := 1) dX9_helps_75 fl_9_321 rfl (Or.inl rfl) hk3 ?_
    refine Wp.nameM (fun m3 em3 => ?_)
    replace h := h m3 em3
    refine st_aload (pc := 78) dX9_helps_78 rfl ?_
    obtain ⟨hk4, h⟩ := h
    refine sg_gfR (pc := 80) (J := 0) dX9_helps_80 fl_9_264 rfl hk4 ?_
    obtain ⟨hk5, h⟩ := h
    refine sg_gfR (pc := 83) (J := 3) dX9_helps_83 fl_9_124 rfl hk5 ?_
    refine sg_iconst (pc := 86) dX9_helps_86 (by omega) ?_
    refine st_iload (pc := 87) dX9_helps_87 rfl ?_
    obtain ⟨hk6, h⟩ := h
    obtain ⟨h1, h⟩ := h
    refine st_iastore (pc := 89) dX9_helps_89 hk6 h1.1 h1.2 ?_
    refine Wp.nameM (fun m4 em4 => ?_)
    replace h := h m4 em4
    refine st_aload (pc := 90) dX9_helps_90 rfl ?_
    refine st_aload_n (pc := 92) dX9_helps_92 rfl rfl ?_
    obtain ⟨hk7, h⟩ := h
    refine sg_gfR (pc := 93) (J := 5) dX9_helps_93 fl_9_40 rfl hk7 ?_
    refine st_iload_n (pc := 96) dX9_helps_96 rfl rfl ?_
    obtain ⟨hk8, h⟩ := h
    obtain ⟨h1, h⟩ := h
    refine st_aaload (pc := 97) (t := 6) dX9_helps_97 hk8 (fun _ => rfl) (by decide) (by decide) h1.1 h1.2 ?_
    refine sg_iconst (pc := 98) dX9_helps_98 (by omega) ?_
    obtain ⟨mc3, ms3, K3, hC, e1, e2, h⟩ := h
    refine sg_VI (pc := 99) (av := [vr (mR m4 (mR m4 a0 5) a1), vi 1]) (st := []) (K := K3) dX9_helps_99 ck_9_265 rfl (by decide) (by cases em4; exact hk4) (by show (0 : Nat) ≤ 8; decide) hC e1 e2 (fun x2 m5 hK => ?_) rfl
    replace h := h x2 m5 hK
    refine sg_istore (pc := 102) (ls' := [some (vr a0), some (vi a1), some (vi a2), some (vr a3), some (vr a4), some (vi a5), some (vi a6), some (vi a7), some (vi a8), some (vi a9), some (vr x1), some (vi x2)]) dX9_helps_102 (by show (11 : Nat) < 12; decide) rfl ?_
    refine st_iload (pc := 104) dX9_helps_104 rfl ?_
    refine st_iload (pc := 106) dX9_helps_106 rfl ?_
    refine st_icmpge (pc := 108) (tgt := 120) dX9_helps_108 rfl (fun c => ?_) (fun c => ?_)
    · replace h := h.1 c
      exact h
    · replace h := h.2 c
      refine st_iload (pc := 111) dX9_helps_111 rfl ?_
      refine sg_iconst (pc := 113) dX9_helps_113 (by omega) ?_
      refine st_iload (pc := 114) dX9_helps_114 rfl ?_
      refine st_ishl (pc := 116) dX9_helps_116 ?_
      refine st_ior (pc := 117) dX9_helps_117 ?_
      refine sg_istore (pc := 118) (ls' := [some (vr a0), some (vi a1), some (vi a2), some (vr a3), some (vr a4), some (vi a5), some (vi (bOr a6 (bShl 1 a9))), some (vi a7), some (vi a8), some (vi a9), some (vr x1), some (vi x2)]) dX9_helps_118 (by show (6 : Nat) < 12; decide) rfl ?_
      refine Wp.nameL (ls2 := fun v => [some (vr a0), some (vi a1), some (vi a2), some (vr a3), some (vr a4), some (vi a5), some (vi v), some (vi a7), some (vi a8), some (vi a9), some (vr x1), some (vi x2)]) 6 _ rfl (fun _ => rfl) (fun v1 ev1 => ?_)
      replace h := h v1 ev1
      exact h

theorem sg_X9_helps_120 {d bc bs : Nat} {a0 : Nat} {a1 : Int} {a2 : Int} {a3 : Nat} {a4 : Nat} {a5 : Int} {a6 : Int} {a7 : Int} {a8 : Int} {a9 : Int} {a10 : Nat} {a11 : Int} {μ : Mem} {Q : Option (Option AV) → Mem → Prop}
    (h : (a7 ≤ a11 → ∀ v1, v1 = w32 (a9 + 1) → Wp (d + 1) bc bs mX9_helps 59 [some (vr a0), some (vi a1), some (vi a2), some (vr a3), some (vr a4), some (vi a5), some (vi a6), some (vi a7), some (vi a8), some (vi v1), none, none] [] μ Q) ∧ (¬ a7 ≤ a11 → ∀ v2, v2 = w32 (a9 + 1) → Wp (d + 1) bc bs mX9_helps 59 [some (vr a0), some (vi a1), some (vi a2), some (vr a3), some (vr a4), some (vi a5), some (vi a6), some (vi a11), some (vi a9), some (vi v2), none, none] [] μ Q)) :
    Wp (d + 1) bc bs mX9_helps 120 [some (vr a0), some (vi a1), some (vi a2), some (vr a3), some (vr a4), some (vi a5), some (vi a6), some (vi a7), some (vi a8), some (vi a9), some (vr a10), some (vi a11)] [] μ Q := by
  refine st_iload (pc := 120) dX9_helps_120 rfl ?_
  refine st_iload (pc := 122) dX9_helps_122 rfl ?_
  refine st_icmpge (pc := 124) (tgt := 135) dX9_helps_124 rfl (fun c => ?_) (fun c => ?_)
  · replace h := h.1 c
    refine sg_iinc (pc := 135) (ls' := [some (vr a0), some (vi a1), some (vi a2), some (vr a3), some (vr a4), some (vi a5), some (vi a6), some (vi a7), some (vi a8), some (vi (w32 (a9 + 1))), some (vr a10), some (vi a11)]) dX9_helps_135 rfl rfl ?_
    refine Wp.nameL (ls2 := fun v => [some (vr a0), some (vi a1), some (vi a2), some (vr a3), some (vr a4), some (vi a5), some (vi a6), some (vi a7), some (vi a8), some (vi v), some (vr a10), some (vi a11)]) 9 _ rfl (fun _ => rfl) (fun v1 ev1 => ?_)
    replace h := h v1 ev1
    refine st_goto (pc := 138) dX9_helps_138 rfl ?_
    refine Wp.drop 10 rfl ?_
    refine Wp.drop 11 rfl ?_
    exact h
  · replace h := h.2 c
    refine st_iload (pc := 127) dX9_helps_127 rfl ?_
    refine sg_istore (pc := 129) (ls' := [some (vr a0), some (vi a1), some (vi a2), some (vr a3), some (vr a4), some (vi a5), some (vi a6), some (vi a11), some (vi a8), some (vi a9), some (vr a10), some (vi a11)]) dX9_helps_129 (by show (7 : Nat) < 12; decide) rfl ?_
    refine st_iload (pc := 131) dX9_helps_131 rfl ?_
    refine sg_istore (pc := 133) (ls' := [some (vr a0), some (vi a1), some (vi a2), some (vr a3), some (vr a4), some (vi a5), some (vi a6), some (vi a11), some (vi a9), some (vi a9), some (vr a10), some (vi a11)]) dX9_helps_133 (by show (8 : Nat) < 12; decide) rfl ?_
    refine sg_iinc (pc := 135) (ls' := [some (vr a0), some (vi a1), some (vi a2), some (vr a3), some (vr a4), some (vi a5), some (vi a6), some (vi a11), some (vi a9), some (vi (w32 (a9 + 1))), some (vr a10), some (vi a11)]) dX9_helps_135 rfl rfl ?_
    refine Wp.nameL (ls2 := fun v => [some (vr a0), some (vi a1), some (vi a2), some (vr a3), some (vr a4), some (vi a5), some (vi a6), some (vi a11), some (vi a9), some (vi v), some (vr a10), some (vi a11)]) 9 _ rfl (fun _ => rfl) (fun v2 ev2 => ?_)
    replace h := h v2 ev2
    refine st_goto (pc := 138) dX9_helps_138 rfl ?_
    refine Wp.drop 10 rfl ?_
    refine Wp.drop 11 rfl ?_
    exact h

theorem sg_X9_layers_0 {d bc bs : Nat} {a0 : Nat} {a1 : Int} {μ : Mem} {Q : Option (Option AV) → Mem → Prop}
    (h : ∃ (mc1 ms1 : Nat) (K1 : Int → Mem → Prop), Cl d mc1 ms1 mX9_isWalk [vi a1] μ (KI K1) ∧ mc1 ≤ bc ∧ ms1 ≤ bs ∧ (∀ x1 m1, K1 x1 m1 → (¬ x1 = 0 → Wp (d + 1) (bc - mc1) (bs - ms1) mX9_layers 11 [some (vr a0), some (vi a1), some (vi 0), none] [] m1 Q) ∧ (x1 = 0 → Q (some (some (vi (-1)))) m1))) :
    Wp (d + 1) bc bs mX9_layers 0 [some (vr a0), some (vi a1), none, none] [] μ Q := by
  refine st_iload_n (pc := 0) dX9_layers_0 rfl rfl ?_
  obtain ⟨mc1, ms1, K1, hC, e1, e2, h⟩ := h
  refine sg_SI (pc := 1) (av := [vi a1]) (st := []) (K := K1) dX9_layers_1 ck_9_193 rfl (by show (0 : Nat) ≤ 8; decide) hC e1 e2 (fun x1 m1 hK => ?_) rfl
  replace h := h x1 m1 hK
  refine st_ifne (pc := 4) (tgt := 9) dX9_layers_4 rfl (fun c => ?_) (fun c => ?_)
  · replace h := h.1 c
    refine sg_iconst (pc := 9) dX9_layers_9 (by omega) ?_
    refine sg_istore_n (pc := 10) (ls' := [some (vr a0), some (vi a1), some (vi 0), none]) dX9_layers_10 rfl (by show (2 : Nat) < 4; decide) rfl ?_
    exact h
  · replace h := h.2 c
    refine sg_iconst (pc := 7) dX9_layers_7 (by omega) ?_
    exact st_ireturn (pc := 8) dX9_layers_8 (Or.inl rfl) h

theorem sg_X9_layers_11 {d bc bs : Nat} {a0 : Nat} {a1 : Int} {a2 : Int} {μ : Mem} {Q : Option (Option AV) → Mem → Prop}
    (h : (9 < a2 → Q (some (some (vi (-2)))) μ) ∧ (¬ 9 < a2 → mK μ a0 = 10 ∧ ∃ (mc1 ms1 : Nat) (K1 : Nat → Mem → Prop), Cl d mc1 ms1 mX9_asItIs [vr a0] μ (KR K1) ∧ mc1 ≤ bc ∧ ms1 ≤ bs ∧ (∀ x1 m1, K1 x1 m1 → mK m1 x1 = 8 ∧ (mK m1 (mR m1 x1 0) = 1 ∧ (mK m1 (mR m1 (mR m1 x1 0) 3) = 20 ∧ ((0 : Int) ≤ 2 ∧ 2 < (mN m1 (mR m1 (mR m1 x1 0) 3) : Int)) ∧ (∀ m2, m2 = sD m1 (mR m1 (mR m1 x1 0) 3) 2 a2 → mK m2 a0 = 10 ∧ (mK m2 (mR m2 a0 5) = 26 ∧ ((0 : Int) ≤ a1 ∧ a1 < (mN m2 (mR m2 a0 5) : Int)) ∧ (∃ (mc2 ms2 : Nat) (K2 : Int → Mem → Prop), Cl d mc2 ms2 mX7_keepsAll [vr x1, vr (mR m2 (mR m2 a0 5) a1)] m2 (KI K2) ∧ mc2 ≤ bc - mc1 ∧ ms2 ≤ bs - ms1 ∧ (∀ x2 m3, K2 x2 m3 → (x2 = 0 → ∀ v1, v1 = w32 (a2 + 1) → Wp (d + 1) (bc - mc1 - mc2) (bs - ms1 - ms2) mX9_layers 11 [some (vr a0), some (vi a1), some (vi v1), none] [] m3 Q) ∧ (¬ x2 = 0 → Q (some (some (vi a2))) m3)))))))))) :
    Wp (d + 1) bc bs mX9_layers 11 [some (vr a0), some (vi a1), some (vi a2), none] [] μ Q := by
  refine st_iload_n (pc := 11) dX9_layers_11 rfl rfl ?_
  refine sg_bipush (pc := 12) dX9_layers_12 (by omega) (by decide) ?_
  refine st_icmpgt (pc := 14) (tgt := 53) dX9_layers_14 rfl (fun c => ?_) (fun c => ?_)
  · replace h := h.1 c
    refine sg_bipush (pc := 53) dX9_layers_53 (by omega) (by decide) ?_
    exact st_ireturn (pc := 55) dX9_layers_55 (Or.inl rfl) h
  · replace h := h.2 c
    refine st_aload_n (pc := 17) dX9_layers_17 rfl rfl ?_
    obtain ⟨hk1, h⟩ := h
    obtain ⟨mc1, ms1, K1, hC, e1, e2, h⟩ := h
    refine sg_VR (pc := 18) (av := []) (st := []) (K := K1) dX9_layers_18 ck_9_242 rfl (by decide) hk1 (by show (0 : Nat) ≤ 8; decide) hC e1 e2 (fun x1 m1 hK => ?_) rfl
    replace h := h x1 m1 hK
    refine sg_astore_n (pc := 21) (ls' := [some (vr a0), some (vi a1), some (vi a2), some (vr x1)]) dX9_layers_21 rfl (by show (3 : Nat) < 4; decide) rfl ?_
    refine st_aload_n (pc := 22) dX9_layers_22 rfl rfl ?_
    obtain ⟨hk2, h⟩ := h
    refine sg_gfR (pc := 23) (J := 0) dX9_layers_23 fl_9_264 rfl hk2 ?_
    obtain ⟨hk3, h⟩ := h
    refine sg_gfR (pc := 26) (J := 3) dX9_layers_26 fl_9_124 rfl hk3 ?_
    refine sg_iconst (pc := 29) dX9_layers_29 (by omega) ?_
    refine st_iload_n (pc := 30) dX9_layers_30 rfl rfl ?_
    obtain ⟨hk4, h⟩ := h
    obtain ⟨h1, h⟩ := h
    refine st_iastore (pc := 31) dX9_layers_31 hk4 h1.1 h1.2 ?_
    refine Wp.nameM (fun m2 em2 => ?_)
    replace h := h m2 em2
    refine st_aload_n (pc := 32) dX9_layers_32 rfl rfl ?_
    refine st_aload_n (pc := 33) dX9_layers_33 rfl rfl ?_
    obtain ⟨hk5, h⟩ := h
    refine sg_gfR (pc := 34) (J := 5) dX9_layers_34 fl_9_40 rfl hk5 ?_
    refine st_iload_n (pc := 37) dX9_layers_37 rfl rfl ?_
    obtain ⟨hk6, h⟩ := h
    obtain ⟨h1, h⟩ := h
    refine st_aaload (pc := 38) (t := 6) dX9_layers_38 hk6 (fun _ => rfl) (by decide) (by decide) h1.1 h1.2 ?_
    obtain ⟨mc2, ms2, K2, hC, e1, e2, h⟩ := h
    refine sg_VI (pc := 39) (av := [vr (mR m2 (mR m2 a0 5) a1)]) (st := []) (K := K2) dX9_layers_39 ck_9_300 rfl (by decide) (by cases em2; exact hk2) (by show (0 : Nat) ≤ 8; decide) hC e1 e2 (fun x2 m3 hK => ?_) rfl
    replace h := h x2 m3 hK
    refine st_ifeq (pc := 42) (tgt := 47) dX9_layers_42 rfl (fun c => ?_) (fun c => ?_)
    · replace h := h.1 c
      refine sg_iinc (pc := 47) (ls' := [some (vr a0), some (vi a1), some (vi (w32 (a2 + 1))), some (vr x1)]) dX9_layers_47 rfl rfl ?_
      refine Wp.nameL (ls2 := fun v => [some (vr a0), some (vi a1), some (vi v), some (vr x1)]) 2 _ rfl (fun _ => rfl) (fun v1 ev1 => ?_)
      replace h := h v1 ev1
      refine st_goto (pc := 50) dX9_layers_50 rfl ?_
      refine Wp.drop 3 rfl ?_
      exact h
    · replace h := h.2 c
      refine st_iload_n (pc := 45) dX9_layers_45 rfl rfl ?_
      exact st_ireturn (pc := 46) dX9_layers_46 (Or.inl rfl) h

theorem sg_X9_lateSlope_0 {d bc bs : Nat} {a0 : Nat} {a1 : Int} {a2 : Int} {a3 : Int} {μ : Mem} {Q : Option (Option AV) → Mem → Prop}
    (h : mK μ a0 = 10 ∧ ∃ (mc1 ms1 : Nat) (K1 : Nat → Mem → Prop), Cl d mc1 ms1 mX9_asItIs [vr a0] μ (KR K1) ∧ mc1 ≤ bc ∧ ms1 ≤ bs ∧ (∀ x1 m1, K1 x1 m1 → mK m1 x1 = 8 ∧ (mK m1 (mR m1 x1 0) = 1 ∧ (mK m1 (mR m1 (mR m1 x1 0) 3) = 20 ∧ ((0 : Int) ≤ 2 ∧ 2 < (mN m1 (mR m1 (mR m1 x1 0) 3) : Int)) ∧ (∀ m2, m2 = sD m1 (mR m1 (mR m1 x1 0) 3) 2 a3 → ∃ (mc2 ms2 : Nat) (K2 : Nat → Mem → Prop), Cl d mc2 ms2 mX7_letGo [vr x1, vi a1, vi a2] m2 (KR K2) ∧ mc2 ≤ bc - mc1 ∧ ms2 ≤ bs - ms1 ∧ (∀ x2 m3, K2 x2 m3 → ∃ (mc3 ms3 : Nat) (K3 : Int → Mem → Prop), Cl d mc3 ms3 mJ9_max_7cf53 [vi 1, vi (w32 (a2.tdiv 2))] m3 (KI K3) ∧ mc3 ≤ bc - mc1 - mc2 ∧ ms3 ≤ bs - ms1 - ms2 ∧ (∀ x3 m4, K3 x3 m4 → Wp (d + 1) (bc - mc1 - mc2 - mc3) (bs - ms1 - ms2 - ms3) mX9_lateSlope 38 [some (vr a0), some (vi a1), some (vi a2), some (vi a3), some (vr x1), some (vr x2), some (vi 0), some (vi x3)] [] m4 Q))))))) :
    Wp (d + 1) bc bs mX9_lateSlope 0 [some (vr a0), some (vi a1), some (vi a2), some (vi a3), none, none, none, none] [] μ Q := by
  refine st_aload_n (pc := 0) dX9_lateSlope_0 rfl rfl ?_
  obtain ⟨hk1, h⟩ := h
  obtain ⟨mc1, ms1, K1, hC, e1, e2, h⟩ := h
  refine sg_VR (pc := 1) (av := []) (st := []) (K := K1) dX9_lateSlope_1 ck_9_242 rfl (by decide) hk1 (by show (0 : Nat) ≤ 8; decide) hC e1 e2 (fun x1 m1 hK => ?_) rfl
  replace h := h x1 m1 hK
  refine sg_astore (pc := 4) (ls' := [some (vr a0), some (vi a1), some (vi a2), some (vi a3), some (vr x1), none, none, none]) dX9_lateSlope_4 (by show (4 : Nat) < 8; decide) rfl ?_
  refine st_aload (pc := 6) dX9_lateSlope_6 rfl ?_
  obtain ⟨hk2, h⟩ := h
  refine sg_gfR (pc := 8) (J := 0) dX9_lateSlope_8 fl_9_264 rfl hk2 ?_
  obtain ⟨hk3, h⟩ := h
  refine sg_gfR (pc := 11) (J := 3) dX9_lateSlope_11 fl_9_124 rfl hk3 ?_
  refine sg_iconst (pc := 14) dX9_lateSlope_14 (by omega) ?_
  refine st_iload_n (pc := 15) dX9_lateSlope_15 rfl rfl ?_
  obtain ⟨hk4, h⟩ := h
  obtain ⟨h1, h⟩ := h
  refine st_iastore (pc := 16) dX9_lateSlope_16 hk4 h1.1 h1.2 ?_
  refine Wp.nameM (fun m2 em2 => ?_)
  replace h := h m2 em2
  refine st_aload (pc := 17) dX9_lateSlope_17 rfl ?_
  refine st_iload_n (pc := 19) dX9_lateSlope_19 rfl rfl ?_
  refine st_iload_n (pc := 20) dX9_lateSlope_20 rfl rfl ?_
  obtain ⟨mc2, ms2, K2, hC, e1, e2, h⟩ := h
  refine sg_VR (pc := 21) (av := [vi a1, vi a2]) (st := []) (K := K2) dX9_lateSlope_21 ck_9_246 rfl (by decide) (by cases em2; exact hk2) (by show (0 : Nat) ≤ 8; decide) hC e1 e2 (fun x2 m3 hK => ?_) rfl
  replace h := h x2 m3 hK
  refine sg_astore (pc := 24) (ls' := [some (vr a0), some (vi a1), some (vi a2), some (vi a3), some (vr x1), some (vr x2), none, none]) dX9_lateSlope_24 (by show (5 : Nat) < 8; decide) rfl ?_
  refine sg_iconst (pc := 26) dX9_lateSlope_26 (by omega) ?_
  refine sg_istore (pc := 27) (ls' := [some (vr a0), some (vi a1), some (vi a2), some (vi a3), some (vr x1), some (vr x2), some (vi 0), none]) dX9_lateSlope_27 (by show (6 : Nat) < 8; decide) rfl ?_
  refine sg_iconst (pc := 29) dX9_lateSlope_29 (by omega) ?_
  refine st_iload_n (pc := 30) dX9_lateSlope_30 rfl rfl ?_
  refine sg_iconst (pc := 31) dX9_lateSlope_31 (by omega) ?_
  refine st_idiv (pc := 32) dX9_lateSlope_32 (by omega) ?_
  obtain ⟨mc3, ms3, K3, hC, e1, e2, h⟩ := h
  refine sg_SI (pc := 33) (av := [vi 1, vi (w32 (a2.tdiv 2))]) (st := []) (K := K3) dX9_lateSlope_33 ck_9_350 rfl (by show (0 : Nat) ≤ 8; decide) hC e1 e2 (fun x3 m4 hK => ?_) rfl
  replace h := h x3 m4 hK
  refine sg_istore (pc := 36) (ls' := [some (vr a0), some (vi a1), some (vi a2), some (vi a3), some (vr x1), some (vr x2), some (vi 0), some (vi x3)]) dX9_lateSlope_36 (by show (7 : Nat) < 8; decide) rfl ?_
  exact h

theorem sg_X9_lateSlope_38 {d bc bs : Nat} {a0 : Nat} {a1 : Int} {a2 : Int} {a3 : Int} {a4 : Nat} {a5 : Nat} {a6 : Int} {a7 : Int} {μ : Mem} {Q : Option (Option AV) → Mem → Prop}
    (h : (a2 < a7 → Q (some (some (vi a6))) μ) ∧ (¬ a2 < a7 → ((20 ≤ mK μ a5 ∧ mK μ a5 ≤ 28) ∨ (a5 ≠ 0 ∧ mK μ a5 = 40)) ∧ (((mN μ a5 : Int) ≤ a7 → Q (some (some (vi a6))) μ) ∧ (¬ (mN μ a5 : Int) ≤ a7 → (mK μ a5 = 20 ∨ (a5 ≠ 0 ∧ mK μ a5 = 40)) ∧ ((0 : Int) ≤ a7 ∧ a7 < (mN μ a5 : Int)) ∧ (∃ (mc1 ms1 : Nat) (K1 : Int → Mem → Prop), Cl d mc1 ms1 mJ9_abs_0f7a4 [vi (mD μ a5 a7)] μ (KI K1) ∧ mc1 ≤ bc ∧ ms1 ≤ bs ∧ (∀ x1 m1, K1 x1 m1 → ∃ (mc2 ms2 : Nat) (K2 : Int → Mem → Prop), Cl d mc2 ms2 mJ9_max_7cf53 [vi a6, vi x1] m1 (KI K2) ∧ mc2 ≤ bc - mc1 ∧ ms2 ≤ bs - ms1 ∧ (∀ x2 m2, K2 x2 m2 → ∀ v1, v1 = w32 (a7 + 1) → Wp (d + 1) (bc - mc1 - mc2) (bs - ms1 - ms2) mX9_lateSlope 38 [some (vr a0), some (vi a1), some (vi a2), some (vi a3), some (vr a4), some (vr a5), some (vi x2), some (vi v1)] [] m2 Q))))))) :
    Wp (d + 1) bc bs mX9_lateSlope 38 [some (vr a0), some (vi a1), some (vi a2), some (vi a3), some (vr a4), some (vr a5), some (vi a6), some (vi a7)] [] μ Q := by
  refine st_iload (pc := 38) dX9_lateSlope_38 rfl ?_
  refine st_iload_n (pc := 40) dX9_lateSlope_40 rfl rfl ?_
  refine st_icmpgt (pc := 41) (tgt := 73) dX9_lateSlope_41 rfl (fun c => ?_) (fun c => ?_)
  · replace h := h.1 c
    refine st_iload (pc := 73) dX9_lateSlope_73 rfl ?_
    exact st_ireturn (pc := 75) dX9_lateSlope_75 (Or.inl rfl) h
  · replace h := h.2 c
    refine st_iload (pc := 44) dX9_lateSlope_44 rfl ?_
    refine st_aload (pc := 46) dX9_lateSlope_46 rfl ?_
    obtain ⟨hk1, h⟩ := h
    refine sg_alen (pc := 48) dX9_lateSlope_48 hk1 ?_
    refine st_icmpge (pc := 49) (tgt := 73) dX9_lateSlope_49 rfl (fun c => ?_) (fun c => ?_)
    · replace h := h.1 c
      refine st_iload (pc := 73) dX9_lateSlope_73 rfl ?_
      exact st_ireturn (pc := 75) dX9_lateSlope_75 (Or.inl rfl) h
    · replace h := h.2 c
      refine st_iload (pc := 52) dX9_lateSlope_52 rfl ?_
      refine st_aload (pc := 54) dX9_lateSlope_54 rfl ?_
      refine st_iload (pc := 56) dX9_lateSlope_56 rfl ?_
      obtain ⟨hk2, h⟩ := h
      obtain ⟨h1, h⟩ := h
      refine sg_iaload (pc := 58) dX9_lateSlope_58 hk2 h1 ?_
      obtain ⟨mc1, ms1, K1, hC, e1, e2, h⟩ := h
      refine sg_SI (pc := 59) (av := [vi (mD μ a5 a7)]) (st := [vi a6]) (K := K1) dX9_lateSlope_59 ck_9_253 rfl (by show (1 : Nat) ≤ 8; decide) hC e1 e2 (fun x1 m1 hK => ?_) rfl
      replace h := h x1 m1 hK
      obtain ⟨mc2, ms2, K2, hC, e1, e2, h⟩ := h
      refine sg_SI (pc := 62) (av := [vi a6, vi x1]) (st := []) (K := K2) dX9_lateSlope_62 ck_9_350 rfl (by show (0 : Nat) ≤ 8; decide) hC e1 e2 (fun x2 m2 hK => ?_) rfl
      replace h := h x2 m2 hK
      refine sg_istore (pc := 65) (ls' := [some (vr a0), some (vi a1), some (vi a2), some (vi a3), some (vr a4), some (vr a5), some (vi x2), some (vi a7)]) dX9_lateSlope_65 (by show (6 : Nat) < 8; decide) rfl ?_
      refine sg_iinc (pc := 67) (ls' := [some (vr a0), some (vi a1), some (vi a2), some (vi a3), some (vr a4), some (vr a5), some (vi x2), some (vi (w32 (a7 + 1)))]) dX9_lateSlope_67 rfl rfl ?_
      refine Wp.nameL (ls2 := fun v => [some (vr a0), some (vi a1), some (vi a2), some (vi a3), some (vr a4), some (vr a5), some (vi x2), some (vi v)]) 7 _ rfl (fun _ => rfl) (fun v1 ev1 => ?_)
      replace h := h v1 ev1
      refine st_goto (pc := 70) dX9_lateSlope_70 rfl ?_
      exact h

theorem sg_X9_off_0 {d bc bs : Nat} {a0 : Nat} {a1 : Int} {a2 : Int} {a3 : Int} {μ : Mem} {Q : Option (Option AV) → Mem → Prop}
    (h : ∃ (mc1 ms1 : Nat) (K1 : Int → Mem → Prop), Cl d mc1 ms1 mX9_isIn [vi a1, vi 1, vi 500] μ (KI K1) ∧ mc1 ≤ bc ∧ ms1 ≤ bs ∧ (∀ x1 m1, K1 x1 m1 → (x1 = 0 → Q (some (some (vi (-1)))) m1) ∧ (¬ x1 = 0 → ∃ (mc2 ms2 : Nat) (K2 : Int → Mem → Prop), Cl d mc2 ms2 mX9_isIn [vi a2, vi 1, vi 400] m1 (KI K2) ∧ mc2 ≤ bc - mc1 ∧ ms2 ≤ bs - ms1 ∧ (∀ x2 m2, K2 x2 m2 → (x2 = 0 → Q (some (some (vi (-1)))) m2) ∧ (¬ x2 = 0 → ∃ (mc3 ms3 : Nat) (K3 : Int → Mem → Prop), Cl d mc3 ms3 mX9_isIn [vi a3, vi 0, vi 9] m2 (KI K3) ∧ mc3 ≤ bc - mc1 - mc2 ∧ ms3 ≤ bs - ms1 - ms2 ∧ (∀ x3 m3, K3 x3 m3 → (¬ x3 = 0 → mK m3 a0 = 10 ∧ ∃ (mc4 ms4 : Nat) (K4 : Int → Mem → Prop), Cl d mc4 ms4 mX9_lateSlope [vr a0, vi a1, vi a2, vi a3] m3 (KI K4) ∧ mc4 ≤ bc - mc1 - mc2 - mc3 ∧ ms4 ≤ bs - ms1 - ms2 - ms3 ∧ (∀ x4 m4, K4 x4 m4 → mK m4 a0 = 10 ∧ ∃ (mc5 ms5 : Nat) (K5 : Int → Mem → Prop), Cl d mc5 ms5 mX9_lateSlope [vr a0, vi a1, vi a2, vi 0] m4 (KI K5) ∧ mc5 ≤ bc - mc1 - mc2 - mc3 - mc4 ∧ ms5 ≤ bs - ms1 - ms2 - ms3 - ms4 ∧ (∀ x5 m5, K5 x5 m5 → mK m5 a0 = 10 ∧ ∃ (mc6 ms6 : Nat) (K6 : Mem → Prop), Cl d mc6 ms6 mX9_tell_ [vr a0, vl x4, vl x5] m5 (KV K6) ∧ mc6 ≤ bc - mc1 - mc2 - mc3 - mc4 - mc5 ∧ ms6 ≤ bs - ms1 - ms2 - ms3 - ms4 - ms5 ∧ (∀ m6, K6 m6 → (¬ x5 = 0 → mK m6 a0 = 10 ∧ ∃ (mc7 ms7 : Nat) (K7 : Mem → Prop), Cl d mc7 ms7 mX9_tellFraction [vr a0, vi (w32 (x5 - x4)), vi x5] m6 (KV K7) ∧ mc7 ≤ bc - mc1 - mc2 - mc3 - mc4 - mc5 - mc6 ∧ ms7 ≤ bs - ms1 - ms2 - ms3 - ms4 - ms5 - ms6 ∧ (∀ m7, K7 m7 → Q (some (some (vi 0))) m7)) ∧ (x5 = 0 → mK m6 a0 = 10 ∧ ∃ (mc8 ms8 : Nat) (K8 : Mem → Prop), Cl d mc8 ms8 mX9_tellFraction [vr a0, vi 0, vi x5] m6 (KV K8) ∧ mc8 ≤ bc - mc1 - mc2 - mc3 - mc4 - mc5 - mc6 ∧ ms8 ≤ bs - ms1 - ms2 - ms3 - ms4 - ms5 - ms6 ∧ (∀ m8, K8 m8 → Q (some (some (vi 0))) m8)))))) ∧ (x3 = 0 → Q (some (some (vi (-1)))) m3))))))) :
    Wp (d + 1) bc bs mX9_off 0 [some (vr a0), some (vi a1), some (vi a2), some (vi a3), none, none] [] μ Q := by
  refine st_iload_n (pc := 0) dX9_off_0 rfl rfl ?_
  refine sg_iconst (pc := 1) dX9_off_1 (by omega) ?_
  refine sg_sipush (pc := 2) dX9_off_2 (by omega) (by decide) ?_
  obtain ⟨mc1, ms1, K1, hC, e1, e2, h⟩ := h
  refine sg_SI (pc := 5) (av := [vi a1, vi 1, vi 500]) (st := []) (K := K1) dX9_off_5 ck_9_102 rfl (by show (0 : Nat) ≤ 8; decide) hC e1 e2 (fun x1 m1 hK => ?_) rfl
  replace h := h x1 m1 hK
  refine st_ifeq (pc := 8) (tgt := 32) dX9_off_8 rfl (fun c => ?_) (fun c => ?_)
  · replace h := h.1 c
    refine sg_iconst (pc := 32) dX9_off_32 (by omega) ?_
    exact st_ireturn (pc := 33) dX9_off_33 (Or.inl rfl) h
  · replace h := h.2 c
    refine st_iload_n (pc := 11) dX9_off_11 rfl rfl ?_
    refine sg_iconst (pc := 12) dX9_off_12 (by omega) ?_
    refine sg_sipush (pc := 13) dX9_off_13 (by omega) (by decide) ?_
    obtain ⟨mc2, ms2, K2, hC, e1, e2, h⟩ := h
    refine sg_SI (pc := 16) (av := [vi a2, vi 1, vi 400]) (st := []) (K := K2) dX9_off_16 ck_9_102 rfl (by show (0 : Nat) ≤ 8; decide) hC e1 e2 (fun x2 m2 hK => ?_) rfl
    replace h := h x2 m2 hK
    refine st_ifeq (pc := 19) (tgt := 32) dX9_off_19 rfl (fun c => ?_) (fun c => ?_)
    · replace h := h.1 c
      refine sg_iconst (pc := 32) dX9_off_32 (by omega) ?_
      exact st_ireturn (pc := 33) dX9_off_33 (Or.inl rfl) h
    · replace h := h.2 c
      refine st_iload_n (pc := 22) dX9_off_22 rfl rfl ?_
      refine sg_iconst (pc := 23) dX9_off_23 (by omega) ?_
      refine sg_bipush (pc := 24) dX9_off_24 (by omega) (by decide) ?_
      obtain ⟨mc3, ms3, K3, hC, e1, e2, h⟩ := h
      refine sg_SI (pc := 26) (av := [vi a3, vi 0, vi 9]) (st := []) (K := K3) dX9_off_26 ck_9_102 rfl (by show (0 : Nat) ≤ 8; decide) hC e1 e2 (fun x3 m3 hK => ?_) rfl
      replace h := h x3 m3 hK
      refine st_ifne (pc := 29) (tgt := 34) dX9_off_29 rfl (fun c => ?_) (fun c => ?_)
      · replace h := h.1 c
        refine st_aload_n (pc := 34) dX9_off_34 rfl rfl ?_
        refine st_iload_n (pc := 35) dX9_off_35 rfl rfl ?_
        refine st_iload_n (pc := 36) dX9_off_36 rfl rfl ?_
        refine st_iload_n (pc := 37) dX9_off_37 rfl rfl ?_
        obtain ⟨hk1, h⟩ := h
        obtain ⟨mc4, ms4, K4, hC, e1, e2, h⟩ := h
        refine sg_VI (pc := 38) (av := [vi a1, vi a2, vi a3]) (st := []) (K := K4) dX9_off_38 ck_9_340 rfl (by decide) hk1 (by show (0 : Nat) ≤ 8; decide) hC e1 e2 (fun x4 m4 hK => ?_) rfl
        replace h := h x4 m4 hK
        refine sg_istore (pc := 41) (ls' := [some (vr a0), some (vi a1), some (vi a2), some (vi a3), some (vi x4), none]) dX9_off_41 (by show (4 : Nat) < 6; decide) rfl ?_
        refine st_aload_n (pc := 43) dX9_off_43 rfl rfl ?_
        refine st_iload_n (pc := 44) dX9_off_44 rfl rfl ?_
        refine st_iload_n (pc := 45) dX9_off_45 rfl rfl ?_
        refine sg_iconst (pc := 46) dX9_off_46 (by omega) ?_
        obtain ⟨hk2, h⟩ := h
        obtain ⟨mc5, ms5, K5, hC, e1, e2, h⟩ := h
        refine sg_VI (pc := 47) (av := [vi a1, vi a2, vi 0]) (st := []) (K := K5) dX9_off_47 ck_9_340 rfl (by decide) hk2 (by show (0 : Nat) ≤ 8; decide) hC e1 e2 (fun x5 m5 hK => ?_) rfl
        replace h := h x5 m5 hK
        refine sg_istore (pc := 50) (ls' := [some (vr a0), some (vi a1), some (vi a2), some (vi a3), some (vi x4), some (vi x5)]) dX9_off_50 (by show (5 : Nat) < 6; decide) rfl ?_
        refine st_aload_n (pc := 52) dX9_off_52 rfl rfl ?_
        refine st_iload (pc := 53) dX9_off_53 rfl ?_
        refine st_i2l (pc := 55) dX9_off_55 ?_
        refine st_iload (pc := 56) dX9_off_56 rfl ?_
        refine st_i2l (pc := 58) dX9_off_58 ?_
        obtain ⟨hk3, h⟩ := h
        obtain ⟨mc6, ms6, K6, hC, e1, e2, h⟩ := h
        refine sg_VV (pc := 59) (av := [vl x4, vl x5]) (st := []) (K := K6) dX9_off_59 ck_9_250 rfl (by decide) hk3 (by show (0 : Nat) ≤ 8; decide) hC e1 e2 (fun m6 hK => ?_) rfl
        replace h := h m6 hK
        refine st_aload_n (pc := 62) dX9_off_62 rfl rfl ?_
        refine st_iload (pc := 63) dX9_off_63 rfl ?_
        refine st_ifne (pc := 65) (tgt := 72) dX9_off_65 rfl (fun c => ?_) (fun c => ?_)
        · replace h := h.1 c
          refine st_iload (pc := 72) dX9_off_72 rfl ?_
          refine st_iload (pc := 74) dX9_off_74 rfl ?_
          refine st_isub (pc := 76) dX9_off_76 ?_
          refine st_iload (pc := 77) dX9_off_77 rfl ?_
          obtain ⟨hk4, h⟩ := h
          obtain ⟨mc7, ms7, K7, hC, e1, e2, h⟩ := h
          refine sg_VV (pc := 79) (av := [vi (w32 (x5 - x4)), vi x5]) (st := []) (K := K7) dX9_off_79 ck_9_290 rfl (by decide) hk4 (by show (0 : Nat) ≤ 8; decide) hC e1 e2 (fun m7 hK => ?_) rfl
          replace h := h m7 hK
          refine sg_iconst (pc := 82) dX9_off_82 (by omega) ?_
          exact st_ireturn (pc := 83) dX9_off_83 (Or.inl rfl) h
        · replace h := h.2 c
          refine sg_iconst (pc := 68) dX9_off_68 (by omega) ?_
          refine st_goto (pc := 69) dX9_off_69 rfl ?_
          refine st_iload (pc := 77) dX9_off_77 rfl ?_
          obtain ⟨hk5, h⟩ := h
          obtain ⟨mc8, ms8, K8, hC, e1, e2, h⟩ := h
          refine sg_VV (pc := 79) (av := [vi 0, vi x5]) (st := []) (K := K8) dX9_off_79 ck_9_290 rfl (by decide) hk5 (by show (0 : Nat) ≤ 8; decide) hC e1 e2 (fun m8 hK => ?_) rfl
          replace h := h m8 hK
          refine sg_iconst (pc := 82) dX9_off_82 (by omega) ?_
          exact st_ireturn (pc := 83) dX9_off_83 (Or.inl rfl) h
      · replace h := h.2 c
        refine sg_iconst (pc := 32) dX9_off_32 (by omega) ?_
        exact st_ireturn (pc := 33) dX9_off_33 (Or.inl rfl) h

theorem sg_X9_isOpen_0 {d bc bs : Nat} {a0 : Nat} {a1 : Int} {μ : Mem} {Q : Option (Option AV) → Mem → Prop}
    (h : mK μ a0 = 10 ∧ ∃ (mc1 ms1 : Nat) (K1 : Int → Mem → Prop), Cl d mc1 ms1 mX9_isGap [vr a0, vi a1] μ (KI K1) ∧ mc1 ≤ bc ∧ ms1 ≤ bs ∧ (∀ x1 m1, K1 x1 m1 → (x1 = 0 → Q (some (some (vi 0))) m1) ∧ (¬ x1 = 0 → mK m1 a0 = 10 ∧ (mK m1 (mR m1 a0 0) = 1 ∧ ((mK m1 (mR m1 (mR m1 a0 0) 4) = 20 ∨ ((mR m1 (mR m1 a0 0) 4) ≠ 0 ∧ mK m1 (mR m1 (mR m1 a0 0) 4) = 40)) ∧ ((0 : Int) ≤ a1 ∧ a1 < (mN m1 (mR m1 (mR m1 a0 0) 4) : Int)) ∧ ((¬ (mD m1 (mR m1 (mR m1 a0 0) 4) a1) = 100 → Q (some (some (vi 0))) m1) ∧ ((mD m1 (mR m1 (mR m1 a0 0) 4) a1) = 100 → Q (some (some (vi 1))) m1))))))) :
    Wp (d + 1) bc bs mX9_isOpen 0 [some (vr a0), some (vi a1)] [] μ Q := by
  refine st_aload_n (pc := 0) dX9_isOpen_0 rfl rfl ?_
  refine st_iload_n (pc := 1) dX9_isOpen_1 rfl rfl ?_
  obtain ⟨hk1, h⟩ := h
  obtain ⟨mc1, ms1, K1, hC, e1, e2, h⟩ := h
  refine sg_VI (pc := 2) (av := [vi a1]) (st := []) (K := K1) dX9_isOpen_2 ck_9_127 rfl (by decide) hk1 (by show (0 : Nat) ≤ 8; decide) hC e1 e2 (fun x1 m1 hK => ?_) rfl
  replace h := h x1 m1 hK
  refine st_ifeq (pc := 5) (tgt := 26) dX9_isOpen_5 rfl (fun c => ?_) (fun c => ?_)
  · replace h := h.1 c
    refine sg_iconst (pc := 26) dX9_isOpen_26 (by omega) ?_
    exact st_ireturn (pc := 27) dX9_isOpen_27 (Or.inr ⟨rfl, by omega⟩) h
  · replace h := h.2 c
    refine st_aload_n (pc := 8) dX9_isOpen_8 rfl rfl ?_
    obtain ⟨hk2, h⟩ := h
    refine sg_gfR (pc := 9) (J := 0) dX9_isOpen_9 fl_9_10 rfl hk2 ?_
    obtain ⟨hk3, h⟩ := h
    refine sg_gfR (pc := 12) (J := 4) dX9_isOpen_12 fl_9_131 rfl hk3 ?_
    refine st_iload_n (pc := 15) dX9_isOpen_15 rfl rfl ?_
    obtain ⟨hk4, h⟩ := h
    obtain ⟨h1, h⟩ := h
    refine sg_iaload (pc := 16) dX9_isOpen_16 hk4 h1 ?_
    refine sg_bipush (pc := 17) dX9_isOpen_17 (by omega) (by decide) ?_
    refine st_icmpne (pc := 19) (tgt := 26) dX9_isOpen_19 rfl (fun c => ?_) (fun c => ?_)
    · replace h := h.1 c
      refine sg_iconst (pc := 26) dX9_isOpen_26 (by omega) ?_
      exact st_ireturn (pc := 27) dX9_isOpen_27 (Or.inr ⟨rfl, by omega⟩) h
    · replace h := h.2 c
      refine sg_iconst (pc := 22) dX9_isOpen_22 (by omega) ?_
      refine st_goto (pc := 23) dX9_isOpen_23 rfl ?_
      exact st_ireturn (pc := 27) dX9_isOpen_27 (Or.inr ⟨rfl, by omega⟩) h

theorem sg_X9_walled_0 {d bc bs : Nat} {a0 : Nat} {a1 : Int} {a2 : Int} {a3 : Int} {μ : Mem} {Q : Option (Option AV) → Mem → Prop}
    (h : mK μ a0 = 10 ∧ ∃ (mc1 ms1 : Nat) (K1 : Nat → Mem → Prop), Cl d mc1 ms1 mX9_asItIs [vr a0] μ (KR K1) ∧ mc1 ≤ bc ∧ ms1 ≤ bs ∧ (∀ x1 m1, K1 x1 m1 → mK m1 x1 = 8 ∧ (mK m1 (mR m1 x1 0) = 1 ∧ (mK m1 (mR m1 (mR m1 x1 0) 4) = 20 ∧ ((0 : Int) ≤ a2 ∧ a2 < (mN m1 (mR m1 (mR m1 x1 0) 4) : Int)) ∧ (∀ m2, m2 = sD m1 (mR m1 (mR m1 x1 0) 4) a2 a1 → ((0 : Int) ≤ a3 ∧ a3 < (mN m2 (mR m2 (mR m2 x1 0) 4) : Int)) ∧ (∀ m3, m3 = sD m2 (mR m2 (mR m2 x1 0) 4) a3 a1 → Q (some (some (vr x1))) m3)))))) :
    Wp (d + 1) bc bs mX9_walled 0 [some (vr a0), some (vi a1), some (vi a2), some (vi a3), none] [] μ Q := by
  refine st_aload_n (pc := 0) dX9_walled_0 rfl rfl ?_
  obtain ⟨hk1, h⟩ := h
  obtain ⟨mc1, ms1, K1, hC, e1, e2, h⟩ := h
  refine sg_VR (pc := 1) (av := []) (st := []) (K := K1) dX9_walled_1 ck_9_242 rfl (by decide) hk1 (by show (0 : Nat) ≤ 8; decide) hC e1 e2 (fun x1 m1 hK => ?_) rfl
  replace h := h x1 m1 hK
  refine sg_astore (pc := 4) (ls' := [some (vr a0), some (vi a1), some (vi a2), some (vi a3), some (vr x1)]) dX9_walled_4 (by show (4 : Nat) < 5; decide) rfl ?_
  refine st_aload (pc := 6) dX9_walled_6 rfl ?_
  obtain ⟨hk2, h⟩ := h
  refine sg_gfR (pc := 8) (J := 0) dX9_walled_8 fl_9_264 rfl hk2 ?_
  obtain ⟨hk3, h⟩ := h
  refine sg_gfR (pc := 11) (J := 4) dX9_walled_11 fl_9_131 rfl hk3 ?_
  refine st_iload_n (pc := 14) dX9_walled_14 rfl rfl ?_
  refine st_iload_n (pc := 15) dX9_walled_15 rfl rfl ?_
  obtain ⟨hk4, h⟩ := h
  obtain ⟨h1, h⟩ := h
  refine st_iastore (pc := 16) dX9_walled_16 hk4 h1.1 h1.2 ?_
  refine Wp.nameM (fun m2 em2 => ?_)
  replace h := h m2 em2
  refine st_aload (pc := 17) dX9_walled_17 rfl ?_
  refine sg_gfR (pc := 19) (J := 0) dX9_walled_19 fl_9_264 rfl (by cases em2; exact hk2) ?_
  refine sg_gfR (pc := 22) (J := 4) dX9_walled_22 fl_9_131 rfl (by cases em2; exact hk3) ?_
  refine st_iload_n (pc := 25) dX9_walled_25 rfl rfl ?_
  refine st_iload_n (pc := 26) dX9_walled_26 rfl rfl ?_
  obtain ⟨h1, h⟩ := h
  refine st_iastore (pc := 27) dX9_walled_27 (by cases em2; exact hk4) h1.1 h1.2 ?_
  refine Wp.nameM (fun m3 em3 => ?_)
  replace h := h m3 em3
  refine st_aload (pc := 28) dX9_walled_28 rfl ?_
  exact st_areturn (pc := 30) dX9_walled_30 rfl h

theorem sg_X9_few_0 {d bc bs : Nat} {a0 : Nat} {a1 : Int} {a2 : Int} {μ : Mem} {Q : Option (Option AV) → Mem → Prop}
    (h : ∃ (mc1 ms1 : Nat) (K1 : Int → Mem → Prop), Cl d mc1 ms1 mX9_isWalk [vi a1] μ (KI K1) ∧ mc1 ≤ bc ∧ ms1 ≤ bs ∧ (∀ x1 m1, K1 x1 m1 → (x1 = 0 → Q (some (some (vi (-1)))) m1) ∧ (¬ x1 = 0 → ∃ (mc2 ms2 : Nat) (K2 : Int → Mem → Prop), Cl d mc2 ms2 mX9_isIn [vi a2, vi 0, vi 99] m1 (KI K2) ∧ mc2 ≤ bc - mc1 ∧ ms2 ≤ bs - ms1 ∧ (∀ x2 m2, K2 x2 m2 → (¬ x2 = 0 → mK m2 a0 = 10 ∧ ∃ (mc3 ms3 : Nat) (K3 : Nat → Mem → Prop), Cl d mc3 ms3 mX9_asItIs [vr a0] m2 (KR K3) ∧ mc3 ≤ bc - mc1 - mc2 ∧ ms3 ≤ bs - ms1 - ms2 ∧ (∀ x3 m3, K3 x3 m3 → mK m3 a0 = 10 ∧ (mK m3 (mR m3 a0 5) = 26 ∧ ((0 : Int) ≤ a1 ∧ a1 < (mN m3 (mR m3 a0 5) : Int)) ∧ (mK m3 x3 = 8 ∧ ∃ (mc4 ms4 : Nat) (K4 : Int → Mem → Prop), Cl d mc4 ms4 mX7_keepsAll [vr x3, vr (mR m3 (mR m3 a0 5) a1)] m3 (KI K4) ∧ mc4 ≤ bc - mc1 - mc2 - mc3 ∧ ms4 ≤ bs - ms1 - ms2 - ms3 ∧ (∀ x4 m4, K4 x4 m4 → (x4 = 0 → Wp (d + 1) (bc - mc1 - mc2 - mc3 - mc4) (bs - ms1 - ms2 - ms3 - ms4) mX9_few 44 [some (vr a0), some (vi a1), some (vi a2), some (vi 0), none] [] m4 Q) ∧ (¬ x4 = 0 → mK m4 a0 = 10 ∧ (∀ m5, m5 = sD m4 a0 16 0 → Q (some (some (vi 0))) m5))))))) ∧ (x2 = 0 → Q (some (some (vi (-1)))) m2))))) :
    Wp (d + 1) bc bs mX9_few 0 [some (vr a0), some (vi a1), some (vi a2), none, none] [] μ Q := by
  refine st_iload_n (pc := 0) dX9_few_0 rfl rfl ?_
  obtain ⟨mc1, ms1, K1, hC, e1, e2, h⟩ := h
  refine sg_SI (pc := 1) (av := [vi a1]) (st := []) (K := K1) dX9_few_1 ck_9_193 rfl (by show (0 : Nat) ≤ 8; decide) hC e1 e2 (fun x1 m1 hK => ?_) rfl
  replace h := h x1 m1 hK
  refine st_ifeq (pc := 4) (tgt := 17) dX9_few_4 rfl (fun c => ?_) (fun c => ?_)
  · replace h := h.1 c
    refine sg_iconst (pc := 17) dX9_few_17 (by omega) ?_
    exact st_ireturn (pc := 18) dX9_few_18 (Or.inl rfl) h
  · replace h := h.2 c
    refine st_iload_n (pc := 7) dX9_few_7 rfl rfl ?_
    refine sg_iconst (pc := 8) dX9_few_8 (by omega) ?_
    refine sg_bipush (pc := 9) dX9_few_9 (by omega) (by decide) ?_
    obtain ⟨mc2, ms2, K2, hC, e1, e2, h⟩ := h
    refine sg_SI (pc := 11) (av := [vi a2, vi 0, vi 99]) (st := []) (K := K2) dX9_few_11 ck_9_102 rfl (by show (0 : Nat) ≤ 8; decide) hC e1 e2 (fun x2 m2 hK => ?_) rfl
    replace h := h x2 m2 hK
    refine st_ifne (pc := 14) (tgt := 19) dX9_few_14 rfl (fun c => ?_) (fun c => ?_)
    · replace h := h.1 c
      refine st_aload_n (pc := 19) dX9_few_19 rfl rfl ?_
      obtain ⟨hk1, h⟩ := h
      obtain ⟨mc3, ms3, K3, hC, e1, e2, h⟩ := h
      refine sg_VR (pc := 20) (av := []) (st := []) (K := K3) dX9_few_20 ck_9_242 rfl (by decide) hk1 (by show (0 : Nat) ≤ 8; decide) hC e1 e2 (fun x3 m3 hK => ?_) rfl
      replace h := h x3 m3 hK
      refine st_aload_n (pc := 23) dX9_few_23 rfl rfl ?_
      obtain ⟨hk2, h⟩ := h
      refine sg_gfR (pc := 24) (J := 5) dX9_few_24 fl_9_40 rfl hk2 ?_
      refine st_iload_n (pc := 27) dX9_few_27 rfl rfl ?_
      obtain ⟨hk3, h⟩ := h
      obtain ⟨h1, h⟩ := h
      refine st_aaload (pc := 28) (t := 6) dX9_few_28 hk3 (fun _ => rfl) (by decide) (by decide) h1.1 h1.2 ?_
      obtain ⟨hk4, h⟩ := h
      obtain ⟨mc4, ms4, K4, hC, e1, e2, h⟩ := h
      refine sg_VI (pc := 29) (av := [vr (mR m3 (mR m3 a0 5) a1)]) (st := []) (K := K4) dX9_few_29 ck_9_300 rfl (by decide) hk4 (by show (0 : Nat) ≤ 8; decide) hC e1 e2 (fun x4 m4 hK => ?_) rfl
      replace h := h x4 m4 hK
      refine st_ifeq (pc := 32) (tgt := 42) dX9_few_32 rfl (fun c => ?_) (fun c => ?_)
      · replace h := h.1 c
        refine sg_iconst (pc := 42) dX9_few_42 (by omega) ?_
        refine sg_istore_n (pc := 43) (ls' := [some (vr a0), some (vi a1), some (vi a2), some (vi 0), none]) dX9_few_43 rfl (by show (3 : Nat) < 5; decide) rfl ?_
        exact h
      · replace h := h.2 c
        refine st_aload_n (pc := 35) dX9_few_35 rfl rfl ?_
        refine sg_iconst (pc := 36) dX9_few_36 (by omega) ?_
        obtain ⟨hk5, h⟩ := h
        refine sg_pfI (pc := 37) (J := 16) dX9_few_37 fl_9_95 rfl (Or.inl rfl) hk5 ?_
        refine Wp.nameM (fun m5 em5 => ?_)
        replace h := h m5 em5
        refine sg_iconst (pc := 40) dX9_few_40 (by omega) ?_
        exact st_ireturn (pc := 41) dX9_few_41 (Or.inl rfl) h
    · replace h := h.2 c
      refine sg_iconst (pc := 17) dX9_few_17 (by omega) ?_
      exact st_ireturn (pc := 18) dX9_few_18 (Or.inl rfl) h

theorem sg_X9_few_44 {d bc bs : Nat} {a0 : Nat} {a1 : Int} {a2 : Int} {a3 : Int} {μ : Mem} {Q : Option (Option AV) → Mem → Prop}
    (h : mK μ a0 = 10 ∧ (mK μ (mR μ a0 0) = 1 ∧ (((mD μ (mR μ a0 0) 0) ≤ a3 → Wp (d + 1) bc bs mX9_few 98 [some (vr a0), some (vi a1), some (vi a2), some (vi 0), none] [] μ Q) ∧ (¬ (mD μ (mR μ a0 0) 0) ≤ a3 → ∃ (mc1 ms1 : Nat) (K1 : Int → Mem → Prop), Cl d mc1 ms1 mX9_isOpen [vr a0, vi a3] μ (KI K1) ∧ mc1 ≤ bc ∧ ms1 ≤ bs ∧ (∀ x1 m1, K1 x1 m1 → (x1 = 0 → ∀ v1, v1 = w32 (a3 + 1) → Wp (d + 1) (bc - mc1) (bs - ms1) mX9_few 44 [some (vr a0), some (vi a1), some (vi a2), some (vi v1), none] [] m1 Q) ∧ (¬ x1 = 0 → mK m1 a0 = 10 ∧ ∃ (mc2 ms2 : Nat) (K2 : Nat → Mem → Prop), Cl d mc2 ms2 mX9_walled [vr a0, vi a2, vi a3, vi a3] m1 (KR K2) ∧ mc2 ≤ bc - mc1 ∧ ms2 ≤ bs - ms1 ∧ (∀ x2 m2, K2 x2 m2 → mK m2 a0 = 10 ∧ (mK m2 (mR m2 a0 5) = 26 ∧ ((0 : Int) ≤ a1 ∧ a1 < (mN m2 (mR m2 a0 5) : Int)) ∧ (mK m2 x2 = 8 ∧ ∃ (mc3 ms3 : Nat) (K3 : Int → Mem → Prop), Cl d mc3 ms3 mX7_keepsAll [vr x2, vr (mR m2 (mR m2 a0 5) a1)] m2 (KI K3) ∧ mc3 ≤ bc - mc1 - mc2 ∧ ms3 ≤ bs - ms1 - ms2 ∧ (∀ x3 m3, K3 x3 m3 → (x3 = 0 → ∀ v2, v2 = w32 (a3 + 1) → Wp (d + 1) (bc - mc1 - mc2 - mc3) (bs - ms1 - ms2 - ms3) mX9_few 44 [some (vr a0), some (vi a1), some (vi a2), some (vi v2), none] [] m3 Q) ∧ (¬ x3 = 0 → mK m3 a0 = 10 ∧ ∃ (mc4 ms4 : Nat) (K4 : Mem → Prop), Cl d mc4 ms4 mX9_tell [vr a0, vl a3] m3 (KV K4) ∧ mc4 ≤ bc - mc1 - mc2 - mc3 ∧ ms4 ≤ bs - ms1 - ms2 - ms3 ∧ (∀ m4, K4 m4 → Q (some (some (vi 1))) m4)))))))))))) :
    Wp (d + 1) bc bs mX9_few 44 [some (vr a0), some (vi a1), some (vi a2), some (vi a3), none] [] μ Q := by
  refine st_iload_n (pc := 44) dX9_few_44 rfl rfl ?_
  refine st_aload_n (pc := 45) dX9_few_45 rfl rfl ?_
  obtain ⟨hk1, h⟩ := h
  refine sg_gfR (pc := 46) (J := 0) dX9_few_46 fl_9_10 rfl hk1 ?_
  obtain ⟨hk2, h⟩ := h
  refine sg_gfI (pc := 49) (J := 0) dX9_few_49 fl_9_106 (by decide) rfl hk2 ?_
  refine st_icmpge (pc := 52) (tgt := 96) dX9_few_52 rfl (fun c => ?_) (fun c => ?_)
  · replace h := h.1 c
    refine sg_iconst (pc := 96) dX9_few_96 (by omega) ?_
    refine sg_istore_n (pc := 97) (ls' := [some (vr a0), some (vi a1), some (vi a2), some (vi 0), none]) dX9_few_97 rfl (by show (3 : Nat) < 5; decide) rfl ?_
    exact h
  · replace h := h.2 c
    refine st_aload_n (pc := 55) dX9_few_55 rfl rfl ?_
    refine st_iload_n (pc := 56) dX9_few_56 rfl rfl ?_
    obtain ⟨mc1, ms1, K1, hC, e1, e2, h⟩ := h
    refine sg_VI (pc := 57) (av := [vi a3]) (st := []) (K := K1) dX9_few_57 ck_9_343 rfl (by decide) hk1 (by show (0 : Nat) ≤ 8; decide) hC e1 e2 (fun x1 m1 hK => ?_) rfl
    replace h := h x1 m1 hK
    refine st_ifeq (pc := 60) (tgt := 90) dX9_few_60 rfl (fun c => ?_) (fun c => ?_)
    · replace h := h.1 c
      refine sg_iinc (pc := 90) (ls' := [some (vr a0), some (vi a1), some (vi a2), some (vi (w32 (a3 + 1))), none]) dX9_few_90 rfl rfl ?_
      refine Wp.nameL (ls2 := fun v => [some (vr a0), some (vi a1), some (vi a2), some (vi v), none]) 3 _ rfl (fun _ => rfl) (fun v1 ev1 => ?_)
      replace h := h v1 ev1
      refine st_goto (pc := 93) dX9_few_93 rfl ?_
      exact h
    · replace h := h.2 c
      refine st_aload_n (pc := 63) dX9_few_63 rfl rfl ?_
      refine st_iload_n (pc := 64) dX9_few_64 rfl rfl ?_
      refine st_iload_n (pc := 65) dX9_few_65 rfl rfl ?_
      refine st_iload_n (pc := 66) dX9_few_66 rfl rfl ?_
      obtain ⟨hk3, h⟩ := h
      obtain ⟨mc2, ms2, K2, hC, e1, e2, h⟩ := h
      refine sg_VR (pc := 67) (av := [vi a2, vi a3, vi a3]) (st := []) (K := K2) dX9_few_67 ck_9_346 rfl (by decide) hk3 (by show (0 : Nat) ≤ 8; decide) hC e1 e2 (fun x2 m2 hK => ?_) rfl
      replace h := h x2 m2 hK
      refine st_aload_n (pc := 70) dX9_few_70 rfl rfl ?_
      obtain ⟨hk4, h⟩ := h
      refine sg_gfR (pc := 71) (J := 5) dX9_few_71 fl_9_40 rfl hk4 ?_
      refine st_iload_n (pc := 74) dX9_few_74 rfl rfl ?_
      obtain ⟨hk5, h⟩ := h
      obtain ⟨h1, h⟩ := h
      refine st_aaload (pc := 75) (t := 6) dX9_few_75 hk5 (fun _ => rfl) (by decide) (by decide) h1.1 h1.2 ?_
      obtain ⟨hk6, h⟩ := h
      obtain ⟨mc3, ms3, K3, hC, e1, e2, h⟩ := h
      refine sg_VI (pc := 76) (av := [vr (mR m2 (mR m2 a0 5) a1)]) (st := []) (K := K3) dX9_few_76 ck_9_300 rfl (by decide) hk6 (by show (0 : Nat) ≤ 8; decide) hC e1 e2 (fun x3 m3 hK => ?_) rfl
      replace h := h x3 m3 hK
      refine st_ifeq (pc := 79) (tgt := 90) dX9_few_79 rfl (fun c => ?_) (fun c => ?_)
      · replace h := h.1 c
        refine sg_iinc (pc := 90) (ls' := [some (vr a0), some (vi a1), some (vi a2), some (vi (w32 (a3 + 1))), none]) dX9_few_90 rfl rfl ?_
        refine Wp.nameL (ls2 := fun v => [some (vr a0), some (vi a1), some (vi a2), some (vi v), none]) 3 _ rfl (fun _ => rfl) (fun v2 ev2 => ?_)
        replace h := h v2 ev2
        refine st_goto (pc := 93) dX9_few_93 rfl ?_
        exact h
      · replace h := h.2 c
        refine st_aload_n (pc := 82) dX9_few_82 rfl rfl ?_
        refine st_iload_n (pc := 83) dX9_few_83 rfl rfl ?_
        refine st_i2l (pc := 84) dX9_few_84 ?_
        obtain ⟨hk7, h⟩ := h
        obtain ⟨mc4, ms4, K4, hC, e1, e2, h⟩ := h
        refine sg_VV (pc := 85) (av := [vl a3]) (st := []) (K := K4) dX9_few_85 ck_9_272 rfl (by decide) hk7 (by show (0 : Nat) ≤ 8; decide) hC e1 e2 (fun m4 hK => ?_) rfl
        replace h := h m4 hK
        refine sg_iconst (pc := 88) dX9_few_88 (by omega) ?_
        exact st_ireturn (pc := 89) dX9_few_89 (Or.inl rfl) h

theorem sg_X9_few_98 {d bc bs : Nat} {a0 : Nat} {a1 : Int} {a2 : Int} {a3 : Int} {μ : Mem} {Q : Option (Option AV) → Mem → Prop}
    (h : mK μ a0 = 10 ∧ (mK μ (mR μ a0 0) = 1 ∧ (((mD μ (mR μ a0 0) 0) ≤ a3 → Q (some (some (vi (-2)))) μ) ∧ (¬ (mD μ (mR μ a0 0) 0) ≤ a3 → ∀ v1, v1 = w32 (a3 + 1) → Wp (d + 1) bc bs mX9_few 114 [some (vr a0), some (vi a1), some (vi a2), some (vi a3), some (vi v1)] [] μ Q)))) :
    Wp (d + 1) bc bs mX9_few 98 [some (vr a0), some (vi a1), some (vi a2), some (vi a3), none] [] μ Q := by
  refine st_iload_n (pc := 98) dX9_few_98 rfl rfl ?_
  refine st_aload_n (pc := 99) dX9_few_99 rfl rfl ?_
  obtain ⟨hk1, h⟩ := h
  refine sg_gfR (pc := 100) (J := 0) dX9_few_100 fl_9_10 rfl hk1 ?_
  obtain ⟨hk2, h⟩ := h
  refine sg_gfI (pc := 103) (J := 0) dX9_few_103 fl_9_106 (by decide) rfl hk2 ?_
  refine st_icmpge (pc := 106) (tgt := 186) dX9_few_106 rfl (fun c => ?_) (fun c => ?_)
  · replace h := h.1 c
    refine sg_bipush (pc := 186) dX9_few_186 (by omega) (by decide) ?_
    exact st_ireturn (pc := 188) dX9_few_188 (Or.inl rfl) h
  · replace h := h.2 c
    refine st_iload_n (pc := 109) dX9_few_109 rfl rfl ?_
    refine sg_iconst (pc := 110) dX9_few_110 (by omega) ?_
    refine st_iadd (pc := 111) dX9_few_111 ?_
    refine sg_istore (pc := 112) (ls' := [some (vr a0), some (vi a1), some (vi a2), some (vi a3), some (vi (w32 (a3 + 1)))]) dX9_few_112 (by show (4 : Nat) < 5; decide) rfl ?_
    refine Wp.nameL (ls2 := fun v => [some (vr a0), some (vi a1), some (vi a2), some (vi a3), some (vi v)]) 4 _ rfl (fun _ => rfl) (fun v1 ev1 => ?_)
    replace h := h v1 ev1
    exact h

theorem sg_X9_few_114 {d bc bs : Nat} {a0 : Nat} {a1 : Int} {a2 : Int} {a3 : Int} {a4 : Int} {μ : Mem} {Q : Option (Option AV) → Mem → Prop}
    (h : mK μ a0 = 10 ∧ (mK μ (mR μ a0 0) = 1 ∧ (((mD μ (mR μ a0 0) 0) ≤ a4 → ∀ v1, v1 = w32 (a3 + 1) → Wp (d + 1) bc bs mX9_few 98 [some (vr a0), some (vi a1), some (vi a2), some (vi v1), none] [] μ Q) ∧ (¬ (mD μ (mR μ a0 0) 0) ≤ a4 → ∃ (mc1 ms1 : Nat) (K1 : Int → Mem → Prop), Cl d mc1 ms1 mX9_isOpen [vr a0, vi a3] μ (KI K1) ∧ mc1 ≤ bc ∧ ms1 ≤ bs ∧ (∀ x1 m1, K1 x1 m1 → (x1 = 0 → ∀ v2, v2 = w32 (a4 + 1) → Wp (d + 1) (bc - mc1) (bs - ms1) mX9_few 114 [some (vr a0), some (vi a1), some (vi a2), some (vi a3), some (vi v2)] [] m1 Q) ∧ (¬ x1 = 0 → mK m1 a0 = 10 ∧ ∃ (mc2 ms2 : Nat) (K2 : Int → Mem → Prop), Cl d mc2 ms2 mX9_isOpen [vr a0, vi a4] m1 (KI K2) ∧ mc2 ≤ bc - mc1 ∧ ms2 ≤ bs - ms1 ∧ (∀ x2 m2, K2 x2 m2 → (x2 = 0 → ∀ v3, v3 = w32 (a4 + 1) → Wp (d + 1) (bc - mc1 - mc2) (bs - ms1 - ms2) mX9_few 114 [some (vr a0), some (vi a1), some (vi a2), some (vi a3), some (vi v3)] [] m2 Q) ∧ (¬ x2 = 0 → mK m2 a0 = 10 ∧ ∃ (mc3 ms3 : Nat) (K3 : Nat → Mem → Prop), Cl d mc3 ms3 mX9_walled [vr a0, vi a2, vi a3, vi a4] m2 (KR K3) ∧ mc3 ≤ bc - mc1 - mc2 ∧ ms3 ≤ bs - ms1 - ms2 ∧ (∀ x3 m3, K3 x3 m3 → mK m3 a0 = 10 ∧ (mK m3 (mR m3 a0 5) = 26 ∧ ((0 : Int) ≤ a1 ∧ a1 < (mN m3 (mR m3 a0 5) : Int)) ∧ (mK m3 x3 = 8 ∧ ∃ (mc4 ms4 : Nat) (K4 : Int → Mem → Prop), Cl d mc4 ms4 mX7_keepsAll [vr x3, vr (mR m3 (mR m3 a0 5) a1)] m3 (KI K4) ∧ mc4 ≤ bc - mc1 - mc2 - mc3 ∧ ms4 ≤ bs - ms1 - ms2 - ms3 ∧ (∀ x4 m4, K4 x4 m4 → (x4 = 0 → ∀ v4, v4 = w32 (a4 + 1) → Wp (d + 1) (bc - mc1 - mc2 - mc3 - mc4) (bs - ms1 - ms2 - ms3 - ms4) mX9_few 114 [some (vr a0), some (vi a1), some (vi a2), some (vi a3), some (vi v4)] [] m4 Q) ∧ (¬ x4 = 0 → mK m4 a0 = 10 ∧ ∃ (mc5 ms5 : Nat) (K5 : Mem → Prop), Cl d mc5 ms5 mX9_tell_ [vr a0, vl a3, vl a4] m4 (KV K5) ∧ mc5 ≤ bc - mc1 - mc2 - mc3 - mc4 ∧ ms5 ≤ bs - ms1 - ms2 - ms3 - ms4 ∧ (∀ m5, K5 m5 → Q (some (some (vi 2))) m5)))))))))))))) :
    Wp (d + 1) bc bs mX9_few 114 [some (vr a0), some (vi a1), some (vi a2), some (vi a3), some (vi a4)] [] μ Q := by
  refine st_iload (pc := 114) dX9_few_114 rfl ?_
  refine st_aload_n (pc := 116) dX9_few_116 rfl rfl ?_
  obtain ⟨hk1, h⟩ := h
  refine sg_gfR (pc := 117) (J := 0) dX9_few_117 fl_9_10 rfl hk1 ?_
  obtain ⟨hk2, h⟩ := h
  refine sg_gfI (pc := 120) (J := 0) dX9_few_120 fl_9_106 (by decide) rfl hk2 ?_
  refine st_icmpge (pc := 123) (tgt := 180) dX9_few_123 rfl (fun c => ?_) (fun c => ?_)
  · replace h := h.1 c
    refine sg_iinc (pc := 180) (ls' := [some (vr a0), some (vi a1), some (vi a2), some (vi (w32 (a3 + 1))), some (vi a4)]) dX9_few_180 rfl rfl ?_
    refine Wp.nameL (ls2 := fun v => [some (vr a0), some (vi a1), some (vi a2), some (vi v), some (vi a4)]) 3 _ rfl (fun _ => rfl) (fun v1 ev1 => ?_)
    replace h := h v1 ev1
    refine st_goto (pc := 183) dX9_few_183 rfl ?_
    refine Wp.drop 4 rfl ?_
    exact h
  · replace h := h.2 c
    refine st_aload_n (pc := 126) dX9_few_126 rfl rfl ?_
    refine st_iload_n (pc := 127) dX9_few_127 rfl rfl ?_
    obtain ⟨mc1, ms1, K1, hC, e1, e2, h⟩ := h
    refine sg_VI (pc := 128) (av := [vi a3]) (st := []) (K := K1) dX9_few_128 ck_9_343 rfl (by decide) hk1 (by show (0 : Nat) ≤ 8; decide) hC e1 e2 (fun x1 m1 hK => ?_) rfl
    replace h := h x1 m1 hK
    refine st_ifeq (pc := 131) (tgt := 174) dX9_few_131 rfl (fun c => ?_) (fun c => ?_)
    · replace h := h.1 c
      refine sg_iinc (pc := 174) (ls' := [some (vr a0), some (vi a1), some (vi a2), some (vi a3), some (vi (w32 (a4 + 1)))]) dX9_few_174 rfl rfl ?_
      refine Wp.nameL (ls2 := fun v => [some (vr a0), some (vi a1), some (vi a2), some (vi a3), some (vi v)]) 4 _ rfl (fun _ => rfl) (fun v2 ev2 => ?_)
      replace h := h v2 ev2
      refine st_goto (pc := 177) dX9_few_177 rfl ?_
      exact h
    · replace h := h.2 c
      refine st_aload_n (pc := 134) dX9_few_134 rfl rfl ?_
      refine st_iload (pc := 135) dX9_few_135 rfl ?_
      obtain ⟨hk3, h⟩ := h
      obtain ⟨mc2, ms2, K2, hC, e1, e2, h⟩ := h
      refine sg_VI (pc := 137) (av := [vi a4]) (st := []) (K := K2) dX9_few_137 ck_9_343 rfl (by decide) hk3 (by show (0 : Nat) ≤ 8; decide) hC e1 e2 (fun x2 m2 hK => ?_) rfl
      replace h := h x2 m2 hK
      refine st_ifeq (pc := 140) (tgt := 174) dX9_few_140 rfl (fun c => ?_) (fun c => ?_)
      · replace h := h.1 c
        refine sg_iinc (pc := 174) (ls' := [some (vr a0), some (vi a1), some (vi a2), some (vi a3), some (vi (w32 (a4 + 1)))]) dX9_few_174 rfl rfl ?_
        refine Wp.nameL (ls2 := fun v => [some (vr a0), some (vi a1), some (vi a2), some (vi a3), some (vi v)]) 4 _ rfl (fun _ => rfl) (fun v3 ev3 => ?_)
        replace h := h v3 ev3
        refine st_goto (pc := 177) dX9_few_177 rfl ?_
        exact h
      · replace h := h.2 c
        refine st_aload_n (pc := 143) dX9_few_143 rfl rfl ?_
        refine st_iload_n (pc := 144) dX9_few_144 rfl rfl ?_
        refine st_iload_n (pc := 145) dX9_few_145 rfl rfl ?_
        refine st_iload (pc := 146) dX9_few_146 rfl ?_
        obtain ⟨hk4, h⟩ := h
        obtain ⟨mc3, ms3, K3, hC, e1, e2, h⟩ := h
        refine sg_VR (pc := 148) (av := [vi a2, vi a3, vi a4]) (st := []) (K := K3) dX9_few_148 ck_9_346 rfl (by decide) hk4 (by show (0 : Nat) ≤ 8; decide) hC e1 e2 (fun x3 m3 hK => ?_) rfl
        replace h := h x3 m3 hK
        refine st_aload_n (pc := 151) dX9_few_151 rfl rfl ?_
        obtain ⟨hk5, h⟩ := h
        refine sg_gfR (pc := 152) (J := 5) dX9_few_152 fl_9_40 rfl hk5 ?_
        refine st_iload_n (pc := 155) dX9_few_155 rfl rfl ?_
        obtain ⟨hk6, h⟩ := h
        obtain ⟨h1, h⟩ := h
        refine st_aaload (pc := 156) (t := 6) dX9_few_156 hk6 (fun _ => rfl) (by decide) (by decide) h1.1 h1.2 ?_
        obtain ⟨hk7, h⟩ := h
        obtain ⟨mc4, ms4, K4, hC, e1, e2, h⟩ := h
        refine sg_VI (pc := 157) (av := [vr (mR m3 (mR m3 a0 5) a1)]) (st := []) (K := K4) dX9_few_157 ck_9_300 rfl (by decide) hk7 (by show (0 : Nat) ≤ 8; decide) hC e1 e2 (fun x4 m4 hK => ?_) rfl
        replace h := h x4 m4 hK
        refine st_ifeq (pc := 160) (tgt := 174) dX9_few_160 rfl (fun c => ?_) (fun c => ?_)
        · replace h := h.1 c
          refine sg_iinc (pc := 174) (ls' := [some (vr a0), some (vi a1), some (vi a2), some (vi a3), some (vi (w32 (a4 + 1)))]) dX9_few_174 rfl rfl ?_
          refine Wp.nameL (ls2 := fun v => [some (vr a0), some (vi a1), some (vi a2), some (vi a3), some (vi v)]) 4 _ rfl (fun _ => rfl) (fun v4 ev4 => ?_)
          replace h := h v4 ev4
          refine st_goto (pc := 177) dX9_few_177 rfl ?_
          exact h
        · replace h := h.2 c
          refine st_aload_n (pc := 163) dX9_few_163 rfl rfl ?_
          refine st_iload_n (pc := 164) dX9_few_164 rfl rfl ?_
          refine st_i2l (pc := 165) dX9_few_165 ?_
          refine st_iload (pc := 166) dX9_few_166 rfl ?_
          refine st_i2l (pc := 168) dX9_few_168 ?_
          obtain ⟨hk8, h⟩ := h
          obtain ⟨mc5, ms5, K5, hC, e1, e2, h⟩ := h
          refine sg_VV (pc := 169) (av := [vl a3, vl a4]) (st := []) (K := K5) dX9_few_169 ck_9_250 rfl (by decide) hk8 (by show (0 : Nat) ≤ 8; decide) hC e1 e2 (fun m5 hK => ?_) rfl
          replace h := h m5 hK
          refine sg_iconst (pc := 172) dX9_few_172 (by omega) ?_
          exact st_ireturn (pc := 173) dX9_few_173 (Or.inl rfl) h

theorem sg_X9_best_0 {d bc bs : Nat} {a0 : Nat} {a1 : Int} {a2 : Int} {μ : Mem} {Q : Option (Option AV) → Mem → Prop}
    (h : ∃ (mc1 ms1 : Nat) (K1 : Int → Mem → Prop), Cl d mc1 ms1 mX9_isWalk [vi a1] μ (KI K1) ∧ mc1 ≤ bc ∧ ms1 ≤ bs ∧ (∀ x1 m1, K1 x1 m1 → (x1 = 0 → Q (some (some (vi (-1)))) m1) ∧ (¬ x1 = 0 → mK m1 a0 = 10 ∧ ∃ (mc2 ms2 : Nat) (K2 : Int → Mem → Prop), Cl d mc2 ms2 mX9_isGap [vr a0, vi a2] m1 (KI K2) ∧ mc2 ≤ bc - mc1 ∧ ms2 ≤ bs - ms1 ∧ (∀ x2 m2, K2 x2 m2 → (¬ x2 = 0 → Wp (d + 1) (bc - mc1 - mc2) (bs - ms1 - ms2) mX9_best 28 [some (vr a0), some (vi a1), some (vi a2), some (vi (-1)), some (vi 2147483647), some (vi 100), none] [] m2 Q) ∧ (x2 = 0 → Q (some (some (vi (-1)))) m2))))) :
    Wp (d + 1) bc bs mX9_best 0 [some (vr a0), some (vi a1), some (vi a2), none, none, none, none] [] μ Q := by
  refine st_iload_n (pc := 0) dX9_best_0 rfl rfl ?_
  obtain ⟨mc1, ms1, K1, hC, e1, e2, h⟩ := h
  refine sg_SI (pc := 1) (av := [vi a1]) (st := []) (K := K1) dX9_best_1 ck_9_193 rfl (by show (0 : Nat) ≤ 8; decide) hC e1 e2 (fun x1 m1 hK => ?_) rfl
  replace h := h x1 m1 hK
  refine st_ifeq (pc := 4) (tgt := 15) dX9_best_4 rfl (fun c => ?_) (fun c => ?_)
  · replace h := h.1 c
    refine sg_iconst (pc := 15) dX9_best_15 (by omega) ?_
    exact st_ireturn (pc := 16) dX9_best_16 (Or.inl rfl) h
  · replace h := h.2 c
    refine st_aload_n (pc := 7) dX9_best_7 rfl rfl ?_
    refine st_iload_n (pc := 8) dX9_best_8 rfl rfl ?_
    obtain ⟨hk1, h⟩ := h
    obtain ⟨mc2, ms2, K2, hC, e1, e2, h⟩ := h
    refine sg_VI (pc := 9) (av := [vi a2]) (st := []) (K := K2) dX9_best_9 ck_9_127 rfl (by decide) hk1 (by show (0 : Nat) ≤ 8; decide) hC e1 e2 (fun x2 m2 hK => ?_) rfl
    replace h := h x2 m2 hK
    refine st_ifne (pc := 12) (tgt := 17) dX9_best_12 rfl (fun c => ?_) (fun c => ?_)
    · replace h := h.1 c
      refine sg_iconst (pc := 17) dX9_best_17 (by omega) ?_
      refine sg_istore_n (pc := 18) (ls' := [some (vr a0), some (vi a1), some (vi a2), some (vi (-1)), none, none, none]) dX9_best_18 rfl (by show (3 : Nat) < 7; decide) rfl ?_
      refine st_ldcw (pc := 19) (n := 2147483647) dX9_best_19 cn_9_326 (by unfold r32; omega) ?_
      refine sg_istore (pc := 22) (ls' := [some (vr a0), some (vi a1), some (vi a2), some (vi (-1)), some (vi 2147483647), none, none]) dX9_best_22 (by show (4 : Nat) < 7; decide) rfl ?_
      refine sg_bipush (pc := 24) dX9_best_24 (by omega) (by decide) ?_
      refine sg_istore (pc := 26) (ls' := [some (vr a0), some (vi a1), some (vi a2), some (vi (-1)), some (vi 2147483647), some (vi 100), none]) dX9_best_26 (by show (5 : Nat) < 7; decide) rfl ?_
      exact h
    · replace h := h.2 c
      refine sg_iconst (pc := 15) dX9_best_15 (by omega) ?_
      exact st_ireturn (pc := 16) dX9_best_16 (Or.inl rfl) h

theorem sg_X9_best_28 {d bc bs : Nat} {a0 : Nat} {a1 : Int} {a2 : Int} {a3 : Int} {a4 : Int} {a5 : Int} {μ : Mem} {Q : Option (Option AV) → Mem → Prop}
    (h : (a5 < 0 → mK μ a0 = 10 ∧ ∃ (mc1 ms1 : Nat) (K1 : Mem → Prop), Cl d mc1 ms1 mX9_tell [vr a0, vl a4] μ (KV K1) ∧ mc1 ≤ bc ∧ ms1 ≤ bs ∧ (∀ m1, K1 m1 → Q (some (some (vi a3))) m1)) ∧ (¬ a5 < 0 → mK μ a0 = 10 ∧ ∃ (mc2 ms2 : Nat) (K2 : Nat → Mem → Prop), Cl d mc2 ms2 mX9_asItIs [vr a0] μ (KR K2) ∧ mc2 ≤ bc ∧ ms2 ≤ bs ∧ (∀ x1 m2, K2 x1 m2 → mK m2 x1 = 8 ∧ (mK m2 (mR m2 x1 0) = 1 ∧ (mK m2 (mR m2 (mR m2 x1 0) 4) = 20 ∧ ((0 : Int) ≤ a2 ∧ a2 < (mN m2 (mR m2 (mR m2 x1 0) 4) : Int)) ∧ (∀ m3, m3 = sD m2 (mR m2 (mR m2 x1 0) 4) a2 a5 → mK m3 a0 = 10 ∧ (mK m3 (mR m3 a0 5) = 26 ∧ ((0 : Int) ≤ a1 ∧ a1 < (mN m3 (mR m3 a0 5) : Int)) ∧ (∃ (mc3 ms3 : Nat) (K3 : Int → Mem → Prop), Cl d mc3 ms3 mX7_spiltOn [vr x1, vr (mR m3 (mR m3 a0 5) a1), vi 1] m3 (KI K3) ∧ mc3 ≤ bc - mc2 ∧ ms3 ≤ bs - ms2 ∧ (∀ x2 m4, K3 x2 m4 → mK m4 x1 = 8 ∧ ((a4 ≤ (mD m4 x1 6) → ∀ v1, v1 = w32 (a5 + (-1)) → Wp (d + 1) (bc - mc2 - mc3) (bs - ms2 - ms3) mX9_best 28 [some (vr a0), some (vi a1), some (vi a2), some (vi a3), some (vi a4), some (vi v1), none] [] m4 Q) ∧ (¬ a4 ≤ (mD m4 x1 6) → ∀ v2, v2 = mD m4 x1 6 → ∀ v3, v3 = w32 (a5 + (-1)) → Wp (d + 1) (bc - mc2 - mc3) (bs - ms2 - ms3) mX9_best 28 [some (vr a0), some (vi a1), some (vi a2), some (vi a5), some (vi v2), some (vi v3), none] [] m4 Q))))))))))) :
    Wp (d + 1) bc bs mX9_best 28 [some (vr a0), some (vi a1), some (vi a2), some (vi a3), some (vi a4), some (vi a5), none] [] μ Q := by
  refine st_iload (pc := 28) dX9_best_28 rfl ?_
  refine st_iflt (pc := 30) (tgt := 90) dX9_best_30 rfl (fun c => ?_) (fun c => ?_)
  · replace h := h.1 c
    refine st_aload_n (pc := 90) dX9_best_90 rfl rfl ?_
    refine st_iload (pc := 91) dX9_best_91 rfl ?_
    refine st_i2l (pc := 93) dX9_best_93 ?_
    obtain ⟨hk1, h⟩ := h
    obtain ⟨mc1, ms1, K1, hC, e1, e2, h⟩ := h
    refine sg_VV (pc := 94) (av := [vl a4]) (st := []) (K := K1) dX9_best_94 ck_9_272 rfl (by decide) hk1 (by show (0 : Nat) ≤ 8; decide) hC e1 e2 (fun m1 hK => ?_) rfl
    replace h := h m1 hK
    refine st_iload_n (pc := 97) dX9_best_97 rfl rfl ?_
    exact st_ireturn (pc := 98) dX9_best_98 (Or.inl rfl) h
  · replace h := h.2 c
    refine st_aload_n (pc := 33) dX9_best_33 rfl rfl ?_
    obtain ⟨hk2, h⟩ := h
    obtain ⟨mc2, ms2, K2, hC, e1, e2, h⟩ := h
    refine sg_VR (pc := 34) (av := []) (st := []) (K := K2) dX9_best_34 ck_9_242 rfl (by decide) hk2 (by show (0 : Nat) ≤ 8; decide) hC e1 e2 (fun x1 m2 hK => ?_) rfl
    replace h := h x1 m2 hK
    refine sg_astore (pc := 37) (ls' := [some (vr a0), some (vi a1), some (vi a2), some (vi a3), some (vi a4), some (vi a5), some (vr x1)]) dX9_best_37 (by show (6 : Nat) < 7; decide) rfl ?_
    refine st_aload (pc := 39) dX9_best_39 rfl ?_
    obtain ⟨hk3, h⟩ := h
    refine sg_gfR (pc := 41) (J := 0) dX9_best_41 fl_9_264 rfl hk3 ?_
    obtain ⟨hk4, h⟩ := h
    refine sg_gfR (pc := 44) (J := 4) dX9_best_44 fl_9_131 rfl hk4 ?_
    refine st_iload_n (pc := 47) dX9_best_47 rfl rfl ?_
    refine st_iload (pc := 48) dX9_best_48 rfl ?_
    obtain ⟨hk5, h⟩ := h
    obtain ⟨h1, h⟩ := h
    refine st_iastore (pc := 50) dX9_best_50 hk5 h1.1 h1.2 ?_
    refine Wp.nameM (fun m3 em3 => ?_)
    replace h := h m3 em3
    refine st_aload (pc := 51) dX9_best_51 rfl ?_
    refine st_aload_n (pc := 53) dX9_best_53 rfl rfl ?_
    obtain ⟨hk6, h⟩ := h
    refine sg_gfR (pc := 54) (J := 5) dX9_best_54 fl_9_40 rfl hk6 ?_
    refine st_iload_n (pc := 57) dX9_best_57 rfl rfl ?_
    obtain ⟨hk7, h⟩ := h
    obtain ⟨h1, h⟩ := h
    refine st_aaload (pc := 58) (t := 6) dX9_best_58 hk7 (fun _ => rfl) (by decide) (by decide) h1.1 h1.2 ?_
    refine sg_iconst (pc := 59) dX9_best_59 (by omega) ?_
    obtain ⟨mc3, ms3, K3, hC, e1, e2, h⟩ := h
    refine sg_VI (pc := 60) (av := [vr (mR m3 (mR m3 a0 5) a1), vi 1]) (st := []) (K := K3) dX9_best_60 ck_9_265 rfl (by decide) (by cases em3; exact hk3) (by show (0 : Nat) ≤ 8; decide) hC e1 e2 (fun x2 m4 hK => ?_) rfl
    replace h := h x2 m4 hK
    refine st_pop (pc := 63) dX9_best_63 rfl ?_
    refine st_aload (pc := 64) dX9_best_64 rfl ?_
    obtain ⟨hk8, h⟩ := h
    refine sg_gfI (pc := 66) (J := 6) dX9_best_66 fl_9_281 (by decide) rfl hk8 ?_
    refine st_iload (pc := 69) dX9_best_69 rfl ?_
    refine st_icmpge (pc := 71) (tgt := 84) dX9_best_71 rfl (fun c => ?_) (fun c => ?_)
    · replace h := h.1 c
      refine sg_iinc (pc := 84) (ls' := [some (vr a0), some (vi a1), some (vi a2), some (vi a3), some (vi a4), some (vi (w32 (a5 + (-1)))), some (vr x1)]) dX9_best_84 rfl rfl ?_
      refine Wp.nameL (ls2 := fun v => [some (vr a0), some (vi a1), some (vi a2), some (vi a3), some (vi a4), some (vi v), some (vr x1)]) 5 _ rfl (fun _ => rfl) (fun v1 ev1 => ?_)
      replace h := h v1 ev1
      refine st_goto (pc := 87) dX9_best_87 rfl ?_
      refine Wp.drop 6 rfl ?_
      exact h
    · replace h := h.2 c
      refine st_aload (pc := 74) dX9_best_74 rfl ?_
      refine sg_gfI (pc := 76) (J := 6) dX9_best_76 fl_9_281 (by decide) rfl hk8 ?_
      refine sg_istore (pc := 79) (ls' := [some (vr a0), some (vi a1), some (vi a2), some (vi a3), some (vi (mD m4 x1 6)), some (vi a5), some (vr x1)]) dX9_best_79 (by show (4 : Nat) < 7; decide) rfl ?_
      refine Wp.nameL (ls2 := fun v => [some (vr a0), some (vi a1), some (vi a2), some (vi a3), some (vi v), some (vi a5), some (vr x1)]) 4 _ rfl (fun _ => rfl) (fun v2 ev2 => ?_)
      replace h := h v2 ev2
      refine st_iload (pc := 81) dX9_best_81 rfl ?_
      refine sg_istore_n (pc := 83) (ls' := [some (vr a0), some (vi a1), some (vi a2), some (vi a5), some (vi v2), some (vi a5), some (vr x1)]) dX9_best_83 rfl (by show (3 : Nat) < 7; decide) rfl ?_
      refine sg_iinc (pc := 84) (ls' := [some (vr a0), some (vi a1), some (vi a2), some (vi a5), some (vi v2), some (vi (w32 (a5 + (-1)))), some (vr x1)]) dX9_best_84 rfl rfl ?_
      refine Wp.nameL (ls2 := fun v => [some (vr a0), some (vi a1), some (vi a2), some (vi a5), some (vi v2), some (vi v), some (vr x1)]) 5 _ rfl (fun _ => rfl) (fun v3 ev3 => ?_)
      replace h := h v3 ev3
      refine st_goto (pc := 87) dX9_best_87 rfl ?_
      refine Wp.drop 6 rfl ?_
      exact h

theorem sg_X9_lid_0 {d bc bs : Nat} {a0 : Nat} {a1 : Int} {a2 : Int} {μ : Mem} {Q : Option (Option AV) → Mem → Prop}
    (h : ∃ (mc1 ms1 : Nat) (K1 : Int → Mem → Prop), Cl d mc1 ms1 mX9_isWalk [vi a1] μ (KI K1) ∧ mc1 ≤ bc ∧ ms1 ≤ bs ∧ (∀ x1 m1, K1 x1 m1 → (x1 = 0 → Q (some (some (vi (-1)))) m1) ∧ (¬ x1 = 0 → ∃ (mc2 ms2 : Nat) (K2 : Int → Mem → Prop), Cl d mc2 ms2 mX9_isIn [vi a2, vi 0, vi 9999] m1 (KI K2) ∧ mc2 ≤ bc - mc1 ∧ ms2 ≤ bs - ms1 ∧ (∀ x2 m2, K2 x2 m2 → (¬ x2 = 0 → Wp (d + 1) (bc - mc1 - mc2) (bs - ms1 - ms2) mX9_lid 22 [some (vr a0), some (vi a1), some (vi a2), some (vi 0), none] [] m2 Q) ∧ (x2 = 0 → Q (some (some (vi (-1)))) m2))))) :
    Wp (d + 1) bc bs mX9_lid 0 [some (vr a0), some (vi a1), some (vi a2), none, none] [] μ Q := by
  refine st_iload_n (pc := 0) dX9_lid_0 rfl rfl ?_
  obtain ⟨mc1, ms1, K1, hC, e1, e2, h⟩ := h
  refine sg_SI (pc := 1) (av := [vi a1]) (st := []) (K := K1) dX9_lid_1 ck_9_193 rfl (by show (0 : Nat) ≤ 8; decide) hC e1 e2 (fun x1 m1 hK => ?_) rfl
  replace h := h x1 m1 hK
  refine st_ifeq (pc := 4) (tgt := 18) dX9_lid_4 rfl (fun c => ?_) (fun c => ?_)
  · replace h := h.1 c
    refine sg_iconst (pc := 18) dX9_lid_18 (by omega) ?_
    exact st_ireturn (pc := 19) dX9_lid_19 (Or.inl rfl) h
  · replace h := h.2 c
    refine st_iload_n (pc := 7) dX9_lid_7 rfl rfl ?_
    refine sg_iconst (pc := 8) dX9_lid_8 (by omega) ?_
    refine sg_sipush (pc := 9) dX9_lid_9 (by omega) (by decide) ?_
    obtain ⟨mc2, ms2, K2, hC, e1, e2, h⟩ := h
    refine sg_SI (pc := 12) (av := [vi a2, vi 0, vi 9999]) (st := []) (K := K2) dX9_lid_12 ck_9_102 rfl (by show (0 : Nat) ≤ 8; decide) hC e1 e2 (fun x2 m2 hK => ?_) rfl
    replace h := h x2 m2 hK
    refine st_ifne (pc := 15) (tgt := 20) dX9_lid_15 rfl (fun c => ?_) (fun c => ?_)
    · replace h := h.1 c
      refine sg_iconst (pc := 20) dX9_lid_20 (by omega) ?_
      refine sg_istore_n (pc := 21) (ls' := [some (vr a0), some (vi a1), some (vi a2), some (vi 0), none]) dX9_lid_21 rfl (by show (3 : Nat) < 5; decide) rfl ?_
      exact h
    · replace h := h.2 c
      refine sg_iconst (pc := 18) dX9_lid_18 (by omega) ?_
      exact st_ireturn (pc := 19) dX9_lid_19 (Or.inl rfl) h

theorem sg_X9_lid_22 {d bc bs : Nat} {a0 : Nat} {a1 : Int} {a2 : Int} {a3 : Int} {μ : Mem} {Q : Option (Option AV) → Mem → Prop}
    (h : (100 < a3 → Q (some (some (vi (-2)))) μ) ∧ (¬ 100 < a3 → mK μ a0 = 10 ∧ ∃ (mc1 ms1 : Nat) (K1 : Nat → Mem → Prop), Cl d mc1 ms1 mX9_asItIs [vr a0] μ (KR K1) ∧ mc1 ≤ bc ∧ ms1 ≤ bs ∧ (∀ x1 m1, K1 x1 m1 → mK m1 x1 = 8 ∧ (mK m1 (mR m1 x1 0) = 1 ∧ (mK m1 (mR m1 (mR m1 x1 0) 3) = 20 ∧ ((0 : Int) ≤ 4 ∧ 4 < (mN m1 (mR m1 (mR m1 x1 0) 3) : Int)) ∧ (∀ m2, m2 = sD m1 (mR m1 (mR m1 x1 0) 3) 4 a3 → mK m2 a0 = 10 ∧ (mK m2 (mR m2 a0 5) = 26 ∧ ((0 : Int) ≤ a1 ∧ a1 < (mN m2 (mR m2 a0 5) : Int)) ∧ (∃ (mc2 ms2 : Nat) (K2 : Int → Mem → Prop), Cl d mc2 ms2 mX7_spiltOn [vr x1, vr (mR m2 (mR m2 a0 5) a1), vi 1] m2 (KI K2) ∧ mc2 ≤ bc - mc1 ∧ ms2 ≤ bs - ms1 ∧ (∀ x2 m3, K2 x2 m3 → (a2 < x2 → ∀ v1, v1 = w32 (a3 + 1) → Wp (d + 1) (bc - mc1 - mc2) (bs - ms1 - ms2) mX9_lid 22 [some (vr a0), some (vi a1), some (vi a2), some (vi v1), none] [] m3 Q) ∧ (¬ a2 < x2 → Q (some (some (vi a3))) m3)))))))))) :
    Wp (d + 1) bc bs mX9_lid 22 [some (vr a0), some (vi a1), some (vi a2), some (vi a3), none] [] μ Q := by
  refine st_iload_n (pc := 22) dX9_lid_22 rfl rfl ?_
  refine sg_bipush (pc := 23) dX9_lid_23 (by omega) (by decide) ?_
  refine st_icmpgt (pc := 25) (tgt := 69) dX9_lid_25 rfl (fun c => ?_) (fun c => ?_)
  · replace h := h.1 c
    refine sg_bipush (pc := 69) dX9_lid_69 (by omega) (by decide) ?_
    exact st_ireturn (pc := 71) dX9_lid_71 (Or.inl rfl) h
  · replace h := h.2 c
    refine st_aload_n (pc := 28) dX9_lid_28 rfl rfl ?_
    obtain ⟨hk1, h⟩ := h
    obtain ⟨mc1, ms1, K1, hC, e1, e2, h⟩ := h
    refine sg_VR (pc := 29) (av := []) (st := []) (K := K1) dX9_lid_29 ck_9_242 rfl (by decide) hk1 (by show (0 : Nat) ≤ 8; decide) hC e1 e2 (fun x1 m1 hK => ?_) rfl
    replace h := h x1 m1 hK
    refine sg_astore (pc := 32) (ls' := [some (vr a0), some (vi a1), some (vi a2), some (vi a3), some (vr x1)]) dX9_lid_32 (by show (4 : Nat) < 5; decide) rfl ?_
    refine st_aload (pc := 34) dX9_lid_34 rfl ?_
    obtain ⟨hk2, h⟩ := h
    refine sg_gfR (pc := 36) (J := 0) dX9_lid_36 fl_9_264 rfl hk2 ?_
    obtain ⟨hk3, h⟩ := h
    refine sg_gfR (pc := 39) (J := 3) dX9_lid_39 fl_9_124 rfl hk3 ?_
    refine sg_iconst (pc := 42) dX9_lid_42 (by omega) ?_
    refine st_iload_n (pc := 43) dX9_lid_43 rfl rfl ?_
    obtain ⟨hk4, h⟩ := h
    obtain ⟨h1, h⟩ := h
    refine st_iastore (pc := 44) dX9_lid_44 hk4 h1.1 h1.2 ?_
    refine Wp.nameM (fun m2 em2 => ?_)
    replace h := h m2 em2
    refine st_aload (pc := 45) dX9_lid_45 rfl ?_
    refine st_aload_n (pc := 47) dX9_lid_47 rfl rfl ?_
    obtain ⟨hk5, h⟩ := h
    refine sg_gfR (pc := 48) (J := 5) dX9_lid_48 fl_9_40 rfl hk5 ?_
    refine st_iload_n (pc := 51) dX9_lid_51 rfl rfl ?_
    obtain ⟨hk6, h⟩ := h
    obtain ⟨h1, h⟩ := h
    refine st_aaload (pc := 52) (t := 6) dX9_lid_52 hk6 (fun _ => rfl) (by decide) (by decide) h1.1 h1.2 ?_
    refine sg_iconst (pc := 53) dX9_lid_53 (by omega) ?_
    obtain ⟨mc2, ms2, K2, hC, e1, e2, h⟩ := h
    refine sg_VI (pc := 54) (av := [vr (mR m2 (mR m2 a0 5) a1), vi 1]) (st := []) (K := K2) dX9_lid_54 ck_9_265 rfl (by decide) (by cases em2; exact hk2) (by show (0 : Nat) ≤ 8; decide) hC e1 e2 (fun x2 m3 hK => ?_) rfl
    replace h := h x2 m3 hK
    refine st_iload_n (pc := 57) dX9_lid_57 rfl rfl ?_
    refine st_icmpgt (pc := 58) (tgt := 63) dX9_lid_58 rfl (fun c => ?_) (fun c => ?_)
    · replace h := h.1 c
      refine sg_iinc (pc := 63) (ls' := [some (vr a0), some (vi a1), some (vi a2), some (vi (w32 (a3 + 1))), some (vr x1)]) dX9_lid_63 rfl rfl ?_
      refine Wp.nameL (ls2 := fun v => [some (vr a0), some (vi a1), some (vi a2), some (vi v), some (vr x1)]) 3 _ rfl (fun _ => rfl) (fun v1 ev1 => ?_)
      replace h := h v1 ev1
      refine st_goto (pc := 66) dX9_lid_66 rfl ?_
      refine Wp.drop 4 rfl ?_
      exact h
    · replace h := h.2 c
      refine st_iload_n (pc := 61) dX9_lid_61 rfl rfl ?_
      exact st_ireturn (pc := 62) dX9_lid_62 (Or.inl rfl) h

theorem sg_X9_form_0 {d bc bs : Nat} {a0 : Nat} {a1 : Int} {μ : Mem} {Q : Option (Option AV) → Mem → Prop}
    (h : ∃ (mc1 ms1 : Nat) (K1 : Int → Mem → Prop), Cl d mc1 ms1 mX9_isIn [vi a1, vi 1, vi 15] μ (KI K1) ∧ mc1 ≤ bc ∧ ms1 ≤ bs ∧ (∀ x1 m1, K1 x1 m1 → (¬ x1 = 0 → Wp (d + 1) (bc - mc1) (bs - ms1) mX9_form 14 [some (vr a0), some (vi a1), some (vi 2), none, none, none] [] m1 Q) ∧ (x1 = 0 → Q (some (some (vi (-1)))) m1))) :
    Wp (d + 1) bc bs mX9_form 0 [some (vr a0), some (vi a1), none, none, none, none] [] μ Q := by
  refine st_iload_n (pc := 0) dX9_form_0 rfl rfl ?_
  refine sg_iconst (pc := 1) dX9_form_1 (by omega) ?_
  refine sg_bipush (pc := 2) dX9_form_2 (by omega) (by decide) ?_
  obtain ⟨mc1, ms1, K1, hC, e1, e2, h⟩ := h
  refine sg_SI (pc := 4) (av := [vi a1, vi 1, vi 15]) (st := []) (K := K1) dX9_form_4 ck_9_102 rfl (by show (0 : Nat) ≤ 8; decide) hC e1 e2 (fun x1 m1 hK => ?_) rfl
  replace h := h x1 m1 hK
  refine st_ifne (pc := 7) (tgt := 12) dX9_form_7 rfl (fun c => ?_) (fun c => ?_)
  · replace h := h.1 c
    refine sg_iconst (pc := 12) dX9_form_12 (by omega) ?_
    refine sg_istore_n (pc := 13) (ls' := [some (vr a0), some (vi a1), some (vi 2), none, none, none]) dX9_form_13 rfl (by show (2 : Nat) < 6; decide) rfl ?_
    exact h
  · replace h := h.2 c
    refine sg_iconst (pc := 10) dX9_form_10 (by omega) ?_
    exact st_ireturn (pc := 11) dX9_form_11 (Or.inl rfl) h

theorem sg_X9_form_14 {d bc bs : Nat} {a0 : Nat} {a1 : Int} {a2 : Int} {μ : Mem} {Q : Option (Option AV) → Mem → Prop}
    (h : (20 < a2 → Q (some (some (vi (-2)))) μ) ∧ (¬ 20 < a2 → mK μ a0 = 10 ∧ ∃ (mc1 ms1 : Nat) (K1 : Nat → Mem → Prop), Cl d mc1 ms1 mX9_asItIs [vr a0] μ (KR K1) ∧ mc1 ≤ bc ∧ ms1 ≤ bs ∧ (∀ x1 m1, K1 x1 m1 → mK m1 x1 = 8 ∧ (mK m1 (mR m1 x1 0) = 1 ∧ (∀ m2, m2 = sD m1 (mR m1 x1 0) 0 (w32 (a2 - 1)) → ∃ (mc2 ms2 : Nat) (K2 : Mem → Prop), Cl d mc2 ms2 mX0_openAll [vr (mR m2 x1 0)] m2 (KV K2) ∧ mc2 ≤ bc - mc1 ∧ ms2 ≤ bs - ms1 ∧ (∀ m3, K2 m3 → Wp (d + 1) (bc - mc1 - mc2) (bs - ms1 - ms2) mX9_form 48 [some (vr a0), some (vi a1), some (vi a2), some (vr x1), some (vi 1), some (vi 0)] [] m3 Q)))))) :
    Wp (d + 1) bc bs mX9_form 14 [some (vr a0), some (vi a1), some (vi a2), none, none, none] [] μ Q := by
  refine st_iload_n (pc := 14) dX9_form_14 rfl rfl ?_
  refine sg_bipush (pc := 15) dX9_form_15 (by omega) (by decide) ?_
  refine st_icmpgt (pc := 17) (tgt := 108) dX9_form_17 rfl (fun c => ?_) (fun c => ?_)
  · replace h := h.1 c
    refine sg_bipush (pc := 108) dX9_form_108 (by omega) (by decide) ?_
    exact st_ireturn (pc := 110) dX9_form_110 (Or.inl rfl) h
  · replace h := h.2 c
    refine st_aload_n (pc := 20) dX9_form_20 rfl rfl ?_
    obtain ⟨hk1, h⟩ := h
    obtain ⟨mc1, ms1, K1, hC, e1, e2, h⟩ := h
    refine sg_VR (pc := 21) (av := []) (st := []) (K := K1) dX9_form_21 ck_9_242 rfl (by decide) hk1 (by show (0 : Nat) ≤ 8; decide) hC e1 e2 (fun x1 m1 hK => ?_) rfl
    replace h := h x1 m1 hK
    refine sg_astore_n (pc := 24) (ls' := [some (vr a0), some (vi a1), some (vi a2), some (vr x1), none, none]) dX9_form_24 rfl (by show (3 : Nat) < 6; decide) rfl ?_
    refine st_aload_n (pc := 25) dX9_form_25 rfl rfl ?_
    obtain ⟨hk2, h⟩ := h
    refine sg_gfR (pc := 26) (J := 0) dX9_form_26 fl_9_264 rfl hk2 ?_
    refine st_iload_n (pc := 29) dX9_form_29 rfl rfl ?_
    refine sg_iconst (pc := 30) dX9_form_30 (by omega) ?_
    refine st_isub (pc := 31) dX9_form_31 ?_
    obtain ⟨hk3, h⟩ := h
    refine sg_pfI (pc := 32) (J := 0) dX9_form_32 fl_9_106 rfl (Or.inl rfl) hk3 ?_
    refine Wp.nameM (fun m2 em2 => ?_)
    replace h := h m2 em2
    refine st_aload_n (pc := 35) dX9_form_35 rfl rfl ?_
    refine sg_gfR (pc := 36) (J := 0) dX9_form_36 fl_9_264 rfl (by cases em2; exact hk2) ?_
    obtain ⟨mc2, ms2, K2, hC, e1, e2, h⟩ := h
    refine sg_VV (pc := 39) (av := []) (st := []) (K := K2) dX9_form_39 ck_9_115 rfl (by decide) (by cases em2; exact hk3) (by show (0 : Nat) ≤ 8; decide) hC e1 e2 (fun m3 hK => ?_) rfl
    replace h := h m3 hK
    refine sg_iconst (pc := 42) dX9_form_42 (by omega) ?_
    refine sg_istore (pc := 43) (ls' := [some (vr a0), some (vi a1), some (vi a2), some (vr x1), some (vi 1), none]) dX9_form_43 (by show (4 : Nat) < 6; decide) rfl ?_
    refine sg_iconst (pc := 45) dX9_form_45 (by omega) ?_
    refine sg_istore (pc := 46) (ls' := [some (vr a0), some (vi a1), some (vi a2), some (vr x1), some (vi 1), some (vi 0)]) dX9_form_46 (by show (5 : Nat) < 6; decide) rfl ?_
    exact h

theorem sg_X9_form_48 {d bc bs : Nat} {a0 : Nat} {a1 : Int} {a2 : Int} {a3 : Nat} {a4 : Int} {a5 : Int} {μ : Mem} {Q : Option (Option AV) → Mem → Prop}
    (h : (4 ≤ a5 → Wp (d + 1) bc bs mX9_form 95 [some (vr a0), some (vi a1), some (vi a2), some (vr a3), some (vi a4), some (vi a5)] [] μ Q) ∧ (¬ 4 ≤ a5 → (a4 = 0 → Wp (d + 1) bc bs mX9_form 95 [some (vr a0), some (vi a1), some (vi a2), some (vr a3), some (vi a4), some (vi a5)] [] μ Q) ∧ (¬ a4 = 0 → ((bAnd (bShr a1 a5) 1) = 0 → ∀ v1, v1 = w32 (a5 + 1) → Wp (d + 1) bc bs mX9_form 48 [some (vr a0), some (vi a1), some (vi a2), some (vr a3), some (vi 1), some (vi v1)] [] μ Q) ∧ (¬ (bAnd (bShr a1 a5) 1) = 0 → mK μ a0 = 10 ∧ (mK μ (mR μ a0 5) = 26 ∧ ((0 : Int) ≤ a5 ∧ a5 < (mN μ (mR μ a0 5) : Int)) ∧ (mK μ a3 = 8 ∧ ∃ (mc1 ms1 : Nat) (K1 : Int → Mem → Prop), Cl d mc1 ms1 mX7_keepsAll [vr a3, vr (mR μ (mR μ a0 5) a5)] μ (KI K1) ∧ mc1 ≤ bc ∧ ms1 ≤ bs ∧ (∀ x1 m1, K1 x1 m1 → (x1 = 0 → ∀ v2, v2 = w32 (a5 + 1) → Wp (d + 1) (bc - mc1) (bs - ms1) mX9_form 48 [some (vr a0), some (vi a1), some (vi a2), some (vr a3), some (vi 0), some (vi v2)] [] m1 Q) ∧ (¬ x1 = 0 → ∀ v3, v3 = w32 (a5 + 1) → Wp (d + 1) (bc - mc1) (bs - ms1) mX9_form 48 [some (vr a0), some (vi a1), some (vi a2), some (vr a3), some (vi 1), some (vi v3)] [] m1 Q)))))))) :
    Wp (d + 1) bc bs mX9_form 48 [some (vr a0), some (vi a1), some (vi a2), some (vr a3), some (vi a4), some (vi a5)] [] μ Q := by
  refine st_iload (pc := 48) dX9_form_48 rfl ?_
  refine sg_iconst (pc := 50) dX9_form_50 (by omega) ?_
  refine st_icmpge (pc := 51) (tgt := 95) dX9_form_51 rfl (fun c => ?_) (fun c => ?_)
  · replace h := h.1 c
    exact h
  · replace h := h.2 c
    refine st_iload (pc := 54) dX9_form_54 rfl ?_
    refine st_ifeq (pc := 56) (tgt := 95) dX9_form_56 rfl (fun c => ?_) (fun c => ?_)
    · replace h := h.1 c
      exact h
    · replace h := h.2 c
      refine st_iload_n (pc := 59) dX9_form_59 rfl rfl ?_
      refine st_iload (pc := 60) dX9_form_60 rfl ?_
      refine st_ishr (pc := 62) dX9_form_62 ?_
      refine sg_iconst (pc := 63) dX9_form_63 (by omega) ?_
      refine st_iand (pc := 64) dX9_form_64 ?_
      refine st_ifeq (pc := 65) (tgt := 82) dX9_form_65 rfl (fun c => ?_) (fun c => ?_)
      · replace h := h.1 c
        refine sg_iconst (pc := 82) dX9_form_82 (by omega) ?_
        refine st_goto (pc := 83) dX9_form_83 rfl ?_
        refine sg_istore (pc := 87) (ls' := [some (vr a0), some (vi a1), some (vi a2), some (vr a3), some (vi 1), some (vi a5)]) dX9_form_87 (by show (4 : Nat) < 6; decide) rfl ?_
        refine sg_iinc (pc := 89) (ls' := [some (vr a0), some (vi a1), some (vi a2), some (vr a3), some (vi 1), some (vi (w32 (a5 + 1)))]) dX9_form_89 rfl rfl ?_
        refine Wp.nameL (ls2 := fun v => [some (vr a0), some (vi a1), some (vi a2), some (vr a3), some (vi 1), some (vi v)]) 5 _ rfl (fun _ => rfl) (fun v1 ev1 => ?_)
        replace h := h v1 ev1
        refine st_goto (pc := 92) dX9_form_92 rfl ?_
        exact h
      · replace h := h.2 c
        refine st_aload_n (pc := 68) dX9_form_68 rfl rfl ?_
        refine st_aload_n (pc := 69) dX9_form_69 rfl rfl ?_
        obtain ⟨hk1, h⟩ := h
        refine sg_gfR (pc := 70) (J := 5) dX9_form_70 fl_9_40 rfl hk1 ?_
        refine st_iload (pc := 73) dX9_form_73 rfl ?_
        obtain ⟨hk2, h⟩ := h
        obtain ⟨h1, h⟩ := h
        refine st_aaload (pc := 75) (t := 6) dX9_form_75 hk2 (fun _ => rfl) (by decide) (by decide) h1.1 h1.2 ?_
        obtain ⟨hk3, h⟩ := h
        obtain ⟨mc1, ms1, K1, hC, e1, e2, h⟩ := h
        refine sg_VI (pc := 76) (av := [vr (mR μ (mR μ a0 5) a5)]) (st := []) (K := K1) dX9_form_76 ck_9_300 rfl (by decide) hk3 (by show (0 : Nat) ≤ 8; decide) hC e1 e2 (fun x1 m1 hK => ?_) rfl
        replace h := h x1 m1 hK
        refine st_ifeq (pc := 79) (tgt := 86) dX9_form_79 rfl (fun c => ?_) (fun c => ?_)
        · replace h := h.1 c
          refine sg_iconst (pc := 86) dX9_form_86 (by omega) ?_
          refine sg_istore (pc := 87) (ls' := [some (vr a0), some (vi a1), some (vi a2), some (vr a3), some (vi 0), some (vi a5)]) dX9_form_87 (by show (4 : Nat) < 6; decide) rfl ?_
          refine sg_iinc (pc := 89) (ls' := [some (vr a0), some (vi a1), some (vi a2), some (vr a3), some (vi 0), some (vi (w32 (a5 + 1)))]) dX9_form_89 rfl rfl ?_
          refine Wp.nameL (ls2 := fun v => [some (vr a0), some (vi a1), some (vi a2), some (vr a3), some (vi 0), some (vi v)]) 5 _ rfl (fun _ => rfl) (fun v2 ev2 => ?_)
          replace h := h v2 ev2
          refine st_goto (pc := 92) dX9_form_92 rfl ?_
          exact h
        · replace h := h.2 c
          refine sg_iconst (pc := 82) dX9_form_82 (by omega) ?_
          refine st_goto (pc := 83) dX9_form_83 rfl ?_
          refine sg_istore (pc := 87) (ls' := [some (vr a0), some (vi a1), some (vi a2), some (vr a3), some (vi 1), some (vi a5)]) dX9_form_87 (by show (4 : Nat) < 6; decide) rfl ?_
          refine sg_iinc (pc := 89) (ls' := [some (vr a0), some (vi a1), some (vi a2), some (vr a3), some (vi 1), some (vi (w32 (a5 + 1)))]) dX9_form_89 rfl rfl ?_
          refine Wp.nameL (ls2 := fun v => [some (vr a0), some (vi a1), some (vi a2), some (vr a3), some (vi 1), some (vi v)]) 5 _ rfl (fun _ => rfl) (fun v3 ev3 => ?_)
          replace h := h v3 ev3
          refine st_goto (pc := 92) dX9_form_92 rfl ?_
          exact h

theorem sg_X9_form_95 {d bc bs : Nat} {a0 : Nat} {a1 : Int} {a2 : Int} {a3 : Nat} {a4 : Int} {a5 : Int} {μ : Mem} {Q : Option (Option AV) → Mem → Prop}
    (h : (a4 = 0 → ∀ v1, v1 = w32 (a2 + 1) → Wp (d + 1) bc bs mX9_form 14 [some (vr a0), some (vi a1), some (vi v1), none, none, none] [] μ Q) ∧ (¬ a4 = 0 → Q (some (some (vi a2))) μ)) :
    Wp (d + 1) bc bs mX9_form 95 [some (vr a0), some (vi a1), some (vi a2), some (vr a3), some (vi a4), some (vi a5)] [] μ Q := by
  refine st_iload (pc := 95) dX9_form_95 rfl ?_
  refine st_ifeq (pc := 97) (tgt := 102) dX9_form_97 rfl (fun c => ?_) (fun c => ?_)
  · replace h := h.1 c
    refine sg_iinc (pc := 102) (ls' := [some (vr a0), some (vi a1), some (vi (w32 (a2 + 1))), some (vr a3), some (vi a4), some (vi a5)]) dX9_form_102 rfl rfl ?_
    refine Wp.nameL (ls2 := fun v => [some (vr a0), some (vi a1), some (vi v), some (vr a3), some (vi a4), some (vi a5)]) 2 _ rfl (fun _ => rfl) (fun v1 ev1 => ?_)
    replace h := h v1 ev1
    refine st_goto (pc := 105) dX9_form_105 rfl ?_
    refine Wp.drop 3 rfl ?_
    refine Wp.drop 4 rfl ?_
    refine Wp.drop 5 rfl ?_
    exact h
  · replace h := h.2 c
    refine st_iload_n (pc := 100) dX9_form_100 rfl rfl ?_
    exact st_ireturn (pc := 101) dX9_form_101 (Or.inl rfl) h

theorem sg_X9_turn_0 {d bc bs : Nat} {a0 : Nat} {a1 : Int} {a2 : Int} {μ : Mem} {Q : Option (Option AV) → Mem → Prop}
    (h : ∃ (mc1 ms1 : Nat) (K1 : Int → Mem → Prop), Cl d mc1 ms1 mX9_isWalk [vi a1] μ (KI K1) ∧ mc1 ≤ bc ∧ ms1 ≤ bs ∧ (∀ x1 m1, K1 x1 m1 → (x1 = 0 → Q (some (some (vi (-1)))) m1) ∧ (¬ x1 = 0 → ∃ (mc2 ms2 : Nat) (K2 : Int → Mem → Prop), Cl d mc2 ms2 mX9_isIn [vi a2, vi 0, vi 1000] m1 (KI K2) ∧ mc2 ≤ bc - mc1 ∧ ms2 ≤ bs - ms1 ∧ (∀ x2 m2, K2 x2 m2 → (¬ x2 = 0 → mK m2 a0 = 10 ∧ ∃ (mc3 ms3 : Nat) (K3 : Nat → Mem → Prop), Cl d mc3 ms3 mX9_asItIs [vr a0] m2 (KR K3) ∧ mc3 ≤ bc - mc1 - mc2 ∧ ms3 ≤ bs - ms1 - ms2 ∧ (∀ x3 m3, K3 x3 m3 → mK m3 a0 = 10 ∧ (mK m3 (mR m3 a0 5) = 26 ∧ ((0 : Int) ≤ a1 ∧ a1 < (mN m3 (mR m3 a0 5) : Int)) ∧ (mK m3 x3 = 8 ∧ ∃ (mc4 ms4 : Nat) (K4 : Int → Mem → Prop), Cl d mc4 ms4 mX7_spiltOn [vr x3, vr (mR m3 (mR m3 a0 5) a1), vi 1] m3 (KI K4) ∧ mc4 ≤ bc - mc1 - mc2 - mc3 ∧ ms4 ≤ bs - ms1 - ms2 - ms3 ∧ (∀ x4 m4, K4 x4 m4 → mK m4 a0 = 10 ∧ ∃ (mc5 ms5 : Nat) (K5 : Mem → Prop), Cl d mc5 ms5 mX9_tell [vr a0, vl x4] m4 (KV K5) ∧ mc5 ≤ bc - mc1 - mc2 - mc3 - mc4 ∧ ms5 ≤ bs - ms1 - ms2 - ms3 - ms4 ∧ (∀ m5, K5 m5 → mK m5 a0 = 10 ∧ ∃ (mc6 ms6 : Nat) (K6 : Nat → Mem → Prop), Cl d mc6 ms6 mX9_asItIs [vr a0] m5 (KR K6) ∧ mc6 ≤ bc - mc1 - mc2 - mc3 - mc4 - mc5 ∧ ms6 ≤ bs - ms1 - ms2 - ms3 - ms4 - ms5 ∧ (∀ x5 m6, K6 x5 m6 → mK m6 a0 = 10 ∧ (mK m6 (mR m6 a0 5) = 26 ∧ ((0 : Int) ≤ a1 ∧ a1 < (mN m6 (mR m6 a0 5) : Int)) ∧ (mK m6 x5 = 8 ∧ ∃ (mc7 ms7 : Nat) (K7 : Int → Mem → Prop), Cl d mc7 ms7 mX7_spiltWithTurn [vr x5, vr (mR m6 (mR m6 a0 5) a1), vi a2] m6 (KI K7) ∧ mc7 ≤ bc - mc1 - mc2 - mc3 - mc4 - mc5 - mc6 ∧ ms7 ≤ bs - ms1 - ms2 - ms3 - ms4 - ms5 - ms6 ∧ (∀ x6 m7, K7 x6 m7 → Q (some (some (vi x6))) m7)))))))))) ∧ (x2 = 0 → Q (some (some (vi (-1)))) m2))))) :
    Wp (d + 1) bc bs mX9_turn 0 [some (vr a0), some (vi a1), some (vi a2)] [] μ Q := by
  refine st_iload_n (pc := 0) dX9_turn_0 rfl rfl ?_
  obtain ⟨mc1, ms1, K1, hC, e1, e2, h⟩ := h
  refine sg_SI (pc := 1) (av := [vi a1]) (st := []) (K := K1) dX9_turn_1 ck_9_193 rfl (by show (0 : Nat) ≤ 8; decide) hC e1 e2 (fun x1 m1 hK => ?_) rfl
  replace h := h x1 m1 hK
  refine st_ifeq (pc := 4) (tgt := 18) dX9_turn_4 rfl (fun c => ?_) (fun c => ?_)
  · replace h := h.1 c
    refine sg_iconst (pc := 18) dX9_turn_18 (by omega) ?_
    exact st_ireturn (pc := 19) dX9_turn_19 (Or.inl rfl) h
  · replace h := h.2 c
    refine st_iload_n (pc := 7) dX9_turn_7 rfl rfl ?_
    refine sg_iconst (pc := 8) dX9_turn_8 (by omega) ?_
    refine sg_sipush (pc := 9) dX9_turn_9 (by omega) (by decide) ?_
    obtain ⟨mc2, ms2, K2, hC, e1, e2, h⟩ := h
    refine sg_SI (pc := 12) (av := [vi a2, vi 0, vi 1000]) (st := []) (K := K2) dX9_turn_12 ck_9_102 rfl (by show (0 : Nat) ≤ 8; decide) hC e1 e2 (fun x2 m2 hK => ?_) rfl
    replace h := h x2 m2 hK
    refine st_ifne (pc := 15) (tgt := 20) dX9_turn_15 rfl (fun c => ?_) (fun c => ?_)
    · replace h := h.1 c
      refine st_aload_n (pc := 20) dX9_turn_20 rfl rfl ?_
      refine st_aload_n (pc := 21) dX9_turn_21 rfl rfl ?_
      obtain ⟨hk1, h⟩ := h
      obtain ⟨mc3, ms3, K3, hC, e1, e2, h⟩ := h
      refine sg_VR (pc := 22) (av := []) (st := [vr a0]) (K := K3) dX9_turn_22 ck_9_242 rfl (by decide) hk1 (by show (1 : Nat) ≤ 8; decide) hC e1 e2 (fun x3 m3 hK => ?_) rfl
      replace h := h x3 m3 hK
      refine st_aload_n (pc := 25) dX9_turn_25 rfl rfl ?_
      obtain ⟨hk2, h⟩ := h
      refine sg_gfR (pc := 26) (J := 5) dX9_turn_26 fl_9_40 rfl hk2 ?_
      refine st_iload_n (pc := 29) dX9_turn_29 rfl rfl ?_
      obtain ⟨hk3, h⟩ := h
      obtain ⟨h1, h⟩ := h
      refine st_aaload (pc := 30) (t := 6) dX9_turn_30 hk3 (fun _ => rfl) (by decide) (by decide) h1.1 h1.2 ?_
      refine sg_iconst (pc := 31) dX9_turn_31 (by omega) ?_
      obtain ⟨hk4, h⟩ := h
      obtain ⟨mc4, ms4, K4, hC, e1, e2, h⟩ := h
      refine sg_VI (pc := 32) (av := [vr (mR m3 (mR m3 a0 5) a1), vi 1]) (st := [vr a0]) (K := K4) dX9_turn_32 ck_9_265 rfl (by decide) hk4 (by show (1 : Nat) ≤ 8; decide) hC e1 e2 (fun x4 m4 hK => ?_) rfl
      replace h := h x4 m4 hK
      refine st_i2l (pc := 35) dX9_turn_35 ?_
      obtain ⟨hk5, h⟩ := h
      obtain ⟨mc5, ms5, K5, hC, e1, e2, h⟩ := h
      refine sg_VV (pc := 36) (av := [vl x4]) (st := []) (K := K5) dX9_turn_36 ck_9_272 rfl (by decide) hk5 (by show (0 : Nat) ≤ 8; decide) hC e1 e2 (fun m5 hK => ?_) rfl
      replace h := h m5 hK
      refine st_aload_n (pc := 39) dX9_turn_39 rfl rfl ?_
      obtain ⟨hk6, h⟩ := h
      obtain ⟨mc6, ms6, K6, hC, e1, e2, h⟩ := h
      refine sg_VR (pc := 40) (av := []) (st := []) (K := K6) dX9_turn_40 ck_9_242 rfl (by decide) hk6 (by show (0 : Nat) ≤ 8; decide) hC e1 e2 (fun x5 m6 hK => ?_) rfl
      replace h := h x5 m6 hK
      refine st_aload_n (pc := 43) dX9_turn_43 rfl rfl ?_
      obtain ⟨hk7, h⟩ := h
      refine sg_gfR (pc := 44) (J := 5) dX9_turn_44 fl_9_40 rfl hk7 ?_
      refine st_iload_n (pc := 47) dX9_turn_47 rfl rfl ?_
      obtain ⟨hk8, h⟩ := h
      obtain ⟨h1, h⟩ := h
      refine st_aaload (pc := 48) (t := 6) dX9_turn_48 hk8 (fun _ => rfl) (by decide) (by decide) h1.1 h1.2 ?_
      refine st_iload_n (pc := 49) dX9_turn_49 rfl rfl ?_
      obtain ⟨hk9, h⟩ := h
      obtain ⟨mc7, ms7, K7, hC, e1, e2, h⟩ := h
      refine sg_VI (pc := 50) (av := [vr (mR m6 (mR m6 a0 5) a1), vi a2]) (st := []) (K := K7) dX9_turn_50 ck_9_353 rfl (by decide) hk9 (by show (0 : Nat) ≤ 8; decide) hC e1 e2 (fun x6 m7 hK => ?_) rfl
      replace h := h x6 m7 hK
      exact st_ireturn (pc := 53) dX9_turn_53 (Or.inl rfl) h
    · replace h := h.2 c
      refine sg_iconst (pc := 18) dX9_turn_18 (by omega) ?_
      exact st_ireturn (pc := 19) dX9_turn_19 (Or.inl rfl) h

theorem sg_X9_door_0 {d bc bs : Nat} {a0 : Nat} {a1 : Int} {μ : Mem} {Q : Option (Option AV) → Mem → Prop}
    (h : ∃ (mc1 ms1 : Nat) (K1 : Int → Mem → Prop), Cl d mc1 ms1 mX9_isWalk [vi a1] μ (KI K1) ∧ mc1 ≤ bc ∧ ms1 ≤ bs ∧ (∀ x1 m1, K1 x1 m1 → (¬ x1 = 0 → mK m1 a0 = 10 ∧ (mK m1 (mR m1 a0 5) = 26 ∧ ((0 : Int) ≤ a1 ∧ a1 < (mN m1 (mR m1 a0 5) : Int)) ∧ (mK m1 (mR m1 (mR m1 a0 5) a1) = 9 ∧ (∀ v1, v1 = mD m1 (mR m1 (mR m1 a0 5) a1) 4 → Wp (d + 1) (bc - mc1) (bs - ms1) mX9_door 29 [some (vr a0), some (vi a1), some (vi (-1)), some (vi 2147483647), some (vi v1), some (vi 0), none, none] [] m1 Q)))) ∧ (x1 = 0 → Q (some (some (vi (-1)))) m1))) :
    Wp (d + 1) bc bs mX9_door 0 [some (vr a0), some (vi a1), none, none, none, none, none, none] [] μ Q := by
  refine st_iload_n (pc := 0) dX9_door_0 rfl rfl ?_
  obtain ⟨mc1, ms1, K1, hC, e1, e2, h⟩ := h
  refine sg_SI (pc := 1) (av := [vi a1]) (st := []) (K := K1) dX9_door_1 ck_9_193 rfl (by show (0 : Nat) ≤ 8; decide) hC e1 e2 (fun x1 m1 hK => ?_) rfl
  replace h := h x1 m1 hK
  refine st_ifne (pc := 4) (tgt := 9) dX9_door_4 rfl (fun c => ?_) (fun c => ?_)
  · replace h := h.1 c
    refine sg_iconst (pc := 9) dX9_door_9 (by omega) ?_
    refine sg_istore_n (pc := 10) (ls' := [some (vr a0), some (vi a1), some (vi (-1)), none, none, none, none, none]) dX9_door_10 rfl (by show (2 : Nat) < 8; decide) rfl ?_
    refine st_ldcw (pc := 11) (n := 2147483647) dX9_door_11 cn_9_326 (by unfold r32; omega) ?_
    refine sg_istore_n (pc := 14) (ls' := [some (vr a0), some (vi a1), some (vi (-1)), some (vi 2147483647), none, none, none, none]) dX9_door_14 rfl (by show (3 : Nat) < 8; decide) rfl ?_
    refine st_aload_n (pc := 15) dX9_door_15 rfl rfl ?_
    obtain ⟨hk1, h⟩ := h
    refine sg_gfR (pc := 16) (J := 5) dX9_door_16 fl_9_40 rfl hk1 ?_
    refine st_iload_n (pc := 19) dX9_door_19 rfl rfl ?_
    obtain ⟨hk2, h⟩ := h
    obtain ⟨h1, h⟩ := h
    refine st_aaload (pc := 20) (t := 6) dX9_door_20 hk2 (fun _ => rfl) (by decide) (by decide) h1.1 h1.2 ?_
    obtain ⟨hk3, h⟩ := h
    refine sg_gfI (pc := 21) (J := 4) dX9_door_21 fl_9_204 (by decide) rfl hk3 ?_
    refine sg_istore (pc := 24) (ls' := [some (vr a0), some (vi a1), some (vi (-1)), some (vi 2147483647), some (vi (mD m1 (mR m1 (mR m1 a0 5) a1) 4)), none, none, none]) dX9_door_24 (by show (4 : Nat) < 8; decide) rfl ?_
    refine Wp.nameL (ls2 := fun v => [some (vr a0), some (vi a1), some (vi (-1)), some (vi 2147483647), some (vi v), none, none, none]) 4 _ rfl (fun _ => rfl) (fun v1 ev1 => ?_)
    replace h := h v1 ev1
    refine sg_iconst (pc := 26) dX9_door_26 (by omega) ?_
    refine sg_istore (pc := 27) (ls' := [some (vr a0), some (vi a1), some (vi (-1)), some (vi 2147483647), some (vi v1), some (vi 0), none, none]) dX9_door_27 (by show (5 : Nat) < 8; decide) rfl ?_
    exact h
  · replace h := h.2 c
    refine sg_iconst (pc := 7) dX9_door_7 (by omega) ?_
    exact st_ireturn (pc := 8) dX9_door_8 (Or.inl rfl) h

theorem sg_X9_door_29 {d bc bs : Nat} {a0 : Nat} {a1 : Int} {a2 : Int} {a3 : Int} {a4 : Int} {a5 : Int} {μ : Mem} {Q : Option (Option AV) → Mem → Prop}
    (h : ((w32 (a4 + 10)) ≤ a5 → mK μ a0 = 10 ∧ ∃ (mc1 ms1 : Nat) (K1 : Mem → Prop), Cl d mc1 ms1 mX9_tell [vr a0, vl a3] μ (KV K1) ∧ mc1 ≤ bc ∧ ms1 ≤ bs ∧ (∀ m1, K1 m1 → Q (some (some (vi a2))) m1)) ∧ (¬ (w32 (a4 + 10)) ≤ a5 → ∃ (mc2 ms2 : Nat) (K2 : Int → Mem → Prop), Cl d mc2 ms2 mJ9_min_7cf53 [vi a5, vi a4] μ (KI K2) ∧ mc2 ≤ bc ∧ ms2 ≤ bs ∧ (∀ x1 m2, K2 x1 m2 → mK m2 a0 = 10 ∧ ∃ (mc3 ms3 : Nat) (K3 : Nat → Mem → Prop), Cl d mc3 ms3 mX9_asItIs [vr a0] m2 (KR K3) ∧ mc3 ≤ bc - mc2 ∧ ms3 ≤ bs - ms2 ∧ (∀ x2 m3, K3 x2 m3 → mK m3 a0 = 10 ∧ (mK m3 (mR m3 a0 5) = 26 ∧ ((0 : Int) ≤ a1 ∧ a1 < (mN m3 (mR m3 a0 5) : Int)) ∧ (mK m3 x2 = 8 ∧ ∃ (mc4 ms4 : Nat) (K4 : Int → Mem → Prop), Cl d mc4 ms4 mX7_spiltWithTurn [vr x2, vr (mR m3 (mR m3 a0 5) a1), vi x1] m3 (KI K4) ∧ mc4 ≤ bc - mc2 - mc3 ∧ ms4 ≤ bs - ms2 - ms3 ∧ (∀ x3 m4, K4 x3 m4 → (a3 ≤ x3 → ∀ v1, v1 = w32 (a5 + 10) → Wp (d + 1) (bc - mc2 - mc3 - mc4) (bs - ms2 - ms3 - ms4) mX9_door 29 [some (vr a0), some (vi a1), some (vi a2), some (vi a3), some (vi a4), some (vi v1), none, none] [] m4 Q) ∧ (¬ a3 ≤ x3 → ∀ v2, v2 = w32 (a5 + 10) → Wp (d + 1) (bc - mc2 - mc3 - mc4) (bs - ms2 - ms3 - ms4) mX9_door 29 [some (vr a0), some (vi a1), some (vi x1), some (vi x3), some (vi a4), some (vi v2), none, none] [] m4 Q)))))))) :
    Wp (d + 1) bc bs mX9_door 29 [some (vr a0), some (vi a1), some (vi a2), some (vi a3), some (vi a4), some (vi a5), none, none] [] μ Q := by
  refine st_iload (pc := 29) dX9_door_29 rfl ?_
  refine st_iload (pc := 31) dX9_door_31 rfl ?_
  refine sg_bipush (pc := 33) dX9_door_33 (by omega) (by decide) ?_
  refine st_iadd (pc := 35) dX9_door_35 ?_
  refine st_icmpge (pc := 36) (tgt := 83) dX9_door_36 rfl (fun c => ?_) (fun c => ?_)
  · replace h := h.1 c
    refine st_aload_n (pc := 83) dX9_door_83 rfl rfl ?_
    refine st_iload_n (pc := 84) dX9_door_84 rfl rfl ?_
    refine st_i2l (pc := 85) dX9_door_85 ?_
    obtain ⟨hk1, h⟩ := h
    obtain ⟨mc1, ms1, K1, hC, e1, e2, h⟩ := h
    refine sg_VV (pc := 86) (av := [vl a3]) (st := []) (K := K1) dX9_door_86 ck_9_272 rfl (by decide) hk1 (by show (0 : Nat) ≤ 8; decide) hC e1 e2 (fun m1 hK => ?_) rfl
    replace h := h m1 hK
    refine st_iload_n (pc := 89) dX9_door_89 rfl rfl ?_
    exact st_ireturn (pc := 90) dX9_door_90 (Or.inl rfl) h
  · replace h := h.2 c
    refine st_iload (pc := 39) dX9_door_39 rfl ?_
    refine st_iload (pc := 41) dX9_door_41 rfl ?_
    obtain ⟨mc2, ms2, K2, hC, e1, e2, h⟩ := h
    refine sg_SI (pc := 43) (av := [vi a5, vi a4]) (st := []) (K := K2) dX9_door_43 ck_9_233 rfl (by show (0 : Nat) ≤ 8; decide) hC e1 e2 (fun x1 m2 hK => ?_) rfl
    replace h := h x1 m2 hK
    refine sg_istore (pc := 46) (ls' := [some (vr a0), some (vi a1), some (vi a2), some (vi a3), some (vi a4), some (vi a5), some (vi x1), none]) dX9_door_46 (by show (6 : Nat) < 8; decide) rfl ?_
    refine st_aload_n (pc := 48) dX9_door_48 rfl rfl ?_
    obtain ⟨hk2, h⟩ := h
    obtain ⟨mc3, ms3, K3, hC, e1, e2, h⟩ := h
    refine sg_VR (pc := 49) (av := []) (st := []) (K := K3) dX9_door_49 ck_9_242 rfl (by decide) hk2 (by show (0 : Nat) ≤ 8; decide) hC e1 e2 (fun x2 m3 hK => ?_) rfl
    replace h := h x2 m3 hK
    refine st_aload_n (pc := 52) dX9_door_52 rfl rfl ?_
    obtain ⟨hk3, h⟩ := h
    refine sg_gfR (pc := 53) (J := 5) dX9_door_53 fl_9_40 rfl hk3 ?_
    refine st_iload_n (pc := 56) dX9_door_56 rfl rfl ?_
    obtain ⟨hk4, h⟩ := h
    obtain ⟨h1, h⟩ := h
    refine st_aaload (pc := 57) (t := 6) dX9_door_57 hk4 (fun _ => rfl) (by decide) (by decide) h1.1 h1.2 ?_
    refine st_iload (pc := 58) dX9_door_58 rfl ?_
    obtain ⟨hk5, h⟩ := h
    obtain ⟨mc4, ms4, K4, hC, e1, e2, h⟩ := h
    refine sg_VI (pc := 60) (av := [vr (mR m3 (mR m3 a0 5) a1), vi x1]) (st := []) (K := K4) dX9_door_60 ck_9_353 rfl (by decide) hk5 (by show (0 : Nat) ≤ 8; decide) hC e1 e2 (fun x3 m4 hK => ?_) rfl
    replace h := h x3 m4 hK
    refine sg_istore (pc := 63) (ls' := [some (vr a0), some (vi a1), some (vi a2), some (vi a3), some (vi a4), some (vi a5), some (vi x1), some (vi x3)]) dX9_door_63 (by show (7 : Nat) < 8; decide) rfl ?_
    refine st_iload (pc := 65) dX9_door_65 rfl ?_
    refine st_iload_n (pc := 67) dX9_door_67 rfl rfl ?_
    refine st_icmpge (pc := 68) (tgt := 77) dX9_door_68 rfl (fun c => ?_) (fun c => ?_)
    · replace h := h.1 c
      refine sg_iinc (pc := 77) (ls' := [some (vr a0), some (vi a1), some (vi a2), some (vi a3), some (vi a4), some (vi (w32 (a5 + 10))), some (vi x1), some (vi x3)]) dX9_door_77 rfl rfl ?_
      refine Wp.nameL (ls2 := fun v => [some (vr a0), some (vi a1), some (vi a2), some (vi a3), some (vi a4), some (vi v), some (vi x1), some (vi x3)]) 5 _ rfl (fun _ => rfl) (fun v1 ev1 => ?_)
      replace h := h v1 ev1
      refine st_goto (pc := 80) dX9_door_80 rfl ?_
      refine Wp.drop 6 rfl ?_
      refine Wp.drop 7 rfl ?_
      exact h
    · replace h := h.2 c
      refine st_iload (pc := 71) dX9_door_71 rfl ?_
      refine sg_istore_n (pc := 73) (ls' := [some (vr a0), some (vi a1), some (vi a2), some (vi x3), some (vi a4), some (vi a5), some (vi x1), some (vi x3)]) dX9_door_73 rfl (by show (3 : Nat) < 8; decide) rfl ?_
      refine st_iload (pc := 74) dX9_door_74 rfl ?_
      refine sg_istore_n (pc := 76) (ls' := [some (vr a0), some (vi a1), some (vi x1), some (vi x3), some (vi a4), some (vi a5), some (vi x1), some (vi x3)]) dX9_door_76 rfl (by show (2 : Nat) < 8; decide) rfl ?_
      refine sg_iinc (pc := 77) (ls' := [some (vr a0), some (vi a1), some (vi x1), some (vi x3), some (vi a4), some (vi (w32 (a5 + 10))), some (vi x1), some (vi x3)]) dX9_door_77 rfl rfl ?_
      refine Wp.nameL (ls2 := fun v => [some (vr a0), some (vi a1), some (vi x1), some (vi x3), some (vi a4), some (vi v), some (vi x1), some (vi x3)]) 5 _ rfl (fun _ => rfl) (fun v2 ev2 => ?_)
      replace h := h v2 ev2
      refine st_goto (pc := 80) dX9_door_80 rfl ?_
      refine Wp.drop 6 rfl ?_
      refine Wp.drop 7 rfl ?_
      exact h

theorem sg_X9_two_0 {d bc bs : Nat} {a0 : Nat} {a1 : Int} {μ : Mem} {Q : Option (Option AV) → Mem → Prop}
    (h : ∃ (mc1 ms1 : Nat) (K1 : Int → Mem → Prop), Cl d mc1 ms1 mX9_isWalk [vi a1] μ (KI K1) ∧ mc1 ≤ bc ∧ ms1 ≤ bs ∧ (∀ x1 m1, K1 x1 m1 → (¬ x1 = 0 → mK m1 a0 = 10 ∧ ∃ (mc2 ms2 : Nat) (K2 : Nat → Mem → Prop), Cl d mc2 ms2 mX9_asItIs [vr a0] m1 (KR K2) ∧ mc2 ≤ bc - mc1 ∧ ms2 ≤ bs - ms1 ∧ (∀ x2 m2, K2 x2 m2 → mK m2 a0 = 10 ∧ (mK m2 (mR m2 a0 5) = 26 ∧ ((0 : Int) ≤ a1 ∧ a1 < (mN m2 (mR m2 a0 5) : Int)) ∧ (mK m2 x2 = 8 ∧ ∃ (mc3 ms3 : Nat) (K3 : Int → Mem → Prop), Cl d mc3 ms3 mX7_spiltOn [vr x2, vr (mR m2 (mR m2 a0 5) a1), vi 1] m2 (KI K3) ∧ mc3 ≤ bc - mc1 - mc2 ∧ ms3 ≤ bs - ms1 - ms2 ∧ (∀ x3 m3, K3 x3 m3 → Wp (d + 1) (bc - mc1 - mc2 - mc3) (bs - ms1 - ms2 - ms3) mX9_two 34 [some (vr a0), some (vi a1), some (vi x3), some (vi (-1)), some (vi 2147483647), some (vi 0), none] [] m3 Q))))) ∧ (x1 = 0 → Q (some (some (vi (-1)))) m1))) :
    Wp (d + 1) bc bs mX9_two 0 [some (vr a0), some (vi a1), none, none, none, none, none] [] μ Q := by
  refine st_iload_n (pc := 0) dX9_two_0 rfl rfl ?_
  obtain ⟨mc1, ms1, K1, hC, e1, e2, h⟩ := h
  refine sg_SI (pc := 1) (av := [vi a1]) (st := []) (K := K1) dX9_two_1 ck_9_193 rfl (by show (0 : Nat) ≤ 8; decide) hC e1 e2 (fun x1 m1 hK => ?_) rfl
  replace h := h x1 m1 hK
  refine st_ifne (pc := 4) (tgt := 9) dX9_two_4 rfl (fun c => ?_) (fun c => ?_)
  · replace h := h.1 c
    refine st_aload_n (pc := 9) dX9_two_9 rfl rfl ?_
    obtain ⟨hk1, h⟩ := h
    obtain ⟨mc2, ms2, K2, hC, e1, e2, h⟩ := h
    refine sg_VR (pc := 10) (av := []) (st := []) (K := K2) dX9_two_10 ck_9_242 rfl (by decide) hk1 (by show (0 : Nat) ≤ 8; decide) hC e1 e2 (fun x2 m2 hK => ?_) rfl
    replace h := h x2 m2 hK
    refine st_aload_n (pc := 13) dX9_two_13 rfl rfl ?_
    obtain ⟨hk2, h⟩ := h
    refine sg_gfR (pc := 14) (J := 5) dX9_two_14 fl_9_40 rfl hk2 ?_
    refine st_iload_n (pc := 17) dX9_two_17 rfl rfl ?_
    obtain ⟨hk3, h⟩ := h
    obtain ⟨h1, h⟩ := h
    refine st_aaload (pc := 18) (t := 6) dX9_two_18 hk3 (fun _ => rfl) (by decide) (by decide) h1.1 h1.2 ?_
    refine sg_iconst (pc := 19) dX9_two_19 (by omega) ?_
    obtain ⟨hk4, h⟩ := h
    obtain ⟨mc3, ms3, K3, hC, e1, e2, h⟩ := h
    refine sg_VI (pc := 20) (av := [vr (mR m2 (mR m2 a0 5) a1), vi 1]) (st := []) (K := K3) dX9_two_20 ck_9_265 rfl (by decide) hk4 (by show (0 : Nat) ≤ 8; decide) hC e1 e2 (fun x3 m3 hK => ?_) rfl
    replace h := h x3 m3 hK
    refine sg_istore_n (pc := 23) (ls' := [some (vr a0), some (vi a1), some (vi x3), none, none, none, none]) dX9_two_23 rfl (by show (2 : Nat) < 7; decide) rfl ?_
    refine sg_iconst (pc := 24) dX9_two_24 (by omega) ?_
    refine sg_istore_n (pc := 25) (ls' := [some (vr a0), some (vi a1), some (vi x3), some (vi (-1)), none, none, none]) dX9_two_25 rfl (by show (3 : Nat) < 7; decide) rfl ?_
    refine st_ldcw (pc := 26) (n := 2147483647) dX9_two_26 cn_9_326 (by unfold r32; omega) ?_
    refine sg_istore (pc := 29) (ls' := [some (vr a0), some (vi a1), some (vi x3), some (vi (-1)), some (vi 2147483647), none, none]) dX9_two_29 (by show (4 : Nat) < 7; decide) rfl ?_
    refine sg_iconst (pc := 31) dX9_two_31 (by omega) ?_
    refine sg_istore (pc := 32) (ls' := [some (vr a0), some (vi a1), some (vi x3), some (vi (-1)), some (vi 2147483647), some (vi 0), none]) dX9_two_32 (by show (5 : Nat) < 7; decide) rfl ?_
    exact h
  · replace h := h.2 c
    refine sg_iconst (pc := 7) dX9_two_7 (by omega) ?_
    exact st_ireturn (pc := 8) dX9_two_8 (Or.inl rfl) h

theorem sg_X9_two_34 {d bc bs : Nat} {a0 : Nat} {a1 : Int} {a2 : Int} {a3 : Int} {a4 : Int} {a5 : Int} {μ : Mem} {Q : Option (Option AV) → Mem → Prop}
    (h : (40 < a5 → mK μ a0 = 10 ∧ ∃ (mc1 ms1 : Nat) (K1 : Mem → Prop), Cl d mc1 ms1 mX9_tell_ [vr a0, vl a2, vl a4] μ (KV K1) ∧ mc1 ≤ bc ∧ ms1 ≤ bs ∧ (∀ m1, K1 m1 → Q (some (some (vi a3))) m1)) ∧ (¬ 40 < a5 → mK μ a0 = 10 ∧ ∃ (mc2 ms2 : Nat) (K2 : Nat → Mem → Prop), Cl d mc2 ms2 mX9_asItIs [vr a0] μ (KR K2) ∧ mc2 ≤ bc ∧ ms2 ≤ bs ∧ (∀ x1 m2, K2 x1 m2 → mK m2 a0 = 10 ∧ (mK m2 (mR m2 a0 5) = 26 ∧ ((0 : Int) ≤ a1 ∧ a1 < (mN m2 (mR m2 a0 5) : Int)) ∧ (mK m2 x1 = 8 ∧ ∃ (mc3 ms3 : Nat) (K3 : Int → Mem → Prop), Cl d mc3 ms3 mX7_spiltFrom [vr x1, vr (mR m2 (mR m2 a0 5) a1), vi a5] m2 (KI K3) ∧ mc3 ≤ bc - mc2 ∧ ms3 ≤ bs - ms2 ∧ (∀ x2 m3, K3 x2 m3 → (a4 ≤ x2 → ∀ v1, v1 = w32 (a5 + 1) → Wp (d + 1) (bc - mc2 - mc3) (bs - ms2 - ms3) mX9_two 34 [some (vr a0), some (vi a1), some (vi a2), some (vi a3), some (vi a4), some (vi v1), none] [] m3 Q) ∧ (¬ a4 ≤ x2 → ∀ v2, v2 = w32 (a5 + 1) → Wp (d + 1) (bc - mc2 - mc3) (bs - ms2 - ms3) mX9_two 34 [some (vr a0), some (vi a1), some (vi a2), some (vi a5), some (vi x2), some (vi v2), none] [] m3 Q))))))) :
    Wp (d + 1) bc bs mX9_two 34 [some (vr a0), some (vi a1), some (vi a2), some (vi a3), some (vi a4), some (vi a5), none] [] μ Q := by
  refine st_iload (pc := 34) dX9_two_34 rfl ?_
  refine sg_bipush (pc := 36) dX9_two_36 (by omega) (by decide) ?_
  refine st_icmpgt (pc := 38) (tgt := 78) dX9_two_38 rfl (fun c => ?_) (fun c => ?_)
  · replace h := h.1 c
    refine st_aload_n (pc := 78) dX9_two_78 rfl rfl ?_
    refine st_iload_n (pc := 79) dX9_two_79 rfl rfl ?_
    refine st_i2l (pc := 80) dX9_two_80 ?_
    refine st_iload (pc := 81) dX9_two_81 rfl ?_
    refine st_i2l (pc := 83) dX9_two_83 ?_
    obtain ⟨hk1, h⟩ := h
    obtain ⟨mc1, ms1, K1, hC, e1, e2, h⟩ := h
    refine sg_VV (pc := 84) (av := [vl a2, vl a4]) (st := []) (K := K1) dX9_two_84 ck_9_250 rfl (by decide) hk1 (by show (0 : Nat) ≤ 8; decide) hC e1 e2 (fun m1 hK => ?_) rfl
    replace h := h m1 hK
    refine st_iload_n (pc := 87) dX9_two_87 rfl rfl ?_
    exact st_ireturn (pc := 88) dX9_two_88 (Or.inl rfl) h
  · replace h := h.2 c
    refine st_aload_n (pc := 41) dX9_two_41 rfl rfl ?_
    obtain ⟨hk2, h⟩ := h
    obtain ⟨mc2, ms2, K2, hC, e1, e2, h⟩ := h
    refine sg_VR (pc := 42) (av := []) (st := []) (K := K2) dX9_two_42 ck_9_242 rfl (by decide) hk2 (by show (0 : Nat) ≤ 8; decide) hC e1 e2 (fun x1 m2 hK => ?_) rfl
    replace h := h x1 m2 hK
    refine st_aload_n (pc := 45) dX9_two_45 rfl rfl ?_
    obtain ⟨hk3, h⟩ := h
    refine sg_gfR (pc := 46) (J := 5) dX9_two_46 fl_9_40 rfl hk3 ?_
    refine st_iload_n (pc := 49) dX9_two_49 rfl rfl ?_
    obtain ⟨hk4, h⟩ := h
    obtain ⟨h1, h⟩ := h
    refine st_aaload (pc := 50) (t := 6) dX9_two_50 hk4 (fun _ => rfl) (by decide) (by decide) h1.1 h1.2 ?_
    refine st_iload (pc := 51) dX9_two_51 rfl ?_
    obtain ⟨hk5, h⟩ := h
    obtain ⟨mc3, ms3, K3, hC, e1, e2, h⟩ := h
    refine sg_VI (pc := 53) (av := [vr (mR m2 (mR m2 a0 5) a1), vi a5]) (st := []) (K := K3) dX9_two_53 ck_9_356 rfl (by decide) hk5 (by show (0 : Nat) ≤ 8; decide) hC e1 e2 (fun x2 m3 hK => ?_) rfl
    replace h := h x2 m3 hK
    refine sg_istore (pc := 56) (ls' := [some (vr a0), some (vi a1), some (vi a2), some (vi a3), some (vi a4), some (vi a5), some (vi x2)]) dX9_two_56 (by show (6 : Nat) < 7; decide) rfl ?_
    refine st_iload (pc := 58) dX9_two_58 rfl ?_
    refine st_iload (pc := 60) dX9_two_60 rfl ?_
    refine st_icmpge (pc := 62) (tgt := 72) dX9_two_62 rfl (fun c => ?_) (fun c => ?_)
    · replace h := h.1 c
      refine sg_iinc (pc := 72) (ls' := [some (vr a0), some (vi a1), some (vi a2), some (vi a3), some (vi a4), some (vi (w32 (a5 + 1))), some (vi x2)]) dX9_two_72 rfl rfl ?_
      refine Wp.nameL (ls2 := fun v => [some (vr a0), some (vi a1), some (vi a2), some (vi a3), some (vi a4), some (vi v), some (vi x2)]) 5 _ rfl (fun _ => rfl) (fun v1 ev1 => ?_)
      replace h := h v1 ev1
      refine st_goto (pc := 75) dX9_two_75 rfl ?_
      refine Wp.drop 6 rfl ?_
      exact h
    · replace h := h.2 c
      refine st_iload (pc := 65) dX9_two_65 rfl ?_
      refine sg_istore (pc := 67) (ls' := [some (vr a0), some (vi a1), some (vi a2), some (vi a3), some (vi x2), some (vi a5), some (vi x2)]) dX9_two_67 (by show (4 : Nat) < 7; decide) rfl ?_
      refine st_iload (pc := 69) dX9_two_69 rfl ?_
      refine sg_istore_n (pc := 71) (ls' := [some (vr a0), some (vi a1), some (vi a2), some (vi a5), some (vi x2), some (vi a5), some (vi x2)]) dX9_two_71 rfl (by show (3 : Nat) < 7; decide) rfl ?_
      refine sg_iinc (pc := 72) (ls' := [some (vr a0), some (vi a1), some (vi a2), some (vi a5), some (vi x2), some (vi (w32 (a5 + 1))), some (vi x2)]) dX9_two_72 rfl rfl ?_
      refine Wp.nameL (ls2 := fun v => [some (vr a0), some (vi a1), some (vi a2), some (vi a5), some (vi x2), some (vi v), some (vi x2)]) 5 _ rfl (fun _ => rfl) (fun v2 ev2 => ?_)
      replace h := h v2 ev2
      refine st_goto (pc := 75) dX9_two_75 rfl ?_
      refine Wp.drop 6 rfl ?_
      exact h

theorem sg_X9_brake_0 {d bc bs : Nat} {a0 : Nat} {a1 : Int} {a2 : Int} {μ : Mem} {Q : Option (Option AV) → Mem → Prop}
    (h : mK μ a0 = 10 ∧ (mK μ (mR μ a0 7) = 9 ∧ ∃ (mc1 ms1 : Nat) (K1 : Mem → Prop), Cl d mc1 ms1 mX8_clear [vr (mR μ a0 7)] μ (KV K1) ∧ mc1 ≤ bc ∧ ms1 ≤ bs ∧ (∀ m1, K1 m1 → Wp (d + 1) (bc - mc1) (bs - ms1) mX9_brake 9 [some (vr a0), some (vi a1), some (vi a2), some (vi 0)] [] m1 Q))) :
    Wp (d + 1) bc bs mX9_brake 0 [some (vr a0), some (vi a1), some (vi a2), none] [] μ Q := by
  refine st_aload_n (pc := 0) dX9_brake_0 rfl rfl ?_
  obtain ⟨hk1, h⟩ := h
  refine sg_gfR (pc := 1) (J := 7) dX9_brake_1 fl_9_49 rfl hk1 ?_
  obtain ⟨hk2, h⟩ := h
  obtain ⟨mc1, ms1, K1, hC, e1, e2, h⟩ := h
  refine sg_VV (pc := 4) (av := []) (st := []) (K := K1) dX9_brake_4 ck_9_257 rfl (by decide) hk2 (by show (0 : Nat) ≤ 8; decide) hC e1 e2 (fun m1 hK => ?_) rfl
  replace h := h m1 hK
  refine sg_iconst (pc := 7) dX9_brake_7 (by omega) ?_
  refine sg_istore_n (pc := 8) (ls' := [some (vr a0), some (vi a1), some (vi a2), some (vi 0)]) dX9_brake_8 rfl (by show (3 : Nat) < 4; decide) rfl ?_
  exact h

