/-! ===== by program (wip/whole/gen_seg.py): stretches of methods ===== -/
theorem sg_X9_isIn_0 {d bc bs : Nat} {a0 : Int} {a1 : Int} {a2 : Int} {μ : Mem} {Q : Option (Option AV) → Mem → Prop}
    (h : (a0 < a1 → Q (some (some (vi 0))) μ) ∧ (¬ a0 < a1 → (a2 < a0 → Q (some (some (vi 0))) μ) ∧ (¬ a2 < a0 → Q (some (some (vi 1))) μ))) :
    Wp d bc bs mX9_isIn 0 [some (vi a0), some (vi a1), some (vi a2)] [] μ Q := by
  refine st_iload_n (pc := 0) dX9_isIn_0 rfl rfl ?_
  refine st_iload_n (pc := 1) dX9_isIn_1 rfl rfl ?_
  refine st_icmplt (pc := 2) (tgt := 14) dX9_isIn_2 rfl (fun c => ?_) (fun c => ?_)
  · replace h := h.1 c
    refine sg_iconst (pc := 14) dX9_isIn_14 (by omega) ?_
    exact st_ireturn (pc := 15) dX9_isIn_15 (Or.inr ⟨rfl, by omega⟩) h
  · replace h := h.2 c
    refine st_iload_n (pc := 5) dX9_isIn_5 rfl rfl ?_
    refine st_iload_n (pc := 6) dX9_isIn_6 rfl rfl ?_
    refine st_icmpgt (pc := 7) (tgt := 14) dX9_isIn_7 rfl (fun c => ?_) (fun c => ?_)
    · replace h := h.1 c
      refine sg_iconst (pc := 14) dX9_isIn_14 (by omega) ?_
      exact st_ireturn (pc := 15) dX9_isIn_15 (Or.inr ⟨rfl, by omega⟩) h
    · replace h := h.2 c
      refine sg_iconst (pc := 10) dX9_isIn_10 (by omega) ?_
      refine st_goto (pc := 11) dX9_isIn_11 rfl ?_
      exact st_ireturn (pc := 15) dX9_isIn_15 (Or.inr ⟨rfl, by omega⟩) h

theorem sg_X9_between_0 {d bc bs : Nat} {a0 : Int} {a1 : Int} {a2 : Int} {μ : Mem} {Q : Option (Option AV) → Mem → Prop}
    (h : (a1 ≤ a0 → (a0 ≤ a2 → Q (some (some (vi a0))) μ) ∧ (¬ a0 ≤ a2 → Q (some (some (vi a2))) μ)) ∧ (¬ a1 ≤ a0 → Q (some (some (vi a1))) μ)) :
    Wp d bc bs mX9_between 0 [some (vi a0), some (vi a1), some (vi a2)] [] μ Q := by
  refine st_iload_n (pc := 0) dX9_between_0 rfl rfl ?_
  refine st_iload_n (pc := 1) dX9_between_1 rfl rfl ?_
  refine st_icmpge (pc := 2) (tgt := 7) dX9_between_2 rfl (fun c => ?_) (fun c => ?_)
  · replace h := h.1 c
    refine st_iload_n (pc := 7) dX9_between_7 rfl rfl ?_
    refine st_iload_n (pc := 8) dX9_between_8 rfl rfl ?_
    refine st_icmple (pc := 9) (tgt := 16) dX9_between_9 rfl (fun c => ?_) (fun c => ?_)
    · replace h := h.1 c
      refine st_iload_n (pc := 16) dX9_between_16 rfl rfl ?_
      exact st_ireturn (pc := 17) dX9_between_17 (Or.inl rfl) h
    · replace h := h.2 c
      refine st_iload_n (pc := 12) dX9_between_12 rfl rfl ?_
      refine st_goto (pc := 13) dX9_between_13 rfl ?_
      exact st_ireturn (pc := 17) dX9_between_17 (Or.inl rfl) h
  · replace h := h.2 c
    refine st_iload_n (pc := 5) dX9_between_5 rfl rfl ?_
    exact st_ireturn (pc := 6) dX9_between_6 (Or.inl rfl) h

theorem sg_X9_init_0 {d bc bs : Nat} {a0 : Nat} {μ : Mem} {Q : Option (Option AV) → Mem → Prop}
    (h : a0 ≠ 0 ∧ (mX μ ≠ 0 ∧ 1 ≤ bc ∧ clN 1 ≤ bs ∧ (∀ m1, m1 = nwM μ 1 0 → ∃ (mc1 ms1 : Nat) (K1 : Mem → Prop), Cl d mc1 ms1 mX0_init [vr (mX μ)] m1 (KV K1) ∧ mc1 ≤ bc - 1 ∧ ms1 ≤ bs - clN 1 ∧ (mX μ) ≠ 0 ∧ (∀ m2, K1 m2 → mK m2 a0 = 10 ∧ (∀ m3, m3 = sR m2 a0 0 (mX μ) → mX m3 ≠ 0 ∧ 1 ≤ bc - 1 - mc1 ∧ clN 6 ≤ bs - clN 1 - ms1 ∧ (∀ m4, m4 = nwM m3 6 0 → ∃ (mc2 ms2 : Nat) (K2 : Mem → Prop), Cl d mc2 ms2 mX5_init [vr (mX m3)] m4 (KV K2) ∧ mc2 ≤ bc - 1 - mc1 - 1 ∧ ms2 ≤ bs - clN 1 - ms1 - clN 6 ∧ (mX m3) ≠ 0 ∧ (∀ m5, K2 m5 → mK m5 a0 = 10 ∧ (∀ m6, m6 = sR m5 a0 1 (mX m3) → mX m6 ≠ 0 ∧ (0 : Int) ≤ 3 ∧ 3 ≤ (100000 : Int) ∧ 1 ≤ bc - 1 - mc1 - 1 - mc2 ∧ 3 ≤ ((bs - clN 1 - ms1 - clN 6 - ms2 : Nat) : Int) ∧ (∀ m7, m7 = nwM m6 25 (3 : Int).toNat → mK m7 a0 = 10 ∧ (∀ m8, m8 = sR m7 a0 2 (mX m6) → mK m8 a0 = 10 ∧ (∀ m9, m9 = sD m8 a0 3 0 → mX m9 ≠ 0 ∧ 1 ≤ bc - 1 - mc1 - 1 - mc2 - 1 ∧ clN 7 ≤ bs - clN 1 - ms1 - clN 6 - ms2 - (3 : Int).toNat ∧ (∀ m10, m10 = nwM m9 7 0 → ∃ (mc3 ms3 : Nat) (K3 : Mem → Prop), Cl d mc3 ms3 mX6_init [vr (mX m9)] m10 (KV K3) ∧ mc3 ≤ bc - 1 - mc1 - 1 - mc2 - 1 - 1 ∧ ms3 ≤ bs - clN 1 - ms1 - clN 6 - ms2 - (3 : Int).toNat - clN 7 ∧ (mX m9) ≠ 0 ∧ (∀ m11, K3 m11 → mK m11 a0 = 10 ∧ (∀ m12, m12 = sR m11 a0 4 (mX m9) → mX m12 ≠ 0 ∧ (0 : Int) ≤ 4 ∧ 4 ≤ (100000 : Int) ∧ 1 ≤ bc - 1 - mc1 - 1 - mc2 - 1 - 1 - mc3 ∧ 4 ≤ ((bs - clN 1 - ms1 - clN 6 - ms2 - (3 : Int).toNat - clN 7 - ms3 : Nat) : Int) ∧ (∀ m13, m13 = nwM m12 26 (4 : Int).toNat → mK m13 a0 = 10 ∧ (∀ m14, m14 = sR m13 a0 5 (mX m12) → mX m14 ≠ 0 ∧ (0 : Int) ≤ 4 ∧ 4 ≤ (100000 : Int) ∧ 1 ≤ bc - 1 - mc1 - 1 - mc2 - 1 - 1 - mc3 - 1 ∧ 4 ≤ ((bs - clN 1 - ms1 - clN 6 - ms2 - (3 : Int).toNat - clN 7 - ms3 - (4 : Int).toNat : Nat) : Int) ∧ (∀ m15, m15 = nwM m14 20 (4 : Int).toNat → mK m15 a0 = 10 ∧ (∀ m16, m16 = sR m15 a0 6 (mX m14) → mX m16 ≠ 0 ∧ 1 ≤ bc - 1 - mc1 - 1 - mc2 - 1 - 1 - mc3 - 1 - 1 ∧ clN 9 ≤ bs - clN 1 - ms1 - clN 6 - ms2 - (3 : Int).toNat - clN 7 - ms3 - (4 : Int).toNat - (4 : Int).toNat ∧ (∀ m17, m17 = nwM m16 9 0 → ∃ (mc4 ms4 : Nat) (K4 : Mem → Prop), Cl d mc4 ms4 mX8_init [vr (mX m16)] m17 (KV K4) ∧ mc4 ≤ bc - 1 - mc1 - 1 - mc2 - 1 - 1 - mc3 - 1 - 1 - 1 ∧ ms4 ≤ bs - clN 1 - ms1 - clN 6 - ms2 - (3 : Int).toNat - clN 7 - ms3 - (4 : Int).toNat - (4 : Int).toNat - clN 9 ∧ (mX m16) ≠ 0 ∧ (∀ m18, K4 m18 → mK m18 a0 = 10 ∧ (∀ m19, m19 = sR m18 a0 7 (mX m16) → mX m19 ≠ 0 ∧ (0 : Int) ≤ 3 ∧ 3 ≤ (100000 : Int) ∧ 1 ≤ bc - 1 - mc1 - 1 - mc2 - 1 - 1 - mc3 - 1 - 1 - 1 - mc4 ∧ 3 ≤ ((bs - clN 1 - ms1 - clN 6 - ms2 - (3 : Int).toNat - clN 7 - ms3 - (4 : Int).toNat - (4 : Int).toNat - clN 9 - ms4 : Nat) : Int) ∧ (∀ m20, m20 = nwM m19 27 (3 : Int).toNat → mK m20 a0 = 10 ∧ (∀ m21, m21 = sR m20 a0 8 (mX m19) → mX m21 ≠ 0 ∧ 1 ≤ bc - 1 - mc1 - 1 - mc2 - 1 - 1 - mc3 - 1 - 1 - 1 - mc4 - 1 ∧ clN 3 ≤ bs - clN 1 - ms1 - clN 6 - ms2 - (3 : Int).toNat - clN 7 - ms3 - (4 : Int).toNat - (4 : Int).toNat - clN 9 - ms4 - (3 : Int).toNat ∧ (∀ m22, m22 = nwM m21 3 0 → ∃ (mc5 ms5 : Nat) (K5 : Mem → Prop), Cl d mc5 ms5 mX2_init [vr (mX m21)] m22 (KV K5) ∧ mc5 ≤ bc - 1 - mc1 - 1 - mc2 - 1 - 1 - mc3 - 1 - 1 - 1 - mc4 - 1 - 1 ∧ ms5 ≤ bs - clN 1 - ms1 - clN 6 - ms2 - (3 : Int).toNat - clN 7 - ms3 - (4 : Int).toNat - (4 : Int).toNat - clN 9 - ms4 - (3 : Int).toNat - clN 3 ∧ (mX m21) ≠ 0 ∧ (∀ m23, K5 m23 → mK m23 a0 = 10 ∧ (∀ m24, m24 = sR m23 a0 9 (mX m21) → mX m24 ≠ 0 ∧ 1 ≤ bc - 1 - mc1 - 1 - mc2 - 1 - 1 - mc3 - 1 - 1 - 1 - mc4 - 1 - 1 - mc5 ∧ clN 8 ≤ bs - clN 1 - ms1 - clN 6 - ms2 - (3 : Int).toNat - clN 7 - ms3 - (4 : Int).toNat - (4 : Int).toNat - clN 9 - ms4 - (3 : Int).toNat - clN 3 - ms5 ∧ (∀ m25, m25 = nwM m24 8 0 → ∃ (mc6 ms6 : Nat) (K6 : Mem → Prop), Cl d mc6 ms6 mX7_init [vr (mX m24)] m25 (KV K6) ∧ mc6 ≤ bc - 1 - mc1 - 1 - mc2 - 1 - 1 - mc3 - 1 - 1 - 1 - mc4 - 1 - 1 - mc5 - 1 ∧ ms6 ≤ bs - clN 1 - ms1 - clN 6 - ms2 - (3 : Int).toNat - clN 7 - ms3 - (4 : Int).toNat - (4 : Int).toNat - clN 9 - ms4 - (3 : Int).toNat - clN 3 - ms5 - clN 8 ∧ (mX m24) ≠ 0 ∧ (∀ m26, K6 m26 → mK m26 a0 = 10 ∧ (∀ m27, m27 = sR m26 a0 10 (mX m24) → mX m27 ≠ 0 ∧ 1 ≤ bc - 1 - mc1 - 1 - mc2 - 1 - 1 - mc3 - 1 - 1 - 1 - mc4 - 1 - 1 - mc5 - 1 - mc6 ∧ clN 4 ≤ bs - clN 1 - ms1 - clN 6 - ms2 - (3 : Int).toNat - clN 7 - ms3 - (4 : Int).toNat - (4 : Int).toNat - clN 9 - ms4 - (3 : Int).toNat - clN 3 - ms5 - clN 8 - ms6 ∧ (∀ m28, m28 = nwM m27 4 0 → ∃ (mc7 ms7 : Nat) (K7 : Mem → Prop), Cl d mc7 ms7 mX3_init [vr (mX m27)] m28 (KV K7) ∧ mc7 ≤ bc - 1 - mc1 - 1 - mc2 - 1 - 1 - mc3 - 1 - 1 - 1 - mc4 - 1 - 1 - mc5 - 1 - mc6 - 1 ∧ ms7 ≤ bs - clN 1 - ms1 - clN 6 - ms2 - (3 : Int).toNat - clN 7 - ms3 - (4 : Int).toNat - (4 : Int).toNat - clN 9 - ms4 - (3 : Int).toNat - clN 3 - ms5 - clN 8 - ms6 - clN 4 ∧ (mX m27) ≠ 0 ∧ (∀ m29, K7 m29 → mK m29 a0 = 10 ∧ (∀ m30, m30 = sR m29 a0 11 (mX m27) → mX m30 ≠ 0 ∧ (0 : Int) ≤ 12 ∧ 12 ≤ (100000 : Int) ∧ 1 ≤ bc - 1 - mc1 - 1 - mc2 - 1 - 1 - mc3 - 1 - 1 - 1 - mc4 - 1 - 1 - mc5 - 1 - mc6 - 1 - mc7 ∧ 12 ≤ ((bs - clN 1 - ms1 - clN 6 - ms2 - (3 : Int).toNat - clN 7 - ms3 - (4 : Int).toNat - (4 : Int).toNat - clN 9 - ms4 - (3 : Int).toNat - clN 3 - ms5 - clN 8 - ms6 - clN 4 - ms7 : Nat) : Int) ∧ (∀ m31, m31 = nwM m30 20 (12 : Int).toNat → mK m31 a0 = 10 ∧ (∀ m32, m32 = sR m31 a0 12 (mX m30) → mK m32 a0 = 10 ∧ (∀ m33, m33 = sD m32 a0 13 0 → mX m33 ≠ 0 ∧ 1 ≤ bc - 1 - mc1 - 1 - mc2 - 1 - 1 - mc3 - 1 - 1 - 1 - mc4 - 1 - 1 - mc5 - 1 - mc6 - 1 - mc7 - 1 ∧ clN 2 ≤ bs - clN 1 - ms1 - clN 6 - ms2 - (3 : Int).toNat - clN 7 - ms3 - (4 : Int).toNat - (4 : Int).toNat - clN 9 - ms4 - (3 : Int).toNat - clN 3 - ms5 - clN 8 - ms6 - clN 4 - ms7 - (12 : Int).toNat ∧ (∀ m34, m34 = nwM m33 2 0 → ∃ (mc8 ms8 : Nat) (K8 : Mem → Prop), Cl d mc8 ms8 mX1_init [vr (mX m33)] m34 (KV K8) ∧ mc8 ≤ bc - 1 - mc1 - 1 - mc2 - 1 - 1 - mc3 - 1 - 1 - 1 - mc4 - 1 - 1 - mc5 - 1 - mc6 - 1 - mc7 - 1 - 1 ∧ ms8 ≤ bs - clN 1 - ms1 - clN 6 - ms2 - (3 : Int).toNat - clN 7 - ms3 - (4 : Int).toNat - (4 : Int).toNat - clN 9 - ms4 - (3 : Int).toNat - clN 3 - ms5 - clN 8 - ms6 - clN 4 - ms7 - (12 : Int).toNat - clN 2 ∧ (mX m33) ≠ 0 ∧ (∀ m35, K8 m35 → mK m35 a0 = 10 ∧ (∀ m36, m36 = sR m35 a0 14 (mX m33) → mX m36 ≠ 0 ∧ (0 : Int) ≤ 4 ∧ 4 ≤ (100000 : Int) ∧ 1 ≤ bc - 1 - mc1 - 1 - mc2 - 1 - 1 - mc3 - 1 - 1 - 1 - mc4 - 1 - 1 - mc5 - 1 - mc6 - 1 - mc7 - 1 - 1 - mc8 ∧ 4 ≤ ((bs - clN 1 - ms1 - clN 6 - ms2 - (3 : Int).toNat - clN 7 - ms3 - (4 : Int).toNat - (4 : Int).toNat - clN 9 - ms4 - (3 : Int).toNat - clN 3 - ms5 - clN 8 - ms6 - clN 4 - ms7 - (12 : Int).toNat - clN 2 - ms8 : Nat) : Int) ∧ (∀ m37, m37 = nwM m36 21 (4 : Int).toNat → mK m37 a0 = 10 ∧ (∀ m38, m38 = sR m37 a0 15 (mX m36) → mK m38 a0 = 10 ∧ (∀ m39, m39 = sD m38 a0 16 0 → Wp (d + 1) (bc - 1 - mc1 - 1 - mc2 - 1 - 1 - mc3 - 1 - 1 - 1 - mc4 - 1 - 1 - mc5 - 1 - mc6 - 1 - mc7 - 1 - 1 - mc8 - 1) (bs - clN 1 - ms1 - clN 6 - ms2 - (3 : Int).toNat - clN 7 - ms3 - (4 : Int).toNat - (4 : Int).toNat - clN 9 - ms4 - (3 : Int).toNat - clN 3 - ms5 - clN 8 - ms6 - clN 4 - ms7 - (12 : Int).toNat - clN 2 - ms8 - (4 : Int).toNat) mX9_init 155 [some (vr a0), some (vi 0)] [] m39 Q))))))))))))))))))))))))))))))))))))))))) :
    Wp (d + 1) bc bs mX9_init 0 [some (vr a0), none] [] μ Q := by
  refine st_aload_n (pc := 0) dX9_init_0 rfl rfl ?_
  obtain ⟨h0, h⟩ := h
  refine st_objInit (pc := 1) (st := []) dX9_init_1 ck_9_1 h0 (by show (0 : Nat) ≤ 8; decide) ?_
  refine st_aload_n (pc := 4) dX9_init_4 rfl rfl ?_
  obtain ⟨h0, h1, h2, h⟩ := h
  refine st_new (pc := 5) dX9_init_5 nw_9_7 h0 h1 h2 ?_
  refine Wp.nameM (fun m1 em1 => ?_)
  replace h := h m1 em1
  refine st_dup (pc := 8) dX9_init_8 rfl ?_
  obtain ⟨mc1, ms1, K1, hC, e1, e2, h0, h⟩ := h
  refine sg_IV (pc := 9) (av := []) (st := [vr (mX μ), vr a0]) (K := K1) dX9_init_9 ck_9_9 rfl h0 (by show (2 : Nat) ≤ 8; decide) hC e1 e2 (fun m2 hK => ?_) rfl
  replace h := h m2 hK
  obtain ⟨hk1, h⟩ := h
  refine sg_pfR (pc := 12) (J := 0) dX9_init_12 fl_9_10 rfl (Or.inr ⟨rfl, rfl⟩) hk1 ?_
  refine Wp.nameM (fun m3 em3 => ?_)
  replace h := h m3 em3
  refine st_aload_n (pc := 15) dX9_init_15 rfl rfl ?_
  obtain ⟨h0, h1, h2, h⟩ := h
  refine st_new (pc := 16) dX9_init_16 nw_9_16 h0 h1 h2 ?_
  refine Wp.nameM (fun m4 em4 => ?_)
  replace h := h m4 em4
  refine st_dup (pc := 19) dX9_init_19 rfl ?_
  obtain ⟨mc2, ms2, K2, hC, e1, e2, h0, h⟩ := h
  refine sg_INV (pc := 20) (av := []) (st := [vr (mX m3), vr a0]) (K := K2) dX9_init_20 ck_9_18 rfl h0 (by show (2 : Nat) ≤ 8; decide) hC e1 e2 (fun m5 hK => ?_) rfl
  replace h := h m5 hK
  obtain ⟨hk2, h⟩ := h
  refine sg_pfR (pc := 23) (J := 1) dX9_init_23 fl_9_19 rfl (Or.inr ⟨rfl, rfl⟩) hk2 ?_
  refine Wp.nameM (fun m6 em6 => ?_)
  replace h := h m6 em6
  refine st_aload_n (pc := 26) dX9_init_26 rfl rfl ?_
  refine sg_iconst (pc := 27) dX9_init_27 (by omega) ?_
  obtain ⟨h0, h1, h2, h3, h4, h⟩ := h
  refine st_anewS (pc := 28) dX9_init_28 nw_9_16 h0 h1 h2 h3 h4 ?_
  refine Wp.nameM (fun m7 em7 => ?_)
  replace h := h m7 em7
  obtain ⟨hk3, h⟩ := h
  refine sg_pfR (pc := 31) (J := 2) dX9_init_31 fl_9_23 rfl (Or.inr ⟨rfl, rfl⟩) hk3 ?_
  refine Wp.nameM (fun m8 em8 => ?_)
  replace h := h m8 em8
  refine st_aload_n (pc := 34) dX9_init_34 rfl rfl ?_
  refine sg_iconst (pc := 35) dX9_init_35 (by omega) ?_
  obtain ⟨hk4, h⟩ := h
  refine sg_pfI (pc := 36) (J := 3) dX9_init_36 fl_9_27 rfl (Or.inl rfl) hk4 ?_
  refine Wp.nameM (fun m9 em9 => ?_)
  replace h := h m9 em9
  refine st_aload_n (pc := 39) dX9_init_39 rfl rfl ?_
  obtain ⟨h0, h1, h2, h⟩ := h
  refine st_new (pc := 40) dX9_init_40 nw_9_31 h0 h1 h2 ?_
  refine Wp.nameM (fun m10 em10 => ?_)
  replace h := h m10 em10
  refine st_dup (pc := 43) dX9_init_43 rfl ?_
  obtain ⟨mc3, ms3, K3, hC, e1, e2, h0, h⟩ := h
  refine sg_INV (pc := 44) (av := []) (st := [vr (mX m9), vr a0]) (K := K3) dX9_init_44 ck_9_33 rfl h0 (by show (2 : Nat) ≤ 8; decide) hC e1 e2 (fun m11 hK => ?_) rfl
  replace h := h m11 hK
  obtain ⟨hk5, h⟩ := h
  refine sg_pfR (pc := 47) (J := 4) dX9_init_47 fl_9_34 rfl (Or.inr ⟨rfl, rfl⟩) hk5 ?_
  refine Wp.nameM (fun m12 em12 => ?_)
  replace h := h m12 em12
  refine st_aload_n (pc := 50) dX9_init_50 rfl rfl ?_
  refine sg_iconst (pc := 51) dX9_init_51 (by omega) ?_
  obtain ⟨h0, h1, h2, h3, h4, h⟩ := h
  refine st_anewW (pc := 52) dX9_init_52 nw_9_38 h0 h1 h2 h3 h4 ?_
  refine Wp.nameM (fun m13 em13 => ?_)
  replace h := h m13 em13
  obtain ⟨hk6, h⟩ := h
  refine sg_pfR (pc := 55) (J := 5) dX9_init_55 fl_9_40 rfl (Or.inr ⟨rfl, rfl⟩) hk6 ?_
  refine Wp.nameM (fun m14 em14 => ?_)
  replace h := h m14 em14
  refine st_aload_n (pc := 58) dX9_init_58 rfl rfl ?_
  refine sg_iconst (pc := 59) dX9_init_59 (by omega) ?_
  obtain ⟨h0, h1, h2, h3, h4, h⟩ := h
  refine st_newI (pc := 60) dX9_init_60 h0 h1 h2 h3 h4 ?_
  refine Wp.nameM (fun m15 em15 => ?_)
  replace h := h m15 em15
  obtain ⟨hk7, h⟩ := h
  refine sg_pfR (pc := 62) (J := 6) dX9_init_62 fl_9_44 rfl (Or.inr ⟨rfl, rfl⟩) hk7 ?_
  refine Wp.nameM (fun m16 em16 => ?_)
  replace h := h m16 em16
  refine st_aload_n (pc := 65) dX9_init_65 rfl rfl ?_
  obtain ⟨h0, h1, h2, h⟩ := h
  refine st_new (pc := 66) dX9_init_66 nw_9_38 h0 h1 h2 ?_
  refine Wp.nameM (fun m17 em17 => ?_)
  replace h := h m17 em17
  refine st_dup (pc := 69) dX9_init_69 rfl ?_
  obtain ⟨mc4, ms4, K4, hC, e1, e2, h0, h⟩ := h
  refine sg_INV (pc := 70) (av := []) (st := [vr (mX m16), vr a0]) (K := K4) dX9_init_70 ck_9_48 rfl h0 (by show (2 : Nat) ≤ 8; decide) hC e1 e2 (fun m18 hK => ?_) rfl
  replace h := h m18 hK
  obtain ⟨hk8, h⟩ := h
  refine sg_pfR (pc := 73) (J := 7) dX9_init_73 fl_9_49 rfl (Or.inl rfl) hk8 ?_
  refine Wp.nameM (fun m19 em19 => ?_)
  replace h := h m19 em19
  refine st_aload_n (pc := 76) dX9_init_76 rfl rfl ?_
  refine sg_iconst (pc := 77) dX9_init_77 (by omega) ?_
  obtain ⟨h0, h1, h2, h3, h4, h⟩ := h
  refine st_anewL (pc := 78) dX9_init_78 nw_9_53 h0 h1 h2 h3 h4 ?_
  refine Wp.nameM (fun m20 em20 => ?_)
  replace h := h m20 em20
  obtain ⟨hk9, h⟩ := h
  refine sg_pfR (pc := 81) (J := 8) dX9_init_81 fl_9_55 rfl (Or.inr ⟨rfl, rfl⟩) hk9 ?_
  refine Wp.nameM (fun m21 em21 => ?_)
  replace h := h m21 em21
  refine st_aload_n (pc := 84) dX9_init_84 rfl rfl ?_
  obtain ⟨h0, h1, h2, h⟩ := h
  refine st_new (pc := 85) dX9_init_85 nw_9_53 h0 h1 h2 ?_
  refine Wp.nameM (fun m22 em22 => ?_)
  replace h := h m22 em22
  refine st_dup (pc := 88) dX9_init_88 rfl ?_
  obtain ⟨mc5, ms5, K5, hC, e1, e2, h0, h⟩ := h
  refine sg_INV (pc := 89) (av := []) (st := [vr (mX m21), vr a0]) (K := K5) dX9_init_89 ck_9_59 rfl h0 (by show (2 : Nat) ≤ 8; decide) hC e1 e2 (fun m23 hK => ?_) rfl
  replace h := h m23 hK
  obtain ⟨hk10, h⟩ := h
  refine sg_pfR (pc := 92) (J := 9) dX9_init_92 fl_9_60 rfl (Or.inl rfl) hk10 ?_
  refine Wp.nameM (fun m24 em24 => ?_)
  replace h := h m24 em24
  refine st_aload_n (pc := 95) dX9_init_95 rfl rfl ?_
  obtain ⟨h0, h1, h2, h⟩ := h
  refine st_new (pc := 96) dX9_init_96 nw_9_64 h0 h1 h2 ?_
  refine Wp.nameM (fun m25 em25 => ?_)
  replace h := h m25 em25
  refine st_dup (pc := 99) dX9_init_99 rfl ?_
  obtain ⟨mc6, ms6, K6, hC, e1, e2, h0, h⟩ := h
  refine sg_INV (pc := 100) (av := []) (st := [vr (mX m24), vr a0]) (K := K6) dX9_init_100 ck_9_66 rfl h0 (by show (2 : Nat) ≤ 8; decide) hC e1 e2 (fun m26 hK => ?_) rfl
  replace h := h m26 hK
  obtain ⟨hk11, h⟩ := h
  refine sg_pfR (pc := 103) (J := 10) dX9_init_103 fl_9_67 rfl (Or.inr ⟨rfl, rfl⟩) hk11 ?_
  refine Wp.nameM (fun m27 em27 => ?_)
  replace h := h m27 em27
  refine st_aload_n (pc := 106) dX9_init_106 rfl rfl ?_
  obtain ⟨h0, h1, h2, h⟩ := h
  refine st_new (pc := 107) dX9_init_107 nw_9_71 h0 h1 h2 ?_
  refine Wp.nameM (fun m28 em28 => ?_)
  replace h := h m28 em28
  refine st_dup (pc := 110) dX9_init_110 rfl ?_
  obtain ⟨mc7, ms7, K7, hC, e1, e2, h0, h⟩ := h
  refine sg_IV (pc := 111) (av := []) (st := [vr (mX m27), vr a0]) (K := K7) dX9_init_111 ck_9_73 rfl h0 (by show (2 : Nat) ≤ 8; decide) hC e1 e2 (fun m29 hK => ?_) rfl
  replace h := h m29 hK
  obtain ⟨hk12, h⟩ := h
  refine sg_pfR (pc := 114) (J := 11) dX9_init_114 fl_9_74 rfl (Or.inr ⟨rfl, rfl⟩) hk12 ?_
  refine Wp.nameM (fun m30 em30 => ?_)
  replace h := h m30 em30
  refine st_aload_n (pc := 117) dX9_init_117 rfl rfl ?_
  refine sg_bipush (pc := 118) dX9_init_118 (by omega) (by decide) ?_
  obtain ⟨h0, h1, h2, h3, h4, h⟩ := h
  refine st_newI (pc := 120) dX9_init_120 h0 h1 h2 h3 h4 ?_
  refine Wp.nameM (fun m31 em31 => ?_)
  replace h := h m31 em31
  obtain ⟨hk13, h⟩ := h
  refine sg_pfR (pc := 122) (J := 12) dX9_init_122 fl_9_78 rfl (Or.inr ⟨rfl, rfl⟩) hk13 ?_
  refine Wp.nameM (fun m32 em32 => ?_)
  replace h := h m32 em32
  refine st_aload_n (pc := 125) dX9_init_125 rfl rfl ?_
  refine sg_iconst (pc := 126) dX9_init_126 (by omega) ?_
  obtain ⟨hk14, h⟩ := h
  refine sg_pfI (pc := 127) (J := 13) dX9_init_127 fl_9_81 rfl (Or.inl rfl) hk14 ?_
  refine Wp.nameM (fun m33 em33 => ?_)
  replace h := h m33 em33
  refine st_aload_n (pc := 130) dX9_init_130 rfl rfl ?_
  obtain ⟨h0, h1, h2, h⟩ := h
  refine st_new (pc := 131) dX9_init_131 nw_9_84 h0 h1 h2 ?_
  refine Wp.nameM (fun m34 em34 => ?_)
  replace h := h m34 em34
  refine st_dup (pc := 134) dX9_init_134 rfl ?_
  obtain ⟨mc8, ms8, K8, hC, e1, e2, h0, h⟩ := h
  refine sg_INV (pc := 135) (av := []) (st := [vr (mX m33), vr a0]) (K := K8) dX9_init_135 ck_9_86 rfl h0 (by show (2 : Nat) ≤ 8; decide) hC e1 e2 (fun m35 hK => ?_) rfl
  replace h := h m35 hK
  obtain ⟨hk15, h⟩ := h
  refine sg_pfR (pc := 138) (J := 14) dX9_init_138 fl_9_87 rfl (Or.inr ⟨rfl, rfl⟩) hk15 ?_
  refine Wp.nameM (fun m36 em36 => ?_)
  replace h := h m36 em36
  refine st_aload_n (pc := 141) dX9_init_141 rfl rfl ?_
  refine sg_iconst (pc := 142) dX9_init_142 (by omega) ?_
  obtain ⟨h0, h1, h2, h3, h4, h⟩ := h
  refine st_newJ (pc := 143) dX9_init_143 h0 h1 h2 h3 h4 ?_
  refine Wp.nameM (fun m37 em37 => ?_)
  replace h := h m37 em37
  obtain ⟨hk16, h⟩ := h
  refine sg_pfR (pc := 145) (J := 15) dX9_init_145 fl_9_91 rfl (Or.inr ⟨rfl, rfl⟩) hk16 ?_
  refine Wp.nameM (fun m38 em38 => ?_)
  replace h := h m38 em38
  refine st_aload_n (pc := 148) dX9_init_148 rfl rfl ?_
  refine sg_iconst (pc := 149) dX9_init_149 (by omega) ?_
  obtain ⟨hk17, h⟩ := h
  refine sg_pfI (pc := 150) (J := 16) dX9_init_150 fl_9_95 rfl (Or.inl rfl) hk17 ?_
  refine Wp.nameM (fun m39 em39 => ?_)
  replace h := h m39 em39
  refine sg_iconst (pc := 153) dX9_init_153 (by omega) ?_
  refine sg_istore_n (pc := 154) (ls' := [some (vr a0), some (vi 0)]) dX9_init_154 rfl (by show (1 : Nat) < 2; decide) rfl ?_
  exact h

theorem sg_X9_init_155 {d bc bs : Nat} {a0 : Nat} {a1 : Int} {μ : Mem} {Q : Option (Option AV) → Mem → Prop}
    (h : (3 ≤ a1 → Wp (d + 1) bc bs mX9_init 181 [some (vr a0), some (vi 0)] [] μ Q) ∧ (¬ 3 ≤ a1 → mK μ a0 = 10 ∧ (mX μ ≠ 0 ∧ 1 ≤ bc ∧ clN 6 ≤ bs ∧ (∀ m1, m1 = nwM μ 6 0 → ∃ (mc1 ms1 : Nat) (K1 : Mem → Prop), Cl d mc1 ms1 mX5_init [vr (mX μ)] m1 (KV K1) ∧ mc1 ≤ bc - 1 ∧ ms1 ≤ bs - clN 6 ∧ (mX μ) ≠ 0 ∧ (∀ m2, K1 m2 → mK m2 (mR μ a0 2) = 25 ∧ ((0 : Int) ≤ a1 ∧ a1 < (mN m2 (mR μ a0 2) : Int)) ∧ mK m2 (mX μ) = 6 ∧ (∀ m3, m3 = sR m2 (mR μ a0 2) a1 (mX μ) → ∀ v1, v1 = w32 (a1 + 1) → Wp (d + 1) (bc - 1 - mc1) (bs - clN 6 - ms1) mX9_init 155 [some (vr a0), some (vi v1)] [] m3 Q)))))) :
    Wp (d + 1) bc bs mX9_init 155 [some (vr a0), some (vi a1)] [] μ Q := by
  refine st_iload_n (pc := 155) dX9_init_155 rfl rfl ?_
  refine sg_iconst (pc := 156) dX9_init_156 (by omega) ?_
  refine st_icmpge (pc := 157) (tgt := 179) dX9_init_157 rfl (fun c => ?_) (fun c => ?_)
  · replace h := h.1 c
    refine sg_iconst (pc := 179) dX9_init_179 (by omega) ?_
    refine sg_istore_n (pc := 180) (ls' := [some (vr a0), some (vi 0)]) dX9_init_180 rfl (by show (1 : Nat) < 2; decide) rfl ?_
    exact h
  · replace h := h.2 c
    refine st_aload_n (pc := 160) dX9_init_160 rfl rfl ?_
    obtain ⟨hk1, h⟩ := h
    refine sg_gfR (pc := 161) (J := 2) dX9_init_161 fl_9_23 rfl hk1 ?_
    refine st_iload_n (pc := 164) dX9_init_164 rfl rfl ?_
    obtain ⟨h0, h1, h2, h⟩ := h
    refine st_new (pc := 165) dX9_init_165 nw_9_16 h0 h1 h2 ?_
    refine Wp.nameM (fun m1 em1 => ?_)
    replace h := h m1 em1
    refine st_dup (pc := 168) dX9_init_168 rfl ?_
    obtain ⟨mc1, ms1, K1, hC, e1, e2, h0, h⟩ := h
    refine sg_INV (pc := 169) (av := []) (st := [vr (mX μ), vi a1, vr (mR μ a0 2)]) (K := K1) dX9_init_169 ck_9_18 rfl h0 (by show (3 : Nat) ≤ 8; decide) hC e1 e2 (fun m2 hK => ?_) rfl
    replace h := h m2 hK
    obtain ⟨hk2, h⟩ := h
    obtain ⟨h1, h⟩ := h
    obtain ⟨hk3, h⟩ := h
    refine st_aastore (pc := 172) (t := 5) dX9_init_172 hk2 hk3 (by decide) (by decide) (fun _ => rfl) (by decide) (by decide) h1.1 h1.2 ?_
    refine Wp.nameM (fun m3 em3 => ?_)
    replace h := h m3 em3
    refine sg_iinc (pc := 173) (ls' := [some (vr a0), some (vi (w32 (a1 + 1)))]) dX9_init_173 rfl rfl ?_
    refine Wp.nameL (ls2 := fun v => [some (vr a0), some (vi v)]) 1 _ rfl (fun _ => rfl) (fun v1 ev1 => ?_)
    replace h := h v1 ev1
    refine st_goto (pc := 176) dX9_init_176 rfl ?_
    exact h

theorem sg_X9_init_181 {d bc bs : Nat} {a0 : Nat} {a1 : Int} {μ : Mem} {Q : Option (Option AV) → Mem → Prop}
    (h : (4 ≤ a1 → Wp (d + 1) bc bs mX9_init 207 [some (vr a0), some (vi 0)] [] μ Q) ∧ (¬ 4 ≤ a1 → mK μ a0 = 10 ∧ (mX μ ≠ 0 ∧ 1 ≤ bc ∧ clN 9 ≤ bs ∧ (∀ m1, m1 = nwM μ 9 0 → ∃ (mc1 ms1 : Nat) (K1 : Mem → Prop), Cl d mc1 ms1 mX8_init [vr (mX μ)] m1 (KV K1) ∧ mc1 ≤ bc - 1 ∧ ms1 ≤ bs - clN 9 ∧ (mX μ) ≠ 0 ∧ (∀ m2, K1 m2 → mK m2 (mR μ a0 5) = 26 ∧ ((0 : Int) ≤ a1 ∧ a1 < (mN m2 (mR μ a0 5) : Int)) ∧ mK m2 (mX μ) = 9 ∧ (∀ m3, m3 = sR m2 (mR μ a0 5) a1 (mX μ) → ∀ v1, v1 = w32 (a1 + 1) → Wp (d + 1) (bc - 1 - mc1) (bs - clN 9 - ms1) mX9_init 181 [some (vr a0), some (vi v1)] [] m3 Q)))))) :
    Wp (d + 1) bc bs mX9_init 181 [some (vr a0), some (vi a1)] [] μ Q := by
  refine st_iload_n (pc := 181) dX9_init_181 rfl rfl ?_
  refine sg_iconst (pc := 182) dX9_init_182 (by omega) ?_
  refine st_icmpge (pc := 183) (tgt := 205) dX9_init_183 rfl (fun c => ?_) (fun c => ?_)
  · replace h := h.1 c
    refine sg_iconst (pc := 205) dX9_init_205 (by omega) ?_
    refine sg_istore_n (pc := 206) (ls' := [some (vr a0), some (vi 0)]) dX9_init_206 rfl (by show (1 : Nat) < 2; decide) rfl ?_
    exact h
  · replace h := h.2 c
    refine st_aload_n (pc := 186) dX9_init_186 rfl rfl ?_
    obtain ⟨hk1, h⟩ := h
    refine sg_gfR (pc := 187) (J := 5) dX9_init_187 fl_9_40 rfl hk1 ?_
    refine st_iload_n (pc := 190) dX9_init_190 rfl rfl ?_
    obtain ⟨h0, h1, h2, h⟩ := h
    refine st_new (pc := 191) dX9_init_191 nw_9_38 h0 h1 h2 ?_
    refine Wp.nameM (fun m1 em1 => ?_)
    replace h := h m1 em1
    refine st_dup (pc := 194) dX9_init_194 rfl ?_
    obtain ⟨mc1, ms1, K1, hC, e1, e2, h0, h⟩ := h
    refine sg_INV (pc := 195) (av := []) (st := [vr (mX μ), vi a1, vr (mR μ a0 5)]) (K := K1) dX9_init_195 ck_9_48 rfl h0 (by show (3 : Nat) ≤ 8; decide) hC e1 e2 (fun m2 hK => ?_) rfl
    replace h := h m2 hK
    obtain ⟨hk2, h⟩ := h
    obtain ⟨h1, h⟩ := h
    obtain ⟨hk3, h⟩ := h
    refine st_aastore (pc := 198) (t := 6) dX9_init_198 hk2 hk3 (by decide) (by decide) (fun _ => rfl) (by decide) (by decide) h1.1 h1.2 ?_
    refine Wp.nameM (fun m3 em3 => ?_)
    replace h := h m3 em3
    refine sg_iinc (pc := 199) (ls' := [some (vr a0), some (vi (w32 (a1 + 1)))]) dX9_init_199 rfl rfl ?_
    refine Wp.nameL (ls2 := fun v => [some (vr a0), some (vi v)]) 1 _ rfl (fun _ => rfl) (fun v1 ev1 => ?_)
    replace h := h v1 ev1
    refine st_goto (pc := 202) dX9_init_202 rfl ?_
    exact h

theorem sg_X9_init_207 {d bc bs : Nat} {a0 : Nat} {a1 : Int} {μ : Mem} {Q : Option (Option AV) → Mem → Prop}
    (h : (3 ≤ a1 → mK μ a0 = 10 ∧ (mK μ (mR μ a0 1) = 6 ∧ ∃ (mc1 ms1 : Nat) (K1 : Mem → Prop), Cl d mc1 ms1 mX5_freshen [vr (mR μ a0 1), vr (mR μ a0 0)] μ (KV K1) ∧ mc1 ≤ bc ∧ ms1 ≤ bs ∧ (∀ m1, K1 m1 → Q (some none) m1))) ∧ (¬ 3 ≤ a1 → mK μ a0 = 10 ∧ (mX μ ≠ 0 ∧ 1 ≤ bc ∧ clN 3 ≤ bs ∧ (∀ m2, m2 = nwM μ 3 0 → ∃ (mc2 ms2 : Nat) (K2 : Mem → Prop), Cl d mc2 ms2 mX2_init [vr (mX μ)] m2 (KV K2) ∧ mc2 ≤ bc - 1 ∧ ms2 ≤ bs - clN 3 ∧ (mX μ) ≠ 0 ∧ (∀ m3, K2 m3 → mK m3 (mR μ a0 8) = 27 ∧ ((0 : Int) ≤ a1 ∧ a1 < (mN m3 (mR μ a0 8) : Int)) ∧ mK m3 (mX μ) = 3 ∧ (∀ m4, m4 = sR m3 (mR μ a0 8) a1 (mX μ) → ∀ v1, v1 = w32 (a1 + 1) → Wp (d + 1) (bc - 1 - mc2) (bs - clN 3 - ms2) mX9_init 207 [some (vr a0), some (vi v1)] [] m4 Q)))))) :
    Wp (d + 1) bc bs mX9_init 207 [some (vr a0), some (vi a1)] [] μ Q := by
  refine st_iload_n (pc := 207) dX9_init_207 rfl rfl ?_
  refine sg_iconst (pc := 208) dX9_init_208 (by omega) ?_
  refine st_icmpge (pc := 209) (tgt := 231) dX9_init_209 rfl (fun c => ?_) (fun c => ?_)
  · replace h := h.1 c
    refine st_aload_n (pc := 231) dX9_init_231 rfl rfl ?_
    obtain ⟨hk1, h⟩ := h
    refine sg_gfR (pc := 232) (J := 1) dX9_init_232 fl_9_19 rfl hk1 ?_
    refine st_aload_n (pc := 235) dX9_init_235 rfl rfl ?_
    refine sg_gfR (pc := 236) (J := 0) dX9_init_236 fl_9_10 rfl hk1 ?_
    obtain ⟨hk2, h⟩ := h
    obtain ⟨mc1, ms1, K1, hC, e1, e2, h⟩ := h
    refine sg_VV (pc := 239) (av := [vr (mR μ a0 0)]) (st := []) (K := K1) dX9_init_239 ck_9_98 rfl (by decide) hk2 (by show (0 : Nat) ≤ 8; decide) hC e1 e2 (fun m1 hK => ?_) rfl
    replace h := h m1 hK
    exact st_return (pc := 242) dX9_init_242 rfl h
  · replace h := h.2 c
    refine st_aload_n (pc := 212) dX9_init_212 rfl rfl ?_
    obtain ⟨hk3, h⟩ := h
    refine sg_gfR (pc := 213) (J := 8) dX9_init_213 fl_9_55 rfl hk3 ?_
    refine st_iload_n (pc := 216) dX9_init_216 rfl rfl ?_
    obtain ⟨h0, h1, h2, h⟩ := h
    refine st_new (pc := 217) dX9_init_217 nw_9_53 h0 h1 h2 ?_
    refine Wp.nameM (fun m2 em2 => ?_)
    replace h := h m2 em2
    refine st_dup (pc := 220) dX9_init_220 rfl ?_
    obtain ⟨mc2, ms2, K2, hC, e1, e2, h0, h⟩ := h
    refine sg_INV (pc := 221) (av := []) (st := [vr (mX μ), vi a1, vr (mR μ a0 8)]) (K := K2) dX9_init_221 ck_9_59 rfl h0 (by show (3 : Nat) ≤ 8; decide) hC e1 e2 (fun m3 hK => ?_) rfl
    replace h := h m3 hK
    obtain ⟨hk4, h⟩ := h
    obtain ⟨h1, h⟩ := h
    obtain ⟨hk5, h⟩ := h
    refine st_aastore (pc := 224) (t := 7) dX9_init_224 hk4 hk5 (by decide) (by decide) (fun _ => rfl) (by decide) (by decide) h1.1 h1.2 ?_
    refine Wp.nameM (fun m4 em4 => ?_)
    replace h := h m4 em4
    refine sg_iinc (pc := 225) (ls' := [some (vr a0), some (vi (w32 (a1 + 1)))]) dX9_init_225 rfl rfl ?_
    refine Wp.nameL (ls2 := fun v => [some (vr a0), some (vi v)]) 1 _ rfl (fun _ => rfl) (fun v1 ev1 => ?_)
    replace h := h v1 ev1
    refine st_goto (pc := 228) dX9_init_228 rfl ?_
    exact h

theorem sg_X9_cup_0 {d bc bs : Nat} {a0 : Nat} {a1 : Int} {a2 : Int} {a3 : Int} {μ : Mem} {Q : Option (Option AV) → Mem → Prop}
    (h : ∃ (mc1 ms1 : Nat) (K1 : Int → Mem → Prop), Cl d mc1 ms1 mX9_isIn [vi a1, vi 2, vi 20] μ (KI K1) ∧ mc1 ≤ bc ∧ ms1 ≤ bs ∧ (∀ x1 m1, K1 x1 m1 → (x1 = 0 → Q (some (some (vi 0))) m1) ∧ (¬ x1 = 0 → ∃ (mc2 ms2 : Nat) (K2 : Int → Mem → Prop), Cl d mc2 ms2 mX9_isIn [vi a2, vi 1, vi 999] m1 (KI K2) ∧ mc2 ≤ bc - mc1 ∧ ms2 ≤ bs - ms1 ∧ (∀ x2 m2, K2 x2 m2 → (x2 = 0 → Q (some (some (vi 0))) m2) ∧ (¬ x2 = 0 → ∃ (mc3 ms3 : Nat) (K3 : Int → Mem → Prop), Cl d mc3 ms3 mX9_isIn [vi a3, vi 0, vi a2] m2 (KI K3) ∧ mc3 ≤ bc - mc1 - mc2 ∧ ms3 ≤ bs - ms1 - ms2 ∧ (∀ x3 m3, K3 x3 m3 → (¬ x3 = 0 → mK m3 a0 = 10 ∧ (mK m3 (mR m3 a0 0) = 1 ∧ (∀ m4, m4 = sD m3 (mR m3 a0 0) 0 (w32 (a1 - 1)) → (∀ m5, m5 = sD m4 (mR m4 a0 0) 1 a2 → (∀ m6, m6 = sD m5 (mR m5 a0 0) 2 a3 → ∃ (mc4 ms4 : Nat) (K4 : Mem → Prop), Cl d mc4 ms4 mX0_openAll [vr (mR m6 a0 0)] m6 (KV K4) ∧ mc4 ≤ bc - mc1 - mc2 - mc3 ∧ ms4 ≤ bs - ms1 - ms2 - ms3 ∧ (∀ m7, K4 m7 → mK m7 a0 = 10 ∧ (mK m7 (mR m7 a0 1) = 6 ∧ ∃ (mc5 ms5 : Nat) (K5 : Mem → Prop), Cl d mc5 ms5 mX5_freshen [vr (mR m7 a0 1), vr (mR m7 a0 0)] m7 (KV K5) ∧ mc5 ≤ bc - mc1 - mc2 - mc3 - mc4 ∧ ms5 ≤ bs - ms1 - ms2 - ms3 - ms4 ∧ (∀ m8, K5 m8 → mK m8 a0 = 10 ∧ (∀ m9, m9 = sD m8 a0 3 0 → Q (some (some (vi 1))) m9))))))))) ∧ (x3 = 0 → Q (some (some (vi 0))) m3))))))) :
    Wp (d + 1) bc bs mX9_cup 0 [some (vr a0), some (vi a1), some (vi a2), some (vi a3)] [] μ Q := by
  refine st_iload_n (pc := 0) dX9_cup_0 rfl rfl ?_
  refine sg_iconst (pc := 1) dX9_cup_1 (by omega) ?_
  refine sg_bipush (pc := 2) dX9_cup_2 (by omega) (by decide) ?_
  obtain ⟨mc1, ms1, K1, hC, e1, e2, h⟩ := h
  refine sg_SI (pc := 4) (av := [vi a1, vi 2, vi 20]) (st := []) (K := K1) dX9_cup_4 ck_9_102 rfl (by show (0 : Nat) ≤ 8; decide) hC e1 e2 (fun x1 m1 hK => ?_) rfl
  replace h := h x1 m1 hK
  refine st_ifeq (pc := 7) (tgt := 30) dX9_cup_7 rfl (fun c => ?_) (fun c => ?_)
  · replace h := h.1 c
    refine sg_iconst (pc := 30) dX9_cup_30 (by omega) ?_
    exact st_ireturn (pc := 31) dX9_cup_31 (Or.inr ⟨rfl, by omega⟩) h
  · replace h := h.2 c
    refine st_iload_n (pc := 10) dX9_cup_10 rfl rfl ?_
    refine sg_iconst (pc := 11) dX9_cup_11 (by omega) ?_
    refine sg_sipush (pc := 12) dX9_cup_12 (by omega) (by decide) ?_
    obtain ⟨mc2, ms2, K2, hC, e1, e2, h⟩ := h
    refine sg_SI (pc := 15) (av := [vi a2, vi 1, vi 999]) (st := []) (K := K2) dX9_cup_15 ck_9_102 rfl (by show (0 : Nat) ≤ 8; decide) hC e1 e2 (fun x2 m2 hK => ?_) rfl
    replace h := h x2 m2 hK
    refine st_ifeq (pc := 18) (tgt := 30) dX9_cup_18 rfl (fun c => ?_) (fun c => ?_)
    · replace h := h.1 c
      refine sg_iconst (pc := 30) dX9_cup_30 (by omega) ?_
      exact st_ireturn (pc := 31) dX9_cup_31 (Or.inr ⟨rfl, by omega⟩) h
    · replace h := h.2 c
      refine st_iload_n (pc := 21) dX9_cup_21 rfl rfl ?_
      refine sg_iconst (pc := 22) dX9_cup_22 (by omega) ?_
      refine st_iload_n (pc := 23) dX9_cup_23 rfl rfl ?_
      obtain ⟨mc3, ms3, K3, hC, e1, e2, h⟩ := h
      refine sg_SI (pc := 24) (av := [vi a3, vi 0, vi a2]) (st := []) (K := K3) dX9_cup_24 ck_9_102 rfl (by show (0 : Nat) ≤ 8; decide) hC e1 e2 (fun x3 m3 hK => ?_) rfl
      replace h := h x3 m3 hK
      refine st_ifne (pc := 27) (tgt := 32) dX9_cup_27 rfl (fun c => ?_) (fun c => ?_)
      · replace h := h.1 c
        refine st_aload_n (pc := 32) dX9_cup_32 rfl rfl ?_
        obtain ⟨hk1, h⟩ := h
        refine sg_gfR (pc := 33) (J := 0) dX9_cup_33 fl_9_10 rfl hk1 ?_
        refine st_iload_n (pc := 36) dX9_cup_36 rfl rfl ?_
        refine sg_iconst (pc := 37) dX9_cup_37 (by omega) ?_
        refine st_isub (pc := 38) dX9_cup_38 ?_
        obtain ⟨hk2, h⟩ := h
        refine sg_pfI (pc := 39) (J := 0) dX9_cup_39 fl_9_106 rfl (Or.inl rfl) hk2 ?_
        refine Wp.nameM (fun m4 em4 => ?_)
        replace h := h m4 em4
        refine st_aload_n (pc := 42) dX9_cup_42 rfl rfl ?_
        refine sg_gfR (pc := 43) (J := 0) dX9_cup_43 fl_9_10 rfl (by cases em4; exact hk1) ?_
        refine st_iload_n (pc := 46) dX9_cup_46 rfl rfl ?_
        refine sg_pfI (pc := 47) (J := 1) dX9_cup_47 fl_9_109 rfl (Or.inl rfl) (by cases em4; exact hk2) ?_
        refine Wp.nameM (fun m5 em5 => ?_)
        replace h := h m5 em5
        refine st_aload_n (pc := 50) dX9_cup_50 rfl rfl ?_
        refine sg_gfR (pc := 51) (J := 0) dX9_cup_51 fl_9_10 rfl (by cases em5; cases em4; exact hk1) ?_
        refine st_iload_n (pc := 54) dX9_cup_54 rfl rfl ?_
        refine sg_pfI (pc := 55) (J := 2) dX9_cup_55 fl_9_112 rfl (Or.inl rfl) (by cases em5; cases em4; exact hk2) ?_
        refine Wp.nameM (fun m6 em6 => ?_)
        replace h := h m6 em6
        refine st_aload_n (pc := 58) dX9_cup_58 rfl rfl ?_
        refine sg_gfR (pc := 59) (J := 0) dX9_cup_59 fl_9_10 rfl (by cases em6; cases em5; cases em4; exact hk1) ?_
        obtain ⟨mc4, ms4, K4, hC, e1, e2, h⟩ := h
        refine sg_VV (pc := 62) (av := []) (st := []) (K := K4) dX9_cup_62 ck_9_115 rfl (by decide) (by cases em6; cases em5; cases em4; exact hk2) (by show (0 : Nat) ≤ 8; decide) hC e1 e2 (fun m7 hK => ?_) rfl
        replace h := h m7 hK
        refine st_aload_n (pc := 65) dX9_cup_65 rfl rfl ?_
        obtain ⟨hk3, h⟩ := h
        refine sg_gfR (pc := 66) (J := 1) dX9_cup_66 fl_9_19 rfl hk3 ?_
        refine st_aload_n (pc := 69) dX9_cup_69 rfl rfl ?_
        refine sg_gfR (pc := 70) (J := 0) dX9_cup_70 fl_9_10 rfl hk3 ?_
        obtain ⟨hk4, h⟩ := h
        obtain ⟨mc5, ms5, K5, hC, e1, e2, h⟩ := h
        refine sg_VV (pc := 73) (av := [vr (mR m7 a0 0)]) (st := []) (K := K5) dX9_cup_73 ck_9_98 rfl (by decide) hk4 (by show (0 : Nat) ≤ 8; decide) hC e1 e2 (fun m8 hK => ?_) rfl
        replace h := h m8 hK
        refine st_aload_n (pc := 76) dX9_cup_76 rfl rfl ?_
        refine sg_iconst (pc := 77) dX9_cup_77 (by omega) ?_
        obtain ⟨hk5, h⟩ := h
        refine sg_pfI (pc := 78) (J := 3) dX9_cup_78 fl_9_27 rfl (Or.inl rfl) hk5 ?_
        refine Wp.nameM (fun m9 em9 => ?_)
        replace h := h m9 em9
        refine sg_iconst (pc := 81) dX9_cup_81 (by omega) ?_
        exact st_ireturn (pc := 82) dX9_cup_82 (Or.inr ⟨rfl, by omega⟩) h
      · replace h := h.2 c
        refine sg_iconst (pc := 30) dX9_cup_30 (by omega) ?_
        exact st_ireturn (pc := 31) dX9_cup_31 (Or.inr ⟨rfl, by omega⟩) h

theorem sg_X9_set_0 {d bc bs : Nat} {a0 : Nat} {a1 : Int} {a2 : Int} {μ : Mem} {Q : Option (Option AV) → Mem → Prop}
    (h : ∃ (mc1 ms1 : Nat) (K1 : Int → Mem → Prop), Cl d mc1 ms1 mX9_isIn [vi a1, vi 0, vi 6] μ (KI K1) ∧ mc1 ≤ bc ∧ ms1 ≤ bs ∧ (∀ x1 m1, K1 x1 m1 → (x1 = 0 → Q (some (some (vi (-1)))) m1) ∧ (¬ x1 = 0 → (mK m1 2 = 20 ∨ (2 ≠ 0 ∧ mK m1 2 = 40)) ∧ ((0 : Int) ≤ a1 ∧ a1 < (mN m1 2 : Int)) ∧ ((mK m1 3 = 20 ∨ (3 ≠ 0 ∧ mK m1 3 = 40)) ∧ ((0 : Int) ≤ a1 ∧ a1 < (mN m1 3 : Int)) ∧ (∃ (mc2 ms2 : Nat) (K2 : Int → Mem → Prop), Cl d mc2 ms2 mX9_isIn [vi a2, vi (mD m1 2 a1), vi (mD m1 3 a1)] m1 (KI K2) ∧ mc2 ≤ bc - mc1 ∧ ms2 ≤ bs - ms1 ∧ (∀ x2 m2, K2 x2 m2 → (¬ x2 = 0 → mK m2 a0 = 10 ∧ (mK m2 (mR m2 a0 0) = 1 ∧ ((mK m2 (mR m2 (mR m2 a0 0) 3) = 20 ∨ ((mR m2 (mR m2 a0 0) 3) ≠ 0 ∧ mK m2 (mR m2 (mR m2 a0 0) 3) = 40)) ∧ ((0 : Int) ≤ a1 ∧ a1 < (mN m2 (mR m2 (mR m2 a0 0) 3) : Int)) ∧ (∀ v1, v1 = mD m2 (mR m2 (mR m2 a0 0) 3) a1 → mK m2 (mR m2 (mR m2 a0 0) 3) = 20 ∧ ((0 : Int) ≤ a1 ∧ a1 < (mN m2 (mR m2 (mR m2 a0 0) 3) : Int)) ∧ (∀ m3, m3 = sD m2 (mR m2 (mR m2 a0 0) 3) a1 a2 → Q (some (some (vi v1))) m3))))) ∧ (x2 = 0 → Q (some (some (vi (-1)))) m2))))))) :
    Wp (d + 1) bc bs mX9_set 0 [some (vr a0), some (vi a1), some (vi a2), none] [] μ Q := by
  refine st_iload_n (pc := 0) dX9_set_0 rfl rfl ?_
  refine sg_iconst (pc := 1) dX9_set_1 (by omega) ?_
  refine sg_bipush (pc := 2) dX9_set_2 (by omega) (by decide) ?_
  obtain ⟨mc1, ms1, K1, hC, e1, e2, h⟩ := h
  refine sg_SI (pc := 4) (av := [vi a1, vi 0, vi 6]) (st := []) (K := K1) dX9_set_4 ck_9_102 rfl (by show (0 : Nat) ≤ 8; decide) hC e1 e2 (fun x1 m1 hK => ?_) rfl
  replace h := h x1 m1 hK
  refine st_ifeq (pc := 7) (tgt := 27) dX9_set_7 rfl (fun c => ?_) (fun c => ?_)
  · replace h := h.1 c
    refine sg_iconst (pc := 27) dX9_set_27 (by omega) ?_
    exact st_ireturn (pc := 28) dX9_set_28 (Or.inl rfl) h
  · replace h := h.2 c
    refine st_iload_n (pc := 10) dX9_set_10 rfl rfl ?_
    refine st_least (pc := 11) dX9_set_11 rfl ?_
    refine st_iload_n (pc := 14) dX9_set_14 rfl rfl ?_
    obtain ⟨hk1, h⟩ := h
    obtain ⟨h1, h⟩ := h
    refine sg_iaload (pc := 15) dX9_set_15 hk1 h1 ?_
    refine st_most (pc := 16) dX9_set_16 rfl ?_
    refine st_iload_n (pc := 19) dX9_set_19 rfl rfl ?_
    obtain ⟨hk2, h⟩ := h
    obtain ⟨h1, h⟩ := h
    refine sg_iaload (pc := 20) dX9_set_20 hk2 h1 ?_
    obtain ⟨mc2, ms2, K2, hC, e1, e2, h⟩ := h
    refine sg_SI (pc := 21) (av := [vi a2, vi (mD m1 2 a1), vi (mD m1 3 a1)]) (st := []) (K := K2) dX9_set_21 ck_9_102 rfl (by show (0 : Nat) ≤ 8; decide) hC e1 e2 (fun x2 m2 hK => ?_) rfl
    replace h := h x2 m2 hK
    refine st_ifne (pc := 24) (tgt := 29) dX9_set_24 rfl (fun c => ?_) (fun c => ?_)
    · replace h := h.1 c
      refine st_aload_n (pc := 29) dX9_set_29 rfl rfl ?_
      obtain ⟨hk3, h⟩ := h
      refine sg_gfR (pc := 30) (J := 0) dX9_set_30 fl_9_10 rfl hk3 ?_
      obtain ⟨hk4, h⟩ := h
      refine sg_gfR (pc := 33) (J := 3) dX9_set_33 fl_9_124 rfl hk4 ?_
      refine st_iload_n (pc := 36) dX9_set_36 rfl rfl ?_
      obtain ⟨hk5, h⟩ := h
      obtain ⟨h1, h⟩ := h
      refine sg_iaload (pc := 37) dX9_set_37 hk5 h1 ?_
      refine sg_istore_n (pc := 38) (ls' := [some (vr a0), some (vi a1), some (vi a2), some (vi (mD m2 (mR m2 (mR m2 a0 0) 3) a1))]) dX9_set_38 rfl (by show (3 : Nat) < 4; decide) rfl ?_
      refine Wp.nameL (ls2 := fun v => [some (vr a0), some (vi a1), some (vi a2), some (vi v)]) 3 _ rfl (fun _ => rfl) (fun v1 ev1 => ?_)
      replace h := h v1 ev1
      refine st_aload_n (pc := 39) dX9_set_39 rfl rfl ?_
      refine sg_gfR (pc := 40) (J := 0) dX9_set_40 fl_9_10 rfl hk3 ?_
      refine sg_gfR (pc := 43) (J := 3) dX9_set_43 fl_9_124 rfl hk4 ?_
      refine st_iload_n (pc := 46) dX9_set_46 rfl rfl ?_
      refine st_iload_n (pc := 47) dX9_set_47 rfl rfl ?_
      obtain ⟨hk6, h⟩ := h
      obtain ⟨h1, h⟩ := h
      refine st_iastore (pc := 48) dX9_set_48 hk6 h1.1 h1.2 ?_
      refine Wp.nameM (fun m3 em3 => ?_)
      replace h := h m3 em3
      refine st_iload_n (pc := 49) dX9_set_49 rfl rfl ?_
      exact st_ireturn (pc := 50) dX9_set_50 (Or.inl rfl) h
    · replace h := h.2 c
      refine sg_iconst (pc := 27) dX9_set_27 (by omega) ?_
      exact st_ireturn (pc := 28) dX9_set_28 (Or.inl rfl) h

theorem sg_X9_isGap_0 {d bc bs : Nat} {a0 : Nat} {a1 : Int} {μ : Mem} {Q : Option (Option AV) → Mem → Prop}
    (h : mK μ a0 = 10 ∧ (mK μ (mR μ a0 0) = 1 ∧ (∃ (mc1 ms1 : Nat) (K1 : Int → Mem → Prop), Cl d mc1 ms1 mX9_isIn [vi a1, vi 0, vi (w32 ((mD μ (mR μ a0 0) 0) - 1))] μ (KI K1) ∧ mc1 ≤ bc ∧ ms1 ≤ bs ∧ (∀ x1 m1, K1 x1 m1 → (x1 = 0 ∨ x1 = 1) ∧ Q (some (some (vi x1))) m1)))) :
    Wp (d + 1) bc bs mX9_isGap 0 [some (vr a0), some (vi a1)] [] μ Q := by
  refine st_iload_n (pc := 0) dX9_isGap_0 rfl rfl ?_
  refine sg_iconst (pc := 1) dX9_isGap_1 (by omega) ?_
  refine st_aload_n (pc := 2) dX9_isGap_2 rfl rfl ?_
  obtain ⟨hk1, h⟩ := h
  refine sg_gfR (pc := 3) (J := 0) dX9_isGap_3 fl_9_10 rfl hk1 ?_
  obtain ⟨hk2, h⟩ := h
  refine sg_gfI (pc := 6) (J := 0) dX9_isGap_6 fl_9_106 (by decide) rfl hk2 ?_
  refine sg_iconst (pc := 9) dX9_isGap_9 (by omega) ?_
  refine st_isub (pc := 10) dX9_isGap_10 ?_
  obtain ⟨mc1, ms1, K1, hC, e1, e2, h⟩ := h
  refine sg_SI (pc := 11) (av := [vi a1, vi 0, vi (w32 ((mD μ (mR μ a0 0) 0) - 1))]) (st := []) (K := K1) dX9_isGap_11 ck_9_102 rfl (by show (0 : Nat) ≤ 8; decide) hC e1 e2 (fun x1 m1 hK => ?_) rfl
  replace h := h x1 m1 hK
  exact st_ireturn (pc := 14) dX9_isGap_14 (Or.inr ⟨rfl, h.1⟩) h.2

theorem sg_X9_wall_0 {d bc bs : Nat} {a0 : Nat} {a1 : Int} {a2 : Int} {μ : Mem} {Q : Option (Option AV) → Mem → Prop}
    (h : mK μ a0 = 10 ∧ ∃ (mc1 ms1 : Nat) (K1 : Int → Mem → Prop), Cl d mc1 ms1 mX9_isGap [vr a0, vi a1] μ (KI K1) ∧ mc1 ≤ bc ∧ ms1 ≤ bs ∧ (∀ x1 m1, K1 x1 m1 → (x1 = 0 → Q (some (some (vi (-1)))) m1) ∧ (¬ x1 = 0 → ∃ (mc2 ms2 : Nat) (K2 : Int → Mem → Prop), Cl d mc2 ms2 mX9_isIn [vi a2, vi 0, vi 100] m1 (KI K2) ∧ mc2 ≤ bc - mc1 ∧ ms2 ≤ bs - ms1 ∧ (∀ x2 m2, K2 x2 m2 → (¬ x2 = 0 → mK m2 a0 = 10 ∧ (mK m2 (mR m2 a0 0) = 1 ∧ ((mK m2 (mR m2 (mR m2 a0 0) 4) = 20 ∨ ((mR m2 (mR m2 a0 0) 4) ≠ 0 ∧ mK m2 (mR m2 (mR m2 a0 0) 4) = 40)) ∧ ((0 : Int) ≤ a1 ∧ a1 < (mN m2 (mR m2 (mR m2 a0 0) 4) : Int)) ∧ (∀ v1, v1 = mD m2 (mR m2 (mR m2 a0 0) 4) a1 → mK m2 (mR m2 (mR m2 a0 0) 4) = 20 ∧ ((0 : Int) ≤ a1 ∧ a1 < (mN m2 (mR m2 (mR m2 a0 0) 4) : Int)) ∧ (∀ m3, m3 = sD m2 (mR m2 (mR m2 a0 0) 4) a1 a2 → Q (some (some (vi v1))) m3))))) ∧ (x2 = 0 → Q (some (some (vi (-1)))) m2))))) :
    Wp (d + 1) bc bs mX9_wall 0 [some (vr a0), some (vi a1), some (vi a2), none] [] μ Q := by
  refine st_aload_n (pc := 0) dX9_wall_0 rfl rfl ?_
  refine st_iload_n (pc := 1) dX9_wall_1 rfl rfl ?_
  obtain ⟨hk1, h⟩ := h
  obtain ⟨mc1, ms1, K1, hC, e1, e2, h⟩ := h
  refine sg_VI (pc := 2) (av := [vi a1]) (st := []) (K := K1) dX9_wall_2 ck_9_127 rfl (by decide) hk1 (by show (0 : Nat) ≤ 8; decide) hC e1 e2 (fun x1 m1 hK => ?_) rfl
  replace h := h x1 m1 hK
  refine st_ifeq (pc := 5) (tgt := 18) dX9_wall_5 rfl (fun c => ?_) (fun c => ?_)
  · replace h := h.1 c
    refine sg_iconst (pc := 18) dX9_wall_18 (by omega) ?_
    exact st_ireturn (pc := 19) dX9_wall_19 (Or.inl rfl) h
  · replace h := h.2 c
    refine st_iload_n (pc := 8) dX9_wall_8 rfl rfl ?_
    refine sg_iconst (pc := 9) dX9_wall_9 (by omega) ?_
    refine sg_bipush (pc := 10) dX9_wall_10 (by omega) (by decide) ?_
    obtain ⟨mc2, ms2, K2, hC, e1, e2, h⟩ := h
    refine sg_SI (pc := 12) (av := [vi a2, vi 0, vi 100]) (st := []) (K := K2) dX9_wall_12 ck_9_102 rfl (by show (0 : Nat) ≤ 8; decide) hC e1 e2 (fun x2 m2 hK => ?_) rfl
    replace h := h x2 m2 hK
    refine st_ifne (pc := 15) (tgt := 20) dX9_wall_15 rfl (fun c => ?_) (fun c => ?_)
    · replace h := h.1 c
      refine st_aload_n (pc := 20) dX9_wall_20 rfl rfl ?_
      obtain ⟨hk2, h⟩ := h
      refine sg_gfR (pc := 21) (J := 0) dX9_wall_21 fl_9_10 rfl hk2 ?_
      obtain ⟨hk3, h⟩ := h
      refine sg_gfR (pc := 24) (J := 4) dX9_wall_24 fl_9_131 rfl hk3 ?_
      refine st_iload_n (pc := 27) dX9_wall_27 rfl rfl ?_
      obtain ⟨hk4, h⟩ := h
      obtain ⟨h1, h⟩ := h
      refine sg_iaload (pc := 28) dX9_wall_28 hk4 h1 ?_
      refine sg_istore_n (pc := 29) (ls' := [some (vr a0), some (vi a1), some (vi a2), some (vi (mD m2 (mR m2 (mR m2 a0 0) 4) a1))]) dX9_wall_29 rfl (by show (3 : Nat) < 4; decide) rfl ?_
      refine Wp.nameL (ls2 := fun v => [some (vr a0), some (vi a1), some (vi a2), some (vi v)]) 3 _ rfl (fun _ => rfl) (fun v1 ev1 => ?_)
      replace h := h v1 ev1
      refine st_aload_n (pc := 30) dX9_wall_30 rfl rfl ?_
      refine sg_gfR (pc := 31) (J := 0) dX9_wall_31 fl_9_10 rfl hk2 ?_
      refine sg_gfR (pc := 34) (J := 4) dX9_wall_34 fl_9_131 rfl hk3 ?_
      refine st_iload_n (pc := 37) dX9_wall_37 rfl rfl ?_
      refine st_iload_n (pc := 38) dX9_wall_38 rfl rfl ?_
      obtain ⟨hk5, h⟩ := h
      obtain ⟨h1, h⟩ := h
      refine st_iastore (pc := 39) dX9_wall_39 hk5 h1.1 h1.2 ?_
      refine Wp.nameM (fun m3 em3 => ?_)
      replace h := h m3 em3
      refine st_iload_n (pc := 40) dX9_wall_40 rfl rfl ?_
      exact st_ireturn (pc := 41) dX9_wall_41 (Or.inl rfl) h
    · replace h := h.2 c
      refine sg_iconst (pc := 18) dX9_wall_18 (by omega) ?_
      exact st_ireturn (pc := 19) dX9_wall_19 (Or.inl rfl) h

theorem sg_X9_sheetEntry_0 {d bc bs : Nat} {a0 : Int} {a1 : Int} {μ : Mem} {Q : Option (Option AV) → Mem → Prop}
    (h : (¬ a0 = 0 → (¬ a0 = 1 → Q (some (some (vi a1))) μ) ∧ (a0 = 1 → Q (some (some (vi (w16 a1)))) μ)) ∧ (a0 = 0 → Q (some (some (vi (w8 a1)))) μ)) :
    Wp d bc bs mX9_sheetEntry 0 [some (vi a0), some (vi a1)] [] μ Q := by
  refine st_iload_n (pc := 0) dX9_sheetEntry_0 rfl rfl ?_
  refine st_ifne (pc := 1) (tgt := 7) dX9_sheetEntry_1 rfl (fun c => ?_) (fun c => ?_)
  · replace h := h.1 c
    refine st_iload_n (pc := 7) dX9_sheetEntry_7 rfl rfl ?_
    refine sg_iconst (pc := 8) dX9_sheetEntry_8 (by omega) ?_
    refine st_icmpne (pc := 9) (tgt := 17) dX9_sheetEntry_9 rfl (fun c => ?_) (fun c => ?_)
    · replace h := h.1 c
      refine st_iload_n (pc := 17) dX9_sheetEntry_17 rfl rfl ?_
      exact st_ireturn (pc := 18) dX9_sheetEntry_18 (Or.inl rfl) h
    · replace h := h.2 c
      refine st_iload_n (pc := 12) dX9_sheetEntry_12 rfl rfl ?_
      refine st_i2s (pc := 13) dX9_sheetEntry_13 ?_
      refine st_goto (pc := 14) dX9_sheetEntry_14 rfl ?_
      exact st_ireturn (pc := 18) dX9_sheetEntry_18 (Or.inl rfl) h
  · replace h := h.2 c
    refine st_iload_n (pc := 4) dX9_sheetEntry_4 rfl rfl ?_
    refine st_i2b (pc := 5) dX9_sheetEntry_5 ?_
    exact st_ireturn (pc := 6) dX9_sheetEntry_6 (Or.inl rfl) h

theorem sg_X9_sheet_0 {d bc bs : Nat} {a0 : Nat} {a1 : Int} {a2 : Int} {a3 : Int} {a4 : Int} {μ : Mem} {Q : Option (Option AV) → Mem → Prop}
    (h : ∃ (mc1 ms1 : Nat) (K1 : Int → Mem → Prop), Cl d mc1 ms1 mX9_isIn [vi a1, vi 0, vi 3] μ (KI K1) ∧ mc1 ≤ bc ∧ ms1 ≤ bs ∧ (∀ x1 m1, K1 x1 m1 → (x1 = 0 → Q (some (some (vi (-1)))) m1) ∧ (¬ x1 = 0 → mK m1 a0 = 10 ∧ (mK m1 (mR m1 a0 0) = 1 ∧ ((a2 ≤ (mD m1 (mR m1 a0 0) 0) → (¬ a1 = 3 → (0 ≤ a2 → Wp (d + 1) (bc - mc1) (bs - ms1) mX9_sheet 50 [some (vr a0), some (vi a1), some (vi a2), some (vi a3), some (vi a4), some (vi 0), some (vi 0)] [] m1 Q) ∧ (¬ 0 ≤ a2 → Q (some (some (vi (-2)))) m1)) ∧ (a1 = 3 → ∃ (mc2 ms2 : Nat) (K2 : Mem → Prop), Cl d mc2 ms2 mX0_openAll [vr (mR m1 a0 0)] m1 (KV K2) ∧ mc2 ≤ bc - mc1 ∧ ms2 ≤ bs - ms1 ∧ (∀ m2, K2 m2 → Q (some (some (vi (-3)))) m2))) ∧ (¬ a2 ≤ (mD m1 (mR m1 a0 0) 0) → Q (some (some (vi (-1)))) m1)))))) :
    Wp (d + 1) bc bs mX9_sheet 0 [some (vr a0), some (vi a1), some (vi a2), some (vi a3), some (vi a4), none, none] [] μ Q := by
  refine st_iload_n (pc := 0) dX9_sheet_0 rfl rfl ?_
  refine sg_iconst (pc := 1) dX9_sheet_1 (by omega) ?_
  refine sg_iconst (pc := 2) dX9_sheet_2 (by omega) ?_
  obtain ⟨mc1, ms1, K1, hC, e1, e2, h⟩ := h
  refine sg_SI (pc := 3) (av := [vi a1, vi 0, vi 3]) (st := []) (K := K1) dX9_sheet_3 ck_9_102 rfl (by show (0 : Nat) ≤ 8; decide) hC e1 e2 (fun x1 m1 hK => ?_) rfl
  replace h := h x1 m1 hK
  refine st_ifeq (pc := 6) (tgt := 20) dX9_sheet_6 rfl (fun c => ?_) (fun c => ?_)
  · replace h := h.1 c
    refine sg_iconst (pc := 20) dX9_sheet_20 (by omega) ?_
    exact st_ireturn (pc := 21) dX9_sheet_21 (Or.inl rfl) h
  · replace h := h.2 c
    refine st_iload_n (pc := 9) dX9_sheet_9 rfl rfl ?_
    refine st_aload_n (pc := 10) dX9_sheet_10 rfl rfl ?_
    obtain ⟨hk1, h⟩ := h
    refine sg_gfR (pc := 11) (J := 0) dX9_sheet_11 fl_9_10 rfl hk1 ?_
    obtain ⟨hk2, h⟩ := h
    refine sg_gfI (pc := 14) (J := 0) dX9_sheet_14 fl_9_106 (by decide) rfl hk2 ?_
    refine st_icmple (pc := 17) (tgt := 22) dX9_sheet_17 rfl (fun c => ?_) (fun c => ?_)
    · replace h := h.1 c
      refine st_iload_n (pc := 22) dX9_sheet_22 rfl rfl ?_
      refine sg_iconst (pc := 23) dX9_sheet_23 (by omega) ?_
      refine st_icmpne (pc := 24) (tgt := 37) dX9_sheet_24 rfl (fun c => ?_) (fun c => ?_)
      · replace h := h.1 c
        refine st_iload_n (pc := 37) dX9_sheet_37 rfl rfl ?_
        refine st_ifge (pc := 38) (tgt := 44) dX9_sheet_38 rfl (fun c => ?_) (fun c => ?_)
        · replace h := h.1 c
          refine sg_iconst (pc := 44) dX9_sheet_44 (by omega) ?_
          refine sg_istore (pc := 45) (ls' := [some (vr a0), some (vi a1), some (vi a2), some (vi a3), some (vi a4), some (vi 0), none]) dX9_sheet_45 (by show (5 : Nat) < 7; decide) rfl ?_
          refine sg_iconst (pc := 47) dX9_sheet_47 (by omega) ?_
          refine sg_istore (pc := 48) (ls' := [some (vr a0), some (vi a1), some (vi a2), some (vi a3), some (vi a4), some (vi 0), some (vi 0)]) dX9_sheet_48 (by show (6 : Nat) < 7; decide) rfl ?_
          exact h
        · replace h := h.2 c
          refine sg_bipush (pc := 41) dX9_sheet_41 (by omega) (by decide) ?_
          exact st_ireturn (pc := 43) dX9_sheet_43 (Or.inl rfl) h
      · replace h := h.2 c
        refine st_aload_n (pc := 27) dX9_sheet_27 rfl rfl ?_
        refine sg_gfR (pc := 28) (J := 0) dX9_sheet_28 fl_9_10 rfl hk1 ?_
        obtain ⟨mc2, ms2, K2, hC, e1, e2, h⟩ := h
        refine sg_VV (pc := 31) (av := []) (st := []) (K := K2) dX9_sheet_31 ck_9_115 rfl (by decide) hk2 (by show (0 : Nat) ≤ 8; decide) hC e1 e2 (fun m2 hK => ?_) rfl
        replace h := h m2 hK
        refine sg_bipush (pc := 34) dX9_sheet_34 (by omega) (by decide) ?_
        exact st_ireturn (pc := 36) dX9_sheet_36 (Or.inl rfl) h
    · replace h := h.2 c
      refine sg_iconst (pc := 20) dX9_sheet_20 (by omega) ?_
      exact st_ireturn (pc := 21) dX9_sheet_21 (Or.inl rfl) h

theorem sg_X9_sheet_50 {d bc bs : Nat} {a0 : Nat} {a1 : Int} {a2 : Int} {a3 : Int} {a4 : Int} {a5 : Int} {a6 : Int} {μ : Mem} {Q : Option (Option AV) → Mem → Prop}
    (h : mK μ a0 = 10 ∧ (mK μ (mR μ a0 0) = 1 ∧ (((mD μ (mR μ a0 0) 0) ≤ a6 → Q (some (some (vi a5))) μ) ∧ (¬ (mD μ (mR μ a0 0) 0) ≤ a6 → (a2 ≤ a6 → mK μ (mR μ (mR μ a0 0) 4) = 20 ∧ ((0 : Int) ≤ a6 ∧ a6 < (mN μ (mR μ (mR μ a0 0) 4) : Int)) ∧ (∀ m1, m1 = sD μ (mR μ (mR μ a0 0) 4) a6 100 → (mK m1 (mR m1 (mR m1 a0 0) 4) = 20 ∨ ((mR m1 (mR m1 a0 0) 4) ≠ 0 ∧ mK m1 (mR m1 (mR m1 a0 0) 4) = 40)) ∧ ((0 : Int) ≤ a6 ∧ a6 < (mN m1 (mR m1 (mR m1 a0 0) 4) : Int)) ∧ (∀ v1, v1 = w32 (a5 + (mD m1 (mR m1 (mR m1 a0 0) 4) a6)) → ∀ v2, v2 = w32 (a6 + 1) → Wp (d + 1) bc bs mX9_sheet 50 [some (vr a0), some (vi a1), some (vi a2), some (vi a3), some (vi a4), some (vi v1), some (vi v2)] [] m1 Q))) ∧ (¬ a2 ≤ a6 → ∃ (mc1 ms1 : Nat) (K1 : Int → Mem → Prop), Cl d mc1 ms1 mX9_sheetEntry [vi a1, vi (w32 (a3 + (w32 (a6 * a4))))] μ (KI K1) ∧ mc1 ≤ bc ∧ ms1 ≤ bs ∧ (∀ x1 m2, K1 x1 m2 → ∃ (mc2 ms2 : Nat) (K2 : Int → Mem → Prop), Cl d mc2 ms2 mX9_between [vi x1, vi 0, vi 100] m2 (KI K2) ∧ mc2 ≤ bc - mc1 ∧ ms2 ≤ bs - ms1 ∧ (∀ x2 m3, K2 x2 m3 → mK m3 (mR μ (mR μ a0 0) 4) = 20 ∧ ((0 : Int) ≤ a6 ∧ a6 < (mN m3 (mR μ (mR μ a0 0) 4) : Int)) ∧ (∀ m4, m4 = sD m3 (mR μ (mR μ a0 0) 4) a6 x2 → mK m4 a0 = 10 ∧ (mK m4 (mR m4 a0 0) = 1 ∧ ((mK m4 (mR m4 (mR m4 a0 0) 4) = 20 ∨ ((mR m4 (mR m4 a0 0) 4) ≠ 0 ∧ mK m4 (mR m4 (mR m4 a0 0) 4) = 40)) ∧ ((0 : Int) ≤ a6 ∧ a6 < (mN m4 (mR m4 (mR m4 a0 0) 4) : Int)) ∧ (∀ v3, v3 = w32 (a5 + (mD m4 (mR m4 (mR m4 a0 0) 4) a6)) → ∀ v4, v4 = w32 (a6 + 1) → Wp (d + 1) (bc - mc1 - mc2) (bs - ms1 - ms2) mX9_sheet 50 [some (vr a0), some (vi a1), some (vi a2), some (vi a3), some (vi a4), some (vi v3), some (vi v4)] [] m4 Q))))))))))) :
    Wp (d + 1) bc bs mX9_sheet 50 [some (vr a0), some (vi a1), some (vi a2), some (vi a3), some (vi a4), some (vi a5), some (vi a6)] [] μ Q := by
  refine st_iload (pc := 50) dX9_sheet_50 rfl ?_
  refine st_aload_n (pc := 52) dX9_sheet_52 rfl rfl ?_
  obtain ⟨hk1, h⟩ := h
  refine sg_gfR (pc := 53) (J := 0) dX9_sheet_53 fl_9_10 rfl hk1 ?_
  obtain ⟨hk2, h⟩ := h
  refine sg_gfI (pc := 56) (J := 0) dX9_sheet_56 fl_9_106 (by decide) rfl hk2 ?_
  refine st_icmpge (pc := 59) (tgt := 121) dX9_sheet_59 rfl (fun c => ?_) (fun c => ?_)
  · replace h := h.1 c
    refine st_iload (pc := 121) dX9_sheet_121 rfl ?_
    exact st_ireturn (pc := 123) dX9_sheet_123 (Or.inl rfl) h
  · replace h := h.2 c
    refine st_aload_n (pc := 62) dX9_sheet_62 rfl rfl ?_
    refine sg_gfR (pc := 63) (J := 0) dX9_sheet_63 fl_9_10 rfl hk1 ?_
    refine sg_gfR (pc := 66) (J := 4) dX9_sheet_66 fl_9_131 rfl hk2 ?_
    refine st_iload (pc := 69) dX9_sheet_69 rfl ?_
    refine st_iload (pc := 71) dX9_sheet_71 rfl ?_
    refine st_iload_n (pc := 73) dX9_sheet_73 rfl rfl ?_
    refine st_icmpge (pc := 74) (tgt := 97) dX9_sheet_74 rfl (fun c => ?_) (fun c => ?_)
    · replace h := h.1 c
      refine sg_bipush (pc := 97) dX9_sheet_97 (by omega) (by decide) ?_
      obtain ⟨hk3, h⟩ := h
      obtain ⟨h1, h⟩ := h
      refine st_iastore (pc := 99) dX9_sheet_99 hk3 h1.1 h1.2 ?_
      refine Wp.nameM (fun m1 em1 => ?_)
      replace h := h m1 em1
      refine st_iload (pc := 100) dX9_sheet_100 rfl ?_
      refine st_aload_n (pc := 102) dX9_sheet_102 rfl rfl ?_
      refine sg_gfR (pc := 103) (J := 0) dX9_sheet_103 fl_9_10 rfl (by cases em1; exact hk1) ?_
      refine sg_gfR (pc := 106) (J := 4) dX9_sheet_106 fl_9_131 rfl (by cases em1; exact hk2) ?_
      refine st_iload (pc := 109) dX9_sheet_109 rfl ?_
      obtain ⟨hk4, h⟩ := h
      obtain ⟨h1, h⟩ := h
      refine sg_iaload (pc := 111) dX9_sheet_111 hk4 h1 ?_
      refine st_iadd (pc := 112) dX9_sheet_112 ?_
      refine sg_istore (pc := 113) (ls' := [some (vr a0), some (vi a1), some (vi a2), some (vi a3), some (vi a4), some (vi (w32 (a5 + (mD m1 (mR m1 (mR m1 a0 0) 4) a6)))), some (vi a6)]) dX9_sheet_113 (by show (5 : Nat) < 7; decide) rfl ?_
      refine Wp.nameL (ls2 := fun v => [some (vr a0), some (vi a1), some (vi a2), some (vi a3), some (vi a4), some (vi v), some (vi a6)]) 5 _ rfl (fun _ => rfl) (fun v1 ev1 => ?_)
      replace h := h v1 ev1
      refine sg_iinc (pc := 115) (ls' := [some (vr a0), some (vi a1), some (vi a2), some (vi a3), some (vi a4), some (vi v1), some (vi (w32 (a6 + 1)))]) dX9_sheet_115 rfl rfl ?_
      refine Wp.nameL (ls2 := fun v => [some (vr a0), some (vi a1), some (vi a2), some (vi a3), some (vi a4), some (vi v1), some (vi v)]) 6 _ rfl (fun _ => rfl) (fun v2 ev2 => ?_)
      replace h := h v2 ev2
      refine st_goto (pc := 118) dX9_sheet_118 rfl ?_
      exact h
    · replace h := h.2 c
      refine st_iload_n (pc := 77) dX9_sheet_77 rfl rfl ?_
      refine st_iload_n (pc := 78) dX9_sheet_78 rfl rfl ?_
      refine st_iload (pc := 79) dX9_sheet_79 rfl ?_
      refine st_iload (pc := 81) dX9_sheet_81 rfl ?_
      refine st_imul (pc := 83) dX9_sheet_83 ?_
      refine st_iadd (pc := 84) dX9_sheet_84 ?_
      obtain ⟨mc1, ms1, K1, hC, e1, e2, h⟩ := h
      refine sg_SI (pc := 85) (av := [vi a1, vi (w32 (a3 + (w32 (a6 * a4))))]) (st := [vi a6, vr (mR μ (mR μ a0 0) 4)]) (K := K1) dX9_sheet_85 ck_9_134 rfl (by show (2 : Nat) ≤ 8; decide) hC e1 e2 (fun x1 m2 hK => ?_) rfl
      replace h := h x1 m2 hK
      refine sg_iconst (pc := 88) dX9_sheet_88 (by omega) ?_
      refine sg_bipush (pc := 89) dX9_sheet_89 (by omega) (by decide) ?_
      obtain ⟨mc2, ms2, K2, hC, e1, e2, h⟩ := h
      refine sg_SI (pc := 91) (av := [vi x1, vi 0, vi 100]) (st := [vi a6, vr (mR μ (mR μ a0 0) 4)]) (K := K2) dX9_sheet_91 ck_9_138 rfl (by show (2 : Nat) ≤ 8; decide) hC e1 e2 (fun x2 m3 hK => ?_) rfl
      replace h := h x2 m3 hK
      refine st_goto (pc := 94) dX9_sheet_94 rfl ?_
      obtain ⟨hk5, h⟩ := h
      obtain ⟨h1, h⟩ := h
      refine st_iastore (pc := 99) dX9_sheet_99 hk5 h1.1 h1.2 ?_
      refine Wp.nameM (fun m4 em4 => ?_)
      replace h := h m4 em4
      refine st_iload (pc := 100) dX9_sheet_100 rfl ?_
      refine st_aload_n (pc := 102) dX9_sheet_102 rfl rfl ?_
      obtain ⟨hk6, h⟩ := h
      refine sg_gfR (pc := 103) (J := 0) dX9_sheet_103 fl_9_10 rfl hk6 ?_
      obtain ⟨hk7, h⟩ := h
      refine sg_gfR (pc := 106) (J := 4) dX9_sheet_106 fl_9_131 rfl hk7 ?_
      refine st_iload (pc := 109) dX9_sheet_109 rfl ?_
      obtain ⟨hk8, h⟩ := h
      obtain ⟨h1, h⟩ := h
      refine sg_iaload (pc := 111) dX9_sheet_111 hk8 h1 ?_
      refine st_iadd (pc := 112) dX9_sheet_112 ?_
      refine sg_istore (pc := 113) (ls' := [some (vr a0), some (vi a1), some (vi a2), some (vi a3), some (vi a4), some (vi (w32 (a5 + (mD m4 (mR m4 (mR m4 a0 0) 4) a6)))), some (vi a6)]) dX9_sheet_113 (by show (5 : Nat) < 7; decide) rfl ?_
      refine Wp.nameL (ls2 := fun v => [some (vr a0), some (vi a1), some (vi a2), some (vi a3), some (vi a4), some (vi v), some (vi a6)]) 5 _ rfl (fun _ => rfl) (fun v3 ev3 => ?_)
      replace h := h v3 ev3
      refine sg_iinc (pc := 115) (ls' := [some (vr a0), some (vi a1), some (vi a2), some (vi a3), some (vi a4), some (vi v3), some (vi (w32 (a6 + 1)))]) dX9_sheet_115 rfl rfl ?_
      refine Wp.nameL (ls2 := fun v => [some (vr a0), some (vi a1), some (vi a2), some (vi a3), some (vi a4), some (vi v3), some (vi v)]) 6 _ rfl (fun _ => rfl) (fun v4 ev4 => ?_)
      replace h := h v4 ev4
      refine st_goto (pc := 118) dX9_sheet_118 rfl ?_
      exact h

theorem sg_X9_fresh_0 {d bc bs : Nat} {a0 : Nat} {μ : Mem} {Q : Option (Option AV) → Mem → Prop}
    (h : mK μ a0 = 10 ∧ (mK μ (mR μ a0 1) = 6 ∧ (∀ v1, v1 = mD μ (mR μ a0 1) 0 → ∃ (mc1 ms1 : Nat) (K1 : Mem → Prop), Cl d mc1 ms1 mX5_freshen [vr (mR μ a0 1), vr (mR μ a0 0)] μ (KV K1) ∧ mc1 ≤ bc ∧ ms1 ≤ bs ∧ (∀ m1, K1 m1 → Q (some (some (vi v1))) m1)))) :
    Wp (d + 1) bc bs mX9_fresh 0 [some (vr a0), none] [] μ Q := by
  refine st_aload_n (pc := 0) dX9_fresh_0 rfl rfl ?_
  obtain ⟨hk1, h⟩ := h
  refine sg_gfR (pc := 1) (J := 1) dX9_fresh_1 fl_9_19 rfl hk1 ?_
  obtain ⟨hk2, h⟩ := h
  refine sg_gfI (pc := 4) (J := 0) dX9_fresh_4 fl_9_142 (by decide) rfl hk2 ?_
  refine sg_istore_n (pc := 7) (ls' := [some (vr a0), some (vi (mD μ (mR μ a0 1) 0))]) dX9_fresh_7 rfl (by show (1 : Nat) < 2; decide) rfl ?_
  refine Wp.nameL (ls2 := fun v => [some (vr a0), some (vi v)]) 1 _ rfl (fun _ => rfl) (fun v1 ev1 => ?_)
  replace h := h v1 ev1
  refine st_aload_n (pc := 8) dX9_fresh_8 rfl rfl ?_
  refine sg_gfR (pc := 9) (J := 1) dX9_fresh_9 fl_9_19 rfl hk1 ?_
  refine st_aload_n (pc := 12) dX9_fresh_12 rfl rfl ?_
  refine sg_gfR (pc := 13) (J := 0) dX9_fresh_13 fl_9_10 rfl hk1 ?_
  obtain ⟨mc1, ms1, K1, hC, e1, e2, h⟩ := h
  refine sg_VV (pc := 16) (av := [vr (mR μ a0 0)]) (st := []) (K := K1) dX9_fresh_16 ck_9_98 rfl (by decide) hk2 (by show (0 : Nat) ≤ 8; decide) hC e1 e2 (fun m1 hK => ?_) rfl
  replace h := h m1 hK
  refine st_iload_n (pc := 19) dX9_fresh_19 rfl rfl ?_
  exact st_ireturn (pc := 20) dX9_fresh_20 (Or.inl rfl) h

theorem sg_X9_isRow_0 {d bc bs : Nat} {a0 : Int} {μ : Mem} {Q : Option (Option AV) → Mem → Prop}
    (h : ∃ (mc1 ms1 : Nat) (K1 : Int → Mem → Prop), Cl d mc1 ms1 mX9_isIn [vi a0, vi 0, vi 1] μ (KI K1) ∧ mc1 ≤ bc ∧ ms1 ≤ bs ∧ (∀ x1 m1, K1 x1 m1 → (x1 = 0 ∨ x1 = 1) ∧ Q (some (some (vi x1))) m1)) :
    Wp (d + 1) bc bs mX9_isRow 0 [some (vi a0)] [] μ Q := by
  refine st_iload_n (pc := 0) dX9_isRow_0 rfl rfl ?_
  refine sg_iconst (pc := 1) dX9_isRow_1 (by omega) ?_
  refine sg_iconst (pc := 2) dX9_isRow_2 (by omega) ?_
  obtain ⟨mc1, ms1, K1, hC, e1, e2, h⟩ := h
  refine sg_SI (pc := 3) (av := [vi a0, vi 0, vi 1]) (st := []) (K := K1) dX9_isRow_3 ck_9_102 rfl (by show (0 : Nat) ≤ 8; decide) hC e1 e2 (fun x1 m1 hK => ?_) rfl
  replace h := h x1 m1 hK
  exact st_ireturn (pc := 6) dX9_isRow_6 (Or.inr ⟨rfl, h.1⟩) h.2

theorem sg_X9_tilt_0 {d bc bs : Nat} {a0 : Nat} {a1 : Int} {a2 : Int} {μ : Mem} {Q : Option (Option AV) → Mem → Prop}
    (h : ∃ (mc1 ms1 : Nat) (K1 : Int → Mem → Prop), Cl d mc1 ms1 mX9_isRow [vi a1] μ (KI K1) ∧ mc1 ≤ bc ∧ ms1 ≤ bs ∧ (∀ x1 m1, K1 x1 m1 → (x1 = 0 → Q (some (some (vi 0))) m1) ∧ (¬ x1 = 0 → ∃ (mc2 ms2 : Nat) (K2 : Int → Mem → Prop), Cl d mc2 ms2 mX9_isIn [vi a2, vi (-500), vi 500] m1 (KI K2) ∧ mc2 ≤ bc - mc1 ∧ ms2 ≤ bs - ms1 ∧ (∀ x2 m2, K2 x2 m2 → (¬ x2 = 0 → mK m2 a0 = 10 ∧ (mK m2 (mR m2 a0 1) = 6 ∧ ∃ (mc3 ms3 : Nat) (K3 : Nat → Mem → Prop), Cl d mc3 ms3 mX5_rowOf [vr (mR m2 a0 1), vi a1] m2 (KR K3) ∧ mc3 ≤ bc - mc1 - mc2 ∧ ms3 ≤ bs - ms1 - ms2 ∧ (∀ x3 m3, K3 x3 m3 → mK m3 a0 = 10 ∧ (mK m3 x3 = 5 ∧ ∃ (mc4 ms4 : Nat) (K4 : Mem → Prop), Cl d mc4 ms4 mX4_lean [vr x3, vr (mR m3 a0 0), vi a2] m3 (KV K4) ∧ mc4 ≤ bc - mc1 - mc2 - mc3 ∧ ms4 ≤ bs - ms1 - ms2 - ms3 ∧ (∀ m4, K4 m4 → Q (some (some (vi 1))) m4))))) ∧ (x2 = 0 → Q (some (some (vi 0))) m2))))) :
    Wp (d + 1) bc bs mX9_tilt 0 [some (vr a0), some (vi a1), some (vi a2)] [] μ Q := by
  refine st_iload_n (pc := 0) dX9_tilt_0 rfl rfl ?_
  obtain ⟨mc1, ms1, K1, hC, e1, e2, h⟩ := h
  refine sg_SI (pc := 1) (av := [vi a1]) (st := []) (K := K1) dX9_tilt_1 ck_9_145 rfl (by show (0 : Nat) ≤ 8; decide) hC e1 e2 (fun x1 m1 hK => ?_) rfl
  replace h := h x1 m1 hK
  refine st_ifeq (pc := 4) (tgt := 20) dX9_tilt_4 rfl (fun c => ?_) (fun c => ?_)
  · replace h := h.1 c
    refine sg_iconst (pc := 20) dX9_tilt_20 (by omega) ?_
    exact st_ireturn (pc := 21) dX9_tilt_21 (Or.inr ⟨rfl, by omega⟩) h
  · replace h := h.2 c
    refine st_iload_n (pc := 7) dX9_tilt_7 rfl rfl ?_
    refine sg_sipush (pc := 8) dX9_tilt_8 (by omega) (by decide) ?_
    refine sg_sipush (pc := 11) dX9_tilt_11 (by omega) (by decide) ?_
    obtain ⟨mc2, ms2, K2, hC, e1, e2, h⟩ := h
    refine sg_SI (pc := 14) (av := [vi a2, vi (-500), vi 500]) (st := []) (K := K2) dX9_tilt_14 ck_9_102 rfl (by show (0 : Nat) ≤ 8; decide) hC e1 e2 (fun x2 m2 hK => ?_) rfl
    replace h := h x2 m2 hK
    refine st_ifne (pc := 17) (tgt := 22) dX9_tilt_17 rfl (fun c => ?_) (fun c => ?_)
    · replace h := h.1 c
      refine st_aload_n (pc := 22) dX9_tilt_22 rfl rfl ?_
      obtain ⟨hk1, h⟩ := h
      refine sg_gfR (pc := 23) (J := 1) dX9_tilt_23 fl_9_19 rfl hk1 ?_
      refine st_iload_n (pc := 26) dX9_tilt_26 rfl rfl ?_
      obtain ⟨hk2, h⟩ := h
      obtain ⟨mc3, ms3, K3, hC, e1, e2, h⟩ := h
      refine sg_VR (pc := 27) (av := [vi a1]) (st := []) (K := K3) dX9_tilt_27 ck_9_148 rfl (by decide) hk2 (by show (0 : Nat) ≤ 8; decide) hC e1 e2 (fun x3 m3 hK => ?_) rfl
      replace h := h x3 m3 hK
      refine st_aload_n (pc := 30) dX9_tilt_30 rfl rfl ?_
      obtain ⟨hk3, h⟩ := h
      refine sg_gfR (pc := 31) (J := 0) dX9_tilt_31 fl_9_10 rfl hk3 ?_
      refine st_iload_n (pc := 34) dX9_tilt_34 rfl rfl ?_
      obtain ⟨hk4, h⟩ := h
      obtain ⟨mc4, ms4, K4, hC, e1, e2, h⟩ := h
      refine sg_VV (pc := 35) (av := [vr (mR m3 a0 0), vi a2]) (st := []) (K := K4) dX9_tilt_35 ck_9_152 rfl (by decide) hk4 (by show (0 : Nat) ≤ 8; decide) hC e1 e2 (fun m4 hK => ?_) rfl
      replace h := h m4 hK
      refine sg_iconst (pc := 38) dX9_tilt_38 (by omega) ?_
      exact st_ireturn (pc := 39) dX9_tilt_39 (Or.inr ⟨rfl, by omega⟩) h
    · replace h := h.2 c
      refine sg_iconst (pc := 20) dX9_tilt_20 (by omega) ?_
      exact st_ireturn (pc := 21) dX9_tilt_21 (Or.inr ⟨rfl, by omega⟩) h

theorem sg_X9_isPush_0 {d bc bs : Nat} {a0 : Int} {μ : Mem} {Q : Option (Option AV) → Mem → Prop}
    (h : ∃ (mc1 ms1 : Nat) (K1 : Int → Mem → Prop), Cl d mc1 ms1 mX9_isIn [vi a0, vi (-500), vi 500] μ (KI K1) ∧ mc1 ≤ bc ∧ ms1 ≤ bs ∧ (∀ x1 m1, K1 x1 m1 → (x1 = 0 ∨ x1 = 1) ∧ Q (some (some (vi x1))) m1)) :
    Wp (d + 1) bc bs mX9_isPush 0 [some (vi a0)] [] μ Q := by
  refine st_iload_n (pc := 0) dX9_isPush_0 rfl rfl ?_
  refine sg_sipush (pc := 1) dX9_isPush_1 (by omega) (by decide) ?_
  refine sg_sipush (pc := 4) dX9_isPush_4 (by omega) (by decide) ?_
  obtain ⟨mc1, ms1, K1, hC, e1, e2, h⟩ := h
  refine sg_SI (pc := 7) (av := [vi a0, vi (-500), vi 500]) (st := []) (K := K1) dX9_isPush_7 ck_9_102 rfl (by show (0 : Nat) ≤ 8; decide) hC e1 e2 (fun x1 m1 hK => ?_) rfl
  replace h := h x1 m1 hK
  exact st_ireturn (pc := 10) dX9_isPush_10 (Or.inr ⟨rfl, h.1⟩) h.2

theorem sg_X9_tick_0 {d bc bs : Nat} {a0 : Nat} {a1 : Int} {a2 : Int} {μ : Mem} {Q : Option (Option AV) → Mem → Prop}
    (h : ∃ (mc1 ms1 : Nat) (K1 : Int → Mem → Prop), Cl d mc1 ms1 mX9_isPush [vi a1] μ (KI K1) ∧ mc1 ≤ bc ∧ ms1 ≤ bs ∧ (∀ x1 m1, K1 x1 m1 → (x1 = 0 → Q (some (some (vi (-1)))) m1) ∧ (¬ x1 = 0 → ∃ (mc2 ms2 : Nat) (K2 : Int → Mem → Prop), Cl d mc2 ms2 mX9_isPush [vi a2] m1 (KI K2) ∧ mc2 ≤ bc - mc1 ∧ ms2 ≤ bs - ms1 ∧ (∀ x2 m2, K2 x2 m2 → (¬ x2 = 0 → mK m2 a0 = 10 ∧ (mK m2 (mR m2 a0 1) = 6 ∧ ∃ (mc3 ms3 : Nat) (K3 : Int → Mem → Prop), Cl d mc3 ms3 mX5_pass [vr (mR m2 a0 1), vr (mR m2 a0 0), vi a1, vi a2] m2 (KI K3) ∧ mc3 ≤ bc - mc1 - mc2 ∧ ms3 ≤ bs - ms1 - ms2 ∧ (∀ x3 m3, K3 x3 m3 → Q (some (some (vi x3))) m3))) ∧ (x2 = 0 → Q (some (some (vi (-1)))) m2))))) :
    Wp (d + 1) bc bs mX9_tick 0 [some (vr a0), some (vi a1), some (vi a2)] [] μ Q := by
  refine st_iload_n (pc := 0) dX9_tick_0 rfl rfl ?_
  obtain ⟨mc1, ms1, K1, hC, e1, e2, h⟩ := h
  refine sg_SI (pc := 1) (av := [vi a1]) (st := []) (K := K1) dX9_tick_1 ck_9_158 rfl (by show (0 : Nat) ≤ 8; decide) hC e1 e2 (fun x1 m1 hK => ?_) rfl
  replace h := h x1 m1 hK
  refine st_ifeq (pc := 4) (tgt := 14) dX9_tick_4 rfl (fun c => ?_) (fun c => ?_)
  · replace h := h.1 c
    refine sg_iconst (pc := 14) dX9_tick_14 (by omega) ?_
    exact st_ireturn (pc := 15) dX9_tick_15 (Or.inl rfl) h
  · replace h := h.2 c
    refine st_iload_n (pc := 7) dX9_tick_7 rfl rfl ?_
    obtain ⟨mc2, ms2, K2, hC, e1, e2, h⟩ := h
    refine sg_SI (pc := 8) (av := [vi a2]) (st := []) (K := K2) dX9_tick_8 ck_9_158 rfl (by show (0 : Nat) ≤ 8; decide) hC e1 e2 (fun x2 m2 hK => ?_) rfl
    replace h := h x2 m2 hK
    refine st_ifne (pc := 11) (tgt := 16) dX9_tick_11 rfl (fun c => ?_) (fun c => ?_)
    · replace h := h.1 c
      refine st_aload_n (pc := 16) dX9_tick_16 rfl rfl ?_
      obtain ⟨hk1, h⟩ := h
      refine sg_gfR (pc := 17) (J := 1) dX9_tick_17 fl_9_19 rfl hk1 ?_
      refine st_aload_n (pc := 20) dX9_tick_20 rfl rfl ?_
      refine sg_gfR (pc := 21) (J := 0) dX9_tick_21 fl_9_10 rfl hk1 ?_
      refine st_iload_n (pc := 24) dX9_tick_24 rfl rfl ?_
      refine st_iload_n (pc := 25) dX9_tick_25 rfl rfl ?_
      obtain ⟨hk2, h⟩ := h
      obtain ⟨mc3, ms3, K3, hC, e1, e2, h⟩ := h
      refine sg_VI (pc := 26) (av := [vr (mR m2 a0 0), vi a1, vi a2]) (st := []) (K := K3) dX9_tick_26 ck_9_161 rfl (by decide) hk2 (by show (0 : Nat) ≤ 8; decide) hC e1 e2 (fun x3 m3 hK => ?_) rfl
      replace h := h x3 m3 hK
      exact st_ireturn (pc := 29) dX9_tick_29 (Or.inl rfl) h
    · replace h := h.2 c
      refine sg_iconst (pc := 14) dX9_tick_14 (by omega) ?_
      exact st_ireturn (pc := 15) dX9_tick_15 (Or.inl rfl) h

theorem sg_X9_cell_0 {d bc bs : Nat} {a0 : Nat} {a1 : Int} {a2 : Int} {a3 : Int} {μ : Mem} {Q : Option (Option AV) → Mem → Prop}
    (h : ∃ (mc1 ms1 : Nat) (K1 : Int → Mem → Prop), Cl d mc1 ms1 mX9_isRow [vi a1] μ (KI K1) ∧ mc1 ≤ bc ∧ ms1 ≤ bs ∧ (∀ x1 m1, K1 x1 m1 → (x1 = 0 → 1 ≤ bc - mc1 ∧ 6 ≤ bs - ms1 ∧ Q none m1) ∧ (¬ x1 = 0 → mK m1 a0 = 10 ∧ (mK m1 (mR m1 a0 0) = 1 ∧ (∃ (mc2 ms2 : Nat) (K2 : Int → Mem → Prop), Cl d mc2 ms2 mX9_isIn [vi a2, vi 0, vi (mD m1 (mR m1 a0 0) 0)] m1 (KI K2) ∧ mc2 ≤ bc - mc1 ∧ ms2 ≤ bs - ms1 ∧ (∀ x2 m2, K2 x2 m2 → (x2 = 0 → 1 ≤ bc - mc1 - mc2 ∧ 6 ≤ bs - ms1 - ms2 ∧ Q none m2) ∧ (¬ x2 = 0 → ∃ (mc3 ms3 : Nat) (K3 : Int → Mem → Prop), Cl d mc3 ms3 mX9_isIn [vi a3, vi 0, vi 1] m2 (KI K3) ∧ mc3 ≤ bc - mc1 - mc2 ∧ ms3 ≤ bs - ms1 - ms2 ∧ (∀ x3 m3, K3 x3 m3 → (¬ x3 = 0 → mK m3 a0 = 10 ∧ (mK m3 (mR m3 a0 1) = 6 ∧ ∃ (mc4 ms4 : Nat) (K4 : Nat → Mem → Prop), Cl d mc4 ms4 mX5_rowOf [vr (mR m3 a0 1), vi a1] m3 (KR K4) ∧ mc4 ≤ bc - mc1 - mc2 - mc3 ∧ ms4 ≤ bs - ms1 - ms2 - ms3 ∧ (∀ x4 m4, K4 x4 m4 → (¬ a3 = 0 → mK m4 a0 = 10 ∧ (mK m4 (mR m4 a0 0) = 1 ∧ (((mD m4 (mR m4 a0 0) 0) ≤ a2 → Q (some (some (vi 0))) m4) ∧ (¬ (mD m4 (mR m4 a0 0) 0) ≤ a2 → mK m4 x4 = 5 ∧ ((mK m4 (mR m4 x4 1) = 20 ∨ ((mR m4 x4 1) ≠ 0 ∧ mK m4 (mR m4 x4 1) = 40)) ∧ ((0 : Int) ≤ a2 ∧ a2 < (mN m4 (mR m4 x4 1) : Int)) ∧ (Q (some (some (vi (mD m4 (mR m4 x4 1) a2)))) m4)))))) ∧ (a3 = 0 → mK m4 x4 = 5 ∧ ((mK m4 (mR m4 x4 0) = 20 ∨ ((mR m4 x4 0) ≠ 0 ∧ mK m4 (mR m4 x4 0) = 40)) ∧ ((0 : Int) ≤ a2 ∧ a2 < (mN m4 (mR m4 x4 0) : Int)) ∧ (Q (some (some (vi (mD m4 (mR m4 x4 0) a2)))) m4)))))) ∧ (x3 = 0 → 1 ≤ bc - mc1 - mc2 - mc3 ∧ 6 ≤ bs - ms1 - ms2 - ms3 ∧ Q none m3))))))))) :
    Wp (d + 1) bc bs mX9_cell 0 [some (vr a0), some (vi a1), some (vi a2), some (vi a3), none] [] μ Q := by
  refine st_iload_n (pc := 0) dX9_cell_0 rfl rfl ?_
  obtain ⟨mc1, ms1, K1, hC, e1, e2, h⟩ := h
  refine sg_SI (pc := 1) (av := [vi a1]) (st := []) (K := K1) dX9_cell_1 ck_9_145 rfl (by show (0 : Nat) ≤ 8; decide) hC e1 e2 (fun x1 m1 hK => ?_) rfl
  replace h := h x1 m1 hK
  refine st_ifeq (pc := 4) (tgt := 31) dX9_cell_4 rfl (fun c => ?_) (fun c => ?_)
  · replace h := h.1 c
    exact st_throw (pc := 31) rfl rfl dX9_cell_31 dX9_cell_34 dX9_cell_35 dX9_cell_38 h.1 h.2.1 h.2.2
  · replace h := h.2 c
    refine st_iload_n (pc := 7) dX9_cell_7 rfl rfl ?_
    refine sg_iconst (pc := 8) dX9_cell_8 (by omega) ?_
    refine st_aload_n (pc := 9) dX9_cell_9 rfl rfl ?_
    obtain ⟨hk1, h⟩ := h
    refine sg_gfR (pc := 10) (J := 0) dX9_cell_10 fl_9_10 rfl hk1 ?_
    obtain ⟨hk2, h⟩ := h
    refine sg_gfI (pc := 13) (J := 0) dX9_cell_13 fl_9_106 (by decide) rfl hk2 ?_
    obtain ⟨mc2, ms2, K2, hC, e1, e2, h⟩ := h
    refine sg_SI (pc := 16) (av := [vi a2, vi 0, vi (mD m1 (mR m1 a0 0) 0)]) (st := []) (K := K2) dX9_cell_16 ck_9_102 rfl (by show (0 : Nat) ≤ 8; decide) hC e1 e2 (fun x2 m2 hK => ?_) rfl
    replace h := h x2 m2 hK
    refine st_ifeq (pc := 19) (tgt := 31) dX9_cell_19 rfl (fun c => ?_) (fun c => ?_)
    · replace h := h.1 c
      exact st_throw (pc := 31) rfl rfl dX9_cell_31 dX9_cell_34 dX9_cell_35 dX9_cell_38 h.1 h.2.1 h.2.2
    · replace h := h.2 c
      refine st_iload_n (pc := 22) dX9_cell_22 rfl rfl ?_
      refine sg_iconst (pc := 23) dX9_cell_23 (by omega) ?_
      refine sg_iconst (pc := 24) dX9_cell_24 (by omega) ?_
      obtain ⟨mc3, ms3, K3, hC, e1, e2, h⟩ := h
      refine sg_SI (pc := 25) (av := [vi a3, vi 0, vi 1]) (st := []) (K := K3) dX9_cell_25 ck_9_102 rfl (by show (0 : Nat) ≤ 8; decide) hC e1 e2 (fun x3 m3 hK => ?_) rfl
      replace h := h x3 m3 hK
      refine st_ifne (pc := 28) (tgt := 39) dX9_cell_28 rfl (fun c => ?_) (fun c => ?_)
      · replace h := h.1 c
        refine st_aload_n (pc := 39) dX9_cell_39 rfl rfl ?_
        obtain ⟨hk3, h⟩ := h
        refine sg_gfR (pc := 40) (J := 1) dX9_cell_40 fl_9_19 rfl hk3 ?_
        refine st_iload_n (pc := 43) dX9_cell_43 rfl rfl ?_
        obtain ⟨hk4, h⟩ := h
        obtain ⟨mc4, ms4, K4, hC, e1, e2, h⟩ := h
        refine sg_VR (pc := 44) (av := [vi a1]) (st := []) (K := K4) dX9_cell_44 ck_9_148 rfl (by decide) hk4 (by show (0 : Nat) ≤ 8; decide) hC e1 e2 (fun x4 m4 hK => ?_) rfl
        replace h := h x4 m4 hK
        refine sg_astore (pc := 47) (ls' := [some (vr a0), some (vi a1), some (vi a2), some (vi a3), some (vr x4)]) dX9_cell_47 (by show (4 : Nat) < 5; decide) rfl ?_
        refine st_iload_n (pc := 49) dX9_cell_49 rfl rfl ?_
        refine st_ifne (pc := 50) (tgt := 61) dX9_cell_50 rfl (fun c => ?_) (fun c => ?_)
        · replace h := h.1 c
          refine st_iload_n (pc := 61) dX9_cell_61 rfl rfl ?_
          refine st_aload_n (pc := 62) dX9_cell_62 rfl rfl ?_
          obtain ⟨hk5, h⟩ := h
          refine sg_gfR (pc := 63) (J := 0) dX9_cell_63 fl_9_10 rfl hk5 ?_
          obtain ⟨hk6, h⟩ := h
          refine sg_gfI (pc := 66) (J := 0) dX9_cell_66 fl_9_106 (by decide) rfl hk6 ?_
          refine st_icmpge (pc := 69) (tgt := 82) dX9_cell_69 rfl (fun c => ?_) (fun c => ?_)
          · replace h := h.1 c
            refine sg_iconst (pc := 82) dX9_cell_82 (by omega) ?_
            exact st_ireturn (pc := 83) dX9_cell_83 (Or.inl rfl) h
          · replace h := h.2 c
            refine st_aload (pc := 72) dX9_cell_72 rfl ?_
            obtain ⟨hk7, h⟩ := h
            refine sg_gfR (pc := 74) (J := 1) dX9_cell_74 fl_9_171 rfl hk7 ?_
            refine st_iload_n (pc := 77) dX9_cell_77 rfl rfl ?_
            obtain ⟨hk8, h⟩ := h
            obtain ⟨h1, h⟩ := h
            refine sg_iaload (pc := 78) dX9_cell_78 hk8 h1 ?_
            refine st_goto (pc := 79) dX9_cell_79 rfl ?_
            exact st_ireturn (pc := 83) dX9_cell_83 (Or.inl rfl) h
        · replace h := h.2 c
          refine st_aload (pc := 53) dX9_cell_53 rfl ?_
          obtain ⟨hk9, h⟩ := h
          refine sg_gfR (pc := 55) (J := 0) dX9_cell_55 fl_9_168 rfl hk9 ?_
          refine st_iload_n (pc := 58) dX9_cell_58 rfl rfl ?_
          obtain ⟨hk10, h⟩ := h
          obtain ⟨h1, h⟩ := h
          refine sg_iaload (pc := 59) dX9_cell_59 hk10 h1 ?_
          exact st_ireturn (pc := 60) dX9_cell_60 (Or.inl rfl) h
      · replace h := h.2 c
        exact st_throw (pc := 31) rfl rfl dX9_cell_31 dX9_cell_34 dX9_cell_35 dX9_cell_38 h.1 h.2.1 h.2.2

theorem sg_X9_of_0 {d bc bs : Nat} {a0 : Nat} {a1 : Int} {a2 : Int} {μ : Mem} {Q : Option (Option AV) → Mem → Prop}
    (h : ∃ (mc1 ms1 : Nat) (K1 : Int → Mem → Prop), Cl d mc1 ms1 mX9_isRow [vi a1] μ (KI K1) ∧ mc1 ≤ bc ∧ ms1 ≤ bs ∧ (∀ x1 m1, K1 x1 m1 → (x1 = 0 → 1 ≤ bc - mc1 ∧ 6 ≤ bs - ms1 ∧ Q none m1) ∧ (¬ x1 = 0 → ∃ (mc2 ms2 : Nat) (K2 : Int → Mem → Prop), Cl d mc2 ms2 mX9_isIn [vi a2, vi 0, vi 3] m1 (KI K2) ∧ mc2 ≤ bc - mc1 ∧ ms2 ≤ bs - ms1 ∧ (∀ x2 m2, K2 x2 m2 → (¬ x2 = 0 → mK m2 a0 = 10 ∧ (mK m2 (mR m2 a0 1) = 6 ∧ ∃ (mc3 ms3 : Nat) (K3 : Nat → Mem → Prop), Cl d mc3 ms3 mX5_rowOf [vr (mR m2 a0 1), vi a1] m2 (KR K3) ∧ mc3 ≤ bc - mc1 - mc2 ∧ ms3 ≤ bs - ms1 - ms2 ∧ (∀ x3 m3, K3 x3 m3 → ((a2 < 0 ∨ 2 < a2) → mK m3 a0 = 10 ∧ (mK m3 x3 = 5 ∧ ∃ (mc4 ms4 : Nat) (K4 : Int → Mem → Prop), Cl d mc4 ms4 mX4_greatest [vr x3, vr (mR m3 a0 0)] m3 (KI K4) ∧ mc4 ≤ bc - mc1 - mc2 - mc3 ∧ ms4 ≤ bs - ms1 - ms2 - ms3 ∧ (∀ x4 m4, K4 x4 m4 → Q (some (some (vi x4))) m4))) ∧ (a2 = 0 → mK m3 a0 = 10 ∧ (mK m3 x3 = 5 ∧ ∃ (mc5 ms5 : Nat) (K5 : Int → Mem → Prop), Cl d mc5 ms5 mX4_slope [vr x3, vr (mR m3 a0 0)] m3 (KI K5) ∧ mc5 ≤ bc - mc1 - mc2 - mc3 ∧ ms5 ≤ bs - ms1 - ms2 - ms3 ∧ (∀ x5 m5, K5 x5 m5 → Q (some (some (vi x5))) m5))) ∧ (a2 = 1 → mK m3 x3 = 5 ∧ (Q (some (some (vi (mD m3 x3 2)))) m3)) ∧ (a2 = 2 → mK m3 a0 = 10 ∧ (mK m3 x3 = 5 ∧ ∃ (mc6 ms6 : Nat) (K6 : Int → Mem → Prop), Cl d mc6 ms6 mX4_contents [vr x3, vr (mR m3 a0 0)] m3 (KI K6) ∧ mc6 ≤ bc - mc1 - mc2 - mc3 ∧ ms6 ≤ bs - ms1 - ms2 - ms3 ∧ (∀ x6 m6, K6 x6 m6 → Q (some (some (vi x6))) m6)))))) ∧ (x2 = 0 → 1 ≤ bc - mc1 - mc2 ∧ 6 ≤ bs - ms1 - ms2 ∧ Q none m2))))) :
    Wp (d + 1) bc bs mX9_of 0 [some (vr a0), some (vi a1), some (vi a2), none] [] μ Q := by
  refine st_iload_n (pc := 0) dX9_of_0 rfl rfl ?_
  obtain ⟨mc1, ms1, K1, hC, e1, e2, h⟩ := h
  refine sg_SI (pc := 1) (av := [vi a1]) (st := []) (K := K1) dX9_of_1 ck_9_145 rfl (by show (0 : Nat) ≤ 8; decide) hC e1 e2 (fun x1 m1 hK => ?_) rfl
  replace h := h x1 m1 hK
  refine st_ifeq (pc := 4) (tgt := 16) dX9_of_4 rfl (fun c => ?_) (fun c => ?_)
  · replace h := h.1 c
    exact st_throw (pc := 16) rfl rfl dX9_of_16 dX9_of_19 dX9_of_20 dX9_of_23 h.1 h.2.1 h.2.2
  · replace h := h.2 c
    refine st_iload_n (pc := 7) dX9_of_7 rfl rfl ?_
    refine sg_iconst (pc := 8) dX9_of_8 (by omega) ?_
    refine sg_iconst (pc := 9) dX9_of_9 (by omega) ?_
    obtain ⟨mc2, ms2, K2, hC, e1, e2, h⟩ := h
    refine sg_SI (pc := 10) (av := [vi a2, vi 0, vi 3]) (st := []) (K := K2) dX9_of_10 ck_9_102 rfl (by show (0 : Nat) ≤ 8; decide) hC e1 e2 (fun x2 m2 hK => ?_) rfl
    replace h := h x2 m2 hK
    refine st_ifne (pc := 13) (tgt := 24) dX9_of_13 rfl (fun c => ?_) (fun c => ?_)
    · replace h := h.1 c
      refine st_aload_n (pc := 24) dX9_of_24 rfl rfl ?_
      obtain ⟨hk1, h⟩ := h
      refine sg_gfR (pc := 25) (J := 1) dX9_of_25 fl_9_19 rfl hk1 ?_
      refine st_iload_n (pc := 28) dX9_of_28 rfl rfl ?_
      obtain ⟨hk2, h⟩ := h
      obtain ⟨mc3, ms3, K3, hC, e1, e2, h⟩ := h
      refine sg_VR (pc := 29) (av := [vi a1]) (st := []) (K := K3) dX9_of_29 ck_9_148 rfl (by decide) hk2 (by show (0 : Nat) ≤ 8; decide) hC e1 e2 (fun x3 m3 hK => ?_) rfl
      replace h := h x3 m3 hK
      refine sg_astore_n (pc := 32) (ls' := [some (vr a0), some (vi a1), some (vi a2), some (vr x3)]) dX9_of_32 rfl (by show (3 : Nat) < 4; decide) rfl ?_
      refine st_iload_n (pc := 33) dX9_of_33 rfl rfl ?_
      by_cases c1 : a2 < 0 ∨ 2 < a2
      · replace h := h.1 c1
        refine st_swOut (pc := 34) (tgt := 83) dX9_of_34 c1 rfl ?_
        refine st_aload_n (pc := 83) dX9_of_83 rfl rfl ?_
        refine st_aload_n (pc := 84) dX9_of_84 rfl rfl ?_
        obtain ⟨hk3, h⟩ := h
        refine sg_gfR (pc := 85) (J := 0) dX9_of_85 fl_9_10 rfl hk3 ?_
        obtain ⟨hk4, h⟩ := h
        obtain ⟨mc4, ms4, K4, hC, e1, e2, h⟩ := h
        refine sg_VI (pc := 88) (av := [vr (mR m3 a0 0)]) (st := []) (K := K4) dX9_of_88 ck_9_184 rfl (by decide) hk4 (by show (0 : Nat) ≤ 8; decide) hC e1 e2 (fun x4 m4 hK => ?_) rfl
        replace h := h x4 m4 hK
        exact st_ireturn (pc := 91) dX9_of_91 (Or.inl rfl) h
      replace h := h.2
      by_cases e0 : a2 = 0
      · replace h := h.1 e0
        refine st_swIn (pc := 34) (off := 26) (tgt := 60) dX9_of_34 (by omega) (by omega) (by rw [e0]; rfl) rfl ?_
        refine st_aload_n (pc := 60) dX9_of_60 rfl rfl ?_
        refine st_aload_n (pc := 61) dX9_of_61 rfl rfl ?_
        obtain ⟨hk5, h⟩ := h
        refine sg_gfR (pc := 62) (J := 0) dX9_of_62 fl_9_10 rfl hk5 ?_
        obtain ⟨hk6, h⟩ := h
        obtain ⟨mc5, ms5, K5, hC, e1, e2, h⟩ := h
        refine sg_VI (pc := 65) (av := [vr (mR m3 a0 0)]) (st := []) (K := K5) dX9_of_65 ck_9_174 rfl (by decide) hk6 (by show (0 : Nat) ≤ 8; decide) hC e1 e2 (fun x5 m5 hK => ?_) rfl
        replace h := h x5 m5 hK
        exact st_ireturn (pc := 68) dX9_of_68 (Or.inl rfl) h
      replace h := h.2
      by_cases e1 : a2 = 1
      · replace h := h.1 e1
        refine st_swIn (pc := 34) (off := 35) (tgt := 69) dX9_of_34 (by omega) (by omega) (by rw [e1]; rfl) rfl ?_
        refine st_aload_n (pc := 69) dX9_of_69 rfl rfl ?_
        obtain ⟨hk7, h⟩ := h
        refine sg_gfI (pc := 70) (J := 2) dX9_of_70 fl_9_178 (by decide) rfl hk7 ?_
        exact st_ireturn (pc := 73) dX9_of_73 (Or.inl rfl) h
      replace h := h.2
      by_cases e2 : a2 = 2
      · replace h := h e2
        refine st_swIn (pc := 34) (off := 40) (tgt := 74) dX9_of_34 (by omega) (by omega) (by rw [e2]; rfl) rfl ?_
        refine st_aload_n (pc := 74) dX9_of_74 rfl rfl ?_
        refine st_aload_n (pc := 75) dX9_of_75 rfl rfl ?_
        obtain ⟨hk8, h⟩ := h
        refine sg_gfR (pc := 76) (J := 0) dX9_of_76 fl_9_10 rfl hk8 ?_
        obtain ⟨hk9, h⟩ := h
        obtain ⟨mc6, ms6, K6, hC, e1, e2, h⟩ := h
        refine sg_VI (pc := 79) (av := [vr (mR m3 a0 0)]) (st := []) (K := K6) dX9_of_79 ck_9_181 rfl (by decide) hk9 (by show (0 : Nat) ≤ 8; decide) hC e1 e2 (fun x6 m6 hK => ?_) rfl
        replace h := h x6 m6 hK
        exact st_ireturn (pc := 82) dX9_of_82 (Or.inl rfl) h
      exfalso
      omega
    · replace h := h.2 c
      exact st_throw (pc := 16) rfl rfl dX9_of_16 dX9_of_19 dX9_of_20 dX9_of_23 h.1 h.2.1 h.2.2

theorem sg_X9_sign_0 {d bc bs : Nat} {a0 : Nat} {a1 : Int} {μ : Mem} {Q : Option (Option AV) → Mem → Prop}
    (h : mK μ a0 = 10 ∧ (mK μ (mR μ a0 4) = 7 ∧ ∃ (mc1 ms1 : Nat) (K1 : Int → Mem → Prop), Cl d mc1 ms1 mX6_add [vr (mR μ a0 4), vi a1] μ (KI K1) ∧ mc1 ≤ bc ∧ ms1 ≤ bs ∧ (∀ x1 m1, K1 x1 m1 → (x1 = 0 → Q (some (some (vi (-1)))) m1) ∧ (¬ x1 = 0 → mK m1 a0 = 10 ∧ (mK m1 (mR m1 a0 4) = 7 ∧ (Q (some (some (vi (mD m1 (mR m1 a0 4) 1)))) m1)))))) :
    Wp (d + 1) bc bs mX9_sign 0 [some (vr a0), some (vi a1)] [] μ Q := by
  refine st_aload_n (pc := 0) dX9_sign_0 rfl rfl ?_
  obtain ⟨hk1, h⟩ := h
  refine sg_gfR (pc := 1) (J := 4) dX9_sign_1 fl_9_34 rfl hk1 ?_
  refine st_iload_n (pc := 4) dX9_sign_4 rfl rfl ?_
  obtain ⟨hk2, h⟩ := h
  obtain ⟨mc1, ms1, K1, hC, e1, e2, h⟩ := h
  refine sg_VI (pc := 5) (av := [vi a1]) (st := []) (K := K1) dX9_sign_5 ck_9_187 rfl (by decide) hk2 (by show (0 : Nat) ≤ 8; decide) hC e1 e2 (fun x1 m1 hK => ?_) rfl
  replace h := h x1 m1 hK
  refine st_ifeq (pc := 8) (tgt := 21) dX9_sign_8 rfl (fun c => ?_) (fun c => ?_)
  · replace h := h.1 c
    refine sg_iconst (pc := 21) dX9_sign_21 (by omega) ?_
    exact st_ireturn (pc := 22) dX9_sign_22 (Or.inl rfl) h
  · replace h := h.2 c
    refine st_aload_n (pc := 11) dX9_sign_11 rfl rfl ?_
    obtain ⟨hk3, h⟩ := h
    refine sg_gfR (pc := 12) (J := 4) dX9_sign_12 fl_9_34 rfl hk3 ?_
    obtain ⟨hk4, h⟩ := h
    refine sg_gfI (pc := 15) (J := 1) dX9_sign_15 fl_9_190 (by decide) rfl hk4 ?_
    refine st_goto (pc := 18) dX9_sign_18 rfl ?_
    exact st_ireturn (pc := 22) dX9_sign_22 (Or.inl rfl) h

theorem sg_X9_end_0 {d bc bs : Nat} {a0 : Nat} {a1 : Int} {μ : Mem} {Q : Option (Option AV) → Mem → Prop}
    (h : mK μ a0 = 10 ∧ (mK μ (mR μ a0 4) = 7 ∧ (∃ (mc1 ms1 : Nat) (K1 : Int → Mem → Prop), Cl d mc1 ms1 mX9_isIn [vi a1, vi 0, vi (mD μ (mR μ a0 4) 1)] μ (KI K1) ∧ mc1 ≤ bc ∧ ms1 ≤ bs ∧ (∀ x1 m1, K1 x1 m1 → (¬ x1 = 0 → mK m1 a0 = 10 ∧ (mK m1 (mR m1 a0 4) = 7 ∧ (∀ m2, m2 = sD m1 (mR m1 a0 4) 1 a1 → Q (some (some (vi 1))) m2))) ∧ (x1 = 0 → Q (some (some (vi 0))) m1))))) :
    Wp (d + 1) bc bs mX9_end 0 [some (vr a0), some (vi a1)] [] μ Q := by
  refine st_iload_n (pc := 0) dX9_end_0 rfl rfl ?_
  refine sg_iconst (pc := 1) dX9_end_1 (by omega) ?_
  refine st_aload_n (pc := 2) dX9_end_2 rfl rfl ?_
  obtain ⟨hk1, h⟩ := h
  refine sg_gfR (pc := 3) (J := 4) dX9_end_3 fl_9_34 rfl hk1 ?_
  obtain ⟨hk2, h⟩ := h
  refine sg_gfI (pc := 6) (J := 1) dX9_end_6 fl_9_190 (by decide) rfl hk2 ?_
  obtain ⟨mc1, ms1, K1, hC, e1, e2, h⟩ := h
  refine sg_SI (pc := 9) (av := [vi a1, vi 0, vi (mD μ (mR μ a0 4) 1)]) (st := []) (K := K1) dX9_end_9 ck_9_102 rfl (by show (0 : Nat) ≤ 8; decide) hC e1 e2 (fun x1 m1 hK => ?_) rfl
  replace h := h x1 m1 hK
  refine st_ifne (pc := 12) (tgt := 17) dX9_end_12 rfl (fun c => ?_) (fun c => ?_)
  · replace h := h.1 c
    refine st_aload_n (pc := 17) dX9_end_17 rfl rfl ?_
    obtain ⟨hk3, h⟩ := h
    refine sg_gfR (pc := 18) (J := 4) dX9_end_18 fl_9_34 rfl hk3 ?_
    refine st_iload_n (pc := 21) dX9_end_21 rfl rfl ?_
    obtain ⟨hk4, h⟩ := h
    refine sg_pfI (pc := 22) (J := 1) dX9_end_22 fl_9_190 rfl (Or.inl rfl) hk4 ?_
    refine Wp.nameM (fun m2 em2 => ?_)
    replace h := h m2 em2
    refine sg_iconst (pc := 25) dX9_end_25 (by omega) ?_
    exact st_ireturn (pc := 26) dX9_end_26 (Or.inr ⟨rfl, by omega⟩) h
  · replace h := h.2 c
    refine sg_iconst (pc := 15) dX9_end_15 (by omega) ?_
    exact st_ireturn (pc := 16) dX9_end_16 (Or.inr ⟨rfl, by omega⟩) h

theorem sg_X9_isWalk_0 {d bc bs : Nat} {a0 : Int} {μ : Mem} {Q : Option (Option AV) → Mem → Prop}
    (h : ∃ (mc1 ms1 : Nat) (K1 : Int → Mem → Prop), Cl d mc1 ms1 mX9_isIn [vi a0, vi 0, vi 3] μ (KI K1) ∧ mc1 ≤ bc ∧ ms1 ≤ bs ∧ (∀ x1 m1, K1 x1 m1 → (x1 = 0 ∨ x1 = 1) ∧ Q (some (some (vi x1))) m1)) :
    Wp (d + 1) bc bs mX9_isWalk 0 [some (vi a0)] [] μ Q := by
  refine st_iload_n (pc := 0) dX9_isWalk_0 rfl rfl ?_
  refine sg_iconst (pc := 1) dX9_isWalk_1 (by omega) ?_
  refine sg_iconst (pc := 2) dX9_isWalk_2 (by omega) ?_
  obtain ⟨mc1, ms1, K1, hC, e1, e2, h⟩ := h
  refine sg_SI (pc := 3) (av := [vi a0, vi 0, vi 3]) (st := []) (K := K1) dX9_isWalk_3 ck_9_102 rfl (by show (0 : Nat) ≤ 8; decide) hC e1 e2 (fun x1 m1 hK => ?_) rfl
  replace h := h x1 m1 hK
  exact st_ireturn (pc := 6) dX9_isWalk_6 (Or.inr ⟨rfl, h.1⟩) h.2

theorem sg_X9_walk_0 {d bc bs : Nat} {a0 : Nat} {a1 : Int} {μ : Mem} {Q : Option (Option AV) → Mem → Prop}
    (h : ∃ (mc1 ms1 : Nat) (K1 : Int → Mem → Prop), Cl d mc1 ms1 mX9_isWalk [vi a1] μ (KI K1) ∧ mc1 ≤ bc ∧ ms1 ≤ bs ∧ (∀ x1 m1, K1 x1 m1 → (¬ x1 = 0 → mK m1 a0 = 10 ∧ (mK m1 (mR m1 a0 7) = 9 ∧ ∃ (mc2 ms2 : Nat) (K2 : Mem → Prop), Cl d mc2 ms2 mX8_read [vr (mR m1 a0 7), vr (mR m1 a0 4)] m1 (KV K2) ∧ mc2 ≤ bc - mc1 ∧ ms2 ≤ bs - ms1 ∧ (∀ m2, K2 m2 → mK m2 a0 = 10 ∧ (mK m2 (mR m2 a0 4) = 7 ∧ ∃ (mc3 ms3 : Nat) (K3 : Int → Mem → Prop), Cl d mc3 ms3 mX6_finish [vr (mR m2 a0 4)] m2 (KI K3) ∧ mc3 ≤ bc - mc1 - mc2 ∧ ms3 ≤ bs - ms1 - ms2 ∧ (∀ x2 m3, K3 x2 m3 → (x2 = (-1) → mK m3 a0 = 10 ∧ (mK m3 (mR m3 a0 5) = 26 ∧ ((0 : Int) ≤ a1 ∧ a1 < (mN m3 (mR m3 a0 5) : Int)) ∧ (((0 : Int) ≤ a1 ∧ a1 < (mN m3 (mR m3 a0 5) : Int)) ∧ mK m3 (mR m3 a0 7) = 9 ∧ (∀ m4, m4 = sR m3 (mR m3 a0 5) a1 (mR m3 a0 7) → mK m4 a0 = 10 ∧ (∀ m5, m5 = sR m4 a0 7 (mR m3 (mR m3 a0 5) a1) → mK m5 a0 = 10 ∧ (mK m5 (mR m5 a0 5) = 26 ∧ ((0 : Int) ≤ a1 ∧ a1 < (mN m5 (mR m5 a0 5) : Int)) ∧ (mK m5 (mR m5 (mR m5 a0 5) a1) = 9 ∧ (Q (some (some (vi (mD m5 (mR m5 (mR m5 a0 5) a1) 4)))) m5)))))))) ∧ (¬ x2 = (-1) → Q (some (some (vi (w32 ((-1) - x2))))) m3)))))) ∧ (x1 = 0 → mK m1 a0 = 10 ∧ (mK m1 (mR m1 a0 4) = 7 ∧ (∀ m6, m6 = sD m1 (mR m1 a0 4) 1 0 → Q (some (some (vi (-100)))) m6))))) :
    Wp (d + 1) bc bs mX9_walk 0 [some (vr a0), some (vi a1), none, none] [] μ Q := by
  refine st_iload_n (pc := 0) dX9_walk_0 rfl rfl ?_
  obtain ⟨mc1, ms1, K1, hC, e1, e2, h⟩ := h
  refine sg_SI (pc := 1) (av := [vi a1]) (st := []) (K := K1) dX9_walk_1 ck_9_193 rfl (by show (0 : Nat) ≤ 8; decide) hC e1 e2 (fun x1 m1 hK => ?_) rfl
  replace h := h x1 m1 hK
  refine st_ifne (pc := 4) (tgt := 18) dX9_walk_4 rfl (fun c => ?_) (fun c => ?_)
  · replace h := h.1 c
    refine st_aload_n (pc := 18) dX9_walk_18 rfl rfl ?_
    obtain ⟨hk1, h⟩ := h
    refine sg_gfR (pc := 19) (J := 7) dX9_walk_19 fl_9_49 rfl hk1 ?_
    refine st_aload_n (pc := 22) dX9_walk_22 rfl rfl ?_
    refine sg_gfR (pc := 23) (J := 4) dX9_walk_23 fl_9_34 rfl hk1 ?_
    obtain ⟨hk2, h⟩ := h
    obtain ⟨mc2, ms2, K2, hC, e1, e2, h⟩ := h
    refine sg_VV (pc := 26) (av := [vr (mR m1 a0 4)]) (st := []) (K := K2) dX9_walk_26 ck_9_196 rfl (by decide) hk2 (by show (0 : Nat) ≤ 8; decide) hC e1 e2 (fun m2 hK => ?_) rfl
    replace h := h m2 hK
    refine st_aload_n (pc := 29) dX9_walk_29 rfl rfl ?_
    obtain ⟨hk3, h⟩ := h
    refine sg_gfR (pc := 30) (J := 4) dX9_walk_30 fl_9_34 rfl hk3 ?_
    obtain ⟨hk4, h⟩ := h
    obtain ⟨mc3, ms3, K3, hC, e1, e2, h⟩ := h
    refine sg_VI (pc := 33) (av := []) (st := []) (K := K3) dX9_walk_33 ck_9_200 rfl (by decide) hk4 (by show (0 : Nat) ≤ 8; decide) hC e1 e2 (fun x2 m3 hK => ?_) rfl
    replace h := h x2 m3 hK
    refine sg_istore_n (pc := 36) (ls' := [some (vr a0), some (vi a1), some (vi x2), none]) dX9_walk_36 rfl (by show (2 : Nat) < 4; decide) rfl ?_
    refine st_iload_n (pc := 37) dX9_walk_37 rfl rfl ?_
    refine sg_iconst (pc := 38) dX9_walk_38 (by omega) ?_
    refine st_icmpeq (pc := 39) (tgt := 46) dX9_walk_39 rfl (fun c => ?_) (fun c => ?_)
    · replace h := h.1 c
      refine st_aload_n (pc := 46) dX9_walk_46 rfl rfl ?_
      obtain ⟨hk5, h⟩ := h
      refine sg_gfR (pc := 47) (J := 5) dX9_walk_47 fl_9_40 rfl hk5 ?_
      refine st_iload_n (pc := 50) dX9_walk_50 rfl rfl ?_
      obtain ⟨hk6, h⟩ := h
      obtain ⟨h1, h⟩ := h
      refine st_aaload (pc := 51) (t := 6) dX9_walk_51 hk6 (fun _ => rfl) (by decide) (by decide) h1.1 h1.2 ?_
      refine sg_astore_n (pc := 52) (ls' := [some (vr a0), some (vi a1), some (vi x2), some (vr (mR m3 (mR m3 a0 5) a1))]) dX9_walk_52 rfl (by show (3 : Nat) < 4; decide) rfl ?_
      refine st_aload_n (pc := 53) dX9_walk_53 rfl rfl ?_
      refine sg_gfR (pc := 54) (J := 5) dX9_walk_54 fl_9_40 rfl hk5 ?_
      refine st_iload_n (pc := 57) dX9_walk_57 rfl rfl ?_
      refine st_aload_n (pc := 58) dX9_walk_58 rfl rfl ?_
      refine sg_gfR (pc := 59) (J := 7) dX9_walk_59 fl_9_49 rfl hk5 ?_
      obtain ⟨h1, h⟩ := h
      obtain ⟨hk7, h⟩ := h
      refine st_aastore (pc := 62) (t := 6) dX9_walk_62 hk6 hk7 (by decide) (by decide) (fun _ => rfl) (by decide) (by decide) h1.1 h1.2 ?_
      refine Wp.nameM (fun m4 em4 => ?_)
      replace h := h m4 em4
      refine st_aload_n (pc := 63) dX9_walk_63 rfl rfl ?_
      refine st_aload_n (pc := 64) dX9_walk_64 rfl rfl ?_
      obtain ⟨hk8, h⟩ := h
      refine sg_pfR (pc := 65) (J := 7) dX9_walk_65 fl_9_49 rfl (Or.inl rfl) hk8 ?_
      refine Wp.nameM (fun m5 em5 => ?_)
      replace h := h m5 em5
      refine st_aload_n (pc := 68) dX9_walk_68 rfl rfl ?_
      obtain ⟨hk9, h⟩ := h
      refine sg_gfR (pc := 69) (J := 5) dX9_walk_69 fl_9_40 rfl hk9 ?_
      refine st_iload_n (pc := 72) dX9_walk_72 rfl rfl ?_
      obtain ⟨hk10, h⟩ := h
      obtain ⟨h1, h⟩ := h
      refine st_aaload (pc := 73) (t := 6) dX9_walk_73 hk10 (fun _ => rfl) (by decide) (by decide) h1.1 h1.2 ?_
      obtain ⟨hk11, h⟩ := h
      refine sg_gfI (pc := 74) (J := 4) dX9_walk_74 fl_9_204 (by decide) rfl hk11 ?_
      exact st_ireturn (pc := 77) dX9_walk_77 (Or.inl rfl) h
    · replace h := h.2 c
      refine sg_iconst (pc := 42) dX9_walk_42 (by omega) ?_
      refine st_iload_n (pc := 43) dX9_walk_43 rfl rfl ?_
      refine st_isub (pc := 44) dX9_walk_44 ?_
      exact st_ireturn (pc := 45) dX9_walk_45 (Or.inl rfl) h
  · replace h := h.2 c
    refine st_aload_n (pc := 7) dX9_walk_7 rfl rfl ?_
    obtain ⟨hk12, h⟩ := h
    refine sg_gfR (pc := 8) (J := 4) dX9_walk_8 fl_9_34 rfl hk12 ?_
    refine sg_iconst (pc := 11) dX9_walk_11 (by omega) ?_
    obtain ⟨hk13, h⟩ := h
    refine sg_pfI (pc := 12) (J := 1) dX9_walk_12 fl_9_190 rfl (Or.inl rfl) hk13 ?_
    refine Wp.nameM (fun m6 em6 => ?_)
    replace h := h m6 em6
    refine sg_bipush (pc := 15) dX9_walk_15 (by omega) (by decide) ?_
    exact st_ireturn (pc := 17) dX9_walk_17 (Or.inl rfl) h

theorem sg_X9_law_0 {d bc bs : Nat} {a0 : Nat} {a1 : Int} {μ : Mem} {Q : Option (Option AV) → Mem → Prop}
    (h : ∃ (mc1 ms1 : Nat) (K1 : Int → Mem → Prop), Cl d mc1 ms1 mX9_isIn [vi a1, vi 0, vi 2] μ (KI K1) ∧ mc1 ≤ bc ∧ ms1 ≤ bs ∧ (∀ x1 m1, K1 x1 m1 → (¬ x1 = 0 → mK m1 a0 = 10 ∧ (mK m1 (mR m1 a0 9) = 3 ∧ ∃ (mc2 ms2 : Nat) (K2 : Mem → Prop), Cl d mc2 ms2 mX2_read [vr (mR m1 a0 9), vr (mR m1 a0 4)] m1 (KV K2) ∧ mc2 ≤ bc - mc1 ∧ ms2 ≤ bs - ms1 ∧ (∀ m2, K2 m2 → mK m2 a0 = 10 ∧ (mK m2 (mR m2 a0 4) = 7 ∧ ∃ (mc3 ms3 : Nat) (K3 : Int → Mem → Prop), Cl d mc3 ms3 mX6_finish [vr (mR m2 a0 4)] m2 (KI K3) ∧ mc3 ≤ bc - mc1 - mc2 ∧ ms3 ≤ bs - ms1 - ms2 ∧ (∀ x2 m3, K3 x2 m3 → (x2 = (-1) → mK m3 a0 = 10 ∧ (mK m3 (mR m3 a0 8) = 27 ∧ ((0 : Int) ≤ a1 ∧ a1 < (mN m3 (mR m3 a0 8) : Int)) ∧ (((0 : Int) ≤ a1 ∧ a1 < (mN m3 (mR m3 a0 8) : Int)) ∧ mK m3 (mR m3 a0 9) = 3 ∧ (∀ m4, m4 = sR m3 (mR m3 a0 8) a1 (mR m3 a0 9) → mK m4 a0 = 10 ∧ (∀ m5, m5 = sR m4 a0 9 (mR m3 (mR m3 a0 8) a1) → Q (some (some (vi 0))) m5))))) ∧ (¬ x2 = (-1) → Q (some (some (vi (w32 ((-1) - x2))))) m3)))))) ∧ (x1 = 0 → mK m1 a0 = 10 ∧ (mK m1 (mR m1 a0 4) = 7 ∧ (∀ m6, m6 = sD m1 (mR m1 a0 4) 1 0 → Q (some (some (vi (-100)))) m6))))) :
    Wp (d + 1) bc bs mX9_law 0 [some (vr a0), some (vi a1), none, none] [] μ Q := by
  refine st_iload_n (pc := 0) dX9_law_0 rfl rfl ?_
  refine sg_iconst (pc := 1) dX9_law_1 (by omega) ?_
  refine sg_iconst (pc := 2) dX9_law_2 (by omega) ?_
  obtain ⟨mc1, ms1, K1, hC, e1, e2, h⟩ := h
  refine sg_SI (pc := 3) (av := [vi a1, vi 0, vi 2]) (st := []) (K := K1) dX9_law_3 ck_9_102 rfl (by show (0 : Nat) ≤ 8; decide) hC e1 e2 (fun x1 m1 hK => ?_) rfl
  replace h := h x1 m1 hK
  refine st_ifne (pc := 6) (tgt := 20) dX9_law_6 rfl (fun c => ?_) (fun c => ?_)
  · replace h := h.1 c
    refine st_aload_n (pc := 20) dX9_law_20 rfl rfl ?_
    obtain ⟨hk1, h⟩ := h
    refine sg_gfR (pc := 21) (J := 9) dX9_law_21 fl_9_60 rfl hk1 ?_
    refine st_aload_n (pc := 24) dX9_law_24 rfl rfl ?_
    refine sg_gfR (pc := 25) (J := 4) dX9_law_25 fl_9_34 rfl hk1 ?_
    obtain ⟨hk2, h⟩ := h
    obtain ⟨mc2, ms2, K2, hC, e1, e2, h⟩ := h
    refine sg_VV (pc := 28) (av := [vr (mR m1 a0 4)]) (st := []) (K := K2) dX9_law_28 ck_9_207 rfl (by decide) hk2 (by show (0 : Nat) ≤ 8; decide) hC e1 e2 (fun m2 hK => ?_) rfl
    replace h := h m2 hK
    refine st_aload_n (pc := 31) dX9_law_31 rfl rfl ?_
    obtain ⟨hk3, h⟩ := h
    refine sg_gfR (pc := 32) (J := 4) dX9_law_32 fl_9_34 rfl hk3 ?_
    obtain ⟨hk4, h⟩ := h
    obtain ⟨mc3, ms3, K3, hC, e1, e2, h⟩ := h
    refine sg_VI (pc := 35) (av := []) (st := []) (K := K3) dX9_law_35 ck_9_200 rfl (by decide) hk4 (by show (0 : Nat) ≤ 8; decide) hC e1 e2 (fun x2 m3 hK => ?_) rfl
    replace h := h x2 m3 hK
    refine sg_istore_n (pc := 38) (ls' := [some (vr a0), some (vi a1), some (vi x2), none]) dX9_law_38 rfl (by show (2 : Nat) < 4; decide) rfl ?_
    refine st_iload_n (pc := 39) dX9_law_39 rfl rfl ?_
    refine sg_iconst (pc := 40) dX9_law_40 (by omega) ?_
    refine st_icmpeq (pc := 41) (tgt := 48) dX9_law_41 rfl (fun c => ?_) (fun c => ?_)
    · replace h := h.1 c
      refine st_aload_n (pc := 48) dX9_law_48 rfl rfl ?_
      obtain ⟨hk5, h⟩ := h
      refine sg_gfR (pc := 49) (J := 8) dX9_law_49 fl_9_55 rfl hk5 ?_
      refine st_iload_n (pc := 52) dX9_law_52 rfl rfl ?_
      obtain ⟨hk6, h⟩ := h
      obtain ⟨h1, h⟩ := h
      refine st_aaload (pc := 53) (t := 7) dX9_law_53 hk6 (fun _ => rfl) (by decide) (by decide) h1.1 h1.2 ?_
      refine sg_astore_n (pc := 54) (ls' := [some (vr a0), some (vi a1), some (vi x2), some (vr (mR m3 (mR m3 a0 8) a1))]) dX9_law_54 rfl (by show (3 : Nat) < 4; decide) rfl ?_
      refine st_aload_n (pc := 55) dX9_law_55 rfl rfl ?_
      refine sg_gfR (pc := 56) (J := 8) dX9_law_56 fl_9_55 rfl hk5 ?_
      refine st_iload_n (pc := 59) dX9_law_59 rfl rfl ?_
      refine st_aload_n (pc := 60) dX9_law_60 rfl rfl ?_
      refine sg_gfR (pc := 61) (J := 9) dX9_law_61 fl_9_60 rfl hk5 ?_
      obtain ⟨h1, h⟩ := h
      obtain ⟨hk7, h⟩ := h
      refine st_aastore (pc := 64) (t := 7) dX9_law_64 hk6 hk7 (by decide) (by decide) (fun _ => rfl) (by decide) (by decide) h1.1 h1.2 ?_
      refine Wp.nameM (fun m4 em4 => ?_)
      replace h := h m4 em4
      refine st_aload_n (pc := 65) dX9_law_65 rfl rfl ?_
      refine st_aload_n (pc := 66) dX9_law_66 rfl rfl ?_
      obtain ⟨hk8, h⟩ := h
      refine sg_pfR (pc := 67) (J := 9) dX9_law_67 fl_9_60 rfl (Or.inl rfl) hk8 ?_
      refine Wp.nameM (fun m5 em5 => ?_)
      replace h := h m5 em5
      refine sg_iconst (pc := 70) dX9_law_70 (by omega) ?_
      exact st_ireturn (pc := 71) dX9_law_71 (Or.inl rfl) h
    · replace h := h.2 c
      refine sg_iconst (pc := 44) dX9_law_44 (by omega) ?_
      refine st_iload_n (pc := 45) dX9_law_45 rfl rfl ?_
      refine st_isub (pc := 46) dX9_law_46 ?_
      exact st_ireturn (pc := 47) dX9_law_47 (Or.inl rfl) h
  · replace h := h.2 c
    refine st_aload_n (pc := 9) dX9_law_9 rfl rfl ?_
    obtain ⟨hk9, h⟩ := h
    refine sg_gfR (pc := 10) (J := 4) dX9_law_10 fl_9_34 rfl hk9 ?_
    refine sg_iconst (pc := 13) dX9_law_13 (by omega) ?_
    obtain ⟨hk10, h⟩ := h
    refine sg_pfI (pc := 14) (J := 1) dX9_law_14 fl_9_190 rfl (Or.inl rfl) hk10 ?_
    refine Wp.nameM (fun m6 em6 => ?_)
    replace h := h m6 em6
    refine sg_bipush (pc := 17) dX9_law_17 (by omega) (by decide) ?_
    exact st_ireturn (pc := 19) dX9_law_19 (Or.inl rfl) h

theorem sg_X9_toldLaw_0 {d bc bs : Nat} {a0 : Nat} {a1 : Int} {μ : Mem} {Q : Option (Option AV) → Mem → Prop}
    (h : ∃ (mc1 ms1 : Nat) (K1 : Int → Mem → Prop), Cl d mc1 ms1 mX9_isIn [vi a1, vi 0, vi 2] μ (KI K1) ∧ mc1 ≤ bc ∧ ms1 ≤ bs ∧ (∀ x1 m1, K1 x1 m1 → (x1 = 0 → Q (some (some (vr 0))) m1) ∧ (¬ x1 = 0 → mK m1 a0 = 10 ∧ (mK m1 (mR m1 a0 8) = 27 ∧ ((0 : Int) ≤ a1 ∧ a1 < (mN m1 (mR m1 a0 8) : Int)) ∧ (mK m1 (mR m1 (mR m1 a0 8) a1) = 3 ∧ (((mD m1 (mR m1 (mR m1 a0 8) a1) 2) ≤ 0 → Q (some (some (vr 0))) m1) ∧ (¬ (mD m1 (mR m1 (mR m1 a0 8) a1) 2) ≤ 0 → ((0 : Int) ≤ a1 ∧ a1 < (mN m1 (mR m1 a0 8) : Int)) ∧ (Q (some (some (vr (mR m1 (mR m1 a0 8) a1)))) m1)))))))) :
    Wp (d + 1) bc bs mX9_toldLaw 0 [some (vr a0), some (vi a1)] [] μ Q := by
  refine st_iload_n (pc := 0) dX9_toldLaw_0 rfl rfl ?_
  refine sg_iconst (pc := 1) dX9_toldLaw_1 (by omega) ?_
  refine sg_iconst (pc := 2) dX9_toldLaw_2 (by omega) ?_
  obtain ⟨mc1, ms1, K1, hC, e1, e2, h⟩ := h
  refine sg_SI (pc := 3) (av := [vi a1, vi 0, vi 2]) (st := []) (K := K1) dX9_toldLaw_3 ck_9_102 rfl (by show (0 : Nat) ≤ 8; decide) hC e1 e2 (fun x1 m1 hK => ?_) rfl
  replace h := h x1 m1 hK
  refine st_ifeq (pc := 6) (tgt := 30) dX9_toldLaw_6 rfl (fun c => ?_) (fun c => ?_)
  · replace h := h.1 c
    refine st_null (pc := 30) dX9_toldLaw_30 ?_
    exact st_areturn (pc := 31) dX9_toldLaw_31 rfl h
  · replace h := h.2 c
    refine st_aload_n (pc := 9) dX9_toldLaw_9 rfl rfl ?_
    obtain ⟨hk1, h⟩ := h
    refine sg_gfR (pc := 10) (J := 8) dX9_toldLaw_10 fl_9_55 rfl hk1 ?_
    refine st_iload_n (pc := 13) dX9_toldLaw_13 rfl rfl ?_
    obtain ⟨hk2, h⟩ := h
    obtain ⟨h1, h⟩ := h
    refine st_aaload (pc := 14) (t := 7) dX9_toldLaw_14 hk2 (fun _ => rfl) (by decide) (by decide) h1.1 h1.2 ?_
    obtain ⟨hk3, h⟩ := h
    refine sg_gfI (pc := 15) (J := 2) dX9_toldLaw_15 fl_9_419 (by decide) rfl hk3 ?_
    refine st_ifle (pc := 18) (tgt := 30) dX9_toldLaw_18 rfl (fun c => ?_) (fun c => ?_)
    · replace h := h.1 c
      refine st_null (pc := 30) dX9_toldLaw_30 ?_
      exact st_areturn (pc := 31) dX9_toldLaw_31 rfl h
    · replace h := h.2 c
      refine st_aload_n (pc := 21) dX9_toldLaw_21 rfl rfl ?_
      refine sg_gfR (pc := 22) (J := 8) dX9_toldLaw_22 fl_9_55 rfl hk1 ?_
      refine st_iload_n (pc := 25) dX9_toldLaw_25 rfl rfl ?_
      obtain ⟨h1, h⟩ := h
      refine st_aaload (pc := 26) (t := 7) dX9_toldLaw_26 hk2 (fun _ => rfl) (by decide) (by decide) h1.1 h1.2 ?_
      refine st_goto (pc := 27) dX9_toldLaw_27 rfl ?_
      exact st_areturn (pc := 31) dX9_toldLaw_31 rfl h

theorem sg_X9_gives_0 {d bc bs : Nat} {a0 : Nat} {a1 : Int} {a2 : Int} {μ : Mem} {Q : Option (Option AV) → Mem → Prop}
    (h : mK μ a0 = 10 ∧ ∃ (mc1 ms1 : Nat) (K1 : Nat → Mem → Prop), Cl d mc1 ms1 mX9_toldLaw [vr a0, vi a1] μ (KR K1) ∧ mc1 ≤ bc ∧ ms1 ≤ bs ∧ (∀ x1 m1, K1 x1 m1 → (x1 = 0 → 1 ≤ bc - mc1 ∧ 6 ≤ bs - ms1 ∧ Q none m1) ∧ (¬ x1 = 0 → ∃ (mc2 ms2 : Nat) (K2 : Int → Mem → Prop), Cl d mc2 ms2 mX9_isPush [vi a2] m1 (KI K2) ∧ mc2 ≤ bc - mc1 ∧ ms2 ≤ bs - ms1 ∧ (∀ x2 m2, K2 x2 m2 → (¬ x2 = 0 → mK m2 a0 = 10 ∧ (mK m2 (mR m2 a0 1) = 6 ∧ ∃ (mc3 ms3 : Nat) (K3 : Int → Mem → Prop), Cl d mc3 ms3 mX5_given [vr (mR m2 a0 1), vr (mR m2 a0 0), vr x1, vi a2] m2 (KI K3) ∧ mc3 ≤ bc - mc1 - mc2 ∧ ms3 ≤ bs - ms1 - ms2 ∧ (∀ x3 m3, K3 x3 m3 → Q (some (some (vi x3))) m3))) ∧ (x2 = 0 → 1 ≤ bc - mc1 - mc2 ∧ 6 ≤ bs - ms1 - ms2 ∧ Q none m2))))) :
    Wp (d + 1) bc bs mX9_gives 0 [some (vr a0), some (vi a1), some (vi a2), none] [] μ Q := by
  refine st_aload_n (pc := 0) dX9_gives_0 rfl rfl ?_
  refine st_iload_n (pc := 1) dX9_gives_1 rfl rfl ?_
  obtain ⟨hk1, h⟩ := h
  obtain ⟨mc1, ms1, K1, hC, e1, e2, h⟩ := h
  refine sg_VR (pc := 2) (av := [vi a1]) (st := []) (K := K1) dX9_gives_2 ck_9_208 rfl (by decide) hk1 (by show (0 : Nat) ≤ 8; decide) hC e1 e2 (fun x1 m1 hK => ?_) rfl
  replace h := h x1 m1 hK
  refine sg_astore_n (pc := 5) (ls' := [some (vr a0), some (vi a1), some (vi a2), some (vr x1)]) dX9_gives_5 rfl (by show (3 : Nat) < 4; decide) rfl ?_
  refine st_aload_n (pc := 6) dX9_gives_6 rfl rfl ?_
  refine st_ifnull (pc := 7) (tgt := 17) dX9_gives_7 rfl (fun c => ?_) (fun c => ?_)
  · replace h := h.1 c
    exact st_throw (pc := 17) rfl rfl dX9_gives_17 dX9_gives_20 dX9_gives_21 dX9_gives_24 h.1 h.2.1 h.2.2
  · replace h := h.2 c
    refine st_iload_n (pc := 10) dX9_gives_10 rfl rfl ?_
    obtain ⟨mc2, ms2, K2, hC, e1, e2, h⟩ := h
    refine sg_SI (pc := 11) (av := [vi a2]) (st := []) (K := K2) dX9_gives_11 ck_9_158 rfl (by show (0 : Nat) ≤ 8; decide) hC e1 e2 (fun x2 m2 hK => ?_) rfl
    replace h := h x2 m2 hK
    refine st_ifne (pc := 14) (tgt := 25) dX9_gives_14 rfl (fun c => ?_) (fun c => ?_)
    · replace h := h.1 c
      refine st_aload_n (pc := 25) dX9_gives_25 rfl rfl ?_
      obtain ⟨hk2, h⟩ := h
      refine sg_gfR (pc := 26) (J := 1) dX9_gives_26 fl_9_19 rfl hk2 ?_
      refine st_aload_n (pc := 29) dX9_gives_29 rfl rfl ?_
      refine sg_gfR (pc := 30) (J := 0) dX9_gives_30 fl_9_10 rfl hk2 ?_
      refine st_aload_n (pc := 33) dX9_gives_33 rfl rfl ?_
      refine st_iload_n (pc := 34) dX9_gives_34 rfl rfl ?_
      obtain ⟨hk3, h⟩ := h
      obtain ⟨mc3, ms3, K3, hC, e1, e2, h⟩ := h
      refine sg_VI (pc := 35) (av := [vr (mR m2 a0 0), vr x1, vi a2]) (st := []) (K := K3) dX9_gives_35 ck_9_212 rfl (by decide) hk3 (by show (0 : Nat) ≤ 8; decide) hC e1 e2 (fun x3 m3 hK => ?_) rfl
      replace h := h x3 m3 hK
      exact st_ireturn (pc := 38) dX9_gives_38 (Or.inl rfl) h
    · replace h := h.2 c
      exact st_throw (pc := 17) rfl rfl dX9_gives_17 dX9_gives_20 dX9_gives_21 dX9_gives_24 h.1 h.2.1 h.2.2

theorem sg_X9_tellMore_0 {d bc bs : Nat} {a0 : Nat} {a1 : Int} {μ : Mem} {Q : Option (Option AV) → Mem → Prop}
    (h : mK μ a0 = 10 ∧ (((20 ≤ mK μ (mR μ a0 15) ∧ mK μ (mR μ a0 15) ≤ 28) ∨ ((mR μ a0 15) ≠ 0 ∧ mK μ (mR μ a0 15) = 40)) ∧ (((mN μ (mR μ a0 15) : Int) ≤ (mD μ a0 16) → Q (some none) μ) ∧ (¬ (mN μ (mR μ a0 15) : Int) ≤ (mD μ a0 16) → mK μ (mR μ a0 15) = 21 ∧ ((0 : Int) ≤ (mD μ a0 16) ∧ (mD μ a0 16) < (mN μ (mR μ a0 15) : Int)) ∧ (∀ m1, m1 = sD μ (mR μ a0 15) (mD μ a0 16) a1 → (∀ m2, m2 = sD m1 a0 16 (w32 ((mD m1 a0 16) + 1)) → Q (some none) m2)))))) :
    Wp d bc bs mX9_tellMore 0 [some (vr a0), some (vl a1), none] [] μ Q := by
  refine st_aload_n (pc := 0) dX9_tellMore_0 rfl rfl ?_
  obtain ⟨hk1, h⟩ := h
  refine sg_gfI (pc := 1) (J := 16) dX9_tellMore_1 fl_9_95 (by decide) rfl hk1 ?_
  refine st_aload_n (pc := 4) dX9_tellMore_4 rfl rfl ?_
  refine sg_gfR (pc := 5) (J := 15) dX9_tellMore_5 fl_9_91 rfl hk1 ?_
  obtain ⟨hk2, h⟩ := h
  refine sg_alen (pc := 8) dX9_tellMore_8 hk2 ?_
  refine st_icmpge (pc := 9) (tgt := 32) dX9_tellMore_9 rfl (fun c => ?_) (fun c => ?_)
  · replace h := h.1 c
    exact st_return (pc := 32) dX9_tellMore_32 rfl h
  · replace h := h.2 c
    refine st_aload_n (pc := 12) dX9_tellMore_12 rfl rfl ?_
    refine sg_gfR (pc := 13) (J := 15) dX9_tellMore_13 fl_9_91 rfl hk1 ?_
    refine st_aload_n (pc := 16) dX9_tellMore_16 rfl rfl ?_
    refine sg_gfI (pc := 17) (J := 16) dX9_tellMore_17 fl_9_95 (by decide) rfl hk1 ?_
    refine st_lload_n (pc := 20) dX9_tellMore_20 rfl rfl ?_
    obtain ⟨hk3, h⟩ := h
    obtain ⟨h1, h⟩ := h
    refine st_lastore (pc := 21) dX9_tellMore_21 hk3 h1.1 h1.2 ?_
    refine Wp.nameM (fun m1 em1 => ?_)
    replace h := h m1 em1
    refine st_aload_n (pc := 22) dX9_tellMore_22 rfl rfl ?_
    refine st_dup (pc := 23) dX9_tellMore_23 rfl ?_
    refine sg_gfI (pc := 24) (J := 16) dX9_tellMore_24 fl_9_95 (by decide) rfl (by cases em1; exact hk1) ?_
    refine sg_iconst (pc := 27) dX9_tellMore_27 (by omega) ?_
    refine st_iadd (pc := 28) dX9_tellMore_28 ?_
    refine sg_pfI (pc := 29) (J := 16) dX9_tellMore_29 fl_9_95 rfl (Or.inl rfl) (by cases em1; exact hk1) ?_
    refine Wp.nameM (fun m2 em2 => ?_)
    replace h := h m2 em2
    exact st_return (pc := 32) dX9_tellMore_32 rfl h

theorem sg_X9_tell_0 {d bc bs : Nat} {a0 : Nat} {a1 : Int} {μ : Mem} {Q : Option (Option AV) → Mem → Prop}
    (h : mK μ a0 = 10 ∧ (∀ m1, m1 = sD μ a0 16 0 → ∃ (mc1 ms1 : Nat) (K1 : Mem → Prop), Cl d mc1 ms1 mX9_tellMore [vr a0, vl a1] m1 (KV K1) ∧ mc1 ≤ bc ∧ ms1 ≤ bs ∧ (∀ m2, K1 m2 → Q (some none) m2))) :
    Wp (d + 1) bc bs mX9_tell 0 [some (vr a0), some (vl a1), none] [] μ Q := by
  refine st_aload_n (pc := 0) dX9_tell_0 rfl rfl ?_
  refine sg_iconst (pc := 1) dX9_tell_1 (by omega) ?_
  obtain ⟨hk1, h⟩ := h
  refine sg_pfI (pc := 2) (J := 16) dX9_tell_2 fl_9_95 rfl (Or.inl rfl) hk1 ?_
  refine Wp.nameM (fun m1 em1 => ?_)
  replace h := h m1 em1
  refine st_aload_n (pc := 5) dX9_tell_5 rfl rfl ?_
  refine st_lload_n (pc := 6) dX9_tell_6 rfl rfl ?_
  obtain ⟨mc1, ms1, K1, hC, e1, e2, h⟩ := h
  refine sg_VV (pc := 7) (av := [vl a1]) (st := []) (K := K1) dX9_tell_7 ck_9_297 rfl (by decide) (by cases em1; exact hk1) (by show (0 : Nat) ≤ 8; decide) hC e1 e2 (fun m2 hK => ?_) rfl
  replace h := h m2 hK
  exact st_return (pc := 10) dX9_tell_10 rfl h

theorem sg_X9_tell__0 {d bc bs : Nat} {a0 : Nat} {a1 : Int} {a3 : Int} {μ : Mem} {Q : Option (Option AV) → Mem → Prop}
    (h : mK μ a0 = 10 ∧ ∃ (mc1 ms1 : Nat) (K1 : Mem → Prop), Cl d mc1 ms1 mX9_tell [vr a0, vl a1] μ (KV K1) ∧ mc1 ≤ bc ∧ ms1 ≤ bs ∧ (∀ m1, K1 m1 → mK m1 a0 = 10 ∧ ∃ (mc2 ms2 : Nat) (K2 : Mem → Prop), Cl d mc2 ms2 mX9_tellMore [vr a0, vl a3] m1 (KV K2) ∧ mc2 ≤ bc - mc1 ∧ ms2 ≤ bs - ms1 ∧ (∀ m2, K2 m2 → Q (some none) m2))) :
    Wp (d + 1) bc bs mX9_tell_ 0 [some (vr a0), some (vl a1), none, some (vl a3), none] [] μ Q := by
  refine st_aload_n (pc := 0) dX9_tell__0 rfl rfl ?_
  refine st_lload_n (pc := 1) dX9_tell__1 rfl rfl ?_
  obtain ⟨hk1, h⟩ := h
  obtain ⟨mc1, ms1, K1, hC, e1, e2, h⟩ := h
  refine sg_VV (pc := 2) (av := [vl a1]) (st := []) (K := K1) dX9_tell__2 ck_9_272 rfl (by decide) hk1 (by show (0 : Nat) ≤ 8; decide) hC e1 e2 (fun m1 hK => ?_) rfl
  replace h := h m1 hK
  refine st_aload_n (pc := 5) dX9_tell__5 rfl rfl ?_
  refine st_lload_n (pc := 6) dX9_tell__6 rfl rfl ?_
  obtain ⟨hk2, h⟩ := h
  obtain ⟨mc2, ms2, K2, hC, e1, e2, h⟩ := h
  refine sg_VV (pc := 7) (av := [vl a3]) (st := []) (K := K2) dX9_tell__7 ck_9_297 rfl (by decide) hk2 (by show (0 : Nat) ≤ 8; decide) hC e1 e2 (fun m2 hK => ?_) rfl
  replace h := h m2 hK
  exact st_return (pc := 10) dX9_tell__10 rfl h

theorem sg_X9_tell___0 {d bc bs : Nat} {a0 : Nat} {a1 : Int} {a3 : Int} {a5 : Int} {μ : Mem} {Q : Option (Option AV) → Mem → Prop}
    (h : mK μ a0 = 10 ∧ ∃ (mc1 ms1 : Nat) (K1 : Mem → Prop), Cl d mc1 ms1 mX9_tell_ [vr a0, vl a1, vl a3] μ (KV K1) ∧ mc1 ≤ bc ∧ ms1 ≤ bs ∧ (∀ m1, K1 m1 → mK m1 a0 = 10 ∧ ∃ (mc2 ms2 : Nat) (K2 : Mem → Prop), Cl d mc2 ms2 mX9_tellMore [vr a0, vl a5] m1 (KV K2) ∧ mc2 ≤ bc - mc1 ∧ ms2 ≤ bs - ms1 ∧ (∀ m2, K2 m2 → Q (some none) m2))) :
    Wp (d + 1) bc bs mX9_tell__ 0 [some (vr a0), some (vl a1), none, some (vl a3), none, some (vl a5), none] [] μ Q := by
  refine st_aload_n (pc := 0) dX9_tell___0 rfl rfl ?_
  refine st_lload_n (pc := 1) dX9_tell___1 rfl rfl ?_
  refine st_lload_n (pc := 2) dX9_tell___2 rfl rfl ?_
  obtain ⟨hk1, h⟩ := h
  obtain ⟨mc1, ms1, K1, hC, e1, e2, h⟩ := h
  refine sg_VV (pc := 3) (av := [vl a1, vl a3]) (st := []) (K := K1) dX9_tell___3 ck_9_250 rfl (by decide) hk1 (by show (0 : Nat) ≤ 8; decide) hC e1 e2 (fun m1 hK => ?_) rfl
  replace h := h m1 hK
  refine st_aload_n (pc := 6) dX9_tell___6 rfl rfl ?_
  refine st_lload (pc := 7) dX9_tell___7 rfl ?_
  obtain ⟨hk2, h⟩ := h
  obtain ⟨mc2, ms2, K2, hC, e1, e2, h⟩ := h
  refine sg_VV (pc := 9) (av := [vl a5]) (st := []) (K := K2) dX9_tell___9 ck_9_297 rfl (by decide) hk2 (by show (0 : Nat) ≤ 8; decide) hC e1 e2 (fun m2 hK => ?_) rfl
  replace h := h m2 hK
  exact st_return (pc := 12) dX9_tell___12 rfl h

theorem sg_X9_steps_0 {d bc bs : Nat} {a0 : Nat} {a1 : Int} {μ : Mem} {Q : Option (Option AV) → Mem → Prop}
    (h : ∃ (mc1 ms1 : Nat) (K1 : Int → Mem → Prop), Cl d mc1 ms1 mX9_isWalk [vi a1] μ (KI K1) ∧ mc1 ≤ bc ∧ ms1 ≤ bs ∧ (∀ x1 m1, K1 x1 m1 → (¬ x1 = 0 → mK m1 a0 = 10 ∧ (mK m1 (mR m1 a0 5) = 26 ∧ ((0 : Int) ≤ a1 ∧ a1 < (mN m1 (mR m1 a0 5) : Int)) ∧ (mK m1 (mR m1 (mR m1 a0 5) a1) = 9 ∧ (∃ (mc2 ms2 : Nat) (K2 : Int → Mem → Prop), Cl d mc2 ms2 mX8_sizes [vr (mR m1 (mR m1 a0 5) a1), vr (mR m1 (mR m1 (mR m1 a0 5) a1) 0)] m1 (KI K2) ∧ mc2 ≤ bc - mc1 ∧ ms2 ≤ bs - ms1 ∧ (∀ x2 m2, K2 x2 m2 → mK m2 (mR m1 (mR m1 a0 5) a1) = 9 ∧ (∃ (mc3 ms3 : Nat) (K3 : Int → Mem → Prop), Cl d mc3 ms3 mX8_sizes [vr (mR m1 (mR m1 a0 5) a1), vr (mR m2 (mR m1 (mR m1 a0 5) a1) 1)] m2 (KI K3) ∧ mc3 ≤ bc - mc1 - mc2 ∧ ms3 ≤ bs - ms1 - ms2 ∧ (∀ x3 m3, K3 x3 m3 → mK m3 a0 = 10 ∧ ∃ (mc4 ms4 : Nat) (K4 : Mem → Prop), Cl d mc4 ms4 mX9_tell__ [vr a0, vl (mD m1 (mR m1 (mR m1 a0 5) a1) 4), vl x2, vl x3] m3 (KV K4) ∧ mc4 ≤ bc - mc1 - mc2 - mc3 ∧ ms4 ≤ bs - ms1 - ms2 - ms3 ∧ (∀ m4, K4 m4 → mK m4 (mR m1 (mR m1 a0 5) a1) = 9 ∧ (Q (some (some (vi (mD m4 (mR m1 (mR m1 a0 5) a1) 5)))) m4))))))))) ∧ (x1 = 0 → Q (some (some (vi (-1)))) m1))) :
    Wp (d + 1) bc bs mX9_steps 0 [some (vr a0), some (vi a1), none] [] μ Q := by
  refine st_iload_n (pc := 0) dX9_steps_0 rfl rfl ?_
  obtain ⟨mc1, ms1, K1, hC, e1, e2, h⟩ := h
  refine sg_SI (pc := 1) (av := [vi a1]) (st := []) (K := K1) dX9_steps_1 ck_9_193 rfl (by show (0 : Nat) ≤ 8; decide) hC e1 e2 (fun x1 m1 hK => ?_) rfl
  replace h := h x1 m1 hK
  refine st_ifne (pc := 4) (tgt := 9) dX9_steps_4 rfl (fun c => ?_) (fun c => ?_)
  · replace h := h.1 c
    refine st_aload_n (pc := 9) dX9_steps_9 rfl rfl ?_
    obtain ⟨hk1, h⟩ := h
    refine sg_gfR (pc := 10) (J := 5) dX9_steps_10 fl_9_40 rfl hk1 ?_
    refine st_iload_n (pc := 13) dX9_steps_13 rfl rfl ?_
    obtain ⟨hk2, h⟩ := h
    obtain ⟨h1, h⟩ := h
    refine st_aaload (pc := 14) (t := 6) dX9_steps_14 hk2 (fun _ => rfl) (by decide) (by decide) h1.1 h1.2 ?_
    refine sg_astore_n (pc := 15) (ls' := [some (vr a0), some (vi a1), some (vr (mR m1 (mR m1 a0 5) a1))]) dX9_steps_15 rfl (by show (2 : Nat) < 3; decide) rfl ?_
    refine st_aload_n (pc := 16) dX9_steps_16 rfl rfl ?_
    refine st_aload_n (pc := 17) dX9_steps_17 rfl rfl ?_
    obtain ⟨hk3, h⟩ := h
    refine sg_gfI (pc := 18) (J := 4) dX9_steps_18 fl_9_204 (by decide) rfl hk3 ?_
    refine st_i2l (pc := 21) dX9_steps_21 ?_
    refine st_aload_n (pc := 22) dX9_steps_22 rfl rfl ?_
    refine st_aload_n (pc := 23) dX9_steps_23 rfl rfl ?_
    refine sg_gfR (pc := 24) (J := 0) dX9_steps_24 fl_9_216 rfl hk3 ?_
    obtain ⟨mc2, ms2, K2, hC, e1, e2, h⟩ := h
    refine sg_VI (pc := 27) (av := [vr (mR m1 (mR m1 (mR m1 a0 5) a1) 0)]) (st := [vl (mD m1 (mR m1 (mR m1 a0 5) a1) 4), vr a0]) (K := K2) dX9_steps_27 ck_9_219 rfl (by decide) hk3 (by show (3 : Nat) ≤ 8; decide) hC e1 e2 (fun x2 m2 hK => ?_) rfl
    replace h := h x2 m2 hK
    refine st_i2l (pc := 30) dX9_steps_30 ?_
    refine st_aload_n (pc := 31) dX9_steps_31 rfl rfl ?_
    refine st_aload_n (pc := 32) dX9_steps_32 rfl rfl ?_
    obtain ⟨hk4, h⟩ := h
    refine sg_gfR (pc := 33) (J := 1) dX9_steps_33 fl_9_223 rfl hk4 ?_
    obtain ⟨mc3, ms3, K3, hC, e1, e2, h⟩ := h
    refine sg_VI (pc := 36) (av := [vr (mR m2 (mR m1 (mR m1 a0 5) a1) 1)]) (st := [vl x2, vl (mD m1 (mR m1 (mR m1 a0 5) a1) 4), vr a0]) (K := K3) dX9_steps_36 ck_9_219 rfl (by decide) hk4 (by show (5 : Nat) ≤ 8; decide) hC e1 e2 (fun x3 m3 hK => ?_) rfl
    replace h := h x3 m3 hK
    refine st_i2l (pc := 39) dX9_steps_39 ?_
    obtain ⟨hk5, h⟩ := h
    obtain ⟨mc4, ms4, K4, hC, e1, e2, h⟩ := h
    refine sg_VV (pc := 40) (av := [vl (mD m1 (mR m1 (mR m1 a0 5) a1) 4), vl x2, vl x3]) (st := []) (K := K4) dX9_steps_40 ck_9_226 rfl (by decide) hk5 (by show (0 : Nat) ≤ 8; decide) hC e1 e2 (fun m4 hK => ?_) rfl
    replace h := h m4 hK
    refine st_aload_n (pc := 43) dX9_steps_43 rfl rfl ?_
    obtain ⟨hk6, h⟩ := h
    refine sg_gfI (pc := 44) (J := 5) dX9_steps_44 fl_9_230 (by decide) rfl hk6 ?_
    exact st_ireturn (pc := 47) dX9_steps_47 (Or.inl rfl) h
  · replace h := h.2 c
    refine sg_iconst (pc := 7) dX9_steps_7 (by omega) ?_
    exact st_ireturn (pc := 8) dX9_steps_8 (Or.inl rfl) h

theorem sg_X9_go_0 {d bc bs : Nat} {a0 : Nat} {a1 : Int} {a2 : Int} {a3 : Int} {μ : Mem} {Q : Option (Option AV) → Mem → Prop}
    (h : ∃ (mc1 ms1 : Nat) (K1 : Int → Mem → Prop), Cl d mc1 ms1 mX9_isWalk [vi a1] μ (KI K1) ∧ mc1 ≤ bc ∧ ms1 ≤ bs ∧ (∀ x1 m1, K1 x1 m1 → (x1 = 0 → Q (some (some (vi (-1)))) m1) ∧ (¬ x1 = 0 → ∃ (mc2 ms2 : Nat) (K2 : Int → Mem → Prop), Cl d mc2 ms2 mX9_isIn [vi a2, vi 0, vi 1000] m1 (KI K2) ∧ mc2 ≤ bc - mc1 ∧ ms2 ≤ bs - ms1 ∧ (∀ x2 m2, K2 x2 m2 → (x2 = 0 → Q (some (some (vi (-1)))) m2) ∧ (¬ x2 = 0 → ∃ (mc3 ms3 : Nat) (K3 : Int → Mem → Prop), Cl d mc3 ms3 mX9_isIn [vi a3, vi 0, vi 1000] m2 (KI K3) ∧ mc3 ≤ bc - mc1 - mc2 ∧ ms3 ≤ bs - ms1 - ms2 ∧ (∀ x3 m3, K3 x3 m3 → (¬ x3 = 0 → mK m3 a0 = 10 ∧ (mK m3 (mR m3 a0 5) = 26 ∧ ((0 : Int) ≤ a1 ∧ a1 < (mN m3 (mR m3 a0 5) : Int)) ∧ (mK m3 (mR m3 a0 0) = 1 ∧ ((mK m3 (mR m3 (mR m3 a0 0) 3) = 20 ∨ ((mR m3 (mR m3 a0 0) 3) ≠ 0 ∧ mK m3 (mR m3 (mR m3 a0 0) 3) = 40)) ∧ ((0 : Int) ≤ 6 ∧ 6 < (mN m3 (mR m3 (mR m3 a0 0) 3) : Int)) ∧ (∃ (mc4 ms4 : Nat) (K4 : Nat → Mem → Prop), Cl d mc4 ms4 mX9_toldLaw [vr a0, vi (mD m3 (mR m3 (mR m3 a0 0) 3) 6)] m3 (KR K4) ∧ mc4 ≤ bc - mc1 - mc2 - mc3 ∧ ms4 ≤ bs - ms1 - ms2 - ms3 ∧ (∀ x4 m4, K4 x4 m4 → mK m4 (mR m3 (mR m3 a0 5) a1) = 9 ∧ (∃ (mc5 ms5 : Nat) (K5 : Int → Mem → Prop), Cl d mc5 ms5 mJ9_min_7cf53 [vi (w32 (a2 + a3)), vi (mD m4 (mR m3 (mR m3 a0 5) a1) 4)] m4 (KI K5) ∧ mc5 ≤ bc - mc1 - mc2 - mc3 - mc4 ∧ ms5 ≤ bs - ms1 - ms2 - ms3 - ms4 ∧ (∀ x5 m5, K5 x5 m5 → Wp (d + 1) (bc - mc1 - mc2 - mc3 - mc4 - mc5) (bs - ms1 - ms2 - ms3 - ms4 - ms5) mX9_go 74 [some (vr a0), some (vi a1), some (vi a2), some (vi a3), some (vr (mR m3 (mR m3 a0 5) a1)), some (vr x4), some (vi x5), some (vi 0), some (vi a2)] [] m5 Q)))))))) ∧ (x3 = 0 → Q (some (some (vi (-1)))) m3))))))) :
    Wp (d + 1) bc bs mX9_go 0 [some (vr a0), some (vi a1), some (vi a2), some (vi a3), none, none, none, none, none] [] μ Q := by
  refine st_iload_n (pc := 0) dX9_go_0 rfl rfl ?_
  obtain ⟨mc1, ms1, K1, hC, e1, e2, h⟩ := h
  refine sg_SI (pc := 1) (av := [vi a1]) (st := []) (K := K1) dX9_go_1 ck_9_193 rfl (by show (0 : Nat) ≤ 8; decide) hC e1 e2 (fun x1 m1 hK => ?_) rfl
  replace h := h x1 m1 hK
  refine st_ifeq (pc := 4) (tgt := 29) dX9_go_4 rfl (fun c => ?_) (fun c => ?_)
  · replace h := h.1 c
    refine sg_iconst (pc := 29) dX9_go_29 (by omega) ?_
    exact st_ireturn (pc := 30) dX9_go_30 (Or.inl rfl) h
  · replace h := h.2 c
    refine st_iload_n (pc := 7) dX9_go_7 rfl rfl ?_
    refine sg_iconst (pc := 8) dX9_go_8 (by omega) ?_
    refine sg_sipush (pc := 9) dX9_go_9 (by omega) (by decide) ?_
    obtain ⟨mc2, ms2, K2, hC, e1, e2, h⟩ := h
    refine sg_SI (pc := 12) (av := [vi a2, vi 0, vi 1000]) (st := []) (K := K2) dX9_go_12 ck_9_102 rfl (by show (0 : Nat) ≤ 8; decide) hC e1 e2 (fun x2 m2 hK => ?_) rfl
    replace h := h x2 m2 hK
    refine st_ifeq (pc := 15) (tgt := 29) dX9_go_15 rfl (fun c => ?_) (fun c => ?_)
    · replace h := h.1 c
      refine sg_iconst (pc := 29) dX9_go_29 (by omega) ?_
      exact st_ireturn (pc := 30) dX9_go_30 (Or.inl rfl) h
    · replace h := h.2 c
      refine st_iload_n (pc := 18) dX9_go_18 rfl rfl ?_
      refine sg_iconst (pc := 19) dX9_go_19 (by omega) ?_
      refine sg_sipush (pc := 20) dX9_go_20 (by omega) (by decide) ?_
      obtain ⟨mc3, ms3, K3, hC, e1, e2, h⟩ := h
      refine sg_SI (pc := 23) (av := [vi a3, vi 0, vi 1000]) (st := []) (K := K3) dX9_go_23 ck_9_102 rfl (by show (0 : Nat) ≤ 8; decide) hC e1 e2 (fun x3 m3 hK => ?_) rfl
      replace h := h x3 m3 hK
      refine st_ifne (pc := 26) (tgt := 31) dX9_go_26 rfl (fun c => ?_) (fun c => ?_)
      · replace h := h.1 c
        refine st_aload_n (pc := 31) dX9_go_31 rfl rfl ?_
        obtain ⟨hk1, h⟩ := h
        refine sg_gfR (pc := 32) (J := 5) dX9_go_32 fl_9_40 rfl hk1 ?_
        refine st_iload_n (pc := 35) dX9_go_35 rfl rfl ?_
        obtain ⟨hk2, h⟩ := h
        obtain ⟨h1, h⟩ := h
        refine st_aaload (pc := 36) (t := 6) dX9_go_36 hk2 (fun _ => rfl) (by decide) (by decide) h1.1 h1.2 ?_
        refine sg_astore (pc := 37) (ls' := [some (vr a0), some (vi a1), some (vi a2), some (vi a3), some (vr (mR m3 (mR m3 a0 5) a1)), none, none, none, none]) dX9_go_37 (by show (4 : Nat) < 9; decide) rfl ?_
        refine st_aload_n (pc := 39) dX9_go_39 rfl rfl ?_
        refine st_aload_n (pc := 40) dX9_go_40 rfl rfl ?_
        refine sg_gfR (pc := 41) (J := 0) dX9_go_41 fl_9_10 rfl hk1 ?_
        obtain ⟨hk3, h⟩ := h
        refine sg_gfR (pc := 44) (J := 3) dX9_go_44 fl_9_124 rfl hk3 ?_
        refine sg_bipush (pc := 47) dX9_go_47 (by omega) (by decide) ?_
        obtain ⟨hk4, h⟩ := h
        obtain ⟨h1, h⟩ := h
        refine sg_iaload (pc := 49) dX9_go_49 hk4 h1 ?_
        obtain ⟨mc4, ms4, K4, hC, e1, e2, h⟩ := h
        refine sg_VR (pc := 50) (av := [vi (mD m3 (mR m3 (mR m3 a0 0) 3) 6)]) (st := []) (K := K4) dX9_go_50 ck_9_208 rfl (by decide) hk1 (by show (0 : Nat) ≤ 8; decide) hC e1 e2 (fun x4 m4 hK => ?_) rfl
        replace h := h x4 m4 hK
        refine sg_astore (pc := 53) (ls' := [some (vr a0), some (vi a1), some (vi a2), some (vi a3), some (vr (mR m3 (mR m3 a0 5) a1)), some (vr x4), none, none, none]) dX9_go_53 (by show (5 : Nat) < 9; decide) rfl ?_
        refine st_iload_n (pc := 55) dX9_go_55 rfl rfl ?_
        refine st_iload_n (pc := 56) dX9_go_56 rfl rfl ?_
        refine st_iadd (pc := 57) dX9_go_57 ?_
        refine st_aload (pc := 58) dX9_go_58 rfl ?_
        obtain ⟨hk5, h⟩ := h
        refine sg_gfI (pc := 60) (J := 4) dX9_go_60 fl_9_204 (by decide) rfl hk5 ?_
        obtain ⟨mc5, ms5, K5, hC, e1, e2, h⟩ := h
        refine sg_SI (pc := 63) (av := [vi (w32 (a2 + a3)), vi (mD m4 (mR m3 (mR m3 a0 5) a1) 4)]) (st := []) (K := K5) dX9_go_63 ck_9_233 rfl (by show (0 : Nat) ≤ 8; decide) hC e1 e2 (fun x5 m5 hK => ?_) rfl
        replace h := h x5 m5 hK
        refine sg_istore (pc := 66) (ls' := [some (vr a0), some (vi a1), some (vi a2), some (vi a3), some (vr (mR m3 (mR m3 a0 5) a1)), some (vr x4), some (vi x5), none, none]) dX9_go_66 (by show (6 : Nat) < 9; decide) rfl ?_
        refine sg_iconst (pc := 68) dX9_go_68 (by omega) ?_
        refine sg_istore (pc := 69) (ls' := [some (vr a0), some (vi a1), some (vi a2), some (vi a3), some (vr (mR m3 (mR m3 a0 5) a1)), some (vr x4), some (vi x5), some (vi 0), none]) dX9_go_69 (by show (7 : Nat) < 9; decide) rfl ?_
        refine st_iload_n (pc := 71) dX9_go_71 rfl rfl ?_
        refine sg_istore (pc := 72) (ls' := [some (vr a0), some (vi a1), some (vi a2), some (vi a3), some (vr (mR m3 (mR m3 a0 5) a1)), some (vr x4), some (vi x5), some (vi 0), some (vi a2)]) dX9_go_72 (by show (8 : Nat) < 9; decide) rfl ?_
        exact h
      · replace h := h.2 c
        refine sg_iconst (pc := 29) dX9_go_29 (by omega) ?_
        exact st_ireturn (pc := 30) dX9_go_30 (Or.inl rfl) h

theorem sg_X9_go_74 {d bc bs : Nat} {a0 : Nat} {a1 : Int} {a2 : Int} {a3 : Int} {a4 : Nat} {a5 : Nat} {a6 : Int} {a7 : Int} {a8 : Int} {μ : Mem} {Q : Option (Option AV) → Mem → Prop}
    (h : (a6 ≤ a8 → Q (some (some (vi a7))) μ) ∧ (¬ a6 ≤ a8 → mK μ a0 = 10 ∧ (mK μ (mR μ a0 1) = 6 ∧ ∃ (mc1 ms1 : Nat) (K1 : Int → Mem → Prop), Cl d mc1 ms1 mX5_carry [vr (mR μ a0 1), vr (mR μ a0 0), vr a5, vr a4, vi a8, vi 0] μ (KI K1) ∧ mc1 ≤ bc ∧ ms1 ≤ bs ∧ (∀ x1 m1, K1 x1 m1 → ∀ v1, v1 = w32 (a7 + x1) → ∀ v2, v2 = w32 (a8 + 1) → Wp (d + 1) (bc - mc1) (bs - ms1) mX9_go 74 [some (vr a0), some (vi a1), some (vi a2), some (vi a3), some (vr a4), some (vr a5), some (vi a6), some (vi v1), some (vi v2)] [] m1 Q)))) :
    Wp (d + 1) bc bs mX9_go 74 [some (vr a0), some (vi a1), some (vi a2), some (vi a3), some (vr a4), some (vr a5), some (vi a6), some (vi a7), some (vi a8)] [] μ Q := by
  refine st_iload (pc := 74) dX9_go_74 rfl ?_
  refine st_iload (pc := 76) dX9_go_76 rfl ?_
  refine st_icmpge (pc := 78) (tgt := 110) dX9_go_78 rfl (fun c => ?_) (fun c => ?_)
  · replace h := h.1 c
    refine st_iload (pc := 110) dX9_go_110 rfl ?_
    exact st_ireturn (pc := 112) dX9_go_112 (Or.inl rfl) h
  · replace h := h.2 c
    refine st_iload (pc := 81) dX9_go_81 rfl ?_
    refine st_aload_n (pc := 83) dX9_go_83 rfl rfl ?_
    obtain ⟨hk1, h⟩ := h
    refine sg_gfR (pc := 84) (J := 1) dX9_go_84 fl_9_19 rfl hk1 ?_
    refine st_aload_n (pc := 87) dX9_go_87 rfl rfl ?_
    refine sg_gfR (pc := 88) (J := 0) dX9_go_88 fl_9_10 rfl hk1 ?_
    refine st_aload (pc := 91) dX9_go_91 rfl ?_
    refine st_aload (pc := 93) dX9_go_93 rfl ?_
    refine st_iload (pc := 95) dX9_go_95 rfl ?_
    refine sg_iconst (pc := 97) dX9_go_97 (by omega) ?_
    obtain ⟨hk2, h⟩ := h
    obtain ⟨mc1, ms1, K1, hC, e1, e2, h⟩ := h
    refine sg_VI (pc := 98) (av := [vr (mR μ a0 0), vr a5, vr a4, vi a8, vi 0]) (st := [vi a7]) (K := K1) dX9_go_98 ck_9_238 rfl (by decide) hk2 (by show (1 : Nat) ≤ 8; decide) hC e1 e2 (fun x1 m1 hK => ?_) rfl
    replace h := h x1 m1 hK
    refine st_iadd (pc := 101) dX9_go_101 ?_
    refine sg_istore (pc := 102) (ls' := [some (vr a0), some (vi a1), some (vi a2), some (vi a3), some (vr a4), some (vr a5), some (vi a6), some (vi (w32 (a7 + x1))), some (vi a8)]) dX9_go_102 (by show (7 : Nat) < 9; decide) rfl ?_
    refine Wp.nameL (ls2 := fun v => [some (vr a0), some (vi a1), some (vi a2), some (vi a3), some (vr a4), some (vr a5), some (vi a6), some (vi v), some (vi a8)]) 7 _ rfl (fun _ => rfl) (fun v1 ev1 => ?_)
    replace h := h v1 ev1
    refine sg_iinc (pc := 104) (ls' := [some (vr a0), some (vi a1), some (vi a2), some (vi a3), some (vr a4), some (vr a5), some (vi a6), some (vi v1), some (vi (w32 (a8 + 1)))]) dX9_go_104 rfl rfl ?_
    refine Wp.nameL (ls2 := fun v => [some (vr a0), some (vi a1), some (vi a2), some (vi a3), some (vr a4), some (vr a5), some (vi a6), some (vi v1), some (vi v)]) 8 _ rfl (fun _ => rfl) (fun v2 ev2 => ?_)
    replace h := h v2 ev2
    refine st_goto (pc := 107) dX9_go_107 rfl ?_
    exact h

theorem sg_X9_asItIs_0 {d bc bs : Nat} {a0 : Nat} {μ : Mem} {Q : Option (Option AV) → Mem → Prop}
    (h : mK μ a0 = 10 ∧ (mK μ (mR μ a0 10) = 8 ∧ (mK μ (mR μ (mR μ a0 10) 0) = 1 ∧ ∃ (mc1 ms1 : Nat) (K1 : Mem → Prop), Cl d mc1 ms1 mX0_copy [vr (mR μ (mR μ a0 10) 0), vr (mR μ a0 0)] μ (KV K1) ∧ mc1 ≤ bc ∧ ms1 ≤ bs ∧ (∀ m1, K1 m1 → mK m1 a0 = 10 ∧ (mK m1 (mR m1 a0 0) = 1 ∧ ((mK m1 (mR m1 (mR m1 a0 0) 3) = 20 ∨ ((mR m1 (mR m1 a0 0) 3) ≠ 0 ∧ mK m1 (mR m1 (mR m1 a0 0) 3) = 40)) ∧ ((0 : Int) ≤ 6 ∧ 6 < (mN m1 (mR m1 (mR m1 a0 0) 3) : Int)) ∧ (∃ (mc2 ms2 : Nat) (K2 : Nat → Mem → Prop), Cl d mc2 ms2 mX9_toldLaw [vr a0, vi (mD m1 (mR m1 (mR m1 a0 0) 3) 6)] m1 (KR K2) ∧ mc2 ≤ bc - mc1 ∧ ms2 ≤ bs - ms1 ∧ (∀ x1 m2, K2 x1 m2 → mK m2 (mR m1 a0 10) = 8 ∧ (∀ m3, m3 = sR m2 (mR m1 a0 10) 1 x1 → mK m3 a0 = 10 ∧ (Q (some (some (vr (mR m3 a0 10)))) m3)))))))))) :
    Wp (d + 1) bc bs mX9_asItIs 0 [some (vr a0)] [] μ Q := by
  refine st_aload_n (pc := 0) dX9_asItIs_0 rfl rfl ?_
  obtain ⟨hk1, h⟩ := h
  refine sg_gfR (pc := 1) (J := 10) dX9_asItIs_1 fl_9_67 rfl hk1 ?_
  obtain ⟨hk2, h⟩ := h
  refine sg_gfR (pc := 4) (J := 0) dX9_asItIs_4 fl_9_264 rfl hk2 ?_
  refine st_aload_n (pc := 7) dX9_asItIs_7 rfl rfl ?_
  refine sg_gfR (pc := 8) (J := 0) dX9_asItIs_8 fl_9_10 rfl hk1 ?_
  obtain ⟨hk3, h⟩ := h
  obtain ⟨mc1, ms1, K1, hC, e1, e2, h⟩ := h
  refine sg_VV (pc := 11) (av := [vr (mR μ a0 0)]) (st := []) (K := K1) dX9_asItIs_11 ck_9_422 rfl (by decide) hk3 (by show (0 : Nat) ≤ 8; decide) hC e1 e2 (fun m1 hK => ?_) rfl
  replace h := h m1 hK
  refine st_aload_n (pc := 14) dX9_asItIs_14 rfl rfl ?_
  obtain ⟨hk4, h⟩ := h
  refine sg_gfR (pc := 15) (J := 10) dX9_asItIs_15 fl_9_67 rfl hk4 ?_
  refine st_aload_n (pc := 18) dX9_asItIs_18 rfl rfl ?_
  refine st_aload_n (pc := 19) dX9_asItIs_19 rfl rfl ?_
  refine sg_gfR (pc := 20) (J := 0) dX9_asItIs_20 fl_9_10 rfl hk4 ?_
  obtain ⟨hk5, h⟩ := h
  refine sg_gfR (pc := 23) (J := 3) dX9_asItIs_23 fl_9_124 rfl hk5 ?_
  refine sg_bipush (pc := 26) dX9_asItIs_26 (by omega) (by decide) ?_
  obtain ⟨hk6, h⟩ := h
  obtain ⟨h1, h⟩ := h
  refine sg_iaload (pc := 28) dX9_asItIs_28 hk6 h1 ?_
  obtain ⟨mc2, ms2, K2, hC, e1, e2, h⟩ := h
  refine sg_VR (pc := 29) (av := [vi (mD m1 (mR m1 (mR m1 a0 0) 3) 6)]) (st := [vr (mR m1 a0 10)]) (K := K2) dX9_asItIs_29 ck_9_208 rfl (by decide) hk4 (by show (1 : Nat) ≤ 8; decide) hC e1 e2 (fun x1 m2 hK => ?_) rfl
  replace h := h x1 m2 hK
  obtain ⟨hk7, h⟩ := h
  refine sg_pfR (pc := 32) (J := 1) dX9_asItIs_32 fl_9_321 rfl (Or.inl rfl) hk7 ?_
  refine Wp.nameM (fun m3 em3 => ?_)
  replace h := h m3 em3
  refine st_aload_n (pc := 35) dX9_asItIs_35 rfl rfl ?_
  obtain ⟨hk8, h⟩ := h
  refine sg_gfR (pc := 36) (J := 10) dX9_asItIs_36 fl_9_67 rfl hk8 ?_
  exact st_areturn (pc := 39) dX9_asItIs_39 rfl h

theorem sg_X9_swing_0 {d bc bs : Nat} {a0 : Nat} {a1 : Int} {μ : Mem} {Q : Option (Option AV) → Mem → Prop}
    (h : ∃ (mc1 ms1 : Nat) (K1 : Int → Mem → Prop), Cl d mc1 ms1 mX9_isIn [vi a1, vi 1, vi 500] μ (KI K1) ∧ mc1 ≤ bc ∧ ms1 ≤ bs ∧ (∀ x1 m1, K1 x1 m1 → (¬ x1 = 0 → mK m1 a0 = 10 ∧ ∃ (mc2 ms2 : Nat) (K2 : Nat → Mem → Prop), Cl d mc2 ms2 mX9_asItIs [vr a0] m1 (KR K2) ∧ mc2 ≤ bc - mc1 ∧ ms2 ≤ bs - ms1 ∧ (∀ x2 m2, K2 x2 m2 → mK m2 x2 = 8 ∧ ∃ (mc3 ms3 : Nat) (K3 : Nat → Mem → Prop), Cl d mc3 ms3 mX7_letGo [vr x2, vi a1, vi 400] m2 (KR K3) ∧ mc3 ≤ bc - mc1 - mc2 ∧ ms3 ≤ bs - ms1 - ms2 ∧ (∀ x3 m3, K3 x3 m3 → Wp (d + 1) (bc - mc1 - mc2 - mc3) (bs - ms1 - ms2 - ms3) mX9_swing 27 [some (vr a0), some (vi a1), some (vr x3), some (vi 2)] [] m3 Q))) ∧ (x1 = 0 → Q (some (some (vi (-1)))) m1))) :
    Wp (d + 1) bc bs mX9_swing 0 [some (vr a0), some (vi a1), none, none] [] μ Q := by
  refine st_iload_n (pc := 0) dX9_swing_0 rfl rfl ?_
  refine sg_iconst (pc := 1) dX9_swing_1 (by omega) ?_
  refine sg_sipush (pc := 2) dX9_swing_2 (by omega) (by decide) ?_
  obtain ⟨mc1, ms1, K1, hC, e1, e2, h⟩ := h
  refine sg_SI (pc := 5) (av := [vi a1, vi 1, vi 500]) (st := []) (K := K1) dX9_swing_5 ck_9_102 rfl (by show (0 : Nat) ≤ 8; decide) hC e1 e2 (fun x1 m1 hK => ?_) rfl
  replace h := h x1 m1 hK
  refine st_ifne (pc := 8) (tgt := 13) dX9_swing_8 rfl (fun c => ?_) (fun c => ?_)
  · replace h := h.1 c
    refine st_aload_n (pc := 13) dX9_swing_13 rfl rfl ?_
    obtain ⟨hk1, h⟩ := h
    obtain ⟨mc2, ms2, K2, hC, e1, e2, h⟩ := h
    refine sg_VR (pc := 14) (av := []) (st := []) (K := K2) dX9_swing_14 ck_9_242 rfl (by decide) hk1 (by show (0 : Nat) ≤ 8; decide) hC e1 e2 (fun x2 m2 hK => ?_) rfl
    replace h := h x2 m2 hK
    refine st_iload_n (pc := 17) dX9_swing_17 rfl rfl ?_
    refine sg_sipush (pc := 18) dX9_swing_18 (by omega) (by decide) ?_
    obtain ⟨hk2, h⟩ := h
    obtain ⟨mc3, ms3, K3, hC, e1, e2, h⟩ := h
    refine sg_VR (pc := 21) (av := [vi a1, vi 400]) (st := []) (K := K3) dX9_swing_21 ck_9_246 rfl (by decide) hk2 (by show (0 : Nat) ≤ 8; decide) hC e1 e2 (fun x3 m3 hK => ?_) rfl
    replace h := h x3 m3 hK
    refine sg_astore_n (pc := 24) (ls' := [some (vr a0), some (vi a1), some (vr x3), none]) dX9_swing_24 rfl (by show (2 : Nat) < 4; decide) rfl ?_
    refine sg_iconst (pc := 25) dX9_swing_25 (by omega) ?_
    refine sg_istore_n (pc := 26) (ls' := [some (vr a0), some (vi a1), some (vr x3), some (vi 2)]) dX9_swing_26 rfl (by show (3 : Nat) < 4; decide) rfl ?_
    exact h
  · replace h := h.2 c
    refine sg_iconst (pc := 11) dX9_swing_11 (by omega) ?_
    exact st_ireturn (pc := 12) dX9_swing_12 (Or.inl rfl) h

theorem sg_X9_swing_27 {d bc bs : Nat} {a0 : Nat} {a1 : Int} {a2 : Nat} {a3 : Int} {μ : Mem} {Q : Option (Option AV) → Mem → Prop}
    (h : (400 ≤ a3 → Q (some (some (vi (-2)))) μ) ∧ (¬ 400 ≤ a3 → (mK μ a2 = 20 ∨ (a2 ≠ 0 ∧ mK μ a2 = 40)) ∧ ((0 : Int) ≤ a3 ∧ a3 < (mN μ a2 : Int)) ∧ (((0 : Int) ≤ (w32 (a3 - 1)) ∧ (w32 (a3 - 1)) < (mN μ a2 : Int)) ∧ (((mD μ a2 a3) ≤ (mD μ a2 (w32 (a3 - 1))) → ∀ v1, v1 = w32 (a3 + 1) → Wp (d + 1) bc bs mX9_swing 27 [some (vr a0), some (vi a1), some (vr a2), some (vi v1)] [] μ Q) ∧ (¬ (mD μ a2 a3) ≤ (mD μ a2 (w32 (a3 - 1))) → ((0 : Int) ≤ a3 ∧ a3 < (mN μ a2 : Int)) ∧ (((0 : Int) ≤ (w32 (a3 + 1)) ∧ (w32 (a3 + 1)) < (mN μ a2 : Int)) ∧ (((mD μ a2 a3) < (mD μ a2 (w32 (a3 + 1))) → ∀ v2, v2 = w32 (a3 + 1) → Wp (d + 1) bc bs mX9_swing 27 [some (vr a0), some (vi a1), some (vr a2), some (vi v2)] [] μ Q) ∧ (¬ (mD μ a2 a3) < (mD μ a2 (w32 (a3 + 1))) → ((0 : Int) ≤ 0 ∧ 0 < (mN μ a2 : Int)) ∧ (((0 : Int) ≤ a3 ∧ a3 < (mN μ a2 : Int)) ∧ (mK μ a0 = 10 ∧ ∃ (mc1 ms1 : Nat) (K1 : Mem → Prop), Cl d mc1 ms1 mX9_tell_ [vr a0, vl (mD μ a2 0), vl (mD μ a2 a3)] μ (KV K1) ∧ mc1 ≤ bc ∧ ms1 ≤ bs ∧ (∀ m1, K1 m1 → Q (some (some (vi a3))) m1))))))))))) :
    Wp (d + 1) bc bs mX9_swing 27 [some (vr a0), some (vi a1), some (vr a2), some (vi a3)] [] μ Q := by
  refine st_iload_n (pc := 27) dX9_swing_27 rfl rfl ?_
  refine sg_sipush (pc := 28) dX9_swing_28 (by omega) (by decide) ?_
  refine st_icmpge (pc := 31) (tgt := 76) dX9_swing_31 rfl (fun c => ?_) (fun c => ?_)
  · replace h := h.1 c
    refine sg_bipush (pc := 76) dX9_swing_76 (by omega) (by decide) ?_
    exact st_ireturn (pc := 78) dX9_swing_78 (Or.inl rfl) h
  · replace h := h.2 c
    refine st_aload_n (pc := 34) dX9_swing_34 rfl rfl ?_
    refine st_iload_n (pc := 35) dX9_swing_35 rfl rfl ?_
    obtain ⟨hk1, h⟩ := h
    obtain ⟨h1, h⟩ := h
    refine sg_iaload (pc := 36) dX9_swing_36 hk1 h1 ?_
    refine st_aload_n (pc := 37) dX9_swing_37 rfl rfl ?_
    refine st_iload_n (pc := 38) dX9_swing_38 rfl rfl ?_
    refine sg_iconst (pc := 39) dX9_swing_39 (by omega) ?_
    refine st_isub (pc := 40) dX9_swing_40 ?_
    obtain ⟨h1, h⟩ := h
    refine sg_iaload (pc := 41) dX9_swing_41 hk1 h1 ?_
    refine st_icmple (pc := 42) (tgt := 70) dX9_swing_42 rfl (fun c => ?_) (fun c => ?_)
    · replace h := h.1 c
      refine sg_iinc (pc := 70) (ls' := [some (vr a0), some (vi a1), some (vr a2), some (vi (w32 (a3 + 1)))]) dX9_swing_70 rfl rfl ?_
      refine Wp.nameL (ls2 := fun v => [some (vr a0), some (vi a1), some (vr a2), some (vi v)]) 3 _ rfl (fun _ => rfl) (fun v1 ev1 => ?_)
      replace h := h v1 ev1
      refine st_goto (pc := 73) dX9_swing_73 rfl ?_
      exact h
    · replace h := h.2 c
      refine st_aload_n (pc := 45) dX9_swing_45 rfl rfl ?_
      refine st_iload_n (pc := 46) dX9_swing_46 rfl rfl ?_
      obtain ⟨h1, h⟩ := h
      refine sg_iaload (pc := 47) dX9_swing_47 hk1 h1 ?_
      refine st_aload_n (pc := 48) dX9_swing_48 rfl rfl ?_
      refine st_iload_n (pc := 49) dX9_swing_49 rfl rfl ?_
      refine sg_iconst (pc := 50) dX9_swing_50 (by omega) ?_
      refine st_iadd (pc := 51) dX9_swing_51 ?_
      obtain ⟨h1, h⟩ := h
      refine sg_iaload (pc := 52) dX9_swing_52 hk1 h1 ?_
      refine st_icmplt (pc := 53) (tgt := 70) dX9_swing_53 rfl (fun c => ?_) (fun c => ?_)
      · replace h := h.1 c
        refine sg_iinc (pc := 70) (ls' := [some (vr a0), some (vi a1), some (vr a2), some (vi (w32 (a3 + 1)))]) dX9_swing_70 rfl rfl ?_
        refine Wp.nameL (ls2 := fun v => [some (vr a0), some (vi a1), some (vr a2), some (vi v)]) 3 _ rfl (fun _ => rfl) (fun v2 ev2 => ?_)
        replace h := h v2 ev2
        refine st_goto (pc := 73) dX9_swing_73 rfl ?_
        exact h
      · replace h := h.2 c
        refine st_aload_n (pc := 56) dX9_swing_56 rfl rfl ?_
        refine st_aload_n (pc := 57) dX9_swing_57 rfl rfl ?_
        refine sg_iconst (pc := 58) dX9_swing_58 (by omega) ?_
        obtain ⟨h1, h⟩ := h
        refine sg_iaload (pc := 59) dX9_swing_59 hk1 h1 ?_
        refine st_i2l (pc := 60) dX9_swing_60 ?_
        refine st_aload_n (pc := 61) dX9_swing_61 rfl rfl ?_
        refine st_iload_n (pc := 62) dX9_swing_62 rfl rfl ?_
        obtain ⟨h1, h⟩ := h
        refine sg_iaload (pc := 63) dX9_swing_63 hk1 h1 ?_
        refine st_i2l (pc := 64) dX9_swing_64 ?_
        obtain ⟨hk2, h⟩ := h
        obtain ⟨mc1, ms1, K1, hC, e1, e2, h⟩ := h
        refine sg_VV (pc := 65) (av := [vl (mD μ a2 0), vl (mD μ a2 a3)]) (st := []) (K := K1) dX9_swing_65 ck_9_250 rfl (by decide) hk2 (by show (0 : Nat) ≤ 8; decide) hC e1 e2 (fun m1 hK => ?_) rfl
        replace h := h m1 hK
        refine st_iload_n (pc := 68) dX9_swing_68 rfl rfl ?_
        exact st_ireturn (pc := 69) dX9_swing_69 (Or.inl rfl) h

theorem sg_X9_dies_0 {d bc bs : Nat} {a0 : Nat} {a1 : Int} {a2 : Int} {μ : Mem} {Q : Option (Option AV) → Mem → Prop}
    (h : ∃ (mc1 ms1 : Nat) (K1 : Int → Mem → Prop), Cl d mc1 ms1 mX9_isIn [vi a1, vi 1, vi 500] μ (KI K1) ∧ mc1 ≤ bc ∧ ms1 ≤ bs ∧ (∀ x1 m1, K1 x1 m1 → (x1 = 0 → Q (some (some (vi (-1)))) m1) ∧ (¬ x1 = 0 → ∃ (mc2 ms2 : Nat) (K2 : Int → Mem → Prop), Cl d mc2 ms2 mX9_isIn [vi a2, vi 1, vi 100] m1 (KI K2) ∧ mc2 ≤ bc - mc1 ∧ ms2 ≤ bs - ms1 ∧ (∀ x2 m2, K2 x2 m2 → (¬ x2 = 0 → mK m2 a0 = 10 ∧ ∃ (mc3 ms3 : Nat) (K3 : Nat → Mem → Prop), Cl d mc3 ms3 mX9_asItIs [vr a0] m2 (KR K3) ∧ mc3 ≤ bc - mc1 - mc2 ∧ ms3 ≤ bs - ms1 - ms2 ∧ (∀ x3 m3, K3 x3 m3 → mK m3 x3 = 8 ∧ ∃ (mc4 ms4 : Nat) (K4 : Nat → Mem → Prop), Cl d mc4 ms4 mX7_letGo [vr x3, vi a1, vi 400] m3 (KR K4) ∧ mc4 ≤ bc - mc1 - mc2 - mc3 ∧ ms4 ≤ bs - ms1 - ms2 - ms3 ∧ (∀ x4 m4, K4 x4 m4 → (mK m4 x4 = 20 ∨ (x4 ≠ 0 ∧ mK m4 x4 = 40)) ∧ ((0 : Int) ≤ 0 ∧ 0 < (mN m4 x4 : Int)) ∧ (∃ (mc5 ms5 : Nat) (K5 : Int → Mem → Prop), Cl d mc5 ms5 mJ9_abs_0f7a4 [vi (mD m4 x4 0)] m4 (KI K5) ∧ mc5 ≤ bc - mc1 - mc2 - mc3 - mc4 ∧ ms5 ≤ bs - ms1 - ms2 - ms3 - ms4 ∧ (∀ x5 m5, K5 x5 m5 → ∀ v1, v1 = w32 ((w32 (x5 * a2)).tdiv 100) → Wp (d + 1) (bc - mc1 - mc2 - mc3 - mc4 - mc5) (bs - ms1 - ms2 - ms3 - ms4 - ms5) mX9_dies 53 [some (vr a0), some (vi a1), some (vi a2), some (vr x4), some (vi v1), some (vi 401)] [] m5 Q))))) ∧ (x2 = 0 → Q (some (some (vi (-1)))) m2))))) :
    Wp (d + 1) bc bs mX9_dies 0 [some (vr a0), some (vi a1), some (vi a2), none, none, none] [] μ Q := by
  refine st_iload_n (pc := 0) dX9_dies_0 rfl rfl ?_
  refine sg_iconst (pc := 1) dX9_dies_1 (by omega) ?_
  refine sg_sipush (pc := 2) dX9_dies_2 (by omega) (by decide) ?_
  obtain ⟨mc1, ms1, K1, hC, e1, e2, h⟩ := h
  refine sg_SI (pc := 5) (av := [vi a1, vi 1, vi 500]) (st := []) (K := K1) dX9_dies_5 ck_9_102 rfl (by show (0 : Nat) ≤ 8; decide) hC e1 e2 (fun x1 m1 hK => ?_) rfl
  replace h := h x1 m1 hK
  refine st_ifeq (pc := 8) (tgt := 21) dX9_dies_8 rfl (fun c => ?_) (fun c => ?_)
  · replace h := h.1 c
    refine sg_iconst (pc := 21) dX9_dies_21 (by omega) ?_
    exact st_ireturn (pc := 22) dX9_dies_22 (Or.inl rfl) h
  · replace h := h.2 c
    refine st_iload_n (pc := 11) dX9_dies_11 rfl rfl ?_
    refine sg_iconst (pc := 12) dX9_dies_12 (by omega) ?_
    refine sg_bipush (pc := 13) dX9_dies_13 (by omega) (by decide) ?_
    obtain ⟨mc2, ms2, K2, hC, e1, e2, h⟩ := h
    refine sg_SI (pc := 15) (av := [vi a2, vi 1, vi 100]) (st := []) (K := K2) dX9_dies_15 ck_9_102 rfl (by show (0 : Nat) ≤ 8; decide) hC e1 e2 (fun x2 m2 hK => ?_) rfl
    replace h := h x2 m2 hK
    refine st_ifne (pc := 18) (tgt := 23) dX9_dies_18 rfl (fun c => ?_) (fun c => ?_)
    · replace h := h.1 c
      refine st_aload_n (pc := 23) dX9_dies_23 rfl rfl ?_
      obtain ⟨hk1, h⟩ := h
      obtain ⟨mc3, ms3, K3, hC, e1, e2, h⟩ := h
      refine sg_VR (pc := 24) (av := []) (st := []) (K := K3) dX9_dies_24 ck_9_242 rfl (by decide) hk1 (by show (0 : Nat) ≤ 8; decide) hC e1 e2 (fun x3 m3 hK => ?_) rfl
      replace h := h x3 m3 hK
      refine st_iload_n (pc := 27) dX9_dies_27 rfl rfl ?_
      refine sg_sipush (pc := 28) dX9_dies_28 (by omega) (by decide) ?_
      obtain ⟨hk2, h⟩ := h
      obtain ⟨mc4, ms4, K4, hC, e1, e2, h⟩ := h
      refine sg_VR (pc := 31) (av := [vi a1, vi 400]) (st := []) (K := K4) dX9_dies_31 ck_9_246 rfl (by decide) hk2 (by show (0 : Nat) ≤ 8; decide) hC e1 e2 (fun x4 m4 hK => ?_) rfl
      replace h := h x4 m4 hK
      refine sg_astore_n (pc := 34) (ls' := [some (vr a0), some (vi a1), some (vi a2), some (vr x4), none, none]) dX9_dies_34 rfl (by show (3 : Nat) < 6; decide) rfl ?_
      refine st_aload_n (pc := 35) dX9_dies_35 rfl rfl ?_
      refine sg_iconst (pc := 36) dX9_dies_36 (by omega) ?_
      obtain ⟨hk3, h⟩ := h
      obtain ⟨h1, h⟩ := h
      refine sg_iaload (pc := 37) dX9_dies_37 hk3 h1 ?_
      obtain ⟨mc5, ms5, K5, hC, e1, e2, h⟩ := h
      refine sg_SI (pc := 38) (av := [vi (mD m4 x4 0)]) (st := []) (K := K5) dX9_dies_38 ck_9_253 rfl (by show (0 : Nat) ≤ 8; decide) hC e1 e2 (fun x5 m5 hK => ?_) rfl
      replace h := h x5 m5 hK
      refine st_iload_n (pc := 41) dX9_dies_41 rfl rfl ?_
      refine st_imul (pc := 42) dX9_dies_42 ?_
      refine sg_bipush (pc := 43) dX9_dies_43 (by omega) (by decide) ?_
      refine st_idiv (pc := 45) dX9_dies_45 (by omega) ?_
      refine sg_istore (pc := 46) (ls' := [some (vr a0), some (vi a1), some (vi a2), some (vr x4), some (vi (w32 ((w32 (x5 * a2)).tdiv 100))), none]) dX9_dies_46 (by show (4 : Nat) < 6; decide) rfl ?_
      refine Wp.nameL (ls2 := fun v => [some (vr a0), some (vi a1), some (vi a2), some (vr x4), some (vi v), none]) 4 _ rfl (fun _ => rfl) (fun v1 ev1 => ?_)
      replace h := h v1 ev1
      refine sg_sipush (pc := 48) dX9_dies_48 (by omega) (by decide) ?_
      refine sg_istore (pc := 51) (ls' := [some (vr a0), some (vi a1), some (vi a2), some (vr x4), some (vi v1), some (vi 401)]) dX9_dies_51 (by show (5 : Nat) < 6; decide) rfl ?_
      exact h
    · replace h := h.2 c
      refine sg_iconst (pc := 21) dX9_dies_21 (by omega) ?_
      exact st_ireturn (pc := 22) dX9_dies_22 (Or.inl rfl) h

theorem sg_X9_dies_53 {d bc bs : Nat} {a0 : Nat} {a1 : Int} {a2 : Int} {a3 : Nat} {a4 : Int} {a5 : Int} {μ : Mem} {Q : Option (Option AV) → Mem → Prop}
    (h : (a5 ≤ 0 → Wp (d + 1) bc bs mX9_dies 78 [some (vr a0), some (vi a1), some (vi a2), some (vr a3), some (vi a4), some (vi a5)] [] μ Q) ∧ (¬ a5 ≤ 0 → (mK μ a3 = 20 ∨ (a3 ≠ 0 ∧ mK μ a3 = 40)) ∧ ((0 : Int) ≤ (w32 (a5 - 1)) ∧ (w32 (a5 - 1)) < (mN μ a3 : Int)) ∧ (∃ (mc1 ms1 : Nat) (K1 : Int → Mem → Prop), Cl d mc1 ms1 mJ9_abs_0f7a4 [vi (mD μ a3 (w32 (a5 - 1)))] μ (KI K1) ∧ mc1 ≤ bc ∧ ms1 ≤ bs ∧ (∀ x1 m1, K1 x1 m1 → (a4 < x1 → Wp (d + 1) (bc - mc1) (bs - ms1) mX9_dies 78 [some (vr a0), some (vi a1), some (vi a2), some (vr a3), some (vi a4), some (vi a5)] [] m1 Q) ∧ (¬ a4 < x1 → ∀ v1, v1 = w32 (a5 + (-1)) → Wp (d + 1) (bc - mc1) (bs - ms1) mX9_dies 53 [some (vr a0), some (vi a1), some (vi a2), some (vr a3), some (vi a4), some (vi v1)] [] m1 Q))))) :
    Wp (d + 1) bc bs mX9_dies 53 [some (vr a0), some (vi a1), some (vi a2), some (vr a3), some (vi a4), some (vi a5)] [] μ Q := by
  refine st_iload (pc := 53) dX9_dies_53 rfl ?_
  refine st_ifle (pc := 55) (tgt := 78) dX9_dies_55 rfl (fun c => ?_) (fun c => ?_)
  · replace h := h.1 c
    exact h
  · replace h := h.2 c
    refine st_aload_n (pc := 58) dX9_dies_58 rfl rfl ?_
    refine st_iload (pc := 59) dX9_dies_59 rfl ?_
    refine sg_iconst (pc := 61) dX9_dies_61 (by omega) ?_
    refine st_isub (pc := 62) dX9_dies_62 ?_
    obtain ⟨hk1, h⟩ := h
    obtain ⟨h1, h⟩ := h
    refine sg_iaload (pc := 63) dX9_dies_63 hk1 h1 ?_
    obtain ⟨mc1, ms1, K1, hC, e1, e2, h⟩ := h
    refine sg_SI (pc := 64) (av := [vi (mD μ a3 (w32 (a5 - 1)))]) (st := []) (K := K1) dX9_dies_64 ck_9_253 rfl (by show (0 : Nat) ≤ 8; decide) hC e1 e2 (fun x1 m1 hK => ?_) rfl
    replace h := h x1 m1 hK
    refine st_iload (pc := 67) dX9_dies_67 rfl ?_
    refine st_icmpgt (pc := 69) (tgt := 78) dX9_dies_69 rfl (fun c => ?_) (fun c => ?_)
    · replace h := h.1 c
      exact h
    · replace h := h.2 c
      refine sg_iinc (pc := 72) (ls' := [some (vr a0), some (vi a1), some (vi a2), some (vr a3), some (vi a4), some (vi (w32 (a5 + (-1))))]) dX9_dies_72 rfl rfl ?_
      refine Wp.nameL (ls2 := fun v => [some (vr a0), some (vi a1), some (vi a2), some (vr a3), some (vi a4), some (vi v)]) 5 _ rfl (fun _ => rfl) (fun v1 ev1 => ?_)
      replace h := h v1 ev1
      refine st_goto (pc := 75) dX9_dies_75 rfl ?_
      exact h

theorem sg_X9_dies_78 {d bc bs : Nat} {a0 : Nat} {a1 : Int} {a2 : Int} {a3 : Nat} {a4 : Int} {a5 : Int} {μ : Mem} {Q : Option (Option AV) → Mem → Prop}
    (h : (400 < a5 → Q (some (some (vi (-2)))) μ) ∧ (¬ 400 < a5 → Q (some (some (vi a5))) μ)) :
    Wp (d + 1) bc bs mX9_dies 78 [some (vr a0), some (vi a1), some (vi a2), some (vr a3), some (vi a4), some (vi a5)] [] μ Q := by
  refine st_iload (pc := 78) dX9_dies_78 rfl ?_
  refine sg_sipush (pc := 80) dX9_dies_80 (by omega) (by decide) ?_
  refine st_icmpgt (pc := 83) (tgt := 91) dX9_dies_83 rfl (fun c => ?_) (fun c => ?_)
  · replace h := h.1 c
    refine sg_bipush (pc := 91) dX9_dies_91 (by omega) (by decide) ?_
    exact st_ireturn (pc := 93) dX9_dies_93 (Or.inl rfl) h
  · replace h := h.2 c
    refine st_iload (pc := 86) dX9_dies_86 rfl ?_
    refine st_goto (pc := 88) dX9_dies_88 rfl ?_
    exact st_ireturn (pc := 93) dX9_dies_93 (Or.inl rfl) h

theorem sg_X9_worst_0 {d bc bs : Nat} {a0 : Nat} {a1 : Int} {μ : Mem} {Q : Option (Option AV) → Mem → Prop}
    (h : ∃ (mc1 ms1 : Nat) (K1 : Int → Mem → Prop), Cl d mc1 ms1 mX9_isIn [vi a1, vi 1, vi 200] μ (KI K1) ∧ mc1 ≤ bc ∧ ms1 ≤ bs ∧ (∀ x1 m1, K1 x1 m1 → (¬ x1 = 0 → Wp (d + 1) (bc - mc1) (bs - ms1) mX9_worst 20 [some (vr a0), some (vi a1), some (vi (-1)), some (vi (-1)), some (vi 2), none] [] m1 Q) ∧ (x1 = 0 → Q (some (some (vi (-1)))) m1))) :
    Wp (d + 1) bc bs mX9_worst 0 [some (vr a0), some (vi a1), none, none, none, none] [] μ Q := by
  refine st_iload_n (pc := 0) dX9_worst_0 rfl rfl ?_
  refine sg_iconst (pc := 1) dX9_worst_1 (by omega) ?_
  refine sg_sipush (pc := 2) dX9_worst_2 (by omega) (by decide) ?_
  obtain ⟨mc1, ms1, K1, hC, e1, e2, h⟩ := h
  refine sg_SI (pc := 5) (av := [vi a1, vi 1, vi 200]) (st := []) (K := K1) dX9_worst_5 ck_9_102 rfl (by show (0 : Nat) ≤ 8; decide) hC e1 e2 (fun x1 m1 hK => ?_) rfl
  replace h := h x1 m1 hK
  refine st_ifne (pc := 8) (tgt := 13) dX9_worst_8 rfl (fun c => ?_) (fun c => ?_)
  · replace h := h.1 c
    refine sg_iconst (pc := 13) dX9_worst_13 (by omega) ?_
    refine sg_istore_n (pc := 14) (ls' := [some (vr a0), some (vi a1), some (vi (-1)), none, none, none]) dX9_worst_14 rfl (by show (2 : Nat) < 6; decide) rfl ?_
    refine sg_iconst (pc := 15) dX9_worst_15 (by omega) ?_
    refine sg_istore_n (pc := 16) (ls' := [some (vr a0), some (vi a1), some (vi (-1)), some (vi (-1)), none, none]) dX9_worst_16 rfl (by show (3 : Nat) < 6; decide) rfl ?_
    refine sg_iconst (pc := 17) dX9_worst_17 (by omega) ?_
    refine sg_istore (pc := 18) (ls' := [some (vr a0), some (vi a1), some (vi (-1)), some (vi (-1)), some (vi 2), none]) dX9_worst_18 (by show (4 : Nat) < 6; decide) rfl ?_
    exact h
  · replace h := h.2 c
    refine sg_iconst (pc := 11) dX9_worst_11 (by omega) ?_
    exact st_ireturn (pc := 12) dX9_worst_12 (Or.inl rfl) h

theorem sg_X9_worst_20 {d bc bs : Nat} {a0 : Nat} {a1 : Int} {a2 : Int} {a3 : Int} {a4 : Int} {μ : Mem} {Q : Option (Option AV) → Mem → Prop}
    (h : (40 < a4 → mK μ a0 = 10 ∧ ∃ (mc1 ms1 : Nat) (K1 : Mem → Prop), Cl d mc1 ms1 mX9_tell [vr a0, vl a3] μ (KV K1) ∧ mc1 ≤ bc ∧ ms1 ≤ bs ∧ (∀ m1, K1 m1 → Q (some (some (vi a2))) m1)) ∧ (¬ 40 < a4 → mK μ a0 = 10 ∧ (mK μ (mR μ a0 7) = 9 ∧ ∃ (mc2 ms2 : Nat) (K2 : Mem → Prop), Cl d mc2 ms2 mX8_clear [vr (mR μ a0 7)] μ (KV K2) ∧ mc2 ≤ bc ∧ ms2 ≤ bs ∧ (∀ m2, K2 m2 → mK m2 a0 = 10 ∧ (mK m2 (mR m2 a0 7) = 9 ∧ ∃ (mc3 ms3 : Nat) (K3 : Mem → Prop), Cl d mc3 ms3 mX8_addSteps [vr (mR m2 a0 7), vi a1, vi a4, vi 0, vi 20] m2 (KV K3) ∧ mc3 ≤ bc - mc2 ∧ ms3 ≤ bs - ms2 ∧ (∀ m3, K3 m3 → mK m3 a0 = 10 ∧ ∃ (mc4 ms4 : Nat) (K4 : Nat → Mem → Prop), Cl d mc4 ms4 mX9_asItIs [vr a0] m3 (KR K4) ∧ mc4 ≤ bc - mc2 - mc3 ∧ ms4 ≤ bs - ms2 - ms3 ∧ (∀ x1 m4, K4 x1 m4 → mK m4 x1 = 8 ∧ (mK m4 (mR m4 x1 0) = 1 ∧ (mK m4 (mR m4 (mR m4 x1 0) 3) = 20 ∧ ((0 : Int) ≤ 4 ∧ 4 < (mN m4 (mR m4 (mR m4 x1 0) 3) : Int)) ∧ (∀ m5, m5 = sD m4 (mR m4 (mR m4 x1 0) 3) 4 100 → mK m5 a0 = 10 ∧ (∃ (mc5 ms5 : Nat) (K5 : Int → Mem → Prop), Cl d mc5 ms5 mX7_spiltOn [vr x1, vr (mR m5 a0 7), vi 1] m5 (KI K5) ∧ mc5 ≤ bc - mc2 - mc3 - mc4 ∧ ms5 ≤ bs - ms2 - ms3 - ms4 ∧ (∀ x2 m6, K5 x2 m6 → mK m6 x1 = 8 ∧ (((mD m6 x1 7) ≤ a3 → ∀ v1, v1 = w32 (a4 + 1) → Wp (d + 1) (bc - mc2 - mc3 - mc4 - mc5) (bs - ms2 - ms3 - ms4 - ms5) mX9_worst 20 [some (vr a0), some (vi a1), some (vi a2), some (vi a3), some (vi v1), none] [] m6 Q) ∧ (¬ (mD m6 x1 7) ≤ a3 → ∀ v2, v2 = mD m6 x1 7 → ∀ v3, v3 = w32 (a4 + 1) → Wp (d + 1) (bc - mc2 - mc3 - mc4 - mc5) (bs - ms2 - ms3 - ms4 - ms5) mX9_worst 20 [some (vr a0), some (vi a1), some (vi a4), some (vi v2), some (vi v3), none] [] m6 Q)))))))))))))) :
    Wp (d + 1) bc bs mX9_worst 20 [some (vr a0), some (vi a1), some (vi a2), some (vi a3), some (vi a4), none] [] μ Q := by
  refine st_iload (pc := 20) dX9_worst_20 rfl ?_
  refine sg_bipush (pc := 22) dX9_worst_22 (by omega) (by decide) ?_
  refine st_icmpgt (pc := 24) (tgt := 100) dX9_worst_24 rfl (fun c => ?_) (fun c => ?_)
  · replace h := h.1 c
    refine st_aload_n (pc := 100) dX9_worst_100 rfl rfl ?_
    refine st_iload_n (pc := 101) dX9_worst_101 rfl rfl ?_
    refine st_i2l (pc := 102) dX9_worst_102 ?_
    obtain ⟨hk1, h⟩ := h
    obtain ⟨mc1, ms1, K1, hC, e1, e2, h⟩ := h
    refine sg_VV (pc := 103) (av := [vl a3]) (st := []) (K := K1) dX9_worst_103 ck_9_272 rfl (by decide) hk1 (by show (0 : Nat) ≤ 8; decide) hC e1 e2 (fun m1 hK => ?_) rfl
    replace h := h m1 hK
    refine st_iload_n (pc := 106) dX9_worst_106 rfl rfl ?_
    exact st_ireturn (pc := 107) dX9_worst_107 (Or.inl rfl) h
  · replace h := h.2 c
    refine st_aload_n (pc := 27) dX9_worst_27 rfl rfl ?_
    obtain ⟨hk2, h⟩ := h
    refine sg_gfR (pc := 28) (J := 7) dX9_worst_28 fl_9_49 rfl hk2 ?_
    obtain ⟨hk3, h⟩ := h
    obtain ⟨mc2, ms2, K2, hC, e1, e2, h⟩ := h
    refine sg_VV (pc := 31) (av := []) (st := []) (K := K2) dX9_worst_31 ck_9_257 rfl (by decide) hk3 (by show (0 : Nat) ≤ 8; decide) hC e1 e2 (fun m2 hK => ?_) rfl
    replace h := h m2 hK
    refine st_aload_n (pc := 34) dX9_worst_34 rfl rfl ?_
    obtain ⟨hk4, h⟩ := h
    refine sg_gfR (pc := 35) (J := 7) dX9_worst_35 fl_9_49 rfl hk4 ?_
    refine st_iload_n (pc := 38) dX9_worst_38 rfl rfl ?_
    refine st_iload (pc := 39) dX9_worst_39 rfl ?_
    refine sg_iconst (pc := 41) dX9_worst_41 (by omega) ?_
    refine sg_bipush (pc := 42) dX9_worst_42 (by omega) (by decide) ?_
    obtain ⟨hk5, h⟩ := h
    obtain ⟨mc3, ms3, K3, hC, e1, e2, h⟩ := h
    refine sg_VV (pc := 44) (av := [vi a1, vi a4, vi 0, vi 20]) (st := []) (K := K3) dX9_worst_44 ck_9_260 rfl (by decide) hk5 (by show (0 : Nat) ≤ 8; decide) hC e1 e2 (fun m3 hK => ?_) rfl
    replace h := h m3 hK
    refine st_aload_n (pc := 47) dX9_worst_47 rfl rfl ?_
    obtain ⟨hk6, h⟩ := h
    obtain ⟨mc4, ms4, K4, hC, e1, e2, h⟩ := h
    refine sg_VR (pc := 48) (av := []) (st := []) (K := K4) dX9_worst_48 ck_9_242 rfl (by decide) hk6 (by show (0 : Nat) ≤ 8; decide) hC e1 e2 (fun x1 m4 hK => ?_) rfl
    replace h := h x1 m4 hK
    refine sg_astore (pc := 51) (ls' := [some (vr a0), some (vi a1), some (vi a2), some (vi a3), some (vi a4), some (vr x1)]) dX9_worst_51 (by show (5 : Nat) < 6; decide) rfl ?_
    refine st_aload (pc := 53) dX9_worst_53 rfl ?_
    obtain ⟨hk7, h⟩ := h
    refine sg_gfR (pc := 55) (J := 0) dX9_worst_55 fl_9_264 rfl hk7 ?_
    obtain ⟨hk8, h⟩ := h
    refine sg_gfR (pc := 58) (J := 3) dX9_worst_58 fl_9_124 rfl hk8 ?_
    refine sg_iconst (pc := 61) dX9_worst_61 (by omega) ?_
    refine sg_bipush (pc := 62) dX9_worst_62 (by omega) (by decide) ?_
    obtain ⟨hk9, h⟩ := h
    obtain ⟨h1, h⟩ := h
    refine st_iastore (pc := 64) dX9_worst_64 hk9 h1.1 h1.2 ?_
    refine Wp.nameM (fun m5 em5 => ?_)
    replace h := h m5 em5
    refine st_aload (pc := 65) dX9_worst_65 rfl ?_
    refine st_aload_n (pc := 67) dX9_worst_67 rfl rfl ?_
    obtain ⟨hk10, h⟩ := h
    refine sg_gfR (pc := 68) (J := 7) dX9_worst_68 fl_9_49 rfl hk10 ?_
    refine sg_iconst (pc := 71) dX9_worst_71 (by omega) ?_
    obtain ⟨mc5, ms5, K5, hC, e1, e2, h⟩ := h
    refine sg_VI (pc := 72) (av := [vr (mR m5 a0 7), vi 1]) (st := []) (K := K5) dX9_worst_72 ck_9_265 rfl (by decide) (by cases em5; exact hk7) (by show (0 : Nat) ≤ 8; decide) hC e1 e2 (fun x2 m6 hK => ?_) rfl
    replace h := h x2 m6 hK
    refine st_pop (pc := 75) dX9_worst_75 rfl ?_
    refine st_aload (pc := 76) dX9_worst_76 rfl ?_
    obtain ⟨hk11, h⟩ := h
    refine sg_gfI (pc := 78) (J := 7) dX9_worst_78 fl_9_269 (by decide) rfl hk11 ?_
    refine st_iload_n (pc := 81) dX9_worst_81 rfl rfl ?_
    refine st_icmple (pc := 82) (tgt := 94) dX9_worst_82 rfl (fun c => ?_) (fun c => ?_)
    · replace h := h.1 c
      refine sg_iinc (pc := 94) (ls' := [some (vr a0), some (vi a1), some (vi a2), some (vi a3), some (vi (w32 (a4 + 1))), some (vr x1)]) dX9_worst_94 rfl rfl ?_
      refine Wp.nameL (ls2 := fun v => [some (vr a0), some (vi a1), some (vi a2), some (vi a3), some (vi v), some (vr x1)]) 4 _ rfl (fun _ => rfl) (fun v1 ev1 => ?_)
      replace h := h v1 ev1
      refine st_goto (pc := 97) dX9_worst_97 rfl ?_
      refine Wp.drop 5 rfl ?_
      exact h
    · replace h := h.2 c
      refine st_aload (pc := 85) dX9_worst_85 rfl ?_
      refine sg_gfI (pc := 87) (J := 7) dX9_worst_87 fl_9_269 (by decide) rfl hk11 ?_
      refine sg_istore_n (pc := 90) (ls' := [some (vr a0), some (vi a1), some (vi a2), some (vi (mD m6 x1 7)), some (vi a4), some (vr x1)]) dX9_worst_90 rfl (by show (3 : Nat) < 6; decide) rfl ?_
      refine Wp.nameL (ls2 := fun v => [some (vr a0), some (vi a1), some (vi a2), some (vi v), some (vi a4), some (vr x1)]) 3 _ rfl (fun _ => rfl) (fun v2 ev2 => ?_)
      replace h := h v2 ev2
      refine st_iload (pc := 91) dX9_worst_91 rfl ?_
      refine sg_istore_n (pc := 93) (ls' := [some (vr a0), some (vi a1), some (vi a4), some (vi v2), some (vi a4), some (vr x1)]) dX9_worst_93 rfl (by show (2 : Nat) < 6; decide) rfl ?_
      refine sg_iinc (pc := 94) (ls' := [some (vr a0), some (vi a1), some (vi a4), some (vi v2), some (vi (w32 (a4 + 1))), some (vr x1)]) dX9_worst_94 rfl rfl ?_
      refine Wp.nameL (ls2 := fun v => [some (vr a0), some (vi a1), some (vi a4), some (vi v2), some (vi v), some (vr x1)]) 4 _ rfl (fun _ => rfl) (fun v3 ev3 => ?_)
      replace h := h v3 ev3
      refine st_goto (pc := 97) dX9_worst_97 rfl ?_
      refine Wp.drop 5 rfl ?_
      exact h

theorem sg_X9_would_0 {d bc bs : Nat} {a0 : Nat} {a1 : Int} {a2 : Int} {μ : Mem} {Q : Option (Option AV) → Mem → Prop}
    (h : ∃ (mc1 ms1 : Nat) (K1 : Int → Mem → Prop), Cl d mc1 ms1 mX9_isWalk [vi a1] μ (KI K1) ∧ mc1 ≤ bc ∧ ms1 ≤ bs ∧ (∀ x1 m1, K1 x1 m1 → (¬ x1 = 0 → mK m1 a0 = 10 ∧ ∃ (mc2 ms2 : Nat) (K2 : Nat → Mem → Prop), Cl d mc2 ms2 mX9_asItIs [vr a0] m1 (KR K2) ∧ mc2 ≤ bc - mc1 ∧ ms2 ≤ bs - ms1 ∧ (∀ x2 m2, K2 x2 m2 → mK m2 a0 = 10 ∧ (mK m2 (mR m2 a0 5) = 26 ∧ ((0 : Int) ≤ a1 ∧ a1 < (mN m2 (mR m2 a0 5) : Int)) ∧ (mK m2 x2 = 8 ∧ ∃ (mc3 ms3 : Nat) (K3 : Int → Mem → Prop), Cl d mc3 ms3 mX7_spiltOn [vr x2, vr (mR m2 (mR m2 a0 5) a1), vi a2] m2 (KI K3) ∧ mc3 ≤ bc - mc1 - mc2 ∧ ms3 ≤ bs - ms1 - ms2 ∧ (∀ x3 m3, K3 x3 m3 → mK m3 x2 = 8 ∧ (mK m3 a0 = 10 ∧ (mK m3 (mR m3 a0 5) = 26 ∧ ((0 : Int) ≤ a1 ∧ a1 < (mN m3 (mR m3 a0 5) : Int)) ∧ (mK m3 (mR m3 (mR m3 a0 5) a1) = 9 ∧ ∃ (mc4 ms4 : Nat) (K4 : Int → Mem → Prop), Cl d mc4 ms4 mX8_stepAt [vr (mR m3 (mR m3 a0 5) a1), vi (mD m3 x2 5)] m3 (KI K4) ∧ mc4 ≤ bc - mc1 - mc2 - mc3 ∧ ms4 ≤ bs - ms1 - ms2 - ms3 ∧ (∀ x4 m4, K4 x4 m4 → mK m4 x2 = 8 ∧ (mK m4 a0 = 10 ∧ ∃ (mc5 ms5 : Nat) (K5 : Mem → Prop), Cl d mc5 ms5 mX9_tell__ [vr a0, vl (mD m3 x2 5), vl x4, vl (mD m4 x2 6)] m4 (KV K5) ∧ mc5 ≤ bc - mc1 - mc2 - mc3 - mc4 ∧ ms5 ≤ bs - ms1 - ms2 - ms3 - ms4 ∧ (∀ m5, K5 m5 → Q (some (some (vi x3))) m5))))))))))) ∧ (x1 = 0 → Q (some (some (vi (-1)))) m1))) :
    Wp (d + 1) bc bs mX9_would 0 [some (vr a0), some (vi a1), some (vi a2), none, none] [] μ Q := by
  refine st_iload_n (pc := 0) dX9_would_0 rfl rfl ?_
  obtain ⟨mc1, ms1, K1, hC, e1, e2, h⟩ := h
  refine sg_SI (pc := 1) (av := [vi a1]) (st := []) (K := K1) dX9_would_1 ck_9_193 rfl (by show (0 : Nat) ≤ 8; decide) hC e1 e2 (fun x1 m1 hK => ?_) rfl
  replace h := h x1 m1 hK
  refine st_ifne (pc := 4) (tgt := 9) dX9_would_4 rfl (fun c => ?_) (fun c => ?_)
  · replace h := h.1 c
    refine st_aload_n (pc := 9) dX9_would_9 rfl rfl ?_
    obtain ⟨hk1, h⟩ := h
    obtain ⟨mc2, ms2, K2, hC, e1, e2, h⟩ := h
    refine sg_VR (pc := 10) (av := []) (st := []) (K := K2) dX9_would_10 ck_9_242 rfl (by decide) hk1 (by show (0 : Nat) ≤ 8; decide) hC e1 e2 (fun x2 m2 hK => ?_) rfl
    replace h := h x2 m2 hK
    refine sg_astore_n (pc := 13) (ls' := [some (vr a0), some (vi a1), some (vi a2), some (vr x2), none]) dX9_would_13 rfl (by show (3 : Nat) < 5; decide) rfl ?_
    refine st_aload_n (pc := 14) dX9_would_14 rfl rfl ?_
    refine st_aload_n (pc := 15) dX9_would_15 rfl rfl ?_
    obtain ⟨hk2, h⟩ := h
    refine sg_gfR (pc := 16) (J := 5) dX9_would_16 fl_9_40 rfl hk2 ?_
    refine st_iload_n (pc := 19) dX9_would_19 rfl rfl ?_
    obtain ⟨hk3, h⟩ := h
    obtain ⟨h1, h⟩ := h
    refine st_aaload (pc := 20) (t := 6) dX9_would_20 hk3 (fun _ => rfl) (by decide) (by decide) h1.1 h1.2 ?_
    refine st_iload_n (pc := 21) dX9_would_21 rfl rfl ?_
    obtain ⟨hk4, h⟩ := h
    obtain ⟨mc3, ms3, K3, hC, e1, e2, h⟩ := h
    refine sg_VI (pc := 22) (av := [vr (mR m2 (mR m2 a0 5) a1), vi a2]) (st := []) (K := K3) dX9_would_22 ck_9_265 rfl (by decide) hk4 (by show (0 : Nat) ≤ 8; decide) hC e1 e2 (fun x3 m3 hK => ?_) rfl
    replace h := h x3 m3 hK
    refine sg_istore (pc := 25) (ls' := [some (vr a0), some (vi a1), some (vi a2), some (vr x2), some (vi x3)]) dX9_would_25 (by show (4 : Nat) < 5; decide) rfl ?_
    refine st_aload_n (pc := 27) dX9_would_27 rfl rfl ?_
    refine st_aload_n (pc := 28) dX9_would_28 rfl rfl ?_
    obtain ⟨hk5, h⟩ := h
    refine sg_gfI (pc := 29) (J := 5) dX9_would_29 fl_9_275 (by decide) rfl hk5 ?_
    refine st_i2l (pc := 32) dX9_would_32 ?_
    refine st_aload_n (pc := 33) dX9_would_33 rfl rfl ?_
    obtain ⟨hk6, h⟩ := h
    refine sg_gfR (pc := 34) (J := 5) dX9_would_34 fl_9_40 rfl hk6 ?_
    refine st_iload_n (pc := 37) dX9_would_37 rfl rfl ?_
    obtain ⟨hk7, h⟩ := h
    obtain ⟨h1, h⟩ := h
    refine st_aaload (pc := 38) (t := 6) dX9_would_38 hk7 (fun _ => rfl) (by decide) (by decide) h1.1 h1.2 ?_
    refine st_aload_n (pc := 39) dX9_would_39 rfl rfl ?_
    refine sg_gfI (pc := 40) (J := 5) dX9_would_40 fl_9_275 (by decide) rfl hk5 ?_
    obtain ⟨hk8, h⟩ := h
    obtain ⟨mc4, ms4, K4, hC, e1, e2, h⟩ := h
    refine sg_VI (pc := 43) (av := [vi (mD m3 x2 5)]) (st := [vl (mD m3 x2 5), vr a0]) (K := K4) dX9_would_43 ck_9_278 rfl (by decide) hk8 (by show (3 : Nat) ≤ 8; decide) hC e1 e2 (fun x4 m4 hK => ?_) rfl
    replace h := h x4 m4 hK
    refine st_i2l (pc := 46) dX9_would_46 ?_
    refine st_aload_n (pc := 47) dX9_would_47 rfl rfl ?_
    obtain ⟨hk9, h⟩ := h
    refine sg_gfI (pc := 48) (J := 6) dX9_would_48 fl_9_281 (by decide) rfl hk9 ?_
    refine st_i2l (pc := 51) dX9_would_51 ?_
    obtain ⟨hk10, h⟩ := h
    obtain ⟨mc5, ms5, K5, hC, e1, e2, h⟩ := h
    refine sg_VV (pc := 52) (av := [vl (mD m3 x2 5), vl x4, vl (mD m4 x2 6)]) (st := []) (K := K5) dX9_would_52 ck_9_226 rfl (by decide) hk10 (by show (0 : Nat) ≤ 8; decide) hC e1 e2 (fun m5 hK => ?_) rfl
    replace h := h m5 hK
    refine st_iload (pc := 55) dX9_would_55 rfl ?_
    exact st_ireturn (pc := 57) dX9_would_57 (Or.inl rfl) h
  · replace h := h.2 c
    refine sg_iconst (pc := 7) dX9_would_7 (by omega) ?_
    exact st_ireturn (pc := 8) dX9_would_8 (Or.inl rfl) h

theorem sg_X9_commonDivisor_0 {d bc bs : Nat} {a0 : Int} {a1 : Int} {μ : Mem} {Q : Option (Option AV) → Mem → Prop}
    (h : Wp d bc bs mX9_commonDivisor 7 [some (vi a0), some (vi a1), some (vi a0), some (vi a1), some (vi 0), none] [] μ Q) :
    Wp d bc bs mX9_commonDivisor 0 [some (vi a0), some (vi a1), none, none, none, none] [] μ Q := by
  refine st_iload_n (pc := 0) dX9_commonDivisor_0 rfl rfl ?_
  refine sg_istore_n (pc := 1) (ls' := [some (vi a0), some (vi a1), some (vi a0), none, none, none]) dX9_commonDivisor_1 rfl (by show (2 : Nat) < 6; decide) rfl ?_
  refine st_iload_n (pc := 2) dX9_commonDivisor_2 rfl rfl ?_
  refine sg_istore_n (pc := 3) (ls' := [some (vi a0), some (vi a1), some (vi a0), some (vi a1), none, none]) dX9_commonDivisor_3 rfl (by show (3 : Nat) < 6; decide) rfl ?_
  refine sg_iconst (pc := 4) dX9_commonDivisor_4 (by omega) ?_
  refine sg_istore (pc := 5) (ls' := [some (vi a0), some (vi a1), some (vi a0), some (vi a1), some (vi 0), none]) dX9_commonDivisor_5 (by show (4 : Nat) < 6; decide) rfl ?_
  exact h

theorem sg_X9_commonDivisor_7 {d bc bs : Nat} {a0 : Int} {a1 : Int} {a2 : Int} {a3 : Int} {a4 : Int} {μ : Mem} {Q : Option (Option AV) → Mem → Prop}
    (h : (100 ≤ a4 → Q (some (some (vi a2))) μ) ∧ (¬ 100 ≤ a4 → (a3 ≤ 0 → Q (some (some (vi a2))) μ) ∧ (¬ a3 ≤ 0 → a3 ≠ 0 ∧ (∀ v1, v1 = a2.tmod a3 → ∀ v2, v2 = w32 (a4 + 1) → Wp d bc bs mX9_commonDivisor 7 [some (vi a0), some (vi a1), some (vi a3), some (vi v1), some (vi v2), none] [] μ Q)))) :
    Wp d bc bs mX9_commonDivisor 7 [some (vi a0), some (vi a1), some (vi a2), some (vi a3), some (vi a4), none] [] μ Q := by
  refine st_iload (pc := 7) dX9_commonDivisor_7 rfl ?_
  refine sg_bipush (pc := 9) dX9_commonDivisor_9 (by omega) (by decide) ?_
  refine st_icmpge (pc := 11) (tgt := 34) dX9_commonDivisor_11 rfl (fun c => ?_) (fun c => ?_)
  · replace h := h.1 c
    refine st_iload_n (pc := 34) dX9_commonDivisor_34 rfl rfl ?_
    exact st_ireturn (pc := 35) dX9_commonDivisor_35 (Or.inl rfl) h
  · replace h := h.2 c
    refine st_iload_n (pc := 14) dX9_commonDivisor_14 rfl rfl ?_
    refine st_ifle (pc := 15) (tgt := 34) dX9_commonDivisor_15 rfl (fun c => ?_) (fun c => ?_)
    · replace h := h.1 c
      refine st_iload_n (pc := 34) dX9_commonDivisor_34 rfl rfl ?_
      exact st_ireturn (pc := 35) dX9_commonDivisor_35 (Or.inl rfl) h
    · replace h := h.2 c
      refine st_iload_n (pc := 18) dX9_commonDivisor_18 rfl rfl ?_
      refine st_iload_n (pc := 19) dX9_commonDivisor_19 rfl rfl ?_
      obtain ⟨h0, h⟩ := h
      refine st_irem (pc := 20) dX9_commonDivisor_20 h0 ?_
      refine sg_istore (pc := 21) (ls' := [some (vi a0), some (vi a1), some (vi a2), some (vi a3), some (vi a4), some (vi (a2.tmod a3))]) dX9_commonDivisor_21 (by show (5 : Nat) < 6; decide) rfl ?_
      refine Wp.nameL (ls2 := fun v => [some (vi a0), some (vi a1), some (vi a2), some (vi a3), some (vi a4), some (vi v)]) 5 _ rfl (fun _ => rfl) (fun v1 ev1 => ?_)
      replace h := h v1 ev1
      refine st_iload_n (pc := 23) dX9_commonDivisor_23 rfl rfl ?_
      refine sg_istore_n (pc := 24) (ls' := [some (vi a0), some (vi a1), some (vi a3), some (vi a3), some (vi a4), some (vi v1)]) dX9_commonDivisor_24 rfl (by show (2 : Nat) < 6; decide) rfl ?_
      refine st_iload (pc := 25) dX9_commonDivisor_25 rfl ?_
      refine sg_istore_n (pc := 27) (ls' := [some (vi a0), some (vi a1), some (vi a3), some (vi v1), some (vi a4), some (vi v1)]) dX9_commonDivisor_27 rfl (by show (3 : Nat) < 6; decide) rfl ?_
      refine sg_iinc (pc := 28) (ls' := [some (vi a0), some (vi a1), some (vi a3), some (vi v1), some (vi (w32 (a4 + 1))), some (vi v1)]) dX9_commonDivisor_28 rfl rfl ?_
      refine Wp.nameL (ls2 := fun v => [some (vi a0), some (vi a1), some (vi a3), some (vi v1), some (vi v), some (vi v1)]) 4 _ rfl (fun _ => rfl) (fun v2 ev2 => ?_)
      replace h := h v2 ev2
      refine st_goto (pc := 31) dX9_commonDivisor_31 rfl ?_
      refine Wp.drop 5 rfl ?_
      exact h

