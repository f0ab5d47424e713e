/-! ===== by program (wip/whole/gen_seg.py): stretches of methods ===== -/
theorem sg_L_law_0 {d bc bs : Nat} {a0 : Nat} {μ : Mem} {Q : Option (Option AV) → Mem → Prop}
    (h : mX μ ≠ 0 ∧ 1 ≤ bc ∧ clN 10 ≤ bs ∧ (∀ m1, m1 = nwM μ 10 0 → ∃ (mc1 ms1 : Nat) (K1 : Mem → Prop), Cl d mc1 ms1 mX9_init [vr (mX μ)] m1 (KV K1) ∧ mc1 ≤ bc - 1 ∧ ms1 ≤ bs - clN 10 ∧ (mX μ) ≠ 0 ∧ (∀ m2, K1 m2 → mX m2 ≠ 0 ∧ 1 ≤ bc - 1 - mc1 ∧ clN 11 ≤ bs - clN 10 - ms1 ∧ (∀ m3, m3 = nwM m2 11 0 → ∃ (mc2 ms2 : Nat) (K2 : Mem → Prop), Cl d mc2 ms2 mX10_init [vr (mX m2)] m3 (KV K2) ∧ mc2 ≤ bc - 1 - mc1 - 1 ∧ ms2 ≤ bs - clN 10 - ms1 - clN 11 ∧ (mX m2) ≠ 0 ∧ (∀ m4, K2 m4 → mX m4 ≠ 0 ∧ (0 : Int) ≤ 1 ∧ 1 ≤ (100000 : Int) ∧ 1 ≤ bc - 1 - mc1 - 1 - mc2 ∧ 1 ≤ ((bs - clN 10 - ms1 - clN 11 - ms2 : Nat) : Int) ∧ (∀ m5, m5 = nwM m4 21 (1 : Int).toNat → Wp (d + 1) (bc - 1 - mc1 - 1 - mc2 - 1) (bs - clN 10 - ms1 - clN 11 - ms2 - (1 : Int).toNat) mL_law 23 [some (vr a0), some (vr (mX μ)), some (vr (mX m2)), some (vr (mX m4)), some (vi 0), none, none, none] [] m5 Q)))))) :
    Wp (d + 1) bc bs mL_law 0 [some (vr a0), none, none, none, none, none, none, none] [] μ Q := by
  obtain ⟨h0, h1, h2, h⟩ := h
  refine st_new (pc := 0) dL_law_0 nw_11_8 h0 h1 h2 ?_
  refine Wp.nameM (fun m1 em1 => ?_)
  replace h := h m1 em1
  refine st_dup (pc := 3) dL_law_3 rfl ?_
  obtain ⟨mc1, ms1, K1, hC, e1, e2, h0, h⟩ := h
  refine sg_IV (pc := 4) (av := []) (st := [vr (mX μ)]) (K := K1) dL_law_4 ck_11_26 rfl h0 (by show (1 : Nat) ≤ 8; decide) hC e1 e2 (fun m2 hK => ?_) rfl
  replace h := h m2 hK
  refine sg_astore_n (pc := 7) (ls' := [some (vr a0), some (vr (mX μ)), none, none, none, none, none, none]) dL_law_7 rfl (by show (1 : Nat) < 8; decide) rfl ?_
  obtain ⟨h0, h1, h2, h⟩ := h
  refine st_new (pc := 8) dL_law_8 nw_11_27 h0 h1 h2 ?_
  refine Wp.nameM (fun m3 em3 => ?_)
  replace h := h m3 em3
  refine st_dup (pc := 11) dL_law_11 rfl ?_
  obtain ⟨mc2, ms2, K2, hC, e1, e2, h0, h⟩ := h
  refine sg_IV (pc := 12) (av := []) (st := [vr (mX m2)]) (K := K2) dL_law_12 ck_11_29 rfl h0 (by show (1 : Nat) ≤ 8; decide) hC e1 e2 (fun m4 hK => ?_) rfl
  replace h := h m4 hK
  refine sg_astore_n (pc := 15) (ls' := [some (vr a0), some (vr (mX μ)), some (vr (mX m2)), none, none, none, none, none]) dL_law_15 rfl (by show (2 : Nat) < 8; decide) rfl ?_
  refine sg_iconst (pc := 16) dL_law_16 (by omega) ?_
  obtain ⟨h0, h1, h2, h3, h4, h⟩ := h
  refine st_newJ (pc := 17) dL_law_17 h0 h1 h2 h3 h4 ?_
  refine Wp.nameM (fun m5 em5 => ?_)
  replace h := h m5 em5
  refine sg_astore_n (pc := 19) (ls' := [some (vr a0), some (vr (mX μ)), some (vr (mX m2)), some (vr (mX m4)), none, none, none, none]) dL_law_19 rfl (by show (3 : Nat) < 8; decide) rfl ?_
  refine sg_iconst (pc := 20) dL_law_20 (by omega) ?_
  refine sg_istore (pc := 21) (ls' := [some (vr a0), some (vr (mX μ)), some (vr (mX m2)), some (vr (mX m4)), some (vi 0), none, none, none]) dL_law_21 (by show (4 : Nat) < 8; decide) rfl ?_
  exact h

theorem sg_L_law_23 {d bc bs : Nat} {a0 : Nat} {a1 : Nat} {a2 : Nat} {a3 : Nat} {a4 : Int} {μ : Mem} {Q : Option (Option AV) → Mem → Prop}
    (h : ((20 ≤ mK μ a0 ∧ mK μ a0 ≤ 28) ∨ (a0 ≠ 0 ∧ mK μ a0 = 40)) ∧ (((w32 ((mN μ a0 : Int) - 5)) < a4 → Q (some (some (vi 1))) μ) ∧ (¬ (w32 ((mN μ a0 : Int) - 5)) < a4 → (mK μ a0 = 20 ∨ (a0 ≠ 0 ∧ mK μ a0 = 40)) ∧ ((0 : Int) ≤ a4 ∧ a4 < (mN μ a0 : Int)) ∧ ((((bAnd (mD μ a0 a4) 63) < 0 ∨ 48 < (bAnd (mD μ a0 a4) 63)) → Wp (d + 1) bc bs mL_law 1933 [some (vr a0), some (vr a1), some (vr a2), some (vr a3), some (vi a4), none, none, none] [] μ Q) ∧ ((bAnd (mD μ a0 a4) 63) = 0 → Wp (d + 1) bc bs mL_law 248 [some (vr a0), some (vr a1), some (vr a2), some (vr a3), some (vi a4), none, none, none] [] μ Q) ∧ ((bAnd (mD μ a0 a4) 63) = 1 → Wp (d + 1) bc bs mL_law 297 [some (vr a0), some (vr a1), some (vr a2), some (vr a3), some (vi a4), none, none, none] [] μ Q) ∧ ((bAnd (mD μ a0 a4) 63) = 2 → Wp (d + 1) bc bs mL_law 334 [some (vr a0), some (vr a1), some (vr a2), some (vr a3), some (vi a4), none, none, none] [] μ Q) ∧ ((bAnd (mD μ a0 a4) 63) = 3 → Wp (d + 1) bc bs mL_law 371 [some (vr a0), some (vr a1), some (vr a2), some (vr a3), some (vi a4), none, none, none] [] μ Q) ∧ ((bAnd (mD μ a0 a4) 63) = 4 → Wp (d + 1) bc bs mL_law 432 [some (vr a0), some (vr a1), some (vr a2), some (vr a3), some (vi a4), none, none, none] [] μ Q) ∧ ((bAnd (mD μ a0 a4) 63) = 5 → Wp (d + 1) bc bs mL_law 445 [some (vr a0), some (vr a1), some (vr a2), some (vr a3), some (vi a4), none, none, none] [] μ Q) ∧ ((bAnd (mD μ a0 a4) 63) = 6 → Wp (d + 1) bc bs mL_law 482 [some (vr a0), some (vr a1), some (vr a2), some (vr a3), some (vi a4), none, none, none] [] μ Q) ∧ ((bAnd (mD μ a0 a4) 63) = 7 → Wp (d + 1) bc bs mL_law 519 [some (vr a0), some (vr a1), some (vr a2), some (vr a3), some (vi a4), none, none, none] [] μ Q) ∧ ((bAnd (mD μ a0 a4) 63) = 8 → Wp (d + 1) bc bs mL_law 599 [some (vr a0), some (vr a1), some (vr a2), some (vr a3), some (vi a4), none, none, none] [] μ Q) ∧ ((bAnd (mD μ a0 a4) 63) = 9 → Wp (d + 1) bc bs mL_law 667 [some (vr a0), some (vr a1), some (vr a2), some (vr a3), some (vi a4), none, none, none] [] μ Q) ∧ ((bAnd (mD μ a0 a4) 63) = 10 → Wp (d + 1) bc bs mL_law 692 [some (vr a0), some (vr a1), some (vr a2), some (vr a3), some (vi a4), none, none, none] [] μ Q) ∧ ((bAnd (mD μ a0 a4) 63) = 11 → Wp (d + 1) bc bs mL_law 717 [some (vr a0), some (vr a1), some (vr a2), some (vr a3), some (vi a4), none, none, none] [] μ Q) ∧ ((bAnd (mD μ a0 a4) 63) = 12 → Wp (d + 1) bc bs mL_law 742 [some (vr a0), some (vr a1), some (vr a2), some (vr a3), some (vi a4), none, none, none] [] μ Q) ∧ ((bAnd (mD μ a0 a4) 63) = 13 → Wp (d + 1) bc bs mL_law 767 [some (vr a0), some (vr a1), some (vr a2), some (vr a3), some (vi a4), none, none, none] [] μ Q) ∧ ((bAnd (mD μ a0 a4) 63) = 14 → Wp (d + 1) bc bs mL_law 835 [some (vr a0), some (vr a1), some (vr a2), some (vr a3), some (vi a4), none, none, none] [] μ Q) ∧ ((bAnd (mD μ a0 a4) 63) = 15 → Wp (d + 1) bc bs mL_law 860 [some (vr a0), some (vr a1), some (vr a2), some (vr a3), some (vi a4), none, none, none] [] μ Q) ∧ ((bAnd (mD μ a0 a4) 63) = 16 → Wp (d + 1) bc bs mL_law 909 [some (vr a0), some (vr a1), some (vr a2), some (vr a3), some (vi a4), none, none, none] [] μ Q) ∧ ((bAnd (mD μ a0 a4) 63) = 17 → Wp (d + 1) bc bs mL_law 934 [some (vr a0), some (vr a1), some (vr a2), some (vr a3), some (vi a4), none, none, none] [] μ Q) ∧ ((bAnd (mD μ a0 a4) 63) = 18 → Wp (d + 1) bc bs mL_law 971 [some (vr a0), some (vr a1), some (vr a2), some (vr a3), some (vi a4), none, none, none] [] μ Q) ∧ ((bAnd (mD μ a0 a4) 63) = 19 → Wp (d + 1) bc bs mL_law 996 [some (vr a0), some (vr a1), some (vr a2), some (vr a3), some (vi a4), none, none, none] [] μ Q) ∧ ((bAnd (mD μ a0 a4) 63) = 20 → Wp (d + 1) bc bs mL_law 1033 [some (vr a0), some (vr a1), some (vr a2), some (vr a3), some (vi a4), none, none, none] [] μ Q) ∧ ((bAnd (mD μ a0 a4) 63) = 21 → Wp (d + 1) bc bs mL_law 1070 [some (vr a0), some (vr a1), some (vr a2), some (vr a3), some (vi a4), none, none, none] [] μ Q) ∧ ((bAnd (mD μ a0 a4) 63) = 22 → Wp (d + 1) bc bs mL_law 1095 [some (vr a0), some (vr a1), some (vr a2), some (vr a3), some (vi a4), none, none, none] [] μ Q) ∧ ((bAnd (mD μ a0 a4) 63) = 23 → Wp (d + 1) bc bs mL_law 1132 [some (vr a0), some (vr a1), some (vr a2), some (vr a3), some (vi a4), none, none, none] [] μ Q) ∧ ((bAnd (mD μ a0 a4) 63) = 24 → Wp (d + 1) bc bs mL_law 1157 [some (vr a0), some (vr a1), some (vr a2), some (vr a3), some (vi a4), none, none, none] [] μ Q) ∧ ((bAnd (mD μ a0 a4) 63) = 25 → Wp (d + 1) bc bs mL_law 1194 [some (vr a0), some (vr a1), some (vr a2), some (vr a3), some (vi a4), none, none, none] [] μ Q) ∧ ((bAnd (mD μ a0 a4) 63) = 26 → Wp (d + 1) bc bs mL_law 1219 [some (vr a0), some (vr a1), some (vr a2), some (vr a3), some (vi a4), none, none, none] [] μ Q) ∧ ((bAnd (mD μ a0 a4) 63) = 27 → Wp (d + 1) bc bs mL_law 1268 [some (vr a0), some (vr a1), some (vr a2), some (vr a3), some (vi a4), none, none, none] [] μ Q) ∧ ((bAnd (mD μ a0 a4) 63) = 28 → Wp (d + 1) bc bs mL_law 1305 [some (vr a0), some (vr a1), some (vr a2), some (vr a3), some (vi a4), none, none, none] [] μ Q) ∧ ((bAnd (mD μ a0 a4) 63) = 29 → Wp (d + 1) bc bs mL_law 1342 [some (vr a0), some (vr a1), some (vr a2), some (vr a3), some (vi a4), none, none, none] [] μ Q) ∧ ((bAnd (mD μ a0 a4) 63) = 30 → Wp (d + 1) bc bs mL_law 1379 [some (vr a0), some (vr a1), some (vr a2), some (vr a3), some (vi a4), none, none, none] [] μ Q) ∧ ((bAnd (mD μ a0 a4) 63) = 31 → Wp (d + 1) bc bs mL_law 1404 [some (vr a0), some (vr a1), some (vr a2), some (vr a3), some (vi a4), none, none, none] [] μ Q) ∧ ((bAnd (mD μ a0 a4) 63) = 32 → Wp (d + 1) bc bs mL_law 1441 [some (vr a0), some (vr a1), some (vr a2), some (vr a3), some (vi a4), none, none, none] [] μ Q) ∧ ((bAnd (mD μ a0 a4) 63) = 33 → Wp (d + 1) bc bs mL_law 1466 [some (vr a0), some (vr a1), some (vr a2), some (vr a3), some (vi a4), none, none, none] [] μ Q) ∧ ((bAnd (mD μ a0 a4) 63) = 34 → Wp (d + 1) bc bs mL_law 1491 [some (vr a0), some (vr a1), some (vr a2), some (vr a3), some (vi a4), none, none, none] [] μ Q) ∧ ((bAnd (mD μ a0 a4) 63) = 35 → Wp (d + 1) bc bs mL_law 1516 [some (vr a0), some (vr a1), some (vr a2), some (vr a3), some (vi a4), none, none, none] [] μ Q) ∧ ((bAnd (mD μ a0 a4) 63) = 36 → Wp (d + 1) bc bs mL_law 1553 [some (vr a0), some (vr a1), some (vr a2), some (vr a3), some (vi a4), none, none, none] [] μ Q) ∧ ((bAnd (mD μ a0 a4) 63) = 37 → Wp (d + 1) bc bs mL_law 1579 [some (vr a0), some (vr a1), some (vr a2), some (vr a3), some (vi a4), none, none, none] [] μ Q) ∧ ((bAnd (mD μ a0 a4) 63) = 38 → Wp (d + 1) bc bs mL_law 1604 [some (vr a0), some (vr a1), some (vr a2), some (vr a3), some (vi a4), none, none, none] [] μ Q) ∧ ((bAnd (mD μ a0 a4) 63) = 39 → Wp (d + 1) bc bs mL_law 1617 [some (vr a0), some (vr a1), some (vr a2), some (vr a3), some (vi a4), none, none, none] [] μ Q) ∧ ((bAnd (mD μ a0 a4) 63) = 40 → Wp (d + 1) bc bs mL_law 1654 [some (vr a0), some (vr a1), some (vr a2), some (vr a3), some (vi a4), none, none, none] [] μ Q) ∧ ((bAnd (mD μ a0 a4) 63) = 41 → Wp (d + 1) bc bs mL_law 1667 [some (vr a0), some (vr a1), some (vr a2), some (vr a3), some (vi a4), none, none, none] [] μ Q) ∧ ((bAnd (mD μ a0 a4) 63) = 42 → Wp (d + 1) bc bs mL_law 1728 [some (vr a0), some (vr a1), some (vr a2), some (vr a3), some (vi a4), none, none, none] [] μ Q) ∧ ((bAnd (mD μ a0 a4) 63) = 43 → Wp (d + 1) bc bs mL_law 1765 [some (vr a0), some (vr a1), some (vr a2), some (vr a3), some (vi a4), none, none, none] [] μ Q) ∧ ((bAnd (mD μ a0 a4) 63) = 44 → Wp (d + 1) bc bs mL_law 1778 [some (vr a0), some (vr a1), some (vr a2), some (vr a3), some (vi a4), none, none, none] [] μ Q) ∧ ((bAnd (mD μ a0 a4) 63) = 45 → Wp (d + 1) bc bs mL_law 1803 [some (vr a0), some (vr a1), some (vr a2), some (vr a3), some (vi a4), none, none, none] [] μ Q) ∧ ((bAnd (mD μ a0 a4) 63) = 46 → Wp (d + 1) bc bs mL_law 1828 [some (vr a0), some (vr a1), some (vr a2), some (vr a3), some (vi a4), none, none, none] [] μ Q) ∧ ((bAnd (mD μ a0 a4) 63) = 47 → Wp (d + 1) bc bs mL_law 1853 [some (vr a0), some (vr a1), some (vr a2), some (vr a3), some (vi a4), none, none, none] [] μ Q) ∧ ((bAnd (mD μ a0 a4) 63) = 48 → Wp (d + 1) bc bs mL_law 1878 [some (vr a0), some (vr a1), some (vr a2), some (vr a3), some (vi a4), none, none, none] [] μ Q))))) :
    Wp (d + 1) bc bs mL_law 23 [some (vr a0), some (vr a1), some (vr a2), some (vr a3), some (vi a4), none, none, none] [] μ Q := by
  refine st_iload (pc := 23) dL_law_23 rfl ?_
  refine st_aload_n (pc := 25) dL_law_25 rfl rfl ?_
  obtain ⟨hk1, h⟩ := h
  refine sg_alen (pc := 26) dL_law_26 hk1 ?_
  refine sg_iconst (pc := 27) dL_law_27 (by omega) ?_
  refine st_isub (pc := 28) dL_law_28 ?_
  refine st_icmpgt (pc := 29) (tgt := 1939) dL_law_29 rfl (fun c => ?_) (fun c => ?_)
  · replace h := h.1 c
    refine sg_iconst (pc := 1939) dL_law_1939 (by omega) ?_
    exact st_ireturn (pc := 1940) dL_law_1940 (Or.inr ⟨rfl, by omega⟩) h
  · replace h := h.2 c
    refine st_aload_n (pc := 32) dL_law_32 rfl rfl ?_
    refine st_iload (pc := 33) dL_law_33 rfl ?_
    obtain ⟨hk2, h⟩ := h
    obtain ⟨h1, h⟩ := h
    refine sg_iaload (pc := 35) dL_law_35 hk2 h1 ?_
    refine sg_bipush (pc := 36) dL_law_36 (by omega) (by decide) ?_
    refine st_iand (pc := 38) dL_law_38 ?_
    by_cases c1 : (bAnd (mD μ a0 a4) 63) < 0 ∨ 48 < (bAnd (mD μ a0 a4) 63)
    · replace h := h.1 c1
      refine st_swOut (pc := 39) (tgt := 1933) dL_law_39 c1 rfl ?_
      exact h
    replace h := h.2
    by_cases e0 : (bAnd (mD μ a0 a4) 63) = 0
    · replace h := h.1 e0
      refine st_swIn (pc := 39) (off := 209) (tgt := 248) dL_law_39 (by omega) (by omega) (by rw [e0]; rfl) rfl ?_
      exact h
    replace h := h.2
    by_cases e1 : (bAnd (mD μ a0 a4) 63) = 1
    · replace h := h.1 e1
      refine st_swIn (pc := 39) (off := 258) (tgt := 297) dL_law_39 (by omega) (by omega) (by rw [e1]; rfl) rfl ?_
      exact h
    replace h := h.2
    by_cases e2 : (bAnd (mD μ a0 a4) 63) = 2
    · replace h := h.1 e2
      refine st_swIn (pc := 39) (off := 295) (tgt := 334) dL_law_39 (by omega) (by omega) (by rw [e2]; rfl) rfl ?_
      exact h
    replace h := h.2
    by_cases e3 : (bAnd (mD μ a0 a4) 63) = 3
    · replace h := h.1 e3
      refine st_swIn (pc := 39) (off := 332) (tgt := 371) dL_law_39 (by omega) (by omega) (by rw [e3]; rfl) rfl ?_
      exact h
    replace h := h.2
    by_cases e4 : (bAnd (mD μ a0 a4) 63) = 4
    · replace h := h.1 e4
      refine st_swIn (pc := 39) (off := 393) (tgt := 432) dL_law_39 (by omega) (by omega) (by rw [e4]; rfl) rfl ?_
      exact h
    replace h := h.2
    by_cases e5 : (bAnd (mD μ a0 a4) 63) = 5
    · replace h := h.1 e5
      refine st_swIn (pc := 39) (off := 406) (tgt := 445) dL_law_39 (by omega) (by omega) (by rw [e5]; rfl) rfl ?_
      exact h
    replace h := h.2
    by_cases e6 : (bAnd (mD μ a0 a4) 63) = 6
    · replace h := h.1 e6
      refine st_swIn (pc := 39) (off := 443) (tgt := 482) dL_law_39 (by omega) (by omega) (by rw [e6]; rfl) rfl ?_
      exact h
    replace h := h.2
    by_cases e7 : (bAnd (mD μ a0 a4) 63) = 7
    · replace h := h.1 e7
      refine st_swIn (pc := 39) (off := 480) (tgt := 519) dL_law_39 (by omega) (by omega) (by rw [e7]; rfl) rfl ?_
      exact h
    replace h := h.2
    by_cases e8 : (bAnd (mD μ a0 a4) 63) = 8
    · replace h := h.1 e8
      refine st_swIn (pc := 39) (off := 560) (tgt := 599) dL_law_39 (by omega) (by omega) (by rw [e8]; rfl) rfl ?_
      exact h
    replace h := h.2
    by_cases e9 : (bAnd (mD μ a0 a4) 63) = 9
    · replace h := h.1 e9
      refine st_swIn (pc := 39) (off := 628) (tgt := 667) dL_law_39 (by omega) (by omega) (by rw [e9]; rfl) rfl ?_
      exact h
    replace h := h.2
    by_cases e10 : (bAnd (mD μ a0 a4) 63) = 10
    · replace h := h.1 e10
      refine st_swIn (pc := 39) (off := 653) (tgt := 692) dL_law_39 (by omega) (by omega) (by rw [e10]; rfl) rfl ?_
      exact h
    replace h := h.2
    by_cases e11 : (bAnd (mD μ a0 a4) 63) = 11
    · replace h := h.1 e11
      refine st_swIn (pc := 39) (off := 678) (tgt := 717) dL_law_39 (by omega) (by omega) (by rw [e11]; rfl) rfl ?_
      exact h
    replace h := h.2
    by_cases e12 : (bAnd (mD μ a0 a4) 63) = 12
    · replace h := h.1 e12
      refine st_swIn (pc := 39) (off := 703) (tgt := 742) dL_law_39 (by omega) (by omega) (by rw [e12]; rfl) rfl ?_
      exact h
    replace h := h.2
    by_cases e13 : (bAnd (mD μ a0 a4) 63) = 13
    · replace h := h.1 e13
      refine st_swIn (pc := 39) (off := 728) (tgt := 767) dL_law_39 (by omega) (by omega) (by rw [e13]; rfl) rfl ?_
      exact h
    replace h := h.2
    by_cases e14 : (bAnd (mD μ a0 a4) 63) = 14
    · replace h := h.1 e14
      refine st_swIn (pc := 39) (off := 796) (tgt := 835) dL_law_39 (by omega) (by omega) (by rw [e14]; rfl) rfl ?_
      exact h
    replace h := h.2
    by_cases e15 : (bAnd (mD μ a0 a4) 63) = 15
    · replace h := h.1 e15
      refine st_swIn (pc := 39) (off := 821) (tgt := 860) dL_law_39 (by omega) (by omega) (by rw [e15]; rfl) rfl ?_
      exact h
    replace h := h.2
    by_cases e16 : (bAnd (mD μ a0 a4) 63) = 16
    · replace h := h.1 e16
      refine st_swIn (pc := 39) (off := 870) (tgt := 909) dL_law_39 (by omega) (by omega) (by rw [e16]; rfl) rfl ?_
      exact h
    replace h := h.2
    by_cases e17 : (bAnd (mD μ a0 a4) 63) = 17
    · replace h := h.1 e17
      refine st_swIn (pc := 39) (off := 895) (tgt := 934) dL_law_39 (by omega) (by omega) (by rw [e17]; rfl) rfl ?_
      exact h
    replace h := h.2
    by_cases e18 : (bAnd (mD μ a0 a4) 63) = 18
    · replace h := h.1 e18
      refine st_swIn (pc := 39) (off := 932) (tgt := 971) dL_law_39 (by omega) (by omega) (by rw [e18]; rfl) rfl ?_
      exact h
    replace h := h.2
    by_cases e19 : (bAnd (mD μ a0 a4) 63) = 19
    · replace h := h.1 e19
      refine st_swIn (pc := 39) (off := 957) (tgt := 996) dL_law_39 (by omega) (by omega) (by rw [e19]; rfl) rfl ?_
      exact h
    replace h := h.2
    by_cases e20 : (bAnd (mD μ a0 a4) 63) = 20
    · replace h := h.1 e20
      refine st_swIn (pc := 39) (off := 994) (tgt := 1033) dL_law_39 (by omega) (by omega) (by rw [e20]; rfl) rfl ?_
      exact h
    replace h := h.2
    by_cases e21 : (bAnd (mD μ a0 a4) 63) = 21
    · replace h := h.1 e21
      refine st_swIn (pc := 39) (off := 1031) (tgt := 1070) dL_law_39 (by omega) (by omega) (by rw [e21]; rfl) rfl ?_
      exact h
    replace h := h.2
    by_cases e22 : (bAnd (mD μ a0 a4) 63) = 22
    · replace h := h.1 e22
      refine st_swIn (pc := 39) (off := 1056) (tgt := 1095) dL_law_39 (by omega) (by omega) (by rw [e22]; rfl) rfl ?_
      exact h
    replace h := h.2
    by_cases e23 : (bAnd (mD μ a0 a4) 63) = 23
    · replace h := h.1 e23
      refine st_swIn (pc := 39) (off := 1093) (tgt := 1132) dL_law_39 (by omega) (by omega) (by rw [e23]; rfl) rfl ?_
      exact h
    replace h := h.2
    by_cases e24 : (bAnd (mD μ a0 a4) 63) = 24
    · replace h := h.1 e24
      refine st_swIn (pc := 39) (off := 1118) (tgt := 1157) dL_law_39 (by omega) (by omega) (by rw [e24]; rfl) rfl ?_
      exact h
    replace h := h.2
    by_cases e25 : (bAnd (mD μ a0 a4) 63) = 25
    · replace h := h.1 e25
      refine st_swIn (pc := 39) (off := 1155) (tgt := 1194) dL_law_39 (by omega) (by omega) (by rw [e25]; rfl) rfl ?_
      exact h
    replace h := h.2
    by_cases e26 : (bAnd (mD μ a0 a4) 63) = 26
    · replace h := h.1 e26
      refine st_swIn (pc := 39) (off := 1180) (tgt := 1219) dL_law_39 (by omega) (by omega) (by rw [e26]; rfl) rfl ?_
      exact h
    replace h := h.2
    by_cases e27 : (bAnd (mD μ a0 a4) 63) = 27
    · replace h := h.1 e27
      refine st_swIn (pc := 39) (off := 1229) (tgt := 1268) dL_law_39 (by omega) (by omega) (by rw [e27]; rfl) rfl ?_
      exact h
    replace h := h.2
    by_cases e28 : (bAnd (mD μ a0 a4) 63) = 28
    · replace h := h.1 e28
      refine st_swIn (pc := 39) (off := 1266) (tgt := 1305) dL_law_39 (by omega) (by omega) (by rw [e28]; rfl) rfl ?_
      exact h
    replace h := h.2
    by_cases e29 : (bAnd (mD μ a0 a4) 63) = 29
    · replace h := h.1 e29
      refine st_swIn (pc := 39) (off := 1303) (tgt := 1342) dL_law_39 (by omega) (by omega) (by rw [e29]; rfl) rfl ?_
      exact h
    replace h := h.2
    by_cases e30 : (bAnd (mD μ a0 a4) 63) = 30
    · replace h := h.1 e30
      refine st_swIn (pc := 39) (off := 1340) (tgt := 1379) dL_law_39 (by omega) (by omega) (by rw [e30]; rfl) rfl ?_
      exact h
    replace h := h.2
    by_cases e31 : (bAnd (mD μ a0 a4) 63) = 31
    · replace h := h.1 e31
      refine st_swIn (pc := 39) (off := 1365) (tgt := 1404) dL_law_39 (by omega) (by omega) (by rw [e31]; rfl) rfl ?_
      exact h
    replace h := h.2
    by_cases e32 : (bAnd (mD μ a0 a4) 63) = 32
    · replace h := h.1 e32
      refine st_swIn (pc := 39) (off := 1402) (tgt := 1441) dL_law_39 (by omega) (by omega) (by rw [e32]; rfl) rfl ?_
      exact h
    replace h := h.2
    by_cases e33 : (bAnd (mD μ a0 a4) 63) = 33
    · replace h := h.1 e33
      refine st_swIn (pc := 39) (off := 1427) (tgt := 1466) dL_law_39 (by omega) (by omega) (by rw [e33]; rfl) rfl ?_
      exact h
    replace h := h.2
    by_cases e34 : (bAnd (mD μ a0 a4) 63) = 34
    · replace h := h.1 e34
      refine st_swIn (pc := 39) (off := 1452) (tgt := 1491) dL_law_39 (by omega) (by omega) (by rw [e34]; rfl) rfl ?_
      exact h
    replace h := h.2
    by_cases e35 : (bAnd (mD μ a0 a4) 63) = 35
    · replace h := h.1 e35
      refine st_swIn (pc := 39) (off := 1477) (tgt := 1516) dL_law_39 (by omega) (by omega) (by rw [e35]; rfl) rfl ?_
      exact h
    replace h := h.2
    by_cases e36 : (bAnd (mD μ a0 a4) 63) = 36
    · replace h := h.1 e36
      refine st_swIn (pc := 39) (off := 1514) (tgt := 1553) dL_law_39 (by omega) (by omega) (by rw [e36]; rfl) rfl ?_
      exact h
    replace h := h.2
    by_cases e37 : (bAnd (mD μ a0 a4) 63) = 37
    · replace h := h.1 e37
      refine st_swIn (pc := 39) (off := 1540) (tgt := 1579) dL_law_39 (by omega) (by omega) (by rw [e37]; rfl) rfl ?_
      exact h
    replace h := h.2
    by_cases e38 : (bAnd (mD μ a0 a4) 63) = 38
    · replace h := h.1 e38
      refine st_swIn (pc := 39) (off := 1565) (tgt := 1604) dL_law_39 (by omega) (by omega) (by rw [e38]; rfl) rfl ?_
      exact h
    replace h := h.2
    by_cases e39 : (bAnd (mD μ a0 a4) 63) = 39
    · replace h := h.1 e39
      refine st_swIn (pc := 39) (off := 1578) (tgt := 1617) dL_law_39 (by omega) (by omega) (by rw [e39]; rfl) rfl ?_
      exact h
    replace h := h.2
    by_cases e40 : (bAnd (mD μ a0 a4) 63) = 40
    · replace h := h.1 e40
      refine st_swIn (pc := 39) (off := 1615) (tgt := 1654) dL_law_39 (by omega) (by omega) (by rw [e40]; rfl) rfl ?_
      exact h
    replace h := h.2
    by_cases e41 : (bAnd (mD μ a0 a4) 63) = 41
    · replace h := h.1 e41
      refine st_swIn (pc := 39) (off := 1628) (tgt := 1667) dL_law_39 (by omega) (by omega) (by rw [e41]; rfl) rfl ?_
      exact h
    replace h := h.2
    by_cases e42 : (bAnd (mD μ a0 a4) 63) = 42
    · replace h := h.1 e42
      refine st_swIn (pc := 39) (off := 1689) (tgt := 1728) dL_law_39 (by omega) (by omega) (by rw [e42]; rfl) rfl ?_
      exact h
    replace h := h.2
    by_cases e43 : (bAnd (mD μ a0 a4) 63) = 43
    · replace h := h.1 e43
      refine st_swIn (pc := 39) (off := 1726) (tgt := 1765) dL_law_39 (by omega) (by omega) (by rw [e43]; rfl) rfl ?_
      exact h
    replace h := h.2
    by_cases e44 : (bAnd (mD μ a0 a4) 63) = 44
    · replace h := h.1 e44
      refine st_swIn (pc := 39) (off := 1739) (tgt := 1778) dL_law_39 (by omega) (by omega) (by rw [e44]; rfl) rfl ?_
      exact h
    replace h := h.2
    by_cases e45 : (bAnd (mD μ a0 a4) 63) = 45
    · replace h := h.1 e45
      refine st_swIn (pc := 39) (off := 1764) (tgt := 1803) dL_law_39 (by omega) (by omega) (by rw [e45]; rfl) rfl ?_
      exact h
    replace h := h.2
    by_cases e46 : (bAnd (mD μ a0 a4) 63) = 46
    · replace h := h.1 e46
      refine st_swIn (pc := 39) (off := 1789) (tgt := 1828) dL_law_39 (by omega) (by omega) (by rw [e46]; rfl) rfl ?_
      exact h
    replace h := h.2
    by_cases e47 : (bAnd (mD μ a0 a4) 63) = 47
    · replace h := h.1 e47
      refine st_swIn (pc := 39) (off := 1814) (tgt := 1853) dL_law_39 (by omega) (by omega) (by rw [e47]; rfl) rfl ?_
      exact h
    replace h := h.2
    by_cases e48 : (bAnd (mD μ a0 a4) 63) = 48
    · replace h := h e48
      refine st_swIn (pc := 39) (off := 1839) (tgt := 1878) dL_law_39 (by omega) (by omega) (by rw [e48]; rfl) rfl ?_
      exact h
    exfalso
    omega

theorem sg_L_law_248 {d bc bs : Nat} {a0 : Nat} {a1 : Nat} {a2 : Nat} {a3 : Nat} {a4 : Int} {μ : Mem} {Q : Option (Option AV) → Mem → Prop}
    (h : (mK μ a0 = 20 ∨ (a0 ≠ 0 ∧ mK μ a0 = 40)) ∧ ((0 : Int) ≤ (w32 (a4 + 1)) ∧ (w32 (a4 + 1)) < (mN μ a0 : Int)) ∧ (((0 : Int) ≤ (w32 (a4 + 2)) ∧ (w32 (a4 + 2)) < (mN μ a0 : Int)) ∧ (((0 : Int) ≤ (w32 (a4 + 3)) ∧ (w32 (a4 + 3)) < (mN μ a0 : Int)) ∧ (mK μ a1 = 10 ∧ ∃ (mc1 ms1 : Nat) (K1 : Int → Mem → Prop), Cl d mc1 ms1 mX9_cup [vr a1, vi (mD μ a0 (w32 (a4 + 1))), vi (mD μ a0 (w32 (a4 + 2))), vi (mD μ a0 (w32 (a4 + 3)))] μ (KI K1) ∧ mc1 ≤ bc ∧ ms1 ≤ bs ∧ (∀ x1 m1, K1 x1 m1 → (mK m1 a0 = 20 ∨ (a0 ≠ 0 ∧ mK m1 a0 = 40)) ∧ ((0 : Int) ≤ (w32 (a4 + 1)) ∧ (w32 (a4 + 1)) < (mN m1 a0 : Int)) ∧ (((0 : Int) ≤ (w32 (a4 + 2)) ∧ (w32 (a4 + 2)) < (mN m1 a0 : Int)) ∧ (((0 : Int) ≤ (w32 (a4 + 3)) ∧ (w32 (a4 + 3)) < (mN m1 a0 : Int)) ∧ (mK m1 a2 = 11 ∧ ∃ (mc2 ms2 : Nat) (K2 : Int → Mem → Prop), Cl d mc2 ms2 mX10_cup [vr a2, vi (mD m1 a0 (w32 (a4 + 1))), vi (mD m1 a0 (w32 (a4 + 2))), vi (mD m1 a0 (w32 (a4 + 3)))] m1 (KI K2) ∧ mc2 ≤ bc - mc1 ∧ ms2 ≤ bs - ms1 ∧ (∀ x2 m2, K2 x2 m2 → (x1 = x2 → Wp (d + 1) (bc - mc1 - mc2) (bs - ms1 - ms2) mL_law 1933 [some (vr a0), some (vr a1), some (vr a2), some (vr a3), some (vi a4), none, none, none] [] m2 Q) ∧ (¬ x1 = x2 → Q (some (some (vi 0))) m2)))))))))) :
    Wp (d + 1) bc bs mL_law 248 [some (vr a0), some (vr a1), some (vr a2), some (vr a3), some (vi a4), none, none, none] [] μ Q := by
  refine st_aload_n (pc := 248) dL_law_248 rfl rfl ?_
  refine st_aload_n (pc := 249) dL_law_249 rfl rfl ?_
  refine st_iload (pc := 250) dL_law_250 rfl ?_
  refine sg_iconst (pc := 252) dL_law_252 (by omega) ?_
  refine st_iadd (pc := 253) dL_law_253 ?_
  obtain ⟨hk1, h⟩ := h
  obtain ⟨h1, h⟩ := h
  refine sg_iaload (pc := 254) dL_law_254 hk1 h1 ?_
  refine st_aload_n (pc := 255) dL_law_255 rfl rfl ?_
  refine st_iload (pc := 256) dL_law_256 rfl ?_
  refine sg_iconst (pc := 258) dL_law_258 (by omega) ?_
  refine st_iadd (pc := 259) dL_law_259 ?_
  obtain ⟨h1, h⟩ := h
  refine sg_iaload (pc := 260) dL_law_260 hk1 h1 ?_
  refine st_aload_n (pc := 261) dL_law_261 rfl rfl ?_
  refine st_iload (pc := 262) dL_law_262 rfl ?_
  refine sg_iconst (pc := 264) dL_law_264 (by omega) ?_
  refine st_iadd (pc := 265) dL_law_265 ?_
  obtain ⟨h1, h⟩ := h
  refine sg_iaload (pc := 266) dL_law_266 hk1 h1 ?_
  obtain ⟨hk2, h⟩ := h
  obtain ⟨mc1, ms1, K1, hC, e1, e2, h⟩ := h
  refine sg_VI (pc := 267) (av := [vi (mD μ a0 (w32 (a4 + 1))), vi (mD μ a0 (w32 (a4 + 2))), vi (mD μ a0 (w32 (a4 + 3)))]) (st := []) (K := K1) dL_law_267 ck_11_30 rfl (by decide) hk2 (by show (0 : Nat) ≤ 8; decide) hC e1 e2 (fun x1 m1 hK => ?_) rfl
  replace h := h x1 m1 hK
  refine st_aload_n (pc := 270) dL_law_270 rfl rfl ?_
  refine st_aload_n (pc := 271) dL_law_271 rfl rfl ?_
  refine st_iload (pc := 272) dL_law_272 rfl ?_
  refine sg_iconst (pc := 274) dL_law_274 (by omega) ?_
  refine st_iadd (pc := 275) dL_law_275 ?_
  obtain ⟨hk3, h⟩ := h
  obtain ⟨h1, h⟩ := h
  refine sg_iaload (pc := 276) dL_law_276 hk3 h1 ?_
  refine st_aload_n (pc := 277) dL_law_277 rfl rfl ?_
  refine st_iload (pc := 278) dL_law_278 rfl ?_
  refine sg_iconst (pc := 280) dL_law_280 (by omega) ?_
  refine st_iadd (pc := 281) dL_law_281 ?_
  obtain ⟨h1, h⟩ := h
  refine sg_iaload (pc := 282) dL_law_282 hk3 h1 ?_
  refine st_aload_n (pc := 283) dL_law_283 rfl rfl ?_
  refine st_iload (pc := 284) dL_law_284 rfl ?_
  refine sg_iconst (pc := 286) dL_law_286 (by omega) ?_
  refine st_iadd (pc := 287) dL_law_287 ?_
  obtain ⟨h1, h⟩ := h
  refine sg_iaload (pc := 288) dL_law_288 hk3 h1 ?_
  obtain ⟨hk4, h⟩ := h
  obtain ⟨mc2, ms2, K2, hC, e1, e2, h⟩ := h
  refine sg_VI (pc := 289) (av := [vi (mD m1 a0 (w32 (a4 + 1))), vi (mD m1 a0 (w32 (a4 + 2))), vi (mD m1 a0 (w32 (a4 + 3)))]) (st := [vi x1]) (K := K2) dL_law_289 ck_11_34 rfl (by decide) hk4 (by show (1 : Nat) ≤ 8; decide) hC e1 e2 (fun x2 m2 hK => ?_) rfl
  replace h := h x2 m2 hK
  refine st_icmpeq (pc := 292) (tgt := 1933) dL_law_292 rfl (fun c => ?_) (fun c => ?_)
  · replace h := h.1 c
    exact h
  · replace h := h.2 c
    refine sg_iconst (pc := 295) dL_law_295 (by omega) ?_
    exact st_ireturn (pc := 296) dL_law_296 (Or.inr ⟨rfl, by omega⟩) h

theorem sg_L_law_297 {d bc bs : Nat} {a0 : Nat} {a1 : Nat} {a2 : Nat} {a3 : Nat} {a4 : Int} {μ : Mem} {Q : Option (Option AV) → Mem → Prop}
    (h : (mK μ a0 = 20 ∨ (a0 ≠ 0 ∧ mK μ a0 = 40)) ∧ ((0 : Int) ≤ (w32 (a4 + 1)) ∧ (w32 (a4 + 1)) < (mN μ a0 : Int)) ∧ (((0 : Int) ≤ (w32 (a4 + 2)) ∧ (w32 (a4 + 2)) < (mN μ a0 : Int)) ∧ (mK μ a1 = 10 ∧ ∃ (mc1 ms1 : Nat) (K1 : Int → Mem → Prop), Cl d mc1 ms1 mX9_set [vr a1, vi (mD μ a0 (w32 (a4 + 1))), vi (mD μ a0 (w32 (a4 + 2)))] μ (KI K1) ∧ mc1 ≤ bc ∧ ms1 ≤ bs ∧ (∀ x1 m1, K1 x1 m1 → (mK m1 a0 = 20 ∨ (a0 ≠ 0 ∧ mK m1 a0 = 40)) ∧ ((0 : Int) ≤ (w32 (a4 + 1)) ∧ (w32 (a4 + 1)) < (mN m1 a0 : Int)) ∧ (((0 : Int) ≤ (w32 (a4 + 2)) ∧ (w32 (a4 + 2)) < (mN m1 a0 : Int)) ∧ (mK m1 a2 = 11 ∧ ∃ (mc2 ms2 : Nat) (K2 : Int → Mem → Prop), Cl d mc2 ms2 mX10_set [vr a2, vi (mD m1 a0 (w32 (a4 + 1))), vi (mD m1 a0 (w32 (a4 + 2)))] m1 (KI K2) ∧ mc2 ≤ bc - mc1 ∧ ms2 ≤ bs - ms1 ∧ (∀ x2 m2, K2 x2 m2 → (x1 = x2 → Wp (d + 1) (bc - mc1 - mc2) (bs - ms1 - ms2) mL_law 1933 [some (vr a0), some (vr a1), some (vr a2), some (vr a3), some (vi a4), none, none, none] [] m2 Q) ∧ (¬ x1 = x2 → Q (some (some (vi 0))) m2)))))))) :
    Wp (d + 1) bc bs mL_law 297 [some (vr a0), some (vr a1), some (vr a2), some (vr a3), some (vi a4), none, none, none] [] μ Q := by
  refine st_aload_n (pc := 297) dL_law_297 rfl rfl ?_
  refine st_aload_n (pc := 298) dL_law_298 rfl rfl ?_
  refine st_iload (pc := 299) dL_law_299 rfl ?_
  refine sg_iconst (pc := 301) dL_law_301 (by omega) ?_
  refine st_iadd (pc := 302) dL_law_302 ?_
  obtain ⟨hk1, h⟩ := h
  obtain ⟨h1, h⟩ := h
  refine sg_iaload (pc := 303) dL_law_303 hk1 h1 ?_
  refine st_aload_n (pc := 304) dL_law_304 rfl rfl ?_
  refine st_iload (pc := 305) dL_law_305 rfl ?_
  refine sg_iconst (pc := 307) dL_law_307 (by omega) ?_
  refine st_iadd (pc := 308) dL_law_308 ?_
  obtain ⟨h1, h⟩ := h
  refine sg_iaload (pc := 309) dL_law_309 hk1 h1 ?_
  obtain ⟨hk2, h⟩ := h
  obtain ⟨mc1, ms1, K1, hC, e1, e2, h⟩ := h
  refine sg_VI (pc := 310) (av := [vi (mD μ a0 (w32 (a4 + 1))), vi (mD μ a0 (w32 (a4 + 2)))]) (st := []) (K := K1) dL_law_310 ck_11_35 rfl (by decide) hk2 (by show (0 : Nat) ≤ 8; decide) hC e1 e2 (fun x1 m1 hK => ?_) rfl
  replace h := h x1 m1 hK
  refine st_aload_n (pc := 313) dL_law_313 rfl rfl ?_
  refine st_aload_n (pc := 314) dL_law_314 rfl rfl ?_
  refine st_iload (pc := 315) dL_law_315 rfl ?_
  refine sg_iconst (pc := 317) dL_law_317 (by omega) ?_
  refine st_iadd (pc := 318) dL_law_318 ?_
  obtain ⟨hk3, h⟩ := h
  obtain ⟨h1, h⟩ := h
  refine sg_iaload (pc := 319) dL_law_319 hk3 h1 ?_
  refine st_aload_n (pc := 320) dL_law_320 rfl rfl ?_
  refine st_iload (pc := 321) dL_law_321 rfl ?_
  refine sg_iconst (pc := 323) dL_law_323 (by omega) ?_
  refine st_iadd (pc := 324) dL_law_324 ?_
  obtain ⟨h1, h⟩ := h
  refine sg_iaload (pc := 325) dL_law_325 hk3 h1 ?_
  obtain ⟨hk4, h⟩ := h
  obtain ⟨mc2, ms2, K2, hC, e1, e2, h⟩ := h
  refine sg_VI (pc := 326) (av := [vi (mD m1 a0 (w32 (a4 + 1))), vi (mD m1 a0 (w32 (a4 + 2)))]) (st := [vi x1]) (K := K2) dL_law_326 ck_11_38 rfl (by decide) hk4 (by show (1 : Nat) ≤ 8; decide) hC e1 e2 (fun x2 m2 hK => ?_) rfl
  replace h := h x2 m2 hK
  refine st_icmpeq (pc := 329) (tgt := 1933) dL_law_329 rfl (fun c => ?_) (fun c => ?_)
  · replace h := h.1 c
    exact h
  · replace h := h.2 c
    refine sg_iconst (pc := 332) dL_law_332 (by omega) ?_
    exact st_ireturn (pc := 333) dL_law_333 (Or.inr ⟨rfl, by omega⟩) h

theorem sg_L_law_334 {d bc bs : Nat} {a0 : Nat} {a1 : Nat} {a2 : Nat} {a3 : Nat} {a4 : Int} {μ : Mem} {Q : Option (Option AV) → Mem → Prop}
    (h : (mK μ a0 = 20 ∨ (a0 ≠ 0 ∧ mK μ a0 = 40)) ∧ ((0 : Int) ≤ (w32 (a4 + 1)) ∧ (w32 (a4 + 1)) < (mN μ a0 : Int)) ∧ (((0 : Int) ≤ (w32 (a4 + 2)) ∧ (w32 (a4 + 2)) < (mN μ a0 : Int)) ∧ (mK μ a1 = 10 ∧ ∃ (mc1 ms1 : Nat) (K1 : Int → Mem → Prop), Cl d mc1 ms1 mX9_wall [vr a1, vi (mD μ a0 (w32 (a4 + 1))), vi (mD μ a0 (w32 (a4 + 2)))] μ (KI K1) ∧ mc1 ≤ bc ∧ ms1 ≤ bs ∧ (∀ x1 m1, K1 x1 m1 → (mK m1 a0 = 20 ∨ (a0 ≠ 0 ∧ mK m1 a0 = 40)) ∧ ((0 : Int) ≤ (w32 (a4 + 1)) ∧ (w32 (a4 + 1)) < (mN m1 a0 : Int)) ∧ (((0 : Int) ≤ (w32 (a4 + 2)) ∧ (w32 (a4 + 2)) < (mN m1 a0 : Int)) ∧ (mK m1 a2 = 11 ∧ ∃ (mc2 ms2 : Nat) (K2 : Int → Mem → Prop), Cl d mc2 ms2 mX10_wall [vr a2, vi (mD m1 a0 (w32 (a4 + 1))), vi (mD m1 a0 (w32 (a4 + 2)))] m1 (KI K2) ∧ mc2 ≤ bc - mc1 ∧ ms2 ≤ bs - ms1 ∧ (∀ x2 m2, K2 x2 m2 → (x1 = x2 → Wp (d + 1) (bc - mc1 - mc2) (bs - ms1 - ms2) mL_law 1933 [some (vr a0), some (vr a1), some (vr a2), some (vr a3), some (vi a4), none, none, none] [] m2 Q) ∧ (¬ x1 = x2 → Q (some (some (vi 0))) m2)))))))) :
    Wp (d + 1) bc bs mL_law 334 [some (vr a0), some (vr a1), some (vr a2), some (vr a3), some (vi a4), none, none, none] [] μ Q := by
  refine st_aload_n (pc := 334) dL_law_334 rfl rfl ?_
  refine st_aload_n (pc := 335) dL_law_335 rfl rfl ?_
  refine st_iload (pc := 336) dL_law_336 rfl ?_
  refine sg_iconst (pc := 338) dL_law_338 (by omega) ?_
  refine st_iadd (pc := 339) dL_law_339 ?_
  obtain ⟨hk1, h⟩ := h
  obtain ⟨h1, h⟩ := h
  refine sg_iaload (pc := 340) dL_law_340 hk1 h1 ?_
  refine st_aload_n (pc := 341) dL_law_341 rfl rfl ?_
  refine st_iload (pc := 342) dL_law_342 rfl ?_
  refine sg_iconst (pc := 344) dL_law_344 (by omega) ?_
  refine st_iadd (pc := 345) dL_law_345 ?_
  obtain ⟨h1, h⟩ := h
  refine sg_iaload (pc := 346) dL_law_346 hk1 h1 ?_
  obtain ⟨hk2, h⟩ := h
  obtain ⟨mc1, ms1, K1, hC, e1, e2, h⟩ := h
  refine sg_VI (pc := 347) (av := [vi (mD μ a0 (w32 (a4 + 1))), vi (mD μ a0 (w32 (a4 + 2)))]) (st := []) (K := K1) dL_law_347 ck_11_39 rfl (by decide) hk2 (by show (0 : Nat) ≤ 8; decide) hC e1 e2 (fun x1 m1 hK => ?_) rfl
  replace h := h x1 m1 hK
  refine st_aload_n (pc := 350) dL_law_350 rfl rfl ?_
  refine st_aload_n (pc := 351) dL_law_351 rfl rfl ?_
  refine st_iload (pc := 352) dL_law_352 rfl ?_
  refine sg_iconst (pc := 354) dL_law_354 (by omega) ?_
  refine st_iadd (pc := 355) dL_law_355 ?_
  obtain ⟨hk3, h⟩ := h
  obtain ⟨h1, h⟩ := h
  refine sg_iaload (pc := 356) dL_law_356 hk3 h1 ?_
  refine st_aload_n (pc := 357) dL_law_357 rfl rfl ?_
  refine st_iload (pc := 358) dL_law_358 rfl ?_
  refine sg_iconst (pc := 360) dL_law_360 (by omega) ?_
  refine st_iadd (pc := 361) dL_law_361 ?_
  obtain ⟨h1, h⟩ := h
  refine sg_iaload (pc := 362) dL_law_362 hk3 h1 ?_
  obtain ⟨hk4, h⟩ := h
  obtain ⟨mc2, ms2, K2, hC, e1, e2, h⟩ := h
  refine sg_VI (pc := 363) (av := [vi (mD m1 a0 (w32 (a4 + 1))), vi (mD m1 a0 (w32 (a4 + 2)))]) (st := [vi x1]) (K := K2) dL_law_363 ck_11_42 rfl (by decide) hk4 (by show (1 : Nat) ≤ 8; decide) hC e1 e2 (fun x2 m2 hK => ?_) rfl
  replace h := h x2 m2 hK
  refine st_icmpeq (pc := 366) (tgt := 1933) dL_law_366 rfl (fun c => ?_) (fun c => ?_)
  · replace h := h.1 c
    exact h
  · replace h := h.2 c
    refine sg_iconst (pc := 369) dL_law_369 (by omega) ?_
    exact st_ireturn (pc := 370) dL_law_370 (Or.inr ⟨rfl, by omega⟩) h

theorem sg_L_law_371 {d bc bs : Nat} {a0 : Nat} {a1 : Nat} {a2 : Nat} {a3 : Nat} {a4 : Int} {μ : Mem} {Q : Option (Option AV) → Mem → Prop}
    (h : (mK μ a0 = 20 ∨ (a0 ≠ 0 ∧ mK μ a0 = 40)) ∧ ((0 : Int) ≤ (w32 (a4 + 1)) ∧ (w32 (a4 + 1)) < (mN μ a0 : Int)) ∧ (((0 : Int) ≤ (w32 (a4 + 2)) ∧ (w32 (a4 + 2)) < (mN μ a0 : Int)) ∧ (((0 : Int) ≤ (w32 (a4 + 3)) ∧ (w32 (a4 + 3)) < (mN μ a0 : Int)) ∧ (((0 : Int) ≤ (w32 (a4 + 4)) ∧ (w32 (a4 + 4)) < (mN μ a0 : Int)) ∧ (mK μ a1 = 10 ∧ ∃ (mc1 ms1 : Nat) (K1 : Int → Mem → Prop), Cl d mc1 ms1 mX9_sheet [vr a1, vi (mD μ a0 (w32 (a4 + 1))), vi (mD μ a0 (w32 (a4 + 2))), vi (mD μ a0 (w32 (a4 + 3))), vi (mD μ a0 (w32 (a4 + 4)))] μ (KI K1) ∧ mc1 ≤ bc ∧ ms1 ≤ bs ∧ (∀ x1 m1, K1 x1 m1 → (mK m1 a0 = 20 ∨ (a0 ≠ 0 ∧ mK m1 a0 = 40)) ∧ ((0 : Int) ≤ (w32 (a4 + 1)) ∧ (w32 (a4 + 1)) < (mN m1 a0 : Int)) ∧ (((0 : Int) ≤ (w32 (a4 + 2)) ∧ (w32 (a4 + 2)) < (mN m1 a0 : Int)) ∧ (((0 : Int) ≤ (w32 (a4 + 3)) ∧ (w32 (a4 + 3)) < (mN m1 a0 : Int)) ∧ (((0 : Int) ≤ (w32 (a4 + 4)) ∧ (w32 (a4 + 4)) < (mN m1 a0 : Int)) ∧ (mK m1 a2 = 11 ∧ ∃ (mc2 ms2 : Nat) (K2 : Int → Mem → Prop), Cl d mc2 ms2 mX10_sheet [vr a2, vi (mD m1 a0 (w32 (a4 + 1))), vi (mD m1 a0 (w32 (a4 + 2))), vi (mD m1 a0 (w32 (a4 + 3))), vi (mD m1 a0 (w32 (a4 + 4)))] m1 (KI K2) ∧ mc2 ≤ bc - mc1 ∧ ms2 ≤ bs - ms1 ∧ (∀ x2 m2, K2 x2 m2 → (x1 = x2 → Wp (d + 1) (bc - mc1 - mc2) (bs - ms1 - ms2) mL_law 1933 [some (vr a0), some (vr a1), some (vr a2), some (vr a3), some (vi a4), none, none, none] [] m2 Q) ∧ (¬ x1 = x2 → Q (some (some (vi 0))) m2)))))))))))) :
    Wp (d + 1) bc bs mL_law 371 [some (vr a0), some (vr a1), some (vr a2), some (vr a3), some (vi a4), none, none, none] [] μ Q := by
  refine st_aload_n (pc := 371) dL_law_371 rfl rfl ?_
  refine st_aload_n (pc := 372) dL_law_372 rfl rfl ?_
  refine st_iload (pc := 373) dL_law_373 rfl ?_
  refine sg_iconst (pc := 375) dL_law_375 (by omega) ?_
  refine st_iadd (pc := 376) dL_law_376 ?_
  obtain ⟨hk1, h⟩ := h
  obtain ⟨h1, h⟩ := h
  refine sg_iaload (pc := 377) dL_law_377 hk1 h1 ?_
  refine st_aload_n (pc := 378) dL_law_378 rfl rfl ?_
  refine st_iload (pc := 379) dL_law_379 rfl ?_
  refine sg_iconst (pc := 381) dL_law_381 (by omega) ?_
  refine st_iadd (pc := 382) dL_law_382 ?_
  obtain ⟨h1, h⟩ := h
  refine sg_iaload (pc := 383) dL_law_383 hk1 h1 ?_
  refine st_aload_n (pc := 384) dL_law_384 rfl rfl ?_
  refine st_iload (pc := 385) dL_law_385 rfl ?_
  refine sg_iconst (pc := 387) dL_law_387 (by omega) ?_
  refine st_iadd (pc := 388) dL_law_388 ?_
  obtain ⟨h1, h⟩ := h
  refine sg_iaload (pc := 389) dL_law_389 hk1 h1 ?_
  refine st_aload_n (pc := 390) dL_law_390 rfl rfl ?_
  refine st_iload (pc := 391) dL_law_391 rfl ?_
  refine sg_iconst (pc := 393) dL_law_393 (by omega) ?_
  refine st_iadd (pc := 394) dL_law_394 ?_
  obtain ⟨h1, h⟩ := h
  refine sg_iaload (pc := 395) dL_law_395 hk1 h1 ?_
  obtain ⟨hk2, h⟩ := h
  obtain ⟨mc1, ms1, K1, hC, e1, e2, h⟩ := h
  refine sg_VI (pc := 396) (av := [vi (mD μ a0 (w32 (a4 + 1))), vi (mD μ a0 (w32 (a4 + 2))), vi (mD μ a0 (w32 (a4 + 3))), vi (mD μ a0 (w32 (a4 + 4)))]) (st := []) (K := K1) dL_law_396 ck_11_43 rfl (by decide) hk2 (by show (0 : Nat) ≤ 8; decide) hC e1 e2 (fun x1 m1 hK => ?_) rfl
  replace h := h x1 m1 hK
  refine st_aload_n (pc := 399) dL_law_399 rfl rfl ?_
  refine st_aload_n (pc := 400) dL_law_400 rfl rfl ?_
  refine st_iload (pc := 401) dL_law_401 rfl ?_
  refine sg_iconst (pc := 403) dL_law_403 (by omega) ?_
  refine st_iadd (pc := 404) dL_law_404 ?_
  obtain ⟨hk3, h⟩ := h
  obtain ⟨h1, h⟩ := h
  refine sg_iaload (pc := 405) dL_law_405 hk3 h1 ?_
  refine st_aload_n (pc := 406) dL_law_406 rfl rfl ?_
  refine st_iload (pc := 407) dL_law_407 rfl ?_
  refine sg_iconst (pc := 409) dL_law_409 (by omega) ?_
  refine st_iadd (pc := 410) dL_law_410 ?_
  obtain ⟨h1, h⟩ := h
  refine sg_iaload (pc := 411) dL_law_411 hk3 h1 ?_
  refine st_aload_n (pc := 412) dL_law_412 rfl rfl ?_
  refine st_iload (pc := 413) dL_law_413 rfl ?_
  refine sg_iconst (pc := 415) dL_law_415 (by omega) ?_
  refine st_iadd (pc := 416) dL_law_416 ?_
  obtain ⟨h1, h⟩ := h
  refine sg_iaload (pc := 417) dL_law_417 hk3 h1 ?_
  refine st_aload_n (pc := 418) dL_law_418 rfl rfl ?_
  refine st_iload (pc := 419) dL_law_419 rfl ?_
  refine sg_iconst (pc := 421) dL_law_421 (by omega) ?_
  refine st_iadd (pc := 422) dL_law_422 ?_
  obtain ⟨h1, h⟩ := h
  refine sg_iaload (pc := 423) dL_law_423 hk3 h1 ?_
  obtain ⟨hk4, h⟩ := h
  obtain ⟨mc2, ms2, K2, hC, e1, e2, h⟩ := h
  refine sg_VI (pc := 424) (av := [vi (mD m1 a0 (w32 (a4 + 1))), vi (mD m1 a0 (w32 (a4 + 2))), vi (mD m1 a0 (w32 (a4 + 3))), vi (mD m1 a0 (w32 (a4 + 4)))]) (st := [vi x1]) (K := K2) dL_law_424 ck_11_47 rfl (by decide) hk4 (by show (1 : Nat) ≤ 8; decide) hC e1 e2 (fun x2 m2 hK => ?_) rfl
  replace h := h x2 m2 hK
  refine st_icmpeq (pc := 427) (tgt := 1933) dL_law_427 rfl (fun c => ?_) (fun c => ?_)
  · replace h := h.1 c
    exact h
  · replace h := h.2 c
    refine sg_iconst (pc := 430) dL_law_430 (by omega) ?_
    exact st_ireturn (pc := 431) dL_law_431 (Or.inr ⟨rfl, by omega⟩) h

theorem sg_L_law_432 {d bc bs : Nat} {a0 : Nat} {a1 : Nat} {a2 : Nat} {a3 : Nat} {a4 : Int} {μ : Mem} {Q : Option (Option AV) → Mem → Prop}
    (h : mK μ a1 = 10 ∧ ∃ (mc1 ms1 : Nat) (K1 : Int → Mem → Prop), Cl d mc1 ms1 mX9_fresh [vr a1] μ (KI K1) ∧ mc1 ≤ bc ∧ ms1 ≤ bs ∧ (∀ x1 m1, K1 x1 m1 → mK m1 a2 = 11 ∧ ∃ (mc2 ms2 : Nat) (K2 : Int → Mem → Prop), Cl d mc2 ms2 mX10_fresh [vr a2] m1 (KI K2) ∧ mc2 ≤ bc - mc1 ∧ ms2 ≤ bs - ms1 ∧ (∀ x2 m2, K2 x2 m2 → (x1 = x2 → Wp (d + 1) (bc - mc1 - mc2) (bs - ms1 - ms2) mL_law 1933 [some (vr a0), some (vr a1), some (vr a2), some (vr a3), some (vi a4), none, none, none] [] m2 Q) ∧ (¬ x1 = x2 → Q (some (some (vi 0))) m2)))) :
    Wp (d + 1) bc bs mL_law 432 [some (vr a0), some (vr a1), some (vr a2), some (vr a3), some (vi a4), none, none, none] [] μ Q := by
  refine st_aload_n (pc := 432) dL_law_432 rfl rfl ?_
  obtain ⟨hk1, h⟩ := h
  obtain ⟨mc1, ms1, K1, hC, e1, e2, h⟩ := h
  refine sg_VI (pc := 433) (av := []) (st := []) (K := K1) dL_law_433 ck_11_48 rfl (by decide) hk1 (by show (0 : Nat) ≤ 8; decide) hC e1 e2 (fun x1 m1 hK => ?_) rfl
  replace h := h x1 m1 hK
  refine st_aload_n (pc := 436) dL_law_436 rfl rfl ?_
  obtain ⟨hk2, h⟩ := h
  obtain ⟨mc2, ms2, K2, hC, e1, e2, h⟩ := h
  refine sg_VI (pc := 437) (av := []) (st := [vi x1]) (K := K2) dL_law_437 ck_11_52 rfl (by decide) hk2 (by show (1 : Nat) ≤ 8; decide) hC e1 e2 (fun x2 m2 hK => ?_) rfl
  replace h := h x2 m2 hK
  refine st_icmpeq (pc := 440) (tgt := 1933) dL_law_440 rfl (fun c => ?_) (fun c => ?_)
  · replace h := h.1 c
    exact h
  · replace h := h.2 c
    refine sg_iconst (pc := 443) dL_law_443 (by omega) ?_
    exact st_ireturn (pc := 444) dL_law_444 (Or.inr ⟨rfl, by omega⟩) h

theorem sg_L_law_445 {d bc bs : Nat} {a0 : Nat} {a1 : Nat} {a2 : Nat} {a3 : Nat} {a4 : Int} {μ : Mem} {Q : Option (Option AV) → Mem → Prop}
    (h : (mK μ a0 = 20 ∨ (a0 ≠ 0 ∧ mK μ a0 = 40)) ∧ ((0 : Int) ≤ (w32 (a4 + 1)) ∧ (w32 (a4 + 1)) < (mN μ a0 : Int)) ∧ (((0 : Int) ≤ (w32 (a4 + 2)) ∧ (w32 (a4 + 2)) < (mN μ a0 : Int)) ∧ (mK μ a1 = 10 ∧ ∃ (mc1 ms1 : Nat) (K1 : Int → Mem → Prop), Cl d mc1 ms1 mX9_tilt [vr a1, vi (mD μ a0 (w32 (a4 + 1))), vi (mD μ a0 (w32 (a4 + 2)))] μ (KI K1) ∧ mc1 ≤ bc ∧ ms1 ≤ bs ∧ (∀ x1 m1, K1 x1 m1 → (mK m1 a0 = 20 ∨ (a0 ≠ 0 ∧ mK m1 a0 = 40)) ∧ ((0 : Int) ≤ (w32 (a4 + 1)) ∧ (w32 (a4 + 1)) < (mN m1 a0 : Int)) ∧ (((0 : Int) ≤ (w32 (a4 + 2)) ∧ (w32 (a4 + 2)) < (mN m1 a0 : Int)) ∧ (mK m1 a2 = 11 ∧ ∃ (mc2 ms2 : Nat) (K2 : Int → Mem → Prop), Cl d mc2 ms2 mX10_tilt [vr a2, vi (mD m1 a0 (w32 (a4 + 1))), vi (mD m1 a0 (w32 (a4 + 2)))] m1 (KI K2) ∧ mc2 ≤ bc - mc1 ∧ ms2 ≤ bs - ms1 ∧ (∀ x2 m2, K2 x2 m2 → (x1 = x2 → Wp (d + 1) (bc - mc1 - mc2) (bs - ms1 - ms2) mL_law 1933 [some (vr a0), some (vr a1), some (vr a2), some (vr a3), some (vi a4), none, none, none] [] m2 Q) ∧ (¬ x1 = x2 → Q (some (some (vi 0))) m2)))))))) :
    Wp (d + 1) bc bs mL_law 445 [some (vr a0), some (vr a1), some (vr a2), some (vr a3), some (vi a4), none, none, none] [] μ Q := by
  refine st_aload_n (pc := 445) dL_law_445 rfl rfl ?_
  refine st_aload_n (pc := 446) dL_law_446 rfl rfl ?_
  refine st_iload (pc := 447) dL_law_447 rfl ?_
  refine sg_iconst (pc := 449) dL_law_449 (by omega) ?_
  refine st_iadd (pc := 450) dL_law_450 ?_
  obtain ⟨hk1, h⟩ := h
  obtain ⟨h1, h⟩ := h
  refine sg_iaload (pc := 451) dL_law_451 hk1 h1 ?_
  refine st_aload_n (pc := 452) dL_law_452 rfl rfl ?_
  refine st_iload (pc := 453) dL_law_453 rfl ?_
  refine sg_iconst (pc := 455) dL_law_455 (by omega) ?_
  refine st_iadd (pc := 456) dL_law_456 ?_
  obtain ⟨h1, h⟩ := h
  refine sg_iaload (pc := 457) dL_law_457 hk1 h1 ?_
  obtain ⟨hk2, h⟩ := h
  obtain ⟨mc1, ms1, K1, hC, e1, e2, h⟩ := h
  refine sg_VI (pc := 458) (av := [vi (mD μ a0 (w32 (a4 + 1))), vi (mD μ a0 (w32 (a4 + 2)))]) (st := []) (K := K1) dL_law_458 ck_11_53 rfl (by decide) hk2 (by show (0 : Nat) ≤ 8; decide) hC e1 e2 (fun x1 m1 hK => ?_) rfl
  replace h := h x1 m1 hK
  refine st_aload_n (pc := 461) dL_law_461 rfl rfl ?_
  refine st_aload_n (pc := 462) dL_law_462 rfl rfl ?_
  refine st_iload (pc := 463) dL_law_463 rfl ?_
  refine sg_iconst (pc := 465) dL_law_465 (by omega) ?_
  refine st_iadd (pc := 466) dL_law_466 ?_
  obtain ⟨hk3, h⟩ := h
  obtain ⟨h1, h⟩ := h
  refine sg_iaload (pc := 467) dL_law_467 hk3 h1 ?_
  refine st_aload_n (pc := 468) dL_law_468 rfl rfl ?_
  refine st_iload (pc := 469) dL_law_469 rfl ?_
  refine sg_iconst (pc := 471) dL_law_471 (by omega) ?_
  refine st_iadd (pc := 472) dL_law_472 ?_
  obtain ⟨h1, h⟩ := h
  refine sg_iaload (pc := 473) dL_law_473 hk3 h1 ?_
  obtain ⟨hk4, h⟩ := h
  obtain ⟨mc2, ms2, K2, hC, e1, e2, h⟩ := h
  refine sg_VI (pc := 474) (av := [vi (mD m1 a0 (w32 (a4 + 1))), vi (mD m1 a0 (w32 (a4 + 2)))]) (st := [vi x1]) (K := K2) dL_law_474 ck_11_57 rfl (by decide) hk4 (by show (1 : Nat) ≤ 8; decide) hC e1 e2 (fun x2 m2 hK => ?_) rfl
  replace h := h x2 m2 hK
  refine st_icmpeq (pc := 477) (tgt := 1933) dL_law_477 rfl (fun c => ?_) (fun c => ?_)
  · replace h := h.1 c
    exact h
  · replace h := h.2 c
    refine sg_iconst (pc := 480) dL_law_480 (by omega) ?_
    exact st_ireturn (pc := 481) dL_law_481 (Or.inr ⟨rfl, by omega⟩) h

theorem sg_L_law_482 {d bc bs : Nat} {a0 : Nat} {a1 : Nat} {a2 : Nat} {a3 : Nat} {a4 : Int} {μ : Mem} {Q : Option (Option AV) → Mem → Prop}
    (h : (mK μ a0 = 20 ∨ (a0 ≠ 0 ∧ mK μ a0 = 40)) ∧ ((0 : Int) ≤ (w32 (a4 + 1)) ∧ (w32 (a4 + 1)) < (mN μ a0 : Int)) ∧ (((0 : Int) ≤ (w32 (a4 + 2)) ∧ (w32 (a4 + 2)) < (mN μ a0 : Int)) ∧ (mK μ a1 = 10 ∧ ∃ (mc1 ms1 : Nat) (K1 : Int → Mem → Prop), Cl d mc1 ms1 mX9_tick [vr a1, vi (mD μ a0 (w32 (a4 + 1))), vi (mD μ a0 (w32 (a4 + 2)))] μ (KI K1) ∧ mc1 ≤ bc ∧ ms1 ≤ bs ∧ (∀ x1 m1, K1 x1 m1 → (mK m1 a0 = 20 ∨ (a0 ≠ 0 ∧ mK m1 a0 = 40)) ∧ ((0 : Int) ≤ (w32 (a4 + 1)) ∧ (w32 (a4 + 1)) < (mN m1 a0 : Int)) ∧ (((0 : Int) ≤ (w32 (a4 + 2)) ∧ (w32 (a4 + 2)) < (mN m1 a0 : Int)) ∧ (mK m1 a2 = 11 ∧ ∃ (mc2 ms2 : Nat) (K2 : Int → Mem → Prop), Cl d mc2 ms2 mX10_tick [vr a2, vi (mD m1 a0 (w32 (a4 + 1))), vi (mD m1 a0 (w32 (a4 + 2)))] m1 (KI K2) ∧ mc2 ≤ bc - mc1 ∧ ms2 ≤ bs - ms1 ∧ (∀ x2 m2, K2 x2 m2 → (x1 = x2 → Wp (d + 1) (bc - mc1 - mc2) (bs - ms1 - ms2) mL_law 1933 [some (vr a0), some (vr a1), some (vr a2), some (vr a3), some (vi a4), none, none, none] [] m2 Q) ∧ (¬ x1 = x2 → Q (some (some (vi 0))) m2)))))))) :
    Wp (d + 1) bc bs mL_law 482 [some (vr a0), some (vr a1), some (vr a2), some (vr a3), some (vi a4), none, none, none] [] μ Q := by
  refine st_aload_n (pc := 482) dL_law_482 rfl rfl ?_
  refine st_aload_n (pc := 483) dL_law_483 rfl rfl ?_
  refine st_iload (pc := 484) dL_law_484 rfl ?_
  refine sg_iconst (pc := 486) dL_law_486 (by omega) ?_
  refine st_iadd (pc := 487) dL_law_487 ?_
  obtain ⟨hk1, h⟩ := h
  obtain ⟨h1, h⟩ := h
  refine sg_iaload (pc := 488) dL_law_488 hk1 h1 ?_
  refine st_aload_n (pc := 489) dL_law_489 rfl rfl ?_
  refine st_iload (pc := 490) dL_law_490 rfl ?_
  refine sg_iconst (pc := 492) dL_law_492 (by omega) ?_
  refine st_iadd (pc := 493) dL_law_493 ?_
  obtain ⟨h1, h⟩ := h
  refine sg_iaload (pc := 494) dL_law_494 hk1 h1 ?_
  obtain ⟨hk2, h⟩ := h
  obtain ⟨mc1, ms1, K1, hC, e1, e2, h⟩ := h
  refine sg_VI (pc := 495) (av := [vi (mD μ a0 (w32 (a4 + 1))), vi (mD μ a0 (w32 (a4 + 2)))]) (st := []) (K := K1) dL_law_495 ck_11_58 rfl (by decide) hk2 (by show (0 : Nat) ≤ 8; decide) hC e1 e2 (fun x1 m1 hK => ?_) rfl
  replace h := h x1 m1 hK
  refine st_aload_n (pc := 498) dL_law_498 rfl rfl ?_
  refine st_aload_n (pc := 499) dL_law_499 rfl rfl ?_
  refine st_iload (pc := 500) dL_law_500 rfl ?_
  refine sg_iconst (pc := 502) dL_law_502 (by omega) ?_
  refine st_iadd (pc := 503) dL_law_503 ?_
  obtain ⟨hk3, h⟩ := h
  obtain ⟨h1, h⟩ := h
  refine sg_iaload (pc := 504) dL_law_504 hk3 h1 ?_
  refine st_aload_n (pc := 505) dL_law_505 rfl rfl ?_
  refine st_iload (pc := 506) dL_law_506 rfl ?_
  refine sg_iconst (pc := 508) dL_law_508 (by omega) ?_
  refine st_iadd (pc := 509) dL_law_509 ?_
  obtain ⟨h1, h⟩ := h
  refine sg_iaload (pc := 510) dL_law_510 hk3 h1 ?_
  obtain ⟨hk4, h⟩ := h
  obtain ⟨mc2, ms2, K2, hC, e1, e2, h⟩ := h
  refine sg_VI (pc := 511) (av := [vi (mD m1 a0 (w32 (a4 + 1))), vi (mD m1 a0 (w32 (a4 + 2)))]) (st := [vi x1]) (K := K2) dL_law_511 ck_11_61 rfl (by decide) hk4 (by show (1 : Nat) ≤ 8; decide) hC e1 e2 (fun x2 m2 hK => ?_) rfl
  replace h := h x2 m2 hK
  refine st_icmpeq (pc := 514) (tgt := 1933) dL_law_514 rfl (fun c => ?_) (fun c => ?_)
  · replace h := h.1 c
    exact h
  · replace h := h.2 c
    refine sg_iconst (pc := 517) dL_law_517 (by omega) ?_
    exact st_ireturn (pc := 518) dL_law_518 (Or.inr ⟨rfl, by omega⟩) h

theorem sg_L_law_519 {d bc bs : Nat} {a0 : Nat} {a1 : Nat} {a2 : Nat} {a3 : Nat} {a4 : Int} {μ : Mem} {Q : Option (Option AV) → Mem → Prop}
    (h : (mK μ a0 = 20 ∨ (a0 ≠ 0 ∧ mK μ a0 = 40)) ∧ ((0 : Int) ≤ (w32 (a4 + 1)) ∧ (w32 (a4 + 1)) < (mN μ a0 : Int)) ∧ (((0 : Int) ≤ (w32 (a4 + 2)) ∧ (w32 (a4 + 2)) < (mN μ a0 : Int)) ∧ (((0 : Int) ≤ (w32 (a4 + 3)) ∧ (w32 (a4 + 3)) < (mN μ a0 : Int)) ∧ (∃ (mc1 ms1 : Nat) (K1 : Int → Mem → Prop), Cl d mc1 ms1 mL_cell [vr a1, vi (mD μ a0 (w32 (a4 + 1))), vi (mD μ a0 (w32 (a4 + 2))), vi (mD μ a0 (w32 (a4 + 3))), vr a3] μ (KI K1) ∧ mc1 ≤ bc ∧ ms1 ≤ bs ∧ (∀ x1 m1, K1 x1 m1 → (mK m1 a0 = 20 ∨ (a0 ≠ 0 ∧ mK m1 a0 = 40)) ∧ ((0 : Int) ≤ (w32 (a4 + 1)) ∧ (w32 (a4 + 1)) < (mN m1 a0 : Int)) ∧ (((0 : Int) ≤ (w32 (a4 + 2)) ∧ (w32 (a4 + 2)) < (mN m1 a0 : Int)) ∧ (((0 : Int) ≤ (w32 (a4 + 3)) ∧ (w32 (a4 + 3)) < (mN m1 a0 : Int)) ∧ (mK m1 a2 = 11 ∧ ∃ (mc2 ms2 : Nat) (K2 : Int → Mem → Prop), Cl d mc2 ms2 mX10_cell [vr a2, vi (mD m1 a0 (w32 (a4 + 1))), vi (mD m1 a0 (w32 (a4 + 2))), vi (mD m1 a0 (w32 (a4 + 3)))] m1 (KI K2) ∧ mc2 ≤ bc - mc1 ∧ ms2 ≤ bs - ms1 ∧ (∀ x2 m2, K2 x2 m2 → mK m2 a2 = 11 ∧ ∃ (mc3 ms3 : Nat) (K3 : Int → Mem → Prop), Cl d mc3 ms3 mX10_thrown [vr a2] m2 (KI K3) ∧ mc3 ≤ bc - mc1 - mc2 ∧ ms3 ≤ bs - ms1 - ms2 ∧ (∀ x3 m3, K3 x3 m3 → (x3 = x1 → (¬ x1 = 0 → Wp (d + 1) (bc - mc1 - mc2 - mc3) (bs - ms1 - ms2 - ms3) mL_law 1933 [some (vr a0), some (vr a1), some (vr a2), some (vr a3), some (vi a4), none, none, none] [] m3 Q) ∧ (x1 = 0 → mK m3 a3 = 21 ∧ ((0 : Int) ≤ 0 ∧ 0 < (mN m3 a3 : Int)) ∧ (((if x2 < mD m3 a3 0 then 1 else if mD m3 a3 0 = x2 then 0 else -1) = 0 → Wp (d + 1) (bc - mc1 - mc2 - mc3) (bs - ms1 - ms2 - ms3) mL_law 1933 [some (vr a0), some (vr a1), some (vr a2), some (vr a3), some (vi a4), none, none, none] [] m3 Q) ∧ (¬ (if x2 < mD m3 a3 0 then 1 else if mD m3 a3 0 = x2 then 0 else -1) = 0 → Q (some (some (vi 0))) m3)))) ∧ (¬ x3 = x1 → Q (some (some (vi 0))) m3))))))))))) :
    Wp (d + 1) bc bs mL_law 519 [some (vr a0), some (vr a1), some (vr a2), some (vr a3), some (vi a4), none, none, none] [] μ Q := by
  refine st_aload_n (pc := 519) dL_law_519 rfl rfl ?_
  refine st_aload_n (pc := 520) dL_law_520 rfl rfl ?_
  refine st_iload (pc := 521) dL_law_521 rfl ?_
  refine sg_iconst (pc := 523) dL_law_523 (by omega) ?_
  refine st_iadd (pc := 524) dL_law_524 ?_
  obtain ⟨hk1, h⟩ := h
  obtain ⟨h1, h⟩ := h
  refine sg_iaload (pc := 525) dL_law_525 hk1 h1 ?_
  refine st_aload_n (pc := 526) dL_law_526 rfl rfl ?_
  refine st_iload (pc := 527) dL_law_527 rfl ?_
  refine sg_iconst (pc := 529) dL_law_529 (by omega) ?_
  refine st_iadd (pc := 530) dL_law_530 ?_
  obtain ⟨h1, h⟩ := h
  refine sg_iaload (pc := 531) dL_law_531 hk1 h1 ?_
  refine st_aload_n (pc := 532) dL_law_532 rfl rfl ?_
  refine st_iload (pc := 533) dL_law_533 rfl ?_
  refine sg_iconst (pc := 535) dL_law_535 (by omega) ?_
  refine st_iadd (pc := 536) dL_law_536 ?_
  obtain ⟨h1, h⟩ := h
  refine sg_iaload (pc := 537) dL_law_537 hk1 h1 ?_
  refine st_aload_n (pc := 538) dL_law_538 rfl rfl ?_
  obtain ⟨mc1, ms1, K1, hC, e1, e2, h⟩ := h
  refine sg_HI (pc := 539) (av := [vr a1, vi (mD μ a0 (w32 (a4 + 1))), vi (mD μ a0 (w32 (a4 + 2))), vi (mD μ a0 (w32 (a4 + 3))), vr a3]) (st := []) (K := K1) dL_law_539 ck_11_62 rfl (by show (0 : Nat) ≤ 8; decide) hC e1 e2 (fun x1 m1 hK => ?_) rfl
  replace h := h x1 m1 hK
  refine sg_istore (pc := 542) (ls' := [some (vr a0), some (vr a1), some (vr a2), some (vr a3), some (vi a4), some (vi x1), none, none]) dL_law_542 (by show (5 : Nat) < 8; decide) rfl ?_
  refine st_aload_n (pc := 544) dL_law_544 rfl rfl ?_
  refine st_aload_n (pc := 545) dL_law_545 rfl rfl ?_
  refine st_iload (pc := 546) dL_law_546 rfl ?_
  refine sg_iconst (pc := 548) dL_law_548 (by omega) ?_
  refine st_iadd (pc := 549) dL_law_549 ?_
  obtain ⟨hk2, h⟩ := h
  obtain ⟨h1, h⟩ := h
  refine sg_iaload (pc := 550) dL_law_550 hk2 h1 ?_
  refine st_aload_n (pc := 551) dL_law_551 rfl rfl ?_
  refine st_iload (pc := 552) dL_law_552 rfl ?_
  refine sg_iconst (pc := 554) dL_law_554 (by omega) ?_
  refine st_iadd (pc := 555) dL_law_555 ?_
  obtain ⟨h1, h⟩ := h
  refine sg_iaload (pc := 556) dL_law_556 hk2 h1 ?_
  refine st_aload_n (pc := 557) dL_law_557 rfl rfl ?_
  refine st_iload (pc := 558) dL_law_558 rfl ?_
  refine sg_iconst (pc := 560) dL_law_560 (by omega) ?_
  refine st_iadd (pc := 561) dL_law_561 ?_
  obtain ⟨h1, h⟩ := h
  refine sg_iaload (pc := 562) dL_law_562 hk2 h1 ?_
  obtain ⟨hk3, h⟩ := h
  obtain ⟨mc2, ms2, K2, hC, e1, e2, h⟩ := h
  refine sg_VI (pc := 563) (av := [vi (mD m1 a0 (w32 (a4 + 1))), vi (mD m1 a0 (w32 (a4 + 2))), vi (mD m1 a0 (w32 (a4 + 3)))]) (st := []) (K := K2) dL_law_563 ck_11_67 rfl (by decide) hk3 (by show (0 : Nat) ≤ 8; decide) hC e1 e2 (fun x2 m2 hK => ?_) rfl
  replace h := h x2 m2 hK
  refine sg_istore (pc := 566) (ls' := [some (vr a0), some (vr a1), some (vr a2), some (vr a3), some (vi a4), some (vi x1), some (vi x2), none]) dL_law_566 (by show (6 : Nat) < 8; decide) rfl ?_
  refine st_aload_n (pc := 568) dL_law_568 rfl rfl ?_
  obtain ⟨hk4, h⟩ := h
  obtain ⟨mc3, ms3, K3, hC, e1, e2, h⟩ := h
  refine sg_VI (pc := 569) (av := []) (st := []) (K := K3) dL_law_569 ck_11_68 rfl (by decide) hk4 (by show (0 : Nat) ≤ 8; decide) hC e1 e2 (fun x3 m3 hK => ?_) rfl
  replace h := h x3 m3 hK
  refine st_iload (pc := 572) dL_law_572 rfl ?_
  refine st_icmpeq (pc := 574) (tgt := 579) dL_law_574 rfl (fun c => ?_) (fun c => ?_)
  · replace h := h.1 c
    refine st_iload (pc := 579) dL_law_579 rfl ?_
    refine st_ifne (pc := 581) (tgt := 596) dL_law_581 rfl (fun c => ?_) (fun c => ?_)
    · replace h := h.1 c
      refine st_goto (pc := 596) dL_law_596 rfl ?_
      refine Wp.drop 5 rfl ?_
      refine Wp.drop 6 rfl ?_
      exact h
    · replace h := h.2 c
      refine st_aload_n (pc := 584) dL_law_584 rfl rfl ?_
      refine sg_iconst (pc := 585) dL_law_585 (by omega) ?_
      obtain ⟨hk5, h⟩ := h
      obtain ⟨h1, h⟩ := h
      refine st_laload (pc := 586) dL_law_586 hk5 h1.1 h1.2 ?_
      refine st_iload (pc := 587) dL_law_587 rfl ?_
      refine st_i2l (pc := 589) dL_law_589 ?_
      refine st_lcmp (pc := 590) dL_law_590 ?_
      refine st_ifeq (pc := 591) (tgt := 596) dL_law_591 rfl (fun c => ?_) (fun c => ?_)
      · replace h := h.1 c
        refine st_goto (pc := 596) dL_law_596 rfl ?_
        refine Wp.drop 5 rfl ?_
        refine Wp.drop 6 rfl ?_
        exact h
      · replace h := h.2 c
        refine sg_iconst (pc := 594) dL_law_594 (by omega) ?_
        exact st_ireturn (pc := 595) dL_law_595 (Or.inr ⟨rfl, by omega⟩) h
  · replace h := h.2 c
    refine sg_iconst (pc := 577) dL_law_577 (by omega) ?_
    exact st_ireturn (pc := 578) dL_law_578 (Or.inr ⟨rfl, by omega⟩) h

theorem sg_L_law_599 {d bc bs : Nat} {a0 : Nat} {a1 : Nat} {a2 : Nat} {a3 : Nat} {a4 : Int} {μ : Mem} {Q : Option (Option AV) → Mem → Prop}
    (h : (mK μ a0 = 20 ∨ (a0 ≠ 0 ∧ mK μ a0 = 40)) ∧ ((0 : Int) ≤ (w32 (a4 + 1)) ∧ (w32 (a4 + 1)) < (mN μ a0 : Int)) ∧ (((0 : Int) ≤ (w32 (a4 + 2)) ∧ (w32 (a4 + 2)) < (mN μ a0 : Int)) ∧ (∃ (mc1 ms1 : Nat) (K1 : Int → Mem → Prop), Cl d mc1 ms1 mL_of [vr a1, vi (mD μ a0 (w32 (a4 + 1))), vi (mD μ a0 (w32 (a4 + 2))), vr a3] μ (KI K1) ∧ mc1 ≤ bc ∧ ms1 ≤ bs ∧ (∀ x1 m1, K1 x1 m1 → (mK m1 a0 = 20 ∨ (a0 ≠ 0 ∧ mK m1 a0 = 40)) ∧ ((0 : Int) ≤ (w32 (a4 + 1)) ∧ (w32 (a4 + 1)) < (mN m1 a0 : Int)) ∧ (((0 : Int) ≤ (w32 (a4 + 2)) ∧ (w32 (a4 + 2)) < (mN m1 a0 : Int)) ∧ (mK m1 a2 = 11 ∧ ∃ (mc2 ms2 : Nat) (K2 : Int → Mem → Prop), Cl d mc2 ms2 mX10_of [vr a2, vi (mD m1 a0 (w32 (a4 + 1))), vi (mD m1 a0 (w32 (a4 + 2)))] m1 (KI K2) ∧ mc2 ≤ bc - mc1 ∧ ms2 ≤ bs - ms1 ∧ (∀ x2 m2, K2 x2 m2 → mK m2 a2 = 11 ∧ ∃ (mc3 ms3 : Nat) (K3 : Int → Mem → Prop), Cl d mc3 ms3 mX10_thrown [vr a2] m2 (KI K3) ∧ mc3 ≤ bc - mc1 - mc2 ∧ ms3 ≤ bs - ms1 - ms2 ∧ (∀ x3 m3, K3 x3 m3 → (x3 = x1 → (¬ x1 = 0 → Wp (d + 1) (bc - mc1 - mc2 - mc3) (bs - ms1 - ms2 - ms3) mL_law 1933 [some (vr a0), some (vr a1), some (vr a2), some (vr a3), some (vi a4), none, none, none] [] m3 Q) ∧ (x1 = 0 → mK m3 a3 = 21 ∧ ((0 : Int) ≤ 0 ∧ 0 < (mN m3 a3 : Int)) ∧ (((if x2 < mD m3 a3 0 then 1 else if mD m3 a3 0 = x2 then 0 else -1) = 0 → Wp (d + 1) (bc - mc1 - mc2 - mc3) (bs - ms1 - ms2 - ms3) mL_law 1933 [some (vr a0), some (vr a1), some (vr a2), some (vr a3), some (vi a4), none, none, none] [] m3 Q) ∧ (¬ (if x2 < mD m3 a3 0 then 1 else if mD m3 a3 0 = x2 then 0 else -1) = 0 → Q (some (some (vi 0))) m3)))) ∧ (¬ x3 = x1 → Q (some (some (vi 0))) m3))))))))) :
    Wp (d + 1) bc bs mL_law 599 [some (vr a0), some (vr a1), some (vr a2), some (vr a3), some (vi a4), none, none, none] [] μ Q := by
  refine st_aload_n (pc := 599) dL_law_599 rfl rfl ?_
  refine st_aload_n (pc := 600) dL_law_600 rfl rfl ?_
  refine st_iload (pc := 601) dL_law_601 rfl ?_
  refine sg_iconst (pc := 603) dL_law_603 (by omega) ?_
  refine st_iadd (pc := 604) dL_law_604 ?_
  obtain ⟨hk1, h⟩ := h
  obtain ⟨h1, h⟩ := h
  refine sg_iaload (pc := 605) dL_law_605 hk1 h1 ?_
  refine st_aload_n (pc := 606) dL_law_606 rfl rfl ?_
  refine st_iload (pc := 607) dL_law_607 rfl ?_
  refine sg_iconst (pc := 609) dL_law_609 (by omega) ?_
  refine st_iadd (pc := 610) dL_law_610 ?_
  obtain ⟨h1, h⟩ := h
  refine sg_iaload (pc := 611) dL_law_611 hk1 h1 ?_
  refine st_aload_n (pc := 612) dL_law_612 rfl rfl ?_
  obtain ⟨mc1, ms1, K1, hC, e1, e2, h⟩ := h
  refine sg_HI (pc := 613) (av := [vr a1, vi (mD μ a0 (w32 (a4 + 1))), vi (mD μ a0 (w32 (a4 + 2))), vr a3]) (st := []) (K := K1) dL_law_613 ck_11_71 rfl (by show (0 : Nat) ≤ 8; decide) hC e1 e2 (fun x1 m1 hK => ?_) rfl
  replace h := h x1 m1 hK
  refine sg_istore (pc := 616) (ls' := [some (vr a0), some (vr a1), some (vr a2), some (vr a3), some (vi a4), some (vi x1), none, none]) dL_law_616 (by show (5 : Nat) < 8; decide) rfl ?_
  refine st_aload_n (pc := 618) dL_law_618 rfl rfl ?_
  refine st_aload_n (pc := 619) dL_law_619 rfl rfl ?_
  refine st_iload (pc := 620) dL_law_620 rfl ?_
  refine sg_iconst (pc := 622) dL_law_622 (by omega) ?_
  refine st_iadd (pc := 623) dL_law_623 ?_
  obtain ⟨hk2, h⟩ := h
  obtain ⟨h1, h⟩ := h
  refine sg_iaload (pc := 624) dL_law_624 hk2 h1 ?_
  refine st_aload_n (pc := 625) dL_law_625 rfl rfl ?_
  refine st_iload (pc := 626) dL_law_626 rfl ?_
  refine sg_iconst (pc := 628) dL_law_628 (by omega) ?_
  refine st_iadd (pc := 629) dL_law_629 ?_
  obtain ⟨h1, h⟩ := h
  refine sg_iaload (pc := 630) dL_law_630 hk2 h1 ?_
  obtain ⟨hk3, h⟩ := h
  obtain ⟨mc2, ms2, K2, hC, e1, e2, h⟩ := h
  refine sg_VI (pc := 631) (av := [vi (mD m1 a0 (w32 (a4 + 1))), vi (mD m1 a0 (w32 (a4 + 2)))]) (st := []) (K := K2) dL_law_631 ck_11_74 rfl (by decide) hk3 (by show (0 : Nat) ≤ 8; decide) hC e1 e2 (fun x2 m2 hK => ?_) rfl
  replace h := h x2 m2 hK
  refine sg_istore (pc := 634) (ls' := [some (vr a0), some (vr a1), some (vr a2), some (vr a3), some (vi a4), some (vi x1), some (vi x2), none]) dL_law_634 (by show (6 : Nat) < 8; decide) rfl ?_
  refine st_aload_n (pc := 636) dL_law_636 rfl rfl ?_
  obtain ⟨hk4, h⟩ := h
  obtain ⟨mc3, ms3, K3, hC, e1, e2, h⟩ := h
  refine sg_VI (pc := 637) (av := []) (st := []) (K := K3) dL_law_637 ck_11_68 rfl (by decide) hk4 (by show (0 : Nat) ≤ 8; decide) hC e1 e2 (fun x3 m3 hK => ?_) rfl
  replace h := h x3 m3 hK
  refine st_iload (pc := 640) dL_law_640 rfl ?_
  refine st_icmpeq (pc := 642) (tgt := 647) dL_law_642 rfl (fun c => ?_) (fun c => ?_)
  · replace h := h.1 c
    refine st_iload (pc := 647) dL_law_647 rfl ?_
    refine st_ifne (pc := 649) (tgt := 664) dL_law_649 rfl (fun c => ?_) (fun c => ?_)
    · replace h := h.1 c
      refine st_goto (pc := 664) dL_law_664 rfl ?_
      refine Wp.drop 5 rfl ?_
      refine Wp.drop 6 rfl ?_
      exact h
    · replace h := h.2 c
      refine st_aload_n (pc := 652) dL_law_652 rfl rfl ?_
      refine sg_iconst (pc := 653) dL_law_653 (by omega) ?_
      obtain ⟨hk5, h⟩ := h
      obtain ⟨h1, h⟩ := h
      refine st_laload (pc := 654) dL_law_654 hk5 h1.1 h1.2 ?_
      refine st_iload (pc := 655) dL_law_655 rfl ?_
      refine st_i2l (pc := 657) dL_law_657 ?_
      refine st_lcmp (pc := 658) dL_law_658 ?_
      refine st_ifeq (pc := 659) (tgt := 664) dL_law_659 rfl (fun c => ?_) (fun c => ?_)
      · replace h := h.1 c
        refine st_goto (pc := 664) dL_law_664 rfl ?_
        refine Wp.drop 5 rfl ?_
        refine Wp.drop 6 rfl ?_
        exact h
      · replace h := h.2 c
        refine sg_iconst (pc := 662) dL_law_662 (by omega) ?_
        exact st_ireturn (pc := 663) dL_law_663 (Or.inr ⟨rfl, by omega⟩) h
  · replace h := h.2 c
    refine sg_iconst (pc := 645) dL_law_645 (by omega) ?_
    exact st_ireturn (pc := 646) dL_law_646 (Or.inr ⟨rfl, by omega⟩) h

theorem sg_L_law_667 {d bc bs : Nat} {a0 : Nat} {a1 : Nat} {a2 : Nat} {a3 : Nat} {a4 : Int} {μ : Mem} {Q : Option (Option AV) → Mem → Prop}
    (h : (mK μ a0 = 20 ∨ (a0 ≠ 0 ∧ mK μ a0 = 40)) ∧ ((0 : Int) ≤ (w32 (a4 + 1)) ∧ (w32 (a4 + 1)) < (mN μ a0 : Int)) ∧ (mK μ a1 = 10 ∧ ∃ (mc1 ms1 : Nat) (K1 : Int → Mem → Prop), Cl d mc1 ms1 mX9_sign [vr a1, vi (mD μ a0 (w32 (a4 + 1)))] μ (KI K1) ∧ mc1 ≤ bc ∧ ms1 ≤ bs ∧ (∀ x1 m1, K1 x1 m1 → (mK m1 a0 = 20 ∨ (a0 ≠ 0 ∧ mK m1 a0 = 40)) ∧ ((0 : Int) ≤ (w32 (a4 + 1)) ∧ (w32 (a4 + 1)) < (mN m1 a0 : Int)) ∧ (mK m1 a2 = 11 ∧ ∃ (mc2 ms2 : Nat) (K2 : Int → Mem → Prop), Cl d mc2 ms2 mX10_sign [vr a2, vi (mD m1 a0 (w32 (a4 + 1)))] m1 (KI K2) ∧ mc2 ≤ bc - mc1 ∧ ms2 ≤ bs - ms1 ∧ (∀ x2 m2, K2 x2 m2 → (x1 = x2 → Wp (d + 1) (bc - mc1 - mc2) (bs - ms1 - ms2) mL_law 1933 [some (vr a0), some (vr a1), some (vr a2), some (vr a3), some (vi a4), none, none, none] [] m2 Q) ∧ (¬ x1 = x2 → Q (some (some (vi 0))) m2)))))) :
    Wp (d + 1) bc bs mL_law 667 [some (vr a0), some (vr a1), some (vr a2), some (vr a3), some (vi a4), none, none, none] [] μ Q := by
  refine st_aload_n (pc := 667) dL_law_667 rfl rfl ?_
  refine st_aload_n (pc := 668) dL_law_668 rfl rfl ?_
  refine st_iload (pc := 669) dL_law_669 rfl ?_
  refine sg_iconst (pc := 671) dL_law_671 (by omega) ?_
  refine st_iadd (pc := 672) dL_law_672 ?_
  obtain ⟨hk1, h⟩ := h
  obtain ⟨h1, h⟩ := h
  refine sg_iaload (pc := 673) dL_law_673 hk1 h1 ?_
  obtain ⟨hk2, h⟩ := h
  obtain ⟨mc1, ms1, K1, hC, e1, e2, h⟩ := h
  refine sg_VI (pc := 674) (av := [vi (mD μ a0 (w32 (a4 + 1)))]) (st := []) (K := K1) dL_law_674 ck_11_75 rfl (by decide) hk2 (by show (0 : Nat) ≤ 8; decide) hC e1 e2 (fun x1 m1 hK => ?_) rfl
  replace h := h x1 m1 hK
  refine st_aload_n (pc := 677) dL_law_677 rfl rfl ?_
  refine st_aload_n (pc := 678) dL_law_678 rfl rfl ?_
  refine st_iload (pc := 679) dL_law_679 rfl ?_
  refine sg_iconst (pc := 681) dL_law_681 (by omega) ?_
  refine st_iadd (pc := 682) dL_law_682 ?_
  obtain ⟨hk3, h⟩ := h
  obtain ⟨h1, h⟩ := h
  refine sg_iaload (pc := 683) dL_law_683 hk3 h1 ?_
  obtain ⟨hk4, h⟩ := h
  obtain ⟨mc2, ms2, K2, hC, e1, e2, h⟩ := h
  refine sg_VI (pc := 684) (av := [vi (mD m1 a0 (w32 (a4 + 1)))]) (st := [vi x1]) (K := K2) dL_law_684 ck_11_79 rfl (by decide) hk4 (by show (1 : Nat) ≤ 8; decide) hC e1 e2 (fun x2 m2 hK => ?_) rfl
  replace h := h x2 m2 hK
  refine st_icmpeq (pc := 687) (tgt := 1933) dL_law_687 rfl (fun c => ?_) (fun c => ?_)
  · replace h := h.1 c
    exact h
  · replace h := h.2 c
    refine sg_iconst (pc := 690) dL_law_690 (by omega) ?_
    exact st_ireturn (pc := 691) dL_law_691 (Or.inr ⟨rfl, by omega⟩) h

theorem sg_L_law_692 {d bc bs : Nat} {a0 : Nat} {a1 : Nat} {a2 : Nat} {a3 : Nat} {a4 : Int} {μ : Mem} {Q : Option (Option AV) → Mem → Prop}
    (h : (mK μ a0 = 20 ∨ (a0 ≠ 0 ∧ mK μ a0 = 40)) ∧ ((0 : Int) ≤ (w32 (a4 + 1)) ∧ (w32 (a4 + 1)) < (mN μ a0 : Int)) ∧ (mK μ a1 = 10 ∧ ∃ (mc1 ms1 : Nat) (K1 : Int → Mem → Prop), Cl d mc1 ms1 mX9_end [vr a1, vi (mD μ a0 (w32 (a4 + 1)))] μ (KI K1) ∧ mc1 ≤ bc ∧ ms1 ≤ bs ∧ (∀ x1 m1, K1 x1 m1 → (mK m1 a0 = 20 ∨ (a0 ≠ 0 ∧ mK m1 a0 = 40)) ∧ ((0 : Int) ≤ (w32 (a4 + 1)) ∧ (w32 (a4 + 1)) < (mN m1 a0 : Int)) ∧ (mK m1 a2 = 11 ∧ ∃ (mc2 ms2 : Nat) (K2 : Int → Mem → Prop), Cl d mc2 ms2 mX10_end [vr a2, vi (mD m1 a0 (w32 (a4 + 1)))] m1 (KI K2) ∧ mc2 ≤ bc - mc1 ∧ ms2 ≤ bs - ms1 ∧ (∀ x2 m2, K2 x2 m2 → (x1 = x2 → Wp (d + 1) (bc - mc1 - mc2) (bs - ms1 - ms2) mL_law 1933 [some (vr a0), some (vr a1), some (vr a2), some (vr a3), some (vi a4), none, none, none] [] m2 Q) ∧ (¬ x1 = x2 → Q (some (some (vi 0))) m2)))))) :
    Wp (d + 1) bc bs mL_law 692 [some (vr a0), some (vr a1), some (vr a2), some (vr a3), some (vi a4), none, none, none] [] μ Q := by
  refine st_aload_n (pc := 692) dL_law_692 rfl rfl ?_
  refine st_aload_n (pc := 693) dL_law_693 rfl rfl ?_
  refine st_iload (pc := 694) dL_law_694 rfl ?_
  refine sg_iconst (pc := 696) dL_law_696 (by omega) ?_
  refine st_iadd (pc := 697) dL_law_697 ?_
  obtain ⟨hk1, h⟩ := h
  obtain ⟨h1, h⟩ := h
  refine sg_iaload (pc := 698) dL_law_698 hk1 h1 ?_
  obtain ⟨hk2, h⟩ := h
  obtain ⟨mc1, ms1, K1, hC, e1, e2, h⟩ := h
  refine sg_VI (pc := 699) (av := [vi (mD μ a0 (w32 (a4 + 1)))]) (st := []) (K := K1) dL_law_699 ck_11_80 rfl (by decide) hk2 (by show (0 : Nat) ≤ 8; decide) hC e1 e2 (fun x1 m1 hK => ?_) rfl
  replace h := h x1 m1 hK
  refine st_aload_n (pc := 702) dL_law_702 rfl rfl ?_
  refine st_aload_n (pc := 703) dL_law_703 rfl rfl ?_
  refine st_iload (pc := 704) dL_law_704 rfl ?_
  refine sg_iconst (pc := 706) dL_law_706 (by omega) ?_
  refine st_iadd (pc := 707) dL_law_707 ?_
  obtain ⟨hk3, h⟩ := h
  obtain ⟨h1, h⟩ := h
  refine sg_iaload (pc := 708) dL_law_708 hk3 h1 ?_
  obtain ⟨hk4, h⟩ := h
  obtain ⟨mc2, ms2, K2, hC, e1, e2, h⟩ := h
  refine sg_VI (pc := 709) (av := [vi (mD m1 a0 (w32 (a4 + 1)))]) (st := [vi x1]) (K := K2) dL_law_709 ck_11_84 rfl (by decide) hk4 (by show (1 : Nat) ≤ 8; decide) hC e1 e2 (fun x2 m2 hK => ?_) rfl
  replace h := h x2 m2 hK
  refine st_icmpeq (pc := 712) (tgt := 1933) dL_law_712 rfl (fun c => ?_) (fun c => ?_)
  · replace h := h.1 c
    exact h
  · replace h := h.2 c
    refine sg_iconst (pc := 715) dL_law_715 (by omega) ?_
    exact st_ireturn (pc := 716) dL_law_716 (Or.inr ⟨rfl, by omega⟩) h

theorem sg_L_law_717 {d bc bs : Nat} {a0 : Nat} {a1 : Nat} {a2 : Nat} {a3 : Nat} {a4 : Int} {μ : Mem} {Q : Option (Option AV) → Mem → Prop}
    (h : (mK μ a0 = 20 ∨ (a0 ≠ 0 ∧ mK μ a0 = 40)) ∧ ((0 : Int) ≤ (w32 (a4 + 1)) ∧ (w32 (a4 + 1)) < (mN μ a0 : Int)) ∧ (mK μ a1 = 10 ∧ ∃ (mc1 ms1 : Nat) (K1 : Int → Mem → Prop), Cl d mc1 ms1 mX9_walk [vr a1, vi (mD μ a0 (w32 (a4 + 1)))] μ (KI K1) ∧ mc1 ≤ bc ∧ ms1 ≤ bs ∧ (∀ x1 m1, K1 x1 m1 → (mK m1 a0 = 20 ∨ (a0 ≠ 0 ∧ mK m1 a0 = 40)) ∧ ((0 : Int) ≤ (w32 (a4 + 1)) ∧ (w32 (a4 + 1)) < (mN m1 a0 : Int)) ∧ (mK m1 a2 = 11 ∧ ∃ (mc2 ms2 : Nat) (K2 : Int → Mem → Prop), Cl d mc2 ms2 mX10_walk [vr a2, vi (mD m1 a0 (w32 (a4 + 1)))] m1 (KI K2) ∧ mc2 ≤ bc - mc1 ∧ ms2 ≤ bs - ms1 ∧ (∀ x2 m2, K2 x2 m2 → (x1 = x2 → Wp (d + 1) (bc - mc1 - mc2) (bs - ms1 - ms2) mL_law 1933 [some (vr a0), some (vr a1), some (vr a2), some (vr a3), some (vi a4), none, none, none] [] m2 Q) ∧ (¬ x1 = x2 → Q (some (some (vi 0))) m2)))))) :
    Wp (d + 1) bc bs mL_law 717 [some (vr a0), some (vr a1), some (vr a2), some (vr a3), some (vi a4), none, none, none] [] μ Q := by
  refine st_aload_n (pc := 717) dL_law_717 rfl rfl ?_
  refine st_aload_n (pc := 718) dL_law_718 rfl rfl ?_
  refine st_iload (pc := 719) dL_law_719 rfl ?_
  refine sg_iconst (pc := 721) dL_law_721 (by omega) ?_
  refine st_iadd (pc := 722) dL_law_722 ?_
  obtain ⟨hk1, h⟩ := h
  obtain ⟨h1, h⟩ := h
  refine sg_iaload (pc := 723) dL_law_723 hk1 h1 ?_
  obtain ⟨hk2, h⟩ := h
  obtain ⟨mc1, ms1, K1, hC, e1, e2, h⟩ := h
  refine sg_VI (pc := 724) (av := [vi (mD μ a0 (w32 (a4 + 1)))]) (st := []) (K := K1) dL_law_724 ck_11_85 rfl (by decide) hk2 (by show (0 : Nat) ≤ 8; decide) hC e1 e2 (fun x1 m1 hK => ?_) rfl
  replace h := h x1 m1 hK
  refine st_aload_n (pc := 727) dL_law_727 rfl rfl ?_
  refine st_aload_n (pc := 728) dL_law_728 rfl rfl ?_
  refine st_iload (pc := 729) dL_law_729 rfl ?_
  refine sg_iconst (pc := 731) dL_law_731 (by omega) ?_
  refine st_iadd (pc := 732) dL_law_732 ?_
  obtain ⟨hk3, h⟩ := h
  obtain ⟨h1, h⟩ := h
  refine sg_iaload (pc := 733) dL_law_733 hk3 h1 ?_
  obtain ⟨hk4, h⟩ := h
  obtain ⟨mc2, ms2, K2, hC, e1, e2, h⟩ := h
  refine sg_VI (pc := 734) (av := [vi (mD m1 a0 (w32 (a4 + 1)))]) (st := [vi x1]) (K := K2) dL_law_734 ck_11_88 rfl (by decide) hk4 (by show (1 : Nat) ≤ 8; decide) hC e1 e2 (fun x2 m2 hK => ?_) rfl
  replace h := h x2 m2 hK
  refine st_icmpeq (pc := 737) (tgt := 1933) dL_law_737 rfl (fun c => ?_) (fun c => ?_)
  · replace h := h.1 c
    exact h
  · replace h := h.2 c
    refine sg_iconst (pc := 740) dL_law_740 (by omega) ?_
    exact st_ireturn (pc := 741) dL_law_741 (Or.inr ⟨rfl, by omega⟩) h

theorem sg_L_law_742 {d bc bs : Nat} {a0 : Nat} {a1 : Nat} {a2 : Nat} {a3 : Nat} {a4 : Int} {μ : Mem} {Q : Option (Option AV) → Mem → Prop}
    (h : (mK μ a0 = 20 ∨ (a0 ≠ 0 ∧ mK μ a0 = 40)) ∧ ((0 : Int) ≤ (w32 (a4 + 1)) ∧ (w32 (a4 + 1)) < (mN μ a0 : Int)) ∧ (mK μ a1 = 10 ∧ ∃ (mc1 ms1 : Nat) (K1 : Int → Mem → Prop), Cl d mc1 ms1 mX9_law [vr a1, vi (mD μ a0 (w32 (a4 + 1)))] μ (KI K1) ∧ mc1 ≤ bc ∧ ms1 ≤ bs ∧ (∀ x1 m1, K1 x1 m1 → (mK m1 a0 = 20 ∨ (a0 ≠ 0 ∧ mK m1 a0 = 40)) ∧ ((0 : Int) ≤ (w32 (a4 + 1)) ∧ (w32 (a4 + 1)) < (mN m1 a0 : Int)) ∧ (mK m1 a2 = 11 ∧ ∃ (mc2 ms2 : Nat) (K2 : Int → Mem → Prop), Cl d mc2 ms2 mX10_law [vr a2, vi (mD m1 a0 (w32 (a4 + 1)))] m1 (KI K2) ∧ mc2 ≤ bc - mc1 ∧ ms2 ≤ bs - ms1 ∧ (∀ x2 m2, K2 x2 m2 → (x1 = x2 → Wp (d + 1) (bc - mc1 - mc2) (bs - ms1 - ms2) mL_law 1933 [some (vr a0), some (vr a1), some (vr a2), some (vr a3), some (vi a4), none, none, none] [] m2 Q) ∧ (¬ x1 = x2 → Q (some (some (vi 0))) m2)))))) :
    Wp (d + 1) bc bs mL_law 742 [some (vr a0), some (vr a1), some (vr a2), some (vr a3), some (vi a4), none, none, none] [] μ Q := by
  refine st_aload_n (pc := 742) dL_law_742 rfl rfl ?_
  refine st_aload_n (pc := 743) dL_law_743 rfl rfl ?_
  refine st_iload (pc := 744) dL_law_744 rfl ?_
  refine sg_iconst (pc := 746) dL_law_746 (by omega) ?_
  refine st_iadd (pc := 747) dL_law_747 ?_
  obtain ⟨hk1, h⟩ := h
  obtain ⟨h1, h⟩ := h
  refine sg_iaload (pc := 748) dL_law_748 hk1 h1 ?_
  obtain ⟨hk2, h⟩ := h
  obtain ⟨mc1, ms1, K1, hC, e1, e2, h⟩ := h
  refine sg_VI (pc := 749) (av := [vi (mD μ a0 (w32 (a4 + 1)))]) (st := []) (K := K1) dL_law_749 ck_11_89 rfl (by decide) hk2 (by show (0 : Nat) ≤ 8; decide) hC e1 e2 (fun x1 m1 hK => ?_) rfl
  replace h := h x1 m1 hK
  refine st_aload_n (pc := 752) dL_law_752 rfl rfl ?_
  refine st_aload_n (pc := 753) dL_law_753 rfl rfl ?_
  refine st_iload (pc := 754) dL_law_754 rfl ?_
  refine sg_iconst (pc := 756) dL_law_756 (by omega) ?_
  refine st_iadd (pc := 757) dL_law_757 ?_
  obtain ⟨hk3, h⟩ := h
  obtain ⟨h1, h⟩ := h
  refine sg_iaload (pc := 758) dL_law_758 hk3 h1 ?_
  obtain ⟨hk4, h⟩ := h
  obtain ⟨mc2, ms2, K2, hC, e1, e2, h⟩ := h
  refine sg_VI (pc := 759) (av := [vi (mD m1 a0 (w32 (a4 + 1)))]) (st := [vi x1]) (K := K2) dL_law_759 ck_11_92 rfl (by decide) hk4 (by show (1 : Nat) ≤ 8; decide) hC e1 e2 (fun x2 m2 hK => ?_) rfl
  replace h := h x2 m2 hK
  refine st_icmpeq (pc := 762) (tgt := 1933) dL_law_762 rfl (fun c => ?_) (fun c => ?_)
  · replace h := h.1 c
    exact h
  · replace h := h.2 c
    refine sg_iconst (pc := 765) dL_law_765 (by omega) ?_
    exact st_ireturn (pc := 766) dL_law_766 (Or.inr ⟨rfl, by omega⟩) h

theorem sg_L_law_767 {d bc bs : Nat} {a0 : Nat} {a1 : Nat} {a2 : Nat} {a3 : Nat} {a4 : Int} {μ : Mem} {Q : Option (Option AV) → Mem → Prop}
    (h : (mK μ a0 = 20 ∨ (a0 ≠ 0 ∧ mK μ a0 = 40)) ∧ ((0 : Int) ≤ (w32 (a4 + 1)) ∧ (w32 (a4 + 1)) < (mN μ a0 : Int)) ∧ (((0 : Int) ≤ (w32 (a4 + 2)) ∧ (w32 (a4 + 2)) < (mN μ a0 : Int)) ∧ (∃ (mc1 ms1 : Nat) (K1 : Int → Mem → Prop), Cl d mc1 ms1 mL_gives [vr a1, vi (mD μ a0 (w32 (a4 + 1))), vi (mD μ a0 (w32 (a4 + 2))), vr a3] μ (KI K1) ∧ mc1 ≤ bc ∧ ms1 ≤ bs ∧ (∀ x1 m1, K1 x1 m1 → (mK m1 a0 = 20 ∨ (a0 ≠ 0 ∧ mK m1 a0 = 40)) ∧ ((0 : Int) ≤ (w32 (a4 + 1)) ∧ (w32 (a4 + 1)) < (mN m1 a0 : Int)) ∧ (((0 : Int) ≤ (w32 (a4 + 2)) ∧ (w32 (a4 + 2)) < (mN m1 a0 : Int)) ∧ (mK m1 a2 = 11 ∧ ∃ (mc2 ms2 : Nat) (K2 : Int → Mem → Prop), Cl d mc2 ms2 mX10_gives [vr a2, vi (mD m1 a0 (w32 (a4 + 1))), vi (mD m1 a0 (w32 (a4 + 2)))] m1 (KI K2) ∧ mc2 ≤ bc - mc1 ∧ ms2 ≤ bs - ms1 ∧ (∀ x2 m2, K2 x2 m2 → mK m2 a2 = 11 ∧ ∃ (mc3 ms3 : Nat) (K3 : Int → Mem → Prop), Cl d mc3 ms3 mX10_thrown [vr a2] m2 (KI K3) ∧ mc3 ≤ bc - mc1 - mc2 ∧ ms3 ≤ bs - ms1 - ms2 ∧ (∀ x3 m3, K3 x3 m3 → (x3 = x1 → (¬ x1 = 0 → Wp (d + 1) (bc - mc1 - mc2 - mc3) (bs - ms1 - ms2 - ms3) mL_law 1933 [some (vr a0), some (vr a1), some (vr a2), some (vr a3), some (vi a4), none, none, none] [] m3 Q) ∧ (x1 = 0 → mK m3 a3 = 21 ∧ ((0 : Int) ≤ 0 ∧ 0 < (mN m3 a3 : Int)) ∧ (((if x2 < mD m3 a3 0 then 1 else if mD m3 a3 0 = x2 then 0 else -1) = 0 → Wp (d + 1) (bc - mc1 - mc2 - mc3) (bs - ms1 - ms2 - ms3) mL_law 1933 [some (vr a0), some (vr a1), some (vr a2), some (vr a3), some (vi a4), none, none, none] [] m3 Q) ∧ (¬ (if x2 < mD m3 a3 0 then 1 else if mD m3 a3 0 = x2 then 0 else -1) = 0 → Q (some (some (vi 0))) m3)))) ∧ (¬ x3 = x1 → Q (some (some (vi 0))) m3))))))))) :
    Wp (d + 1) bc bs mL_law 767 [some (vr a0), some (vr a1), some (vr a2), some (vr a3), some (vi a4), none, none, none] [] μ Q := by
  refine st_aload_n (pc := 767) dL_law_767 rfl rfl ?_
  refine st_aload_n (pc := 768) dL_law_768 rfl rfl ?_
  refine st_iload (pc := 769) dL_law_769 rfl ?_
  refine sg_iconst (pc := 771) dL_law_771 (by omega) ?_
  refine st_iadd (pc := 772) dL_law_772 ?_
  obtain ⟨hk1, h⟩ := h
  obtain ⟨h1, h⟩ := h
  refine sg_iaload (pc := 773) dL_law_773 hk1 h1 ?_
  refine st_aload_n (pc := 774) dL_law_774 rfl rfl ?_
  refine st_iload (pc := 775) dL_law_775 rfl ?_
  refine sg_iconst (pc := 777) dL_law_777 (by omega) ?_
  refine st_iadd (pc := 778) dL_law_778 ?_
  obtain ⟨h1, h⟩ := h
  refine sg_iaload (pc := 779) dL_law_779 hk1 h1 ?_
  refine st_aload_n (pc := 780) dL_law_780 rfl rfl ?_
  obtain ⟨mc1, ms1, K1, hC, e1, e2, h⟩ := h
  refine sg_HI (pc := 781) (av := [vr a1, vi (mD μ a0 (w32 (a4 + 1))), vi (mD μ a0 (w32 (a4 + 2))), vr a3]) (st := []) (K := K1) dL_law_781 ck_11_93 rfl (by show (0 : Nat) ≤ 8; decide) hC e1 e2 (fun x1 m1 hK => ?_) rfl
  replace h := h x1 m1 hK
  refine sg_istore (pc := 784) (ls' := [some (vr a0), some (vr a1), some (vr a2), some (vr a3), some (vi a4), some (vi x1), none, none]) dL_law_784 (by show (5 : Nat) < 8; decide) rfl ?_
  refine st_aload_n (pc := 786) dL_law_786 rfl rfl ?_
  refine st_aload_n (pc := 787) dL_law_787 rfl rfl ?_
  refine st_iload (pc := 788) dL_law_788 rfl ?_
  refine sg_iconst (pc := 790) dL_law_790 (by omega) ?_
  refine st_iadd (pc := 791) dL_law_791 ?_
  obtain ⟨hk2, h⟩ := h
  obtain ⟨h1, h⟩ := h
  refine sg_iaload (pc := 792) dL_law_792 hk2 h1 ?_
  refine st_aload_n (pc := 793) dL_law_793 rfl rfl ?_
  refine st_iload (pc := 794) dL_law_794 rfl ?_
  refine sg_iconst (pc := 796) dL_law_796 (by omega) ?_
  refine st_iadd (pc := 797) dL_law_797 ?_
  obtain ⟨h1, h⟩ := h
  refine sg_iaload (pc := 798) dL_law_798 hk2 h1 ?_
  obtain ⟨hk3, h⟩ := h
  obtain ⟨mc2, ms2, K2, hC, e1, e2, h⟩ := h
  refine sg_VI (pc := 799) (av := [vi (mD m1 a0 (w32 (a4 + 1))), vi (mD m1 a0 (w32 (a4 + 2)))]) (st := []) (K := K2) dL_law_799 ck_11_95 rfl (by decide) hk3 (by show (0 : Nat) ≤ 8; decide) hC e1 e2 (fun x2 m2 hK => ?_) rfl
  replace h := h x2 m2 hK
  refine sg_istore (pc := 802) (ls' := [some (vr a0), some (vr a1), some (vr a2), some (vr a3), some (vi a4), some (vi x1), some (vi x2), none]) dL_law_802 (by show (6 : Nat) < 8; decide) rfl ?_
  refine st_aload_n (pc := 804) dL_law_804 rfl rfl ?_
  obtain ⟨hk4, h⟩ := h
  obtain ⟨mc3, ms3, K3, hC, e1, e2, h⟩ := h
  refine sg_VI (pc := 805) (av := []) (st := []) (K := K3) dL_law_805 ck_11_68 rfl (by decide) hk4 (by show (0 : Nat) ≤ 8; decide) hC e1 e2 (fun x3 m3 hK => ?_) rfl
  replace h := h x3 m3 hK
  refine st_iload (pc := 808) dL_law_808 rfl ?_
  refine st_icmpeq (pc := 810) (tgt := 815) dL_law_810 rfl (fun c => ?_) (fun c => ?_)
  · replace h := h.1 c
    refine st_iload (pc := 815) dL_law_815 rfl ?_
    refine st_ifne (pc := 817) (tgt := 832) dL_law_817 rfl (fun c => ?_) (fun c => ?_)
    · replace h := h.1 c
      refine st_goto (pc := 832) dL_law_832 rfl ?_
      refine Wp.drop 5 rfl ?_
      refine Wp.drop 6 rfl ?_
      exact h
    · replace h := h.2 c
      refine st_aload_n (pc := 820) dL_law_820 rfl rfl ?_
      refine sg_iconst (pc := 821) dL_law_821 (by omega) ?_
      obtain ⟨hk5, h⟩ := h
      obtain ⟨h1, h⟩ := h
      refine st_laload (pc := 822) dL_law_822 hk5 h1.1 h1.2 ?_
      refine st_iload (pc := 823) dL_law_823 rfl ?_
      refine st_i2l (pc := 825) dL_law_825 ?_
      refine st_lcmp (pc := 826) dL_law_826 ?_
      refine st_ifeq (pc := 827) (tgt := 832) dL_law_827 rfl (fun c => ?_) (fun c => ?_)
      · replace h := h.1 c
        refine st_goto (pc := 832) dL_law_832 rfl ?_
        refine Wp.drop 5 rfl ?_
        refine Wp.drop 6 rfl ?_
        exact h
      · replace h := h.2 c
        refine sg_iconst (pc := 830) dL_law_830 (by omega) ?_
        exact st_ireturn (pc := 831) dL_law_831 (Or.inr ⟨rfl, by omega⟩) h
  · replace h := h.2 c
    refine sg_iconst (pc := 813) dL_law_813 (by omega) ?_
    exact st_ireturn (pc := 814) dL_law_814 (Or.inr ⟨rfl, by omega⟩) h

theorem sg_L_law_835 {d bc bs : Nat} {a0 : Nat} {a1 : Nat} {a2 : Nat} {a3 : Nat} {a4 : Int} {μ : Mem} {Q : Option (Option AV) → Mem → Prop}
    (h : (mK μ a0 = 20 ∨ (a0 ≠ 0 ∧ mK μ a0 = 40)) ∧ ((0 : Int) ≤ (w32 (a4 + 1)) ∧ (w32 (a4 + 1)) < (mN μ a0 : Int)) ∧ (mK μ a1 = 10 ∧ ∃ (mc1 ms1 : Nat) (K1 : Int → Mem → Prop), Cl d mc1 ms1 mX9_steps [vr a1, vi (mD μ a0 (w32 (a4 + 1)))] μ (KI K1) ∧ mc1 ≤ bc ∧ ms1 ≤ bs ∧ (∀ x1 m1, K1 x1 m1 → (mK m1 a0 = 20 ∨ (a0 ≠ 0 ∧ mK m1 a0 = 40)) ∧ ((0 : Int) ≤ (w32 (a4 + 1)) ∧ (w32 (a4 + 1)) < (mN m1 a0 : Int)) ∧ (mK m1 a2 = 11 ∧ ∃ (mc2 ms2 : Nat) (K2 : Int → Mem → Prop), Cl d mc2 ms2 mX10_steps [vr a2, vi (mD m1 a0 (w32 (a4 + 1)))] m1 (KI K2) ∧ mc2 ≤ bc - mc1 ∧ ms2 ≤ bs - ms1 ∧ (∀ x2 m2, K2 x2 m2 → (x1 = x2 → Wp (d + 1) (bc - mc1 - mc2) (bs - ms1 - ms2) mL_law 1933 [some (vr a0), some (vr a1), some (vr a2), some (vr a3), some (vi a4), none, none, none] [] m2 Q) ∧ (¬ x1 = x2 → Q (some (some (vi 0))) m2)))))) :
    Wp (d + 1) bc bs mL_law 835 [some (vr a0), some (vr a1), some (vr a2), some (vr a3), some (vi a4), none, none, none] [] μ Q := by
  refine st_aload_n (pc := 835) dL_law_835 rfl rfl ?_
  refine st_aload_n (pc := 836) dL_law_836 rfl rfl ?_
  refine st_iload (pc := 837) dL_law_837 rfl ?_
  refine sg_iconst (pc := 839) dL_law_839 (by omega) ?_
  refine st_iadd (pc := 840) dL_law_840 ?_
  obtain ⟨hk1, h⟩ := h
  obtain ⟨h1, h⟩ := h
  refine sg_iaload (pc := 841) dL_law_841 hk1 h1 ?_
  obtain ⟨hk2, h⟩ := h
  obtain ⟨mc1, ms1, K1, hC, e1, e2, h⟩ := h
  refine sg_VI (pc := 842) (av := [vi (mD μ a0 (w32 (a4 + 1)))]) (st := []) (K := K1) dL_law_842 ck_11_96 rfl (by decide) hk2 (by show (0 : Nat) ≤ 8; decide) hC e1 e2 (fun x1 m1 hK => ?_) rfl
  replace h := h x1 m1 hK
  refine st_aload_n (pc := 845) dL_law_845 rfl rfl ?_
  refine st_aload_n (pc := 846) dL_law_846 rfl rfl ?_
  refine st_iload (pc := 847) dL_law_847 rfl ?_
  refine sg_iconst (pc := 849) dL_law_849 (by omega) ?_
  refine st_iadd (pc := 850) dL_law_850 ?_
  obtain ⟨hk3, h⟩ := h
  obtain ⟨h1, h⟩ := h
  refine sg_iaload (pc := 851) dL_law_851 hk3 h1 ?_
  obtain ⟨hk4, h⟩ := h
  obtain ⟨mc2, ms2, K2, hC, e1, e2, h⟩ := h
  refine sg_VI (pc := 852) (av := [vi (mD m1 a0 (w32 (a4 + 1)))]) (st := [vi x1]) (K := K2) dL_law_852 ck_11_99 rfl (by decide) hk4 (by show (1 : Nat) ≤ 8; decide) hC e1 e2 (fun x2 m2 hK => ?_) rfl
  replace h := h x2 m2 hK
  refine st_icmpeq (pc := 855) (tgt := 1933) dL_law_855 rfl (fun c => ?_) (fun c => ?_)
  · replace h := h.1 c
    exact h
  · replace h := h.2 c
    refine sg_iconst (pc := 858) dL_law_858 (by omega) ?_
    exact st_ireturn (pc := 859) dL_law_859 (Or.inr ⟨rfl, by omega⟩) h

theorem sg_L_law_860 {d bc bs : Nat} {a0 : Nat} {a1 : Nat} {a2 : Nat} {a3 : Nat} {a4 : Int} {μ : Mem} {Q : Option (Option AV) → Mem → Prop}
    (h : (mK μ a0 = 20 ∨ (a0 ≠ 0 ∧ mK μ a0 = 40)) ∧ ((0 : Int) ≤ (w32 (a4 + 1)) ∧ (w32 (a4 + 1)) < (mN μ a0 : Int)) ∧ (((0 : Int) ≤ (w32 (a4 + 2)) ∧ (w32 (a4 + 2)) < (mN μ a0 : Int)) ∧ (((0 : Int) ≤ (w32 (a4 + 3)) ∧ (w32 (a4 + 3)) < (mN μ a0 : Int)) ∧ (mK μ a1 = 10 ∧ ∃ (mc1 ms1 : Nat) (K1 : Int → Mem → Prop), Cl d mc1 ms1 mX9_go [vr a1, vi (mD μ a0 (w32 (a4 + 1))), vi (mD μ a0 (w32 (a4 + 2))), vi (mD μ a0 (w32 (a4 + 3)))] μ (KI K1) ∧ mc1 ≤ bc ∧ ms1 ≤ bs ∧ (∀ x1 m1, K1 x1 m1 → (mK m1 a0 = 20 ∨ (a0 ≠ 0 ∧ mK m1 a0 = 40)) ∧ ((0 : Int) ≤ (w32 (a4 + 1)) ∧ (w32 (a4 + 1)) < (mN m1 a0 : Int)) ∧ (((0 : Int) ≤ (w32 (a4 + 2)) ∧ (w32 (a4 + 2)) < (mN m1 a0 : Int)) ∧ (((0 : Int) ≤ (w32 (a4 + 3)) ∧ (w32 (a4 + 3)) < (mN m1 a0 : Int)) ∧ (mK m1 a2 = 11 ∧ ∃ (mc2 ms2 : Nat) (K2 : Int → Mem → Prop), Cl d mc2 ms2 mX10_go [vr a2, vi (mD m1 a0 (w32 (a4 + 1))), vi (mD m1 a0 (w32 (a4 + 2))), vi (mD m1 a0 (w32 (a4 + 3)))] m1 (KI K2) ∧ mc2 ≤ bc - mc1 ∧ ms2 ≤ bs - ms1 ∧ (∀ x2 m2, K2 x2 m2 → (x1 = x2 → Wp (d + 1) (bc - mc1 - mc2) (bs - ms1 - ms2) mL_law 1933 [some (vr a0), some (vr a1), some (vr a2), some (vr a3), some (vi a4), none, none, none] [] m2 Q) ∧ (¬ x1 = x2 → Q (some (some (vi 0))) m2)))))))))) :
    Wp (d + 1) bc bs mL_law 860 [some (vr a0), some (vr a1), some (vr a2), some (vr a3), some (vi a4), none, none, none] [] μ Q := by
  refine st_aload_n (pc := 860) dL_law_860 rfl rfl ?_
  refine st_aload_n (pc := 861) dL_law_861 rfl rfl ?_
  refine st_iload (pc := 862) dL_law_862 rfl ?_
  refine sg_iconst (pc := 864) dL_law_864 (by omega) ?_
  refine st_iadd (pc := 865) dL_law_865 ?_
  obtain ⟨hk1, h⟩ := h
  obtain ⟨h1, h⟩ := h
  refine sg_iaload (pc := 866) dL_law_866 hk1 h1 ?_
  refine st_aload_n (pc := 867) dL_law_867 rfl rfl ?_
  refine st_iload (pc := 868) dL_law_868 rfl ?_
  refine sg_iconst (pc := 870) dL_law_870 (by omega) ?_
  refine st_iadd (pc := 871) dL_law_871 ?_
  obtain ⟨h1, h⟩ := h
  refine sg_iaload (pc := 872) dL_law_872 hk1 h1 ?_
  refine st_aload_n (pc := 873) dL_law_873 rfl rfl ?_
  refine st_iload (pc := 874) dL_law_874 rfl ?_
  refine sg_iconst (pc := 876) dL_law_876 (by omega) ?_
  refine st_iadd (pc := 877) dL_law_877 ?_
  obtain ⟨h1, h⟩ := h
  refine sg_iaload (pc := 878) dL_law_878 hk1 h1 ?_
  obtain ⟨hk2, h⟩ := h
  obtain ⟨mc1, ms1, K1, hC, e1, e2, h⟩ := h
  refine sg_VI (pc := 879) (av := [vi (mD μ a0 (w32 (a4 + 1))), vi (mD μ a0 (w32 (a4 + 2))), vi (mD μ a0 (w32 (a4 + 3)))]) (st := []) (K := K1) dL_law_879 ck_11_100 rfl (by decide) hk2 (by show (0 : Nat) ≤ 8; decide) hC e1 e2 (fun x1 m1 hK => ?_) rfl
  replace h := h x1 m1 hK
  refine st_aload_n (pc := 882) dL_law_882 rfl rfl ?_
  refine st_aload_n (pc := 883) dL_law_883 rfl rfl ?_
  refine st_iload (pc := 884) dL_law_884 rfl ?_
  refine sg_iconst (pc := 886) dL_law_886 (by omega) ?_
  refine st_iadd (pc := 887) dL_law_887 ?_
  obtain ⟨hk3, h⟩ := h
  obtain ⟨h1, h⟩ := h
  refine sg_iaload (pc := 888) dL_law_888 hk3 h1 ?_
  refine st_aload_n (pc := 889) dL_law_889 rfl rfl ?_
  refine st_iload (pc := 890) dL_law_890 rfl ?_
  refine sg_iconst (pc := 892) dL_law_892 (by omega) ?_
  refine st_iadd (pc := 893) dL_law_893 ?_
  obtain ⟨h1, h⟩ := h
  refine sg_iaload (pc := 894) dL_law_894 hk3 h1 ?_
  refine st_aload_n (pc := 895) dL_law_895 rfl rfl ?_
  refine st_iload (pc := 896) dL_law_896 rfl ?_
  refine sg_iconst (pc := 898) dL_law_898 (by omega) ?_
  refine st_iadd (pc := 899) dL_law_899 ?_
  obtain ⟨h1, h⟩ := h
  refine sg_iaload (pc := 900) dL_law_900 hk3 h1 ?_
  obtain ⟨hk4, h⟩ := h
  obtain ⟨mc2, ms2, K2, hC, e1, e2, h⟩ := h
  refine sg_VI (pc := 901) (av := [vi (mD m1 a0 (w32 (a4 + 1))), vi (mD m1 a0 (w32 (a4 + 2))), vi (mD m1 a0 (w32 (a4 + 3)))]) (st := [vi x1]) (K := K2) dL_law_901 ck_11_103 rfl (by decide) hk4 (by show (1 : Nat) ≤ 8; decide) hC e1 e2 (fun x2 m2 hK => ?_) rfl
  replace h := h x2 m2 hK
  refine st_icmpeq (pc := 904) (tgt := 1933) dL_law_904 rfl (fun c => ?_) (fun c => ?_)
  · replace h := h.1 c
    exact h
  · replace h := h.2 c
    refine sg_iconst (pc := 907) dL_law_907 (by omega) ?_
    exact st_ireturn (pc := 908) dL_law_908 (Or.inr ⟨rfl, by omega⟩) h

theorem sg_L_law_909 {d bc bs : Nat} {a0 : Nat} {a1 : Nat} {a2 : Nat} {a3 : Nat} {a4 : Int} {μ : Mem} {Q : Option (Option AV) → Mem → Prop}
    (h : (mK μ a0 = 20 ∨ (a0 ≠ 0 ∧ mK μ a0 = 40)) ∧ ((0 : Int) ≤ (w32 (a4 + 1)) ∧ (w32 (a4 + 1)) < (mN μ a0 : Int)) ∧ (mK μ a1 = 10 ∧ ∃ (mc1 ms1 : Nat) (K1 : Int → Mem → Prop), Cl d mc1 ms1 mX9_swing [vr a1, vi (mD μ a0 (w32 (a4 + 1)))] μ (KI K1) ∧ mc1 ≤ bc ∧ ms1 ≤ bs ∧ (∀ x1 m1, K1 x1 m1 → (mK m1 a0 = 20 ∨ (a0 ≠ 0 ∧ mK m1 a0 = 40)) ∧ ((0 : Int) ≤ (w32 (a4 + 1)) ∧ (w32 (a4 + 1)) < (mN m1 a0 : Int)) ∧ (mK m1 a2 = 11 ∧ ∃ (mc2 ms2 : Nat) (K2 : Int → Mem → Prop), Cl d mc2 ms2 mX10_swing [vr a2, vi (mD m1 a0 (w32 (a4 + 1)))] m1 (KI K2) ∧ mc2 ≤ bc - mc1 ∧ ms2 ≤ bs - ms1 ∧ (∀ x2 m2, K2 x2 m2 → (x1 = x2 → Wp (d + 1) (bc - mc1 - mc2) (bs - ms1 - ms2) mL_law 1933 [some (vr a0), some (vr a1), some (vr a2), some (vr a3), some (vi a4), none, none, none] [] m2 Q) ∧ (¬ x1 = x2 → Q (some (some (vi 0))) m2)))))) :
    Wp (d + 1) bc bs mL_law 909 [some (vr a0), some (vr a1), some (vr a2), some (vr a3), some (vi a4), none, none, none] [] μ Q := by
  refine st_aload_n (pc := 909) dL_law_909 rfl rfl ?_
  refine st_aload_n (pc := 910) dL_law_910 rfl rfl ?_
  refine st_iload (pc := 911) dL_law_911 rfl ?_
  refine sg_iconst (pc := 913) dL_law_913 (by omega) ?_
  refine st_iadd (pc := 914) dL_law_914 ?_
  obtain ⟨hk1, h⟩ := h
  obtain ⟨h1, h⟩ := h
  refine sg_iaload (pc := 915) dL_law_915 hk1 h1 ?_
  obtain ⟨hk2, h⟩ := h
  obtain ⟨mc1, ms1, K1, hC, e1, e2, h⟩ := h
  refine sg_VI (pc := 916) (av := [vi (mD μ a0 (w32 (a4 + 1)))]) (st := []) (K := K1) dL_law_916 ck_11_104 rfl (by decide) hk2 (by show (0 : Nat) ≤ 8; decide) hC e1 e2 (fun x1 m1 hK => ?_) rfl
  replace h := h x1 m1 hK
  refine st_aload_n (pc := 919) dL_law_919 rfl rfl ?_
  refine st_aload_n (pc := 920) dL_law_920 rfl rfl ?_
  refine st_iload (pc := 921) dL_law_921 rfl ?_
  refine sg_iconst (pc := 923) dL_law_923 (by omega) ?_
  refine st_iadd (pc := 924) dL_law_924 ?_
  obtain ⟨hk3, h⟩ := h
  obtain ⟨h1, h⟩ := h
  refine sg_iaload (pc := 925) dL_law_925 hk3 h1 ?_
  obtain ⟨hk4, h⟩ := h
  obtain ⟨mc2, ms2, K2, hC, e1, e2, h⟩ := h
  refine sg_VI (pc := 926) (av := [vi (mD m1 a0 (w32 (a4 + 1)))]) (st := [vi x1]) (K := K2) dL_law_926 ck_11_107 rfl (by decide) hk4 (by show (1 : Nat) ≤ 8; decide) hC e1 e2 (fun x2 m2 hK => ?_) rfl
  replace h := h x2 m2 hK
  refine st_icmpeq (pc := 929) (tgt := 1933) dL_law_929 rfl (fun c => ?_) (fun c => ?_)
  · replace h := h.1 c
    exact h
  · replace h := h.2 c
    refine sg_iconst (pc := 932) dL_law_932 (by omega) ?_
    exact st_ireturn (pc := 933) dL_law_933 (Or.inr ⟨rfl, by omega⟩) h

theorem sg_L_law_934 {d bc bs : Nat} {a0 : Nat} {a1 : Nat} {a2 : Nat} {a3 : Nat} {a4 : Int} {μ : Mem} {Q : Option (Option AV) → Mem → Prop}
    (h : (mK μ a0 = 20 ∨ (a0 ≠ 0 ∧ mK μ a0 = 40)) ∧ ((0 : Int) ≤ (w32 (a4 + 1)) ∧ (w32 (a4 + 1)) < (mN μ a0 : Int)) ∧ (((0 : Int) ≤ (w32 (a4 + 2)) ∧ (w32 (a4 + 2)) < (mN μ a0 : Int)) ∧ (mK μ a1 = 10 ∧ ∃ (mc1 ms1 : Nat) (K1 : Int → Mem → Prop), Cl d mc1 ms1 mX9_dies [vr a1, vi (mD μ a0 (w32 (a4 + 1))), vi (mD μ a0 (w32 (a4 + 2)))] μ (KI K1) ∧ mc1 ≤ bc ∧ ms1 ≤ bs ∧ (∀ x1 m1, K1 x1 m1 → (mK m1 a0 = 20 ∨ (a0 ≠ 0 ∧ mK m1 a0 = 40)) ∧ ((0 : Int) ≤ (w32 (a4 + 1)) ∧ (w32 (a4 + 1)) < (mN m1 a0 : Int)) ∧ (((0 : Int) ≤ (w32 (a4 + 2)) ∧ (w32 (a4 + 2)) < (mN m1 a0 : Int)) ∧ (mK m1 a2 = 11 ∧ ∃ (mc2 ms2 : Nat) (K2 : Int → Mem → Prop), Cl d mc2 ms2 mX10_dies [vr a2, vi (mD m1 a0 (w32 (a4 + 1))), vi (mD m1 a0 (w32 (a4 + 2)))] m1 (KI K2) ∧ mc2 ≤ bc - mc1 ∧ ms2 ≤ bs - ms1 ∧ (∀ x2 m2, K2 x2 m2 → (x1 = x2 → Wp (d + 1) (bc - mc1 - mc2) (bs - ms1 - ms2) mL_law 1933 [some (vr a0), some (vr a1), some (vr a2), some (vr a3), some (vi a4), none, none, none] [] m2 Q) ∧ (¬ x1 = x2 → Q (some (some (vi 0))) m2)))))))) :
    Wp (d + 1) bc bs mL_law 934 [some (vr a0), some (vr a1), some (vr a2), some (vr a3), some (vi a4), none, none, none] [] μ Q := by
  refine st_aload_n (pc := 934) dL_law_934 rfl rfl ?_
  refine st_aload_n (pc := 935) dL_law_935 rfl rfl ?_
  refine st_iload (pc := 936) dL_law_936 rfl ?_
  refine sg_iconst (pc := 938) dL_law_938 (by omega) ?_
  refine st_iadd (pc := 939) dL_law_939 ?_
  obtain ⟨hk1, h⟩ := h
  obtain ⟨h1, h⟩ := h
  refine sg_iaload (pc := 940) dL_law_940 hk1 h1 ?_
  refine st_aload_n (pc := 941) dL_law_941 rfl rfl ?_
  refine st_iload (pc := 942) dL_law_942 rfl ?_
  refine sg_iconst (pc := 944) dL_law_944 (by omega) ?_
  refine st_iadd (pc := 945) dL_law_945 ?_
  obtain ⟨h1, h⟩ := h
  refine sg_iaload (pc := 946) dL_law_946 hk1 h1 ?_
  obtain ⟨hk2, h⟩ := h
  obtain ⟨mc1, ms1, K1, hC, e1, e2, h⟩ := h
  refine sg_VI (pc := 947) (av := [vi (mD μ a0 (w32 (a4 + 1))), vi (mD μ a0 (w32 (a4 + 2)))]) (st := []) (K := K1) dL_law_947 ck_11_108 rfl (by decide) hk2 (by show (0 : Nat) ≤ 8; decide) hC e1 e2 (fun x1 m1 hK => ?_) rfl
  replace h := h x1 m1 hK
  refine st_aload_n (pc := 950) dL_law_950 rfl rfl ?_
  refine st_aload_n (pc := 951) dL_law_951 rfl rfl ?_
  refine st_iload (pc := 952) dL_law_952 rfl ?_
  refine sg_iconst (pc := 954) dL_law_954 (by omega) ?_
  refine st_iadd (pc := 955) dL_law_955 ?_
  obtain ⟨hk3, h⟩ := h
  obtain ⟨h1, h⟩ := h
  refine sg_iaload (pc := 956) dL_law_956 hk3 h1 ?_
  refine st_aload_n (pc := 957) dL_law_957 rfl rfl ?_
  refine st_iload (pc := 958) dL_law_958 rfl ?_
  refine sg_iconst (pc := 960) dL_law_960 (by omega) ?_
  refine st_iadd (pc := 961) dL_law_961 ?_
  obtain ⟨h1, h⟩ := h
  refine sg_iaload (pc := 962) dL_law_962 hk3 h1 ?_
  obtain ⟨hk4, h⟩ := h
  obtain ⟨mc2, ms2, K2, hC, e1, e2, h⟩ := h
  refine sg_VI (pc := 963) (av := [vi (mD m1 a0 (w32 (a4 + 1))), vi (mD m1 a0 (w32 (a4 + 2)))]) (st := [vi x1]) (K := K2) dL_law_963 ck_11_111 rfl (by decide) hk4 (by show (1 : Nat) ≤ 8; decide) hC e1 e2 (fun x2 m2 hK => ?_) rfl
  replace h := h x2 m2 hK
  refine st_icmpeq (pc := 966) (tgt := 1933) dL_law_966 rfl (fun c => ?_) (fun c => ?_)
  · replace h := h.1 c
    exact h
  · replace h := h.2 c
    refine sg_iconst (pc := 969) dL_law_969 (by omega) ?_
    exact st_ireturn (pc := 970) dL_law_970 (Or.inr ⟨rfl, by omega⟩) h

theorem sg_L_law_971 {d bc bs : Nat} {a0 : Nat} {a1 : Nat} {a2 : Nat} {a3 : Nat} {a4 : Int} {μ : Mem} {Q : Option (Option AV) → Mem → Prop}
    (h : (mK μ a0 = 20 ∨ (a0 ≠ 0 ∧ mK μ a0 = 40)) ∧ ((0 : Int) ≤ (w32 (a4 + 1)) ∧ (w32 (a4 + 1)) < (mN μ a0 : Int)) ∧ (mK μ a1 = 10 ∧ ∃ (mc1 ms1 : Nat) (K1 : Int → Mem → Prop), Cl d mc1 ms1 mX9_worst [vr a1, vi (mD μ a0 (w32 (a4 + 1)))] μ (KI K1) ∧ mc1 ≤ bc ∧ ms1 ≤ bs ∧ (∀ x1 m1, K1 x1 m1 → (mK m1 a0 = 20 ∨ (a0 ≠ 0 ∧ mK m1 a0 = 40)) ∧ ((0 : Int) ≤ (w32 (a4 + 1)) ∧ (w32 (a4 + 1)) < (mN m1 a0 : Int)) ∧ (mK m1 a2 = 11 ∧ ∃ (mc2 ms2 : Nat) (K2 : Int → Mem → Prop), Cl d mc2 ms2 mX10_worst [vr a2, vi (mD m1 a0 (w32 (a4 + 1)))] m1 (KI K2) ∧ mc2 ≤ bc - mc1 ∧ ms2 ≤ bs - ms1 ∧ (∀ x2 m2, K2 x2 m2 → (x1 = x2 → Wp (d + 1) (bc - mc1 - mc2) (bs - ms1 - ms2) mL_law 1933 [some (vr a0), some (vr a1), some (vr a2), some (vr a3), some (vi a4), none, none, none] [] m2 Q) ∧ (¬ x1 = x2 → Q (some (some (vi 0))) m2)))))) :
    Wp (d + 1) bc bs mL_law 971 [some (vr a0), some (vr a1), some (vr a2), some (vr a3), some (vi a4), none, none, none] [] μ Q := by
  refine st_aload_n (pc := 971) dL_law_971 rfl rfl ?_
  refine st_aload_n (pc := 972) dL_law_972 rfl rfl ?_
  refine st_iload (pc := 973) dL_law_973 rfl ?_
  refine sg_iconst (pc := 975) dL_law_975 (by omega) ?_
  refine st_iadd (pc := 976) dL_law_976 ?_
  obtain ⟨hk1, h⟩ := h
  obtain ⟨h1, h⟩ := h
  refine sg_iaload (pc := 977) dL_law_977 hk1 h1 ?_
  obtain ⟨hk2, h⟩ := h
  obtain ⟨mc1, ms1, K1, hC, e1, e2, h⟩ := h
  refine sg_VI (pc := 978) (av := [vi (mD μ a0 (w32 (a4 + 1)))]) (st := []) (K := K1) dL_law_978 ck_11_112 rfl (by decide) hk2 (by show (0 : Nat) ≤ 8; decide) hC e1 e2 (fun x1 m1 hK => ?_) rfl
  replace h := h x1 m1 hK
  refine st_aload_n (pc := 981) dL_law_981 rfl rfl ?_
  refine st_aload_n (pc := 982) dL_law_982 rfl rfl ?_
  refine st_iload (pc := 983) dL_law_983 rfl ?_
  refine sg_iconst (pc := 985) dL_law_985 (by omega) ?_
  refine st_iadd (pc := 986) dL_law_986 ?_
  obtain ⟨hk3, h⟩ := h
  obtain ⟨h1, h⟩ := h
  refine sg_iaload (pc := 987) dL_law_987 hk3 h1 ?_
  obtain ⟨hk4, h⟩ := h
  obtain ⟨mc2, ms2, K2, hC, e1, e2, h⟩ := h
  refine sg_VI (pc := 988) (av := [vi (mD m1 a0 (w32 (a4 + 1)))]) (st := [vi x1]) (K := K2) dL_law_988 ck_11_115 rfl (by decide) hk4 (by show (1 : Nat) ≤ 8; decide) hC e1 e2 (fun x2 m2 hK => ?_) rfl
  replace h := h x2 m2 hK
  refine st_icmpeq (pc := 991) (tgt := 1933) dL_law_991 rfl (fun c => ?_) (fun c => ?_)
  · replace h := h.1 c
    exact h
  · replace h := h.2 c
    refine sg_iconst (pc := 994) dL_law_994 (by omega) ?_
    exact st_ireturn (pc := 995) dL_law_995 (Or.inr ⟨rfl, by omega⟩) h

theorem sg_L_law_996 {d bc bs : Nat} {a0 : Nat} {a1 : Nat} {a2 : Nat} {a3 : Nat} {a4 : Int} {μ : Mem} {Q : Option (Option AV) → Mem → Prop}
    (h : (mK μ a0 = 20 ∨ (a0 ≠ 0 ∧ mK μ a0 = 40)) ∧ ((0 : Int) ≤ (w32 (a4 + 1)) ∧ (w32 (a4 + 1)) < (mN μ a0 : Int)) ∧ (((0 : Int) ≤ (w32 (a4 + 2)) ∧ (w32 (a4 + 2)) < (mN μ a0 : Int)) ∧ (mK μ a1 = 10 ∧ ∃ (mc1 ms1 : Nat) (K1 : Int → Mem → Prop), Cl d mc1 ms1 mX9_would [vr a1, vi (mD μ a0 (w32 (a4 + 1))), vi (mD μ a0 (w32 (a4 + 2)))] μ (KI K1) ∧ mc1 ≤ bc ∧ ms1 ≤ bs ∧ (∀ x1 m1, K1 x1 m1 → (mK m1 a0 = 20 ∨ (a0 ≠ 0 ∧ mK m1 a0 = 40)) ∧ ((0 : Int) ≤ (w32 (a4 + 1)) ∧ (w32 (a4 + 1)) < (mN m1 a0 : Int)) ∧ (((0 : Int) ≤ (w32 (a4 + 2)) ∧ (w32 (a4 + 2)) < (mN m1 a0 : Int)) ∧ (mK m1 a2 = 11 ∧ ∃ (mc2 ms2 : Nat) (K2 : Int → Mem → Prop), Cl d mc2 ms2 mX10_would [vr a2, vi (mD m1 a0 (w32 (a4 + 1))), vi (mD m1 a0 (w32 (a4 + 2)))] m1 (KI K2) ∧ mc2 ≤ bc - mc1 ∧ ms2 ≤ bs - ms1 ∧ (∀ x2 m2, K2 x2 m2 → (x1 = x2 → Wp (d + 1) (bc - mc1 - mc2) (bs - ms1 - ms2) mL_law 1933 [some (vr a0), some (vr a1), some (vr a2), some (vr a3), some (vi a4), none, none, none] [] m2 Q) ∧ (¬ x1 = x2 → Q (some (some (vi 0))) m2)))))))) :
    Wp (d + 1) bc bs mL_law 996 [some (vr a0), some (vr a1), some (vr a2), some (vr a3), some (vi a4), none, none, none] [] μ Q := by
  refine st_aload_n (pc := 996) dL_law_996 rfl rfl ?_
  refine st_aload_n (pc := 997) dL_law_997 rfl rfl ?_
  refine st_iload (pc := 998) dL_law_998 rfl ?_
  refine sg_iconst (pc := 1000) dL_law_1000 (by omega) ?_
  refine st_iadd (pc := 1001) dL_law_1001 ?_
  obtain ⟨hk1, h⟩ := h
  obtain ⟨h1, h⟩ := h
  refine sg_iaload (pc := 1002) dL_law_1002 hk1 h1 ?_
  refine st_aload_n (pc := 1003) dL_law_1003 rfl rfl ?_
  refine st_iload (pc := 1004) dL_law_1004 rfl ?_
  refine sg_iconst (pc := 1006) dL_law_1006 (by omega) ?_
  refine st_iadd (pc := 1007) dL_law_1007 ?_
  obtain ⟨h1, h⟩ := h
  refine sg_iaload (pc := 1008) dL_law_1008 hk1 h1 ?_
  obtain ⟨hk2, h⟩ := h
  obtain ⟨mc1, ms1, K1, hC, e1, e2, h⟩ := h
  refine sg_VI (pc := 1009) (av := [vi (mD μ a0 (w32 (a4 + 1))), vi (mD μ a0 (w32 (a4 + 2)))]) (st := []) (K := K1) dL_law_1009 ck_11_116 rfl (by decide) hk2 (by show (0 : Nat) ≤ 8; decide) hC e1 e2 (fun x1 m1 hK => ?_) rfl
  replace h := h x1 m1 hK
  refine st_aload_n (pc := 1012) dL_law_1012 rfl rfl ?_
  refine st_aload_n (pc := 1013) dL_law_1013 rfl rfl ?_
  refine st_iload (pc := 1014) dL_law_1014 rfl ?_
  refine sg_iconst (pc := 1016) dL_law_1016 (by omega) ?_
  refine st_iadd (pc := 1017) dL_law_1017 ?_
  obtain ⟨hk3, h⟩ := h
  obtain ⟨h1, h⟩ := h
  refine sg_iaload (pc := 1018) dL_law_1018 hk3 h1 ?_
  refine st_aload_n (pc := 1019) dL_law_1019 rfl rfl ?_
  refine st_iload (pc := 1020) dL_law_1020 rfl ?_
  refine sg_iconst (pc := 1022) dL_law_1022 (by omega) ?_
  refine st_iadd (pc := 1023) dL_law_1023 ?_
  obtain ⟨h1, h⟩ := h
  refine sg_iaload (pc := 1024) dL_law_1024 hk3 h1 ?_
  obtain ⟨hk4, h⟩ := h
  obtain ⟨mc2, ms2, K2, hC, e1, e2, h⟩ := h
  refine sg_VI (pc := 1025) (av := [vi (mD m1 a0 (w32 (a4 + 1))), vi (mD m1 a0 (w32 (a4 + 2)))]) (st := [vi x1]) (K := K2) dL_law_1025 ck_11_119 rfl (by decide) hk4 (by show (1 : Nat) ≤ 8; decide) hC e1 e2 (fun x2 m2 hK => ?_) rfl
  replace h := h x2 m2 hK
  refine st_icmpeq (pc := 1028) (tgt := 1933) dL_law_1028 rfl (fun c => ?_) (fun c => ?_)
  · replace h := h.1 c
    exact h
  · replace h := h.2 c
    refine sg_iconst (pc := 1031) dL_law_1031 (by omega) ?_
    exact st_ireturn (pc := 1032) dL_law_1032 (Or.inr ⟨rfl, by omega⟩) h

theorem sg_L_law_1033 {d bc bs : Nat} {a0 : Nat} {a1 : Nat} {a2 : Nat} {a3 : Nat} {a4 : Int} {μ : Mem} {Q : Option (Option AV) → Mem → Prop}
    (h : (mK μ a0 = 20 ∨ (a0 ≠ 0 ∧ mK μ a0 = 40)) ∧ ((0 : Int) ≤ (w32 (a4 + 1)) ∧ (w32 (a4 + 1)) < (mN μ a0 : Int)) ∧ (((0 : Int) ≤ (w32 (a4 + 2)) ∧ (w32 (a4 + 2)) < (mN μ a0 : Int)) ∧ (mK μ a1 = 10 ∧ ∃ (mc1 ms1 : Nat) (K1 : Int → Mem → Prop), Cl d mc1 ms1 mX9_odds [vr a1, vi (mD μ a0 (w32 (a4 + 1))), vi (mD μ a0 (w32 (a4 + 2)))] μ (KI K1) ∧ mc1 ≤ bc ∧ ms1 ≤ bs ∧ (∀ x1 m1, K1 x1 m1 → (mK m1 a0 = 20 ∨ (a0 ≠ 0 ∧ mK m1 a0 = 40)) ∧ ((0 : Int) ≤ (w32 (a4 + 1)) ∧ (w32 (a4 + 1)) < (mN m1 a0 : Int)) ∧ (((0 : Int) ≤ (w32 (a4 + 2)) ∧ (w32 (a4 + 2)) < (mN m1 a0 : Int)) ∧ (mK m1 a2 = 11 ∧ ∃ (mc2 ms2 : Nat) (K2 : Int → Mem → Prop), Cl d mc2 ms2 mX10_odds [vr a2, vi (mD m1 a0 (w32 (a4 + 1))), vi (mD m1 a0 (w32 (a4 + 2)))] m1 (KI K2) ∧ mc2 ≤ bc - mc1 ∧ ms2 ≤ bs - ms1 ∧ (∀ x2 m2, K2 x2 m2 → (x1 = x2 → Wp (d + 1) (bc - mc1 - mc2) (bs - ms1 - ms2) mL_law 1933 [some (vr a0), some (vr a1), some (vr a2), some (vr a3), some (vi a4), none, none, none] [] m2 Q) ∧ (¬ x1 = x2 → Q (some (some (vi 0))) m2)))))))) :
    Wp (d + 1) bc bs mL_law 1033 [some (vr a0), some (vr a1), some (vr a2), some (vr a3), some (vi a4), none, none, none] [] μ Q := by
  refine st_aload_n (pc := 1033) dL_law_1033 rfl rfl ?_
  refine st_aload_n (pc := 1034) dL_law_1034 rfl rfl ?_
  refine st_iload (pc := 1035) dL_law_1035 rfl ?_
  refine sg_iconst (pc := 1037) dL_law_1037 (by omega) ?_
  refine st_iadd (pc := 1038) dL_law_1038 ?_
  obtain ⟨hk1, h⟩ := h
  obtain ⟨h1, h⟩ := h
  refine sg_iaload (pc := 1039) dL_law_1039 hk1 h1 ?_
  refine st_aload_n (pc := 1040) dL_law_1040 rfl rfl ?_
  refine st_iload (pc := 1041) dL_law_1041 rfl ?_
  refine sg_iconst (pc := 1043) dL_law_1043 (by omega) ?_
  refine st_iadd (pc := 1044) dL_law_1044 ?_
  obtain ⟨h1, h⟩ := h
  refine sg_iaload (pc := 1045) dL_law_1045 hk1 h1 ?_
  obtain ⟨hk2, h⟩ := h
  obtain ⟨mc1, ms1, K1, hC, e1, e2, h⟩ := h
  refine sg_VI (pc := 1046) (av := [vi (mD μ a0 (w32 (a4 + 1))), vi (mD μ a0 (w32 (a4 + 2)))]) (st := []) (K := K1) dL_law_1046 ck_11_120 rfl (by decide) hk2 (by show (0 : Nat) ≤ 8; decide) hC e1 e2 (fun x1 m1 hK => ?_) rfl
  replace h := h x1 m1 hK
  refine st_aload_n (pc := 1049) dL_law_1049 rfl rfl ?_
  refine st_aload_n (pc := 1050) dL_law_1050 rfl rfl ?_
  refine st_iload (pc := 1051) dL_law_1051 rfl ?_
  refine sg_iconst (pc := 1053) dL_law_1053 (by omega) ?_
  refine st_iadd (pc := 1054) dL_law_1054 ?_
  obtain ⟨hk3, h⟩ := h
  obtain ⟨h1, h⟩ := h
  refine sg_iaload (pc := 1055) dL_law_1055 hk3 h1 ?_
  refine st_aload_n (pc := 1056) dL_law_1056 rfl rfl ?_
  refine st_iload (pc := 1057) dL_law_1057 rfl ?_
  refine sg_iconst (pc := 1059) dL_law_1059 (by omega) ?_
  refine st_iadd (pc := 1060) dL_law_1060 ?_
  obtain ⟨h1, h⟩ := h
  refine sg_iaload (pc := 1061) dL_law_1061 hk3 h1 ?_
  obtain ⟨hk4, h⟩ := h
  obtain ⟨mc2, ms2, K2, hC, e1, e2, h⟩ := h
  refine sg_VI (pc := 1062) (av := [vi (mD m1 a0 (w32 (a4 + 1))), vi (mD m1 a0 (w32 (a4 + 2)))]) (st := [vi x1]) (K := K2) dL_law_1062 ck_11_123 rfl (by decide) hk4 (by show (1 : Nat) ≤ 8; decide) hC e1 e2 (fun x2 m2 hK => ?_) rfl
  replace h := h x2 m2 hK
  refine st_icmpeq (pc := 1065) (tgt := 1933) dL_law_1065 rfl (fun c => ?_) (fun c => ?_)
  · replace h := h.1 c
    exact h
  · replace h := h.2 c
    refine sg_iconst (pc := 1068) dL_law_1068 (by omega) ?_
    exact st_ireturn (pc := 1069) dL_law_1069 (Or.inr ⟨rfl, by omega⟩) h

theorem sg_L_law_1070 {d bc bs : Nat} {a0 : Nat} {a1 : Nat} {a2 : Nat} {a3 : Nat} {a4 : Int} {μ : Mem} {Q : Option (Option AV) → Mem → Prop}
    (h : (mK μ a0 = 20 ∨ (a0 ≠ 0 ∧ mK μ a0 = 40)) ∧ ((0 : Int) ≤ (w32 (a4 + 1)) ∧ (w32 (a4 + 1)) < (mN μ a0 : Int)) ∧ (mK μ a1 = 10 ∧ ∃ (mc1 ms1 : Nat) (K1 : Int → Mem → Prop), Cl d mc1 ms1 mX9_full [vr a1, vi (mD μ a0 (w32 (a4 + 1)))] μ (KI K1) ∧ mc1 ≤ bc ∧ ms1 ≤ bs ∧ (∀ x1 m1, K1 x1 m1 → (mK m1 a0 = 20 ∨ (a0 ≠ 0 ∧ mK m1 a0 = 40)) ∧ ((0 : Int) ≤ (w32 (a4 + 1)) ∧ (w32 (a4 + 1)) < (mN m1 a0 : Int)) ∧ (mK m1 a2 = 11 ∧ ∃ (mc2 ms2 : Nat) (K2 : Int → Mem → Prop), Cl d mc2 ms2 mX10_full [vr a2, vi (mD m1 a0 (w32 (a4 + 1)))] m1 (KI K2) ∧ mc2 ≤ bc - mc1 ∧ ms2 ≤ bs - ms1 ∧ (∀ x2 m2, K2 x2 m2 → (x1 = x2 → Wp (d + 1) (bc - mc1 - mc2) (bs - ms1 - ms2) mL_law 1933 [some (vr a0), some (vr a1), some (vr a2), some (vr a3), some (vi a4), none, none, none] [] m2 Q) ∧ (¬ x1 = x2 → Q (some (some (vi 0))) m2)))))) :
    Wp (d + 1) bc bs mL_law 1070 [some (vr a0), some (vr a1), some (vr a2), some (vr a3), some (vi a4), none, none, none] [] μ Q := by
  refine st_aload_n (pc := 1070) dL_law_1070 rfl rfl ?_
  refine st_aload_n (pc := 1071) dL_law_1071 rfl rfl ?_
  refine st_iload (pc := 1072) dL_law_1072 rfl ?_
  refine sg_iconst (pc := 1074) dL_law_1074 (by omega) ?_
  refine st_iadd (pc := 1075) dL_law_1075 ?_
  obtain ⟨hk1, h⟩ := h
  obtain ⟨h1, h⟩ := h
  refine sg_iaload (pc := 1076) dL_law_1076 hk1 h1 ?_
  obtain ⟨hk2, h⟩ := h
  obtain ⟨mc1, ms1, K1, hC, e1, e2, h⟩ := h
  refine sg_VI (pc := 1077) (av := [vi (mD μ a0 (w32 (a4 + 1)))]) (st := []) (K := K1) dL_law_1077 ck_11_124 rfl (by decide) hk2 (by show (0 : Nat) ≤ 8; decide) hC e1 e2 (fun x1 m1 hK => ?_) rfl
  replace h := h x1 m1 hK
  refine st_aload_n (pc := 1080) dL_law_1080 rfl rfl ?_
  refine st_aload_n (pc := 1081) dL_law_1081 rfl rfl ?_
  refine st_iload (pc := 1082) dL_law_1082 rfl ?_
  refine sg_iconst (pc := 1084) dL_law_1084 (by omega) ?_
  refine st_iadd (pc := 1085) dL_law_1085 ?_
  obtain ⟨hk3, h⟩ := h
  obtain ⟨h1, h⟩ := h
  refine sg_iaload (pc := 1086) dL_law_1086 hk3 h1 ?_
  obtain ⟨hk4, h⟩ := h
  obtain ⟨mc2, ms2, K2, hC, e1, e2, h⟩ := h
  refine sg_VI (pc := 1087) (av := [vi (mD m1 a0 (w32 (a4 + 1)))]) (st := [vi x1]) (K := K2) dL_law_1087 ck_11_127 rfl (by decide) hk4 (by show (1 : Nat) ≤ 8; decide) hC e1 e2 (fun x2 m2 hK => ?_) rfl
  replace h := h x2 m2 hK
  refine st_icmpeq (pc := 1090) (tgt := 1933) dL_law_1090 rfl (fun c => ?_) (fun c => ?_)
  · replace h := h.1 c
    exact h
  · replace h := h.2 c
    refine sg_iconst (pc := 1093) dL_law_1093 (by omega) ?_
    exact st_ireturn (pc := 1094) dL_law_1094 (Or.inr ⟨rfl, by omega⟩) h

theorem sg_L_law_1095 {d bc bs : Nat} {a0 : Nat} {a1 : Nat} {a2 : Nat} {a3 : Nat} {a4 : Int} {μ : Mem} {Q : Option (Option AV) → Mem → Prop}
    (h : (mK μ a0 = 20 ∨ (a0 ≠ 0 ∧ mK μ a0 = 40)) ∧ ((0 : Int) ≤ (w32 (a4 + 1)) ∧ (w32 (a4 + 1)) < (mN μ a0 : Int)) ∧ (((0 : Int) ≤ (w32 (a4 + 2)) ∧ (w32 (a4 + 2)) < (mN μ a0 : Int)) ∧ (mK μ a1 = 10 ∧ ∃ (mc1 ms1 : Nat) (K1 : Int → Mem → Prop), Cl d mc1 ms1 mX9_leads [vr a1, vi (mD μ a0 (w32 (a4 + 1))), vi (mD μ a0 (w32 (a4 + 2)))] μ (KI K1) ∧ mc1 ≤ bc ∧ ms1 ≤ bs ∧ (∀ x1 m1, K1 x1 m1 → (mK m1 a0 = 20 ∨ (a0 ≠ 0 ∧ mK m1 a0 = 40)) ∧ ((0 : Int) ≤ (w32 (a4 + 1)) ∧ (w32 (a4 + 1)) < (mN m1 a0 : Int)) ∧ (((0 : Int) ≤ (w32 (a4 + 2)) ∧ (w32 (a4 + 2)) < (mN m1 a0 : Int)) ∧ (mK m1 a2 = 11 ∧ ∃ (mc2 ms2 : Nat) (K2 : Int → Mem → Prop), Cl d mc2 ms2 mX10_leads [vr a2, vi (mD m1 a0 (w32 (a4 + 1))), vi (mD m1 a0 (w32 (a4 + 2)))] m1 (KI K2) ∧ mc2 ≤ bc - mc1 ∧ ms2 ≤ bs - ms1 ∧ (∀ x2 m2, K2 x2 m2 → (x1 = x2 → Wp (d + 1) (bc - mc1 - mc2) (bs - ms1 - ms2) mL_law 1933 [some (vr a0), some (vr a1), some (vr a2), some (vr a3), some (vi a4), none, none, none] [] m2 Q) ∧ (¬ x1 = x2 → Q (some (some (vi 0))) m2)))))))) :
    Wp (d + 1) bc bs mL_law 1095 [some (vr a0), some (vr a1), some (vr a2), some (vr a3), some (vi a4), none, none, none] [] μ Q := by
  refine st_aload_n (pc := 1095) dL_law_1095 rfl rfl ?_
  refine st_aload_n (pc := 1096) dL_law_1096 rfl rfl ?_
  refine st_iload (pc := 1097) dL_law_1097 rfl ?_
  refine sg_iconst (pc := 1099) dL_law_1099 (by omega) ?_
  refine st_iadd (pc := 1100) dL_law_1100 ?_
  obtain ⟨hk1, h⟩ := h
  obtain ⟨h1, h⟩ := h
  refine sg_iaload (pc := 1101) dL_law_1101 hk1 h1 ?_
  refine st_aload_n (pc := 1102) dL_law_1102 rfl rfl ?_
  refine st_iload (pc := 1103) dL_law_1103 rfl ?_
  refine sg_iconst (pc := 1105) dL_law_1105 (by omega) ?_
  refine st_iadd (pc := 1106) dL_law_1106 ?_
  obtain ⟨h1, h⟩ := h
  refine sg_iaload (pc := 1107) dL_law_1107 hk1 h1 ?_
  obtain ⟨hk2, h⟩ := h
  obtain ⟨mc1, ms1, K1, hC, e1, e2, h⟩ := h
  refine sg_VI (pc := 1108) (av := [vi (mD μ a0 (w32 (a4 + 1))), vi (mD μ a0 (w32 (a4 + 2)))]) (st := []) (K := K1) dL_law_1108 ck_11_128 rfl (by decide) hk2 (by show (0 : Nat) ≤ 8; decide) hC e1 e2 (fun x1 m1 hK => ?_) rfl
  replace h := h x1 m1 hK
  refine st_aload_n (pc := 1111) dL_law_1111 rfl rfl ?_
  refine st_aload_n (pc := 1112) dL_law_1112 rfl rfl ?_
  refine st_iload (pc := 1113) dL_law_1113 rfl ?_
  refine sg_iconst (pc := 1115) dL_law_1115 (by omega) ?_
  refine st_iadd (pc := 1116) dL_law_1116 ?_
  obtain ⟨hk3, h⟩ := h
  obtain ⟨h1, h⟩ := h
  refine sg_iaload (pc := 1117) dL_law_1117 hk3 h1 ?_
  refine st_aload_n (pc := 1118) dL_law_1118 rfl rfl ?_
  refine st_iload (pc := 1119) dL_law_1119 rfl ?_
  refine sg_iconst (pc := 1121) dL_law_1121 (by omega) ?_
  refine st_iadd (pc := 1122) dL_law_1122 ?_
  obtain ⟨h1, h⟩ := h
  refine sg_iaload (pc := 1123) dL_law_1123 hk3 h1 ?_
  obtain ⟨hk4, h⟩ := h
  obtain ⟨mc2, ms2, K2, hC, e1, e2, h⟩ := h
  refine sg_VI (pc := 1124) (av := [vi (mD m1 a0 (w32 (a4 + 1))), vi (mD m1 a0 (w32 (a4 + 2)))]) (st := [vi x1]) (K := K2) dL_law_1124 ck_11_131 rfl (by decide) hk4 (by show (1 : Nat) ≤ 8; decide) hC e1 e2 (fun x2 m2 hK => ?_) rfl
  replace h := h x2 m2 hK
  refine st_icmpeq (pc := 1127) (tgt := 1933) dL_law_1127 rfl (fun c => ?_) (fun c => ?_)
  · replace h := h.1 c
    exact h
  · replace h := h.2 c
    refine sg_iconst (pc := 1130) dL_law_1130 (by omega) ?_
    exact st_ireturn (pc := 1131) dL_law_1131 (Or.inr ⟨rfl, by omega⟩) h

theorem sg_L_law_1132 {d bc bs : Nat} {a0 : Nat} {a1 : Nat} {a2 : Nat} {a3 : Nat} {a4 : Int} {μ : Mem} {Q : Option (Option AV) → Mem → Prop}
    (h : (mK μ a0 = 20 ∨ (a0 ≠ 0 ∧ mK μ a0 = 40)) ∧ ((0 : Int) ≤ (w32 (a4 + 1)) ∧ (w32 (a4 + 1)) < (mN μ a0 : Int)) ∧ (mK μ a1 = 10 ∧ ∃ (mc1 ms1 : Nat) (K1 : Int → Mem → Prop), Cl d mc1 ms1 mX9_plan [vr a1, vi (mD μ a0 (w32 (a4 + 1)))] μ (KI K1) ∧ mc1 ≤ bc ∧ ms1 ≤ bs ∧ (∀ x1 m1, K1 x1 m1 → (mK m1 a0 = 20 ∨ (a0 ≠ 0 ∧ mK m1 a0 = 40)) ∧ ((0 : Int) ≤ (w32 (a4 + 1)) ∧ (w32 (a4 + 1)) < (mN m1 a0 : Int)) ∧ (mK m1 a2 = 11 ∧ ∃ (mc2 ms2 : Nat) (K2 : Int → Mem → Prop), Cl d mc2 ms2 mX10_plan [vr a2, vi (mD m1 a0 (w32 (a4 + 1)))] m1 (KI K2) ∧ mc2 ≤ bc - mc1 ∧ ms2 ≤ bs - ms1 ∧ (∀ x2 m2, K2 x2 m2 → (x1 = x2 → Wp (d + 1) (bc - mc1 - mc2) (bs - ms1 - ms2) mL_law 1933 [some (vr a0), some (vr a1), some (vr a2), some (vr a3), some (vi a4), none, none, none] [] m2 Q) ∧ (¬ x1 = x2 → Q (some (some (vi 0))) m2)))))) :
    Wp (d + 1) bc bs mL_law 1132 [some (vr a0), some (vr a1), some (vr a2), some (vr a3), some (vi a4), none, none, none] [] μ Q := by
  refine st_aload_n (pc := 1132) dL_law_1132 rfl rfl ?_
  refine st_aload_n (pc := 1133) dL_law_1133 rfl rfl ?_
  refine st_iload (pc := 1134) dL_law_1134 rfl ?_
  refine sg_iconst (pc := 1136) dL_law_1136 (by omega) ?_
  refine st_iadd (pc := 1137) dL_law_1137 ?_
  obtain ⟨hk1, h⟩ := h
  obtain ⟨h1, h⟩ := h
  refine sg_iaload (pc := 1138) dL_law_1138 hk1 h1 ?_
  obtain ⟨hk2, h⟩ := h
  obtain ⟨mc1, ms1, K1, hC, e1, e2, h⟩ := h
  refine sg_VI (pc := 1139) (av := [vi (mD μ a0 (w32 (a4 + 1)))]) (st := []) (K := K1) dL_law_1139 ck_11_132 rfl (by decide) hk2 (by show (0 : Nat) ≤ 8; decide) hC e1 e2 (fun x1 m1 hK => ?_) rfl
  replace h := h x1 m1 hK
  refine st_aload_n (pc := 1142) dL_law_1142 rfl rfl ?_
  refine st_aload_n (pc := 1143) dL_law_1143 rfl rfl ?_
  refine st_iload (pc := 1144) dL_law_1144 rfl ?_
  refine sg_iconst (pc := 1146) dL_law_1146 (by omega) ?_
  refine st_iadd (pc := 1147) dL_law_1147 ?_
  obtain ⟨hk3, h⟩ := h
  obtain ⟨h1, h⟩ := h
  refine sg_iaload (pc := 1148) dL_law_1148 hk3 h1 ?_
  obtain ⟨hk4, h⟩ := h
  obtain ⟨mc2, ms2, K2, hC, e1, e2, h⟩ := h
  refine sg_VI (pc := 1149) (av := [vi (mD m1 a0 (w32 (a4 + 1)))]) (st := [vi x1]) (K := K2) dL_law_1149 ck_11_135 rfl (by decide) hk4 (by show (1 : Nat) ≤ 8; decide) hC e1 e2 (fun x2 m2 hK => ?_) rfl
  replace h := h x2 m2 hK
  refine st_icmpeq (pc := 1152) (tgt := 1933) dL_law_1152 rfl (fun c => ?_) (fun c => ?_)
  · replace h := h.1 c
    exact h
  · replace h := h.2 c
    refine sg_iconst (pc := 1155) dL_law_1155 (by omega) ?_
    exact st_ireturn (pc := 1156) dL_law_1156 (Or.inr ⟨rfl, by omega⟩) h

theorem sg_L_law_1157 {d bc bs : Nat} {a0 : Nat} {a1 : Nat} {a2 : Nat} {a3 : Nat} {a4 : Int} {μ : Mem} {Q : Option (Option AV) → Mem → Prop}
    (h : (mK μ a0 = 20 ∨ (a0 ≠ 0 ∧ mK μ a0 = 40)) ∧ ((0 : Int) ≤ (w32 (a4 + 1)) ∧ (w32 (a4 + 1)) < (mN μ a0 : Int)) ∧ (((0 : Int) ≤ (w32 (a4 + 2)) ∧ (w32 (a4 + 2)) < (mN μ a0 : Int)) ∧ (mK μ a1 = 10 ∧ ∃ (mc1 ms1 : Nat) (K1 : Int → Mem → Prop), Cl d mc1 ms1 mX9_helps [vr a1, vi (mD μ a0 (w32 (a4 + 1))), vi (mD μ a0 (w32 (a4 + 2)))] μ (KI K1) ∧ mc1 ≤ bc ∧ ms1 ≤ bs ∧ (∀ x1 m1, K1 x1 m1 → (mK m1 a0 = 20 ∨ (a0 ≠ 0 ∧ mK m1 a0 = 40)) ∧ ((0 : Int) ≤ (w32 (a4 + 1)) ∧ (w32 (a4 + 1)) < (mN m1 a0 : Int)) ∧ (((0 : Int) ≤ (w32 (a4 + 2)) ∧ (w32 (a4 + 2)) < (mN m1 a0 : Int)) ∧ (mK m1 a2 = 11 ∧ ∃ (mc2 ms2 : Nat) (K2 : Int → Mem → Prop), Cl d mc2 ms2 mX10_helps [vr a2, vi (mD m1 a0 (w32 (a4 + 1))), vi (mD m1 a0 (w32 (a4 + 2)))] m1 (KI K2) ∧ mc2 ≤ bc - mc1 ∧ ms2 ≤ bs - ms1 ∧ (∀ x2 m2, K2 x2 m2 → (x1 = x2 → Wp (d + 1) (bc - mc1 - mc2) (bs - ms1 - ms2) mL_law 1933 [some (vr a0), some (vr a1), some (vr a2), some (vr a3), some (vi a4), none, none, none] [] m2 Q) ∧ (¬ x1 = x2 → Q (some (some (vi 0))) m2)))))))) :
    Wp (d + 1) bc bs mL_law 1157 [some (vr a0), some (vr a1), some (vr a2), some (vr a3), some (vi a4), none, none, none] [] μ Q := by
  refine st_aload_n (pc := 1157) dL_law_1157 rfl rfl ?_
  refine st_aload_n (pc := 1158) dL_law_1158 rfl rfl ?_
  refine st_iload (pc := 1159) dL_law_1159 rfl ?_
  refine sg_iconst (pc := 1161) dL_law_1161 (by omega) ?_
  refine st_iadd (pc := 1162) dL_law_1162 ?_
  obtain ⟨hk1, h⟩ := h
  obtain ⟨h1, h⟩ := h
  refine sg_iaload (pc := 1163) dL_law_1163 hk1 h1 ?_
  refine st_aload_n (pc := 1164) dL_law_1164 rfl rfl ?_
  refine st_iload (pc := 1165) dL_law_1165 rfl ?_
  refine sg_iconst (pc := 1167) dL_law_1167 (by omega) ?_
  refine st_iadd (pc := 1168) dL_law_1168 ?_
  obtain ⟨h1, h⟩ := h
  refine sg_iaload (pc := 1169) dL_law_1169 hk1 h1 ?_
  obtain ⟨hk2, h⟩ := h
  obtain ⟨mc1, ms1, K1, hC, e1, e2, h⟩ := h
  refine sg_VI (pc := 1170) (av := [vi (mD μ a0 (w32 (a4 + 1))), vi (mD μ a0 (w32 (a4 + 2)))]) (st := []) (K := K1) dL_law_1170 ck_11_136 rfl (by decide) hk2 (by show (0 : Nat) ≤ 8; decide) hC e1 e2 (fun x1 m1 hK => ?_) rfl
  replace h := h x1 m1 hK
  refine st_aload_n (pc := 1173) dL_law_1173 rfl rfl ?_
  refine st_aload_n (pc := 1174) dL_law_1174 rfl rfl ?_
  refine st_iload (pc := 1175) dL_law_1175 rfl ?_
  refine sg_iconst (pc := 1177) dL_law_1177 (by omega) ?_
  refine st_iadd (pc := 1178) dL_law_1178 ?_
  obtain ⟨hk3, h⟩ := h
  obtain ⟨h1, h⟩ := h
  refine sg_iaload (pc := 1179) dL_law_1179 hk3 h1 ?_
  refine st_aload_n (pc := 1180) dL_law_1180 rfl rfl ?_
  refine st_iload (pc := 1181) dL_law_1181 rfl ?_
  refine sg_iconst (pc := 1183) dL_law_1183 (by omega) ?_
  refine st_iadd (pc := 1184) dL_law_1184 ?_
  obtain ⟨h1, h⟩ := h
  refine sg_iaload (pc := 1185) dL_law_1185 hk3 h1 ?_
  obtain ⟨hk4, h⟩ := h
  obtain ⟨mc2, ms2, K2, hC, e1, e2, h⟩ := h
  refine sg_VI (pc := 1186) (av := [vi (mD m1 a0 (w32 (a4 + 1))), vi (mD m1 a0 (w32 (a4 + 2)))]) (st := [vi x1]) (K := K2) dL_law_1186 ck_11_139 rfl (by decide) hk4 (by show (1 : Nat) ≤ 8; decide) hC e1 e2 (fun x2 m2 hK => ?_) rfl
  replace h := h x2 m2 hK
  refine st_icmpeq (pc := 1189) (tgt := 1933) dL_law_1189 rfl (fun c => ?_) (fun c => ?_)
  · replace h := h.1 c
    exact h
  · replace h := h.2 c
    refine sg_iconst (pc := 1192) dL_law_1192 (by omega) ?_
    exact st_ireturn (pc := 1193) dL_law_1193 (Or.inr ⟨rfl, by omega⟩) h

theorem sg_L_law_1194 {d bc bs : Nat} {a0 : Nat} {a1 : Nat} {a2 : Nat} {a3 : Nat} {a4 : Int} {μ : Mem} {Q : Option (Option AV) → Mem → Prop}
    (h : (mK μ a0 = 20 ∨ (a0 ≠ 0 ∧ mK μ a0 = 40)) ∧ ((0 : Int) ≤ (w32 (a4 + 1)) ∧ (w32 (a4 + 1)) < (mN μ a0 : Int)) ∧ (mK μ a1 = 10 ∧ ∃ (mc1 ms1 : Nat) (K1 : Int → Mem → Prop), Cl d mc1 ms1 mX9_layers [vr a1, vi (mD μ a0 (w32 (a4 + 1)))] μ (KI K1) ∧ mc1 ≤ bc ∧ ms1 ≤ bs ∧ (∀ x1 m1, K1 x1 m1 → (mK m1 a0 = 20 ∨ (a0 ≠ 0 ∧ mK m1 a0 = 40)) ∧ ((0 : Int) ≤ (w32 (a4 + 1)) ∧ (w32 (a4 + 1)) < (mN m1 a0 : Int)) ∧ (mK m1 a2 = 11 ∧ ∃ (mc2 ms2 : Nat) (K2 : Int → Mem → Prop), Cl d mc2 ms2 mX10_layers [vr a2, vi (mD m1 a0 (w32 (a4 + 1)))] m1 (KI K2) ∧ mc2 ≤ bc - mc1 ∧ ms2 ≤ bs - ms1 ∧ (∀ x2 m2, K2 x2 m2 → (x1 = x2 → Wp (d + 1) (bc - mc1 - mc2) (bs - ms1 - ms2) mL_law 1933 [some (vr a0), some (vr a1), some (vr a2), some (vr a3), some (vi a4), none, none, none] [] m2 Q) ∧ (¬ x1 = x2 → Q (some (some (vi 0))) m2)))))) :
    Wp (d + 1) bc bs mL_law 1194 [some (vr a0), some (vr a1), some (vr a2), some (vr a3), some (vi a4), none, none, none] [] μ Q := by
  refine st_aload_n (pc := 1194) dL_law_1194 rfl rfl ?_
  refine st_aload_n (pc := 1195) dL_law_1195 rfl rfl ?_
  refine st_iload (pc := 1196) dL_law_1196 rfl ?_
  refine sg_iconst (pc := 1198) dL_law_1198 (by omega) ?_
  refine st_iadd (pc := 1199) dL_law_1199 ?_
  obtain ⟨hk1, h⟩ := h
  obtain ⟨h1, h⟩ := h
  refine sg_iaload (pc := 1200) dL_law_1200 hk1 h1 ?_
  obtain ⟨hk2, h⟩ := h
  obtain ⟨mc1, ms1, K1, hC, e1, e2, h⟩ := h
  refine sg_VI (pc := 1201) (av := [vi (mD μ a0 (w32 (a4 + 1)))]) (st := []) (K := K1) dL_law_1201 ck_11_140 rfl (by decide) hk2 (by show (0 : Nat) ≤ 8; decide) hC e1 e2 (fun x1 m1 hK => ?_) rfl
  replace h := h x1 m1 hK
  refine st_aload_n (pc := 1204) dL_law_1204 rfl rfl ?_
  refine st_aload_n (pc := 1205) dL_law_1205 rfl rfl ?_
  refine st_iload (pc := 1206) dL_law_1206 rfl ?_
  refine sg_iconst (pc := 1208) dL_law_1208 (by omega) ?_
  refine st_iadd (pc := 1209) dL_law_1209 ?_
  obtain ⟨hk3, h⟩ := h
  obtain ⟨h1, h⟩ := h
  refine sg_iaload (pc := 1210) dL_law_1210 hk3 h1 ?_
  obtain ⟨hk4, h⟩ := h
  obtain ⟨mc2, ms2, K2, hC, e1, e2, h⟩ := h
  refine sg_VI (pc := 1211) (av := [vi (mD m1 a0 (w32 (a4 + 1)))]) (st := [vi x1]) (K := K2) dL_law_1211 ck_11_143 rfl (by decide) hk4 (by show (1 : Nat) ≤ 8; decide) hC e1 e2 (fun x2 m2 hK => ?_) rfl
  replace h := h x2 m2 hK
  refine st_icmpeq (pc := 1214) (tgt := 1933) dL_law_1214 rfl (fun c => ?_) (fun c => ?_)
  · replace h := h.1 c
    exact h
  · replace h := h.2 c
    refine sg_iconst (pc := 1217) dL_law_1217 (by omega) ?_
    exact st_ireturn (pc := 1218) dL_law_1218 (Or.inr ⟨rfl, by omega⟩) h

theorem sg_L_law_1219 {d bc bs : Nat} {a0 : Nat} {a1 : Nat} {a2 : Nat} {a3 : Nat} {a4 : Int} {μ : Mem} {Q : Option (Option AV) → Mem → Prop}
    (h : (mK μ a0 = 20 ∨ (a0 ≠ 0 ∧ mK μ a0 = 40)) ∧ ((0 : Int) ≤ (w32 (a4 + 1)) ∧ (w32 (a4 + 1)) < (mN μ a0 : Int)) ∧ (((0 : Int) ≤ (w32 (a4 + 2)) ∧ (w32 (a4 + 2)) < (mN μ a0 : Int)) ∧ (((0 : Int) ≤ (w32 (a4 + 3)) ∧ (w32 (a4 + 3)) < (mN μ a0 : Int)) ∧ (mK μ a1 = 10 ∧ ∃ (mc1 ms1 : Nat) (K1 : Int → Mem → Prop), Cl d mc1 ms1 mX9_off [vr a1, vi (mD μ a0 (w32 (a4 + 1))), vi (mD μ a0 (w32 (a4 + 2))), vi (mD μ a0 (w32 (a4 + 3)))] μ (KI K1) ∧ mc1 ≤ bc ∧ ms1 ≤ bs ∧ (∀ x1 m1, K1 x1 m1 → (mK m1 a0 = 20 ∨ (a0 ≠ 0 ∧ mK m1 a0 = 40)) ∧ ((0 : Int) ≤ (w32 (a4 + 1)) ∧ (w32 (a4 + 1)) < (mN m1 a0 : Int)) ∧ (((0 : Int) ≤ (w32 (a4 + 2)) ∧ (w32 (a4 + 2)) < (mN m1 a0 : Int)) ∧ (((0 : Int) ≤ (w32 (a4 + 3)) ∧ (w32 (a4 + 3)) < (mN m1 a0 : Int)) ∧ (mK m1 a2 = 11 ∧ ∃ (mc2 ms2 : Nat) (K2 : Int → Mem → Prop), Cl d mc2 ms2 mX10_off [vr a2, vi (mD m1 a0 (w32 (a4 + 1))), vi (mD m1 a0 (w32 (a4 + 2))), vi (mD m1 a0 (w32 (a4 + 3)))] m1 (KI K2) ∧ mc2 ≤ bc - mc1 ∧ ms2 ≤ bs - ms1 ∧ (∀ x2 m2, K2 x2 m2 → (x1 = x2 → Wp (d + 1) (bc - mc1 - mc2) (bs - ms1 - ms2) mL_law 1933 [some (vr a0), some (vr a1), some (vr a2), some (vr a3), some (vi a4), none, none, none] [] m2 Q) ∧ (¬ x1 = x2 → Q (some (some (vi 0))) m2)))))))))) :
    Wp (d + 1) bc bs mL_law 1219 [some (vr a0), some (vr a1), some (vr a2), some (vr a3), some (vi a4), none, none, none] [] μ Q := by
  refine st_aload_n (pc := 1219) dL_law_1219 rfl rfl ?_
  refine st_aload_n (pc := 1220) dL_law_1220 rfl rfl ?_
  refine st_iload (pc := 1221) dL_law_1221 rfl ?_
  refine sg_iconst (pc := 1223) dL_law_1223 (by omega) ?_
  refine st_iadd (pc := 1224) dL_law_1224 ?_
  obtain ⟨hk1, h⟩ := h
  obtain ⟨h1, h⟩ := h
  refine sg_iaload (pc := 1225) dL_law_1225 hk1 h1 ?_
  refine st_aload_n (pc := 1226) dL_law_1226 rfl rfl ?_
  refine st_iload (pc := 1227) dL_law_1227 rfl ?_
  refine sg_iconst (pc := 1229) dL_law_1229 (by omega) ?_
  refine st_iadd (pc := 1230) dL_law_1230 ?_
  obtain ⟨h1, h⟩ := h
  refine sg_iaload (pc := 1231) dL_law_1231 hk1 h1 ?_
  refine st_aload_n (pc := 1232) dL_law_1232 rfl rfl ?_
  refine st_iload (pc := 1233) dL_law_1233 rfl ?_
  refine sg_iconst (pc := 1235) dL_law_1235 (by omega) ?_
  refine st_iadd (pc := 1236) dL_law_1236 ?_
  obtain ⟨h1, h⟩ := h
  refine sg_iaload (pc := 1237) dL_law_1237 hk1 h1 ?_
  obtain ⟨hk2, h⟩ := h
  obtain ⟨mc1, ms1, K1, hC, e1, e2, h⟩ := h
  refine sg_VI (pc := 1238) (av := [vi (mD μ a0 (w32 (a4 + 1))), vi (mD μ a0 (w32 (a4 + 2))), vi (mD μ a0 (w32 (a4 + 3)))]) (st := []) (K := K1) dL_law_1238 ck_11_144 rfl (by decide) hk2 (by show (0 : Nat) ≤ 8; decide) hC e1 e2 (fun x1 m1 hK => ?_) rfl
  replace h := h x1 m1 hK
  refine st_aload_n (pc := 1241) dL_law_1241 rfl rfl ?_
  refine st_aload_n (pc := 1242) dL_law_1242 rfl rfl ?_
  refine st_iload (pc := 1243) dL_law_1243 rfl ?_
  refine sg_iconst (pc := 1245) dL_law_1245 (by omega) ?_
  refine st_iadd (pc := 1246) dL_law_1246 ?_
  obtain ⟨hk3, h⟩ := h
  obtain ⟨h1, h⟩ := h
  refine sg_iaload (pc := 1247) dL_law_1247 hk3 h1 ?_
  refine st_aload_n (pc := 1248) dL_law_1248 rfl rfl ?_
  refine st_iload (pc := 1249) dL_law_1249 rfl ?_
  refine sg_iconst (pc := 1251) dL_law_1251 (by omega) ?_
  refine st_iadd (pc := 1252) dL_law_1252 ?_
  obtain ⟨h1, h⟩ := h
  refine sg_iaload (pc := 1253) dL_law_1253 hk3 h1 ?_
  refine st_aload_n (pc := 1254) dL_law_1254 rfl rfl ?_
  refine st_iload (pc := 1255) dL_law_1255 rfl ?_
  refine sg_iconst (pc := 1257) dL_law_1257 (by omega) ?_
  refine st_iadd (pc := 1258) dL_law_1258 ?_
  obtain ⟨h1, h⟩ := h
  refine sg_iaload (pc := 1259) dL_law_1259 hk3 h1 ?_
  obtain ⟨hk4, h⟩ := h
  obtain ⟨mc2, ms2, K2, hC, e1, e2, h⟩ := h
  refine sg_VI (pc := 1260) (av := [vi (mD m1 a0 (w32 (a4 + 1))), vi (mD m1 a0 (w32 (a4 + 2))), vi (mD m1 a0 (w32 (a4 + 3)))]) (st := [vi x1]) (K := K2) dL_law_1260 ck_11_147 rfl (by decide) hk4 (by show (1 : Nat) ≤ 8; decide) hC e1 e2 (fun x2 m2 hK => ?_) rfl
  replace h := h x2 m2 hK
  refine st_icmpeq (pc := 1263) (tgt := 1933) dL_law_1263 rfl (fun c => ?_) (fun c => ?_)
  · replace h := h.1 c
    exact h
  · replace h := h.2 c
    refine sg_iconst (pc := 1266) dL_law_1266 (by omega) ?_
    exact st_ireturn (pc := 1267) dL_law_1267 (Or.inr ⟨rfl, by omega⟩) h

theorem sg_L_law_1268 {d bc bs : Nat} {a0 : Nat} {a1 : Nat} {a2 : Nat} {a3 : Nat} {a4 : Int} {μ : Mem} {Q : Option (Option AV) → Mem → Prop}
    (h : (mK μ a0 = 20 ∨ (a0 ≠ 0 ∧ mK μ a0 = 40)) ∧ ((0 : Int) ≤ (w32 (a4 + 1)) ∧ (w32 (a4 + 1)) < (mN μ a0 : Int)) ∧ (((0 : Int) ≤ (w32 (a4 + 2)) ∧ (w32 (a4 + 2)) < (mN μ a0 : Int)) ∧ (mK μ a1 = 10 ∧ ∃ (mc1 ms1 : Nat) (K1 : Int → Mem → Prop), Cl d mc1 ms1 mX9_few [vr a1, vi (mD μ a0 (w32 (a4 + 1))), vi (mD μ a0 (w32 (a4 + 2)))] μ (KI K1) ∧ mc1 ≤ bc ∧ ms1 ≤ bs ∧ (∀ x1 m1, K1 x1 m1 → (mK m1 a0 = 20 ∨ (a0 ≠ 0 ∧ mK m1 a0 = 40)) ∧ ((0 : Int) ≤ (w32 (a4 + 1)) ∧ (w32 (a4 + 1)) < (mN m1 a0 : Int)) ∧ (((0 : Int) ≤ (w32 (a4 + 2)) ∧ (w32 (a4 + 2)) < (mN m1 a0 : Int)) ∧ (mK m1 a2 = 11 ∧ ∃ (mc2 ms2 : Nat) (K2 : Int → Mem → Prop), Cl d mc2 ms2 mX10_few [vr a2, vi (mD m1 a0 (w32 (a4 + 1))), vi (mD m1 a0 (w32 (a4 + 2)))] m1 (KI K2) ∧ mc2 ≤ bc - mc1 ∧ ms2 ≤ bs - ms1 ∧ (∀ x2 m2, K2 x2 m2 → (x1 = x2 → Wp (d + 1) (bc - mc1 - mc2) (bs - ms1 - ms2) mL_law 1933 [some (vr a0), some (vr a1), some (vr a2), some (vr a3), some (vi a4), none, none, none] [] m2 Q) ∧ (¬ x1 = x2 → Q (some (some (vi 0))) m2)))))))) :
    Wp (d + 1) bc bs mL_law 1268 [some (vr a0), some (vr a1), some (vr a2), some (vr a3), some (vi a4), none, none, none] [] μ Q := by
  refine st_aload_n (pc := 1268) dL_law_1268 rfl rfl ?_
  refine st_aload_n (pc := 1269) dL_law_1269 rfl rfl ?_
  refine st_iload (pc := 1270) dL_law_1270 rfl ?_
  refine sg_iconst (pc := 1272) dL_law_1272 (by omega) ?_
  refine st_iadd (pc := 1273) dL_law_1273 ?_
  obtain ⟨hk1, h⟩ := h
  obtain ⟨h1, h⟩ := h
  refine sg_iaload (pc := 1274) dL_law_1274 hk1 h1 ?_
  refine st_aload_n (pc := 1275) dL_law_1275 rfl rfl ?_
  refine st_iload (pc := 1276) dL_law_1276 rfl ?_
  refine sg_iconst (pc := 1278) dL_law_1278 (by omega) ?_
  refine st_iadd (pc := 1279) dL_law_1279 ?_
  obtain ⟨h1, h⟩ := h
  refine sg_iaload (pc := 1280) dL_law_1280 hk1 h1 ?_
  obtain ⟨hk2, h⟩ := h
  obtain ⟨mc1, ms1, K1, hC, e1, e2, h⟩ := h
  refine sg_VI (pc := 1281) (av := [vi (mD μ a0 (w32 (a4 + 1))), vi (mD μ a0 (w32 (a4 + 2)))]) (st := []) (K := K1) dL_law_1281 ck_11_148 rfl (by decide) hk2 (by show (0 : Nat) ≤ 8; decide) hC e1 e2 (fun x1 m1 hK => ?_) rfl
  replace h := h x1 m1 hK
  refine st_aload_n (pc := 1284) dL_law_1284 rfl rfl ?_
  refine st_aload_n (pc := 1285) dL_law_1285 rfl rfl ?_
  refine st_iload (pc := 1286) dL_law_1286 rfl ?_
  refine sg_iconst (pc := 1288) dL_law_1288 (by omega) ?_
  refine st_iadd (pc := 1289) dL_law_1289 ?_
  obtain ⟨hk3, h⟩ := h
  obtain ⟨h1, h⟩ := h
  refine sg_iaload (pc := 1290) dL_law_1290 hk3 h1 ?_
  refine st_aload_n (pc := 1291) dL_law_1291 rfl rfl ?_
  refine st_iload (pc := 1292) dL_law_1292 rfl ?_
  refine sg_iconst (pc := 1294) dL_law_1294 (by omega) ?_
  refine st_iadd (pc := 1295) dL_law_1295 ?_
  obtain ⟨h1, h⟩ := h
  refine sg_iaload (pc := 1296) dL_law_1296 hk3 h1 ?_
  obtain ⟨hk4, h⟩ := h
  obtain ⟨mc2, ms2, K2, hC, e1, e2, h⟩ := h
  refine sg_VI (pc := 1297) (av := [vi (mD m1 a0 (w32 (a4 + 1))), vi (mD m1 a0 (w32 (a4 + 2)))]) (st := [vi x1]) (K := K2) dL_law_1297 ck_11_151 rfl (by decide) hk4 (by show (1 : Nat) ≤ 8; decide) hC e1 e2 (fun x2 m2 hK => ?_) rfl
  replace h := h x2 m2 hK
  refine st_icmpeq (pc := 1300) (tgt := 1933) dL_law_1300 rfl (fun c => ?_) (fun c => ?_)
  · replace h := h.1 c
    exact h
  · replace h := h.2 c
    refine sg_iconst (pc := 1303) dL_law_1303 (by omega) ?_
    exact st_ireturn (pc := 1304) dL_law_1304 (Or.inr ⟨rfl, by omega⟩) h

theorem sg_L_law_1305 {d bc bs : Nat} {a0 : Nat} {a1 : Nat} {a2 : Nat} {a3 : Nat} {a4 : Int} {μ : Mem} {Q : Option (Option AV) → Mem → Prop}
    (h : (mK μ a0 = 20 ∨ (a0 ≠ 0 ∧ mK μ a0 = 40)) ∧ ((0 : Int) ≤ (w32 (a4 + 1)) ∧ (w32 (a4 + 1)) < (mN μ a0 : Int)) ∧ (((0 : Int) ≤ (w32 (a4 + 2)) ∧ (w32 (a4 + 2)) < (mN μ a0 : Int)) ∧ (mK μ a1 = 10 ∧ ∃ (mc1 ms1 : Nat) (K1 : Int → Mem → Prop), Cl d mc1 ms1 mX9_best [vr a1, vi (mD μ a0 (w32 (a4 + 1))), vi (mD μ a0 (w32 (a4 + 2)))] μ (KI K1) ∧ mc1 ≤ bc ∧ ms1 ≤ bs ∧ (∀ x1 m1, K1 x1 m1 → (mK m1 a0 = 20 ∨ (a0 ≠ 0 ∧ mK m1 a0 = 40)) ∧ ((0 : Int) ≤ (w32 (a4 + 1)) ∧ (w32 (a4 + 1)) < (mN m1 a0 : Int)) ∧ (((0 : Int) ≤ (w32 (a4 + 2)) ∧ (w32 (a4 + 2)) < (mN m1 a0 : Int)) ∧ (mK m1 a2 = 11 ∧ ∃ (mc2 ms2 : Nat) (K2 : Int → Mem → Prop), Cl d mc2 ms2 mX10_best [vr a2, vi (mD m1 a0 (w32 (a4 + 1))), vi (mD m1 a0 (w32 (a4 + 2)))] m1 (KI K2) ∧ mc2 ≤ bc - mc1 ∧ ms2 ≤ bs - ms1 ∧ (∀ x2 m2, K2 x2 m2 → (x1 = x2 → Wp (d + 1) (bc - mc1 - mc2) (bs - ms1 - ms2) mL_law 1933 [some (vr a0), some (vr a1), some (vr a2), some (vr a3), some (vi a4), none, none, none] [] m2 Q) ∧ (¬ x1 = x2 → Q (some (some (vi 0))) m2)))))))) :
    Wp (d + 1) bc bs mL_law 1305 [some (vr a0), some (vr a1), some (vr a2), some (vr a3), some (vi a4), none, none, none] [] μ Q := by
  refine st_aload_n (pc := 1305) dL_law_1305 rfl rfl ?_
  refine st_aload_n (pc := 1306) dL_law_1306 rfl rfl ?_
  refine st_iload (pc := 1307) dL_law_1307 rfl ?_
  refine sg_iconst (pc := 1309) dL_law_1309 (by omega) ?_
  refine st_iadd (pc := 1310) dL_law_1310 ?_
  obtain ⟨hk1, h⟩ := h
  obtain ⟨h1, h⟩ := h
  refine sg_iaload (pc := 1311) dL_law_1311 hk1 h1 ?_
  refine st_aload_n (pc := 1312) dL_law_1312 rfl rfl ?_
  refine st_iload (pc := 1313) dL_law_1313 rfl ?_
  refine sg_iconst (pc := 1315) dL_law_1315 (by omega) ?_
  refine st_iadd (pc := 1316) dL_law_1316 ?_
  obtain ⟨h1, h⟩ := h
  refine sg_iaload (pc := 1317) dL_law_1317 hk1 h1 ?_
  obtain ⟨hk2, h⟩ := h
  obtain ⟨mc1, ms1, K1, hC, e1, e2, h⟩ := h
  refine sg_VI (pc := 1318) (av := [vi (mD μ a0 (w32 (a4 + 1))), vi (mD μ a0 (w32 (a4 + 2)))]) (st := []) (K := K1) dL_law_1318 ck_11_152 rfl (by decide) hk2 (by show (0 : Nat) ≤ 8; decide) hC e1 e2 (fun x1 m1 hK => ?_) rfl
  replace h := h x1 m1 hK
  refine st_aload_n (pc := 1321) dL_law_1321 rfl rfl ?_
  refine st_aload_n (pc := 1322) dL_law_1322 rfl rfl ?_
  refine st_iload (pc := 1323) dL_law_1323 rfl ?_
  refine sg_iconst (pc := 1325) dL_law_1325 (by omega) ?_
  refine st_iadd (pc := 1326) dL_law_1326 ?_
  obtain ⟨hk3, h⟩ := h
  obtain ⟨h1, h⟩ := h
  refine sg_iaload (pc := 1327) dL_law_1327 hk3 h1 ?_
  refine st_aload_n (pc := 1328) dL_law_1328 rfl rfl ?_
  refine st_iload (pc := 1329) dL_law_1329 rfl ?_
  refine sg_iconst (pc := 1331) dL_law_1331 (by omega) ?_
  refine st_iadd (pc := 1332) dL_law_1332 ?_
  obtain ⟨h1, h⟩ := h
  refine sg_iaload (pc := 1333) dL_law_1333 hk3 h1 ?_
  obtain ⟨hk4, h⟩ := h
  obtain ⟨mc2, ms2, K2, hC, e1, e2, h⟩ := h
  refine sg_VI (pc := 1334) (av := [vi (mD m1 a0 (w32 (a4 + 1))), vi (mD m1 a0 (w32 (a4 + 2)))]) (st := [vi x1]) (K := K2) dL_law_1334 ck_11_155 rfl (by decide) hk4 (by show (1 : Nat) ≤ 8; decide) hC e1 e2 (fun x2 m2 hK => ?_) rfl
  replace h := h x2 m2 hK
  refine st_icmpeq (pc := 1337) (tgt := 1933) dL_law_1337 rfl (fun c => ?_) (fun c => ?_)
  · replace h := h.1 c
    exact h
  · replace h := h.2 c
    refine sg_iconst (pc := 1340) dL_law_1340 (by omega) ?_
    exact st_ireturn (pc := 1341) dL_law_1341 (Or.inr ⟨rfl, by omega⟩) h

theorem sg_L_law_1342 {d bc bs : Nat} {a0 : Nat} {a1 : Nat} {a2 : Nat} {a3 : Nat} {a4 : Int} {μ : Mem} {Q : Option (Option AV) → Mem → Prop}
    (h : (mK μ a0 = 20 ∨ (a0 ≠ 0 ∧ mK μ a0 = 40)) ∧ ((0 : Int) ≤ (w32 (a4 + 1)) ∧ (w32 (a4 + 1)) < (mN μ a0 : Int)) ∧ (((0 : Int) ≤ (w32 (a4 + 2)) ∧ (w32 (a4 + 2)) < (mN μ a0 : Int)) ∧ (mK μ a1 = 10 ∧ ∃ (mc1 ms1 : Nat) (K1 : Int → Mem → Prop), Cl d mc1 ms1 mX9_lid [vr a1, vi (mD μ a0 (w32 (a4 + 1))), vi (mD μ a0 (w32 (a4 + 2)))] μ (KI K1) ∧ mc1 ≤ bc ∧ ms1 ≤ bs ∧ (∀ x1 m1, K1 x1 m1 → (mK m1 a0 = 20 ∨ (a0 ≠ 0 ∧ mK m1 a0 = 40)) ∧ ((0 : Int) ≤ (w32 (a4 + 1)) ∧ (w32 (a4 + 1)) < (mN m1 a0 : Int)) ∧ (((0 : Int) ≤ (w32 (a4 + 2)) ∧ (w32 (a4 + 2)) < (mN m1 a0 : Int)) ∧ (mK m1 a2 = 11 ∧ ∃ (mc2 ms2 : Nat) (K2 : Int → Mem → Prop), Cl d mc2 ms2 mX10_lid [vr a2, vi (mD m1 a0 (w32 (a4 + 1))), vi (mD m1 a0 (w32 (a4 + 2)))] m1 (KI K2) ∧ mc2 ≤ bc - mc1 ∧ ms2 ≤ bs - ms1 ∧ (∀ x2 m2, K2 x2 m2 → (x1 = x2 → Wp (d + 1) (bc - mc1 - mc2) (bs - ms1 - ms2) mL_law 1933 [some (vr a0), some (vr a1), some (vr a2), some (vr a3), some (vi a4), none, none, none] [] m2 Q) ∧ (¬ x1 = x2 → Q (some (some (vi 0))) m2)))))))) :
    Wp (d + 1) bc bs mL_law 1342 [some (vr a0), some (vr a1), some (vr a2), some (vr a3), some (vi a4), none, none, none] [] μ Q := by
  refine st_aload_n (pc := 1342) dL_law_1342 rfl rfl ?_
  refine st_aload_n (pc := 1343) dL_law_1343 rfl rfl ?_
  refine st_iload (pc := 1344) dL_law_1344 rfl ?_
  refine sg_iconst (pc := 1346) dL_law_1346 (by omega) ?_
  refine st_iadd (pc := 1347) dL_law_1347 ?_
  obtain ⟨hk1, h⟩ := h
  obtain ⟨h1, h⟩ := h
  refine sg_iaload (pc := 1348) dL_law_1348 hk1 h1 ?_
  refine st_aload_n (pc := 1349) dL_law_1349 rfl rfl ?_
  refine st_iload (pc := 1350) dL_law_1350 rfl ?_
  refine sg_iconst (pc := 1352) dL_law_1352 (by omega) ?_
  refine st_iadd (pc := 1353) dL_law_1353 ?_
  obtain ⟨h1, h⟩ := h
  refine sg_iaload (pc := 1354) dL_law_1354 hk1 h1 ?_
  obtain ⟨hk2, h⟩ := h
  obtain ⟨mc1, ms1, K1, hC, e1, e2, h⟩ := h
  refine sg_VI (pc := 1355) (av := [vi (mD μ a0 (w32 (a4 + 1))), vi (mD μ a0 (w32 (a4 + 2)))]) (st := []) (K := K1) dL_law_1355 ck_11_156 rfl (by decide) hk2 (by show (0 : Nat) ≤ 8; decide) hC e1 e2 (fun x1 m1 hK => ?_) rfl
  replace h := h x1 m1 hK
  refine st_aload_n (pc := 1358) dL_law_1358 rfl rfl ?_
  refine st_aload_n (pc := 1359) dL_law_1359 rfl rfl ?_
  refine st_iload (pc := 1360) dL_law_1360 rfl ?_
  refine sg_iconst (pc := 1362) dL_law_1362 (by omega) ?_
  refine st_iadd (pc := 1363) dL_law_1363 ?_
  obtain ⟨hk3, h⟩ := h
  obtain ⟨h1, h⟩ := h
  refine sg_iaload (pc := 1364) dL_law_1364 hk3 h1 ?_
  refine st_aload_n (pc := 1365) dL_law_1365 rfl rfl ?_
  refine st_iload (pc := 1366) dL_law_1366 rfl ?_
  refine sg_iconst (pc := 1368) dL_law_1368 (by omega) ?_
  refine st_iadd (pc := 1369) dL_law_1369 ?_
  obtain ⟨h1, h⟩ := h
  refine sg_iaload (pc := 1370) dL_law_1370 hk3 h1 ?_
  obtain ⟨hk4, h⟩ := h
  obtain ⟨mc2, ms2, K2, hC, e1, e2, h⟩ := h
  refine sg_VI (pc := 1371) (av := [vi (mD m1 a0 (w32 (a4 + 1))), vi (mD m1 a0 (w32 (a4 + 2)))]) (st := [vi x1]) (K := K2) dL_law_1371 ck_11_159 rfl (by decide) hk4 (by show (1 : Nat) ≤ 8; decide) hC e1 e2 (fun x2 m2 hK => ?_) rfl
  replace h := h x2 m2 hK
  refine st_icmpeq (pc := 1374) (tgt := 1933) dL_law_1374 rfl (fun c => ?_) (fun c => ?_)
  · replace h := h.1 c
    exact h
  · replace h := h.2 c
    refine sg_iconst (pc := 1377) dL_law_1377 (by omega) ?_
    exact st_ireturn (pc := 1378) dL_law_1378 (Or.inr ⟨rfl, by omega⟩) h

theorem sg_L_law_1379 {d bc bs : Nat} {a0 : Nat} {a1 : Nat} {a2 : Nat} {a3 : Nat} {a4 : Int} {μ : Mem} {Q : Option (Option AV) → Mem → Prop}
    (h : (mK μ a0 = 20 ∨ (a0 ≠ 0 ∧ mK μ a0 = 40)) ∧ ((0 : Int) ≤ (w32 (a4 + 1)) ∧ (w32 (a4 + 1)) < (mN μ a0 : Int)) ∧ (mK μ a1 = 10 ∧ ∃ (mc1 ms1 : Nat) (K1 : Int → Mem → Prop), Cl d mc1 ms1 mX9_form [vr a1, vi (mD μ a0 (w32 (a4 + 1)))] μ (KI K1) ∧ mc1 ≤ bc ∧ ms1 ≤ bs ∧ (∀ x1 m1, K1 x1 m1 → (mK m1 a0 = 20 ∨ (a0 ≠ 0 ∧ mK m1 a0 = 40)) ∧ ((0 : Int) ≤ (w32 (a4 + 1)) ∧ (w32 (a4 + 1)) < (mN m1 a0 : Int)) ∧ (mK m1 a2 = 11 ∧ ∃ (mc2 ms2 : Nat) (K2 : Int → Mem → Prop), Cl d mc2 ms2 mX10_form [vr a2, vi (mD m1 a0 (w32 (a4 + 1)))] m1 (KI K2) ∧ mc2 ≤ bc - mc1 ∧ ms2 ≤ bs - ms1 ∧ (∀ x2 m2, K2 x2 m2 → (x1 = x2 → Wp (d + 1) (bc - mc1 - mc2) (bs - ms1 - ms2) mL_law 1933 [some (vr a0), some (vr a1), some (vr a2), some (vr a3), some (vi a4), none, none, none] [] m2 Q) ∧ (¬ x1 = x2 → Q (some (some (vi 0))) m2)))))) :
    Wp (d + 1) bc bs mL_law 1379 [some (vr a0), some (vr a1), some (vr a2), some (vr a3), some (vi a4), none, none, none] [] μ Q := by
  refine st_aload_n (pc := 1379) dL_law_1379 rfl rfl ?_
  refine st_aload_n (pc := 1380) dL_law_1380 rfl rfl ?_
  refine st_iload (pc := 1381) dL_law_1381 rfl ?_
  refine sg_iconst (pc := 1383) dL_law_1383 (by omega) ?_
  refine st_iadd (pc := 1384) dL_law_1384 ?_
  obtain ⟨hk1, h⟩ := h
  obtain ⟨h1, h⟩ := h
  refine sg_iaload (pc := 1385) dL_law_1385 hk1 h1 ?_
  obtain ⟨hk2, h⟩ := h
  obtain ⟨mc1, ms1, K1, hC, e1, e2, h⟩ := h
  refine sg_VI (pc := 1386) (av := [vi (mD μ a0 (w32 (a4 + 1)))]) (st := []) (K := K1) dL_law_1386 ck_11_160 rfl (by decide) hk2 (by show (0 : Nat) ≤ 8; decide) hC e1 e2 (fun x1 m1 hK => ?_) rfl
  replace h := h x1 m1 hK
  refine st_aload_n (pc := 1389) dL_law_1389 rfl rfl ?_
  refine st_aload_n (pc := 1390) dL_law_1390 rfl rfl ?_
  refine st_iload (pc := 1391) dL_law_1391 rfl ?_
  refine sg_iconst (pc := 1393) dL_law_1393 (by omega) ?_
  refine st_iadd (pc := 1394) dL_law_1394 ?_
  obtain ⟨hk3, h⟩ := h
  obtain ⟨h1, h⟩ := h
  refine sg_iaload (pc := 1395) dL_law_1395 hk3 h1 ?_
  obtain ⟨hk4, h⟩ := h
  obtain ⟨mc2, ms2, K2, hC, e1, e2, h⟩ := h
  refine sg_VI (pc := 1396) (av := [vi (mD m1 a0 (w32 (a4 + 1)))]) (st := [vi x1]) (K := K2) dL_law_1396 ck_11_163 rfl (by decide) hk4 (by show (1 : Nat) ≤ 8; decide) hC e1 e2 (fun x2 m2 hK => ?_) rfl
  replace h := h x2 m2 hK
  refine st_icmpeq (pc := 1399) (tgt := 1933) dL_law_1399 rfl (fun c => ?_) (fun c => ?_)
  · replace h := h.1 c
    exact h
  · replace h := h.2 c
    refine sg_iconst (pc := 1402) dL_law_1402 (by omega) ?_
    exact st_ireturn (pc := 1403) dL_law_1403 (Or.inr ⟨rfl, by omega⟩) h

theorem sg_L_law_1404 {d bc bs : Nat} {a0 : Nat} {a1 : Nat} {a2 : Nat} {a3 : Nat} {a4 : Int} {μ : Mem} {Q : Option (Option AV) → Mem → Prop}
    (h : (mK μ a0 = 20 ∨ (a0 ≠ 0 ∧ mK μ a0 = 40)) ∧ ((0 : Int) ≤ (w32 (a4 + 1)) ∧ (w32 (a4 + 1)) < (mN μ a0 : Int)) ∧ (((0 : Int) ≤ (w32 (a4 + 2)) ∧ (w32 (a4 + 2)) < (mN μ a0 : Int)) ∧ (mK μ a1 = 10 ∧ ∃ (mc1 ms1 : Nat) (K1 : Int → Mem → Prop), Cl d mc1 ms1 mX9_turn [vr a1, vi (mD μ a0 (w32 (a4 + 1))), vi (mD μ a0 (w32 (a4 + 2)))] μ (KI K1) ∧ mc1 ≤ bc ∧ ms1 ≤ bs ∧ (∀ x1 m1, K1 x1 m1 → (mK m1 a0 = 20 ∨ (a0 ≠ 0 ∧ mK m1 a0 = 40)) ∧ ((0 : Int) ≤ (w32 (a4 + 1)) ∧ (w32 (a4 + 1)) < (mN m1 a0 : Int)) ∧ (((0 : Int) ≤ (w32 (a4 + 2)) ∧ (w32 (a4 + 2)) < (mN m1 a0 : Int)) ∧ (mK m1 a2 = 11 ∧ ∃ (mc2 ms2 : Nat) (K2 : Int → Mem → Prop), Cl d mc2 ms2 mX10_turn [vr a2, vi (mD m1 a0 (w32 (a4 + 1))), vi (mD m1 a0 (w32 (a4 + 2)))] m1 (KI K2) ∧ mc2 ≤ bc - mc1 ∧ ms2 ≤ bs - ms1 ∧ (∀ x2 m2, K2 x2 m2 → (x1 = x2 → Wp (d + 1) (bc - mc1 - mc2) (bs - ms1 - ms2) mL_law 1933 [some (vr a0), some (vr a1), some (vr a2), some (vr a3), some (vi a4), none, none, none] [] m2 Q) ∧ (¬ x1 = x2 → Q (some (some (vi 0))) m2)))))))) :
    Wp (d + 1) bc bs mL_law 1404 [some (vr a0), some (vr a1), some (vr a2), some (vr a3), some (vi a4), none, none, none] [] μ Q := by
  refine st_aload_n (pc := 1404) dL_law_1404 rfl rfl ?_
  refine st_aload_n (pc := 1405) dL_law_1405 rfl rfl ?_
  refine st_iload (pc := 1406) dL_law_1406 rfl ?_
  refine sg_iconst (pc := 1408) dL_law_1408 (by omega) ?_
  refine st_iadd (pc := 1409) dL_law_1409 ?_
  obtain ⟨hk1, h⟩ := h
  obtain ⟨h1, h⟩ := h
  refine sg_iaload (pc := 1410) dL_law_1410 hk1 h1 ?_
  refine st_aload_n (pc := 1411) dL_law_1411 rfl rfl ?_
  refine st_iload (pc := 1412) dL_law_1412 rfl ?_
  refine sg_iconst (pc := 1414) dL_law_1414 (by omega) ?_
  refine st_iadd (pc := 1415) dL_law_1415 ?_
  obtain ⟨h1, h⟩ := h
  refine sg_iaload (pc := 1416) dL_law_1416 hk1 h1 ?_
  obtain ⟨hk2, h⟩ := h
  obtain ⟨mc1, ms1, K1, hC, e1, e2, h⟩ := h
  refine sg_VI (pc := 1417) (av := [vi (mD μ a0 (w32 (a4 + 1))), vi (mD μ a0 (w32 (a4 + 2)))]) (st := []) (K := K1) dL_law_1417 ck_11_164 rfl (by decide) hk2 (by show (0 : Nat) ≤ 8; decide) hC e1 e2 (fun x1 m1 hK => ?_) rfl
  replace h := h x1 m1 hK
  refine st_aload_n (pc := 1420) dL_law_1420 rfl rfl ?_
  refine st_aload_n (pc := 1421) dL_law_1421 rfl rfl ?_
  refine st_iload (pc := 1422) dL_law_1422 rfl ?_
  refine sg_iconst (pc := 1424) dL_law_1424 (by omega) ?_
  refine st_iadd (pc := 1425) dL_law_1425 ?_
  obtain ⟨hk3, h⟩ := h
  obtain ⟨h1, h⟩ := h
  refine sg_iaload (pc := 1426) dL_law_1426 hk3 h1 ?_
  refine st_aload_n (pc := 1427) dL_law_1427 rfl rfl ?_
  refine st_iload (pc := 1428) dL_law_1428 rfl ?_
  refine sg_iconst (pc := 1430) dL_law_1430 (by omega) ?_
  refine st_iadd (pc := 1431) dL_law_1431 ?_
  obtain ⟨h1, h⟩ := h
  refine sg_iaload (pc := 1432) dL_law_1432 hk3 h1 ?_
  obtain ⟨hk4, h⟩ := h
  obtain ⟨mc2, ms2, K2, hC, e1, e2, h⟩ := h
  refine sg_VI (pc := 1433) (av := [vi (mD m1 a0 (w32 (a4 + 1))), vi (mD m1 a0 (w32 (a4 + 2)))]) (st := [vi x1]) (K := K2) dL_law_1433 ck_11_167 rfl (by decide) hk4 (by show (1 : Nat) ≤ 8; decide) hC e1 e2 (fun x2 m2 hK => ?_) rfl
  replace h := h x2 m2 hK
  refine st_icmpeq (pc := 1436) (tgt := 1933) dL_law_1436 rfl (fun c => ?_) (fun c => ?_)
  · replace h := h.1 c
    exact h
  · replace h := h.2 c
    refine sg_iconst (pc := 1439) dL_law_1439 (by omega) ?_
    exact st_ireturn (pc := 1440) dL_law_1440 (Or.inr ⟨rfl, by omega⟩) h

theorem sg_L_law_1441 {d bc bs : Nat} {a0 : Nat} {a1 : Nat} {a2 : Nat} {a3 : Nat} {a4 : Int} {μ : Mem} {Q : Option (Option AV) → Mem → Prop}
    (h : (mK μ a0 = 20 ∨ (a0 ≠ 0 ∧ mK μ a0 = 40)) ∧ ((0 : Int) ≤ (w32 (a4 + 1)) ∧ (w32 (a4 + 1)) < (mN μ a0 : Int)) ∧ (mK μ a1 = 10 ∧ ∃ (mc1 ms1 : Nat) (K1 : Int → Mem → Prop), Cl d mc1 ms1 mX9_door [vr a1, vi (mD μ a0 (w32 (a4 + 1)))] μ (KI K1) ∧ mc1 ≤ bc ∧ ms1 ≤ bs ∧ (∀ x1 m1, K1 x1 m1 → (mK m1 a0 = 20 ∨ (a0 ≠ 0 ∧ mK m1 a0 = 40)) ∧ ((0 : Int) ≤ (w32 (a4 + 1)) ∧ (w32 (a4 + 1)) < (mN m1 a0 : Int)) ∧ (mK m1 a2 = 11 ∧ ∃ (mc2 ms2 : Nat) (K2 : Int → Mem → Prop), Cl d mc2 ms2 mX10_door [vr a2, vi (mD m1 a0 (w32 (a4 + 1)))] m1 (KI K2) ∧ mc2 ≤ bc - mc1 ∧ ms2 ≤ bs - ms1 ∧ (∀ x2 m2, K2 x2 m2 → (x1 = x2 → Wp (d + 1) (bc - mc1 - mc2) (bs - ms1 - ms2) mL_law 1933 [some (vr a0), some (vr a1), some (vr a2), some (vr a3), some (vi a4), none, none, none] [] m2 Q) ∧ (¬ x1 = x2 → Q (some (some (vi 0))) m2)))))) :
    Wp (d + 1) bc bs mL_law 1441 [some (vr a0), some (vr a1), some (vr a2), some (vr a3), some (vi a4), none, none, none] [] μ Q := by
  refine st_aload_n (pc := 1441) dL_law_1441 rfl rfl ?_
  refine st_aload_n (pc := 1442) dL_law_1442 rfl rfl ?_
  refine st_iload (pc := 1443) dL_law_1443 rfl ?_
  refine sg_iconst (pc := 1445) dL_law_1445 (by omega) ?_
  refine st_iadd (pc := 1446) dL_law_1446 ?_
  obtain ⟨hk1, h⟩ := h
  obtain ⟨h1, h⟩ := h
  refine sg_iaload (pc := 1447) dL_law_1447 hk1 h1 ?_
  obtain ⟨hk2, h⟩ := h
  obtain ⟨mc1, ms1, K1, hC, e1, e2, h⟩ := h
  refine sg_VI (pc := 1448) (av := [vi (mD μ a0 (w32 (a4 + 1)))]) (st := []) (K := K1) dL_law_1448 ck_11_168 rfl (by decide) hk2 (by show (0 : Nat) ≤ 8; decide) hC e1 e2 (fun x1 m1 hK => ?_) rfl
  replace h := h x1 m1 hK
  refine st_aload_n (pc := 1451) dL_law_1451 rfl rfl ?_
  refine st_aload_n (pc := 1452) dL_law_1452 rfl rfl ?_
  refine st_iload (pc := 1453) dL_law_1453 rfl ?_
  refine sg_iconst (pc := 1455) dL_law_1455 (by omega) ?_
  refine st_iadd (pc := 1456) dL_law_1456 ?_
  obtain ⟨hk3, h⟩ := h
  obtain ⟨h1, h⟩ := h
  refine sg_iaload (pc := 1457) dL_law_1457 hk3 h1 ?_
  obtain ⟨hk4, h⟩ := h
  obtain ⟨mc2, ms2, K2, hC, e1, e2, h⟩ := h
  refine sg_VI (pc := 1458) (av := [vi (mD m1 a0 (w32 (a4 + 1)))]) (st := [vi x1]) (K := K2) dL_law_1458 ck_11_171 rfl (by decide) hk4 (by show (1 : Nat) ≤ 8; decide) hC e1 e2 (fun x2 m2 hK => ?_) rfl
  replace h := h x2 m2 hK
  refine st_icmpeq (pc := 1461) (tgt := 1933) dL_law_1461 rfl (fun c => ?_) (fun c => ?_)
  · replace h := h.1 c
    exact h
  · replace h := h.2 c
    refine sg_iconst (pc := 1464) dL_law_1464 (by omega) ?_
    exact st_ireturn (pc := 1465) dL_law_1465 (Or.inr ⟨rfl, by omega⟩) h

theorem sg_L_law_1466 {d bc bs : Nat} {a0 : Nat} {a1 : Nat} {a2 : Nat} {a3 : Nat} {a4 : Int} {μ : Mem} {Q : Option (Option AV) → Mem → Prop}
    (h : (mK μ a0 = 20 ∨ (a0 ≠ 0 ∧ mK μ a0 = 40)) ∧ ((0 : Int) ≤ (w32 (a4 + 1)) ∧ (w32 (a4 + 1)) < (mN μ a0 : Int)) ∧ (mK μ a1 = 10 ∧ ∃ (mc1 ms1 : Nat) (K1 : Int → Mem → Prop), Cl d mc1 ms1 mX9_two [vr a1, vi (mD μ a0 (w32 (a4 + 1)))] μ (KI K1) ∧ mc1 ≤ bc ∧ ms1 ≤ bs ∧ (∀ x1 m1, K1 x1 m1 → (mK m1 a0 = 20 ∨ (a0 ≠ 0 ∧ mK m1 a0 = 40)) ∧ ((0 : Int) ≤ (w32 (a4 + 1)) ∧ (w32 (a4 + 1)) < (mN m1 a0 : Int)) ∧ (mK m1 a2 = 11 ∧ ∃ (mc2 ms2 : Nat) (K2 : Int → Mem → Prop), Cl d mc2 ms2 mX10_two [vr a2, vi (mD m1 a0 (w32 (a4 + 1)))] m1 (KI K2) ∧ mc2 ≤ bc - mc1 ∧ ms2 ≤ bs - ms1 ∧ (∀ x2 m2, K2 x2 m2 → (x1 = x2 → Wp (d + 1) (bc - mc1 - mc2) (bs - ms1 - ms2) mL_law 1933 [some (vr a0), some (vr a1), some (vr a2), some (vr a3), some (vi a4), none, none, none] [] m2 Q) ∧ (¬ x1 = x2 → Q (some (some (vi 0))) m2)))))) :
    Wp (d + 1) bc bs mL_law 1466 [some (vr a0), some (vr a1), some (vr a2), some (vr a3), some (vi a4), none, none, none] [] μ Q := by
  refine st_aload_n (pc := 1466) dL_law_1466 rfl rfl ?_
  refine st_aload_n (pc := 1467) dL_law_1467 rfl rfl ?_
  refine st_iload (pc := 1468) dL_law_1468 rfl ?_
  refine sg_iconst (pc := 1470) dL_law_1470 (by omega) ?_
  refine st_iadd (pc := 1471) dL_law_1471 ?_
  obtain ⟨hk1, h⟩ := h
  obtain ⟨h1, h⟩ := h
  refine sg_iaload (pc := 1472) dL_law_1472 hk1 h1 ?_
  obtain ⟨hk2, h⟩ := h
  obtain ⟨mc1, ms1, K1, hC, e1, e2, h⟩ := h
  refine sg_VI (pc := 1473) (av := [vi (mD μ a0 (w32 (a4 + 1)))]) (st := []) (K := K1) dL_law_1473 ck_11_172 rfl (by decide) hk2 (by show (0 : Nat) ≤ 8; decide) hC e1 e2 (fun x1 m1 hK => ?_) rfl
  replace h := h x1 m1 hK
  refine st_aload_n (pc := 1476) dL_law_1476 rfl rfl ?_
  refine st_aload_n (pc := 1477) dL_law_1477 rfl rfl ?_
  refine st_iload (pc := 1478) dL_law_1478 rfl ?_
  refine sg_iconst (pc := 1480) dL_law_1480 (by omega) ?_
  refine st_iadd (pc := 1481) dL_law_1481 ?_
  obtain ⟨hk3, h⟩ := h
  obtain ⟨h1, h⟩ := h
  refine sg_iaload (pc := 1482) dL_law_1482 hk3 h1 ?_
  obtain ⟨hk4, h⟩ := h
  obtain ⟨mc2, ms2, K2, hC, e1, e2, h⟩ := h
  refine sg_VI (pc := 1483) (av := [vi (mD m1 a0 (w32 (a4 + 1)))]) (st := [vi x1]) (K := K2) dL_law_1483 ck_11_175 rfl (by decide) hk4 (by show (1 : Nat) ≤ 8; decide) hC e1 e2 (fun x2 m2 hK => ?_) rfl
  replace h := h x2 m2 hK
  refine st_icmpeq (pc := 1486) (tgt := 1933) dL_law_1486 rfl (fun c => ?_) (fun c => ?_)
  · replace h := h.1 c
    exact h
  · replace h := h.2 c
    refine sg_iconst (pc := 1489) dL_law_1489 (by omega) ?_
    exact st_ireturn (pc := 1490) dL_law_1490 (Or.inr ⟨rfl, by omega⟩) h

theorem sg_L_law_1491 {d bc bs : Nat} {a0 : Nat} {a1 : Nat} {a2 : Nat} {a3 : Nat} {a4 : Int} {μ : Mem} {Q : Option (Option AV) → Mem → Prop}
    (h : (mK μ a0 = 20 ∨ (a0 ≠ 0 ∧ mK μ a0 = 40)) ∧ ((0 : Int) ≤ (w32 (a4 + 1)) ∧ (w32 (a4 + 1)) < (mN μ a0 : Int)) ∧ (mK μ a1 = 10 ∧ ∃ (mc1 ms1 : Nat) (K1 : Int → Mem → Prop), Cl d mc1 ms1 mX9_stop [vr a1, vi (mD μ a0 (w32 (a4 + 1)))] μ (KI K1) ∧ mc1 ≤ bc ∧ ms1 ≤ bs ∧ (∀ x1 m1, K1 x1 m1 → (mK m1 a0 = 20 ∨ (a0 ≠ 0 ∧ mK m1 a0 = 40)) ∧ ((0 : Int) ≤ (w32 (a4 + 1)) ∧ (w32 (a4 + 1)) < (mN m1 a0 : Int)) ∧ (mK m1 a2 = 11 ∧ ∃ (mc2 ms2 : Nat) (K2 : Int → Mem → Prop), Cl d mc2 ms2 mX10_stop [vr a2, vi (mD m1 a0 (w32 (a4 + 1)))] m1 (KI K2) ∧ mc2 ≤ bc - mc1 ∧ ms2 ≤ bs - ms1 ∧ (∀ x2 m2, K2 x2 m2 → (x1 = x2 → Wp (d + 1) (bc - mc1 - mc2) (bs - ms1 - ms2) mL_law 1933 [some (vr a0), some (vr a1), some (vr a2), some (vr a3), some (vi a4), none, none, none] [] m2 Q) ∧ (¬ x1 = x2 → Q (some (some (vi 0))) m2)))))) :
    Wp (d + 1) bc bs mL_law 1491 [some (vr a0), some (vr a1), some (vr a2), some (vr a3), some (vi a4), none, none, none] [] μ Q := by
  refine st_aload_n (pc := 1491) dL_law_1491 rfl rfl ?_
  refine st_aload_n (pc := 1492) dL_law_1492 rfl rfl ?_
  refine st_iload (pc := 1493) dL_law_1493 rfl ?_
  refine sg_iconst (pc := 1495) dL_law_1495 (by omega) ?_
  refine st_iadd (pc := 1496) dL_law_1496 ?_
  obtain ⟨hk1, h⟩ := h
  obtain ⟨h1, h⟩ := h
  refine sg_iaload (pc := 1497) dL_law_1497 hk1 h1 ?_
  obtain ⟨hk2, h⟩ := h
  obtain ⟨mc1, ms1, K1, hC, e1, e2, h⟩ := h
  refine sg_VI (pc := 1498) (av := [vi (mD μ a0 (w32 (a4 + 1)))]) (st := []) (K := K1) dL_law_1498 ck_11_176 rfl (by decide) hk2 (by show (0 : Nat) ≤ 8; decide) hC e1 e2 (fun x1 m1 hK => ?_) rfl
  replace h := h x1 m1 hK
  refine st_aload_n (pc := 1501) dL_law_1501 rfl rfl ?_
  refine st_aload_n (pc := 1502) dL_law_1502 rfl rfl ?_
  refine st_iload (pc := 1503) dL_law_1503 rfl ?_
  refine sg_iconst (pc := 1505) dL_law_1505 (by omega) ?_
  refine st_iadd (pc := 1506) dL_law_1506 ?_
  obtain ⟨hk3, h⟩ := h
  obtain ⟨h1, h⟩ := h
  refine sg_iaload (pc := 1507) dL_law_1507 hk3 h1 ?_
  obtain ⟨hk4, h⟩ := h
  obtain ⟨mc2, ms2, K2, hC, e1, e2, h⟩ := h
  refine sg_VI (pc := 1508) (av := [vi (mD m1 a0 (w32 (a4 + 1)))]) (st := [vi x1]) (K := K2) dL_law_1508 ck_11_179 rfl (by decide) hk4 (by show (1 : Nat) ≤ 8; decide) hC e1 e2 (fun x2 m2 hK => ?_) rfl
  replace h := h x2 m2 hK
  refine st_icmpeq (pc := 1511) (tgt := 1933) dL_law_1511 rfl (fun c => ?_) (fun c => ?_)
  · replace h := h.1 c
    exact h
  · replace h := h.2 c
    refine sg_iconst (pc := 1514) dL_law_1514 (by omega) ?_
    exact st_ireturn (pc := 1515) dL_law_1515 (Or.inr ⟨rfl, by omega⟩) h

theorem sg_L_law_1516 {d bc bs : Nat} {a0 : Nat} {a1 : Nat} {a2 : Nat} {a3 : Nat} {a4 : Int} {μ : Mem} {Q : Option (Option AV) → Mem → Prop}
    (h : (mK μ a0 = 20 ∨ (a0 ≠ 0 ∧ mK μ a0 = 40)) ∧ ((0 : Int) ≤ (w32 (a4 + 1)) ∧ (w32 (a4 + 1)) < (mN μ a0 : Int)) ∧ (((0 : Int) ≤ (w32 (a4 + 2)) ∧ (w32 (a4 + 2)) < (mN μ a0 : Int)) ∧ (mK μ a1 = 10 ∧ ∃ (mc1 ms1 : Nat) (K1 : Int → Mem → Prop), Cl d mc1 ms1 mX9_pause [vr a1, vi (mD μ a0 (w32 (a4 + 1))), vi (mD μ a0 (w32 (a4 + 2)))] μ (KI K1) ∧ mc1 ≤ bc ∧ ms1 ≤ bs ∧ (∀ x1 m1, K1 x1 m1 → (mK m1 a0 = 20 ∨ (a0 ≠ 0 ∧ mK m1 a0 = 40)) ∧ ((0 : Int) ≤ (w32 (a4 + 1)) ∧ (w32 (a4 + 1)) < (mN m1 a0 : Int)) ∧ (((0 : Int) ≤ (w32 (a4 + 2)) ∧ (w32 (a4 + 2)) < (mN m1 a0 : Int)) ∧ (mK m1 a2 = 11 ∧ ∃ (mc2 ms2 : Nat) (K2 : Int → Mem → Prop), Cl d mc2 ms2 mX10_pause [vr a2, vi (mD m1 a0 (w32 (a4 + 1))), vi (mD m1 a0 (w32 (a4 + 2)))] m1 (KI K2) ∧ mc2 ≤ bc - mc1 ∧ ms2 ≤ bs - ms1 ∧ (∀ x2 m2, K2 x2 m2 → (x1 = x2 → Wp (d + 1) (bc - mc1 - mc2) (bs - ms1 - ms2) mL_law 1933 [some (vr a0), some (vr a1), some (vr a2), some (vr a3), some (vi a4), none, none, none] [] m2 Q) ∧ (¬ x1 = x2 → Q (some (some (vi 0))) m2)))))))) :
    Wp (d + 1) bc bs mL_law 1516 [some (vr a0), some (vr a1), some (vr a2), some (vr a3), some (vi a4), none, none, none] [] μ Q := by
  refine st_aload_n (pc := 1516) dL_law_1516 rfl rfl ?_
  refine st_aload_n (pc := 1517) dL_law_1517 rfl rfl ?_
  refine st_iload (pc := 1518) dL_law_1518 rfl ?_
  refine sg_iconst (pc := 1520) dL_law_1520 (by omega) ?_
  refine st_iadd (pc := 1521) dL_law_1521 ?_
  obtain ⟨hk1, h⟩ := h
  obtain ⟨h1, h⟩ := h
  refine sg_iaload (pc := 1522) dL_law_1522 hk1 h1 ?_
  refine st_aload_n (pc := 1523) dL_law_1523 rfl rfl ?_
  refine st_iload (pc := 1524) dL_law_1524 rfl ?_
  refine sg_iconst (pc := 1526) dL_law_1526 (by omega) ?_
  refine st_iadd (pc := 1527) dL_law_1527 ?_
  obtain ⟨h1, h⟩ := h
  refine sg_iaload (pc := 1528) dL_law_1528 hk1 h1 ?_
  obtain ⟨hk2, h⟩ := h
  obtain ⟨mc1, ms1, K1, hC, e1, e2, h⟩ := h
  refine sg_VI (pc := 1529) (av := [vi (mD μ a0 (w32 (a4 + 1))), vi (mD μ a0 (w32 (a4 + 2)))]) (st := []) (K := K1) dL_law_1529 ck_11_180 rfl (by decide) hk2 (by show (0 : Nat) ≤ 8; decide) hC e1 e2 (fun x1 m1 hK => ?_) rfl
  replace h := h x1 m1 hK
  refine st_aload_n (pc := 1532) dL_law_1532 rfl rfl ?_
  refine st_aload_n (pc := 1533) dL_law_1533 rfl rfl ?_
  refine st_iload (pc := 1534) dL_law_1534 rfl ?_
  refine sg_iconst (pc := 1536) dL_law_1536 (by omega) ?_
  refine st_iadd (pc := 1537) dL_law_1537 ?_
  obtain ⟨hk3, h⟩ := h
  obtain ⟨h1, h⟩ := h
  refine sg_iaload (pc := 1538) dL_law_1538 hk3 h1 ?_
  refine st_aload_n (pc := 1539) dL_law_1539 rfl rfl ?_
  refine st_iload (pc := 1540) dL_law_1540 rfl ?_
  refine sg_iconst (pc := 1542) dL_law_1542 (by omega) ?_
  refine st_iadd (pc := 1543) dL_law_1543 ?_
  obtain ⟨h1, h⟩ := h
  refine sg_iaload (pc := 1544) dL_law_1544 hk3 h1 ?_
  obtain ⟨hk4, h⟩ := h
  obtain ⟨mc2, ms2, K2, hC, e1, e2, h⟩ := h
  refine sg_VI (pc := 1545) (av := [vi (mD m1 a0 (w32 (a4 + 1))), vi (mD m1 a0 (w32 (a4 + 2)))]) (st := [vi x1]) (K := K2) dL_law_1545 ck_11_183 rfl (by decide) hk4 (by show (1 : Nat) ≤ 8; decide) hC e1 e2 (fun x2 m2 hK => ?_) rfl
  replace h := h x2 m2 hK
  refine st_icmpeq (pc := 1548) (tgt := 1933) dL_law_1548 rfl (fun c => ?_) (fun c => ?_)
  · replace h := h.1 c
    exact h
  · replace h := h.2 c
    refine sg_iconst (pc := 1551) dL_law_1551 (by omega) ?_
    exact st_ireturn (pc := 1552) dL_law_1552 (Or.inr ⟨rfl, by omega⟩) h

theorem sg_L_law_1553 {d bc bs : Nat} {a0 : Nat} {a1 : Nat} {a2 : Nat} {a3 : Nat} {a4 : Int} {μ : Mem} {Q : Option (Option AV) → Mem → Prop}
    (h : (mK μ a0 = 20 ∨ (a0 ≠ 0 ∧ mK μ a0 = 40)) ∧ ((0 : Int) ≤ (w32 (a4 + 1)) ∧ (w32 (a4 + 1)) < (mN μ a0 : Int)) ∧ (mK μ a1 = 10 ∧ ∃ (mc1 ms1 : Nat) (K1 : Int → Mem → Prop), Cl d mc1 ms1 mX9_stir [vr a1, vi (mD μ a0 (w32 (a4 + 1)))] μ (KL K1) ∧ mc1 ≤ bc ∧ ms1 ≤ bs ∧ (∀ x1 m1, K1 x1 m1 → (mK m1 a0 = 20 ∨ (a0 ≠ 0 ∧ mK m1 a0 = 40)) ∧ ((0 : Int) ≤ (w32 (a4 + 1)) ∧ (w32 (a4 + 1)) < (mN m1 a0 : Int)) ∧ (mK m1 a2 = 11 ∧ ∃ (mc2 ms2 : Nat) (K2 : Int → Mem → Prop), Cl d mc2 ms2 mX10_stir [vr a2, vi (mD m1 a0 (w32 (a4 + 1)))] m1 (KL K2) ∧ mc2 ≤ bc - mc1 ∧ ms2 ≤ bs - ms1 ∧ (∀ x2 m2, K2 x2 m2 → ((if x2 < x1 then 1 else if x1 = x2 then 0 else -1) = 0 → Wp (d + 1) (bc - mc1 - mc2) (bs - ms1 - ms2) mL_law 1933 [some (vr a0), some (vr a1), some (vr a2), some (vr a3), some (vi a4), none, none, none] [] m2 Q) ∧ (¬ (if x2 < x1 then 1 else if x1 = x2 then 0 else -1) = 0 → Q (some (some (vi 0))) m2)))))) :
    Wp (d + 1) bc bs mL_law 1553 [some (vr a0), some (vr a1), some (vr a2), some (vr a3), some (vi a4), none, none, none] [] μ Q := by
  refine st_aload_n (pc := 1553) dL_law_1553 rfl rfl ?_
  refine st_aload_n (pc := 1554) dL_law_1554 rfl rfl ?_
  refine st_iload (pc := 1555) dL_law_1555 rfl ?_
  refine sg_iconst (pc := 1557) dL_law_1557 (by omega) ?_
  refine st_iadd (pc := 1558) dL_law_1558 ?_
  obtain ⟨hk1, h⟩ := h
  obtain ⟨h1, h⟩ := h
  refine sg_iaload (pc := 1559) dL_law_1559 hk1 h1 ?_
  obtain ⟨hk2, h⟩ := h
  obtain ⟨mc1, ms1, K1, hC, e1, e2, h⟩ := h
  refine sg_VL (pc := 1560) (av := [vi (mD μ a0 (w32 (a4 + 1)))]) (st := []) (K := K1) dL_law_1560 ck_11_184 rfl (by decide) hk2 (by show (0 : Nat) ≤ 8; decide) hC e1 e2 (fun x1 m1 hK => ?_) rfl
  replace h := h x1 m1 hK
  refine st_aload_n (pc := 1563) dL_law_1563 rfl rfl ?_
  refine st_aload_n (pc := 1564) dL_law_1564 rfl rfl ?_
  refine st_iload (pc := 1565) dL_law_1565 rfl ?_
  refine sg_iconst (pc := 1567) dL_law_1567 (by omega) ?_
  refine st_iadd (pc := 1568) dL_law_1568 ?_
  obtain ⟨hk3, h⟩ := h
  obtain ⟨h1, h⟩ := h
  refine sg_iaload (pc := 1569) dL_law_1569 hk3 h1 ?_
  obtain ⟨hk4, h⟩ := h
  obtain ⟨mc2, ms2, K2, hC, e1, e2, h⟩ := h
  refine sg_VL (pc := 1570) (av := [vi (mD m1 a0 (w32 (a4 + 1)))]) (st := [vl x1]) (K := K2) dL_law_1570 ck_11_187 rfl (by decide) hk4 (by show (2 : Nat) ≤ 8; decide) hC e1 e2 (fun x2 m2 hK => ?_) rfl
  replace h := h x2 m2 hK
  refine st_lcmp (pc := 1573) dL_law_1573 ?_
  refine st_ifeq (pc := 1574) (tgt := 1933) dL_law_1574 rfl (fun c => ?_) (fun c => ?_)
  · replace h := h.1 c
    exact h
  · replace h := h.2 c
    refine sg_iconst (pc := 1577) dL_law_1577 (by omega) ?_
    exact st_ireturn (pc := 1578) dL_law_1578 (Or.inr ⟨rfl, by omega⟩) h

theorem sg_L_law_1579 {d bc bs : Nat} {a0 : Nat} {a1 : Nat} {a2 : Nat} {a3 : Nat} {a4 : Int} {μ : Mem} {Q : Option (Option AV) → Mem → Prop}
    (h : (mK μ a0 = 20 ∨ (a0 ≠ 0 ∧ mK μ a0 = 40)) ∧ ((0 : Int) ≤ (w32 (a4 + 1)) ∧ (w32 (a4 + 1)) < (mN μ a0 : Int)) ∧ (mK μ a1 = 10 ∧ ∃ (mc1 ms1 : Nat) (K1 : Int → Mem → Prop), Cl d mc1 ms1 mX9_spot [vr a1, vi (mD μ a0 (w32 (a4 + 1)))] μ (KI K1) ∧ mc1 ≤ bc ∧ ms1 ≤ bs ∧ (∀ x1 m1, K1 x1 m1 → (mK m1 a0 = 20 ∨ (a0 ≠ 0 ∧ mK m1 a0 = 40)) ∧ ((0 : Int) ≤ (w32 (a4 + 1)) ∧ (w32 (a4 + 1)) < (mN m1 a0 : Int)) ∧ (mK m1 a2 = 11 ∧ ∃ (mc2 ms2 : Nat) (K2 : Int → Mem → Prop), Cl d mc2 ms2 mX10_spot [vr a2, vi (mD m1 a0 (w32 (a4 + 1)))] m1 (KI K2) ∧ mc2 ≤ bc - mc1 ∧ ms2 ≤ bs - ms1 ∧ (∀ x2 m2, K2 x2 m2 → (x1 = x2 → Wp (d + 1) (bc - mc1 - mc2) (bs - ms1 - ms2) mL_law 1933 [some (vr a0), some (vr a1), some (vr a2), some (vr a3), some (vi a4), none, none, none] [] m2 Q) ∧ (¬ x1 = x2 → Q (some (some (vi 0))) m2)))))) :
    Wp (d + 1) bc bs mL_law 1579 [some (vr a0), some (vr a1), some (vr a2), some (vr a3), some (vi a4), none, none, none] [] μ Q := by
  refine st_aload_n (pc := 1579) dL_law_1579 rfl rfl ?_
  refine st_aload_n (pc := 1580) dL_law_1580 rfl rfl ?_
  refine st_iload (pc := 1581) dL_law_1581 rfl ?_
  refine sg_iconst (pc := 1583) dL_law_1583 (by omega) ?_
  refine st_iadd (pc := 1584) dL_law_1584 ?_
  obtain ⟨hk1, h⟩ := h
  obtain ⟨h1, h⟩ := h
  refine sg_iaload (pc := 1585) dL_law_1585 hk1 h1 ?_
  obtain ⟨hk2, h⟩ := h
  obtain ⟨mc1, ms1, K1, hC, e1, e2, h⟩ := h
  refine sg_VI (pc := 1586) (av := [vi (mD μ a0 (w32 (a4 + 1)))]) (st := []) (K := K1) dL_law_1586 ck_11_188 rfl (by decide) hk2 (by show (0 : Nat) ≤ 8; decide) hC e1 e2 (fun x1 m1 hK => ?_) rfl
  replace h := h x1 m1 hK
  refine st_aload_n (pc := 1589) dL_law_1589 rfl rfl ?_
  refine st_aload_n (pc := 1590) dL_law_1590 rfl rfl ?_
  refine st_iload (pc := 1591) dL_law_1591 rfl ?_
  refine sg_iconst (pc := 1593) dL_law_1593 (by omega) ?_
  refine st_iadd (pc := 1594) dL_law_1594 ?_
  obtain ⟨hk3, h⟩ := h
  obtain ⟨h1, h⟩ := h
  refine sg_iaload (pc := 1595) dL_law_1595 hk3 h1 ?_
  obtain ⟨hk4, h⟩ := h
  obtain ⟨mc2, ms2, K2, hC, e1, e2, h⟩ := h
  refine sg_VI (pc := 1596) (av := [vi (mD m1 a0 (w32 (a4 + 1)))]) (st := [vi x1]) (K := K2) dL_law_1596 ck_11_191 rfl (by decide) hk4 (by show (1 : Nat) ≤ 8; decide) hC e1 e2 (fun x2 m2 hK => ?_) rfl
  replace h := h x2 m2 hK
  refine st_icmpeq (pc := 1599) (tgt := 1933) dL_law_1599 rfl (fun c => ?_) (fun c => ?_)
  · replace h := h.1 c
    exact h
  · replace h := h.2 c
    refine sg_iconst (pc := 1602) dL_law_1602 (by omega) ?_
    exact st_ireturn (pc := 1603) dL_law_1603 (Or.inr ⟨rfl, by omega⟩) h

theorem sg_L_law_1604 {d bc bs : Nat} {a0 : Nat} {a1 : Nat} {a2 : Nat} {a3 : Nat} {a4 : Int} {μ : Mem} {Q : Option (Option AV) → Mem → Prop}
    (h : mK μ a1 = 10 ∧ ∃ (mc1 ms1 : Nat) (K1 : Int → Mem → Prop), Cl d mc1 ms1 mX9_wipe [vr a1] μ (KI K1) ∧ mc1 ≤ bc ∧ ms1 ≤ bs ∧ (∀ x1 m1, K1 x1 m1 → mK m1 a2 = 11 ∧ ∃ (mc2 ms2 : Nat) (K2 : Int → Mem → Prop), Cl d mc2 ms2 mX10_wipe [vr a2] m1 (KI K2) ∧ mc2 ≤ bc - mc1 ∧ ms2 ≤ bs - ms1 ∧ (∀ x2 m2, K2 x2 m2 → (x1 = x2 → Wp (d + 1) (bc - mc1 - mc2) (bs - ms1 - ms2) mL_law 1933 [some (vr a0), some (vr a1), some (vr a2), some (vr a3), some (vi a4), none, none, none] [] m2 Q) ∧ (¬ x1 = x2 → Q (some (some (vi 0))) m2)))) :
    Wp (d + 1) bc bs mL_law 1604 [some (vr a0), some (vr a1), some (vr a2), some (vr a3), some (vi a4), none, none, none] [] μ Q := by
  refine st_aload_n (pc := 1604) dL_law_1604 rfl rfl ?_
  obtain ⟨hk1, h⟩ := h
  obtain ⟨mc1, ms1, K1, hC, e1, e2, h⟩ := h
  refine sg_VI (pc := 1605) (av := []) (st := []) (K := K1) dL_law_1605 ck_11_192 rfl (by decide) hk1 (by show (0 : Nat) ≤ 8; decide) hC e1 e2 (fun x1 m1 hK => ?_) rfl
  replace h := h x1 m1 hK
  refine st_aload_n (pc := 1608) dL_law_1608 rfl rfl ?_
  obtain ⟨hk2, h⟩ := h
  obtain ⟨mc2, ms2, K2, hC, e1, e2, h⟩ := h
  refine sg_VI (pc := 1609) (av := []) (st := [vi x1]) (K := K2) dL_law_1609 ck_11_195 rfl (by decide) hk2 (by show (1 : Nat) ≤ 8; decide) hC e1 e2 (fun x2 m2 hK => ?_) rfl
  replace h := h x2 m2 hK
  refine st_icmpeq (pc := 1612) (tgt := 1933) dL_law_1612 rfl (fun c => ?_) (fun c => ?_)
  · replace h := h.1 c
    exact h
  · replace h := h.2 c
    refine sg_iconst (pc := 1615) dL_law_1615 (by omega) ?_
    exact st_ireturn (pc := 1616) dL_law_1616 (Or.inr ⟨rfl, by omega⟩) h

theorem sg_L_law_1617 {d bc bs : Nat} {a0 : Nat} {a1 : Nat} {a2 : Nat} {a3 : Nat} {a4 : Int} {μ : Mem} {Q : Option (Option AV) → Mem → Prop}
    (h : (mK μ a0 = 20 ∨ (a0 ≠ 0 ∧ mK μ a0 = 40)) ∧ ((0 : Int) ≤ (w32 (a4 + 1)) ∧ (w32 (a4 + 1)) < (mN μ a0 : Int)) ∧ (((0 : Int) ≤ (w32 (a4 + 2)) ∧ (w32 (a4 + 2)) < (mN μ a0 : Int)) ∧ (mK μ a1 = 10 ∧ ∃ (mc1 ms1 : Nat) (K1 : Int → Mem → Prop), Cl d mc1 ms1 mX9_far [vr a1, vi (mD μ a0 (w32 (a4 + 1))), vi (mD μ a0 (w32 (a4 + 2)))] μ (KI K1) ∧ mc1 ≤ bc ∧ ms1 ≤ bs ∧ (∀ x1 m1, K1 x1 m1 → (mK m1 a0 = 20 ∨ (a0 ≠ 0 ∧ mK m1 a0 = 40)) ∧ ((0 : Int) ≤ (w32 (a4 + 1)) ∧ (w32 (a4 + 1)) < (mN m1 a0 : Int)) ∧ (((0 : Int) ≤ (w32 (a4 + 2)) ∧ (w32 (a4 + 2)) < (mN m1 a0 : Int)) ∧ (mK m1 a2 = 11 ∧ ∃ (mc2 ms2 : Nat) (K2 : Int → Mem → Prop), Cl d mc2 ms2 mX10_far [vr a2, vi (mD m1 a0 (w32 (a4 + 1))), vi (mD m1 a0 (w32 (a4 + 2)))] m1 (KI K2) ∧ mc2 ≤ bc - mc1 ∧ ms2 ≤ bs - ms1 ∧ (∀ x2 m2, K2 x2 m2 → (x1 = x2 → Wp (d + 1) (bc - mc1 - mc2) (bs - ms1 - ms2) mL_law 1933 [some (vr a0), some (vr a1), some (vr a2), some (vr a3), some (vi a4), none, none, none] [] m2 Q) ∧ (¬ x1 = x2 → Q (some (some (vi 0))) m2)))))))) :
    Wp (d + 1) bc bs mL_law 1617 [some (vr a0), some (vr a1), some (vr a2), some (vr a3), some (vi a4), none, none, none] [] μ Q := by
  refine st_aload_n (pc := 1617) dL_law_1617 rfl rfl ?_
  refine st_aload_n (pc := 1618) dL_law_1618 rfl rfl ?_
  refine st_iload (pc := 1619) dL_law_1619 rfl ?_
  refine sg_iconst (pc := 1621) dL_law_1621 (by omega) ?_
  refine st_iadd (pc := 1622) dL_law_1622 ?_
  obtain ⟨hk1, h⟩ := h
  obtain ⟨h1, h⟩ := h
  refine sg_iaload (pc := 1623) dL_law_1623 hk1 h1 ?_
  refine st_aload_n (pc := 1624) dL_law_1624 rfl rfl ?_
  refine st_iload (pc := 1625) dL_law_1625 rfl ?_
  refine sg_iconst (pc := 1627) dL_law_1627 (by omega) ?_
  refine st_iadd (pc := 1628) dL_law_1628 ?_
  obtain ⟨h1, h⟩ := h
  refine sg_iaload (pc := 1629) dL_law_1629 hk1 h1 ?_
  obtain ⟨hk2, h⟩ := h
  obtain ⟨mc1, ms1, K1, hC, e1, e2, h⟩ := h
  refine sg_VI (pc := 1630) (av := [vi (mD μ a0 (w32 (a4 + 1))), vi (mD μ a0 (w32 (a4 + 2)))]) (st := []) (K := K1) dL_law_1630 ck_11_196 rfl (by decide) hk2 (by show (0 : Nat) ≤ 8; decide) hC e1 e2 (fun x1 m1 hK => ?_) rfl
  replace h := h x1 m1 hK
  refine st_aload_n (pc := 1633) dL_law_1633 rfl rfl ?_
  refine st_aload_n (pc := 1634) dL_law_1634 rfl rfl ?_
  refine st_iload (pc := 1635) dL_law_1635 rfl ?_
  refine sg_iconst (pc := 1637) dL_law_1637 (by omega) ?_
  refine st_iadd (pc := 1638) dL_law_1638 ?_
  obtain ⟨hk3, h⟩ := h
  obtain ⟨h1, h⟩ := h
  refine sg_iaload (pc := 1639) dL_law_1639 hk3 h1 ?_
  refine st_aload_n (pc := 1640) dL_law_1640 rfl rfl ?_
  refine st_iload (pc := 1641) dL_law_1641 rfl ?_
  refine sg_iconst (pc := 1643) dL_law_1643 (by omega) ?_
  refine st_iadd (pc := 1644) dL_law_1644 ?_
  obtain ⟨h1, h⟩ := h
  refine sg_iaload (pc := 1645) dL_law_1645 hk3 h1 ?_
  obtain ⟨hk4, h⟩ := h
  obtain ⟨mc2, ms2, K2, hC, e1, e2, h⟩ := h
  refine sg_VI (pc := 1646) (av := [vi (mD m1 a0 (w32 (a4 + 1))), vi (mD m1 a0 (w32 (a4 + 2)))]) (st := [vi x1]) (K := K2) dL_law_1646 ck_11_199 rfl (by decide) hk4 (by show (1 : Nat) ≤ 8; decide) hC e1 e2 (fun x2 m2 hK => ?_) rfl
  replace h := h x2 m2 hK
  refine st_icmpeq (pc := 1649) (tgt := 1933) dL_law_1649 rfl (fun c => ?_) (fun c => ?_)
  · replace h := h.1 c
    exact h
  · replace h := h.2 c
    refine sg_iconst (pc := 1652) dL_law_1652 (by omega) ?_
    exact st_ireturn (pc := 1653) dL_law_1653 (Or.inr ⟨rfl, by omega⟩) h

theorem sg_L_law_1654 {d bc bs : Nat} {a0 : Nat} {a1 : Nat} {a2 : Nat} {a3 : Nat} {a4 : Int} {μ : Mem} {Q : Option (Option AV) → Mem → Prop}
    (h : mK μ a1 = 10 ∧ ∃ (mc1 ms1 : Nat) (K1 : Int → Mem → Prop), Cl d mc1 ms1 mX9_who [vr a1] μ (KI K1) ∧ mc1 ≤ bc ∧ ms1 ≤ bs ∧ (∀ x1 m1, K1 x1 m1 → mK m1 a2 = 11 ∧ ∃ (mc2 ms2 : Nat) (K2 : Int → Mem → Prop), Cl d mc2 ms2 mX10_who [vr a2] m1 (KI K2) ∧ mc2 ≤ bc - mc1 ∧ ms2 ≤ bs - ms1 ∧ (∀ x2 m2, K2 x2 m2 → (x1 = x2 → Wp (d + 1) (bc - mc1 - mc2) (bs - ms1 - ms2) mL_law 1933 [some (vr a0), some (vr a1), some (vr a2), some (vr a3), some (vi a4), none, none, none] [] m2 Q) ∧ (¬ x1 = x2 → Q (some (some (vi 0))) m2)))) :
    Wp (d + 1) bc bs mL_law 1654 [some (vr a0), some (vr a1), some (vr a2), some (vr a3), some (vi a4), none, none, none] [] μ Q := by
  refine st_aload_n (pc := 1654) dL_law_1654 rfl rfl ?_
  obtain ⟨hk1, h⟩ := h
  obtain ⟨mc1, ms1, K1, hC, e1, e2, h⟩ := h
  refine sg_VI (pc := 1655) (av := []) (st := []) (K := K1) dL_law_1655 ck_11_200 rfl (by decide) hk1 (by show (0 : Nat) ≤ 8; decide) hC e1 e2 (fun x1 m1 hK => ?_) rfl
  replace h := h x1 m1 hK
  refine st_aload_n (pc := 1658) dL_law_1658 rfl rfl ?_
  obtain ⟨hk2, h⟩ := h
  obtain ⟨mc2, ms2, K2, hC, e1, e2, h⟩ := h
  refine sg_VI (pc := 1659) (av := []) (st := [vi x1]) (K := K2) dL_law_1659 ck_11_203 rfl (by decide) hk2 (by show (1 : Nat) ≤ 8; decide) hC e1 e2 (fun x2 m2 hK => ?_) rfl
  replace h := h x2 m2 hK
  refine st_icmpeq (pc := 1662) (tgt := 1933) dL_law_1662 rfl (fun c => ?_) (fun c => ?_)
  · replace h := h.1 c
    exact h
  · replace h := h.2 c
    refine sg_iconst (pc := 1665) dL_law_1665 (by omega) ?_
    exact st_ireturn (pc := 1666) dL_law_1666 (Or.inr ⟨rfl, by omega⟩) h

theorem sg_L_law_1667 {d bc bs : Nat} {a0 : Nat} {a1 : Nat} {a2 : Nat} {a3 : Nat} {a4 : Int} {μ : Mem} {Q : Option (Option AV) → Mem → Prop}
    (h : (mK μ a0 = 20 ∨ (a0 ≠ 0 ∧ mK μ a0 = 40)) ∧ ((0 : Int) ≤ (w32 (a4 + 1)) ∧ (w32 (a4 + 1)) < (mN μ a0 : Int)) ∧ (((0 : Int) ≤ (w32 (a4 + 2)) ∧ (w32 (a4 + 2)) < (mN μ a0 : Int)) ∧ (((0 : Int) ≤ (w32 (a4 + 3)) ∧ (w32 (a4 + 3)) < (mN μ a0 : Int)) ∧ (((0 : Int) ≤ (w32 (a4 + 4)) ∧ (w32 (a4 + 4)) < (mN μ a0 : Int)) ∧ (mK μ a1 = 10 ∧ ∃ (mc1 ms1 : Nat) (K1 : Int → Mem → Prop), Cl d mc1 ms1 mX9_film [vr a1, vi (mD μ a0 (w32 (a4 + 1))), vi (mD μ a0 (w32 (a4 + 2))), vi (mD μ a0 (w32 (a4 + 3))), vi (mD μ a0 (w32 (a4 + 4)))] μ (KI K1) ∧ mc1 ≤ bc ∧ ms1 ≤ bs ∧ (∀ x1 m1, K1 x1 m1 → (mK m1 a0 = 20 ∨ (a0 ≠ 0 ∧ mK m1 a0 = 40)) ∧ ((0 : Int) ≤ (w32 (a4 + 1)) ∧ (w32 (a4 + 1)) < (mN m1 a0 : Int)) ∧ (((0 : Int) ≤ (w32 (a4 + 2)) ∧ (w32 (a4 + 2)) < (mN m1 a0 : Int)) ∧ (((0 : Int) ≤ (w32 (a4 + 3)) ∧ (w32 (a4 + 3)) < (mN m1 a0 : Int)) ∧ (((0 : Int) ≤ (w32 (a4 + 4)) ∧ (w32 (a4 + 4)) < (mN m1 a0 : Int)) ∧ (mK m1 a2 = 11 ∧ ∃ (mc2 ms2 : Nat) (K2 : Int → Mem → Prop), Cl d mc2 ms2 mX10_film [vr a2, vi (mD m1 a0 (w32 (a4 + 1))), vi (mD m1 a0 (w32 (a4 + 2))), vi (mD m1 a0 (w32 (a4 + 3))), vi (mD m1 a0 (w32 (a4 + 4)))] m1 (KI K2) ∧ mc2 ≤ bc - mc1 ∧ ms2 ≤ bs - ms1 ∧ (∀ x2 m2, K2 x2 m2 → (x1 = x2 → Wp (d + 1) (bc - mc1 - mc2) (bs - ms1 - ms2) mL_law 1933 [some (vr a0), some (vr a1), some (vr a2), some (vr a3), some (vi a4), none, none, none] [] m2 Q) ∧ (¬ x1 = x2 → Q (some (some (vi 0))) m2)))))))))))) :
    Wp (d + 1) bc bs mL_law 1667 [some (vr a0), some (vr a1), some (vr a2), some (vr a3), some (vi a4), none, none, none] [] μ Q := by
  refine st_aload_n (pc := 1667) dL_law_1667 rfl rfl ?_
  refine st_aload_n (pc := 1668) dL_law_1668 rfl rfl ?_
  refine st_iload (pc := 1669) dL_law_1669 rfl ?_
  refine sg_iconst (pc := 1671) dL_law_1671 (by omega) ?_
  refine st_iadd (pc := 1672) dL_law_1672 ?_
  obtain ⟨hk1, h⟩ := h
  obtain ⟨h1, h⟩ := h
  refine sg_iaload (pc := 1673) dL_law_1673 hk1 h1 ?_
  refine st_aload_n (pc := 1674) dL_law_1674 rfl rfl ?_
  refine st_iload (pc := 1675) dL_law_1675 rfl ?_
  refine sg_iconst (pc := 1677) dL_law_1677 (by omega) ?_
  refine st_iadd (pc := 1678) dL_law_1678 ?_
  obtain ⟨h1, h⟩ := h
  refine sg_iaload (pc := 1679) dL_law_1679 hk1 h1 ?_
  refine st_aload_n (pc := 1680) dL_law_1680 rfl rfl ?_
  refine st_iload (pc := 1681) dL_law_1681 rfl ?_
  refine sg_iconst (pc := 1683) dL_law_1683 (by omega) ?_
  refine st_iadd (pc := 1684) dL_law_1684 ?_
  obtain ⟨h1, h⟩ := h
  refine sg_iaload (pc := 1685) dL_law_1685 hk1 h1 ?_
  refine st_aload_n (pc := 1686) dL_law_1686 rfl rfl ?_
  refine st_iload (pc := 1687) dL_law_1687 rfl ?_
  refine sg_iconst (pc := 1689) dL_law_1689 (by omega) ?_
  refine st_iadd (pc := 1690) dL_law_1690 ?_
  obtain ⟨h1, h⟩ := h
  refine sg_iaload (pc := 1691) dL_law_1691 hk1 h1 ?_
  obtain ⟨hk2, h⟩ := h
  obtain ⟨mc1, ms1, K1, hC, e1, e2, h⟩ := h
  refine sg_VI (pc := 1692) (av := [vi (mD μ a0 (w32 (a4 + 1))), vi (mD μ a0 (w32 (a4 + 2))), vi (mD μ a0 (w32 (a4 + 3))), vi (mD μ a0 (w32 (a4 + 4)))]) (st := []) (K := K1) dL_law_1692 ck_11_204 rfl (by decide) hk2 (by show (0 : Nat) ≤ 8; decide) hC e1 e2 (fun x1 m1 hK => ?_) rfl
  replace h := h x1 m1 hK
  refine st_aload_n (pc := 1695) dL_law_1695 rfl rfl ?_
  refine st_aload_n (pc := 1696) dL_law_1696 rfl rfl ?_
  refine st_iload (pc := 1697) dL_law_1697 rfl ?_
  refine sg_iconst (pc := 1699) dL_law_1699 (by omega) ?_
  refine st_iadd (pc := 1700) dL_law_1700 ?_
  obtain ⟨hk3, h⟩ := h
  obtain ⟨h1, h⟩ := h
  refine sg_iaload (pc := 1701) dL_law_1701 hk3 h1 ?_
  refine st_aload_n (pc := 1702) dL_law_1702 rfl rfl ?_
  refine st_iload (pc := 1703) dL_law_1703 rfl ?_
  refine sg_iconst (pc := 1705) dL_law_1705 (by omega) ?_
  refine st_iadd (pc := 1706) dL_law_1706 ?_
  obtain ⟨h1, h⟩ := h
  refine sg_iaload (pc := 1707) dL_law_1707 hk3 h1 ?_
  refine st_aload_n (pc := 1708) dL_law_1708 rfl rfl ?_
  refine st_iload (pc := 1709) dL_law_1709 rfl ?_
  refine sg_iconst (pc := 1711) dL_law_1711 (by omega) ?_
  refine st_iadd (pc := 1712) dL_law_1712 ?_
  obtain ⟨h1, h⟩ := h
  refine sg_iaload (pc := 1713) dL_law_1713 hk3 h1 ?_
  refine st_aload_n (pc := 1714) dL_law_1714 rfl rfl ?_
  refine st_iload (pc := 1715) dL_law_1715 rfl ?_
  refine sg_iconst (pc := 1717) dL_law_1717 (by omega) ?_
  refine st_iadd (pc := 1718) dL_law_1718 ?_
  obtain ⟨h1, h⟩ := h
  refine sg_iaload (pc := 1719) dL_law_1719 hk3 h1 ?_
  obtain ⟨hk4, h⟩ := h
  obtain ⟨mc2, ms2, K2, hC, e1, e2, h⟩ := h
  refine sg_VI (pc := 1720) (av := [vi (mD m1 a0 (w32 (a4 + 1))), vi (mD m1 a0 (w32 (a4 + 2))), vi (mD m1 a0 (w32 (a4 + 3))), vi (mD m1 a0 (w32 (a4 + 4)))]) (st := [vi x1]) (K := K2) dL_law_1720 ck_11_207 rfl (by decide) hk4 (by show (1 : Nat) ≤ 8; decide) hC e1 e2 (fun x2 m2 hK => ?_) rfl
  replace h := h x2 m2 hK
  refine st_icmpeq (pc := 1723) (tgt := 1933) dL_law_1723 rfl (fun c => ?_) (fun c => ?_)
  · replace h := h.1 c
    exact h
  · replace h := h.2 c
    refine sg_iconst (pc := 1726) dL_law_1726 (by omega) ?_
    exact st_ireturn (pc := 1727) dL_law_1727 (Or.inr ⟨rfl, by omega⟩) h

theorem sg_L_law_1728 {d bc bs : Nat} {a0 : Nat} {a1 : Nat} {a2 : Nat} {a3 : Nat} {a4 : Int} {μ : Mem} {Q : Option (Option AV) → Mem → Prop}
    (h : (mK μ a0 = 20 ∨ (a0 ≠ 0 ∧ mK μ a0 = 40)) ∧ ((0 : Int) ≤ (w32 (a4 + 1)) ∧ (w32 (a4 + 1)) < (mN μ a0 : Int)) ∧ (((0 : Int) ≤ (w32 (a4 + 2)) ∧ (w32 (a4 + 2)) < (mN μ a0 : Int)) ∧ (mK μ a1 = 10 ∧ ∃ (mc1 ms1 : Nat) (K1 : Int → Mem → Prop), Cl d mc1 ms1 mX9_fits [vr a1, vi (mD μ a0 (w32 (a4 + 1))), vi (mD μ a0 (w32 (a4 + 2)))] μ (KI K1) ∧ mc1 ≤ bc ∧ ms1 ≤ bs ∧ (∀ x1 m1, K1 x1 m1 → (mK m1 a0 = 20 ∨ (a0 ≠ 0 ∧ mK m1 a0 = 40)) ∧ ((0 : Int) ≤ (w32 (a4 + 1)) ∧ (w32 (a4 + 1)) < (mN m1 a0 : Int)) ∧ (((0 : Int) ≤ (w32 (a4 + 2)) ∧ (w32 (a4 + 2)) < (mN m1 a0 : Int)) ∧ (mK m1 a2 = 11 ∧ ∃ (mc2 ms2 : Nat) (K2 : Int → Mem → Prop), Cl d mc2 ms2 mX10_fits [vr a2, vi (mD m1 a0 (w32 (a4 + 1))), vi (mD m1 a0 (w32 (a4 + 2)))] m1 (KI K2) ∧ mc2 ≤ bc - mc1 ∧ ms2 ≤ bs - ms1 ∧ (∀ x2 m2, K2 x2 m2 → (x1 = x2 → Wp (d + 1) (bc - mc1 - mc2) (bs - ms1 - ms2) mL_law 1933 [some (vr a0), some (vr a1), some (vr a2), some (vr a3), some (vi a4), none, none, none] [] m2 Q) ∧ (¬ x1 = x2 → Q (some (some (vi 0))) m2)))))))) :
    Wp (d + 1) bc bs mL_law 1728 [some (vr a0), some (vr a1), some (vr a2), some (vr a3), some (vi a4), none, none, none] [] μ Q := by
  refine st_aload_n (pc := 1728) dL_law_1728 rfl rfl ?_
  refine st_aload_n (pc := 1729) dL_law_1729 rfl rfl ?_
  refine st_iload (pc := 1730) dL_law_1730 rfl ?_
  refine sg_iconst (pc := 1732) dL_law_1732 (by omega) ?_
  refine st_iadd (pc := 1733) dL_law_1733 ?_
  obtain ⟨hk1, h⟩ := h
  obtain ⟨h1, h⟩ := h
  refine sg_iaload (pc := 1734) dL_law_1734 hk1 h1 ?_
  refine st_aload_n (pc := 1735) dL_law_1735 rfl rfl ?_
  refine st_iload (pc := 1736) dL_law_1736 rfl ?_
  refine sg_iconst (pc := 1738) dL_law_1738 (by omega) ?_
  refine st_iadd (pc := 1739) dL_law_1739 ?_
  obtain ⟨h1, h⟩ := h
  refine sg_iaload (pc := 1740) dL_law_1740 hk1 h1 ?_
  obtain ⟨hk2, h⟩ := h
  obtain ⟨mc1, ms1, K1, hC, e1, e2, h⟩ := h
  refine sg_VI (pc := 1741) (av := [vi (mD μ a0 (w32 (a4 + 1))), vi (mD μ a0 (w32 (a4 + 2)))]) (st := []) (K := K1) dL_law_1741 ck_11_208 rfl (by decide) hk2 (by show (0 : Nat) ≤ 8; decide) hC e1 e2 (fun x1 m1 hK => ?_) rfl
  replace h := h x1 m1 hK
  refine st_aload_n (pc := 1744) dL_law_1744 rfl rfl ?_
  refine st_aload_n (pc := 1745) dL_law_1745 rfl rfl ?_
  refine st_iload (pc := 1746) dL_law_1746 rfl ?_
  refine sg_iconst (pc := 1748) dL_law_1748 (by omega) ?_
  refine st_iadd (pc := 1749) dL_law_1749 ?_
  obtain ⟨hk3, h⟩ := h
  obtain ⟨h1, h⟩ := h
  refine sg_iaload (pc := 1750) dL_law_1750 hk3 h1 ?_
  refine st_aload_n (pc := 1751) dL_law_1751 rfl rfl ?_
  refine st_iload (pc := 1752) dL_law_1752 rfl ?_
  refine sg_iconst (pc := 1754) dL_law_1754 (by omega) ?_
  refine st_iadd (pc := 1755) dL_law_1755 ?_
  obtain ⟨h1, h⟩ := h
  refine sg_iaload (pc := 1756) dL_law_1756 hk3 h1 ?_
  obtain ⟨hk4, h⟩ := h
  obtain ⟨mc2, ms2, K2, hC, e1, e2, h⟩ := h
  refine sg_VI (pc := 1757) (av := [vi (mD m1 a0 (w32 (a4 + 1))), vi (mD m1 a0 (w32 (a4 + 2)))]) (st := [vi x1]) (K := K2) dL_law_1757 ck_11_211 rfl (by decide) hk4 (by show (1 : Nat) ≤ 8; decide) hC e1 e2 (fun x2 m2 hK => ?_) rfl
  replace h := h x2 m2 hK
  refine st_icmpeq (pc := 1760) (tgt := 1933) dL_law_1760 rfl (fun c => ?_) (fun c => ?_)
  · replace h := h.1 c
    exact h
  · replace h := h.2 c
    refine sg_iconst (pc := 1763) dL_law_1763 (by omega) ?_
    exact st_ireturn (pc := 1764) dL_law_1764 (Or.inr ⟨rfl, by omega⟩) h

theorem sg_L_law_1765 {d bc bs : Nat} {a0 : Nat} {a1 : Nat} {a2 : Nat} {a3 : Nat} {a4 : Int} {μ : Mem} {Q : Option (Option AV) → Mem → Prop}
    (h : mK μ a1 = 10 ∧ ∃ (mc1 ms1 : Nat) (K1 : Int → Mem → Prop), Cl d mc1 ms1 mX9_reads [vr a1] μ (KI K1) ∧ mc1 ≤ bc ∧ ms1 ≤ bs ∧ (∀ x1 m1, K1 x1 m1 → mK m1 a2 = 11 ∧ ∃ (mc2 ms2 : Nat) (K2 : Int → Mem → Prop), Cl d mc2 ms2 mX10_reads [vr a2] m1 (KI K2) ∧ mc2 ≤ bc - mc1 ∧ ms2 ≤ bs - ms1 ∧ (∀ x2 m2, K2 x2 m2 → (x1 = x2 → Wp (d + 1) (bc - mc1 - mc2) (bs - ms1 - ms2) mL_law 1933 [some (vr a0), some (vr a1), some (vr a2), some (vr a3), some (vi a4), none, none, none] [] m2 Q) ∧ (¬ x1 = x2 → Q (some (some (vi 0))) m2)))) :
    Wp (d + 1) bc bs mL_law 1765 [some (vr a0), some (vr a1), some (vr a2), some (vr a3), some (vi a4), none, none, none] [] μ Q := by
  refine st_aload_n (pc := 1765) dL_law_1765 rfl rfl ?_
  obtain ⟨hk1, h⟩ := h
  obtain ⟨mc1, ms1, K1, hC, e1, e2, h⟩ := h
  refine sg_VI (pc := 1766) (av := []) (st := []) (K := K1) dL_law_1766 ck_11_212 rfl (by decide) hk1 (by show (0 : Nat) ≤ 8; decide) hC e1 e2 (fun x1 m1 hK => ?_) rfl
  replace h := h x1 m1 hK
  refine st_aload_n (pc := 1769) dL_law_1769 rfl rfl ?_
  obtain ⟨hk2, h⟩ := h
  obtain ⟨mc2, ms2, K2, hC, e1, e2, h⟩ := h
  refine sg_VI (pc := 1770) (av := []) (st := [vi x1]) (K := K2) dL_law_1770 ck_11_215 rfl (by decide) hk2 (by show (1 : Nat) ≤ 8; decide) hC e1 e2 (fun x2 m2 hK => ?_) rfl
  replace h := h x2 m2 hK
  refine st_icmpeq (pc := 1773) (tgt := 1933) dL_law_1773 rfl (fun c => ?_) (fun c => ?_)
  · replace h := h.1 c
    exact h
  · replace h := h.2 c
    refine sg_iconst (pc := 1776) dL_law_1776 (by omega) ?_
    exact st_ireturn (pc := 1777) dL_law_1777 (Or.inr ⟨rfl, by omega⟩) h

theorem sg_L_law_1778 {d bc bs : Nat} {a0 : Nat} {a1 : Nat} {a2 : Nat} {a3 : Nat} {a4 : Int} {μ : Mem} {Q : Option (Option AV) → Mem → Prop}
    (h : (mK μ a0 = 20 ∨ (a0 ≠ 0 ∧ mK μ a0 = 40)) ∧ ((0 : Int) ≤ (w32 (a4 + 1)) ∧ (w32 (a4 + 1)) < (mN μ a0 : Int)) ∧ (mK μ a1 = 10 ∧ ∃ (mc1 ms1 : Nat) (K1 : Int → Mem → Prop), Cl d mc1 ms1 mX9_seed [vr a1, vi (mD μ a0 (w32 (a4 + 1)))] μ (KI K1) ∧ mc1 ≤ bc ∧ ms1 ≤ bs ∧ (∀ x1 m1, K1 x1 m1 → (mK m1 a0 = 20 ∨ (a0 ≠ 0 ∧ mK m1 a0 = 40)) ∧ ((0 : Int) ≤ (w32 (a4 + 1)) ∧ (w32 (a4 + 1)) < (mN m1 a0 : Int)) ∧ (mK m1 a2 = 11 ∧ ∃ (mc2 ms2 : Nat) (K2 : Int → Mem → Prop), Cl d mc2 ms2 mX10_seed [vr a2, vi (mD m1 a0 (w32 (a4 + 1)))] m1 (KI K2) ∧ mc2 ≤ bc - mc1 ∧ ms2 ≤ bs - ms1 ∧ (∀ x2 m2, K2 x2 m2 → (x1 = x2 → Wp (d + 1) (bc - mc1 - mc2) (bs - ms1 - ms2) mL_law 1933 [some (vr a0), some (vr a1), some (vr a2), some (vr a3), some (vi a4), none, none, none] [] m2 Q) ∧ (¬ x1 = x2 → Q (some (some (vi 0))) m2)))))) :
    Wp (d + 1) bc bs mL_law 1778 [some (vr a0), some (vr a1), some (vr a2), some (vr a3), some (vi a4), none, none, none] [] μ Q := by
  refine st_aload_n (pc := 1778) dL_law_1778 rfl rfl ?_
  refine st_aload_n (pc := 1779) dL_law_1779 rfl rfl ?_
  refine st_iload (pc := 1780) dL_law_1780 rfl ?_
  refine sg_iconst (pc := 1782) dL_law_1782 (by omega) ?_
  refine st_iadd (pc := 1783) dL_law_1783 ?_
  obtain ⟨hk1, h⟩ := h
  obtain ⟨h1, h⟩ := h
  refine sg_iaload (pc := 1784) dL_law_1784 hk1 h1 ?_
  obtain ⟨hk2, h⟩ := h
  obtain ⟨mc1, ms1, K1, hC, e1, e2, h⟩ := h
  refine sg_VI (pc := 1785) (av := [vi (mD μ a0 (w32 (a4 + 1)))]) (st := []) (K := K1) dL_law_1785 ck_11_216 rfl (by decide) hk2 (by show (0 : Nat) ≤ 8; decide) hC e1 e2 (fun x1 m1 hK => ?_) rfl
  replace h := h x1 m1 hK
  refine st_aload_n (pc := 1788) dL_law_1788 rfl rfl ?_
  refine st_aload_n (pc := 1789) dL_law_1789 rfl rfl ?_
  refine st_iload (pc := 1790) dL_law_1790 rfl ?_
  refine sg_iconst (pc := 1792) dL_law_1792 (by omega) ?_
  refine st_iadd (pc := 1793) dL_law_1793 ?_
  obtain ⟨hk3, h⟩ := h
  obtain ⟨h1, h⟩ := h
  refine sg_iaload (pc := 1794) dL_law_1794 hk3 h1 ?_
  obtain ⟨hk4, h⟩ := h
  obtain ⟨mc2, ms2, K2, hC, e1, e2, h⟩ := h
  refine sg_VI (pc := 1795) (av := [vi (mD m1 a0 (w32 (a4 + 1)))]) (st := [vi x1]) (K := K2) dL_law_1795 ck_11_219 rfl (by decide) hk4 (by show (1 : Nat) ≤ 8; decide) hC e1 e2 (fun x2 m2 hK => ?_) rfl
  replace h := h x2 m2 hK
  refine st_icmpeq (pc := 1798) (tgt := 1933) dL_law_1798 rfl (fun c => ?_) (fun c => ?_)
  · replace h := h.1 c
    exact h
  · replace h := h.2 c
    refine sg_iconst (pc := 1801) dL_law_1801 (by omega) ?_
    exact st_ireturn (pc := 1802) dL_law_1802 (Or.inr ⟨rfl, by omega⟩) h

theorem sg_L_law_1803 {d bc bs : Nat} {a0 : Nat} {a1 : Nat} {a2 : Nat} {a3 : Nat} {a4 : Int} {μ : Mem} {Q : Option (Option AV) → Mem → Prop}
    (h : (mK μ a0 = 20 ∨ (a0 ≠ 0 ∧ mK μ a0 = 40)) ∧ ((0 : Int) ≤ (w32 (a4 + 1)) ∧ (w32 (a4 + 1)) < (mN μ a0 : Int)) ∧ (mK μ a1 = 10 ∧ ∃ (mc1 ms1 : Nat) (K1 : Int → Mem → Prop), Cl d mc1 ms1 mX9_keep [vr a1, vi (mD μ a0 (w32 (a4 + 1)))] μ (KI K1) ∧ mc1 ≤ bc ∧ ms1 ≤ bs ∧ (∀ x1 m1, K1 x1 m1 → (mK m1 a0 = 20 ∨ (a0 ≠ 0 ∧ mK m1 a0 = 40)) ∧ ((0 : Int) ≤ (w32 (a4 + 1)) ∧ (w32 (a4 + 1)) < (mN m1 a0 : Int)) ∧ (mK m1 a2 = 11 ∧ ∃ (mc2 ms2 : Nat) (K2 : Int → Mem → Prop), Cl d mc2 ms2 mX10_keep [vr a2, vi (mD m1 a0 (w32 (a4 + 1)))] m1 (KI K2) ∧ mc2 ≤ bc - mc1 ∧ ms2 ≤ bs - ms1 ∧ (∀ x2 m2, K2 x2 m2 → (x1 = x2 → Wp (d + 1) (bc - mc1 - mc2) (bs - ms1 - ms2) mL_law 1933 [some (vr a0), some (vr a1), some (vr a2), some (vr a3), some (vi a4), none, none, none] [] m2 Q) ∧ (¬ x1 = x2 → Q (some (some (vi 0))) m2)))))) :
    Wp (d + 1) bc bs mL_law 1803 [some (vr a0), some (vr a1), some (vr a2), some (vr a3), some (vi a4), none, none, none] [] μ Q := by
  refine st_aload_n (pc := 1803) dL_law_1803 rfl rfl ?_
  refine st_aload_n (pc := 1804) dL_law_1804 rfl rfl ?_
  refine st_iload (pc := 1805) dL_law_1805 rfl ?_
  refine sg_iconst (pc := 1807) dL_law_1807 (by omega) ?_
  refine st_iadd (pc := 1808) dL_law_1808 ?_
  obtain ⟨hk1, h⟩ := h
  obtain ⟨h1, h⟩ := h
  refine sg_iaload (pc := 1809) dL_law_1809 hk1 h1 ?_
  obtain ⟨hk2, h⟩ := h
  obtain ⟨mc1, ms1, K1, hC, e1, e2, h⟩ := h
  refine sg_VI (pc := 1810) (av := [vi (mD μ a0 (w32 (a4 + 1)))]) (st := []) (K := K1) dL_law_1810 ck_11_220 rfl (by decide) hk2 (by show (0 : Nat) ≤ 8; decide) hC e1 e2 (fun x1 m1 hK => ?_) rfl
  replace h := h x1 m1 hK
  refine st_aload_n (pc := 1813) dL_law_1813 rfl rfl ?_
  refine st_aload_n (pc := 1814) dL_law_1814 rfl rfl ?_
  refine st_iload (pc := 1815) dL_law_1815 rfl ?_
  refine sg_iconst (pc := 1817) dL_law_1817 (by omega) ?_
  refine st_iadd (pc := 1818) dL_law_1818 ?_
  obtain ⟨hk3, h⟩ := h
  obtain ⟨h1, h⟩ := h
  refine sg_iaload (pc := 1819) dL_law_1819 hk3 h1 ?_
  obtain ⟨hk4, h⟩ := h
  obtain ⟨mc2, ms2, K2, hC, e1, e2, h⟩ := h
  refine sg_VI (pc := 1820) (av := [vi (mD m1 a0 (w32 (a4 + 1)))]) (st := [vi x1]) (K := K2) dL_law_1820 ck_11_223 rfl (by decide) hk4 (by show (1 : Nat) ≤ 8; decide) hC e1 e2 (fun x2 m2 hK => ?_) rfl
  replace h := h x2 m2 hK
  refine st_icmpeq (pc := 1823) (tgt := 1933) dL_law_1823 rfl (fun c => ?_) (fun c => ?_)
  · replace h := h.1 c
    exact h
  · replace h := h.2 c
    refine sg_iconst (pc := 1826) dL_law_1826 (by omega) ?_
    exact st_ireturn (pc := 1827) dL_law_1827 (Or.inr ⟨rfl, by omega⟩) h

theorem sg_L_law_1828 {d bc bs : Nat} {a0 : Nat} {a1 : Nat} {a2 : Nat} {a3 : Nat} {a4 : Int} {μ : Mem} {Q : Option (Option AV) → Mem → Prop}
    (h : (mK μ a0 = 20 ∨ (a0 ≠ 0 ∧ mK μ a0 = 40)) ∧ ((0 : Int) ≤ (w32 (a4 + 1)) ∧ (w32 (a4 + 1)) < (mN μ a0 : Int)) ∧ (mK μ a1 = 10 ∧ ∃ (mc1 ms1 : Nat) (K1 : Int → Mem → Prop), Cl d mc1 ms1 mX9_again [vr a1, vi (mD μ a0 (w32 (a4 + 1)))] μ (KI K1) ∧ mc1 ≤ bc ∧ ms1 ≤ bs ∧ (∀ x1 m1, K1 x1 m1 → (mK m1 a0 = 20 ∨ (a0 ≠ 0 ∧ mK m1 a0 = 40)) ∧ ((0 : Int) ≤ (w32 (a4 + 1)) ∧ (w32 (a4 + 1)) < (mN m1 a0 : Int)) ∧ (mK m1 a2 = 11 ∧ ∃ (mc2 ms2 : Nat) (K2 : Int → Mem → Prop), Cl d mc2 ms2 mX10_again [vr a2, vi (mD m1 a0 (w32 (a4 + 1)))] m1 (KI K2) ∧ mc2 ≤ bc - mc1 ∧ ms2 ≤ bs - ms1 ∧ (∀ x2 m2, K2 x2 m2 → (x1 = x2 → Wp (d + 1) (bc - mc1 - mc2) (bs - ms1 - ms2) mL_law 1933 [some (vr a0), some (vr a1), some (vr a2), some (vr a3), some (vi a4), none, none, none] [] m2 Q) ∧ (¬ x1 = x2 → Q (some (some (vi 0))) m2)))))) :
    Wp (d + 1) bc bs mL_law 1828 [some (vr a0), some (vr a1), some (vr a2), some (vr a3), some (vi a4), none, none, none] [] μ Q := by
  refine st_aload_n (pc := 1828) dL_law_1828 rfl rfl ?_
  refine st_aload_n (pc := 1829) dL_law_1829 rfl rfl ?_
  refine st_iload (pc := 1830) dL_law_1830 rfl ?_
  refine sg_iconst (pc := 1832) dL_law_1832 (by omega) ?_
  refine st_iadd (pc := 1833) dL_law_1833 ?_
  obtain ⟨hk1, h⟩ := h
  obtain ⟨h1, h⟩ := h
  refine sg_iaload (pc := 1834) dL_law_1834 hk1 h1 ?_
  obtain ⟨hk2, h⟩ := h
  obtain ⟨mc1, ms1, K1, hC, e1, e2, h⟩ := h
  refine sg_VI (pc := 1835) (av := [vi (mD μ a0 (w32 (a4 + 1)))]) (st := []) (K := K1) dL_law_1835 ck_11_224 rfl (by decide) hk2 (by show (0 : Nat) ≤ 8; decide) hC e1 e2 (fun x1 m1 hK => ?_) rfl
  replace h := h x1 m1 hK
  refine st_aload_n (pc := 1838) dL_law_1838 rfl rfl ?_
  refine st_aload_n (pc := 1839) dL_law_1839 rfl rfl ?_
  refine st_iload (pc := 1840) dL_law_1840 rfl ?_
  refine sg_iconst (pc := 1842) dL_law_1842 (by omega) ?_
  refine st_iadd (pc := 1843) dL_law_1843 ?_
  obtain ⟨hk3, h⟩ := h
  obtain ⟨h1, h⟩ := h
  refine sg_iaload (pc := 1844) dL_law_1844 hk3 h1 ?_
  obtain ⟨hk4, h⟩ := h
  obtain ⟨mc2, ms2, K2, hC, e1, e2, h⟩ := h
  refine sg_VI (pc := 1845) (av := [vi (mD m1 a0 (w32 (a4 + 1)))]) (st := [vi x1]) (K := K2) dL_law_1845 ck_11_227 rfl (by decide) hk4 (by show (1 : Nat) ≤ 8; decide) hC e1 e2 (fun x2 m2 hK => ?_) rfl
  replace h := h x2 m2 hK
  refine st_icmpeq (pc := 1848) (tgt := 1933) dL_law_1848 rfl (fun c => ?_) (fun c => ?_)
  · replace h := h.1 c
    exact h
  · replace h := h.2 c
    refine sg_iconst (pc := 1851) dL_law_1851 (by omega) ?_
    exact st_ireturn (pc := 1852) dL_law_1852 (Or.inr ⟨rfl, by omega⟩) h

theorem sg_L_law_1853 {d bc bs : Nat} {a0 : Nat} {a1 : Nat} {a2 : Nat} {a3 : Nat} {a4 : Int} {μ : Mem} {Q : Option (Option AV) → Mem → Prop}
    (h : (mK μ a0 = 20 ∨ (a0 ≠ 0 ∧ mK μ a0 = 40)) ∧ ((0 : Int) ≤ (w32 (a4 + 1)) ∧ (w32 (a4 + 1)) < (mN μ a0 : Int)) ∧ (mK μ a1 = 10 ∧ ∃ (mc1 ms1 : Nat) (K1 : Int → Mem → Prop), Cl d mc1 ms1 mX9_count [vr a1, vi (mD μ a0 (w32 (a4 + 1)))] μ (KI K1) ∧ mc1 ≤ bc ∧ ms1 ≤ bs ∧ (∀ x1 m1, K1 x1 m1 → (mK m1 a0 = 20 ∨ (a0 ≠ 0 ∧ mK m1 a0 = 40)) ∧ ((0 : Int) ≤ (w32 (a4 + 1)) ∧ (w32 (a4 + 1)) < (mN m1 a0 : Int)) ∧ (mK m1 a2 = 11 ∧ ∃ (mc2 ms2 : Nat) (K2 : Int → Mem → Prop), Cl d mc2 ms2 mX10_count [vr a2, vi (mD m1 a0 (w32 (a4 + 1)))] m1 (KI K2) ∧ mc2 ≤ bc - mc1 ∧ ms2 ≤ bs - ms1 ∧ (∀ x2 m2, K2 x2 m2 → (x1 = x2 → Wp (d + 1) (bc - mc1 - mc2) (bs - ms1 - ms2) mL_law 1933 [some (vr a0), some (vr a1), some (vr a2), some (vr a3), some (vi a4), none, none, none] [] m2 Q) ∧ (¬ x1 = x2 → Q (some (some (vi 0))) m2)))))) :
    Wp (d + 1) bc bs mL_law 1853 [some (vr a0), some (vr a1), some (vr a2), some (vr a3), some (vi a4), none, none, none] [] μ Q := by
  refine st_aload_n (pc := 1853) dL_law_1853 rfl rfl ?_
  refine st_aload_n (pc := 1854) dL_law_1854 rfl rfl ?_
  refine st_iload (pc := 1855) dL_law_1855 rfl ?_
  refine sg_iconst (pc := 1857) dL_law_1857 (by omega) ?_
  refine st_iadd (pc := 1858) dL_law_1858 ?_
  obtain ⟨hk1, h⟩ := h
  obtain ⟨h1, h⟩ := h
  refine sg_iaload (pc := 1859) dL_law_1859 hk1 h1 ?_
  obtain ⟨hk2, h⟩ := h
  obtain ⟨mc1, ms1, K1, hC, e1, e2, h⟩ := h
  refine sg_VI (pc := 1860) (av := [vi (mD μ a0 (w32 (a4 + 1)))]) (st := []) (K := K1) dL_law_1860 ck_11_228 rfl (by decide) hk2 (by show (0 : Nat) ≤ 8; decide) hC e1 e2 (fun x1 m1 hK => ?_) rfl
  replace h := h x1 m1 hK
  refine st_aload_n (pc := 1863) dL_law_1863 rfl rfl ?_
  refine st_aload_n (pc := 1864) dL_law_1864 rfl rfl ?_
  refine st_iload (pc := 1865) dL_law_1865 rfl ?_
  refine sg_iconst (pc := 1867) dL_law_1867 (by omega) ?_
  refine st_iadd (pc := 1868) dL_law_1868 ?_
  obtain ⟨hk3, h⟩ := h
  obtain ⟨h1, h⟩ := h
  refine sg_iaload (pc := 1869) dL_law_1869 hk3 h1 ?_
  obtain ⟨hk4, h⟩ := h
  obtain ⟨mc2, ms2, K2, hC, e1, e2, h⟩ := h
  refine sg_VI (pc := 1870) (av := [vi (mD m1 a0 (w32 (a4 + 1)))]) (st := [vi x1]) (K := K2) dL_law_1870 ck_11_231 rfl (by decide) hk4 (by show (1 : Nat) ≤ 8; decide) hC e1 e2 (fun x2 m2 hK => ?_) rfl
  replace h := h x2 m2 hK
  refine st_icmpeq (pc := 1873) (tgt := 1933) dL_law_1873 rfl (fun c => ?_) (fun c => ?_)
  · replace h := h.1 c
    exact h
  · replace h := h.2 c
    refine sg_iconst (pc := 1876) dL_law_1876 (by omega) ?_
    exact st_ireturn (pc := 1877) dL_law_1877 (Or.inr ⟨rfl, by omega⟩) h

theorem sg_L_law_1878 {d bc bs : Nat} {a0 : Nat} {a1 : Nat} {a2 : Nat} {a3 : Nat} {a4 : Int} {μ : Mem} {Q : Option (Option AV) → Mem → Prop}
    (h : (mK μ a0 = 20 ∨ (a0 ≠ 0 ∧ mK μ a0 = 40)) ∧ ((0 : Int) ≤ (w32 (a4 + 1)) ∧ (w32 (a4 + 1)) < (mN μ a0 : Int)) ∧ (∃ (mc1 ms1 : Nat) (K1 : Int → Mem → Prop), Cl d mc1 ms1 mL_row [vr a1, vi (mD μ a0 (w32 (a4 + 1))), vr a3] μ (KI K1) ∧ mc1 ≤ bc ∧ ms1 ≤ bs ∧ (∀ x1 m1, K1 x1 m1 → (mK m1 a0 = 20 ∨ (a0 ≠ 0 ∧ mK m1 a0 = 40)) ∧ ((0 : Int) ≤ (w32 (a4 + 1)) ∧ (w32 (a4 + 1)) < (mN m1 a0 : Int)) ∧ (mK m1 a2 = 11 ∧ ∃ (mc2 ms2 : Nat) (K2 : Int → Mem → Prop), Cl d mc2 ms2 mX10_row [vr a2, vi (mD m1 a0 (w32 (a4 + 1)))] m1 (KL K2) ∧ mc2 ≤ bc - mc1 ∧ ms2 ≤ bs - ms1 ∧ (∀ x2 m2, K2 x2 m2 → mK m2 a2 = 11 ∧ ∃ (mc3 ms3 : Nat) (K3 : Int → Mem → Prop), Cl d mc3 ms3 mX10_thrown [vr a2] m2 (KI K3) ∧ mc3 ≤ bc - mc1 - mc2 ∧ ms3 ≤ bs - ms1 - ms2 ∧ (∀ x3 m3, K3 x3 m3 → (x3 = x1 → (¬ x1 = 0 → Wp (d + 1) (bc - mc1 - mc2 - mc3) (bs - ms1 - ms2 - ms3) mL_law 1933 [some (vr a0), some (vr a1), some (vr a2), some (vr a3), some (vi a4), none, none, none] [] m3 Q) ∧ (x1 = 0 → mK m3 a3 = 21 ∧ ((0 : Int) ≤ 0 ∧ 0 < (mN m3 a3 : Int)) ∧ (((if x2 < mD m3 a3 0 then 1 else if mD m3 a3 0 = x2 then 0 else -1) = 0 → Wp (d + 1) (bc - mc1 - mc2 - mc3) (bs - ms1 - ms2 - ms3) mL_law 1933 [some (vr a0), some (vr a1), some (vr a2), some (vr a3), some (vi a4), none, none, none] [] m3 Q) ∧ (¬ (if x2 < mD m3 a3 0 then 1 else if mD m3 a3 0 = x2 then 0 else -1) = 0 → Q (some (some (vi 0))) m3)))) ∧ (¬ x3 = x1 → Q (some (some (vi 0))) m3))))))) :
    Wp (d + 1) bc bs mL_law 1878 [some (vr a0), some (vr a1), some (vr a2), some (vr a3), some (vi a4), none, none, none] [] μ Q := by
  refine st_aload_n (pc := 1878) dL_law_1878 rfl rfl ?_
  refine st_aload_n (pc := 1879) dL_law_1879 rfl rfl ?_
  refine st_iload (pc := 1880) dL_law_1880 rfl ?_
  refine sg_iconst (pc := 1882) dL_law_1882 (by omega) ?_
  refine st_iadd (pc := 1883) dL_law_1883 ?_
  obtain ⟨hk1, h⟩ := h
  obtain ⟨h1, h⟩ := h
  refine sg_iaload (pc := 1884) dL_law_1884 hk1 h1 ?_
  refine st_aload_n (pc := 1885) dL_law_1885 rfl rfl ?_
  obtain ⟨mc1, ms1, K1, hC, e1, e2, h⟩ := h
  refine sg_HI (pc := 1886) (av := [vr a1, vi (mD μ a0 (w32 (a4 + 1))), vr a3]) (st := []) (K := K1) dL_law_1886 ck_11_232 rfl (by show (0 : Nat) ≤ 8; decide) hC e1 e2 (fun x1 m1 hK => ?_) rfl
  replace h := h x1 m1 hK
  refine sg_istore (pc := 1889) (ls' := [some (vr a0), some (vr a1), some (vr a2), some (vr a3), some (vi a4), some (vi x1), none, none]) dL_law_1889 (by show (5 : Nat) < 8; decide) rfl ?_
  refine st_aload_n (pc := 1891) dL_law_1891 rfl rfl ?_
  refine st_aload_n (pc := 1892) dL_law_1892 rfl rfl ?_
  refine st_iload (pc := 1893) dL_law_1893 rfl ?_
  refine sg_iconst (pc := 1895) dL_law_1895 (by omega) ?_
  refine st_iadd (pc := 1896) dL_law_1896 ?_
  obtain ⟨hk2, h⟩ := h
  obtain ⟨h1, h⟩ := h
  refine sg_iaload (pc := 1897) dL_law_1897 hk2 h1 ?_
  obtain ⟨hk3, h⟩ := h
  obtain ⟨mc2, ms2, K2, hC, e1, e2, h⟩ := h
  refine sg_VL (pc := 1898) (av := [vi (mD m1 a0 (w32 (a4 + 1)))]) (st := []) (K := K2) dL_law_1898 ck_11_235 rfl (by decide) hk3 (by show (0 : Nat) ≤ 8; decide) hC e1 e2 (fun x2 m2 hK => ?_) rfl
  replace h := h x2 m2 hK
  refine sg_lstore (pc := 1901) (ls' := [some (vr a0), some (vr a1), some (vr a2), some (vr a3), some (vi a4), some (vi x1), some (vl x2), none]) dL_law_1901 (by show (7 : Nat) < 8; decide) rfl ?_
  refine st_aload_n (pc := 1903) dL_law_1903 rfl rfl ?_
  obtain ⟨hk4, h⟩ := h
  obtain ⟨mc3, ms3, K3, hC, e1, e2, h⟩ := h
  refine sg_VI (pc := 1904) (av := []) (st := []) (K := K3) dL_law_1904 ck_11_68 rfl (by decide) hk4 (by show (0 : Nat) ≤ 8; decide) hC e1 e2 (fun x3 m3 hK => ?_) rfl
  replace h := h x3 m3 hK
  refine st_iload (pc := 1907) dL_law_1907 rfl ?_
  refine st_icmpeq (pc := 1909) (tgt := 1914) dL_law_1909 rfl (fun c => ?_) (fun c => ?_)
  · replace h := h.1 c
    refine st_iload (pc := 1914) dL_law_1914 rfl ?_
    refine st_ifne (pc := 1916) (tgt := 1930) dL_law_1916 rfl (fun c => ?_) (fun c => ?_)
    · replace h := h.1 c
      refine st_goto (pc := 1930) dL_law_1930 rfl ?_
      refine Wp.drop 5 rfl ?_
      refine Wp.drop 6 rfl ?_
      exact h
    · replace h := h.2 c
      refine st_aload_n (pc := 1919) dL_law_1919 rfl rfl ?_
      refine sg_iconst (pc := 1920) dL_law_1920 (by omega) ?_
      obtain ⟨hk5, h⟩ := h
      obtain ⟨h1, h⟩ := h
      refine st_laload (pc := 1921) dL_law_1921 hk5 h1.1 h1.2 ?_
      refine st_lload (pc := 1922) dL_law_1922 rfl ?_
      refine st_lcmp (pc := 1924) dL_law_1924 ?_
      refine st_ifeq (pc := 1925) (tgt := 1930) dL_law_1925 rfl (fun c => ?_) (fun c => ?_)
      · replace h := h.1 c
        refine st_goto (pc := 1930) dL_law_1930 rfl ?_
        refine Wp.drop 5 rfl ?_
        refine Wp.drop 6 rfl ?_
        exact h
      · replace h := h.2 c
        refine sg_iconst (pc := 1928) dL_law_1928 (by omega) ?_
        exact st_ireturn (pc := 1929) dL_law_1929 (Or.inr ⟨rfl, by omega⟩) h
  · replace h := h.2 c
    refine sg_iconst (pc := 1912) dL_law_1912 (by omega) ?_
    exact st_ireturn (pc := 1913) dL_law_1913 (Or.inr ⟨rfl, by omega⟩) h

theorem sg_L_law_1933 {d bc bs : Nat} {a0 : Nat} {a1 : Nat} {a2 : Nat} {a3 : Nat} {a4 : Int} {μ : Mem} {Q : Option (Option AV) → Mem → Prop}
    (h : ∀ v1, v1 = w32 (a4 + 5) → Wp (d + 1) bc bs mL_law 23 [some (vr a0), some (vr a1), some (vr a2), some (vr a3), some (vi v1), none, none, none] [] μ Q) :
    Wp (d + 1) bc bs mL_law 1933 [some (vr a0), some (vr a1), some (vr a2), some (vr a3), some (vi a4), none, none, none] [] μ Q := by
  refine sg_iinc (pc := 1933) (ls' := [some (vr a0), some (vr a1), some (vr a2), some (vr a3), some (vi (w32 (a4 + 5))), none, none, none]) dL_law_1933 rfl rfl ?_
  refine Wp.nameL (ls2 := fun v => [some (vr a0), some (vr a1), some (vr a2), some (vr a3), some (vi v), none, none, none]) 4 _ rfl (fun _ => rfl) (fun v1 ev1 => ?_)
  replace h := h v1 ev1
  refine st_goto (pc := 1936) dL_law_1936 rfl ?_
  exact h

