/-! ===== by program (wip/whole/gen_seg.py): stretches of methods ===== -/
theorem sg_X10_thing_0 {d bc bs : Nat} {a0 : Nat} {a1 : Int} {μ : Mem} {Q : Option (Option AV) → Mem → Prop}
    (h : mK μ a0 = 11 ∧ ∃ (mc1 ms1 : Nat) (K1 : Int → Mem → Prop), Cl d mc1 ms1 mX10_passes [vr a0, vi 45] μ (KI K1) ∧ mc1 ≤ bc ∧ ms1 ≤ bs ∧ (∀ x1 m1, K1 x1 m1 → (x1 = 0 → mK m1 a0 = 11 ∧ ∃ (mc2 ms2 : Nat) (K2 : Int → Mem → Prop), Cl d mc2 ms2 mX10_fine [vr a0] m1 (KI K2) ∧ mc2 ≤ bc - mc1 ∧ ms2 ≤ bs - ms1 ∧ (∀ x2 m2, K2 x2 m2 → (¬ x2 = 0 → mK m2 a0 = 11 ∧ ∃ (mc3 ms3 : Nat) (K3 : Int → Mem → Prop), Cl d mc3 ms3 mX10_here [vr a0] m2 (KI K3) ∧ mc3 ≤ bc - mc1 - mc2 ∧ ms3 ≤ bs - ms1 - ms2 ∧ (∀ x3 m3, K3 x3 m3 → (¬ x3 = 40 → Wp (d + 1) (bc - mc1 - mc2 - mc3) (bs - ms1 - ms2 - ms3) mX10_thing 67 [some (vr a0), some (vi a1), some (vi x3), none] [] m3 Q) ∧ (x3 = 40 → (4 ≤ a1 → Wp (d + 1) (bc - mc1 - mc2 - mc3) (bs - ms1 - ms2 - ms3) mX10_thing 67 [some (vr a0), some (vi a1), some (vi x3), none] [] m3 Q) ∧ (¬ 4 ≤ a1 → mK m3 a0 = 11 ∧ ((∀ m4, m4 = sD m3 a0 20 (w32 ((mD m3 a0 20) + 1)) → ∃ (mc4 ms4 : Nat) (K4 : Int → Mem → Prop), Cl d mc4 ms4 mX10_sum [vr a0, vi (w32 (a1 + 1))] m4 (KI K4) ∧ mc4 ≤ bc - mc1 - mc2 - mc3 ∧ ms4 ≤ bs - ms1 - ms2 - ms3 ∧ (∀ x4 m5, K4 x4 m5 → mK m5 a0 = 11 ∧ ∃ (mc5 ms5 : Nat) (K5 : Mem → Prop), Cl d mc5 ms5 mX10_need [vr a0, vi 41] m5 (KV K5) ∧ mc5 ≤ bc - mc1 - mc2 - mc3 - mc4 ∧ ms5 ≤ bs - ms1 - ms2 - ms3 - ms4 ∧ (∀ m6, K5 m6 → Q (some (some (vi x4))) m6)))))))) ∧ (x2 = 0 → Q (some (some (vi 0))) m2))) ∧ (¬ x1 = 0 → mK m1 a0 = 11 ∧ ∃ (mc6 ms6 : Nat) (K6 : Int → Mem → Prop), Cl d mc6 ms6 mX10_thing [vr a0, vi a1] m1 (KI K6) ∧ mc6 ≤ bc - mc1 ∧ ms6 ≤ bs - ms1 ∧ (∀ x5 m7, K6 x5 m7 → Q (some (some (vi (w32 (-x5))))) m7)))) :
    Wp (d + 1) bc bs mX10_thing 0 [some (vr a0), some (vi a1), none, none] [] μ Q := by
  refine st_aload_n (pc := 0) dX10_thing_0 rfl rfl ?_
  refine sg_bipush (pc := 1) dX10_thing_1 (by omega) (by decide) ?_
  obtain ⟨hk1, h⟩ := h
  obtain ⟨mc1, ms1, K1, hC, e1, e2, h⟩ := h
  refine sg_VI (pc := 3) (av := [vi 45]) (st := []) (K := K1) dX10_thing_3 ck_10_216 rfl (by decide) hk1 (by show (0 : Nat) ≤ 8; decide) hC e1 e2 (fun x1 m1 hK => ?_) rfl
  replace h := h x1 m1 hK
  refine st_ifeq (pc := 6) (tgt := 16) dX10_thing_6 rfl (fun c => ?_) (fun c => ?_)
  · replace h := h.1 c
    refine st_aload_n (pc := 16) dX10_thing_16 rfl rfl ?_
    obtain ⟨hk2, h⟩ := h
    obtain ⟨mc2, ms2, K2, hC, e1, e2, h⟩ := h
    refine sg_VI (pc := 17) (av := []) (st := []) (K := K2) dX10_thing_17 ck_10_209 rfl (by decide) hk2 (by show (0 : Nat) ≤ 8; decide) hC e1 e2 (fun x2 m2 hK => ?_) rfl
    replace h := h x2 m2 hK
    refine st_ifne (pc := 20) (tgt := 25) dX10_thing_20 rfl (fun c => ?_) (fun c => ?_)
    · replace h := h.1 c
      refine st_aload_n (pc := 25) dX10_thing_25 rfl rfl ?_
      obtain ⟨hk3, h⟩ := h
      obtain ⟨mc3, ms3, K3, hC, e1, e2, h⟩ := h
      refine sg_VI (pc := 26) (av := []) (st := []) (K := K3) dX10_thing_26 ck_10_213 rfl (by decide) hk3 (by show (0 : Nat) ≤ 8; decide) hC e1 e2 (fun x3 m3 hK => ?_) rfl
      replace h := h x3 m3 hK
      refine sg_istore_n (pc := 29) (ls' := [some (vr a0), some (vi a1), some (vi x3), none]) dX10_thing_29 rfl (by show (2 : Nat) < 4; decide) rfl ?_
      refine st_iload_n (pc := 30) dX10_thing_30 rfl rfl ?_
      refine sg_bipush (pc := 31) dX10_thing_31 (by omega) (by decide) ?_
      refine st_icmpne (pc := 33) (tgt := 67) dX10_thing_33 rfl (fun c => ?_) (fun c => ?_)
      · replace h := h.1 c
        exact h
      · replace h := h.2 c
        refine st_iload_n (pc := 36) dX10_thing_36 rfl rfl ?_
        refine sg_iconst (pc := 37) dX10_thing_37 (by omega) ?_
        refine st_icmpge (pc := 38) (tgt := 67) dX10_thing_38 rfl (fun c => ?_) (fun c => ?_)
        · replace h := h.1 c
          exact h
        · replace h := h.2 c
          refine st_aload_n (pc := 41) dX10_thing_41 rfl rfl ?_
          refine st_dup (pc := 42) dX10_thing_42 rfl ?_
          obtain ⟨hk4, h⟩ := h
          refine sg_gfI (pc := 43) (J := 20) dX10_thing_43 fl_10_203 (by decide) rfl hk4 ?_
          refine sg_iconst (pc := 46) dX10_thing_46 (by omega) ?_
          refine st_iadd (pc := 47) dX10_thing_47 ?_
          refine sg_pfI (pc := 48) (J := 20) dX10_thing_48 fl_10_203 rfl (Or.inl rfl) hk4 ?_
          refine Wp.nameM (fun m4 em4 => ?_)
          replace h := h m4 em4
          refine st_aload_n (pc := 51) dX10_thing_51 rfl rfl ?_
          refine st_iload_n (pc := 52) dX10_thing_52 rfl rfl ?_
          refine sg_iconst (pc := 53) dX10_thing_53 (by omega) ?_
          refine st_iadd (pc := 54) dX10_thing_54 ?_
          obtain ⟨mc4, ms4, K4, hC, e1, e2, h⟩ := h
          refine sg_VI (pc := 55) (av := [vi (w32 (a1 + 1))]) (st := []) (K := K4) dX10_thing_55 ck_10_262 rfl (by decide) (by cases em4; exact hk4) (by show (0 : Nat) ≤ 8; decide) hC e1 e2 (fun x4 m5 hK => ?_) rfl
          replace h := h x4 m5 hK
          refine sg_istore_n (pc := 58) (ls' := [some (vr a0), some (vi a1), some (vi x3), some (vi x4)]) dX10_thing_58 rfl (by show (3 : Nat) < 4; decide) rfl ?_
          refine st_aload_n (pc := 59) dX10_thing_59 rfl rfl ?_
          refine sg_bipush (pc := 60) dX10_thing_60 (by omega) (by decide) ?_
          obtain ⟨hk5, h⟩ := h
          obtain ⟨mc5, ms5, K5, hC, e1, e2, h⟩ := h
          refine sg_VV (pc := 62) (av := [vi 41]) (st := []) (K := K5) dX10_thing_62 ck_10_237 rfl (by decide) hk5 (by show (0 : Nat) ≤ 8; decide) hC e1 e2 (fun m6 hK => ?_) rfl
          replace h := h m6 hK
          refine st_iload_n (pc := 65) dX10_thing_65 rfl rfl ?_
          exact st_ireturn (pc := 66) dX10_thing_66 (Or.inl rfl) h
    · replace h := h.2 c
      refine sg_iconst (pc := 23) dX10_thing_23 (by omega) ?_
      exact st_ireturn (pc := 24) dX10_thing_24 (Or.inl rfl) h
  · replace h := h.2 c
    refine st_aload_n (pc := 9) dX10_thing_9 rfl rfl ?_
    refine st_iload_n (pc := 10) dX10_thing_10 rfl rfl ?_
    obtain ⟨hk6, h⟩ := h
    obtain ⟨mc6, ms6, K6, hC, e1, e2, h⟩ := h
    refine sg_VI (pc := 11) (av := [vi a1]) (st := []) (K := K6) dX10_thing_11 ck_10_259 rfl (by decide) hk6 (by show (0 : Nat) ≤ 8; decide) hC e1 e2 (fun x5 m7 hK => ?_) rfl
    replace h := h x5 m7 hK
    refine st_ineg (pc := 14) dX10_thing_14 ?_
    exact st_ireturn (pc := 15) dX10_thing_15 (Or.inl rfl) h

theorem sg_X10_thing_67 {d bc bs : Nat} {a0 : Nat} {a1 : Int} {a2 : Int} {μ : Mem} {Q : Option (Option AV) → Mem → Prop}
    (h : ∃ (mc1 ms1 : Nat) (K1 : Int → Mem → Prop), Cl d mc1 ms1 mX10_in [vi a2, vi 48, vi 57] μ (KI K1) ∧ mc1 ≤ bc ∧ ms1 ≤ bs ∧ (∀ x1 m1, K1 x1 m1 → (x1 = 0 → (a2 = 112 → Wp (d + 1) (bc - mc1) (bs - ms1) mX10_thing 127 [some (vr a0), some (vi a1), some (vi a2), none] [] m1 Q) ∧ (¬ a2 = 112 → (a2 = 115 → Wp (d + 1) (bc - mc1) (bs - ms1) mX10_thing 127 [some (vr a0), some (vi a1), some (vi a2), none] [] m1 Q) ∧ (¬ a2 = 115 → (a2 = 116 → Wp (d + 1) (bc - mc1) (bs - ms1) mX10_thing 127 [some (vr a0), some (vi a1), some (vi a2), none] [] m1 Q) ∧ (¬ a2 = 116 → (a2 = 102 → Wp (d + 1) (bc - mc1) (bs - ms1) mX10_thing 127 [some (vr a0), some (vi a1), some (vi a2), none] [] m1 Q) ∧ (¬ a2 = 102 → (a2 = 104 → Wp (d + 1) (bc - mc1) (bs - ms1) mX10_thing 127 [some (vr a0), some (vi a1), some (vi a2), none] [] m1 Q) ∧ (¬ a2 = 104 → mK m1 a0 = 11 ∧ (∃ (mc2 ms2 : Nat) (K2 : Mem → Prop), Cl d mc2 ms2 mX10_fault [vr a0, vi (mD m1 a0 20)] m1 (KV K2) ∧ mc2 ≤ bc - mc1 ∧ ms2 ≤ bs - ms1 ∧ (∀ m2, K2 m2 → Q (some (some (vi 0))) m2)))))))) ∧ (¬ x1 = 0 → mK m1 a0 = 11 ∧ ∃ (mc3 ms3 : Nat) (K3 : Int → Mem → Prop), Cl d mc3 ms3 mX10_number [vr a0, vi 0, vi 999] m1 (KI K3) ∧ mc3 ≤ bc - mc1 ∧ ms3 ≤ bs - ms1 ∧ (∀ x2 m3, K3 x2 m3 → Q (some (some (vi x2))) m3)))) :
    Wp (d + 1) bc bs mX10_thing 67 [some (vr a0), some (vi a1), some (vi a2), none] [] μ Q := by
  refine st_iload_n (pc := 67) dX10_thing_67 rfl rfl ?_
  refine sg_bipush (pc := 68) dX10_thing_68 (by omega) (by decide) ?_
  refine sg_bipush (pc := 70) dX10_thing_70 (by omega) (by decide) ?_
  obtain ⟨mc1, ms1, K1, hC, e1, e2, h⟩ := h
  refine sg_SI (pc := 72) (av := [vi a2, vi 48, vi 57]) (st := []) (K := K1) dX10_thing_72 ck_10_151 rfl (by show (0 : Nat) ≤ 8; decide) hC e1 e2 (fun x1 m1 hK => ?_) rfl
  replace h := h x1 m1 hK
  refine st_ifeq (pc := 75) (tgt := 87) dX10_thing_75 rfl (fun c => ?_) (fun c => ?_)
  · replace h := h.1 c
    refine st_iload_n (pc := 87) dX10_thing_87 rfl rfl ?_
    refine sg_bipush (pc := 88) dX10_thing_88 (by omega) (by decide) ?_
    refine st_icmpeq (pc := 90) (tgt := 127) dX10_thing_90 rfl (fun c => ?_) (fun c => ?_)
    · replace h := h.1 c
      exact h
    · replace h := h.2 c
      refine st_iload_n (pc := 93) dX10_thing_93 rfl rfl ?_
      refine sg_bipush (pc := 94) dX10_thing_94 (by omega) (by decide) ?_
      refine st_icmpeq (pc := 96) (tgt := 127) dX10_thing_96 rfl (fun c => ?_) (fun c => ?_)
      · replace h := h.1 c
        exact h
      · replace h := h.2 c
        refine st_iload_n (pc := 99) dX10_thing_99 rfl rfl ?_
        refine sg_bipush (pc := 100) dX10_thing_100 (by omega) (by decide) ?_
        refine st_icmpeq (pc := 102) (tgt := 127) dX10_thing_102 rfl (fun c => ?_) (fun c => ?_)
        · replace h := h.1 c
          exact h
        · replace h := h.2 c
          refine st_iload_n (pc := 105) dX10_thing_105 rfl rfl ?_
          refine sg_bipush (pc := 106) dX10_thing_106 (by omega) (by decide) ?_
          refine st_icmpeq (pc := 108) (tgt := 127) dX10_thing_108 rfl (fun c => ?_) (fun c => ?_)
          · replace h := h.1 c
            exact h
          · replace h := h.2 c
            refine st_iload_n (pc := 111) dX10_thing_111 rfl rfl ?_
            refine sg_bipush (pc := 112) dX10_thing_112 (by omega) (by decide) ?_
            refine st_icmpeq (pc := 114) (tgt := 127) dX10_thing_114 rfl (fun c => ?_) (fun c => ?_)
            · replace h := h.1 c
              exact h
            · replace h := h.2 c
              refine st_aload_n (pc := 117) dX10_thing_117 rfl rfl ?_
              refine st_aload_n (pc := 118) dX10_thing_118 rfl rfl ?_
              obtain ⟨hk1, h⟩ := h
              refine sg_gfI (pc := 119) (J := 20) dX10_thing_119 fl_10_203 (by decide) rfl hk1 ?_
              obtain ⟨mc2, ms2, K2, hC, e1, e2, h⟩ := h
              refine sg_VV (pc := 122) (av := [vi (mD m1 a0 20)]) (st := []) (K := K2) dX10_thing_122 ck_10_220 rfl (by decide) hk1 (by show (0 : Nat) ≤ 8; decide) hC e1 e2 (fun m2 hK => ?_) rfl
              replace h := h m2 hK
              refine sg_iconst (pc := 125) dX10_thing_125 (by omega) ?_
              exact st_ireturn (pc := 126) dX10_thing_126 (Or.inl rfl) h
  · replace h := h.2 c
    refine st_aload_n (pc := 78) dX10_thing_78 rfl rfl ?_
    refine sg_iconst (pc := 79) dX10_thing_79 (by omega) ?_
    refine sg_sipush (pc := 80) dX10_thing_80 (by omega) (by decide) ?_
    obtain ⟨hk2, h⟩ := h
    obtain ⟨mc3, ms3, K3, hC, e1, e2, h⟩ := h
    refine sg_VI (pc := 83) (av := [vi 0, vi 999]) (st := []) (K := K3) dX10_thing_83 ck_10_234 rfl (by decide) hk2 (by show (0 : Nat) ≤ 8; decide) hC e1 e2 (fun x2 m3 hK => ?_) rfl
    replace h := h x2 m3 hK
    exact st_ireturn (pc := 86) dX10_thing_86 (Or.inl rfl) h

theorem sg_X10_thing_127 {d bc bs : Nat} {a0 : Nat} {a1 : Int} {a2 : Int} {μ : Mem} {Q : Option (Option AV) → Mem → Prop}
    (h : mK μ a0 = 11 ∧ ((∀ m1, m1 = sD μ a0 20 (w32 ((mD μ a0 20) + 1)) → (¬ a2 = 112 → (¬ a2 = 115 → (¬ a2 = 116 → (¬ a2 = 102 → Q (some (some (vi (mD m1 a0 39)))) m1) ∧ (a2 = 102 → (mK m1 (mR m1 a0 3) = 20 ∨ ((mR m1 a0 3) ≠ 0 ∧ mK m1 (mR m1 a0 3) = 40)) ∧ ((0 : Int) ≤ 2 ∧ 2 < (mN m1 (mR m1 a0 3) : Int)) ∧ (Q (some (some (vi (mD m1 (mR m1 a0 3) 2)))) m1))) ∧ (a2 = 116 → Q (some (some (vi (mD m1 a0 38)))) m1)) ∧ (a2 = 115 → Q (some (some (vi (mD m1 a0 37)))) m1)) ∧ (a2 = 112 → Q (some (some (vi (mD m1 a0 36)))) m1)))) :
    Wp (d + 1) bc bs mX10_thing 127 [some (vr a0), some (vi a1), some (vi a2), none] [] μ Q := by
  refine st_aload_n (pc := 127) dX10_thing_127 rfl rfl ?_
  refine st_dup (pc := 128) dX10_thing_128 rfl ?_
  obtain ⟨hk1, h⟩ := h
  refine sg_gfI (pc := 129) (J := 20) dX10_thing_129 fl_10_203 (by decide) rfl hk1 ?_
  refine sg_iconst (pc := 132) dX10_thing_132 (by omega) ?_
  refine st_iadd (pc := 133) dX10_thing_133 ?_
  refine sg_pfI (pc := 134) (J := 20) dX10_thing_134 fl_10_203 rfl (Or.inl rfl) hk1 ?_
  refine Wp.nameM (fun m1 em1 => ?_)
  replace h := h m1 em1
  refine st_iload_n (pc := 137) dX10_thing_137 rfl rfl ?_
  refine sg_bipush (pc := 138) dX10_thing_138 (by omega) (by decide) ?_
  refine st_icmpne (pc := 140) (tgt := 150) dX10_thing_140 rfl (fun c => ?_) (fun c => ?_)
  · replace h := h.1 c
    refine st_iload_n (pc := 150) dX10_thing_150 rfl rfl ?_
    refine sg_bipush (pc := 151) dX10_thing_151 (by omega) (by decide) ?_
    refine st_icmpne (pc := 153) (tgt := 163) dX10_thing_153 rfl (fun c => ?_) (fun c => ?_)
    · replace h := h.1 c
      refine st_iload_n (pc := 163) dX10_thing_163 rfl rfl ?_
      refine sg_bipush (pc := 164) dX10_thing_164 (by omega) (by decide) ?_
      refine st_icmpne (pc := 166) (tgt := 176) dX10_thing_166 rfl (fun c => ?_) (fun c => ?_)
      · replace h := h.1 c
        refine st_iload_n (pc := 176) dX10_thing_176 rfl rfl ?_
        refine sg_bipush (pc := 177) dX10_thing_177 (by omega) (by decide) ?_
        refine st_icmpne (pc := 179) (tgt := 191) dX10_thing_179 rfl (fun c => ?_) (fun c => ?_)
        · replace h := h.1 c
          refine st_aload_n (pc := 191) dX10_thing_191 rfl rfl ?_
          refine sg_gfI (pc := 192) (J := 39) dX10_thing_192 fl_10_274 (by decide) rfl (by cases em1; exact hk1) ?_
          exact st_ireturn (pc := 195) dX10_thing_195 (Or.inl rfl) h
        · replace h := h.2 c
          refine st_aload_n (pc := 182) dX10_thing_182 rfl rfl ?_
          refine sg_gfR (pc := 183) (J := 3) dX10_thing_183 fl_10_19 rfl (by cases em1; exact hk1) ?_
          refine sg_iconst (pc := 186) dX10_thing_186 (by omega) ?_
          obtain ⟨hk2, h⟩ := h
          obtain ⟨h1, h⟩ := h
          refine sg_iaload (pc := 187) dX10_thing_187 hk2 h1 ?_
          refine st_goto (pc := 188) dX10_thing_188 rfl ?_
          exact st_ireturn (pc := 195) dX10_thing_195 (Or.inl rfl) h
      · replace h := h.2 c
        refine st_aload_n (pc := 169) dX10_thing_169 rfl rfl ?_
        refine sg_gfI (pc := 170) (J := 38) dX10_thing_170 fl_10_271 (by decide) rfl (by cases em1; exact hk1) ?_
        refine st_goto (pc := 173) dX10_thing_173 rfl ?_
        exact st_ireturn (pc := 195) dX10_thing_195 (Or.inl rfl) h
    · replace h := h.2 c
      refine st_aload_n (pc := 156) dX10_thing_156 rfl rfl ?_
      refine sg_gfI (pc := 157) (J := 37) dX10_thing_157 fl_10_268 (by decide) rfl (by cases em1; exact hk1) ?_
      refine st_goto (pc := 160) dX10_thing_160 rfl ?_
      exact st_ireturn (pc := 195) dX10_thing_195 (Or.inl rfl) h
  · replace h := h.2 c
    refine st_aload_n (pc := 143) dX10_thing_143 rfl rfl ?_
    refine sg_gfI (pc := 144) (J := 36) dX10_thing_144 fl_10_265 (by decide) rfl (by cases em1; exact hk1) ?_
    refine st_goto (pc := 147) dX10_thing_147 rfl ?_
    exact st_ireturn (pc := 195) dX10_thing_195 (Or.inl rfl) h

theorem sg_X10_law_0 {d bc bs : Nat} {a0 : Nat} {a1 : Int} {μ : Mem} {Q : Option (Option AV) → Mem → Prop}
    (h : mK μ a0 = 11 ∧ (∀ m1, m1 = sD μ a0 15 0 → ∀ v1, v1 = mD m1 a0 12 → ∃ (mc1 ms1 : Nat) (K1 : Mem → Prop), Cl d mc1 ms1 mX10_start [vr a0, vr (mR m1 a0 11), vi v1, vi 40] m1 (KV K1) ∧ mc1 ≤ bc ∧ ms1 ≤ bs ∧ (∀ m2, K1 m2 → mK m2 a0 = 11 ∧ (∀ m3, m3 = sD m2 a0 12 0 → ∃ (mc2 ms2 : Nat) (K2 : Int → Mem → Prop), Cl d mc2 ms2 mX10_in [vi a1, vi 0, vi 2] m3 (KI K2) ∧ mc2 ≤ bc - mc1 ∧ ms2 ≤ bs - ms1 ∧ (∀ x1 m4, K2 x1 m4 → (¬ x1 = 0 → (v1 ≤ 0 → Wp (d + 1) (bc - mc1 - mc2) (bs - ms1 - ms2) mX10_law 80 [some (vr a0), some (vi a1), some (vi v1), some (vi 0)] [] m4 Q) ∧ (¬ v1 ≤ 0 → mK m4 a0 = 11 ∧ ∃ (mc3 ms3 : Nat) (K3 : Int → Mem → Prop), Cl d mc3 ms3 mX10_sum [vr a0, vi 0] m4 (KI K3) ∧ mc3 ≤ bc - mc1 - mc2 ∧ ms3 ≤ bs - ms1 - ms2 ∧ (∀ x2 m5, K3 x2 m5 → mK m5 a0 = 11 ∧ ((v1 ≤ (mD m5 a0 20) → Wp (d + 1) (bc - mc1 - mc2 - mc3) (bs - ms1 - ms2 - ms3) mX10_law 64 [some (vr a0), some (vi a1), some (vi v1), none] [] m5 Q) ∧ (¬ v1 ≤ (mD m5 a0 20) → ∃ (mc4 ms4 : Nat) (K4 : Mem → Prop), Cl d mc4 ms4 mX10_fault [vr a0, vi (mD m5 a0 20)] m5 (KV K4) ∧ mc4 ≤ bc - mc1 - mc2 - mc3 ∧ ms4 ≤ bs - ms1 - ms2 - ms3 ∧ (∀ m6, K4 m6 → Wp (d + 1) (bc - mc1 - mc2 - mc3 - mc4) (bs - ms1 - ms2 - ms3 - ms4) mX10_law 64 [some (vr a0), some (vi a1), some (vi v1), none] [] m6 Q)))))) ∧ (x1 = 0 → Q (some (some (vi (-100)))) m4)))))) :
    Wp (d + 1) bc bs mX10_law 0 [some (vr a0), some (vi a1), none, none] [] μ Q := by
  refine st_aload_n (pc := 0) dX10_law_0 rfl rfl ?_
  refine sg_iconst (pc := 1) dX10_law_1 (by omega) ?_
  obtain ⟨hk1, h⟩ := h
  refine sg_pfI (pc := 2) (J := 15) dX10_law_2 fl_10_142 rfl (Or.inl rfl) hk1 ?_
  refine Wp.nameM (fun m1 em1 => ?_)
  replace h := h m1 em1
  refine st_aload_n (pc := 5) dX10_law_5 rfl rfl ?_
  refine sg_gfI (pc := 6) (J := 12) dX10_law_6 fl_10_191 (by decide) rfl (by cases em1; exact hk1) ?_
  refine sg_istore_n (pc := 9) (ls' := [some (vr a0), some (vi a1), some (vi (mD m1 a0 12)), none]) dX10_law_9 rfl (by show (2 : Nat) < 4; decide) rfl ?_
  refine Wp.nameL (ls2 := fun v => [some (vr a0), some (vi a1), some (vi v), none]) 2 _ rfl (fun _ => rfl) (fun v1 ev1 => ?_)
  replace h := h v1 ev1
  refine st_aload_n (pc := 10) dX10_law_10 rfl rfl ?_
  refine st_aload_n (pc := 11) dX10_law_11 rfl rfl ?_
  refine sg_gfR (pc := 12) (J := 11) dX10_law_12 fl_10_41 rfl (by cases em1; exact hk1) ?_
  refine st_iload_n (pc := 15) dX10_law_15 rfl rfl ?_
  refine sg_bipush (pc := 16) dX10_law_16 (by omega) (by decide) ?_
  obtain ⟨mc1, ms1, K1, hC, e1, e2, h⟩ := h
  refine sg_VV (pc := 18) (av := [vr (mR m1 a0 11), vi v1, vi 40]) (st := []) (K := K1) dX10_law_18 ck_10_230 rfl (by decide) (by cases em1; exact hk1) (by show (0 : Nat) ≤ 8; decide) hC e1 e2 (fun m2 hK => ?_) rfl
  replace h := h m2 hK
  refine st_aload_n (pc := 21) dX10_law_21 rfl rfl ?_
  refine sg_iconst (pc := 22) dX10_law_22 (by omega) ?_
  obtain ⟨hk2, h⟩ := h
  refine sg_pfI (pc := 23) (J := 12) dX10_law_23 fl_10_191 rfl (Or.inl rfl) hk2 ?_
  refine Wp.nameM (fun m3 em3 => ?_)
  replace h := h m3 em3
  refine st_iload_n (pc := 26) dX10_law_26 rfl rfl ?_
  refine sg_iconst (pc := 27) dX10_law_27 (by omega) ?_
  refine sg_iconst (pc := 28) dX10_law_28 (by omega) ?_
  obtain ⟨mc2, ms2, K2, hC, e1, e2, h⟩ := h
  refine sg_SI (pc := 29) (av := [vi a1, vi 0, vi 2]) (st := []) (K := K2) dX10_law_29 ck_10_151 rfl (by show (0 : Nat) ≤ 8; decide) hC e1 e2 (fun x1 m4 hK => ?_) rfl
  replace h := h x1 m4 hK
  refine st_ifne (pc := 32) (tgt := 38) dX10_law_32 rfl (fun c => ?_) (fun c => ?_)
  · replace h := h.1 c
    refine st_iload_n (pc := 38) dX10_law_38 rfl rfl ?_
    refine st_ifle (pc := 39) (tgt := 78) dX10_law_39 rfl (fun c => ?_) (fun c => ?_)
    · replace h := h.1 c
      refine sg_iconst (pc := 78) dX10_law_78 (by omega) ?_
      refine sg_istore_n (pc := 79) (ls' := [some (vr a0), some (vi a1), some (vi v1), some (vi 0)]) dX10_law_79 rfl (by show (3 : Nat) < 4; decide) rfl ?_
      exact h
    · replace h := h.2 c
      refine st_aload_n (pc := 42) dX10_law_42 rfl rfl ?_
      refine sg_iconst (pc := 43) dX10_law_43 (by omega) ?_
      obtain ⟨hk3, h⟩ := h
      obtain ⟨mc3, ms3, K3, hC, e1, e2, h⟩ := h
      refine sg_VI (pc := 44) (av := [vi 0]) (st := []) (K := K3) dX10_law_44 ck_10_262 rfl (by decide) hk3 (by show (0 : Nat) ≤ 8; decide) hC e1 e2 (fun x2 m5 hK => ?_) rfl
      replace h := h x2 m5 hK
      refine st_pop (pc := 47) dX10_law_47 rfl ?_
      refine st_aload_n (pc := 48) dX10_law_48 rfl rfl ?_
      obtain ⟨hk4, h⟩ := h
      refine sg_gfI (pc := 49) (J := 20) dX10_law_49 fl_10_203 (by decide) rfl hk4 ?_
      refine st_iload_n (pc := 52) dX10_law_52 rfl rfl ?_
      refine st_icmpge (pc := 53) (tgt := 64) dX10_law_53 rfl (fun c => ?_) (fun c => ?_)
      · replace h := h.1 c
        exact h
      · replace h := h.2 c
        refine st_aload_n (pc := 56) dX10_law_56 rfl rfl ?_
        refine st_aload_n (pc := 57) dX10_law_57 rfl rfl ?_
        refine sg_gfI (pc := 58) (J := 20) dX10_law_58 fl_10_203 (by decide) rfl hk4 ?_
        obtain ⟨mc4, ms4, K4, hC, e1, e2, h⟩ := h
        refine sg_VV (pc := 61) (av := [vi (mD m5 a0 20)]) (st := []) (K := K4) dX10_law_61 ck_10_220 rfl (by decide) hk4 (by show (0 : Nat) ≤ 8; decide) hC e1 e2 (fun m6 hK => ?_) rfl
        replace h := h m6 hK
        exact h
  · replace h := h.2 c
    refine sg_bipush (pc := 35) dX10_law_35 (by omega) (by decide) ?_
    exact st_ireturn (pc := 37) dX10_law_37 (Or.inl rfl) h

theorem sg_X10_law_64 {d bc bs : Nat} {a0 : Nat} {a1 : Int} {a2 : Int} {μ : Mem} {Q : Option (Option AV) → Mem → Prop}
    (h : mK μ a0 = 11 ∧ ∃ (mc1 ms1 : Nat) (K1 : Int → Mem → Prop), Cl d mc1 ms1 mX10_fine [vr a0] μ (KI K1) ∧ mc1 ≤ bc ∧ ms1 ≤ bs ∧ (∀ x1 m1, K1 x1 m1 → (¬ x1 = 0 → Wp (d + 1) (bc - mc1) (bs - ms1) mX10_law 80 [some (vr a0), some (vi a1), some (vi a2), some (vi 0)] [] m1 Q) ∧ (x1 = 0 → mK m1 a0 = 11 ∧ (Q (some (some (vi (w32 ((-1) - (mD m1 a0 21)))))) m1)))) :
    Wp (d + 1) bc bs mX10_law 64 [some (vr a0), some (vi a1), some (vi a2), none] [] μ Q := by
  refine st_aload_n (pc := 64) dX10_law_64 rfl rfl ?_
  obtain ⟨hk1, h⟩ := h
  obtain ⟨mc1, ms1, K1, hC, e1, e2, h⟩ := h
  refine sg_VI (pc := 65) (av := []) (st := []) (K := K1) dX10_law_65 ck_10_209 rfl (by decide) hk1 (by show (0 : Nat) ≤ 8; decide) hC e1 e2 (fun x1 m1 hK => ?_) rfl
  replace h := h x1 m1 hK
  refine st_ifne (pc := 68) (tgt := 78) dX10_law_68 rfl (fun c => ?_) (fun c => ?_)
  · replace h := h.1 c
    refine sg_iconst (pc := 78) dX10_law_78 (by omega) ?_
    refine sg_istore_n (pc := 79) (ls' := [some (vr a0), some (vi a1), some (vi a2), some (vi 0)]) dX10_law_79 rfl (by show (3 : Nat) < 4; decide) rfl ?_
    exact h
  · replace h := h.2 c
    refine sg_iconst (pc := 71) dX10_law_71 (by omega) ?_
    refine st_aload_n (pc := 72) dX10_law_72 rfl rfl ?_
    obtain ⟨hk2, h⟩ := h
    refine sg_gfI (pc := 73) (J := 21) dX10_law_73 fl_10_206 (by decide) rfl hk2 ?_
    refine st_isub (pc := 76) dX10_law_76 ?_
    exact st_ireturn (pc := 77) dX10_law_77 (Or.inl rfl) h

theorem sg_X10_law_80 {d bc bs : Nat} {a0 : Nat} {a1 : Int} {a2 : Int} {a3 : Int} {μ : Mem} {Q : Option (Option AV) → Mem → Prop}
    (h : (a2 ≤ a3 → mK μ a0 = 11 ∧ (mK μ (mR μ a0 35) = 20 ∧ ((0 : Int) ≤ a1 ∧ a1 < (mN μ (mR μ a0 35) : Int)) ∧ (∀ m1, m1 = sD μ (mR μ a0 35) a1 a2 → Q (some (some (vi 0))) m1))) ∧ (¬ a2 ≤ a3 → mK μ a0 = 11 ∧ (mK μ (mR μ a0 34) = 28 ∧ ((0 : Int) ≤ a1 ∧ a1 < (mN μ (mR μ a0 34) : Int)) ∧ (mK μ (mR μ a0 11) = 22 ∧ ((0 : Int) ≤ a3 ∧ a3 < (mN μ (mR μ a0 11) : Int)) ∧ (mK μ (mR μ (mR μ a0 34) a1) = 22 ∧ ((0 : Int) ≤ a3 ∧ a3 < (mN μ (mR μ (mR μ a0 34) a1) : Int)) ∧ (∀ m2, m2 = sD μ (mR μ (mR μ a0 34) a1) a3 (w8 (mD μ (mR μ a0 11) a3)) → ∀ v1, v1 = w32 (a3 + 1) → Wp (d + 1) bc bs mX10_law 80 [some (vr a0), some (vi a1), some (vi a2), some (vi v1)] [] m2 Q)))))) :
    Wp (d + 1) bc bs mX10_law 80 [some (vr a0), some (vi a1), some (vi a2), some (vi a3)] [] μ Q := by
  refine st_iload_n (pc := 80) dX10_law_80 rfl rfl ?_
  refine st_iload_n (pc := 81) dX10_law_81 rfl rfl ?_
  refine st_icmpge (pc := 82) (tgt := 105) dX10_law_82 rfl (fun c => ?_) (fun c => ?_)
  · replace h := h.1 c
    refine st_aload_n (pc := 105) dX10_law_105 rfl rfl ?_
    obtain ⟨hk1, h⟩ := h
    refine sg_gfR (pc := 106) (J := 35) dX10_law_106 fl_10_84 rfl hk1 ?_
    refine st_iload_n (pc := 109) dX10_law_109 rfl rfl ?_
    refine st_iload_n (pc := 110) dX10_law_110 rfl rfl ?_
    obtain ⟨hk2, h⟩ := h
    obtain ⟨h1, h⟩ := h
    refine st_iastore (pc := 111) dX10_law_111 hk2 h1.1 h1.2 ?_
    refine Wp.nameM (fun m1 em1 => ?_)
    replace h := h m1 em1
    refine sg_iconst (pc := 112) dX10_law_112 (by omega) ?_
    exact st_ireturn (pc := 113) dX10_law_113 (Or.inl rfl) h
  · replace h := h.2 c
    refine st_aload_n (pc := 85) dX10_law_85 rfl rfl ?_
    obtain ⟨hk3, h⟩ := h
    refine sg_gfR (pc := 86) (J := 34) dX10_law_86 fl_10_81 rfl hk3 ?_
    refine st_iload_n (pc := 89) dX10_law_89 rfl rfl ?_
    obtain ⟨hk4, h⟩ := h
    obtain ⟨h1, h⟩ := h
    refine st_aaload2 (pc := 90) dX10_law_90 hk4 h1.1 h1.2 ?_
    refine st_iload_n (pc := 91) dX10_law_91 rfl rfl ?_
    refine st_aload_n (pc := 92) dX10_law_92 rfl rfl ?_
    refine sg_gfR (pc := 93) (J := 11) dX10_law_93 fl_10_41 rfl hk3 ?_
    refine st_iload_n (pc := 96) dX10_law_96 rfl rfl ?_
    obtain ⟨hk5, h⟩ := h
    obtain ⟨h1, h⟩ := h
    refine st_baload (pc := 97) dX10_law_97 hk5 h1.1 h1.2 ?_
    obtain ⟨hk6, h⟩ := h
    obtain ⟨h1, h⟩ := h
    refine st_bastore (pc := 98) dX10_law_98 hk6 h1.1 h1.2 ?_
    refine Wp.nameM (fun m2 em2 => ?_)
    replace h := h m2 em2
    refine sg_iinc (pc := 99) (ls' := [some (vr a0), some (vi a1), some (vi a2), some (vi (w32 (a3 + 1)))]) dX10_law_99 rfl rfl ?_
    refine Wp.nameL (ls2 := fun v => [some (vr a0), some (vi a1), some (vi a2), some (vi v)]) 3 _ rfl (fun _ => rfl) (fun v1 ev1 => ?_)
    replace h := h v1 ev1
    refine st_goto (pc := 102) dX10_law_102 rfl ?_
    exact h

theorem sg_X10_isLaw_0 {d bc bs : Nat} {a0 : Nat} {a1 : Int} {μ : Mem} {Q : Option (Option AV) → Mem → Prop}
    (h : ∃ (mc1 ms1 : Nat) (K1 : Int → Mem → Prop), Cl d mc1 ms1 mX10_in [vi a1, vi 0, vi 2] μ (KI K1) ∧ mc1 ≤ bc ∧ ms1 ≤ bs ∧ (∀ x1 m1, K1 x1 m1 → (x1 = 0 → Q (some (some (vi 0))) m1) ∧ (¬ x1 = 0 → mK m1 a0 = 11 ∧ ((mK m1 (mR m1 a0 35) = 20 ∨ ((mR m1 a0 35) ≠ 0 ∧ mK m1 (mR m1 a0 35) = 40)) ∧ ((0 : Int) ≤ a1 ∧ a1 < (mN m1 (mR m1 a0 35) : Int)) ∧ (((mD m1 (mR m1 a0 35) a1) ≤ 0 → Q (some (some (vi 0))) m1) ∧ (¬ (mD m1 (mR m1 a0 35) a1) ≤ 0 → Q (some (some (vi 1))) m1)))))) :
    Wp (d + 1) bc bs mX10_isLaw 0 [some (vr a0), some (vi a1)] [] μ Q := by
  refine st_iload_n (pc := 0) dX10_isLaw_0 rfl rfl ?_
  refine sg_iconst (pc := 1) dX10_isLaw_1 (by omega) ?_
  refine sg_iconst (pc := 2) dX10_isLaw_2 (by omega) ?_
  obtain ⟨mc1, ms1, K1, hC, e1, e2, h⟩ := h
  refine sg_SI (pc := 3) (av := [vi a1, vi 0, vi 2]) (st := []) (K := K1) dX10_isLaw_3 ck_10_151 rfl (by show (0 : Nat) ≤ 8; decide) hC e1 e2 (fun x1 m1 hK => ?_) rfl
  replace h := h x1 m1 hK
  refine st_ifeq (pc := 6) (tgt := 22) dX10_isLaw_6 rfl (fun c => ?_) (fun c => ?_)
  · replace h := h.1 c
    refine sg_iconst (pc := 22) dX10_isLaw_22 (by omega) ?_
    exact st_ireturn (pc := 23) dX10_isLaw_23 (Or.inr ⟨rfl, by omega⟩) h
  · replace h := h.2 c
    refine st_aload_n (pc := 9) dX10_isLaw_9 rfl rfl ?_
    obtain ⟨hk1, h⟩ := h
    refine sg_gfR (pc := 10) (J := 35) dX10_isLaw_10 fl_10_84 rfl hk1 ?_
    refine st_iload_n (pc := 13) dX10_isLaw_13 rfl rfl ?_
    obtain ⟨hk2, h⟩ := h
    obtain ⟨h1, h⟩ := h
    refine sg_iaload (pc := 14) dX10_isLaw_14 hk2 h1 ?_
    refine st_ifle (pc := 15) (tgt := 22) dX10_isLaw_15 rfl (fun c => ?_) (fun c => ?_)
    · replace h := h.1 c
      refine sg_iconst (pc := 22) dX10_isLaw_22 (by omega) ?_
      exact st_ireturn (pc := 23) dX10_isLaw_23 (Or.inr ⟨rfl, by omega⟩) h
    · replace h := h.2 c
      refine sg_iconst (pc := 18) dX10_isLaw_18 (by omega) ?_
      refine st_goto (pc := 19) dX10_isLaw_19 rfl ?_
      exact st_ireturn (pc := 23) dX10_isLaw_23 (Or.inr ⟨rfl, by omega⟩) h

theorem sg_X10_bounded_0 {d bc bs : Nat} {a0 : Int} {μ : Mem} {Q : Option (Option AV) → Mem → Prop}
    (h : ∃ (mc1 ms1 : Nat) (K1 : Int → Mem → Prop), Cl d mc1 ms1 mJ9_min_7cf53 [vi 500, vi a0] μ (KI K1) ∧ mc1 ≤ bc ∧ ms1 ≤ bs ∧ (∀ x1 m1, K1 x1 m1 → ∃ (mc2 ms2 : Nat) (K2 : Int → Mem → Prop), Cl d mc2 ms2 mJ9_max_7cf53 [vi (-500), vi x1] m1 (KI K2) ∧ mc2 ≤ bc - mc1 ∧ ms2 ≤ bs - ms1 ∧ (∀ x2 m2, K2 x2 m2 → Q (some (some (vi x2))) m2))) :
    Wp (d + 1) bc bs mX10_bounded 0 [some (vi a0)] [] μ Q := by
  refine sg_sipush (pc := 0) dX10_bounded_0 (by omega) (by decide) ?_
  refine sg_sipush (pc := 3) dX10_bounded_3 (by omega) (by decide) ?_
  refine st_iload_n (pc := 6) dX10_bounded_6 rfl rfl ?_
  obtain ⟨mc1, ms1, K1, hC, e1, e2, h⟩ := h
  refine sg_SI (pc := 7) (av := [vi 500, vi a0]) (st := [vi (-500)]) (K := K1) dX10_bounded_7 ck_10_162 rfl (by show (1 : Nat) ≤ 8; decide) hC e1 e2 (fun x1 m1 hK => ?_) rfl
  replace h := h x1 m1 hK
  obtain ⟨mc2, ms2, K2, hC, e1, e2, h⟩ := h
  refine sg_SI (pc := 10) (av := [vi (-500), vi x1]) (st := []) (K := K2) dX10_bounded_10 ck_10_168 rfl (by show (0 : Nat) ≤ 8; decide) hC e1 e2 (fun x2 m2 hK => ?_) rfl
  replace h := h x2 m2 hK
  exact st_ireturn (pc := 13) dX10_bounded_13 (Or.inl rfl) h

theorem sg_X10_byLaw_0 {d bc bs : Nat} {a0 : Nat} {a1 : Int} {a2 : Int} {a3 : Int} {a4 : Int} {a5 : Int} {μ : Mem} {Q : Option (Option AV) → Mem → Prop}
    (h : mK μ a0 = 11 ∧ (∀ m1, m1 = sD μ a0 36 a2 → (∀ m2, m2 = sD m1 a0 37 a3 → (∀ m3, m3 = sD m2 a0 38 a4 → (∀ m4, m4 = sD m3 a0 39 a5 → mK m4 (mR m4 a0 34) = 28 ∧ ((0 : Int) ≤ a1 ∧ a1 < (mN m4 (mR m4 a0 34) : Int)) ∧ ((mK m4 (mR m4 a0 35) = 20 ∨ ((mR m4 a0 35) ≠ 0 ∧ mK m4 (mR m4 a0 35) = 40)) ∧ ((0 : Int) ≤ a1 ∧ a1 < (mN m4 (mR m4 a0 35) : Int)) ∧ (∃ (mc1 ms1 : Nat) (K1 : Mem → Prop), Cl d mc1 ms1 mX10_start [vr a0, vr (mR m4 (mR m4 a0 34) a1), vi (mD m4 (mR m4 a0 35) a1), vi 40] m4 (KV K1) ∧ mc1 ≤ bc ∧ ms1 ≤ bs ∧ (∀ m5, K1 m5 → mK m5 a0 = 11 ∧ ∃ (mc2 ms2 : Nat) (K2 : Int → Mem → Prop), Cl d mc2 ms2 mX10_sum [vr a0, vi 0] m5 (KI K2) ∧ mc2 ≤ bc - mc1 ∧ ms2 ≤ bs - ms1 ∧ (∀ x1 m6, K2 x1 m6 → ∃ (mc3 ms3 : Nat) (K3 : Int → Mem → Prop), Cl d mc3 ms3 mX10_bounded [vi x1] m6 (KI K3) ∧ mc3 ≤ bc - mc1 - mc2 ∧ ms3 ≤ bs - ms1 - ms2 ∧ (∀ x2 m7, K3 x2 m7 → Q (some (some (vi x2))) m7)))))))))) :
    Wp (d + 1) bc bs mX10_byLaw 0 [some (vr a0), some (vi a1), some (vi a2), some (vi a3), some (vi a4), some (vi a5)] [] μ Q := by
  refine st_aload_n (pc := 0) dX10_byLaw_0 rfl rfl ?_
  refine st_iload_n (pc := 1) dX10_byLaw_1 rfl rfl ?_
  obtain ⟨hk1, h⟩ := h
  refine sg_pfI (pc := 2) (J := 36) dX10_byLaw_2 fl_10_265 rfl (Or.inl rfl) hk1 ?_
  refine Wp.nameM (fun m1 em1 => ?_)
  replace h := h m1 em1
  refine st_aload_n (pc := 5) dX10_byLaw_5 rfl rfl ?_
  refine st_iload_n (pc := 6) dX10_byLaw_6 rfl rfl ?_
  refine sg_pfI (pc := 7) (J := 37) dX10_byLaw_7 fl_10_268 rfl (Or.inl rfl) (by cases em1; exact hk1) ?_
  refine Wp.nameM (fun m2 em2 => ?_)
  replace h := h m2 em2
  refine st_aload_n (pc := 10) dX10_byLaw_10 rfl rfl ?_
  refine st_iload (pc := 11) dX10_byLaw_11 rfl ?_
  refine sg_pfI (pc := 13) (J := 38) dX10_byLaw_13 fl_10_271 rfl (Or.inl rfl) (by cases em2; cases em1; exact hk1) ?_
  refine Wp.nameM (fun m3 em3 => ?_)
  replace h := h m3 em3
  refine st_aload_n (pc := 16) dX10_byLaw_16 rfl rfl ?_
  refine st_iload (pc := 17) dX10_byLaw_17 rfl ?_
  refine sg_pfI (pc := 19) (J := 39) dX10_byLaw_19 fl_10_274 rfl (Or.inl rfl) (by cases em3; cases em2; cases em1; exact hk1) ?_
  refine Wp.nameM (fun m4 em4 => ?_)
  replace h := h m4 em4
  refine st_aload_n (pc := 22) dX10_byLaw_22 rfl rfl ?_
  refine st_aload_n (pc := 23) dX10_byLaw_23 rfl rfl ?_
  refine sg_gfR (pc := 24) (J := 34) dX10_byLaw_24 fl_10_81 rfl (by cases em4; cases em3; cases em2; cases em1; exact hk1) ?_
  refine st_iload_n (pc := 27) dX10_byLaw_27 rfl rfl ?_
  obtain ⟨hk2, h⟩ := h
  obtain ⟨h1, h⟩ := h
  refine st_aaload2 (pc := 28) dX10_byLaw_28 hk2 h1.1 h1.2 ?_
  refine st_aload_n (pc := 29) dX10_byLaw_29 rfl rfl ?_
  refine sg_gfR (pc := 30) (J := 35) dX10_byLaw_30 fl_10_84 rfl (by cases em4; cases em3; cases em2; cases em1; exact hk1) ?_
  refine st_iload_n (pc := 33) dX10_byLaw_33 rfl rfl ?_
  obtain ⟨hk3, h⟩ := h
  obtain ⟨h1, h⟩ := h
  refine sg_iaload (pc := 34) dX10_byLaw_34 hk3 h1 ?_
  refine sg_bipush (pc := 35) dX10_byLaw_35 (by omega) (by decide) ?_
  obtain ⟨mc1, ms1, K1, hC, e1, e2, h⟩ := h
  refine sg_VV (pc := 37) (av := [vr (mR m4 (mR m4 a0 34) a1), vi (mD m4 (mR m4 a0 35) a1), vi 40]) (st := []) (K := K1) dX10_byLaw_37 ck_10_230 rfl (by decide) (by cases em4; cases em3; cases em2; cases em1; exact hk1) (by show (0 : Nat) ≤ 8; decide) hC e1 e2 (fun m5 hK => ?_) rfl
  replace h := h m5 hK
  refine st_aload_n (pc := 40) dX10_byLaw_40 rfl rfl ?_
  refine sg_iconst (pc := 41) dX10_byLaw_41 (by omega) ?_
  obtain ⟨hk4, h⟩ := h
  obtain ⟨mc2, ms2, K2, hC, e1, e2, h⟩ := h
  refine sg_VI (pc := 42) (av := [vi 0]) (st := []) (K := K2) dX10_byLaw_42 ck_10_262 rfl (by decide) hk4 (by show (0 : Nat) ≤ 8; decide) hC e1 e2 (fun x1 m6 hK => ?_) rfl
  replace h := h x1 m6 hK
  obtain ⟨mc3, ms3, K3, hC, e1, e2, h⟩ := h
  refine sg_SI (pc := 45) (av := [vi x1]) (st := []) (K := K3) dX10_byLaw_45 ck_10_277 rfl (by show (0 : Nat) ≤ 8; decide) hC e1 e2 (fun x2 m7 hK => ?_) rfl
  replace h := h x2 m7 hK
  exact st_ireturn (pc := 48) dX10_byLaw_48 (Or.inl rfl) h

theorem sg_X10_byHand_0 {d bc bs : Nat} {a0 : Nat} {a1 : Int} {a2 : Int} {μ : Mem} {Q : Option (Option AV) → Mem → Prop}
    (h : mK μ a0 = 11 ∧ ∃ (mc1 ms1 : Nat) (K1 : Int → Mem → Prop), Cl d mc1 ms1 mX10_isLaw [vr a0, vi a1] μ (KI K1) ∧ mc1 ≤ bc ∧ ms1 ≤ bs ∧ (∀ x1 m1, K1 x1 m1 → (¬ x1 = 0 → mK m1 a0 = 11 ∧ ((mK m1 (mR m1 a0 3) = 20 ∨ ((mR m1 a0 3) ≠ 0 ∧ mK m1 (mR m1 a0 3) = 40)) ∧ ((0 : Int) ≤ 5 ∧ 5 < (mN m1 (mR m1 a0 3) : Int)) ∧ (∀ v1, v1 = mD m1 (mR m1 a0 3) 5 → (¬ v1 = 0 → (v1 ≤ (mD m1 a0 5) → (mK m1 (mR m1 a0 9) = 20 ∨ ((mR m1 a0 9) ≠ 0 ∧ mK m1 (mR m1 a0 9) = 40)) ∧ ((0 : Int) ≤ ((w32 ((mD m1 a0 5) - v1)).tmod 21) ∧ ((w32 ((mD m1 a0 5) - v1)).tmod 21) < (mN m1 (mR m1 a0 9) : Int)) ∧ (∀ v2, v2 = mD m1 (mR m1 a0 9) ((w32 ((mD m1 a0 5) - v1)).tmod 21) → (mK m1 (mR m1 a0 6) = 20 ∨ ((mR m1 a0 6) ≠ 0 ∧ mK m1 (mR m1 a0 6) = 40)) ∧ ((0 : Int) ≤ 0 ∧ 0 < (mN m1 (mR m1 a0 6) : Int)) ∧ (∃ (mc2 ms2 : Nat) (K2 : Int → Mem → Prop), Cl d mc2 ms2 mX10_byLaw [vr a0, vi a1, vi a2, vi v2, vi (mD m1 a0 5), vi (mD m1 (mR m1 a0 6) 0)] m1 (KI K2) ∧ mc2 ≤ bc - mc1 ∧ ms2 ≤ bs - ms1 ∧ (∀ x2 m2, K2 x2 m2 → Q (some (some (vi x2))) m2)))) ∧ (¬ v1 ≤ (mD m1 a0 5) → (mK m1 (mR m1 a0 6) = 20 ∨ ((mR m1 a0 6) ≠ 0 ∧ mK m1 (mR m1 a0 6) = 40)) ∧ ((0 : Int) ≤ 0 ∧ 0 < (mN m1 (mR m1 a0 6) : Int)) ∧ (∃ (mc3 ms3 : Nat) (K3 : Int → Mem → Prop), Cl d mc3 ms3 mX10_byLaw [vr a0, vi a1, vi a2, vi 0, vi (mD m1 a0 5), vi (mD m1 (mR m1 a0 6) 0)] m1 (KI K3) ∧ mc3 ≤ bc - mc1 ∧ ms3 ≤ bs - ms1 ∧ (∀ x3 m3, K3 x3 m3 → Q (some (some (vi x3))) m3)))) ∧ (v1 = 0 → ∃ (mc4 ms4 : Nat) (K4 : Int → Mem → Prop), Cl d mc4 ms4 mX10_slope [vr a0] m1 (KI K4) ∧ mc4 ≤ bc - mc1 ∧ ms4 ≤ bs - ms1 ∧ (∀ x4 m4, K4 x4 m4 → mK m4 a0 = 11 ∧ ((mK m4 (mR m4 a0 6) = 20 ∨ ((mR m4 a0 6) ≠ 0 ∧ mK m4 (mR m4 a0 6) = 40)) ∧ ((0 : Int) ≤ 0 ∧ 0 < (mN m4 (mR m4 a0 6) : Int)) ∧ (∃ (mc5 ms5 : Nat) (K5 : Int → Mem → Prop), Cl d mc5 ms5 mX10_byLaw [vr a0, vi a1, vi a2, vi x4, vi (mD m4 a0 5), vi (mD m4 (mR m4 a0 6) 0)] m4 (KI K5) ∧ mc5 ≤ bc - mc1 - mc4 ∧ ms5 ≤ bs - ms1 - ms4 ∧ (∀ x5 m5, K5 x5 m5 → Q (some (some (vi x5))) m5)))))))) ∧ (x1 = 0 → Q (some (some (vi a2))) m1))) :
    Wp (d + 1) bc bs mX10_byHand 0 [some (vr a0), some (vi a1), some (vi a2), none, none] [] μ Q := by
  refine st_aload_n (pc := 0) dX10_byHand_0 rfl rfl ?_
  refine st_iload_n (pc := 1) dX10_byHand_1 rfl rfl ?_
  obtain ⟨hk1, h⟩ := h
  obtain ⟨mc1, ms1, K1, hC, e1, e2, h⟩ := h
  refine sg_VI (pc := 2) (av := [vi a1]) (st := []) (K := K1) dX10_byHand_2 ck_10_280 rfl (by decide) hk1 (by show (0 : Nat) ≤ 8; decide) hC e1 e2 (fun x1 m1 hK => ?_) rfl
  replace h := h x1 m1 hK
  refine st_ifne (pc := 5) (tgt := 10) dX10_byHand_5 rfl (fun c => ?_) (fun c => ?_)
  · replace h := h.1 c
    refine st_aload_n (pc := 10) dX10_byHand_10 rfl rfl ?_
    obtain ⟨hk2, h⟩ := h
    refine sg_gfR (pc := 11) (J := 3) dX10_byHand_11 fl_10_19 rfl hk2 ?_
    refine sg_iconst (pc := 14) dX10_byHand_14 (by omega) ?_
    obtain ⟨hk3, h⟩ := h
    obtain ⟨h1, h⟩ := h
    refine sg_iaload (pc := 15) dX10_byHand_15 hk3 h1 ?_
    refine sg_istore_n (pc := 16) (ls' := [some (vr a0), some (vi a1), some (vi a2), some (vi (mD m1 (mR m1 a0 3) 5)), none]) dX10_byHand_16 rfl (by show (3 : Nat) < 5; decide) rfl ?_
    refine Wp.nameL (ls2 := fun v => [some (vr a0), some (vi a1), some (vi a2), some (vi v), none]) 3 _ rfl (fun _ => rfl) (fun v1 ev1 => ?_)
    replace h := h v1 ev1
    refine st_iload_n (pc := 17) dX10_byHand_17 rfl rfl ?_
    refine st_ifne (pc := 18) (tgt := 28) dX10_byHand_18 rfl (fun c => ?_) (fun c => ?_)
    · replace h := h.1 c
      refine st_aload_n (pc := 28) dX10_byHand_28 rfl rfl ?_
      refine sg_gfI (pc := 29) (J := 5) dX10_byHand_29 fl_10_148 (by decide) rfl hk2 ?_
      refine st_iload_n (pc := 32) dX10_byHand_32 rfl rfl ?_
      refine st_icmpge (pc := 33) (tgt := 40) dX10_byHand_33 rfl (fun c => ?_) (fun c => ?_)
      · replace h := h.1 c
        refine st_aload_n (pc := 40) dX10_byHand_40 rfl rfl ?_
        refine sg_gfR (pc := 41) (J := 9) dX10_byHand_41 fl_10_35 rfl hk2 ?_
        refine st_aload_n (pc := 44) dX10_byHand_44 rfl rfl ?_
        refine sg_gfI (pc := 45) (J := 5) dX10_byHand_45 fl_10_148 (by decide) rfl hk2 ?_
        refine st_iload_n (pc := 48) dX10_byHand_48 rfl rfl ?_
        refine st_isub (pc := 49) dX10_byHand_49 ?_
        refine sg_bipush (pc := 50) dX10_byHand_50 (by omega) (by decide) ?_
        refine st_irem (pc := 52) dX10_byHand_52 (by omega) ?_
        obtain ⟨hk4, h⟩ := h
        obtain ⟨h1, h⟩ := h
        refine sg_iaload (pc := 53) dX10_byHand_53 hk4 h1 ?_
        refine sg_istore (pc := 54) (ls' := [some (vr a0), some (vi a1), some (vi a2), some (vi v1), some (vi (mD m1 (mR m1 a0 9) ((w32 ((mD m1 a0 5) - v1)).tmod 21)))]) dX10_byHand_54 (by show (4 : Nat) < 5; decide) rfl ?_
        refine Wp.nameL (ls2 := fun v => [some (vr a0), some (vi a1), some (vi a2), some (vi v1), some (vi v)]) 4 _ rfl (fun _ => rfl) (fun v2 ev2 => ?_)
        replace h := h v2 ev2
        refine st_aload_n (pc := 56) dX10_byHand_56 rfl rfl ?_
        refine st_iload_n (pc := 57) dX10_byHand_57 rfl rfl ?_
        refine st_iload_n (pc := 58) dX10_byHand_58 rfl rfl ?_
        refine st_iload (pc := 59) dX10_byHand_59 rfl ?_
        refine st_aload_n (pc := 61) dX10_byHand_61 rfl rfl ?_
        refine sg_gfI (pc := 62) (J := 5) dX10_byHand_62 fl_10_148 (by decide) rfl hk2 ?_
        refine st_aload_n (pc := 65) dX10_byHand_65 rfl rfl ?_
        refine sg_gfR (pc := 66) (J := 6) dX10_byHand_66 fl_10_26 rfl hk2 ?_
        refine sg_iconst (pc := 69) dX10_byHand_69 (by omega) ?_
        obtain ⟨hk5, h⟩ := h
        obtain ⟨h1, h⟩ := h
        refine sg_iaload (pc := 70) dX10_byHand_70 hk5 h1 ?_
        obtain ⟨mc2, ms2, K2, hC, e1, e2, h⟩ := h
        refine sg_VI (pc := 71) (av := [vi a1, vi a2, vi v2, vi (mD m1 a0 5), vi (mD m1 (mR m1 a0 6) 0)]) (st := []) (K := K2) dX10_byHand_71 ck_10_283 rfl (by decide) hk2 (by show (0 : Nat) ≤ 8; decide) hC e1 e2 (fun x2 m2 hK => ?_) rfl
        replace h := h x2 m2 hK
        exact st_ireturn (pc := 74) dX10_byHand_74 (Or.inl rfl) h
      · replace h := h.2 c
        refine sg_iconst (pc := 36) dX10_byHand_36 (by omega) ?_
        refine st_goto (pc := 37) dX10_byHand_37 rfl ?_
        refine sg_istore (pc := 54) (ls' := [some (vr a0), some (vi a1), some (vi a2), some (vi v1), some (vi 0)]) dX10_byHand_54 (by show (4 : Nat) < 5; decide) rfl ?_
        refine st_aload_n (pc := 56) dX10_byHand_56 rfl rfl ?_
        refine st_iload_n (pc := 57) dX10_byHand_57 rfl rfl ?_
        refine st_iload_n (pc := 58) dX10_byHand_58 rfl rfl ?_
        refine st_iload (pc := 59) dX10_byHand_59 rfl ?_
        refine st_aload_n (pc := 61) dX10_byHand_61 rfl rfl ?_
        refine sg_gfI (pc := 62) (J := 5) dX10_byHand_62 fl_10_148 (by decide) rfl hk2 ?_
        refine st_aload_n (pc := 65) dX10_byHand_65 rfl rfl ?_
        refine sg_gfR (pc := 66) (J := 6) dX10_byHand_66 fl_10_26 rfl hk2 ?_
        refine sg_iconst (pc := 69) dX10_byHand_69 (by omega) ?_
        obtain ⟨hk6, h⟩ := h
        obtain ⟨h1, h⟩ := h
        refine sg_iaload (pc := 70) dX10_byHand_70 hk6 h1 ?_
        obtain ⟨mc3, ms3, K3, hC, e1, e2, h⟩ := h
        refine sg_VI (pc := 71) (av := [vi a1, vi a2, vi 0, vi (mD m1 a0 5), vi (mD m1 (mR m1 a0 6) 0)]) (st := []) (K := K3) dX10_byHand_71 ck_10_283 rfl (by decide) hk2 (by show (0 : Nat) ≤ 8; decide) hC e1 e2 (fun x3 m3 hK => ?_) rfl
        replace h := h x3 m3 hK
        exact st_ireturn (pc := 74) dX10_byHand_74 (Or.inl rfl) h
    · replace h := h.2 c
      refine st_aload_n (pc := 21) dX10_byHand_21 rfl rfl ?_
      obtain ⟨mc4, ms4, K4, hC, e1, e2, h⟩ := h
      refine sg_VI (pc := 22) (av := []) (st := []) (K := K4) dX10_byHand_22 ck_10_175 rfl (by decide) hk2 (by show (0 : Nat) ≤ 8; decide) hC e1 e2 (fun x4 m4 hK => ?_) rfl
      replace h := h x4 m4 hK
      refine st_goto (pc := 25) dX10_byHand_25 rfl ?_
      refine sg_istore (pc := 54) (ls' := [some (vr a0), some (vi a1), some (vi a2), some (vi v1), some (vi x4)]) dX10_byHand_54 (by show (4 : Nat) < 5; decide) rfl ?_
      refine st_aload_n (pc := 56) dX10_byHand_56 rfl rfl ?_
      refine st_iload_n (pc := 57) dX10_byHand_57 rfl rfl ?_
      refine st_iload_n (pc := 58) dX10_byHand_58 rfl rfl ?_
      refine st_iload (pc := 59) dX10_byHand_59 rfl ?_
      refine st_aload_n (pc := 61) dX10_byHand_61 rfl rfl ?_
      obtain ⟨hk7, h⟩ := h
      refine sg_gfI (pc := 62) (J := 5) dX10_byHand_62 fl_10_148 (by decide) rfl hk7 ?_
      refine st_aload_n (pc := 65) dX10_byHand_65 rfl rfl ?_
      refine sg_gfR (pc := 66) (J := 6) dX10_byHand_66 fl_10_26 rfl hk7 ?_
      refine sg_iconst (pc := 69) dX10_byHand_69 (by omega) ?_
      obtain ⟨hk8, h⟩ := h
      obtain ⟨h1, h⟩ := h
      refine sg_iaload (pc := 70) dX10_byHand_70 hk8 h1 ?_
      obtain ⟨mc5, ms5, K5, hC, e1, e2, h⟩ := h
      refine sg_VI (pc := 71) (av := [vi a1, vi a2, vi x4, vi (mD m4 a0 5), vi (mD m4 (mR m4 a0 6) 0)]) (st := []) (K := K5) dX10_byHand_71 ck_10_283 rfl (by decide) hk7 (by show (0 : Nat) ≤ 8; decide) hC e1 e2 (fun x5 m5 hK => ?_) rfl
      replace h := h x5 m5 hK
      exact st_ireturn (pc := 74) dX10_byHand_74 (Or.inl rfl) h
  · replace h := h.2 c
    refine st_iload_n (pc := 8) dX10_byHand_8 rfl rfl ?_
    exact st_ireturn (pc := 9) dX10_byHand_9 (Or.inl rfl) h

theorem sg_X10_gives_0 {d bc bs : Nat} {a0 : Nat} {a1 : Int} {a2 : Int} {μ : Mem} {Q : Option (Option AV) → Mem → Prop}
    (h : mK μ a0 = 11 ∧ (∀ m1, m1 = sD μ a0 15 0 → ∃ (mc1 ms1 : Nat) (K1 : Int → Mem → Prop), Cl d mc1 ms1 mX10_isLaw [vr a0, vi a1] m1 (KI K1) ∧ mc1 ≤ bc ∧ ms1 ≤ bs ∧ (∀ x1 m2, K1 x1 m2 → (x1 = 0 → Wp (d + 1) (bc - mc1) (bs - ms1) mX10_gives 35 [some (vr a0), some (vi a1), some (vi a2)] [] m2 Q) ∧ (¬ x1 = 0 → ∃ (mc2 ms2 : Nat) (K2 : Int → Mem → Prop), Cl d mc2 ms2 mX10_in [vi a2, vi (-500), vi 500] m2 (KI K2) ∧ mc2 ≤ bc - mc1 ∧ ms2 ≤ bs - ms1 ∧ (∀ x2 m3, K2 x2 m3 → (x2 = 0 → Wp (d + 1) (bc - mc1 - mc2) (bs - ms1 - ms2) mX10_gives 35 [some (vr a0), some (vi a1), some (vi a2)] [] m3 Q) ∧ (¬ x2 = 0 → mK m3 a0 = 11 ∧ ∃ (mc3 ms3 : Nat) (K3 : Int → Mem → Prop), Cl d mc3 ms3 mX10_byHand [vr a0, vi a1, vi a2] m3 (KI K3) ∧ mc3 ≤ bc - mc1 - mc2 ∧ ms3 ≤ bs - ms1 - ms2 ∧ (∀ x3 m4, K3 x3 m4 → Q (some (some (vi x3))) m4))))))) :
    Wp (d + 1) bc bs mX10_gives 0 [some (vr a0), some (vi a1), some (vi a2)] [] μ Q := by
  refine st_aload_n (pc := 0) dX10_gives_0 rfl rfl ?_
  refine sg_iconst (pc := 1) dX10_gives_1 (by omega) ?_
  obtain ⟨hk1, h⟩ := h
  refine sg_pfI (pc := 2) (J := 15) dX10_gives_2 fl_10_142 rfl (Or.inl rfl) hk1 ?_
  refine Wp.nameM (fun m1 em1 => ?_)
  replace h := h m1 em1
  refine st_aload_n (pc := 5) dX10_gives_5 rfl rfl ?_
  refine st_iload_n (pc := 6) dX10_gives_6 rfl rfl ?_
  obtain ⟨mc1, ms1, K1, hC, e1, e2, h⟩ := h
  refine sg_VI (pc := 7) (av := [vi a1]) (st := []) (K := K1) dX10_gives_7 ck_10_280 rfl (by decide) (by cases em1; exact hk1) (by show (0 : Nat) ≤ 8; decide) hC e1 e2 (fun x1 m2 hK => ?_) rfl
  replace h := h x1 m2 hK
  refine st_ifeq (pc := 10) (tgt := 35) dX10_gives_10 rfl (fun c => ?_) (fun c => ?_)
  · replace h := h.1 c
    exact h
  · replace h := h.2 c
    refine st_iload_n (pc := 13) dX10_gives_13 rfl rfl ?_
    refine sg_sipush (pc := 14) dX10_gives_14 (by omega) (by decide) ?_
    refine sg_sipush (pc := 17) dX10_gives_17 (by omega) (by decide) ?_
    obtain ⟨mc2, ms2, K2, hC, e1, e2, h⟩ := h
    refine sg_SI (pc := 20) (av := [vi a2, vi (-500), vi 500]) (st := []) (K := K2) dX10_gives_20 ck_10_151 rfl (by show (0 : Nat) ≤ 8; decide) hC e1 e2 (fun x2 m3 hK => ?_) rfl
    replace h := h x2 m3 hK
    refine st_ifeq (pc := 23) (tgt := 35) dX10_gives_23 rfl (fun c => ?_) (fun c => ?_)
    · replace h := h.1 c
      exact h
    · replace h := h.2 c
      refine st_aload_n (pc := 26) dX10_gives_26 rfl rfl ?_
      refine st_iload_n (pc := 27) dX10_gives_27 rfl rfl ?_
      refine st_iload_n (pc := 28) dX10_gives_28 rfl rfl ?_
      obtain ⟨hk2, h⟩ := h
      obtain ⟨mc3, ms3, K3, hC, e1, e2, h⟩ := h
      refine sg_VI (pc := 29) (av := [vi a1, vi a2]) (st := []) (K := K3) dX10_gives_29 ck_10_287 rfl (by decide) hk2 (by show (0 : Nat) ≤ 8; decide) hC e1 e2 (fun x3 m4 hK => ?_) rfl
      replace h := h x3 m4 hK
      refine st_goto (pc := 32) dX10_gives_32 rfl ?_
      exact st_ireturn (pc := 39) dX10_gives_39 (Or.inl rfl) h

theorem sg_X10_gives_35 {d bc bs : Nat} {a0 : Nat} {a1 : Int} {a2 : Int} {μ : Mem} {Q : Option (Option AV) → Mem → Prop}
    (h : mK μ a0 = 11 ∧ ∃ (mc1 ms1 : Nat) (K1 : Int → Mem → Prop), Cl d mc1 ms1 mX10_lost [vr a0] μ (KI K1) ∧ mc1 ≤ bc ∧ ms1 ≤ bs ∧ (∀ x1 m1, K1 x1 m1 → Q (some (some (vi x1))) m1)) :
    Wp (d + 1) bc bs mX10_gives 35 [some (vr a0), some (vi a1), some (vi a2)] [] μ Q := by
  refine st_aload_n (pc := 35) dX10_gives_35 rfl rfl ?_
  obtain ⟨hk1, h⟩ := h
  obtain ⟨mc1, ms1, K1, hC, e1, e2, h⟩ := h
  refine sg_VI (pc := 36) (av := []) (st := []) (K := K1) dX10_gives_36 ck_10_188 rfl (by decide) hk1 (by show (0 : Nat) ≤ 8; decide) hC e1 e2 (fun x1 m1 hK => ?_) rfl
  replace h := h x1 m1 hK
  exact st_ireturn (pc := 39) dX10_gives_39 (Or.inl rfl) h

theorem sg_X10_draw_0 {d bc bs : Nat} {a0 : Nat} {a1 : Int} {μ : Mem} {Q : Option (Option AV) → Mem → Prop}
    (h : mK μ a0 = 11 ∧ ((∀ m1, m1 = sD μ a0 10 (w32 ((w32 ((mD μ a0 10) * 1103515245)) + 12345)) → a1 ≠ 0 ∧ (Q (some (some (vi ((bUshr (mD m1 a0 10) 16).tmod a1)))) m1)))) :
    Wp d bc bs mX10_draw 0 [some (vr a0), some (vi a1)] [] μ Q := by
  refine st_aload_n (pc := 0) dX10_draw_0 rfl rfl ?_
  refine st_aload_n (pc := 1) dX10_draw_1 rfl rfl ?_
  obtain ⟨hk1, h⟩ := h
  refine sg_gfI (pc := 2) (J := 10) dX10_draw_2 fl_10_38 (by decide) rfl hk1 ?_
  refine st_ldcw (pc := 5) (n := 1103515245) dX10_draw_5 cn_10_290 (by unfold r32; omega) ?_
  refine st_imul (pc := 8) dX10_draw_8 ?_
  refine sg_sipush (pc := 9) dX10_draw_9 (by omega) (by decide) ?_
  refine st_iadd (pc := 12) dX10_draw_12 ?_
  refine sg_pfI (pc := 13) (J := 10) dX10_draw_13 fl_10_38 rfl (Or.inl rfl) hk1 ?_
  refine Wp.nameM (fun m1 em1 => ?_)
  replace h := h m1 em1
  refine st_aload_n (pc := 16) dX10_draw_16 rfl rfl ?_
  refine sg_gfI (pc := 17) (J := 10) dX10_draw_17 fl_10_38 (by decide) rfl (by cases em1; exact hk1) ?_
  refine sg_bipush (pc := 20) dX10_draw_20 (by omega) (by decide) ?_
  refine st_iushr (pc := 22) dX10_draw_22 ?_
  refine st_iload_n (pc := 23) dX10_draw_23 rfl rfl ?_
  obtain ⟨h0, h⟩ := h
  refine st_irem (pc := 24) dX10_draw_24 h0 ?_
  exact st_ireturn (pc := 25) dX10_draw_25 (Or.inl rfl) h

theorem sg_X10_watch_0 {d bc bs : Nat} {a0 : Nat} {μ : Mem} {Q : Option (Option AV) → Mem → Prop}
    (h : mK μ a0 = 11 ∧ (∀ m1, m1 = sD μ a0 40 (-1) → (∀ m2, m2 = sD m1 a0 41 (-1) → (∀ m3, m3 = sD m2 a0 42 0 → (∀ m4, m4 = sD m3 a0 44 0 → Q (some none) m4))))) :
    Wp d bc bs mX10_watch 0 [some (vr a0)] [] μ Q := by
  refine st_aload_n (pc := 0) dX10_watch_0 rfl rfl ?_
  refine sg_iconst (pc := 1) dX10_watch_1 (by omega) ?_
  obtain ⟨hk1, h⟩ := h
  refine sg_pfI (pc := 2) (J := 40) dX10_watch_2 fl_10_291 rfl (Or.inl rfl) hk1 ?_
  refine Wp.nameM (fun m1 em1 => ?_)
  replace h := h m1 em1
  refine st_aload_n (pc := 5) dX10_watch_5 rfl rfl ?_
  refine sg_iconst (pc := 6) dX10_watch_6 (by omega) ?_
  refine sg_pfI (pc := 7) (J := 41) dX10_watch_7 fl_10_294 rfl (Or.inl rfl) (by cases em1; exact hk1) ?_
  refine Wp.nameM (fun m2 em2 => ?_)
  replace h := h m2 em2
  refine st_aload_n (pc := 10) dX10_watch_10 rfl rfl ?_
  refine sg_iconst (pc := 11) dX10_watch_11 (by omega) ?_
  refine sg_pfI (pc := 12) (J := 42) dX10_watch_12 fl_10_297 rfl (Or.inl rfl) (by cases em2; cases em1; exact hk1) ?_
  refine Wp.nameM (fun m3 em3 => ?_)
  replace h := h m3 em3
  refine st_aload_n (pc := 15) dX10_watch_15 rfl rfl ?_
  refine sg_iconst (pc := 16) dX10_watch_16 (by omega) ?_
  refine sg_pfI (pc := 17) (J := 44) dX10_watch_17 fl_10_300 rfl (Or.inl rfl) (by cases em3; cases em2; cases em1; exact hk1) ?_
  refine Wp.nameM (fun m4 em4 => ?_)
  replace h := h m4 em4
  exact st_return (pc := 20) dX10_watch_20 rfl h

theorem sg_X10_passWatched_0 {d bc bs : Nat} {a0 : Nat} {a1 : Int} {a2 : Int} {a3 : Int} {μ : Mem} {Q : Option (Option AV) → Mem → Prop}
    (h : mK μ a0 = 11 ∧ ∃ (mc1 ms1 : Nat) (K1 : Int → Mem → Prop), Cl d mc1 ms1 mX10_pass [vr a0, vi a1, vi a2] μ (KI K1) ∧ mc1 ≤ bc ∧ ms1 ≤ bs ∧ (∀ x1 m1, K1 x1 m1 → (x1 ≤ 0 → Wp (d + 1) (bc - mc1) (bs - ms1) mX10_passWatched 73 [some (vr a0), some (vi a1), some (vi a2), some (vi a3), some (vi x1), some (vi 0)] [] m1 Q) ∧ (¬ x1 ≤ 0 → mK m1 a0 = 11 ∧ ((¬ (mD m1 a0 40) = (-1) → Wp (d + 1) (bc - mc1) (bs - ms1) mX10_passWatched 36 [some (vr a0), some (vi a1), some (vi a2), some (vi a3), some (vi x1), none] [] m1 Q) ∧ ((mD m1 a0 40) = (-1) → (∀ m2, m2 = sD m1 a0 40 (w32 ((mD m1 a0 5) - 1)) → (∀ m3, m3 = sD m2 a0 41 a3 → Wp (d + 1) (bc - mc1) (bs - ms1) mX10_passWatched 36 [some (vr a0), some (vi a1), some (vi a2), some (vi a3), some (vi x1), none] [] m3 Q))))))) :
    Wp (d + 1) bc bs mX10_passWatched 0 [some (vr a0), some (vi a1), some (vi a2), some (vi a3), none, none] [] μ Q := by
  refine st_aload_n (pc := 0) dX10_passWatched_0 rfl rfl ?_
  refine st_iload_n (pc := 1) dX10_passWatched_1 rfl rfl ?_
  refine st_iload_n (pc := 2) dX10_passWatched_2 rfl rfl ?_
  obtain ⟨hk1, h⟩ := h
  obtain ⟨mc1, ms1, K1, hC, e1, e2, h⟩ := h
  refine sg_VI (pc := 3) (av := [vi a1, vi a2]) (st := []) (K := K1) dX10_passWatched_3 ck_10_185 rfl (by decide) hk1 (by show (0 : Nat) ≤ 8; decide) hC e1 e2 (fun x1 m1 hK => ?_) rfl
  replace h := h x1 m1 hK
  refine sg_istore (pc := 6) (ls' := [some (vr a0), some (vi a1), some (vi a2), some (vi a3), some (vi x1), none]) dX10_passWatched_6 (by show (4 : Nat) < 6; decide) rfl ?_
  refine st_iload (pc := 8) dX10_passWatched_8 rfl ?_
  refine st_ifle (pc := 10) (tgt := 70) dX10_passWatched_10 rfl (fun c => ?_) (fun c => ?_)
  · replace h := h.1 c
    refine sg_iconst (pc := 70) dX10_passWatched_70 (by omega) ?_
    refine sg_istore (pc := 71) (ls' := [some (vr a0), some (vi a1), some (vi a2), some (vi a3), some (vi x1), some (vi 0)]) dX10_passWatched_71 (by show (5 : Nat) < 6; decide) rfl ?_
    exact h
  · replace h := h.2 c
    refine st_aload_n (pc := 13) dX10_passWatched_13 rfl rfl ?_
    obtain ⟨hk2, h⟩ := h
    refine sg_gfI (pc := 14) (J := 40) dX10_passWatched_14 fl_10_291 (by decide) rfl hk2 ?_
    refine sg_iconst (pc := 17) dX10_passWatched_17 (by omega) ?_
    refine st_icmpne (pc := 18) (tgt := 36) dX10_passWatched_18 rfl (fun c => ?_) (fun c => ?_)
    · replace h := h.1 c
      exact h
    · replace h := h.2 c
      refine st_aload_n (pc := 21) dX10_passWatched_21 rfl rfl ?_
      refine st_aload_n (pc := 22) dX10_passWatched_22 rfl rfl ?_
      refine sg_gfI (pc := 23) (J := 5) dX10_passWatched_23 fl_10_148 (by decide) rfl hk2 ?_
      refine sg_iconst (pc := 26) dX10_passWatched_26 (by omega) ?_
      refine st_isub (pc := 27) dX10_passWatched_27 ?_
      refine sg_pfI (pc := 28) (J := 40) dX10_passWatched_28 fl_10_291 rfl (Or.inl rfl) hk2 ?_
      refine Wp.nameM (fun m2 em2 => ?_)
      replace h := h m2 em2
      refine st_aload_n (pc := 31) dX10_passWatched_31 rfl rfl ?_
      refine st_iload_n (pc := 32) dX10_passWatched_32 rfl rfl ?_
      refine sg_pfI (pc := 33) (J := 41) dX10_passWatched_33 fl_10_294 rfl (Or.inl rfl) (by cases em2; exact hk2) ?_
      refine Wp.nameM (fun m3 em3 => ?_)
      replace h := h m3 em3
      exact h

theorem sg_X10_passWatched_36 {d bc bs : Nat} {a0 : Nat} {a1 : Int} {a2 : Int} {a3 : Int} {a4 : Int} {μ : Mem} {Q : Option (Option AV) → Mem → Prop}
    (h : mK μ a0 = 11 ∧ (((20 ≤ mK μ (mR μ a0 43) ∧ mK μ (mR μ a0 43) ≤ 28) ∨ ((mR μ a0 43) ≠ 0 ∧ mK μ (mR μ a0 43) = 40)) ∧ (((mN μ (mR μ a0 43) : Int) ≤ (mD μ a0 44) → Wp (d + 1) bc bs mX10_passWatched 73 [some (vr a0), some (vi a1), some (vi a2), some (vi a3), some (vi a4), some (vi 0)] [] μ Q) ∧ (¬ (mN μ (mR μ a0 43) : Int) ≤ (mD μ a0 44) → (∀ m1, m1 = sD μ a0 44 (w32 ((mD μ a0 44) + 1)) → mK m1 (mR μ a0 43) = 20 ∧ ((0 : Int) ≤ (mD μ a0 44) ∧ (mD μ a0 44) < (mN m1 (mR μ a0 43) : Int)) ∧ (∀ m2, m2 = sD m1 (mR μ a0 43) (mD μ a0 44) (w32 ((mD m1 a0 5) - 1)) → Wp (d + 1) bc bs mX10_passWatched 73 [some (vr a0), some (vi a1), some (vi a2), some (vi a3), some (vi a4), some (vi 0)] [] m2 Q)))))) :
    Wp (d + 1) bc bs mX10_passWatched 36 [some (vr a0), some (vi a1), some (vi a2), some (vi a3), some (vi a4), none] [] μ Q := by
  refine st_aload_n (pc := 36) dX10_passWatched_36 rfl rfl ?_
  obtain ⟨hk1, h⟩ := h
  refine sg_gfI (pc := 37) (J := 44) dX10_passWatched_37 fl_10_300 (by decide) rfl hk1 ?_
  refine st_aload_n (pc := 40) dX10_passWatched_40 rfl rfl ?_
  refine sg_gfR (pc := 41) (J := 43) dX10_passWatched_41 fl_10_87 rfl hk1 ?_
  obtain ⟨hk2, h⟩ := h
  refine sg_alen (pc := 44) dX10_passWatched_44 hk2 ?_
  refine st_icmpge (pc := 45) (tgt := 70) dX10_passWatched_45 rfl (fun c => ?_) (fun c => ?_)
  · replace h := h.1 c
    refine sg_iconst (pc := 70) dX10_passWatched_70 (by omega) ?_
    refine sg_istore (pc := 71) (ls' := [some (vr a0), some (vi a1), some (vi a2), some (vi a3), some (vi a4), some (vi 0)]) dX10_passWatched_71 (by show (5 : Nat) < 6; decide) rfl ?_
    exact h
  · replace h := h.2 c
    refine st_aload_n (pc := 48) dX10_passWatched_48 rfl rfl ?_
    refine sg_gfR (pc := 49) (J := 43) dX10_passWatched_49 fl_10_87 rfl hk1 ?_
    refine st_aload_n (pc := 52) dX10_passWatched_52 rfl rfl ?_
    refine st_dup (pc := 53) dX10_passWatched_53 rfl ?_
    refine sg_gfI (pc := 54) (J := 44) dX10_passWatched_54 fl_10_300 (by decide) rfl hk1 ?_
    refine st_dup_x1 (pc := 57) dX10_passWatched_57 rfl rfl ?_
    refine sg_iconst (pc := 58) dX10_passWatched_58 (by omega) ?_
    refine st_iadd (pc := 59) dX10_passWatched_59 ?_
    refine sg_pfI (pc := 60) (J := 44) dX10_passWatched_60 fl_10_300 rfl (Or.inl rfl) hk1 ?_
    refine Wp.nameM (fun m1 em1 => ?_)
    replace h := h m1 em1
    refine st_aload_n (pc := 63) dX10_passWatched_63 rfl rfl ?_
    refine sg_gfI (pc := 64) (J := 5) dX10_passWatched_64 fl_10_148 (by decide) rfl (by cases em1; exact hk1) ?_
    refine sg_iconst (pc := 67) dX10_passWatched_67 (by omega) ?_
    refine st_isub (pc := 68) dX10_passWatched_68 ?_
    obtain ⟨hk3, h⟩ := h
    obtain ⟨h1, h⟩ := h
    refine st_iastore (pc := 69) dX10_passWatched_69 hk3 h1.1 h1.2 ?_
    refine Wp.nameM (fun m2 em2 => ?_)
    replace h := h m2 em2
    refine sg_iconst (pc := 70) dX10_passWatched_70 (by omega) ?_
    refine sg_istore (pc := 71) (ls' := [some (vr a0), some (vi a1), some (vi a2), some (vi a3), some (vi a4), some (vi 0)]) dX10_passWatched_71 (by show (5 : Nat) < 6; decide) rfl ?_
    exact h

theorem sg_X10_passWatched_73 {d bc bs : Nat} {a0 : Nat} {a1 : Int} {a2 : Int} {a3 : Int} {a4 : Int} {a5 : Int} {μ : Mem} {Q : Option (Option AV) → Mem → Prop}
    (h : (2 ≤ a5 → Q (some (some (vi a4))) μ) ∧ (¬ 2 ≤ a5 → mK μ a0 = 11 ∧ ((mK μ (mR μ a0 6) = 20 ∨ ((mR μ a0 6) ≠ 0 ∧ mK μ (mR μ a0 6) = 40)) ∧ ((0 : Int) ≤ (w32 (20 * a5)) ∧ (w32 (20 * a5)) < (mN μ (mR μ a0 6) : Int)) ∧ (((0 : Int) ≤ (w32 ((w32 ((w32 (20 * a5)) + (mD μ a0 0))) - 1)) ∧ (w32 ((w32 ((w32 (20 * a5)) + (mD μ a0 0))) - 1)) < (mN μ (mR μ a0 6) : Int)) ∧ (∃ (mc1 ms1 : Nat) (K1 : Int → Mem → Prop), Cl d mc1 ms1 mJ9_max_7cf53 [vi (mD μ (mR μ a0 6) (w32 (20 * a5))), vi (mD μ (mR μ a0 6) (w32 ((w32 ((w32 (20 * a5)) + (mD μ a0 0))) - 1)))] μ (KI K1) ∧ mc1 ≤ bc ∧ ms1 ≤ bs ∧ (∀ x1 m1, K1 x1 m1 → ∃ (mc2 ms2 : Nat) (K2 : Int → Mem → Prop), Cl d mc2 ms2 mJ9_max_7cf53 [vi (mD μ a0 42), vi x1] m1 (KI K2) ∧ mc2 ≤ bc - mc1 ∧ ms2 ≤ bs - ms1 ∧ (∀ x2 m2, K2 x2 m2 → mK m2 a0 = 11 ∧ (∀ m3, m3 = sD m2 a0 42 x2 → ∀ v1, v1 = w32 (a5 + 1) → Wp (d + 1) (bc - mc1 - mc2) (bs - ms1 - ms2) mX10_passWatched 73 [some (vr a0), some (vi a1), some (vi a2), some (vi a3), some (vi a4), some (vi v1)] [] m3 Q)))))))) :
    Wp (d + 1) bc bs mX10_passWatched 73 [some (vr a0), some (vi a1), some (vi a2), some (vi a3), some (vi a4), some (vi a5)] [] μ Q := by
  refine st_iload (pc := 73) dX10_passWatched_73 rfl ?_
  refine sg_iconst (pc := 75) dX10_passWatched_75 (by omega) ?_
  refine st_icmpge (pc := 76) (tgt := 126) dX10_passWatched_76 rfl (fun c => ?_) (fun c => ?_)
  · replace h := h.1 c
    refine st_iload (pc := 126) dX10_passWatched_126 rfl ?_
    exact st_ireturn (pc := 128) dX10_passWatched_128 (Or.inl rfl) h
  · replace h := h.2 c
    refine st_aload_n (pc := 79) dX10_passWatched_79 rfl rfl ?_
    refine st_aload_n (pc := 80) dX10_passWatched_80 rfl rfl ?_
    obtain ⟨hk1, h⟩ := h
    refine sg_gfI (pc := 81) (J := 42) dX10_passWatched_81 fl_10_297 (by decide) rfl hk1 ?_
    refine st_aload_n (pc := 84) dX10_passWatched_84 rfl rfl ?_
    refine sg_gfR (pc := 85) (J := 6) dX10_passWatched_85 fl_10_26 rfl hk1 ?_
    refine sg_bipush (pc := 88) dX10_passWatched_88 (by omega) (by decide) ?_
    refine st_iload (pc := 90) dX10_passWatched_90 rfl ?_
    refine st_imul (pc := 92) dX10_passWatched_92 ?_
    obtain ⟨hk2, h⟩ := h
    obtain ⟨h1, h⟩ := h
    refine sg_iaload (pc := 93) dX10_passWatched_93 hk2 h1 ?_
    refine st_aload_n (pc := 94) dX10_passWatched_94 rfl rfl ?_
    refine sg_gfR (pc := 95) (J := 6) dX10_passWatched_95 fl_10_26 rfl hk1 ?_
    refine sg_bipush (pc := 98) dX10_passWatched_98 (by omega) (by decide) ?_
    refine st_iload (pc := 100) dX10_passWatched_100 rfl ?_
    refine st_imul (pc := 102) dX10_passWatched_102 ?_
    refine st_aload_n (pc := 103) dX10_passWatched_103 rfl rfl ?_
    refine sg_gfI (pc := 104) (J := 0) dX10_passWatched_104 fl_10_9 (by decide) rfl hk1 ?_
    refine st_iadd (pc := 107) dX10_passWatched_107 ?_
    refine sg_iconst (pc := 108) dX10_passWatched_108 (by omega) ?_
    refine st_isub (pc := 109) dX10_passWatched_109 ?_
    obtain ⟨h1, h⟩ := h
    refine sg_iaload (pc := 110) dX10_passWatched_110 hk2 h1 ?_
    obtain ⟨mc1, ms1, K1, hC, e1, e2, h⟩ := h
    refine sg_SI (pc := 111) (av := [vi (mD μ (mR μ a0 6) (w32 (20 * a5))), vi (mD μ (mR μ a0 6) (w32 ((w32 ((w32 (20 * a5)) + (mD μ a0 0))) - 1)))]) (st := [vi (mD μ a0 42), vr a0]) (K := K1) dX10_passWatched_111 ck_10_168 rfl (by show (2 : Nat) ≤ 8; decide) hC e1 e2 (fun x1 m1 hK => ?_) rfl
    replace h := h x1 m1 hK
    obtain ⟨mc2, ms2, K2, hC, e1, e2, h⟩ := h
    refine sg_SI (pc := 114) (av := [vi (mD μ a0 42), vi x1]) (st := [vr a0]) (K := K2) dX10_passWatched_114 ck_10_168 rfl (by show (1 : Nat) ≤ 8; decide) hC e1 e2 (fun x2 m2 hK => ?_) rfl
    replace h := h x2 m2 hK
    obtain ⟨hk3, h⟩ := h
    refine sg_pfI (pc := 117) (J := 42) dX10_passWatched_117 fl_10_297 rfl (Or.inl rfl) hk3 ?_
    refine Wp.nameM (fun m3 em3 => ?_)
    replace h := h m3 em3
    refine sg_iinc (pc := 120) (ls' := [some (vr a0), some (vi a1), some (vi a2), some (vi a3), some (vi a4), some (vi (w32 (a5 + 1)))]) dX10_passWatched_120 rfl rfl ?_
    refine Wp.nameL (ls2 := fun v => [some (vr a0), some (vi a1), some (vi a2), some (vi a3), some (vi a4), some (vi v)]) 5 _ rfl (fun _ => rfl) (fun v1 ev1 => ?_)
    replace h := h v1 ev1
    refine st_goto (pc := 123) dX10_passWatched_123 rfl ?_
    exact h

theorem sg_X10_goOn_0 {d bc bs : Nat} {a0 : Nat} {a1 : Int} {a2 : Int} {a3 : Int} {a4 : Int} {μ : Mem} {Q : Option (Option AV) → Mem → Prop}
    (h : Wp (d + 1) bc bs mX10_goOn 6 [some (vr a0), some (vi a1), some (vi a2), some (vi a3), some (vi a4), some (vi 0), some (vi a2), none, none, none] [] μ Q) :
    Wp (d + 1) bc bs mX10_goOn 0 [some (vr a0), some (vi a1), some (vi a2), some (vi a3), some (vi a4), none, none, none, none, none] [] μ Q := by
  refine sg_iconst (pc := 0) dX10_goOn_0 (by omega) ?_
  refine sg_istore (pc := 1) (ls' := [some (vr a0), some (vi a1), some (vi a2), some (vi a3), some (vi a4), some (vi 0), none, none, none, none]) dX10_goOn_1 (by show (5 : Nat) < 10; decide) rfl ?_
  refine st_iload_n (pc := 3) dX10_goOn_3 rfl rfl ?_
  refine sg_istore (pc := 4) (ls' := [some (vr a0), some (vi a1), some (vi a2), some (vi a3), some (vi a4), some (vi 0), some (vi a2), none, none, none]) dX10_goOn_4 (by show (6 : Nat) < 10; decide) rfl ?_
  exact h

theorem sg_X10_goOn_6 {d bc bs : Nat} {a0 : Nat} {a1 : Int} {a2 : Int} {a3 : Int} {a4 : Int} {a5 : Int} {a6 : Int} {μ : Mem} {Q : Option (Option AV) → Mem → Prop}
    (h : (a3 ≤ a6 → Q (some (some (vi a5))) μ) ∧ (¬ a3 ≤ a6 → mK μ a0 = 11 ∧ ((mK μ (mR μ a0 22) = 20 ∨ ((mR μ a0 22) ≠ 0 ∧ mK μ (mR μ a0 22) = 40)) ∧ ((0 : Int) ≤ a1 ∧ a1 < (mN μ (mR μ a0 22) : Int)) ∧ (((mD μ (mR μ a0 22) a1) ≤ a6 → Q (some (some (vi a5))) μ) ∧ (¬ (mD μ (mR μ a0 22) a1) ≤ a6 → ∀ v1, v1 = w32 ((w32 (1000 * a1)) + a6) → (mK μ (mR μ a0 24) = 20 ∨ ((mR μ a0 24) ≠ 0 ∧ mK μ (mR μ a0 24) = 40)) ∧ ((0 : Int) ≤ v1 ∧ v1 < (mN μ (mR μ a0 24) : Int)) ∧ ((mK μ (mR μ a0 26) = 20 ∨ ((mR μ a0 26) ≠ 0 ∧ mK μ (mR μ a0 26) = 40)) ∧ ((0 : Int) ≤ v1 ∧ v1 < (mN μ (mR μ a0 26) : Int)) ∧ (((mD μ (mR μ a0 26) v1) ≤ 0 → ∀ v2, v2 = w32 ((mD μ (mR μ a0 24) v1) + 0) → (mK μ (mR μ a0 3) = 20 ∨ ((mR μ a0 3) ≠ 0 ∧ mK μ (mR μ a0 3) = 40)) ∧ ((0 : Int) ≤ 6 ∧ 6 < (mN μ (mR μ a0 3) : Int)) ∧ (∃ (mc1 ms1 : Nat) (K1 : Int → Mem → Prop), Cl d mc1 ms1 mX10_byHand [vr a0, vi (mD μ (mR μ a0 3) 6), vi v2] μ (KI K1) ∧ mc1 ≤ bc ∧ ms1 ≤ bs ∧ (∀ x1 m1, K1 x1 m1 → (a6 < a4 → mK m1 a0 = 11 ∧ ((mK m1 (mR m1 a0 25) = 20 ∨ ((mR m1 a0 25) ≠ 0 ∧ mK m1 (mR m1 a0 25) = 40)) ∧ ((0 : Int) ≤ v1 ∧ v1 < (mN m1 (mR m1 a0 25) : Int)) ∧ ((mK m1 (mR m1 a0 27) = 20 ∨ ((mR m1 a0 27) ≠ 0 ∧ mK m1 (mR m1 a0 27) = 40)) ∧ ((0 : Int) ≤ v1 ∧ v1 < (mN m1 (mR m1 a0 27) : Int)) ∧ (∃ (mc2 ms2 : Nat) (K2 : Int → Mem → Prop), Cl d mc2 ms2 mX10_passWatched [vr a0, vi x1, vi (mD m1 (mR m1 a0 25) v1), vi (mD m1 (mR m1 a0 27) v1)] m1 (KI K2) ∧ mc2 ≤ bc - mc1 ∧ ms2 ≤ bs - ms1 ∧ (∀ x2 m2, K2 x2 m2 → ∀ v3, v3 = w32 (a5 + x2) → ∀ v4, v4 = w32 (a6 + 1) → Wp (d + 1) (bc - mc1 - mc2) (bs - ms1 - ms2) mX10_goOn 6 [some (vr a0), some (vi a1), some (vi a2), some (vi a3), some (vi a4), some (vi v3), some (vi v4), none, none, none] [] m2 Q))))) ∧ (¬ a6 < a4 → mK m1 a0 = 11 ∧ ((mK m1 (mR m1 a0 25) = 20 ∨ ((mR m1 a0 25) ≠ 0 ∧ mK m1 (mR m1 a0 25) = 40)) ∧ ((0 : Int) ≤ v1 ∧ v1 < (mN m1 (mR m1 a0 25) : Int)) ∧ ((mK m1 (mR m1 a0 27) = 20 ∨ ((mR m1 a0 27) ≠ 0 ∧ mK m1 (mR m1 a0 27) = 40)) ∧ ((0 : Int) ≤ v1 ∧ v1 < (mN m1 (mR m1 a0 27) : Int)) ∧ (∃ (mc3 ms3 : Nat) (K3 : Int → Mem → Prop), Cl d mc3 ms3 mX10_passWatched [vr a0, vi (mD m1 (mR m1 a0 25) v1), vi x1, vi (mD m1 (mR m1 a0 27) v1)] m1 (KI K3) ∧ mc3 ≤ bc - mc1 ∧ ms3 ≤ bs - ms1 ∧ (∀ x3 m3, K3 x3 m3 → ∀ v5, v5 = w32 (a5 + x3) → ∀ v6, v6 = w32 (a6 + 1) → Wp (d + 1) (bc - mc1 - mc3) (bs - ms1 - ms3) mX10_goOn 6 [some (vr a0), some (vi a1), some (vi a2), some (vi a3), some (vi a4), some (vi v5), some (vi v6), none, none, none] [] m3 Q)))))))) ∧ (¬ (mD μ (mR μ a0 26) v1) ≤ 0 → ((0 : Int) ≤ v1 ∧ v1 < (mN μ (mR μ a0 26) : Int)) ∧ (∃ (mc4 ms4 : Nat) (K4 : Int → Mem → Prop), Cl d mc4 ms4 mX10_draw [vr a0, vi (w32 ((w32 (2 * (mD μ (mR μ a0 26) v1))) + 1))] μ (KI K4) ∧ mc4 ≤ bc ∧ ms4 ≤ bs ∧ (∀ x4 m4, K4 x4 m4 → mK m4 a0 = 11 ∧ ((mK m4 (mR m4 a0 26) = 20 ∨ ((mR m4 a0 26) ≠ 0 ∧ mK m4 (mR m4 a0 26) = 40)) ∧ ((0 : Int) ≤ v1 ∧ v1 < (mN m4 (mR m4 a0 26) : Int)) ∧ (∀ v7, v7 = w32 ((mD μ (mR μ a0 24) v1) + (w32 (x4 - (mD m4 (mR m4 a0 26) v1)))) → (mK m4 (mR m4 a0 3) = 20 ∨ ((mR m4 a0 3) ≠ 0 ∧ mK m4 (mR m4 a0 3) = 40)) ∧ ((0 : Int) ≤ 6 ∧ 6 < (mN m4 (mR m4 a0 3) : Int)) ∧ (∃ (mc5 ms5 : Nat) (K5 : Int → Mem → Prop), Cl d mc5 ms5 mX10_byHand [vr a0, vi (mD m4 (mR m4 a0 3) 6), vi v7] m4 (KI K5) ∧ mc5 ≤ bc - mc4 ∧ ms5 ≤ bs - ms4 ∧ (∀ x5 m5, K5 x5 m5 → (a6 < a4 → mK m5 a0 = 11 ∧ ((mK m5 (mR m5 a0 25) = 20 ∨ ((mR m5 a0 25) ≠ 0 ∧ mK m5 (mR m5 a0 25) = 40)) ∧ ((0 : Int) ≤ v1 ∧ v1 < (mN m5 (mR m5 a0 25) : Int)) ∧ ((mK m5 (mR m5 a0 27) = 20 ∨ ((mR m5 a0 27) ≠ 0 ∧ mK m5 (mR m5 a0 27) = 40)) ∧ ((0 : Int) ≤ v1 ∧ v1 < (mN m5 (mR m5 a0 27) : Int)) ∧ (∃ (mc6 ms6 : Nat) (K6 : Int → Mem → Prop), Cl d mc6 ms6 mX10_passWatched [vr a0, vi x5, vi (mD m5 (mR m5 a0 25) v1), vi (mD m5 (mR m5 a0 27) v1)] m5 (KI K6) ∧ mc6 ≤ bc - mc4 - mc5 ∧ ms6 ≤ bs - ms4 - ms5 ∧ (∀ x6 m6, K6 x6 m6 → ∀ v8, v8 = w32 (a5 + x6) → ∀ v9, v9 = w32 (a6 + 1) → Wp (d + 1) (bc - mc4 - mc5 - mc6) (bs - ms4 - ms5 - ms6) mX10_goOn 6 [some (vr a0), some (vi a1), some (vi a2), some (vi a3), some (vi a4), some (vi v8), some (vi v9), none, none, none] [] m6 Q))))) ∧ (¬ a6 < a4 → mK m5 a0 = 11 ∧ ((mK m5 (mR m5 a0 25) = 20 ∨ ((mR m5 a0 25) ≠ 0 ∧ mK m5 (mR m5 a0 25) = 40)) ∧ ((0 : Int) ≤ v1 ∧ v1 < (mN m5 (mR m5 a0 25) : Int)) ∧ ((mK m5 (mR m5 a0 27) = 20 ∨ ((mR m5 a0 27) ≠ 0 ∧ mK m5 (mR m5 a0 27) = 40)) ∧ ((0 : Int) ≤ v1 ∧ v1 < (mN m5 (mR m5 a0 27) : Int)) ∧ (∃ (mc7 ms7 : Nat) (K7 : Int → Mem → Prop), Cl d mc7 ms7 mX10_passWatched [vr a0, vi (mD m5 (mR m5 a0 25) v1), vi x5, vi (mD m5 (mR m5 a0 27) v1)] m5 (KI K7) ∧ mc7 ≤ bc - mc4 - mc5 ∧ ms7 ≤ bs - ms4 - ms5 ∧ (∀ x7 m7, K7 x7 m7 → ∀ v10, v10 = w32 (a5 + x7) → ∀ v11, v11 = w32 (a6 + 1) → Wp (d + 1) (bc - mc4 - mc5 - mc7) (bs - ms4 - ms5 - ms7) mX10_goOn 6 [some (vr a0), some (vi a1), some (vi a2), some (vi a3), some (vi a4), some (vi v10), some (vi v11), none, none, none] [] m7 Q))))))))))))))))))) :
    Wp (d + 1) bc bs mX10_goOn 6 [some (vr a0), some (vi a1), some (vi a2), some (vi a3), some (vi a4), some (vi a5), some (vi a6), none, none, none] [] μ Q := by
  refine st_iload (pc := 6) dX10_goOn_6 rfl ?_
  refine st_iload_n (pc := 8) dX10_goOn_8 rfl rfl ?_
  refine st_icmpge (pc := 9) (tgt := 156) dX10_goOn_9 rfl (fun c => ?_) (fun c => ?_)
  · replace h := h.1 c
    refine st_iload (pc := 156) dX10_goOn_156 rfl ?_
    exact st_ireturn (pc := 158) dX10_goOn_158 (Or.inl rfl) h
  · replace h := h.2 c
    refine st_iload (pc := 12) dX10_goOn_12 rfl ?_
    refine st_aload_n (pc := 14) dX10_goOn_14 rfl rfl ?_
    obtain ⟨hk1, h⟩ := h
    refine sg_gfR (pc := 15) (J := 22) dX10_goOn_15 fl_10_49 rfl hk1 ?_
    refine st_iload_n (pc := 18) dX10_goOn_18 rfl rfl ?_
    obtain ⟨hk2, h⟩ := h
    obtain ⟨h1, h⟩ := h
    refine sg_iaload (pc := 19) dX10_goOn_19 hk2 h1 ?_
    refine st_icmpge (pc := 20) (tgt := 156) dX10_goOn_20 rfl (fun c => ?_) (fun c => ?_)
    · replace h := h.1 c
      refine st_iload (pc := 156) dX10_goOn_156 rfl ?_
      exact st_ireturn (pc := 158) dX10_goOn_158 (Or.inl rfl) h
    · replace h := h.2 c
      refine sg_sipush (pc := 23) dX10_goOn_23 (by omega) (by decide) ?_
      refine st_iload_n (pc := 26) dX10_goOn_26 rfl rfl ?_
      refine st_imul (pc := 27) dX10_goOn_27 ?_
      refine st_iload (pc := 28) dX10_goOn_28 rfl ?_
      refine st_iadd (pc := 30) dX10_goOn_30 ?_
      refine sg_istore (pc := 31) (ls' := [some (vr a0), some (vi a1), some (vi a2), some (vi a3), some (vi a4), some (vi a5), some (vi a6), some (vi (w32 ((w32 (1000 * a1)) + a6))), none, none]) dX10_goOn_31 (by show (7 : Nat) < 10; decide) rfl ?_
      refine Wp.nameL (ls2 := fun v => [some (vr a0), some (vi a1), some (vi a2), some (vi a3), some (vi a4), some (vi a5), some (vi a6), some (vi v), none, none]) 7 _ rfl (fun _ => rfl) (fun v1 ev1 => ?_)
      replace h := h v1 ev1
      refine st_aload_n (pc := 33) dX10_goOn_33 rfl rfl ?_
      refine sg_gfR (pc := 34) (J := 24) dX10_goOn_34 fl_10_55 rfl hk1 ?_
      refine st_iload (pc := 37) dX10_goOn_37 rfl ?_
      obtain ⟨hk3, h⟩ := h
      obtain ⟨h1, h⟩ := h
      refine sg_iaload (pc := 39) dX10_goOn_39 hk3 h1 ?_
      refine st_aload_n (pc := 40) dX10_goOn_40 rfl rfl ?_
      refine sg_gfR (pc := 41) (J := 26) dX10_goOn_41 fl_10_61 rfl hk1 ?_
      refine st_iload (pc := 44) dX10_goOn_44 rfl ?_
      obtain ⟨hk4, h⟩ := h
      obtain ⟨h1, h⟩ := h
      refine sg_iaload (pc := 46) dX10_goOn_46 hk4 h1 ?_
      refine st_ifle (pc := 47) (tgt := 76) dX10_goOn_47 rfl (fun c => ?_) (fun c => ?_)
      · replace h := h.1 c
        refine sg_iconst (pc := 76) dX10_goOn_76 (by omega) ?_
        refine st_iadd (pc := 77) dX10_goOn_77 ?_
        refine sg_istore (pc := 78) (ls' := [some (vr a0), some (vi a1), some (vi a2), some (vi a3), some (vi a4), some (vi a5), some (vi a6), some (vi v1), some (vi (w32 ((mD μ (mR μ a0 24) v1) + 0))), none]) dX10_goOn_78 (by show (8 : Nat) < 10; decide) rfl ?_
        refine Wp.nameL (ls2 := fun v => [some (vr a0), some (vi a1), some (vi a2), some (vi a3), some (vi a4), some (vi a5), some (vi a6), some (vi v1), some (vi v), none]) 8 _ rfl (fun _ => rfl) (fun v2 ev2 => ?_)
        replace h := h v2 ev2
        refine st_aload_n (pc := 80) dX10_goOn_80 rfl rfl ?_
        refine st_aload_n (pc := 81) dX10_goOn_81 rfl rfl ?_
        refine sg_gfR (pc := 82) (J := 3) dX10_goOn_82 fl_10_19 rfl hk1 ?_
        refine sg_bipush (pc := 85) dX10_goOn_85 (by omega) (by decide) ?_
        obtain ⟨hk5, h⟩ := h
        obtain ⟨h1, h⟩ := h
        refine sg_iaload (pc := 87) dX10_goOn_87 hk5 h1 ?_
        refine st_iload (pc := 88) dX10_goOn_88 rfl ?_
        obtain ⟨mc1, ms1, K1, hC, e1, e2, h⟩ := h
        refine sg_VI (pc := 90) (av := [vi (mD μ (mR μ a0 3) 6), vi v2]) (st := []) (K := K1) dX10_goOn_90 ck_10_287 rfl (by decide) hk1 (by show (0 : Nat) ≤ 8; decide) hC e1 e2 (fun x1 m1 hK => ?_) rfl
        replace h := h x1 m1 hK
        refine sg_istore (pc := 93) (ls' := [some (vr a0), some (vi a1), some (vi a2), some (vi a3), some (vi a4), some (vi a5), some (vi a6), some (vi v1), some (vi v2), some (vi x1)]) dX10_goOn_93 (by show (9 : Nat) < 10; decide) rfl ?_
        refine st_iload (pc := 95) dX10_goOn_95 rfl ?_
        refine st_iload (pc := 97) dX10_goOn_97 rfl ?_
        refine st_iload (pc := 99) dX10_goOn_99 rfl ?_
        refine st_icmplt (pc := 101) (tgt := 127) dX10_goOn_101 rfl (fun c => ?_) (fun c => ?_)
        · replace h := h.1 c
          refine st_aload_n (pc := 127) dX10_goOn_127 rfl rfl ?_
          refine st_iload (pc := 128) dX10_goOn_128 rfl ?_
          refine st_aload_n (pc := 130) dX10_goOn_130 rfl rfl ?_
          obtain ⟨hk6, h⟩ := h
          refine sg_gfR (pc := 131) (J := 25) dX10_goOn_131 fl_10_58 rfl hk6 ?_
          refine st_iload (pc := 134) dX10_goOn_134 rfl ?_
          obtain ⟨hk7, h⟩ := h
          obtain ⟨h1, h⟩ := h
          refine sg_iaload (pc := 136) dX10_goOn_136 hk7 h1 ?_
          refine st_aload_n (pc := 137) dX10_goOn_137 rfl rfl ?_
          refine sg_gfR (pc := 138) (J := 27) dX10_goOn_138 fl_10_64 rfl hk6 ?_
          refine st_iload (pc := 141) dX10_goOn_141 rfl ?_
          obtain ⟨hk8, h⟩ := h
          obtain ⟨h1, h⟩ := h
          refine sg_iaload (pc := 143) dX10_goOn_143 hk8 h1 ?_
          obtain ⟨mc2, ms2, K2, hC, e1, e2, h⟩ := h
          refine sg_VI (pc := 144) (av := [vi x1, vi (mD m1 (mR m1 a0 25) v1), vi (mD m1 (mR m1 a0 27) v1)]) (st := [vi a5]) (K := K2) dX10_goOn_144 ck_10_306 rfl (by decide) hk6 (by show (1 : Nat) ≤ 8; decide) hC e1 e2 (fun x2 m2 hK => ?_) rfl
          replace h := h x2 m2 hK
          refine st_iadd (pc := 147) dX10_goOn_147 ?_
          refine sg_istore (pc := 148) (ls' := [some (vr a0), some (vi a1), some (vi a2), some (vi a3), some (vi a4), some (vi (w32 (a5 + x2))), some (vi a6), some (vi v1), some (vi v2), some (vi x1)]) dX10_goOn_148 (by show (5 : Nat) < 10; decide) rfl ?_
          refine Wp.nameL (ls2 := fun v => [some (vr a0), some (vi a1), some (vi a2), some (vi a3), some (vi a4), some (vi v), some (vi a6), some (vi v1), some (vi v2), some (vi x1)]) 5 _ rfl (fun _ => rfl) (fun v3 ev3 => ?_)
          replace h := h v3 ev3
          refine sg_iinc (pc := 150) (ls' := [some (vr a0), some (vi a1), some (vi a2), some (vi a3), some (vi a4), some (vi v3), some (vi (w32 (a6 + 1))), some (vi v1), some (vi v2), some (vi x1)]) dX10_goOn_150 rfl rfl ?_
          refine Wp.nameL (ls2 := fun v => [some (vr a0), some (vi a1), some (vi a2), some (vi a3), some (vi a4), some (vi v3), some (vi v), some (vi v1), some (vi v2), some (vi x1)]) 6 _ rfl (fun _ => rfl) (fun v4 ev4 => ?_)
          replace h := h v4 ev4
          refine st_goto (pc := 153) dX10_goOn_153 rfl ?_
          refine Wp.drop 7 rfl ?_
          refine Wp.drop 8 rfl ?_
          refine Wp.drop 9 rfl ?_
          exact h
        · replace h := h.2 c
          refine st_aload_n (pc := 104) dX10_goOn_104 rfl rfl ?_
          refine st_aload_n (pc := 105) dX10_goOn_105 rfl rfl ?_
          obtain ⟨hk9, h⟩ := h
          refine sg_gfR (pc := 106) (J := 25) dX10_goOn_106 fl_10_58 rfl hk9 ?_
          refine st_iload (pc := 109) dX10_goOn_109 rfl ?_
          obtain ⟨hk10, h⟩ := h
          obtain ⟨h1, h⟩ := h
          refine sg_iaload (pc := 111) dX10_goOn_111 hk10 h1 ?_
          refine st_iload (pc := 112) dX10_goOn_112 rfl ?_
          refine st_aload_n (pc := 114) dX10_goOn_114 rfl rfl ?_
          refine sg_gfR (pc := 115) (J := 27) dX10_goOn_115 fl_10_64 rfl hk9 ?_
          refine st_iload (pc := 118) dX10_goOn_118 rfl ?_
          obtain ⟨hk11, h⟩ := h
          obtain ⟨h1, h⟩ := h
          refine sg_iaload (pc := 120) dX10_goOn_120 hk11 h1 ?_
          obtain ⟨mc3, ms3, K3, hC, e1, e2, h⟩ := h
          refine sg_VI (pc := 121) (av := [vi (mD m1 (mR m1 a0 25) v1), vi x1, vi (mD m1 (mR m1 a0 27) v1)]) (st := [vi a5]) (K := K3) dX10_goOn_121 ck_10_306 rfl (by decide) hk9 (by show (1 : Nat) ≤ 8; decide) hC e1 e2 (fun x3 m3 hK => ?_) rfl
          replace h := h x3 m3 hK
          refine st_goto (pc := 124) dX10_goOn_124 rfl ?_
          refine st_iadd (pc := 147) dX10_goOn_147 ?_
          refine sg_istore (pc := 148) (ls' := [some (vr a0), some (vi a1), some (vi a2), some (vi a3), some (vi a4), some (vi (w32 (a5 + x3))), some (vi a6), some (vi v1), some (vi v2), some (vi x1)]) dX10_goOn_148 (by show (5 : Nat) < 10; decide) rfl ?_
          refine Wp.nameL (ls2 := fun v => [some (vr a0), some (vi a1), some (vi a2), some (vi a3), some (vi a4), some (vi v), some (vi a6), some (vi v1), some (vi v2), some (vi x1)]) 5 _ rfl (fun _ => rfl) (fun v5 ev5 => ?_)
          replace h := h v5 ev5
          refine sg_iinc (pc := 150) (ls' := [some (vr a0), some (vi a1), some (vi a2), some (vi a3), some (vi a4), some (vi v5), some (vi (w32 (a6 + 1))), some (vi v1), some (vi v2), some (vi x1)]) dX10_goOn_150 rfl rfl ?_
          refine Wp.nameL (ls2 := fun v => [some (vr a0), some (vi a1), some (vi a2), some (vi a3), some (vi a4), some (vi v5), some (vi v), some (vi v1), some (vi v2), some (vi x1)]) 6 _ rfl (fun _ => rfl) (fun v6 ev6 => ?_)
          replace h := h v6 ev6
          refine st_goto (pc := 153) dX10_goOn_153 rfl ?_
          refine Wp.drop 7 rfl ?_
          refine Wp.drop 8 rfl ?_
          refine Wp.drop 9 rfl ?_
          exact h
      · replace h := h.2 c
        refine st_aload_n (pc := 50) dX10_goOn_50 rfl rfl ?_
        refine sg_iconst (pc := 51) dX10_goOn_51 (by omega) ?_
        refine st_aload_n (pc := 52) dX10_goOn_52 rfl rfl ?_
        refine sg_gfR (pc := 53) (J := 26) dX10_goOn_53 fl_10_61 rfl hk1 ?_
        refine st_iload (pc := 56) dX10_goOn_56 rfl ?_
        obtain ⟨h1, h⟩ := h
        refine sg_iaload (pc := 58) dX10_goOn_58 hk4 h1 ?_
        refine st_imul (pc := 59) dX10_goOn_59 ?_
        refine sg_iconst (pc := 60) dX10_goOn_60 (by omega) ?_
        refine st_iadd (pc := 61) dX10_goOn_61 ?_
        obtain ⟨mc4, ms4, K4, hC, e1, e2, h⟩ := h
        refine sg_VI (pc := 62) (av := [vi (w32 ((w32 (2 * (mD μ (mR μ a0 26) v1))) + 1))]) (st := [vi (mD μ (mR μ a0 24) v1)]) (K := K4) dX10_goOn_62 ck_10_303 rfl (by decide) hk1 (by show (1 : Nat) ≤ 8; decide) hC e1 e2 (fun x4 m4 hK => ?_) rfl
        replace h := h x4 m4 hK
        refine st_aload_n (pc := 65) dX10_goOn_65 rfl rfl ?_
        obtain ⟨hk12, h⟩ := h
        refine sg_gfR (pc := 66) (J := 26) dX10_goOn_66 fl_10_61 rfl hk12 ?_
        refine st_iload (pc := 69) dX10_goOn_69 rfl ?_
        obtain ⟨hk13, h⟩ := h
        obtain ⟨h1, h⟩ := h
        refine sg_iaload (pc := 71) dX10_goOn_71 hk13 h1 ?_
        refine st_isub (pc := 72) dX10_goOn_72 ?_
        refine st_goto (pc := 73) dX10_goOn_73 rfl ?_
        refine st_iadd (pc := 77) dX10_goOn_77 ?_
        refine sg_istore (pc := 78) (ls' := [some (vr a0), some (vi a1), some (vi a2), some (vi a3), some (vi a4), some (vi a5), some (vi a6), some (vi v1), some (vi (w32 ((mD μ (mR μ a0 24) v1) + (w32 (x4 - (mD m4 (mR m4 a0 26) v1)))))), none]) dX10_goOn_78 (by show (8 : Nat) < 10; decide) rfl ?_
        refine Wp.nameL (ls2 := fun v => [some (vr a0), some (vi a1), some (vi a2), some (vi a3), some (vi a4), some (vi a5), some (vi a6), some (vi v1), some (vi v), none]) 8 _ rfl (fun _ => rfl) (fun v7 ev7 => ?_)
        replace h := h v7 ev7
        refine st_aload_n (pc := 80) dX10_goOn_80 rfl rfl ?_
        refine st_aload_n (pc := 81) dX10_goOn_81 rfl rfl ?_
        refine sg_gfR (pc := 82) (J := 3) dX10_goOn_82 fl_10_19 rfl hk12 ?_
        refine sg_bipush (pc := 85) dX10_goOn_85 (by omega) (by decide) ?_
        obtain ⟨hk14, h⟩ := h
        obtain ⟨h1, h⟩ := h
        refine sg_iaload (pc := 87) dX10_goOn_87 hk14 h1 ?_
        refine st_iload (pc := 88) dX10_goOn_88 rfl ?_
        obtain ⟨mc5, ms5, K5, hC, e1, e2, h⟩ := h
        refine sg_VI (pc := 90) (av := [vi (mD m4 (mR m4 a0 3) 6), vi v7]) (st := []) (K := K5) dX10_goOn_90 ck_10_287 rfl (by decide) hk12 (by show (0 : Nat) ≤ 8; decide) hC e1 e2 (fun x5 m5 hK => ?_) rfl
        replace h := h x5 m5 hK
        refine sg_istore (pc := 93) (ls' := [some (vr a0), some (vi a1), some (vi a2), some (vi a3), some (vi a4), some (vi a5), some (vi a6), some (vi v1), some (vi v7), some (vi x5)]) dX10_goOn_93 (by show (9 : Nat) < 10; decide) rfl ?_
        refine st_iload (pc := 95) dX10_goOn_95 rfl ?_
        refine st_iload (pc := 97) dX10_goOn_97 rfl ?_
        refine st_iload (pc := 99) dX10_goOn_99 rfl ?_
        refine st_icmplt (pc := 101) (tgt := 127) dX10_goOn_101 rfl (fun c => ?_) (fun c => ?_)
        · replace h := h.1 c
          refine st_aload_n (pc := 127) dX10_goOn_127 rfl rfl ?_
          refine st_iload (pc := 128) dX10_goOn_128 rfl ?_
          refine st_aload_n (pc := 130) dX10_goOn_130 rfl rfl ?_
          obtain ⟨hk15, h⟩ := h
          refine sg_gfR (pc := 131) (J := 25) dX10_goOn_131 fl_10_58 rfl hk15 ?_
          refine st_iload (pc := 134) dX10_goOn_134 rfl ?_
          obtain ⟨hk16, h⟩ := h
          obtain ⟨h1, h⟩ := h
          refine sg_iaload (pc := 136) dX10_goOn_136 hk16 h1 ?_
          refine st_aload_n (pc := 137) dX10_goOn_137 rfl rfl ?_
          refine sg_gfR (pc := 138) (J := 27) dX10_goOn_138 fl_10_64 rfl hk15 ?_
          refine st_iload (pc := 141) dX10_goOn_141 rfl ?_
          obtain ⟨hk17, h⟩ := h
          obtain ⟨h1, h⟩ := h
          refine sg_iaload (pc := 143) dX10_goOn_143 hk17 h1 ?_
          obtain ⟨mc6, ms6, K6, hC, e1, e2, h⟩ := h
          refine sg_VI (pc := 144) (av := [vi x5, vi (mD m5 (mR m5 a0 25) v1), vi (mD m5 (mR m5 a0 27) v1)]) (st := [vi a5]) (K := K6) dX10_goOn_144 ck_10_306 rfl (by decide) hk15 (by show (1 : Nat) ≤ 8; decide) hC e1 e2 (fun x6 m6 hK => ?_) rfl
          replace h := h x6 m6 hK
          refine st_iadd (pc := 147) dX10_goOn_147 ?_
          refine sg_istore (pc := 148) (ls' := [some (vr a0), some (vi a1), some (vi a2), some (vi a3), some (vi a4), some (vi (w32 (a5 + x6))), some (vi a6), some (vi v1), some (vi v7), some (vi x5)]) dX10_goOn_148 (by show (5 : Nat) < 10; decide) rfl ?_
          refine Wp.nameL (ls2 := fun v => [some (vr a0), some (vi a1), some (vi a2), some (vi a3), some (vi a4), some (vi v), some (vi a6), some (vi v1), some (vi v7), some (vi x5)]) 5 _ rfl (fun _ => rfl) (fun v8 ev8 => ?_)
          replace h := h v8 ev8
          refine sg_iinc (pc := 150) (ls' := [some (vr a0), some (vi a1), some (vi a2), some (vi a3), some (vi a4), some (vi v8), some (vi (w32 (a6 + 1))), some (vi v1), some (vi v7), some (vi x5)]) dX10_goOn_150 rfl rfl ?_
          refine Wp.nameL (ls2 := fun v => [some (vr a0), some (vi a1), some (vi a2), some (vi a3), some (vi a4), some (vi v8), some (vi v), some (vi v1), some (vi v7), some (vi x5)]) 6 _ rfl (fun _ => rfl) (fun v9 ev9 => ?_)
          replace h := h v9 ev9
          refine st_goto (pc := 153) dX10_goOn_153 rfl ?_
          refine Wp.drop 7 rfl ?_
          refine Wp.drop 8 rfl ?_
          refine Wp.drop 9 rfl ?_
          exact h
        · replace h := h.2 c
          refine st_aload_n (pc := 104) dX10_goOn_104 rfl rfl ?_
          refine st_aload_n (pc := 105) dX10_goOn_105 rfl rfl ?_
          obtain ⟨hk18, h⟩ := h
          refine sg_gfR (pc := 106) (J := 25) dX10_goOn_106 fl_10_58 rfl hk18 ?_
          refine st_iload (pc := 109) dX10_goOn_109 rfl ?_
          obtain ⟨hk19, h⟩ := h
          obtain ⟨h1, h⟩ := h
          refine sg_iaload (pc := 111) dX10_goOn_111 hk19 h1 ?_
          refine st_iload (pc := 112) dX10_goOn_112 rfl ?_
          refine st_aload_n (pc := 114) dX10_goOn_114 rfl rfl ?_
          refine sg_gfR (pc := 115) (J := 27) dX10_goOn_115 fl_10_64 rfl hk18 ?_
          refine st_iload (pc := 118) dX10_goOn_118 rfl ?_
          obtain ⟨hk20, h⟩ := h
          obtain ⟨h1, h⟩ := h
          refine sg_iaload (pc := 120) dX10_goOn_120 hk20 h1 ?_
          obtain ⟨mc7, ms7, K7, hC, e1, e2, h⟩ := h
          refine sg_VI (pc := 121) (av := [vi (mD m5 (mR m5 a0 25) v1), vi x5, vi (mD m5 (mR m5 a0 27) v1)]) (st := [vi a5]) (K := K7) dX10_goOn_121 ck_10_306 rfl (by decide) hk18 (by show (1 : Nat) ≤ 8; decide) hC e1 e2 (fun x7 m7 hK => ?_) rfl
          replace h := h x7 m7 hK
          refine st_goto (pc := 124) dX10_goOn_124 rfl ?_
          refine st_iadd (pc := 147) dX10_goOn_147 ?_
          refine sg_istore (pc := 148) (ls' := [some (vr a0), some (vi a1), some (vi a2), some (vi a3), some (vi a4), some (vi (w32 (a5 + x7))), some (vi a6), some (vi v1), some (vi v7), some (vi x5)]) dX10_goOn_148 (by show (5 : Nat) < 10; decide) rfl ?_
          refine Wp.nameL (ls2 := fun v => [some (vr a0), some (vi a1), some (vi a2), some (vi a3), some (vi a4), some (vi v), some (vi a6), some (vi v1), some (vi v7), some (vi x5)]) 5 _ rfl (fun _ => rfl) (fun v10 ev10 => ?_)
          replace h := h v10 ev10
          refine sg_iinc (pc := 150) (ls' := [some (vr a0), some (vi a1), some (vi a2), some (vi a3), some (vi a4), some (vi v10), some (vi (w32 (a6 + 1))), some (vi v1), some (vi v7), some (vi x5)]) dX10_goOn_150 rfl rfl ?_
          refine Wp.nameL (ls2 := fun v => [some (vr a0), some (vi a1), some (vi a2), some (vi a3), some (vi a4), some (vi v10), some (vi v), some (vi v1), some (vi v7), some (vi x5)]) 6 _ rfl (fun _ => rfl) (fun v11 ev11 => ?_)
          replace h := h v11 ev11
          refine st_goto (pc := 153) dX10_goOn_153 rfl ?_
          refine Wp.drop 7 rfl ?_
          refine Wp.drop 8 rfl ?_
          refine Wp.drop 9 rfl ?_
          exact h

theorem sg_X10_go_0 {d bc bs : Nat} {a0 : Nat} {a1 : Int} {a2 : Int} {a3 : Int} {μ : Mem} {Q : Option (Option AV) → Mem → Prop}
    (h : mK μ a0 = 11 ∧ (∀ m1, m1 = sD μ a0 15 0 → ∃ (mc1 ms1 : Nat) (K1 : Int → Mem → Prop), Cl d mc1 ms1 mX10_isWalk [vi a1] m1 (KI K1) ∧ mc1 ≤ bc ∧ ms1 ≤ bs ∧ (∀ x1 m2, K1 x1 m2 → (x1 = 0 → Q (some (some (vi (-1)))) m2) ∧ (¬ x1 = 0 → ∃ (mc2 ms2 : Nat) (K2 : Int → Mem → Prop), Cl d mc2 ms2 mX10_in [vi a2, vi 0, vi 1000] m2 (KI K2) ∧ mc2 ≤ bc - mc1 ∧ ms2 ≤ bs - ms1 ∧ (∀ x2 m3, K2 x2 m3 → (x2 = 0 → Q (some (some (vi (-1)))) m3) ∧ (¬ x2 = 0 → ∃ (mc3 ms3 : Nat) (K3 : Int → Mem → Prop), Cl d mc3 ms3 mX10_in [vi a3, vi 0, vi 1000] m3 (KI K3) ∧ mc3 ≤ bc - mc1 - mc2 ∧ ms3 ≤ bs - ms1 - ms2 ∧ (∀ x3 m4, K3 x3 m4 → (¬ x3 = 0 → mK m4 a0 = 11 ∧ ∃ (mc4 ms4 : Nat) (K4 : Mem → Prop), Cl d mc4 ms4 mX10_watch [vr a0] m4 (KV K4) ∧ mc4 ≤ bc - mc1 - mc2 - mc3 ∧ ms4 ≤ bs - ms1 - ms2 - ms3 ∧ (∀ m5, K4 m5 → mK m5 a0 = 11 ∧ ∃ (mc5 ms5 : Nat) (K5 : Int → Mem → Prop), Cl d mc5 ms5 mX10_goOn [vr a0, vi a1, vi a2, vi (w32 (a2 + a3)), vi 1001] m5 (KI K5) ∧ mc5 ≤ bc - mc1 - mc2 - mc3 - mc4 ∧ ms5 ≤ bs - ms1 - ms2 - ms3 - ms4 ∧ (∀ x4 m6, K5 x4 m6 → Q (some (some (vi x4))) m6))) ∧ (x3 = 0 → Q (some (some (vi (-1)))) m4)))))))) :
    Wp (d + 1) bc bs mX10_go 0 [some (vr a0), some (vi a1), some (vi a2), some (vi a3)] [] μ Q := by
  refine st_aload_n (pc := 0) dX10_go_0 rfl rfl ?_
  refine sg_iconst (pc := 1) dX10_go_1 (by omega) ?_
  obtain ⟨hk1, h⟩ := h
  refine sg_pfI (pc := 2) (J := 15) dX10_go_2 fl_10_142 rfl (Or.inl rfl) hk1 ?_
  refine Wp.nameM (fun m1 em1 => ?_)
  replace h := h m1 em1
  refine st_iload_n (pc := 5) dX10_go_5 rfl rfl ?_
  obtain ⟨mc1, ms1, K1, hC, e1, e2, h⟩ := h
  refine sg_SI (pc := 6) (av := [vi a1]) (st := []) (K := K1) dX10_go_6 ck_10_245 rfl (by show (0 : Nat) ≤ 8; decide) hC e1 e2 (fun x1 m2 hK => ?_) rfl
  replace h := h x1 m2 hK
  refine st_ifeq (pc := 9) (tgt := 34) dX10_go_9 rfl (fun c => ?_) (fun c => ?_)
  · replace h := h.1 c
    refine sg_iconst (pc := 34) dX10_go_34 (by omega) ?_
    exact st_ireturn (pc := 35) dX10_go_35 (Or.inl rfl) h
  · replace h := h.2 c
    refine st_iload_n (pc := 12) dX10_go_12 rfl rfl ?_
    refine sg_iconst (pc := 13) dX10_go_13 (by omega) ?_
    refine sg_sipush (pc := 14) dX10_go_14 (by omega) (by decide) ?_
    obtain ⟨mc2, ms2, K2, hC, e1, e2, h⟩ := h
    refine sg_SI (pc := 17) (av := [vi a2, vi 0, vi 1000]) (st := []) (K := K2) dX10_go_17 ck_10_151 rfl (by show (0 : Nat) ≤ 8; decide) hC e1 e2 (fun x2 m3 hK => ?_) rfl
    replace h := h x2 m3 hK
    refine st_ifeq (pc := 20) (tgt := 34) dX10_go_20 rfl (fun c => ?_) (fun c => ?_)
    · replace h := h.1 c
      refine sg_iconst (pc := 34) dX10_go_34 (by omega) ?_
      exact st_ireturn (pc := 35) dX10_go_35 (Or.inl rfl) h
    · replace h := h.2 c
      refine st_iload_n (pc := 23) dX10_go_23 rfl rfl ?_
      refine sg_iconst (pc := 24) dX10_go_24 (by omega) ?_
      refine sg_sipush (pc := 25) dX10_go_25 (by omega) (by decide) ?_
      obtain ⟨mc3, ms3, K3, hC, e1, e2, h⟩ := h
      refine sg_SI (pc := 28) (av := [vi a3, vi 0, vi 1000]) (st := []) (K := K3) dX10_go_28 ck_10_151 rfl (by show (0 : Nat) ≤ 8; decide) hC e1 e2 (fun x3 m4 hK => ?_) rfl
      replace h := h x3 m4 hK
      refine st_ifne (pc := 31) (tgt := 36) dX10_go_31 rfl (fun c => ?_) (fun c => ?_)
      · replace h := h.1 c
        refine st_aload_n (pc := 36) dX10_go_36 rfl rfl ?_
        obtain ⟨hk2, h⟩ := h
        obtain ⟨mc4, ms4, K4, hC, e1, e2, h⟩ := h
        refine sg_VV (pc := 37) (av := []) (st := []) (K := K4) dX10_go_37 ck_10_310 rfl (by decide) hk2 (by show (0 : Nat) ≤ 8; decide) hC e1 e2 (fun m5 hK => ?_) rfl
        replace h := h m5 hK
        refine st_aload_n (pc := 40) dX10_go_40 rfl rfl ?_
        refine st_iload_n (pc := 41) dX10_go_41 rfl rfl ?_
        refine st_iload_n (pc := 42) dX10_go_42 rfl rfl ?_
        refine st_iload_n (pc := 43) dX10_go_43 rfl rfl ?_
        refine st_iload_n (pc := 44) dX10_go_44 rfl rfl ?_
        refine st_iadd (pc := 45) dX10_go_45 ?_
        refine sg_sipush (pc := 46) dX10_go_46 (by omega) (by decide) ?_
        obtain ⟨hk3, h⟩ := h
        obtain ⟨mc5, ms5, K5, hC, e1, e2, h⟩ := h
        refine sg_VI (pc := 49) (av := [vi a1, vi a2, vi (w32 (a2 + a3)), vi 1001]) (st := []) (K := K5) dX10_go_49 ck_10_313 rfl (by decide) hk3 (by show (0 : Nat) ≤ 8; decide) hC e1 e2 (fun x4 m6 hK => ?_) rfl
        replace h := h x4 m6 hK
        exact st_ireturn (pc := 52) dX10_go_52 (Or.inl rfl) h
      · replace h := h.2 c
        refine sg_iconst (pc := 34) dX10_go_34 (by omega) ?_
        exact st_ireturn (pc := 35) dX10_go_35 (Or.inl rfl) h

theorem sg_X10_put_0 {d bc bs : Nat} {a0 : Nat} {a1 : Int} {μ : Mem} {Q : Option (Option AV) → Mem → Prop}
    (h : mK μ a0 = 11 ∧ (mK μ (mR μ a0 45) = 20 ∧ ((0 : Int) ≤ (mD μ a0 46) ∧ (mD μ a0 46) < (mN μ (mR μ a0 45) : Int)) ∧ (∀ m1, m1 = sD μ (mR μ a0 45) (mD μ a0 46) a1 → (∀ m2, m2 = sD m1 a0 46 (w32 ((mD m1 a0 46) + 1)) → Q (some none) m2)))) :
    Wp d bc bs mX10_put 0 [some (vr a0), some (vi a1)] [] μ Q := by
  refine st_aload_n (pc := 0) dX10_put_0 rfl rfl ?_
  obtain ⟨hk1, h⟩ := h
  refine sg_gfR (pc := 1) (J := 45) dX10_put_1 fl_10_90 rfl hk1 ?_
  refine st_aload_n (pc := 4) dX10_put_4 rfl rfl ?_
  refine sg_gfI (pc := 5) (J := 46) dX10_put_5 fl_10_317 (by decide) rfl hk1 ?_
  refine st_iload_n (pc := 8) dX10_put_8 rfl rfl ?_
  obtain ⟨hk2, h⟩ := h
  obtain ⟨h1, h⟩ := h
  refine st_iastore (pc := 9) dX10_put_9 hk2 h1.1 h1.2 ?_
  refine Wp.nameM (fun m1 em1 => ?_)
  replace h := h m1 em1
  refine st_aload_n (pc := 10) dX10_put_10 rfl rfl ?_
  refine st_dup (pc := 11) dX10_put_11 rfl ?_
  refine sg_gfI (pc := 12) (J := 46) dX10_put_12 fl_10_317 (by decide) rfl (by cases em1; exact hk1) ?_
  refine sg_iconst (pc := 15) dX10_put_15 (by omega) ?_
  refine st_iadd (pc := 16) dX10_put_16 ?_
  refine sg_pfI (pc := 17) (J := 46) dX10_put_17 fl_10_317 rfl (Or.inl rfl) (by cases em1; exact hk1) ?_
  refine Wp.nameM (fun m2 em2 => ?_)
  replace h := h m2 em2
  exact st_return (pc := 20) dX10_put_20 rfl h

theorem sg_X10_take_0 {d bc bs : Nat} {a0 : Nat} {μ : Mem} {Q : Option (Option AV) → Mem → Prop}
    (h : mK μ a0 = 11 ∧ ((∀ m1, m1 = sD μ a0 46 (w32 ((mD μ a0 46) + 1)) → (mK m1 (mR m1 a0 45) = 20 ∨ ((mR m1 a0 45) ≠ 0 ∧ mK m1 (mR m1 a0 45) = 40)) ∧ ((0 : Int) ≤ (w32 ((mD m1 a0 46) - 1)) ∧ (w32 ((mD m1 a0 46) - 1)) < (mN m1 (mR m1 a0 45) : Int)) ∧ (Q (some (some (vi (mD m1 (mR m1 a0 45) (w32 ((mD m1 a0 46) - 1)))))) m1)))) :
    Wp d bc bs mX10_take 0 [some (vr a0)] [] μ Q := by
  refine st_aload_n (pc := 0) dX10_take_0 rfl rfl ?_
  refine st_dup (pc := 1) dX10_take_1 rfl ?_
  obtain ⟨hk1, h⟩ := h
  refine sg_gfI (pc := 2) (J := 46) dX10_take_2 fl_10_317 (by decide) rfl hk1 ?_
  refine sg_iconst (pc := 5) dX10_take_5 (by omega) ?_
  refine st_iadd (pc := 6) dX10_take_6 ?_
  refine sg_pfI (pc := 7) (J := 46) dX10_take_7 fl_10_317 rfl (Or.inl rfl) hk1 ?_
  refine Wp.nameM (fun m1 em1 => ?_)
  replace h := h m1 em1
  refine st_aload_n (pc := 10) dX10_take_10 rfl rfl ?_
  refine sg_gfR (pc := 11) (J := 45) dX10_take_11 fl_10_90 rfl (by cases em1; exact hk1) ?_
  refine st_aload_n (pc := 14) dX10_take_14 rfl rfl ?_
  refine sg_gfI (pc := 15) (J := 46) dX10_take_15 fl_10_317 (by decide) rfl (by cases em1; exact hk1) ?_
  refine sg_iconst (pc := 18) dX10_take_18 (by omega) ?_
  refine st_isub (pc := 19) dX10_take_19 ?_
  obtain ⟨hk2, h⟩ := h
  obtain ⟨h1, h⟩ := h
  refine sg_iaload (pc := 20) dX10_take_20 hk2 h1 ?_
  exact st_ireturn (pc := 21) dX10_take_21 (Or.inl rfl) h

theorem sg_X10_putBy_0 {d bc bs : Nat} {a0 : Nat} {a1 : Int} {μ : Mem} {Q : Option (Option AV) → Mem → Prop}
    (h : mK μ a0 = 11 ∧ (∀ m1, m1 = sD μ a0 46 (w32 (105 * a1)) → Wp (d + 1) bc bs mX10_putBy 10 [some (vr a0), some (vi a1), some (vi 0), none, none, none] [] m1 Q)) :
    Wp (d + 1) bc bs mX10_putBy 0 [some (vr a0), some (vi a1), none, none, none, none] [] μ Q := by
  refine st_aload_n (pc := 0) dX10_putBy_0 rfl rfl ?_
  refine sg_bipush (pc := 1) dX10_putBy_1 (by omega) (by decide) ?_
  refine st_iload_n (pc := 3) dX10_putBy_3 rfl rfl ?_
  refine st_imul (pc := 4) dX10_putBy_4 ?_
  obtain ⟨hk1, h⟩ := h
  refine sg_pfI (pc := 5) (J := 46) dX10_putBy_5 fl_10_317 rfl (Or.inl rfl) hk1 ?_
  refine Wp.nameM (fun m1 em1 => ?_)
  replace h := h m1 em1
  refine sg_iconst (pc := 8) dX10_putBy_8 (by omega) ?_
  refine sg_istore_n (pc := 9) (ls' := [some (vr a0), some (vi a1), some (vi 0), none, none, none]) dX10_putBy_9 rfl (by show (2 : Nat) < 6; decide) rfl ?_
  exact h

theorem sg_X10_putBy_10 {d bc bs : Nat} {a0 : Nat} {a1 : Int} {a2 : Int} {μ : Mem} {Q : Option (Option AV) → Mem → Prop}
    (h : (40 ≤ a2 → mK μ a0 = 11 ∧ ((mK μ (mR μ a0 8) = 20 ∨ ((mR μ a0 8) ≠ 0 ∧ mK μ (mR μ a0 8) = 40)) ∧ ((0 : Int) ≤ 0 ∧ 0 < (mN μ (mR μ a0 8) : Int)) ∧ (∃ (mc1 ms1 : Nat) (K1 : Mem → Prop), Cl d mc1 ms1 mX10_put [vr a0, vi (mD μ (mR μ a0 8) 0)] μ (KV K1) ∧ mc1 ≤ bc ∧ ms1 ≤ bs ∧ (∀ m1, K1 m1 → mK m1 a0 = 11 ∧ ((mK m1 (mR m1 a0 8) = 20 ∨ ((mR m1 a0 8) ≠ 0 ∧ mK m1 (mR m1 a0 8) = 40)) ∧ ((0 : Int) ≤ 1 ∧ 1 < (mN m1 (mR m1 a0 8) : Int)) ∧ (∃ (mc2 ms2 : Nat) (K2 : Mem → Prop), Cl d mc2 ms2 mX10_put [vr a0, vi (mD m1 (mR m1 a0 8) 1)] m1 (KV K2) ∧ mc2 ≤ bc - mc1 ∧ ms2 ≤ bs - ms1 ∧ (∀ m2, K2 m2 → mK m2 a0 = 11 ∧ (∃ (mc3 ms3 : Nat) (K3 : Mem → Prop), Cl d mc3 ms3 mX10_put [vr a0, vi (mD m2 a0 5)] m2 (KV K3) ∧ mc3 ≤ bc - mc1 - mc2 ∧ ms3 ≤ bs - ms1 - ms2 ∧ (∀ m3, K3 m3 → mK m3 a0 = 11 ∧ (((20 ≤ mK m3 (mR m3 a0 9) ∧ mK m3 (mR m3 a0 9) ≤ 28) ∨ ((mR m3 a0 9) ≠ 0 ∧ mK m3 (mR m3 a0 9) = 40)) ∧ (∀ v1, v1 = (mN m3 (mR m3 a0 9) : Int) → Wp (d + 1) (bc - mc1 - mc2 - mc3) (bs - ms1 - ms2 - ms3) mX10_putBy 81 [some (vr a0), some (vi a1), some (vr (mR m3 a0 9)), some (vi v1), some (vi 0), none] [] m3 Q))))))))))) ∧ (¬ 40 ≤ a2 → mK μ a0 = 11 ∧ ((mK μ (mR μ a0 6) = 20 ∨ ((mR μ a0 6) ≠ 0 ∧ mK μ (mR μ a0 6) = 40)) ∧ ((0 : Int) ≤ a2 ∧ a2 < (mN μ (mR μ a0 6) : Int)) ∧ (∃ (mc4 ms4 : Nat) (K4 : Mem → Prop), Cl d mc4 ms4 mX10_put [vr a0, vi (mD μ (mR μ a0 6) a2)] μ (KV K4) ∧ mc4 ≤ bc ∧ ms4 ≤ bs ∧ (∀ m4, K4 m4 → mK m4 a0 = 11 ∧ ((mK m4 (mR m4 a0 7) = 20 ∨ ((mR m4 a0 7) ≠ 0 ∧ mK m4 (mR m4 a0 7) = 40)) ∧ ((0 : Int) ≤ a2 ∧ a2 < (mN m4 (mR m4 a0 7) : Int)) ∧ (∃ (mc5 ms5 : Nat) (K5 : Mem → Prop), Cl d mc5 ms5 mX10_put [vr a0, vi (mD m4 (mR m4 a0 7) a2)] m4 (KV K5) ∧ mc5 ≤ bc - mc4 ∧ ms5 ≤ bs - ms4 ∧ (∀ m5, K5 m5 → ∀ v2, v2 = w32 (a2 + 1) → Wp (d + 1) (bc - mc4 - mc5) (bs - ms4 - ms5) mX10_putBy 10 [some (vr a0), some (vi a1), some (vi v2), none, none, none] [] m5 Q)))))))) :
    Wp (d + 1) bc bs mX10_putBy 10 [some (vr a0), some (vi a1), some (vi a2), none, none, none] [] μ Q := by
  refine st_iload_n (pc := 10) dX10_putBy_10 rfl rfl ?_
  refine sg_bipush (pc := 11) dX10_putBy_11 (by omega) (by decide) ?_
  refine st_icmpge (pc := 13) (tgt := 42) dX10_putBy_13 rfl (fun c => ?_) (fun c => ?_)
  · replace h := h.1 c
    refine st_aload_n (pc := 42) dX10_putBy_42 rfl rfl ?_
    refine st_aload_n (pc := 43) dX10_putBy_43 rfl rfl ?_
    obtain ⟨hk1, h⟩ := h
    refine sg_gfR (pc := 44) (J := 8) dX10_putBy_44 fl_10_32 rfl hk1 ?_
    refine sg_iconst (pc := 47) dX10_putBy_47 (by omega) ?_
    obtain ⟨hk2, h⟩ := h
    obtain ⟨h1, h⟩ := h
    refine sg_iaload (pc := 48) dX10_putBy_48 hk2 h1 ?_
    obtain ⟨mc1, ms1, K1, hC, e1, e2, h⟩ := h
    refine sg_VV (pc := 49) (av := [vi (mD μ (mR μ a0 8) 0)]) (st := []) (K := K1) dX10_putBy_49 ck_10_320 rfl (by decide) hk1 (by show (0 : Nat) ≤ 8; decide) hC e1 e2 (fun m1 hK => ?_) rfl
    replace h := h m1 hK
    refine st_aload_n (pc := 52) dX10_putBy_52 rfl rfl ?_
    refine st_aload_n (pc := 53) dX10_putBy_53 rfl rfl ?_
    obtain ⟨hk3, h⟩ := h
    refine sg_gfR (pc := 54) (J := 8) dX10_putBy_54 fl_10_32 rfl hk3 ?_
    refine sg_iconst (pc := 57) dX10_putBy_57 (by omega) ?_
    obtain ⟨hk4, h⟩ := h
    obtain ⟨h1, h⟩ := h
    refine sg_iaload (pc := 58) dX10_putBy_58 hk4 h1 ?_
    obtain ⟨mc2, ms2, K2, hC, e1, e2, h⟩ := h
    refine sg_VV (pc := 59) (av := [vi (mD m1 (mR m1 a0 8) 1)]) (st := []) (K := K2) dX10_putBy_59 ck_10_320 rfl (by decide) hk3 (by show (0 : Nat) ≤ 8; decide) hC e1 e2 (fun m2 hK => ?_) rfl
    replace h := h m2 hK
    refine st_aload_n (pc := 62) dX10_putBy_62 rfl rfl ?_
    refine st_aload_n (pc := 63) dX10_putBy_63 rfl rfl ?_
    obtain ⟨hk5, h⟩ := h
    refine sg_gfI (pc := 64) (J := 5) dX10_putBy_64 fl_10_148 (by decide) rfl hk5 ?_
    obtain ⟨mc3, ms3, K3, hC, e1, e2, h⟩ := h
    refine sg_VV (pc := 67) (av := [vi (mD m2 a0 5)]) (st := []) (K := K3) dX10_putBy_67 ck_10_320 rfl (by decide) hk5 (by show (0 : Nat) ≤ 8; decide) hC e1 e2 (fun m3 hK => ?_) rfl
    replace h := h m3 hK
    refine st_aload_n (pc := 70) dX10_putBy_70 rfl rfl ?_
    obtain ⟨hk6, h⟩ := h
    refine sg_gfR (pc := 71) (J := 9) dX10_putBy_71 fl_10_35 rfl hk6 ?_
    refine sg_astore_n (pc := 74) (ls' := [some (vr a0), some (vi a1), some (vr (mR m3 a0 9)), none, none, none]) dX10_putBy_74 rfl (by show (2 : Nat) < 6; decide) rfl ?_
    refine st_aload_n (pc := 75) dX10_putBy_75 rfl rfl ?_
    obtain ⟨hk7, h⟩ := h
    refine sg_alen (pc := 76) dX10_putBy_76 hk7 ?_
    refine sg_istore_n (pc := 77) (ls' := [some (vr a0), some (vi a1), some (vr (mR m3 a0 9)), some (vi (mN m3 (mR m3 a0 9) : Int)), none, none]) dX10_putBy_77 rfl (by show (3 : Nat) < 6; decide) rfl ?_
    refine Wp.nameL (ls2 := fun v => [some (vr a0), some (vi a1), some (vr (mR m3 a0 9)), some (vi v), none, none]) 3 _ rfl (fun _ => rfl) (fun v1 ev1 => ?_)
    replace h := h v1 ev1
    refine sg_iconst (pc := 78) dX10_putBy_78 (by omega) ?_
    refine sg_istore (pc := 79) (ls' := [some (vr a0), some (vi a1), some (vr (mR m3 a0 9)), some (vi v1), some (vi 0), none]) dX10_putBy_79 (by show (4 : Nat) < 6; decide) rfl ?_
    exact h
  · replace h := h.2 c
    refine st_aload_n (pc := 16) dX10_putBy_16 rfl rfl ?_
    refine st_aload_n (pc := 17) dX10_putBy_17 rfl rfl ?_
    obtain ⟨hk8, h⟩ := h
    refine sg_gfR (pc := 18) (J := 6) dX10_putBy_18 fl_10_26 rfl hk8 ?_
    refine st_iload_n (pc := 21) dX10_putBy_21 rfl rfl ?_
    obtain ⟨hk9, h⟩ := h
    obtain ⟨h1, h⟩ := h
    refine sg_iaload (pc := 22) dX10_putBy_22 hk9 h1 ?_
    obtain ⟨mc4, ms4, K4, hC, e1, e2, h⟩ := h
    refine sg_VV (pc := 23) (av := [vi (mD μ (mR μ a0 6) a2)]) (st := []) (K := K4) dX10_putBy_23 ck_10_320 rfl (by decide) hk8 (by show (0 : Nat) ≤ 8; decide) hC e1 e2 (fun m4 hK => ?_) rfl
    replace h := h m4 hK
    refine st_aload_n (pc := 26) dX10_putBy_26 rfl rfl ?_
    refine st_aload_n (pc := 27) dX10_putBy_27 rfl rfl ?_
    obtain ⟨hk10, h⟩ := h
    refine sg_gfR (pc := 28) (J := 7) dX10_putBy_28 fl_10_29 rfl hk10 ?_
    refine st_iload_n (pc := 31) dX10_putBy_31 rfl rfl ?_
    obtain ⟨hk11, h⟩ := h
    obtain ⟨h1, h⟩ := h
    refine sg_iaload (pc := 32) dX10_putBy_32 hk11 h1 ?_
    obtain ⟨mc5, ms5, K5, hC, e1, e2, h⟩ := h
    refine sg_VV (pc := 33) (av := [vi (mD m4 (mR m4 a0 7) a2)]) (st := []) (K := K5) dX10_putBy_33 ck_10_320 rfl (by decide) hk10 (by show (0 : Nat) ≤ 8; decide) hC e1 e2 (fun m5 hK => ?_) rfl
    replace h := h m5 hK
    refine sg_iinc (pc := 36) (ls' := [some (vr a0), some (vi a1), some (vi (w32 (a2 + 1))), none, none, none]) dX10_putBy_36 rfl rfl ?_
    refine Wp.nameL (ls2 := fun v => [some (vr a0), some (vi a1), some (vi v), none, none, none]) 2 _ rfl (fun _ => rfl) (fun v2 ev2 => ?_)
    replace h := h v2 ev2
    refine st_goto (pc := 39) dX10_putBy_39 rfl ?_
    exact h

theorem sg_X10_putBy_81 {d bc bs : Nat} {a0 : Nat} {a1 : Int} {a2 : Nat} {a3 : Int} {a4 : Int} {μ : Mem} {Q : Option (Option AV) → Mem → Prop}
    (h : (a3 ≤ a4 → mK μ a0 = 11 ∧ (∃ (mc1 ms1 : Nat) (K1 : Mem → Prop), Cl d mc1 ms1 mX10_put [vr a0, vi (mD μ a0 10)] μ (KV K1) ∧ mc1 ≤ bc ∧ ms1 ≤ bs ∧ (∀ m1, K1 m1 → Q (some none) m1))) ∧ (¬ a3 ≤ a4 → (mK μ a2 = 20 ∨ (a2 ≠ 0 ∧ mK μ a2 = 40)) ∧ ((0 : Int) ≤ a4 ∧ a4 < (mN μ a2 : Int)) ∧ (∀ v1, v1 = mD μ a2 a4 → mK μ a0 = 11 ∧ ∃ (mc2 ms2 : Nat) (K2 : Mem → Prop), Cl d mc2 ms2 mX10_put [vr a0, vi v1] μ (KV K2) ∧ mc2 ≤ bc ∧ ms2 ≤ bs ∧ (∀ m2, K2 m2 → ∀ v2, v2 = w32 (a4 + 1) → Wp (d + 1) (bc - mc2) (bs - ms2) mX10_putBy 81 [some (vr a0), some (vi a1), some (vr a2), some (vi a3), some (vi v2), none] [] m2 Q)))) :
    Wp (d + 1) bc bs mX10_putBy 81 [some (vr a0), some (vi a1), some (vr a2), some (vi a3), some (vi a4), none] [] μ Q := by
  refine st_iload (pc := 81) dX10_putBy_81 rfl ?_
  refine st_iload_n (pc := 83) dX10_putBy_83 rfl rfl ?_
  refine st_icmpge (pc := 84) (tgt := 105) dX10_putBy_84 rfl (fun c => ?_) (fun c => ?_)
  · replace h := h.1 c
    refine st_aload_n (pc := 105) dX10_putBy_105 rfl rfl ?_
    refine st_aload_n (pc := 106) dX10_putBy_106 rfl rfl ?_
    obtain ⟨hk1, h⟩ := h
    refine sg_gfI (pc := 107) (J := 10) dX10_putBy_107 fl_10_38 (by decide) rfl hk1 ?_
    obtain ⟨mc1, ms1, K1, hC, e1, e2, h⟩ := h
    refine sg_VV (pc := 110) (av := [vi (mD μ a0 10)]) (st := []) (K := K1) dX10_putBy_110 ck_10_320 rfl (by decide) hk1 (by show (0 : Nat) ≤ 8; decide) hC e1 e2 (fun m1 hK => ?_) rfl
    replace h := h m1 hK
    exact st_return (pc := 113) dX10_putBy_113 rfl h
  · replace h := h.2 c
    refine st_aload_n (pc := 87) dX10_putBy_87 rfl rfl ?_
    refine st_iload (pc := 88) dX10_putBy_88 rfl ?_
    obtain ⟨hk2, h⟩ := h
    obtain ⟨h1, h⟩ := h
    refine sg_iaload (pc := 90) dX10_putBy_90 hk2 h1 ?_
    refine sg_istore (pc := 91) (ls' := [some (vr a0), some (vi a1), some (vr a2), some (vi a3), some (vi a4), some (vi (mD μ a2 a4))]) dX10_putBy_91 (by show (5 : Nat) < 6; decide) rfl ?_
    refine Wp.nameL (ls2 := fun v => [some (vr a0), some (vi a1), some (vr a2), some (vi a3), some (vi a4), some (vi v)]) 5 _ rfl (fun _ => rfl) (fun v1 ev1 => ?_)
    replace h := h v1 ev1
    refine st_aload_n (pc := 93) dX10_putBy_93 rfl rfl ?_
    refine st_iload (pc := 94) dX10_putBy_94 rfl ?_
    obtain ⟨hk3, h⟩ := h
    obtain ⟨mc2, ms2, K2, hC, e1, e2, h⟩ := h
    refine sg_VV (pc := 96) (av := [vi v1]) (st := []) (K := K2) dX10_putBy_96 ck_10_320 rfl (by decide) hk3 (by show (0 : Nat) ≤ 8; decide) hC e1 e2 (fun m2 hK => ?_) rfl
    replace h := h m2 hK
    refine sg_iinc (pc := 99) (ls' := [some (vr a0), some (vi a1), some (vr a2), some (vi a3), some (vi (w32 (a4 + 1))), some (vi v1)]) dX10_putBy_99 rfl rfl ?_
    refine Wp.nameL (ls2 := fun v => [some (vr a0), some (vi a1), some (vr a2), some (vi a3), some (vi v), some (vi v1)]) 4 _ rfl (fun _ => rfl) (fun v2 ev2 => ?_)
    replace h := h v2 ev2
    refine st_goto (pc := 102) dX10_putBy_102 rfl ?_
    refine Wp.drop 5 rfl ?_
    exact h

theorem sg_X10_bringBack_0 {d bc bs : Nat} {a0 : Nat} {a1 : Int} {μ : Mem} {Q : Option (Option AV) → Mem → Prop}
    (h : mK μ a0 = 11 ∧ (∀ m1, m1 = sD μ a0 46 (w32 (105 * a1)) → Wp (d + 1) bc bs mX10_bringBack 10 [some (vr a0), some (vi a1), some (vi 0)] [] m1 Q)) :
    Wp (d + 1) bc bs mX10_bringBack 0 [some (vr a0), some (vi a1), none] [] μ Q := by
  refine st_aload_n (pc := 0) dX10_bringBack_0 rfl rfl ?_
  refine sg_bipush (pc := 1) dX10_bringBack_1 (by omega) (by decide) ?_
  refine st_iload_n (pc := 3) dX10_bringBack_3 rfl rfl ?_
  refine st_imul (pc := 4) dX10_bringBack_4 ?_
  obtain ⟨hk1, h⟩ := h
  refine sg_pfI (pc := 5) (J := 46) dX10_bringBack_5 fl_10_317 rfl (Or.inl rfl) hk1 ?_
  refine Wp.nameM (fun m1 em1 => ?_)
  replace h := h m1 em1
  refine sg_iconst (pc := 8) dX10_bringBack_8 (by omega) ?_
  refine sg_istore_n (pc := 9) (ls' := [some (vr a0), some (vi a1), some (vi 0)]) dX10_bringBack_9 rfl (by show (2 : Nat) < 3; decide) rfl ?_
  exact h

theorem sg_X10_bringBack_10 {d bc bs : Nat} {a0 : Nat} {a1 : Int} {a2 : Int} {μ : Mem} {Q : Option (Option AV) → Mem → Prop}
    (h : (40 ≤ a2 → mK μ a0 = 11 ∧ (∃ (mc1 ms1 : Nat) (K1 : Int → Mem → Prop), Cl d mc1 ms1 mX10_take [vr a0] μ (KI K1) ∧ mc1 ≤ bc ∧ ms1 ≤ bs ∧ (∀ x1 m1, K1 x1 m1 → mK m1 (mR μ a0 8) = 20 ∧ ((0 : Int) ≤ 0 ∧ 0 < (mN m1 (mR μ a0 8) : Int)) ∧ (∀ m2, m2 = sD m1 (mR μ a0 8) 0 x1 → mK m2 a0 = 11 ∧ (∃ (mc2 ms2 : Nat) (K2 : Int → Mem → Prop), Cl d mc2 ms2 mX10_take [vr a0] m2 (KI K2) ∧ mc2 ≤ bc - mc1 ∧ ms2 ≤ bs - ms1 ∧ (∀ x2 m3, K2 x2 m3 → mK m3 (mR m2 a0 8) = 20 ∧ ((0 : Int) ≤ 1 ∧ 1 < (mN m3 (mR m2 a0 8) : Int)) ∧ (∀ m4, m4 = sD m3 (mR m2 a0 8) 1 x2 → mK m4 a0 = 11 ∧ ∃ (mc3 ms3 : Nat) (K3 : Int → Mem → Prop), Cl d mc3 ms3 mX10_take [vr a0] m4 (KI K3) ∧ mc3 ≤ bc - mc1 - mc2 ∧ ms3 ≤ bs - ms1 - ms2 ∧ (∀ x3 m5, K3 x3 m5 → mK m5 a0 = 11 ∧ (∀ m6, m6 = sD m5 a0 5 x3 → Wp (d + 1) (bc - mc1 - mc2 - mc3) (bs - ms1 - ms2 - ms3) mX10_bringBack 72 [some (vr a0), some (vi a1), some (vi 0)] [] m6 Q))))))))) ∧ (¬ 40 ≤ a2 → mK μ a0 = 11 ∧ (∃ (mc4 ms4 : Nat) (K4 : Int → Mem → Prop), Cl d mc4 ms4 mX10_take [vr a0] μ (KI K4) ∧ mc4 ≤ bc ∧ ms4 ≤ bs ∧ (∀ x4 m7, K4 x4 m7 → mK m7 (mR μ a0 6) = 20 ∧ ((0 : Int) ≤ a2 ∧ a2 < (mN m7 (mR μ a0 6) : Int)) ∧ (∀ m8, m8 = sD m7 (mR μ a0 6) a2 x4 → mK m8 a0 = 11 ∧ (∃ (mc5 ms5 : Nat) (K5 : Int → Mem → Prop), Cl d mc5 ms5 mX10_take [vr a0] m8 (KI K5) ∧ mc5 ≤ bc - mc4 ∧ ms5 ≤ bs - ms4 ∧ (∀ x5 m9, K5 x5 m9 → mK m9 (mR m8 a0 7) = 20 ∧ ((0 : Int) ≤ a2 ∧ a2 < (mN m9 (mR m8 a0 7) : Int)) ∧ (∀ m10, m10 = sD m9 (mR m8 a0 7) a2 x5 → ∀ v1, v1 = w32 (a2 + 1) → Wp (d + 1) (bc - mc4 - mc5) (bs - ms4 - ms5) mX10_bringBack 10 [some (vr a0), some (vi a1), some (vi v1)] [] m10 Q)))))))) :
    Wp (d + 1) bc bs mX10_bringBack 10 [some (vr a0), some (vi a1), some (vi a2)] [] μ Q := by
  refine st_iload_n (pc := 10) dX10_bringBack_10 rfl rfl ?_
  refine sg_bipush (pc := 11) dX10_bringBack_11 (by omega) (by decide) ?_
  refine st_icmpge (pc := 13) (tgt := 42) dX10_bringBack_13 rfl (fun c => ?_) (fun c => ?_)
  · replace h := h.1 c
    refine st_aload_n (pc := 42) dX10_bringBack_42 rfl rfl ?_
    obtain ⟨hk1, h⟩ := h
    refine sg_gfR (pc := 43) (J := 8) dX10_bringBack_43 fl_10_32 rfl hk1 ?_
    refine sg_iconst (pc := 46) dX10_bringBack_46 (by omega) ?_
    refine st_aload_n (pc := 47) dX10_bringBack_47 rfl rfl ?_
    obtain ⟨mc1, ms1, K1, hC, e1, e2, h⟩ := h
    refine sg_VI (pc := 48) (av := []) (st := [vi 0, vr (mR μ a0 8)]) (K := K1) dX10_bringBack_48 ck_10_323 rfl (by decide) hk1 (by show (2 : Nat) ≤ 8; decide) hC e1 e2 (fun x1 m1 hK => ?_) rfl
    replace h := h x1 m1 hK
    obtain ⟨hk2, h⟩ := h
    obtain ⟨h1, h⟩ := h
    refine st_iastore (pc := 51) dX10_bringBack_51 hk2 h1.1 h1.2 ?_
    refine Wp.nameM (fun m2 em2 => ?_)
    replace h := h m2 em2
    refine st_aload_n (pc := 52) dX10_bringBack_52 rfl rfl ?_
    obtain ⟨hk3, h⟩ := h
    refine sg_gfR (pc := 53) (J := 8) dX10_bringBack_53 fl_10_32 rfl hk3 ?_
    refine sg_iconst (pc := 56) dX10_bringBack_56 (by omega) ?_
    refine st_aload_n (pc := 57) dX10_bringBack_57 rfl rfl ?_
    obtain ⟨mc2, ms2, K2, hC, e1, e2, h⟩ := h
    refine sg_VI (pc := 58) (av := []) (st := [vi 1, vr (mR m2 a0 8)]) (K := K2) dX10_bringBack_58 ck_10_323 rfl (by decide) (by cases em2; exact hk3) (by show (2 : Nat) ≤ 8; decide) hC e1 e2 (fun x2 m3 hK => ?_) rfl
    replace h := h x2 m3 hK
    obtain ⟨hk4, h⟩ := h
    obtain ⟨h1, h⟩ := h
    refine st_iastore (pc := 61) dX10_bringBack_61 hk4 h1.1 h1.2 ?_
    refine Wp.nameM (fun m4 em4 => ?_)
    replace h := h m4 em4
    refine st_aload_n (pc := 62) dX10_bringBack_62 rfl rfl ?_
    refine st_aload_n (pc := 63) dX10_bringBack_63 rfl rfl ?_
    obtain ⟨hk5, h⟩ := h
    obtain ⟨mc3, ms3, K3, hC, e1, e2, h⟩ := h
    refine sg_VI (pc := 64) (av := []) (st := [vr a0]) (K := K3) dX10_bringBack_64 ck_10_323 rfl (by decide) hk5 (by show (1 : Nat) ≤ 8; decide) hC e1 e2 (fun x3 m5 hK => ?_) rfl
    replace h := h x3 m5 hK
    obtain ⟨hk6, h⟩ := h
    refine sg_pfI (pc := 67) (J := 5) dX10_bringBack_67 fl_10_148 rfl (Or.inl rfl) hk6 ?_
    refine Wp.nameM (fun m6 em6 => ?_)
    replace h := h m6 em6
    refine sg_iconst (pc := 70) dX10_bringBack_70 (by omega) ?_
    refine sg_istore_n (pc := 71) (ls' := [some (vr a0), some (vi a1), some (vi 0)]) dX10_bringBack_71 rfl (by show (2 : Nat) < 3; decide) rfl ?_
    exact h
  · replace h := h.2 c
    refine st_aload_n (pc := 16) dX10_bringBack_16 rfl rfl ?_
    obtain ⟨hk7, h⟩ := h
    refine sg_gfR (pc := 17) (J := 6) dX10_bringBack_17 fl_10_26 rfl hk7 ?_
    refine st_iload_n (pc := 20) dX10_bringBack_20 rfl rfl ?_
    refine st_aload_n (pc := 21) dX10_bringBack_21 rfl rfl ?_
    obtain ⟨mc4, ms4, K4, hC, e1, e2, h⟩ := h
    refine sg_VI (pc := 22) (av := []) (st := [vi a2, vr (mR μ a0 6)]) (K := K4) dX10_bringBack_22 ck_10_323 rfl (by decide) hk7 (by show (2 : Nat) ≤ 8; decide) hC e1 e2 (fun x4 m7 hK => ?_) rfl
    replace h := h x4 m7 hK
    obtain ⟨hk8, h⟩ := h
    obtain ⟨h1, h⟩ := h
    refine st_iastore (pc := 25) dX10_bringBack_25 hk8 h1.1 h1.2 ?_
    refine Wp.nameM (fun m8 em8 => ?_)
    replace h := h m8 em8
    refine st_aload_n (pc := 26) dX10_bringBack_26 rfl rfl ?_
    obtain ⟨hk9, h⟩ := h
    refine sg_gfR (pc := 27) (J := 7) dX10_bringBack_27 fl_10_29 rfl hk9 ?_
    refine st_iload_n (pc := 30) dX10_bringBack_30 rfl rfl ?_
    refine st_aload_n (pc := 31) dX10_bringBack_31 rfl rfl ?_
    obtain ⟨mc5, ms5, K5, hC, e1, e2, h⟩ := h
    refine sg_VI (pc := 32) (av := []) (st := [vi a2, vr (mR m8 a0 7)]) (K := K5) dX10_bringBack_32 ck_10_323 rfl (by decide) (by cases em8; exact hk9) (by show (2 : Nat) ≤ 8; decide) hC e1 e2 (fun x5 m9 hK => ?_) rfl
    replace h := h x5 m9 hK
    obtain ⟨hk10, h⟩ := h
    obtain ⟨h1, h⟩ := h
    refine st_iastore (pc := 35) dX10_bringBack_35 hk10 h1.1 h1.2 ?_
    refine Wp.nameM (fun m10 em10 => ?_)
    replace h := h m10 em10
    refine sg_iinc (pc := 36) (ls' := [some (vr a0), some (vi a1), some (vi (w32 (a2 + 1)))]) dX10_bringBack_36 rfl rfl ?_
    refine Wp.nameL (ls2 := fun v => [some (vr a0), some (vi a1), some (vi v)]) 2 _ rfl (fun _ => rfl) (fun v1 ev1 => ?_)
    replace h := h v1 ev1
    refine st_goto (pc := 39) dX10_bringBack_39 rfl ?_
    exact h

theorem sg_X10_bringBack_72 {d bc bs : Nat} {a0 : Nat} {a1 : Int} {a2 : Int} {μ : Mem} {Q : Option (Option AV) → Mem → Prop}
    (h : (21 ≤ a2 → mK μ a0 = 11 ∧ ∃ (mc1 ms1 : Nat) (K1 : Int → Mem → Prop), Cl d mc1 ms1 mX10_take [vr a0] μ (KI K1) ∧ mc1 ≤ bc ∧ ms1 ≤ bs ∧ (∀ x1 m1, K1 x1 m1 → mK m1 a0 = 11 ∧ (∀ m2, m2 = sD m1 a0 10 x1 → Q (some none) m2))) ∧ (¬ 21 ≤ a2 → mK μ a0 = 11 ∧ (∃ (mc2 ms2 : Nat) (K2 : Int → Mem → Prop), Cl d mc2 ms2 mX10_take [vr a0] μ (KI K2) ∧ mc2 ≤ bc ∧ ms2 ≤ bs ∧ (∀ x2 m3, K2 x2 m3 → mK m3 (mR μ a0 9) = 20 ∧ ((0 : Int) ≤ a2 ∧ a2 < (mN m3 (mR μ a0 9) : Int)) ∧ (∀ m4, m4 = sD m3 (mR μ a0 9) a2 x2 → ∀ v1, v1 = w32 (a2 + 1) → Wp (d + 1) (bc - mc2) (bs - ms2) mX10_bringBack 72 [some (vr a0), some (vi a1), some (vi v1)] [] m4 Q))))) :
    Wp (d + 1) bc bs mX10_bringBack 72 [some (vr a0), some (vi a1), some (vi a2)] [] μ Q := by
  refine st_iload_n (pc := 72) dX10_bringBack_72 rfl rfl ?_
  refine sg_bipush (pc := 73) dX10_bringBack_73 (by omega) (by decide) ?_
  refine st_icmpge (pc := 75) (tgt := 94) dX10_bringBack_75 rfl (fun c => ?_) (fun c => ?_)
  · replace h := h.1 c
    refine st_aload_n (pc := 94) dX10_bringBack_94 rfl rfl ?_
    refine st_aload_n (pc := 95) dX10_bringBack_95 rfl rfl ?_
    obtain ⟨hk1, h⟩ := h
    obtain ⟨mc1, ms1, K1, hC, e1, e2, h⟩ := h
    refine sg_VI (pc := 96) (av := []) (st := [vr a0]) (K := K1) dX10_bringBack_96 ck_10_323 rfl (by decide) hk1 (by show (1 : Nat) ≤ 8; decide) hC e1 e2 (fun x1 m1 hK => ?_) rfl
    replace h := h x1 m1 hK
    obtain ⟨hk2, h⟩ := h
    refine sg_pfI (pc := 99) (J := 10) dX10_bringBack_99 fl_10_38 rfl (Or.inl rfl) hk2 ?_
    refine Wp.nameM (fun m2 em2 => ?_)
    replace h := h m2 em2
    exact st_return (pc := 102) dX10_bringBack_102 rfl h
  · replace h := h.2 c
    refine st_aload_n (pc := 78) dX10_bringBack_78 rfl rfl ?_
    obtain ⟨hk3, h⟩ := h
    refine sg_gfR (pc := 79) (J := 9) dX10_bringBack_79 fl_10_35 rfl hk3 ?_
    refine st_iload_n (pc := 82) dX10_bringBack_82 rfl rfl ?_
    refine st_aload_n (pc := 83) dX10_bringBack_83 rfl rfl ?_
    obtain ⟨mc2, ms2, K2, hC, e1, e2, h⟩ := h
    refine sg_VI (pc := 84) (av := []) (st := [vi a2, vr (mR μ a0 9)]) (K := K2) dX10_bringBack_84 ck_10_323 rfl (by decide) hk3 (by show (2 : Nat) ≤ 8; decide) hC e1 e2 (fun x2 m3 hK => ?_) rfl
    replace h := h x2 m3 hK
    obtain ⟨hk4, h⟩ := h
    obtain ⟨h1, h⟩ := h
    refine st_iastore (pc := 87) dX10_bringBack_87 hk4 h1.1 h1.2 ?_
    refine Wp.nameM (fun m4 em4 => ?_)
    replace h := h m4 em4
    refine sg_iinc (pc := 88) (ls' := [some (vr a0), some (vi a1), some (vi (w32 (a2 + 1)))]) dX10_bringBack_88 rfl rfl ?_
    refine Wp.nameL (ls2 := fun v => [some (vr a0), some (vi a1), some (vi v)]) 2 _ rfl (fun _ => rfl) (fun v1 ev1 => ?_)
    replace h := h v1 ev1
    refine st_goto (pc := 91) dX10_bringBack_91 rfl ?_
    exact h

theorem sg_X10_wholly_0 {d bc bs : Nat} {a0 : Nat} {a1 : Int} {a2 : Int} {μ : Mem} {Q : Option (Option AV) → Mem → Prop}
    (h : mK μ a0 = 11 ∧ ∃ (mc1 ms1 : Nat) (K1 : Mem → Prop), Cl d mc1 ms1 mX10_putBy [vr a0, vi 3] μ (KV K1) ∧ mc1 ≤ bc ∧ ms1 ≤ bs ∧ (∀ m1, K1 m1 → mK m1 a0 = 11 ∧ ∃ (mc2 ms2 : Nat) (K2 : Mem → Prop), Cl d mc2 ms2 mX10_begin [vr a0] m1 (KV K2) ∧ mc2 ≤ bc - mc1 ∧ ms2 ≤ bs - ms1 ∧ (∀ m2, K2 m2 → mK m2 a0 = 11 ∧ (∀ m3, m3 = sD m2 a0 10 a2 → ∃ (mc3 ms3 : Nat) (K3 : Mem → Prop), Cl d mc3 ms3 mX10_watch [vr a0] m3 (KV K3) ∧ mc3 ≤ bc - mc1 - mc2 ∧ ms3 ≤ bs - ms1 - ms2 ∧ (∀ m4, K3 m4 → mK m4 a0 = 11 ∧ ∃ (mc4 ms4 : Nat) (K4 : Int → Mem → Prop), Cl d mc4 ms4 mX10_goOn [vr a0, vi a1, vi 0, vi 1000, vi 1001] m4 (KI K4) ∧ mc4 ≤ bc - mc1 - mc2 - mc3 ∧ ms4 ≤ bs - ms1 - ms2 - ms3 ∧ (∀ x1 m5, K4 x1 m5 → mK m5 a0 = 11 ∧ ∃ (mc5 ms5 : Nat) (K5 : Mem → Prop), Cl d mc5 ms5 mX10_bringBack [vr a0, vi 3] m5 (KV K5) ∧ mc5 ≤ bc - mc1 - mc2 - mc3 - mc4 ∧ ms5 ≤ bs - ms1 - ms2 - ms3 - ms4 ∧ (∀ m6, K5 m6 → Q (some (some (vi x1))) m6))))))) :
    Wp (d + 1) bc bs mX10_wholly 0 [some (vr a0), some (vi a1), some (vi a2), none] [] μ Q := by
  refine st_aload_n (pc := 0) dX10_wholly_0 rfl rfl ?_
  refine sg_iconst (pc := 1) dX10_wholly_1 (by omega) ?_
  obtain ⟨hk1, h⟩ := h
  obtain ⟨mc1, ms1, K1, hC, e1, e2, h⟩ := h
  refine sg_VV (pc := 2) (av := [vi 3]) (st := []) (K := K1) dX10_wholly_2 ck_10_326 rfl (by decide) hk1 (by show (0 : Nat) ≤ 8; decide) hC e1 e2 (fun m1 hK => ?_) rfl
  replace h := h m1 hK
  refine st_aload_n (pc := 5) dX10_wholly_5 rfl rfl ?_
  obtain ⟨hk2, h⟩ := h
  obtain ⟨mc2, ms2, K2, hC, e1, e2, h⟩ := h
  refine sg_VV (pc := 6) (av := []) (st := []) (K := K2) dX10_wholly_6 ck_10_139 rfl (by decide) hk2 (by show (0 : Nat) ≤ 8; decide) hC e1 e2 (fun m2 hK => ?_) rfl
  replace h := h m2 hK
  refine st_aload_n (pc := 9) dX10_wholly_9 rfl rfl ?_
  refine st_iload_n (pc := 10) dX10_wholly_10 rfl rfl ?_
  obtain ⟨hk3, h⟩ := h
  refine sg_pfI (pc := 11) (J := 10) dX10_wholly_11 fl_10_38 rfl (Or.inl rfl) hk3 ?_
  refine Wp.nameM (fun m3 em3 => ?_)
  replace h := h m3 em3
  refine st_aload_n (pc := 14) dX10_wholly_14 rfl rfl ?_
  obtain ⟨mc3, ms3, K3, hC, e1, e2, h⟩ := h
  refine sg_VV (pc := 15) (av := []) (st := []) (K := K3) dX10_wholly_15 ck_10_310 rfl (by decide) (by cases em3; exact hk3) (by show (0 : Nat) ≤ 8; decide) hC e1 e2 (fun m4 hK => ?_) rfl
  replace h := h m4 hK
  refine st_aload_n (pc := 18) dX10_wholly_18 rfl rfl ?_
  refine st_iload_n (pc := 19) dX10_wholly_19 rfl rfl ?_
  refine sg_iconst (pc := 20) dX10_wholly_20 (by omega) ?_
  refine sg_sipush (pc := 21) dX10_wholly_21 (by omega) (by decide) ?_
  refine sg_sipush (pc := 24) dX10_wholly_24 (by omega) (by decide) ?_
  obtain ⟨hk4, h⟩ := h
  obtain ⟨mc4, ms4, K4, hC, e1, e2, h⟩ := h
  refine sg_VI (pc := 27) (av := [vi a1, vi 0, vi 1000, vi 1001]) (st := []) (K := K4) dX10_wholly_27 ck_10_313 rfl (by decide) hk4 (by show (0 : Nat) ≤ 8; decide) hC e1 e2 (fun x1 m5 hK => ?_) rfl
  replace h := h x1 m5 hK
  refine sg_istore_n (pc := 30) (ls' := [some (vr a0), some (vi a1), some (vi a2), some (vi x1)]) dX10_wholly_30 rfl (by show (3 : Nat) < 4; decide) rfl ?_
  refine st_aload_n (pc := 31) dX10_wholly_31 rfl rfl ?_
  refine sg_iconst (pc := 32) dX10_wholly_32 (by omega) ?_
  obtain ⟨hk5, h⟩ := h
  obtain ⟨mc5, ms5, K5, hC, e1, e2, h⟩ := h
  refine sg_VV (pc := 33) (av := [vi 3]) (st := []) (K := K5) dX10_wholly_33 ck_10_329 rfl (by decide) hk5 (by show (0 : Nat) ≤ 8; decide) hC e1 e2 (fun m6 hK => ?_) rfl
  replace h := h m6 hK
  refine st_iload_n (pc := 36) dX10_wholly_36 rfl rfl ?_
  exact st_ireturn (pc := 37) dX10_wholly_37 (Or.inl rfl) h

theorem sg_X10_letGo_0 {d bc bs : Nat} {a0 : Nat} {a1 : Int} {a2 : Int} {μ : Mem} {Q : Option (Option AV) → Mem → Prop}
    (h : mK μ a0 = 11 ∧ ∃ (mc1 ms1 : Nat) (K1 : Mem → Prop), Cl d mc1 ms1 mX10_putBy [vr a0, vi 3] μ (KV K1) ∧ mc1 ≤ bc ∧ ms1 ≤ bs ∧ (∀ m1, K1 m1 → mK m1 a0 = 11 ∧ ∃ (mc2 ms2 : Nat) (K2 : Mem → Prop), Cl d mc2 ms2 mX10_begin [vr a0] m1 (KV K2) ∧ mc2 ≤ bc - mc1 ∧ ms2 ≤ bs - ms1 ∧ (∀ m2, K2 m2 → mK m2 a0 = 11 ∧ ∃ (mc3 ms3 : Nat) (K3 : Mem → Prop), Cl d mc3 ms3 mX10_lean [vr a0, vi 0, vi a1] m2 (KV K3) ∧ mc3 ≤ bc - mc1 - mc2 ∧ ms3 ≤ bs - ms1 - ms2 ∧ (∀ m3, K3 m3 → mK m3 a0 = 11 ∧ (∃ (mc4 ms4 : Nat) (K4 : Int → Mem → Prop), Cl d mc4 ms4 mX10_slope [vr a0] m3 (KI K4) ∧ mc4 ≤ bc - mc1 - mc2 - mc3 ∧ ms4 ≤ bs - ms1 - ms2 - ms3 ∧ (∀ x1 m4, K4 x1 m4 → mK m4 (mR m3 a0 47) = 20 ∧ ((0 : Int) ≤ 0 ∧ 0 < (mN m4 (mR m3 a0 47) : Int)) ∧ (∀ m5, m5 = sD m4 (mR m3 a0 47) 0 x1 → Wp (d + 1) (bc - mc1 - mc2 - mc3 - mc4) (bs - ms1 - ms2 - ms3 - ms4) mX10_letGo 27 [some (vr a0), some (vi a1), some (vi a2), some (vi 1)] [] m5 Q))))))) :
    Wp (d + 1) bc bs mX10_letGo 0 [some (vr a0), some (vi a1), some (vi a2), none] [] μ Q := by
  refine st_aload_n (pc := 0) dX10_letGo_0 rfl rfl ?_
  refine sg_iconst (pc := 1) dX10_letGo_1 (by omega) ?_
  obtain ⟨hk1, h⟩ := h
  obtain ⟨mc1, ms1, K1, hC, e1, e2, h⟩ := h
  refine sg_VV (pc := 2) (av := [vi 3]) (st := []) (K := K1) dX10_letGo_2 ck_10_326 rfl (by decide) hk1 (by show (0 : Nat) ≤ 8; decide) hC e1 e2 (fun m1 hK => ?_) rfl
  replace h := h m1 hK
  refine st_aload_n (pc := 5) dX10_letGo_5 rfl rfl ?_
  obtain ⟨hk2, h⟩ := h
  obtain ⟨mc2, ms2, K2, hC, e1, e2, h⟩ := h
  refine sg_VV (pc := 6) (av := []) (st := []) (K := K2) dX10_letGo_6 ck_10_139 rfl (by decide) hk2 (by show (0 : Nat) ≤ 8; decide) hC e1 e2 (fun m2 hK => ?_) rfl
  replace h := h m2 hK
  refine st_aload_n (pc := 9) dX10_letGo_9 rfl rfl ?_
  refine sg_iconst (pc := 10) dX10_letGo_10 (by omega) ?_
  refine st_iload_n (pc := 11) dX10_letGo_11 rfl rfl ?_
  obtain ⟨hk3, h⟩ := h
  obtain ⟨mc3, ms3, K3, hC, e1, e2, h⟩ := h
  refine sg_VV (pc := 12) (av := [vi 0, vi a1]) (st := []) (K := K3) dX10_letGo_12 ck_10_171 rfl (by decide) hk3 (by show (0 : Nat) ≤ 8; decide) hC e1 e2 (fun m3 hK => ?_) rfl
  replace h := h m3 hK
  refine st_aload_n (pc := 15) dX10_letGo_15 rfl rfl ?_
  obtain ⟨hk4, h⟩ := h
  refine sg_gfR (pc := 16) (J := 47) dX10_letGo_16 fl_10_93 rfl hk4 ?_
  refine sg_iconst (pc := 19) dX10_letGo_19 (by omega) ?_
  refine st_aload_n (pc := 20) dX10_letGo_20 rfl rfl ?_
  obtain ⟨mc4, ms4, K4, hC, e1, e2, h⟩ := h
  refine sg_VI (pc := 21) (av := []) (st := [vi 0, vr (mR m3 a0 47)]) (K := K4) dX10_letGo_21 ck_10_175 rfl (by decide) hk4 (by show (2 : Nat) ≤ 8; decide) hC e1 e2 (fun x1 m4 hK => ?_) rfl
  replace h := h x1 m4 hK
  obtain ⟨hk5, h⟩ := h
  obtain ⟨h1, h⟩ := h
  refine st_iastore (pc := 24) dX10_letGo_24 hk5 h1.1 h1.2 ?_
  refine Wp.nameM (fun m5 em5 => ?_)
  replace h := h m5 em5
  refine sg_iconst (pc := 25) dX10_letGo_25 (by omega) ?_
  refine sg_istore_n (pc := 26) (ls' := [some (vr a0), some (vi a1), some (vi a2), some (vi 1)]) dX10_letGo_26 rfl (by show (3 : Nat) < 4; decide) rfl ?_
  exact h

theorem sg_X10_letGo_27 {d bc bs : Nat} {a0 : Nat} {a1 : Int} {a2 : Int} {a3 : Int} {μ : Mem} {Q : Option (Option AV) → Mem → Prop}
    (h : (a2 < a3 → mK μ a0 = 11 ∧ ∃ (mc1 ms1 : Nat) (K1 : Mem → Prop), Cl d mc1 ms1 mX10_bringBack [vr a0, vi 3] μ (KV K1) ∧ mc1 ≤ bc ∧ ms1 ≤ bs ∧ (∀ m1, K1 m1 → Q (some none) m1)) ∧ (¬ a2 < a3 → mK μ a0 = 11 ∧ ∃ (mc2 ms2 : Nat) (K2 : Int → Mem → Prop), Cl d mc2 ms2 mX10_pass [vr a0, vi 0, vi 0] μ (KI K2) ∧ mc2 ≤ bc ∧ ms2 ≤ bs ∧ (∀ x1 m2, K2 x1 m2 → mK m2 a0 = 11 ∧ (∃ (mc3 ms3 : Nat) (K3 : Int → Mem → Prop), Cl d mc3 ms3 mX10_slope [vr a0] m2 (KI K3) ∧ mc3 ≤ bc - mc2 ∧ ms3 ≤ bs - ms2 ∧ (∀ x2 m3, K3 x2 m3 → mK m3 (mR m2 a0 47) = 20 ∧ ((0 : Int) ≤ a3 ∧ a3 < (mN m3 (mR m2 a0 47) : Int)) ∧ (∀ m4, m4 = sD m3 (mR m2 a0 47) a3 x2 → ∀ v1, v1 = w32 (a3 + 1) → Wp (d + 1) (bc - mc2 - mc3) (bs - ms2 - ms3) mX10_letGo 27 [some (vr a0), some (vi a1), some (vi a2), some (vi v1)] [] m4 Q)))))) :
    Wp (d + 1) bc bs mX10_letGo 27 [some (vr a0), some (vi a1), some (vi a2), some (vi a3)] [] μ Q := by
  refine st_iload_n (pc := 27) dX10_letGo_27 rfl rfl ?_
  refine st_iload_n (pc := 28) dX10_letGo_28 rfl rfl ?_
  refine st_icmpgt (pc := 29) (tgt := 55) dX10_letGo_29 rfl (fun c => ?_) (fun c => ?_)
  · replace h := h.1 c
    refine st_aload_n (pc := 55) dX10_letGo_55 rfl rfl ?_
    refine sg_iconst (pc := 56) dX10_letGo_56 (by omega) ?_
    obtain ⟨hk1, h⟩ := h
    obtain ⟨mc1, ms1, K1, hC, e1, e2, h⟩ := h
    refine sg_VV (pc := 57) (av := [vi 3]) (st := []) (K := K1) dX10_letGo_57 ck_10_329 rfl (by decide) hk1 (by show (0 : Nat) ≤ 8; decide) hC e1 e2 (fun m1 hK => ?_) rfl
    replace h := h m1 hK
    exact st_return (pc := 60) dX10_letGo_60 rfl h
  · replace h := h.2 c
    refine st_aload_n (pc := 32) dX10_letGo_32 rfl rfl ?_
    refine sg_iconst (pc := 33) dX10_letGo_33 (by omega) ?_
    refine sg_iconst (pc := 34) dX10_letGo_34 (by omega) ?_
    obtain ⟨hk2, h⟩ := h
    obtain ⟨mc2, ms2, K2, hC, e1, e2, h⟩ := h
    refine sg_VI (pc := 35) (av := [vi 0, vi 0]) (st := []) (K := K2) dX10_letGo_35 ck_10_185 rfl (by decide) hk2 (by show (0 : Nat) ≤ 8; decide) hC e1 e2 (fun x1 m2 hK => ?_) rfl
    replace h := h x1 m2 hK
    refine st_pop (pc := 38) dX10_letGo_38 rfl ?_
    refine st_aload_n (pc := 39) dX10_letGo_39 rfl rfl ?_
    obtain ⟨hk3, h⟩ := h
    refine sg_gfR (pc := 40) (J := 47) dX10_letGo_40 fl_10_93 rfl hk3 ?_
    refine st_iload_n (pc := 43) dX10_letGo_43 rfl rfl ?_
    refine st_aload_n (pc := 44) dX10_letGo_44 rfl rfl ?_
    obtain ⟨mc3, ms3, K3, hC, e1, e2, h⟩ := h
    refine sg_VI (pc := 45) (av := []) (st := [vi a3, vr (mR m2 a0 47)]) (K := K3) dX10_letGo_45 ck_10_175 rfl (by decide) hk3 (by show (2 : Nat) ≤ 8; decide) hC e1 e2 (fun x2 m3 hK => ?_) rfl
    replace h := h x2 m3 hK
    obtain ⟨hk4, h⟩ := h
    obtain ⟨h1, h⟩ := h
    refine st_iastore (pc := 48) dX10_letGo_48 hk4 h1.1 h1.2 ?_
    refine Wp.nameM (fun m4 em4 => ?_)
    replace h := h m4 em4
    refine sg_iinc (pc := 49) (ls' := [some (vr a0), some (vi a1), some (vi a2), some (vi (w32 (a3 + 1)))]) dX10_letGo_49 rfl rfl ?_
    refine Wp.nameL (ls2 := fun v => [some (vr a0), some (vi a1), some (vi a2), some (vi v)]) 3 _ rfl (fun _ => rfl) (fun v1 ev1 => ?_)
    replace h := h v1 ev1
    refine st_goto (pc := 52) dX10_letGo_52 rfl ?_
    exact h

theorem sg_X10_isTilt_0 {d bc bs : Nat} {a0 : Int} {μ : Mem} {Q : Option (Option AV) → Mem → Prop}
    (h : ∃ (mc1 ms1 : Nat) (K1 : Int → Mem → Prop), Cl d mc1 ms1 mX10_in [vi a0, vi 1, vi 500] μ (KI K1) ∧ mc1 ≤ bc ∧ ms1 ≤ bs ∧ (∀ x1 m1, K1 x1 m1 → (x1 = 0 ∨ x1 = 1) ∧ Q (some (some (vi x1))) m1)) :
    Wp (d + 1) bc bs mX10_isTilt 0 [some (vi a0)] [] μ Q := by
  refine st_iload_n (pc := 0) dX10_isTilt_0 rfl rfl ?_
  refine sg_iconst (pc := 1) dX10_isTilt_1 (by omega) ?_
  refine sg_sipush (pc := 2) dX10_isTilt_2 (by omega) (by decide) ?_
  obtain ⟨mc1, ms1, K1, hC, e1, e2, h⟩ := h
  refine sg_SI (pc := 5) (av := [vi a0, vi 1, vi 500]) (st := []) (K := K1) dX10_isTilt_5 ck_10_151 rfl (by show (0 : Nat) ≤ 8; decide) hC e1 e2 (fun x1 m1 hK => ?_) rfl
  replace h := h x1 m1 hK
  exact st_ireturn (pc := 8) dX10_isTilt_8 (Or.inr ⟨rfl, h.1⟩) h.2

theorem sg_X10_swing_0 {d bc bs : Nat} {a0 : Nat} {a1 : Int} {μ : Mem} {Q : Option (Option AV) → Mem → Prop}
    (h : mK μ a0 = 11 ∧ (∀ m1, m1 = sD μ a0 15 0 → ∃ (mc1 ms1 : Nat) (K1 : Int → Mem → Prop), Cl d mc1 ms1 mX10_isTilt [vi a1] m1 (KI K1) ∧ mc1 ≤ bc ∧ ms1 ≤ bs ∧ (∀ x1 m2, K1 x1 m2 → (¬ x1 = 0 → mK m2 a0 = 11 ∧ ∃ (mc2 ms2 : Nat) (K2 : Mem → Prop), Cl d mc2 ms2 mX10_letGo [vr a0, vi a1, vi 400] m2 (KV K2) ∧ mc2 ≤ bc - mc1 ∧ ms2 ≤ bs - ms1 ∧ (∀ m3, K2 m3 → Wp (d + 1) (bc - mc1 - mc2) (bs - ms1 - ms2) mX10_swing 24 [some (vr a0), some (vi a1), some (vi 2)] [] m3 Q)) ∧ (x1 = 0 → Q (some (some (vi (-1)))) m2)))) :
    Wp (d + 1) bc bs mX10_swing 0 [some (vr a0), some (vi a1), none] [] μ Q := by
  refine st_aload_n (pc := 0) dX10_swing_0 rfl rfl ?_
  refine sg_iconst (pc := 1) dX10_swing_1 (by omega) ?_
  obtain ⟨hk1, h⟩ := h
  refine sg_pfI (pc := 2) (J := 15) dX10_swing_2 fl_10_142 rfl (Or.inl rfl) hk1 ?_
  refine Wp.nameM (fun m1 em1 => ?_)
  replace h := h m1 em1
  refine st_iload_n (pc := 5) dX10_swing_5 rfl rfl ?_
  obtain ⟨mc1, ms1, K1, hC, e1, e2, h⟩ := h
  refine sg_SI (pc := 6) (av := [vi a1]) (st := []) (K := K1) dX10_swing_6 ck_10_332 rfl (by show (0 : Nat) ≤ 8; decide) hC e1 e2 (fun x1 m2 hK => ?_) rfl
  replace h := h x1 m2 hK
  refine st_ifne (pc := 9) (tgt := 14) dX10_swing_9 rfl (fun c => ?_) (fun c => ?_)
  · replace h := h.1 c
    refine st_aload_n (pc := 14) dX10_swing_14 rfl rfl ?_
    refine st_iload_n (pc := 15) dX10_swing_15 rfl rfl ?_
    refine sg_sipush (pc := 16) dX10_swing_16 (by omega) (by decide) ?_
    obtain ⟨hk2, h⟩ := h
    obtain ⟨mc2, ms2, K2, hC, e1, e2, h⟩ := h
    refine sg_VV (pc := 19) (av := [vi a1, vi 400]) (st := []) (K := K2) dX10_swing_19 ck_10_335 rfl (by decide) hk2 (by show (0 : Nat) ≤ 8; decide) hC e1 e2 (fun m3 hK => ?_) rfl
    replace h := h m3 hK
    refine sg_iconst (pc := 22) dX10_swing_22 (by omega) ?_
    refine sg_istore_n (pc := 23) (ls' := [some (vr a0), some (vi a1), some (vi 2)]) dX10_swing_23 rfl (by show (2 : Nat) < 3; decide) rfl ?_
    exact h
  · replace h := h.2 c
    refine sg_iconst (pc := 12) dX10_swing_12 (by omega) ?_
    exact st_ireturn (pc := 13) dX10_swing_13 (Or.inl rfl) h

theorem sg_X10_swing_24 {d bc bs : Nat} {a0 : Nat} {a1 : Int} {a2 : Int} {μ : Mem} {Q : Option (Option AV) → Mem → Prop}
    (h : (400 ≤ a2 → Q (some (some (vi (-2)))) μ) ∧ (¬ 400 ≤ a2 → mK μ a0 = 11 ∧ ((mK μ (mR μ a0 47) = 20 ∨ ((mR μ a0 47) ≠ 0 ∧ mK μ (mR μ a0 47) = 40)) ∧ ((0 : Int) ≤ a2 ∧ a2 < (mN μ (mR μ a0 47) : Int)) ∧ (((0 : Int) ≤ (w32 (a2 - 1)) ∧ (w32 (a2 - 1)) < (mN μ (mR μ a0 47) : Int)) ∧ (((mD μ (mR μ a0 47) a2) ≤ (mD μ (mR μ a0 47) (w32 (a2 - 1))) → ∀ v1, v1 = w32 (a2 + 1) → Wp (d + 1) bc bs mX10_swing 24 [some (vr a0), some (vi a1), some (vi v1)] [] μ Q) ∧ (¬ (mD μ (mR μ a0 47) a2) ≤ (mD μ (mR μ a0 47) (w32 (a2 - 1))) → ((0 : Int) ≤ a2 ∧ a2 < (mN μ (mR μ a0 47) : Int)) ∧ (((0 : Int) ≤ (w32 (a2 + 1)) ∧ (w32 (a2 + 1)) < (mN μ (mR μ a0 47) : Int)) ∧ (((mD μ (mR μ a0 47) (w32 (a2 + 1))) ≤ (mD μ (mR μ a0 47) a2) → (∀ m1, m1 = sD μ a0 14 0 → ((0 : Int) ≤ 0 ∧ 0 < (mN m1 (mR m1 a0 47) : Int)) ∧ (∃ (mc1 ms1 : Nat) (K1 : Mem → Prop), Cl d mc1 ms1 mX10_tell [vr a0, vl (mD m1 (mR m1 a0 47) 0)] m1 (KV K1) ∧ mc1 ≤ bc ∧ ms1 ≤ bs ∧ (∀ m2, K1 m2 → mK m2 a0 = 11 ∧ ((mK m2 (mR m2 a0 47) = 20 ∨ ((mR m2 a0 47) ≠ 0 ∧ mK m2 (mR m2 a0 47) = 40)) ∧ ((0 : Int) ≤ a2 ∧ a2 < (mN m2 (mR m2 a0 47) : Int)) ∧ (∃ (mc2 ms2 : Nat) (K2 : Mem → Prop), Cl d mc2 ms2 mX10_tell [vr a0, vl (mD m2 (mR m2 a0 47) a2)] m2 (KV K2) ∧ mc2 ≤ bc - mc1 ∧ ms2 ≤ bs - ms1 ∧ (∀ m3, K2 m3 → Q (some (some (vi a2))) m3))))))) ∧ (¬ (mD μ (mR μ a0 47) (w32 (a2 + 1))) ≤ (mD μ (mR μ a0 47) a2) → ∀ v2, v2 = w32 (a2 + 1) → Wp (d + 1) bc bs mX10_swing 24 [some (vr a0), some (vi a1), some (vi v2)] [] μ Q))))))))) :
    Wp (d + 1) bc bs mX10_swing 24 [some (vr a0), some (vi a1), some (vi a2)] [] μ Q := by
  refine st_iload_n (pc := 24) dX10_swing_24 rfl rfl ?_
  refine sg_sipush (pc := 25) dX10_swing_25 (by omega) (by decide) ?_
  refine st_icmpge (pc := 28) (tgt := 103) dX10_swing_28 rfl (fun c => ?_) (fun c => ?_)
  · replace h := h.1 c
    refine sg_bipush (pc := 103) dX10_swing_103 (by omega) (by decide) ?_
    exact st_ireturn (pc := 105) dX10_swing_105 (Or.inl rfl) h
  · replace h := h.2 c
    refine st_aload_n (pc := 31) dX10_swing_31 rfl rfl ?_
    obtain ⟨hk1, h⟩ := h
    refine sg_gfR (pc := 32) (J := 47) dX10_swing_32 fl_10_93 rfl hk1 ?_
    refine st_iload_n (pc := 35) dX10_swing_35 rfl rfl ?_
    obtain ⟨hk2, h⟩ := h
    obtain ⟨h1, h⟩ := h
    refine sg_iaload (pc := 36) dX10_swing_36 hk2 h1 ?_
    refine st_aload_n (pc := 37) dX10_swing_37 rfl rfl ?_
    refine sg_gfR (pc := 38) (J := 47) dX10_swing_38 fl_10_93 rfl hk1 ?_
    refine st_iload_n (pc := 41) dX10_swing_41 rfl rfl ?_
    refine sg_iconst (pc := 42) dX10_swing_42 (by omega) ?_
    refine st_isub (pc := 43) dX10_swing_43 ?_
    obtain ⟨h1, h⟩ := h
    refine sg_iaload (pc := 44) dX10_swing_44 hk2 h1 ?_
    refine st_icmple (pc := 45) (tgt := 97) dX10_swing_45 rfl (fun c => ?_) (fun c => ?_)
    · replace h := h.1 c
      refine sg_iinc (pc := 97) (ls' := [some (vr a0), some (vi a1), some (vi (w32 (a2 + 1)))]) dX10_swing_97 rfl rfl ?_
      refine Wp.nameL (ls2 := fun v => [some (vr a0), some (vi a1), some (vi v)]) 2 _ rfl (fun _ => rfl) (fun v1 ev1 => ?_)
      replace h := h v1 ev1
      refine st_goto (pc := 100) dX10_swing_100 rfl ?_
      exact h
    · replace h := h.2 c
      refine st_aload_n (pc := 48) dX10_swing_48 rfl rfl ?_
      refine sg_gfR (pc := 49) (J := 47) dX10_swing_49 fl_10_93 rfl hk1 ?_
      refine st_iload_n (pc := 52) dX10_swing_52 rfl rfl ?_
      obtain ⟨h1, h⟩ := h
      refine sg_iaload (pc := 53) dX10_swing_53 hk2 h1 ?_
      refine st_aload_n (pc := 54) dX10_swing_54 rfl rfl ?_
      refine sg_gfR (pc := 55) (J := 47) dX10_swing_55 fl_10_93 rfl hk1 ?_
      refine st_iload_n (pc := 58) dX10_swing_58 rfl rfl ?_
      refine sg_iconst (pc := 59) dX10_swing_59 (by omega) ?_
      refine st_iadd (pc := 60) dX10_swing_60 ?_
      obtain ⟨h1, h⟩ := h
      refine sg_iaload (pc := 61) dX10_swing_61 hk2 h1 ?_
      refine st_icmpge (pc := 62) (tgt := 68) dX10_swing_62 rfl (fun c => ?_) (fun c => ?_)
      · replace h := h.1 c
        refine st_aload_n (pc := 68) dX10_swing_68 rfl rfl ?_
        refine sg_iconst (pc := 69) dX10_swing_69 (by omega) ?_
        refine sg_pfI (pc := 70) (J := 14) dX10_swing_70 fl_10_145 rfl (Or.inl rfl) hk1 ?_
        refine Wp.nameM (fun m1 em1 => ?_)
        replace h := h m1 em1
        refine st_aload_n (pc := 73) dX10_swing_73 rfl rfl ?_
        refine st_aload_n (pc := 74) dX10_swing_74 rfl rfl ?_
        refine sg_gfR (pc := 75) (J := 47) dX10_swing_75 fl_10_93 rfl (by cases em1; exact hk1) ?_
        refine sg_iconst (pc := 78) dX10_swing_78 (by omega) ?_
        obtain ⟨h1, h⟩ := h
        refine sg_iaload (pc := 79) dX10_swing_79 (by cases em1; exact hk2) h1 ?_
        refine st_i2l (pc := 80) dX10_swing_80 ?_
        obtain ⟨mc1, ms1, K1, hC, e1, e2, h⟩ := h
        refine sg_VV (pc := 81) (av := [vl (mD m1 (mR m1 a0 47) 0)]) (st := []) (K := K1) dX10_swing_81 ck_10_252 rfl (by decide) (by cases em1; exact hk1) (by show (0 : Nat) ≤ 8; decide) hC e1 e2 (fun m2 hK => ?_) rfl
        replace h := h m2 hK
        refine st_aload_n (pc := 84) dX10_swing_84 rfl rfl ?_
        refine st_aload_n (pc := 85) dX10_swing_85 rfl rfl ?_
        obtain ⟨hk3, h⟩ := h
        refine sg_gfR (pc := 86) (J := 47) dX10_swing_86 fl_10_93 rfl hk3 ?_
        refine st_iload_n (pc := 89) dX10_swing_89 rfl rfl ?_
        obtain ⟨hk4, h⟩ := h
        obtain ⟨h1, h⟩ := h
        refine sg_iaload (pc := 90) dX10_swing_90 hk4 h1 ?_
        refine st_i2l (pc := 91) dX10_swing_91 ?_
        obtain ⟨mc2, ms2, K2, hC, e1, e2, h⟩ := h
        refine sg_VV (pc := 92) (av := [vl (mD m2 (mR m2 a0 47) a2)]) (st := []) (K := K2) dX10_swing_92 ck_10_252 rfl (by decide) hk3 (by show (0 : Nat) ≤ 8; decide) hC e1 e2 (fun m3 hK => ?_) rfl
        replace h := h m3 hK
        refine st_iload_n (pc := 95) dX10_swing_95 rfl rfl ?_
        exact st_ireturn (pc := 96) dX10_swing_96 (Or.inl rfl) h
      · replace h := h.2 c
        refine st_goto (pc := 65) dX10_swing_65 rfl ?_
        refine sg_iinc (pc := 97) (ls' := [some (vr a0), some (vi a1), some (vi (w32 (a2 + 1)))]) dX10_swing_97 rfl rfl ?_
        refine Wp.nameL (ls2 := fun v => [some (vr a0), some (vi a1), some (vi v)]) 2 _ rfl (fun _ => rfl) (fun v2 ev2 => ?_)
        replace h := h v2 ev2
        refine st_goto (pc := 100) dX10_swing_100 rfl ?_
        exact h

theorem sg_X10_dies_0 {d bc bs : Nat} {a0 : Nat} {a1 : Int} {a2 : Int} {μ : Mem} {Q : Option (Option AV) → Mem → Prop}
    (h : mK μ a0 = 11 ∧ (∀ m1, m1 = sD μ a0 15 0 → ∃ (mc1 ms1 : Nat) (K1 : Int → Mem → Prop), Cl d mc1 ms1 mX10_isTilt [vi a1] m1 (KI K1) ∧ mc1 ≤ bc ∧ ms1 ≤ bs ∧ (∀ x1 m2, K1 x1 m2 → (x1 = 0 → Q (some (some (vi (-1)))) m2) ∧ (¬ x1 = 0 → ∃ (mc2 ms2 : Nat) (K2 : Int → Mem → Prop), Cl d mc2 ms2 mX10_in [vi a2, vi 1, vi 100] m2 (KI K2) ∧ mc2 ≤ bc - mc1 ∧ ms2 ≤ bs - ms1 ∧ (∀ x2 m3, K2 x2 m3 → (¬ x2 = 0 → mK m3 a0 = 11 ∧ ∃ (mc3 ms3 : Nat) (K3 : Mem → Prop), Cl d mc3 ms3 mX10_letGo [vr a0, vi a1, vi 400] m3 (KV K3) ∧ mc3 ≤ bc - mc1 - mc2 ∧ ms3 ≤ bs - ms1 - ms2 ∧ (∀ m4, K3 m4 → mK m4 a0 = 11 ∧ ((mK m4 (mR m4 a0 47) = 20 ∨ ((mR m4 a0 47) ≠ 0 ∧ mK m4 (mR m4 a0 47) = 40)) ∧ ((0 : Int) ≤ 0 ∧ 0 < (mN m4 (mR m4 a0 47) : Int)) ∧ (∃ (mc4 ms4 : Nat) (K4 : Int → Mem → Prop), Cl d mc4 ms4 mJ9_abs_0f7a4 [vi (mD m4 (mR m4 a0 47) 0)] m4 (KI K4) ∧ mc4 ≤ bc - mc1 - mc2 - mc3 ∧ ms4 ≤ bs - ms1 - ms2 - ms3 ∧ (∀ x3 m5, K4 x3 m5 → ∀ v1, v1 = w32 ((w32 (x3 * a2)).tdiv 100) → Wp (d + 1) (bc - mc1 - mc2 - mc3 - mc4) (bs - ms1 - ms2 - ms3 - ms4) mX10_dies 52 [some (vr a0), some (vi a1), some (vi a2), some (vi v1), some (vi 401)] [] m5 Q))))) ∧ (x2 = 0 → Q (some (some (vi (-1)))) m3)))))) :
    Wp (d + 1) bc bs mX10_dies 0 [some (vr a0), some (vi a1), some (vi a2), none, none] [] μ Q := by
  refine st_aload_n (pc := 0) dX10_dies_0 rfl rfl ?_
  refine sg_iconst (pc := 1) dX10_dies_1 (by omega) ?_
  obtain ⟨hk1, h⟩ := h
  refine sg_pfI (pc := 2) (J := 15) dX10_dies_2 fl_10_142 rfl (Or.inl rfl) hk1 ?_
  refine Wp.nameM (fun m1 em1 => ?_)
  replace h := h m1 em1
  refine st_iload_n (pc := 5) dX10_dies_5 rfl rfl ?_
  obtain ⟨mc1, ms1, K1, hC, e1, e2, h⟩ := h
  refine sg_SI (pc := 6) (av := [vi a1]) (st := []) (K := K1) dX10_dies_6 ck_10_332 rfl (by show (0 : Nat) ≤ 8; decide) hC e1 e2 (fun x1 m2 hK => ?_) rfl
  replace h := h x1 m2 hK
  refine st_ifeq (pc := 9) (tgt := 22) dX10_dies_9 rfl (fun c => ?_) (fun c => ?_)
  · replace h := h.1 c
    refine sg_iconst (pc := 22) dX10_dies_22 (by omega) ?_
    exact st_ireturn (pc := 23) dX10_dies_23 (Or.inl rfl) h
  · replace h := h.2 c
    refine st_iload_n (pc := 12) dX10_dies_12 rfl rfl ?_
    refine sg_iconst (pc := 13) dX10_dies_13 (by omega) ?_
    refine sg_bipush (pc := 14) dX10_dies_14 (by omega) (by decide) ?_
    obtain ⟨mc2, ms2, K2, hC, e1, e2, h⟩ := h
    refine sg_SI (pc := 16) (av := [vi a2, vi 1, vi 100]) (st := []) (K := K2) dX10_dies_16 ck_10_151 rfl (by show (0 : Nat) ≤ 8; decide) hC e1 e2 (fun x2 m3 hK => ?_) rfl
    replace h := h x2 m3 hK
    refine st_ifne (pc := 19) (tgt := 24) dX10_dies_19 rfl (fun c => ?_) (fun c => ?_)
    · replace h := h.1 c
      refine st_aload_n (pc := 24) dX10_dies_24 rfl rfl ?_
      refine st_iload_n (pc := 25) dX10_dies_25 rfl rfl ?_
      refine sg_sipush (pc := 26) dX10_dies_26 (by omega) (by decide) ?_
      obtain ⟨hk2, h⟩ := h
      obtain ⟨mc3, ms3, K3, hC, e1, e2, h⟩ := h
      refine sg_VV (pc := 29) (av := [vi a1, vi 400]) (st := []) (K := K3) dX10_dies_29 ck_10_335 rfl (by decide) hk2 (by show (0 : Nat) ≤ 8; decide) hC e1 e2 (fun m4 hK => ?_) rfl
      replace h := h m4 hK
      refine st_aload_n (pc := 32) dX10_dies_32 rfl rfl ?_
      obtain ⟨hk3, h⟩ := h
      refine sg_gfR (pc := 33) (J := 47) dX10_dies_33 fl_10_93 rfl hk3 ?_
      refine sg_iconst (pc := 36) dX10_dies_36 (by omega) ?_
      obtain ⟨hk4, h⟩ := h
      obtain ⟨h1, h⟩ := h
      refine sg_iaload (pc := 37) dX10_dies_37 hk4 h1 ?_
      obtain ⟨mc4, ms4, K4, hC, e1, e2, h⟩ := h
      refine sg_SI (pc := 38) (av := [vi (mD m4 (mR m4 a0 47) 0)]) (st := []) (K := K4) dX10_dies_38 ck_10_248 rfl (by show (0 : Nat) ≤ 8; decide) hC e1 e2 (fun x3 m5 hK => ?_) rfl
      replace h := h x3 m5 hK
      refine st_iload_n (pc := 41) dX10_dies_41 rfl rfl ?_
      refine st_imul (pc := 42) dX10_dies_42 ?_
      refine sg_bipush (pc := 43) dX10_dies_43 (by omega) (by decide) ?_
      refine st_idiv (pc := 45) dX10_dies_45 (by omega) ?_
      refine sg_istore_n (pc := 46) (ls' := [some (vr a0), some (vi a1), some (vi a2), some (vi (w32 ((w32 (x3 * a2)).tdiv 100))), none]) dX10_dies_46 rfl (by show (3 : Nat) < 5; decide) rfl ?_
      refine Wp.nameL (ls2 := fun v => [some (vr a0), some (vi a1), some (vi a2), some (vi v), none]) 3 _ rfl (fun _ => rfl) (fun v1 ev1 => ?_)
      replace h := h v1 ev1
      refine sg_sipush (pc := 47) dX10_dies_47 (by omega) (by decide) ?_
      refine sg_istore (pc := 50) (ls' := [some (vr a0), some (vi a1), some (vi a2), some (vi v1), some (vi 401)]) dX10_dies_50 (by show (4 : Nat) < 5; decide) rfl ?_
      exact h
    · replace h := h.2 c
      refine sg_iconst (pc := 22) dX10_dies_22 (by omega) ?_
      exact st_ireturn (pc := 23) dX10_dies_23 (Or.inl rfl) h

theorem sg_X10_dies_52 {d bc bs : Nat} {a0 : Nat} {a1 : Int} {a2 : Int} {a3 : Int} {a4 : Int} {μ : Mem} {Q : Option (Option AV) → Mem → Prop}
    (h : (a4 ≤ 0 → Wp (d + 1) bc bs mX10_dies 79 [some (vr a0), some (vi a1), some (vi a2), some (vi a3), some (vi a4)] [] μ Q) ∧ (¬ a4 ≤ 0 → mK μ a0 = 11 ∧ ((mK μ (mR μ a0 47) = 20 ∨ ((mR μ a0 47) ≠ 0 ∧ mK μ (mR μ a0 47) = 40)) ∧ ((0 : Int) ≤ (w32 (a4 - 1)) ∧ (w32 (a4 - 1)) < (mN μ (mR μ a0 47) : Int)) ∧ (∃ (mc1 ms1 : Nat) (K1 : Int → Mem → Prop), Cl d mc1 ms1 mJ9_abs_0f7a4 [vi (mD μ (mR μ a0 47) (w32 (a4 - 1)))] μ (KI K1) ∧ mc1 ≤ bc ∧ ms1 ≤ bs ∧ (∀ x1 m1, K1 x1 m1 → (a3 < x1 → Wp (d + 1) (bc - mc1) (bs - ms1) mX10_dies 79 [some (vr a0), some (vi a1), some (vi a2), some (vi a3), some (vi a4)] [] m1 Q) ∧ (¬ a3 < x1 → ∀ v1, v1 = w32 (a4 + (-1)) → Wp (d + 1) (bc - mc1) (bs - ms1) mX10_dies 52 [some (vr a0), some (vi a1), some (vi a2), some (vi a3), some (vi v1)] [] m1 Q)))))) :
    Wp (d + 1) bc bs mX10_dies 52 [some (vr a0), some (vi a1), some (vi a2), some (vi a3), some (vi a4)] [] μ Q := by
  refine st_iload (pc := 52) dX10_dies_52 rfl ?_
  refine st_ifle (pc := 54) (tgt := 79) dX10_dies_54 rfl (fun c => ?_) (fun c => ?_)
  · replace h := h.1 c
    exact h
  · replace h := h.2 c
    refine st_aload_n (pc := 57) dX10_dies_57 rfl rfl ?_
    obtain ⟨hk1, h⟩ := h
    refine sg_gfR (pc := 58) (J := 47) dX10_dies_58 fl_10_93 rfl hk1 ?_
    refine st_iload (pc := 61) dX10_dies_61 rfl ?_
    refine sg_iconst (pc := 63) dX10_dies_63 (by omega) ?_
    refine st_isub (pc := 64) dX10_dies_64 ?_
    obtain ⟨hk2, h⟩ := h
    obtain ⟨h1, h⟩ := h
    refine sg_iaload (pc := 65) dX10_dies_65 hk2 h1 ?_
    obtain ⟨mc1, ms1, K1, hC, e1, e2, h⟩ := h
    refine sg_SI (pc := 66) (av := [vi (mD μ (mR μ a0 47) (w32 (a4 - 1)))]) (st := []) (K := K1) dX10_dies_66 ck_10_248 rfl (by show (0 : Nat) ≤ 8; decide) hC e1 e2 (fun x1 m1 hK => ?_) rfl
    replace h := h x1 m1 hK
    refine st_iload_n (pc := 69) dX10_dies_69 rfl rfl ?_
    refine st_icmpgt (pc := 70) (tgt := 79) dX10_dies_70 rfl (fun c => ?_) (fun c => ?_)
    · replace h := h.1 c
      exact h
    · replace h := h.2 c
      refine sg_iinc (pc := 73) (ls' := [some (vr a0), some (vi a1), some (vi a2), some (vi a3), some (vi (w32 (a4 + (-1))))]) dX10_dies_73 rfl rfl ?_
      refine Wp.nameL (ls2 := fun v => [some (vr a0), some (vi a1), some (vi a2), some (vi a3), some (vi v)]) 4 _ rfl (fun _ => rfl) (fun v1 ev1 => ?_)
      replace h := h v1 ev1
      refine st_goto (pc := 76) dX10_dies_76 rfl ?_
      exact h

theorem sg_X10_dies_79 {d bc bs : Nat} {a0 : Nat} {a1 : Int} {a2 : Int} {a3 : Int} {a4 : Int} {μ : Mem} {Q : Option (Option AV) → Mem → Prop}
    (h : (a4 ≤ 400 → Q (some (some (vi a4))) μ) ∧ (¬ a4 ≤ 400 → Q (some (some (vi (-2)))) μ)) :
    Wp (d + 1) bc bs mX10_dies 79 [some (vr a0), some (vi a1), some (vi a2), some (vi a3), some (vi a4)] [] μ Q := by
  refine st_iload (pc := 79) dX10_dies_79 rfl ?_
  refine sg_sipush (pc := 81) dX10_dies_81 (by omega) (by decide) ?_
  refine st_icmple (pc := 84) (tgt := 92) dX10_dies_84 rfl (fun c => ?_) (fun c => ?_)
  · replace h := h.1 c
    refine st_iload (pc := 92) dX10_dies_92 rfl ?_
    exact st_ireturn (pc := 94) dX10_dies_94 (Or.inl rfl) h
  · replace h := h.2 c
    refine sg_bipush (pc := 87) dX10_dies_87 (by omega) (by decide) ?_
    refine st_goto (pc := 89) dX10_dies_89 rfl ?_
    exact st_ireturn (pc := 94) dX10_dies_94 (Or.inl rfl) h

theorem sg_X10_worst_0 {d bc bs : Nat} {a0 : Nat} {a1 : Int} {μ : Mem} {Q : Option (Option AV) → Mem → Prop}
    (h : mK μ a0 = 11 ∧ (∀ m1, m1 = sD μ a0 15 0 → ∃ (mc1 ms1 : Nat) (K1 : Int → Mem → Prop), Cl d mc1 ms1 mX10_in [vi a1, vi 1, vi 200] m1 (KI K1) ∧ mc1 ≤ bc ∧ ms1 ≤ bs ∧ (∀ x1 m2, K1 x1 m2 → (¬ x1 = 0 → mK m2 a0 = 11 ∧ ((mK m2 (mR m2 a0 3) = 20 ∨ ((mR m2 a0 3) ≠ 0 ∧ mK m2 (mR m2 a0 3) = 40)) ∧ ((0 : Int) ≤ 4 ∧ 4 < (mN m2 (mR m2 a0 3) : Int)) ∧ (∀ v1, v1 = mD m2 (mR m2 a0 3) 4 → mK m2 (mR m2 a0 3) = 20 ∧ ((0 : Int) ≤ 4 ∧ 4 < (mN m2 (mR m2 a0 3) : Int)) ∧ (∀ m3, m3 = sD m2 (mR m2 a0 3) 4 100 → ∃ (mc2 ms2 : Nat) (K2 : Mem → Prop), Cl d mc2 ms2 mX10_putBy [vr a0, vi 3] m3 (KV K2) ∧ mc2 ≤ bc - mc1 ∧ ms2 ≤ bs - ms1 ∧ (∀ m4, K2 m4 → Wp (d + 1) (bc - mc1 - mc2) (bs - ms1 - ms2) mX10_worst 46 [some (vr a0), some (vi a1), some (vi (-1)), some (vi 0), some (vi v1), some (vi 2), none, none] [] m4 Q))))) ∧ (x1 = 0 → Q (some (some (vi (-1)))) m2)))) :
    Wp (d + 1) bc bs mX10_worst 0 [some (vr a0), some (vi a1), none, none, none, none, none, none] [] μ Q := by
  refine st_aload_n (pc := 0) dX10_worst_0 rfl rfl ?_
  refine sg_iconst (pc := 1) dX10_worst_1 (by omega) ?_
  obtain ⟨hk1, h⟩ := h
  refine sg_pfI (pc := 2) (J := 15) dX10_worst_2 fl_10_142 rfl (Or.inl rfl) hk1 ?_
  refine Wp.nameM (fun m1 em1 => ?_)
  replace h := h m1 em1
  refine st_iload_n (pc := 5) dX10_worst_5 rfl rfl ?_
  refine sg_iconst (pc := 6) dX10_worst_6 (by omega) ?_
  refine sg_sipush (pc := 7) dX10_worst_7 (by omega) (by decide) ?_
  obtain ⟨mc1, ms1, K1, hC, e1, e2, h⟩ := h
  refine sg_SI (pc := 10) (av := [vi a1, vi 1, vi 200]) (st := []) (K := K1) dX10_worst_10 ck_10_151 rfl (by show (0 : Nat) ≤ 8; decide) hC e1 e2 (fun x1 m2 hK => ?_) rfl
  replace h := h x1 m2 hK
  refine st_ifne (pc := 13) (tgt := 18) dX10_worst_13 rfl (fun c => ?_) (fun c => ?_)
  · replace h := h.1 c
    refine sg_iconst (pc := 18) dX10_worst_18 (by omega) ?_
    refine sg_istore_n (pc := 19) (ls' := [some (vr a0), some (vi a1), some (vi (-1)), none, none, none, none, none]) dX10_worst_19 rfl (by show (2 : Nat) < 8; decide) rfl ?_
    refine sg_iconst (pc := 20) dX10_worst_20 (by omega) ?_
    refine sg_istore_n (pc := 21) (ls' := [some (vr a0), some (vi a1), some (vi (-1)), some (vi 0), none, none, none, none]) dX10_worst_21 rfl (by show (3 : Nat) < 8; decide) rfl ?_
    refine st_aload_n (pc := 22) dX10_worst_22 rfl rfl ?_
    obtain ⟨hk2, h⟩ := h
    refine sg_gfR (pc := 23) (J := 3) dX10_worst_23 fl_10_19 rfl hk2 ?_
    refine sg_iconst (pc := 26) dX10_worst_26 (by omega) ?_
    obtain ⟨hk3, h⟩ := h
    obtain ⟨h1, h⟩ := h
    refine sg_iaload (pc := 27) dX10_worst_27 hk3 h1 ?_
    refine sg_istore (pc := 28) (ls' := [some (vr a0), some (vi a1), some (vi (-1)), some (vi 0), some (vi (mD m2 (mR m2 a0 3) 4)), none, none, none]) dX10_worst_28 (by show (4 : Nat) < 8; decide) rfl ?_
    refine Wp.nameL (ls2 := fun v => [some (vr a0), some (vi a1), some (vi (-1)), some (vi 0), some (vi v), none, none, none]) 4 _ rfl (fun _ => rfl) (fun v1 ev1 => ?_)
    replace h := h v1 ev1
    refine st_aload_n (pc := 30) dX10_worst_30 rfl rfl ?_
    refine sg_gfR (pc := 31) (J := 3) dX10_worst_31 fl_10_19 rfl hk2 ?_
    refine sg_iconst (pc := 34) dX10_worst_34 (by omega) ?_
    refine sg_bipush (pc := 35) dX10_worst_35 (by omega) (by decide) ?_
    obtain ⟨hk4, h⟩ := h
    obtain ⟨h1, h⟩ := h
    refine st_iastore (pc := 37) dX10_worst_37 hk4 h1.1 h1.2 ?_
    refine Wp.nameM (fun m3 em3 => ?_)
    replace h := h m3 em3
    refine st_aload_n (pc := 38) dX10_worst_38 rfl rfl ?_
    refine sg_iconst (pc := 39) dX10_worst_39 (by omega) ?_
    obtain ⟨mc2, ms2, K2, hC, e1, e2, h⟩ := h
    refine sg_VV (pc := 40) (av := [vi 3]) (st := []) (K := K2) dX10_worst_40 ck_10_326 rfl (by decide) (by cases em3; exact hk2) (by show (0 : Nat) ≤ 8; decide) hC e1 e2 (fun m4 hK => ?_) rfl
    replace h := h m4 hK
    refine sg_iconst (pc := 43) dX10_worst_43 (by omega) ?_
    refine sg_istore (pc := 44) (ls' := [some (vr a0), some (vi a1), some (vi (-1)), some (vi 0), some (vi v1), some (vi 2), none, none]) dX10_worst_44 (by show (5 : Nat) < 8; decide) rfl ?_
    exact h
  · replace h := h.2 c
    refine sg_iconst (pc := 16) dX10_worst_16 (by omega) ?_
    exact st_ireturn (pc := 17) dX10_worst_17 (Or.inl rfl) h

theorem sg_X10_worst_46 {d bc bs : Nat} {a0 : Nat} {a1 : Int} {a2 : Int} {a3 : Int} {a4 : Int} {a5 : Int} {μ : Mem} {Q : Option (Option AV) → Mem → Prop}
    (h : (40 < a5 → mK μ a0 = 11 ∧ ∃ (mc1 ms1 : Nat) (K1 : Mem → Prop), Cl d mc1 ms1 mX10_bringBack [vr a0, vi 3] μ (KV K1) ∧ mc1 ≤ bc ∧ ms1 ≤ bs ∧ (∀ m1, K1 m1 → mK m1 a0 = 11 ∧ (mK m1 (mR m1 a0 3) = 20 ∧ ((0 : Int) ≤ 4 ∧ 4 < (mN m1 (mR m1 a0 3) : Int)) ∧ (∀ m2, m2 = sD m1 (mR m1 a0 3) 4 a4 → (∀ m3, m3 = sD m2 a0 14 0 → ∃ (mc2 ms2 : Nat) (K2 : Mem → Prop), Cl d mc2 ms2 mX10_tell [vr a0, vl a3] m3 (KV K2) ∧ mc2 ≤ bc - mc1 ∧ ms2 ≤ bs - ms1 ∧ (∀ m4, K2 m4 → Q (some (some (vi a2))) m4)))))) ∧ (¬ 40 < a5 → mK μ a0 = 11 ∧ ∃ (mc3 ms3 : Nat) (K3 : Mem → Prop), Cl d mc3 ms3 mX10_begin [vr a0] μ (KV K3) ∧ mc3 ≤ bc ∧ ms3 ≤ bs ∧ (∀ m5, K3 m5 → Wp (d + 1) (bc - mc3) (bs - ms3) mX10_worst 63 [some (vr a0), some (vi a1), some (vi a2), some (vi a3), some (vi a4), some (vi a5), some (vi 0), some (vi 0)] [] m5 Q))) :
    Wp (d + 1) bc bs mX10_worst 46 [some (vr a0), some (vi a1), some (vi a2), some (vi a3), some (vi a4), some (vi a5), none, none] [] μ Q := by
  refine st_iload (pc := 46) dX10_worst_46 rfl ?_
  refine sg_bipush (pc := 48) dX10_worst_48 (by omega) (by decide) ?_
  refine st_icmpgt (pc := 50) (tgt := 154) dX10_worst_50 rfl (fun c => ?_) (fun c => ?_)
  · replace h := h.1 c
    refine st_aload_n (pc := 154) dX10_worst_154 rfl rfl ?_
    refine sg_iconst (pc := 155) dX10_worst_155 (by omega) ?_
    obtain ⟨hk1, h⟩ := h
    obtain ⟨mc1, ms1, K1, hC, e1, e2, h⟩ := h
    refine sg_VV (pc := 156) (av := [vi 3]) (st := []) (K := K1) dX10_worst_156 ck_10_329 rfl (by decide) hk1 (by show (0 : Nat) ≤ 8; decide) hC e1 e2 (fun m1 hK => ?_) rfl
    replace h := h m1 hK
    refine st_aload_n (pc := 159) dX10_worst_159 rfl rfl ?_
    obtain ⟨hk2, h⟩ := h
    refine sg_gfR (pc := 160) (J := 3) dX10_worst_160 fl_10_19 rfl hk2 ?_
    refine sg_iconst (pc := 163) dX10_worst_163 (by omega) ?_
    refine st_iload (pc := 164) dX10_worst_164 rfl ?_
    obtain ⟨hk3, h⟩ := h
    obtain ⟨h1, h⟩ := h
    refine st_iastore (pc := 166) dX10_worst_166 hk3 h1.1 h1.2 ?_
    refine Wp.nameM (fun m2 em2 => ?_)
    replace h := h m2 em2
    refine st_aload_n (pc := 167) dX10_worst_167 rfl rfl ?_
    refine sg_iconst (pc := 168) dX10_worst_168 (by omega) ?_
    refine sg_pfI (pc := 169) (J := 14) dX10_worst_169 fl_10_145 rfl (Or.inl rfl) (by cases em2; exact hk2) ?_
    refine Wp.nameM (fun m3 em3 => ?_)
    replace h := h m3 em3
    refine st_aload_n (pc := 172) dX10_worst_172 rfl rfl ?_
    refine st_iload_n (pc := 173) dX10_worst_173 rfl rfl ?_
    refine st_i2l (pc := 174) dX10_worst_174 ?_
    obtain ⟨mc2, ms2, K2, hC, e1, e2, h⟩ := h
    refine sg_VV (pc := 175) (av := [vl a3]) (st := []) (K := K2) dX10_worst_175 ck_10_252 rfl (by decide) (by cases em3; cases em2; exact hk2) (by show (0 : Nat) ≤ 8; decide) hC e1 e2 (fun m4 hK => ?_) rfl
    replace h := h m4 hK
    refine st_iload_n (pc := 178) dX10_worst_178 rfl rfl ?_
    exact st_ireturn (pc := 179) dX10_worst_179 (Or.inl rfl) h
  · replace h := h.2 c
    refine st_aload_n (pc := 53) dX10_worst_53 rfl rfl ?_
    obtain ⟨hk4, h⟩ := h
    obtain ⟨mc3, ms3, K3, hC, e1, e2, h⟩ := h
    refine sg_VV (pc := 54) (av := []) (st := []) (K := K3) dX10_worst_54 ck_10_139 rfl (by decide) hk4 (by show (0 : Nat) ≤ 8; decide) hC e1 e2 (fun m5 hK => ?_) rfl
    replace h := h m5 hK
    refine sg_iconst (pc := 57) dX10_worst_57 (by omega) ?_
    refine sg_istore (pc := 58) (ls' := [some (vr a0), some (vi a1), some (vi a2), some (vi a3), some (vi a4), some (vi a5), some (vi 0), none]) dX10_worst_58 (by show (6 : Nat) < 8; decide) rfl ?_
    refine sg_iconst (pc := 60) dX10_worst_60 (by omega) ?_
    refine sg_istore (pc := 61) (ls' := [some (vr a0), some (vi a1), some (vi a2), some (vi a3), some (vi a4), some (vi a5), some (vi 0), some (vi 0)]) dX10_worst_61 (by show (7 : Nat) < 8; decide) rfl ?_
    exact h

