/-! ===== by program (wip/whole/gen_seg.py): stretches of methods ===== -/
theorem sg_X10_worst_63 {d bc bs : Nat} {a0 : Nat} {a1 : Int} {a2 : Int} {a3 : Int} {a4 : Int} {a5 : Int} {a6 : Int} {a7 : Int} {μ : Mem} {Q : Option (Option AV) → Mem → Prop}
    (h : ((w32 (20 * a5)) ≤ a7 → (a2 = (-1) → ∀ v1, v1 = w32 (a5 + 1) → Wp (d + 1) bc bs mX10_worst 46 [some (vr a0), some (vi a1), some (vi a5), some (vi a6), some (vi a4), some (vi v1), none, none] [] μ Q) ∧ (¬ a2 = (-1) → (a3 < a6 → ∀ v2, v2 = w32 (a5 + 1) → Wp (d + 1) bc bs mX10_worst 46 [some (vr a0), some (vi a1), some (vi a5), some (vi a6), some (vi a4), some (vi v2), none, none] [] μ Q) ∧ (¬ a3 < a6 → ∀ v3, v3 = w32 (a5 + 1) → Wp (d + 1) bc bs mX10_worst 46 [some (vr a0), some (vi a1), some (vi a2), some (vi a3), some (vi a4), some (vi v3), none, none] [] μ Q))) ∧ (¬ (w32 (20 * a5)) ≤ a7 → mK μ a0 = 11 ∧ ((mK μ (mR μ a0 3) = 20 ∨ ((mR μ a0 3) ≠ 0 ∧ mK μ (mR μ a0 3) = 40)) ∧ ((0 : Int) ≤ 6 ∧ 6 < (mN μ (mR μ a0 3) : Int)) ∧ (a5 ≠ 0 ∧ (((w32 (a5.tdiv 2)) ≤ (a7.tmod a5) → ∃ (mc1 ms1 : Nat) (K1 : Int → Mem → Prop), Cl d mc1 ms1 mX10_byHand [vr a0, vi (mD μ (mR μ a0 3) 6), vi (w32 (-a1))] μ (KI K1) ∧ mc1 ≤ bc ∧ ms1 ≤ bs ∧ (∀ x1 m1, K1 x1 m1 → mK m1 a0 = 11 ∧ ∃ (mc2 ms2 : Nat) (K2 : Int → Mem → Prop), Cl d mc2 ms2 mX10_pass [vr a0, vi x1, vi 0] m1 (KI K2) ∧ mc2 ≤ bc - mc1 ∧ ms2 ≤ bs - ms1 ∧ (∀ x2 m2, K2 x2 m2 → mK m2 a0 = 11 ∧ ∃ (mc3 ms3 : Nat) (K3 : Int → Mem → Prop), Cl d mc3 ms3 mX10_slope [vr a0] m2 (KI K3) ∧ mc3 ≤ bc - mc1 - mc2 ∧ ms3 ≤ bs - ms1 - ms2 ∧ (∀ x3 m3, K3 x3 m3 → ∃ (mc4 ms4 : Nat) (K4 : Int → Mem → Prop), Cl d mc4 ms4 mJ9_abs_0f7a4 [vi x3] m3 (KI K4) ∧ mc4 ≤ bc - mc1 - mc2 - mc3 ∧ ms4 ≤ bs - ms1 - ms2 - ms3 ∧ (∀ x4 m4, K4 x4 m4 → ∃ (mc5 ms5 : Nat) (K5 : Int → Mem → Prop), Cl d mc5 ms5 mJ9_max_7cf53 [vi a6, vi x4] m4 (KI K5) ∧ mc5 ≤ bc - mc1 - mc2 - mc3 - mc4 ∧ ms5 ≤ bs - ms1 - ms2 - ms3 - ms4 ∧ (∀ x5 m5, K5 x5 m5 → ∀ v4, v4 = w32 (a7 + 1) → Wp (d + 1) (bc - mc1 - mc2 - mc3 - mc4 - mc5) (bs - ms1 - ms2 - ms3 - ms4 - ms5) mX10_worst 63 [some (vr a0), some (vi a1), some (vi a2), some (vi a3), some (vi a4), some (vi a5), some (vi x5), some (vi v4)] [] m5 Q)))))) ∧ (¬ (w32 (a5.tdiv 2)) ≤ (a7.tmod a5) → ∃ (mc6 ms6 : Nat) (K6 : Int → Mem → Prop), Cl d mc6 ms6 mX10_byHand [vr a0, vi (mD μ (mR μ a0 3) 6), vi a1] μ (KI K6) ∧ mc6 ≤ bc ∧ ms6 ≤ bs ∧ (∀ x6 m6, K6 x6 m6 → mK m6 a0 = 11 ∧ ∃ (mc7 ms7 : Nat) (K7 : Int → Mem → Prop), Cl d mc7 ms7 mX10_pass [vr a0, vi x6, vi 0] m6 (KI K7) ∧ mc7 ≤ bc - mc6 ∧ ms7 ≤ bs - ms6 ∧ (∀ x7 m7, K7 x7 m7 → mK m7 a0 = 11 ∧ ∃ (mc8 ms8 : Nat) (K8 : Int → Mem → Prop), Cl d mc8 ms8 mX10_slope [vr a0] m7 (KI K8) ∧ mc8 ≤ bc - mc6 - mc7 ∧ ms8 ≤ bs - ms6 - ms7 ∧ (∀ x8 m8, K8 x8 m8 → ∃ (mc9 ms9 : Nat) (K9 : Int → Mem → Prop), Cl d mc9 ms9 mJ9_abs_0f7a4 [vi x8] m8 (KI K9) ∧ mc9 ≤ bc - mc6 - mc7 - mc8 ∧ ms9 ≤ bs - ms6 - ms7 - ms8 ∧ (∀ x9 m9, K9 x9 m9 → ∃ (mc10 ms10 : Nat) (K10 : Int → Mem → Prop), Cl d mc10 ms10 mJ9_max_7cf53 [vi a6, vi x9] m9 (KI K10) ∧ mc10 ≤ bc - mc6 - mc7 - mc8 - mc9 ∧ ms10 ≤ bs - ms6 - ms7 - ms8 - ms9 ∧ (∀ x10 m10, K10 x10 m10 → ∀ v5, v5 = w32 (a7 + 1) → Wp (d + 1) (bc - mc6 - mc7 - mc8 - mc9 - mc10) (bs - ms6 - ms7 - ms8 - ms9 - ms10) mX10_worst 63 [some (vr a0), some (vi a1), some (vi a2), some (vi a3), some (vi a4), some (vi a5), some (vi x10), some (vi v5)] [] m10 Q))))))))))) :
    Wp (d + 1) bc bs mX10_worst 63 [some (vr a0), some (vi a1), some (vi a2), some (vi a3), some (vi a4), some (vi a5), some (vi a6), some (vi a7)] [] μ Q := by
  refine st_iload (pc := 63) dX10_worst_63 rfl ?_
  refine sg_bipush (pc := 65) dX10_worst_65 (by omega) (by decide) ?_
  refine st_iload (pc := 67) dX10_worst_67 rfl ?_
  refine st_imul (pc := 69) dX10_worst_69 ?_
  refine st_icmpge (pc := 70) (tgt := 128) dX10_worst_70 rfl (fun c => ?_) (fun c => ?_)
  · replace h := h.1 c
    refine st_iload_n (pc := 128) dX10_worst_128 rfl rfl ?_
    refine sg_iconst (pc := 129) dX10_worst_129 (by omega) ?_
    refine st_icmpeq (pc := 130) (tgt := 142) dX10_worst_130 rfl (fun c => ?_) (fun c => ?_)
    · replace h := h.1 c
      refine st_iload (pc := 142) dX10_worst_142 rfl ?_
      refine sg_istore_n (pc := 144) (ls' := [some (vr a0), some (vi a1), some (vi a5), some (vi a3), some (vi a4), some (vi a5), some (vi a6), some (vi a7)]) dX10_worst_144 rfl (by show (2 : Nat) < 8; decide) rfl ?_
      refine st_iload (pc := 145) dX10_worst_145 rfl ?_
      refine sg_istore_n (pc := 147) (ls' := [some (vr a0), some (vi a1), some (vi a5), some (vi a6), some (vi a4), some (vi a5), some (vi a6), some (vi a7)]) dX10_worst_147 rfl (by show (3 : Nat) < 8; decide) rfl ?_
      refine sg_iinc (pc := 148) (ls' := [some (vr a0), some (vi a1), some (vi a5), some (vi a6), some (vi a4), some (vi (w32 (a5 + 1))), some (vi a6), some (vi a7)]) dX10_worst_148 rfl rfl ?_
      refine Wp.nameL (ls2 := fun v => [some (vr a0), some (vi a1), some (vi a5), some (vi a6), some (vi a4), some (vi v), some (vi a6), some (vi a7)]) 5 _ rfl (fun _ => rfl) (fun v1 ev1 => ?_)
      replace h := h v1 ev1
      refine st_goto (pc := 151) dX10_worst_151 rfl ?_
      refine Wp.drop 6 rfl ?_
      refine Wp.drop 7 rfl ?_
      exact h
    · replace h := h.2 c
      refine st_iload (pc := 133) dX10_worst_133 rfl ?_
      refine st_iload_n (pc := 135) dX10_worst_135 rfl rfl ?_
      refine st_icmpgt (pc := 136) (tgt := 142) dX10_worst_136 rfl (fun c => ?_) (fun c => ?_)
      · replace h := h.1 c
        refine st_iload (pc := 142) dX10_worst_142 rfl ?_
        refine sg_istore_n (pc := 144) (ls' := [some (vr a0), some (vi a1), some (vi a5), some (vi a3), some (vi a4), some (vi a5), some (vi a6), some (vi a7)]) dX10_worst_144 rfl (by show (2 : Nat) < 8; decide) rfl ?_
        refine st_iload (pc := 145) dX10_worst_145 rfl ?_
        refine sg_istore_n (pc := 147) (ls' := [some (vr a0), some (vi a1), some (vi a5), some (vi a6), some (vi a4), some (vi a5), some (vi a6), some (vi a7)]) dX10_worst_147 rfl (by show (3 : Nat) < 8; decide) rfl ?_
        refine sg_iinc (pc := 148) (ls' := [some (vr a0), some (vi a1), some (vi a5), some (vi a6), some (vi a4), some (vi (w32 (a5 + 1))), some (vi a6), some (vi a7)]) dX10_worst_148 rfl rfl ?_
        refine Wp.nameL (ls2 := fun v => [some (vr a0), some (vi a1), some (vi a5), some (vi a6), some (vi a4), some (vi v), some (vi a6), some (vi a7)]) 5 _ rfl (fun _ => rfl) (fun v2 ev2 => ?_)
        replace h := h v2 ev2
        refine st_goto (pc := 151) dX10_worst_151 rfl ?_
        refine Wp.drop 6 rfl ?_
        refine Wp.drop 7 rfl ?_
        exact h
      · replace h := h.2 c
        refine st_goto (pc := 139) dX10_worst_139 rfl ?_
        refine sg_iinc (pc := 148) (ls' := [some (vr a0), some (vi a1), some (vi a2), some (vi a3), some (vi a4), some (vi (w32 (a5 + 1))), some (vi a6), some (vi a7)]) dX10_worst_148 rfl rfl ?_
        refine Wp.nameL (ls2 := fun v => [some (vr a0), some (vi a1), some (vi a2), some (vi a3), some (vi a4), some (vi v), some (vi a6), some (vi a7)]) 5 _ rfl (fun _ => rfl) (fun v3 ev3 => ?_)
        replace h := h v3 ev3
        refine st_goto (pc := 151) dX10_worst_151 rfl ?_
        refine Wp.drop 6 rfl ?_
        refine Wp.drop 7 rfl ?_
        exact h
  · replace h := h.2 c
    refine st_aload_n (pc := 73) dX10_worst_73 rfl rfl ?_
    refine st_aload_n (pc := 74) dX10_worst_74 rfl rfl ?_
    refine st_aload_n (pc := 75) dX10_worst_75 rfl rfl ?_
    obtain ⟨hk1, h⟩ := h
    refine sg_gfR (pc := 76) (J := 3) dX10_worst_76 fl_10_19 rfl hk1 ?_
    refine sg_bipush (pc := 79) dX10_worst_79 (by omega) (by decide) ?_
    obtain ⟨hk2, h⟩ := h
    obtain ⟨h1, h⟩ := h
    refine sg_iaload (pc := 81) dX10_worst_81 hk2 h1 ?_
    refine st_iload (pc := 82) dX10_worst_82 rfl ?_
    refine st_iload (pc := 84) dX10_worst_84 rfl ?_
    obtain ⟨h0, h⟩ := h
    refine st_irem (pc := 86) dX10_worst_86 h0 ?_
    refine st_iload (pc := 87) dX10_worst_87 rfl ?_
    refine sg_iconst (pc := 89) dX10_worst_89 (by omega) ?_
    refine st_idiv (pc := 90) dX10_worst_90 (by omega) ?_
    refine st_icmpge (pc := 91) (tgt := 98) dX10_worst_91 rfl (fun c => ?_) (fun c => ?_)
    · replace h := h.1 c
      refine st_iload_n (pc := 98) dX10_worst_98 rfl rfl ?_
      refine st_ineg (pc := 99) dX10_worst_99 ?_
      obtain ⟨mc1, ms1, K1, hC, e1, e2, h⟩ := h
      refine sg_VI (pc := 100) (av := [vi (mD μ (mR μ a0 3) 6), vi (w32 (-a1))]) (st := [vr a0]) (K := K1) dX10_worst_100 ck_10_287 rfl (by decide) hk1 (by show (1 : Nat) ≤ 8; decide) hC e1 e2 (fun x1 m1 hK => ?_) rfl
      replace h := h x1 m1 hK
      refine sg_iconst (pc := 103) dX10_worst_103 (by omega) ?_
      obtain ⟨hk3, h⟩ := h
      obtain ⟨mc2, ms2, K2, hC, e1, e2, h⟩ := h
      refine sg_VI (pc := 104) (av := [vi x1, vi 0]) (st := []) (K := K2) dX10_worst_104 ck_10_185 rfl (by decide) hk3 (by show (0 : Nat) ≤ 8; decide) hC e1 e2 (fun x2 m2 hK => ?_) rfl
      replace h := h x2 m2 hK
      refine st_pop (pc := 107) dX10_worst_107 rfl ?_
      refine st_iload (pc := 108) dX10_worst_108 rfl ?_
      refine st_aload_n (pc := 110) dX10_worst_110 rfl rfl ?_
      obtain ⟨hk4, h⟩ := h
      obtain ⟨mc3, ms3, K3, hC, e1, e2, h⟩ := h
      refine sg_VI (pc := 111) (av := []) (st := [vi a6]) (K := K3) dX10_worst_111 ck_10_175 rfl (by decide) hk4 (by show (1 : Nat) ≤ 8; decide) hC e1 e2 (fun x3 m3 hK => ?_) rfl
      replace h := h x3 m3 hK
      obtain ⟨mc4, ms4, K4, hC, e1, e2, h⟩ := h
      refine sg_SI (pc := 114) (av := [vi x3]) (st := [vi a6]) (K := K4) dX10_worst_114 ck_10_248 rfl (by show (1 : Nat) ≤ 8; decide) hC e1 e2 (fun x4 m4 hK => ?_) rfl
      replace h := h x4 m4 hK
      obtain ⟨mc5, ms5, K5, hC, e1, e2, h⟩ := h
      refine sg_SI (pc := 117) (av := [vi a6, vi x4]) (st := []) (K := K5) dX10_worst_117 ck_10_168 rfl (by show (0 : Nat) ≤ 8; decide) hC e1 e2 (fun x5 m5 hK => ?_) rfl
      replace h := h x5 m5 hK
      refine sg_istore (pc := 120) (ls' := [some (vr a0), some (vi a1), some (vi a2), some (vi a3), some (vi a4), some (vi a5), some (vi x5), some (vi a7)]) dX10_worst_120 (by show (6 : Nat) < 8; decide) rfl ?_
      refine sg_iinc (pc := 122) (ls' := [some (vr a0), some (vi a1), some (vi a2), some (vi a3), some (vi a4), some (vi a5), some (vi x5), some (vi (w32 (a7 + 1)))]) dX10_worst_122 rfl rfl ?_
      refine Wp.nameL (ls2 := fun v => [some (vr a0), some (vi a1), some (vi a2), some (vi a3), some (vi a4), some (vi a5), some (vi x5), some (vi v)]) 7 _ rfl (fun _ => rfl) (fun v4 ev4 => ?_)
      replace h := h v4 ev4
      refine st_goto (pc := 125) dX10_worst_125 rfl ?_
      exact h
    · replace h := h.2 c
      refine st_iload_n (pc := 94) dX10_worst_94 rfl rfl ?_
      refine st_goto (pc := 95) dX10_worst_95 rfl ?_
      obtain ⟨mc6, ms6, K6, hC, e1, e2, h⟩ := h
      refine sg_VI (pc := 100) (av := [vi (mD μ (mR μ a0 3) 6), vi a1]) (st := [vr a0]) (K := K6) dX10_worst_100 ck_10_287 rfl (by decide) hk1 (by show (1 : Nat) ≤ 8; decide) hC e1 e2 (fun x6 m6 hK => ?_) rfl
      replace h := h x6 m6 hK
      refine sg_iconst (pc := 103) dX10_worst_103 (by omega) ?_
      obtain ⟨hk5, h⟩ := h
      obtain ⟨mc7, ms7, K7, hC, e1, e2, h⟩ := h
      refine sg_VI (pc := 104) (av := [vi x6, vi 0]) (st := []) (K := K7) dX10_worst_104 ck_10_185 rfl (by decide) hk5 (by show (0 : Nat) ≤ 8; decide) hC e1 e2 (fun x7 m7 hK => ?_) rfl
      replace h := h x7 m7 hK
      refine st_pop (pc := 107) dX10_worst_107 rfl ?_
      refine st_iload (pc := 108) dX10_worst_108 rfl ?_
      refine st_aload_n (pc := 110) dX10_worst_110 rfl rfl ?_
      obtain ⟨hk6, h⟩ := h
      obtain ⟨mc8, ms8, K8, hC, e1, e2, h⟩ := h
      refine sg_VI (pc := 111) (av := []) (st := [vi a6]) (K := K8) dX10_worst_111 ck_10_175 rfl (by decide) hk6 (by show (1 : Nat) ≤ 8; decide) hC e1 e2 (fun x8 m8 hK => ?_) rfl
      replace h := h x8 m8 hK
      obtain ⟨mc9, ms9, K9, hC, e1, e2, h⟩ := h
      refine sg_SI (pc := 114) (av := [vi x8]) (st := [vi a6]) (K := K9) dX10_worst_114 ck_10_248 rfl (by show (1 : Nat) ≤ 8; decide) hC e1 e2 (fun x9 m9 hK => ?_) rfl
      replace h := h x9 m9 hK
      obtain ⟨mc10, ms10, K10, hC, e1, e2, h⟩ := h
      refine sg_SI (pc := 117) (av := [vi a6, vi x9]) (st := []) (K := K10) dX10_worst_117 ck_10_168 rfl (by show (0 : Nat) ≤ 8; decide) hC e1 e2 (fun x10 m10 hK => ?_) rfl
      replace h := h x10 m10 hK
      refine sg_istore (pc := 120) (ls' := [some (vr a0), some (vi a1), some (vi a2), some (vi a3), some (vi a4), some (vi a5), some (vi x10), some (vi a7)]) dX10_worst_120 (by show (6 : Nat) < 8; decide) rfl ?_
      refine sg_iinc (pc := 122) (ls' := [some (vr a0), some (vi a1), some (vi a2), some (vi a3), some (vi a4), some (vi a5), some (vi x10), some (vi (w32 (a7 + 1)))]) dX10_worst_122 rfl rfl ?_
      refine Wp.nameL (ls2 := fun v => [some (vr a0), some (vi a1), some (vi a2), some (vi a3), some (vi a4), some (vi a5), some (vi x10), some (vi v)]) 7 _ rfl (fun _ => rfl) (fun v5 ev5 => ?_)
      replace h := h v5 ev5
      refine st_goto (pc := 125) dX10_worst_125 rfl ?_
      exact h

theorem sg_X10_would_0 {d bc bs : Nat} {a0 : Nat} {a1 : Int} {a2 : Int} {μ : Mem} {Q : Option (Option AV) → Mem → Prop}
    (h : mK μ a0 = 11 ∧ (∀ m1, m1 = sD μ a0 15 0 → ∃ (mc1 ms1 : Nat) (K1 : Int → Mem → Prop), Cl d mc1 ms1 mX10_isWalk [vi a1] m1 (KI K1) ∧ mc1 ≤ bc ∧ ms1 ≤ bs ∧ (∀ x1 m2, K1 x1 m2 → (¬ x1 = 0 → mK m2 a0 = 11 ∧ ∃ (mc2 ms2 : Nat) (K2 : Int → Mem → Prop), Cl d mc2 ms2 mX10_wholly [vr a0, vi a1, vi a2] m2 (KI K2) ∧ mc2 ≤ bc - mc1 ∧ ms2 ≤ bs - ms1 ∧ (∀ x2 m3, K2 x2 m3 → mK m3 a0 = 11 ∧ (∀ m4, m4 = sD m3 a0 14 0 → ∃ (mc3 ms3 : Nat) (K3 : Mem → Prop), Cl d mc3 ms3 mX10_tell [vr a0, vl (mD m4 a0 40)] m4 (KV K3) ∧ mc3 ≤ bc - mc1 - mc2 ∧ ms3 ≤ bs - ms1 - ms2 ∧ (∀ m5, K3 m5 → mK m5 a0 = 11 ∧ (∃ (mc4 ms4 : Nat) (K4 : Mem → Prop), Cl d mc4 ms4 mX10_tell [vr a0, vl (mD m5 a0 41)] m5 (KV K4) ∧ mc4 ≤ bc - mc1 - mc2 - mc3 ∧ ms4 ≤ bs - ms1 - ms2 - ms3 ∧ (∀ m6, K4 m6 → mK m6 a0 = 11 ∧ (∃ (mc5 ms5 : Nat) (K5 : Mem → Prop), Cl d mc5 ms5 mX10_tell [vr a0, vl (mD m6 a0 42)] m6 (KV K5) ∧ mc5 ≤ bc - mc1 - mc2 - mc3 - mc4 ∧ ms5 ≤ bs - ms1 - ms2 - ms3 - ms4 ∧ (∀ m7, K5 m7 → Q (some (some (vi x2))) m7)))))))) ∧ (x1 = 0 → Q (some (some (vi (-1)))) m2)))) :
    Wp (d + 1) bc bs mX10_would 0 [some (vr a0), some (vi a1), some (vi a2), none] [] μ Q := by
  refine st_aload_n (pc := 0) dX10_would_0 rfl rfl ?_
  refine sg_iconst (pc := 1) dX10_would_1 (by omega) ?_
  obtain ⟨hk1, h⟩ := h
  refine sg_pfI (pc := 2) (J := 15) dX10_would_2 fl_10_142 rfl (Or.inl rfl) hk1 ?_
  refine Wp.nameM (fun m1 em1 => ?_)
  replace h := h m1 em1
  refine st_iload_n (pc := 5) dX10_would_5 rfl rfl ?_
  obtain ⟨mc1, ms1, K1, hC, e1, e2, h⟩ := h
  refine sg_SI (pc := 6) (av := [vi a1]) (st := []) (K := K1) dX10_would_6 ck_10_245 rfl (by show (0 : Nat) ≤ 8; decide) hC e1 e2 (fun x1 m2 hK => ?_) rfl
  replace h := h x1 m2 hK
  refine st_ifne (pc := 9) (tgt := 14) dX10_would_9 rfl (fun c => ?_) (fun c => ?_)
  · replace h := h.1 c
    refine st_aload_n (pc := 14) dX10_would_14 rfl rfl ?_
    refine st_iload_n (pc := 15) dX10_would_15 rfl rfl ?_
    refine st_iload_n (pc := 16) dX10_would_16 rfl rfl ?_
    obtain ⟨hk2, h⟩ := h
    obtain ⟨mc2, ms2, K2, hC, e1, e2, h⟩ := h
    refine sg_VI (pc := 17) (av := [vi a1, vi a2]) (st := []) (K := K2) dX10_would_17 ck_10_338 rfl (by decide) hk2 (by show (0 : Nat) ≤ 8; decide) hC e1 e2 (fun x2 m3 hK => ?_) rfl
    replace h := h x2 m3 hK
    refine sg_istore_n (pc := 20) (ls' := [some (vr a0), some (vi a1), some (vi a2), some (vi x2)]) dX10_would_20 rfl (by show (3 : Nat) < 4; decide) rfl ?_
    refine st_aload_n (pc := 21) dX10_would_21 rfl rfl ?_
    refine sg_iconst (pc := 22) dX10_would_22 (by omega) ?_
    obtain ⟨hk3, h⟩ := h
    refine sg_pfI (pc := 23) (J := 14) dX10_would_23 fl_10_145 rfl (Or.inl rfl) hk3 ?_
    refine Wp.nameM (fun m4 em4 => ?_)
    replace h := h m4 em4
    refine st_aload_n (pc := 26) dX10_would_26 rfl rfl ?_
    refine st_aload_n (pc := 27) dX10_would_27 rfl rfl ?_
    refine sg_gfI (pc := 28) (J := 40) dX10_would_28 fl_10_291 (by decide) rfl (by cases em4; exact hk3) ?_
    refine st_i2l (pc := 31) dX10_would_31 ?_
    obtain ⟨mc3, ms3, K3, hC, e1, e2, h⟩ := h
    refine sg_VV (pc := 32) (av := [vl (mD m4 a0 40)]) (st := []) (K := K3) dX10_would_32 ck_10_252 rfl (by decide) (by cases em4; exact hk3) (by show (0 : Nat) ≤ 8; decide) hC e1 e2 (fun m5 hK => ?_) rfl
    replace h := h m5 hK
    refine st_aload_n (pc := 35) dX10_would_35 rfl rfl ?_
    refine st_aload_n (pc := 36) dX10_would_36 rfl rfl ?_
    obtain ⟨hk4, h⟩ := h
    refine sg_gfI (pc := 37) (J := 41) dX10_would_37 fl_10_294 (by decide) rfl hk4 ?_
    refine st_i2l (pc := 40) dX10_would_40 ?_
    obtain ⟨mc4, ms4, K4, hC, e1, e2, h⟩ := h
    refine sg_VV (pc := 41) (av := [vl (mD m5 a0 41)]) (st := []) (K := K4) dX10_would_41 ck_10_252 rfl (by decide) hk4 (by show (0 : Nat) ≤ 8; decide) hC e1 e2 (fun m6 hK => ?_) rfl
    replace h := h m6 hK
    refine st_aload_n (pc := 44) dX10_would_44 rfl rfl ?_
    refine st_aload_n (pc := 45) dX10_would_45 rfl rfl ?_
    obtain ⟨hk5, h⟩ := h
    refine sg_gfI (pc := 46) (J := 42) dX10_would_46 fl_10_297 (by decide) rfl hk5 ?_
    refine st_i2l (pc := 49) dX10_would_49 ?_
    obtain ⟨mc5, ms5, K5, hC, e1, e2, h⟩ := h
    refine sg_VV (pc := 50) (av := [vl (mD m6 a0 42)]) (st := []) (K := K5) dX10_would_50 ck_10_252 rfl (by decide) hk5 (by show (0 : Nat) ≤ 8; decide) hC e1 e2 (fun m7 hK => ?_) rfl
    replace h := h m7 hK
    refine st_iload_n (pc := 53) dX10_would_53 rfl rfl ?_
    exact st_ireturn (pc := 54) dX10_would_54 (Or.inl rfl) h
  · replace h := h.2 c
    refine sg_iconst (pc := 12) dX10_would_12 (by omega) ?_
    exact st_ireturn (pc := 13) dX10_would_13 (Or.inl rfl) h

theorem sg_X10_common_0 {d bc bs : Nat} {a0 : Int} {a2 : Int} {μ : Mem} {Q : Option (Option AV) → Mem → Prop}
    (h : (¬ (if 0 < a2 then 1 else if a2 = 0 then 0 else -1) = 0 → a2 ≠ 0 ∧ (∃ (mc1 ms1 : Nat) (K1 : Int → Mem → Prop), Cl d mc1 ms1 mX10_common [vl a2, vl (a0.tmod a2)] μ (KL K1) ∧ mc1 ≤ bc ∧ ms1 ≤ bs ∧ (∀ x1 m1, K1 x1 m1 → Q (some (some (vl x1))) m1))) ∧ ((if 0 < a2 then 1 else if a2 = 0 then 0 else -1) = 0 → ∃ (mc2 ms2 : Nat) (K2 : Int → Mem → Prop), Cl d mc2 ms2 mJ9_abs_067f4 [vl a0] μ (KL K2) ∧ mc2 ≤ bc ∧ ms2 ≤ bs ∧ (∀ x2 m2, K2 x2 m2 → Q (some (some (vl x2))) m2))) :
    Wp (d + 1) bc bs mX10_common 0 [some (vl a0), none, some (vl a2), none] [] μ Q := by
  refine st_lload_n (pc := 0) dX10_common_0 rfl rfl ?_
  refine st_lconst (pc := 1) (x := 0) dX10_common_1 (by decide) (by unfold r64; omega) ?_
  refine st_lcmp (pc := 2) dX10_common_2 ?_
  refine st_ifne (pc := 3) (tgt := 13) dX10_common_3 rfl (fun c => ?_) (fun c => ?_)
  · replace h := h.1 c
    refine st_lload_n (pc := 13) dX10_common_13 rfl rfl ?_
    refine st_lload_n (pc := 14) dX10_common_14 rfl rfl ?_
    refine st_lload_n (pc := 15) dX10_common_15 rfl rfl ?_
    obtain ⟨h0, h⟩ := h
    refine st_lrem (pc := 16) dX10_common_16 h0 ?_
    obtain ⟨mc1, ms1, K1, hC, e1, e2, h⟩ := h
    refine sg_SL (pc := 17) (av := [vl a2, vl (a0.tmod a2)]) (st := []) (K := K1) dX10_common_17 ck_10_344 rfl (by show (0 : Nat) ≤ 8; decide) hC e1 e2 (fun x1 m1 hK => ?_) rfl
    replace h := h x1 m1 hK
    exact st_lreturn (pc := 20) dX10_common_20 rfl h
  · replace h := h.2 c
    refine st_lload_n (pc := 6) dX10_common_6 rfl rfl ?_
    obtain ⟨mc2, ms2, K2, hC, e1, e2, h⟩ := h
    refine sg_SL (pc := 7) (av := [vl a0]) (st := []) (K := K2) dX10_common_7 ck_10_341 rfl (by show (0 : Nat) ≤ 8; decide) hC e1 e2 (fun x2 m2 hK => ?_) rfl
    replace h := h x2 m2 hK
    refine st_goto (pc := 10) dX10_common_10 rfl ?_
    exact st_lreturn (pc := 20) dX10_common_20 rfl h

theorem sg_X10_tellPart_0 {d bc bs : Nat} {a0 : Nat} {a1 : Int} {a3 : Int} {μ : Mem} {Q : Option (Option AV) → Mem → Prop}
    (h : ∃ (mc1 ms1 : Nat) (K1 : Int → Mem → Prop), Cl d mc1 ms1 mX10_common [vl a1, vl a3] μ (KL K1) ∧ mc1 ≤ bc ∧ ms1 ≤ bs ∧ (∀ x1 m1, K1 x1 m1 → x1 ≠ 0 ∧ (mK m1 a0 = 11 ∧ ∃ (mc2 ms2 : Nat) (K2 : Mem → Prop), Cl d mc2 ms2 mX10_tell [vr a0, vl (w64 (a1.tdiv x1))] m1 (KV K2) ∧ mc2 ≤ bc - mc1 ∧ ms2 ≤ bs - ms1 ∧ (∀ m2, K2 m2 → x1 ≠ 0 ∧ (mK m2 a0 = 11 ∧ ∃ (mc3 ms3 : Nat) (K3 : Mem → Prop), Cl d mc3 ms3 mX10_tell [vr a0, vl (w64 (a3.tdiv x1))] m2 (KV K3) ∧ mc3 ≤ bc - mc1 - mc2 ∧ ms3 ≤ bs - ms1 - ms2 ∧ (∀ m3, K3 m3 → Q (some none) m3)))))) :
    Wp (d + 1) bc bs mX10_tellPart 0 [some (vr a0), some (vl a1), none, some (vl a3), none, none, none] [] μ Q := by
  refine st_lload_n (pc := 0) dX10_tellPart_0 rfl rfl ?_
  refine st_lload_n (pc := 1) dX10_tellPart_1 rfl rfl ?_
  obtain ⟨mc1, ms1, K1, hC, e1, e2, h⟩ := h
  refine sg_SL (pc := 2) (av := [vl a1, vl a3]) (st := []) (K := K1) dX10_tellPart_2 ck_10_344 rfl (by show (0 : Nat) ≤ 8; decide) hC e1 e2 (fun x1 m1 hK => ?_) rfl
  replace h := h x1 m1 hK
  refine sg_lstore (pc := 5) (ls' := [some (vr a0), some (vl a1), none, some (vl a3), none, some (vl x1), none]) dX10_tellPart_5 (by show (6 : Nat) < 7; decide) rfl ?_
  refine st_aload_n (pc := 7) dX10_tellPart_7 rfl rfl ?_
  refine st_lload_n (pc := 8) dX10_tellPart_8 rfl rfl ?_
  refine st_lload (pc := 9) dX10_tellPart_9 rfl ?_
  obtain ⟨h0, h⟩ := h
  refine st_ldiv (pc := 11) dX10_tellPart_11 h0 ?_
  obtain ⟨hk1, h⟩ := h
  obtain ⟨mc2, ms2, K2, hC, e1, e2, h⟩ := h
  refine sg_VV (pc := 12) (av := [vl (w64 (a1.tdiv x1))]) (st := []) (K := K2) dX10_tellPart_12 ck_10_252 rfl (by decide) hk1 (by show (0 : Nat) ≤ 8; decide) hC e1 e2 (fun m2 hK => ?_) rfl
  replace h := h m2 hK
  refine st_aload_n (pc := 15) dX10_tellPart_15 rfl rfl ?_
  refine st_lload_n (pc := 16) dX10_tellPart_16 rfl rfl ?_
  refine st_lload (pc := 17) dX10_tellPart_17 rfl ?_
  obtain ⟨h0, h⟩ := h
  refine st_ldiv (pc := 19) dX10_tellPart_19 h0 ?_
  obtain ⟨hk2, h⟩ := h
  obtain ⟨mc3, ms3, K3, hC, e1, e2, h⟩ := h
  refine sg_VV (pc := 20) (av := [vl (w64 (a3.tdiv x1))]) (st := []) (K := K3) dX10_tellPart_20 ck_10_252 rfl (by decide) hk2 (by show (0 : Nat) ≤ 8; decide) hC e1 e2 (fun m3 hK => ?_) rfl
  replace h := h m3 hK
  exact st_return (pc := 23) dX10_tellPart_23 rfl h

theorem sg_X10_odds_0 {d bc bs : Nat} {a0 : Nat} {a1 : Int} {a2 : Int} {μ : Mem} {Q : Option (Option AV) → Mem → Prop}
    (h : mK μ a0 = 11 ∧ (∀ m1, m1 = sD μ a0 15 0 → ∃ (mc1 ms1 : Nat) (K1 : Int → Mem → Prop), Cl d mc1 ms1 mX10_isWalk [vi a1] m1 (KI K1) ∧ mc1 ≤ bc ∧ ms1 ≤ bs ∧ (∀ x1 m2, K1 x1 m2 → (x1 = 0 → Q (some (some (vi (-1)))) m2) ∧ (¬ x1 = 0 → ∃ (mc2 ms2 : Nat) (K2 : Int → Mem → Prop), Cl d mc2 ms2 mX10_in [vi a2, vi 1, vi 20] m2 (KI K2) ∧ mc2 ≤ bc - mc1 ∧ ms2 ≤ bs - ms1 ∧ (∀ x2 m3, K2 x2 m3 → (¬ x2 = 0 → Wp (d + 1) (bc - mc1 - mc2) (bs - ms1 - ms2) mX10_odds 26 [some (vr a0), some (vi a1), some (vi a2), some (vi 0), none, none] [] m3 Q) ∧ (x2 = 0 → Q (some (some (vi (-1)))) m3)))))) :
    Wp (d + 1) bc bs mX10_odds 0 [some (vr a0), some (vi a1), some (vi a2), none, none, none] [] μ Q := by
  refine st_aload_n (pc := 0) dX10_odds_0 rfl rfl ?_
  refine sg_iconst (pc := 1) dX10_odds_1 (by omega) ?_
  obtain ⟨hk1, h⟩ := h
  refine sg_pfI (pc := 2) (J := 15) dX10_odds_2 fl_10_142 rfl (Or.inl rfl) hk1 ?_
  refine Wp.nameM (fun m1 em1 => ?_)
  replace h := h m1 em1
  refine st_iload_n (pc := 5) dX10_odds_5 rfl rfl ?_
  obtain ⟨mc1, ms1, K1, hC, e1, e2, h⟩ := h
  refine sg_SI (pc := 6) (av := [vi a1]) (st := []) (K := K1) dX10_odds_6 ck_10_245 rfl (by show (0 : Nat) ≤ 8; decide) hC e1 e2 (fun x1 m2 hK => ?_) rfl
  replace h := h x1 m2 hK
  refine st_ifeq (pc := 9) (tgt := 22) dX10_odds_9 rfl (fun c => ?_) (fun c => ?_)
  · replace h := h.1 c
    refine sg_iconst (pc := 22) dX10_odds_22 (by omega) ?_
    exact st_ireturn (pc := 23) dX10_odds_23 (Or.inl rfl) h
  · replace h := h.2 c
    refine st_iload_n (pc := 12) dX10_odds_12 rfl rfl ?_
    refine sg_iconst (pc := 13) dX10_odds_13 (by omega) ?_
    refine sg_bipush (pc := 14) dX10_odds_14 (by omega) (by decide) ?_
    obtain ⟨mc2, ms2, K2, hC, e1, e2, h⟩ := h
    refine sg_SI (pc := 16) (av := [vi a2, vi 1, vi 20]) (st := []) (K := K2) dX10_odds_16 ck_10_151 rfl (by show (0 : Nat) ≤ 8; decide) hC e1 e2 (fun x2 m3 hK => ?_) rfl
    replace h := h x2 m3 hK
    refine st_ifne (pc := 19) (tgt := 24) dX10_odds_19 rfl (fun c => ?_) (fun c => ?_)
    · replace h := h.1 c
      refine sg_iconst (pc := 24) dX10_odds_24 (by omega) ?_
      refine sg_istore_n (pc := 25) (ls' := [some (vr a0), some (vi a1), some (vi a2), some (vi 0), none, none]) dX10_odds_25 rfl (by show (3 : Nat) < 6; decide) rfl ?_
      exact h
    · replace h := h.2 c
      refine sg_iconst (pc := 22) dX10_odds_22 (by omega) ?_
      exact st_ireturn (pc := 23) dX10_odds_23 (Or.inl rfl) h

theorem sg_X10_odds_26 {d bc bs : Nat} {a0 : Nat} {a1 : Int} {a2 : Int} {a3 : Int} {μ : Mem} {Q : Option (Option AV) → Mem → Prop}
    (h : (1000 ≤ a3 → Wp (d + 1) bc bs mX10_odds 51 [some (vr a0), some (vi a1), some (vi a2), some (vi 0), some (vi 1), none] [] μ Q) ∧ (¬ 1000 ≤ a3 → mK μ a0 = 11 ∧ (mK μ (mR μ a0 48) = 20 ∧ ((0 : Int) ≤ a3 ∧ a3 < (mN μ (mR μ a0 48) : Int)) ∧ (∀ m1, m1 = sD μ (mR μ a0 48) a3 0 → ∀ v1, v1 = w32 (a3 + 1) → Wp (d + 1) bc bs mX10_odds 26 [some (vr a0), some (vi a1), some (vi a2), some (vi v1), none, none] [] m1 Q)))) :
    Wp (d + 1) bc bs mX10_odds 26 [some (vr a0), some (vi a1), some (vi a2), some (vi a3), none, none] [] μ Q := by
  refine st_iload_n (pc := 26) dX10_odds_26 rfl rfl ?_
  refine sg_sipush (pc := 27) dX10_odds_27 (by omega) (by decide) ?_
  refine st_icmpge (pc := 30) (tgt := 46) dX10_odds_30 rfl (fun c => ?_) (fun c => ?_)
  · replace h := h.1 c
    refine sg_iconst (pc := 46) dX10_odds_46 (by omega) ?_
    refine sg_istore_n (pc := 47) (ls' := [some (vr a0), some (vi a1), some (vi a2), some (vi 0), none, none]) dX10_odds_47 rfl (by show (3 : Nat) < 6; decide) rfl ?_
    refine sg_iconst (pc := 48) dX10_odds_48 (by omega) ?_
    refine sg_istore (pc := 49) (ls' := [some (vr a0), some (vi a1), some (vi a2), some (vi 0), some (vi 1), none]) dX10_odds_49 (by show (4 : Nat) < 6; decide) rfl ?_
    exact h
  · replace h := h.2 c
    refine st_aload_n (pc := 33) dX10_odds_33 rfl rfl ?_
    obtain ⟨hk1, h⟩ := h
    refine sg_gfR (pc := 34) (J := 48) dX10_odds_34 fl_10_96 rfl hk1 ?_
    refine st_iload_n (pc := 37) dX10_odds_37 rfl rfl ?_
    refine sg_iconst (pc := 38) dX10_odds_38 (by omega) ?_
    obtain ⟨hk2, h⟩ := h
    obtain ⟨h1, h⟩ := h
    refine st_iastore (pc := 39) dX10_odds_39 hk2 h1.1 h1.2 ?_
    refine Wp.nameM (fun m1 em1 => ?_)
    replace h := h m1 em1
    refine sg_iinc (pc := 40) (ls' := [some (vr a0), some (vi a1), some (vi a2), some (vi (w32 (a3 + 1))), none, none]) dX10_odds_40 rfl rfl ?_
    refine Wp.nameL (ls2 := fun v => [some (vr a0), some (vi a1), some (vi a2), some (vi v), none, none]) 3 _ rfl (fun _ => rfl) (fun v1 ev1 => ?_)
    replace h := h v1 ev1
    refine st_goto (pc := 43) dX10_odds_43 rfl ?_
    exact h

theorem sg_X10_odds_51 {d bc bs : Nat} {a0 : Nat} {a1 : Int} {a2 : Int} {a3 : Int} {a4 : Int} {μ : Mem} {Q : Option (Option AV) → Mem → Prop}
    (h : (a2 < a4 → Wp (d + 1) bc bs mX10_odds 106 [some (vr a0), some (vi a1), some (vi a2), some (vi a3), some (vi 0), some (vi 0)] [] μ Q) ∧ (¬ a2 < a4 → mK μ a0 = 11 ∧ ∃ (mc1 ms1 : Nat) (K1 : Int → Mem → Prop), Cl d mc1 ms1 mX10_wholly [vr a0, vi a1, vi a4] μ (KI K1) ∧ mc1 ≤ bc ∧ ms1 ≤ bs ∧ (∀ x1 m1, K1 x1 m1 → (¬ x1 = 0 → ∀ v1, v1 = w32 (a3 + 1) → mK m1 a0 = 11 ∧ (((mD m1 a0 41) = (-1) → ∀ v2, v2 = w32 (a4 + 1) → Wp (d + 1) (bc - mc1) (bs - ms1) mX10_odds 51 [some (vr a0), some (vi a1), some (vi a2), some (vi v1), some (vi v2), none] [] m1 Q) ∧ (¬ (mD m1 a0 41) = (-1) → (mK m1 (mR m1 a0 48) = 20 ∨ ((mR m1 a0 48) ≠ 0 ∧ mK m1 (mR m1 a0 48) = 40)) ∧ ((0 : Int) ≤ (mD m1 a0 41) ∧ (mD m1 a0 41) < (mN m1 (mR m1 a0 48) : Int)) ∧ (mK m1 (mR m1 a0 48) = 20 ∧ ((0 : Int) ≤ (mD m1 a0 41) ∧ (mD m1 a0 41) < (mN m1 (mR m1 a0 48) : Int)) ∧ (∀ m2, m2 = sD m1 (mR m1 a0 48) (mD m1 a0 41) (w32 ((mD m1 (mR m1 a0 48) (mD m1 a0 41)) + 1)) → ∀ v3, v3 = w32 (a4 + 1) → Wp (d + 1) (bc - mc1) (bs - ms1) mX10_odds 51 [some (vr a0), some (vi a1), some (vi a2), some (vi v1), some (vi v3), none] [] m2 Q))))) ∧ (x1 = 0 → ∀ v4, v4 = w32 (a4 + 1) → Wp (d + 1) (bc - mc1) (bs - ms1) mX10_odds 51 [some (vr a0), some (vi a1), some (vi a2), some (vi a3), some (vi v4), none] [] m1 Q)))) :
    Wp (d + 1) bc bs mX10_odds 51 [some (vr a0), some (vi a1), some (vi a2), some (vi a3), some (vi a4), none] [] μ Q := by
  refine st_iload (pc := 51) dX10_odds_51 rfl ?_
  refine st_iload_n (pc := 53) dX10_odds_53 rfl rfl ?_
  refine st_icmpgt (pc := 54) (tgt := 100) dX10_odds_54 rfl (fun c => ?_) (fun c => ?_)
  · replace h := h.1 c
    refine sg_iconst (pc := 100) dX10_odds_100 (by omega) ?_
    refine sg_istore (pc := 101) (ls' := [some (vr a0), some (vi a1), some (vi a2), some (vi a3), some (vi 0), none]) dX10_odds_101 (by show (4 : Nat) < 6; decide) rfl ?_
    refine sg_iconst (pc := 103) dX10_odds_103 (by omega) ?_
    refine sg_istore (pc := 104) (ls' := [some (vr a0), some (vi a1), some (vi a2), some (vi a3), some (vi 0), some (vi 0)]) dX10_odds_104 (by show (5 : Nat) < 6; decide) rfl ?_
    exact h
  · replace h := h.2 c
    refine st_aload_n (pc := 57) dX10_odds_57 rfl rfl ?_
    refine st_iload_n (pc := 58) dX10_odds_58 rfl rfl ?_
    refine st_iload (pc := 59) dX10_odds_59 rfl ?_
    obtain ⟨hk1, h⟩ := h
    obtain ⟨mc1, ms1, K1, hC, e1, e2, h⟩ := h
    refine sg_VI (pc := 61) (av := [vi a1, vi a4]) (st := []) (K := K1) dX10_odds_61 ck_10_338 rfl (by decide) hk1 (by show (0 : Nat) ≤ 8; decide) hC e1 e2 (fun x1 m1 hK => ?_) rfl
    replace h := h x1 m1 hK
    refine st_ifne (pc := 64) (tgt := 70) dX10_odds_64 rfl (fun c => ?_) (fun c => ?_)
    · replace h := h.1 c
      refine sg_iinc (pc := 70) (ls' := [some (vr a0), some (vi a1), some (vi a2), some (vi (w32 (a3 + 1))), some (vi a4), none]) dX10_odds_70 rfl rfl ?_
      refine Wp.nameL (ls2 := fun v => [some (vr a0), some (vi a1), some (vi a2), some (vi v), some (vi a4), none]) 3 _ rfl (fun _ => rfl) (fun v1 ev1 => ?_)
      replace h := h v1 ev1
      refine st_aload_n (pc := 73) dX10_odds_73 rfl rfl ?_
      obtain ⟨hk2, h⟩ := h
      refine sg_gfI (pc := 74) (J := 41) dX10_odds_74 fl_10_294 (by decide) rfl hk2 ?_
      refine sg_iconst (pc := 77) dX10_odds_77 (by omega) ?_
      refine st_icmpeq (pc := 78) (tgt := 94) dX10_odds_78 rfl (fun c => ?_) (fun c => ?_)
      · replace h := h.1 c
        refine sg_iinc (pc := 94) (ls' := [some (vr a0), some (vi a1), some (vi a2), some (vi v1), some (vi (w32 (a4 + 1))), none]) dX10_odds_94 rfl rfl ?_
        refine Wp.nameL (ls2 := fun v => [some (vr a0), some (vi a1), some (vi a2), some (vi v1), some (vi v), none]) 4 _ rfl (fun _ => rfl) (fun v2 ev2 => ?_)
        replace h := h v2 ev2
        refine st_goto (pc := 97) dX10_odds_97 rfl ?_
        exact h
      · replace h := h.2 c
        refine st_aload_n (pc := 81) dX10_odds_81 rfl rfl ?_
        refine sg_gfR (pc := 82) (J := 48) dX10_odds_82 fl_10_96 rfl hk2 ?_
        refine st_aload_n (pc := 85) dX10_odds_85 rfl rfl ?_
        refine sg_gfI (pc := 86) (J := 41) dX10_odds_86 fl_10_294 (by decide) rfl hk2 ?_
        refine st_dup2 (pc := 89) dX10_odds_89 rfl rfl ?_
        obtain ⟨hk3, h⟩ := h
        obtain ⟨h1, h⟩ := h
        refine sg_iaload (pc := 90) dX10_odds_90 hk3 h1 ?_
        refine sg_iconst (pc := 91) dX10_odds_91 (by omega) ?_
        refine st_iadd (pc := 92) dX10_odds_92 ?_
        obtain ⟨hk4, h⟩ := h
        obtain ⟨h1, h⟩ := h
        refine st_iastore (pc := 93) dX10_odds_93 hk4 h1.1 h1.2 ?_
        refine Wp.nameM (fun m2 em2 => ?_)
        replace h := h m2 em2
        refine sg_iinc (pc := 94) (ls' := [some (vr a0), some (vi a1), some (vi a2), some (vi v1), some (vi (w32 (a4 + 1))), none]) dX10_odds_94 rfl rfl ?_
        refine Wp.nameL (ls2 := fun v => [some (vr a0), some (vi a1), some (vi a2), some (vi v1), some (vi v), none]) 4 _ rfl (fun _ => rfl) (fun v3 ev3 => ?_)
        replace h := h v3 ev3
        refine st_goto (pc := 97) dX10_odds_97 rfl ?_
        exact h
    · replace h := h.2 c
      refine st_goto (pc := 67) dX10_odds_67 rfl ?_
      refine sg_iinc (pc := 94) (ls' := [some (vr a0), some (vi a1), some (vi a2), some (vi a3), some (vi (w32 (a4 + 1))), none]) dX10_odds_94 rfl rfl ?_
      refine Wp.nameL (ls2 := fun v => [some (vr a0), some (vi a1), some (vi a2), some (vi a3), some (vi v), none]) 4 _ rfl (fun _ => rfl) (fun v4 ev4 => ?_)
      replace h := h v4 ev4
      refine st_goto (pc := 97) dX10_odds_97 rfl ?_
      exact h

theorem sg_X10_odds_106 {d bc bs : Nat} {a0 : Nat} {a1 : Int} {a2 : Int} {a3 : Int} {a4 : Int} {a5 : Int} {μ : Mem} {Q : Option (Option AV) → Mem → Prop}
    (h : (1000 ≤ a5 → mK μ a0 = 11 ∧ (∀ m1, m1 = sD μ a0 14 0 → ∃ (mc1 ms1 : Nat) (K1 : Mem → Prop), Cl d mc1 ms1 mX10_tellPart [vr a0, vl a3, vl a2] m1 (KV K1) ∧ mc1 ≤ bc ∧ ms1 ≤ bs ∧ (∀ m2, K1 m2 → mK m2 a0 = 11 ∧ ((mK m2 (mR m2 a0 48) = 20 ∨ ((mR m2 a0 48) ≠ 0 ∧ mK m2 (mR m2 a0 48) = 40)) ∧ ((0 : Int) ≤ a4 ∧ a4 < (mN m2 (mR m2 a0 48) : Int)) ∧ ((¬ (mD m2 (mR m2 a0 48) a4) = 0 → ∃ (mc2 ms2 : Nat) (K2 : Mem → Prop), Cl d mc2 ms2 mX10_tell [vr a0, vl a4] m2 (KV K2) ∧ mc2 ≤ bc - mc1 ∧ ms2 ≤ bs - ms1 ∧ (∀ m3, K2 m3 → Q (some (some (vi 0))) m3)) ∧ ((mD m2 (mR m2 a0 48) a4) = 0 → ∃ (mc3 ms3 : Nat) (K3 : Mem → Prop), Cl d mc3 ms3 mX10_tell [vr a0, vl (-1)] m2 (KV K3) ∧ mc3 ≤ bc - mc1 ∧ ms3 ≤ bs - ms1 ∧ (∀ m4, K3 m4 → Q (some (some (vi 0))) m4))))))) ∧ (¬ 1000 ≤ a5 → mK μ a0 = 11 ∧ ((mK μ (mR μ a0 48) = 20 ∨ ((mR μ a0 48) ≠ 0 ∧ mK μ (mR μ a0 48) = 40)) ∧ ((0 : Int) ≤ a5 ∧ a5 < (mN μ (mR μ a0 48) : Int)) ∧ (((0 : Int) ≤ a4 ∧ a4 < (mN μ (mR μ a0 48) : Int)) ∧ (((mD μ (mR μ a0 48) a5) ≤ (mD μ (mR μ a0 48) a4) → ∀ v1, v1 = w32 (a5 + 1) → Wp (d + 1) bc bs mX10_odds 106 [some (vr a0), some (vi a1), some (vi a2), some (vi a3), some (vi a4), some (vi v1)] [] μ Q) ∧ (¬ (mD μ (mR μ a0 48) a5) ≤ (mD μ (mR μ a0 48) a4) → ∀ v2, v2 = w32 (a5 + 1) → Wp (d + 1) bc bs mX10_odds 106 [some (vr a0), some (vi a1), some (vi a2), some (vi a3), some (vi a5), some (vi v2)] [] μ Q)))))) :
    Wp (d + 1) bc bs mX10_odds 106 [some (vr a0), some (vi a1), some (vi a2), some (vi a3), some (vi a4), some (vi a5)] [] μ Q := by
  refine st_iload (pc := 106) dX10_odds_106 rfl ?_
  refine sg_sipush (pc := 108) dX10_odds_108 (by omega) (by decide) ?_
  refine st_icmpge (pc := 111) (tgt := 141) dX10_odds_111 rfl (fun c => ?_) (fun c => ?_)
  · replace h := h.1 c
    refine st_aload_n (pc := 141) dX10_odds_141 rfl rfl ?_
    refine sg_iconst (pc := 142) dX10_odds_142 (by omega) ?_
    obtain ⟨hk1, h⟩ := h
    refine sg_pfI (pc := 143) (J := 14) dX10_odds_143 fl_10_145 rfl (Or.inl rfl) hk1 ?_
    refine Wp.nameM (fun m1 em1 => ?_)
    replace h := h m1 em1
    refine st_aload_n (pc := 146) dX10_odds_146 rfl rfl ?_
    refine st_iload_n (pc := 147) dX10_odds_147 rfl rfl ?_
    refine st_i2l (pc := 148) dX10_odds_148 ?_
    refine st_iload_n (pc := 149) dX10_odds_149 rfl rfl ?_
    refine st_i2l (pc := 150) dX10_odds_150 ?_
    obtain ⟨mc1, ms1, K1, hC, e1, e2, h⟩ := h
    refine sg_VV (pc := 151) (av := [vl a3, vl a2]) (st := []) (K := K1) dX10_odds_151 ck_10_348 rfl (by decide) (by cases em1; exact hk1) (by show (0 : Nat) ≤ 8; decide) hC e1 e2 (fun m2 hK => ?_) rfl
    replace h := h m2 hK
    refine st_aload_n (pc := 154) dX10_odds_154 rfl rfl ?_
    refine st_aload_n (pc := 155) dX10_odds_155 rfl rfl ?_
    obtain ⟨hk2, h⟩ := h
    refine sg_gfR (pc := 156) (J := 48) dX10_odds_156 fl_10_96 rfl hk2 ?_
    refine st_iload (pc := 159) dX10_odds_159 rfl ?_
    obtain ⟨hk3, h⟩ := h
    obtain ⟨h1, h⟩ := h
    refine sg_iaload (pc := 161) dX10_odds_161 hk3 h1 ?_
    refine st_ifne (pc := 162) (tgt := 171) dX10_odds_162 rfl (fun c => ?_) (fun c => ?_)
    · replace h := h.1 c
      refine st_iload (pc := 171) dX10_odds_171 rfl ?_
      refine st_i2l (pc := 173) dX10_odds_173 ?_
      obtain ⟨mc2, ms2, K2, hC, e1, e2, h⟩ := h
      refine sg_VV (pc := 174) (av := [vl a4]) (st := []) (K := K2) dX10_odds_174 ck_10_252 rfl (by decide) hk2 (by show (0 : Nat) ≤ 8; decide) hC e1 e2 (fun m3 hK => ?_) rfl
      replace h := h m3 hK
      refine sg_iconst (pc := 177) dX10_odds_177 (by omega) ?_
      exact st_ireturn (pc := 178) dX10_odds_178 (Or.inl rfl) h
    · replace h := h.2 c
      refine st_ldc2 (pc := 165) (n := (-1)) dX10_odds_165 cn_10_352 (by unfold r64; omega) ?_
      refine st_goto (pc := 168) dX10_odds_168 rfl ?_
      obtain ⟨mc3, ms3, K3, hC, e1, e2, h⟩ := h
      refine sg_VV (pc := 174) (av := [vl (-1)]) (st := []) (K := K3) dX10_odds_174 ck_10_252 rfl (by decide) hk2 (by show (0 : Nat) ≤ 8; decide) hC e1 e2 (fun m4 hK => ?_) rfl
      replace h := h m4 hK
      refine sg_iconst (pc := 177) dX10_odds_177 (by omega) ?_
      exact st_ireturn (pc := 178) dX10_odds_178 (Or.inl rfl) h
  · replace h := h.2 c
    refine st_aload_n (pc := 114) dX10_odds_114 rfl rfl ?_
    obtain ⟨hk4, h⟩ := h
    refine sg_gfR (pc := 115) (J := 48) dX10_odds_115 fl_10_96 rfl hk4 ?_
    refine st_iload (pc := 118) dX10_odds_118 rfl ?_
    obtain ⟨hk5, h⟩ := h
    obtain ⟨h1, h⟩ := h
    refine sg_iaload (pc := 120) dX10_odds_120 hk5 h1 ?_
    refine st_aload_n (pc := 121) dX10_odds_121 rfl rfl ?_
    refine sg_gfR (pc := 122) (J := 48) dX10_odds_122 fl_10_96 rfl hk4 ?_
    refine st_iload (pc := 125) dX10_odds_125 rfl ?_
    obtain ⟨h1, h⟩ := h
    refine sg_iaload (pc := 127) dX10_odds_127 hk5 h1 ?_
    refine st_icmple (pc := 128) (tgt := 135) dX10_odds_128 rfl (fun c => ?_) (fun c => ?_)
    · replace h := h.1 c
      refine sg_iinc (pc := 135) (ls' := [some (vr a0), some (vi a1), some (vi a2), some (vi a3), some (vi a4), some (vi (w32 (a5 + 1)))]) dX10_odds_135 rfl rfl ?_
      refine Wp.nameL (ls2 := fun v => [some (vr a0), some (vi a1), some (vi a2), some (vi a3), some (vi a4), some (vi v)]) 5 _ rfl (fun _ => rfl) (fun v1 ev1 => ?_)
      replace h := h v1 ev1
      refine st_goto (pc := 138) dX10_odds_138 rfl ?_
      exact h
    · replace h := h.2 c
      refine st_iload (pc := 131) dX10_odds_131 rfl ?_
      refine sg_istore (pc := 133) (ls' := [some (vr a0), some (vi a1), some (vi a2), some (vi a3), some (vi a5), some (vi a5)]) dX10_odds_133 (by show (4 : Nat) < 6; decide) rfl ?_
      refine sg_iinc (pc := 135) (ls' := [some (vr a0), some (vi a1), some (vi a2), some (vi a3), some (vi a5), some (vi (w32 (a5 + 1)))]) dX10_odds_135 rfl rfl ?_
      refine Wp.nameL (ls2 := fun v => [some (vr a0), some (vi a1), some (vi a2), some (vi a3), some (vi a5), some (vi v)]) 5 _ rfl (fun _ => rfl) (fun v2 ev2 => ?_)
      replace h := h v2 ev2
      refine st_goto (pc := 138) dX10_odds_138 rfl ?_
      exact h

theorem sg_X10_full_0 {d bc bs : Nat} {a0 : Nat} {a1 : Int} {μ : Mem} {Q : Option (Option AV) → Mem → Prop}
    (h : mK μ a0 = 11 ∧ (∀ m1, m1 = sD μ a0 15 0 → ∃ (mc1 ms1 : Nat) (K1 : Int → Mem → Prop), Cl d mc1 ms1 mX10_isWalk [vi a1] m1 (KI K1) ∧ mc1 ≤ bc ∧ ms1 ≤ bs ∧ (∀ x1 m2, K1 x1 m2 → (¬ x1 = 0 → mK m2 a0 = 11 ∧ (∀ v1, v1 = mD m2 a0 2 → Wp (d + 1) (bc - mc1) (bs - ms1) mX10_full 26 [some (vr a0), some (vi a1), some (vi v1), some (vi (-2)), some (vi 20)] [] m2 Q)) ∧ (x1 = 0 → Q (some (some (vi (-1)))) m2)))) :
    Wp (d + 1) bc bs mX10_full 0 [some (vr a0), some (vi a1), none, none, none] [] μ Q := by
  refine st_aload_n (pc := 0) dX10_full_0 rfl rfl ?_
  refine sg_iconst (pc := 1) dX10_full_1 (by omega) ?_
  obtain ⟨hk1, h⟩ := h
  refine sg_pfI (pc := 2) (J := 15) dX10_full_2 fl_10_142 rfl (Or.inl rfl) hk1 ?_
  refine Wp.nameM (fun m1 em1 => ?_)
  replace h := h m1 em1
  refine st_iload_n (pc := 5) dX10_full_5 rfl rfl ?_
  obtain ⟨mc1, ms1, K1, hC, e1, e2, h⟩ := h
  refine sg_SI (pc := 6) (av := [vi a1]) (st := []) (K := K1) dX10_full_6 ck_10_245 rfl (by show (0 : Nat) ≤ 8; decide) hC e1 e2 (fun x1 m2 hK => ?_) rfl
  replace h := h x1 m2 hK
  refine st_ifne (pc := 9) (tgt := 14) dX10_full_9 rfl (fun c => ?_) (fun c => ?_)
  · replace h := h.1 c
    refine st_aload_n (pc := 14) dX10_full_14 rfl rfl ?_
    obtain ⟨hk2, h⟩ := h
    refine sg_gfI (pc := 15) (J := 2) dX10_full_15 fl_10_16 (by decide) rfl hk2 ?_
    refine sg_istore_n (pc := 18) (ls' := [some (vr a0), some (vi a1), some (vi (mD m2 a0 2)), none, none]) dX10_full_18 rfl (by show (2 : Nat) < 5; decide) rfl ?_
    refine Wp.nameL (ls2 := fun v => [some (vr a0), some (vi a1), some (vi v), none, none]) 2 _ rfl (fun _ => rfl) (fun v1 ev1 => ?_)
    replace h := h v1 ev1
    refine sg_bipush (pc := 19) dX10_full_19 (by omega) (by decide) ?_
    refine sg_istore_n (pc := 21) (ls' := [some (vr a0), some (vi a1), some (vi v1), some (vi (-2)), none]) dX10_full_21 rfl (by show (3 : Nat) < 5; decide) rfl ?_
    refine sg_bipush (pc := 22) dX10_full_22 (by omega) (by decide) ?_
    refine sg_istore (pc := 24) (ls' := [some (vr a0), some (vi a1), some (vi v1), some (vi (-2)), some (vi 20)]) dX10_full_24 (by show (4 : Nat) < 5; decide) rfl ?_
    exact h
  · replace h := h.2 c
    refine sg_iconst (pc := 12) dX10_full_12 (by omega) ?_
    exact st_ireturn (pc := 13) dX10_full_13 (Or.inl rfl) h

theorem sg_X10_full_26 {d bc bs : Nat} {a0 : Nat} {a1 : Int} {a2 : Int} {a3 : Int} {a4 : Int} {μ : Mem} {Q : Option (Option AV) → Mem → Prop}
    (h : (a4 < 0 → Wp (d + 1) bc bs mX10_full 69 [some (vr a0), some (vi a1), some (vi a2), some (vi a3), some (vi a4)] [] μ Q) ∧ (¬ a4 < 0 → (0 ≤ a3 → Wp (d + 1) bc bs mX10_full 69 [some (vr a0), some (vi a1), some (vi a2), some (vi a3), some (vi a4)] [] μ Q) ∧ (¬ 0 ≤ a3 → mK μ a0 = 11 ∧ ((∀ m1, m1 = sD μ a0 2 (w32 ((w32 ((mD μ a0 1) * a4)).tdiv 20)) → ∃ (mc1 ms1 : Nat) (K1 : Int → Mem → Prop), Cl d mc1 ms1 mX10_wholly [vr a0, vi a1, vi 1] m1 (KI K1) ∧ mc1 ≤ bc ∧ ms1 ≤ bs ∧ (∀ x1 m2, K1 x1 m2 → (¬ x1 = 0 → ∀ v1, v1 = w32 (a4 + (-1)) → Wp (d + 1) (bc - mc1) (bs - ms1) mX10_full 26 [some (vr a0), some (vi a1), some (vi a2), some (vi a3), some (vi v1)] [] m2 Q) ∧ (x1 = 0 → mK m2 a0 = 11 ∧ (∀ v2, v2 = mD m2 a0 2 → ∀ v3, v3 = w32 (a4 + (-1)) → Wp (d + 1) (bc - mc1) (bs - ms1) mX10_full 26 [some (vr a0), some (vi a1), some (vi a2), some (vi v2), some (vi v3)] [] m2 Q)))))))) :
    Wp (d + 1) bc bs mX10_full 26 [some (vr a0), some (vi a1), some (vi a2), some (vi a3), some (vi a4)] [] μ Q := by
  refine st_iload (pc := 26) dX10_full_26 rfl ?_
  refine st_iflt (pc := 28) (tgt := 69) dX10_full_28 rfl (fun c => ?_) (fun c => ?_)
  · replace h := h.1 c
    exact h
  · replace h := h.2 c
    refine st_iload_n (pc := 31) dX10_full_31 rfl rfl ?_
    refine st_ifge (pc := 32) (tgt := 69) dX10_full_32 rfl (fun c => ?_) (fun c => ?_)
    · replace h := h.1 c
      exact h
    · replace h := h.2 c
      refine st_aload_n (pc := 35) dX10_full_35 rfl rfl ?_
      refine st_aload_n (pc := 36) dX10_full_36 rfl rfl ?_
      obtain ⟨hk1, h⟩ := h
      refine sg_gfI (pc := 37) (J := 1) dX10_full_37 fl_10_13 (by decide) rfl hk1 ?_
      refine st_iload (pc := 40) dX10_full_40 rfl ?_
      refine st_imul (pc := 42) dX10_full_42 ?_
      refine sg_bipush (pc := 43) dX10_full_43 (by omega) (by decide) ?_
      refine st_idiv (pc := 45) dX10_full_45 (by omega) ?_
      refine sg_pfI (pc := 46) (J := 2) dX10_full_46 fl_10_16 rfl (Or.inl rfl) hk1 ?_
      refine Wp.nameM (fun m1 em1 => ?_)
      replace h := h m1 em1
      refine st_aload_n (pc := 49) dX10_full_49 rfl rfl ?_
      refine st_iload_n (pc := 50) dX10_full_50 rfl rfl ?_
      refine sg_iconst (pc := 51) dX10_full_51 (by omega) ?_
      obtain ⟨mc1, ms1, K1, hC, e1, e2, h⟩ := h
      refine sg_VI (pc := 52) (av := [vi a1, vi 1]) (st := []) (K := K1) dX10_full_52 ck_10_338 rfl (by decide) (by cases em1; exact hk1) (by show (0 : Nat) ≤ 8; decide) hC e1 e2 (fun x1 m2 hK => ?_) rfl
      replace h := h x1 m2 hK
      refine st_ifne (pc := 55) (tgt := 63) dX10_full_55 rfl (fun c => ?_) (fun c => ?_)
      · replace h := h.1 c
        refine sg_iinc (pc := 63) (ls' := [some (vr a0), some (vi a1), some (vi a2), some (vi a3), some (vi (w32 (a4 + (-1))))]) dX10_full_63 rfl rfl ?_
        refine Wp.nameL (ls2 := fun v => [some (vr a0), some (vi a1), some (vi a2), some (vi a3), some (vi v)]) 4 _ rfl (fun _ => rfl) (fun v1 ev1 => ?_)
        replace h := h v1 ev1
        refine st_goto (pc := 66) dX10_full_66 rfl ?_
        exact h
      · replace h := h.2 c
        refine st_aload_n (pc := 58) dX10_full_58 rfl rfl ?_
        obtain ⟨hk2, h⟩ := h
        refine sg_gfI (pc := 59) (J := 2) dX10_full_59 fl_10_16 (by decide) rfl hk2 ?_
        refine sg_istore_n (pc := 62) (ls' := [some (vr a0), some (vi a1), some (vi a2), some (vi (mD m2 a0 2)), some (vi a4)]) dX10_full_62 rfl (by show (3 : Nat) < 5; decide) rfl ?_
        refine Wp.nameL (ls2 := fun v => [some (vr a0), some (vi a1), some (vi a2), some (vi v), some (vi a4)]) 3 _ rfl (fun _ => rfl) (fun v2 ev2 => ?_)
        replace h := h v2 ev2
        refine sg_iinc (pc := 63) (ls' := [some (vr a0), some (vi a1), some (vi a2), some (vi v2), some (vi (w32 (a4 + (-1))))]) dX10_full_63 rfl rfl ?_
        refine Wp.nameL (ls2 := fun v => [some (vr a0), some (vi a1), some (vi a2), some (vi v2), some (vi v)]) 4 _ rfl (fun _ => rfl) (fun v3 ev3 => ?_)
        replace h := h v3 ev3
        refine st_goto (pc := 66) dX10_full_66 rfl ?_
        exact h

theorem sg_X10_full_69 {d bc bs : Nat} {a0 : Nat} {a1 : Int} {a2 : Int} {a3 : Int} {a4 : Int} {μ : Mem} {Q : Option (Option AV) → Mem → Prop}
    (h : mK μ a0 = 11 ∧ (∀ m1, m1 = sD μ a0 2 a2 → Q (some (some (vi a3))) m1)) :
    Wp (d + 1) bc bs mX10_full 69 [some (vr a0), some (vi a1), some (vi a2), some (vi a3), some (vi a4)] [] μ Q := by
  refine st_aload_n (pc := 69) dX10_full_69 rfl rfl ?_
  refine st_iload_n (pc := 70) dX10_full_70 rfl rfl ?_
  obtain ⟨hk1, h⟩ := h
  refine sg_pfI (pc := 71) (J := 2) dX10_full_71 fl_10_16 rfl (Or.inl rfl) hk1 ?_
  refine Wp.nameM (fun m1 em1 => ?_)
  replace h := h m1 em1
  refine st_iload_n (pc := 74) dX10_full_74 rfl rfl ?_
  exact st_ireturn (pc := 75) dX10_full_75 (Or.inl rfl) h

theorem sg_X10_leads_0 {d bc bs : Nat} {a0 : Nat} {a1 : Int} {a2 : Int} {μ : Mem} {Q : Option (Option AV) → Mem → Prop}
    (h : mK μ a0 = 11 ∧ (∀ m1, m1 = sD μ a0 15 0 → ∃ (mc1 ms1 : Nat) (K1 : Int → Mem → Prop), Cl d mc1 ms1 mX10_isWalk [vi a1] m1 (KI K1) ∧ mc1 ≤ bc ∧ ms1 ≤ bs ∧ (∀ x1 m2, K1 x1 m2 → (x1 = 0 → Q (some (some (vi (-1)))) m2) ∧ (¬ x1 = 0 → ∃ (mc2 ms2 : Nat) (K2 : Int → Mem → Prop), Cl d mc2 ms2 mX10_in [vi a2, vi 0, vi 99] m2 (KI K2) ∧ mc2 ≤ bc - mc1 ∧ ms2 ≤ bs - ms1 ∧ (∀ x2 m3, K2 x2 m3 → (¬ x2 = 0 → mK m3 a0 = 11 ∧ ((mK m3 (mR m3 a0 49) = 20 ∨ ((mR m3 a0 49) ≠ 0 ∧ mK m3 (mR m3 a0 49) = 40)) ∧ ((0 : Int) ≤ a1 ∧ a1 < (mN m3 (mR m3 a0 49) : Int)) ∧ (∀ v1, v1 = mD m3 (mR m3 a0 49) a1 → mK m3 (mR m3 a0 49) = 20 ∧ ((0 : Int) ≤ a1 ∧ a1 < (mN m3 (mR m3 a0 49) : Int)) ∧ (∀ m4, m4 = sD m3 (mR m3 a0 49) a1 a2 → Q (some (some (vi v1))) m4)))) ∧ (x2 = 0 → Q (some (some (vi (-1)))) m3)))))) :
    Wp (d + 1) bc bs mX10_leads 0 [some (vr a0), some (vi a1), some (vi a2), none] [] μ Q := by
  refine st_aload_n (pc := 0) dX10_leads_0 rfl rfl ?_
  refine sg_iconst (pc := 1) dX10_leads_1 (by omega) ?_
  obtain ⟨hk1, h⟩ := h
  refine sg_pfI (pc := 2) (J := 15) dX10_leads_2 fl_10_142 rfl (Or.inl rfl) hk1 ?_
  refine Wp.nameM (fun m1 em1 => ?_)
  replace h := h m1 em1
  refine st_iload_n (pc := 5) dX10_leads_5 rfl rfl ?_
  obtain ⟨mc1, ms1, K1, hC, e1, e2, h⟩ := h
  refine sg_SI (pc := 6) (av := [vi a1]) (st := []) (K := K1) dX10_leads_6 ck_10_245 rfl (by show (0 : Nat) ≤ 8; decide) hC e1 e2 (fun x1 m2 hK => ?_) rfl
  replace h := h x1 m2 hK
  refine st_ifeq (pc := 9) (tgt := 22) dX10_leads_9 rfl (fun c => ?_) (fun c => ?_)
  · replace h := h.1 c
    refine sg_iconst (pc := 22) dX10_leads_22 (by omega) ?_
    exact st_ireturn (pc := 23) dX10_leads_23 (Or.inl rfl) h
  · replace h := h.2 c
    refine st_iload_n (pc := 12) dX10_leads_12 rfl rfl ?_
    refine sg_iconst (pc := 13) dX10_leads_13 (by omega) ?_
    refine sg_bipush (pc := 14) dX10_leads_14 (by omega) (by decide) ?_
    obtain ⟨mc2, ms2, K2, hC, e1, e2, h⟩ := h
    refine sg_SI (pc := 16) (av := [vi a2, vi 0, vi 99]) (st := []) (K := K2) dX10_leads_16 ck_10_151 rfl (by show (0 : Nat) ≤ 8; decide) hC e1 e2 (fun x2 m3 hK => ?_) rfl
    replace h := h x2 m3 hK
    refine st_ifne (pc := 19) (tgt := 24) dX10_leads_19 rfl (fun c => ?_) (fun c => ?_)
    · replace h := h.1 c
      refine st_aload_n (pc := 24) dX10_leads_24 rfl rfl ?_
      obtain ⟨hk2, h⟩ := h
      refine sg_gfR (pc := 25) (J := 49) dX10_leads_25 fl_10_99 rfl hk2 ?_
      refine st_iload_n (pc := 28) dX10_leads_28 rfl rfl ?_
      obtain ⟨hk3, h⟩ := h
      obtain ⟨h1, h⟩ := h
      refine sg_iaload (pc := 29) dX10_leads_29 hk3 h1 ?_
      refine sg_istore_n (pc := 30) (ls' := [some (vr a0), some (vi a1), some (vi a2), some (vi (mD m3 (mR m3 a0 49) a1))]) dX10_leads_30 rfl (by show (3 : Nat) < 4; decide) rfl ?_
      refine Wp.nameL (ls2 := fun v => [some (vr a0), some (vi a1), some (vi a2), some (vi v)]) 3 _ rfl (fun _ => rfl) (fun v1 ev1 => ?_)
      replace h := h v1 ev1
      refine st_aload_n (pc := 31) dX10_leads_31 rfl rfl ?_
      refine sg_gfR (pc := 32) (J := 49) dX10_leads_32 fl_10_99 rfl hk2 ?_
      refine st_iload_n (pc := 35) dX10_leads_35 rfl rfl ?_
      refine st_iload_n (pc := 36) dX10_leads_36 rfl rfl ?_
      obtain ⟨hk4, h⟩ := h
      obtain ⟨h1, h⟩ := h
      refine st_iastore (pc := 37) dX10_leads_37 hk4 h1.1 h1.2 ?_
      refine Wp.nameM (fun m4 em4 => ?_)
      replace h := h m4 em4
      refine st_iload_n (pc := 38) dX10_leads_38 rfl rfl ?_
      exact st_ireturn (pc := 39) dX10_leads_39 (Or.inl rfl) h
    · replace h := h.2 c
      refine sg_iconst (pc := 22) dX10_leads_22 (by omega) ?_
      exact st_ireturn (pc := 23) dX10_leads_23 (Or.inl rfl) h

theorem sg_X10_keepPlan_0 {d bc bs : Nat} {a0 : Nat} {a1 : Int} {μ : Mem} {Q : Option (Option AV) → Mem → Prop}
    (h : Wp d bc bs mX10_keepPlan 2 [some (vr a0), some (vi a1), some (vi 0)] [] μ Q) :
    Wp d bc bs mX10_keepPlan 0 [some (vr a0), some (vi a1), none] [] μ Q := by
  refine sg_iconst (pc := 0) dX10_keepPlan_0 (by omega) ?_
  refine sg_istore_n (pc := 1) (ls' := [some (vr a0), some (vi a1), some (vi 0)]) dX10_keepPlan_1 rfl (by show (2 : Nat) < 3; decide) rfl ?_
  exact h

theorem sg_X10_keepPlan_2 {d bc bs : Nat} {a0 : Nat} {a1 : Int} {a2 : Int} {μ : Mem} {Q : Option (Option AV) → Mem → Prop}
    (h : (105 ≤ a2 → Q (some (some (vi a1))) μ) ∧ (¬ 105 ≤ a2 → mK μ a0 = 11 ∧ ((mK μ (mR μ a0 45) = 20 ∨ ((mR μ a0 45) ≠ 0 ∧ mK μ (mR μ a0 45) = 40)) ∧ ((0 : Int) ≤ (w32 (315 + a2)) ∧ (w32 (315 + a2)) < (mN μ (mR μ a0 45) : Int)) ∧ (mK μ (mR μ a0 54) = 20 ∧ ((0 : Int) ≤ (w32 ((w32 (105 * a1)) + a2)) ∧ (w32 ((w32 (105 * a1)) + a2)) < (mN μ (mR μ a0 54) : Int)) ∧ (∀ m1, m1 = sD μ (mR μ a0 54) (w32 ((w32 (105 * a1)) + a2)) (mD μ (mR μ a0 45) (w32 (315 + a2))) → ∀ v1, v1 = w32 (a2 + 1) → Wp d bc bs mX10_keepPlan 2 [some (vr a0), some (vi a1), some (vi v1)] [] m1 Q))))) :
    Wp d bc bs mX10_keepPlan 2 [some (vr a0), some (vi a1), some (vi a2)] [] μ Q := by
  refine st_iload_n (pc := 2) dX10_keepPlan_2 rfl rfl ?_
  refine sg_bipush (pc := 3) dX10_keepPlan_3 (by omega) (by decide) ?_
  refine st_icmpge (pc := 5) (tgt := 35) dX10_keepPlan_5 rfl (fun c => ?_) (fun c => ?_)
  · replace h := h.1 c
    refine st_iload_n (pc := 35) dX10_keepPlan_35 rfl rfl ?_
    exact st_ireturn (pc := 36) dX10_keepPlan_36 (Or.inl rfl) h
  · replace h := h.2 c
    refine st_aload_n (pc := 8) dX10_keepPlan_8 rfl rfl ?_
    obtain ⟨hk1, h⟩ := h
    refine sg_gfR (pc := 9) (J := 54) dX10_keepPlan_9 fl_10_108 rfl hk1 ?_
    refine sg_bipush (pc := 12) dX10_keepPlan_12 (by omega) (by decide) ?_
    refine st_iload_n (pc := 14) dX10_keepPlan_14 rfl rfl ?_
    refine st_imul (pc := 15) dX10_keepPlan_15 ?_
    refine st_iload_n (pc := 16) dX10_keepPlan_16 rfl rfl ?_
    refine st_iadd (pc := 17) dX10_keepPlan_17 ?_
    refine st_aload_n (pc := 18) dX10_keepPlan_18 rfl rfl ?_
    refine sg_gfR (pc := 19) (J := 45) dX10_keepPlan_19 fl_10_90 rfl hk1 ?_
    refine sg_sipush (pc := 22) dX10_keepPlan_22 (by omega) (by decide) ?_
    refine st_iload_n (pc := 25) dX10_keepPlan_25 rfl rfl ?_
    refine st_iadd (pc := 26) dX10_keepPlan_26 ?_
    obtain ⟨hk2, h⟩ := h
    obtain ⟨h1, h⟩ := h
    refine sg_iaload (pc := 27) dX10_keepPlan_27 hk2 h1 ?_
    obtain ⟨hk3, h⟩ := h
    obtain ⟨h1, h⟩ := h
    refine st_iastore (pc := 28) dX10_keepPlan_28 hk3 h1.1 h1.2 ?_
    refine Wp.nameM (fun m1 em1 => ?_)
    replace h := h m1 em1
    refine sg_iinc (pc := 29) (ls' := [some (vr a0), some (vi a1), some (vi (w32 (a2 + 1)))]) dX10_keepPlan_29 rfl rfl ?_
    refine Wp.nameL (ls2 := fun v => [some (vr a0), some (vi a1), some (vi v)]) 2 _ rfl (fun _ => rfl) (fun v1 ev1 => ?_)
    replace h := h v1 ev1
    refine st_goto (pc := 32) dX10_keepPlan_32 rfl ?_
    exact h

theorem sg_X10_fromPlan_0 {d bc bs : Nat} {a0 : Nat} {a1 : Int} {μ : Mem} {Q : Option (Option AV) → Mem → Prop}
    (h : Wp (d + 1) bc bs mX10_fromPlan 2 [some (vr a0), some (vi a1), some (vi 0)] [] μ Q) :
    Wp (d + 1) bc bs mX10_fromPlan 0 [some (vr a0), some (vi a1), none] [] μ Q := by
  refine sg_iconst (pc := 0) dX10_fromPlan_0 (by omega) ?_
  refine sg_istore_n (pc := 1) (ls' := [some (vr a0), some (vi a1), some (vi 0)]) dX10_fromPlan_1 rfl (by show (2 : Nat) < 3; decide) rfl ?_
  exact h

theorem sg_X10_fromPlan_2 {d bc bs : Nat} {a0 : Nat} {a1 : Int} {a2 : Int} {μ : Mem} {Q : Option (Option AV) → Mem → Prop}
    (h : (105 ≤ a2 → mK μ a0 = 11 ∧ ∃ (mc1 ms1 : Nat) (K1 : Mem → Prop), Cl d mc1 ms1 mX10_bringBack [vr a0, vi 3] μ (KV K1) ∧ mc1 ≤ bc ∧ ms1 ≤ bs ∧ (∀ m1, K1 m1 → Q (some none) m1)) ∧ (¬ 105 ≤ a2 → mK μ a0 = 11 ∧ ((mK μ (mR μ a0 54) = 20 ∨ ((mR μ a0 54) ≠ 0 ∧ mK μ (mR μ a0 54) = 40)) ∧ ((0 : Int) ≤ (w32 ((w32 (105 * a1)) + a2)) ∧ (w32 ((w32 (105 * a1)) + a2)) < (mN μ (mR μ a0 54) : Int)) ∧ (mK μ (mR μ a0 45) = 20 ∧ ((0 : Int) ≤ (w32 (315 + a2)) ∧ (w32 (315 + a2)) < (mN μ (mR μ a0 45) : Int)) ∧ (∀ m2, m2 = sD μ (mR μ a0 45) (w32 (315 + a2)) (mD μ (mR μ a0 54) (w32 ((w32 (105 * a1)) + a2))) → ∀ v1, v1 = w32 (a2 + 1) → Wp (d + 1) bc bs mX10_fromPlan 2 [some (vr a0), some (vi a1), some (vi v1)] [] m2 Q))))) :
    Wp (d + 1) bc bs mX10_fromPlan 2 [some (vr a0), some (vi a1), some (vi a2)] [] μ Q := by
  refine st_iload_n (pc := 2) dX10_fromPlan_2 rfl rfl ?_
  refine sg_bipush (pc := 3) dX10_fromPlan_3 (by omega) (by decide) ?_
  refine st_icmpge (pc := 5) (tgt := 35) dX10_fromPlan_5 rfl (fun c => ?_) (fun c => ?_)
  · replace h := h.1 c
    refine st_aload_n (pc := 35) dX10_fromPlan_35 rfl rfl ?_
    refine sg_iconst (pc := 36) dX10_fromPlan_36 (by omega) ?_
    obtain ⟨hk1, h⟩ := h
    obtain ⟨mc1, ms1, K1, hC, e1, e2, h⟩ := h
    refine sg_VV (pc := 37) (av := [vi 3]) (st := []) (K := K1) dX10_fromPlan_37 ck_10_329 rfl (by decide) hk1 (by show (0 : Nat) ≤ 8; decide) hC e1 e2 (fun m1 hK => ?_) rfl
    replace h := h m1 hK
    exact st_return (pc := 40) dX10_fromPlan_40 rfl h
  · replace h := h.2 c
    refine st_aload_n (pc := 8) dX10_fromPlan_8 rfl rfl ?_
    obtain ⟨hk2, h⟩ := h
    refine sg_gfR (pc := 9) (J := 45) dX10_fromPlan_9 fl_10_90 rfl hk2 ?_
    refine sg_sipush (pc := 12) dX10_fromPlan_12 (by omega) (by decide) ?_
    refine st_iload_n (pc := 15) dX10_fromPlan_15 rfl rfl ?_
    refine st_iadd (pc := 16) dX10_fromPlan_16 ?_
    refine st_aload_n (pc := 17) dX10_fromPlan_17 rfl rfl ?_
    refine sg_gfR (pc := 18) (J := 54) dX10_fromPlan_18 fl_10_108 rfl hk2 ?_
    refine sg_bipush (pc := 21) dX10_fromPlan_21 (by omega) (by decide) ?_
    refine st_iload_n (pc := 23) dX10_fromPlan_23 rfl rfl ?_
    refine st_imul (pc := 24) dX10_fromPlan_24 ?_
    refine st_iload_n (pc := 25) dX10_fromPlan_25 rfl rfl ?_
    refine st_iadd (pc := 26) dX10_fromPlan_26 ?_
    obtain ⟨hk3, h⟩ := h
    obtain ⟨h1, h⟩ := h
    refine sg_iaload (pc := 27) dX10_fromPlan_27 hk3 h1 ?_
    obtain ⟨hk4, h⟩ := h
    obtain ⟨h1, h⟩ := h
    refine st_iastore (pc := 28) dX10_fromPlan_28 hk4 h1.1 h1.2 ?_
    refine Wp.nameM (fun m2 em2 => ?_)
    replace h := h m2 em2
    refine sg_iinc (pc := 29) (ls' := [some (vr a0), some (vi a1), some (vi (w32 (a2 + 1)))]) dX10_fromPlan_29 rfl rfl ?_
    refine Wp.nameL (ls2 := fun v => [some (vr a0), some (vi a1), some (vi v)]) 2 _ rfl (fun _ => rfl) (fun v1 ev1 => ?_)
    replace h := h v1 ev1
    refine st_goto (pc := 32) dX10_fromPlan_32 rfl ?_
    exact h

theorem sg_X10_planFrom_0 {d bc bs : Nat} {a0 : Nat} {a1 : Int} {a2 : Int} {a3 : Int} {μ : Mem} {Q : Option (Option AV) → Mem → Prop}
    (h : Wp (d + 1) bc bs mX10_planFrom 3 [some (vr a0), some (vi a1), some (vi a2), some (vi a3), some (vi 0), none, none, none] [] μ Q) :
    Wp (d + 1) bc bs mX10_planFrom 0 [some (vr a0), some (vi a1), some (vi a2), some (vi a3), none, none, none, none] [] μ Q := by
  refine sg_iconst (pc := 0) dX10_planFrom_0 (by omega) ?_
  refine sg_istore (pc := 1) (ls' := [some (vr a0), some (vi a1), some (vi a2), some (vi a3), some (vi 0), none, none, none]) dX10_planFrom_1 (by show (4 : Nat) < 8; decide) rfl ?_
  exact h

theorem sg_X10_planFrom_3 {d bc bs : Nat} {a0 : Nat} {a1 : Int} {a2 : Int} {a3 : Int} {a4 : Int} {μ : Mem} {Q : Option (Option AV) → Mem → Prop}
    (h : (4 ≤ a4 → Q (some none) μ) ∧ (¬ 4 ≤ a4 → mK μ a0 = 11 ∧ ((mK μ (mR μ a0 49) = 20 ∨ ((mR μ a0 49) ≠ 0 ∧ mK μ (mR μ a0 49) = 40)) ∧ ((0 : Int) ≤ a4 ∧ a4 < (mN μ (mR μ a0 49) : Int)) ∧ ((¬ (mD μ (mR μ a0 49) a4) = 0 → (mK μ (mR μ a0 22) = 20 ∨ ((mR μ a0 22) ≠ 0 ∧ mK μ (mR μ a0 22) = 40)) ∧ ((0 : Int) ≤ a4 ∧ a4 < (mN μ (mR μ a0 22) : Int)) ∧ (∀ v1, v1 = w32 (a3 + (mD μ (mR μ a0 22) a4)) → ((mD μ a0 52) = (-1) → Wp (d + 1) bc bs mX10_planFrom 53 [some (vr a0), some (vi a1), some (vi a2), some (vi a3), some (vi a4), some (vi v1), none, none] [] μ Q) ∧ (¬ (mD μ a0 52) = (-1) → (v1 < (mD μ a0 53) → Wp (d + 1) bc bs mX10_planFrom 53 [some (vr a0), some (vi a1), some (vi a2), some (vi a3), some (vi a4), some (vi v1), none, none] [] μ Q) ∧ (¬ v1 < (mD μ a0 53) → ∀ v2, v2 = w32 (a4 + 1) → Wp (d + 1) bc bs mX10_planFrom 3 [some (vr a0), some (vi a1), some (vi a2), some (vi a3), some (vi v2), none, none, none] [] μ Q)))) ∧ ((mD μ (mR μ a0 49) a4) = 0 → ∀ v3, v3 = w32 (a4 + 1) → Wp (d + 1) bc bs mX10_planFrom 3 [some (vr a0), some (vi a1), some (vi a2), some (vi a3), some (vi v3), none, none, none] [] μ Q))))) :
    Wp (d + 1) bc bs mX10_planFrom 3 [some (vr a0), some (vi a1), some (vi a2), some (vi a3), some (vi a4), none, none, none] [] μ Q := by
  refine st_iload (pc := 3) dX10_planFrom_3 rfl ?_
  refine sg_iconst (pc := 5) dX10_planFrom_5 (by omega) ?_
  refine st_icmpge (pc := 6) (tgt := 180) dX10_planFrom_6 rfl (fun c => ?_) (fun c => ?_)
  · replace h := h.1 c
    exact st_return (pc := 180) dX10_planFrom_180 rfl h
  · replace h := h.2 c
    refine st_aload_n (pc := 9) dX10_planFrom_9 rfl rfl ?_
    obtain ⟨hk1, h⟩ := h
    refine sg_gfR (pc := 10) (J := 49) dX10_planFrom_10 fl_10_99 rfl hk1 ?_
    refine st_iload (pc := 13) dX10_planFrom_13 rfl ?_
    obtain ⟨hk2, h⟩ := h
    obtain ⟨h1, h⟩ := h
    refine sg_iaload (pc := 15) dX10_planFrom_15 hk2 h1 ?_
    refine st_ifne (pc := 16) (tgt := 22) dX10_planFrom_16 rfl (fun c => ?_) (fun c => ?_)
    · replace h := h.1 c
      refine st_iload_n (pc := 22) dX10_planFrom_22 rfl rfl ?_
      refine st_aload_n (pc := 23) dX10_planFrom_23 rfl rfl ?_
      refine sg_gfR (pc := 24) (J := 22) dX10_planFrom_24 fl_10_49 rfl hk1 ?_
      refine st_iload (pc := 27) dX10_planFrom_27 rfl ?_
      obtain ⟨hk3, h⟩ := h
      obtain ⟨h1, h⟩ := h
      refine sg_iaload (pc := 29) dX10_planFrom_29 hk3 h1 ?_
      refine st_iadd (pc := 30) dX10_planFrom_30 ?_
      refine sg_istore (pc := 31) (ls' := [some (vr a0), some (vi a1), some (vi a2), some (vi a3), some (vi a4), some (vi (w32 (a3 + (mD μ (mR μ a0 22) a4)))), none, none]) dX10_planFrom_31 (by show (5 : Nat) < 8; decide) rfl ?_
      refine Wp.nameL (ls2 := fun v => [some (vr a0), some (vi a1), some (vi a2), some (vi a3), some (vi a4), some (vi v), none, none]) 5 _ rfl (fun _ => rfl) (fun v1 ev1 => ?_)
      replace h := h v1 ev1
      refine st_aload_n (pc := 33) dX10_planFrom_33 rfl rfl ?_
      refine sg_gfI (pc := 34) (J := 52) dX10_planFrom_34 fl_10_354 (by decide) rfl hk1 ?_
      refine sg_iconst (pc := 37) dX10_planFrom_37 (by omega) ?_
      refine st_icmpeq (pc := 38) (tgt := 53) dX10_planFrom_38 rfl (fun c => ?_) (fun c => ?_)
      · replace h := h.1 c
        exact h
      · replace h := h.2 c
        refine st_iload (pc := 41) dX10_planFrom_41 rfl ?_
        refine st_aload_n (pc := 43) dX10_planFrom_43 rfl rfl ?_
        refine sg_gfI (pc := 44) (J := 53) dX10_planFrom_44 fl_10_357 (by decide) rfl hk1 ?_
        refine st_icmplt (pc := 47) (tgt := 53) dX10_planFrom_47 rfl (fun c => ?_) (fun c => ?_)
        · replace h := h.1 c
          exact h
        · replace h := h.2 c
          refine st_goto (pc := 50) dX10_planFrom_50 rfl ?_
          refine sg_iinc (pc := 174) (ls' := [some (vr a0), some (vi a1), some (vi a2), some (vi a3), some (vi (w32 (a4 + 1))), some (vi v1), none, none]) dX10_planFrom_174 rfl rfl ?_
          refine Wp.nameL (ls2 := fun v => [some (vr a0), some (vi a1), some (vi a2), some (vi a3), some (vi v), some (vi v1), none, none]) 4 _ rfl (fun _ => rfl) (fun v2 ev2 => ?_)
          replace h := h v2 ev2
          refine st_goto (pc := 177) dX10_planFrom_177 rfl ?_
          refine Wp.drop 5 rfl ?_
          exact h
    · replace h := h.2 c
      refine st_goto (pc := 19) dX10_planFrom_19 rfl ?_
      refine sg_iinc (pc := 174) (ls' := [some (vr a0), some (vi a1), some (vi a2), some (vi a3), some (vi (w32 (a4 + 1))), none, none, none]) dX10_planFrom_174 rfl rfl ?_
      refine Wp.nameL (ls2 := fun v => [some (vr a0), some (vi a1), some (vi a2), some (vi a3), some (vi v), none, none, none]) 4 _ rfl (fun _ => rfl) (fun v3 ev3 => ?_)
      replace h := h v3 ev3
      refine st_goto (pc := 177) dX10_planFrom_177 rfl ?_
      exact h

theorem sg_X10_planFrom_53 {d bc bs : Nat} {a0 : Nat} {a1 : Int} {a2 : Int} {a3 : Int} {a4 : Int} {a5 : Int} {μ : Mem} {Q : Option (Option AV) → Mem → Prop}
    (h : mK μ a0 = 11 ∧ ∃ (mc1 ms1 : Nat) (K1 : Mem → Prop), Cl d mc1 ms1 mX10_putBy [vr a0, vi 3] μ (KV K1) ∧ mc1 ≤ bc ∧ ms1 ≤ bs ∧ (∀ m1, K1 m1 → mK m1 a0 = 11 ∧ (mK m1 (mR m1 a0 50) = 20 ∧ ((0 : Int) ≤ a1 ∧ a1 < (mN m1 (mR m1 a0 50) : Int)) ∧ (∀ m2, m2 = sD m1 (mR m1 a0 50) a1 a4 → ∃ (mc2 ms2 : Nat) (K2 : Int → Mem → Prop), Cl d mc2 ms2 mX10_keepPlan [vr a0, vi a1] m2 (KI K2) ∧ mc2 ≤ bc - mc1 ∧ ms2 ≤ bs - ms1 ∧ (∀ x1 m3, K2 x1 m3 → mK m3 a0 = 11 ∧ ∃ (mc3 ms3 : Nat) (K3 : Int → Mem → Prop), Cl d mc3 ms3 mX10_goOn [vr a0, vi a4, vi 0, vi 1000, vi 1001] m3 (KI K3) ∧ mc3 ≤ bc - mc1 - mc2 ∧ ms3 ≤ bs - ms1 - ms2 ∧ (∀ x2 m4, K3 x2 m4 → (¬ x2 = 0 → Wp (d + 1) (bc - mc1 - mc2 - mc3) (bs - ms1 - ms2 - ms3) mX10_planFrom 168 [some (vr a0), some (vi a1), some (vi a2), some (vi a3), some (vi a4), some (vi a5), some (vi x1), none] [] m4 Q) ∧ (x2 = 0 → mK m4 a0 = 11 ∧ ((mK m4 (mR m4 a0 49) = 20 ∨ ((mR m4 a0 49) ≠ 0 ∧ mK m4 (mR m4 a0 49) = 40)) ∧ ((0 : Int) ≤ a4 ∧ a4 < (mN m4 (mR m4 a0 49) : Int)) ∧ (((mD m4 (mR m4 a0 49) a4) < a2 → (3 ≤ a1 → Wp (d + 1) (bc - mc1 - mc2 - mc3) (bs - ms1 - ms2 - ms3) mX10_planFrom 168 [some (vr a0), some (vi a1), some (vi a2), some (vi a3), some (vi a4), some (vi a5), some (vi x1), none] [] m4 Q) ∧ (¬ 3 ≤ a1 → ((0 : Int) ≤ a4 ∧ a4 < (mN m4 (mR m4 a0 49) : Int)) ∧ (∃ (mc4 ms4 : Nat) (K4 : Mem → Prop), Cl d mc4 ms4 mX10_planFrom [vr a0, vi (w32 (a1 + 1)), vi (w32 (a2 - (mD m4 (mR m4 a0 49) a4))), vi a5] m4 (KV K4) ∧ mc4 ≤ bc - mc1 - mc2 - mc3 ∧ ms4 ≤ bs - ms1 - ms2 - ms3 ∧ (∀ m5, K4 m5 → Wp (d + 1) (bc - mc1 - mc2 - mc3 - mc4) (bs - ms1 - ms2 - ms3 - ms4) mX10_planFrom 168 [some (vr a0), some (vi a1), some (vi a2), some (vi a3), some (vi a4), some (vi a5), some (vi x1), none] [] m5 Q)))) ∧ (¬ (mD m4 (mR m4 a0 49) a4) < a2 → (∀ m6, m6 = sD m4 a0 53 a5 → (∀ m7, m7 = sD m6 a0 52 (w32 (a1 + 1)) → Wp (d + 1) (bc - mc1 - mc2 - mc3) (bs - ms1 - ms2 - ms3) mX10_planFrom 116 [some (vr a0), some (vi a1), some (vi a2), some (vi a3), some (vi a4), some (vi a5), some (vi x1), some (vi 0)] [] m7 Q)))))))))))) :
    Wp (d + 1) bc bs mX10_planFrom 53 [some (vr a0), some (vi a1), some (vi a2), some (vi a3), some (vi a4), some (vi a5), none, none] [] μ Q := by
  refine st_aload_n (pc := 53) dX10_planFrom_53 rfl rfl ?_
  refine sg_iconst (pc := 54) dX10_planFrom_54 (by omega) ?_
  obtain ⟨hk1, h⟩ := h
  obtain ⟨mc1, ms1, K1, hC, e1, e2, h⟩ := h
  refine sg_VV (pc := 55) (av := [vi 3]) (st := []) (K := K1) dX10_planFrom_55 ck_10_326 rfl (by decide) hk1 (by show (0 : Nat) ≤ 8; decide) hC e1 e2 (fun m1 hK => ?_) rfl
  replace h := h m1 hK
  refine st_aload_n (pc := 58) dX10_planFrom_58 rfl rfl ?_
  obtain ⟨hk2, h⟩ := h
  refine sg_gfR (pc := 59) (J := 50) dX10_planFrom_59 fl_10_102 rfl hk2 ?_
  refine st_iload_n (pc := 62) dX10_planFrom_62 rfl rfl ?_
  refine st_iload (pc := 63) dX10_planFrom_63 rfl ?_
  obtain ⟨hk3, h⟩ := h
  obtain ⟨h1, h⟩ := h
  refine st_iastore (pc := 65) dX10_planFrom_65 hk3 h1.1 h1.2 ?_
  refine Wp.nameM (fun m2 em2 => ?_)
  replace h := h m2 em2
  refine st_aload_n (pc := 66) dX10_planFrom_66 rfl rfl ?_
  refine st_iload_n (pc := 67) dX10_planFrom_67 rfl rfl ?_
  obtain ⟨mc2, ms2, K2, hC, e1, e2, h⟩ := h
  refine sg_VI (pc := 68) (av := [vi a1]) (st := []) (K := K2) dX10_planFrom_68 ck_10_360 rfl (by decide) (by cases em2; exact hk2) (by show (0 : Nat) ≤ 8; decide) hC e1 e2 (fun x1 m3 hK => ?_) rfl
  replace h := h x1 m3 hK
  refine sg_istore (pc := 71) (ls' := [some (vr a0), some (vi a1), some (vi a2), some (vi a3), some (vi a4), some (vi a5), some (vi x1), none]) dX10_planFrom_71 (by show (6 : Nat) < 8; decide) rfl ?_
  refine st_aload_n (pc := 73) dX10_planFrom_73 rfl rfl ?_
  refine st_iload (pc := 74) dX10_planFrom_74 rfl ?_
  refine sg_iconst (pc := 76) dX10_planFrom_76 (by omega) ?_
  refine sg_sipush (pc := 77) dX10_planFrom_77 (by omega) (by decide) ?_
  refine sg_sipush (pc := 80) dX10_planFrom_80 (by omega) (by decide) ?_
  obtain ⟨hk4, h⟩ := h
  obtain ⟨mc3, ms3, K3, hC, e1, e2, h⟩ := h
  refine sg_VI (pc := 83) (av := [vi a4, vi 0, vi 1000, vi 1001]) (st := []) (K := K3) dX10_planFrom_83 ck_10_313 rfl (by decide) hk4 (by show (0 : Nat) ≤ 8; decide) hC e1 e2 (fun x2 m4 hK => ?_) rfl
  replace h := h x2 m4 hK
  refine st_ifne (pc := 86) (tgt := 168) dX10_planFrom_86 rfl (fun c => ?_) (fun c => ?_)
  · replace h := h.1 c
    exact h
  · replace h := h.2 c
    refine st_aload_n (pc := 89) dX10_planFrom_89 rfl rfl ?_
    obtain ⟨hk5, h⟩ := h
    refine sg_gfR (pc := 90) (J := 49) dX10_planFrom_90 fl_10_99 rfl hk5 ?_
    refine st_iload (pc := 93) dX10_planFrom_93 rfl ?_
    obtain ⟨hk6, h⟩ := h
    obtain ⟨h1, h⟩ := h
    refine sg_iaload (pc := 95) dX10_planFrom_95 hk6 h1 ?_
    refine st_iload_n (pc := 96) dX10_planFrom_96 rfl rfl ?_
    refine st_icmplt (pc := 97) (tgt := 145) dX10_planFrom_97 rfl (fun c => ?_) (fun c => ?_)
    · replace h := h.1 c
      refine st_iload_n (pc := 145) dX10_planFrom_145 rfl rfl ?_
      refine sg_iconst (pc := 146) dX10_planFrom_146 (by omega) ?_
      refine st_icmpge (pc := 147) (tgt := 168) dX10_planFrom_147 rfl (fun c => ?_) (fun c => ?_)
      · replace h := h.1 c
        exact h
      · replace h := h.2 c
        refine st_aload_n (pc := 150) dX10_planFrom_150 rfl rfl ?_
        refine st_iload_n (pc := 151) dX10_planFrom_151 rfl rfl ?_
        refine sg_iconst (pc := 152) dX10_planFrom_152 (by omega) ?_
        refine st_iadd (pc := 153) dX10_planFrom_153 ?_
        refine st_iload_n (pc := 154) dX10_planFrom_154 rfl rfl ?_
        refine st_aload_n (pc := 155) dX10_planFrom_155 rfl rfl ?_
        refine sg_gfR (pc := 156) (J := 49) dX10_planFrom_156 fl_10_99 rfl hk5 ?_
        refine st_iload (pc := 159) dX10_planFrom_159 rfl ?_
        obtain ⟨h1, h⟩ := h
        refine sg_iaload (pc := 161) dX10_planFrom_161 hk6 h1 ?_
        refine st_isub (pc := 162) dX10_planFrom_162 ?_
        refine st_iload (pc := 163) dX10_planFrom_163 rfl ?_
        obtain ⟨mc4, ms4, K4, hC, e1, e2, h⟩ := h
        refine sg_VV (pc := 165) (av := [vi (w32 (a1 + 1)), vi (w32 (a2 - (mD m4 (mR m4 a0 49) a4))), vi a5]) (st := []) (K := K4) dX10_planFrom_165 ck_10_363 rfl (by decide) hk5 (by show (0 : Nat) ≤ 8; decide) hC e1 e2 (fun m5 hK => ?_) rfl
        replace h := h m5 hK
        exact h
    · replace h := h.2 c
      refine st_aload_n (pc := 100) dX10_planFrom_100 rfl rfl ?_
      refine st_iload (pc := 101) dX10_planFrom_101 rfl ?_
      refine sg_pfI (pc := 103) (J := 53) dX10_planFrom_103 fl_10_357 rfl (Or.inl rfl) hk5 ?_
      refine Wp.nameM (fun m6 em6 => ?_)
      replace h := h m6 em6
      refine st_aload_n (pc := 106) dX10_planFrom_106 rfl rfl ?_
      refine st_iload_n (pc := 107) dX10_planFrom_107 rfl rfl ?_
      refine sg_iconst (pc := 108) dX10_planFrom_108 (by omega) ?_
      refine st_iadd (pc := 109) dX10_planFrom_109 ?_
      refine sg_pfI (pc := 110) (J := 52) dX10_planFrom_110 fl_10_354 rfl (Or.inl rfl) (by cases em6; exact hk5) ?_
      refine Wp.nameM (fun m7 em7 => ?_)
      replace h := h m7 em7
      refine sg_iconst (pc := 113) dX10_planFrom_113 (by omega) ?_
      refine sg_istore (pc := 114) (ls' := [some (vr a0), some (vi a1), some (vi a2), some (vi a3), some (vi a4), some (vi a5), some (vi x1), some (vi 0)]) dX10_planFrom_114 (by show (7 : Nat) < 8; decide) rfl ?_
      exact h

theorem sg_X10_planFrom_116 {d bc bs : Nat} {a0 : Nat} {a1 : Int} {a2 : Int} {a3 : Int} {a4 : Int} {a5 : Int} {a6 : Int} {a7 : Int} {μ : Mem} {Q : Option (Option AV) → Mem → Prop}
    (h : (a1 < a7 → Wp (d + 1) bc bs mX10_planFrom 168 [some (vr a0), some (vi a1), some (vi a2), some (vi a3), some (vi a4), some (vi a5), some (vi a6), none] [] μ Q) ∧ (¬ a1 < a7 → mK μ a0 = 11 ∧ ((mK μ (mR μ a0 50) = 20 ∨ ((mR μ a0 50) ≠ 0 ∧ mK μ (mR μ a0 50) = 40)) ∧ ((0 : Int) ≤ a7 ∧ a7 < (mN μ (mR μ a0 50) : Int)) ∧ (mK μ (mR μ a0 51) = 20 ∧ ((0 : Int) ≤ a7 ∧ a7 < (mN μ (mR μ a0 51) : Int)) ∧ (∀ m1, m1 = sD μ (mR μ a0 51) a7 (mD μ (mR μ a0 50) a7) → ∀ v1, v1 = w32 (a7 + 1) → Wp (d + 1) bc bs mX10_planFrom 116 [some (vr a0), some (vi a1), some (vi a2), some (vi a3), some (vi a4), some (vi a5), some (vi a6), some (vi v1)] [] m1 Q))))) :
    Wp (d + 1) bc bs mX10_planFrom 116 [some (vr a0), some (vi a1), some (vi a2), some (vi a3), some (vi a4), some (vi a5), some (vi a6), some (vi a7)] [] μ Q := by
  refine st_iload (pc := 116) dX10_planFrom_116 rfl ?_
  refine st_iload_n (pc := 118) dX10_planFrom_118 rfl rfl ?_
  refine st_icmpgt (pc := 119) (tgt := 142) dX10_planFrom_119 rfl (fun c => ?_) (fun c => ?_)
  · replace h := h.1 c
    refine st_goto (pc := 142) dX10_planFrom_142 rfl ?_
    refine Wp.drop 7 rfl ?_
    exact h
  · replace h := h.2 c
    refine st_aload_n (pc := 122) dX10_planFrom_122 rfl rfl ?_
    obtain ⟨hk1, h⟩ := h
    refine sg_gfR (pc := 123) (J := 51) dX10_planFrom_123 fl_10_105 rfl hk1 ?_
    refine st_iload (pc := 126) dX10_planFrom_126 rfl ?_
    refine st_aload_n (pc := 128) dX10_planFrom_128 rfl rfl ?_
    refine sg_gfR (pc := 129) (J := 50) dX10_planFrom_129 fl_10_102 rfl hk1 ?_
    refine st_iload (pc := 132) dX10_planFrom_132 rfl ?_
    obtain ⟨hk2, h⟩ := h
    obtain ⟨h1, h⟩ := h
    refine sg_iaload (pc := 134) dX10_planFrom_134 hk2 h1 ?_
    obtain ⟨hk3, h⟩ := h
    obtain ⟨h1, h⟩ := h
    refine st_iastore (pc := 135) dX10_planFrom_135 hk3 h1.1 h1.2 ?_
    refine Wp.nameM (fun m1 em1 => ?_)
    replace h := h m1 em1
    refine sg_iinc (pc := 136) (ls' := [some (vr a0), some (vi a1), some (vi a2), some (vi a3), some (vi a4), some (vi a5), some (vi a6), some (vi (w32 (a7 + 1)))]) dX10_planFrom_136 rfl rfl ?_
    refine Wp.nameL (ls2 := fun v => [some (vr a0), some (vi a1), some (vi a2), some (vi a3), some (vi a4), some (vi a5), some (vi a6), some (vi v)]) 7 _ rfl (fun _ => rfl) (fun v1 ev1 => ?_)
    replace h := h v1 ev1
    refine st_goto (pc := 139) dX10_planFrom_139 rfl ?_
    exact h

theorem sg_X10_planFrom_168 {d bc bs : Nat} {a0 : Nat} {a1 : Int} {a2 : Int} {a3 : Int} {a4 : Int} {a5 : Int} {a6 : Int} {μ : Mem} {Q : Option (Option AV) → Mem → Prop}
    (h : mK μ a0 = 11 ∧ ∃ (mc1 ms1 : Nat) (K1 : Mem → Prop), Cl d mc1 ms1 mX10_fromPlan [vr a0, vi a6] μ (KV K1) ∧ mc1 ≤ bc ∧ ms1 ≤ bs ∧ (∀ m1, K1 m1 → ∀ v1, v1 = w32 (a4 + 1) → Wp (d + 1) (bc - mc1) (bs - ms1) mX10_planFrom 3 [some (vr a0), some (vi a1), some (vi a2), some (vi a3), some (vi v1), none, none, none] [] m1 Q)) :
    Wp (d + 1) bc bs mX10_planFrom 168 [some (vr a0), some (vi a1), some (vi a2), some (vi a3), some (vi a4), some (vi a5), some (vi a6), none] [] μ Q := by
  refine st_aload_n (pc := 168) dX10_planFrom_168 rfl rfl ?_
  refine st_iload (pc := 169) dX10_planFrom_169 rfl ?_
  obtain ⟨hk1, h⟩ := h
  obtain ⟨mc1, ms1, K1, hC, e1, e2, h⟩ := h
  refine sg_VV (pc := 171) (av := [vi a6]) (st := []) (K := K1) dX10_planFrom_171 ck_10_366 rfl (by decide) hk1 (by show (0 : Nat) ≤ 8; decide) hC e1 e2 (fun m1 hK => ?_) rfl
  replace h := h m1 hK
  refine sg_iinc (pc := 174) (ls' := [some (vr a0), some (vi a1), some (vi a2), some (vi a3), some (vi (w32 (a4 + 1))), some (vi a5), some (vi a6), none]) dX10_planFrom_174 rfl rfl ?_
  refine Wp.nameL (ls2 := fun v => [some (vr a0), some (vi a1), some (vi a2), some (vi a3), some (vi v), some (vi a5), some (vi a6), none]) 4 _ rfl (fun _ => rfl) (fun v1 ev1 => ?_)
  replace h := h v1 ev1
  refine st_goto (pc := 177) dX10_planFrom_177 rfl ?_
  refine Wp.drop 5 rfl ?_
  refine Wp.drop 6 rfl ?_
  exact h

theorem sg_X10_plan_0 {d bc bs : Nat} {a0 : Nat} {a1 : Int} {μ : Mem} {Q : Option (Option AV) → Mem → Prop}
    (h : mK μ a0 = 11 ∧ (∀ m1, m1 = sD μ a0 15 0 → ∃ (mc1 ms1 : Nat) (K1 : Int → Mem → Prop), Cl d mc1 ms1 mX10_in [vi a1, vi 1, vi 400] m1 (KI K1) ∧ mc1 ≤ bc ∧ ms1 ≤ bs ∧ (∀ x1 m2, K1 x1 m2 → (¬ x1 = 0 → mK m2 a0 = 11 ∧ ∃ (mc2 ms2 : Nat) (K2 : Mem → Prop), Cl d mc2 ms2 mX10_putBy [vr a0, vi 3] m2 (KV K2) ∧ mc2 ≤ bc - mc1 ∧ ms2 ≤ bs - ms1 ∧ (∀ m3, K2 m3 → Wp (d + 1) (bc - mc1 - mc2) (bs - ms1 - ms2) mX10_plan 25 [some (vr a0), some (vi a1), some (vi 0)] [] m3 Q)) ∧ (x1 = 0 → Q (some (some (vi (-1)))) m2)))) :
    Wp (d + 1) bc bs mX10_plan 0 [some (vr a0), some (vi a1), none] [] μ Q := by
  refine st_aload_n (pc := 0) dX10_plan_0 rfl rfl ?_
  refine sg_iconst (pc := 1) dX10_plan_1 (by omega) ?_
  obtain ⟨hk1, h⟩ := h
  refine sg_pfI (pc := 2) (J := 15) dX10_plan_2 fl_10_142 rfl (Or.inl rfl) hk1 ?_
  refine Wp.nameM (fun m1 em1 => ?_)
  replace h := h m1 em1
  refine st_iload_n (pc := 5) dX10_plan_5 rfl rfl ?_
  refine sg_iconst (pc := 6) dX10_plan_6 (by omega) ?_
  refine sg_sipush (pc := 7) dX10_plan_7 (by omega) (by decide) ?_
  obtain ⟨mc1, ms1, K1, hC, e1, e2, h⟩ := h
  refine sg_SI (pc := 10) (av := [vi a1, vi 1, vi 400]) (st := []) (K := K1) dX10_plan_10 ck_10_151 rfl (by show (0 : Nat) ≤ 8; decide) hC e1 e2 (fun x1 m2 hK => ?_) rfl
  replace h := h x1 m2 hK
  refine st_ifne (pc := 13) (tgt := 18) dX10_plan_13 rfl (fun c => ?_) (fun c => ?_)
  · replace h := h.1 c
    refine st_aload_n (pc := 18) dX10_plan_18 rfl rfl ?_
    refine sg_iconst (pc := 19) dX10_plan_19 (by omega) ?_
    obtain ⟨hk2, h⟩ := h
    obtain ⟨mc2, ms2, K2, hC, e1, e2, h⟩ := h
    refine sg_VV (pc := 20) (av := [vi 3]) (st := []) (K := K2) dX10_plan_20 ck_10_326 rfl (by decide) hk2 (by show (0 : Nat) ≤ 8; decide) hC e1 e2 (fun m3 hK => ?_) rfl
    replace h := h m3 hK
    refine sg_iconst (pc := 23) dX10_plan_23 (by omega) ?_
    refine sg_istore_n (pc := 24) (ls' := [some (vr a0), some (vi a1), some (vi 0)]) dX10_plan_24 rfl (by show (2 : Nat) < 3; decide) rfl ?_
    exact h
  · replace h := h.2 c
    refine sg_iconst (pc := 16) dX10_plan_16 (by omega) ?_
    exact st_ireturn (pc := 17) dX10_plan_17 (Or.inl rfl) h

theorem sg_X10_plan_25 {d bc bs : Nat} {a0 : Nat} {a1 : Int} {a2 : Int} {μ : Mem} {Q : Option (Option AV) → Mem → Prop}
    (h : (105 ≤ a2 → mK μ a0 = 11 ∧ ∃ (mc1 ms1 : Nat) (K1 : Mem → Prop), Cl d mc1 ms1 mX10_begin [vr a0] μ (KV K1) ∧ mc1 ≤ bc ∧ ms1 ≤ bs ∧ (∀ m1, K1 m1 → mK m1 a0 = 11 ∧ (∀ m2, m2 = sD m1 a0 10 1 → ∃ (mc2 ms2 : Nat) (K2 : Mem → Prop), Cl d mc2 ms2 mX10_watch [vr a0] m2 (KV K2) ∧ mc2 ≤ bc - mc1 ∧ ms2 ≤ bs - ms1 ∧ (∀ m3, K2 m3 → mK m3 a0 = 11 ∧ (∀ m4, m4 = sD m3 a0 52 (-1) → ∃ (mc3 ms3 : Nat) (K3 : Mem → Prop), Cl d mc3 ms3 mX10_planFrom [vr a0, vi 0, vi a1, vi 0] m4 (KV K3) ∧ mc3 ≤ bc - mc1 - mc2 ∧ ms3 ≤ bs - ms1 - ms2 ∧ (∀ m5, K3 m5 → Wp (d + 1) (bc - mc1 - mc2 - mc3) (bs - ms1 - ms2 - ms3) mX10_plan 80 [some (vr a0), some (vi a1), some (vi 0)] [] m5 Q)))))) ∧ (¬ 105 ≤ a2 → mK μ a0 = 11 ∧ ((mK μ (mR μ a0 45) = 20 ∨ ((mR μ a0 45) ≠ 0 ∧ mK μ (mR μ a0 45) = 40)) ∧ ((0 : Int) ≤ (w32 (315 + a2)) ∧ (w32 (315 + a2)) < (mN μ (mR μ a0 45) : Int)) ∧ (mK μ (mR μ a0 55) = 20 ∧ ((0 : Int) ≤ a2 ∧ a2 < (mN μ (mR μ a0 55) : Int)) ∧ (∀ m6, m6 = sD μ (mR μ a0 55) a2 (mD μ (mR μ a0 45) (w32 (315 + a2))) → ∀ v1, v1 = w32 (a2 + 1) → Wp (d + 1) bc bs mX10_plan 25 [some (vr a0), some (vi a1), some (vi v1)] [] m6 Q))))) :
    Wp (d + 1) bc bs mX10_plan 25 [some (vr a0), some (vi a1), some (vi a2)] [] μ Q := by
  refine st_iload_n (pc := 25) dX10_plan_25 rfl rfl ?_
  refine sg_bipush (pc := 26) dX10_plan_26 (by omega) (by decide) ?_
  refine st_icmpge (pc := 28) (tgt := 53) dX10_plan_28 rfl (fun c => ?_) (fun c => ?_)
  · replace h := h.1 c
    refine st_aload_n (pc := 53) dX10_plan_53 rfl rfl ?_
    obtain ⟨hk1, h⟩ := h
    obtain ⟨mc1, ms1, K1, hC, e1, e2, h⟩ := h
    refine sg_VV (pc := 54) (av := []) (st := []) (K := K1) dX10_plan_54 ck_10_139 rfl (by decide) hk1 (by show (0 : Nat) ≤ 8; decide) hC e1 e2 (fun m1 hK => ?_) rfl
    replace h := h m1 hK
    refine st_aload_n (pc := 57) dX10_plan_57 rfl rfl ?_
    refine sg_iconst (pc := 58) dX10_plan_58 (by omega) ?_
    obtain ⟨hk2, h⟩ := h
    refine sg_pfI (pc := 59) (J := 10) dX10_plan_59 fl_10_38 rfl (Or.inl rfl) hk2 ?_
    refine Wp.nameM (fun m2 em2 => ?_)
    replace h := h m2 em2
    refine st_aload_n (pc := 62) dX10_plan_62 rfl rfl ?_
    obtain ⟨mc2, ms2, K2, hC, e1, e2, h⟩ := h
    refine sg_VV (pc := 63) (av := []) (st := []) (K := K2) dX10_plan_63 ck_10_310 rfl (by decide) (by cases em2; exact hk2) (by show (0 : Nat) ≤ 8; decide) hC e1 e2 (fun m3 hK => ?_) rfl
    replace h := h m3 hK
    refine st_aload_n (pc := 66) dX10_plan_66 rfl rfl ?_
    refine sg_iconst (pc := 67) dX10_plan_67 (by omega) ?_
    obtain ⟨hk3, h⟩ := h
    refine sg_pfI (pc := 68) (J := 52) dX10_plan_68 fl_10_354 rfl (Or.inl rfl) hk3 ?_
    refine Wp.nameM (fun m4 em4 => ?_)
    replace h := h m4 em4
    refine st_aload_n (pc := 71) dX10_plan_71 rfl rfl ?_
    refine sg_iconst (pc := 72) dX10_plan_72 (by omega) ?_
    refine st_iload_n (pc := 73) dX10_plan_73 rfl rfl ?_
    refine sg_iconst (pc := 74) dX10_plan_74 (by omega) ?_
    obtain ⟨mc3, ms3, K3, hC, e1, e2, h⟩ := h
    refine sg_VV (pc := 75) (av := [vi 0, vi a1, vi 0]) (st := []) (K := K3) dX10_plan_75 ck_10_363 rfl (by decide) (by cases em4; exact hk3) (by show (0 : Nat) ≤ 8; decide) hC e1 e2 (fun m5 hK => ?_) rfl
    replace h := h m5 hK
    refine sg_iconst (pc := 78) dX10_plan_78 (by omega) ?_
    refine sg_istore_n (pc := 79) (ls' := [some (vr a0), some (vi a1), some (vi 0)]) dX10_plan_79 rfl (by show (2 : Nat) < 3; decide) rfl ?_
    exact h
  · replace h := h.2 c
    refine st_aload_n (pc := 31) dX10_plan_31 rfl rfl ?_
    obtain ⟨hk4, h⟩ := h
    refine sg_gfR (pc := 32) (J := 55) dX10_plan_32 fl_10_111 rfl hk4 ?_
    refine st_iload_n (pc := 35) dX10_plan_35 rfl rfl ?_
    refine st_aload_n (pc := 36) dX10_plan_36 rfl rfl ?_
    refine sg_gfR (pc := 37) (J := 45) dX10_plan_37 fl_10_90 rfl hk4 ?_
    refine sg_sipush (pc := 40) dX10_plan_40 (by omega) (by decide) ?_
    refine st_iload_n (pc := 43) dX10_plan_43 rfl rfl ?_
    refine st_iadd (pc := 44) dX10_plan_44 ?_
    obtain ⟨hk5, h⟩ := h
    obtain ⟨h1, h⟩ := h
    refine sg_iaload (pc := 45) dX10_plan_45 hk5 h1 ?_
    obtain ⟨hk6, h⟩ := h
    obtain ⟨h1, h⟩ := h
    refine st_iastore (pc := 46) dX10_plan_46 hk6 h1.1 h1.2 ?_
    refine Wp.nameM (fun m6 em6 => ?_)
    replace h := h m6 em6
    refine sg_iinc (pc := 47) (ls' := [some (vr a0), some (vi a1), some (vi (w32 (a2 + 1)))]) dX10_plan_47 rfl rfl ?_
    refine Wp.nameL (ls2 := fun v => [some (vr a0), some (vi a1), some (vi v)]) 2 _ rfl (fun _ => rfl) (fun v1 ev1 => ?_)
    replace h := h v1 ev1
    refine st_goto (pc := 50) dX10_plan_50 rfl ?_
    exact h

theorem sg_X10_plan_80 {d bc bs : Nat} {a0 : Nat} {a1 : Int} {a2 : Int} {μ : Mem} {Q : Option (Option AV) → Mem → Prop}
    (h : (105 ≤ a2 → mK μ a0 = 11 ∧ ∃ (mc1 ms1 : Nat) (K1 : Mem → Prop), Cl d mc1 ms1 mX10_bringBack [vr a0, vi 3] μ (KV K1) ∧ mc1 ≤ bc ∧ ms1 ≤ bs ∧ (∀ m1, K1 m1 → mK m1 a0 = 11 ∧ ((¬ (mD m1 a0 52) = (-1) → (∀ m2, m2 = sD m1 a0 14 0 → Wp (d + 1) (bc - mc1) (bs - ms1) mX10_plan 131 [some (vr a0), some (vi a1), some (vi 0)] [] m2 Q)) ∧ ((mD m1 a0 52) = (-1) → Q (some (some (vi (-2)))) m1)))) ∧ (¬ 105 ≤ a2 → mK μ a0 = 11 ∧ ((mK μ (mR μ a0 55) = 20 ∨ ((mR μ a0 55) ≠ 0 ∧ mK μ (mR μ a0 55) = 40)) ∧ ((0 : Int) ≤ a2 ∧ a2 < (mN μ (mR μ a0 55) : Int)) ∧ (mK μ (mR μ a0 45) = 20 ∧ ((0 : Int) ≤ (w32 (315 + a2)) ∧ (w32 (315 + a2)) < (mN μ (mR μ a0 45) : Int)) ∧ (∀ m3, m3 = sD μ (mR μ a0 45) (w32 (315 + a2)) (mD μ (mR μ a0 55) a2) → ∀ v1, v1 = w32 (a2 + 1) → Wp (d + 1) bc bs mX10_plan 80 [some (vr a0), some (vi a1), some (vi v1)] [] m3 Q))))) :
    Wp (d + 1) bc bs mX10_plan 80 [some (vr a0), some (vi a1), some (vi a2)] [] μ Q := by
  refine st_iload_n (pc := 80) dX10_plan_80 rfl rfl ?_
  refine sg_bipush (pc := 81) dX10_plan_81 (by omega) (by decide) ?_
  refine st_icmpge (pc := 83) (tgt := 108) dX10_plan_83 rfl (fun c => ?_) (fun c => ?_)
  · replace h := h.1 c
    refine st_aload_n (pc := 108) dX10_plan_108 rfl rfl ?_
    refine sg_iconst (pc := 109) dX10_plan_109 (by omega) ?_
    obtain ⟨hk1, h⟩ := h
    obtain ⟨mc1, ms1, K1, hC, e1, e2, h⟩ := h
    refine sg_VV (pc := 110) (av := [vi 3]) (st := []) (K := K1) dX10_plan_110 ck_10_329 rfl (by decide) hk1 (by show (0 : Nat) ≤ 8; decide) hC e1 e2 (fun m1 hK => ?_) rfl
    replace h := h m1 hK
    refine st_aload_n (pc := 113) dX10_plan_113 rfl rfl ?_
    obtain ⟨hk2, h⟩ := h
    refine sg_gfI (pc := 114) (J := 52) dX10_plan_114 fl_10_354 (by decide) rfl hk2 ?_
    refine sg_iconst (pc := 117) dX10_plan_117 (by omega) ?_
    refine st_icmpne (pc := 118) (tgt := 124) dX10_plan_118 rfl (fun c => ?_) (fun c => ?_)
    · replace h := h.1 c
      refine st_aload_n (pc := 124) dX10_plan_124 rfl rfl ?_
      refine sg_iconst (pc := 125) dX10_plan_125 (by omega) ?_
      refine sg_pfI (pc := 126) (J := 14) dX10_plan_126 fl_10_145 rfl (Or.inl rfl) hk2 ?_
      refine Wp.nameM (fun m2 em2 => ?_)
      replace h := h m2 em2
      refine sg_iconst (pc := 129) dX10_plan_129 (by omega) ?_
      refine sg_istore_n (pc := 130) (ls' := [some (vr a0), some (vi a1), some (vi 0)]) dX10_plan_130 rfl (by show (2 : Nat) < 3; decide) rfl ?_
      exact h
    · replace h := h.2 c
      refine sg_bipush (pc := 121) dX10_plan_121 (by omega) (by decide) ?_
      exact st_ireturn (pc := 123) dX10_plan_123 (Or.inl rfl) h
  · replace h := h.2 c
    refine st_aload_n (pc := 86) dX10_plan_86 rfl rfl ?_
    obtain ⟨hk3, h⟩ := h
    refine sg_gfR (pc := 87) (J := 45) dX10_plan_87 fl_10_90 rfl hk3 ?_
    refine sg_sipush (pc := 90) dX10_plan_90 (by omega) (by decide) ?_
    refine st_iload_n (pc := 93) dX10_plan_93 rfl rfl ?_
    refine st_iadd (pc := 94) dX10_plan_94 ?_
    refine st_aload_n (pc := 95) dX10_plan_95 rfl rfl ?_
    refine sg_gfR (pc := 96) (J := 55) dX10_plan_96 fl_10_111 rfl hk3 ?_
    refine st_iload_n (pc := 99) dX10_plan_99 rfl rfl ?_
    obtain ⟨hk4, h⟩ := h
    obtain ⟨h1, h⟩ := h
    refine sg_iaload (pc := 100) dX10_plan_100 hk4 h1 ?_
    obtain ⟨hk5, h⟩ := h
    obtain ⟨h1, h⟩ := h
    refine st_iastore (pc := 101) dX10_plan_101 hk5 h1.1 h1.2 ?_
    refine Wp.nameM (fun m3 em3 => ?_)
    replace h := h m3 em3
    refine sg_iinc (pc := 102) (ls' := [some (vr a0), some (vi a1), some (vi (w32 (a2 + 1)))]) dX10_plan_102 rfl rfl ?_
    refine Wp.nameL (ls2 := fun v => [some (vr a0), some (vi a1), some (vi v)]) 2 _ rfl (fun _ => rfl) (fun v1 ev1 => ?_)
    replace h := h v1 ev1
    refine st_goto (pc := 105) dX10_plan_105 rfl ?_
    exact h

theorem sg_X10_plan_131 {d bc bs : Nat} {a0 : Nat} {a1 : Int} {a2 : Int} {μ : Mem} {Q : Option (Option AV) → Mem → Prop}
    (h : mK μ a0 = 11 ∧ (((mD μ a0 52) ≤ a2 → Q (some (some (vi (mD μ a0 53)))) μ) ∧ (¬ (mD μ a0 52) ≤ a2 → (mK μ (mR μ a0 51) = 20 ∨ ((mR μ a0 51) ≠ 0 ∧ mK μ (mR μ a0 51) = 40)) ∧ ((0 : Int) ≤ a2 ∧ a2 < (mN μ (mR μ a0 51) : Int)) ∧ (∃ (mc1 ms1 : Nat) (K1 : Mem → Prop), Cl d mc1 ms1 mX10_tell [vr a0, vl (mD μ (mR μ a0 51) a2)] μ (KV K1) ∧ mc1 ≤ bc ∧ ms1 ≤ bs ∧ (∀ m1, K1 m1 → ∀ v1, v1 = w32 (a2 + 1) → Wp (d + 1) (bc - mc1) (bs - ms1) mX10_plan 131 [some (vr a0), some (vi a1), some (vi v1)] [] m1 Q))))) :
    Wp (d + 1) bc bs mX10_plan 131 [some (vr a0), some (vi a1), some (vi a2)] [] μ Q := by
  refine st_iload_n (pc := 131) dX10_plan_131 rfl rfl ?_
  refine st_aload_n (pc := 132) dX10_plan_132 rfl rfl ?_
  obtain ⟨hk1, h⟩ := h
  refine sg_gfI (pc := 133) (J := 52) dX10_plan_133 fl_10_354 (by decide) rfl hk1 ?_
  refine st_icmpge (pc := 136) (tgt := 156) dX10_plan_136 rfl (fun c => ?_) (fun c => ?_)
  · replace h := h.1 c
    refine st_aload_n (pc := 156) dX10_plan_156 rfl rfl ?_
    refine sg_gfI (pc := 157) (J := 53) dX10_plan_157 fl_10_357 (by decide) rfl hk1 ?_
    exact st_ireturn (pc := 160) dX10_plan_160 (Or.inl rfl) h
  · replace h := h.2 c
    refine st_aload_n (pc := 139) dX10_plan_139 rfl rfl ?_
    refine st_aload_n (pc := 140) dX10_plan_140 rfl rfl ?_
    refine sg_gfR (pc := 141) (J := 51) dX10_plan_141 fl_10_105 rfl hk1 ?_
    refine st_iload_n (pc := 144) dX10_plan_144 rfl rfl ?_
    obtain ⟨hk2, h⟩ := h
    obtain ⟨h1, h⟩ := h
    refine sg_iaload (pc := 145) dX10_plan_145 hk2 h1 ?_
    refine st_i2l (pc := 146) dX10_plan_146 ?_
    obtain ⟨mc1, ms1, K1, hC, e1, e2, h⟩ := h
    refine sg_VV (pc := 147) (av := [vl (mD μ (mR μ a0 51) a2)]) (st := []) (K := K1) dX10_plan_147 ck_10_252 rfl (by decide) hk1 (by show (0 : Nat) ≤ 8; decide) hC e1 e2 (fun m1 hK => ?_) rfl
    replace h := h m1 hK
    refine sg_iinc (pc := 150) (ls' := [some (vr a0), some (vi a1), some (vi (w32 (a2 + 1)))]) dX10_plan_150 rfl rfl ?_
    refine Wp.nameL (ls2 := fun v => [some (vr a0), some (vi a1), some (vi v)]) 2 _ rfl (fun _ => rfl) (fun v1 ev1 => ?_)
    replace h := h v1 ev1
    refine st_goto (pc := 153) dX10_plan_153 rfl ?_
    exact h

theorem sg_X10_helps_0 {d bc bs : Nat} {a0 : Nat} {a1 : Int} {a2 : Int} {μ : Mem} {Q : Option (Option AV) → Mem → Prop}
    (h : mK μ a0 = 11 ∧ (∀ m1, m1 = sD μ a0 15 0 → ∃ (mc1 ms1 : Nat) (K1 : Int → Mem → Prop), Cl d mc1 ms1 mX10_isWalk [vi a1] m1 (KI K1) ∧ mc1 ≤ bc ∧ ms1 ≤ bs ∧ (∀ x1 m2, K1 x1 m2 → (x1 = 0 → Q (some (some (vi (-1)))) m2) ∧ (¬ x1 = 0 → mK m2 a0 = 11 ∧ ∃ (mc2 ms2 : Nat) (K2 : Int → Mem → Prop), Cl d mc2 ms2 mX10_isLaw [vr a0, vi a2] m2 (KI K2) ∧ mc2 ≤ bc - mc1 ∧ ms2 ≤ bs - ms1 ∧ (∀ x2 m3, K2 x2 m3 → (¬ x2 = 0 → mK m3 a0 = 11 ∧ ((mK m3 (mR m3 a0 3) = 20 ∨ ((mR m3 a0 3) ≠ 0 ∧ mK m3 (mR m3 a0 3) = 40)) ∧ ((0 : Int) ≤ 6 ∧ 6 < (mN m3 (mR m3 a0 3) : Int)) ∧ (∀ v1, v1 = mD m3 (mR m3 a0 3) 6 → ((0 : Int) ≤ 5 ∧ 5 < (mN m3 (mR m3 a0 3) : Int)) ∧ (∀ v2, v2 = mD m3 (mR m3 a0 3) 5 → mK m3 (mR m3 a0 3) = 20 ∧ ((0 : Int) ≤ 6 ∧ 6 < (mN m3 (mR m3 a0 3) : Int)) ∧ (∀ m4, m4 = sD m3 (mR m3 a0 3) 6 3 → ∃ (mc3 ms3 : Nat) (K3 : Int → Mem → Prop), Cl d mc3 ms3 mX10_wholly [vr a0, vi a1, vi 1] m4 (KI K3) ∧ mc3 ≤ bc - mc1 - mc2 ∧ ms3 ≤ bs - ms1 - ms2 ∧ (∀ x3 m5, K3 x3 m5 → mK m5 a0 = 11 ∧ (mK m5 (mR m5 a0 3) = 20 ∧ ((0 : Int) ≤ 6 ∧ 6 < (mN m5 (mR m5 a0 3) : Int)) ∧ (∀ m6, m6 = sD m5 (mR m5 a0 3) 6 a2 → Wp (d + 1) (bc - mc1 - mc2 - mc3) (bs - ms1 - ms2 - ms3) mX10_helps 74 [some (vr a0), some (vi a1), some (vi a2), some (vi v1), some (vi v2), some (vi x3), some (vi 0), some (vi (-1)), some (vi 0), some (vi 0), none] [] m6 Q)))))))) ∧ (x2 = 0 → Q (some (some (vi (-1)))) m3)))))) :
    Wp (d + 1) bc bs mX10_helps 0 [some (vr a0), some (vi a1), some (vi a2), none, none, none, none, none, none, none, none] [] μ Q := by
  refine st_aload_n (pc := 0) dX10_helps_0 rfl rfl ?_
  refine sg_iconst (pc := 1) dX10_helps_1 (by omega) ?_
  obtain ⟨hk1, h⟩ := h
  refine sg_pfI (pc := 2) (J := 15) dX10_helps_2 fl_10_142 rfl (Or.inl rfl) hk1 ?_
  refine Wp.nameM (fun m1 em1 => ?_)
  replace h := h m1 em1
  refine st_iload_n (pc := 5) dX10_helps_5 rfl rfl ?_
  obtain ⟨mc1, ms1, K1, hC, e1, e2, h⟩ := h
  refine sg_SI (pc := 6) (av := [vi a1]) (st := []) (K := K1) dX10_helps_6 ck_10_245 rfl (by show (0 : Nat) ≤ 8; decide) hC e1 e2 (fun x1 m2 hK => ?_) rfl
  replace h := h x1 m2 hK
  refine st_ifeq (pc := 9) (tgt := 20) dX10_helps_9 rfl (fun c => ?_) (fun c => ?_)
  · replace h := h.1 c
    refine sg_iconst (pc := 20) dX10_helps_20 (by omega) ?_
    exact st_ireturn (pc := 21) dX10_helps_21 (Or.inl rfl) h
  · replace h := h.2 c
    refine st_aload_n (pc := 12) dX10_helps_12 rfl rfl ?_
    refine st_iload_n (pc := 13) dX10_helps_13 rfl rfl ?_
    obtain ⟨hk2, h⟩ := h
    obtain ⟨mc2, ms2, K2, hC, e1, e2, h⟩ := h
    refine sg_VI (pc := 14) (av := [vi a2]) (st := []) (K := K2) dX10_helps_14 ck_10_280 rfl (by decide) hk2 (by show (0 : Nat) ≤ 8; decide) hC e1 e2 (fun x2 m3 hK => ?_) rfl
    replace h := h x2 m3 hK
    refine st_ifne (pc := 17) (tgt := 22) dX10_helps_17 rfl (fun c => ?_) (fun c => ?_)
    · replace h := h.1 c
      refine st_aload_n (pc := 22) dX10_helps_22 rfl rfl ?_
      obtain ⟨hk3, h⟩ := h
      refine sg_gfR (pc := 23) (J := 3) dX10_helps_23 fl_10_19 rfl hk3 ?_
      refine sg_bipush (pc := 26) dX10_helps_26 (by omega) (by decide) ?_
      obtain ⟨hk4, h⟩ := h
      obtain ⟨h1, h⟩ := h
      refine sg_iaload (pc := 28) dX10_helps_28 hk4 h1 ?_
      refine sg_istore_n (pc := 29) (ls' := [some (vr a0), some (vi a1), some (vi a2), some (vi (mD m3 (mR m3 a0 3) 6)), none, none, none, none, none, none, none]) dX10_helps_29 rfl (by show (3 : Nat) < 11; decide) rfl ?_
      refine Wp.nameL (ls2 := fun v => [some (vr a0), some (vi a1), some (vi a2), some (vi v), none, none, none, none, none, none, none]) 3 _ rfl (fun _ => rfl) (fun v1 ev1 => ?_)
      replace h := h v1 ev1
      refine st_aload_n (pc := 30) dX10_helps_30 rfl rfl ?_
      refine sg_gfR (pc := 31) (J := 3) dX10_helps_31 fl_10_19 rfl hk3 ?_
      refine sg_iconst (pc := 34) dX10_helps_34 (by omega) ?_
      obtain ⟨h1, h⟩ := h
      refine sg_iaload (pc := 35) dX10_helps_35 hk4 h1 ?_
      refine sg_istore (pc := 36) (ls' := [some (vr a0), some (vi a1), some (vi a2), some (vi v1), some (vi (mD m3 (mR m3 a0 3) 5)), none, none, none, none, none, none]) dX10_helps_36 (by show (4 : Nat) < 11; decide) rfl ?_
      refine Wp.nameL (ls2 := fun v => [some (vr a0), some (vi a1), some (vi a2), some (vi v1), some (vi v), none, none, none, none, none, none]) 4 _ rfl (fun _ => rfl) (fun v2 ev2 => ?_)
      replace h := h v2 ev2
      refine st_aload_n (pc := 38) dX10_helps_38 rfl rfl ?_
      refine sg_gfR (pc := 39) (J := 3) dX10_helps_39 fl_10_19 rfl hk3 ?_
      refine sg_bipush (pc := 42) dX10_helps_42 (by omega) (by decide) ?_
      refine sg_iconst (pc := 44) dX10_helps_44 (by omega) ?_
      obtain ⟨hk5, h⟩ := h
      obtain ⟨h1, h⟩ := h
      refine st_iastore (pc := 45) dX10_helps_45 hk5 h1.1 h1.2 ?_
      refine Wp.nameM (fun m4 em4 => ?_)
      replace h := h m4 em4
      refine st_aload_n (pc := 46) dX10_helps_46 rfl rfl ?_
      refine st_iload_n (pc := 47) dX10_helps_47 rfl rfl ?_
      refine sg_iconst (pc := 48) dX10_helps_48 (by omega) ?_
      obtain ⟨mc3, ms3, K3, hC, e1, e2, h⟩ := h
      refine sg_VI (pc := 49) (av := [vi a1, vi 1]) (st := []) (K := K3) dX10_helps_49 ck_10_338 rfl (by decide) (by cases em4; exact hk3) (by show (0 : Nat) ≤ 8; decide) hC e1 e2 (fun x3 m5 hK => ?_) rfl
      replace h := h x3 m5 hK
      refine sg_istore (pc := 52) (ls' := [some (vr a0), some (vi a1), some (vi a2), some (vi v1), some (vi v2), some (vi x3), none, none, none, none, none]) dX10_helps_52 (by show (5 : Nat) < 11; decide) rfl ?_
      refine st_aload_n (pc := 54) dX10_helps_54 rfl rfl ?_
      obtain ⟨hk6, h⟩ := h
      refine sg_gfR (pc := 55) (J := 3) dX10_helps_55 fl_10_19 rfl hk6 ?_
      refine sg_bipush (pc := 58) dX10_helps_58 (by omega) (by decide) ?_
      refine st_iload_n (pc := 60) dX10_helps_60 rfl rfl ?_
      obtain ⟨hk7, h⟩ := h
      obtain ⟨h1, h⟩ := h
      refine st_iastore (pc := 61) dX10_helps_61 hk7 h1.1 h1.2 ?_
      refine Wp.nameM (fun m6 em6 => ?_)
      replace h := h m6 em6
      refine sg_iconst (pc := 62) dX10_helps_62 (by omega) ?_
      refine sg_istore (pc := 63) (ls' := [some (vr a0), some (vi a1), some (vi a2), some (vi v1), some (vi v2), some (vi x3), some (vi 0), none, none, none, none]) dX10_helps_63 (by show (6 : Nat) < 11; decide) rfl ?_
      refine sg_iconst (pc := 65) dX10_helps_65 (by omega) ?_
      refine sg_istore (pc := 66) (ls' := [some (vr a0), some (vi a1), some (vi a2), some (vi v1), some (vi v2), some (vi x3), some (vi 0), some (vi (-1)), none, none, none]) dX10_helps_66 (by show (7 : Nat) < 11; decide) rfl ?_
      refine sg_iconst (pc := 68) dX10_helps_68 (by omega) ?_
      refine sg_istore (pc := 69) (ls' := [some (vr a0), some (vi a1), some (vi a2), some (vi v1), some (vi v2), some (vi x3), some (vi 0), some (vi (-1)), some (vi 0), none, none]) dX10_helps_69 (by show (8 : Nat) < 11; decide) rfl ?_
      refine sg_iconst (pc := 71) dX10_helps_71 (by omega) ?_
      refine sg_istore (pc := 72) (ls' := [some (vr a0), some (vi a1), some (vi a2), some (vi v1), some (vi v2), some (vi x3), some (vi 0), some (vi (-1)), some (vi 0), some (vi 0), none]) dX10_helps_72 (by show (9 : Nat) < 11; decide) rfl ?_
      exact h
    · replace h := h.2 c
      refine sg_iconst (pc := 20) dX10_helps_20 (by omega) ?_
      exact st_ireturn (pc := 21) dX10_helps_21 (Or.inl rfl) h

theorem sg_X10_helps_74 {d bc bs : Nat} {a0 : Nat} {a1 : Int} {a2 : Int} {a3 : Int} {a4 : Int} {a5 : Int} {a6 : Int} {a7 : Int} {a8 : Int} {a9 : Int} {μ : Mem} {Q : Option (Option AV) → Mem → Prop}
    (h : (20 < a9 → mK μ a0 = 11 ∧ (mK μ (mR μ a0 3) = 20 ∧ ((0 : Int) ≤ 6 ∧ 6 < (mN μ (mR μ a0 3) : Int)) ∧ (∀ m1, m1 = sD μ (mR μ a0 3) 6 a3 → ((0 : Int) ≤ 5 ∧ 5 < (mN m1 (mR m1 a0 3) : Int)) ∧ (∀ m2, m2 = sD m1 (mR m1 a0 3) 5 a4 → (∀ m3, m3 = sD m2 a0 14 0 → ∃ (mc1 ms1 : Nat) (K1 : Mem → Prop), Cl d mc1 ms1 mX10_tell [vr a0, vl a5] m3 (KV K1) ∧ mc1 ≤ bc ∧ ms1 ≤ bs ∧ (∀ m4, K1 m4 → mK m4 a0 = 11 ∧ ∃ (mc2 ms2 : Nat) (K2 : Mem → Prop), Cl d mc2 ms2 mX10_tell [vr a0, vl a7] m4 (KV K2) ∧ mc2 ≤ bc - mc1 ∧ ms2 ≤ bs - ms1 ∧ (∀ m5, K2 m5 → mK m5 a0 = 11 ∧ ∃ (mc3 ms3 : Nat) (K3 : Mem → Prop), Cl d mc3 ms3 mX10_tell [vr a0, vl a8] m5 (KV K3) ∧ mc3 ≤ bc - mc1 - mc2 ∧ ms3 ≤ bs - ms1 - ms2 ∧ (∀ m6, K3 m6 → Q (some (some (vi a6))) m6)))))))) ∧ (¬ 20 < a9 → mK μ a0 = 11 ∧ (mK μ (mR μ a0 3) = 20 ∧ ((0 : Int) ≤ 5 ∧ 5 < (mN μ (mR μ a0 3) : Int)) ∧ (∀ m7, m7 = sD μ (mR μ a0 3) 5 a9 → ∃ (mc4 ms4 : Nat) (K4 : Int → Mem → Prop), Cl d mc4 ms4 mX10_wholly [vr a0, vi a1, vi 1] m7 (KI K4) ∧ mc4 ≤ bc ∧ ms4 ≤ bs ∧ (∀ x1 m8, K4 x1 m8 → (a5 ≤ x1 → ∀ v1, v1 = bOr a6 0 → (a7 = (-1) → ∀ v2, v2 = w32 (a9 + 1) → Wp (d + 1) (bc - mc4) (bs - ms4) mX10_helps 74 [some (vr a0), some (vi a1), some (vi a2), some (vi a3), some (vi a4), some (vi a5), some (vi v1), some (vi x1), some (vi a9), some (vi v2), none] [] m8 Q) ∧ (¬ a7 = (-1) → (x1 < a7 → ∀ v3, v3 = w32 (a9 + 1) → Wp (d + 1) (bc - mc4) (bs - ms4) mX10_helps 74 [some (vr a0), some (vi a1), some (vi a2), some (vi a3), some (vi a4), some (vi a5), some (vi v1), some (vi x1), some (vi a9), some (vi v3), none] [] m8 Q) ∧ (¬ x1 < a7 → ∀ v4, v4 = w32 (a9 + 1) → Wp (d + 1) (bc - mc4) (bs - ms4) mX10_helps 74 [some (vr a0), some (vi a1), some (vi a2), some (vi a3), some (vi a4), some (vi a5), some (vi v1), some (vi a7), some (vi a8), some (vi v4), none] [] m8 Q))) ∧ (¬ a5 ≤ x1 → ∀ v5, v5 = bOr a6 (bShl 1 a9) → (a7 = (-1) → ∀ v6, v6 = w32 (a9 + 1) → Wp (d + 1) (bc - mc4) (bs - ms4) mX10_helps 74 [some (vr a0), some (vi a1), some (vi a2), some (vi a3), some (vi a4), some (vi a5), some (vi v5), some (vi x1), some (vi a9), some (vi v6), none] [] m8 Q) ∧ (¬ a7 = (-1) → (x1 < a7 → ∀ v7, v7 = w32 (a9 + 1) → Wp (d + 1) (bc - mc4) (bs - ms4) mX10_helps 74 [some (vr a0), some (vi a1), some (vi a2), some (vi a3), some (vi a4), some (vi a5), some (vi v5), some (vi x1), some (vi a9), some (vi v7), none] [] m8 Q) ∧ (¬ x1 < a7 → ∀ v8, v8 = w32 (a9 + 1) → Wp (d + 1) (bc - mc4) (bs - ms4) mX10_helps 74 [some (vr a0), some (vi a1), some (vi a2), some (vi a3), some (vi a4), some (vi a5), some (vi v5), some (vi a7), some (vi a8), some (vi v8), none] [] m8 Q)))))))) :
    Wp (d + 1) bc bs mX10_helps 74 [some (vr a0), some (vi a1), some (vi a2), some (vi a3), some (vi a4), some (vi a5), some (vi a6), some (vi a7), some (vi a8), some (vi a9), none] [] μ Q := by
  refine st_iload (pc := 74) dX10_helps_74 rfl ?_
  refine sg_bipush (pc := 76) dX10_helps_76 (by omega) (by decide) ?_
  refine st_icmpgt (pc := 78) (tgt := 147) dX10_helps_78 rfl (fun c => ?_) (fun c => ?_)
  · replace h := h.1 c
    refine st_aload_n (pc := 147) dX10_helps_147 rfl rfl ?_
    obtain ⟨hk1, h⟩ := h
    refine sg_gfR (pc := 148) (J := 3) dX10_helps_148 fl_10_19 rfl hk1 ?_
    refine sg_bipush (pc := 151) dX10_helps_151 (by omega) (by decide) ?_
    refine st_iload_n (pc := 153) dX10_helps_153 rfl rfl ?_
    obtain ⟨hk2, h⟩ := h
    obtain ⟨h1, h⟩ := h
    refine st_iastore (pc := 154) dX10_helps_154 hk2 h1.1 h1.2 ?_
    refine Wp.nameM (fun m1 em1 => ?_)
    replace h := h m1 em1
    refine st_aload_n (pc := 155) dX10_helps_155 rfl rfl ?_
    refine sg_gfR (pc := 156) (J := 3) dX10_helps_156 fl_10_19 rfl (by cases em1; exact hk1) ?_
    refine sg_iconst (pc := 159) dX10_helps_159 (by omega) ?_
    refine st_iload (pc := 160) dX10_helps_160 rfl ?_
    obtain ⟨h1, h⟩ := h
    refine st_iastore (pc := 162) dX10_helps_162 (by cases em1; exact hk2) h1.1 h1.2 ?_
    refine Wp.nameM (fun m2 em2 => ?_)
    replace h := h m2 em2
    refine st_aload_n (pc := 163) dX10_helps_163 rfl rfl ?_
    refine sg_iconst (pc := 164) dX10_helps_164 (by omega) ?_
    refine sg_pfI (pc := 165) (J := 14) dX10_helps_165 fl_10_145 rfl (Or.inl rfl) (by cases em2; cases em1; exact hk1) ?_
    refine Wp.nameM (fun m3 em3 => ?_)
    replace h := h m3 em3
    refine st_aload_n (pc := 168) dX10_helps_168 rfl rfl ?_
    refine st_iload (pc := 169) dX10_helps_169 rfl ?_
    refine st_i2l (pc := 171) dX10_helps_171 ?_
    obtain ⟨mc1, ms1, K1, hC, e1, e2, h⟩ := h
    refine sg_VV (pc := 172) (av := [vl a5]) (st := []) (K := K1) dX10_helps_172 ck_10_252 rfl (by decide) (by cases em3; cases em2; cases em1; exact hk1) (by show (0 : Nat) ≤ 8; decide) hC e1 e2 (fun m4 hK => ?_) rfl
    replace h := h m4 hK
    refine st_aload_n (pc := 175) dX10_helps_175 rfl rfl ?_
    refine st_iload (pc := 176) dX10_helps_176 rfl ?_
    refine st_i2l (pc := 178) dX10_helps_178 ?_
    obtain ⟨hk3, h⟩ := h
    obtain ⟨mc2, ms2, K2, hC, e1, e2, h⟩ := h
    refine sg_VV (pc := 179) (av := [vl a7]) (st := []) (K := K2) dX10_helps_179 ck_10_252 rfl (by decide) hk3 (by show (0 : Nat) ≤ 8; decide) hC e1 e2 (fun m5 hK => ?_) rfl
    replace h := h m5 hK
    refine st_aload_n (pc := 182) dX10_helps_182 rfl rfl ?_
    refine st_iload (pc := 183) dX10_helps_183 rfl ?_
    refine st_i2l (pc := 185) dX10_helps_185 ?_
    obtain ⟨hk4, h⟩ := h
    obtain ⟨mc3, ms3, K3, hC, e1, e2, h⟩ := h
    refine sg_VV (pc := 186) (av := [vl a8]) (st := []) (K := K3) dX10_helps_186 ck_10_252 rfl (by decide) hk4 (by show (0 : Nat) ≤ 8; decide) hC e1 e2 (fun m6 hK => ?_) rfl
    replace h := h m6 hK
    refine st_iload (pc := 189) dX10_helps_189 rfl ?_
    exact st_ireturn (pc := 191) dX10_helps_191 (Or.inl rfl) h
  · replace h := h.2 c
    refine st_aload_n (pc := 81) dX10_helps_81 rfl rfl ?_
    obtain ⟨hk5, h⟩ := h
    refine sg_gfR (pc := 82) (J := 3) dX10_helps_82 fl_10_19 rfl hk5 ?_
    refine sg_iconst (pc := 85) dX10_helps_85 (by omega) ?_
    refine st_iload (pc := 86) dX10_helps_86 rfl ?_
    obtain ⟨hk6, h⟩ := h
    obtain ⟨h1, h⟩ := h
    refine st_iastore (pc := 88) dX10_helps_88 hk6 h1.1 h1.2 ?_
    refine Wp.nameM (fun m7 em7 => ?_)
    replace h := h m7 em7
    refine st_aload_n (pc := 89) dX10_helps_89 rfl rfl ?_
    refine st_iload_n (pc := 90) dX10_helps_90 rfl rfl ?_
    refine sg_iconst (pc := 91) dX10_helps_91 (by omega) ?_
    obtain ⟨mc4, ms4, K4, hC, e1, e2, h⟩ := h
    refine sg_VI (pc := 92) (av := [vi a1, vi 1]) (st := []) (K := K4) dX10_helps_92 ck_10_338 rfl (by decide) (by cases em7; exact hk5) (by show (0 : Nat) ≤ 8; decide) hC e1 e2 (fun x1 m8 hK => ?_) rfl
    replace h := h x1 m8 hK
    refine sg_istore (pc := 95) (ls' := [some (vr a0), some (vi a1), some (vi a2), some (vi a3), some (vi a4), some (vi a5), some (vi a6), some (vi a7), some (vi a8), some (vi a9), some (vi x1)]) dX10_helps_95 (by show (10 : Nat) < 11; decide) rfl ?_
    refine st_iload (pc := 97) dX10_helps_97 rfl ?_
    refine st_iload (pc := 99) dX10_helps_99 rfl ?_
    refine st_iload (pc := 101) dX10_helps_101 rfl ?_
    refine st_icmpge (pc := 103) (tgt := 113) dX10_helps_103 rfl (fun c => ?_) (fun c => ?_)
    · replace h := h.1 c
      refine sg_iconst (pc := 113) dX10_helps_113 (by omega) ?_
      refine st_ior (pc := 114) dX10_helps_114 ?_
      refine sg_istore (pc := 115) (ls' := [some (vr a0), some (vi a1), some (vi a2), some (vi a3), some (vi a4), some (vi a5), some (vi (bOr a6 0)), some (vi a7), some (vi a8), some (vi a9), some (vi x1)]) dX10_helps_115 (by show (6 : Nat) < 11; decide) rfl ?_
      refine Wp.nameL (ls2 := fun v => [some (vr a0), some (vi a1), some (vi a2), some (vi a3), some (vi a4), some (vi a5), some (vi v), some (vi a7), some (vi a8), some (vi a9), some (vi x1)]) 6 _ rfl (fun _ => rfl) (fun v1 ev1 => ?_)
      replace h := h v1 ev1
      refine st_iload (pc := 117) dX10_helps_117 rfl ?_
      refine sg_iconst (pc := 119) dX10_helps_119 (by omega) ?_
      refine st_icmpeq (pc := 120) (tgt := 133) dX10_helps_120 rfl (fun c => ?_) (fun c => ?_)
      · replace h := h.1 c
        refine st_iload (pc := 133) dX10_helps_133 rfl ?_
        refine sg_istore (pc := 135) (ls' := [some (vr a0), some (vi a1), some (vi a2), some (vi a3), some (vi a4), some (vi a5), some (vi v1), some (vi x1), some (vi a8), some (vi a9), some (vi x1)]) dX10_helps_135 (by show (7 : Nat) < 11; decide) rfl ?_
        refine st_iload (pc := 137) dX10_helps_137 rfl ?_
        refine sg_istore (pc := 139) (ls' := [some (vr a0), some (vi a1), some (vi a2), some (vi a3), some (vi a4), some (vi a5), some (vi v1), some (vi x1), some (vi a9), some (vi a9), some (vi x1)]) dX10_helps_139 (by show (8 : Nat) < 11; decide) rfl ?_
        refine sg_iinc (pc := 141) (ls' := [some (vr a0), some (vi a1), some (vi a2), some (vi a3), some (vi a4), some (vi a5), some (vi v1), some (vi x1), some (vi a9), some (vi (w32 (a9 + 1))), some (vi x1)]) dX10_helps_141 rfl rfl ?_
        refine Wp.nameL (ls2 := fun v => [some (vr a0), some (vi a1), some (vi a2), some (vi a3), some (vi a4), some (vi a5), some (vi v1), some (vi x1), some (vi a9), some (vi v), some (vi x1)]) 9 _ rfl (fun _ => rfl) (fun v2 ev2 => ?_)
        replace h := h v2 ev2
        refine st_goto (pc := 144) dX10_helps_144 rfl ?_
        refine Wp.drop 10 rfl ?_
        exact h
      · replace h := h.2 c
        refine st_iload (pc := 123) dX10_helps_123 rfl ?_
        refine st_iload (pc := 125) dX10_helps_125 rfl ?_
        refine st_icmplt (pc := 127) (tgt := 133) dX10_helps_127 rfl (fun c => ?_) (fun c => ?_)
        · replace h := h.1 c
          refine st_iload (pc := 133) dX10_helps_133 rfl ?_
          refine sg_istore (pc := 135) (ls' := [some (vr a0), some (vi a1), some (vi a2), some (vi a3), some (vi a4), some (vi a5), some (vi v1), some (vi x1), some (vi a8), some (vi a9), some (vi x1)]) dX10_helps_135 (by show (7 : Nat) < 11; decide) rfl ?_
          refine st_iload (pc := 137) dX10_helps_137 rfl ?_
          refine sg_istore (pc := 139) (ls' := [some (vr a0), some (vi a1), some (vi a2), some (vi a3), some (vi a4), some (vi a5), some (vi v1), some (vi x1), some (vi a9), some (vi a9), some (vi x1)]) dX10_helps_139 (by show (8 : Nat) < 11; decide) rfl ?_
          refine sg_iinc (pc := 141) (ls' := [some (vr a0), some (vi a1), some (vi a2), some (vi a3), some (vi a4), some (vi a5), some (vi v1), some (vi x1), some (vi a9), some (vi (w32 (a9 + 1))), some (vi x1)]) dX10_helps_141 rfl rfl ?_
          refine Wp.nameL (ls2 := fun v => [some (vr a0), some (vi a1), some (vi a2), some (vi a3), some (vi a4), some (vi a5), some (vi v1), some (vi x1), some (vi a9), some (vi v), some (vi x1)]) 9 _ rfl (fun _ => rfl) (fun v3 ev3 => ?_)
          replace h := h v3 ev3
          refine st_goto (pc := 144) dX10_helps_144 rfl ?_
          refine Wp.drop 10 rfl ?_
          exact h
        · replace h := h.2 c
          refine st_goto (pc := 130) dX10_helps_130 rfl ?_
          refine sg_iinc (pc := 141) (ls' := [some (vr a0), some (vi a1), some (vi a2), some (vi a3), some (vi a4), some (vi a5), some (vi v1), some (vi a7), some (vi a8), some (vi (w32 (a9 + 1))), some (vi x1)]) dX10_helps_141 rfl rfl ?_
          refine Wp.nameL (ls2 := fun v => [some (vr a0), some (vi a1), some (vi a2), some (vi a3), some (vi a4), some (vi a5), some (vi v1), some (vi a7), some (vi a8), some (vi v), some (vi x1)]) 9 _ rfl (fun _ => rfl) (fun v4 ev4 => ?_)
          replace h := h v4 ev4
          refine st_goto (pc := 144) dX10_helps_144 rfl ?_
          refine Wp.drop 10 rfl ?_
          exact h
    · replace h := h.2 c
      refine sg_iconst (pc := 106) dX10_helps_106 (by omega) ?_
      refine st_iload (pc := 107) dX10_helps_107 rfl ?_
      refine st_ishl (pc := 109) dX10_helps_109 ?_
      refine st_goto (pc := 110) dX10_helps_110 rfl ?_
      refine st_ior (pc := 114) dX10_helps_114 ?_
      refine sg_istore (pc := 115) (ls' := [some (vr a0), some (vi a1), some (vi a2), some (vi a3), some (vi a4), some (vi a5), some (vi (bOr a6 (bShl 1 a9))), some (vi a7), some (vi a8), some (vi a9), some (vi x1)]) dX10_helps_115 (by show (6 : Nat) < 11; decide) rfl ?_
      refine Wp.nameL (ls2 := fun v => [some (vr a0), some (vi a1), some (vi a2), some (vi a3), some (vi a4), some (vi a5), some (vi v), some (vi a7), some (vi a8), some (vi a9), some (vi x1)]) 6 _ rfl (fun _ => rfl) (fun v5 ev5 => ?_)
      replace h := h v5 ev5
      refine st_iload (pc := 117) dX10_helps_117 rfl ?_
      refine sg_iconst (pc := 119) dX10_helps_119 (by omega) ?_
      refine st_icmpeq (pc := 120) (tgt := 133) dX10_helps_120 rfl (fun c => ?_) (fun c => ?_)
      · replace h := h.1 c
        refine st_iload (pc := 133) dX10_helps_133 rfl ?_
        refine sg_istore (pc := 135) (ls' := [some (vr a0), some (vi a1), some (vi a2), some (vi a3), some (vi a4), some (vi a5), some (vi v5), some (vi x1), some (vi a8), some (vi a9), some (vi x1)]) dX10_helps_135 (by show (7 : Nat) < 11; decide) rfl ?_
        refine st_iload (pc := 137) dX10_helps_137 rfl ?_
        refine sg_istore (pc := 139) (ls' := [some (vr a0), some (vi a1), some (vi a2), some (vi a3), some (vi a4), some (vi a5), some (vi v5), some (vi x1), some (vi a9), some (vi a9), some (vi x1)]) dX10_helps_139 (by show (8 : Nat) < 11; decide) rfl ?_
        refine sg_iinc (pc := 141) (ls' := [some (vr a0), some (vi a1), some (vi a2), some (vi a3), some (vi a4), some (vi a5), some (vi v5), some (vi x1), some (vi a9), some (vi (w32 (a9 + 1))), some (vi x1)]) dX10_helps_141 rfl rfl ?_
        refine Wp.nameL (ls2 := fun v => [some (vr a0), some (vi a1), some (vi a2), some (vi a3), some (vi a4), some (vi a5), some (vi v5), some (vi x1), some (vi a9), some (vi v), some (vi x1)]) 9 _ rfl (fun _ => rfl) (fun v6 ev6 => ?_)
        replace h := h v6 ev6
        refine st_goto (pc := 144) dX10_helps_144 rfl ?_
        refine Wp.drop 10 rfl ?_
        exact h
      · replace h := h.2 c
        refine st_iload (pc := 123) dX10_helps_123 rfl ?_
        refine st_iload (pc := 125) dX10_helps_125 rfl ?_
        refine st_icmplt (pc := 127) (tgt := 133) dX10_helps_127 rfl (fun c => ?_) (fun c => ?_)
        · replace h := h.1 c
          refine st_iload (pc := 133) dX10_helps_133 rfl ?_
          refine sg_istore (pc := 135) (ls' := [some (vr a0), some (vi a1), some (vi a2), some (vi a3), some (vi a4), some (vi a5), some (vi v5), some (vi x1), some (vi a8), some (vi a9), some (vi x1)]) dX10_helps_135 (by show (7 : Nat) < 11; decide) rfl ?_
          refine st_iload (pc := 137) dX10_helps_137 rfl ?_
          refine sg_istore (pc := 139) (ls' := [some (vr a0), some (vi a1), some (vi a2), some (vi a3), some (vi a4), some (vi a5), some (vi v5), some (vi x1), some (vi a9), some (vi a9), some (vi x1)]) dX10_helps_139 (by show (8 : Nat) < 11; decide) rfl ?_
          refine sg_iinc (pc := 141) (ls' := [some (vr a0), some (vi a1), some (vi a2), some (vi a3), some (vi a4), some (vi a5), some (vi v5), some (vi x1), some (vi a9), some (vi (w32 (a9 + 1))), some (vi x1)]) dX10_helps_141 rfl rfl ?_
          refine Wp.nameL (ls2 := fun v => [some (vr a0), some (vi a1), some (vi a2), some (vi a3), some (vi a4), some (vi a5), some (vi v5), some (vi x1), some (vi a9), some (vi v), some (vi x1)]) 9 _ rfl (fun _ => rfl) (fun v7 ev7 => ?_)
          replace h := h v7 ev7
          refine st_goto (pc := 144) dX10_helps_144 rfl ?_
          refine Wp.drop 10 rfl ?_
          exact h
        · replace h := h.2 c
          refine st_goto (pc := 130) dX10_helps_130 rfl ?_
          refine sg_iinc (pc := 141) (ls' := [some (vr a0), some (vi a1), some (vi a2), some (vi a3), some (vi a4), some (vi a5), some (vi v5), some (vi a7), some (vi a8), some (vi (w32 (a9 + 1))), some (vi x1)]) dX10_helps_141 rfl rfl ?_
          refine Wp.nameL (ls2 := fun v => [some (vr a0), some (vi a1), some (vi a2), some (vi a3), some (vi a4), some (vi a5), some (vi v5), some (vi a7), some (vi a8), some (vi v), some (vi x1)]) 9 _ rfl (fun _ => rfl) (fun v8 ev8 => ?_)
          replace h := h v8 ev8
          refine st_goto (pc := 144) dX10_helps_144 rfl ?_
          refine Wp.drop 10 rfl ?_
          exact h

theorem sg_X10_leastOf_0 {d bc bs : Nat} {a0 : Nat} {a1 : Int} {a2 : Int} {a3 : Int} {a4 : Int} {μ : Mem} {Q : Option (Option AV) → Mem → Prop}
    (h : mK μ a0 = 11 ∧ ((mK μ (mR μ a0 3) = 20 ∨ ((mR μ a0 3) ≠ 0 ∧ mK μ (mR μ a0 3) = 40)) ∧ ((0 : Int) ≤ a1 ∧ a1 < (mN μ (mR μ a0 3) : Int)) ∧ (∀ v1, v1 = mD μ (mR μ a0 3) a1 → Wp (d + 1) bc bs mX10_leastOf 15 [some (vr a0), some (vi a1), some (vi a2), some (vi a3), some (vi a4), some (vi v1), some (vi (-2)), some (vi 0)] [] μ Q))) :
    Wp (d + 1) bc bs mX10_leastOf 0 [some (vr a0), some (vi a1), some (vi a2), some (vi a3), some (vi a4), none, none, none] [] μ Q := by
  refine st_aload_n (pc := 0) dX10_leastOf_0 rfl rfl ?_
  obtain ⟨hk1, h⟩ := h
  refine sg_gfR (pc := 1) (J := 3) dX10_leastOf_1 fl_10_19 rfl hk1 ?_
  refine st_iload_n (pc := 4) dX10_leastOf_4 rfl rfl ?_
  obtain ⟨hk2, h⟩ := h
  obtain ⟨h1, h⟩ := h
  refine sg_iaload (pc := 5) dX10_leastOf_5 hk2 h1 ?_
  refine sg_istore (pc := 6) (ls' := [some (vr a0), some (vi a1), some (vi a2), some (vi a3), some (vi a4), some (vi (mD μ (mR μ a0 3) a1)), none, none]) dX10_leastOf_6 (by show (5 : Nat) < 8; decide) rfl ?_
  refine Wp.nameL (ls2 := fun v => [some (vr a0), some (vi a1), some (vi a2), some (vi a3), some (vi a4), some (vi v), none, none]) 5 _ rfl (fun _ => rfl) (fun v1 ev1 => ?_)
  replace h := h v1 ev1
  refine sg_bipush (pc := 8) dX10_leastOf_8 (by omega) (by decide) ?_
  refine sg_istore (pc := 10) (ls' := [some (vr a0), some (vi a1), some (vi a2), some (vi a3), some (vi a4), some (vi v1), some (vi (-2)), none]) dX10_leastOf_10 (by show (6 : Nat) < 8; decide) rfl ?_
  refine sg_iconst (pc := 12) dX10_leastOf_12 (by omega) ?_
  refine sg_istore (pc := 13) (ls' := [some (vr a0), some (vi a1), some (vi a2), some (vi a3), some (vi a4), some (vi v1), some (vi (-2)), some (vi 0)]) dX10_leastOf_13 (by show (7 : Nat) < 8; decide) rfl ?_
  exact h

theorem sg_X10_leastOf_15 {d bc bs : Nat} {a0 : Nat} {a1 : Int} {a2 : Int} {a3 : Int} {a4 : Int} {a5 : Int} {a6 : Int} {a7 : Int} {μ : Mem} {Q : Option (Option AV) → Mem → Prop}
    (h : (a2 < a7 → mK μ a0 = 11 ∧ (mK μ (mR μ a0 3) = 20 ∧ ((0 : Int) ≤ a1 ∧ a1 < (mN μ (mR μ a0 3) : Int)) ∧ (∀ m1, m1 = sD μ (mR μ a0 3) a1 a5 → Q (some (some (vi a6))) m1))) ∧ (¬ a2 < a7 → (0 ≤ a6 → mK μ a0 = 11 ∧ (mK μ (mR μ a0 3) = 20 ∧ ((0 : Int) ≤ a1 ∧ a1 < (mN μ (mR μ a0 3) : Int)) ∧ (∀ m2, m2 = sD μ (mR μ a0 3) a1 a5 → Q (some (some (vi a6))) m2))) ∧ (¬ 0 ≤ a6 → mK μ a0 = 11 ∧ (mK μ (mR μ a0 3) = 20 ∧ ((0 : Int) ≤ a1 ∧ a1 < (mN μ (mR μ a0 3) : Int)) ∧ (∀ m3, m3 = sD μ (mR μ a0 3) a1 a7 → ∃ (mc1 ms1 : Nat) (K1 : Int → Mem → Prop), Cl d mc1 ms1 mX10_wholly [vr a0, vi a3, vi 1] m3 (KI K1) ∧ mc1 ≤ bc ∧ ms1 ≤ bs ∧ (∀ x1 m4, K1 x1 m4 → (a4 < x1 → ∀ v1, v1 = w32 (a7 + 1) → Wp (d + 1) (bc - mc1) (bs - ms1) mX10_leastOf 15 [some (vr a0), some (vi a1), some (vi a2), some (vi a3), some (vi a4), some (vi a5), some (vi a6), some (vi v1)] [] m4 Q) ∧ (¬ a4 < x1 → ∀ v2, v2 = w32 (a7 + 1) → Wp (d + 1) (bc - mc1) (bs - ms1) mX10_leastOf 15 [some (vr a0), some (vi a1), some (vi a2), some (vi a3), some (vi a4), some (vi a5), some (vi a7), some (vi v2)] [] m4 Q))))))) :
    Wp (d + 1) bc bs mX10_leastOf 15 [some (vr a0), some (vi a1), some (vi a2), some (vi a3), some (vi a4), some (vi a5), some (vi a6), some (vi a7)] [] μ Q := by
  refine st_iload (pc := 15) dX10_leastOf_15 rfl ?_
  refine st_iload_n (pc := 17) dX10_leastOf_17 rfl rfl ?_
  refine st_icmpgt (pc := 18) (tgt := 55) dX10_leastOf_18 rfl (fun c => ?_) (fun c => ?_)
  · replace h := h.1 c
    refine st_aload_n (pc := 55) dX10_leastOf_55 rfl rfl ?_
    obtain ⟨hk1, h⟩ := h
    refine sg_gfR (pc := 56) (J := 3) dX10_leastOf_56 fl_10_19 rfl hk1 ?_
    refine st_iload_n (pc := 59) dX10_leastOf_59 rfl rfl ?_
    refine st_iload (pc := 60) dX10_leastOf_60 rfl ?_
    obtain ⟨hk2, h⟩ := h
    obtain ⟨h1, h⟩ := h
    refine st_iastore (pc := 62) dX10_leastOf_62 hk2 h1.1 h1.2 ?_
    refine Wp.nameM (fun m1 em1 => ?_)
    replace h := h m1 em1
    refine st_iload (pc := 63) dX10_leastOf_63 rfl ?_
    exact st_ireturn (pc := 65) dX10_leastOf_65 (Or.inl rfl) h
  · replace h := h.2 c
    refine st_iload (pc := 21) dX10_leastOf_21 rfl ?_
    refine st_ifge (pc := 23) (tgt := 55) dX10_leastOf_23 rfl (fun c => ?_) (fun c => ?_)
    · replace h := h.1 c
      refine st_aload_n (pc := 55) dX10_leastOf_55 rfl rfl ?_
      obtain ⟨hk3, h⟩ := h
      refine sg_gfR (pc := 56) (J := 3) dX10_leastOf_56 fl_10_19 rfl hk3 ?_
      refine st_iload_n (pc := 59) dX10_leastOf_59 rfl rfl ?_
      refine st_iload (pc := 60) dX10_leastOf_60 rfl ?_
      obtain ⟨hk4, h⟩ := h
      obtain ⟨h1, h⟩ := h
      refine st_iastore (pc := 62) dX10_leastOf_62 hk4 h1.1 h1.2 ?_
      refine Wp.nameM (fun m2 em2 => ?_)
      replace h := h m2 em2
      refine st_iload (pc := 63) dX10_leastOf_63 rfl ?_
      exact st_ireturn (pc := 65) dX10_leastOf_65 (Or.inl rfl) h
    · replace h := h.2 c
      refine st_aload_n (pc := 26) dX10_leastOf_26 rfl rfl ?_
      obtain ⟨hk5, h⟩ := h
      refine sg_gfR (pc := 27) (J := 3) dX10_leastOf_27 fl_10_19 rfl hk5 ?_
      refine st_iload_n (pc := 30) dX10_leastOf_30 rfl rfl ?_
      refine st_iload (pc := 31) dX10_leastOf_31 rfl ?_
      obtain ⟨hk6, h⟩ := h
      obtain ⟨h1, h⟩ := h
      refine st_iastore (pc := 33) dX10_leastOf_33 hk6 h1.1 h1.2 ?_
      refine Wp.nameM (fun m3 em3 => ?_)
      replace h := h m3 em3
      refine st_aload_n (pc := 34) dX10_leastOf_34 rfl rfl ?_
      refine st_iload_n (pc := 35) dX10_leastOf_35 rfl rfl ?_
      refine sg_iconst (pc := 36) dX10_leastOf_36 (by omega) ?_
      obtain ⟨mc1, ms1, K1, hC, e1, e2, h⟩ := h
      refine sg_VI (pc := 37) (av := [vi a3, vi 1]) (st := []) (K := K1) dX10_leastOf_37 ck_10_338 rfl (by decide) (by cases em3; exact hk5) (by show (0 : Nat) ≤ 8; decide) hC e1 e2 (fun x1 m4 hK => ?_) rfl
      replace h := h x1 m4 hK
      refine st_iload (pc := 40) dX10_leastOf_40 rfl ?_
      refine st_icmpgt (pc := 42) (tgt := 49) dX10_leastOf_42 rfl (fun c => ?_) (fun c => ?_)
      · replace h := h.1 c
        refine sg_iinc (pc := 49) (ls' := [some (vr a0), some (vi a1), some (vi a2), some (vi a3), some (vi a4), some (vi a5), some (vi a6), some (vi (w32 (a7 + 1)))]) dX10_leastOf_49 rfl rfl ?_
        refine Wp.nameL (ls2 := fun v => [some (vr a0), some (vi a1), some (vi a2), some (vi a3), some (vi a4), some (vi a5), some (vi a6), some (vi v)]) 7 _ rfl (fun _ => rfl) (fun v1 ev1 => ?_)
        replace h := h v1 ev1
        refine st_goto (pc := 52) dX10_leastOf_52 rfl ?_
        exact h
      · replace h := h.2 c
        refine st_iload (pc := 45) dX10_leastOf_45 rfl ?_
        refine sg_istore (pc := 47) (ls' := [some (vr a0), some (vi a1), some (vi a2), some (vi a3), some (vi a4), some (vi a5), some (vi a7), some (vi a7)]) dX10_leastOf_47 (by show (6 : Nat) < 8; decide) rfl ?_
        refine sg_iinc (pc := 49) (ls' := [some (vr a0), some (vi a1), some (vi a2), some (vi a3), some (vi a4), some (vi a5), some (vi a7), some (vi (w32 (a7 + 1)))]) dX10_leastOf_49 rfl rfl ?_
        refine Wp.nameL (ls2 := fun v => [some (vr a0), some (vi a1), some (vi a2), some (vi a3), some (vi a4), some (vi a5), some (vi a7), some (vi v)]) 7 _ rfl (fun _ => rfl) (fun v2 ev2 => ?_)
        replace h := h v2 ev2
        refine st_goto (pc := 52) dX10_leastOf_52 rfl ?_
        exact h

theorem sg_X10_layers_0 {d bc bs : Nat} {a0 : Nat} {a1 : Int} {μ : Mem} {Q : Option (Option AV) → Mem → Prop}
    (h : mK μ a0 = 11 ∧ (∀ m1, m1 = sD μ a0 15 0 → ∃ (mc1 ms1 : Nat) (K1 : Int → Mem → Prop), Cl d mc1 ms1 mX10_isWalk [vi a1] m1 (KI K1) ∧ mc1 ≤ bc ∧ ms1 ≤ bs ∧ (∀ x1 m2, K1 x1 m2 → (x1 = 0 → Q (some (some (vi (-1)))) m2) ∧ (¬ x1 = 0 → mK m2 a0 = 11 ∧ ∃ (mc2 ms2 : Nat) (K2 : Int → Mem → Prop), Cl d mc2 ms2 mX10_leastOf [vr a0, vi 2, vi 9, vi a1, vi 0] m2 (KI K2) ∧ mc2 ≤ bc - mc1 ∧ ms2 ≤ bs - ms1 ∧ (∀ x2 m3, K2 x2 m3 → Q (some (some (vi x2))) m3))))) :
    Wp (d + 1) bc bs mX10_layers 0 [some (vr a0), some (vi a1)] [] μ Q := by
  refine st_aload_n (pc := 0) dX10_layers_0 rfl rfl ?_
  refine sg_iconst (pc := 1) dX10_layers_1 (by omega) ?_
  obtain ⟨hk1, h⟩ := h
  refine sg_pfI (pc := 2) (J := 15) dX10_layers_2 fl_10_142 rfl (Or.inl rfl) hk1 ?_
  refine Wp.nameM (fun m1 em1 => ?_)
  replace h := h m1 em1
  refine st_iload_n (pc := 5) dX10_layers_5 rfl rfl ?_
  obtain ⟨mc1, ms1, K1, hC, e1, e2, h⟩ := h
  refine sg_SI (pc := 6) (av := [vi a1]) (st := []) (K := K1) dX10_layers_6 ck_10_245 rfl (by show (0 : Nat) ≤ 8; decide) hC e1 e2 (fun x1 m2 hK => ?_) rfl
  replace h := h x1 m2 hK
  refine st_ifeq (pc := 9) (tgt := 24) dX10_layers_9 rfl (fun c => ?_) (fun c => ?_)
  · replace h := h.1 c
    refine sg_iconst (pc := 24) dX10_layers_24 (by omega) ?_
    exact st_ireturn (pc := 25) dX10_layers_25 (Or.inl rfl) h
  · replace h := h.2 c
    refine st_aload_n (pc := 12) dX10_layers_12 rfl rfl ?_
    refine sg_iconst (pc := 13) dX10_layers_13 (by omega) ?_
    refine sg_bipush (pc := 14) dX10_layers_14 (by omega) (by decide) ?_
    refine st_iload_n (pc := 16) dX10_layers_16 rfl rfl ?_
    refine sg_iconst (pc := 17) dX10_layers_17 (by omega) ?_
    obtain ⟨hk2, h⟩ := h
    obtain ⟨mc2, ms2, K2, hC, e1, e2, h⟩ := h
    refine sg_VI (pc := 18) (av := [vi 2, vi 9, vi a1, vi 0]) (st := []) (K := K2) dX10_layers_18 ck_10_369 rfl (by decide) hk2 (by show (0 : Nat) ≤ 8; decide) hC e1 e2 (fun x2 m3 hK => ?_) rfl
    replace h := h x2 m3 hK
    refine st_goto (pc := 21) dX10_layers_21 rfl ?_
    exact st_ireturn (pc := 25) dX10_layers_25 (Or.inl rfl) h

theorem sg_X10_greatestSlope_0 {d bc bs : Nat} {a0 : Nat} {a1 : Int} {a2 : Int} {a3 : Int} {μ : Mem} {Q : Option (Option AV) → Mem → Prop}
    (h : mK μ a0 = 11 ∧ ((mK μ (mR μ a0 3) = 20 ∨ ((mR μ a0 3) ≠ 0 ∧ mK μ (mR μ a0 3) = 40)) ∧ ((0 : Int) ≤ 2 ∧ 2 < (mN μ (mR μ a0 3) : Int)) ∧ (∀ v1, v1 = mD μ (mR μ a0 3) 2 → mK μ (mR μ a0 3) = 20 ∧ ((0 : Int) ≤ 2 ∧ 2 < (mN μ (mR μ a0 3) : Int)) ∧ (∀ m1, m1 = sD μ (mR μ a0 3) 2 a3 → ∃ (mc1 ms1 : Nat) (K1 : Mem → Prop), Cl d mc1 ms1 mX10_letGo [vr a0, vi a1, vi a2] m1 (KV K1) ∧ mc1 ≤ bc ∧ ms1 ≤ bs ∧ (∀ m2, K1 m2 → mK m2 a0 = 11 ∧ (mK m2 (mR m2 a0 3) = 20 ∧ ((0 : Int) ≤ 2 ∧ 2 < (mN m2 (mR m2 a0 3) : Int)) ∧ (∀ m3, m3 = sD m2 (mR m2 a0 3) 2 v1 → ∃ (mc2 ms2 : Nat) (K2 : Int → Mem → Prop), Cl d mc2 ms2 mJ9_max_7cf53 [vi 1, vi (w32 (a2.tdiv 2))] m3 (KI K2) ∧ mc2 ≤ bc - mc1 ∧ ms2 ≤ bs - ms1 ∧ (∀ x1 m4, K2 x1 m4 → Wp (d + 1) (bc - mc1 - mc2) (bs - ms1 - ms2) mX10_greatestSlope 41 [some (vr a0), some (vi a1), some (vi a2), some (vi a3), some (vi v1), some (vi 0), some (vi x1)] [] m4 Q)))))))) :
    Wp (d + 1) bc bs mX10_greatestSlope 0 [some (vr a0), some (vi a1), some (vi a2), some (vi a3), none, none, none] [] μ Q := by
  refine st_aload_n (pc := 0) dX10_greatestSlope_0 rfl rfl ?_
  obtain ⟨hk1, h⟩ := h
  refine sg_gfR (pc := 1) (J := 3) dX10_greatestSlope_1 fl_10_19 rfl hk1 ?_
  refine sg_iconst (pc := 4) dX10_greatestSlope_4 (by omega) ?_
  obtain ⟨hk2, h⟩ := h
  obtain ⟨h1, h⟩ := h
  refine sg_iaload (pc := 5) dX10_greatestSlope_5 hk2 h1 ?_
  refine sg_istore (pc := 6) (ls' := [some (vr a0), some (vi a1), some (vi a2), some (vi a3), some (vi (mD μ (mR μ a0 3) 2)), none, none]) dX10_greatestSlope_6 (by show (4 : Nat) < 7; decide) rfl ?_
  refine Wp.nameL (ls2 := fun v => [some (vr a0), some (vi a1), some (vi a2), some (vi a3), some (vi v), none, none]) 4 _ rfl (fun _ => rfl) (fun v1 ev1 => ?_)
  replace h := h v1 ev1
  refine st_aload_n (pc := 8) dX10_greatestSlope_8 rfl rfl ?_
  refine sg_gfR (pc := 9) (J := 3) dX10_greatestSlope_9 fl_10_19 rfl hk1 ?_
  refine sg_iconst (pc := 12) dX10_greatestSlope_12 (by omega) ?_
  refine st_iload_n (pc := 13) dX10_greatestSlope_13 rfl rfl ?_
  obtain ⟨hk3, h⟩ := h
  obtain ⟨h1, h⟩ := h
  refine st_iastore (pc := 14) dX10_greatestSlope_14 hk3 h1.1 h1.2 ?_
  refine Wp.nameM (fun m1 em1 => ?_)
  replace h := h m1 em1
  refine st_aload_n (pc := 15) dX10_greatestSlope_15 rfl rfl ?_
  refine st_iload_n (pc := 16) dX10_greatestSlope_16 rfl rfl ?_
  refine st_iload_n (pc := 17) dX10_greatestSlope_17 rfl rfl ?_
  obtain ⟨mc1, ms1, K1, hC, e1, e2, h⟩ := h
  refine sg_VV (pc := 18) (av := [vi a1, vi a2]) (st := []) (K := K1) dX10_greatestSlope_18 ck_10_335 rfl (by decide) (by cases em1; exact hk1) (by show (0 : Nat) ≤ 8; decide) hC e1 e2 (fun m2 hK => ?_) rfl
  replace h := h m2 hK
  refine st_aload_n (pc := 21) dX10_greatestSlope_21 rfl rfl ?_
  obtain ⟨hk4, h⟩ := h
  refine sg_gfR (pc := 22) (J := 3) dX10_greatestSlope_22 fl_10_19 rfl hk4 ?_
  refine sg_iconst (pc := 25) dX10_greatestSlope_25 (by omega) ?_
  refine st_iload (pc := 26) dX10_greatestSlope_26 rfl ?_
  obtain ⟨hk5, h⟩ := h
  obtain ⟨h1, h⟩ := h
  refine st_iastore (pc := 28) dX10_greatestSlope_28 hk5 h1.1 h1.2 ?_
  refine Wp.nameM (fun m3 em3 => ?_)
  replace h := h m3 em3
  refine sg_iconst (pc := 29) dX10_greatestSlope_29 (by omega) ?_
  refine sg_istore (pc := 30) (ls' := [some (vr a0), some (vi a1), some (vi a2), some (vi a3), some (vi v1), some (vi 0), none]) dX10_greatestSlope_30 (by show (5 : Nat) < 7; decide) rfl ?_
  refine sg_iconst (pc := 32) dX10_greatestSlope_32 (by omega) ?_
  refine st_iload_n (pc := 33) dX10_greatestSlope_33 rfl rfl ?_
  refine sg_iconst (pc := 34) dX10_greatestSlope_34 (by omega) ?_
  refine st_idiv (pc := 35) dX10_greatestSlope_35 (by omega) ?_
  obtain ⟨mc2, ms2, K2, hC, e1, e2, h⟩ := h
  refine sg_SI (pc := 36) (av := [vi 1, vi (w32 (a2.tdiv 2))]) (st := []) (K := K2) dX10_greatestSlope_36 ck_10_168 rfl (by show (0 : Nat) ≤ 8; decide) hC e1 e2 (fun x1 m4 hK => ?_) rfl
  replace h := h x1 m4 hK
  refine sg_istore (pc := 39) (ls' := [some (vr a0), some (vi a1), some (vi a2), some (vi a3), some (vi v1), some (vi 0), some (vi x1)]) dX10_greatestSlope_39 (by show (6 : Nat) < 7; decide) rfl ?_
  exact h

theorem sg_X10_greatestSlope_41 {d bc bs : Nat} {a0 : Nat} {a1 : Int} {a2 : Int} {a3 : Int} {a4 : Int} {a5 : Int} {a6 : Int} {μ : Mem} {Q : Option (Option AV) → Mem → Prop}
    (h : (a2 < a6 → Q (some (some (vi a5))) μ) ∧ (¬ a2 < a6 → mK μ a0 = 11 ∧ ((mK μ (mR μ a0 47) = 20 ∨ ((mR μ a0 47) ≠ 0 ∧ mK μ (mR μ a0 47) = 40)) ∧ ((0 : Int) ≤ a6 ∧ a6 < (mN μ (mR μ a0 47) : Int)) ∧ (∃ (mc1 ms1 : Nat) (K1 : Int → Mem → Prop), Cl d mc1 ms1 mJ9_abs_0f7a4 [vi (mD μ (mR μ a0 47) a6)] μ (KI K1) ∧ mc1 ≤ bc ∧ ms1 ≤ bs ∧ (∀ x1 m1, K1 x1 m1 → ∃ (mc2 ms2 : Nat) (K2 : Int → Mem → Prop), Cl d mc2 ms2 mJ9_max_7cf53 [vi a5, vi x1] m1 (KI K2) ∧ mc2 ≤ bc - mc1 ∧ ms2 ≤ bs - ms1 ∧ (∀ x2 m2, K2 x2 m2 → ∀ v1, v1 = w32 (a6 + 1) → Wp (d + 1) (bc - mc1 - mc2) (bs - ms1 - ms2) mX10_greatestSlope 41 [some (vr a0), some (vi a1), some (vi a2), some (vi a3), some (vi a4), some (vi x2), some (vi v1)] [] m2 Q)))))) :
    Wp (d + 1) bc bs mX10_greatestSlope 41 [some (vr a0), some (vi a1), some (vi a2), some (vi a3), some (vi a4), some (vi a5), some (vi a6)] [] μ Q := by
  refine st_iload (pc := 41) dX10_greatestSlope_41 rfl ?_
  refine st_iload_n (pc := 43) dX10_greatestSlope_43 rfl rfl ?_
  refine st_icmpgt (pc := 44) (tgt := 70) dX10_greatestSlope_44 rfl (fun c => ?_) (fun c => ?_)
  · replace h := h.1 c
    refine st_iload (pc := 70) dX10_greatestSlope_70 rfl ?_
    exact st_ireturn (pc := 72) dX10_greatestSlope_72 (Or.inl rfl) h
  · replace h := h.2 c
    refine st_iload (pc := 47) dX10_greatestSlope_47 rfl ?_
    refine st_aload_n (pc := 49) dX10_greatestSlope_49 rfl rfl ?_
    obtain ⟨hk1, h⟩ := h
    refine sg_gfR (pc := 50) (J := 47) dX10_greatestSlope_50 fl_10_93 rfl hk1 ?_
    refine st_iload (pc := 53) dX10_greatestSlope_53 rfl ?_
    obtain ⟨hk2, h⟩ := h
    obtain ⟨h1, h⟩ := h
    refine sg_iaload (pc := 55) dX10_greatestSlope_55 hk2 h1 ?_
    obtain ⟨mc1, ms1, K1, hC, e1, e2, h⟩ := h
    refine sg_SI (pc := 56) (av := [vi (mD μ (mR μ a0 47) a6)]) (st := [vi a5]) (K := K1) dX10_greatestSlope_56 ck_10_248 rfl (by show (1 : Nat) ≤ 8; decide) hC e1 e2 (fun x1 m1 hK => ?_) rfl
    replace h := h x1 m1 hK
    obtain ⟨mc2, ms2, K2, hC, e1, e2, h⟩ := h
    refine sg_SI (pc := 59) (av := [vi a5, vi x1]) (st := []) (K := K2) dX10_greatestSlope_59 ck_10_168 rfl (by show (0 : Nat) ≤ 8; decide) hC e1 e2 (fun x2 m2 hK => ?_) rfl
    replace h := h x2 m2 hK
    refine sg_istore (pc := 62) (ls' := [some (vr a0), some (vi a1), some (vi a2), some (vi a3), some (vi a4), some (vi x2), some (vi a6)]) dX10_greatestSlope_62 (by show (5 : Nat) < 7; decide) rfl ?_
    refine sg_iinc (pc := 64) (ls' := [some (vr a0), some (vi a1), some (vi a2), some (vi a3), some (vi a4), some (vi x2), some (vi (w32 (a6 + 1)))]) dX10_greatestSlope_64 rfl rfl ?_
    refine Wp.nameL (ls2 := fun v => [some (vr a0), some (vi a1), some (vi a2), some (vi a3), some (vi a4), some (vi x2), some (vi v)]) 6 _ rfl (fun _ => rfl) (fun v1 ev1 => ?_)
    replace h := h v1 ev1
    refine st_goto (pc := 67) dX10_greatestSlope_67 rfl ?_
    exact h

theorem sg_X10_off_0 {d bc bs : Nat} {a0 : Nat} {a1 : Int} {a2 : Int} {a3 : Int} {μ : Mem} {Q : Option (Option AV) → Mem → Prop}
    (h : mK μ a0 = 11 ∧ (∀ m1, m1 = sD μ a0 15 0 → ∃ (mc1 ms1 : Nat) (K1 : Int → Mem → Prop), Cl d mc1 ms1 mX10_isTilt [vi a1] m1 (KI K1) ∧ mc1 ≤ bc ∧ ms1 ≤ bs ∧ (∀ x1 m2, K1 x1 m2 → (x1 = 0 → Q (some (some (vi (-1)))) m2) ∧ (¬ x1 = 0 → ∃ (mc2 ms2 : Nat) (K2 : Int → Mem → Prop), Cl d mc2 ms2 mX10_in [vi a2, vi 1, vi 400] m2 (KI K2) ∧ mc2 ≤ bc - mc1 ∧ ms2 ≤ bs - ms1 ∧ (∀ x2 m3, K2 x2 m3 → (x2 = 0 → Q (some (some (vi (-1)))) m3) ∧ (¬ x2 = 0 → ∃ (mc3 ms3 : Nat) (K3 : Int → Mem → Prop), Cl d mc3 ms3 mX10_in [vi a3, vi 0, vi 9] m3 (KI K3) ∧ mc3 ≤ bc - mc1 - mc2 ∧ ms3 ≤ bs - ms1 - ms2 ∧ (∀ x3 m4, K3 x3 m4 → (¬ x3 = 0 → mK m4 a0 = 11 ∧ ∃ (mc4 ms4 : Nat) (K4 : Int → Mem → Prop), Cl d mc4 ms4 mX10_greatestSlope [vr a0, vi a1, vi a2, vi a3] m4 (KI K4) ∧ mc4 ≤ bc - mc1 - mc2 - mc3 ∧ ms4 ≤ bs - ms1 - ms2 - ms3 ∧ (∀ x4 m5, K4 x4 m5 → mK m5 a0 = 11 ∧ ∃ (mc5 ms5 : Nat) (K5 : Int → Mem → Prop), Cl d mc5 ms5 mX10_greatestSlope [vr a0, vi a1, vi a2, vi 0] m5 (KI K5) ∧ mc5 ≤ bc - mc1 - mc2 - mc3 - mc4 ∧ ms5 ≤ bs - ms1 - ms2 - ms3 - ms4 ∧ (∀ x5 m6, K5 x5 m6 → mK m6 a0 = 11 ∧ (∀ m7, m7 = sD m6 a0 14 0 → ∃ (mc6 ms6 : Nat) (K6 : Mem → Prop), Cl d mc6 ms6 mX10_tell [vr a0, vl x4] m7 (KV K6) ∧ mc6 ≤ bc - mc1 - mc2 - mc3 - mc4 - mc5 ∧ ms6 ≤ bs - ms1 - ms2 - ms3 - ms4 - ms5 ∧ (∀ m8, K6 m8 → mK m8 a0 = 11 ∧ ∃ (mc7 ms7 : Nat) (K7 : Mem → Prop), Cl d mc7 ms7 mX10_tell [vr a0, vl x5] m8 (KV K7) ∧ mc7 ≤ bc - mc1 - mc2 - mc3 - mc4 - mc5 - mc6 ∧ ms7 ≤ bs - ms1 - ms2 - ms3 - ms4 - ms5 - ms6 ∧ (∀ m9, K7 m9 → (¬ x5 = 0 → mK m9 a0 = 11 ∧ ∃ (mc8 ms8 : Nat) (K8 : Mem → Prop), Cl d mc8 ms8 mX10_tellPart [vr a0, vl (w32 (x5 - x4)), vl x5] m9 (KV K8) ∧ mc8 ≤ bc - mc1 - mc2 - mc3 - mc4 - mc5 - mc6 - mc7 ∧ ms8 ≤ bs - ms1 - ms2 - ms3 - ms4 - ms5 - ms6 - ms7 ∧ (∀ m10, K8 m10 → Q (some (some (vi 0))) m10)) ∧ (x5 = 0 → mK m9 a0 = 11 ∧ ∃ (mc9 ms9 : Nat) (K9 : Mem → Prop), Cl d mc9 ms9 mX10_tellPart [vr a0, vl 0, vl 1] m9 (KV K9) ∧ mc9 ≤ bc - mc1 - mc2 - mc3 - mc4 - mc5 - mc6 - mc7 ∧ ms9 ≤ bs - ms1 - ms2 - ms3 - ms4 - ms5 - ms6 - ms7 ∧ (∀ m11, K9 m11 → Q (some (some (vi 0))) m11)))))))) ∧ (x3 = 0 → Q (some (some (vi (-1)))) m4)))))))) :
    Wp (d + 1) bc bs mX10_off 0 [some (vr a0), some (vi a1), some (vi a2), some (vi a3), none, none] [] μ Q := by
  refine st_aload_n (pc := 0) dX10_off_0 rfl rfl ?_
  refine sg_iconst (pc := 1) dX10_off_1 (by omega) ?_
  obtain ⟨hk1, h⟩ := h
  refine sg_pfI (pc := 2) (J := 15) dX10_off_2 fl_10_142 rfl (Or.inl rfl) hk1 ?_
  refine Wp.nameM (fun m1 em1 => ?_)
  replace h := h m1 em1
  refine st_iload_n (pc := 5) dX10_off_5 rfl rfl ?_
  obtain ⟨mc1, ms1, K1, hC, e1, e2, h⟩ := h
  refine sg_SI (pc := 6) (av := [vi a1]) (st := []) (K := K1) dX10_off_6 ck_10_332 rfl (by show (0 : Nat) ≤ 8; decide) hC e1 e2 (fun x1 m2 hK => ?_) rfl
  replace h := h x1 m2 hK
  refine st_ifeq (pc := 9) (tgt := 33) dX10_off_9 rfl (fun c => ?_) (fun c => ?_)
  · replace h := h.1 c
    refine sg_iconst (pc := 33) dX10_off_33 (by omega) ?_
    exact st_ireturn (pc := 34) dX10_off_34 (Or.inl rfl) h
  · replace h := h.2 c
    refine st_iload_n (pc := 12) dX10_off_12 rfl rfl ?_
    refine sg_iconst (pc := 13) dX10_off_13 (by omega) ?_
    refine sg_sipush (pc := 14) dX10_off_14 (by omega) (by decide) ?_
    obtain ⟨mc2, ms2, K2, hC, e1, e2, h⟩ := h
    refine sg_SI (pc := 17) (av := [vi a2, vi 1, vi 400]) (st := []) (K := K2) dX10_off_17 ck_10_151 rfl (by show (0 : Nat) ≤ 8; decide) hC e1 e2 (fun x2 m3 hK => ?_) rfl
    replace h := h x2 m3 hK
    refine st_ifeq (pc := 20) (tgt := 33) dX10_off_20 rfl (fun c => ?_) (fun c => ?_)
    · replace h := h.1 c
      refine sg_iconst (pc := 33) dX10_off_33 (by omega) ?_
      exact st_ireturn (pc := 34) dX10_off_34 (Or.inl rfl) h
    · replace h := h.2 c
      refine st_iload_n (pc := 23) dX10_off_23 rfl rfl ?_
      refine sg_iconst (pc := 24) dX10_off_24 (by omega) ?_
      refine sg_bipush (pc := 25) dX10_off_25 (by omega) (by decide) ?_
      obtain ⟨mc3, ms3, K3, hC, e1, e2, h⟩ := h
      refine sg_SI (pc := 27) (av := [vi a3, vi 0, vi 9]) (st := []) (K := K3) dX10_off_27 ck_10_151 rfl (by show (0 : Nat) ≤ 8; decide) hC e1 e2 (fun x3 m4 hK => ?_) rfl
      replace h := h x3 m4 hK
      refine st_ifne (pc := 30) (tgt := 35) dX10_off_30 rfl (fun c => ?_) (fun c => ?_)
      · replace h := h.1 c
        refine st_aload_n (pc := 35) dX10_off_35 rfl rfl ?_
        refine st_iload_n (pc := 36) dX10_off_36 rfl rfl ?_
        refine st_iload_n (pc := 37) dX10_off_37 rfl rfl ?_
        refine st_iload_n (pc := 38) dX10_off_38 rfl rfl ?_
        obtain ⟨hk2, h⟩ := h
        obtain ⟨mc4, ms4, K4, hC, e1, e2, h⟩ := h
        refine sg_VI (pc := 39) (av := [vi a1, vi a2, vi a3]) (st := []) (K := K4) dX10_off_39 ck_10_372 rfl (by decide) hk2 (by show (0 : Nat) ≤ 8; decide) hC e1 e2 (fun x4 m5 hK => ?_) rfl
        replace h := h x4 m5 hK
        refine sg_istore (pc := 42) (ls' := [some (vr a0), some (vi a1), some (vi a2), some (vi a3), some (vi x4), none]) dX10_off_42 (by show (4 : Nat) < 6; decide) rfl ?_
        refine st_aload_n (pc := 44) dX10_off_44 rfl rfl ?_
        refine st_iload_n (pc := 45) dX10_off_45 rfl rfl ?_
        refine st_iload_n (pc := 46) dX10_off_46 rfl rfl ?_
        refine sg_iconst (pc := 47) dX10_off_47 (by omega) ?_
        obtain ⟨hk3, h⟩ := h
        obtain ⟨mc5, ms5, K5, hC, e1, e2, h⟩ := h
        refine sg_VI (pc := 48) (av := [vi a1, vi a2, vi 0]) (st := []) (K := K5) dX10_off_48 ck_10_372 rfl (by decide) hk3 (by show (0 : Nat) ≤ 8; decide) hC e1 e2 (fun x5 m6 hK => ?_) rfl
        replace h := h x5 m6 hK
        refine sg_istore (pc := 51) (ls' := [some (vr a0), some (vi a1), some (vi a2), some (vi a3), some (vi x4), some (vi x5)]) dX10_off_51 (by show (5 : Nat) < 6; decide) rfl ?_
        refine st_aload_n (pc := 53) dX10_off_53 rfl rfl ?_
        refine sg_iconst (pc := 54) dX10_off_54 (by omega) ?_
        obtain ⟨hk4, h⟩ := h
        refine sg_pfI (pc := 55) (J := 14) dX10_off_55 fl_10_145 rfl (Or.inl rfl) hk4 ?_
        refine Wp.nameM (fun m7 em7 => ?_)
        replace h := h m7 em7
        refine st_aload_n (pc := 58) dX10_off_58 rfl rfl ?_
        refine st_iload (pc := 59) dX10_off_59 rfl ?_
        refine st_i2l (pc := 61) dX10_off_61 ?_
        obtain ⟨mc6, ms6, K6, hC, e1, e2, h⟩ := h
        refine sg_VV (pc := 62) (av := [vl x4]) (st := []) (K := K6) dX10_off_62 ck_10_252 rfl (by decide) (by cases em7; exact hk4) (by show (0 : Nat) ≤ 8; decide) hC e1 e2 (fun m8 hK => ?_) rfl
        replace h := h m8 hK
        refine st_aload_n (pc := 65) dX10_off_65 rfl rfl ?_
        refine st_iload (pc := 66) dX10_off_66 rfl ?_
        refine st_i2l (pc := 68) dX10_off_68 ?_
        obtain ⟨hk5, h⟩ := h
        obtain ⟨mc7, ms7, K7, hC, e1, e2, h⟩ := h
        refine sg_VV (pc := 69) (av := [vl x5]) (st := []) (K := K7) dX10_off_69 ck_10_252 rfl (by decide) hk5 (by show (0 : Nat) ≤ 8; decide) hC e1 e2 (fun m9 hK => ?_) rfl
        replace h := h m9 hK
        refine st_iload (pc := 72) dX10_off_72 rfl ?_
        refine st_ifne (pc := 74) (tgt := 86) dX10_off_74 rfl (fun c => ?_) (fun c => ?_)
        · replace h := h.1 c
          refine st_aload_n (pc := 86) dX10_off_86 rfl rfl ?_
          refine st_iload (pc := 87) dX10_off_87 rfl ?_
          refine st_iload (pc := 89) dX10_off_89 rfl ?_
          refine st_isub (pc := 91) dX10_off_91 ?_
          refine st_i2l (pc := 92) dX10_off_92 ?_
          refine st_iload (pc := 93) dX10_off_93 rfl ?_
          refine st_i2l (pc := 95) dX10_off_95 ?_
          obtain ⟨hk6, h⟩ := h
          obtain ⟨mc8, ms8, K8, hC, e1, e2, h⟩ := h
          refine sg_VV (pc := 96) (av := [vl (w32 (x5 - x4)), vl x5]) (st := []) (K := K8) dX10_off_96 ck_10_348 rfl (by decide) hk6 (by show (0 : Nat) ≤ 8; decide) hC e1 e2 (fun m10 hK => ?_) rfl
          replace h := h m10 hK
          refine sg_iconst (pc := 99) dX10_off_99 (by omega) ?_
          exact st_ireturn (pc := 100) dX10_off_100 (Or.inl rfl) h
        · replace h := h.2 c
          refine st_aload_n (pc := 77) dX10_off_77 rfl rfl ?_
          refine st_lconst (pc := 78) (x := 0) dX10_off_78 (by decide) (by unfold r64; omega) ?_
          refine st_lconst (pc := 79) (x := 1) dX10_off_79 (by decide) (by unfold r64; omega) ?_
          obtain ⟨hk7, h⟩ := h
          obtain ⟨mc9, ms9, K9, hC, e1, e2, h⟩ := h
          refine sg_VV (pc := 80) (av := [vl 0, vl 1]) (st := []) (K := K9) dX10_off_80 ck_10_348 rfl (by decide) hk7 (by show (0 : Nat) ≤ 8; decide) hC e1 e2 (fun m11 hK => ?_) rfl
          replace h := h m11 hK
          refine st_goto (pc := 83) dX10_off_83 rfl ?_
          refine sg_iconst (pc := 99) dX10_off_99 (by omega) ?_
          exact st_ireturn (pc := 100) dX10_off_100 (Or.inl rfl) h
      · replace h := h.2 c
        refine sg_iconst (pc := 33) dX10_off_33 (by omega) ?_
        exact st_ireturn (pc := 34) dX10_off_34 (Or.inl rfl) h

theorem sg_X10_few_0 {d bc bs : Nat} {a0 : Nat} {a1 : Int} {a2 : Int} {μ : Mem} {Q : Option (Option AV) → Mem → Prop}
    (h : mK μ a0 = 11 ∧ (∀ m1, m1 = sD μ a0 15 0 → ∃ (mc1 ms1 : Nat) (K1 : Int → Mem → Prop), Cl d mc1 ms1 mX10_isWalk [vi a1] m1 (KI K1) ∧ mc1 ≤ bc ∧ ms1 ≤ bs ∧ (∀ x1 m2, K1 x1 m2 → (x1 = 0 → Q (some (some (vi (-1)))) m2) ∧ (¬ x1 = 0 → ∃ (mc2 ms2 : Nat) (K2 : Int → Mem → Prop), Cl d mc2 ms2 mX10_in [vi a2, vi 0, vi 99] m2 (KI K2) ∧ mc2 ≤ bc - mc1 ∧ ms2 ≤ bs - ms1 ∧ (∀ x2 m3, K2 x2 m3 → (¬ x2 = 0 → mK m3 a0 = 11 ∧ ∃ (mc3 ms3 : Nat) (K3 : Int → Mem → Prop), Cl d mc3 ms3 mX10_wholly [vr a0, vi a1, vi 1] m3 (KI K3) ∧ mc3 ≤ bc - mc1 - mc2 ∧ ms3 ≤ bs - ms1 - ms2 ∧ (∀ x3 m4, K3 x3 m4 → (¬ x3 = 0 → Wp (d + 1) (bc - mc1 - mc2 - mc3) (bs - ms1 - ms2 - ms3) mX10_few 42 [some (vr a0), some (vi a1), some (vi a2), some (vi 0), none, none] [] m4 Q) ∧ (x3 = 0 → mK m4 a0 = 11 ∧ (∀ m5, m5 = sD m4 a0 14 0 → Q (some (some (vi 0))) m5)))) ∧ (x2 = 0 → Q (some (some (vi (-1)))) m3)))))) :
    Wp (d + 1) bc bs mX10_few 0 [some (vr a0), some (vi a1), some (vi a2), none, none, none] [] μ Q := by
  refine st_aload_n (pc := 0) dX10_few_0 rfl rfl ?_
  refine sg_iconst (pc := 1) dX10_few_1 (by omega) ?_
  obtain ⟨hk1, h⟩ := h
  refine sg_pfI (pc := 2) (J := 15) dX10_few_2 fl_10_142 rfl (Or.inl rfl) hk1 ?_
  refine Wp.nameM (fun m1 em1 => ?_)
  replace h := h m1 em1
  refine st_iload_n (pc := 5) dX10_few_5 rfl rfl ?_
  obtain ⟨mc1, ms1, K1, hC, e1, e2, h⟩ := h
  refine sg_SI (pc := 6) (av := [vi a1]) (st := []) (K := K1) dX10_few_6 ck_10_245 rfl (by show (0 : Nat) ≤ 8; decide) hC e1 e2 (fun x1 m2 hK => ?_) rfl
  replace h := h x1 m2 hK
  refine st_ifeq (pc := 9) (tgt := 22) dX10_few_9 rfl (fun c => ?_) (fun c => ?_)
  · replace h := h.1 c
    refine sg_iconst (pc := 22) dX10_few_22 (by omega) ?_
    exact st_ireturn (pc := 23) dX10_few_23 (Or.inl rfl) h
  · replace h := h.2 c
    refine st_iload_n (pc := 12) dX10_few_12 rfl rfl ?_
    refine sg_iconst (pc := 13) dX10_few_13 (by omega) ?_
    refine sg_bipush (pc := 14) dX10_few_14 (by omega) (by decide) ?_
    obtain ⟨mc2, ms2, K2, hC, e1, e2, h⟩ := h
    refine sg_SI (pc := 16) (av := [vi a2, vi 0, vi 99]) (st := []) (K := K2) dX10_few_16 ck_10_151 rfl (by show (0 : Nat) ≤ 8; decide) hC e1 e2 (fun x2 m3 hK => ?_) rfl
    replace h := h x2 m3 hK
    refine st_ifne (pc := 19) (tgt := 24) dX10_few_19 rfl (fun c => ?_) (fun c => ?_)
    · replace h := h.1 c
      refine st_aload_n (pc := 24) dX10_few_24 rfl rfl ?_
      refine st_iload_n (pc := 25) dX10_few_25 rfl rfl ?_
      refine sg_iconst (pc := 26) dX10_few_26 (by omega) ?_
      obtain ⟨hk2, h⟩ := h
      obtain ⟨mc3, ms3, K3, hC, e1, e2, h⟩ := h
      refine sg_VI (pc := 27) (av := [vi a1, vi 1]) (st := []) (K := K3) dX10_few_27 ck_10_338 rfl (by decide) hk2 (by show (0 : Nat) ≤ 8; decide) hC e1 e2 (fun x3 m4 hK => ?_) rfl
      replace h := h x3 m4 hK
      refine st_ifne (pc := 30) (tgt := 40) dX10_few_30 rfl (fun c => ?_) (fun c => ?_)
      · replace h := h.1 c
        refine sg_iconst (pc := 40) dX10_few_40 (by omega) ?_
        refine sg_istore_n (pc := 41) (ls' := [some (vr a0), some (vi a1), some (vi a2), some (vi 0), none, none]) dX10_few_41 rfl (by show (3 : Nat) < 6; decide) rfl ?_
        exact h
      · replace h := h.2 c
        refine st_aload_n (pc := 33) dX10_few_33 rfl rfl ?_
        refine sg_iconst (pc := 34) dX10_few_34 (by omega) ?_
        obtain ⟨hk3, h⟩ := h
        refine sg_pfI (pc := 35) (J := 14) dX10_few_35 fl_10_145 rfl (Or.inl rfl) hk3 ?_
        refine Wp.nameM (fun m5 em5 => ?_)
        replace h := h m5 em5
        refine sg_iconst (pc := 38) dX10_few_38 (by omega) ?_
        exact st_ireturn (pc := 39) dX10_few_39 (Or.inl rfl) h
    · replace h := h.2 c
      refine sg_iconst (pc := 22) dX10_few_22 (by omega) ?_
      exact st_ireturn (pc := 23) dX10_few_23 (Or.inl rfl) h

theorem sg_X10_few_42 {d bc bs : Nat} {a0 : Nat} {a1 : Int} {a2 : Int} {a3 : Int} {μ : Mem} {Q : Option (Option AV) → Mem → Prop}
    (h : mK μ a0 = 11 ∧ (((w32 ((mD μ a0 0) - 1)) ≤ a3 → Wp (d + 1) bc bs mX10_few 126 [some (vr a0), some (vi a1), some (vi a2), some (vi 0), none, none] [] μ Q) ∧ (¬ (w32 ((mD μ a0 0) - 1)) ≤ a3 → (mK μ (mR μ a0 4) = 20 ∨ ((mR μ a0 4) ≠ 0 ∧ mK μ (mR μ a0 4) = 40)) ∧ ((0 : Int) ≤ a3 ∧ a3 < (mN μ (mR μ a0 4) : Int)) ∧ ((100 ≤ (mD μ (mR μ a0 4) a3) → mK μ (mR μ a0 4) = 20 ∧ ((0 : Int) ≤ a3 ∧ a3 < (mN μ (mR μ a0 4) : Int)) ∧ (∀ m1, m1 = sD μ (mR μ a0 4) a3 a2 → ∃ (mc1 ms1 : Nat) (K1 : Int → Mem → Prop), Cl d mc1 ms1 mX10_wholly [vr a0, vi a1, vi 1] m1 (KI K1) ∧ mc1 ≤ bc ∧ ms1 ≤ bs ∧ (∀ x1 m2, K1 x1 m2 → (¬ x1 = 0 → mK m2 a0 = 11 ∧ (mK m2 (mR m2 a0 4) = 20 ∧ ((0 : Int) ≤ a3 ∧ a3 < (mN m2 (mR m2 a0 4) : Int)) ∧ (∀ m3, m3 = sD m2 (mR m2 a0 4) a3 100 → (¬ (0 : Int) = 0 → (∀ m4, m4 = sD m3 a0 14 0 → ∃ (mc2 ms2 : Nat) (K2 : Mem → Prop), Cl d mc2 ms2 mX10_tell [vr a0, vl a3] m4 (KV K2) ∧ mc2 ≤ bc - mc1 ∧ ms2 ≤ bs - ms1 ∧ (∀ m5, K2 m5 → Q (some (some (vi 1))) m5))) ∧ ((0 : Int) = 0 → ∀ v1, v1 = w32 (a3 + 1) → Wp (d + 1) (bc - mc1) (bs - ms1) mX10_few 42 [some (vr a0), some (vi a1), some (vi a2), some (vi v1), none, none] [] m3 Q)))) ∧ (x1 = 0 → mK m2 a0 = 11 ∧ (mK m2 (mR m2 a0 4) = 20 ∧ ((0 : Int) ≤ a3 ∧ a3 < (mN m2 (mR m2 a0 4) : Int)) ∧ (∀ m6, m6 = sD m2 (mR m2 a0 4) a3 100 → (¬ (1 : Int) = 0 → (∀ m7, m7 = sD m6 a0 14 0 → ∃ (mc3 ms3 : Nat) (K3 : Mem → Prop), Cl d mc3 ms3 mX10_tell [vr a0, vl a3] m7 (KV K3) ∧ mc3 ≤ bc - mc1 ∧ ms3 ≤ bs - ms1 ∧ (∀ m8, K3 m8 → Q (some (some (vi 1))) m8))) ∧ ((1 : Int) = 0 → ∀ v2, v2 = w32 (a3 + 1) → Wp (d + 1) (bc - mc1) (bs - ms1) mX10_few 42 [some (vr a0), some (vi a1), some (vi a2), some (vi v2), none, none] [] m6 Q))))))) ∧ (¬ 100 ≤ (mD μ (mR μ a0 4) a3) → ∀ v3, v3 = w32 (a3 + 1) → Wp (d + 1) bc bs mX10_few 42 [some (vr a0), some (vi a1), some (vi a2), some (vi v3), none, none] [] μ Q))))) :
    Wp (d + 1) bc bs mX10_few 42 [some (vr a0), some (vi a1), some (vi a2), some (vi a3), none, none] [] μ Q := by
  refine st_iload_n (pc := 42) dX10_few_42 rfl rfl ?_
  refine st_aload_n (pc := 43) dX10_few_43 rfl rfl ?_
  obtain ⟨hk1, h⟩ := h
  refine sg_gfI (pc := 44) (J := 0) dX10_few_44 fl_10_9 (by decide) rfl hk1 ?_
  refine sg_iconst (pc := 47) dX10_few_47 (by omega) ?_
  refine st_isub (pc := 48) dX10_few_48 ?_
  refine st_icmpge (pc := 49) (tgt := 124) dX10_few_49 rfl (fun c => ?_) (fun c => ?_)
  · replace h := h.1 c
    refine sg_iconst (pc := 124) dX10_few_124 (by omega) ?_
    refine sg_istore_n (pc := 125) (ls' := [some (vr a0), some (vi a1), some (vi a2), some (vi 0), none, none]) dX10_few_125 rfl (by show (3 : Nat) < 6; decide) rfl ?_
    exact h
  · replace h := h.2 c
    refine st_aload_n (pc := 52) dX10_few_52 rfl rfl ?_
    refine sg_gfR (pc := 53) (J := 4) dX10_few_53 fl_10_23 rfl hk1 ?_
    refine st_iload_n (pc := 56) dX10_few_56 rfl rfl ?_
    obtain ⟨hk2, h⟩ := h
    obtain ⟨h1, h⟩ := h
    refine sg_iaload (pc := 57) dX10_few_57 hk2 h1 ?_
    refine sg_bipush (pc := 58) dX10_few_58 (by omega) (by decide) ?_
    refine st_icmpge (pc := 60) (tgt := 66) dX10_few_60 rfl (fun c => ?_) (fun c => ?_)
    · replace h := h.1 c
      refine st_aload_n (pc := 66) dX10_few_66 rfl rfl ?_
      refine sg_gfR (pc := 67) (J := 4) dX10_few_67 fl_10_23 rfl hk1 ?_
      refine st_iload_n (pc := 70) dX10_few_70 rfl rfl ?_
      refine st_iload_n (pc := 71) dX10_few_71 rfl rfl ?_
      obtain ⟨hk3, h⟩ := h
      obtain ⟨h1, h⟩ := h
      refine st_iastore (pc := 72) dX10_few_72 hk3 h1.1 h1.2 ?_
      refine Wp.nameM (fun m1 em1 => ?_)
      replace h := h m1 em1
      refine st_aload_n (pc := 73) dX10_few_73 rfl rfl ?_
      refine st_iload_n (pc := 74) dX10_few_74 rfl rfl ?_
      refine sg_iconst (pc := 75) dX10_few_75 (by omega) ?_
      obtain ⟨mc1, ms1, K1, hC, e1, e2, h⟩ := h
      refine sg_VI (pc := 76) (av := [vi a1, vi 1]) (st := []) (K := K1) dX10_few_76 ck_10_338 rfl (by decide) (by cases em1; exact hk1) (by show (0 : Nat) ≤ 8; decide) hC e1 e2 (fun x1 m2 hK => ?_) rfl
      replace h := h x1 m2 hK
      refine st_ifne (pc := 79) (tgt := 86) dX10_few_79 rfl (fun c => ?_) (fun c => ?_)
      · replace h := h.1 c
        refine sg_iconst (pc := 86) dX10_few_86 (by omega) ?_
        refine sg_istore (pc := 87) (ls' := [some (vr a0), some (vi a1), some (vi a2), some (vi a3), some (vi 0), none]) dX10_few_87 (by show (4 : Nat) < 6; decide) rfl ?_
        refine st_aload_n (pc := 89) dX10_few_89 rfl rfl ?_
        obtain ⟨hk4, h⟩ := h
        refine sg_gfR (pc := 90) (J := 4) dX10_few_90 fl_10_23 rfl hk4 ?_
        refine st_iload_n (pc := 93) dX10_few_93 rfl rfl ?_
        refine sg_bipush (pc := 94) dX10_few_94 (by omega) (by decide) ?_
        obtain ⟨hk5, h⟩ := h
        obtain ⟨h1, h⟩ := h
        refine st_iastore (pc := 96) dX10_few_96 hk5 h1.1 h1.2 ?_
        refine Wp.nameM (fun m3 em3 => ?_)
        replace h := h m3 em3
        refine st_iload (pc := 97) dX10_few_97 rfl ?_
        refine st_ifne (pc := 99) (tgt := 105) dX10_few_99 rfl (fun c => ?_) (fun c => ?_)
        · replace h := h.1 c
          refine st_aload_n (pc := 105) dX10_few_105 rfl rfl ?_
          refine sg_iconst (pc := 106) dX10_few_106 (by omega) ?_
          refine sg_pfI (pc := 107) (J := 14) dX10_few_107 fl_10_145 rfl (Or.inl rfl) (by cases em3; exact hk4) ?_
          refine Wp.nameM (fun m4 em4 => ?_)
          replace h := h m4 em4
          refine st_aload_n (pc := 110) dX10_few_110 rfl rfl ?_
          refine st_iload_n (pc := 111) dX10_few_111 rfl rfl ?_
          refine st_i2l (pc := 112) dX10_few_112 ?_
          obtain ⟨mc2, ms2, K2, hC, e1, e2, h⟩ := h
          refine sg_VV (pc := 113) (av := [vl a3]) (st := []) (K := K2) dX10_few_113 ck_10_252 rfl (by decide) (by cases em4; cases em3; exact hk4) (by show (0 : Nat) ≤ 8; decide) hC e1 e2 (fun m5 hK => ?_) rfl
          replace h := h m5 hK
          refine sg_iconst (pc := 116) dX10_few_116 (by omega) ?_
          exact st_ireturn (pc := 117) dX10_few_117 (Or.inl rfl) h
        · replace h := h.2 c
          refine st_goto (pc := 102) dX10_few_102 rfl ?_
          refine sg_iinc (pc := 118) (ls' := [some (vr a0), some (vi a1), some (vi a2), some (vi (w32 (a3 + 1))), some (vi 0), none]) dX10_few_118 rfl rfl ?_
          refine Wp.nameL (ls2 := fun v => [some (vr a0), some (vi a1), some (vi a2), some (vi v), some (vi 0), none]) 3 _ rfl (fun _ => rfl) (fun v1 ev1 => ?_)
          replace h := h v1 ev1
          refine st_goto (pc := 121) dX10_few_121 rfl ?_
          refine Wp.drop 4 rfl ?_
          exact h
      · replace h := h.2 c
        refine sg_iconst (pc := 82) dX10_few_82 (by omega) ?_
        refine st_goto (pc := 83) dX10_few_83 rfl ?_
        refine sg_istore (pc := 87) (ls' := [some (vr a0), some (vi a1), some (vi a2), some (vi a3), some (vi 1), none]) dX10_few_87 (by show (4 : Nat) < 6; decide) rfl ?_
        refine st_aload_n (pc := 89) dX10_few_89 rfl rfl ?_
        obtain ⟨hk6, h⟩ := h
        refine sg_gfR (pc := 90) (J := 4) dX10_few_90 fl_10_23 rfl hk6 ?_
        refine st_iload_n (pc := 93) dX10_few_93 rfl rfl ?_
        refine sg_bipush (pc := 94) dX10_few_94 (by omega) (by decide) ?_
        obtain ⟨hk7, h⟩ := h
        obtain ⟨h1, h⟩ := h
        refine st_iastore (pc := 96) dX10_few_96 hk7 h1.1 h1.2 ?_
        refine Wp.nameM (fun m6 em6 => ?_)
        replace h := h m6 em6
        refine st_iload (pc := 97) dX10_few_97 rfl ?_
        refine st_ifne (pc := 99) (tgt := 105) dX10_few_99 rfl (fun c => ?_) (fun c => ?_)
        · replace h := h.1 c
          refine st_aload_n (pc := 105) dX10_few_105 rfl rfl ?_
          refine sg_iconst (pc := 106) dX10_few_106 (by omega) ?_
          refine sg_pfI (pc := 107) (J := 14) dX10_few_107 fl_10_145 rfl (Or.inl rfl) (by cases em6; exact hk6) ?_
          refine Wp.nameM (fun m7 em7 => ?_)
          replace h := h m7 em7
          refine st_aload_n (pc := 110) dX10_few_110 rfl rfl ?_
          refine st_iload_n (pc := 111) dX10_few_111 rfl rfl ?_
          refine st_i2l (pc := 112) dX10_few_112 ?_
          obtain ⟨mc3, ms3, K3, hC, e1, e2, h⟩ := h
          refine sg_VV (pc := 113) (av := [vl a3]) (st := []) (K := K3) dX10_few_113 ck_10_252 rfl (by decide) (by cases em7; cases em6; exact hk6) (by show (0 : Nat) ≤ 8; decide) hC e1 e2 (fun m8 hK => ?_) rfl
          replace h := h m8 hK
          refine sg_iconst (pc := 116) dX10_few_116 (by omega) ?_
          exact st_ireturn (pc := 117) dX10_few_117 (Or.inl rfl) h
        · replace h := h.2 c
          refine st_goto (pc := 102) dX10_few_102 rfl ?_
          refine sg_iinc (pc := 118) (ls' := [some (vr a0), some (vi a1), some (vi a2), some (vi (w32 (a3 + 1))), some (vi 1), none]) dX10_few_118 rfl rfl ?_
          refine Wp.nameL (ls2 := fun v => [some (vr a0), some (vi a1), some (vi a2), some (vi v), some (vi 1), none]) 3 _ rfl (fun _ => rfl) (fun v2 ev2 => ?_)
          replace h := h v2 ev2
          refine st_goto (pc := 121) dX10_few_121 rfl ?_
          refine Wp.drop 4 rfl ?_
          exact h
    · replace h := h.2 c
      refine st_goto (pc := 63) dX10_few_63 rfl ?_
      refine sg_iinc (pc := 118) (ls' := [some (vr a0), some (vi a1), some (vi a2), some (vi (w32 (a3 + 1))), none, none]) dX10_few_118 rfl rfl ?_
      refine Wp.nameL (ls2 := fun v => [some (vr a0), some (vi a1), some (vi a2), some (vi v), none, none]) 3 _ rfl (fun _ => rfl) (fun v3 ev3 => ?_)
      replace h := h v3 ev3
      refine st_goto (pc := 121) dX10_few_121 rfl ?_
      exact h

theorem sg_X10_few_126 {d bc bs : Nat} {a0 : Nat} {a1 : Int} {a2 : Int} {a3 : Int} {μ : Mem} {Q : Option (Option AV) → Mem → Prop}
    (h : mK μ a0 = 11 ∧ (((w32 ((mD μ a0 0) - 1)) ≤ a3 → Q (some (some (vi (-2)))) μ) ∧ (¬ (w32 ((mD μ a0 0) - 1)) ≤ a3 → ∀ v1, v1 = w32 (a3 + 1) → Wp (d + 1) bc bs mX10_few 141 [some (vr a0), some (vi a1), some (vi a2), some (vi a3), some (vi v1), none] [] μ Q))) :
    Wp (d + 1) bc bs mX10_few 126 [some (vr a0), some (vi a1), some (vi a2), some (vi a3), none, none] [] μ Q := by
  refine st_iload_n (pc := 126) dX10_few_126 rfl rfl ?_
  refine st_aload_n (pc := 127) dX10_few_127 rfl rfl ?_
  obtain ⟨hk1, h⟩ := h
  refine sg_gfI (pc := 128) (J := 0) dX10_few_128 fl_10_9 (by decide) rfl hk1 ?_
  refine sg_iconst (pc := 131) dX10_few_131 (by omega) ?_
  refine st_isub (pc := 132) dX10_few_132 ?_
  refine st_icmpge (pc := 133) (tgt := 266) dX10_few_133 rfl (fun c => ?_) (fun c => ?_)
  · replace h := h.1 c
    refine sg_bipush (pc := 266) dX10_few_266 (by omega) (by decide) ?_
    exact st_ireturn (pc := 268) dX10_few_268 (Or.inl rfl) h
  · replace h := h.2 c
    refine st_iload_n (pc := 136) dX10_few_136 rfl rfl ?_
    refine sg_iconst (pc := 137) dX10_few_137 (by omega) ?_
    refine st_iadd (pc := 138) dX10_few_138 ?_
    refine sg_istore (pc := 139) (ls' := [some (vr a0), some (vi a1), some (vi a2), some (vi a3), some (vi (w32 (a3 + 1))), none]) dX10_few_139 (by show (4 : Nat) < 6; decide) rfl ?_
    refine Wp.nameL (ls2 := fun v => [some (vr a0), some (vi a1), some (vi a2), some (vi a3), some (vi v), none]) 4 _ rfl (fun _ => rfl) (fun v1 ev1 => ?_)
    replace h := h v1 ev1
    exact h

