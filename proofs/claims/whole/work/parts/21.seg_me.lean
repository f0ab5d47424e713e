/-! ===== by program (wip/whole/gen_seg.py): stretches of methods ===== -/
theorem sg_X10_few_141 {d bc bs : Nat} {a0 : Nat} {a1 : Int} {a2 : Int} {a3 : Int} {a4 : Int} {μ : Mem} {Q : Option (Option AV) → Mem → Prop}
    (h : mK μ a0 = 11 ∧ (((w32 ((mD μ a0 0) - 1)) ≤ a4 → ∀ v1, v1 = w32 (a3 + 1) → Wp (d + 1) bc bs mX10_few 126 [some (vr a0), some (vi a1), some (vi a2), some (vi v1), none, none] [] μ Q) ∧ (¬ (w32 ((mD μ a0 0) - 1)) ≤ a4 → (mK μ (mR μ a0 4) = 20 ∨ ((mR μ a0 4) ≠ 0 ∧ mK μ (mR μ a0 4) = 40)) ∧ ((0 : Int) ≤ a3 ∧ a3 < (mN μ (mR μ a0 4) : Int)) ∧ (((mD μ (mR μ a0 4) a3) < 100 → ∀ v2, v2 = w32 (a4 + 1) → Wp (d + 1) bc bs mX10_few 141 [some (vr a0), some (vi a1), some (vi a2), some (vi a3), some (vi v2), none] [] μ Q) ∧ (¬ (mD μ (mR μ a0 4) a3) < 100 → ((0 : Int) ≤ a4 ∧ a4 < (mN μ (mR μ a0 4) : Int)) ∧ ((100 ≤ (mD μ (mR μ a0 4) a4) → mK μ (mR μ a0 4) = 20 ∧ ((0 : Int) ≤ a3 ∧ a3 < (mN μ (mR μ a0 4) : Int)) ∧ (∀ m1, m1 = sD μ (mR μ a0 4) a3 a2 → ((0 : Int) ≤ a4 ∧ a4 < (mN m1 (mR m1 a0 4) : Int)) ∧ (∀ m2, m2 = sD m1 (mR m1 a0 4) a4 a2 → ∃ (mc1 ms1 : Nat) (K1 : Int → Mem → Prop), Cl d mc1 ms1 mX10_wholly [vr a0, vi a1, vi 1] m2 (KI K1) ∧ mc1 ≤ bc ∧ ms1 ≤ bs ∧ (∀ x1 m3, K1 x1 m3 → (¬ x1 = 0 → mK m3 a0 = 11 ∧ (mK m3 (mR m3 a0 4) = 20 ∧ ((0 : Int) ≤ a3 ∧ a3 < (mN m3 (mR m3 a0 4) : Int)) ∧ (∀ m4, m4 = sD m3 (mR m3 a0 4) a3 100 → ((0 : Int) ≤ a4 ∧ a4 < (mN m4 (mR m4 a0 4) : Int)) ∧ (∀ m5, m5 = sD m4 (mR m4 a0 4) a4 100 → (¬ (0 : Int) = 0 → (∀ m6, m6 = sD m5 a0 14 0 → ∃ (mc2 ms2 : Nat) (K2 : Mem → Prop), Cl d mc2 ms2 mX10_tell [vr a0, vl a3] m6 (KV K2) ∧ mc2 ≤ bc - mc1 ∧ ms2 ≤ bs - ms1 ∧ (∀ m7, K2 m7 → mK m7 a0 = 11 ∧ ∃ (mc3 ms3 : Nat) (K3 : Mem → Prop), Cl d mc3 ms3 mX10_tell [vr a0, vl a4] m7 (KV K3) ∧ mc3 ≤ bc - mc1 - mc2 ∧ ms3 ≤ bs - ms1 - ms2 ∧ (∀ m8, K3 m8 → Q (some (some (vi 2))) m8)))) ∧ ((0 : Int) = 0 → ∀ v3, v3 = w32 (a4 + 1) → Wp (d + 1) (bc - mc1) (bs - ms1) mX10_few 141 [some (vr a0), some (vi a1), some (vi a2), some (vi a3), some (vi v3), none] [] m5 Q))))) ∧ (x1 = 0 → mK m3 a0 = 11 ∧ (mK m3 (mR m3 a0 4) = 20 ∧ ((0 : Int) ≤ a3 ∧ a3 < (mN m3 (mR m3 a0 4) : Int)) ∧ (∀ m9, m9 = sD m3 (mR m3 a0 4) a3 100 → ((0 : Int) ≤ a4 ∧ a4 < (mN m9 (mR m9 a0 4) : Int)) ∧ (∀ m10, m10 = sD m9 (mR m9 a0 4) a4 100 → (¬ (1 : Int) = 0 → (∀ m11, m11 = sD m10 a0 14 0 → ∃ (mc4 ms4 : Nat) (K4 : Mem → Prop), Cl d mc4 ms4 mX10_tell [vr a0, vl a3] m11 (KV K4) ∧ mc4 ≤ bc - mc1 ∧ ms4 ≤ bs - ms1 ∧ (∀ m12, K4 m12 → mK m12 a0 = 11 ∧ ∃ (mc5 ms5 : Nat) (K5 : Mem → Prop), Cl d mc5 ms5 mX10_tell [vr a0, vl a4] m12 (KV K5) ∧ mc5 ≤ bc - mc1 - mc4 ∧ ms5 ≤ bs - ms1 - ms4 ∧ (∀ m13, K5 m13 → Q (some (some (vi 2))) m13)))) ∧ ((1 : Int) = 0 → ∀ v4, v4 = w32 (a4 + 1) → Wp (d + 1) (bc - mc1) (bs - ms1) mX10_few 141 [some (vr a0), some (vi a1), some (vi a2), some (vi a3), some (vi v4), none] [] m10 Q))))))))) ∧ (¬ 100 ≤ (mD μ (mR μ a0 4) a4) → ∀ v5, v5 = w32 (a4 + 1) → Wp (d + 1) bc bs mX10_few 141 [some (vr a0), some (vi a1), some (vi a2), some (vi a3), some (vi v5), none] [] μ Q))))))) :
    Wp (d + 1) bc bs mX10_few 141 [some (vr a0), some (vi a1), some (vi a2), some (vi a3), some (vi a4), none] [] μ Q := by
  refine st_iload (pc := 141) dX10_few_141 rfl ?_
  refine st_aload_n (pc := 143) dX10_few_143 rfl rfl ?_
  obtain ⟨hk1, h⟩ := h
  refine sg_gfI (pc := 144) (J := 0) dX10_few_144 fl_10_9 (by decide) rfl hk1 ?_
  refine sg_iconst (pc := 147) dX10_few_147 (by omega) ?_
  refine st_isub (pc := 148) dX10_few_148 ?_
  refine st_icmpge (pc := 149) (tgt := 260) dX10_few_149 rfl (fun c => ?_) (fun c => ?_)
  · replace h := h.1 c
    refine sg_iinc (pc := 260) (ls' := [some (vr a0), some (vi a1), some (vi a2), some (vi (w32 (a3 + 1))), some (vi a4), none]) dX10_few_260 rfl rfl ?_
    refine Wp.nameL (ls2 := fun v => [some (vr a0), some (vi a1), some (vi a2), some (vi v), some (vi a4), none]) 3 _ rfl (fun _ => rfl) (fun v1 ev1 => ?_)
    replace h := h v1 ev1
    refine st_goto (pc := 263) dX10_few_263 rfl ?_
    refine Wp.drop 4 rfl ?_
    exact h
  · replace h := h.2 c
    refine st_aload_n (pc := 152) dX10_few_152 rfl rfl ?_
    refine sg_gfR (pc := 153) (J := 4) dX10_few_153 fl_10_23 rfl hk1 ?_
    refine st_iload_n (pc := 156) dX10_few_156 rfl rfl ?_
    obtain ⟨hk2, h⟩ := h
    obtain ⟨h1, h⟩ := h
    refine sg_iaload (pc := 157) dX10_few_157 hk2 h1 ?_
    refine sg_bipush (pc := 158) dX10_few_158 (by omega) (by decide) ?_
    refine st_icmplt (pc := 160) (tgt := 254) dX10_few_160 rfl (fun c => ?_) (fun c => ?_)
    · replace h := h.1 c
      refine sg_iinc (pc := 254) (ls' := [some (vr a0), some (vi a1), some (vi a2), some (vi a3), some (vi (w32 (a4 + 1))), none]) dX10_few_254 rfl rfl ?_
      refine Wp.nameL (ls2 := fun v => [some (vr a0), some (vi a1), some (vi a2), some (vi a3), some (vi v), none]) 4 _ rfl (fun _ => rfl) (fun v2 ev2 => ?_)
      replace h := h v2 ev2
      refine st_goto (pc := 257) dX10_few_257 rfl ?_
      exact h
    · replace h := h.2 c
      refine st_aload_n (pc := 163) dX10_few_163 rfl rfl ?_
      refine sg_gfR (pc := 164) (J := 4) dX10_few_164 fl_10_23 rfl hk1 ?_
      refine st_iload (pc := 167) dX10_few_167 rfl ?_
      obtain ⟨h1, h⟩ := h
      refine sg_iaload (pc := 169) dX10_few_169 hk2 h1 ?_
      refine sg_bipush (pc := 170) dX10_few_170 (by omega) (by decide) ?_
      refine st_icmpge (pc := 172) (tgt := 178) dX10_few_172 rfl (fun c => ?_) (fun c => ?_)
      · replace h := h.1 c
        refine st_aload_n (pc := 178) dX10_few_178 rfl rfl ?_
        refine sg_gfR (pc := 179) (J := 4) dX10_few_179 fl_10_23 rfl hk1 ?_
        refine st_iload_n (pc := 182) dX10_few_182 rfl rfl ?_
        refine st_iload_n (pc := 183) dX10_few_183 rfl rfl ?_
        obtain ⟨hk3, h⟩ := h
        obtain ⟨h1, h⟩ := h
        refine st_iastore (pc := 184) dX10_few_184 hk3 h1.1 h1.2 ?_
        refine Wp.nameM (fun m1 em1 => ?_)
        replace h := h m1 em1
        refine st_aload_n (pc := 185) dX10_few_185 rfl rfl ?_
        refine sg_gfR (pc := 186) (J := 4) dX10_few_186 fl_10_23 rfl (by cases em1; exact hk1) ?_
        refine st_iload (pc := 189) dX10_few_189 rfl ?_
        refine st_iload_n (pc := 191) dX10_few_191 rfl rfl ?_
        obtain ⟨h1, h⟩ := h
        refine st_iastore (pc := 192) dX10_few_192 (by cases em1; exact hk3) h1.1 h1.2 ?_
        refine Wp.nameM (fun m2 em2 => ?_)
        replace h := h m2 em2
        refine st_aload_n (pc := 193) dX10_few_193 rfl rfl ?_
        refine st_iload_n (pc := 194) dX10_few_194 rfl rfl ?_
        refine sg_iconst (pc := 195) dX10_few_195 (by omega) ?_
        obtain ⟨mc1, ms1, K1, hC, e1, e2, h⟩ := h
        refine sg_VI (pc := 196) (av := [vi a1, vi 1]) (st := []) (K := K1) dX10_few_196 ck_10_338 rfl (by decide) (by cases em2; cases em1; exact hk1) (by show (0 : Nat) ≤ 8; decide) hC e1 e2 (fun x1 m3 hK => ?_) rfl
        replace h := h x1 m3 hK
        refine st_ifne (pc := 199) (tgt := 206) dX10_few_199 rfl (fun c => ?_) (fun c => ?_)
        · replace h := h.1 c
          refine sg_iconst (pc := 206) dX10_few_206 (by omega) ?_
          refine sg_istore (pc := 207) (ls' := [some (vr a0), some (vi a1), some (vi a2), some (vi a3), some (vi a4), some (vi 0)]) dX10_few_207 (by show (5 : Nat) < 6; decide) rfl ?_
          refine st_aload_n (pc := 209) dX10_few_209 rfl rfl ?_
          obtain ⟨hk4, h⟩ := h
          refine sg_gfR (pc := 210) (J := 4) dX10_few_210 fl_10_23 rfl hk4 ?_
          refine st_iload_n (pc := 213) dX10_few_213 rfl rfl ?_
          refine sg_bipush (pc := 214) dX10_few_214 (by omega) (by decide) ?_
          obtain ⟨hk5, h⟩ := h
          obtain ⟨h1, h⟩ := h
          refine st_iastore (pc := 216) dX10_few_216 hk5 h1.1 h1.2 ?_
          refine Wp.nameM (fun m4 em4 => ?_)
          replace h := h m4 em4
          refine st_aload_n (pc := 217) dX10_few_217 rfl rfl ?_
          refine sg_gfR (pc := 218) (J := 4) dX10_few_218 fl_10_23 rfl (by cases em4; exact hk4) ?_
          refine st_iload (pc := 221) dX10_few_221 rfl ?_
          refine sg_bipush (pc := 223) dX10_few_223 (by omega) (by decide) ?_
          obtain ⟨h1, h⟩ := h
          refine st_iastore (pc := 225) dX10_few_225 (by cases em4; exact hk5) h1.1 h1.2 ?_
          refine Wp.nameM (fun m5 em5 => ?_)
          replace h := h m5 em5
          refine st_iload (pc := 226) dX10_few_226 rfl ?_
          refine st_ifne (pc := 228) (tgt := 234) dX10_few_228 rfl (fun c => ?_) (fun c => ?_)
          · replace h := h.1 c
            refine st_aload_n (pc := 234) dX10_few_234 rfl rfl ?_
            refine sg_iconst (pc := 235) dX10_few_235 (by omega) ?_
            refine sg_pfI (pc := 236) (J := 14) dX10_few_236 fl_10_145 rfl (Or.inl rfl) (by cases em5; cases em4; exact hk4) ?_
            refine Wp.nameM (fun m6 em6 => ?_)
            replace h := h m6 em6
            refine st_aload_n (pc := 239) dX10_few_239 rfl rfl ?_
            refine st_iload_n (pc := 240) dX10_few_240 rfl rfl ?_
            refine st_i2l (pc := 241) dX10_few_241 ?_
            obtain ⟨mc2, ms2, K2, hC, e1, e2, h⟩ := h
            refine sg_VV (pc := 242) (av := [vl a3]) (st := []) (K := K2) dX10_few_242 ck_10_252 rfl (by decide) (by cases em6; cases em5; cases em4; exact hk4) (by show (0 : Nat) ≤ 8; decide) hC e1 e2 (fun m7 hK => ?_) rfl
            replace h := h m7 hK
            refine st_aload_n (pc := 245) dX10_few_245 rfl rfl ?_
            refine st_iload (pc := 246) dX10_few_246 rfl ?_
            refine st_i2l (pc := 248) dX10_few_248 ?_
            obtain ⟨hk6, h⟩ := h
            obtain ⟨mc3, ms3, K3, hC, e1, e2, h⟩ := h
            refine sg_VV (pc := 249) (av := [vl a4]) (st := []) (K := K3) dX10_few_249 ck_10_252 rfl (by decide) hk6 (by show (0 : Nat) ≤ 8; decide) hC e1 e2 (fun m8 hK => ?_) rfl
            replace h := h m8 hK
            refine sg_iconst (pc := 252) dX10_few_252 (by omega) ?_
            exact st_ireturn (pc := 253) dX10_few_253 (Or.inl rfl) h
          · replace h := h.2 c
            refine st_goto (pc := 231) dX10_few_231 rfl ?_
            refine sg_iinc (pc := 254) (ls' := [some (vr a0), some (vi a1), some (vi a2), some (vi a3), some (vi (w32 (a4 + 1))), some (vi 0)]) dX10_few_254 rfl rfl ?_
            refine Wp.nameL (ls2 := fun v => [some (vr a0), some (vi a1), some (vi a2), some (vi a3), some (vi v), some (vi 0)]) 4 _ rfl (fun _ => rfl) (fun v3 ev3 => ?_)
            replace h := h v3 ev3
            refine st_goto (pc := 257) dX10_few_257 rfl ?_
            refine Wp.drop 5 rfl ?_
            exact h
        · replace h := h.2 c
          refine sg_iconst (pc := 202) dX10_few_202 (by omega) ?_
          refine st_goto (pc := 203) dX10_few_203 rfl ?_
          refine sg_istore (pc := 207) (ls' := [some (vr a0), some (vi a1), some (vi a2), some (vi a3), some (vi a4), some (vi 1)]) dX10_few_207 (by show (5 : Nat) < 6; decide) rfl ?_
          refine st_aload_n (pc := 209) dX10_few_209 rfl rfl ?_
          obtain ⟨hk7, h⟩ := h
          refine sg_gfR (pc := 210) (J := 4) dX10_few_210 fl_10_23 rfl hk7 ?_
          refine st_iload_n (pc := 213) dX10_few_213 rfl rfl ?_
          refine sg_bipush (pc := 214) dX10_few_214 (by omega) (by decide) ?_
          obtain ⟨hk8, h⟩ := h
          obtain ⟨h1, h⟩ := h
          refine st_iastore (pc := 216) dX10_few_216 hk8 h1.1 h1.2 ?_
          refine Wp.nameM (fun m9 em9 => ?_)
          replace h := h m9 em9
          refine st_aload_n (pc := 217) dX10_few_217 rfl rfl ?_
          refine sg_gfR (pc := 218) (J := 4) dX10_few_218 fl_10_23 rfl (by cases em9; exact hk7) ?_
          refine st_iload (pc := 221) dX10_few_221 rfl ?_
          refine sg_bipush (pc := 223) dX10_few_223 (by omega) (by decide) ?_
          obtain ⟨h1, h⟩ := h
          refine st_iastore (pc := 225) dX10_few_225 (by cases em9; exact hk8) h1.1 h1.2 ?_
          refine Wp.nameM (fun m10 em10 => ?_)
          replace h := h m10 em10
          refine st_iload (pc := 226) dX10_few_226 rfl ?_
          refine st_ifne (pc := 228) (tgt := 234) dX10_few_228 rfl (fun c => ?_) (fun c => ?_)
          · replace h := h.1 c
            refine st_aload_n (pc := 234) dX10_few_234 rfl rfl ?_
            refine sg_iconst (pc := 235) dX10_few_235 (by omega) ?_
            refine sg_pfI (pc := 236) (J := 14) dX10_few_236 fl_10_145 rfl (Or.inl rfl) (by cases em10; cases em9; exact hk7) ?_
            refine Wp.nameM (fun m11 em11 => ?_)
            replace h := h m11 em11
            refine st_aload_n (pc := 239) dX10_few_239 rfl rfl ?_
            refine st_iload_n (pc := 240) dX10_few_240 rfl rfl ?_
            refine st_i2l (pc := 241) dX10_few_241 ?_
            obtain ⟨mc4, ms4, K4, hC, e1, e2, h⟩ := h
            refine sg_VV (pc := 242) (av := [vl a3]) (st := []) (K := K4) dX10_few_242 ck_10_252 rfl (by decide) (by cases em11; cases em10; cases em9; exact hk7) (by show (0 : Nat) ≤ 8; decide) hC e1 e2 (fun m12 hK => ?_) rfl
            replace h := h m12 hK
            refine st_aload_n (pc := 245) dX10_few_245 rfl rfl ?_
            refine st_iload (pc := 246) dX10_few_246 rfl ?_
            refine st_i2l (pc := 248) dX10_few_248 ?_
            obtain ⟨hk9, h⟩ := h
            obtain ⟨mc5, ms5, K5, hC, e1, e2, h⟩ := h
            refine sg_VV (pc := 249) (av := [vl a4]) (st := []) (K := K5) dX10_few_249 ck_10_252 rfl (by decide) hk9 (by show (0 : Nat) ≤ 8; decide) hC e1 e2 (fun m13 hK => ?_) rfl
            replace h := h m13 hK
            refine sg_iconst (pc := 252) dX10_few_252 (by omega) ?_
            exact st_ireturn (pc := 253) dX10_few_253 (Or.inl rfl) h
          · replace h := h.2 c
            refine st_goto (pc := 231) dX10_few_231 rfl ?_
            refine sg_iinc (pc := 254) (ls' := [some (vr a0), some (vi a1), some (vi a2), some (vi a3), some (vi (w32 (a4 + 1))), some (vi 1)]) dX10_few_254 rfl rfl ?_
            refine Wp.nameL (ls2 := fun v => [some (vr a0), some (vi a1), some (vi a2), some (vi a3), some (vi v), some (vi 1)]) 4 _ rfl (fun _ => rfl) (fun v4 ev4 => ?_)
            replace h := h v4 ev4
            refine st_goto (pc := 257) dX10_few_257 rfl ?_
            refine Wp.drop 5 rfl ?_
            exact h
      · replace h := h.2 c
        refine st_goto (pc := 175) dX10_few_175 rfl ?_
        refine sg_iinc (pc := 254) (ls' := [some (vr a0), some (vi a1), some (vi a2), some (vi a3), some (vi (w32 (a4 + 1))), none]) dX10_few_254 rfl rfl ?_
        refine Wp.nameL (ls2 := fun v => [some (vr a0), some (vi a1), some (vi a2), some (vi a3), some (vi v), none]) 4 _ rfl (fun _ => rfl) (fun v5 ev5 => ?_)
        replace h := h v5 ev5
        refine st_goto (pc := 257) dX10_few_257 rfl ?_
        exact h

theorem sg_X10_best_0 {d bc bs : Nat} {a0 : Nat} {a1 : Int} {a2 : Int} {μ : Mem} {Q : Option (Option AV) → Mem → Prop}
    (h : mK μ a0 = 11 ∧ (∀ m1, m1 = sD μ a0 15 0 → ∃ (mc1 ms1 : Nat) (K1 : Int → Mem → Prop), Cl d mc1 ms1 mX10_isWalk [vi a1] m1 (KI K1) ∧ mc1 ≤ bc ∧ ms1 ≤ bs ∧ (∀ x1 m2, K1 x1 m2 → (x1 = 0 → Q (some (some (vi (-1)))) m2) ∧ (¬ x1 = 0 → mK m2 a0 = 11 ∧ ∃ (mc2 ms2 : Nat) (K2 : Int → Mem → Prop), Cl d mc2 ms2 mX10_isGap [vr a0, vi a2] m2 (KI K2) ∧ mc2 ≤ bc - mc1 ∧ ms2 ≤ bs - ms1 ∧ (∀ x2 m3, K2 x2 m3 → (¬ x2 = 0 → mK m3 a0 = 11 ∧ ((mK m3 (mR m3 a0 4) = 20 ∨ ((mR m3 a0 4) ≠ 0 ∧ mK m3 (mR m3 a0 4) = 40)) ∧ ((0 : Int) ≤ a2 ∧ a2 < (mN m3 (mR m3 a0 4) : Int)) ∧ (∀ v1, v1 = mD m3 (mR m3 a0 4) a2 → Wp (d + 1) (bc - mc1 - mc2) (bs - ms1 - ms2) mX10_best 39 [some (vr a0), some (vi a1), some (vi a2), some (vi v1), some (vi (-1)), some (vi 0), some (vi 100)] [] m3 Q))) ∧ (x2 = 0 → Q (some (some (vi (-1)))) m3)))))) :
    Wp (d + 1) bc bs mX10_best 0 [some (vr a0), some (vi a1), some (vi a2), none, none, none, none] [] μ Q := by
  refine st_aload_n (pc := 0) dX10_best_0 rfl rfl ?_
  refine sg_iconst (pc := 1) dX10_best_1 (by omega) ?_
  obtain ⟨hk1, h⟩ := h
  refine sg_pfI (pc := 2) (J := 15) dX10_best_2 fl_10_142 rfl (Or.inl rfl) hk1 ?_
  refine Wp.nameM (fun m1 em1 => ?_)
  replace h := h m1 em1
  refine st_iload_n (pc := 5) dX10_best_5 rfl rfl ?_
  obtain ⟨mc1, ms1, K1, hC, e1, e2, h⟩ := h
  refine sg_SI (pc := 6) (av := [vi a1]) (st := []) (K := K1) dX10_best_6 ck_10_245 rfl (by show (0 : Nat) ≤ 8; decide) hC e1 e2 (fun x1 m2 hK => ?_) rfl
  replace h := h x1 m2 hK
  refine st_ifeq (pc := 9) (tgt := 20) dX10_best_9 rfl (fun c => ?_) (fun c => ?_)
  · replace h := h.1 c
    refine sg_iconst (pc := 20) dX10_best_20 (by omega) ?_
    exact st_ireturn (pc := 21) dX10_best_21 (Or.inl rfl) h
  · replace h := h.2 c
    refine st_aload_n (pc := 12) dX10_best_12 rfl rfl ?_
    refine st_iload_n (pc := 13) dX10_best_13 rfl rfl ?_
    obtain ⟨hk2, h⟩ := h
    obtain ⟨mc2, ms2, K2, hC, e1, e2, h⟩ := h
    refine sg_VI (pc := 14) (av := [vi a2]) (st := []) (K := K2) dX10_best_14 ck_10_158 rfl (by decide) hk2 (by show (0 : Nat) ≤ 8; decide) hC e1 e2 (fun x2 m3 hK => ?_) rfl
    replace h := h x2 m3 hK
    refine st_ifne (pc := 17) (tgt := 22) dX10_best_17 rfl (fun c => ?_) (fun c => ?_)
    · replace h := h.1 c
      refine st_aload_n (pc := 22) dX10_best_22 rfl rfl ?_
      obtain ⟨hk3, h⟩ := h
      refine sg_gfR (pc := 23) (J := 4) dX10_best_23 fl_10_23 rfl hk3 ?_
      refine st_iload_n (pc := 26) dX10_best_26 rfl rfl ?_
      obtain ⟨hk4, h⟩ := h
      obtain ⟨h1, h⟩ := h
      refine sg_iaload (pc := 27) dX10_best_27 hk4 h1 ?_
      refine sg_istore_n (pc := 28) (ls' := [some (vr a0), some (vi a1), some (vi a2), some (vi (mD m3 (mR m3 a0 4) a2)), none, none, none]) dX10_best_28 rfl (by show (3 : Nat) < 7; decide) rfl ?_
      refine Wp.nameL (ls2 := fun v => [some (vr a0), some (vi a1), some (vi a2), some (vi v), none, none, none]) 3 _ rfl (fun _ => rfl) (fun v1 ev1 => ?_)
      replace h := h v1 ev1
      refine sg_iconst (pc := 29) dX10_best_29 (by omega) ?_
      refine sg_istore (pc := 30) (ls' := [some (vr a0), some (vi a1), some (vi a2), some (vi v1), some (vi (-1)), none, none]) dX10_best_30 (by show (4 : Nat) < 7; decide) rfl ?_
      refine sg_iconst (pc := 32) dX10_best_32 (by omega) ?_
      refine sg_istore (pc := 33) (ls' := [some (vr a0), some (vi a1), some (vi a2), some (vi v1), some (vi (-1)), some (vi 0), none]) dX10_best_33 (by show (5 : Nat) < 7; decide) rfl ?_
      refine sg_bipush (pc := 35) dX10_best_35 (by omega) (by decide) ?_
      refine sg_istore (pc := 37) (ls' := [some (vr a0), some (vi a1), some (vi a2), some (vi v1), some (vi (-1)), some (vi 0), some (vi 100)]) dX10_best_37 (by show (6 : Nat) < 7; decide) rfl ?_
      exact h
    · replace h := h.2 c
      refine sg_iconst (pc := 20) dX10_best_20 (by omega) ?_
      exact st_ireturn (pc := 21) dX10_best_21 (Or.inl rfl) h

theorem sg_X10_best_39 {d bc bs : Nat} {a0 : Nat} {a1 : Int} {a2 : Int} {a3 : Int} {a4 : Int} {a5 : Int} {a6 : Int} {μ : Mem} {Q : Option (Option AV) → Mem → Prop}
    (h : (a6 < 0 → mK μ a0 = 11 ∧ (mK μ (mR μ a0 4) = 20 ∧ ((0 : Int) ≤ a2 ∧ a2 < (mN μ (mR μ a0 4) : Int)) ∧ (∀ m1, m1 = sD μ (mR μ a0 4) a2 a3 → (∀ m2, m2 = sD m1 a0 14 0 → ∃ (mc1 ms1 : Nat) (K1 : Mem → Prop), Cl d mc1 ms1 mX10_tell [vr a0, vl a5] m2 (KV K1) ∧ mc1 ≤ bc ∧ ms1 ≤ bs ∧ (∀ m3, K1 m3 → Q (some (some (vi a4))) m3))))) ∧ (¬ a6 < 0 → mK μ a0 = 11 ∧ (mK μ (mR μ a0 4) = 20 ∧ ((0 : Int) ≤ a2 ∧ a2 < (mN μ (mR μ a0 4) : Int)) ∧ (∀ m4, m4 = sD μ (mR μ a0 4) a2 a6 → ∃ (mc2 ms2 : Nat) (K2 : Int → Mem → Prop), Cl d mc2 ms2 mX10_wholly [vr a0, vi a1, vi 1] m4 (KI K2) ∧ mc2 ≤ bc ∧ ms2 ≤ bs ∧ (∀ x1 m5, K2 x1 m5 → (a4 = (-1) → mK m5 a0 = 11 ∧ (∀ v1, v1 = mD m5 a0 42 → ∀ v2, v2 = w32 (a6 + (-1)) → Wp (d + 1) (bc - mc2) (bs - ms2) mX10_best 39 [some (vr a0), some (vi a1), some (vi a2), some (vi a3), some (vi a6), some (vi v1), some (vi v2)] [] m5 Q)) ∧ (¬ a4 = (-1) → mK m5 a0 = 11 ∧ (((mD m5 a0 42) < a5 → ∀ v3, v3 = mD m5 a0 42 → ∀ v4, v4 = w32 (a6 + (-1)) → Wp (d + 1) (bc - mc2) (bs - ms2) mX10_best 39 [some (vr a0), some (vi a1), some (vi a2), some (vi a3), some (vi a6), some (vi v3), some (vi v4)] [] m5 Q) ∧ (¬ (mD m5 a0 42) < a5 → ∀ v5, v5 = w32 (a6 + (-1)) → Wp (d + 1) (bc - mc2) (bs - ms2) mX10_best 39 [some (vr a0), some (vi a1), some (vi a2), some (vi a3), some (vi a4), some (vi a5), some (vi v5)] [] m5 Q)))))))) :
    Wp (d + 1) bc bs mX10_best 39 [some (vr a0), some (vi a1), some (vi a2), some (vi a3), some (vi a4), some (vi a5), some (vi a6)] [] μ Q := by
  refine st_iload (pc := 39) dX10_best_39 rfl ?_
  refine st_iflt (pc := 41) (tgt := 93) dX10_best_41 rfl (fun c => ?_) (fun c => ?_)
  · replace h := h.1 c
    refine st_aload_n (pc := 93) dX10_best_93 rfl rfl ?_
    obtain ⟨hk1, h⟩ := h
    refine sg_gfR (pc := 94) (J := 4) dX10_best_94 fl_10_23 rfl hk1 ?_
    refine st_iload_n (pc := 97) dX10_best_97 rfl rfl ?_
    refine st_iload_n (pc := 98) dX10_best_98 rfl rfl ?_
    obtain ⟨hk2, h⟩ := h
    obtain ⟨h1, h⟩ := h
    refine st_iastore (pc := 99) dX10_best_99 hk2 h1.1 h1.2 ?_
    refine Wp.nameM (fun m1 em1 => ?_)
    replace h := h m1 em1
    refine st_aload_n (pc := 100) dX10_best_100 rfl rfl ?_
    refine sg_iconst (pc := 101) dX10_best_101 (by omega) ?_
    refine sg_pfI (pc := 102) (J := 14) dX10_best_102 fl_10_145 rfl (Or.inl rfl) (by cases em1; exact hk1) ?_
    refine Wp.nameM (fun m2 em2 => ?_)
    replace h := h m2 em2
    refine st_aload_n (pc := 105) dX10_best_105 rfl rfl ?_
    refine st_iload (pc := 106) dX10_best_106 rfl ?_
    refine st_i2l (pc := 108) dX10_best_108 ?_
    obtain ⟨mc1, ms1, K1, hC, e1, e2, h⟩ := h
    refine sg_VV (pc := 109) (av := [vl a5]) (st := []) (K := K1) dX10_best_109 ck_10_252 rfl (by decide) (by cases em2; cases em1; exact hk1) (by show (0 : Nat) ≤ 8; decide) hC e1 e2 (fun m3 hK => ?_) rfl
    replace h := h m3 hK
    refine st_iload (pc := 112) dX10_best_112 rfl ?_
    exact st_ireturn (pc := 114) dX10_best_114 (Or.inl rfl) h
  · replace h := h.2 c
    refine st_aload_n (pc := 44) dX10_best_44 rfl rfl ?_
    obtain ⟨hk3, h⟩ := h
    refine sg_gfR (pc := 45) (J := 4) dX10_best_45 fl_10_23 rfl hk3 ?_
    refine st_iload_n (pc := 48) dX10_best_48 rfl rfl ?_
    refine st_iload (pc := 49) dX10_best_49 rfl ?_
    obtain ⟨hk4, h⟩ := h
    obtain ⟨h1, h⟩ := h
    refine st_iastore (pc := 51) dX10_best_51 hk4 h1.1 h1.2 ?_
    refine Wp.nameM (fun m4 em4 => ?_)
    replace h := h m4 em4
    refine st_aload_n (pc := 52) dX10_best_52 rfl rfl ?_
    refine st_iload_n (pc := 53) dX10_best_53 rfl rfl ?_
    refine sg_iconst (pc := 54) dX10_best_54 (by omega) ?_
    obtain ⟨mc2, ms2, K2, hC, e1, e2, h⟩ := h
    refine sg_VI (pc := 55) (av := [vi a1, vi 1]) (st := []) (K := K2) dX10_best_55 ck_10_338 rfl (by decide) (by cases em4; exact hk3) (by show (0 : Nat) ≤ 8; decide) hC e1 e2 (fun x1 m5 hK => ?_) rfl
    replace h := h x1 m5 hK
    refine st_pop (pc := 58) dX10_best_58 rfl ?_
    refine st_iload (pc := 59) dX10_best_59 rfl ?_
    refine sg_iconst (pc := 61) dX10_best_61 (by omega) ?_
    refine st_icmpeq (pc := 62) (tgt := 77) dX10_best_62 rfl (fun c => ?_) (fun c => ?_)
    · replace h := h.1 c
      refine st_iload (pc := 77) dX10_best_77 rfl ?_
      refine sg_istore (pc := 79) (ls' := [some (vr a0), some (vi a1), some (vi a2), some (vi a3), some (vi a6), some (vi a5), some (vi a6)]) dX10_best_79 (by show (4 : Nat) < 7; decide) rfl ?_
      refine st_aload_n (pc := 81) dX10_best_81 rfl rfl ?_
      obtain ⟨hk5, h⟩ := h
      refine sg_gfI (pc := 82) (J := 42) dX10_best_82 fl_10_297 (by decide) rfl hk5 ?_
      refine sg_istore (pc := 85) (ls' := [some (vr a0), some (vi a1), some (vi a2), some (vi a3), some (vi a6), some (vi (mD m5 a0 42)), some (vi a6)]) dX10_best_85 (by show (5 : Nat) < 7; decide) rfl ?_
      refine Wp.nameL (ls2 := fun v => [some (vr a0), some (vi a1), some (vi a2), some (vi a3), some (vi a6), some (vi v), some (vi a6)]) 5 _ rfl (fun _ => rfl) (fun v1 ev1 => ?_)
      replace h := h v1 ev1
      refine sg_iinc (pc := 87) (ls' := [some (vr a0), some (vi a1), some (vi a2), some (vi a3), some (vi a6), some (vi v1), some (vi (w32 (a6 + (-1))))]) dX10_best_87 rfl rfl ?_
      refine Wp.nameL (ls2 := fun v => [some (vr a0), some (vi a1), some (vi a2), some (vi a3), some (vi a6), some (vi v1), some (vi v)]) 6 _ rfl (fun _ => rfl) (fun v2 ev2 => ?_)
      replace h := h v2 ev2
      refine st_goto (pc := 90) dX10_best_90 rfl ?_
      exact h
    · replace h := h.2 c
      refine st_aload_n (pc := 65) dX10_best_65 rfl rfl ?_
      obtain ⟨hk6, h⟩ := h
      refine sg_gfI (pc := 66) (J := 42) dX10_best_66 fl_10_297 (by decide) rfl hk6 ?_
      refine st_iload (pc := 69) dX10_best_69 rfl ?_
      refine st_icmplt (pc := 71) (tgt := 77) dX10_best_71 rfl (fun c => ?_) (fun c => ?_)
      · replace h := h.1 c
        refine st_iload (pc := 77) dX10_best_77 rfl ?_
        refine sg_istore (pc := 79) (ls' := [some (vr a0), some (vi a1), some (vi a2), some (vi a3), some (vi a6), some (vi a5), some (vi a6)]) dX10_best_79 (by show (4 : Nat) < 7; decide) rfl ?_
        refine st_aload_n (pc := 81) dX10_best_81 rfl rfl ?_
        refine sg_gfI (pc := 82) (J := 42) dX10_best_82 fl_10_297 (by decide) rfl hk6 ?_
        refine sg_istore (pc := 85) (ls' := [some (vr a0), some (vi a1), some (vi a2), some (vi a3), some (vi a6), some (vi (mD m5 a0 42)), some (vi a6)]) dX10_best_85 (by show (5 : Nat) < 7; decide) rfl ?_
        refine Wp.nameL (ls2 := fun v => [some (vr a0), some (vi a1), some (vi a2), some (vi a3), some (vi a6), some (vi v), some (vi a6)]) 5 _ rfl (fun _ => rfl) (fun v3 ev3 => ?_)
        replace h := h v3 ev3
        refine sg_iinc (pc := 87) (ls' := [some (vr a0), some (vi a1), some (vi a2), some (vi a3), some (vi a6), some (vi v3), some (vi (w32 (a6 + (-1))))]) dX10_best_87 rfl rfl ?_
        refine Wp.nameL (ls2 := fun v => [some (vr a0), some (vi a1), some (vi a2), some (vi a3), some (vi a6), some (vi v3), some (vi v)]) 6 _ rfl (fun _ => rfl) (fun v4 ev4 => ?_)
        replace h := h v4 ev4
        refine st_goto (pc := 90) dX10_best_90 rfl ?_
        exact h
      · replace h := h.2 c
        refine st_goto (pc := 74) dX10_best_74 rfl ?_
        refine sg_iinc (pc := 87) (ls' := [some (vr a0), some (vi a1), some (vi a2), some (vi a3), some (vi a4), some (vi a5), some (vi (w32 (a6 + (-1))))]) dX10_best_87 rfl rfl ?_
        refine Wp.nameL (ls2 := fun v => [some (vr a0), some (vi a1), some (vi a2), some (vi a3), some (vi a4), some (vi a5), some (vi v)]) 6 _ rfl (fun _ => rfl) (fun v5 ev5 => ?_)
        replace h := h v5 ev5
        refine st_goto (pc := 90) dX10_best_90 rfl ?_
        exact h

theorem sg_X10_lid_0 {d bc bs : Nat} {a0 : Nat} {a1 : Int} {a2 : Int} {μ : Mem} {Q : Option (Option AV) → Mem → Prop}
    (h : mK μ a0 = 11 ∧ (∀ m1, m1 = sD μ a0 15 0 → ∃ (mc1 ms1 : Nat) (K1 : Int → Mem → Prop), Cl d mc1 ms1 mX10_isWalk [vi a1] m1 (KI K1) ∧ mc1 ≤ bc ∧ ms1 ≤ bs ∧ (∀ x1 m2, K1 x1 m2 → (x1 = 0 → Q (some (some (vi (-1)))) m2) ∧ (¬ x1 = 0 → ∃ (mc2 ms2 : Nat) (K2 : Int → Mem → Prop), Cl d mc2 ms2 mX10_in [vi a2, vi 0, vi 9999] m2 (KI K2) ∧ mc2 ≤ bc - mc1 ∧ ms2 ≤ bs - ms1 ∧ (∀ x2 m3, K2 x2 m3 → (x2 = 0 → Q (some (some (vi (-1)))) m3) ∧ (¬ x2 = 0 → mK m3 a0 = 11 ∧ ∃ (mc3 ms3 : Nat) (K3 : Int → Mem → Prop), Cl d mc3 ms3 mX10_leastOf [vr a0, vi 4, vi 100, vi a1, vi a2] m3 (KI K3) ∧ mc3 ≤ bc - mc1 - mc2 ∧ ms3 ≤ bs - ms1 - ms2 ∧ (∀ x3 m4, K3 x3 m4 → Q (some (some (vi x3))) m4))))))) :
    Wp (d + 1) bc bs mX10_lid 0 [some (vr a0), some (vi a1), some (vi a2)] [] μ Q := by
  refine st_aload_n (pc := 0) dX10_lid_0 rfl rfl ?_
  refine sg_iconst (pc := 1) dX10_lid_1 (by omega) ?_
  obtain ⟨hk1, h⟩ := h
  refine sg_pfI (pc := 2) (J := 15) dX10_lid_2 fl_10_142 rfl (Or.inl rfl) hk1 ?_
  refine Wp.nameM (fun m1 em1 => ?_)
  replace h := h m1 em1
  refine st_iload_n (pc := 5) dX10_lid_5 rfl rfl ?_
  obtain ⟨mc1, ms1, K1, hC, e1, e2, h⟩ := h
  refine sg_SI (pc := 6) (av := [vi a1]) (st := []) (K := K1) dX10_lid_6 ck_10_245 rfl (by show (0 : Nat) ≤ 8; decide) hC e1 e2 (fun x1 m2 hK => ?_) rfl
  replace h := h x1 m2 hK
  refine st_ifeq (pc := 9) (tgt := 35) dX10_lid_9 rfl (fun c => ?_) (fun c => ?_)
  · replace h := h.1 c
    refine sg_iconst (pc := 35) dX10_lid_35 (by omega) ?_
    exact st_ireturn (pc := 36) dX10_lid_36 (Or.inl rfl) h
  · replace h := h.2 c
    refine st_iload_n (pc := 12) dX10_lid_12 rfl rfl ?_
    refine sg_iconst (pc := 13) dX10_lid_13 (by omega) ?_
    refine sg_sipush (pc := 14) dX10_lid_14 (by omega) (by decide) ?_
    obtain ⟨mc2, ms2, K2, hC, e1, e2, h⟩ := h
    refine sg_SI (pc := 17) (av := [vi a2, vi 0, vi 9999]) (st := []) (K := K2) dX10_lid_17 ck_10_151 rfl (by show (0 : Nat) ≤ 8; decide) hC e1 e2 (fun x2 m3 hK => ?_) rfl
    replace h := h x2 m3 hK
    refine st_ifeq (pc := 20) (tgt := 35) dX10_lid_20 rfl (fun c => ?_) (fun c => ?_)
    · replace h := h.1 c
      refine sg_iconst (pc := 35) dX10_lid_35 (by omega) ?_
      exact st_ireturn (pc := 36) dX10_lid_36 (Or.inl rfl) h
    · replace h := h.2 c
      refine st_aload_n (pc := 23) dX10_lid_23 rfl rfl ?_
      refine sg_iconst (pc := 24) dX10_lid_24 (by omega) ?_
      refine sg_bipush (pc := 25) dX10_lid_25 (by omega) (by decide) ?_
      refine st_iload_n (pc := 27) dX10_lid_27 rfl rfl ?_
      refine st_iload_n (pc := 28) dX10_lid_28 rfl rfl ?_
      obtain ⟨hk2, h⟩ := h
      obtain ⟨mc3, ms3, K3, hC, e1, e2, h⟩ := h
      refine sg_VI (pc := 29) (av := [vi 4, vi 100, vi a1, vi a2]) (st := []) (K := K3) dX10_lid_29 ck_10_369 rfl (by decide) hk2 (by show (0 : Nat) ≤ 8; decide) hC e1 e2 (fun x3 m4 hK => ?_) rfl
      replace h := h x3 m4 hK
      refine st_goto (pc := 32) dX10_lid_32 rfl ?_
      exact st_ireturn (pc := 36) dX10_lid_36 (Or.inl rfl) h

theorem sg_X10_form_0 {d bc bs : Nat} {a0 : Nat} {a1 : Int} {μ : Mem} {Q : Option (Option AV) → Mem → Prop}
    (h : mK μ a0 = 11 ∧ (∀ m1, m1 = sD μ a0 15 0 → ∃ (mc1 ms1 : Nat) (K1 : Int → Mem → Prop), Cl d mc1 ms1 mX10_in [vi a1, vi 1, vi 15] m1 (KI K1) ∧ mc1 ≤ bc ∧ ms1 ≤ bs ∧ (∀ x1 m2, K1 x1 m2 → (¬ x1 = 0 → mK m2 a0 = 11 ∧ (∀ v1, v1 = mD m2 a0 0 → Wp (d + 1) (bc - mc1) (bs - ms1) mX10_form 24 [some (vr a0), some (vi a1), some (vi v1), some (vi 0), none, none, none] [] m2 Q)) ∧ (x1 = 0 → Q (some (some (vi (-1)))) m2)))) :
    Wp (d + 1) bc bs mX10_form 0 [some (vr a0), some (vi a1), none, none, none, none, none] [] μ Q := by
  refine st_aload_n (pc := 0) dX10_form_0 rfl rfl ?_
  refine sg_iconst (pc := 1) dX10_form_1 (by omega) ?_
  obtain ⟨hk1, h⟩ := h
  refine sg_pfI (pc := 2) (J := 15) dX10_form_2 fl_10_142 rfl (Or.inl rfl) hk1 ?_
  refine Wp.nameM (fun m1 em1 => ?_)
  replace h := h m1 em1
  refine st_iload_n (pc := 5) dX10_form_5 rfl rfl ?_
  refine sg_iconst (pc := 6) dX10_form_6 (by omega) ?_
  refine sg_bipush (pc := 7) dX10_form_7 (by omega) (by decide) ?_
  obtain ⟨mc1, ms1, K1, hC, e1, e2, h⟩ := h
  refine sg_SI (pc := 9) (av := [vi a1, vi 1, vi 15]) (st := []) (K := K1) dX10_form_9 ck_10_151 rfl (by show (0 : Nat) ≤ 8; decide) hC e1 e2 (fun x1 m2 hK => ?_) rfl
  replace h := h x1 m2 hK
  refine st_ifne (pc := 12) (tgt := 17) dX10_form_12 rfl (fun c => ?_) (fun c => ?_)
  · replace h := h.1 c
    refine st_aload_n (pc := 17) dX10_form_17 rfl rfl ?_
    obtain ⟨hk2, h⟩ := h
    refine sg_gfI (pc := 18) (J := 0) dX10_form_18 fl_10_9 (by decide) rfl hk2 ?_
    refine sg_istore_n (pc := 21) (ls' := [some (vr a0), some (vi a1), some (vi (mD m2 a0 0)), none, none, none, none]) dX10_form_21 rfl (by show (2 : Nat) < 7; decide) rfl ?_
    refine Wp.nameL (ls2 := fun v => [some (vr a0), some (vi a1), some (vi v), none, none, none, none]) 2 _ rfl (fun _ => rfl) (fun v1 ev1 => ?_)
    replace h := h v1 ev1
    refine sg_iconst (pc := 22) dX10_form_22 (by omega) ?_
    refine sg_istore_n (pc := 23) (ls' := [some (vr a0), some (vi a1), some (vi v1), some (vi 0), none, none, none]) dX10_form_23 rfl (by show (3 : Nat) < 7; decide) rfl ?_
    exact h
  · replace h := h.2 c
    refine sg_iconst (pc := 15) dX10_form_15 (by omega) ?_
    exact st_ireturn (pc := 16) dX10_form_16 (Or.inl rfl) h

theorem sg_X10_form_24 {d bc bs : Nat} {a0 : Nat} {a1 : Int} {a2 : Int} {a3 : Int} {μ : Mem} {Q : Option (Option AV) → Mem → Prop}
    (h : (20 ≤ a3 → Wp (d + 1) bc bs mX10_form 62 [some (vr a0), some (vi a1), some (vi a2), some (vi (-2)), some (vi 2), none, none] [] μ Q) ∧ (¬ 20 ≤ a3 → mK μ a0 = 11 ∧ ((mK μ (mR μ a0 4) = 20 ∨ ((mR μ a0 4) ≠ 0 ∧ mK μ (mR μ a0 4) = 40)) ∧ ((0 : Int) ≤ a3 ∧ a3 < (mN μ (mR μ a0 4) : Int)) ∧ (mK μ (mR μ a0 56) = 20 ∧ ((0 : Int) ≤ a3 ∧ a3 < (mN μ (mR μ a0 56) : Int)) ∧ (∀ m1, m1 = sD μ (mR μ a0 56) a3 (mD μ (mR μ a0 4) a3) → mK m1 (mR m1 a0 4) = 20 ∧ ((0 : Int) ≤ a3 ∧ a3 < (mN m1 (mR m1 a0 4) : Int)) ∧ (∀ m2, m2 = sD m1 (mR m1 a0 4) a3 100 → ∀ v1, v1 = w32 (a3 + 1) → Wp (d + 1) bc bs mX10_form 24 [some (vr a0), some (vi a1), some (vi a2), some (vi v1), none, none, none] [] m2 Q)))))) :
    Wp (d + 1) bc bs mX10_form 24 [some (vr a0), some (vi a1), some (vi a2), some (vi a3), none, none, none] [] μ Q := by
  refine st_iload_n (pc := 24) dX10_form_24 rfl rfl ?_
  refine sg_bipush (pc := 25) dX10_form_25 (by omega) (by decide) ?_
  refine st_icmpge (pc := 27) (tgt := 56) dX10_form_27 rfl (fun c => ?_) (fun c => ?_)
  · replace h := h.1 c
    refine sg_bipush (pc := 56) dX10_form_56 (by omega) (by decide) ?_
    refine sg_istore_n (pc := 58) (ls' := [some (vr a0), some (vi a1), some (vi a2), some (vi (-2)), none, none, none]) dX10_form_58 rfl (by show (3 : Nat) < 7; decide) rfl ?_
    refine sg_iconst (pc := 59) dX10_form_59 (by omega) ?_
    refine sg_istore (pc := 60) (ls' := [some (vr a0), some (vi a1), some (vi a2), some (vi (-2)), some (vi 2), none, none]) dX10_form_60 (by show (4 : Nat) < 7; decide) rfl ?_
    exact h
  · replace h := h.2 c
    refine st_aload_n (pc := 30) dX10_form_30 rfl rfl ?_
    obtain ⟨hk1, h⟩ := h
    refine sg_gfR (pc := 31) (J := 56) dX10_form_31 fl_10_114 rfl hk1 ?_
    refine st_iload_n (pc := 34) dX10_form_34 rfl rfl ?_
    refine st_aload_n (pc := 35) dX10_form_35 rfl rfl ?_
    refine sg_gfR (pc := 36) (J := 4) dX10_form_36 fl_10_23 rfl hk1 ?_
    refine st_iload_n (pc := 39) dX10_form_39 rfl rfl ?_
    obtain ⟨hk2, h⟩ := h
    obtain ⟨h1, h⟩ := h
    refine sg_iaload (pc := 40) dX10_form_40 hk2 h1 ?_
    obtain ⟨hk3, h⟩ := h
    obtain ⟨h1, h⟩ := h
    refine st_iastore (pc := 41) dX10_form_41 hk3 h1.1 h1.2 ?_
    refine Wp.nameM (fun m1 em1 => ?_)
    replace h := h m1 em1
    refine st_aload_n (pc := 42) dX10_form_42 rfl rfl ?_
    refine sg_gfR (pc := 43) (J := 4) dX10_form_43 fl_10_23 rfl (by cases em1; exact hk1) ?_
    refine st_iload_n (pc := 46) dX10_form_46 rfl rfl ?_
    refine sg_bipush (pc := 47) dX10_form_47 (by omega) (by decide) ?_
    obtain ⟨hk4, h⟩ := h
    obtain ⟨h1, h⟩ := h
    refine st_iastore (pc := 49) dX10_form_49 hk4 h1.1 h1.2 ?_
    refine Wp.nameM (fun m2 em2 => ?_)
    replace h := h m2 em2
    refine sg_iinc (pc := 50) (ls' := [some (vr a0), some (vi a1), some (vi a2), some (vi (w32 (a3 + 1))), none, none, none]) dX10_form_50 rfl rfl ?_
    refine Wp.nameL (ls2 := fun v => [some (vr a0), some (vi a1), some (vi a2), some (vi v), none, none, none]) 3 _ rfl (fun _ => rfl) (fun v1 ev1 => ?_)
    replace h := h v1 ev1
    refine st_goto (pc := 53) dX10_form_53 rfl ?_
    exact h

theorem sg_X10_form_62 {d bc bs : Nat} {a0 : Nat} {a1 : Int} {a2 : Int} {a3 : Int} {a4 : Int} {μ : Mem} {Q : Option (Option AV) → Mem → Prop}
    (h : (20 < a4 → Wp (d + 1) bc bs mX10_form 142 [some (vr a0), some (vi a1), some (vi a2), some (vi a3), some (vi a4), none, none] [] μ Q) ∧ (¬ 20 < a4 → (0 ≤ a3 → Wp (d + 1) bc bs mX10_form 142 [some (vr a0), some (vi a1), some (vi a2), some (vi a3), some (vi a4), none, none] [] μ Q) ∧ (¬ 0 ≤ a3 → mK μ a0 = 11 ∧ (∀ m1, m1 = sD μ a0 0 a4 → Wp (d + 1) bc bs mX10_form 85 [some (vr a0), some (vi a1), some (vi a2), some (vi a3), some (vi a4), some (vi 1), some (vi 0)] [] m1 Q)))) :
    Wp (d + 1) bc bs mX10_form 62 [some (vr a0), some (vi a1), some (vi a2), some (vi a3), some (vi a4), none, none] [] μ Q := by
  refine st_iload (pc := 62) dX10_form_62 rfl ?_
  refine sg_bipush (pc := 64) dX10_form_64 (by omega) (by decide) ?_
  refine st_icmpgt (pc := 66) (tgt := 142) dX10_form_66 rfl (fun c => ?_) (fun c => ?_)
  · replace h := h.1 c
    exact h
  · replace h := h.2 c
    refine st_iload_n (pc := 69) dX10_form_69 rfl rfl ?_
    refine st_ifge (pc := 70) (tgt := 142) dX10_form_70 rfl (fun c => ?_) (fun c => ?_)
    · replace h := h.1 c
      exact h
    · replace h := h.2 c
      refine st_aload_n (pc := 73) dX10_form_73 rfl rfl ?_
      refine st_iload (pc := 74) dX10_form_74 rfl ?_
      obtain ⟨hk1, h⟩ := h
      refine sg_pfI (pc := 76) (J := 0) dX10_form_76 fl_10_9 rfl (Or.inl rfl) hk1 ?_
      refine Wp.nameM (fun m1 em1 => ?_)
      replace h := h m1 em1
      refine sg_iconst (pc := 79) dX10_form_79 (by omega) ?_
      refine sg_istore (pc := 80) (ls' := [some (vr a0), some (vi a1), some (vi a2), some (vi a3), some (vi a4), some (vi 1), none]) dX10_form_80 (by show (5 : Nat) < 7; decide) rfl ?_
      refine sg_iconst (pc := 82) dX10_form_82 (by omega) ?_
      refine sg_istore (pc := 83) (ls' := [some (vr a0), some (vi a1), some (vi a2), some (vi a3), some (vi a4), some (vi 1), some (vi 0)]) dX10_form_83 (by show (6 : Nat) < 7; decide) rfl ?_
      exact h

theorem sg_X10_form_85 {d bc bs : Nat} {a0 : Nat} {a1 : Int} {a2 : Int} {a3 : Int} {a4 : Int} {a5 : Int} {a6 : Int} {μ : Mem} {Q : Option (Option AV) → Mem → Prop}
    (h : (4 ≤ a6 → Wp (d + 1) bc bs mX10_form 128 [some (vr a0), some (vi a1), some (vi a2), some (vi a3), some (vi a4), some (vi a5), some (vi a6)] [] μ Q) ∧ (¬ 4 ≤ a6 → (a5 = 0 → Wp (d + 1) bc bs mX10_form 128 [some (vr a0), some (vi a1), some (vi a2), some (vi a3), some (vi a4), some (vi a5), some (vi a6)] [] μ Q) ∧ (¬ a5 = 0 → ((bAnd (bShr a1 a6) 1) = 0 → ∀ v1, v1 = w32 (a6 + 1) → Wp (d + 1) bc bs mX10_form 85 [some (vr a0), some (vi a1), some (vi a2), some (vi a3), some (vi a4), some (vi 1), some (vi v1)] [] μ Q) ∧ (¬ (bAnd (bShr a1 a6) 1) = 0 → mK μ a0 = 11 ∧ ∃ (mc1 ms1 : Nat) (K1 : Int → Mem → Prop), Cl d mc1 ms1 mX10_wholly [vr a0, vi a6, vi 1] μ (KI K1) ∧ mc1 ≤ bc ∧ ms1 ≤ bs ∧ (∀ x1 m1, K1 x1 m1 → (¬ x1 = 0 → ∀ v2, v2 = w32 (a6 + 1) → Wp (d + 1) (bc - mc1) (bs - ms1) mX10_form 85 [some (vr a0), some (vi a1), some (vi a2), some (vi a3), some (vi a4), some (vi 0), some (vi v2)] [] m1 Q) ∧ (x1 = 0 → ∀ v3, v3 = w32 (a6 + 1) → Wp (d + 1) (bc - mc1) (bs - ms1) mX10_form 85 [some (vr a0), some (vi a1), some (vi a2), some (vi a3), some (vi a4), some (vi 1), some (vi v3)] [] m1 Q)))))) :
    Wp (d + 1) bc bs mX10_form 85 [some (vr a0), some (vi a1), some (vi a2), some (vi a3), some (vi a4), some (vi a5), some (vi a6)] [] μ Q := by
  refine st_iload (pc := 85) dX10_form_85 rfl ?_
  refine sg_iconst (pc := 87) dX10_form_87 (by omega) ?_
  refine st_icmpge (pc := 88) (tgt := 128) dX10_form_88 rfl (fun c => ?_) (fun c => ?_)
  · replace h := h.1 c
    exact h
  · replace h := h.2 c
    refine st_iload (pc := 91) dX10_form_91 rfl ?_
    refine st_ifeq (pc := 93) (tgt := 128) dX10_form_93 rfl (fun c => ?_) (fun c => ?_)
    · replace h := h.1 c
      exact h
    · replace h := h.2 c
      refine st_iload_n (pc := 96) dX10_form_96 rfl rfl ?_
      refine st_iload (pc := 97) dX10_form_97 rfl ?_
      refine st_ishr (pc := 99) dX10_form_99 ?_
      refine sg_iconst (pc := 100) dX10_form_100 (by omega) ?_
      refine st_iand (pc := 101) dX10_form_101 ?_
      refine st_ifeq (pc := 102) (tgt := 115) dX10_form_102 rfl (fun c => ?_) (fun c => ?_)
      · replace h := h.1 c
        refine sg_iconst (pc := 115) dX10_form_115 (by omega) ?_
        refine st_goto (pc := 116) dX10_form_116 rfl ?_
        refine sg_istore (pc := 120) (ls' := [some (vr a0), some (vi a1), some (vi a2), some (vi a3), some (vi a4), some (vi 1), some (vi a6)]) dX10_form_120 (by show (5 : Nat) < 7; decide) rfl ?_
        refine sg_iinc (pc := 122) (ls' := [some (vr a0), some (vi a1), some (vi a2), some (vi a3), some (vi a4), some (vi 1), some (vi (w32 (a6 + 1)))]) dX10_form_122 rfl rfl ?_
        refine Wp.nameL (ls2 := fun v => [some (vr a0), some (vi a1), some (vi a2), some (vi a3), some (vi a4), some (vi 1), some (vi v)]) 6 _ rfl (fun _ => rfl) (fun v1 ev1 => ?_)
        replace h := h v1 ev1
        refine st_goto (pc := 125) dX10_form_125 rfl ?_
        exact h
      · replace h := h.2 c
        refine st_aload_n (pc := 105) dX10_form_105 rfl rfl ?_
        refine st_iload (pc := 106) dX10_form_106 rfl ?_
        refine sg_iconst (pc := 108) dX10_form_108 (by omega) ?_
        obtain ⟨hk1, h⟩ := h
        obtain ⟨mc1, ms1, K1, hC, e1, e2, h⟩ := h
        refine sg_VI (pc := 109) (av := [vi a6, vi 1]) (st := []) (K := K1) dX10_form_109 ck_10_338 rfl (by decide) hk1 (by show (0 : Nat) ≤ 8; decide) hC e1 e2 (fun x1 m1 hK => ?_) rfl
        replace h := h x1 m1 hK
        refine st_ifne (pc := 112) (tgt := 119) dX10_form_112 rfl (fun c => ?_) (fun c => ?_)
        · replace h := h.1 c
          refine sg_iconst (pc := 119) dX10_form_119 (by omega) ?_
          refine sg_istore (pc := 120) (ls' := [some (vr a0), some (vi a1), some (vi a2), some (vi a3), some (vi a4), some (vi 0), some (vi a6)]) dX10_form_120 (by show (5 : Nat) < 7; decide) rfl ?_
          refine sg_iinc (pc := 122) (ls' := [some (vr a0), some (vi a1), some (vi a2), some (vi a3), some (vi a4), some (vi 0), some (vi (w32 (a6 + 1)))]) dX10_form_122 rfl rfl ?_
          refine Wp.nameL (ls2 := fun v => [some (vr a0), some (vi a1), some (vi a2), some (vi a3), some (vi a4), some (vi 0), some (vi v)]) 6 _ rfl (fun _ => rfl) (fun v2 ev2 => ?_)
          replace h := h v2 ev2
          refine st_goto (pc := 125) dX10_form_125 rfl ?_
          exact h
        · replace h := h.2 c
          refine sg_iconst (pc := 115) dX10_form_115 (by omega) ?_
          refine st_goto (pc := 116) dX10_form_116 rfl ?_
          refine sg_istore (pc := 120) (ls' := [some (vr a0), some (vi a1), some (vi a2), some (vi a3), some (vi a4), some (vi 1), some (vi a6)]) dX10_form_120 (by show (5 : Nat) < 7; decide) rfl ?_
          refine sg_iinc (pc := 122) (ls' := [some (vr a0), some (vi a1), some (vi a2), some (vi a3), some (vi a4), some (vi 1), some (vi (w32 (a6 + 1)))]) dX10_form_122 rfl rfl ?_
          refine Wp.nameL (ls2 := fun v => [some (vr a0), some (vi a1), some (vi a2), some (vi a3), some (vi a4), some (vi 1), some (vi v)]) 6 _ rfl (fun _ => rfl) (fun v3 ev3 => ?_)
          replace h := h v3 ev3
          refine st_goto (pc := 125) dX10_form_125 rfl ?_
          exact h

theorem sg_X10_form_128 {d bc bs : Nat} {a0 : Nat} {a1 : Int} {a2 : Int} {a3 : Int} {a4 : Int} {a5 : Int} {a6 : Int} {μ : Mem} {Q : Option (Option AV) → Mem → Prop}
    (h : (a5 = 0 → ∀ v1, v1 = w32 (a4 + 1) → Wp (d + 1) bc bs mX10_form 62 [some (vr a0), some (vi a1), some (vi a2), some (vi a3), some (vi v1), none, none] [] μ Q) ∧ (¬ a5 = 0 → ∀ v2, v2 = w32 (a4 + 1) → Wp (d + 1) bc bs mX10_form 62 [some (vr a0), some (vi a1), some (vi a2), some (vi a4), some (vi v2), none, none] [] μ Q)) :
    Wp (d + 1) bc bs mX10_form 128 [some (vr a0), some (vi a1), some (vi a2), some (vi a3), some (vi a4), some (vi a5), some (vi a6)] [] μ Q := by
  refine st_iload (pc := 128) dX10_form_128 rfl ?_
  refine st_ifeq (pc := 130) (tgt := 136) dX10_form_130 rfl (fun c => ?_) (fun c => ?_)
  · replace h := h.1 c
    refine sg_iinc (pc := 136) (ls' := [some (vr a0), some (vi a1), some (vi a2), some (vi a3), some (vi (w32 (a4 + 1))), some (vi a5), some (vi a6)]) dX10_form_136 rfl rfl ?_
    refine Wp.nameL (ls2 := fun v => [some (vr a0), some (vi a1), some (vi a2), some (vi a3), some (vi v), some (vi a5), some (vi a6)]) 4 _ rfl (fun _ => rfl) (fun v1 ev1 => ?_)
    replace h := h v1 ev1
    refine st_goto (pc := 139) dX10_form_139 rfl ?_
    refine Wp.drop 5 rfl ?_
    refine Wp.drop 6 rfl ?_
    exact h
  · replace h := h.2 c
    refine st_iload (pc := 133) dX10_form_133 rfl ?_
    refine sg_istore_n (pc := 135) (ls' := [some (vr a0), some (vi a1), some (vi a2), some (vi a4), some (vi a4), some (vi a5), some (vi a6)]) dX10_form_135 rfl (by show (3 : Nat) < 7; decide) rfl ?_
    refine sg_iinc (pc := 136) (ls' := [some (vr a0), some (vi a1), some (vi a2), some (vi a4), some (vi (w32 (a4 + 1))), some (vi a5), some (vi a6)]) dX10_form_136 rfl rfl ?_
    refine Wp.nameL (ls2 := fun v => [some (vr a0), some (vi a1), some (vi a2), some (vi a4), some (vi v), some (vi a5), some (vi a6)]) 4 _ rfl (fun _ => rfl) (fun v2 ev2 => ?_)
    replace h := h v2 ev2
    refine st_goto (pc := 139) dX10_form_139 rfl ?_
    refine Wp.drop 5 rfl ?_
    refine Wp.drop 6 rfl ?_
    exact h

theorem sg_X10_form_142 {d bc bs : Nat} {a0 : Nat} {a1 : Int} {a2 : Int} {a3 : Int} {a4 : Int} {μ : Mem} {Q : Option (Option AV) → Mem → Prop}
    (h : mK μ a0 = 11 ∧ (∀ m1, m1 = sD μ a0 0 a2 → Wp (d + 1) bc bs mX10_form 150 [some (vr a0), some (vi a1), some (vi a2), some (vi a3), some (vi 0), none, none] [] m1 Q)) :
    Wp (d + 1) bc bs mX10_form 142 [some (vr a0), some (vi a1), some (vi a2), some (vi a3), some (vi a4), none, none] [] μ Q := by
  refine st_aload_n (pc := 142) dX10_form_142 rfl rfl ?_
  refine st_iload_n (pc := 143) dX10_form_143 rfl rfl ?_
  obtain ⟨hk1, h⟩ := h
  refine sg_pfI (pc := 144) (J := 0) dX10_form_144 fl_10_9 rfl (Or.inl rfl) hk1 ?_
  refine Wp.nameM (fun m1 em1 => ?_)
  replace h := h m1 em1
  refine sg_iconst (pc := 147) dX10_form_147 (by omega) ?_
  refine sg_istore (pc := 148) (ls' := [some (vr a0), some (vi a1), some (vi a2), some (vi a3), some (vi 0), none, none]) dX10_form_148 (by show (4 : Nat) < 7; decide) rfl ?_
  exact h

theorem sg_X10_form_150 {d bc bs : Nat} {a0 : Nat} {a1 : Int} {a2 : Int} {a3 : Int} {a4 : Int} {μ : Mem} {Q : Option (Option AV) → Mem → Prop}
    (h : (20 ≤ a4 → Q (some (some (vi a3))) μ) ∧ (¬ 20 ≤ a4 → mK μ a0 = 11 ∧ ((mK μ (mR μ a0 56) = 20 ∨ ((mR μ a0 56) ≠ 0 ∧ mK μ (mR μ a0 56) = 40)) ∧ ((0 : Int) ≤ a4 ∧ a4 < (mN μ (mR μ a0 56) : Int)) ∧ (mK μ (mR μ a0 4) = 20 ∧ ((0 : Int) ≤ a4 ∧ a4 < (mN μ (mR μ a0 4) : Int)) ∧ (∀ m1, m1 = sD μ (mR μ a0 4) a4 (mD μ (mR μ a0 56) a4) → ∀ v1, v1 = w32 (a4 + 1) → Wp (d + 1) bc bs mX10_form 150 [some (vr a0), some (vi a1), some (vi a2), some (vi a3), some (vi v1), none, none] [] m1 Q))))) :
    Wp (d + 1) bc bs mX10_form 150 [some (vr a0), some (vi a1), some (vi a2), some (vi a3), some (vi a4), none, none] [] μ Q := by
  refine st_iload (pc := 150) dX10_form_150 rfl ?_
  refine sg_bipush (pc := 152) dX10_form_152 (by omega) (by decide) ?_
  refine st_icmpge (pc := 154) (tgt := 177) dX10_form_154 rfl (fun c => ?_) (fun c => ?_)
  · replace h := h.1 c
    refine st_iload_n (pc := 177) dX10_form_177 rfl rfl ?_
    exact st_ireturn (pc := 178) dX10_form_178 (Or.inl rfl) h
  · replace h := h.2 c
    refine st_aload_n (pc := 157) dX10_form_157 rfl rfl ?_
    obtain ⟨hk1, h⟩ := h
    refine sg_gfR (pc := 158) (J := 4) dX10_form_158 fl_10_23 rfl hk1 ?_
    refine st_iload (pc := 161) dX10_form_161 rfl ?_
    refine st_aload_n (pc := 163) dX10_form_163 rfl rfl ?_
    refine sg_gfR (pc := 164) (J := 56) dX10_form_164 fl_10_114 rfl hk1 ?_
    refine st_iload (pc := 167) dX10_form_167 rfl ?_
    obtain ⟨hk2, h⟩ := h
    obtain ⟨h1, h⟩ := h
    refine sg_iaload (pc := 169) dX10_form_169 hk2 h1 ?_
    obtain ⟨hk3, h⟩ := h
    obtain ⟨h1, h⟩ := h
    refine st_iastore (pc := 170) dX10_form_170 hk3 h1.1 h1.2 ?_
    refine Wp.nameM (fun m1 em1 => ?_)
    replace h := h m1 em1
    refine sg_iinc (pc := 171) (ls' := [some (vr a0), some (vi a1), some (vi a2), some (vi a3), some (vi (w32 (a4 + 1))), none, none]) dX10_form_171 rfl rfl ?_
    refine Wp.nameL (ls2 := fun v => [some (vr a0), some (vi a1), some (vi a2), some (vi a3), some (vi v), none, none]) 4 _ rfl (fun _ => rfl) (fun v1 ev1 => ?_)
    replace h := h v1 ev1
    refine st_goto (pc := 174) dX10_form_174 rfl ?_
    exact h

theorem sg_X10_withPause_0 {d bc bs : Nat} {a0 : Nat} {a1 : Int} {a2 : Int} {a3 : Int} {a4 : Int} {μ : Mem} {Q : Option (Option AV) → Mem → Prop}
    (h : mK μ a0 = 11 ∧ ∃ (mc1 ms1 : Nat) (K1 : Mem → Prop), Cl d mc1 ms1 mX10_putBy [vr a0, vi 3] μ (KV K1) ∧ mc1 ≤ bc ∧ ms1 ≤ bs ∧ (∀ m1, K1 m1 → mK m1 a0 = 11 ∧ ∃ (mc2 ms2 : Nat) (K2 : Mem → Prop), Cl d mc2 ms2 mX10_begin [vr a0] m1 (KV K2) ∧ mc2 ≤ bc - mc1 ∧ ms2 ≤ bs - ms1 ∧ (∀ m2, K2 m2 → mK m2 a0 = 11 ∧ (∀ m3, m3 = sD m2 a0 10 1 → ∃ (mc3 ms3 : Nat) (K3 : Mem → Prop), Cl d mc3 ms3 mX10_watch [vr a0] m3 (KV K3) ∧ mc3 ≤ bc - mc1 - mc2 ∧ ms3 ≤ bs - ms1 - ms2 ∧ (∀ m4, K3 m4 → mK m4 a0 = 11 ∧ ∃ (mc4 ms4 : Nat) (K4 : Int → Mem → Prop), Cl d mc4 ms4 mX10_goOn [vr a0, vi a1, vi 0, vi a3, vi a2] m4 (KI K4) ∧ mc4 ≤ bc - mc1 - mc2 - mc3 ∧ ms4 ≤ bs - ms1 - ms2 - ms3 ∧ (∀ x1 m5, K4 x1 m5 → Wp (d + 1) (bc - mc1 - mc2 - mc3 - mc4) (bs - ms1 - ms2 - ms3 - ms4) mX10_withPause 31 [some (vr a0), some (vi a1), some (vi a2), some (vi a3), some (vi a4), some (vi x1), some (vi 0)] [] m5 Q)))))) :
    Wp (d + 1) bc bs mX10_withPause 0 [some (vr a0), some (vi a1), some (vi a2), some (vi a3), some (vi a4), none, none] [] μ Q := by
  refine st_aload_n (pc := 0) dX10_withPause_0 rfl rfl ?_
  refine sg_iconst (pc := 1) dX10_withPause_1 (by omega) ?_
  obtain ⟨hk1, h⟩ := h
  obtain ⟨mc1, ms1, K1, hC, e1, e2, h⟩ := h
  refine sg_VV (pc := 2) (av := [vi 3]) (st := []) (K := K1) dX10_withPause_2 ck_10_326 rfl (by decide) hk1 (by show (0 : Nat) ≤ 8; decide) hC e1 e2 (fun m1 hK => ?_) rfl
  replace h := h m1 hK
  refine st_aload_n (pc := 5) dX10_withPause_5 rfl rfl ?_
  obtain ⟨hk2, h⟩ := h
  obtain ⟨mc2, ms2, K2, hC, e1, e2, h⟩ := h
  refine sg_VV (pc := 6) (av := []) (st := []) (K := K2) dX10_withPause_6 ck_10_139 rfl (by decide) hk2 (by show (0 : Nat) ≤ 8; decide) hC e1 e2 (fun m2 hK => ?_) rfl
  replace h := h m2 hK
  refine st_aload_n (pc := 9) dX10_withPause_9 rfl rfl ?_
  refine sg_iconst (pc := 10) dX10_withPause_10 (by omega) ?_
  obtain ⟨hk3, h⟩ := h
  refine sg_pfI (pc := 11) (J := 10) dX10_withPause_11 fl_10_38 rfl (Or.inl rfl) hk3 ?_
  refine Wp.nameM (fun m3 em3 => ?_)
  replace h := h m3 em3
  refine st_aload_n (pc := 14) dX10_withPause_14 rfl rfl ?_
  obtain ⟨mc3, ms3, K3, hC, e1, e2, h⟩ := h
  refine sg_VV (pc := 15) (av := []) (st := []) (K := K3) dX10_withPause_15 ck_10_310 rfl (by decide) (by cases em3; exact hk3) (by show (0 : Nat) ≤ 8; decide) hC e1 e2 (fun m4 hK => ?_) rfl
  replace h := h m4 hK
  refine st_aload_n (pc := 18) dX10_withPause_18 rfl rfl ?_
  refine st_iload_n (pc := 19) dX10_withPause_19 rfl rfl ?_
  refine sg_iconst (pc := 20) dX10_withPause_20 (by omega) ?_
  refine st_iload_n (pc := 21) dX10_withPause_21 rfl rfl ?_
  refine st_iload_n (pc := 22) dX10_withPause_22 rfl rfl ?_
  obtain ⟨hk4, h⟩ := h
  obtain ⟨mc4, ms4, K4, hC, e1, e2, h⟩ := h
  refine sg_VI (pc := 23) (av := [vi a1, vi 0, vi a3, vi a2]) (st := []) (K := K4) dX10_withPause_23 ck_10_313 rfl (by decide) hk4 (by show (0 : Nat) ≤ 8; decide) hC e1 e2 (fun x1 m5 hK => ?_) rfl
  replace h := h x1 m5 hK
  refine sg_istore (pc := 26) (ls' := [some (vr a0), some (vi a1), some (vi a2), some (vi a3), some (vi a4), some (vi x1), none]) dX10_withPause_26 (by show (5 : Nat) < 7; decide) rfl ?_
  refine sg_iconst (pc := 28) dX10_withPause_28 (by omega) ?_
  refine sg_istore (pc := 29) (ls' := [some (vr a0), some (vi a1), some (vi a2), some (vi a3), some (vi a4), some (vi x1), some (vi 0)]) dX10_withPause_29 (by show (6 : Nat) < 7; decide) rfl ?_
  exact h

theorem sg_X10_withPause_31 {d bc bs : Nat} {a0 : Nat} {a1 : Int} {a2 : Int} {a3 : Int} {a4 : Int} {a5 : Int} {a6 : Int} {μ : Mem} {Q : Option (Option AV) → Mem → Prop}
    (h : (a4 ≤ a6 → mK μ a0 = 11 ∧ ∃ (mc1 ms1 : Nat) (K1 : Int → Mem → Prop), Cl d mc1 ms1 mX10_goOn [vr a0, vi a1, vi a3, vi 1000, vi a2] μ (KI K1) ∧ mc1 ≤ bc ∧ ms1 ≤ bs ∧ (∀ x1 m1, K1 x1 m1 → ∀ v1, v1 = w32 (a5 + x1) → mK m1 a0 = 11 ∧ ∃ (mc2 ms2 : Nat) (K2 : Mem → Prop), Cl d mc2 ms2 mX10_bringBack [vr a0, vi 3] m1 (KV K2) ∧ mc2 ≤ bc - mc1 ∧ ms2 ≤ bs - ms1 ∧ (∀ m2, K2 m2 → Q (some (some (vi v1))) m2))) ∧ (¬ a4 ≤ a6 → mK μ a0 = 11 ∧ ∃ (mc3 ms3 : Nat) (K3 : Int → Mem → Prop), Cl d mc3 ms3 mX10_passWatched [vr a0, vi 0, vi 0, vi (-1)] μ (KI K3) ∧ mc3 ≤ bc ∧ ms3 ≤ bs ∧ (∀ x2 m3, K3 x2 m3 → ∀ v2, v2 = w32 (a5 + x2) → ∀ v3, v3 = w32 (a6 + 1) → Wp (d + 1) (bc - mc3) (bs - ms3) mX10_withPause 31 [some (vr a0), some (vi a1), some (vi a2), some (vi a3), some (vi a4), some (vi v2), some (vi v3)] [] m3 Q))) :
    Wp (d + 1) bc bs mX10_withPause 31 [some (vr a0), some (vi a1), some (vi a2), some (vi a3), some (vi a4), some (vi a5), some (vi a6)] [] μ Q := by
  refine st_iload (pc := 31) dX10_withPause_31 rfl ?_
  refine st_iload (pc := 33) dX10_withPause_33 rfl ?_
  refine st_icmpge (pc := 35) (tgt := 56) dX10_withPause_35 rfl (fun c => ?_) (fun c => ?_)
  · replace h := h.1 c
    refine st_iload (pc := 56) dX10_withPause_56 rfl ?_
    refine st_aload_n (pc := 58) dX10_withPause_58 rfl rfl ?_
    refine st_iload_n (pc := 59) dX10_withPause_59 rfl rfl ?_
    refine st_iload_n (pc := 60) dX10_withPause_60 rfl rfl ?_
    refine sg_sipush (pc := 61) dX10_withPause_61 (by omega) (by decide) ?_
    refine st_iload_n (pc := 64) dX10_withPause_64 rfl rfl ?_
    obtain ⟨hk1, h⟩ := h
    obtain ⟨mc1, ms1, K1, hC, e1, e2, h⟩ := h
    refine sg_VI (pc := 65) (av := [vi a1, vi a3, vi 1000, vi a2]) (st := [vi a5]) (K := K1) dX10_withPause_65 ck_10_313 rfl (by decide) hk1 (by show (1 : Nat) ≤ 8; decide) hC e1 e2 (fun x1 m1 hK => ?_) rfl
    replace h := h x1 m1 hK
    refine st_iadd (pc := 68) dX10_withPause_68 ?_
    refine sg_istore (pc := 69) (ls' := [some (vr a0), some (vi a1), some (vi a2), some (vi a3), some (vi a4), some (vi (w32 (a5 + x1))), some (vi a6)]) dX10_withPause_69 (by show (5 : Nat) < 7; decide) rfl ?_
    refine Wp.nameL (ls2 := fun v => [some (vr a0), some (vi a1), some (vi a2), some (vi a3), some (vi a4), some (vi v), some (vi a6)]) 5 _ rfl (fun _ => rfl) (fun v1 ev1 => ?_)
    replace h := h v1 ev1
    refine st_aload_n (pc := 71) dX10_withPause_71 rfl rfl ?_
    refine sg_iconst (pc := 72) dX10_withPause_72 (by omega) ?_
    obtain ⟨hk2, h⟩ := h
    obtain ⟨mc2, ms2, K2, hC, e1, e2, h⟩ := h
    refine sg_VV (pc := 73) (av := [vi 3]) (st := []) (K := K2) dX10_withPause_73 ck_10_329 rfl (by decide) hk2 (by show (0 : Nat) ≤ 8; decide) hC e1 e2 (fun m2 hK => ?_) rfl
    replace h := h m2 hK
    refine st_iload (pc := 76) dX10_withPause_76 rfl ?_
    exact st_ireturn (pc := 78) dX10_withPause_78 (Or.inl rfl) h
  · replace h := h.2 c
    refine st_iload (pc := 38) dX10_withPause_38 rfl ?_
    refine st_aload_n (pc := 40) dX10_withPause_40 rfl rfl ?_
    refine sg_iconst (pc := 41) dX10_withPause_41 (by omega) ?_
    refine sg_iconst (pc := 42) dX10_withPause_42 (by omega) ?_
    refine sg_iconst (pc := 43) dX10_withPause_43 (by omega) ?_
    obtain ⟨hk3, h⟩ := h
    obtain ⟨mc3, ms3, K3, hC, e1, e2, h⟩ := h
    refine sg_VI (pc := 44) (av := [vi 0, vi 0, vi (-1)]) (st := [vi a5]) (K := K3) dX10_withPause_44 ck_10_306 rfl (by decide) hk3 (by show (1 : Nat) ≤ 8; decide) hC e1 e2 (fun x2 m3 hK => ?_) rfl
    replace h := h x2 m3 hK
    refine st_iadd (pc := 47) dX10_withPause_47 ?_
    refine sg_istore (pc := 48) (ls' := [some (vr a0), some (vi a1), some (vi a2), some (vi a3), some (vi a4), some (vi (w32 (a5 + x2))), some (vi a6)]) dX10_withPause_48 (by show (5 : Nat) < 7; decide) rfl ?_
    refine Wp.nameL (ls2 := fun v => [some (vr a0), some (vi a1), some (vi a2), some (vi a3), some (vi a4), some (vi v), some (vi a6)]) 5 _ rfl (fun _ => rfl) (fun v2 ev2 => ?_)
    replace h := h v2 ev2
    refine sg_iinc (pc := 50) (ls' := [some (vr a0), some (vi a1), some (vi a2), some (vi a3), some (vi a4), some (vi v2), some (vi (w32 (a6 + 1)))]) dX10_withPause_50 rfl rfl ?_
    refine Wp.nameL (ls2 := fun v => [some (vr a0), some (vi a1), some (vi a2), some (vi a3), some (vi a4), some (vi v2), some (vi v)]) 6 _ rfl (fun _ => rfl) (fun v3 ev3 => ?_)
    replace h := h v3 ev3
    refine st_goto (pc := 53) dX10_withPause_53 rfl ?_
    exact h

theorem sg_X10_turn_0 {d bc bs : Nat} {a0 : Nat} {a1 : Int} {a2 : Int} {μ : Mem} {Q : Option (Option AV) → Mem → Prop}
    (h : mK μ a0 = 11 ∧ (∀ m1, m1 = sD μ a0 15 0 → ∃ (mc1 ms1 : Nat) (K1 : Int → Mem → Prop), Cl d mc1 ms1 mX10_isWalk [vi a1] m1 (KI K1) ∧ mc1 ≤ bc ∧ ms1 ≤ bs ∧ (∀ x1 m2, K1 x1 m2 → (x1 = 0 → Q (some (some (vi (-1)))) m2) ∧ (¬ x1 = 0 → ∃ (mc2 ms2 : Nat) (K2 : Int → Mem → Prop), Cl d mc2 ms2 mX10_in [vi a2, vi 0, vi 1000] m2 (KI K2) ∧ mc2 ≤ bc - mc1 ∧ ms2 ≤ bs - ms1 ∧ (∀ x2 m3, K2 x2 m3 → (¬ x2 = 0 → mK m3 a0 = 11 ∧ ∃ (mc3 ms3 : Nat) (K3 : Int → Mem → Prop), Cl d mc3 ms3 mX10_withPause [vr a0, vi a1, vi a2, vi 0, vi 0] m3 (KI K3) ∧ mc3 ≤ bc - mc1 - mc2 ∧ ms3 ≤ bs - ms1 - ms2 ∧ (∀ x3 m4, K3 x3 m4 → mK m4 a0 = 11 ∧ (∀ m5, m5 = sD m4 a0 14 0 → ∃ (mc4 ms4 : Nat) (K4 : Int → Mem → Prop), Cl d mc4 ms4 mX10_wholly [vr a0, vi a1, vi 1] m5 (KI K4) ∧ mc4 ≤ bc - mc1 - mc2 - mc3 ∧ ms4 ≤ bs - ms1 - ms2 - ms3 ∧ (∀ x4 m6, K4 x4 m6 → mK m6 a0 = 11 ∧ ∃ (mc5 ms5 : Nat) (K5 : Mem → Prop), Cl d mc5 ms5 mX10_tell [vr a0, vl x4] m6 (KV K5) ∧ mc5 ≤ bc - mc1 - mc2 - mc3 - mc4 ∧ ms5 ≤ bs - ms1 - ms2 - ms3 - ms4 ∧ (∀ m7, K5 m7 → Q (some (some (vi x3))) m7))))) ∧ (x2 = 0 → Q (some (some (vi (-1)))) m3)))))) :
    Wp (d + 1) bc bs mX10_turn 0 [some (vr a0), some (vi a1), some (vi a2), none] [] μ Q := by
  refine st_aload_n (pc := 0) dX10_turn_0 rfl rfl ?_
  refine sg_iconst (pc := 1) dX10_turn_1 (by omega) ?_
  obtain ⟨hk1, h⟩ := h
  refine sg_pfI (pc := 2) (J := 15) dX10_turn_2 fl_10_142 rfl (Or.inl rfl) hk1 ?_
  refine Wp.nameM (fun m1 em1 => ?_)
  replace h := h m1 em1
  refine st_iload_n (pc := 5) dX10_turn_5 rfl rfl ?_
  obtain ⟨mc1, ms1, K1, hC, e1, e2, h⟩ := h
  refine sg_SI (pc := 6) (av := [vi a1]) (st := []) (K := K1) dX10_turn_6 ck_10_245 rfl (by show (0 : Nat) ≤ 8; decide) hC e1 e2 (fun x1 m2 hK => ?_) rfl
  replace h := h x1 m2 hK
  refine st_ifeq (pc := 9) (tgt := 23) dX10_turn_9 rfl (fun c => ?_) (fun c => ?_)
  · replace h := h.1 c
    refine sg_iconst (pc := 23) dX10_turn_23 (by omega) ?_
    exact st_ireturn (pc := 24) dX10_turn_24 (Or.inl rfl) h
  · replace h := h.2 c
    refine st_iload_n (pc := 12) dX10_turn_12 rfl rfl ?_
    refine sg_iconst (pc := 13) dX10_turn_13 (by omega) ?_
    refine sg_sipush (pc := 14) dX10_turn_14 (by omega) (by decide) ?_
    obtain ⟨mc2, ms2, K2, hC, e1, e2, h⟩ := h
    refine sg_SI (pc := 17) (av := [vi a2, vi 0, vi 1000]) (st := []) (K := K2) dX10_turn_17 ck_10_151 rfl (by show (0 : Nat) ≤ 8; decide) hC e1 e2 (fun x2 m3 hK => ?_) rfl
    replace h := h x2 m3 hK
    refine st_ifne (pc := 20) (tgt := 25) dX10_turn_20 rfl (fun c => ?_) (fun c => ?_)
    · replace h := h.1 c
      refine st_aload_n (pc := 25) dX10_turn_25 rfl rfl ?_
      refine st_iload_n (pc := 26) dX10_turn_26 rfl rfl ?_
      refine st_iload_n (pc := 27) dX10_turn_27 rfl rfl ?_
      refine sg_iconst (pc := 28) dX10_turn_28 (by omega) ?_
      refine sg_iconst (pc := 29) dX10_turn_29 (by omega) ?_
      obtain ⟨hk2, h⟩ := h
      obtain ⟨mc3, ms3, K3, hC, e1, e2, h⟩ := h
      refine sg_VI (pc := 30) (av := [vi a1, vi a2, vi 0, vi 0]) (st := []) (K := K3) dX10_turn_30 ck_10_375 rfl (by decide) hk2 (by show (0 : Nat) ≤ 8; decide) hC e1 e2 (fun x3 m4 hK => ?_) rfl
      replace h := h x3 m4 hK
      refine sg_istore_n (pc := 33) (ls' := [some (vr a0), some (vi a1), some (vi a2), some (vi x3)]) dX10_turn_33 rfl (by show (3 : Nat) < 4; decide) rfl ?_
      refine st_aload_n (pc := 34) dX10_turn_34 rfl rfl ?_
      refine sg_iconst (pc := 35) dX10_turn_35 (by omega) ?_
      obtain ⟨hk3, h⟩ := h
      refine sg_pfI (pc := 36) (J := 14) dX10_turn_36 fl_10_145 rfl (Or.inl rfl) hk3 ?_
      refine Wp.nameM (fun m5 em5 => ?_)
      replace h := h m5 em5
      refine st_aload_n (pc := 39) dX10_turn_39 rfl rfl ?_
      refine st_aload_n (pc := 40) dX10_turn_40 rfl rfl ?_
      refine st_iload_n (pc := 41) dX10_turn_41 rfl rfl ?_
      refine sg_iconst (pc := 42) dX10_turn_42 (by omega) ?_
      obtain ⟨mc4, ms4, K4, hC, e1, e2, h⟩ := h
      refine sg_VI (pc := 43) (av := [vi a1, vi 1]) (st := [vr a0]) (K := K4) dX10_turn_43 ck_10_338 rfl (by decide) (by cases em5; exact hk3) (by show (1 : Nat) ≤ 8; decide) hC e1 e2 (fun x4 m6 hK => ?_) rfl
      replace h := h x4 m6 hK
      refine st_i2l (pc := 46) dX10_turn_46 ?_
      obtain ⟨hk4, h⟩ := h
      obtain ⟨mc5, ms5, K5, hC, e1, e2, h⟩ := h
      refine sg_VV (pc := 47) (av := [vl x4]) (st := []) (K := K5) dX10_turn_47 ck_10_252 rfl (by decide) hk4 (by show (0 : Nat) ≤ 8; decide) hC e1 e2 (fun m7 hK => ?_) rfl
      replace h := h m7 hK
      refine st_iload_n (pc := 50) dX10_turn_50 rfl rfl ?_
      exact st_ireturn (pc := 51) dX10_turn_51 (Or.inl rfl) h
    · replace h := h.2 c
      refine sg_iconst (pc := 23) dX10_turn_23 (by omega) ?_
      exact st_ireturn (pc := 24) dX10_turn_24 (Or.inl rfl) h

theorem sg_X10_door_0 {d bc bs : Nat} {a0 : Nat} {a1 : Int} {μ : Mem} {Q : Option (Option AV) → Mem → Prop}
    (h : mK μ a0 = 11 ∧ (∀ m1, m1 = sD μ a0 15 0 → ∃ (mc1 ms1 : Nat) (K1 : Int → Mem → Prop), Cl d mc1 ms1 mX10_isWalk [vi a1] m1 (KI K1) ∧ mc1 ≤ bc ∧ ms1 ≤ bs ∧ (∀ x1 m2, K1 x1 m2 → (¬ x1 = 0 → mK m2 a0 = 11 ∧ ((mK m2 (mR m2 a0 22) = 20 ∨ ((mR m2 a0 22) ≠ 0 ∧ mK m2 (mR m2 a0 22) = 40)) ∧ ((0 : Int) ≤ a1 ∧ a1 < (mN m2 (mR m2 a0 22) : Int)) ∧ (∀ v1, v1 = mD m2 (mR m2 a0 22) a1 → Wp (d + 1) (bc - mc1) (bs - ms1) mX10_door 29 [some (vr a0), some (vi a1), some (vi v1), some (vi (-1)), some (vi 0), some (vi 0), none, none] [] m2 Q))) ∧ (x1 = 0 → Q (some (some (vi (-1)))) m2)))) :
    Wp (d + 1) bc bs mX10_door 0 [some (vr a0), some (vi a1), none, none, none, none, none, none] [] μ Q := by
  refine st_aload_n (pc := 0) dX10_door_0 rfl rfl ?_
  refine sg_iconst (pc := 1) dX10_door_1 (by omega) ?_
  obtain ⟨hk1, h⟩ := h
  refine sg_pfI (pc := 2) (J := 15) dX10_door_2 fl_10_142 rfl (Or.inl rfl) hk1 ?_
  refine Wp.nameM (fun m1 em1 => ?_)
  replace h := h m1 em1
  refine st_iload_n (pc := 5) dX10_door_5 rfl rfl ?_
  obtain ⟨mc1, ms1, K1, hC, e1, e2, h⟩ := h
  refine sg_SI (pc := 6) (av := [vi a1]) (st := []) (K := K1) dX10_door_6 ck_10_245 rfl (by show (0 : Nat) ≤ 8; decide) hC e1 e2 (fun x1 m2 hK => ?_) rfl
  replace h := h x1 m2 hK
  refine st_ifne (pc := 9) (tgt := 14) dX10_door_9 rfl (fun c => ?_) (fun c => ?_)
  · replace h := h.1 c
    refine st_aload_n (pc := 14) dX10_door_14 rfl rfl ?_
    obtain ⟨hk2, h⟩ := h
    refine sg_gfR (pc := 15) (J := 22) dX10_door_15 fl_10_49 rfl hk2 ?_
    refine st_iload_n (pc := 18) dX10_door_18 rfl rfl ?_
    obtain ⟨hk3, h⟩ := h
    obtain ⟨h1, h⟩ := h
    refine sg_iaload (pc := 19) dX10_door_19 hk3 h1 ?_
    refine sg_istore_n (pc := 20) (ls' := [some (vr a0), some (vi a1), some (vi (mD m2 (mR m2 a0 22) a1)), none, none, none, none, none]) dX10_door_20 rfl (by show (2 : Nat) < 8; decide) rfl ?_
    refine Wp.nameL (ls2 := fun v => [some (vr a0), some (vi a1), some (vi v), none, none, none, none, none]) 2 _ rfl (fun _ => rfl) (fun v1 ev1 => ?_)
    replace h := h v1 ev1
    refine sg_iconst (pc := 21) dX10_door_21 (by omega) ?_
    refine sg_istore_n (pc := 22) (ls' := [some (vr a0), some (vi a1), some (vi v1), some (vi (-1)), none, none, none, none]) dX10_door_22 rfl (by show (3 : Nat) < 8; decide) rfl ?_
    refine sg_iconst (pc := 23) dX10_door_23 (by omega) ?_
    refine sg_istore (pc := 24) (ls' := [some (vr a0), some (vi a1), some (vi v1), some (vi (-1)), some (vi 0), none, none, none]) dX10_door_24 (by show (4 : Nat) < 8; decide) rfl ?_
    refine sg_iconst (pc := 26) dX10_door_26 (by omega) ?_
    refine sg_istore (pc := 27) (ls' := [some (vr a0), some (vi a1), some (vi v1), some (vi (-1)), some (vi 0), some (vi 0), none, none]) dX10_door_27 (by show (5 : Nat) < 8; decide) rfl ?_
    exact h
  · replace h := h.2 c
    refine sg_iconst (pc := 12) dX10_door_12 (by omega) ?_
    exact st_ireturn (pc := 13) dX10_door_13 (Or.inl rfl) h

theorem sg_X10_door_29 {d bc bs : Nat} {a0 : Nat} {a1 : Int} {a2 : Int} {a3 : Int} {a4 : Int} {a5 : Int} {μ : Mem} {Q : Option (Option AV) → Mem → Prop}
    (h : ((w32 (a2 + 10)) ≤ a5 → mK μ a0 = 11 ∧ (∀ m1, m1 = sD μ a0 14 0 → ∃ (mc1 ms1 : Nat) (K1 : Mem → Prop), Cl d mc1 ms1 mX10_tell [vr a0, vl a4] m1 (KV K1) ∧ mc1 ≤ bc ∧ ms1 ≤ bs ∧ (∀ m2, K1 m2 → Q (some (some (vi a3))) m2))) ∧ (¬ (w32 (a2 + 10)) ≤ a5 → ∃ (mc2 ms2 : Nat) (K2 : Int → Mem → Prop), Cl d mc2 ms2 mJ9_min_7cf53 [vi a5, vi a2] μ (KI K2) ∧ mc2 ≤ bc ∧ ms2 ≤ bs ∧ (∀ x1 m3, K2 x1 m3 → mK m3 a0 = 11 ∧ ∃ (mc3 ms3 : Nat) (K3 : Int → Mem → Prop), Cl d mc3 ms3 mX10_withPause [vr a0, vi a1, vi x1, vi 0, vi 0] m3 (KI K3) ∧ mc3 ≤ bc - mc2 ∧ ms3 ≤ bs - ms2 ∧ (∀ x2 m4, K3 x2 m4 → (a3 = (-1) → ∀ v1, v1 = w32 (a5 + 10) → Wp (d + 1) (bc - mc2 - mc3) (bs - ms2 - ms3) mX10_door 29 [some (vr a0), some (vi a1), some (vi a2), some (vi x1), some (vi x2), some (vi v1), none, none] [] m4 Q) ∧ (¬ a3 = (-1) → (x2 < a4 → ∀ v2, v2 = w32 (a5 + 10) → Wp (d + 1) (bc - mc2 - mc3) (bs - ms2 - ms3) mX10_door 29 [some (vr a0), some (vi a1), some (vi a2), some (vi x1), some (vi x2), some (vi v2), none, none] [] m4 Q) ∧ (¬ x2 < a4 → ∀ v3, v3 = w32 (a5 + 10) → Wp (d + 1) (bc - mc2 - mc3) (bs - ms2 - ms3) mX10_door 29 [some (vr a0), some (vi a1), some (vi a2), some (vi a3), some (vi a4), some (vi v3), none, none] [] m4 Q)))))) :
    Wp (d + 1) bc bs mX10_door 29 [some (vr a0), some (vi a1), some (vi a2), some (vi a3), some (vi a4), some (vi a5), none, none] [] μ Q := by
  refine st_iload (pc := 29) dX10_door_29 rfl ?_
  refine st_iload_n (pc := 31) dX10_door_31 rfl rfl ?_
  refine sg_bipush (pc := 32) dX10_door_32 (by omega) (by decide) ?_
  refine st_iadd (pc := 34) dX10_door_34 ?_
  refine st_icmpge (pc := 35) (tgt := 85) dX10_door_35 rfl (fun c => ?_) (fun c => ?_)
  · replace h := h.1 c
    refine st_aload_n (pc := 85) dX10_door_85 rfl rfl ?_
    refine sg_iconst (pc := 86) dX10_door_86 (by omega) ?_
    obtain ⟨hk1, h⟩ := h
    refine sg_pfI (pc := 87) (J := 14) dX10_door_87 fl_10_145 rfl (Or.inl rfl) hk1 ?_
    refine Wp.nameM (fun m1 em1 => ?_)
    replace h := h m1 em1
    refine st_aload_n (pc := 90) dX10_door_90 rfl rfl ?_
    refine st_iload (pc := 91) dX10_door_91 rfl ?_
    refine st_i2l (pc := 93) dX10_door_93 ?_
    obtain ⟨mc1, ms1, K1, hC, e1, e2, h⟩ := h
    refine sg_VV (pc := 94) (av := [vl a4]) (st := []) (K := K1) dX10_door_94 ck_10_252 rfl (by decide) (by cases em1; exact hk1) (by show (0 : Nat) ≤ 8; decide) hC e1 e2 (fun m2 hK => ?_) rfl
    replace h := h m2 hK
    refine st_iload_n (pc := 97) dX10_door_97 rfl rfl ?_
    exact st_ireturn (pc := 98) dX10_door_98 (Or.inl rfl) h
  · replace h := h.2 c
    refine st_iload (pc := 38) dX10_door_38 rfl ?_
    refine st_iload_n (pc := 40) dX10_door_40 rfl rfl ?_
    obtain ⟨mc2, ms2, K2, hC, e1, e2, h⟩ := h
    refine sg_SI (pc := 41) (av := [vi a5, vi a2]) (st := []) (K := K2) dX10_door_41 ck_10_162 rfl (by show (0 : Nat) ≤ 8; decide) hC e1 e2 (fun x1 m3 hK => ?_) rfl
    replace h := h x1 m3 hK
    refine sg_istore (pc := 44) (ls' := [some (vr a0), some (vi a1), some (vi a2), some (vi a3), some (vi a4), some (vi a5), some (vi x1), none]) dX10_door_44 (by show (6 : Nat) < 8; decide) rfl ?_
    refine st_aload_n (pc := 46) dX10_door_46 rfl rfl ?_
    refine st_iload_n (pc := 47) dX10_door_47 rfl rfl ?_
    refine st_iload (pc := 48) dX10_door_48 rfl ?_
    refine sg_iconst (pc := 50) dX10_door_50 (by omega) ?_
    refine sg_iconst (pc := 51) dX10_door_51 (by omega) ?_
    obtain ⟨hk2, h⟩ := h
    obtain ⟨mc3, ms3, K3, hC, e1, e2, h⟩ := h
    refine sg_VI (pc := 52) (av := [vi a1, vi x1, vi 0, vi 0]) (st := []) (K := K3) dX10_door_52 ck_10_375 rfl (by decide) hk2 (by show (0 : Nat) ≤ 8; decide) hC e1 e2 (fun x2 m4 hK => ?_) rfl
    replace h := h x2 m4 hK
    refine sg_istore (pc := 55) (ls' := [some (vr a0), some (vi a1), some (vi a2), some (vi a3), some (vi a4), some (vi a5), some (vi x1), some (vi x2)]) dX10_door_55 (by show (7 : Nat) < 8; decide) rfl ?_
    refine st_iload_n (pc := 57) dX10_door_57 rfl rfl ?_
    refine sg_iconst (pc := 58) dX10_door_58 (by omega) ?_
    refine st_icmpeq (pc := 59) (tgt := 72) dX10_door_59 rfl (fun c => ?_) (fun c => ?_)
    · replace h := h.1 c
      refine st_iload (pc := 72) dX10_door_72 rfl ?_
      refine sg_istore_n (pc := 74) (ls' := [some (vr a0), some (vi a1), some (vi a2), some (vi x1), some (vi a4), some (vi a5), some (vi x1), some (vi x2)]) dX10_door_74 rfl (by show (3 : Nat) < 8; decide) rfl ?_
      refine st_iload (pc := 75) dX10_door_75 rfl ?_
      refine sg_istore (pc := 77) (ls' := [some (vr a0), some (vi a1), some (vi a2), some (vi x1), some (vi x2), some (vi a5), some (vi x1), some (vi x2)]) dX10_door_77 (by show (4 : Nat) < 8; decide) rfl ?_
      refine sg_iinc (pc := 79) (ls' := [some (vr a0), some (vi a1), some (vi a2), some (vi x1), some (vi x2), some (vi (w32 (a5 + 10))), some (vi x1), some (vi x2)]) dX10_door_79 rfl rfl ?_
      refine Wp.nameL (ls2 := fun v => [some (vr a0), some (vi a1), some (vi a2), some (vi x1), some (vi x2), some (vi v), some (vi x1), some (vi x2)]) 5 _ rfl (fun _ => rfl) (fun v1 ev1 => ?_)
      replace h := h v1 ev1
      refine st_goto (pc := 82) dX10_door_82 rfl ?_
      refine Wp.drop 6 rfl ?_
      refine Wp.drop 7 rfl ?_
      exact h
    · replace h := h.2 c
      refine st_iload (pc := 62) dX10_door_62 rfl ?_
      refine st_iload (pc := 64) dX10_door_64 rfl ?_
      refine st_icmplt (pc := 66) (tgt := 72) dX10_door_66 rfl (fun c => ?_) (fun c => ?_)
      · replace h := h.1 c
        refine st_iload (pc := 72) dX10_door_72 rfl ?_
        refine sg_istore_n (pc := 74) (ls' := [some (vr a0), some (vi a1), some (vi a2), some (vi x1), some (vi a4), some (vi a5), some (vi x1), some (vi x2)]) dX10_door_74 rfl (by show (3 : Nat) < 8; decide) rfl ?_
        refine st_iload (pc := 75) dX10_door_75 rfl ?_
        refine sg_istore (pc := 77) (ls' := [some (vr a0), some (vi a1), some (vi a2), some (vi x1), some (vi x2), some (vi a5), some (vi x1), some (vi x2)]) dX10_door_77 (by show (4 : Nat) < 8; decide) rfl ?_
        refine sg_iinc (pc := 79) (ls' := [some (vr a0), some (vi a1), some (vi a2), some (vi x1), some (vi x2), some (vi (w32 (a5 + 10))), some (vi x1), some (vi x2)]) dX10_door_79 rfl rfl ?_
        refine Wp.nameL (ls2 := fun v => [some (vr a0), some (vi a1), some (vi a2), some (vi x1), some (vi x2), some (vi v), some (vi x1), some (vi x2)]) 5 _ rfl (fun _ => rfl) (fun v2 ev2 => ?_)
        replace h := h v2 ev2
        refine st_goto (pc := 82) dX10_door_82 rfl ?_
        refine Wp.drop 6 rfl ?_
        refine Wp.drop 7 rfl ?_
        exact h
      · replace h := h.2 c
        refine st_goto (pc := 69) dX10_door_69 rfl ?_
        refine sg_iinc (pc := 79) (ls' := [some (vr a0), some (vi a1), some (vi a2), some (vi a3), some (vi a4), some (vi (w32 (a5 + 10))), some (vi x1), some (vi x2)]) dX10_door_79 rfl rfl ?_
        refine Wp.nameL (ls2 := fun v => [some (vr a0), some (vi a1), some (vi a2), some (vi a3), some (vi a4), some (vi v), some (vi x1), some (vi x2)]) 5 _ rfl (fun _ => rfl) (fun v3 ev3 => ?_)
        replace h := h v3 ev3
        refine st_goto (pc := 82) dX10_door_82 rfl ?_
        refine Wp.drop 6 rfl ?_
        refine Wp.drop 7 rfl ?_
        exact h

theorem sg_X10_two_0 {d bc bs : Nat} {a0 : Nat} {a1 : Int} {μ : Mem} {Q : Option (Option AV) → Mem → Prop}
    (h : mK μ a0 = 11 ∧ (∀ m1, m1 = sD μ a0 15 0 → ∃ (mc1 ms1 : Nat) (K1 : Int → Mem → Prop), Cl d mc1 ms1 mX10_isWalk [vi a1] m1 (KI K1) ∧ mc1 ≤ bc ∧ ms1 ≤ bs ∧ (∀ x1 m2, K1 x1 m2 → (¬ x1 = 0 → mK m2 a0 = 11 ∧ ∃ (mc2 ms2 : Nat) (K2 : Int → Mem → Prop), Cl d mc2 ms2 mX10_wholly [vr a0, vi a1, vi 1] m2 (KI K2) ∧ mc2 ≤ bc - mc1 ∧ ms2 ≤ bs - ms1 ∧ (∀ x2 m3, K2 x2 m3 → Wp (d + 1) (bc - mc1 - mc2) (bs - ms1 - ms2) mX10_two 29 [some (vr a0), some (vi a1), some (vi x2), some (vi (-1)), some (vi 0), some (vi 0), none] [] m3 Q)) ∧ (x1 = 0 → Q (some (some (vi (-1)))) m2)))) :
    Wp (d + 1) bc bs mX10_two 0 [some (vr a0), some (vi a1), none, none, none, none, none] [] μ Q := by
  refine st_aload_n (pc := 0) dX10_two_0 rfl rfl ?_
  refine sg_iconst (pc := 1) dX10_two_1 (by omega) ?_
  obtain ⟨hk1, h⟩ := h
  refine sg_pfI (pc := 2) (J := 15) dX10_two_2 fl_10_142 rfl (Or.inl rfl) hk1 ?_
  refine Wp.nameM (fun m1 em1 => ?_)
  replace h := h m1 em1
  refine st_iload_n (pc := 5) dX10_two_5 rfl rfl ?_
  obtain ⟨mc1, ms1, K1, hC, e1, e2, h⟩ := h
  refine sg_SI (pc := 6) (av := [vi a1]) (st := []) (K := K1) dX10_two_6 ck_10_245 rfl (by show (0 : Nat) ≤ 8; decide) hC e1 e2 (fun x1 m2 hK => ?_) rfl
  replace h := h x1 m2 hK
  refine st_ifne (pc := 9) (tgt := 14) dX10_two_9 rfl (fun c => ?_) (fun c => ?_)
  · replace h := h.1 c
    refine st_aload_n (pc := 14) dX10_two_14 rfl rfl ?_
    refine st_iload_n (pc := 15) dX10_two_15 rfl rfl ?_
    refine sg_iconst (pc := 16) dX10_two_16 (by omega) ?_
    obtain ⟨hk2, h⟩ := h
    obtain ⟨mc2, ms2, K2, hC, e1, e2, h⟩ := h
    refine sg_VI (pc := 17) (av := [vi a1, vi 1]) (st := []) (K := K2) dX10_two_17 ck_10_338 rfl (by decide) hk2 (by show (0 : Nat) ≤ 8; decide) hC e1 e2 (fun x2 m3 hK => ?_) rfl
    replace h := h x2 m3 hK
    refine sg_istore_n (pc := 20) (ls' := [some (vr a0), some (vi a1), some (vi x2), none, none, none, none]) dX10_two_20 rfl (by show (2 : Nat) < 7; decide) rfl ?_
    refine sg_iconst (pc := 21) dX10_two_21 (by omega) ?_
    refine sg_istore_n (pc := 22) (ls' := [some (vr a0), some (vi a1), some (vi x2), some (vi (-1)), none, none, none]) dX10_two_22 rfl (by show (3 : Nat) < 7; decide) rfl ?_
    refine sg_iconst (pc := 23) dX10_two_23 (by omega) ?_
    refine sg_istore (pc := 24) (ls' := [some (vr a0), some (vi a1), some (vi x2), some (vi (-1)), some (vi 0), none, none]) dX10_two_24 (by show (4 : Nat) < 7; decide) rfl ?_
    refine sg_iconst (pc := 26) dX10_two_26 (by omega) ?_
    refine sg_istore (pc := 27) (ls' := [some (vr a0), some (vi a1), some (vi x2), some (vi (-1)), some (vi 0), some (vi 0), none]) dX10_two_27 (by show (5 : Nat) < 7; decide) rfl ?_
    exact h
  · replace h := h.2 c
    refine sg_iconst (pc := 12) dX10_two_12 (by omega) ?_
    exact st_ireturn (pc := 13) dX10_two_13 (Or.inl rfl) h

theorem sg_X10_two_29 {d bc bs : Nat} {a0 : Nat} {a1 : Int} {a2 : Int} {a3 : Int} {a4 : Int} {a5 : Int} {μ : Mem} {Q : Option (Option AV) → Mem → Prop}
    (h : (40 < a5 → mK μ a0 = 11 ∧ (∀ m1, m1 = sD μ a0 14 0 → ∃ (mc1 ms1 : Nat) (K1 : Mem → Prop), Cl d mc1 ms1 mX10_tell [vr a0, vl a2] m1 (KV K1) ∧ mc1 ≤ bc ∧ ms1 ≤ bs ∧ (∀ m2, K1 m2 → mK m2 a0 = 11 ∧ ∃ (mc2 ms2 : Nat) (K2 : Mem → Prop), Cl d mc2 ms2 mX10_tell [vr a0, vl a4] m2 (KV K2) ∧ mc2 ≤ bc - mc1 ∧ ms2 ≤ bs - ms1 ∧ (∀ m3, K2 m3 → Q (some (some (vi a3))) m3)))) ∧ (¬ 40 < a5 → mK μ a0 = 11 ∧ ∃ (mc3 ms3 : Nat) (K3 : Mem → Prop), Cl d mc3 ms3 mX10_putBy [vr a0, vi 3] μ (KV K3) ∧ mc3 ≤ bc ∧ ms3 ≤ bs ∧ (∀ m4, K3 m4 → mK m4 a0 = 11 ∧ ∃ (mc4 ms4 : Nat) (K4 : Mem → Prop), Cl d mc4 ms4 mX10_begin [vr a0] m4 (KV K4) ∧ mc4 ≤ bc - mc3 ∧ ms4 ≤ bs - ms3 ∧ (∀ m5, K4 m5 → mK m5 a0 = 11 ∧ (∀ m6, m6 = sD m5 a0 10 1 → ∃ (mc5 ms5 : Nat) (K5 : Mem → Prop), Cl d mc5 ms5 mX10_watch [vr a0] m6 (KV K5) ∧ mc5 ≤ bc - mc3 - mc4 ∧ ms5 ≤ bs - ms3 - ms4 ∧ (∀ m7, K5 m7 → mK m7 a0 = 11 ∧ ∃ (mc6 ms6 : Nat) (K6 : Int → Mem → Prop), Cl d mc6 ms6 mX10_goOn [vr a0, vi a1, vi a5, vi 1000, vi 1001] m7 (KI K6) ∧ mc6 ≤ bc - mc3 - mc4 - mc5 ∧ ms6 ≤ bs - ms3 - ms4 - ms5 ∧ (∀ x1 m8, K6 x1 m8 → mK m8 a0 = 11 ∧ ∃ (mc7 ms7 : Nat) (K7 : Mem → Prop), Cl d mc7 ms7 mX10_bringBack [vr a0, vi 3] m8 (KV K7) ∧ mc7 ≤ bc - mc3 - mc4 - mc5 - mc6 ∧ ms7 ≤ bs - ms3 - ms4 - ms5 - ms6 ∧ (∀ m9, K7 m9 → (a3 = (-1) → ∀ v1, v1 = w32 (a5 + 1) → Wp (d + 1) (bc - mc3 - mc4 - mc5 - mc6 - mc7) (bs - ms3 - ms4 - ms5 - ms6 - ms7) mX10_two 29 [some (vr a0), some (vi a1), some (vi a2), some (vi a5), some (vi x1), some (vi v1), none] [] m9 Q) ∧ (¬ a3 = (-1) → (x1 < a4 → ∀ v2, v2 = w32 (a5 + 1) → Wp (d + 1) (bc - mc3 - mc4 - mc5 - mc6 - mc7) (bs - ms3 - ms4 - ms5 - ms6 - ms7) mX10_two 29 [some (vr a0), some (vi a1), some (vi a2), some (vi a5), some (vi x1), some (vi v2), none] [] m9 Q) ∧ (¬ x1 < a4 → ∀ v3, v3 = w32 (a5 + 1) → Wp (d + 1) (bc - mc3 - mc4 - mc5 - mc6 - mc7) (bs - ms3 - ms4 - ms5 - ms6 - ms7) mX10_two 29 [some (vr a0), some (vi a1), some (vi a2), some (vi a3), some (vi a4), some (vi v3), none] [] m9 Q)))))))))) :
    Wp (d + 1) bc bs mX10_two 29 [some (vr a0), some (vi a1), some (vi a2), some (vi a3), some (vi a4), some (vi a5), none] [] μ Q := by
  refine st_iload (pc := 29) dX10_two_29 rfl ?_
  refine sg_bipush (pc := 31) dX10_two_31 (by omega) (by decide) ?_
  refine st_icmpgt (pc := 33) (tgt := 102) dX10_two_33 rfl (fun c => ?_) (fun c => ?_)
  · replace h := h.1 c
    refine st_aload_n (pc := 102) dX10_two_102 rfl rfl ?_
    refine sg_iconst (pc := 103) dX10_two_103 (by omega) ?_
    obtain ⟨hk1, h⟩ := h
    refine sg_pfI (pc := 104) (J := 14) dX10_two_104 fl_10_145 rfl (Or.inl rfl) hk1 ?_
    refine Wp.nameM (fun m1 em1 => ?_)
    replace h := h m1 em1
    refine st_aload_n (pc := 107) dX10_two_107 rfl rfl ?_
    refine st_iload_n (pc := 108) dX10_two_108 rfl rfl ?_
    refine st_i2l (pc := 109) dX10_two_109 ?_
    obtain ⟨mc1, ms1, K1, hC, e1, e2, h⟩ := h
    refine sg_VV (pc := 110) (av := [vl a2]) (st := []) (K := K1) dX10_two_110 ck_10_252 rfl (by decide) (by cases em1; exact hk1) (by show (0 : Nat) ≤ 8; decide) hC e1 e2 (fun m2 hK => ?_) rfl
    replace h := h m2 hK
    refine st_aload_n (pc := 113) dX10_two_113 rfl rfl ?_
    refine st_iload (pc := 114) dX10_two_114 rfl ?_
    refine st_i2l (pc := 116) dX10_two_116 ?_
    obtain ⟨hk2, h⟩ := h
    obtain ⟨mc2, ms2, K2, hC, e1, e2, h⟩ := h
    refine sg_VV (pc := 117) (av := [vl a4]) (st := []) (K := K2) dX10_two_117 ck_10_252 rfl (by decide) hk2 (by show (0 : Nat) ≤ 8; decide) hC e1 e2 (fun m3 hK => ?_) rfl
    replace h := h m3 hK
    refine st_iload_n (pc := 120) dX10_two_120 rfl rfl ?_
    exact st_ireturn (pc := 121) dX10_two_121 (Or.inl rfl) h
  · replace h := h.2 c
    refine st_aload_n (pc := 36) dX10_two_36 rfl rfl ?_
    refine sg_iconst (pc := 37) dX10_two_37 (by omega) ?_
    obtain ⟨hk3, h⟩ := h
    obtain ⟨mc3, ms3, K3, hC, e1, e2, h⟩ := h
    refine sg_VV (pc := 38) (av := [vi 3]) (st := []) (K := K3) dX10_two_38 ck_10_326 rfl (by decide) hk3 (by show (0 : Nat) ≤ 8; decide) hC e1 e2 (fun m4 hK => ?_) rfl
    replace h := h m4 hK
    refine st_aload_n (pc := 41) dX10_two_41 rfl rfl ?_
    obtain ⟨hk4, h⟩ := h
    obtain ⟨mc4, ms4, K4, hC, e1, e2, h⟩ := h
    refine sg_VV (pc := 42) (av := []) (st := []) (K := K4) dX10_two_42 ck_10_139 rfl (by decide) hk4 (by show (0 : Nat) ≤ 8; decide) hC e1 e2 (fun m5 hK => ?_) rfl
    replace h := h m5 hK
    refine st_aload_n (pc := 45) dX10_two_45 rfl rfl ?_
    refine sg_iconst (pc := 46) dX10_two_46 (by omega) ?_
    obtain ⟨hk5, h⟩ := h
    refine sg_pfI (pc := 47) (J := 10) dX10_two_47 fl_10_38 rfl (Or.inl rfl) hk5 ?_
    refine Wp.nameM (fun m6 em6 => ?_)
    replace h := h m6 em6
    refine st_aload_n (pc := 50) dX10_two_50 rfl rfl ?_
    obtain ⟨mc5, ms5, K5, hC, e1, e2, h⟩ := h
    refine sg_VV (pc := 51) (av := []) (st := []) (K := K5) dX10_two_51 ck_10_310 rfl (by decide) (by cases em6; exact hk5) (by show (0 : Nat) ≤ 8; decide) hC e1 e2 (fun m7 hK => ?_) rfl
    replace h := h m7 hK
    refine st_aload_n (pc := 54) dX10_two_54 rfl rfl ?_
    refine st_iload_n (pc := 55) dX10_two_55 rfl rfl ?_
    refine st_iload (pc := 56) dX10_two_56 rfl ?_
    refine sg_sipush (pc := 58) dX10_two_58 (by omega) (by decide) ?_
    refine sg_sipush (pc := 61) dX10_two_61 (by omega) (by decide) ?_
    obtain ⟨hk6, h⟩ := h
    obtain ⟨mc6, ms6, K6, hC, e1, e2, h⟩ := h
    refine sg_VI (pc := 64) (av := [vi a1, vi a5, vi 1000, vi 1001]) (st := []) (K := K6) dX10_two_64 ck_10_313 rfl (by decide) hk6 (by show (0 : Nat) ≤ 8; decide) hC e1 e2 (fun x1 m8 hK => ?_) rfl
    replace h := h x1 m8 hK
    refine sg_istore (pc := 67) (ls' := [some (vr a0), some (vi a1), some (vi a2), some (vi a3), some (vi a4), some (vi a5), some (vi x1)]) dX10_two_67 (by show (6 : Nat) < 7; decide) rfl ?_
    refine st_aload_n (pc := 69) dX10_two_69 rfl rfl ?_
    refine sg_iconst (pc := 70) dX10_two_70 (by omega) ?_
    obtain ⟨hk7, h⟩ := h
    obtain ⟨mc7, ms7, K7, hC, e1, e2, h⟩ := h
    refine sg_VV (pc := 71) (av := [vi 3]) (st := []) (K := K7) dX10_two_71 ck_10_329 rfl (by decide) hk7 (by show (0 : Nat) ≤ 8; decide) hC e1 e2 (fun m9 hK => ?_) rfl
    replace h := h m9 hK
    refine st_iload_n (pc := 74) dX10_two_74 rfl rfl ?_
    refine sg_iconst (pc := 75) dX10_two_75 (by omega) ?_
    refine st_icmpeq (pc := 76) (tgt := 89) dX10_two_76 rfl (fun c => ?_) (fun c => ?_)
    · replace h := h.1 c
      refine st_iload (pc := 89) dX10_two_89 rfl ?_
      refine sg_istore_n (pc := 91) (ls' := [some (vr a0), some (vi a1), some (vi a2), some (vi a5), some (vi a4), some (vi a5), some (vi x1)]) dX10_two_91 rfl (by show (3 : Nat) < 7; decide) rfl ?_
      refine st_iload (pc := 92) dX10_two_92 rfl ?_
      refine sg_istore (pc := 94) (ls' := [some (vr a0), some (vi a1), some (vi a2), some (vi a5), some (vi x1), some (vi a5), some (vi x1)]) dX10_two_94 (by show (4 : Nat) < 7; decide) rfl ?_
      refine sg_iinc (pc := 96) (ls' := [some (vr a0), some (vi a1), some (vi a2), some (vi a5), some (vi x1), some (vi (w32 (a5 + 1))), some (vi x1)]) dX10_two_96 rfl rfl ?_
      refine Wp.nameL (ls2 := fun v => [some (vr a0), some (vi a1), some (vi a2), some (vi a5), some (vi x1), some (vi v), some (vi x1)]) 5 _ rfl (fun _ => rfl) (fun v1 ev1 => ?_)
      replace h := h v1 ev1
      refine st_goto (pc := 99) dX10_two_99 rfl ?_
      refine Wp.drop 6 rfl ?_
      exact h
    · replace h := h.2 c
      refine st_iload (pc := 79) dX10_two_79 rfl ?_
      refine st_iload (pc := 81) dX10_two_81 rfl ?_
      refine st_icmplt (pc := 83) (tgt := 89) dX10_two_83 rfl (fun c => ?_) (fun c => ?_)
      · replace h := h.1 c
        refine st_iload (pc := 89) dX10_two_89 rfl ?_
        refine sg_istore_n (pc := 91) (ls' := [some (vr a0), some (vi a1), some (vi a2), some (vi a5), some (vi a4), some (vi a5), some (vi x1)]) dX10_two_91 rfl (by show (3 : Nat) < 7; decide) rfl ?_
        refine st_iload (pc := 92) dX10_two_92 rfl ?_
        refine sg_istore (pc := 94) (ls' := [some (vr a0), some (vi a1), some (vi a2), some (vi a5), some (vi x1), some (vi a5), some (vi x1)]) dX10_two_94 (by show (4 : Nat) < 7; decide) rfl ?_
        refine sg_iinc (pc := 96) (ls' := [some (vr a0), some (vi a1), some (vi a2), some (vi a5), some (vi x1), some (vi (w32 (a5 + 1))), some (vi x1)]) dX10_two_96 rfl rfl ?_
        refine Wp.nameL (ls2 := fun v => [some (vr a0), some (vi a1), some (vi a2), some (vi a5), some (vi x1), some (vi v), some (vi x1)]) 5 _ rfl (fun _ => rfl) (fun v2 ev2 => ?_)
        replace h := h v2 ev2
        refine st_goto (pc := 99) dX10_two_99 rfl ?_
        refine Wp.drop 6 rfl ?_
        exact h
      · replace h := h.2 c
        refine st_goto (pc := 86) dX10_two_86 rfl ?_
        refine sg_iinc (pc := 96) (ls' := [some (vr a0), some (vi a1), some (vi a2), some (vi a3), some (vi a4), some (vi (w32 (a5 + 1))), some (vi x1)]) dX10_two_96 rfl rfl ?_
        refine Wp.nameL (ls2 := fun v => [some (vr a0), some (vi a1), some (vi a2), some (vi a3), some (vi a4), some (vi v), some (vi x1)]) 5 _ rfl (fun _ => rfl) (fun v3 ev3 => ?_)
        replace h := h v3 ev3
        refine st_goto (pc := 99) dX10_two_99 rfl ?_
        refine Wp.drop 6 rfl ?_
        exact h

theorem sg_X10_stop_0 {d bc bs : Nat} {a0 : Nat} {a1 : Int} {μ : Mem} {Q : Option (Option AV) → Mem → Prop}
    (h : mK μ a0 = 11 ∧ (∀ m1, m1 = sD μ a0 15 0 → ∃ (mc1 ms1 : Nat) (K1 : Int → Mem → Prop), Cl d mc1 ms1 mX10_in [vi a1, vi 1, vi 5000] m1 (KI K1) ∧ mc1 ≤ bc ∧ ms1 ≤ bs ∧ (∀ x1 m2, K1 x1 m2 → (¬ x1 = 0 → Wp (d + 1) (bc - mc1) (bs - ms1) mX10_stop 20 [some (vr a0), some (vi a1), some (vi 1), none, none] [] m2 Q) ∧ (x1 = 0 → Q (some (some (vi (-1)))) m2)))) :
    Wp (d + 1) bc bs mX10_stop 0 [some (vr a0), some (vi a1), none, none, none] [] μ Q := by
  refine st_aload_n (pc := 0) dX10_stop_0 rfl rfl ?_
  refine sg_iconst (pc := 1) dX10_stop_1 (by omega) ?_
  obtain ⟨hk1, h⟩ := h
  refine sg_pfI (pc := 2) (J := 15) dX10_stop_2 fl_10_142 rfl (Or.inl rfl) hk1 ?_
  refine Wp.nameM (fun m1 em1 => ?_)
  replace h := h m1 em1
  refine st_iload_n (pc := 5) dX10_stop_5 rfl rfl ?_
  refine sg_iconst (pc := 6) dX10_stop_6 (by omega) ?_
  refine sg_sipush (pc := 7) dX10_stop_7 (by omega) (by decide) ?_
  obtain ⟨mc1, ms1, K1, hC, e1, e2, h⟩ := h
  refine sg_SI (pc := 10) (av := [vi a1, vi 1, vi 5000]) (st := []) (K := K1) dX10_stop_10 ck_10_151 rfl (by show (0 : Nat) ≤ 8; decide) hC e1 e2 (fun x1 m2 hK => ?_) rfl
  replace h := h x1 m2 hK
  refine st_ifne (pc := 13) (tgt := 18) dX10_stop_13 rfl (fun c => ?_) (fun c => ?_)
  · replace h := h.1 c
    refine sg_iconst (pc := 18) dX10_stop_18 (by omega) ?_
    refine sg_istore_n (pc := 19) (ls' := [some (vr a0), some (vi a1), some (vi 1), none, none]) dX10_stop_19 rfl (by show (2 : Nat) < 5; decide) rfl ?_
    exact h
  · replace h := h.2 c
    refine sg_iconst (pc := 16) dX10_stop_16 (by omega) ?_
    exact st_ireturn (pc := 17) dX10_stop_17 (Or.inl rfl) h

theorem sg_X10_stop_20 {d bc bs : Nat} {a0 : Nat} {a1 : Int} {a2 : Int} {μ : Mem} {Q : Option (Option AV) → Mem → Prop}
    (h : (200 < a2 → Q (some (some (vi (-2)))) μ) ∧ (¬ 200 < a2 → a2 ≠ 0 ∧ (((w32 ((w32 ((w32 (a1 + a2)) - 1)).tdiv a2)) ≤ 500 → mK μ a0 = 11 ∧ ∃ (mc1 ms1 : Nat) (K1 : Mem → Prop), Cl d mc1 ms1 mX10_putBy [vr a0, vi 3] μ (KV K1) ∧ mc1 ≤ bc ∧ ms1 ≤ bs ∧ (∀ m1, K1 m1 → mK m1 a0 = 11 ∧ ∃ (mc2 ms2 : Nat) (K2 : Mem → Prop), Cl d mc2 ms2 mX10_begin [vr a0] m1 (KV K2) ∧ mc2 ≤ bc - mc1 ∧ ms2 ≤ bs - ms1 ∧ (∀ m2, K2 m2 → mK m2 a0 = 11 ∧ ∃ (mc3 ms3 : Nat) (K3 : Mem → Prop), Cl d mc3 ms3 mX10_watch [vr a0] m2 (KV K3) ∧ mc3 ≤ bc - mc1 - mc2 ∧ ms3 ≤ bs - ms1 - ms2 ∧ (∀ m3, K3 m3 → Wp (d + 1) (bc - mc1 - mc2 - mc3) (bs - ms1 - ms2 - ms3) mX10_stop 61 [some (vr a0), some (vi a1), some (vi a2), some (vi 0), some (vi 0)] [] m3 Q)))) ∧ (¬ (w32 ((w32 ((w32 (a1 + a2)) - 1)).tdiv a2)) ≤ 500 → ∀ v1, v1 = w32 (a2 + 1) → Wp (d + 1) bc bs mX10_stop 20 [some (vr a0), some (vi a1), some (vi v1), none, none] [] μ Q)))) :
    Wp (d + 1) bc bs mX10_stop 20 [some (vr a0), some (vi a1), some (vi a2), none, none] [] μ Q := by
  refine st_iload_n (pc := 20) dX10_stop_20 rfl rfl ?_
  refine sg_sipush (pc := 21) dX10_stop_21 (by omega) (by decide) ?_
  refine st_icmpgt (pc := 24) (tgt := 150) dX10_stop_24 rfl (fun c => ?_) (fun c => ?_)
  · replace h := h.1 c
    refine sg_bipush (pc := 150) dX10_stop_150 (by omega) (by decide) ?_
    exact st_ireturn (pc := 152) dX10_stop_152 (Or.inl rfl) h
  · replace h := h.2 c
    refine st_iload_n (pc := 27) dX10_stop_27 rfl rfl ?_
    refine st_iload_n (pc := 28) dX10_stop_28 rfl rfl ?_
    refine st_iadd (pc := 29) dX10_stop_29 ?_
    refine sg_iconst (pc := 30) dX10_stop_30 (by omega) ?_
    refine st_isub (pc := 31) dX10_stop_31 ?_
    refine st_iload_n (pc := 32) dX10_stop_32 rfl rfl ?_
    obtain ⟨h0, h⟩ := h
    refine st_idiv (pc := 33) dX10_stop_33 h0 ?_
    refine sg_sipush (pc := 34) dX10_stop_34 (by omega) (by decide) ?_
    refine st_icmple (pc := 37) (tgt := 43) dX10_stop_37 rfl (fun c => ?_) (fun c => ?_)
    · replace h := h.1 c
      refine st_aload_n (pc := 43) dX10_stop_43 rfl rfl ?_
      refine sg_iconst (pc := 44) dX10_stop_44 (by omega) ?_
      obtain ⟨hk1, h⟩ := h
      obtain ⟨mc1, ms1, K1, hC, e1, e2, h⟩ := h
      refine sg_VV (pc := 45) (av := [vi 3]) (st := []) (K := K1) dX10_stop_45 ck_10_326 rfl (by decide) hk1 (by show (0 : Nat) ≤ 8; decide) hC e1 e2 (fun m1 hK => ?_) rfl
      replace h := h m1 hK
      refine st_aload_n (pc := 48) dX10_stop_48 rfl rfl ?_
      obtain ⟨hk2, h⟩ := h
      obtain ⟨mc2, ms2, K2, hC, e1, e2, h⟩ := h
      refine sg_VV (pc := 49) (av := []) (st := []) (K := K2) dX10_stop_49 ck_10_139 rfl (by decide) hk2 (by show (0 : Nat) ≤ 8; decide) hC e1 e2 (fun m2 hK => ?_) rfl
      replace h := h m2 hK
      refine st_aload_n (pc := 52) dX10_stop_52 rfl rfl ?_
      obtain ⟨hk3, h⟩ := h
      obtain ⟨mc3, ms3, K3, hC, e1, e2, h⟩ := h
      refine sg_VV (pc := 53) (av := []) (st := []) (K := K3) dX10_stop_53 ck_10_310 rfl (by decide) hk3 (by show (0 : Nat) ≤ 8; decide) hC e1 e2 (fun m3 hK => ?_) rfl
      replace h := h m3 hK
      refine sg_iconst (pc := 56) dX10_stop_56 (by omega) ?_
      refine sg_istore_n (pc := 57) (ls' := [some (vr a0), some (vi a1), some (vi a2), some (vi 0), none]) dX10_stop_57 rfl (by show (3 : Nat) < 5; decide) rfl ?_
      refine sg_iconst (pc := 58) dX10_stop_58 (by omega) ?_
      refine sg_istore (pc := 59) (ls' := [some (vr a0), some (vi a1), some (vi a2), some (vi 0), some (vi 0)]) dX10_stop_59 (by show (4 : Nat) < 5; decide) rfl ?_
      exact h
    · replace h := h.2 c
      refine st_goto (pc := 40) dX10_stop_40 rfl ?_
      refine sg_iinc (pc := 144) (ls' := [some (vr a0), some (vi a1), some (vi (w32 (a2 + 1))), none, none]) dX10_stop_144 rfl rfl ?_
      refine Wp.nameL (ls2 := fun v => [some (vr a0), some (vi a1), some (vi v), none, none]) 2 _ rfl (fun _ => rfl) (fun v1 ev1 => ?_)
      replace h := h v1 ev1
      refine st_goto (pc := 147) dX10_stop_147 rfl ?_
      exact h

theorem sg_X10_stop_61 {d bc bs : Nat} {a0 : Nat} {a1 : Int} {a2 : Int} {a3 : Int} {a4 : Int} {μ : Mem} {Q : Option (Option AV) → Mem → Prop}
    (h : ((w32 (a2 + 100)) ≤ a4 → Wp (d + 1) bc bs mX10_stop 116 [some (vr a0), some (vi a1), some (vi a2), some (vi a3), some (vi a4)] [] μ Q) ∧ (¬ (w32 (a2 + 100)) ≤ a4 → (¬ a3 = 0 → Wp (d + 1) bc bs mX10_stop 116 [some (vr a0), some (vi a1), some (vi a2), some (vi a3), some (vi a4)] [] μ Q) ∧ (a3 = 0 → (a4 < a2 → a2 ≠ 0 ∧ (a2 ≠ 0 ∧ (((a1.tmod a2) ≤ a4 → mK μ a0 = 11 ∧ ∃ (mc1 ms1 : Nat) (K1 : Int → Mem → Prop), Cl d mc1 ms1 mX10_passWatched [vr a0, vi (w32 ((w32 (a1.tdiv a2)) + 0)), vi 0, vi (-1)] μ (KI K1) ∧ mc1 ≤ bc ∧ ms1 ≤ bs ∧ (∀ x1 m1, K1 x1 m1 → ∀ v1, v1 = w32 (a3 + x1) → ∀ v2, v2 = w32 (a4 + 1) → Wp (d + 1) (bc - mc1) (bs - ms1) mX10_stop 61 [some (vr a0), some (vi a1), some (vi a2), some (vi v1), some (vi v2)] [] m1 Q)) ∧ (¬ (a1.tmod a2) ≤ a4 → mK μ a0 = 11 ∧ ∃ (mc2 ms2 : Nat) (K2 : Int → Mem → Prop), Cl d mc2 ms2 mX10_passWatched [vr a0, vi (w32 ((w32 (a1.tdiv a2)) + 1)), vi 0, vi (-1)] μ (KI K2) ∧ mc2 ≤ bc ∧ ms2 ≤ bs ∧ (∀ x2 m2, K2 x2 m2 → ∀ v3, v3 = w32 (a3 + x2) → ∀ v4, v4 = w32 (a4 + 1) → Wp (d + 1) (bc - mc2) (bs - ms2) mX10_stop 61 [some (vr a0), some (vi a1), some (vi a2), some (vi v3), some (vi v4)] [] m2 Q))))) ∧ (¬ a4 < a2 → mK μ a0 = 11 ∧ ∃ (mc3 ms3 : Nat) (K3 : Int → Mem → Prop), Cl d mc3 ms3 mX10_passWatched [vr a0, vi 0, vi 0, vi (-1)] μ (KI K3) ∧ mc3 ≤ bc ∧ ms3 ≤ bs ∧ (∀ x3 m3, K3 x3 m3 → ∀ v5, v5 = w32 (a3 + x3) → ∀ v6, v6 = w32 (a4 + 1) → Wp (d + 1) (bc - mc3) (bs - ms3) mX10_stop 61 [some (vr a0), some (vi a1), some (vi a2), some (vi v5), some (vi v6)] [] m3 Q))))) :
    Wp (d + 1) bc bs mX10_stop 61 [some (vr a0), some (vi a1), some (vi a2), some (vi a3), some (vi a4)] [] μ Q := by
  refine st_iload (pc := 61) dX10_stop_61 rfl ?_
  refine st_iload_n (pc := 63) dX10_stop_63 rfl rfl ?_
  refine sg_bipush (pc := 64) dX10_stop_64 (by omega) (by decide) ?_
  refine st_iadd (pc := 66) dX10_stop_66 ?_
  refine st_icmpge (pc := 67) (tgt := 116) dX10_stop_67 rfl (fun c => ?_) (fun c => ?_)
  · replace h := h.1 c
    exact h
  · replace h := h.2 c
    refine st_iload_n (pc := 70) dX10_stop_70 rfl rfl ?_
    refine st_ifne (pc := 71) (tgt := 116) dX10_stop_71 rfl (fun c => ?_) (fun c => ?_)
    · replace h := h.1 c
      exact h
    · replace h := h.2 c
      refine st_iload_n (pc := 74) dX10_stop_74 rfl rfl ?_
      refine st_aload_n (pc := 75) dX10_stop_75 rfl rfl ?_
      refine st_iload (pc := 76) dX10_stop_76 rfl ?_
      refine st_iload_n (pc := 78) dX10_stop_78 rfl rfl ?_
      refine st_icmplt (pc := 79) (tgt := 86) dX10_stop_79 rfl (fun c => ?_) (fun c => ?_)
      · replace h := h.1 c
        refine st_iload_n (pc := 86) dX10_stop_86 rfl rfl ?_
        refine st_iload_n (pc := 87) dX10_stop_87 rfl rfl ?_
        obtain ⟨h0, h⟩ := h
        refine st_idiv (pc := 88) dX10_stop_88 h0 ?_
        refine st_iload (pc := 89) dX10_stop_89 rfl ?_
        refine st_iload_n (pc := 91) dX10_stop_91 rfl rfl ?_
        refine st_iload_n (pc := 92) dX10_stop_92 rfl rfl ?_
        obtain ⟨h0, h⟩ := h
        refine st_irem (pc := 93) dX10_stop_93 h0 ?_
        refine st_icmpge (pc := 94) (tgt := 101) dX10_stop_94 rfl (fun c => ?_) (fun c => ?_)
        · replace h := h.1 c
          refine sg_iconst (pc := 101) dX10_stop_101 (by omega) ?_
          refine st_iadd (pc := 102) dX10_stop_102 ?_
          refine sg_iconst (pc := 103) dX10_stop_103 (by omega) ?_
          refine sg_iconst (pc := 104) dX10_stop_104 (by omega) ?_
          obtain ⟨hk1, h⟩ := h
          obtain ⟨mc1, ms1, K1, hC, e1, e2, h⟩ := h
          refine sg_VI (pc := 105) (av := [vi (w32 ((w32 (a1.tdiv a2)) + 0)), vi 0, vi (-1)]) (st := [vi a3]) (K := K1) dX10_stop_105 ck_10_306 rfl (by decide) hk1 (by show (1 : Nat) ≤ 8; decide) hC e1 e2 (fun x1 m1 hK => ?_) rfl
          replace h := h x1 m1 hK
          refine st_iadd (pc := 108) dX10_stop_108 ?_
          refine sg_istore_n (pc := 109) (ls' := [some (vr a0), some (vi a1), some (vi a2), some (vi (w32 (a3 + x1))), some (vi a4)]) dX10_stop_109 rfl (by show (3 : Nat) < 5; decide) rfl ?_
          refine Wp.nameL (ls2 := fun v => [some (vr a0), some (vi a1), some (vi a2), some (vi v), some (vi a4)]) 3 _ rfl (fun _ => rfl) (fun v1 ev1 => ?_)
          replace h := h v1 ev1
          refine sg_iinc (pc := 110) (ls' := [some (vr a0), some (vi a1), some (vi a2), some (vi v1), some (vi (w32 (a4 + 1)))]) dX10_stop_110 rfl rfl ?_
          refine Wp.nameL (ls2 := fun v => [some (vr a0), some (vi a1), some (vi a2), some (vi v1), some (vi v)]) 4 _ rfl (fun _ => rfl) (fun v2 ev2 => ?_)
          replace h := h v2 ev2
          refine st_goto (pc := 113) dX10_stop_113 rfl ?_
          exact h
        · replace h := h.2 c
          refine sg_iconst (pc := 97) dX10_stop_97 (by omega) ?_
          refine st_goto (pc := 98) dX10_stop_98 rfl ?_
          refine st_iadd (pc := 102) dX10_stop_102 ?_
          refine sg_iconst (pc := 103) dX10_stop_103 (by omega) ?_
          refine sg_iconst (pc := 104) dX10_stop_104 (by omega) ?_
          obtain ⟨hk2, h⟩ := h
          obtain ⟨mc2, ms2, K2, hC, e1, e2, h⟩ := h
          refine sg_VI (pc := 105) (av := [vi (w32 ((w32 (a1.tdiv a2)) + 1)), vi 0, vi (-1)]) (st := [vi a3]) (K := K2) dX10_stop_105 ck_10_306 rfl (by decide) hk2 (by show (1 : Nat) ≤ 8; decide) hC e1 e2 (fun x2 m2 hK => ?_) rfl
          replace h := h x2 m2 hK
          refine st_iadd (pc := 108) dX10_stop_108 ?_
          refine sg_istore_n (pc := 109) (ls' := [some (vr a0), some (vi a1), some (vi a2), some (vi (w32 (a3 + x2))), some (vi a4)]) dX10_stop_109 rfl (by show (3 : Nat) < 5; decide) rfl ?_
          refine Wp.nameL (ls2 := fun v => [some (vr a0), some (vi a1), some (vi a2), some (vi v), some (vi a4)]) 3 _ rfl (fun _ => rfl) (fun v3 ev3 => ?_)
          replace h := h v3 ev3
          refine sg_iinc (pc := 110) (ls' := [some (vr a0), some (vi a1), some (vi a2), some (vi v3), some (vi (w32 (a4 + 1)))]) dX10_stop_110 rfl rfl ?_
          refine Wp.nameL (ls2 := fun v => [some (vr a0), some (vi a1), some (vi a2), some (vi v3), some (vi v)]) 4 _ rfl (fun _ => rfl) (fun v4 ev4 => ?_)
          replace h := h v4 ev4
          refine st_goto (pc := 113) dX10_stop_113 rfl ?_
          exact h
      · replace h := h.2 c
        refine sg_iconst (pc := 82) dX10_stop_82 (by omega) ?_
        refine st_goto (pc := 83) dX10_stop_83 rfl ?_
        refine sg_iconst (pc := 103) dX10_stop_103 (by omega) ?_
        refine sg_iconst (pc := 104) dX10_stop_104 (by omega) ?_
        obtain ⟨hk3, h⟩ := h
        obtain ⟨mc3, ms3, K3, hC, e1, e2, h⟩ := h
        refine sg_VI (pc := 105) (av := [vi 0, vi 0, vi (-1)]) (st := [vi a3]) (K := K3) dX10_stop_105 ck_10_306 rfl (by decide) hk3 (by show (1 : Nat) ≤ 8; decide) hC e1 e2 (fun x3 m3 hK => ?_) rfl
        replace h := h x3 m3 hK
        refine st_iadd (pc := 108) dX10_stop_108 ?_
        refine sg_istore_n (pc := 109) (ls' := [some (vr a0), some (vi a1), some (vi a2), some (vi (w32 (a3 + x3))), some (vi a4)]) dX10_stop_109 rfl (by show (3 : Nat) < 5; decide) rfl ?_
        refine Wp.nameL (ls2 := fun v => [some (vr a0), some (vi a1), some (vi a2), some (vi v), some (vi a4)]) 3 _ rfl (fun _ => rfl) (fun v5 ev5 => ?_)
        replace h := h v5 ev5
        refine sg_iinc (pc := 110) (ls' := [some (vr a0), some (vi a1), some (vi a2), some (vi v5), some (vi (w32 (a4 + 1)))]) dX10_stop_110 rfl rfl ?_
        refine Wp.nameL (ls2 := fun v => [some (vr a0), some (vi a1), some (vi a2), some (vi v5), some (vi v)]) 4 _ rfl (fun _ => rfl) (fun v6 ev6 => ?_)
        replace h := h v6 ev6
        refine st_goto (pc := 113) dX10_stop_113 rfl ?_
        exact h

theorem sg_X10_stop_116 {d bc bs : Nat} {a0 : Nat} {a1 : Int} {a2 : Int} {a3 : Int} {a4 : Int} {μ : Mem} {Q : Option (Option AV) → Mem → Prop}
    (h : mK μ a0 = 11 ∧ ∃ (mc1 ms1 : Nat) (K1 : Mem → Prop), Cl d mc1 ms1 mX10_bringBack [vr a0, vi 3] μ (KV K1) ∧ mc1 ≤ bc ∧ ms1 ≤ bs ∧ (∀ m1, K1 m1 → (a3 ≤ 0 → mK m1 a0 = 11 ∧ (∀ m2, m2 = sD m1 a0 14 0 → ∃ (mc2 ms2 : Nat) (K2 : Mem → Prop), Cl d mc2 ms2 mX10_tell [vr a0, vl (mD m2 a0 42)] m2 (KV K2) ∧ mc2 ≤ bc - mc1 ∧ ms2 ≤ bs - ms1 ∧ (∀ m3, K2 m3 → Q (some (some (vi a2))) m3))) ∧ (¬ a3 ≤ 0 → ∀ v1, v1 = w32 (a2 + 1) → Wp (d + 1) (bc - mc1) (bs - ms1) mX10_stop 20 [some (vr a0), some (vi a1), some (vi v1), none, none] [] m1 Q))) :
    Wp (d + 1) bc bs mX10_stop 116 [some (vr a0), some (vi a1), some (vi a2), some (vi a3), some (vi a4)] [] μ Q := by
  refine st_aload_n (pc := 116) dX10_stop_116 rfl rfl ?_
  refine sg_iconst (pc := 117) dX10_stop_117 (by omega) ?_
  obtain ⟨hk1, h⟩ := h
  obtain ⟨mc1, ms1, K1, hC, e1, e2, h⟩ := h
  refine sg_VV (pc := 118) (av := [vi 3]) (st := []) (K := K1) dX10_stop_118 ck_10_329 rfl (by decide) hk1 (by show (0 : Nat) ≤ 8; decide) hC e1 e2 (fun m1 hK => ?_) rfl
  replace h := h m1 hK
  refine st_iload_n (pc := 121) dX10_stop_121 rfl rfl ?_
  refine st_ifle (pc := 122) (tgt := 128) dX10_stop_122 rfl (fun c => ?_) (fun c => ?_)
  · replace h := h.1 c
    refine st_aload_n (pc := 128) dX10_stop_128 rfl rfl ?_
    refine sg_iconst (pc := 129) dX10_stop_129 (by omega) ?_
    obtain ⟨hk2, h⟩ := h
    refine sg_pfI (pc := 130) (J := 14) dX10_stop_130 fl_10_145 rfl (Or.inl rfl) hk2 ?_
    refine Wp.nameM (fun m2 em2 => ?_)
    replace h := h m2 em2
    refine st_aload_n (pc := 133) dX10_stop_133 rfl rfl ?_
    refine st_aload_n (pc := 134) dX10_stop_134 rfl rfl ?_
    refine sg_gfI (pc := 135) (J := 42) dX10_stop_135 fl_10_297 (by decide) rfl (by cases em2; exact hk2) ?_
    refine st_i2l (pc := 138) dX10_stop_138 ?_
    obtain ⟨mc2, ms2, K2, hC, e1, e2, h⟩ := h
    refine sg_VV (pc := 139) (av := [vl (mD m2 a0 42)]) (st := []) (K := K2) dX10_stop_139 ck_10_252 rfl (by decide) (by cases em2; exact hk2) (by show (0 : Nat) ≤ 8; decide) hC e1 e2 (fun m3 hK => ?_) rfl
    replace h := h m3 hK
    refine st_iload_n (pc := 142) dX10_stop_142 rfl rfl ?_
    exact st_ireturn (pc := 143) dX10_stop_143 (Or.inl rfl) h
  · replace h := h.2 c
    refine st_goto (pc := 125) dX10_stop_125 rfl ?_
    refine sg_iinc (pc := 144) (ls' := [some (vr a0), some (vi a1), some (vi (w32 (a2 + 1))), some (vi a3), some (vi a4)]) dX10_stop_144 rfl rfl ?_
    refine Wp.nameL (ls2 := fun v => [some (vr a0), some (vi a1), some (vi v), some (vi a3), some (vi a4)]) 2 _ rfl (fun _ => rfl) (fun v1 ev1 => ?_)
    replace h := h v1 ev1
    refine st_goto (pc := 147) dX10_stop_147 rfl ?_
    refine Wp.drop 3 rfl ?_
    refine Wp.drop 4 rfl ?_
    exact h

theorem sg_X10_pause_0 {d bc bs : Nat} {a0 : Nat} {a1 : Int} {a2 : Int} {μ : Mem} {Q : Option (Option AV) → Mem → Prop}
    (h : mK μ a0 = 11 ∧ (∀ m1, m1 = sD μ a0 15 0 → ∃ (mc1 ms1 : Nat) (K1 : Int → Mem → Prop), Cl d mc1 ms1 mX10_isWalk [vi a1] m1 (KI K1) ∧ mc1 ≤ bc ∧ ms1 ≤ bs ∧ (∀ x1 m2, K1 x1 m2 → (x1 = 0 → Q (some (some (vi (-1)))) m2) ∧ (¬ x1 = 0 → ∃ (mc2 ms2 : Nat) (K2 : Int → Mem → Prop), Cl d mc2 ms2 mX10_in [vi a2, vi 0, vi 1000] m2 (KI K2) ∧ mc2 ≤ bc - mc1 ∧ ms2 ≤ bs - ms1 ∧ (∀ x2 m3, K2 x2 m3 → (¬ x2 = 0 → Wp (d + 1) (bc - mc1 - mc2) (bs - ms1 - ms2) mX10_pause 33 [some (vr a0), some (vi a1), some (vi a2), some (vi (-1)), some (vi 0), some (vi 0), none] [] m3 Q) ∧ (x2 = 0 → Q (some (some (vi (-1)))) m3)))))) :
    Wp (d + 1) bc bs mX10_pause 0 [some (vr a0), some (vi a1), some (vi a2), none, none, none, none] [] μ Q := by
  refine st_aload_n (pc := 0) dX10_pause_0 rfl rfl ?_
  refine sg_iconst (pc := 1) dX10_pause_1 (by omega) ?_
  obtain ⟨hk1, h⟩ := h
  refine sg_pfI (pc := 2) (J := 15) dX10_pause_2 fl_10_142 rfl (Or.inl rfl) hk1 ?_
  refine Wp.nameM (fun m1 em1 => ?_)
  replace h := h m1 em1
  refine st_iload_n (pc := 5) dX10_pause_5 rfl rfl ?_
  obtain ⟨mc1, ms1, K1, hC, e1, e2, h⟩ := h
  refine sg_SI (pc := 6) (av := [vi a1]) (st := []) (K := K1) dX10_pause_6 ck_10_245 rfl (by show (0 : Nat) ≤ 8; decide) hC e1 e2 (fun x1 m2 hK => ?_) rfl
  replace h := h x1 m2 hK
  refine st_ifeq (pc := 9) (tgt := 23) dX10_pause_9 rfl (fun c => ?_) (fun c => ?_)
  · replace h := h.1 c
    refine sg_iconst (pc := 23) dX10_pause_23 (by omega) ?_
    exact st_ireturn (pc := 24) dX10_pause_24 (Or.inl rfl) h
  · replace h := h.2 c
    refine st_iload_n (pc := 12) dX10_pause_12 rfl rfl ?_
    refine sg_iconst (pc := 13) dX10_pause_13 (by omega) ?_
    refine sg_sipush (pc := 14) dX10_pause_14 (by omega) (by decide) ?_
    obtain ⟨mc2, ms2, K2, hC, e1, e2, h⟩ := h
    refine sg_SI (pc := 17) (av := [vi a2, vi 0, vi 1000]) (st := []) (K := K2) dX10_pause_17 ck_10_151 rfl (by show (0 : Nat) ≤ 8; decide) hC e1 e2 (fun x2 m3 hK => ?_) rfl
    replace h := h x2 m3 hK
    refine st_ifne (pc := 20) (tgt := 25) dX10_pause_20 rfl (fun c => ?_) (fun c => ?_)
    · replace h := h.1 c
      refine sg_iconst (pc := 25) dX10_pause_25 (by omega) ?_
      refine sg_istore_n (pc := 26) (ls' := [some (vr a0), some (vi a1), some (vi a2), some (vi (-1)), none, none, none]) dX10_pause_26 rfl (by show (3 : Nat) < 7; decide) rfl ?_
      refine sg_iconst (pc := 27) dX10_pause_27 (by omega) ?_
      refine sg_istore (pc := 28) (ls' := [some (vr a0), some (vi a1), some (vi a2), some (vi (-1)), some (vi 0), none, none]) dX10_pause_28 (by show (4 : Nat) < 7; decide) rfl ?_
      refine sg_iconst (pc := 30) dX10_pause_30 (by omega) ?_
      refine sg_istore (pc := 31) (ls' := [some (vr a0), some (vi a1), some (vi a2), some (vi (-1)), some (vi 0), some (vi 0), none]) dX10_pause_31 (by show (5 : Nat) < 7; decide) rfl ?_
      exact h
    · replace h := h.2 c
      refine sg_iconst (pc := 23) dX10_pause_23 (by omega) ?_
      exact st_ireturn (pc := 24) dX10_pause_24 (Or.inl rfl) h

theorem sg_X10_pause_33 {d bc bs : Nat} {a0 : Nat} {a1 : Int} {a2 : Int} {a3 : Int} {a4 : Int} {a5 : Int} {μ : Mem} {Q : Option (Option AV) → Mem → Prop}
    (h : (40 < a5 → mK μ a0 = 11 ∧ (∀ m1, m1 = sD μ a0 14 0 → ∃ (mc1 ms1 : Nat) (K1 : Mem → Prop), Cl d mc1 ms1 mX10_tell [vr a0, vl a4] m1 (KV K1) ∧ mc1 ≤ bc ∧ ms1 ≤ bs ∧ (∀ m2, K1 m2 → Q (some (some (vi a3))) m2))) ∧ (¬ 40 < a5 → mK μ a0 = 11 ∧ ∃ (mc2 ms2 : Nat) (K2 : Int → Mem → Prop), Cl d mc2 ms2 mX10_withPause [vr a0, vi a1, vi 1001, vi a2, vi a5] μ (KI K2) ∧ mc2 ≤ bc ∧ ms2 ≤ bs ∧ (∀ x1 m3, K2 x1 m3 → (a3 = (-1) → ∀ v1, v1 = w32 (a5 + 1) → Wp (d + 1) (bc - mc2) (bs - ms2) mX10_pause 33 [some (vr a0), some (vi a1), some (vi a2), some (vi a5), some (vi x1), some (vi v1), none] [] m3 Q) ∧ (¬ a3 = (-1) → (x1 < a4 → ∀ v2, v2 = w32 (a5 + 1) → Wp (d + 1) (bc - mc2) (bs - ms2) mX10_pause 33 [some (vr a0), some (vi a1), some (vi a2), some (vi a5), some (vi x1), some (vi v2), none] [] m3 Q) ∧ (¬ x1 < a4 → ∀ v3, v3 = w32 (a5 + 1) → Wp (d + 1) (bc - mc2) (bs - ms2) mX10_pause 33 [some (vr a0), some (vi a1), some (vi a2), some (vi a3), some (vi a4), some (vi v3), none] [] m3 Q))))) :
    Wp (d + 1) bc bs mX10_pause 33 [some (vr a0), some (vi a1), some (vi a2), some (vi a3), some (vi a4), some (vi a5), none] [] μ Q := by
  refine st_iload (pc := 33) dX10_pause_33 rfl ?_
  refine sg_bipush (pc := 35) dX10_pause_35 (by omega) (by decide) ?_
  refine st_icmpgt (pc := 37) (tgt := 81) dX10_pause_37 rfl (fun c => ?_) (fun c => ?_)
  · replace h := h.1 c
    refine st_aload_n (pc := 81) dX10_pause_81 rfl rfl ?_
    refine sg_iconst (pc := 82) dX10_pause_82 (by omega) ?_
    obtain ⟨hk1, h⟩ := h
    refine sg_pfI (pc := 83) (J := 14) dX10_pause_83 fl_10_145 rfl (Or.inl rfl) hk1 ?_
    refine Wp.nameM (fun m1 em1 => ?_)
    replace h := h m1 em1
    refine st_aload_n (pc := 86) dX10_pause_86 rfl rfl ?_
    refine st_iload (pc := 87) dX10_pause_87 rfl ?_
    refine st_i2l (pc := 89) dX10_pause_89 ?_
    obtain ⟨mc1, ms1, K1, hC, e1, e2, h⟩ := h
    refine sg_VV (pc := 90) (av := [vl a4]) (st := []) (K := K1) dX10_pause_90 ck_10_252 rfl (by decide) (by cases em1; exact hk1) (by show (0 : Nat) ≤ 8; decide) hC e1 e2 (fun m2 hK => ?_) rfl
    replace h := h m2 hK
    refine st_iload_n (pc := 93) dX10_pause_93 rfl rfl ?_
    exact st_ireturn (pc := 94) dX10_pause_94 (Or.inl rfl) h
  · replace h := h.2 c
    refine st_aload_n (pc := 40) dX10_pause_40 rfl rfl ?_
    refine st_iload_n (pc := 41) dX10_pause_41 rfl rfl ?_
    refine sg_sipush (pc := 42) dX10_pause_42 (by omega) (by decide) ?_
    refine st_iload_n (pc := 45) dX10_pause_45 rfl rfl ?_
    refine st_iload (pc := 46) dX10_pause_46 rfl ?_
    obtain ⟨hk2, h⟩ := h
    obtain ⟨mc2, ms2, K2, hC, e1, e2, h⟩ := h
    refine sg_VI (pc := 48) (av := [vi a1, vi 1001, vi a2, vi a5]) (st := []) (K := K2) dX10_pause_48 ck_10_375 rfl (by decide) hk2 (by show (0 : Nat) ≤ 8; decide) hC e1 e2 (fun x1 m3 hK => ?_) rfl
    replace h := h x1 m3 hK
    refine sg_istore (pc := 51) (ls' := [some (vr a0), some (vi a1), some (vi a2), some (vi a3), some (vi a4), some (vi a5), some (vi x1)]) dX10_pause_51 (by show (6 : Nat) < 7; decide) rfl ?_
    refine st_iload_n (pc := 53) dX10_pause_53 rfl rfl ?_
    refine sg_iconst (pc := 54) dX10_pause_54 (by omega) ?_
    refine st_icmpeq (pc := 55) (tgt := 68) dX10_pause_55 rfl (fun c => ?_) (fun c => ?_)
    · replace h := h.1 c
      refine st_iload (pc := 68) dX10_pause_68 rfl ?_
      refine sg_istore_n (pc := 70) (ls' := [some (vr a0), some (vi a1), some (vi a2), some (vi a5), some (vi a4), some (vi a5), some (vi x1)]) dX10_pause_70 rfl (by show (3 : Nat) < 7; decide) rfl ?_
      refine st_iload (pc := 71) dX10_pause_71 rfl ?_
      refine sg_istore (pc := 73) (ls' := [some (vr a0), some (vi a1), some (vi a2), some (vi a5), some (vi x1), some (vi a5), some (vi x1)]) dX10_pause_73 (by show (4 : Nat) < 7; decide) rfl ?_
      refine sg_iinc (pc := 75) (ls' := [some (vr a0), some (vi a1), some (vi a2), some (vi a5), some (vi x1), some (vi (w32 (a5 + 1))), some (vi x1)]) dX10_pause_75 rfl rfl ?_
      refine Wp.nameL (ls2 := fun v => [some (vr a0), some (vi a1), some (vi a2), some (vi a5), some (vi x1), some (vi v), some (vi x1)]) 5 _ rfl (fun _ => rfl) (fun v1 ev1 => ?_)
      replace h := h v1 ev1
      refine st_goto (pc := 78) dX10_pause_78 rfl ?_
      refine Wp.drop 6 rfl ?_
      exact h
    · replace h := h.2 c
      refine st_iload (pc := 58) dX10_pause_58 rfl ?_
      refine st_iload (pc := 60) dX10_pause_60 rfl ?_
      refine st_icmplt (pc := 62) (tgt := 68) dX10_pause_62 rfl (fun c => ?_) (fun c => ?_)
      · replace h := h.1 c
        refine st_iload (pc := 68) dX10_pause_68 rfl ?_
        refine sg_istore_n (pc := 70) (ls' := [some (vr a0), some (vi a1), some (vi a2), some (vi a5), some (vi a4), some (vi a5), some (vi x1)]) dX10_pause_70 rfl (by show (3 : Nat) < 7; decide) rfl ?_
        refine st_iload (pc := 71) dX10_pause_71 rfl ?_
        refine sg_istore (pc := 73) (ls' := [some (vr a0), some (vi a1), some (vi a2), some (vi a5), some (vi x1), some (vi a5), some (vi x1)]) dX10_pause_73 (by show (4 : Nat) < 7; decide) rfl ?_
        refine sg_iinc (pc := 75) (ls' := [some (vr a0), some (vi a1), some (vi a2), some (vi a5), some (vi x1), some (vi (w32 (a5 + 1))), some (vi x1)]) dX10_pause_75 rfl rfl ?_
        refine Wp.nameL (ls2 := fun v => [some (vr a0), some (vi a1), some (vi a2), some (vi a5), some (vi x1), some (vi v), some (vi x1)]) 5 _ rfl (fun _ => rfl) (fun v2 ev2 => ?_)
        replace h := h v2 ev2
        refine st_goto (pc := 78) dX10_pause_78 rfl ?_
        refine Wp.drop 6 rfl ?_
        exact h
      · replace h := h.2 c
        refine st_goto (pc := 65) dX10_pause_65 rfl ?_
        refine sg_iinc (pc := 75) (ls' := [some (vr a0), some (vi a1), some (vi a2), some (vi a3), some (vi a4), some (vi (w32 (a5 + 1))), some (vi x1)]) dX10_pause_75 rfl rfl ?_
        refine Wp.nameL (ls2 := fun v => [some (vr a0), some (vi a1), some (vi a2), some (vi a3), some (vi a4), some (vi v), some (vi x1)]) 5 _ rfl (fun _ => rfl) (fun v3 ev3 => ?_)
        replace h := h v3 ev3
        refine st_goto (pc := 78) dX10_pause_78 rfl ?_
        refine Wp.drop 6 rfl ?_
        exact h

theorem sg_X10_stir_0 {d bc bs : Nat} {a0 : Nat} {a1 : Int} {μ : Mem} {Q : Option (Option AV) → Mem → Prop}
    (h : mK μ a0 = 11 ∧ (∀ m1, m1 = sD μ a0 15 0 → ∃ (mc1 ms1 : Nat) (K1 : Int → Mem → Prop), Cl d mc1 ms1 mX10_in [vi a1, vi 0, vi 1] m1 (KI K1) ∧ mc1 ≤ bc ∧ ms1 ≤ bs ∧ (∀ x1 m2, K1 x1 m2 → (¬ x1 = 0 → Wp (d + 1) (bc - mc1) (bs - ms1) mX10_stir 23 [some (vr a0), some (vi a1), some (vl 0), none, some (vi 0), none, none, none, none] [] m2 Q) ∧ (x1 = 0 → Q (some (some (vl (-1)))) m2)))) :
    Wp (d + 1) bc bs mX10_stir 0 [some (vr a0), some (vi a1), none, none, none, none, none, none, none] [] μ Q := by
  refine st_aload_n (pc := 0) dX10_stir_0 rfl rfl ?_
  refine sg_iconst (pc := 1) dX10_stir_1 (by omega) ?_
  obtain ⟨hk1, h⟩ := h
  refine sg_pfI (pc := 2) (J := 15) dX10_stir_2 fl_10_142 rfl (Or.inl rfl) hk1 ?_
  refine Wp.nameM (fun m1 em1 => ?_)
  replace h := h m1 em1
  refine st_iload_n (pc := 5) dX10_stir_5 rfl rfl ?_
  refine sg_iconst (pc := 6) dX10_stir_6 (by omega) ?_
  refine sg_iconst (pc := 7) dX10_stir_7 (by omega) ?_
  obtain ⟨mc1, ms1, K1, hC, e1, e2, h⟩ := h
  refine sg_SI (pc := 8) (av := [vi a1, vi 0, vi 1]) (st := []) (K := K1) dX10_stir_8 ck_10_151 rfl (by show (0 : Nat) ≤ 8; decide) hC e1 e2 (fun x1 m2 hK => ?_) rfl
  replace h := h x1 m2 hK
  refine st_ifne (pc := 11) (tgt := 18) dX10_stir_11 rfl (fun c => ?_) (fun c => ?_)
  · replace h := h.1 c
    refine st_lconst (pc := 18) (x := 0) dX10_stir_18 (by decide) (by unfold r64; omega) ?_
    refine sg_lstore_n (pc := 19) (ls' := [some (vr a0), some (vi a1), some (vl 0), none, none, none, none, none, none]) dX10_stir_19 rfl (by show (3 : Nat) < 9; decide) rfl ?_
    refine sg_iconst (pc := 20) dX10_stir_20 (by omega) ?_
    refine sg_istore (pc := 21) (ls' := [some (vr a0), some (vi a1), some (vl 0), none, some (vi 0), none, none, none, none]) dX10_stir_21 (by show (4 : Nat) < 9; decide) rfl ?_
    exact h
  · replace h := h.2 c
    refine st_ldc2 (pc := 14) (n := (-1)) dX10_stir_14 cn_10_352 (by unfold r64; omega) ?_
    exact st_lreturn (pc := 17) dX10_stir_17 rfl h

theorem sg_X10_stir_23 {d bc bs : Nat} {a0 : Nat} {a1 : Int} {a2 : Int} {a4 : Int} {μ : Mem} {Q : Option (Option AV) → Mem → Prop}
    (h : mK μ a0 = 11 ∧ (((mD μ a0 0) ≤ a4 → Q (some (some (vl a2))) μ) ∧ (¬ (mD μ a0 0) ≤ a4 → (mK μ (mR μ a0 6) = 20 ∨ ((mR μ a0 6) ≠ 0 ∧ mK μ (mR μ a0 6) = 40)) ∧ ((0 : Int) ≤ (w32 ((w32 (20 * a1)) + a4)) ∧ (w32 ((w32 (20 * a1)) + a4)) < (mN μ (mR μ a0 6) : Int)) ∧ ((¬ a4 = (w32 ((mD μ a0 0) - 1)) → (mK μ (mR μ a0 7) = 20 ∨ ((mR μ a0 7) ≠ 0 ∧ mK μ (mR μ a0 7) = 40)) ∧ ((0 : Int) ≤ (w32 ((w32 (20 * a1)) + a4)) ∧ (w32 ((w32 (20 * a1)) + a4)) < (mN μ (mR μ a0 7) : Int)) ∧ (∀ v1, v1 = w32 (a4 + 1) → Wp (d + 1) bc bs mX10_stir 23 [some (vr a0), some (vi a1), some (vl (w64 (a2 + (w64 ((w64 ((w32 ((mD μ (mR μ a0 6) (w32 ((w32 (20 * a1)) + a4))) - (mD μ a0 2))) * (w32 ((mD μ (mR μ a0 6) (w32 ((w32 (20 * a1)) + a4))) - (mD μ a0 2))))) + (w64 ((w32 ((mD μ (mR μ a0 7) (w32 ((w32 (20 * a1)) + a4))).tdiv 8)) * (w32 ((mD μ (mR μ a0 7) (w32 ((w32 (20 * a1)) + a4))).tdiv 8))))))))), none, some (vi v1), none, none, none, none] [] μ Q)) ∧ (a4 = (w32 ((mD μ a0 0) - 1)) → ∀ v2, v2 = w32 (a4 + 1) → Wp (d + 1) bc bs mX10_stir 23 [some (vr a0), some (vi a1), some (vl (w64 (a2 + (w64 ((w64 ((w32 ((mD μ (mR μ a0 6) (w32 ((w32 (20 * a1)) + a4))) - (mD μ a0 2))) * (w32 ((mD μ (mR μ a0 6) (w32 ((w32 (20 * a1)) + a4))) - (mD μ a0 2))))) + (w64 (0 * 0))))))), none, some (vi v2), none, none, none, none] [] μ Q))))) :
    Wp (d + 1) bc bs mX10_stir 23 [some (vr a0), some (vi a1), some (vl a2), none, some (vi a4), none, none, none, none] [] μ Q := by
  refine st_iload (pc := 23) dX10_stir_23 rfl ?_
  refine st_aload_n (pc := 25) dX10_stir_25 rfl rfl ?_
  obtain ⟨hk1, h⟩ := h
  refine sg_gfI (pc := 26) (J := 0) dX10_stir_26 fl_10_9 (by decide) rfl hk1 ?_
  refine st_icmpge (pc := 29) (tgt := 105) dX10_stir_29 rfl (fun c => ?_) (fun c => ?_)
  · replace h := h.1 c
    refine st_lload_n (pc := 105) dX10_stir_105 rfl rfl ?_
    exact st_lreturn (pc := 106) dX10_stir_106 rfl h
  · replace h := h.2 c
    refine st_aload_n (pc := 32) dX10_stir_32 rfl rfl ?_
    refine sg_gfR (pc := 33) (J := 6) dX10_stir_33 fl_10_26 rfl hk1 ?_
    refine sg_bipush (pc := 36) dX10_stir_36 (by omega) (by decide) ?_
    refine st_iload_n (pc := 38) dX10_stir_38 rfl rfl ?_
    refine st_imul (pc := 39) dX10_stir_39 ?_
    refine st_iload (pc := 40) dX10_stir_40 rfl ?_
    refine st_iadd (pc := 42) dX10_stir_42 ?_
    obtain ⟨hk2, h⟩ := h
    obtain ⟨h1, h⟩ := h
    refine sg_iaload (pc := 43) dX10_stir_43 hk2 h1 ?_
    refine st_aload_n (pc := 44) dX10_stir_44 rfl rfl ?_
    refine sg_gfI (pc := 45) (J := 2) dX10_stir_45 fl_10_16 (by decide) rfl hk1 ?_
    refine st_isub (pc := 48) dX10_stir_48 ?_
    refine st_i2l (pc := 49) dX10_stir_49 ?_
    refine sg_lstore (pc := 50) (ls' := [some (vr a0), some (vi a1), some (vl a2), none, some (vi a4), some (vl (w32 ((mD μ (mR μ a0 6) (w32 ((w32 (20 * a1)) + a4))) - (mD μ a0 2)))), none, none, none]) dX10_stir_50 (by show (6 : Nat) < 9; decide) rfl ?_
    refine st_iload (pc := 52) dX10_stir_52 rfl ?_
    refine st_aload_n (pc := 54) dX10_stir_54 rfl rfl ?_
    refine sg_gfI (pc := 55) (J := 0) dX10_stir_55 fl_10_9 (by decide) rfl hk1 ?_
    refine sg_iconst (pc := 58) dX10_stir_58 (by omega) ?_
    refine st_isub (pc := 59) dX10_stir_59 ?_
    refine st_icmpne (pc := 60) (tgt := 67) dX10_stir_60 rfl (fun c => ?_) (fun c => ?_)
    · replace h := h.1 c
      refine st_aload_n (pc := 67) dX10_stir_67 rfl rfl ?_
      refine sg_gfR (pc := 68) (J := 7) dX10_stir_68 fl_10_29 rfl hk1 ?_
      refine sg_bipush (pc := 71) dX10_stir_71 (by omega) (by decide) ?_
      refine st_iload_n (pc := 73) dX10_stir_73 rfl rfl ?_
      refine st_imul (pc := 74) dX10_stir_74 ?_
      refine st_iload (pc := 75) dX10_stir_75 rfl ?_
      refine st_iadd (pc := 77) dX10_stir_77 ?_
      obtain ⟨hk3, h⟩ := h
      obtain ⟨h1, h⟩ := h
      refine sg_iaload (pc := 78) dX10_stir_78 hk3 h1 ?_
      refine sg_bipush (pc := 79) dX10_stir_79 (by omega) (by decide) ?_
      refine st_idiv (pc := 81) dX10_stir_81 (by omega) ?_
      refine st_i2l (pc := 82) dX10_stir_82 ?_
      refine sg_lstore (pc := 83) (ls' := [some (vr a0), some (vi a1), some (vl a2), none, some (vi a4), some (vl (w32 ((mD μ (mR μ a0 6) (w32 ((w32 (20 * a1)) + a4))) - (mD μ a0 2)))), none, some (vl (w32 ((mD μ (mR μ a0 7) (w32 ((w32 (20 * a1)) + a4))).tdiv 8))), none]) dX10_stir_83 (by show (8 : Nat) < 9; decide) rfl ?_
      refine st_lload_n (pc := 85) dX10_stir_85 rfl rfl ?_
      refine st_lload (pc := 86) dX10_stir_86 rfl ?_
      refine st_lload (pc := 88) dX10_stir_88 rfl ?_
      refine st_lmul (pc := 90) dX10_stir_90 ?_
      refine st_lload (pc := 91) dX10_stir_91 rfl ?_
      refine st_lload (pc := 93) dX10_stir_93 rfl ?_
      refine st_lmul (pc := 95) dX10_stir_95 ?_
      refine st_ladd (pc := 96) dX10_stir_96 ?_
      refine st_ladd (pc := 97) dX10_stir_97 ?_
      refine sg_lstore_n (pc := 98) (ls' := [some (vr a0), some (vi a1), some (vl (w64 (a2 + (w64 ((w64 ((w32 ((mD μ (mR μ a0 6) (w32 ((w32 (20 * a1)) + a4))) - (mD μ a0 2))) * (w32 ((mD μ (mR μ a0 6) (w32 ((w32 (20 * a1)) + a4))) - (mD μ a0 2))))) + (w64 ((w32 ((mD μ (mR μ a0 7) (w32 ((w32 (20 * a1)) + a4))).tdiv 8)) * (w32 ((mD μ (mR μ a0 7) (w32 ((w32 (20 * a1)) + a4))).tdiv 8))))))))), none, some (vi a4), some (vl (w32 ((mD μ (mR μ a0 6) (w32 ((w32 (20 * a1)) + a4))) - (mD μ a0 2)))), none, some (vl (w32 ((mD μ (mR μ a0 7) (w32 ((w32 (20 * a1)) + a4))).tdiv 8))), none]) dX10_stir_98 rfl (by show (3 : Nat) < 9; decide) rfl ?_
      refine sg_iinc (pc := 99) (ls' := [some (vr a0), some (vi a1), some (vl (w64 (a2 + (w64 ((w64 ((w32 ((mD μ (mR μ a0 6) (w32 ((w32 (20 * a1)) + a4))) - (mD μ a0 2))) * (w32 ((mD μ (mR μ a0 6) (w32 ((w32 (20 * a1)) + a4))) - (mD μ a0 2))))) + (w64 ((w32 ((mD μ (mR μ a0 7) (w32 ((w32 (20 * a1)) + a4))).tdiv 8)) * (w32 ((mD μ (mR μ a0 7) (w32 ((w32 (20 * a1)) + a4))).tdiv 8))))))))), none, some (vi (w32 (a4 + 1))), some (vl (w32 ((mD μ (mR μ a0 6) (w32 ((w32 (20 * a1)) + a4))) - (mD μ a0 2)))), none, some (vl (w32 ((mD μ (mR μ a0 7) (w32 ((w32 (20 * a1)) + a4))).tdiv 8))), none]) dX10_stir_99 rfl rfl ?_
      refine Wp.nameL (ls2 := fun v => [some (vr a0), some (vi a1), some (vl (w64 (a2 + (w64 ((w64 ((w32 ((mD μ (mR μ a0 6) (w32 ((w32 (20 * a1)) + a4))) - (mD μ a0 2))) * (w32 ((mD μ (mR μ a0 6) (w32 ((w32 (20 * a1)) + a4))) - (mD μ a0 2))))) + (w64 ((w32 ((mD μ (mR μ a0 7) (w32 ((w32 (20 * a1)) + a4))).tdiv 8)) * (w32 ((mD μ (mR μ a0 7) (w32 ((w32 (20 * a1)) + a4))).tdiv 8))))))))), none, some (vi v), some (vl (w32 ((mD μ (mR μ a0 6) (w32 ((w32 (20 * a1)) + a4))) - (mD μ a0 2)))), none, some (vl (w32 ((mD μ (mR μ a0 7) (w32 ((w32 (20 * a1)) + a4))).tdiv 8))), none]) 4 _ rfl (fun _ => rfl) (fun v1 ev1 => ?_)
      replace h := h v1 ev1
      refine st_goto (pc := 102) dX10_stir_102 rfl ?_
      refine Wp.drop 5 rfl ?_
      refine Wp.drop 7 rfl ?_
      exact h
    · replace h := h.2 c
      refine st_lconst (pc := 63) (x := 0) dX10_stir_63 (by decide) (by unfold r64; omega) ?_
      refine st_goto (pc := 64) dX10_stir_64 rfl ?_
      refine sg_lstore (pc := 83) (ls' := [some (vr a0), some (vi a1), some (vl a2), none, some (vi a4), some (vl (w32 ((mD μ (mR μ a0 6) (w32 ((w32 (20 * a1)) + a4))) - (mD μ a0 2)))), none, some (vl 0), none]) dX10_stir_83 (by show (8 : Nat) < 9; decide) rfl ?_
      refine st_lload_n (pc := 85) dX10_stir_85 rfl rfl ?_
      refine st_lload (pc := 86) dX10_stir_86 rfl ?_
      refine st_lload (pc := 88) dX10_stir_88 rfl ?_
      refine st_lmul (pc := 90) dX10_stir_90 ?_
      refine st_lload (pc := 91) dX10_stir_91 rfl ?_
      refine st_lload (pc := 93) dX10_stir_93 rfl ?_
      refine st_lmul (pc := 95) dX10_stir_95 ?_
      refine st_ladd (pc := 96) dX10_stir_96 ?_
      refine st_ladd (pc := 97) dX10_stir_97 ?_
      refine sg_lstore_n (pc := 98) (ls' := [some (vr a0), some (vi a1), some (vl (w64 (a2 + (w64 ((w64 ((w32 ((mD μ (mR μ a0 6) (w32 ((w32 (20 * a1)) + a4))) - (mD μ a0 2))) * (w32 ((mD μ (mR μ a0 6) (w32 ((w32 (20 * a1)) + a4))) - (mD μ a0 2))))) + (w64 (0 * 0))))))), none, some (vi a4), some (vl (w32 ((mD μ (mR μ a0 6) (w32 ((w32 (20 * a1)) + a4))) - (mD μ a0 2)))), none, some (vl 0), none]) dX10_stir_98 rfl (by show (3 : Nat) < 9; decide) rfl ?_
      refine sg_iinc (pc := 99) (ls' := [some (vr a0), some (vi a1), some (vl (w64 (a2 + (w64 ((w64 ((w32 ((mD μ (mR μ a0 6) (w32 ((w32 (20 * a1)) + a4))) - (mD μ a0 2))) * (w32 ((mD μ (mR μ a0 6) (w32 ((w32 (20 * a1)) + a4))) - (mD μ a0 2))))) + (w64 (0 * 0))))))), none, some (vi (w32 (a4 + 1))), some (vl (w32 ((mD μ (mR μ a0 6) (w32 ((w32 (20 * a1)) + a4))) - (mD μ a0 2)))), none, some (vl 0), none]) dX10_stir_99 rfl rfl ?_
      refine Wp.nameL (ls2 := fun v => [some (vr a0), some (vi a1), some (vl (w64 (a2 + (w64 ((w64 ((w32 ((mD μ (mR μ a0 6) (w32 ((w32 (20 * a1)) + a4))) - (mD μ a0 2))) * (w32 ((mD μ (mR μ a0 6) (w32 ((w32 (20 * a1)) + a4))) - (mD μ a0 2))))) + (w64 (0 * 0))))))), none, some (vi v), some (vl (w32 ((mD μ (mR μ a0 6) (w32 ((w32 (20 * a1)) + a4))) - (mD μ a0 2)))), none, some (vl 0), none]) 4 _ rfl (fun _ => rfl) (fun v2 ev2 => ?_)
      replace h := h v2 ev2
      refine st_goto (pc := 102) dX10_stir_102 rfl ?_
      refine Wp.drop 5 rfl ?_
      refine Wp.drop 7 rfl ?_
      exact h

theorem sg_X10_spot_0 {d bc bs : Nat} {a0 : Nat} {a1 : Int} {μ : Mem} {Q : Option (Option AV) → Mem → Prop}
    (h : mK μ a0 = 11 ∧ (∀ m1, m1 = sD μ a0 15 0 → ∃ (mc1 ms1 : Nat) (K1 : Int → Mem → Prop), Cl d mc1 ms1 mX10_in [vi a1, vi 0, vi 1000] m1 (KI K1) ∧ mc1 ≤ bc ∧ ms1 ≤ bs ∧ (∀ x1 m2, K1 x1 m2 → (x1 = 0 → Q (some (some (vi (-1)))) m2) ∧ (¬ x1 = 0 → mK m2 a0 = 11 ∧ ((¬ (mD m2 a0 57) = 12 → mK m2 (mR m2 a0 58) = 20 ∧ ((0 : Int) ≤ (mD m2 a0 57) ∧ (mD m2 a0 57) < (mN m2 (mR m2 a0 58) : Int)) ∧ (∀ m3, m3 = sD m2 (mR m2 a0 58) (mD m2 a0 57) a1 → (∀ m4, m4 = sD m3 a0 57 (w32 ((mD m3 a0 57) + 1)) → Q (some (some (vi (mD m4 a0 57)))) m4))) ∧ ((mD m2 a0 57) = 12 → Q (some (some (vi (-1)))) m2)))))) :
    Wp (d + 1) bc bs mX10_spot 0 [some (vr a0), some (vi a1)] [] μ Q := by
  refine st_aload_n (pc := 0) dX10_spot_0 rfl rfl ?_
  refine sg_iconst (pc := 1) dX10_spot_1 (by omega) ?_
  obtain ⟨hk1, h⟩ := h
  refine sg_pfI (pc := 2) (J := 15) dX10_spot_2 fl_10_142 rfl (Or.inl rfl) hk1 ?_
  refine Wp.nameM (fun m1 em1 => ?_)
  replace h := h m1 em1
  refine st_iload_n (pc := 5) dX10_spot_5 rfl rfl ?_
  refine sg_iconst (pc := 6) dX10_spot_6 (by omega) ?_
  refine sg_sipush (pc := 7) dX10_spot_7 (by omega) (by decide) ?_
  obtain ⟨mc1, ms1, K1, hC, e1, e2, h⟩ := h
  refine sg_SI (pc := 10) (av := [vi a1, vi 0, vi 1000]) (st := []) (K := K1) dX10_spot_10 ck_10_151 rfl (by show (0 : Nat) ≤ 8; decide) hC e1 e2 (fun x1 m2 hK => ?_) rfl
  replace h := h x1 m2 hK
  refine st_ifeq (pc := 13) (tgt := 25) dX10_spot_13 rfl (fun c => ?_) (fun c => ?_)
  · replace h := h.1 c
    refine sg_iconst (pc := 25) dX10_spot_25 (by omega) ?_
    exact st_ireturn (pc := 26) dX10_spot_26 (Or.inl rfl) h
  · replace h := h.2 c
    refine st_aload_n (pc := 16) dX10_spot_16 rfl rfl ?_
    obtain ⟨hk2, h⟩ := h
    refine sg_gfI (pc := 17) (J := 57) dX10_spot_17 fl_10_378 (by decide) rfl hk2 ?_
    refine sg_bipush (pc := 20) dX10_spot_20 (by omega) (by decide) ?_
    refine st_icmpne (pc := 22) (tgt := 27) dX10_spot_22 rfl (fun c => ?_) (fun c => ?_)
    · replace h := h.1 c
      refine st_aload_n (pc := 27) dX10_spot_27 rfl rfl ?_
      refine sg_gfR (pc := 28) (J := 58) dX10_spot_28 fl_10_117 rfl hk2 ?_
      refine st_aload_n (pc := 31) dX10_spot_31 rfl rfl ?_
      refine sg_gfI (pc := 32) (J := 57) dX10_spot_32 fl_10_378 (by decide) rfl hk2 ?_
      refine st_iload_n (pc := 35) dX10_spot_35 rfl rfl ?_
      obtain ⟨hk3, h⟩ := h
      obtain ⟨h1, h⟩ := h
      refine st_iastore (pc := 36) dX10_spot_36 hk3 h1.1 h1.2 ?_
      refine Wp.nameM (fun m3 em3 => ?_)
      replace h := h m3 em3
      refine st_aload_n (pc := 37) dX10_spot_37 rfl rfl ?_
      refine st_dup (pc := 38) dX10_spot_38 rfl ?_
      refine sg_gfI (pc := 39) (J := 57) dX10_spot_39 fl_10_378 (by decide) rfl (by cases em3; exact hk2) ?_
      refine sg_iconst (pc := 42) dX10_spot_42 (by omega) ?_
      refine st_iadd (pc := 43) dX10_spot_43 ?_
      refine sg_pfI (pc := 44) (J := 57) dX10_spot_44 fl_10_378 rfl (Or.inl rfl) (by cases em3; exact hk2) ?_
      refine Wp.nameM (fun m4 em4 => ?_)
      replace h := h m4 em4
      refine st_aload_n (pc := 47) dX10_spot_47 rfl rfl ?_
      refine sg_gfI (pc := 48) (J := 57) dX10_spot_48 fl_10_378 (by decide) rfl (by cases em4; cases em3; exact hk2) ?_
      exact st_ireturn (pc := 51) dX10_spot_51 (Or.inl rfl) h
    · replace h := h.2 c
      refine sg_iconst (pc := 25) dX10_spot_25 (by omega) ?_
      exact st_ireturn (pc := 26) dX10_spot_26 (Or.inl rfl) h

theorem sg_X10_wipe_0 {d bc bs : Nat} {a0 : Nat} {μ : Mem} {Q : Option (Option AV) → Mem → Prop}
    (h : mK μ a0 = 11 ∧ (∀ m1, m1 = sD μ a0 15 0 → ∀ v1, v1 = mD m1 a0 57 → (∀ m2, m2 = sD m1 a0 57 0 → Q (some (some (vi v1))) m2))) :
    Wp d bc bs mX10_wipe 0 [some (vr a0), none] [] μ Q := by
  refine st_aload_n (pc := 0) dX10_wipe_0 rfl rfl ?_
  refine sg_iconst (pc := 1) dX10_wipe_1 (by omega) ?_
  obtain ⟨hk1, h⟩ := h
  refine sg_pfI (pc := 2) (J := 15) dX10_wipe_2 fl_10_142 rfl (Or.inl rfl) hk1 ?_
  refine Wp.nameM (fun m1 em1 => ?_)
  replace h := h m1 em1
  refine st_aload_n (pc := 5) dX10_wipe_5 rfl rfl ?_
  refine sg_gfI (pc := 6) (J := 57) dX10_wipe_6 fl_10_378 (by decide) rfl (by cases em1; exact hk1) ?_
  refine sg_istore_n (pc := 9) (ls' := [some (vr a0), some (vi (mD m1 a0 57))]) dX10_wipe_9 rfl (by show (1 : Nat) < 2; decide) rfl ?_
  refine Wp.nameL (ls2 := fun v => [some (vr a0), some (vi v)]) 1 _ rfl (fun _ => rfl) (fun v1 ev1 => ?_)
  replace h := h v1 ev1
  refine st_aload_n (pc := 10) dX10_wipe_10 rfl rfl ?_
  refine sg_iconst (pc := 11) dX10_wipe_11 (by omega) ?_
  refine sg_pfI (pc := 12) (J := 57) dX10_wipe_12 fl_10_378 rfl (Or.inl rfl) (by cases em1; exact hk1) ?_
  refine Wp.nameM (fun m2 em2 => ?_)
  replace h := h m2 em2
  refine st_iload_n (pc := 15) dX10_wipe_15 rfl rfl ?_
  exact st_ireturn (pc := 16) dX10_wipe_16 (Or.inl rfl) h

theorem sg_X10_farFrom_0 {d bc bs : Nat} {a0 : Nat} {a1 : Int} {a2 : Int} {μ : Mem} {Q : Option (Option AV) → Mem → Prop}
    (h : mK μ a0 = 11 ∧ ((mK μ (mR μ a0 3) = 20 ∨ ((mR μ a0 3) ≠ 0 ∧ mK μ (mR μ a0 3) = 40)) ∧ ((0 : Int) ≤ 6 ∧ 6 < (mN μ (mR μ a0 3) : Int)) ∧ (∀ v1, v1 = mD μ (mR μ a0 3) 6 → mK μ (mR μ a0 3) = 20 ∧ ((0 : Int) ≤ 6 ∧ 6 < (mN μ (mR μ a0 3) : Int)) ∧ (∀ m1, m1 = sD μ (mR μ a0 3) 6 a2 → ∃ (mc1 ms1 : Nat) (K1 : Int → Mem → Prop), Cl d mc1 ms1 mX10_wholly [vr a0, vi a1, vi 1] m1 (KI K1) ∧ mc1 ≤ bc ∧ ms1 ≤ bs ∧ (∀ x1 m2, K1 x1 m2 → mK m2 a0 = 11 ∧ (mK m2 (mR m2 a0 3) = 20 ∧ ((0 : Int) ≤ 6 ∧ 6 < (mN m2 (mR m2 a0 3) : Int)) ∧ (∀ m3, m3 = sD m2 (mR m2 a0 3) 6 v1 → Wp (d + 1) (bc - mc1) (bs - ms1) mX10_farFrom 37 [some (vr a0), some (vi a1), some (vi a2), some (vi v1), some (vi 0), some (vi 0), none, none] [] m3 Q))))))) :
    Wp (d + 1) bc bs mX10_farFrom 0 [some (vr a0), some (vi a1), some (vi a2), none, none, none, none, none] [] μ Q := by
  refine st_aload_n (pc := 0) dX10_farFrom_0 rfl rfl ?_
  obtain ⟨hk1, h⟩ := h
  refine sg_gfR (pc := 1) (J := 3) dX10_farFrom_1 fl_10_19 rfl hk1 ?_
  refine sg_bipush (pc := 4) dX10_farFrom_4 (by omega) (by decide) ?_
  obtain ⟨hk2, h⟩ := h
  obtain ⟨h1, h⟩ := h
  refine sg_iaload (pc := 6) dX10_farFrom_6 hk2 h1 ?_
  refine sg_istore_n (pc := 7) (ls' := [some (vr a0), some (vi a1), some (vi a2), some (vi (mD μ (mR μ a0 3) 6)), none, none, none, none]) dX10_farFrom_7 rfl (by show (3 : Nat) < 8; decide) rfl ?_
  refine Wp.nameL (ls2 := fun v => [some (vr a0), some (vi a1), some (vi a2), some (vi v), none, none, none, none]) 3 _ rfl (fun _ => rfl) (fun v1 ev1 => ?_)
  replace h := h v1 ev1
  refine st_aload_n (pc := 8) dX10_farFrom_8 rfl rfl ?_
  refine sg_gfR (pc := 9) (J := 3) dX10_farFrom_9 fl_10_19 rfl hk1 ?_
  refine sg_bipush (pc := 12) dX10_farFrom_12 (by omega) (by decide) ?_
  refine st_iload_n (pc := 14) dX10_farFrom_14 rfl rfl ?_
  obtain ⟨hk3, h⟩ := h
  obtain ⟨h1, h⟩ := h
  refine st_iastore (pc := 15) dX10_farFrom_15 hk3 h1.1 h1.2 ?_
  refine Wp.nameM (fun m1 em1 => ?_)
  replace h := h m1 em1
  refine st_aload_n (pc := 16) dX10_farFrom_16 rfl rfl ?_
  refine st_iload_n (pc := 17) dX10_farFrom_17 rfl rfl ?_
  refine sg_iconst (pc := 18) dX10_farFrom_18 (by omega) ?_
  obtain ⟨mc1, ms1, K1, hC, e1, e2, h⟩ := h
  refine sg_VI (pc := 19) (av := [vi a1, vi 1]) (st := []) (K := K1) dX10_farFrom_19 ck_10_338 rfl (by decide) (by cases em1; exact hk1) (by show (0 : Nat) ≤ 8; decide) hC e1 e2 (fun x1 m2 hK => ?_) rfl
  replace h := h x1 m2 hK
  refine st_pop (pc := 22) dX10_farFrom_22 rfl ?_
  refine st_aload_n (pc := 23) dX10_farFrom_23 rfl rfl ?_
  obtain ⟨hk4, h⟩ := h
  refine sg_gfR (pc := 24) (J := 3) dX10_farFrom_24 fl_10_19 rfl hk4 ?_
  refine sg_bipush (pc := 27) dX10_farFrom_27 (by omega) (by decide) ?_
  refine st_iload_n (pc := 29) dX10_farFrom_29 rfl rfl ?_
  obtain ⟨hk5, h⟩ := h
  obtain ⟨h1, h⟩ := h
  refine st_iastore (pc := 30) dX10_farFrom_30 hk5 h1.1 h1.2 ?_
  refine Wp.nameM (fun m3 em3 => ?_)
  replace h := h m3 em3
  refine sg_iconst (pc := 31) dX10_farFrom_31 (by omega) ?_
  refine sg_istore (pc := 32) (ls' := [some (vr a0), some (vi a1), some (vi a2), some (vi v1), some (vi 0), none, none, none]) dX10_farFrom_32 (by show (4 : Nat) < 8; decide) rfl ?_
  refine sg_iconst (pc := 34) dX10_farFrom_34 (by omega) ?_
  refine sg_istore (pc := 35) (ls' := [some (vr a0), some (vi a1), some (vi a2), some (vi v1), some (vi 0), some (vi 0), none, none]) dX10_farFrom_35 (by show (5 : Nat) < 8; decide) rfl ?_
  exact h

theorem sg_X10_farFrom_37 {d bc bs : Nat} {a0 : Nat} {a1 : Int} {a2 : Int} {a3 : Int} {a4 : Int} {a5 : Int} {μ : Mem} {Q : Option (Option AV) → Mem → Prop}
    (h : mK μ a0 = 11 ∧ (((mD μ a0 57) ≤ a5 → Wp (d + 1) bc bs mX10_farFrom 110 [some (vr a0), some (vi a1), some (vi a2), some (vi a3), some (vi a4), some (vi 0), none, none] [] μ Q) ∧ (¬ (mD μ a0 57) ≤ a5 → Wp (d + 1) bc bs mX10_farFrom 54 [some (vr a0), some (vi a1), some (vi a2), some (vi a3), some (vi a4), some (vi a5), some (vi 1000), some (vi 0)] [] μ Q))) :
    Wp (d + 1) bc bs mX10_farFrom 37 [some (vr a0), some (vi a1), some (vi a2), some (vi a3), some (vi a4), some (vi a5), none, none] [] μ Q := by
  refine st_iload (pc := 37) dX10_farFrom_37 rfl ?_
  refine st_aload_n (pc := 39) dX10_farFrom_39 rfl rfl ?_
  obtain ⟨hk1, h⟩ := h
  refine sg_gfI (pc := 40) (J := 57) dX10_farFrom_40 fl_10_378 (by decide) rfl hk1 ?_
  refine st_icmpge (pc := 43) (tgt := 107) dX10_farFrom_43 rfl (fun c => ?_) (fun c => ?_)
  · replace h := h.1 c
    refine sg_iconst (pc := 107) dX10_farFrom_107 (by omega) ?_
    refine sg_istore (pc := 108) (ls' := [some (vr a0), some (vi a1), some (vi a2), some (vi a3), some (vi a4), some (vi 0), none, none]) dX10_farFrom_108 (by show (5 : Nat) < 8; decide) rfl ?_
    exact h
  · replace h := h.2 c
    refine sg_sipush (pc := 46) dX10_farFrom_46 (by omega) (by decide) ?_
    refine sg_istore (pc := 49) (ls' := [some (vr a0), some (vi a1), some (vi a2), some (vi a3), some (vi a4), some (vi a5), some (vi 1000), none]) dX10_farFrom_49 (by show (6 : Nat) < 8; decide) rfl ?_
    refine sg_iconst (pc := 51) dX10_farFrom_51 (by omega) ?_
    refine sg_istore (pc := 52) (ls' := [some (vr a0), some (vi a1), some (vi a2), some (vi a3), some (vi a4), some (vi a5), some (vi 1000), some (vi 0)]) dX10_farFrom_52 (by show (7 : Nat) < 8; decide) rfl ?_
    exact h

theorem sg_X10_farFrom_54 {d bc bs : Nat} {a0 : Nat} {a1 : Int} {a2 : Int} {a3 : Int} {a4 : Int} {a5 : Int} {a6 : Int} {a7 : Int} {μ : Mem} {Q : Option (Option AV) → Mem → Prop}
    (h : mK μ a0 = 11 ∧ (((mD μ a0 44) ≤ a7 → ∀ v1, v1 = w32 (a4 + a6) → ∀ v2, v2 = w32 (a5 + 1) → Wp (d + 1) bc bs mX10_farFrom 37 [some (vr a0), some (vi a1), some (vi a2), some (vi a3), some (vi v1), some (vi v2), none, none] [] μ Q) ∧ (¬ (mD μ a0 44) ≤ a7 → (mK μ (mR μ a0 43) = 20 ∨ ((mR μ a0 43) ≠ 0 ∧ mK μ (mR μ a0 43) = 40)) ∧ ((0 : Int) ≤ a7 ∧ a7 < (mN μ (mR μ a0 43) : Int)) ∧ ((mK μ (mR μ a0 58) = 20 ∨ ((mR μ a0 58) ≠ 0 ∧ mK μ (mR μ a0 58) = 40)) ∧ ((0 : Int) ≤ a5 ∧ a5 < (mN μ (mR μ a0 58) : Int)) ∧ (∃ (mc1 ms1 : Nat) (K1 : Int → Mem → Prop), Cl d mc1 ms1 mJ9_abs_0f7a4 [vi (w32 ((mD μ (mR μ a0 43) a7) - (mD μ (mR μ a0 58) a5)))] μ (KI K1) ∧ mc1 ≤ bc ∧ ms1 ≤ bs ∧ (∀ x1 m1, K1 x1 m1 → ∃ (mc2 ms2 : Nat) (K2 : Int → Mem → Prop), Cl d mc2 ms2 mJ9_min_7cf53 [vi a6, vi x1] m1 (KI K2) ∧ mc2 ≤ bc - mc1 ∧ ms2 ≤ bs - ms1 ∧ (∀ x2 m2, K2 x2 m2 → ∀ v3, v3 = w32 (a7 + 1) → Wp (d + 1) (bc - mc1 - mc2) (bs - ms1 - ms2) mX10_farFrom 54 [some (vr a0), some (vi a1), some (vi a2), some (vi a3), some (vi a4), some (vi a5), some (vi x2), some (vi v3)] [] m2 Q))))))) :
    Wp (d + 1) bc bs mX10_farFrom 54 [some (vr a0), some (vi a1), some (vi a2), some (vi a3), some (vi a4), some (vi a5), some (vi a6), some (vi a7)] [] μ Q := by
  refine st_iload (pc := 54) dX10_farFrom_54 rfl ?_
  refine st_aload_n (pc := 56) dX10_farFrom_56 rfl rfl ?_
  obtain ⟨hk1, h⟩ := h
  refine sg_gfI (pc := 57) (J := 44) dX10_farFrom_57 fl_10_300 (by decide) rfl hk1 ?_
  refine st_icmpge (pc := 60) (tgt := 94) dX10_farFrom_60 rfl (fun c => ?_) (fun c => ?_)
  · replace h := h.1 c
    refine st_iload (pc := 94) dX10_farFrom_94 rfl ?_
    refine st_iload (pc := 96) dX10_farFrom_96 rfl ?_
    refine st_iadd (pc := 98) dX10_farFrom_98 ?_
    refine sg_istore (pc := 99) (ls' := [some (vr a0), some (vi a1), some (vi a2), some (vi a3), some (vi (w32 (a4 + a6))), some (vi a5), some (vi a6), some (vi a7)]) dX10_farFrom_99 (by show (4 : Nat) < 8; decide) rfl ?_
    refine Wp.nameL (ls2 := fun v => [some (vr a0), some (vi a1), some (vi a2), some (vi a3), some (vi v), some (vi a5), some (vi a6), some (vi a7)]) 4 _ rfl (fun _ => rfl) (fun v1 ev1 => ?_)
    replace h := h v1 ev1
    refine sg_iinc (pc := 101) (ls' := [some (vr a0), some (vi a1), some (vi a2), some (vi a3), some (vi v1), some (vi (w32 (a5 + 1))), some (vi a6), some (vi a7)]) dX10_farFrom_101 rfl rfl ?_
    refine Wp.nameL (ls2 := fun v => [some (vr a0), some (vi a1), some (vi a2), some (vi a3), some (vi v1), some (vi v), some (vi a6), some (vi a7)]) 5 _ rfl (fun _ => rfl) (fun v2 ev2 => ?_)
    replace h := h v2 ev2
    refine st_goto (pc := 104) dX10_farFrom_104 rfl ?_
    refine Wp.drop 6 rfl ?_
    refine Wp.drop 7 rfl ?_
    exact h
  · replace h := h.2 c
    refine st_iload (pc := 63) dX10_farFrom_63 rfl ?_
    refine st_aload_n (pc := 65) dX10_farFrom_65 rfl rfl ?_
    refine sg_gfR (pc := 66) (J := 43) dX10_farFrom_66 fl_10_87 rfl hk1 ?_
    refine st_iload (pc := 69) dX10_farFrom_69 rfl ?_
    obtain ⟨hk2, h⟩ := h
    obtain ⟨h1, h⟩ := h
    refine sg_iaload (pc := 71) dX10_farFrom_71 hk2 h1 ?_
    refine st_aload_n (pc := 72) dX10_farFrom_72 rfl rfl ?_
    refine sg_gfR (pc := 73) (J := 58) dX10_farFrom_73 fl_10_117 rfl hk1 ?_
    refine st_iload (pc := 76) dX10_farFrom_76 rfl ?_
    obtain ⟨hk3, h⟩ := h
    obtain ⟨h1, h⟩ := h
    refine sg_iaload (pc := 78) dX10_farFrom_78 hk3 h1 ?_
    refine st_isub (pc := 79) dX10_farFrom_79 ?_
    obtain ⟨mc1, ms1, K1, hC, e1, e2, h⟩ := h
    refine sg_SI (pc := 80) (av := [vi (w32 ((mD μ (mR μ a0 43) a7) - (mD μ (mR μ a0 58) a5)))]) (st := [vi a6]) (K := K1) dX10_farFrom_80 ck_10_248 rfl (by show (1 : Nat) ≤ 8; decide) hC e1 e2 (fun x1 m1 hK => ?_) rfl
    replace h := h x1 m1 hK
    obtain ⟨mc2, ms2, K2, hC, e1, e2, h⟩ := h
    refine sg_SI (pc := 83) (av := [vi a6, vi x1]) (st := []) (K := K2) dX10_farFrom_83 ck_10_162 rfl (by show (0 : Nat) ≤ 8; decide) hC e1 e2 (fun x2 m2 hK => ?_) rfl
    replace h := h x2 m2 hK
    refine sg_istore (pc := 86) (ls' := [some (vr a0), some (vi a1), some (vi a2), some (vi a3), some (vi a4), some (vi a5), some (vi x2), some (vi a7)]) dX10_farFrom_86 (by show (6 : Nat) < 8; decide) rfl ?_
    refine sg_iinc (pc := 88) (ls' := [some (vr a0), some (vi a1), some (vi a2), some (vi a3), some (vi a4), some (vi a5), some (vi x2), some (vi (w32 (a7 + 1)))]) dX10_farFrom_88 rfl rfl ?_
    refine Wp.nameL (ls2 := fun v => [some (vr a0), some (vi a1), some (vi a2), some (vi a3), some (vi a4), some (vi a5), some (vi x2), some (vi v)]) 7 _ rfl (fun _ => rfl) (fun v3 ev3 => ?_)
    replace h := h v3 ev3
    refine st_goto (pc := 91) dX10_farFrom_91 rfl ?_
    exact h

theorem sg_X10_farFrom_110 {d bc bs : Nat} {a0 : Nat} {a1 : Int} {a2 : Int} {a3 : Int} {a4 : Int} {a5 : Int} {μ : Mem} {Q : Option (Option AV) → Mem → Prop}
    (h : mK μ a0 = 11 ∧ (((mD μ a0 44) ≤ a5 → Q (some (some (vi a4))) μ) ∧ (¬ (mD μ a0 44) ≤ a5 → Wp (d + 1) bc bs mX10_farFrom 127 [some (vr a0), some (vi a1), some (vi a2), some (vi a3), some (vi a4), some (vi a5), some (vi 1000), some (vi 0)] [] μ Q))) :
    Wp (d + 1) bc bs mX10_farFrom 110 [some (vr a0), some (vi a1), some (vi a2), some (vi a3), some (vi a4), some (vi a5), none, none] [] μ Q := by
  refine st_iload (pc := 110) dX10_farFrom_110 rfl ?_
  refine st_aload_n (pc := 112) dX10_farFrom_112 rfl rfl ?_
  obtain ⟨hk1, h⟩ := h
  refine sg_gfI (pc := 113) (J := 44) dX10_farFrom_113 fl_10_300 (by decide) rfl hk1 ?_
  refine st_icmpge (pc := 116) (tgt := 180) dX10_farFrom_116 rfl (fun c => ?_) (fun c => ?_)
  · replace h := h.1 c
    refine st_iload (pc := 180) dX10_farFrom_180 rfl ?_
    exact st_ireturn (pc := 182) dX10_farFrom_182 (Or.inl rfl) h
  · replace h := h.2 c
    refine sg_sipush (pc := 119) dX10_farFrom_119 (by omega) (by decide) ?_
    refine sg_istore (pc := 122) (ls' := [some (vr a0), some (vi a1), some (vi a2), some (vi a3), some (vi a4), some (vi a5), some (vi 1000), none]) dX10_farFrom_122 (by show (6 : Nat) < 8; decide) rfl ?_
    refine sg_iconst (pc := 124) dX10_farFrom_124 (by omega) ?_
    refine sg_istore (pc := 125) (ls' := [some (vr a0), some (vi a1), some (vi a2), some (vi a3), some (vi a4), some (vi a5), some (vi 1000), some (vi 0)]) dX10_farFrom_125 (by show (7 : Nat) < 8; decide) rfl ?_
    exact h

theorem sg_X10_farFrom_127 {d bc bs : Nat} {a0 : Nat} {a1 : Int} {a2 : Int} {a3 : Int} {a4 : Int} {a5 : Int} {a6 : Int} {a7 : Int} {μ : Mem} {Q : Option (Option AV) → Mem → Prop}
    (h : mK μ a0 = 11 ∧ (((mD μ a0 57) ≤ a7 → ∀ v1, v1 = w32 (a4 + a6) → ∀ v2, v2 = w32 (a5 + 1) → Wp (d + 1) bc bs mX10_farFrom 110 [some (vr a0), some (vi a1), some (vi a2), some (vi a3), some (vi v1), some (vi v2), none, none] [] μ Q) ∧ (¬ (mD μ a0 57) ≤ a7 → (mK μ (mR μ a0 43) = 20 ∨ ((mR μ a0 43) ≠ 0 ∧ mK μ (mR μ a0 43) = 40)) ∧ ((0 : Int) ≤ a5 ∧ a5 < (mN μ (mR μ a0 43) : Int)) ∧ ((mK μ (mR μ a0 58) = 20 ∨ ((mR μ a0 58) ≠ 0 ∧ mK μ (mR μ a0 58) = 40)) ∧ ((0 : Int) ≤ a7 ∧ a7 < (mN μ (mR μ a0 58) : Int)) ∧ (∃ (mc1 ms1 : Nat) (K1 : Int → Mem → Prop), Cl d mc1 ms1 mJ9_abs_0f7a4 [vi (w32 ((mD μ (mR μ a0 43) a5) - (mD μ (mR μ a0 58) a7)))] μ (KI K1) ∧ mc1 ≤ bc ∧ ms1 ≤ bs ∧ (∀ x1 m1, K1 x1 m1 → ∃ (mc2 ms2 : Nat) (K2 : Int → Mem → Prop), Cl d mc2 ms2 mJ9_min_7cf53 [vi a6, vi x1] m1 (KI K2) ∧ mc2 ≤ bc - mc1 ∧ ms2 ≤ bs - ms1 ∧ (∀ x2 m2, K2 x2 m2 → ∀ v3, v3 = w32 (a7 + 1) → Wp (d + 1) (bc - mc1 - mc2) (bs - ms1 - ms2) mX10_farFrom 127 [some (vr a0), some (vi a1), some (vi a2), some (vi a3), some (vi a4), some (vi a5), some (vi x2), some (vi v3)] [] m2 Q))))))) :
    Wp (d + 1) bc bs mX10_farFrom 127 [some (vr a0), some (vi a1), some (vi a2), some (vi a3), some (vi a4), some (vi a5), some (vi a6), some (vi a7)] [] μ Q := by
  refine st_iload (pc := 127) dX10_farFrom_127 rfl ?_
  refine st_aload_n (pc := 129) dX10_farFrom_129 rfl rfl ?_
  obtain ⟨hk1, h⟩ := h
  refine sg_gfI (pc := 130) (J := 57) dX10_farFrom_130 fl_10_378 (by decide) rfl hk1 ?_
  refine st_icmpge (pc := 133) (tgt := 167) dX10_farFrom_133 rfl (fun c => ?_) (fun c => ?_)
  · replace h := h.1 c
    refine st_iload (pc := 167) dX10_farFrom_167 rfl ?_
    refine st_iload (pc := 169) dX10_farFrom_169 rfl ?_
    refine st_iadd (pc := 171) dX10_farFrom_171 ?_
    refine sg_istore (pc := 172) (ls' := [some (vr a0), some (vi a1), some (vi a2), some (vi a3), some (vi (w32 (a4 + a6))), some (vi a5), some (vi a6), some (vi a7)]) dX10_farFrom_172 (by show (4 : Nat) < 8; decide) rfl ?_
    refine Wp.nameL (ls2 := fun v => [some (vr a0), some (vi a1), some (vi a2), some (vi a3), some (vi v), some (vi a5), some (vi a6), some (vi a7)]) 4 _ rfl (fun _ => rfl) (fun v1 ev1 => ?_)
    replace h := h v1 ev1
    refine sg_iinc (pc := 174) (ls' := [some (vr a0), some (vi a1), some (vi a2), some (vi a3), some (vi v1), some (vi (w32 (a5 + 1))), some (vi a6), some (vi a7)]) dX10_farFrom_174 rfl rfl ?_
    refine Wp.nameL (ls2 := fun v => [some (vr a0), some (vi a1), some (vi a2), some (vi a3), some (vi v1), some (vi v), some (vi a6), some (vi a7)]) 5 _ rfl (fun _ => rfl) (fun v2 ev2 => ?_)
    replace h := h v2 ev2
    refine st_goto (pc := 177) dX10_farFrom_177 rfl ?_
    refine Wp.drop 6 rfl ?_
    refine Wp.drop 7 rfl ?_
    exact h
  · replace h := h.2 c
    refine st_iload (pc := 136) dX10_farFrom_136 rfl ?_
    refine st_aload_n (pc := 138) dX10_farFrom_138 rfl rfl ?_
    refine sg_gfR (pc := 139) (J := 43) dX10_farFrom_139 fl_10_87 rfl hk1 ?_
    refine st_iload (pc := 142) dX10_farFrom_142 rfl ?_
    obtain ⟨hk2, h⟩ := h
    obtain ⟨h1, h⟩ := h
    refine sg_iaload (pc := 144) dX10_farFrom_144 hk2 h1 ?_
    refine st_aload_n (pc := 145) dX10_farFrom_145 rfl rfl ?_
    refine sg_gfR (pc := 146) (J := 58) dX10_farFrom_146 fl_10_117 rfl hk1 ?_
    refine st_iload (pc := 149) dX10_farFrom_149 rfl ?_
    obtain ⟨hk3, h⟩ := h
    obtain ⟨h1, h⟩ := h
    refine sg_iaload (pc := 151) dX10_farFrom_151 hk3 h1 ?_
    refine st_isub (pc := 152) dX10_farFrom_152 ?_
    obtain ⟨mc1, ms1, K1, hC, e1, e2, h⟩ := h
    refine sg_SI (pc := 153) (av := [vi (w32 ((mD μ (mR μ a0 43) a5) - (mD μ (mR μ a0 58) a7)))]) (st := [vi a6]) (K := K1) dX10_farFrom_153 ck_10_248 rfl (by show (1 : Nat) ≤ 8; decide) hC e1 e2 (fun x1 m1 hK => ?_) rfl
    replace h := h x1 m1 hK
    obtain ⟨mc2, ms2, K2, hC, e1, e2, h⟩ := h
    refine sg_SI (pc := 156) (av := [vi a6, vi x1]) (st := []) (K := K2) dX10_farFrom_156 ck_10_162 rfl (by show (0 : Nat) ≤ 8; decide) hC e1 e2 (fun x2 m2 hK => ?_) rfl
    replace h := h x2 m2 hK
    refine sg_istore (pc := 159) (ls' := [some (vr a0), some (vi a1), some (vi a2), some (vi a3), some (vi a4), some (vi a5), some (vi x2), some (vi a7)]) dX10_farFrom_159 (by show (6 : Nat) < 8; decide) rfl ?_
    refine sg_iinc (pc := 161) (ls' := [some (vr a0), some (vi a1), some (vi a2), some (vi a3), some (vi a4), some (vi a5), some (vi x2), some (vi (w32 (a7 + 1)))]) dX10_farFrom_161 rfl rfl ?_
    refine Wp.nameL (ls2 := fun v => [some (vr a0), some (vi a1), some (vi a2), some (vi a3), some (vi a4), some (vi a5), some (vi x2), some (vi v)]) 7 _ rfl (fun _ => rfl) (fun v3 ev3 => ?_)
    replace h := h v3 ev3
    refine st_goto (pc := 164) dX10_farFrom_164 rfl ?_
    exact h

theorem sg_X10_far_0 {d bc bs : Nat} {a0 : Nat} {a1 : Int} {a2 : Int} {μ : Mem} {Q : Option (Option AV) → Mem → Prop}
    (h : mK μ a0 = 11 ∧ (∀ m1, m1 = sD μ a0 15 0 → ∃ (mc1 ms1 : Nat) (K1 : Int → Mem → Prop), Cl d mc1 ms1 mX10_isWalk [vi a1] m1 (KI K1) ∧ mc1 ≤ bc ∧ ms1 ≤ bs ∧ (∀ x1 m2, K1 x1 m2 → (x1 = 0 → Q (some (some (vi (-1)))) m2) ∧ (¬ x1 = 0 → (a2 = 3 → Wp (d + 1) (bc - mc1) (bs - ms1) mX10_far 25 [some (vr a0), some (vi a1), some (vi a2)] [] m2 Q) ∧ (¬ a2 = 3 → mK m2 a0 = 11 ∧ ∃ (mc2 ms2 : Nat) (K2 : Int → Mem → Prop), Cl d mc2 ms2 mX10_isLaw [vr a0, vi a2] m2 (KI K2) ∧ mc2 ≤ bc - mc1 ∧ ms2 ≤ bs - ms1 ∧ (∀ x2 m3, K2 x2 m3 → (x2 = 0 → Q (some (some (vi (-1)))) m3) ∧ (¬ x2 = 0 → Wp (d + 1) (bc - mc1 - mc2) (bs - ms1 - ms2) mX10_far 25 [some (vr a0), some (vi a1), some (vi a2)] [] m3 Q))))))) :
    Wp (d + 1) bc bs mX10_far 0 [some (vr a0), some (vi a1), some (vi a2)] [] μ Q := by
  refine st_aload_n (pc := 0) dX10_far_0 rfl rfl ?_
  refine sg_iconst (pc := 1) dX10_far_1 (by omega) ?_
  obtain ⟨hk1, h⟩ := h
  refine sg_pfI (pc := 2) (J := 15) dX10_far_2 fl_10_142 rfl (Or.inl rfl) hk1 ?_
  refine Wp.nameM (fun m1 em1 => ?_)
  replace h := h m1 em1
  refine st_iload_n (pc := 5) dX10_far_5 rfl rfl ?_
  obtain ⟨mc1, ms1, K1, hC, e1, e2, h⟩ := h
  refine sg_SI (pc := 6) (av := [vi a1]) (st := []) (K := K1) dX10_far_6 ck_10_245 rfl (by show (0 : Nat) ≤ 8; decide) hC e1 e2 (fun x1 m2 hK => ?_) rfl
  replace h := h x1 m2 hK
  refine st_ifeq (pc := 9) (tgt := 34) dX10_far_9 rfl (fun c => ?_) (fun c => ?_)
  · replace h := h.1 c
    refine sg_iconst (pc := 34) dX10_far_34 (by omega) ?_
    exact st_ireturn (pc := 35) dX10_far_35 (Or.inl rfl) h
  · replace h := h.2 c
    refine st_iload_n (pc := 12) dX10_far_12 rfl rfl ?_
    refine sg_iconst (pc := 13) dX10_far_13 (by omega) ?_
    refine st_icmpeq (pc := 14) (tgt := 25) dX10_far_14 rfl (fun c => ?_) (fun c => ?_)
    · replace h := h.1 c
      exact h
    · replace h := h.2 c
      refine st_aload_n (pc := 17) dX10_far_17 rfl rfl ?_
      refine st_iload_n (pc := 18) dX10_far_18 rfl rfl ?_
      obtain ⟨hk2, h⟩ := h
      obtain ⟨mc2, ms2, K2, hC, e1, e2, h⟩ := h
      refine sg_VI (pc := 19) (av := [vi a2]) (st := []) (K := K2) dX10_far_19 ck_10_280 rfl (by decide) hk2 (by show (0 : Nat) ≤ 8; decide) hC e1 e2 (fun x2 m3 hK => ?_) rfl
      replace h := h x2 m3 hK
      refine st_ifeq (pc := 22) (tgt := 34) dX10_far_22 rfl (fun c => ?_) (fun c => ?_)
      · replace h := h.1 c
        refine sg_iconst (pc := 34) dX10_far_34 (by omega) ?_
        exact st_ireturn (pc := 35) dX10_far_35 (Or.inl rfl) h
      · replace h := h.2 c
        exact h

theorem sg_X10_far_25 {d bc bs : Nat} {a0 : Nat} {a1 : Int} {a2 : Int} {μ : Mem} {Q : Option (Option AV) → Mem → Prop}
    (h : mK μ a0 = 11 ∧ ∃ (mc1 ms1 : Nat) (K1 : Int → Mem → Prop), Cl d mc1 ms1 mX10_farFrom [vr a0, vi a1, vi a2] μ (KI K1) ∧ mc1 ≤ bc ∧ ms1 ≤ bs ∧ (∀ x1 m1, K1 x1 m1 → Q (some (some (vi x1))) m1)) :
    Wp (d + 1) bc bs mX10_far 25 [some (vr a0), some (vi a1), some (vi a2)] [] μ Q := by
  refine st_aload_n (pc := 25) dX10_far_25 rfl rfl ?_
  refine st_iload_n (pc := 26) dX10_far_26 rfl rfl ?_
  refine st_iload_n (pc := 27) dX10_far_27 rfl rfl ?_
  obtain ⟨hk1, h⟩ := h
  obtain ⟨mc1, ms1, K1, hC, e1, e2, h⟩ := h
  refine sg_VI (pc := 28) (av := [vi a1, vi a2]) (st := []) (K := K1) dX10_far_28 ck_10_381 rfl (by decide) hk1 (by show (0 : Nat) ≤ 8; decide) hC e1 e2 (fun x1 m1 hK => ?_) rfl
  replace h := h x1 m1 hK
  refine st_goto (pc := 31) dX10_far_31 rfl ?_
  exact st_ireturn (pc := 35) dX10_far_35 (Or.inl rfl) h

theorem sg_X10_who_0 {d bc bs : Nat} {a0 : Nat} {μ : Mem} {Q : Option (Option AV) → Mem → Prop}
    (h : mK μ a0 = 11 ∧ (∀ m1, m1 = sD μ a0 15 0 → Wp (d + 1) bc bs mX10_who 17 [some (vr a0), some (vi (-1)), some (vi (-1)), some (vi 0), some (vi 0), some (vi 0), none, none] [] m1 Q)) :
    Wp (d + 1) bc bs mX10_who 0 [some (vr a0), none, none, none, none, none, none, none] [] μ Q := by
  refine st_aload_n (pc := 0) dX10_who_0 rfl rfl ?_
  refine sg_iconst (pc := 1) dX10_who_1 (by omega) ?_
  obtain ⟨hk1, h⟩ := h
  refine sg_pfI (pc := 2) (J := 15) dX10_who_2 fl_10_142 rfl (Or.inl rfl) hk1 ?_
  refine Wp.nameM (fun m1 em1 => ?_)
  replace h := h m1 em1
  refine sg_iconst (pc := 5) dX10_who_5 (by omega) ?_
  refine sg_istore_n (pc := 6) (ls' := [some (vr a0), some (vi (-1)), none, none, none, none, none, none]) dX10_who_6 rfl (by show (1 : Nat) < 8; decide) rfl ?_
  refine sg_iconst (pc := 7) dX10_who_7 (by omega) ?_
  refine sg_istore_n (pc := 8) (ls' := [some (vr a0), some (vi (-1)), some (vi (-1)), none, none, none, none, none]) dX10_who_8 rfl (by show (2 : Nat) < 8; decide) rfl ?_
  refine sg_iconst (pc := 9) dX10_who_9 (by omega) ?_
  refine sg_istore_n (pc := 10) (ls' := [some (vr a0), some (vi (-1)), some (vi (-1)), some (vi 0), none, none, none, none]) dX10_who_10 rfl (by show (3 : Nat) < 8; decide) rfl ?_
  refine sg_iconst (pc := 11) dX10_who_11 (by omega) ?_
  refine sg_istore (pc := 12) (ls' := [some (vr a0), some (vi (-1)), some (vi (-1)), some (vi 0), some (vi 0), none, none, none]) dX10_who_12 (by show (4 : Nat) < 8; decide) rfl ?_
  refine sg_iconst (pc := 14) dX10_who_14 (by omega) ?_
  refine sg_istore (pc := 15) (ls' := [some (vr a0), some (vi (-1)), some (vi (-1)), some (vi 0), some (vi 0), some (vi 0), none, none]) dX10_who_15 (by show (5 : Nat) < 8; decide) rfl ?_
  exact h

theorem sg_X10_who_17 {d bc bs : Nat} {a0 : Nat} {a1 : Int} {a2 : Int} {a3 : Int} {a4 : Int} {a5 : Int} {μ : Mem} {Q : Option (Option AV) → Mem → Prop}
    (h : (4 ≤ a5 → (¬ a1 = (-1) → mK μ a0 = 11 ∧ (∀ m1, m1 = sD μ a0 14 0 → ∃ (mc1 ms1 : Nat) (K1 : Mem → Prop), Cl d mc1 ms1 mX10_tell [vr a0, vl a1] m1 (KV K1) ∧ mc1 ≤ bc ∧ ms1 ≤ bs ∧ (∀ m2, K1 m2 → mK m2 a0 = 11 ∧ ∃ (mc2 ms2 : Nat) (K2 : Mem → Prop), Cl d mc2 ms2 mX10_tell [vr a0, vl a2] m2 (KV K2) ∧ mc2 ≤ bc - mc1 ∧ ms2 ≤ bs - ms1 ∧ (∀ m3, K2 m3 → mK m3 a0 = 11 ∧ ∃ (mc3 ms3 : Nat) (K3 : Mem → Prop), Cl d mc3 ms3 mX10_tell [vr a0, vl a4] m3 (KV K3) ∧ mc3 ≤ bc - mc1 - mc2 ∧ ms3 ≤ bs - ms1 - ms2 ∧ (∀ m4, K3 m4 → Q (some (some (vi a3))) m4))))) ∧ (a1 = (-1) → Q (some (some (vi (-2)))) μ)) ∧ (¬ 4 ≤ a5 → Wp (d + 1) bc bs mX10_who 26 [some (vr a0), some (vi a1), some (vi a2), some (vi a3), some (vi a4), some (vi a5), some (vi 0), none] [] μ Q)) :
    Wp (d + 1) bc bs mX10_who 17 [some (vr a0), some (vi a1), some (vi a2), some (vi a3), some (vi a4), some (vi a5), none, none] [] μ Q := by
  refine st_iload (pc := 17) dX10_who_17 rfl ?_
  refine sg_iconst (pc := 19) dX10_who_19 (by omega) ?_
  refine st_icmpge (pc := 20) (tgt := 125) dX10_who_20 rfl (fun c => ?_) (fun c => ?_)
  · replace h := h.1 c
    refine st_iload_n (pc := 125) dX10_who_125 rfl rfl ?_
    refine sg_iconst (pc := 126) dX10_who_126 (by omega) ?_
    refine st_icmpne (pc := 127) (tgt := 133) dX10_who_127 rfl (fun c => ?_) (fun c => ?_)
    · replace h := h.1 c
      refine st_aload_n (pc := 133) dX10_who_133 rfl rfl ?_
      refine sg_iconst (pc := 134) dX10_who_134 (by omega) ?_
      obtain ⟨hk1, h⟩ := h
      refine sg_pfI (pc := 135) (J := 14) dX10_who_135 fl_10_145 rfl (Or.inl rfl) hk1 ?_
      refine Wp.nameM (fun m1 em1 => ?_)
      replace h := h m1 em1
      refine st_aload_n (pc := 138) dX10_who_138 rfl rfl ?_
      refine st_iload_n (pc := 139) dX10_who_139 rfl rfl ?_
      refine st_i2l (pc := 140) dX10_who_140 ?_
      obtain ⟨mc1, ms1, K1, hC, e1, e2, h⟩ := h
      refine sg_VV (pc := 141) (av := [vl a1]) (st := []) (K := K1) dX10_who_141 ck_10_252 rfl (by decide) (by cases em1; exact hk1) (by show (0 : Nat) ≤ 8; decide) hC e1 e2 (fun m2 hK => ?_) rfl
      replace h := h m2 hK
      refine st_aload_n (pc := 144) dX10_who_144 rfl rfl ?_
      refine st_iload_n (pc := 145) dX10_who_145 rfl rfl ?_
      refine st_i2l (pc := 146) dX10_who_146 ?_
      obtain ⟨hk2, h⟩ := h
      obtain ⟨mc2, ms2, K2, hC, e1, e2, h⟩ := h
      refine sg_VV (pc := 147) (av := [vl a2]) (st := []) (K := K2) dX10_who_147 ck_10_252 rfl (by decide) hk2 (by show (0 : Nat) ≤ 8; decide) hC e1 e2 (fun m3 hK => ?_) rfl
      replace h := h m3 hK
      refine st_aload_n (pc := 150) dX10_who_150 rfl rfl ?_
      refine st_iload (pc := 151) dX10_who_151 rfl ?_
      refine st_i2l (pc := 153) dX10_who_153 ?_
      obtain ⟨hk3, h⟩ := h
      obtain ⟨mc3, ms3, K3, hC, e1, e2, h⟩ := h
      refine sg_VV (pc := 154) (av := [vl a4]) (st := []) (K := K3) dX10_who_154 ck_10_252 rfl (by decide) hk3 (by show (0 : Nat) ≤ 8; decide) hC e1 e2 (fun m4 hK => ?_) rfl
      replace h := h m4 hK
      refine st_iload_n (pc := 157) dX10_who_157 rfl rfl ?_
      exact st_ireturn (pc := 158) dX10_who_158 (Or.inl rfl) h
    · replace h := h.2 c
      refine sg_bipush (pc := 130) dX10_who_130 (by omega) (by decide) ?_
      exact st_ireturn (pc := 132) dX10_who_132 (Or.inl rfl) h
  · replace h := h.2 c
    refine sg_iconst (pc := 23) dX10_who_23 (by omega) ?_
    refine sg_istore (pc := 24) (ls' := [some (vr a0), some (vi a1), some (vi a2), some (vi a3), some (vi a4), some (vi a5), some (vi 0), none]) dX10_who_24 (by show (6 : Nat) < 8; decide) rfl ?_
    exact h

theorem sg_X10_who_26 {d bc bs : Nat} {a0 : Nat} {a1 : Int} {a2 : Int} {a3 : Int} {a4 : Int} {a5 : Int} {a6 : Int} {μ : Mem} {Q : Option (Option AV) → Mem → Prop}
    (h : (3 < a6 → ∀ v1, v1 = w32 (a5 + 1) → Wp (d + 1) bc bs mX10_who 17 [some (vr a0), some (vi a1), some (vi a2), some (vi a3), some (vi a4), some (vi v1), none, none] [] μ Q) ∧ (¬ 3 < a6 → mK μ a0 = 11 ∧ ((mK μ (mR μ a0 22) = 20 ∨ ((mR μ a0 22) ≠ 0 ∧ mK μ (mR μ a0 22) = 40)) ∧ ((0 : Int) ≤ a5 ∧ a5 < (mN μ (mR μ a0 22) : Int)) ∧ (((mD μ (mR μ a0 22) a5) = 0 → ∀ v2, v2 = w32 (a6 + 1) → Wp (d + 1) bc bs mX10_who 26 [some (vr a0), some (vi a1), some (vi a2), some (vi a3), some (vi a4), some (vi a5), some (vi v2), none] [] μ Q) ∧ (¬ (mD μ (mR μ a0 22) a5) = 0 → (a6 = 3 → Wp (d + 1) bc bs mX10_who 60 [some (vr a0), some (vi a1), some (vi a2), some (vi a3), some (vi a4), some (vi a5), some (vi a6), none] [] μ Q) ∧ (¬ a6 = 3 → ∃ (mc1 ms1 : Nat) (K1 : Int → Mem → Prop), Cl d mc1 ms1 mX10_isLaw [vr a0, vi a6] μ (KI K1) ∧ mc1 ≤ bc ∧ ms1 ≤ bs ∧ (∀ x1 m1, K1 x1 m1 → (¬ x1 = 0 → Wp (d + 1) (bc - mc1) (bs - ms1) mX10_who 60 [some (vr a0), some (vi a1), some (vi a2), some (vi a3), some (vi a4), some (vi a5), some (vi a6), none] [] m1 Q) ∧ (x1 = 0 → ∀ v3, v3 = w32 (a6 + 1) → Wp (d + 1) (bc - mc1) (bs - ms1) mX10_who 26 [some (vr a0), some (vi a1), some (vi a2), some (vi a3), some (vi a4), some (vi a5), some (vi v3), none] [] m1 Q)))))))) :
    Wp (d + 1) bc bs mX10_who 26 [some (vr a0), some (vi a1), some (vi a2), some (vi a3), some (vi a4), some (vi a5), some (vi a6), none] [] μ Q := by
  refine st_iload (pc := 26) dX10_who_26 rfl ?_
  refine sg_iconst (pc := 28) dX10_who_28 (by omega) ?_
  refine st_icmpgt (pc := 29) (tgt := 119) dX10_who_29 rfl (fun c => ?_) (fun c => ?_)
  · replace h := h.1 c
    refine sg_iinc (pc := 119) (ls' := [some (vr a0), some (vi a1), some (vi a2), some (vi a3), some (vi a4), some (vi (w32 (a5 + 1))), some (vi a6), none]) dX10_who_119 rfl rfl ?_
    refine Wp.nameL (ls2 := fun v => [some (vr a0), some (vi a1), some (vi a2), some (vi a3), some (vi a4), some (vi v), some (vi a6), none]) 5 _ rfl (fun _ => rfl) (fun v1 ev1 => ?_)
    replace h := h v1 ev1
    refine st_goto (pc := 122) dX10_who_122 rfl ?_
    refine Wp.drop 6 rfl ?_
    exact h
  · replace h := h.2 c
    refine st_aload_n (pc := 32) dX10_who_32 rfl rfl ?_
    obtain ⟨hk1, h⟩ := h
    refine sg_gfR (pc := 33) (J := 22) dX10_who_33 fl_10_49 rfl hk1 ?_
    refine st_iload (pc := 36) dX10_who_36 rfl ?_
    obtain ⟨hk2, h⟩ := h
    obtain ⟨h1, h⟩ := h
    refine sg_iaload (pc := 38) dX10_who_38 hk2 h1 ?_
    refine st_ifeq (pc := 39) (tgt := 113) dX10_who_39 rfl (fun c => ?_) (fun c => ?_)
    · replace h := h.1 c
      refine sg_iinc (pc := 113) (ls' := [some (vr a0), some (vi a1), some (vi a2), some (vi a3), some (vi a4), some (vi a5), some (vi (w32 (a6 + 1))), none]) dX10_who_113 rfl rfl ?_
      refine Wp.nameL (ls2 := fun v => [some (vr a0), some (vi a1), some (vi a2), some (vi a3), some (vi a4), some (vi a5), some (vi v), none]) 6 _ rfl (fun _ => rfl) (fun v2 ev2 => ?_)
      replace h := h v2 ev2
      refine st_goto (pc := 116) dX10_who_116 rfl ?_
      exact h
    · replace h := h.2 c
      refine st_iload (pc := 42) dX10_who_42 rfl ?_
      refine sg_iconst (pc := 44) dX10_who_44 (by omega) ?_
      refine st_icmpeq (pc := 45) (tgt := 60) dX10_who_45 rfl (fun c => ?_) (fun c => ?_)
      · replace h := h.1 c
        exact h
      · replace h := h.2 c
        refine st_aload_n (pc := 48) dX10_who_48 rfl rfl ?_
        refine st_iload (pc := 49) dX10_who_49 rfl ?_
        obtain ⟨mc1, ms1, K1, hC, e1, e2, h⟩ := h
        refine sg_VI (pc := 51) (av := [vi a6]) (st := []) (K := K1) dX10_who_51 ck_10_280 rfl (by decide) hk1 (by show (0 : Nat) ≤ 8; decide) hC e1 e2 (fun x1 m1 hK => ?_) rfl
        replace h := h x1 m1 hK
        refine st_ifne (pc := 54) (tgt := 60) dX10_who_54 rfl (fun c => ?_) (fun c => ?_)
        · replace h := h.1 c
          exact h
        · replace h := h.2 c
          refine st_goto (pc := 57) dX10_who_57 rfl ?_
          refine sg_iinc (pc := 113) (ls' := [some (vr a0), some (vi a1), some (vi a2), some (vi a3), some (vi a4), some (vi a5), some (vi (w32 (a6 + 1))), none]) dX10_who_113 rfl rfl ?_
          refine Wp.nameL (ls2 := fun v => [some (vr a0), some (vi a1), some (vi a2), some (vi a3), some (vi a4), some (vi a5), some (vi v), none]) 6 _ rfl (fun _ => rfl) (fun v3 ev3 => ?_)
          replace h := h v3 ev3
          refine st_goto (pc := 116) dX10_who_116 rfl ?_
          exact h

theorem sg_X10_who_60 {d bc bs : Nat} {a0 : Nat} {a1 : Int} {a2 : Int} {a3 : Int} {a4 : Int} {a5 : Int} {a6 : Int} {μ : Mem} {Q : Option (Option AV) → Mem → Prop}
    (h : mK μ a0 = 11 ∧ ∃ (mc1 ms1 : Nat) (K1 : Int → Mem → Prop), Cl d mc1 ms1 mX10_farFrom [vr a0, vi a5, vi a6] μ (KI K1) ∧ mc1 ≤ bc ∧ ms1 ≤ bs ∧ (∀ x1 m1, K1 x1 m1 → (a1 = (-1) → Wp (d + 1) (bc - mc1) (bs - ms1) mX10_who 84 [some (vr a0), some (vi a1), some (vi a2), some (vi a3), some (vi a4), some (vi a5), some (vi a6), some (vi x1)] [] m1 Q) ∧ (¬ a1 = (-1) → (x1 ≤ a3 → Wp (d + 1) (bc - mc1) (bs - ms1) mX10_who 84 [some (vr a0), some (vi a1), some (vi a2), some (vi a3), some (vi a4), some (vi a5), some (vi a6), some (vi x1)] [] m1 Q) ∧ (¬ x1 ≤ a3 → ∀ v1, v1 = w32 (a6 + 1) → Wp (d + 1) (bc - mc1) (bs - ms1) mX10_who 26 [some (vr a0), some (vi a1), some (vi a2), some (vi a3), some (vi a4), some (vi a5), some (vi v1), none] [] m1 Q)))) :
    Wp (d + 1) bc bs mX10_who 60 [some (vr a0), some (vi a1), some (vi a2), some (vi a3), some (vi a4), some (vi a5), some (vi a6), none] [] μ Q := by
  refine st_aload_n (pc := 60) dX10_who_60 rfl rfl ?_
  refine st_iload (pc := 61) dX10_who_61 rfl ?_
  refine st_iload (pc := 63) dX10_who_63 rfl ?_
  obtain ⟨hk1, h⟩ := h
  obtain ⟨mc1, ms1, K1, hC, e1, e2, h⟩ := h
  refine sg_VI (pc := 65) (av := [vi a5, vi a6]) (st := []) (K := K1) dX10_who_65 ck_10_381 rfl (by decide) hk1 (by show (0 : Nat) ≤ 8; decide) hC e1 e2 (fun x1 m1 hK => ?_) rfl
  replace h := h x1 m1 hK
  refine sg_istore (pc := 68) (ls' := [some (vr a0), some (vi a1), some (vi a2), some (vi a3), some (vi a4), some (vi a5), some (vi a6), some (vi x1)]) dX10_who_68 (by show (7 : Nat) < 8; decide) rfl ?_
  refine st_iload_n (pc := 70) dX10_who_70 rfl rfl ?_
  refine sg_iconst (pc := 71) dX10_who_71 (by omega) ?_
  refine st_icmpeq (pc := 72) (tgt := 84) dX10_who_72 rfl (fun c => ?_) (fun c => ?_)
  · replace h := h.1 c
    exact h
  · replace h := h.2 c
    refine st_iload (pc := 75) dX10_who_75 rfl ?_
    refine st_iload_n (pc := 77) dX10_who_77 rfl rfl ?_
    refine st_icmple (pc := 78) (tgt := 84) dX10_who_78 rfl (fun c => ?_) (fun c => ?_)
    · replace h := h.1 c
      exact h
    · replace h := h.2 c
      refine st_goto (pc := 81) dX10_who_81 rfl ?_
      refine sg_iinc (pc := 113) (ls' := [some (vr a0), some (vi a1), some (vi a2), some (vi a3), some (vi a4), some (vi a5), some (vi (w32 (a6 + 1))), some (vi x1)]) dX10_who_113 rfl rfl ?_
      refine Wp.nameL (ls2 := fun v => [some (vr a0), some (vi a1), some (vi a2), some (vi a3), some (vi a4), some (vi a5), some (vi v), some (vi x1)]) 6 _ rfl (fun _ => rfl) (fun v1 ev1 => ?_)
      replace h := h v1 ev1
      refine st_goto (pc := 116) dX10_who_116 rfl ?_
      refine Wp.drop 7 rfl ?_
      exact h

