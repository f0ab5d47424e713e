/-! ===== the model's WALK, read: STEPS, letters ===== -/
section MWK2
variable {d n1 : Nat} {W : Nat → Nat} {D : DD} {t : Int → Int} {en : Int} {p : Ps} {v : Wv} {wa : Int}
theorem m_steps {Q : Option (Option AV) → Mem → Prop} {a1 a2 a3 a4 x6 x7 x8 x9 : Int} {G : DD} {pz : Ps} {y6 y7 y8 y9 : Int} (hb : 0 ≤ D 152 32 ∧ D 152 32 ≤ 1000) (hv : mwv D a2 = v ∧ D 152 33 = wa ∧ 0 ≤ a2 ∧ a2 ≤ D 152 32) (f : Fr mxF D G) (T : MxR G W t en (if pz.2 = -1 ∧ ¬ D 152 32 + x7 * x9 ≤ 1000 then (pz.1, pz.1 - 1) else pz))
    (b7 : 0 ≤ x7 ∧ x7 ≤ 999) (b9 : 0 ≤ x9 ∧ x9 ≤ 999) (good : pz.2 = -1 → (x6 = y6 ∧ x7 = y7 ∧ x8 = y8 ∧ x9 = y9) ∧ (2 ≤ x7 ∧ x7 ≤ 40) ∧ (1 ≤ x9 ∧ x9 ≤ 50)) (hpos : pz.2 = -1 → 1 ≤ pz.1) (k : W434 d n1 W a1 a3 Q D t en (zroom (y7 * y9) pz v (wSteps' v wa y6 y7 y8 y9) wa)) :
    Wp (d + 4) 0 0 mX10_walk 173 [some (vr 152), some (vi a1), some (vi a2), some (vi a3), some (vi a4), some (vi x6), some (vi x7), some (vi x8), some (vi x9), some (vi 0)] [] (G, rho n1 W) Q := by
  obtain ⟨c1, c2, c3⟩ := mxw (s := a2) f
  have hm0 : 0 ≤ x7 * x9 := Int.mul_nonneg b7.1 b9.1
  have hm1 : x7 * x9 ≤ 999 * 999 := Int.le_trans (Int.mul_le_mul_of_nonneg_right b7.2 b9.1) (Int.mul_le_mul_of_nonneg_left b9.2 (by decide))
  have em : w32 (x7 * x9) = x7 * x9 := w32_id (by omega) (by omega)
  by_cases hr : pz.2 = -1 ∧ D 152 32 + x7 * x9 ≤ 1000
  · rw [if_neg (fun z => z.2 hr.2)] at T
    obtain ⟨⟨g6, g7, g8, g9⟩, r7, r9⟩ := good hr.1
    have kt : wTicks v = D 152 32 := by rw [← hv.1]; rfl
    have ks : wSteps v = a2 := by rw [← hv.1]; rfl
    have hmm : 1 * x9 ≤ x7 * x9 := Int.mul_le_mul_of_nonneg_right (by omega) (by omega)
    refine Wp.loop (σ := Int) (fun i => [some (vr 152), some (vi a1), some (vi a2), some (vi a3), some (vi a4), some (vi x6), some (vi x7), some (vi x8), some (vi x9), some (vi i)])
      (fun i μ => ∃ H : DD, μ = (H, rho n1 W) ∧ Fr myF G H ∧ 0 ≤ i ∧ i ≤ x7 * x9 ∧ mwv H a2 = wExt v i wa (stAl x7 x6) (stAc x7 a2 x8) (stSt x7 a2) ∧ H 152 33 = wa)
      (fun i => (x7 * x9 - i).toNat) ?_ 0 _ ⟨G, rfl, Fr.refl, by decide, hm0, by rw [wExt_0, c1]; exact hv.1, by rw [c2]; exact hv.2.1⟩
    rintro i μ ⟨H, rfl, hH, i0, i1, hh, h6⟩ ih
    have k4 : H 152 32 = wTicks v + i := congrArg (fun q : Wv => q.1) hh
    have T' := myt hH T
    have q0 : 0 ≤ i / x7 := Int.ediv_nonneg i0 (by omega)
    have q1 : i / x7 ≤ i := Int.ediv_le_self _ i0
    have m0 : 0 ≤ i % x7 := Int.emod_nonneg _ (by omega)
    have m1 : i % x7 < x7 := Int.emod_lt_of_pos _ (by omega)
    have e1 : w32 (x7.tdiv 2) = x7 / 2 := by rw [Int.tdiv_eq_ediv_of_nonneg (by omega), w32_id (by omega) (by omega)]
    have e2 : i.tmod x7 = i % x7 := Int.tmod_eq_emod_of_nonneg i0
    have e3 : w32 (a2 + w32 (i.tdiv x7)) = a2 + i / x7 := by rw [Int.tdiv_eq_ediv_of_nonneg i0, w32_id (x := i / x7) (by omega) (by omega), w32_id (by omega) (by omega)]
    have e4 : (a2 + i / x7).tmod 2 = (a2 + i / x7) % 2 := Int.tmod_eq_emod_of_nonneg (by omega)
    have hlt : ¬ x7 * x9 ≤ i → D 152 32 + i < 1000 := fun z => by omega
    have next : ¬ x7 * x9 ≤ i → ∀ al ac, al = stAl x7 x6 i → ac = stAc x7 a2 x8 i → ∀ m, (∃ D', m = (D', rho n1 W) ∧ Fr myF H D' ∧ mwv D' a2 = wPut (mwv H a2) al ac (H 152 33) (a2 + i / x7) ∧ D' 152 33 = H 152 33 ∧ D' 152 32 = H 152 32 + 1) → ∀ z, z = w32 (i + 1) → Wp (d + 4) 0 0 mX10_walk 173 [some (vr 152), some (vi a1), some (vi a2), some (vi a3), some (vi a4), some (vi x6), some (vi x7), some (vi x8), some (vi x9), some (vi z)] [] m Q := by
      rintro hi al ac eal eac m ⟨H2, rfl, k1, k2, k3, k44⟩ z rfl
      rw [w32_id (by omega) (by omega)]
      refine ih (i + 1) _ ⟨H2, rfl, hH.trans k1, by omega, by omega, ?_, by rw [k3, h6]⟩ (by omega)
      rw [k2, hh, h6, eal, eac]
      exact wExt_s (al := stAl x7 x6) (ac := stAc x7 a2 x8) (st := stSt x7 a2) i0
    refine sg_X10_walk_173 ⟨fun c v1 e => ?_, fun c => ⟨rfl, cP (C_mfine T') ?_⟩⟩
    · rw [em] at c
      have ei : i = x7 * x9 := by omega
      rw [w32_id (by omega) (by omega)] at e
      subst e
      refine k H (a2 + x9) a4 ((mwF_x f).trans (mwF_y hH)) (mroom_yes hr.1 (by rw [← g7, ← g9]; omega) T' (by omega) ?_ h6 (by omega))
      rw [← g6, ← g7, ← g8, ← g9]
      unfold wSteps'
      rw [ks, ← ei, ← hh]
      rfl
    · rw [em] at c
      rw [bi_1 hr.1]
      rw [e1, e2, e3, e4]
      refine yE ⟨by omega, fun c5 => ⟨by omega, fun c6 => ⟨by omega, rfl, cV (C_lay (D := H) (s := a2) (by omega) (by omega)) (next c _ _ ?_ ?_)⟩, fun c6 => ⟨by omega, rfl, cV (C_lay (D := H) (s := a2) (by omega) (by omega)) (next c _ _ ?_ ?_)⟩⟩,
        fun c5 => ⟨by omega, fun c6 => ⟨by omega, rfl, cV (C_lay (D := H) (s := a2) (by omega) (by omega)) (next c _ _ ?_ ?_)⟩, fun c6 => ⟨by omega, rfl, cV (C_lay (D := H) (s := a2) (by omega) (by omega)) (next c _ _ ?_ ?_)⟩⟩⟩
      · unfold stAl
        rw [if_neg (by omega)]
      · unfold stAc
        rw [if_neg c6]
      · unfold stAl
        rw [if_neg (by omega)]
      · unfold stAc
        rw [if_pos c6]
      · unfold stAl
        rw [if_pos (by omega)]
      · unfold stAc
        rw [if_neg c6]
      · unfold stAl
        rw [if_pos (by omega)]
      · unfold stAc
        rw [if_pos c6]
  · have N := fun v' => mroom_no (v' := v') hb f (fun _ => hv) T hr hpos
    have nf : ¬ (if pz.2 = -1 ∧ ¬ D 152 32 + x7 * x9 ≤ 1000 then (pz.1, pz.1 - 1) else pz).2 = -1 := by
      by_cases g : pz.2 = -1
      · rw [if_pos ⟨g, fun z => hr ⟨g, z⟩⟩]
        have := hpos g
        show ¬ pz.1 - 1 = -1
        omega
      · rw [if_neg (fun z => g z.1)]
        exact g
    have N2 : ∀ s, MwR G W t en (zroom (y7 * y9) pz v (wSteps' v wa y6 y7 y8 y9) wa) s := by
      intro s
      have hN := N (wSteps' v wa y6 y7 y8 y9)
      by_cases z : pz.2 = -1
      · obtain ⟨⟨-, g7, -, g9⟩, -, -⟩ := good z
        rw [g7, g9] at hN
        exact ⟨hN.1.1, hN.1.2.1, fun y => absurd y hN.2⟩
      · unfold zroom at hN ⊢
        rw [if_neg z] at hN ⊢
        exact ⟨hN.1.1, hN.1.2.1, fun y => absurd y hN.2⟩
    refine sg_X10_walk_173 ⟨fun c v1 e => k G v1 a4 (mwF_x f) (N2 _), fun c => ⟨rfl, cP (C_mfine T) ?_⟩⟩
    rw [bi_0 nf]
    exact nE (fun v2 e => k G v2 a4 (mwF_x f) (N2 _))
theorem C_mfault0 {pl : Int} (h : D 152 21 = -1) : Cl (d + 1) 0 0 mX10_fault [vr 152, vi pl] (D, rho n1 W) (KV (fun m => m = (wr D 152 21 pl, rho n1 W))) := by
  have fine : Cl d 0 0 mX10_fine [vr 152] (D, rho n1 W) (KI (fun x m => x = 1 ∧ m = (D, rho n1 W))) := by
    refine Cl_of mb_X10_fine (Nat.le_of_ble_eq_true rfl) (sg_X10_fine_0 ⟨rfl, fun c => absurd h c, fun c => ⟨_, rfl, rfl, rfl⟩⟩)
  exact Cl_of mb_X10_fault (Nat.le_of_ble_eq_true rfl) (sg_X10_fault_0 ⟨rfl, cP fine (yE ⟨rfl, fun m2 e2 => ⟨rfl, e2⟩⟩)⟩)
theorem m_part {Q : Option (Option AV) → Mem → Prop} {a1 a2 a3 : Int} (h3 : ¬ a3 = 0) (hg : p.2 = -1) (e60 : en ≤ 60) (R : MwR D W t en (p, v, wa) a2) (k : W434 d n1 W a1 a3 Q D t en (zpart t en (p, v, wa))) :
    Wp (d + 4) 0 0 mX10_walk 61 [some (vr 152), some (vi a1), some (vi a2), some (vi a3), none, none, none, none, none, none] [] (D, rho n1 W) Q := by
  obtain ⟨hT, hb, hv⟩ := R
  have hv := hv hg
  have hT : MxR D W t en p := hT
  have hv : mwv D a2 = v ∧ D 152 33 = wa ∧ 0 ≤ a2 ∧ a2 ≤ D 152 32 := hv
  have hp := hT.at hg
  have eat := (hT.2.2.2.1 hg).1
  have w1 : w32 (D 152 20 + 1) = p.1 + 1 := by rw [eat]; exact w32_id (by omega) (by omega)
  have w0' : w32 (p.1 + 1 - 1) = p.1 := by rw [w32_id (by omega) (by omega)]; omega
  refine sg_X10_walk_61 ⟨fun c => absurd c h3, fun _ => ⟨rfl, cP (C_mhere hT) ⟨rfl, fun m4 e4 => ?_⟩⟩⟩
  rw [show mD (D, rho n1 W) 152 20 = D 152 20 from rfl, w1] at e4
  have e4 : m4 = (wr D 152 20 (p.1 + 1), rho n1 W) := e4
  subst e4
  rw [eat]
  have f0 : Fr mxF D (wr D 152 20 (p.1 + 1)) := Fr.refl.wr ⟨rfl, Or.inl rfl⟩
  have T0 : 0 ≤ pk t en p.1 → MxR (wr D 152 20 (p.1 + 1)) W t en (p.1 + 1, -1) := fun h => by
    have := mx_step hT hg (pkc_lt (t := t) rfl h).2
    rw [eat] at this
    exact this
  have e32 : ∀ {G : DD}, Fr mxF D G → mD (G, rho n1 W) 152 32 = D 152 32 := fun f => (mxw (s := 0) f).2.2
  refine ⟨fun n103 => ⟨fun n115 => ⟨fun n106 => ⟨fun n119 => ?_, fun h119 => ?_⟩, fun h106 => ?_⟩, fun h115 => ?_⟩, fun h103 => ?_⟩
  · rw [show mD (wr D 152 20 (p.1 + 1), rho n1 W) 152 20 = p.1 + 1 from (by show wr D 152 20 (p.1 + 1) 152 20 = p.1 + 1; rw [wr_at]), w0']
    refine cV (C_mfault0 (by rw [wr_j (by decide), hT.2.1, hg])) ?_
    rintro m rfl
    have f1 : Fr mxF D (wr (wr D 152 20 (p.1 + 1)) 152 21 p.1) := f0.wr ⟨rfl, Or.inr rfl⟩
    refine k _ a2 _ (mwF_x f1) ?_
    obtain ⟨c1, c2, c3⟩ := mxw (s := a2) f1
    unfold zpart
    rw [if_neg n103, if_neg n115, if_neg n106, if_neg n119]
    have hno : ¬ p.1 = -1 := by omega
    obtain ⟨h1, h2, h3, h4, h5, h6, h7, h8, h9⟩ := hT
    have h8' := h8
    unfold mtId at h8
    refine ⟨⟨by rw [wr_j (by decide), wr_j (by decide), wr_j (by decide), wr_j (by decide)]; exact h1, wr_at, by rw [wr_j (by decide), wr_at]; omega, fun z => absurd z hno, by show -1 ≤ p.1; omega, fun k a b => by rw [wr_o (by omega), wr_o (by omega)]; exact h6 k a b, h7, h8', h9⟩, by rw [c3]; exact hb, fun z => absurd z hno⟩
  · have T0 := T0 (by omega)
    refine cI (C_mnumber (d := d + 1) T0) ?_
    rintro x m ⟨G, rfl, f1, T1, q1, b1, -⟩
    refine ⟨rfl, fun m7 e7 => ?_⟩
    have e7 : m7 = (wr G 152 33 x, rho n1 W) := e7
    subst e7
    have fx := f0.trans f1
    obtain ⟨c1, c2, c3⟩ := mxw (s := a2) fx
    have fw : Fr (fun q j => q = 152 ∧ j = 33) G (wr G 152 33 x) := Fr.refl.wr ⟨rfl, rfl⟩
    have h8 := T1.2.2.2.2.2.2.2.1
    refine k _ a2 _ ((mwF_x fx).trans (fw.mono (fun q j z => Or.inl ⟨z.1, by omega⟩))) ?_
    unfold zpart
    rw [if_neg n103, if_neg n115, if_neg n106, if_pos h119]
    refine ⟨T1.fr fw (fun j a b => by omega) (fun j => by unfold mtId at h8; omega), by rw [fw 152 32 (by omega), c3]; exact hb, fun z => ⟨?_, ?_, hv.2.2.1, by rw [fw 152 32 (by omega), c3]; exact hv.2.2.2⟩⟩
    · rw [mwv_fr fw (by omega) (fun q j a b => by omega), c1]
      exact hv.1
    · rw [wr_at]
      exact (q1 z).1
  · have T0 := T0 (by omega)
    refine cI (C_mpasses (d := d + 2) (by decide) T0) ?_
    rintro x3 m ⟨G1, rfl, f1, T1, e3⟩
    refine ⟨rfl, cI (C_mnumber (d := d + 1) T1) ?_⟩
    rintro x4 m ⟨G2, rfl, f2, T2, q2, b2, -⟩
    have fx := (f0.trans f1).trans f2
    have k' : W434 d n1 W a1 a3 Q D t en (zwj t en (p.1 + 1, -1) v wa) := by
      unfold zpart at k
      rw [if_neg n103, if_neg n115, if_pos h106] at k
      exact k
    have hq : (znumP t en 0 200 (zskipP t en 45 (p.1 + 1, -1))).2 = -1 → x4 = znumV t en 0 200 (zskipP t en 45 (p.1 + 1, -1)) ∧ 1 ≤ (znumP t en 0 200 (zskipP t en 45 (p.1 + 1, -1))).1 := fun z => ⟨(q2 z).1, by rw [← (T2.2.2.2.1 z).1]; exact (q2 z).2.2⟩
    have wt2 : w32 (D 152 32 + 1) = D 152 32 + 1 := w32_id (by omega) (by omega)
    rw [e32 fx, wt2]
    refine ⟨rfl, fun c => m_jerk (p := (p.1 + 1, -1)) hb rfl e3 hv fx (by rw [if_neg (fun z => z.2 c)]; exact T2) hq k', fun c => ?_⟩
    have w20 : w32 (G2 152 20 - 1) = G2 152 20 - 1 := by
      have := T2.2.2.1
      exact w32_id (by omega) (by omega)
    rw [show mD (G2, rho n1 W) 152 20 = G2 152 20 from rfl, w20]
    refine cV (C_mfault (d := d + 2) (pl := G2 152 20 - 1) (fun z => by have := (q2 z).2.2; omega) T2) ?_
    rintro m ⟨G3, rfl, f3, T3⟩
    refine m_jerk (p := (p.1 + 1, -1)) hb rfl e3 hv (fx.trans f3) ?_ hq k'
    by_cases z : (znumP t en 0 200 (zskipP t en 45 (p.1 + 1, -1))).2 = -1
    · rw [if_pos z, (T2.2.2.2.1 z).1] at T3
      rw [if_pos ⟨z, c⟩]
      exact T3
    · rw [if_neg z] at T3
      rw [if_neg (fun y => z y.1)]
      exact T3
  · have T0 := T0 (by omega)
    refine cI (C_mnumber (d := d + 1) T0) ?_
    rintro x5 m ⟨G2, rfl, f2, T2, q2, b2, -⟩
    have fx := f0.trans f2
    have k' : W434 d n1 W a1 a3 Q D t en (zws t en (p.1 + 1, -1) v wa) := by
      unfold zpart at k
      rw [if_neg n103, if_pos h115] at k
      exact k
    have hq : (znumP t en 1 99 (p.1 + 1, -1)).2 = -1 → x5 = znumV t en 1 99 (p.1 + 1, -1) ∧ 1 ≤ (znumP t en 1 99 (p.1 + 1, -1)).1 := fun z => ⟨(q2 z).1, by rw [← (T2.2.2.2.1 z).1]; exact (q2 z).2.2⟩
    have wt2 : w32 (D 152 32 + x5) = D 152 32 + x5 := w32_id (by omega) (by omega)
    rw [e32 fx, wt2]
    refine ⟨rfl, fun c => m_stand (p := (p.1 + 1, -1)) hb rfl hv fx (by rw [if_neg (fun z => z.2 c)]; exact T2) b2 hq k', fun c => ?_⟩
    have w20 : w32 (G2 152 20 - 1) = G2 152 20 - 1 := by
      have := T2.2.2.1
      exact w32_id (by omega) (by omega)
    rw [show mD (G2, rho n1 W) 152 20 = G2 152 20 from rfl, w20]
    refine cV (C_mfault (d := d + 2) (pl := G2 152 20 - 1) (fun z => by have := (q2 z).2.2; omega) T2) ?_
    rintro m ⟨G3, rfl, f3, T3⟩
    refine m_stand (p := (p.1 + 1, -1)) hb rfl hv (fx.trans f3) ?_ b2 hq k'
    by_cases z : (znumP t en 1 99 (p.1 + 1, -1)).2 = -1
    · rw [if_pos z, (T2.2.2.2.1 z).1] at T3
      rw [if_pos ⟨z, c⟩]
      exact T3
    · rw [if_neg z] at T3
      rw [if_neg (fun y => z y.1)]
      exact T3
  · have T0 := T0 (by omega)
    have k' : W434 d n1 W a1 a3 Q D t en (zwg t en (p.1 + 1, -1) v wa) := by
      unfold zpart at k
      rw [if_pos h103] at k
      exact k
    unfold zwg at k'
    refine cI (C_mnumber (d := d + 1) T0) ?_
    rintro x1 m ⟨G1, rfl, f1, T1, q1, b1, -⟩
    refine ⟨rfl, cV (C_mneed (d := d + 1) (by decide) T1) ?_⟩
    rintro m ⟨G2, rfl, f2, T2⟩
    have T2 : MxR G2 W t en (gpA t en (p.1 + 1, -1)) := T2
    refine ⟨rfl, cI (C_mnumber (d := d + 1) T2) ?_⟩
    rintro x2 m ⟨G3, rfl, f3, T3, q3, b3, -⟩
    refine ⟨rfl, cV (C_mneed (d := d + 1) (by decide) T3) ?_⟩
    rintro m ⟨G4, rfl, f4, T4⟩
    have T4 : MxR G4 W t en (gpB t en (p.1 + 1, -1)) := T4
    refine ⟨rfl, cI (C_mnumber (d := d + 1) T4) ?_⟩
    rintro x3 m ⟨G5, rfl, f5, T5, q5, b5, -⟩
    refine ⟨rfl, cV (C_mneed (d := d + 1) (by decide) T5) ?_⟩
    rintro m ⟨G6, rfl, f6, T6⟩
    have T6 : MxR G6 W t en (gpC t en (p.1 + 1, -1)) := T6
    refine ⟨rfl, cI (C_mnumber (d := d + 1) T6) ?_⟩
    rintro x4 m ⟨G7, rfl, f7, T7, q7, b7, -⟩
    have fx := ((((((f0.trans f1).trans f2).trans f3).trans f4).trans f5).trans f6).trans f7
    have hpos : (znumP t en 1 50 (gpC t en (p.1 + 1, -1))).2 = -1 → 1 ≤ (znumP t en 1 50 (gpC t en (p.1 + 1, -1))).1 := fun z => by rw [← (T7.2.2.2.1 z).1]; exact (q7 z).2.2
    have good : (znumP t en 1 50 (gpC t en (p.1 + 1, -1))).2 = -1 → (x1 = znumV t en 0 200 (p.1 + 1, -1) ∧ x2 = znumV t en 2 40 (gpA t en (p.1 + 1, -1)) ∧ x3 = znumV t en 0 200 (gpB t en (p.1 + 1, -1)) ∧ x4 = znumV t en 1 50 (gpC t en (p.1 + 1, -1))) ∧ (2 ≤ x2 ∧ x2 ≤ 40) ∧ (1 ≤ x4 ∧ x4 ≤ 50) := fun z => by
      obtain ⟨y4, z4, -⟩ := q7 z
      have z5 := zneed_g z4
      obtain ⟨y3, z6, -⟩ := q5 z5
      have z7 := zneed_g z6
      obtain ⟨y2, z8, -⟩ := q3 z7
      have z9 := zneed_g z8
      obtain ⟨y1, -, -⟩ := q1 z9
      have r2 := znumV_rng z7 (T2.at z8)
      have r4 := znumV_rng z (T6.at z4)
      rw [← y2] at r2
      rw [← y4] at r4
      exact ⟨⟨y1, y2, y3, y4⟩, r2, r4⟩
    have hm0 : 0 ≤ x2 * x4 := Int.mul_nonneg b3.1 b7.1
    have hm1 : x2 * x4 ≤ 999 * 999 := Int.le_trans (Int.mul_le_mul_of_nonneg_right b3.2 b7.1) (Int.mul_le_mul_of_nonneg_left b7.2 (by decide))
    have em : w32 (x2 * x4) = x2 * x4 := w32_id (by omega) (by omega)
    have wt2 : w32 (D 152 32 + x2 * x4) = D 152 32 + x2 * x4 := w32_id (by omega) (by omega)
    rw [e32 fx, em, wt2]
    refine ⟨rfl, fun c => m_steps hb hv fx (by rw [if_neg (fun z => z.2 c)]; exact T7) b3 b7 good hpos k', fun c => ?_⟩
    have w20 : w32 (G7 152 20 - 1) = G7 152 20 - 1 := by
      have := T7.2.2.1
      exact w32_id (by omega) (by omega)
    rw [show mD (G7, rho n1 W) 152 20 = G7 152 20 from rfl, w20]
    refine cV (C_mfault (d := d + 2) (pl := G7 152 20 - 1) (fun z => by have := (q7 z).2.2; omega) T7) ?_
    rintro m ⟨G8, rfl, f8, T8⟩
    refine m_steps hb hv (fx.trans f8) ?_ b3 b7 good hpos k'
    by_cases z : (znumP t en 1 50 (gpC t en (p.1 + 1, -1))).2 = -1
    · rw [if_pos z, (T7.2.2.2.1 z).1] at T8
      rw [if_pos ⟨z, c⟩]
      exact T8
    · rw [if_neg z] at T8
      rw [if_neg (fun y => z y.1)]
      exact T8
end MWK2
